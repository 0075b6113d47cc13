theorem dL_0 : decode code 0 = .ok (.new 7, 3) := by decide +kernel
theorem dL_3 : decode code 3 = .ok (.dup, 1) := by decide +kernel
theorem dL_4 : decode code 4 = .ok (.invokespecial 9, 3) := by decide +kernel
theorem dL_7 : decode code 7 = .ok (.astore_n 1, 1) := by decide +kernel
theorem dL_8 : decode code 8 = .ok (.new 10, 3) := by decide +kernel
theorem dL_11 : decode code 11 = .ok (.dup, 1) := by decide +kernel
theorem dL_12 : decode code 12 = .ok (.invokespecial 12, 3) := by decide +kernel
theorem dL_15 : decode code 15 = .ok (.astore_n 2, 1) := by decide +kernel
theorem dL_16 : decode code 16 = .ok (.iconst 0, 1) := by decide +kernel
theorem dL_17 : decode code 17 = .ok (.istore_n 3, 1) := by decide +kernel
theorem dL_18 : decode code 18 = .ok (.iload_n 3, 1) := by decide +kernel
theorem dL_19 : decode code 19 = .ok (.aload_n 0, 1) := by decide +kernel
theorem dL_20 : decode code 20 = .ok (.arraylength, 1) := by decide +kernel
theorem dL_21 : decode code 21 = .ok (.bipush 6, 2) := by decide +kernel
theorem dL_23 : decode code 23 = .ok (.isub, 1) := by decide +kernel
theorem dL_24 : decode code 24 = .ok (.if_icmp .gt 1420, 3) := by decide +kernel
theorem dL_27 : decode code 27 = .ok (.aload_n 0, 1) := by decide +kernel
theorem dL_28 : decode code 28 = .ok (.iload_n 3, 1) := by decide +kernel
theorem dL_29 : decode code 29 = .ok (.iaload, 1) := by decide +kernel
theorem dL_30 : decode code 30 = .ok (.bipush 63, 2) := by decide +kernel
theorem dL_32 : decode code 32 = .ok (.iand, 1) := by decide +kernel
theorem dL_33 : decode code 33 = .ok (.tableswitch 1405 0 39 #[175, 198, 241, 284, 317, 340, 363, 386, 409, 432, 445, 479, 492, 516, 550, 594, 618, 662, 696, 740, 773, 806, 849, 882, 916, 939, 962, 975, 988, 1001, 1014, 1037, 1080, 1103, 1136, 1179, 1252, 1286, 1349, 1382], 175) := by decide +kernel
theorem dL_208 : decode code 208 = .ok (.aload_n 1, 1) := by decide +kernel
theorem dL_209 : decode code 209 = .ok (.aload_n 0, 1) := by decide +kernel
theorem dL_210 : decode code 210 = .ok (.iload_n 3, 1) := by decide +kernel
theorem dL_211 : decode code 211 = .ok (.iconst 1, 1) := by decide +kernel
theorem dL_212 : decode code 212 = .ok (.iadd, 1) := by decide +kernel
theorem dL_213 : decode code 213 = .ok (.iaload, 1) := by decide +kernel
theorem dL_214 : decode code 214 = .ok (.invokevirtual 13, 3) := by decide +kernel
theorem dL_217 : decode code 217 = .ok (.aload_n 2, 1) := by decide +kernel
theorem dL_218 : decode code 218 = .ok (.aload_n 0, 1) := by decide +kernel
theorem dL_219 : decode code 219 = .ok (.iload_n 3, 1) := by decide +kernel
theorem dL_220 : decode code 220 = .ok (.iconst 1, 1) := by decide +kernel
theorem dL_221 : decode code 221 = .ok (.iadd, 1) := by decide +kernel
theorem dL_222 : decode code 222 = .ok (.iaload, 1) := by decide +kernel
theorem dL_223 : decode code 223 = .ok (.invokevirtual 17, 3) := by decide +kernel
theorem dL_226 : decode code 226 = .ok (.if_icmp .eq 1212, 3) := by decide +kernel
theorem dL_229 : decode code 229 = .ok (.iconst 0, 1) := by decide +kernel
theorem dL_230 : decode code 230 = .ok (.ireturn, 1) := by decide +kernel
theorem dL_231 : decode code 231 = .ok (.aload_n 1, 1) := by decide +kernel
theorem dL_232 : decode code 232 = .ok (.aload_n 0, 1) := by decide +kernel
theorem dL_233 : decode code 233 = .ok (.iload_n 3, 1) := by decide +kernel
theorem dL_234 : decode code 234 = .ok (.iconst 1, 1) := by decide +kernel
theorem dL_235 : decode code 235 = .ok (.iadd, 1) := by decide +kernel
theorem dL_236 : decode code 236 = .ok (.iaload, 1) := by decide +kernel
theorem dL_237 : decode code 237 = .ok (.aload_n 0, 1) := by decide +kernel
theorem dL_238 : decode code 238 = .ok (.iload_n 3, 1) := by decide +kernel
theorem dL_239 : decode code 239 = .ok (.iconst 2, 1) := by decide +kernel
theorem dL_240 : decode code 240 = .ok (.iadd, 1) := by decide +kernel
theorem dL_241 : decode code 241 = .ok (.iaload, 1) := by decide +kernel
theorem dL_242 : decode code 242 = .ok (.aload_n 0, 1) := by decide +kernel
theorem dL_243 : decode code 243 = .ok (.iload_n 3, 1) := by decide +kernel
theorem dL_244 : decode code 244 = .ok (.iconst 3, 1) := by decide +kernel
theorem dL_245 : decode code 245 = .ok (.iadd, 1) := by decide +kernel
theorem dL_246 : decode code 246 = .ok (.iaload, 1) := by decide +kernel
theorem dL_247 : decode code 247 = .ok (.invokevirtual 18, 3) := by decide +kernel
theorem dL_250 : decode code 250 = .ok (.aload_n 2, 1) := by decide +kernel
theorem dL_251 : decode code 251 = .ok (.aload_n 0, 1) := by decide +kernel
theorem dL_252 : decode code 252 = .ok (.iload_n 3, 1) := by decide +kernel
theorem dL_253 : decode code 253 = .ok (.iconst 1, 1) := by decide +kernel
theorem dL_254 : decode code 254 = .ok (.iadd, 1) := by decide +kernel
theorem dL_255 : decode code 255 = .ok (.iaload, 1) := by decide +kernel
theorem dL_256 : decode code 256 = .ok (.aload_n 0, 1) := by decide +kernel
theorem dL_257 : decode code 257 = .ok (.iload_n 3, 1) := by decide +kernel
theorem dL_258 : decode code 258 = .ok (.iconst 2, 1) := by decide +kernel
theorem dL_259 : decode code 259 = .ok (.iadd, 1) := by decide +kernel
theorem dL_260 : decode code 260 = .ok (.iaload, 1) := by decide +kernel
theorem dL_261 : decode code 261 = .ok (.aload_n 0, 1) := by decide +kernel
theorem dL_262 : decode code 262 = .ok (.iload_n 3, 1) := by decide +kernel
theorem dL_263 : decode code 263 = .ok (.iconst 3, 1) := by decide +kernel
theorem dL_264 : decode code 264 = .ok (.iadd, 1) := by decide +kernel
theorem dL_265 : decode code 265 = .ok (.iaload, 1) := by decide +kernel
theorem dL_266 : decode code 266 = .ok (.invokevirtual 22, 3) := by decide +kernel
theorem dL_269 : decode code 269 = .ok (.if_icmp .eq 1169, 3) := by decide +kernel
theorem dL_272 : decode code 272 = .ok (.iconst 0, 1) := by decide +kernel
theorem dL_273 : decode code 273 = .ok (.ireturn, 1) := by decide +kernel
theorem dL_274 : decode code 274 = .ok (.aload_n 1, 1) := by decide +kernel
theorem dL_275 : decode code 275 = .ok (.aload_n 0, 1) := by decide +kernel
theorem dL_276 : decode code 276 = .ok (.iload_n 3, 1) := by decide +kernel
theorem dL_277 : decode code 277 = .ok (.iconst 1, 1) := by decide +kernel
theorem dL_278 : decode code 278 = .ok (.iadd, 1) := by decide +kernel
theorem dL_279 : decode code 279 = .ok (.iaload, 1) := by decide +kernel
theorem dL_280 : decode code 280 = .ok (.aload_n 0, 1) := by decide +kernel
theorem dL_281 : decode code 281 = .ok (.iload_n 3, 1) := by decide +kernel
theorem dL_282 : decode code 282 = .ok (.iconst 2, 1) := by decide +kernel
theorem dL_283 : decode code 283 = .ok (.iadd, 1) := by decide +kernel
theorem dL_284 : decode code 284 = .ok (.iaload, 1) := by decide +kernel
theorem dL_285 : decode code 285 = .ok (.aload_n 0, 1) := by decide +kernel
theorem dL_286 : decode code 286 = .ok (.iload_n 3, 1) := by decide +kernel
theorem dL_287 : decode code 287 = .ok (.iconst 3, 1) := by decide +kernel
theorem dL_288 : decode code 288 = .ok (.iadd, 1) := by decide +kernel
theorem dL_289 : decode code 289 = .ok (.iaload, 1) := by decide +kernel
theorem dL_290 : decode code 290 = .ok (.invokevirtual 23, 3) := by decide +kernel
theorem dL_293 : decode code 293 = .ok (.aload_n 2, 1) := by decide +kernel
theorem dL_294 : decode code 294 = .ok (.aload_n 0, 1) := by decide +kernel
theorem dL_295 : decode code 295 = .ok (.iload_n 3, 1) := by decide +kernel
theorem dL_296 : decode code 296 = .ok (.iconst 1, 1) := by decide +kernel
theorem dL_297 : decode code 297 = .ok (.iadd, 1) := by decide +kernel
theorem dL_298 : decode code 298 = .ok (.iaload, 1) := by decide +kernel
theorem dL_299 : decode code 299 = .ok (.aload_n 0, 1) := by decide +kernel
theorem dL_300 : decode code 300 = .ok (.iload_n 3, 1) := by decide +kernel
theorem dL_301 : decode code 301 = .ok (.iconst 2, 1) := by decide +kernel
theorem dL_302 : decode code 302 = .ok (.iadd, 1) := by decide +kernel
theorem dL_303 : decode code 303 = .ok (.iaload, 1) := by decide +kernel
theorem dL_304 : decode code 304 = .ok (.aload_n 0, 1) := by decide +kernel
theorem dL_305 : decode code 305 = .ok (.iload_n 3, 1) := by decide +kernel
theorem dL_306 : decode code 306 = .ok (.iconst 3, 1) := by decide +kernel
theorem dL_307 : decode code 307 = .ok (.iadd, 1) := by decide +kernel
theorem dL_308 : decode code 308 = .ok (.iaload, 1) := by decide +kernel
theorem dL_309 : decode code 309 = .ok (.invokevirtual 26, 3) := by decide +kernel
theorem dL_312 : decode code 312 = .ok (.if_icmp .eq 1126, 3) := by decide +kernel
theorem dL_315 : decode code 315 = .ok (.iconst 0, 1) := by decide +kernel
theorem dL_316 : decode code 316 = .ok (.ireturn, 1) := by decide +kernel
theorem dL_317 : decode code 317 = .ok (.aload_n 1, 1) := by decide +kernel
theorem dL_318 : decode code 318 = .ok (.aload_n 0, 1) := by decide +kernel
theorem dL_319 : decode code 319 = .ok (.iload_n 3, 1) := by decide +kernel
theorem dL_320 : decode code 320 = .ok (.iconst 1, 1) := by decide +kernel
theorem dL_321 : decode code 321 = .ok (.iadd, 1) := by decide +kernel
theorem dL_322 : decode code 322 = .ok (.iaload, 1) := by decide +kernel
theorem dL_323 : decode code 323 = .ok (.aload_n 0, 1) := by decide +kernel
theorem dL_324 : decode code 324 = .ok (.iload_n 3, 1) := by decide +kernel
theorem dL_325 : decode code 325 = .ok (.iconst 2, 1) := by decide +kernel
theorem dL_326 : decode code 326 = .ok (.iadd, 1) := by decide +kernel
theorem dL_327 : decode code 327 = .ok (.iaload, 1) := by decide +kernel
theorem dL_328 : decode code 328 = .ok (.invokevirtual 27, 3) := by decide +kernel
theorem dL_331 : decode code 331 = .ok (.aload_n 2, 1) := by decide +kernel
theorem dL_332 : decode code 332 = .ok (.aload_n 0, 1) := by decide +kernel
theorem dL_333 : decode code 333 = .ok (.iload_n 3, 1) := by decide +kernel
theorem dL_334 : decode code 334 = .ok (.iconst 1, 1) := by decide +kernel
theorem dL_335 : decode code 335 = .ok (.iadd, 1) := by decide +kernel
theorem dL_336 : decode code 336 = .ok (.iaload, 1) := by decide +kernel
theorem dL_337 : decode code 337 = .ok (.aload_n 0, 1) := by decide +kernel
theorem dL_338 : decode code 338 = .ok (.iload_n 3, 1) := by decide +kernel
theorem dL_339 : decode code 339 = .ok (.iconst 2, 1) := by decide +kernel
theorem dL_340 : decode code 340 = .ok (.iadd, 1) := by decide +kernel
theorem dL_341 : decode code 341 = .ok (.iaload, 1) := by decide +kernel
theorem dL_342 : decode code 342 = .ok (.invokevirtual 31, 3) := by decide +kernel
theorem dL_345 : decode code 345 = .ok (.if_icmp .eq 1093, 3) := by decide +kernel
theorem dL_348 : decode code 348 = .ok (.iconst 0, 1) := by decide +kernel
theorem dL_349 : decode code 349 = .ok (.ireturn, 1) := by decide +kernel
theorem dL_350 : decode code 350 = .ok (.aload_n 1, 1) := by decide +kernel
theorem dL_351 : decode code 351 = .ok (.aload_n 0, 1) := by decide +kernel
theorem dL_352 : decode code 352 = .ok (.iload_n 3, 1) := by decide +kernel
theorem dL_353 : decode code 353 = .ok (.iconst 1, 1) := by decide +kernel
theorem dL_354 : decode code 354 = .ok (.iadd, 1) := by decide +kernel
theorem dL_355 : decode code 355 = .ok (.iaload, 1) := by decide +kernel
theorem dL_356 : decode code 356 = .ok (.invokevirtual 32, 3) := by decide +kernel
theorem dL_359 : decode code 359 = .ok (.aload_n 2, 1) := by decide +kernel
theorem dL_360 : decode code 360 = .ok (.aload_n 0, 1) := by decide +kernel
theorem dL_361 : decode code 361 = .ok (.iload_n 3, 1) := by decide +kernel
theorem dL_362 : decode code 362 = .ok (.iconst 1, 1) := by decide +kernel
theorem dL_363 : decode code 363 = .ok (.iadd, 1) := by decide +kernel
theorem dL_364 : decode code 364 = .ok (.iaload, 1) := by decide +kernel
theorem dL_365 : decode code 365 = .ok (.invokevirtual 35, 3) := by decide +kernel
theorem dL_368 : decode code 368 = .ok (.if_icmp .eq 1070, 3) := by decide +kernel
theorem dL_371 : decode code 371 = .ok (.iconst 0, 1) := by decide +kernel
theorem dL_372 : decode code 372 = .ok (.ireturn, 1) := by decide +kernel
theorem dL_373 : decode code 373 = .ok (.aload_n 1, 1) := by decide +kernel
theorem dL_374 : decode code 374 = .ok (.aload_n 0, 1) := by decide +kernel
theorem dL_375 : decode code 375 = .ok (.iload_n 3, 1) := by decide +kernel
theorem dL_376 : decode code 376 = .ok (.iconst 1, 1) := by decide +kernel
theorem dL_377 : decode code 377 = .ok (.iadd, 1) := by decide +kernel
theorem dL_378 : decode code 378 = .ok (.iaload, 1) := by decide +kernel
theorem dL_379 : decode code 379 = .ok (.invokevirtual 36, 3) := by decide +kernel
theorem dL_382 : decode code 382 = .ok (.aload_n 2, 1) := by decide +kernel
theorem dL_383 : decode code 383 = .ok (.aload_n 0, 1) := by decide +kernel
theorem dL_384 : decode code 384 = .ok (.iload_n 3, 1) := by decide +kernel
theorem dL_385 : decode code 385 = .ok (.iconst 1, 1) := by decide +kernel
theorem dL_386 : decode code 386 = .ok (.iadd, 1) := by decide +kernel
theorem dL_387 : decode code 387 = .ok (.iaload, 1) := by decide +kernel
theorem dL_388 : decode code 388 = .ok (.invokevirtual 39, 3) := by decide +kernel
theorem dL_391 : decode code 391 = .ok (.if_icmp .eq 1047, 3) := by decide +kernel
theorem dL_394 : decode code 394 = .ok (.iconst 0, 1) := by decide +kernel
theorem dL_395 : decode code 395 = .ok (.ireturn, 1) := by decide +kernel
theorem dL_396 : decode code 396 = .ok (.aload_n 1, 1) := by decide +kernel
theorem dL_397 : decode code 397 = .ok (.aload_n 0, 1) := by decide +kernel
theorem dL_398 : decode code 398 = .ok (.iload_n 3, 1) := by decide +kernel
theorem dL_399 : decode code 399 = .ok (.iconst 1, 1) := by decide +kernel
theorem dL_400 : decode code 400 = .ok (.iadd, 1) := by decide +kernel
theorem dL_401 : decode code 401 = .ok (.iaload, 1) := by decide +kernel
theorem dL_402 : decode code 402 = .ok (.invokevirtual 40, 3) := by decide +kernel
theorem dL_405 : decode code 405 = .ok (.aload_n 2, 1) := by decide +kernel
theorem dL_406 : decode code 406 = .ok (.aload_n 0, 1) := by decide +kernel
theorem dL_407 : decode code 407 = .ok (.iload_n 3, 1) := by decide +kernel
theorem dL_408 : decode code 408 = .ok (.iconst 1, 1) := by decide +kernel
theorem dL_409 : decode code 409 = .ok (.iadd, 1) := by decide +kernel
theorem dL_410 : decode code 410 = .ok (.iaload, 1) := by decide +kernel
theorem dL_411 : decode code 411 = .ok (.invokevirtual 43, 3) := by decide +kernel
theorem dL_414 : decode code 414 = .ok (.if_icmp .eq 1024, 3) := by decide +kernel
theorem dL_417 : decode code 417 = .ok (.iconst 0, 1) := by decide +kernel
theorem dL_418 : decode code 418 = .ok (.ireturn, 1) := by decide +kernel
theorem dL_419 : decode code 419 = .ok (.aload_n 1, 1) := by decide +kernel
theorem dL_420 : decode code 420 = .ok (.aload_n 0, 1) := by decide +kernel
theorem dL_421 : decode code 421 = .ok (.iload_n 3, 1) := by decide +kernel
theorem dL_422 : decode code 422 = .ok (.iconst 1, 1) := by decide +kernel
theorem dL_423 : decode code 423 = .ok (.iadd, 1) := by decide +kernel
theorem dL_424 : decode code 424 = .ok (.iaload, 1) := by decide +kernel
theorem dL_425 : decode code 425 = .ok (.invokevirtual 44, 3) := by decide +kernel
theorem dL_428 : decode code 428 = .ok (.aload_n 2, 1) := by decide +kernel
theorem dL_429 : decode code 429 = .ok (.aload_n 0, 1) := by decide +kernel
theorem dL_430 : decode code 430 = .ok (.iload_n 3, 1) := by decide +kernel
theorem dL_431 : decode code 431 = .ok (.iconst 1, 1) := by decide +kernel
theorem dL_432 : decode code 432 = .ok (.iadd, 1) := by decide +kernel
theorem dL_433 : decode code 433 = .ok (.iaload, 1) := by decide +kernel
theorem dL_434 : decode code 434 = .ok (.invokevirtual 47, 3) := by decide +kernel
theorem dL_437 : decode code 437 = .ok (.if_icmp .eq 1001, 3) := by decide +kernel
theorem dL_440 : decode code 440 = .ok (.iconst 0, 1) := by decide +kernel
theorem dL_441 : decode code 441 = .ok (.ireturn, 1) := by decide +kernel
theorem dL_442 : decode code 442 = .ok (.aload_n 1, 1) := by decide +kernel
theorem dL_443 : decode code 443 = .ok (.aload_n 0, 1) := by decide +kernel
theorem dL_444 : decode code 444 = .ok (.iload_n 3, 1) := by decide +kernel
theorem dL_445 : decode code 445 = .ok (.iconst 1, 1) := by decide +kernel
theorem dL_446 : decode code 446 = .ok (.iadd, 1) := by decide +kernel
theorem dL_447 : decode code 447 = .ok (.iaload, 1) := by decide +kernel
theorem dL_448 : decode code 448 = .ok (.invokevirtual 48, 3) := by decide +kernel
theorem dL_451 : decode code 451 = .ok (.aload_n 2, 1) := by decide +kernel
theorem dL_452 : decode code 452 = .ok (.aload_n 0, 1) := by decide +kernel
theorem dL_453 : decode code 453 = .ok (.iload_n 3, 1) := by decide +kernel
theorem dL_454 : decode code 454 = .ok (.iconst 1, 1) := by decide +kernel
theorem dL_455 : decode code 455 = .ok (.iadd, 1) := by decide +kernel
theorem dL_456 : decode code 456 = .ok (.iaload, 1) := by decide +kernel
theorem dL_457 : decode code 457 = .ok (.invokevirtual 51, 3) := by decide +kernel
theorem dL_460 : decode code 460 = .ok (.if_icmp .eq 978, 3) := by decide +kernel
theorem dL_463 : decode code 463 = .ok (.iconst 0, 1) := by decide +kernel
theorem dL_464 : decode code 464 = .ok (.ireturn, 1) := by decide +kernel
theorem dL_465 : decode code 465 = .ok (.aload_n 1, 1) := by decide +kernel
theorem dL_466 : decode code 466 = .ok (.invokevirtual 52, 3) := by decide +kernel
theorem dL_469 : decode code 469 = .ok (.aload_n 2, 1) := by decide +kernel
theorem dL_470 : decode code 470 = .ok (.invokevirtual 56, 3) := by decide +kernel
theorem dL_473 : decode code 473 = .ok (.if_icmp .eq 965, 3) := by decide +kernel
theorem dL_476 : decode code 476 = .ok (.iconst 0, 1) := by decide +kernel
theorem dL_477 : decode code 477 = .ok (.ireturn, 1) := by decide +kernel
theorem dL_478 : decode code 478 = .ok (.aload_n 1, 1) := by decide +kernel
theorem dL_479 : decode code 479 = .ok (.aload_n 0, 1) := by decide +kernel
theorem dL_480 : decode code 480 = .ok (.iload_n 3, 1) := by decide +kernel
theorem dL_481 : decode code 481 = .ok (.iconst 1, 1) := by decide +kernel
theorem dL_482 : decode code 482 = .ok (.iadd, 1) := by decide +kernel
theorem dL_483 : decode code 483 = .ok (.iaload, 1) := by decide +kernel
theorem dL_484 : decode code 484 = .ok (.aload_n 0, 1) := by decide +kernel
theorem dL_485 : decode code 485 = .ok (.iload_n 3, 1) := by decide +kernel
theorem dL_486 : decode code 486 = .ok (.iconst 2, 1) := by decide +kernel
theorem dL_487 : decode code 487 = .ok (.iadd, 1) := by decide +kernel
theorem dL_488 : decode code 488 = .ok (.iaload, 1) := by decide +kernel
theorem dL_489 : decode code 489 = .ok (.invokevirtual 57, 3) := by decide +kernel
theorem dL_492 : decode code 492 = .ok (.aload_n 2, 1) := by decide +kernel
theorem dL_493 : decode code 493 = .ok (.aload_n 0, 1) := by decide +kernel
theorem dL_494 : decode code 494 = .ok (.iload_n 3, 1) := by decide +kernel
theorem dL_495 : decode code 495 = .ok (.iconst 1, 1) := by decide +kernel
theorem dL_496 : decode code 496 = .ok (.iadd, 1) := by decide +kernel
theorem dL_497 : decode code 497 = .ok (.iaload, 1) := by decide +kernel
theorem dL_498 : decode code 498 = .ok (.aload_n 0, 1) := by decide +kernel
theorem dL_499 : decode code 499 = .ok (.iload_n 3, 1) := by decide +kernel
theorem dL_500 : decode code 500 = .ok (.iconst 2, 1) := by decide +kernel
theorem dL_501 : decode code 501 = .ok (.iadd, 1) := by decide +kernel
theorem dL_502 : decode code 502 = .ok (.iaload, 1) := by decide +kernel
theorem dL_503 : decode code 503 = .ok (.invokevirtual 61, 3) := by decide +kernel
theorem dL_506 : decode code 506 = .ok (.lcmp, 1) := by decide +kernel
theorem dL_507 : decode code 507 = .ok (.ifCond .eq 931, 3) := by decide +kernel
theorem dL_510 : decode code 510 = .ok (.iconst 0, 1) := by decide +kernel
theorem dL_511 : decode code 511 = .ok (.ireturn, 1) := by decide +kernel
theorem dL_512 : decode code 512 = .ok (.aload_n 1, 1) := by decide +kernel
theorem dL_513 : decode code 513 = .ok (.invokevirtual 62, 3) := by decide +kernel
theorem dL_516 : decode code 516 = .ok (.aload_n 2, 1) := by decide +kernel
theorem dL_517 : decode code 517 = .ok (.invokevirtual 65, 3) := by decide +kernel
theorem dL_520 : decode code 520 = .ok (.if_icmp .eq 918, 3) := by decide +kernel
theorem dL_523 : decode code 523 = .ok (.iconst 0, 1) := by decide +kernel
theorem dL_524 : decode code 524 = .ok (.ireturn, 1) := by decide +kernel
theorem dL_525 : decode code 525 = .ok (.aload_n 1, 1) := by decide +kernel
theorem dL_526 : decode code 526 = .ok (.aload_n 0, 1) := by decide +kernel
theorem dL_527 : decode code 527 = .ok (.iload_n 3, 1) := by decide +kernel
theorem dL_528 : decode code 528 = .ok (.iconst 1, 1) := by decide +kernel
theorem dL_529 : decode code 529 = .ok (.iadd, 1) := by decide +kernel
theorem dL_530 : decode code 530 = .ok (.iaload, 1) := by decide +kernel
theorem dL_531 : decode code 531 = .ok (.invokevirtual 66, 3) := by decide +kernel
theorem dL_534 : decode code 534 = .ok (.aload_n 2, 1) := by decide +kernel
theorem dL_535 : decode code 535 = .ok (.aload_n 0, 1) := by decide +kernel
theorem dL_536 : decode code 536 = .ok (.iload_n 3, 1) := by decide +kernel
theorem dL_537 : decode code 537 = .ok (.iconst 1, 1) := by decide +kernel
theorem dL_538 : decode code 538 = .ok (.iadd, 1) := by decide +kernel
theorem dL_539 : decode code 539 = .ok (.iaload, 1) := by decide +kernel
theorem dL_540 : decode code 540 = .ok (.invokevirtual 70, 3) := by decide +kernel
theorem dL_543 : decode code 543 = .ok (.lcmp, 1) := by decide +kernel
theorem dL_544 : decode code 544 = .ok (.ifCond .eq 894, 3) := by decide +kernel
theorem dL_547 : decode code 547 = .ok (.iconst 0, 1) := by decide +kernel
theorem dL_548 : decode code 548 = .ok (.ireturn, 1) := by decide +kernel
theorem dL_549 : decode code 549 = .ok (.aload_n 1, 1) := by decide +kernel
theorem dL_550 : decode code 550 = .ok (.aload_n 0, 1) := by decide +kernel
theorem dL_551 : decode code 551 = .ok (.iload_n 3, 1) := by decide +kernel
theorem dL_552 : decode code 552 = .ok (.iconst 1, 1) := by decide +kernel
theorem dL_553 : decode code 553 = .ok (.iadd, 1) := by decide +kernel
theorem dL_554 : decode code 554 = .ok (.iaload, 1) := by decide +kernel
theorem dL_555 : decode code 555 = .ok (.aload_n 0, 1) := by decide +kernel
theorem dL_556 : decode code 556 = .ok (.iload_n 3, 1) := by decide +kernel
theorem dL_557 : decode code 557 = .ok (.iconst 2, 1) := by decide +kernel
theorem dL_558 : decode code 558 = .ok (.iadd, 1) := by decide +kernel
theorem dL_559 : decode code 559 = .ok (.iaload, 1) := by decide +kernel
theorem dL_560 : decode code 560 = .ok (.invokevirtual 71, 3) := by decide +kernel
theorem dL_563 : decode code 563 = .ok (.aload_n 2, 1) := by decide +kernel
theorem dL_564 : decode code 564 = .ok (.aload_n 0, 1) := by decide +kernel
theorem dL_565 : decode code 565 = .ok (.iload_n 3, 1) := by decide +kernel
theorem dL_566 : decode code 566 = .ok (.iconst 1, 1) := by decide +kernel
theorem dL_567 : decode code 567 = .ok (.iadd, 1) := by decide +kernel
theorem dL_568 : decode code 568 = .ok (.iaload, 1) := by decide +kernel
theorem dL_569 : decode code 569 = .ok (.aload_n 0, 1) := by decide +kernel
theorem dL_570 : decode code 570 = .ok (.iload_n 3, 1) := by decide +kernel
theorem dL_571 : decode code 571 = .ok (.iconst 2, 1) := by decide +kernel
theorem dL_572 : decode code 572 = .ok (.iadd, 1) := by decide +kernel
theorem dL_573 : decode code 573 = .ok (.iaload, 1) := by decide +kernel
theorem dL_574 : decode code 574 = .ok (.invokevirtual 74, 3) := by decide +kernel
theorem dL_577 : decode code 577 = .ok (.lcmp, 1) := by decide +kernel
theorem dL_578 : decode code 578 = .ok (.ifCond .eq 860, 3) := by decide +kernel
theorem dL_581 : decode code 581 = .ok (.iconst 0, 1) := by decide +kernel
theorem dL_582 : decode code 582 = .ok (.ireturn, 1) := by decide +kernel
theorem dL_583 : decode code 583 = .ok (.aload_n 1, 1) := by decide +kernel
theorem dL_584 : decode code 584 = .ok (.aload_n 0, 1) := by decide +kernel
theorem dL_585 : decode code 585 = .ok (.iload_n 3, 1) := by decide +kernel
theorem dL_586 : decode code 586 = .ok (.iconst 1, 1) := by decide +kernel
theorem dL_587 : decode code 587 = .ok (.iadd, 1) := by decide +kernel
theorem dL_588 : decode code 588 = .ok (.iaload, 1) := by decide +kernel
theorem dL_589 : decode code 589 = .ok (.aload_n 0, 1) := by decide +kernel
theorem dL_590 : decode code 590 = .ok (.iload_n 3, 1) := by decide +kernel
theorem dL_591 : decode code 591 = .ok (.iconst 2, 1) := by decide +kernel
theorem dL_592 : decode code 592 = .ok (.iadd, 1) := by decide +kernel
theorem dL_593 : decode code 593 = .ok (.iaload, 1) := by decide +kernel
theorem dL_594 : decode code 594 = .ok (.aload_n 0, 1) := by decide +kernel
theorem dL_595 : decode code 595 = .ok (.iload_n 3, 1) := by decide +kernel
theorem dL_596 : decode code 596 = .ok (.iconst 3, 1) := by decide +kernel
theorem dL_597 : decode code 597 = .ok (.iadd, 1) := by decide +kernel
theorem dL_598 : decode code 598 = .ok (.iaload, 1) := by decide +kernel
theorem dL_599 : decode code 599 = .ok (.invokevirtual 75, 3) := by decide +kernel
theorem dL_602 : decode code 602 = .ok (.aload_n 2, 1) := by decide +kernel
theorem dL_603 : decode code 603 = .ok (.aload_n 0, 1) := by decide +kernel
theorem dL_604 : decode code 604 = .ok (.iload_n 3, 1) := by decide +kernel
theorem dL_605 : decode code 605 = .ok (.iconst 1, 1) := by decide +kernel
theorem dL_606 : decode code 606 = .ok (.iadd, 1) := by decide +kernel
theorem dL_607 : decode code 607 = .ok (.iaload, 1) := by decide +kernel
theorem dL_608 : decode code 608 = .ok (.aload_n 0, 1) := by decide +kernel
theorem dL_609 : decode code 609 = .ok (.iload_n 3, 1) := by decide +kernel
theorem dL_610 : decode code 610 = .ok (.iconst 2, 1) := by decide +kernel
theorem dL_611 : decode code 611 = .ok (.iadd, 1) := by decide +kernel
theorem dL_612 : decode code 612 = .ok (.iaload, 1) := by decide +kernel
theorem dL_613 : decode code 613 = .ok (.aload_n 0, 1) := by decide +kernel
theorem dL_614 : decode code 614 = .ok (.iload_n 3, 1) := by decide +kernel
theorem dL_615 : decode code 615 = .ok (.iconst 3, 1) := by decide +kernel
theorem dL_616 : decode code 616 = .ok (.iadd, 1) := by decide +kernel
theorem dL_617 : decode code 617 = .ok (.iaload, 1) := by decide +kernel
theorem dL_618 : decode code 618 = .ok (.invokevirtual 79, 3) := by decide +kernel
theorem dL_621 : decode code 621 = .ok (.lcmp, 1) := by decide +kernel
theorem dL_622 : decode code 622 = .ok (.ifCond .eq 816, 3) := by decide +kernel
theorem dL_625 : decode code 625 = .ok (.iconst 0, 1) := by decide +kernel
theorem dL_626 : decode code 626 = .ok (.ireturn, 1) := by decide +kernel
theorem dL_627 : decode code 627 = .ok (.aload_n 1, 1) := by decide +kernel
theorem dL_628 : decode code 628 = .ok (.aload_n 0, 1) := by decide +kernel
theorem dL_629 : decode code 629 = .ok (.iload_n 3, 1) := by decide +kernel
theorem dL_630 : decode code 630 = .ok (.iconst 1, 1) := by decide +kernel
theorem dL_631 : decode code 631 = .ok (.iadd, 1) := by decide +kernel
theorem dL_632 : decode code 632 = .ok (.iaload, 1) := by decide +kernel
theorem dL_633 : decode code 633 = .ok (.invokevirtual 80, 3) := by decide +kernel
theorem dL_636 : decode code 636 = .ok (.aload_n 2, 1) := by decide +kernel
theorem dL_637 : decode code 637 = .ok (.aload_n 0, 1) := by decide +kernel
theorem dL_638 : decode code 638 = .ok (.iload_n 3, 1) := by decide +kernel
theorem dL_639 : decode code 639 = .ok (.iconst 1, 1) := by decide +kernel
theorem dL_640 : decode code 640 = .ok (.iadd, 1) := by decide +kernel
theorem dL_641 : decode code 641 = .ok (.iaload, 1) := by decide +kernel
theorem dL_642 : decode code 642 = .ok (.invokevirtual 83, 3) := by decide +kernel
theorem dL_645 : decode code 645 = .ok (.lcmp, 1) := by decide +kernel
theorem dL_646 : decode code 646 = .ok (.ifCond .eq 792, 3) := by decide +kernel
theorem dL_649 : decode code 649 = .ok (.iconst 0, 1) := by decide +kernel
theorem dL_650 : decode code 650 = .ok (.ireturn, 1) := by decide +kernel
theorem dL_651 : decode code 651 = .ok (.aload_n 1, 1) := by decide +kernel
theorem dL_652 : decode code 652 = .ok (.aload_n 0, 1) := by decide +kernel
theorem dL_653 : decode code 653 = .ok (.iload_n 3, 1) := by decide +kernel
theorem dL_654 : decode code 654 = .ok (.iconst 1, 1) := by decide +kernel
theorem dL_655 : decode code 655 = .ok (.iadd, 1) := by decide +kernel
theorem dL_656 : decode code 656 = .ok (.iaload, 1) := by decide +kernel
theorem dL_657 : decode code 657 = .ok (.aload_n 0, 1) := by decide +kernel
theorem dL_658 : decode code 658 = .ok (.iload_n 3, 1) := by decide +kernel
theorem dL_659 : decode code 659 = .ok (.iconst 2, 1) := by decide +kernel
theorem dL_660 : decode code 660 = .ok (.iadd, 1) := by decide +kernel
theorem dL_661 : decode code 661 = .ok (.iaload, 1) := by decide +kernel
theorem dL_662 : decode code 662 = .ok (.aload_n 0, 1) := by decide +kernel
theorem dL_663 : decode code 663 = .ok (.iload_n 3, 1) := by decide +kernel
theorem dL_664 : decode code 664 = .ok (.iconst 3, 1) := by decide +kernel
theorem dL_665 : decode code 665 = .ok (.iadd, 1) := by decide +kernel
theorem dL_666 : decode code 666 = .ok (.iaload, 1) := by decide +kernel
theorem dL_667 : decode code 667 = .ok (.invokevirtual 84, 3) := by decide +kernel
theorem dL_670 : decode code 670 = .ok (.aload_n 2, 1) := by decide +kernel
theorem dL_671 : decode code 671 = .ok (.aload_n 0, 1) := by decide +kernel
theorem dL_672 : decode code 672 = .ok (.iload_n 3, 1) := by decide +kernel
theorem dL_673 : decode code 673 = .ok (.iconst 1, 1) := by decide +kernel
theorem dL_674 : decode code 674 = .ok (.iadd, 1) := by decide +kernel
theorem dL_675 : decode code 675 = .ok (.iaload, 1) := by decide +kernel
theorem dL_676 : decode code 676 = .ok (.aload_n 0, 1) := by decide +kernel
theorem dL_677 : decode code 677 = .ok (.iload_n 3, 1) := by decide +kernel
theorem dL_678 : decode code 678 = .ok (.iconst 2, 1) := by decide +kernel
theorem dL_679 : decode code 679 = .ok (.iadd, 1) := by decide +kernel
theorem dL_680 : decode code 680 = .ok (.iaload, 1) := by decide +kernel
theorem dL_681 : decode code 681 = .ok (.aload_n 0, 1) := by decide +kernel
theorem dL_682 : decode code 682 = .ok (.iload_n 3, 1) := by decide +kernel
theorem dL_683 : decode code 683 = .ok (.iconst 3, 1) := by decide +kernel
theorem dL_684 : decode code 684 = .ok (.iadd, 1) := by decide +kernel
theorem dL_685 : decode code 685 = .ok (.iaload, 1) := by decide +kernel
theorem dL_686 : decode code 686 = .ok (.invokevirtual 87, 3) := by decide +kernel
theorem dL_689 : decode code 689 = .ok (.lcmp, 1) := by decide +kernel
theorem dL_690 : decode code 690 = .ok (.ifCond .eq 748, 3) := by decide +kernel
theorem dL_693 : decode code 693 = .ok (.iconst 0, 1) := by decide +kernel
theorem dL_694 : decode code 694 = .ok (.ireturn, 1) := by decide +kernel
theorem dL_695 : decode code 695 = .ok (.aload_n 1, 1) := by decide +kernel
theorem dL_696 : decode code 696 = .ok (.aload_n 0, 1) := by decide +kernel
theorem dL_697 : decode code 697 = .ok (.iload_n 3, 1) := by decide +kernel
theorem dL_698 : decode code 698 = .ok (.iconst 1, 1) := by decide +kernel
theorem dL_699 : decode code 699 = .ok (.iadd, 1) := by decide +kernel
theorem dL_700 : decode code 700 = .ok (.iaload, 1) := by decide +kernel
theorem dL_701 : decode code 701 = .ok (.aload_n 0, 1) := by decide +kernel
theorem dL_702 : decode code 702 = .ok (.iload_n 3, 1) := by decide +kernel
theorem dL_703 : decode code 703 = .ok (.iconst 2, 1) := by decide +kernel
theorem dL_704 : decode code 704 = .ok (.iadd, 1) := by decide +kernel
theorem dL_705 : decode code 705 = .ok (.iaload, 1) := by decide +kernel
theorem dL_706 : decode code 706 = .ok (.invokevirtual 88, 3) := by decide +kernel
theorem dL_709 : decode code 709 = .ok (.aload_n 2, 1) := by decide +kernel
theorem dL_710 : decode code 710 = .ok (.aload_n 0, 1) := by decide +kernel
theorem dL_711 : decode code 711 = .ok (.iload_n 3, 1) := by decide +kernel
theorem dL_712 : decode code 712 = .ok (.iconst 1, 1) := by decide +kernel
theorem dL_713 : decode code 713 = .ok (.iadd, 1) := by decide +kernel
theorem dL_714 : decode code 714 = .ok (.iaload, 1) := by decide +kernel
theorem dL_715 : decode code 715 = .ok (.aload_n 0, 1) := by decide +kernel
theorem dL_716 : decode code 716 = .ok (.iload_n 3, 1) := by decide +kernel
theorem dL_717 : decode code 717 = .ok (.iconst 2, 1) := by decide +kernel
theorem dL_718 : decode code 718 = .ok (.iadd, 1) := by decide +kernel
theorem dL_719 : decode code 719 = .ok (.iaload, 1) := by decide +kernel
theorem dL_720 : decode code 720 = .ok (.invokevirtual 91, 3) := by decide +kernel
theorem dL_723 : decode code 723 = .ok (.lcmp, 1) := by decide +kernel
theorem dL_724 : decode code 724 = .ok (.ifCond .eq 714, 3) := by decide +kernel
theorem dL_727 : decode code 727 = .ok (.iconst 0, 1) := by decide +kernel
theorem dL_728 : decode code 728 = .ok (.ireturn, 1) := by decide +kernel
theorem dL_729 : decode code 729 = .ok (.aload_n 1, 1) := by decide +kernel
theorem dL_730 : decode code 730 = .ok (.aload_n 0, 1) := by decide +kernel
theorem dL_731 : decode code 731 = .ok (.iload_n 3, 1) := by decide +kernel
theorem dL_732 : decode code 732 = .ok (.iconst 1, 1) := by decide +kernel
theorem dL_733 : decode code 733 = .ok (.iadd, 1) := by decide +kernel
theorem dL_734 : decode code 734 = .ok (.iaload, 1) := by decide +kernel
theorem dL_735 : decode code 735 = .ok (.aload_n 0, 1) := by decide +kernel
theorem dL_736 : decode code 736 = .ok (.iload_n 3, 1) := by decide +kernel
theorem dL_737 : decode code 737 = .ok (.iconst 2, 1) := by decide +kernel
theorem dL_738 : decode code 738 = .ok (.iadd, 1) := by decide +kernel
theorem dL_739 : decode code 739 = .ok (.iaload, 1) := by decide +kernel
theorem dL_740 : decode code 740 = .ok (.aload_n 0, 1) := by decide +kernel
theorem dL_741 : decode code 741 = .ok (.iload_n 3, 1) := by decide +kernel
theorem dL_742 : decode code 742 = .ok (.iconst 3, 1) := by decide +kernel
theorem dL_743 : decode code 743 = .ok (.iadd, 1) := by decide +kernel
theorem dL_744 : decode code 744 = .ok (.iaload, 1) := by decide +kernel
theorem dL_745 : decode code 745 = .ok (.invokevirtual 92, 3) := by decide +kernel
theorem dL_748 : decode code 748 = .ok (.aload_n 2, 1) := by decide +kernel
theorem dL_749 : decode code 749 = .ok (.aload_n 0, 1) := by decide +kernel
theorem dL_750 : decode code 750 = .ok (.iload_n 3, 1) := by decide +kernel
theorem dL_751 : decode code 751 = .ok (.iconst 1, 1) := by decide +kernel
theorem dL_752 : decode code 752 = .ok (.iadd, 1) := by decide +kernel
theorem dL_753 : decode code 753 = .ok (.iaload, 1) := by decide +kernel
theorem dL_754 : decode code 754 = .ok (.aload_n 0, 1) := by decide +kernel
theorem dL_755 : decode code 755 = .ok (.iload_n 3, 1) := by decide +kernel
theorem dL_756 : decode code 756 = .ok (.iconst 2, 1) := by decide +kernel
theorem dL_757 : decode code 757 = .ok (.iadd, 1) := by decide +kernel
theorem dL_758 : decode code 758 = .ok (.iaload, 1) := by decide +kernel
theorem dL_759 : decode code 759 = .ok (.aload_n 0, 1) := by decide +kernel
theorem dL_760 : decode code 760 = .ok (.iload_n 3, 1) := by decide +kernel
theorem dL_761 : decode code 761 = .ok (.iconst 3, 1) := by decide +kernel
theorem dL_762 : decode code 762 = .ok (.iadd, 1) := by decide +kernel
theorem dL_763 : decode code 763 = .ok (.iaload, 1) := by decide +kernel
theorem dL_764 : decode code 764 = .ok (.invokevirtual 95, 3) := by decide +kernel
theorem dL_767 : decode code 767 = .ok (.lcmp, 1) := by decide +kernel
theorem dL_768 : decode code 768 = .ok (.ifCond .eq 670, 3) := by decide +kernel
theorem dL_771 : decode code 771 = .ok (.iconst 0, 1) := by decide +kernel
theorem dL_772 : decode code 772 = .ok (.ireturn, 1) := by decide +kernel
theorem dL_773 : decode code 773 = .ok (.aload_n 1, 1) := by decide +kernel
theorem dL_774 : decode code 774 = .ok (.aload_n 0, 1) := by decide +kernel
theorem dL_775 : decode code 775 = .ok (.iload_n 3, 1) := by decide +kernel
theorem dL_776 : decode code 776 = .ok (.iconst 1, 1) := by decide +kernel
theorem dL_777 : decode code 777 = .ok (.iadd, 1) := by decide +kernel
theorem dL_778 : decode code 778 = .ok (.iaload, 1) := by decide +kernel
theorem dL_779 : decode code 779 = .ok (.aload_n 0, 1) := by decide +kernel
theorem dL_780 : decode code 780 = .ok (.iload_n 3, 1) := by decide +kernel
theorem dL_781 : decode code 781 = .ok (.iconst 2, 1) := by decide +kernel
theorem dL_782 : decode code 782 = .ok (.iadd, 1) := by decide +kernel
theorem dL_783 : decode code 783 = .ok (.iaload, 1) := by decide +kernel
theorem dL_784 : decode code 784 = .ok (.invokevirtual 96, 3) := by decide +kernel
theorem dL_787 : decode code 787 = .ok (.aload_n 2, 1) := by decide +kernel
theorem dL_788 : decode code 788 = .ok (.aload_n 0, 1) := by decide +kernel
theorem dL_789 : decode code 789 = .ok (.iload_n 3, 1) := by decide +kernel
theorem dL_790 : decode code 790 = .ok (.iconst 1, 1) := by decide +kernel
theorem dL_791 : decode code 791 = .ok (.iadd, 1) := by decide +kernel
theorem dL_792 : decode code 792 = .ok (.iaload, 1) := by decide +kernel
theorem dL_793 : decode code 793 = .ok (.aload_n 0, 1) := by decide +kernel
theorem dL_794 : decode code 794 = .ok (.iload_n 3, 1) := by decide +kernel
theorem dL_795 : decode code 795 = .ok (.iconst 2, 1) := by decide +kernel
theorem dL_796 : decode code 796 = .ok (.iadd, 1) := by decide +kernel
theorem dL_797 : decode code 797 = .ok (.iaload, 1) := by decide +kernel
theorem dL_798 : decode code 798 = .ok (.invokevirtual 99, 3) := by decide +kernel
theorem dL_801 : decode code 801 = .ok (.if_icmp .eq 637, 3) := by decide +kernel
theorem dL_804 : decode code 804 = .ok (.iconst 0, 1) := by decide +kernel
theorem dL_805 : decode code 805 = .ok (.ireturn, 1) := by decide +kernel
