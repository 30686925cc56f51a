/-! THE LAW: its frame, a call of both, its cases, its loop (laid by wip/whole/gen_law.py) -/
theorem dL_0 : decode code 0 = .ok (.new 7, 3) := by decide +kernel
theorem dL_3 : decode code 3 = .ok (.dup, 1) := by decide +kernel
theorem dL_4 : decode code 4 = .ok (.invokespecial 9, 3) := by decide +kernel
theorem dL_7 : decode code 7 = .ok (.astore_n 1, 1) := by decide +kernel
theorem dL_8 : decode code 8 = .ok (.new 10, 3) := by decide +kernel
theorem dL_11 : decode code 11 = .ok (.dup, 1) := by decide +kernel
theorem dL_12 : decode code 12 = .ok (.invokespecial 12, 3) := by decide +kernel
theorem dL_15 : decode code 15 = .ok (.astore_n 2, 1) := by decide +kernel
theorem dL_16 : decode code 16 = .ok (.iconst 0, 1) := by decide +kernel
theorem dL_17 : decode code 17 = .ok (.istore_n 3, 1) := by decide +kernel
theorem dL_18 : decode code 18 = .ok (.iload_n 3, 1) := by decide +kernel
theorem dL_19 : decode code 19 = .ok (.aload_n 0, 1) := by decide +kernel
theorem dL_20 : decode code 20 = .ok (.arraylength, 1) := by decide +kernel
theorem dL_21 : decode code 21 = .ok (.bipush 6, 2) := by decide +kernel
theorem dL_23 : decode code 23 = .ok (.isub, 1) := by decide +kernel
theorem dL_24 : decode code 24 = .ok (.if_icmp .gt 1055, 3) := by decide +kernel
theorem dL_27 : decode code 27 = .ok (.aload_n 0, 1) := by decide +kernel
theorem dL_28 : decode code 28 = .ok (.iload_n 3, 1) := by decide +kernel
theorem dL_29 : decode code 29 = .ok (.iaload, 1) := by decide +kernel
theorem dL_30 : decode code 30 = .ok (.bipush 63, 2) := by decide +kernel
theorem dL_32 : decode code 32 = .ok (.iand, 1) := by decide +kernel
theorem dL_33 : decode code 33 = .ok (.tableswitch 1040 0 34 #[155, 218, 241, 254, 267, 290, 323, 346, 359, 382, 405, 438, 471, 484, 517, 550, 573, 596, 619, 632, 655, 678, 701, 724, 747, 780, 803, 836, 869, 892, 915, 938, 971, 994, 1017], 155) := by decide +kernel
theorem dL_188 : decode code 188 = .ok (.aload_n 1, 1) := by decide +kernel
theorem dL_189 : decode code 189 = .ok (.aload_n 0, 1) := by decide +kernel
theorem dL_190 : decode code 190 = .ok (.iload_n 3, 1) := by decide +kernel
theorem dL_191 : decode code 191 = .ok (.iconst 1, 1) := by decide +kernel
theorem dL_192 : decode code 192 = .ok (.iadd, 1) := by decide +kernel
theorem dL_193 : decode code 193 = .ok (.iaload, 1) := by decide +kernel
theorem dL_194 : decode code 194 = .ok (.aload_n 0, 1) := by decide +kernel
theorem dL_195 : decode code 195 = .ok (.iload_n 3, 1) := by decide +kernel
theorem dL_196 : decode code 196 = .ok (.iconst 2, 1) := by decide +kernel
theorem dL_197 : decode code 197 = .ok (.iadd, 1) := by decide +kernel
theorem dL_198 : decode code 198 = .ok (.iaload, 1) := by decide +kernel
theorem dL_199 : decode code 199 = .ok (.aload_n 0, 1) := by decide +kernel
theorem dL_200 : decode code 200 = .ok (.iload_n 3, 1) := by decide +kernel
theorem dL_201 : decode code 201 = .ok (.iconst 3, 1) := by decide +kernel
theorem dL_202 : decode code 202 = .ok (.iadd, 1) := by decide +kernel
theorem dL_203 : decode code 203 = .ok (.iaload, 1) := by decide +kernel
theorem dL_204 : decode code 204 = .ok (.aload_n 0, 1) := by decide +kernel
theorem dL_205 : decode code 205 = .ok (.iload_n 3, 1) := by decide +kernel
theorem dL_206 : decode code 206 = .ok (.iconst 4, 1) := by decide +kernel
theorem dL_207 : decode code 207 = .ok (.iadd, 1) := by decide +kernel
theorem dL_208 : decode code 208 = .ok (.iaload, 1) := by decide +kernel
theorem dL_209 : decode code 209 = .ok (.aload_n 0, 1) := by decide +kernel
theorem dL_210 : decode code 210 = .ok (.iload_n 3, 1) := by decide +kernel
theorem dL_211 : decode code 211 = .ok (.iconst 5, 1) := by decide +kernel
theorem dL_212 : decode code 212 = .ok (.iadd, 1) := by decide +kernel
theorem dL_213 : decode code 213 = .ok (.iaload, 1) := by decide +kernel
theorem dL_214 : decode code 214 = .ok (.invokevirtual 13, 3) := by decide +kernel
theorem dL_217 : decode code 217 = .ok (.aload_n 2, 1) := by decide +kernel
theorem dL_218 : decode code 218 = .ok (.aload_n 0, 1) := by decide +kernel
theorem dL_219 : decode code 219 = .ok (.iload_n 3, 1) := by decide +kernel
theorem dL_220 : decode code 220 = .ok (.iconst 1, 1) := by decide +kernel
theorem dL_221 : decode code 221 = .ok (.iadd, 1) := by decide +kernel
theorem dL_222 : decode code 222 = .ok (.iaload, 1) := by decide +kernel
theorem dL_223 : decode code 223 = .ok (.aload_n 0, 1) := by decide +kernel
theorem dL_224 : decode code 224 = .ok (.iload_n 3, 1) := by decide +kernel
theorem dL_225 : decode code 225 = .ok (.iconst 2, 1) := by decide +kernel
theorem dL_226 : decode code 226 = .ok (.iadd, 1) := by decide +kernel
theorem dL_227 : decode code 227 = .ok (.iaload, 1) := by decide +kernel
theorem dL_228 : decode code 228 = .ok (.aload_n 0, 1) := by decide +kernel
theorem dL_229 : decode code 229 = .ok (.iload_n 3, 1) := by decide +kernel
theorem dL_230 : decode code 230 = .ok (.iconst 3, 1) := by decide +kernel
theorem dL_231 : decode code 231 = .ok (.iadd, 1) := by decide +kernel
theorem dL_232 : decode code 232 = .ok (.iaload, 1) := by decide +kernel
theorem dL_233 : decode code 233 = .ok (.aload_n 0, 1) := by decide +kernel
theorem dL_234 : decode code 234 = .ok (.iload_n 3, 1) := by decide +kernel
theorem dL_235 : decode code 235 = .ok (.iconst 4, 1) := by decide +kernel
theorem dL_236 : decode code 236 = .ok (.iadd, 1) := by decide +kernel
theorem dL_237 : decode code 237 = .ok (.iaload, 1) := by decide +kernel
theorem dL_238 : decode code 238 = .ok (.aload_n 0, 1) := by decide +kernel
theorem dL_239 : decode code 239 = .ok (.iload_n 3, 1) := by decide +kernel
theorem dL_240 : decode code 240 = .ok (.iconst 5, 1) := by decide +kernel
theorem dL_241 : decode code 241 = .ok (.iadd, 1) := by decide +kernel
theorem dL_242 : decode code 242 = .ok (.iaload, 1) := by decide +kernel
theorem dL_243 : decode code 243 = .ok (.invokevirtual 17, 3) := by decide +kernel
theorem dL_246 : decode code 246 = .ok (.if_icmp .eq 827, 3) := by decide +kernel
theorem dL_249 : decode code 249 = .ok (.iconst 0, 1) := by decide +kernel
theorem dL_250 : decode code 250 = .ok (.ireturn, 1) := by decide +kernel
theorem dL_251 : decode code 251 = .ok (.aload_n 1, 1) := by decide +kernel
theorem dL_252 : decode code 252 = .ok (.aload_n 0, 1) := by decide +kernel
theorem dL_253 : decode code 253 = .ok (.iload_n 3, 1) := by decide +kernel
theorem dL_254 : decode code 254 = .ok (.iconst 1, 1) := by decide +kernel
theorem dL_255 : decode code 255 = .ok (.iadd, 1) := by decide +kernel
theorem dL_256 : decode code 256 = .ok (.iaload, 1) := by decide +kernel
theorem dL_257 : decode code 257 = .ok (.invokevirtual 18, 3) := by decide +kernel
theorem dL_260 : decode code 260 = .ok (.aload_n 2, 1) := by decide +kernel
theorem dL_261 : decode code 261 = .ok (.aload_n 0, 1) := by decide +kernel
theorem dL_262 : decode code 262 = .ok (.iload_n 3, 1) := by decide +kernel
theorem dL_263 : decode code 263 = .ok (.iconst 1, 1) := by decide +kernel
theorem dL_264 : decode code 264 = .ok (.iadd, 1) := by decide +kernel
theorem dL_265 : decode code 265 = .ok (.iaload, 1) := by decide +kernel
theorem dL_266 : decode code 266 = .ok (.invokevirtual 22, 3) := by decide +kernel
theorem dL_269 : decode code 269 = .ok (.if_icmp .eq 804, 3) := by decide +kernel
theorem dL_272 : decode code 272 = .ok (.iconst 0, 1) := by decide +kernel
theorem dL_273 : decode code 273 = .ok (.ireturn, 1) := by decide +kernel
theorem dL_274 : decode code 274 = .ok (.aload_n 1, 1) := by decide +kernel
theorem dL_275 : decode code 275 = .ok (.invokevirtual 23, 3) := by decide +kernel
theorem dL_278 : decode code 278 = .ok (.aload_n 2, 1) := by decide +kernel
theorem dL_279 : decode code 279 = .ok (.invokevirtual 27, 3) := by decide +kernel
theorem dL_282 : decode code 282 = .ok (.if_icmp .eq 791, 3) := by decide +kernel
theorem dL_285 : decode code 285 = .ok (.iconst 0, 1) := by decide +kernel
theorem dL_286 : decode code 286 = .ok (.ireturn, 1) := by decide +kernel
theorem dL_287 : decode code 287 = .ok (.aload_n 1, 1) := by decide +kernel
theorem dL_288 : decode code 288 = .ok (.invokevirtual 28, 3) := by decide +kernel
theorem dL_291 : decode code 291 = .ok (.aload_n 2, 1) := by decide +kernel
theorem dL_292 : decode code 292 = .ok (.invokevirtual 31, 3) := by decide +kernel
theorem dL_295 : decode code 295 = .ok (.if_icmp .eq 778, 3) := by decide +kernel
theorem dL_298 : decode code 298 = .ok (.iconst 0, 1) := by decide +kernel
theorem dL_299 : decode code 299 = .ok (.ireturn, 1) := by decide +kernel
theorem dL_300 : decode code 300 = .ok (.aload_n 1, 1) := by decide +kernel
theorem dL_301 : decode code 301 = .ok (.aload_n 0, 1) := by decide +kernel
theorem dL_302 : decode code 302 = .ok (.iload_n 3, 1) := by decide +kernel
theorem dL_303 : decode code 303 = .ok (.iconst 1, 1) := by decide +kernel
theorem dL_304 : decode code 304 = .ok (.iadd, 1) := by decide +kernel
theorem dL_305 : decode code 305 = .ok (.iaload, 1) := by decide +kernel
theorem dL_306 : decode code 306 = .ok (.invokevirtual 32, 3) := by decide +kernel
theorem dL_309 : decode code 309 = .ok (.aload_n 2, 1) := by decide +kernel
theorem dL_310 : decode code 310 = .ok (.aload_n 0, 1) := by decide +kernel
theorem dL_311 : decode code 311 = .ok (.iload_n 3, 1) := by decide +kernel
theorem dL_312 : decode code 312 = .ok (.iconst 1, 1) := by decide +kernel
theorem dL_313 : decode code 313 = .ok (.iadd, 1) := by decide +kernel
theorem dL_314 : decode code 314 = .ok (.iaload, 1) := by decide +kernel
theorem dL_315 : decode code 315 = .ok (.invokevirtual 35, 3) := by decide +kernel
theorem dL_318 : decode code 318 = .ok (.if_icmp .eq 755, 3) := by decide +kernel
theorem dL_321 : decode code 321 = .ok (.iconst 0, 1) := by decide +kernel
theorem dL_322 : decode code 322 = .ok (.ireturn, 1) := by decide +kernel
theorem dL_323 : decode code 323 = .ok (.aload_n 1, 1) := by decide +kernel
theorem dL_324 : decode code 324 = .ok (.aload_n 0, 1) := by decide +kernel
theorem dL_325 : decode code 325 = .ok (.iload_n 3, 1) := by decide +kernel
theorem dL_326 : decode code 326 = .ok (.iconst 1, 1) := by decide +kernel
theorem dL_327 : decode code 327 = .ok (.iadd, 1) := by decide +kernel
theorem dL_328 : decode code 328 = .ok (.iaload, 1) := by decide +kernel
theorem dL_329 : decode code 329 = .ok (.aload_n 0, 1) := by decide +kernel
theorem dL_330 : decode code 330 = .ok (.iload_n 3, 1) := by decide +kernel
theorem dL_331 : decode code 331 = .ok (.iconst 2, 1) := by decide +kernel
theorem dL_332 : decode code 332 = .ok (.iadd, 1) := by decide +kernel
theorem dL_333 : decode code 333 = .ok (.iaload, 1) := by decide +kernel
theorem dL_334 : decode code 334 = .ok (.invokevirtual 36, 3) := by decide +kernel
theorem dL_337 : decode code 337 = .ok (.aload_n 2, 1) := by decide +kernel
theorem dL_338 : decode code 338 = .ok (.aload_n 0, 1) := by decide +kernel
theorem dL_339 : decode code 339 = .ok (.iload_n 3, 1) := by decide +kernel
theorem dL_340 : decode code 340 = .ok (.iconst 1, 1) := by decide +kernel
theorem dL_341 : decode code 341 = .ok (.iadd, 1) := by decide +kernel
theorem dL_342 : decode code 342 = .ok (.iaload, 1) := by decide +kernel
theorem dL_343 : decode code 343 = .ok (.aload_n 0, 1) := by decide +kernel
theorem dL_344 : decode code 344 = .ok (.iload_n 3, 1) := by decide +kernel
theorem dL_345 : decode code 345 = .ok (.iconst 2, 1) := by decide +kernel
theorem dL_346 : decode code 346 = .ok (.iadd, 1) := by decide +kernel
theorem dL_347 : decode code 347 = .ok (.iaload, 1) := by decide +kernel
theorem dL_348 : decode code 348 = .ok (.invokevirtual 40, 3) := by decide +kernel
theorem dL_351 : decode code 351 = .ok (.if_icmp .eq 722, 3) := by decide +kernel
theorem dL_354 : decode code 354 = .ok (.iconst 0, 1) := by decide +kernel
theorem dL_355 : decode code 355 = .ok (.ireturn, 1) := by decide +kernel
theorem dL_356 : decode code 356 = .ok (.aload_n 1, 1) := by decide +kernel
theorem dL_357 : decode code 357 = .ok (.aload_n 0, 1) := by decide +kernel
theorem dL_358 : decode code 358 = .ok (.iload_n 3, 1) := by decide +kernel
theorem dL_359 : decode code 359 = .ok (.iconst 1, 1) := by decide +kernel
theorem dL_360 : decode code 360 = .ok (.iadd, 1) := by decide +kernel
theorem dL_361 : decode code 361 = .ok (.iaload, 1) := by decide +kernel
theorem dL_362 : decode code 362 = .ok (.invokevirtual 41, 3) := by decide +kernel
theorem dL_365 : decode code 365 = .ok (.aload_n 2, 1) := by decide +kernel
theorem dL_366 : decode code 366 = .ok (.aload_n 0, 1) := by decide +kernel
theorem dL_367 : decode code 367 = .ok (.iload_n 3, 1) := by decide +kernel
theorem dL_368 : decode code 368 = .ok (.iconst 1, 1) := by decide +kernel
theorem dL_369 : decode code 369 = .ok (.iadd, 1) := by decide +kernel
theorem dL_370 : decode code 370 = .ok (.iaload, 1) := by decide +kernel
theorem dL_371 : decode code 371 = .ok (.invokevirtual 44, 3) := by decide +kernel
theorem dL_374 : decode code 374 = .ok (.if_icmp .eq 699, 3) := by decide +kernel
theorem dL_377 : decode code 377 = .ok (.iconst 0, 1) := by decide +kernel
theorem dL_378 : decode code 378 = .ok (.ireturn, 1) := by decide +kernel
theorem dL_379 : decode code 379 = .ok (.aload_n 1, 1) := by decide +kernel
theorem dL_380 : decode code 380 = .ok (.invokevirtual 45, 3) := by decide +kernel
theorem dL_383 : decode code 383 = .ok (.aload_n 2, 1) := by decide +kernel
theorem dL_384 : decode code 384 = .ok (.invokevirtual 48, 3) := by decide +kernel
theorem dL_387 : decode code 387 = .ok (.if_icmp .eq 686, 3) := by decide +kernel
theorem dL_390 : decode code 390 = .ok (.iconst 0, 1) := by decide +kernel
theorem dL_391 : decode code 391 = .ok (.ireturn, 1) := by decide +kernel
theorem dL_392 : decode code 392 = .ok (.aload_n 1, 1) := by decide +kernel
theorem dL_393 : decode code 393 = .ok (.aload_n 0, 1) := by decide +kernel
theorem dL_394 : decode code 394 = .ok (.iload_n 3, 1) := by decide +kernel
theorem dL_395 : decode code 395 = .ok (.iconst 1, 1) := by decide +kernel
theorem dL_396 : decode code 396 = .ok (.iadd, 1) := by decide +kernel
theorem dL_397 : decode code 397 = .ok (.iaload, 1) := by decide +kernel
theorem dL_398 : decode code 398 = .ok (.invokevirtual 49, 3) := by decide +kernel
theorem dL_401 : decode code 401 = .ok (.aload_n 2, 1) := by decide +kernel
theorem dL_402 : decode code 402 = .ok (.aload_n 0, 1) := by decide +kernel
theorem dL_403 : decode code 403 = .ok (.iload_n 3, 1) := by decide +kernel
theorem dL_404 : decode code 404 = .ok (.iconst 1, 1) := by decide +kernel
theorem dL_405 : decode code 405 = .ok (.iadd, 1) := by decide +kernel
theorem dL_406 : decode code 406 = .ok (.iaload, 1) := by decide +kernel
theorem dL_407 : decode code 407 = .ok (.invokevirtual 52, 3) := by decide +kernel
theorem dL_410 : decode code 410 = .ok (.if_icmp .eq 663, 3) := by decide +kernel
theorem dL_413 : decode code 413 = .ok (.iconst 0, 1) := by decide +kernel
theorem dL_414 : decode code 414 = .ok (.ireturn, 1) := by decide +kernel
theorem dL_415 : decode code 415 = .ok (.aload_n 1, 1) := by decide +kernel
theorem dL_416 : decode code 416 = .ok (.aload_n 0, 1) := by decide +kernel
theorem dL_417 : decode code 417 = .ok (.iload_n 3, 1) := by decide +kernel
theorem dL_418 : decode code 418 = .ok (.iconst 1, 1) := by decide +kernel
theorem dL_419 : decode code 419 = .ok (.iadd, 1) := by decide +kernel
theorem dL_420 : decode code 420 = .ok (.iaload, 1) := by decide +kernel
theorem dL_421 : decode code 421 = .ok (.invokevirtual 53, 3) := by decide +kernel
theorem dL_424 : decode code 424 = .ok (.aload_n 2, 1) := by decide +kernel
theorem dL_425 : decode code 425 = .ok (.aload_n 0, 1) := by decide +kernel
theorem dL_426 : decode code 426 = .ok (.iload_n 3, 1) := by decide +kernel
theorem dL_427 : decode code 427 = .ok (.iconst 1, 1) := by decide +kernel
theorem dL_428 : decode code 428 = .ok (.iadd, 1) := by decide +kernel
theorem dL_429 : decode code 429 = .ok (.iaload, 1) := by decide +kernel
theorem dL_430 : decode code 430 = .ok (.invokevirtual 56, 3) := by decide +kernel
theorem dL_433 : decode code 433 = .ok (.if_icmp .eq 640, 3) := by decide +kernel
theorem dL_436 : decode code 436 = .ok (.iconst 0, 1) := by decide +kernel
theorem dL_437 : decode code 437 = .ok (.ireturn, 1) := by decide +kernel
theorem dL_438 : decode code 438 = .ok (.aload_n 1, 1) := by decide +kernel
theorem dL_439 : decode code 439 = .ok (.aload_n 0, 1) := by decide +kernel
theorem dL_440 : decode code 440 = .ok (.iload_n 3, 1) := by decide +kernel
theorem dL_441 : decode code 441 = .ok (.iconst 1, 1) := by decide +kernel
theorem dL_442 : decode code 442 = .ok (.iadd, 1) := by decide +kernel
theorem dL_443 : decode code 443 = .ok (.iaload, 1) := by decide +kernel
theorem dL_444 : decode code 444 = .ok (.aload_n 0, 1) := by decide +kernel
theorem dL_445 : decode code 445 = .ok (.iload_n 3, 1) := by decide +kernel
theorem dL_446 : decode code 446 = .ok (.iconst 2, 1) := by decide +kernel
theorem dL_447 : decode code 447 = .ok (.iadd, 1) := by decide +kernel
theorem dL_448 : decode code 448 = .ok (.iaload, 1) := by decide +kernel
theorem dL_449 : decode code 449 = .ok (.invokevirtual 57, 3) := by decide +kernel
theorem dL_452 : decode code 452 = .ok (.aload_n 2, 1) := by decide +kernel
theorem dL_453 : decode code 453 = .ok (.aload_n 0, 1) := by decide +kernel
theorem dL_454 : decode code 454 = .ok (.iload_n 3, 1) := by decide +kernel
theorem dL_455 : decode code 455 = .ok (.iconst 1, 1) := by decide +kernel
theorem dL_456 : decode code 456 = .ok (.iadd, 1) := by decide +kernel
theorem dL_457 : decode code 457 = .ok (.iaload, 1) := by decide +kernel
theorem dL_458 : decode code 458 = .ok (.aload_n 0, 1) := by decide +kernel
theorem dL_459 : decode code 459 = .ok (.iload_n 3, 1) := by decide +kernel
theorem dL_460 : decode code 460 = .ok (.iconst 2, 1) := by decide +kernel
theorem dL_461 : decode code 461 = .ok (.iadd, 1) := by decide +kernel
theorem dL_462 : decode code 462 = .ok (.iaload, 1) := by decide +kernel
theorem dL_463 : decode code 463 = .ok (.invokevirtual 60, 3) := by decide +kernel
theorem dL_466 : decode code 466 = .ok (.if_icmp .eq 607, 3) := by decide +kernel
theorem dL_469 : decode code 469 = .ok (.iconst 0, 1) := by decide +kernel
theorem dL_470 : decode code 470 = .ok (.ireturn, 1) := by decide +kernel
theorem dL_471 : decode code 471 = .ok (.aload_n 1, 1) := by decide +kernel
theorem dL_472 : decode code 472 = .ok (.aload_n 0, 1) := by decide +kernel
theorem dL_473 : decode code 473 = .ok (.iload_n 3, 1) := by decide +kernel
theorem dL_474 : decode code 474 = .ok (.iconst 1, 1) := by decide +kernel
theorem dL_475 : decode code 475 = .ok (.iadd, 1) := by decide +kernel
theorem dL_476 : decode code 476 = .ok (.iaload, 1) := by decide +kernel
theorem dL_477 : decode code 477 = .ok (.aload_n 0, 1) := by decide +kernel
theorem dL_478 : decode code 478 = .ok (.iload_n 3, 1) := by decide +kernel
theorem dL_479 : decode code 479 = .ok (.iconst 2, 1) := by decide +kernel
theorem dL_480 : decode code 480 = .ok (.iadd, 1) := by decide +kernel
theorem dL_481 : decode code 481 = .ok (.iaload, 1) := by decide +kernel
theorem dL_482 : decode code 482 = .ok (.invokevirtual 61, 3) := by decide +kernel
theorem dL_485 : decode code 485 = .ok (.aload_n 2, 1) := by decide +kernel
theorem dL_486 : decode code 486 = .ok (.aload_n 0, 1) := by decide +kernel
theorem dL_487 : decode code 487 = .ok (.iload_n 3, 1) := by decide +kernel
theorem dL_488 : decode code 488 = .ok (.iconst 1, 1) := by decide +kernel
theorem dL_489 : decode code 489 = .ok (.iadd, 1) := by decide +kernel
theorem dL_490 : decode code 490 = .ok (.iaload, 1) := by decide +kernel
theorem dL_491 : decode code 491 = .ok (.aload_n 0, 1) := by decide +kernel
theorem dL_492 : decode code 492 = .ok (.iload_n 3, 1) := by decide +kernel
theorem dL_493 : decode code 493 = .ok (.iconst 2, 1) := by decide +kernel
theorem dL_494 : decode code 494 = .ok (.iadd, 1) := by decide +kernel
theorem dL_495 : decode code 495 = .ok (.iaload, 1) := by decide +kernel
theorem dL_496 : decode code 496 = .ok (.invokevirtual 64, 3) := by decide +kernel
theorem dL_499 : decode code 499 = .ok (.if_icmp .eq 574, 3) := by decide +kernel
theorem dL_502 : decode code 502 = .ok (.iconst 0, 1) := by decide +kernel
theorem dL_503 : decode code 503 = .ok (.ireturn, 1) := by decide +kernel
theorem dL_504 : decode code 504 = .ok (.aload_n 1, 1) := by decide +kernel
theorem dL_505 : decode code 505 = .ok (.invokevirtual 65, 3) := by decide +kernel
theorem dL_508 : decode code 508 = .ok (.aload_n 2, 1) := by decide +kernel
theorem dL_509 : decode code 509 = .ok (.invokevirtual 68, 3) := by decide +kernel
theorem dL_512 : decode code 512 = .ok (.if_icmp .eq 561, 3) := by decide +kernel
theorem dL_515 : decode code 515 = .ok (.iconst 0, 1) := by decide +kernel
theorem dL_516 : decode code 516 = .ok (.ireturn, 1) := by decide +kernel
theorem dL_517 : decode code 517 = .ok (.aload_n 1, 1) := by decide +kernel
theorem dL_518 : decode code 518 = .ok (.aload_n 0, 1) := by decide +kernel
theorem dL_519 : decode code 519 = .ok (.iload_n 3, 1) := by decide +kernel
theorem dL_520 : decode code 520 = .ok (.iconst 1, 1) := by decide +kernel
theorem dL_521 : decode code 521 = .ok (.iadd, 1) := by decide +kernel
theorem dL_522 : decode code 522 = .ok (.iaload, 1) := by decide +kernel
theorem dL_523 : decode code 523 = .ok (.aload_n 0, 1) := by decide +kernel
theorem dL_524 : decode code 524 = .ok (.iload_n 3, 1) := by decide +kernel
theorem dL_525 : decode code 525 = .ok (.iconst 2, 1) := by decide +kernel
theorem dL_526 : decode code 526 = .ok (.iadd, 1) := by decide +kernel
theorem dL_527 : decode code 527 = .ok (.iaload, 1) := by decide +kernel
theorem dL_528 : decode code 528 = .ok (.invokevirtual 69, 3) := by decide +kernel
theorem dL_531 : decode code 531 = .ok (.aload_n 2, 1) := by decide +kernel
theorem dL_532 : decode code 532 = .ok (.aload_n 0, 1) := by decide +kernel
theorem dL_533 : decode code 533 = .ok (.iload_n 3, 1) := by decide +kernel
theorem dL_534 : decode code 534 = .ok (.iconst 1, 1) := by decide +kernel
theorem dL_535 : decode code 535 = .ok (.iadd, 1) := by decide +kernel
theorem dL_536 : decode code 536 = .ok (.iaload, 1) := by decide +kernel
theorem dL_537 : decode code 537 = .ok (.aload_n 0, 1) := by decide +kernel
theorem dL_538 : decode code 538 = .ok (.iload_n 3, 1) := by decide +kernel
theorem dL_539 : decode code 539 = .ok (.iconst 2, 1) := by decide +kernel
theorem dL_540 : decode code 540 = .ok (.iadd, 1) := by decide +kernel
theorem dL_541 : decode code 541 = .ok (.iaload, 1) := by decide +kernel
theorem dL_542 : decode code 542 = .ok (.invokevirtual 72, 3) := by decide +kernel
theorem dL_545 : decode code 545 = .ok (.if_icmp .eq 528, 3) := by decide +kernel
theorem dL_548 : decode code 548 = .ok (.iconst 0, 1) := by decide +kernel
theorem dL_549 : decode code 549 = .ok (.ireturn, 1) := by decide +kernel
theorem dL_550 : decode code 550 = .ok (.aload_n 1, 1) := by decide +kernel
theorem dL_551 : decode code 551 = .ok (.aload_n 0, 1) := by decide +kernel
theorem dL_552 : decode code 552 = .ok (.iload_n 3, 1) := by decide +kernel
theorem dL_553 : decode code 553 = .ok (.iconst 1, 1) := by decide +kernel
theorem dL_554 : decode code 554 = .ok (.iadd, 1) := by decide +kernel
theorem dL_555 : decode code 555 = .ok (.iaload, 1) := by decide +kernel
theorem dL_556 : decode code 556 = .ok (.aload_n 0, 1) := by decide +kernel
theorem dL_557 : decode code 557 = .ok (.iload_n 3, 1) := by decide +kernel
theorem dL_558 : decode code 558 = .ok (.iconst 2, 1) := by decide +kernel
theorem dL_559 : decode code 559 = .ok (.iadd, 1) := by decide +kernel
theorem dL_560 : decode code 560 = .ok (.iaload, 1) := by decide +kernel
theorem dL_561 : decode code 561 = .ok (.invokevirtual 73, 3) := by decide +kernel
theorem dL_564 : decode code 564 = .ok (.aload_n 2, 1) := by decide +kernel
theorem dL_565 : decode code 565 = .ok (.aload_n 0, 1) := by decide +kernel
theorem dL_566 : decode code 566 = .ok (.iload_n 3, 1) := by decide +kernel
theorem dL_567 : decode code 567 = .ok (.iconst 1, 1) := by decide +kernel
theorem dL_568 : decode code 568 = .ok (.iadd, 1) := by decide +kernel
theorem dL_569 : decode code 569 = .ok (.iaload, 1) := by decide +kernel
theorem dL_570 : decode code 570 = .ok (.aload_n 0, 1) := by decide +kernel
theorem dL_571 : decode code 571 = .ok (.iload_n 3, 1) := by decide +kernel
theorem dL_572 : decode code 572 = .ok (.iconst 2, 1) := by decide +kernel
theorem dL_573 : decode code 573 = .ok (.iadd, 1) := by decide +kernel
theorem dL_574 : decode code 574 = .ok (.iaload, 1) := by decide +kernel
theorem dL_575 : decode code 575 = .ok (.invokevirtual 76, 3) := by decide +kernel
theorem dL_578 : decode code 578 = .ok (.if_icmp .eq 495, 3) := by decide +kernel
theorem dL_581 : decode code 581 = .ok (.iconst 0, 1) := by decide +kernel
theorem dL_582 : decode code 582 = .ok (.ireturn, 1) := by decide +kernel
theorem dL_583 : decode code 583 = .ok (.aload_n 1, 1) := by decide +kernel
theorem dL_584 : decode code 584 = .ok (.aload_n 0, 1) := by decide +kernel
theorem dL_585 : decode code 585 = .ok (.iload_n 3, 1) := by decide +kernel
theorem dL_586 : decode code 586 = .ok (.iconst 1, 1) := by decide +kernel
theorem dL_587 : decode code 587 = .ok (.iadd, 1) := by decide +kernel
theorem dL_588 : decode code 588 = .ok (.iaload, 1) := by decide +kernel
theorem dL_589 : decode code 589 = .ok (.invokevirtual 77, 3) := by decide +kernel
theorem dL_592 : decode code 592 = .ok (.aload_n 2, 1) := by decide +kernel
theorem dL_593 : decode code 593 = .ok (.aload_n 0, 1) := by decide +kernel
theorem dL_594 : decode code 594 = .ok (.iload_n 3, 1) := by decide +kernel
theorem dL_595 : decode code 595 = .ok (.iconst 1, 1) := by decide +kernel
theorem dL_596 : decode code 596 = .ok (.iadd, 1) := by decide +kernel
theorem dL_597 : decode code 597 = .ok (.iaload, 1) := by decide +kernel
theorem dL_598 : decode code 598 = .ok (.invokevirtual 80, 3) := by decide +kernel
theorem dL_601 : decode code 601 = .ok (.if_icmp .eq 472, 3) := by decide +kernel
theorem dL_604 : decode code 604 = .ok (.iconst 0, 1) := by decide +kernel
theorem dL_605 : decode code 605 = .ok (.ireturn, 1) := by decide +kernel
theorem dL_606 : decode code 606 = .ok (.aload_n 1, 1) := by decide +kernel
theorem dL_607 : decode code 607 = .ok (.aload_n 0, 1) := by decide +kernel
theorem dL_608 : decode code 608 = .ok (.iload_n 3, 1) := by decide +kernel
theorem dL_609 : decode code 609 = .ok (.iconst 1, 1) := by decide +kernel
theorem dL_610 : decode code 610 = .ok (.iadd, 1) := by decide +kernel
theorem dL_611 : decode code 611 = .ok (.iaload, 1) := by decide +kernel
theorem dL_612 : decode code 612 = .ok (.invokevirtual 81, 3) := by decide +kernel
theorem dL_615 : decode code 615 = .ok (.aload_n 2, 1) := by decide +kernel
theorem dL_616 : decode code 616 = .ok (.aload_n 0, 1) := by decide +kernel
theorem dL_617 : decode code 617 = .ok (.iload_n 3, 1) := by decide +kernel
theorem dL_618 : decode code 618 = .ok (.iconst 1, 1) := by decide +kernel
theorem dL_619 : decode code 619 = .ok (.iadd, 1) := by decide +kernel
theorem dL_620 : decode code 620 = .ok (.iaload, 1) := by decide +kernel
theorem dL_621 : decode code 621 = .ok (.invokevirtual 84, 3) := by decide +kernel
theorem dL_624 : decode code 624 = .ok (.if_icmp .eq 449, 3) := by decide +kernel
theorem dL_627 : decode code 627 = .ok (.iconst 0, 1) := by decide +kernel
theorem dL_628 : decode code 628 = .ok (.ireturn, 1) := by decide +kernel
theorem dL_629 : decode code 629 = .ok (.aload_n 1, 1) := by decide +kernel
theorem dL_630 : decode code 630 = .ok (.aload_n 0, 1) := by decide +kernel
theorem dL_631 : decode code 631 = .ok (.iload_n 3, 1) := by decide +kernel
theorem dL_632 : decode code 632 = .ok (.iconst 1, 1) := by decide +kernel
theorem dL_633 : decode code 633 = .ok (.iadd, 1) := by decide +kernel
theorem dL_634 : decode code 634 = .ok (.iaload, 1) := by decide +kernel
theorem dL_635 : decode code 635 = .ok (.invokevirtual 85, 3) := by decide +kernel
theorem dL_638 : decode code 638 = .ok (.aload_n 2, 1) := by decide +kernel
theorem dL_639 : decode code 639 = .ok (.aload_n 0, 1) := by decide +kernel
theorem dL_640 : decode code 640 = .ok (.iload_n 3, 1) := by decide +kernel
theorem dL_641 : decode code 641 = .ok (.iconst 1, 1) := by decide +kernel
theorem dL_642 : decode code 642 = .ok (.iadd, 1) := by decide +kernel
theorem dL_643 : decode code 643 = .ok (.iaload, 1) := by decide +kernel
theorem dL_644 : decode code 644 = .ok (.invokevirtual 88, 3) := by decide +kernel
theorem dL_647 : decode code 647 = .ok (.if_icmp .eq 426, 3) := by decide +kernel
theorem dL_650 : decode code 650 = .ok (.iconst 0, 1) := by decide +kernel
theorem dL_651 : decode code 651 = .ok (.ireturn, 1) := by decide +kernel
theorem dL_652 : decode code 652 = .ok (.aload_n 1, 1) := by decide +kernel
theorem dL_653 : decode code 653 = .ok (.invokevirtual 89, 3) := by decide +kernel
theorem dL_656 : decode code 656 = .ok (.aload_n 2, 1) := by decide +kernel
theorem dL_657 : decode code 657 = .ok (.invokevirtual 92, 3) := by decide +kernel
theorem dL_660 : decode code 660 = .ok (.if_icmp .eq 413, 3) := by decide +kernel
theorem dL_663 : decode code 663 = .ok (.iconst 0, 1) := by decide +kernel
theorem dL_664 : decode code 664 = .ok (.ireturn, 1) := by decide +kernel
theorem dL_665 : decode code 665 = .ok (.aload_n 1, 1) := by decide +kernel
theorem dL_666 : decode code 666 = .ok (.aload_n 0, 1) := by decide +kernel
theorem dL_667 : decode code 667 = .ok (.iload_n 3, 1) := by decide +kernel
theorem dL_668 : decode code 668 = .ok (.iconst 1, 1) := by decide +kernel
theorem dL_669 : decode code 669 = .ok (.iadd, 1) := by decide +kernel
theorem dL_670 : decode code 670 = .ok (.iaload, 1) := by decide +kernel
theorem dL_671 : decode code 671 = .ok (.invokevirtual 93, 3) := by decide +kernel
theorem dL_674 : decode code 674 = .ok (.aload_n 2, 1) := by decide +kernel
theorem dL_675 : decode code 675 = .ok (.aload_n 0, 1) := by decide +kernel
theorem dL_676 : decode code 676 = .ok (.iload_n 3, 1) := by decide +kernel
theorem dL_677 : decode code 677 = .ok (.iconst 1, 1) := by decide +kernel
theorem dL_678 : decode code 678 = .ok (.iadd, 1) := by decide +kernel
theorem dL_679 : decode code 679 = .ok (.iaload, 1) := by decide +kernel
theorem dL_680 : decode code 680 = .ok (.invokevirtual 96, 3) := by decide +kernel
theorem dL_683 : decode code 683 = .ok (.if_icmp .eq 390, 3) := by decide +kernel
theorem dL_686 : decode code 686 = .ok (.iconst 0, 1) := by decide +kernel
theorem dL_687 : decode code 687 = .ok (.ireturn, 1) := by decide +kernel
theorem dL_688 : decode code 688 = .ok (.aload_n 1, 1) := by decide +kernel
theorem dL_689 : decode code 689 = .ok (.aload_n 0, 1) := by decide +kernel
theorem dL_690 : decode code 690 = .ok (.iload_n 3, 1) := by decide +kernel
theorem dL_691 : decode code 691 = .ok (.iconst 1, 1) := by decide +kernel
theorem dL_692 : decode code 692 = .ok (.iadd, 1) := by decide +kernel
theorem dL_693 : decode code 693 = .ok (.iaload, 1) := by decide +kernel
theorem dL_694 : decode code 694 = .ok (.invokevirtual 97, 3) := by decide +kernel
theorem dL_697 : decode code 697 = .ok (.aload_n 2, 1) := by decide +kernel
theorem dL_698 : decode code 698 = .ok (.aload_n 0, 1) := by decide +kernel
theorem dL_699 : decode code 699 = .ok (.iload_n 3, 1) := by decide +kernel
theorem dL_700 : decode code 700 = .ok (.iconst 1, 1) := by decide +kernel
theorem dL_701 : decode code 701 = .ok (.iadd, 1) := by decide +kernel
theorem dL_702 : decode code 702 = .ok (.iaload, 1) := by decide +kernel
theorem dL_703 : decode code 703 = .ok (.invokevirtual 100, 3) := by decide +kernel
theorem dL_706 : decode code 706 = .ok (.if_icmp .eq 367, 3) := by decide +kernel
theorem dL_709 : decode code 709 = .ok (.iconst 0, 1) := by decide +kernel
theorem dL_710 : decode code 710 = .ok (.ireturn, 1) := by decide +kernel
theorem dL_711 : decode code 711 = .ok (.aload_n 1, 1) := by decide +kernel
theorem dL_712 : decode code 712 = .ok (.aload_n 0, 1) := by decide +kernel
theorem dL_713 : decode code 713 = .ok (.iload_n 3, 1) := by decide +kernel
theorem dL_714 : decode code 714 = .ok (.iconst 1, 1) := by decide +kernel
theorem dL_715 : decode code 715 = .ok (.iadd, 1) := by decide +kernel
theorem dL_716 : decode code 716 = .ok (.iaload, 1) := by decide +kernel
theorem dL_717 : decode code 717 = .ok (.invokevirtual 101, 3) := by decide +kernel
theorem dL_720 : decode code 720 = .ok (.aload_n 2, 1) := by decide +kernel
theorem dL_721 : decode code 721 = .ok (.aload_n 0, 1) := by decide +kernel
theorem dL_722 : decode code 722 = .ok (.iload_n 3, 1) := by decide +kernel
theorem dL_723 : decode code 723 = .ok (.iconst 1, 1) := by decide +kernel
theorem dL_724 : decode code 724 = .ok (.iadd, 1) := by decide +kernel
theorem dL_725 : decode code 725 = .ok (.iaload, 1) := by decide +kernel
theorem dL_726 : decode code 726 = .ok (.invokevirtual 104, 3) := by decide +kernel
theorem dL_729 : decode code 729 = .ok (.if_icmp .eq 344, 3) := by decide +kernel
theorem dL_732 : decode code 732 = .ok (.iconst 0, 1) := by decide +kernel
theorem dL_733 : decode code 733 = .ok (.ireturn, 1) := by decide +kernel
theorem dL_734 : decode code 734 = .ok (.aload_n 1, 1) := by decide +kernel
theorem dL_735 : decode code 735 = .ok (.aload_n 0, 1) := by decide +kernel
theorem dL_736 : decode code 736 = .ok (.iload_n 3, 1) := by decide +kernel
theorem dL_737 : decode code 737 = .ok (.iconst 1, 1) := by decide +kernel
theorem dL_738 : decode code 738 = .ok (.iadd, 1) := by decide +kernel
theorem dL_739 : decode code 739 = .ok (.iaload, 1) := by decide +kernel
theorem dL_740 : decode code 740 = .ok (.invokevirtual 105, 3) := by decide +kernel
theorem dL_743 : decode code 743 = .ok (.aload_n 2, 1) := by decide +kernel
theorem dL_744 : decode code 744 = .ok (.aload_n 0, 1) := by decide +kernel
theorem dL_745 : decode code 745 = .ok (.iload_n 3, 1) := by decide +kernel
theorem dL_746 : decode code 746 = .ok (.iconst 1, 1) := by decide +kernel
theorem dL_747 : decode code 747 = .ok (.iadd, 1) := by decide +kernel
theorem dL_748 : decode code 748 = .ok (.iaload, 1) := by decide +kernel
theorem dL_749 : decode code 749 = .ok (.invokevirtual 108, 3) := by decide +kernel
theorem dL_752 : decode code 752 = .ok (.if_icmp .eq 321, 3) := by decide +kernel
theorem dL_755 : decode code 755 = .ok (.iconst 0, 1) := by decide +kernel
theorem dL_756 : decode code 756 = .ok (.ireturn, 1) := by decide +kernel
theorem dL_757 : decode code 757 = .ok (.aload_n 1, 1) := by decide +kernel
theorem dL_758 : decode code 758 = .ok (.aload_n 0, 1) := by decide +kernel
theorem dL_759 : decode code 759 = .ok (.iload_n 3, 1) := by decide +kernel
theorem dL_760 : decode code 760 = .ok (.iconst 1, 1) := by decide +kernel
theorem dL_761 : decode code 761 = .ok (.iadd, 1) := by decide +kernel
theorem dL_762 : decode code 762 = .ok (.iaload, 1) := by decide +kernel
theorem dL_763 : decode code 763 = .ok (.invokevirtual 109, 3) := by decide +kernel
theorem dL_766 : decode code 766 = .ok (.aload_n 2, 1) := by decide +kernel
theorem dL_767 : decode code 767 = .ok (.aload_n 0, 1) := by decide +kernel
theorem dL_768 : decode code 768 = .ok (.iload_n 3, 1) := by decide +kernel
theorem dL_769 : decode code 769 = .ok (.iconst 1, 1) := by decide +kernel
theorem dL_770 : decode code 770 = .ok (.iadd, 1) := by decide +kernel
theorem dL_771 : decode code 771 = .ok (.iaload, 1) := by decide +kernel
theorem dL_772 : decode code 772 = .ok (.invokevirtual 112, 3) := by decide +kernel
theorem dL_775 : decode code 775 = .ok (.if_icmp .eq 298, 3) := by decide +kernel
theorem dL_778 : decode code 778 = .ok (.iconst 0, 1) := by decide +kernel
theorem dL_779 : decode code 779 = .ok (.ireturn, 1) := by decide +kernel
theorem dL_780 : decode code 780 = .ok (.aload_n 1, 1) := by decide +kernel
theorem dL_781 : decode code 781 = .ok (.aload_n 0, 1) := by decide +kernel
theorem dL_782 : decode code 782 = .ok (.iload_n 3, 1) := by decide +kernel
theorem dL_783 : decode code 783 = .ok (.iconst 1, 1) := by decide +kernel
theorem dL_784 : decode code 784 = .ok (.iadd, 1) := by decide +kernel
theorem dL_785 : decode code 785 = .ok (.iaload, 1) := by decide +kernel
theorem dL_786 : decode code 786 = .ok (.aload_n 0, 1) := by decide +kernel
theorem dL_787 : decode code 787 = .ok (.iload_n 3, 1) := by decide +kernel
theorem dL_788 : decode code 788 = .ok (.iconst 2, 1) := by decide +kernel
theorem dL_789 : decode code 789 = .ok (.iadd, 1) := by decide +kernel
theorem dL_790 : decode code 790 = .ok (.iaload, 1) := by decide +kernel
theorem dL_791 : decode code 791 = .ok (.invokevirtual 113, 3) := by decide +kernel
theorem dL_794 : decode code 794 = .ok (.aload_n 2, 1) := by decide +kernel
theorem dL_795 : decode code 795 = .ok (.aload_n 0, 1) := by decide +kernel
theorem dL_796 : decode code 796 = .ok (.iload_n 3, 1) := by decide +kernel
theorem dL_797 : decode code 797 = .ok (.iconst 1, 1) := by decide +kernel
theorem dL_798 : decode code 798 = .ok (.iadd, 1) := by decide +kernel
theorem dL_799 : decode code 799 = .ok (.iaload, 1) := by decide +kernel
theorem dL_800 : decode code 800 = .ok (.aload_n 0, 1) := by decide +kernel
theorem dL_801 : decode code 801 = .ok (.iload_n 3, 1) := by decide +kernel
theorem dL_802 : decode code 802 = .ok (.iconst 2, 1) := by decide +kernel
theorem dL_803 : decode code 803 = .ok (.iadd, 1) := by decide +kernel
theorem dL_804 : decode code 804 = .ok (.iaload, 1) := by decide +kernel
theorem dL_805 : decode code 805 = .ok (.invokevirtual 116, 3) := by decide +kernel
theorem dL_808 : decode code 808 = .ok (.if_icmp .eq 265, 3) := by decide +kernel
theorem dL_811 : decode code 811 = .ok (.iconst 0, 1) := by decide +kernel
theorem dL_812 : decode code 812 = .ok (.ireturn, 1) := by decide +kernel
theorem dL_813 : decode code 813 = .ok (.aload_n 1, 1) := by decide +kernel
theorem dL_814 : decode code 814 = .ok (.aload_n 0, 1) := by decide +kernel
theorem dL_815 : decode code 815 = .ok (.iload_n 3, 1) := by decide +kernel
theorem dL_816 : decode code 816 = .ok (.iconst 1, 1) := by decide +kernel
theorem dL_817 : decode code 817 = .ok (.iadd, 1) := by decide +kernel
theorem dL_818 : decode code 818 = .ok (.iaload, 1) := by decide +kernel
theorem dL_819 : decode code 819 = .ok (.invokevirtual 117, 3) := by decide +kernel
theorem dL_822 : decode code 822 = .ok (.aload_n 2, 1) := by decide +kernel
theorem dL_823 : decode code 823 = .ok (.aload_n 0, 1) := by decide +kernel
theorem dL_824 : decode code 824 = .ok (.iload_n 3, 1) := by decide +kernel
theorem dL_825 : decode code 825 = .ok (.iconst 1, 1) := by decide +kernel
theorem dL_826 : decode code 826 = .ok (.iadd, 1) := by decide +kernel
theorem dL_827 : decode code 827 = .ok (.iaload, 1) := by decide +kernel
theorem dL_828 : decode code 828 = .ok (.invokevirtual 120, 3) := by decide +kernel
theorem dL_831 : decode code 831 = .ok (.if_icmp .eq 242, 3) := by decide +kernel
theorem dL_834 : decode code 834 = .ok (.iconst 0, 1) := by decide +kernel
theorem dL_835 : decode code 835 = .ok (.ireturn, 1) := by decide +kernel
theorem dL_836 : decode code 836 = .ok (.aload_n 1, 1) := by decide +kernel
theorem dL_837 : decode code 837 = .ok (.aload_n 0, 1) := by decide +kernel
theorem dL_838 : decode code 838 = .ok (.iload_n 3, 1) := by decide +kernel
theorem dL_839 : decode code 839 = .ok (.iconst 1, 1) := by decide +kernel
theorem dL_840 : decode code 840 = .ok (.iadd, 1) := by decide +kernel
theorem dL_841 : decode code 841 = .ok (.iaload, 1) := by decide +kernel
theorem dL_842 : decode code 842 = .ok (.aload_n 0, 1) := by decide +kernel
theorem dL_843 : decode code 843 = .ok (.iload_n 3, 1) := by decide +kernel
theorem dL_844 : decode code 844 = .ok (.iconst 2, 1) := by decide +kernel
theorem dL_845 : decode code 845 = .ok (.iadd, 1) := by decide +kernel
theorem dL_846 : decode code 846 = .ok (.iaload, 1) := by decide +kernel
theorem dL_847 : decode code 847 = .ok (.invokevirtual 121, 3) := by decide +kernel
theorem dL_850 : decode code 850 = .ok (.aload_n 2, 1) := by decide +kernel
theorem dL_851 : decode code 851 = .ok (.aload_n 0, 1) := by decide +kernel
theorem dL_852 : decode code 852 = .ok (.iload_n 3, 1) := by decide +kernel
theorem dL_853 : decode code 853 = .ok (.iconst 1, 1) := by decide +kernel
theorem dL_854 : decode code 854 = .ok (.iadd, 1) := by decide +kernel
theorem dL_855 : decode code 855 = .ok (.iaload, 1) := by decide +kernel
theorem dL_856 : decode code 856 = .ok (.aload_n 0, 1) := by decide +kernel
theorem dL_857 : decode code 857 = .ok (.iload_n 3, 1) := by decide +kernel
theorem dL_858 : decode code 858 = .ok (.iconst 2, 1) := by decide +kernel
theorem dL_859 : decode code 859 = .ok (.iadd, 1) := by decide +kernel
theorem dL_860 : decode code 860 = .ok (.iaload, 1) := by decide +kernel
theorem dL_861 : decode code 861 = .ok (.invokevirtual 124, 3) := by decide +kernel
theorem dL_864 : decode code 864 = .ok (.if_icmp .eq 209, 3) := by decide +kernel
theorem dL_867 : decode code 867 = .ok (.iconst 0, 1) := by decide +kernel
theorem dL_868 : decode code 868 = .ok (.ireturn, 1) := by decide +kernel
theorem dL_869 : decode code 869 = .ok (.aload_n 1, 1) := by decide +kernel
theorem dL_870 : decode code 870 = .ok (.aload_n 0, 1) := by decide +kernel
theorem dL_871 : decode code 871 = .ok (.iload_n 3, 1) := by decide +kernel
theorem dL_872 : decode code 872 = .ok (.iconst 1, 1) := by decide +kernel
theorem dL_873 : decode code 873 = .ok (.iadd, 1) := by decide +kernel
theorem dL_874 : decode code 874 = .ok (.iaload, 1) := by decide +kernel
theorem dL_875 : decode code 875 = .ok (.aload_n 0, 1) := by decide +kernel
theorem dL_876 : decode code 876 = .ok (.iload_n 3, 1) := by decide +kernel
theorem dL_877 : decode code 877 = .ok (.iconst 2, 1) := by decide +kernel
theorem dL_878 : decode code 878 = .ok (.iadd, 1) := by decide +kernel
theorem dL_879 : decode code 879 = .ok (.iaload, 1) := by decide +kernel
theorem dL_880 : decode code 880 = .ok (.invokevirtual 125, 3) := by decide +kernel
theorem dL_883 : decode code 883 = .ok (.aload_n 2, 1) := by decide +kernel
theorem dL_884 : decode code 884 = .ok (.aload_n 0, 1) := by decide +kernel
theorem dL_885 : decode code 885 = .ok (.iload_n 3, 1) := by decide +kernel
theorem dL_886 : decode code 886 = .ok (.iconst 1, 1) := by decide +kernel
theorem dL_887 : decode code 887 = .ok (.iadd, 1) := by decide +kernel
theorem dL_888 : decode code 888 = .ok (.iaload, 1) := by decide +kernel
theorem dL_889 : decode code 889 = .ok (.aload_n 0, 1) := by decide +kernel
theorem dL_890 : decode code 890 = .ok (.iload_n 3, 1) := by decide +kernel
theorem dL_891 : decode code 891 = .ok (.iconst 2, 1) := by decide +kernel
theorem dL_892 : decode code 892 = .ok (.iadd, 1) := by decide +kernel
theorem dL_893 : decode code 893 = .ok (.iaload, 1) := by decide +kernel
theorem dL_894 : decode code 894 = .ok (.invokevirtual 128, 3) := by decide +kernel
theorem dL_897 : decode code 897 = .ok (.if_icmp .eq 176, 3) := by decide +kernel
theorem dL_900 : decode code 900 = .ok (.iconst 0, 1) := by decide +kernel
theorem dL_901 : decode code 901 = .ok (.ireturn, 1) := by decide +kernel
theorem dL_902 : decode code 902 = .ok (.aload_n 1, 1) := by decide +kernel
theorem dL_903 : decode code 903 = .ok (.aload_n 0, 1) := by decide +kernel
theorem dL_904 : decode code 904 = .ok (.iload_n 3, 1) := by decide +kernel
theorem dL_905 : decode code 905 = .ok (.iconst 1, 1) := by decide +kernel
theorem dL_906 : decode code 906 = .ok (.iadd, 1) := by decide +kernel
theorem dL_907 : decode code 907 = .ok (.iaload, 1) := by decide +kernel
theorem dL_908 : decode code 908 = .ok (.invokevirtual 129, 3) := by decide +kernel
theorem dL_911 : decode code 911 = .ok (.aload_n 2, 1) := by decide +kernel
theorem dL_912 : decode code 912 = .ok (.aload_n 0, 1) := by decide +kernel
theorem dL_913 : decode code 913 = .ok (.iload_n 3, 1) := by decide +kernel
theorem dL_914 : decode code 914 = .ok (.iconst 1, 1) := by decide +kernel
theorem dL_915 : decode code 915 = .ok (.iadd, 1) := by decide +kernel
theorem dL_916 : decode code 916 = .ok (.iaload, 1) := by decide +kernel
theorem dL_917 : decode code 917 = .ok (.invokevirtual 132, 3) := by decide +kernel
theorem dL_920 : decode code 920 = .ok (.if_icmp .eq 153, 3) := by decide +kernel
theorem dL_923 : decode code 923 = .ok (.iconst 0, 1) := by decide +kernel
theorem dL_924 : decode code 924 = .ok (.ireturn, 1) := by decide +kernel
theorem dL_925 : decode code 925 = .ok (.aload_n 1, 1) := by decide +kernel
theorem dL_926 : decode code 926 = .ok (.aload_n 0, 1) := by decide +kernel
theorem dL_927 : decode code 927 = .ok (.iload_n 3, 1) := by decide +kernel
theorem dL_928 : decode code 928 = .ok (.iconst 1, 1) := by decide +kernel
theorem dL_929 : decode code 929 = .ok (.iadd, 1) := by decide +kernel
theorem dL_930 : decode code 930 = .ok (.iaload, 1) := by decide +kernel
theorem dL_931 : decode code 931 = .ok (.invokevirtual 133, 3) := by decide +kernel
theorem dL_934 : decode code 934 = .ok (.aload_n 2, 1) := by decide +kernel
theorem dL_935 : decode code 935 = .ok (.aload_n 0, 1) := by decide +kernel
theorem dL_936 : decode code 936 = .ok (.iload_n 3, 1) := by decide +kernel
theorem dL_937 : decode code 937 = .ok (.iconst 1, 1) := by decide +kernel
theorem dL_938 : decode code 938 = .ok (.iadd, 1) := by decide +kernel
theorem dL_939 : decode code 939 = .ok (.iaload, 1) := by decide +kernel
theorem dL_940 : decode code 940 = .ok (.invokevirtual 136, 3) := by decide +kernel
theorem dL_943 : decode code 943 = .ok (.if_icmp .eq 130, 3) := by decide +kernel
theorem dL_946 : decode code 946 = .ok (.iconst 0, 1) := by decide +kernel
theorem dL_947 : decode code 947 = .ok (.ireturn, 1) := by decide +kernel
theorem dL_948 : decode code 948 = .ok (.aload_n 1, 1) := by decide +kernel
theorem dL_949 : decode code 949 = .ok (.aload_n 0, 1) := by decide +kernel
theorem dL_950 : decode code 950 = .ok (.iload_n 3, 1) := by decide +kernel
theorem dL_951 : decode code 951 = .ok (.iconst 1, 1) := by decide +kernel
theorem dL_952 : decode code 952 = .ok (.iadd, 1) := by decide +kernel
theorem dL_953 : decode code 953 = .ok (.iaload, 1) := by decide +kernel
theorem dL_954 : decode code 954 = .ok (.invokevirtual 137, 3) := by decide +kernel
theorem dL_957 : decode code 957 = .ok (.aload_n 2, 1) := by decide +kernel
theorem dL_958 : decode code 958 = .ok (.aload_n 0, 1) := by decide +kernel
theorem dL_959 : decode code 959 = .ok (.iload_n 3, 1) := by decide +kernel
theorem dL_960 : decode code 960 = .ok (.iconst 1, 1) := by decide +kernel
theorem dL_961 : decode code 961 = .ok (.iadd, 1) := by decide +kernel
theorem dL_962 : decode code 962 = .ok (.iaload, 1) := by decide +kernel
theorem dL_963 : decode code 963 = .ok (.invokevirtual 140, 3) := by decide +kernel
theorem dL_966 : decode code 966 = .ok (.if_icmp .eq 107, 3) := by decide +kernel
theorem dL_969 : decode code 969 = .ok (.iconst 0, 1) := by decide +kernel
theorem dL_970 : decode code 970 = .ok (.ireturn, 1) := by decide +kernel
theorem dL_971 : decode code 971 = .ok (.aload_n 1, 1) := by decide +kernel
theorem dL_972 : decode code 972 = .ok (.aload_n 0, 1) := by decide +kernel
theorem dL_973 : decode code 973 = .ok (.iload_n 3, 1) := by decide +kernel
theorem dL_974 : decode code 974 = .ok (.iconst 1, 1) := by decide +kernel
theorem dL_975 : decode code 975 = .ok (.iadd, 1) := by decide +kernel
theorem dL_976 : decode code 976 = .ok (.iaload, 1) := by decide +kernel
theorem dL_977 : decode code 977 = .ok (.aload_n 0, 1) := by decide +kernel
theorem dL_978 : decode code 978 = .ok (.iload_n 3, 1) := by decide +kernel
theorem dL_979 : decode code 979 = .ok (.iconst 2, 1) := by decide +kernel
theorem dL_980 : decode code 980 = .ok (.iadd, 1) := by decide +kernel
theorem dL_981 : decode code 981 = .ok (.iaload, 1) := by decide +kernel
theorem dL_982 : decode code 982 = .ok (.invokevirtual 141, 3) := by decide +kernel
theorem dL_985 : decode code 985 = .ok (.aload_n 2, 1) := by decide +kernel
theorem dL_986 : decode code 986 = .ok (.aload_n 0, 1) := by decide +kernel
theorem dL_987 : decode code 987 = .ok (.iload_n 3, 1) := by decide +kernel
theorem dL_988 : decode code 988 = .ok (.iconst 1, 1) := by decide +kernel
theorem dL_989 : decode code 989 = .ok (.iadd, 1) := by decide +kernel
theorem dL_990 : decode code 990 = .ok (.iaload, 1) := by decide +kernel
theorem dL_991 : decode code 991 = .ok (.aload_n 0, 1) := by decide +kernel
theorem dL_992 : decode code 992 = .ok (.iload_n 3, 1) := by decide +kernel
theorem dL_993 : decode code 993 = .ok (.iconst 2, 1) := by decide +kernel
theorem dL_994 : decode code 994 = .ok (.iadd, 1) := by decide +kernel
theorem dL_995 : decode code 995 = .ok (.iaload, 1) := by decide +kernel
theorem dL_996 : decode code 996 = .ok (.invokevirtual 144, 3) := by decide +kernel
theorem dL_999 : decode code 999 = .ok (.if_icmp .eq 74, 3) := by decide +kernel
theorem dL_1002 : decode code 1002 = .ok (.iconst 0, 1) := by decide +kernel
theorem dL_1003 : decode code 1003 = .ok (.ireturn, 1) := by decide +kernel
theorem dL_1004 : decode code 1004 = .ok (.aload_n 1, 1) := by decide +kernel
theorem dL_1005 : decode code 1005 = .ok (.aload_n 0, 1) := by decide +kernel
theorem dL_1006 : decode code 1006 = .ok (.iload_n 3, 1) := by decide +kernel
theorem dL_1007 : decode code 1007 = .ok (.iconst 1, 1) := by decide +kernel
theorem dL_1008 : decode code 1008 = .ok (.iadd, 1) := by decide +kernel
theorem dL_1009 : decode code 1009 = .ok (.iaload, 1) := by decide +kernel
theorem dL_1010 : decode code 1010 = .ok (.invokevirtual 145, 3) := by decide +kernel
theorem dL_1013 : decode code 1013 = .ok (.aload_n 2, 1) := by decide +kernel
theorem dL_1014 : decode code 1014 = .ok (.aload_n 0, 1) := by decide +kernel
theorem dL_1015 : decode code 1015 = .ok (.iload_n 3, 1) := by decide +kernel
theorem dL_1016 : decode code 1016 = .ok (.iconst 1, 1) := by decide +kernel
theorem dL_1017 : decode code 1017 = .ok (.iadd, 1) := by decide +kernel
theorem dL_1018 : decode code 1018 = .ok (.iaload, 1) := by decide +kernel
theorem dL_1019 : decode code 1019 = .ok (.invokevirtual 148, 3) := by decide +kernel
theorem dL_1022 : decode code 1022 = .ok (.if_icmp .eq 51, 3) := by decide +kernel
theorem dL_1025 : decode code 1025 = .ok (.iconst 0, 1) := by decide +kernel
theorem dL_1026 : decode code 1026 = .ok (.ireturn, 1) := by decide +kernel
theorem dL_1027 : decode code 1027 = .ok (.aload_n 1, 1) := by decide +kernel
theorem dL_1028 : decode code 1028 = .ok (.aload_n 0, 1) := by decide +kernel
theorem dL_1029 : decode code 1029 = .ok (.iload_n 3, 1) := by decide +kernel
theorem dL_1030 : decode code 1030 = .ok (.iconst 1, 1) := by decide +kernel
theorem dL_1031 : decode code 1031 = .ok (.iadd, 1) := by decide +kernel
theorem dL_1032 : decode code 1032 = .ok (.iaload, 1) := by decide +kernel
theorem dL_1033 : decode code 1033 = .ok (.invokevirtual 149, 3) := by decide +kernel
theorem dL_1036 : decode code 1036 = .ok (.aload_n 2, 1) := by decide +kernel
theorem dL_1037 : decode code 1037 = .ok (.aload_n 0, 1) := by decide +kernel
theorem dL_1038 : decode code 1038 = .ok (.iload_n 3, 1) := by decide +kernel
theorem dL_1039 : decode code 1039 = .ok (.iconst 1, 1) := by decide +kernel
theorem dL_1040 : decode code 1040 = .ok (.iadd, 1) := by decide +kernel
theorem dL_1041 : decode code 1041 = .ok (.iaload, 1) := by decide +kernel
theorem dL_1042 : decode code 1042 = .ok (.invokevirtual 152, 3) := by decide +kernel
theorem dL_1045 : decode code 1045 = .ok (.if_icmp .eq 28, 3) := by decide +kernel
theorem dL_1048 : decode code 1048 = .ok (.iconst 0, 1) := by decide +kernel
theorem dL_1049 : decode code 1049 = .ok (.ireturn, 1) := by decide +kernel
theorem dL_1050 : decode code 1050 = .ok (.aload_n 1, 1) := by decide +kernel
theorem dL_1051 : decode code 1051 = .ok (.aload_n 0, 1) := by decide +kernel
theorem dL_1052 : decode code 1052 = .ok (.iload_n 3, 1) := by decide +kernel
theorem dL_1053 : decode code 1053 = .ok (.iconst 1, 1) := by decide +kernel
theorem dL_1054 : decode code 1054 = .ok (.iadd, 1) := by decide +kernel
theorem dL_1055 : decode code 1055 = .ok (.iaload, 1) := by decide +kernel
theorem dL_1056 : decode code 1056 = .ok (.invokevirtual 153, 3) := by decide +kernel
theorem dL_1059 : decode code 1059 = .ok (.aload_n 2, 1) := by decide +kernel
theorem dL_1060 : decode code 1060 = .ok (.aload_n 0, 1) := by decide +kernel
theorem dL_1061 : decode code 1061 = .ok (.iload_n 3, 1) := by decide +kernel
theorem dL_1062 : decode code 1062 = .ok (.iconst 1, 1) := by decide +kernel
theorem dL_1063 : decode code 1063 = .ok (.iadd, 1) := by decide +kernel
theorem dL_1064 : decode code 1064 = .ok (.iaload, 1) := by decide +kernel
theorem dL_1065 : decode code 1065 = .ok (.invokevirtual 156, 3) := by decide +kernel
theorem dL_1068 : decode code 1068 = .ok (.if_icmp .eq 5, 3) := by decide +kernel
theorem dL_1071 : decode code 1071 = .ok (.iconst 0, 1) := by decide +kernel
theorem dL_1072 : decode code 1072 = .ok (.ireturn, 1) := by decide +kernel
theorem dL_1073 : decode code 1073 = .ok (.iinc 3 6, 3) := by decide +kernel
theorem dL_1076 : decode code 1076 = .ok (.goto (-1058), 3) := by decide +kernel
theorem dL_1079 : decode code 1079 = .ok (.iconst 1, 1) := by decide +kernel
theorem dL_1080 : decode code 1080 = .ok (.ireturn, 1) := by decide +kernel
section LAW
variable {g : xG} {l : Launch} {b L i pc : Nat} {xs : Nat → Int32} {st : List xV} {h : xH}
def lEv (g : xG) (l : Launch) (b L : Nat) (xs : Nat → Int32) (i pc : Nat) (st : List xV) (h : xH) : Prop :=
  ∀ (p : Program) (e : Env) (s : State) (m : MethodId) (below : List Frame) (meth : Method) (c : Code) (H : Heap) (locs : List Loc) (la : Array Slot),
    lw_At p s m meth c b L xs → va_K g.1 vwCl (xtys g) s → xS g s s.heap → xJ g → (∀ q, xA g q → s.heap.size ≤ q) → xhd h → va_P g.1 vwCl (xws g h) H → va_S (xA g) s.heap H locs → lv_has la 4 [(0, .ref b), (1, .ref (g.2.1 11 0)), (2, .ref (g.2.1 12 0)), (3, .int (nI i))] →
    W p l e room_1 s m #[Value.ref b] below meth c H locs 258 13912 (lw_Z below #[Value.ref b] s) (F0 m pc la (st.map (xcv g)))
/-- an int of the script onto the stack -/
theorem ll_arg {k : Nat} {z : Int} (d0 : decode code pc = .ok (.aload_n 0, 1)) (d1 : decode code (pc + 1) = .ok (.iload_n 3, 1)) (d2 : decode code (pc + 1 + 1) = .ok (.iconst z, 1)) (d3 : decode code (pc + 1 + 1 + 1) = .ok (.iadd, 1)) (d4 : decode code (pc + 1 + 1 + 1 + 1) = .ok (.iaload, 1)) (hz : Int32.ofInt z = nI k) (hi : i + k < L) (hL : L ≤ 3072) (kk : lEv g l b L xs i (pc + 1 + 1 + 1 + 1 + 1) (xi (xs (i + k)) :: st) h) : lEv g l b L xs i pc st h := by
  intro p e s m below meth c H locs la C0 hK hSt hJ hA hh hP hS hl
  obtain ⟨hx, hb, hr, hml, hown, hts, hX, hbl, hlocks, hgv⟩ := id C0
  have hbA : ¬ xA g b := fun q => absurd (hA b q) (Nat.not_le.mpr hbl)
  have e1 : nI i + nI k = nI (i + k) := nI_add i k
  refine lv_aload_n hx hb d0 rfl (lv_at hl 0 rfl) ?_
  refine lv_iload_n hx hb d1 rfl (lv_at hl 3 rfl) ?_
  refine lv_iconst (v := nI k) hx hb d2 hz ?_
  refine lv_iadd hx hb d3 ?_
  rw [e1]
  refine va_sld hx hb hX hbl hbA hS (vp_in_nI hi (by omega)) d4 ?_
  rw [nI_clamp (by omega)]
  exact kk p e s m below meth c H locs la C0 hK hSt hJ hA hh hP hS hl
/-- a call of the system or of the reference -/
theorem ll_call {n idx y2 pl c2 d2 : Nat} {as st0 : List xV} {r2 : xV} {h2 : xH} (hd : decode code pc = .ok (.invokevirtual idx, 3)) (hn : xmlT[n]? = some (19, idx, y2, pl)) (hs : xstat y2 = false) (hc : c2 < 13) (hcc : 0 < xcnt c2) (hcn : (xcl c2).1 = (xname y2).cls) (hst : st0 = as.reverse ++ xr c2 (some 0) :: st) (hlen : as.length = xnarg y2) (hw : (st.map xcat).sum ≤ 8) (hdd : d2 ≤ 1000) (hva : xvl as) (C : xC g l d2 y2 (xr c2 (some 0) :: as) h (some r2) h2) (k : xhd h2 → lEv g l b L xs i (pc + 3) (r2 :: st) h2) : lEv g l b L xs i pc st0 h := by
  intro p e s m below meth c0 H locs la C0 hK hSt hJ hA hh hP hS hl
  obtain ⟨hx, hb, hr, hml, hown, hts, hX, hbl, hlocks, hgv⟩ := id C0
  subst hst
  obtain ⟨hy2, hmlk⟩ := xml_at hn
  obtain ⟨w1, w2, w3⟩ := xmw_i hy2 hs
  obtain ⟨-, o1, o2, o3, o4, o5⟩ := xm_at hy2
  obtain ⟨q, hq⟩ := xdom_at hcc
  have M := C (xvl.c hcc hva) hh
  have hG : GoodIn lw_tbl (wsV R_law idx (xname y2).cls (xname y2) (xwords y2)) := by
    intro w hw
    rcases List.mem_append.mp hw with hw | hw
    · have : w ∈ lw_tbl ∧ goodWord w = true := by
        rcases List.mem_cons.mp hw with e1 | hw
        · rw [e1]; exact ⟨hmlk, rfl⟩
        rcases List.mem_cons.mp hw with e1 | hw
        · rw [e1]; exact ⟨w2, rfl⟩
        rcases List.mem_cons.mp hw with e1 | hw
        · rw [e1]; exact ⟨w3, rfl⟩
        rcases List.mem_cons.mp hw with e1 | hw
        · rw [e1]; exact ⟨w1, rfl⟩
        cases hw
      exact ⟨this.1, good_of_word this.2⟩
    · rcases List.mem_cons.mp hw with e1 | hw
      · rw [e1]; exact ⟨xcode_in hy2, Or.inl rfl⟩
      · exact ⟨xtbl_lw hw, good_of_word (List.mem_filter.mp hw).2⟩
  intro T hT X
  obtain ⟨v, st₀, t, T', Lc, h0, X', hLc, e1, e2, ⟨hv, hP2, hF2, hh2, hvo⟩, go⟩ := va_runV (own := R_law) (C := (xname y2).cls) (As := as.map (xcv g)) (rest := st.map (xcv g)) (H := H) (locs := locs) (cells := 258) (slots := 13912) (e := e) (below := below) (meth := meth) (R := room_1) (b := g.2.1 c2 0) (g := F0 m pc la ((as.reverse ++ xr c2 (some 0) :: st).map (xcv g))) ⟨hx, hb, hml, hown, hts⟩ M (cwV (ws' := xtbl) (bytes := xcode y2) (maxL := xmaxL y2) (ret := xret y2) (xnarg y2) hts hG rfl rfl rfl ⟨rfl, o2, o3, o4⟩ ⟨show d2 + 1 ≤ 2048 by omega, show 8 + (xmaxL y2 + 11) + 60 * d2 ≤ 84000 by omega⟩) ⟨xblind, by rw [← hcn]; exact va_recv hK hP (xcl_at hc) (xat_c hc hq), fun U hU hW => ⟨rfl, by rw [hU]; exact hP, va_K.moved hW.alike hK, hSt.call hS hW hU, hJ⟩⟩ rfl (by rw [List.length_map]; exact hlen) hl.1 (by rw [List.map_append, List.map_reverse]; rfl) (lv_room (by rw [xsum]; exact hw)) hd ⟨show 258 + 0 ≤ 600000 by decide, show 13912 + 0 ≤ 7302250 by decide⟩ T hT X
  have hv : v = some (xcv g r2) := by injection hv
  subst hv
  obtain ⟨hz, hk⟩ := hF2
  rw [h0] at hz hk
  have hS1 : va_S (xA g) s.heap T'.heap (locs ++ Lc) := ⟨Nat.le_trans hS.1 (by rw [e1]; exact hz), fun q a1 a2 => by rw [e1, hk q (Nat.lt_of_lt_of_le a1 hS.1) a2]; exact hS.2.1 q a1 a2, fun q hq => by
      rcases List.mem_append.mp hq with h | h
      · exact hS.2.2 q h
      · exact hLc q h⟩
  obtain ⟨t2, a1, b1⟩ := k hh2 p e s m below meth c0 T'.heap (locs ++ Lc) la C0 hK hSt hJ hA hh2 (by rw [e1]; exact hP2) hS1 hl T' rfl X'
  exact ⟨t2, go t2 a1, b1⟩
theorem ll_x (d0 : decode code pc = .ok (.aload_n 1, 1)) (kk : lEv g l b L xs i (pc + 1) (xr 11 (some 0) :: st) h) : lEv g l b L xs i pc st h := by
  intro p e s m below meth c H locs la C0 hK hSt hJ hA hh hP hS hl
  exact lv_aload_n C0.1 C0.2.1 d0 rfl (lv_at hl 1 rfl) (kk p e s m below meth c H locs la C0 hK hSt hJ hA hh hP hS hl)
theorem ll_m (d0 : decode code pc = .ok (.aload_n 2, 1)) (kk : lEv g l b L xs i (pc + 1) (xr 12 (some 0) :: st) h) : lEv g l b L xs i pc st h := by
  intro p e s m below meth c H locs la C0 hK hSt hJ hA hh hP hS hl
  exact lv_aload_n C0.1 C0.2.1 d0 rfl (lv_at hl 2 rfl) (kk p e s m below meth c H locs la C0 hK hSt hJ hA hh hP hS hl)
theorem ll_eq {a : Int32} {off : Int} {tgt : Nat} (d0 : decode code pc = .ok (.if_icmp .eq off, 3)) (ht : (pc : Int) + off = (tgt : Int)) (kk : lEv g l b L xs i tgt st h) : lEv g l b L xs i pc (xi a :: xi a :: st) h := by
  intro p e s m below meth c H locs la C0 hK hSt hJ hA hh hP hS hl
  exact lv_icmp_eq C0.1 C0.2.1 d0 ht (fun _ => kk p e s m below meth c H locs la C0 hK hSt hJ hA hh hP hS hl) (fun q => absurd rfl q)
theorem ll_goto {off : Int} {tgt : Nat} (d0 : decode code pc = .ok (.goto off, 3)) (ht : (pc : Int) + off = (tgt : Int)) (kk : lEv g l b L xs i tgt st h) : lEv g l b L xs i pc st h := by
  intro p e s m below meth c H locs la C0 hK hSt hJ hA hh hP hS hl
  exact lv_goto C0.1 C0.2.1 d0 ht (kk p e s m below meth c H locs la C0 hK hSt hJ hA hh hP hS hl)
end LAW
/-- feed: both answer, and alike -/
def lI_feed (I : xH → Prop) : Prop := ∀ (a1 a2 a3 a4 a5 : Int32) (h : xH), I h → ∃ r h1 h2, f_B_feed a1 a2 a3 a4 a5 h = some (r, h1) ∧ f_M_feed a1 a2 a3 a4 a5 h1 = some (r, h2) ∧ I h2
set_option maxHeartbeats 4000000 in
theorem lc_feed {g : xG} {l : Launch} {b L i : Nat} {xs : Nat → Int32} {h : xH} {I : xH → Prop} (hm : lI_feed I) (hi : i + 6 ≤ L) (hL : L ≤ 3072) (next : ∀ h2, I h2 → xhd h2 → lEv g l b L xs i 1073 [] h2) : I h → lEv g l b L xs i 188 [] h := by
  intro hI
  obtain ⟨r, h1, h2, e1, e2, hI2⟩ := hm (xs (i + 1)) (xs (i + 2)) (xs (i + 3)) (xs (i + 4)) (xs (i + 5)) h hI
  refine ll_x dL_188 ?_
  refine ll_arg (k := 1) dL_189 dL_190 dL_191 dL_192 dL_193 (by decide) (by omega) hL ?_
  refine ll_arg (k := 2) dL_194 dL_195 dL_196 dL_197 dL_198 (by decide) (by omega) hL ?_
  refine ll_arg (k := 3) dL_199 dL_200 dL_201 dL_202 dL_203 (by decide) (by omega) hL ?_
  refine ll_arg (k := 4) dL_204 dL_205 dL_206 dL_207 dL_208 (by decide) (by omega) hL ?_
  refine ll_arg (k := 5) dL_209 dL_210 dL_211 dL_212 dL_213 (by decide) (by omega) hL ?_
  refine ll_call (as := [xi (xs (i + 1)), xi (xs (i + 2)), xi (xs (i + 3)), xi (xs (i + 4)), xi (xs (i + 5))]) (st := []) (d2 := 1) (h2 := h1) dL_214 ml0 st94 (by decide) (by decide) cn94 rfl na94 (Nat.le_of_ble_eq_true rfl) (by decide) (fun v hv => by simp only [List.mem_cons, List.not_mem_nil, or_false] at hv; rcases hv with rfl | rfl | rfl | rfl | rfl <;> trivial) (f_B_feed_ok (by decide) e1) (fun hd0 => ?_)
  refine ll_m dL_217 ?_
  refine ll_arg (k := 1) dL_218 dL_219 dL_220 dL_221 dL_222 (by decide) (by omega) hL ?_
  refine ll_arg (k := 2) dL_223 dL_224 dL_225 dL_226 dL_227 (by decide) (by omega) hL ?_
  refine ll_arg (k := 3) dL_228 dL_229 dL_230 dL_231 dL_232 (by decide) (by omega) hL ?_
  refine ll_arg (k := 4) dL_233 dL_234 dL_235 dL_236 dL_237 (by decide) (by omega) hL ?_
  refine ll_arg (k := 5) dL_238 dL_239 dL_240 dL_241 dL_242 (by decide) (by omega) hL ?_
  refine ll_call (as := [xi (xs (i + 1)), xi (xs (i + 2)), xi (xs (i + 3)), xi (xs (i + 4)), xi (xs (i + 5))]) (st := [xi r]) (d2 := 1) (h2 := h2) dL_243 ml179 st143 (by decide) (by decide) cn143 rfl na143 (Nat.le_of_ble_eq_true rfl) (by decide) (fun v hv => by simp only [List.mem_cons, List.not_mem_nil, or_false] at hv; rcases hv with rfl | rfl | rfl | rfl | rfl <;> trivial) (f_M_feed_ok (by decide) e2) (fun hd1 => ?_)
  refine ll_eq (tgt := 1073) dL_246 (by decide) ?_
  exact next h2 hI2 hd1
/-- end: both answer, and alike -/
def lI_end (I : xH → Prop) : Prop := ∀ (a1 : Int32) (h : xH), I h → ∃ r h1 h2, f_B_end a1 h = some (r, h1) ∧ f_M_end a1 h1 = some (r, h2) ∧ I h2
set_option maxHeartbeats 4000000 in
theorem lc_end {g : xG} {l : Launch} {b L i : Nat} {xs : Nat → Int32} {h : xH} {I : xH → Prop} (hm : lI_end I) (hi : i + 6 ≤ L) (hL : L ≤ 3072) (next : ∀ h2, I h2 → xhd h2 → lEv g l b L xs i 1073 [] h2) : I h → lEv g l b L xs i 251 [] h := by
  intro hI
  obtain ⟨r, h1, h2, e1, e2, hI2⟩ := hm (xs (i + 1)) h hI
  refine ll_x dL_251 ?_
  refine ll_arg (k := 1) dL_252 dL_253 dL_254 dL_255 dL_256 (by decide) (by omega) hL ?_
  refine ll_call (as := [xi (xs (i + 1))]) (st := []) (d2 := 0) (h2 := h1) dL_257 ml3 st95 (by decide) (by decide) cn95 rfl na95 (Nat.le_of_ble_eq_true rfl) (by decide) (fun v hv => by simp only [List.mem_cons, List.not_mem_nil, or_false] at hv; rcases hv with rfl <;> trivial) (f_B_end_ok (by decide) e1) (fun hd0 => ?_)
  refine ll_m dL_260 ?_
  refine ll_arg (k := 1) dL_261 dL_262 dL_263 dL_264 dL_265 (by decide) (by omega) hL ?_
  refine ll_call (as := [xi (xs (i + 1))]) (st := [xi r]) (d2 := 0) (h2 := h2) dL_266 ml181 st144 (by decide) (by decide) cn144 rfl na144 (Nat.le_of_ble_eq_true rfl) (by decide) (fun v hv => by simp only [List.mem_cons, List.not_mem_nil, or_false] at hv; rcases hv with rfl <;> trivial) (f_M_end_ok (by decide) e2) (fun hd1 => ?_)
  refine ll_eq (tgt := 1073) dL_269 (by decide) ?_
  exact next h2 hI2 hd1
/-- trug: both answer, and alike -/
def lI_trug (I : xH → Prop) : Prop := ∀ (h : xH), I h → ∃ r h1 h2, f_B_trug h = some (r, h1) ∧ f_M_trug h1 = some (r, h2) ∧ I h2
set_option maxHeartbeats 4000000 in
theorem lc_trug {g : xG} {l : Launch} {b L i : Nat} {xs : Nat → Int32} {h : xH} {I : xH → Prop} (hm : lI_trug I) (hi : i + 6 ≤ L) (hL : L ≤ 3072) (next : ∀ h2, I h2 → xhd h2 → lEv g l b L xs i 1073 [] h2) : I h → lEv g l b L xs i 274 [] h := by
  intro hI
  obtain ⟨r, h1, h2, e1, e2, hI2⟩ := hm  h hI
  refine ll_x dL_274 ?_
  refine ll_call (as := []) (st := []) (d2 := 12) (h2 := h1) dL_275 ml4 st96 (by decide) (by decide) cn96 rfl na96 (Nat.le_of_ble_eq_true rfl) (by decide) (fun _ h => by cases h) (f_B_trug_ok (by decide) e1) (fun hd0 => ?_)
  refine ll_m dL_278 ?_
  refine ll_call (as := []) (st := [xi r]) (d2 := 12) (h2 := h2) dL_279 ml216 st178 (by decide) (by decide) cn178 rfl na178 (Nat.le_of_ble_eq_true rfl) (by decide) (fun _ h => by cases h) (f_M_trug_ok (by decide) e2) (fun hd1 => ?_)
  refine ll_eq (tgt := 1073) dL_282 (by decide) ?_
  exact next h2 hI2 hd1
/-- rule: both answer, and alike -/
def lI_rule (I : xH → Prop) : Prop := ∀ (h : xH), I h → ∃ r h1 h2, f_B_rule h = some (r, h1) ∧ f_M_rule h1 = some (r, h2) ∧ I h2
set_option maxHeartbeats 4000000 in
theorem lc_rule {g : xG} {l : Launch} {b L i : Nat} {xs : Nat → Int32} {h : xH} {I : xH → Prop} (hm : lI_rule I) (hi : i + 6 ≤ L) (hL : L ≤ 3072) (next : ∀ h2, I h2 → xhd h2 → lEv g l b L xs i 1073 [] h2) : I h → lEv g l b L xs i 287 [] h := by
  intro hI
  obtain ⟨r, h1, h2, e1, e2, hI2⟩ := hm  h hI
  refine ll_x dL_287 ?_
  refine ll_call (as := []) (st := []) (d2 := 55) (h2 := h1) dL_288 ml35 st97 (by decide) (by decide) cn97 rfl na97 (Nat.le_of_ble_eq_true rfl) (by decide) (fun _ h => by cases h) (f_B_rule_ok (by decide) e1) (fun hd0 => ?_)
  refine ll_m dL_291 ?_
  refine ll_call (as := []) (st := [xi r]) (d2 := 55) (h2 := h2) dL_292 ml182 st177 (by decide) (by decide) cn177 rfl na177 (Nat.le_of_ble_eq_true rfl) (by decide) (fun _ h => by cases h) (f_M_rule_ok (by decide) e2) (fun hd1 => ?_)
  refine ll_eq (tgt := 1073) dL_295 (by decide) ?_
  exact next h2 hI2 hd1
/-- force: both answer, and alike -/
def lI_force (I : xH → Prop) : Prop := ∀ (a1 : Int32) (h : xH), I h → ∃ r h1 h2, f_B_force a1 h = some (r, h1) ∧ f_M_force a1 h1 = some (r, h2) ∧ I h2
set_option maxHeartbeats 4000000 in
theorem lc_force {g : xG} {l : Launch} {b L i : Nat} {xs : Nat → Int32} {h : xH} {I : xH → Prop} (hm : lI_force I) (hi : i + 6 ≤ L) (hL : L ≤ 3072) (next : ∀ h2, I h2 → xhd h2 → lEv g l b L xs i 1073 [] h2) : I h → lEv g l b L xs i 300 [] h := by
  intro hI
  obtain ⟨r, h1, h2, e1, e2, hI2⟩ := hm (xs (i + 1)) h hI
  refine ll_x dL_300 ?_
  refine ll_arg (k := 1) dL_301 dL_302 dL_303 dL_304 dL_305 (by decide) (by omega) hL ?_
  refine ll_call (as := [xi (xs (i + 1))]) (st := []) (d2 := 1) (h2 := h1) dL_306 ml56 st98 (by decide) (by decide) cn98 rfl na98 (Nat.le_of_ble_eq_true rfl) (by decide) (fun v hv => by simp only [List.mem_cons, List.not_mem_nil, or_false] at hv; rcases hv with rfl <;> trivial) (f_B_force_ok (by decide) e1) (fun hd0 => ?_)
  refine ll_m dL_309 ?_
  refine ll_arg (k := 1) dL_310 dL_311 dL_312 dL_313 dL_314 (by decide) (by omega) hL ?_
  refine ll_call (as := [xi (xs (i + 1))]) (st := [xi r]) (d2 := 1) (h2 := h2) dL_315 ml218 st195 (by decide) (by decide) cn195 rfl na195 (Nat.le_of_ble_eq_true rfl) (by decide) (fun v hv => by simp only [List.mem_cons, List.not_mem_nil, or_false] at hv; rcases hv with rfl <;> trivial) (f_M_force_ok (by decide) e2) (fun hd1 => ?_)
  refine ll_eq (tgt := 1073) dL_318 (by decide) ?_
  exact next h2 hI2 hd1
/-- sorrow: both answer, and alike -/
def lI_sorrow (I : xH → Prop) : Prop := ∀ (a1 a2 : Int32) (h : xH), I h → ∃ r, f_B_sorrow a1 a2 h = some r ∧ f_M_sorrow a1 a2 h = some r
set_option maxHeartbeats 4000000 in
theorem lc_sorrow {g : xG} {l : Launch} {b L i : Nat} {xs : Nat → Int32} {h : xH} {I : xH → Prop} (hm : lI_sorrow I) (hi : i + 6 ≤ L) (hL : L ≤ 3072) (next : ∀ h2, I h2 → xhd h2 → lEv g l b L xs i 1073 [] h2) : I h → lEv g l b L xs i 323 [] h := by
  intro hI
  obtain ⟨r, e1, e2⟩ := hm (xs (i + 1)) (xs (i + 2)) h hI
  refine ll_x dL_323 ?_
  refine ll_arg (k := 1) dL_324 dL_325 dL_326 dL_327 dL_328 (by decide) (by omega) hL ?_
  refine ll_arg (k := 2) dL_329 dL_330 dL_331 dL_332 dL_333 (by decide) (by omega) hL ?_
  refine ll_call (as := [xi (xs (i + 1)), xi (xs (i + 2))]) (st := []) (d2 := 2) (h2 := h) dL_334 ml57 st99 (by decide) (by decide) cn99 rfl na99 (Nat.le_of_ble_eq_true rfl) (by decide) (fun v hv => by simp only [List.mem_cons, List.not_mem_nil, or_false] at hv; rcases hv with rfl | rfl <;> trivial) (f_B_sorrow_ok (by decide) e1) (fun hd0 => ?_)
  refine ll_m dL_337 ?_
  refine ll_arg (k := 1) dL_338 dL_339 dL_340 dL_341 dL_342 (by decide) (by omega) hL ?_
  refine ll_arg (k := 2) dL_343 dL_344 dL_345 dL_346 dL_347 (by decide) (by omega) hL ?_
  refine ll_call (as := [xi (xs (i + 1)), xi (xs (i + 2))]) (st := [xi r]) (d2 := 2) (h2 := h) dL_348 ml220 st196 (by decide) (by decide) cn196 rfl na196 (Nat.le_of_ble_eq_true rfl) (by decide) (fun v hv => by simp only [List.mem_cons, List.not_mem_nil, or_false] at hv; rcases hv with rfl | rfl <;> trivial) (f_M_sorrow_ok (by decide) e2) (fun hd1 => ?_)
  refine ll_eq (tgt := 1073) dL_351 (by decide) ?_
  exact next h hI hd1
/-- carrier: both answer, and alike -/
def lI_carrier (I : xH → Prop) : Prop := ∀ (a1 : Int32) (h : xH), I h → ∃ r, f_B_carrier a1 h = some r ∧ f_M_carrier a1 h = some r
set_option maxHeartbeats 4000000 in
theorem lc_carrier {g : xG} {l : Launch} {b L i : Nat} {xs : Nat → Int32} {h : xH} {I : xH → Prop} (hm : lI_carrier I) (hi : i + 6 ≤ L) (hL : L ≤ 3072) (next : ∀ h2, I h2 → xhd h2 → lEv g l b L xs i 1073 [] h2) : I h → lEv g l b L xs i 356 [] h := by
  intro hI
  obtain ⟨r, e1, e2⟩ := hm (xs (i + 1)) h hI
  refine ll_x dL_356 ?_
  refine ll_arg (k := 1) dL_357 dL_358 dL_359 dL_360 dL_361 (by decide) (by omega) hL ?_
  refine ll_call (as := [xi (xs (i + 1))]) (st := []) (d2 := 0) (h2 := h) dL_362 ml62 st100 (by decide) (by decide) cn100 rfl na100 (Nat.le_of_ble_eq_true rfl) (by decide) (fun v hv => by simp only [List.mem_cons, List.not_mem_nil, or_false] at hv; rcases hv with rfl <;> trivial) (f_B_carrier_ok (by decide) e1) (fun hd0 => ?_)
  refine ll_m dL_365 ?_
  refine ll_arg (k := 1) dL_366 dL_367 dL_368 dL_369 dL_370 (by decide) (by omega) hL ?_
  refine ll_call (as := [xi (xs (i + 1))]) (st := [xi r]) (d2 := 0) (h2 := h) dL_371 ml222 st197 (by decide) (by decide) cn197 rfl na197 (Nat.le_of_ble_eq_true rfl) (by decide) (fun v hv => by simp only [List.mem_cons, List.not_mem_nil, or_false] at hv; rcases hv with rfl <;> trivial) (f_M_carrier_ok (by decide) e2) (fun hd1 => ?_)
  refine ll_eq (tgt := 1073) dL_374 (by decide) ?_
  exact next h hI hd1
/-- step: both answer, and alike -/
def lI_step (I : xH → Prop) : Prop := ∀ (h : xH), I h → ∃ r h1 h2, f_B_step h = some (r, h1) ∧ f_M_step h1 = some (r, h2) ∧ I h2
set_option maxHeartbeats 4000000 in
theorem lc_step {g : xG} {l : Launch} {b L i : Nat} {xs : Nat → Int32} {h : xH} {I : xH → Prop} (hm : lI_step I) (hi : i + 6 ≤ L) (hL : L ≤ 3072) (next : ∀ h2, I h2 → xhd h2 → lEv g l b L xs i 1073 [] h2) : I h → lEv g l b L xs i 379 [] h := by
  intro hI
  obtain ⟨r, h1, h2, e1, e2, hI2⟩ := hm  h hI
  refine ll_x dL_379 ?_
  refine ll_call (as := []) (st := []) (d2 := 8) (h2 := h1) dL_380 ml63 st101 (by decide) (by decide) cn101 rfl na101 (Nat.le_of_ble_eq_true rfl) (by decide) (fun _ h => by cases h) (f_B_step_ok (by decide) e1) (fun hd0 => ?_)
  refine ll_m dL_383 ?_
  refine ll_call (as := []) (st := [xi r]) (d2 := 8) (h2 := h2) dL_384 ml224 st207 (by decide) (by decide) cn207 rfl na207 (Nat.le_of_ble_eq_true rfl) (by decide) (fun _ h => by cases h) (f_M_step_ok (by decide) e2) (fun hd1 => ?_)
  refine ll_eq (tgt := 1073) dL_387 (by decide) ?_
  exact next h2 hI2 hd1
/-- take: both answer, and alike -/
def lI_take (I : xH → Prop) : Prop := ∀ (a1 : Int32) (h : xH), I h → ∃ r h1 h2, f_B_take a1 h = some (r, h1) ∧ f_M_take a1 h1 = some (r, h2) ∧ I h2
set_option maxHeartbeats 4000000 in
theorem lc_take {g : xG} {l : Launch} {b L i : Nat} {xs : Nat → Int32} {h : xH} {I : xH → Prop} (hm : lI_take I) (hi : i + 6 ≤ L) (hL : L ≤ 3072) (next : ∀ h2, I h2 → xhd h2 → lEv g l b L xs i 1073 [] h2) : I h → lEv g l b L xs i 392 [] h := by
  intro hI
  obtain ⟨r, h1, h2, e1, e2, hI2⟩ := hm (xs (i + 1)) h hI
  refine ll_x dL_392 ?_
  refine ll_arg (k := 1) dL_393 dL_394 dL_395 dL_396 dL_397 (by decide) (by omega) hL ?_
  refine ll_call (as := [xi (xs (i + 1))]) (st := []) (d2 := 4) (h2 := h1) dL_398 ml92 st102 (by decide) (by decide) cn102 rfl na102 (Nat.le_of_ble_eq_true rfl) (by decide) (fun v hv => by simp only [List.mem_cons, List.not_mem_nil, or_false] at hv; rcases hv with rfl <;> trivial) (f_B_take_ok (by decide) e1) (fun hd0 => ?_)
  refine ll_m dL_401 ?_
  refine ll_arg (k := 1) dL_402 dL_403 dL_404 dL_405 dL_406 (by decide) (by omega) hL ?_
  refine ll_call (as := [xi (xs (i + 1))]) (st := [xi r]) (d2 := 4) (h2 := h2) dL_407 ml247 st208 (by decide) (by decide) cn208 rfl na208 (Nat.le_of_ble_eq_true rfl) (by decide) (fun v hv => by simp only [List.mem_cons, List.not_mem_nil, or_false] at hv; rcases hv with rfl <;> trivial) (f_M_take_ok (by decide) e2) (fun hd1 => ?_)
  refine ll_eq (tgt := 1073) dL_410 (by decide) ?_
  exact next h2 hI2 hd1
/-- await: both answer, and alike -/
def lI_await (I : xH → Prop) : Prop := ∀ (a1 : Int32) (h : xH), I h → ∃ r h1 h2, f_B_await a1 h = some (r, h1) ∧ f_M_await a1 h1 = some (r, h2) ∧ I h2
set_option maxHeartbeats 4000000 in
theorem lc_await {g : xG} {l : Launch} {b L i : Nat} {xs : Nat → Int32} {h : xH} {I : xH → Prop} (hm : lI_await I) (hi : i + 6 ≤ L) (hL : L ≤ 3072) (next : ∀ h2, I h2 → xhd h2 → lEv g l b L xs i 1073 [] h2) : I h → lEv g l b L xs i 415 [] h := by
  intro hI
  obtain ⟨r, h1, h2, e1, e2, hI2⟩ := hm (xs (i + 1)) h hI
  refine ll_x dL_415 ?_
  refine ll_arg (k := 1) dL_416 dL_417 dL_418 dL_419 dL_420 (by decide) (by omega) hL ?_
  refine ll_call (as := [xi (xs (i + 1))]) (st := []) (d2 := 3) (h2 := h1) dL_421 ml95 st103 (by decide) (by decide) cn103 rfl na103 (Nat.le_of_ble_eq_true rfl) (by decide) (fun v hv => by simp only [List.mem_cons, List.not_mem_nil, or_false] at hv; rcases hv with rfl <;> trivial) (f_B_await_ok (by decide) e1) (fun hd0 => ?_)
  refine ll_m dL_424 ?_
  refine ll_arg (k := 1) dL_425 dL_426 dL_427 dL_428 dL_429 (by decide) (by omega) hL ?_
  refine ll_call (as := [xi (xs (i + 1))]) (st := [xi r]) (d2 := 3) (h2 := h2) dL_430 ml248 st209 (by decide) (by decide) cn209 rfl na209 (Nat.le_of_ble_eq_true rfl) (by decide) (fun v hv => by simp only [List.mem_cons, List.not_mem_nil, or_false] at hv; rcases hv with rfl <;> trivial) (f_M_await_ok (by decide) e2) (fun hd1 => ?_)
  refine ll_eq (tgt := 1073) dL_433 (by decide) ?_
  exact next h2 hI2 hd1
/-- lay: both answer, and alike -/
def lI_lay (I : xH → Prop) : Prop := ∀ (a1 a2 : Int32) (h : xH), I h → ∃ r h1 h2, f_B_lay a1 a2 h = some (r, h1) ∧ f_M_lay a1 a2 h1 = some (r, h2) ∧ I h2
set_option maxHeartbeats 4000000 in
theorem lc_lay {g : xG} {l : Launch} {b L i : Nat} {xs : Nat → Int32} {h : xH} {I : xH → Prop} (hm : lI_lay I) (hi : i + 6 ≤ L) (hL : L ≤ 3072) (next : ∀ h2, I h2 → xhd h2 → lEv g l b L xs i 1073 [] h2) : I h → lEv g l b L xs i 438 [] h := by
  intro hI
  obtain ⟨r, h1, h2, e1, e2, hI2⟩ := hm (xs (i + 1)) (xs (i + 2)) h hI
  refine ll_x dL_438 ?_
  refine ll_arg (k := 1) dL_439 dL_440 dL_441 dL_442 dL_443 (by decide) (by omega) hL ?_
  refine ll_arg (k := 2) dL_444 dL_445 dL_446 dL_447 dL_448 (by decide) (by omega) hL ?_
  refine ll_call (as := [xi (xs (i + 1)), xi (xs (i + 2))]) (st := []) (d2 := 3) (h2 := h1) dL_449 ml97 st104 (by decide) (by decide) cn104 rfl na104 (Nat.le_of_ble_eq_true rfl) (by decide) (fun v hv => by simp only [List.mem_cons, List.not_mem_nil, or_false] at hv; rcases hv with rfl | rfl <;> trivial) (f_B_lay_ok (by decide) e1) (fun hd0 => ?_)
  refine ll_m dL_452 ?_
  refine ll_arg (k := 1) dL_453 dL_454 dL_455 dL_456 dL_457 (by decide) (by omega) hL ?_
  refine ll_arg (k := 2) dL_458 dL_459 dL_460 dL_461 dL_462 (by decide) (by omega) hL ?_
  refine ll_call (as := [xi (xs (i + 1)), xi (xs (i + 2))]) (st := [xi r]) (d2 := 3) (h2 := h2) dL_463 ml249 st210 (by decide) (by decide) cn210 rfl na210 (Nat.le_of_ble_eq_true rfl) (by decide) (fun v hv => by simp only [List.mem_cons, List.not_mem_nil, or_false] at hv; rcases hv with rfl | rfl <;> trivial) (f_M_lay_ok (by decide) e2) (fun hd1 => ?_)
  refine ll_eq (tgt := 1073) dL_466 (by decide) ?_
  exact next h2 hI2 hd1
/-- lighten: both answer, and alike -/
def lI_lighten (I : xH → Prop) : Prop := ∀ (a1 a2 : Int32) (h : xH), I h → ∃ r h1 h2, f_B_lighten a1 a2 h = some (r, h1) ∧ f_M_lighten a1 a2 h1 = some (r, h2) ∧ I h2
set_option maxHeartbeats 4000000 in
theorem lc_lighten {g : xG} {l : Launch} {b L i : Nat} {xs : Nat → Int32} {h : xH} {I : xH → Prop} (hm : lI_lighten I) (hi : i + 6 ≤ L) (hL : L ≤ 3072) (next : ∀ h2, I h2 → xhd h2 → lEv g l b L xs i 1073 [] h2) : I h → lEv g l b L xs i 471 [] h := by
  intro hI
  obtain ⟨r, h1, h2, e1, e2, hI2⟩ := hm (xs (i + 1)) (xs (i + 2)) h hI
  refine ll_x dL_471 ?_
  refine ll_arg (k := 1) dL_472 dL_473 dL_474 dL_475 dL_476 (by decide) (by omega) hL ?_
  refine ll_arg (k := 2) dL_477 dL_478 dL_479 dL_480 dL_481 (by decide) (by omega) hL ?_
  refine ll_call (as := [xi (xs (i + 1)), xi (xs (i + 2))]) (st := []) (d2 := 3) (h2 := h1) dL_482 ml99 st105 (by decide) (by decide) cn105 rfl na105 (Nat.le_of_ble_eq_true rfl) (by decide) (fun v hv => by simp only [List.mem_cons, List.not_mem_nil, or_false] at hv; rcases hv with rfl | rfl <;> trivial) (f_B_lighten_ok (by decide) e1) (fun hd0 => ?_)
  refine ll_m dL_485 ?_
  refine ll_arg (k := 1) dL_486 dL_487 dL_488 dL_489 dL_490 (by decide) (by omega) hL ?_
  refine ll_arg (k := 2) dL_491 dL_492 dL_493 dL_494 dL_495 (by decide) (by omega) hL ?_
  refine ll_call (as := [xi (xs (i + 1)), xi (xs (i + 2))]) (st := [xi r]) (d2 := 3) (h2 := h2) dL_496 ml250 st211 (by decide) (by decide) cn211 rfl na211 (Nat.le_of_ble_eq_true rfl) (by decide) (fun v hv => by simp only [List.mem_cons, List.not_mem_nil, or_false] at hv; rcases hv with rfl | rfl <;> trivial) (f_M_lighten_ok (by decide) e2) (fun hd1 => ?_)
  refine ll_eq (tgt := 1073) dL_499 (by decide) ?_
  exact next h2 hI2 hd1
/-- undo: both answer, and alike -/
def lI_undo (I : xH → Prop) : Prop := ∀ (h : xH), I h → ∃ r h1 h2, f_B_undo h = some (r, h1) ∧ f_M_undo h1 = some (r, h2) ∧ I h2
set_option maxHeartbeats 4000000 in
theorem lc_undo {g : xG} {l : Launch} {b L i : Nat} {xs : Nat → Int32} {h : xH} {I : xH → Prop} (hm : lI_undo I) (hi : i + 6 ≤ L) (hL : L ≤ 3072) (next : ∀ h2, I h2 → xhd h2 → lEv g l b L xs i 1073 [] h2) : I h → lEv g l b L xs i 504 [] h := by
  intro hI
  obtain ⟨r, h1, h2, e1, e2, hI2⟩ := hm  h hI
  refine ll_x dL_504 ?_
  refine ll_call (as := []) (st := []) (d2 := 3) (h2 := h1) dL_505 ml100 st106 (by decide) (by decide) cn106 rfl na106 (Nat.le_of_ble_eq_true rfl) (by decide) (fun _ h => by cases h) (f_B_undo_ok (by decide) e1) (fun hd0 => ?_)
  refine ll_m dL_508 ?_
  refine ll_call (as := []) (st := [xi r]) (d2 := 3) (h2 := h2) dL_509 ml223 st206 (by decide) (by decide) cn206 rfl na206 (Nat.le_of_ble_eq_true rfl) (by decide) (fun _ h => by cases h) (f_M_undo_ok (by decide) e2) (fun hd1 => ?_)
  refine ll_eq (tgt := 1073) dL_512 (by decide) ?_
  exact next h2 hI2 hd1
/-- ahead: both answer, and alike -/
def lI_ahead (I : xH → Prop) : Prop := ∀ (a1 a2 : Int32) (h : xH), I h → ∃ r h1 h2, f_B_ahead a1 a2 h = some (r, h1) ∧ f_M_ahead a1 a2 h1 = some (r, h2) ∧ I h2
set_option maxHeartbeats 4000000 in
theorem lc_ahead {g : xG} {l : Launch} {b L i : Nat} {xs : Nat → Int32} {h : xH} {I : xH → Prop} (hm : lI_ahead I) (hi : i + 6 ≤ L) (hL : L ≤ 3072) (next : ∀ h2, I h2 → xhd h2 → lEv g l b L xs i 1073 [] h2) : I h → lEv g l b L xs i 517 [] h := by
  intro hI
  obtain ⟨r, h1, h2, e1, e2, hI2⟩ := hm (xs (i + 1)) (xs (i + 2)) h hI
  refine ll_x dL_517 ?_
  refine ll_arg (k := 1) dL_518 dL_519 dL_520 dL_521 dL_522 (by decide) (by omega) hL ?_
  refine ll_arg (k := 2) dL_523 dL_524 dL_525 dL_526 dL_527 (by decide) (by omega) hL ?_
  refine ll_call (as := [xi (xs (i + 1)), xi (xs (i + 2))]) (st := []) (d2 := 9) (h2 := h1) dL_528 ml102 st107 (by decide) (by decide) cn107 rfl na107 (Nat.le_of_ble_eq_true rfl) (by decide) (fun v hv => by simp only [List.mem_cons, List.not_mem_nil, or_false] at hv; rcases hv with rfl | rfl <;> trivial) (f_B_ahead_ok (by decide) e1) (fun hd0 => ?_)
  refine ll_m dL_531 ?_
  refine ll_arg (k := 1) dL_532 dL_533 dL_534 dL_535 dL_536 (by decide) (by omega) hL ?_
  refine ll_arg (k := 2) dL_537 dL_538 dL_539 dL_540 dL_541 (by decide) (by omega) hL ?_
  refine ll_call (as := [xi (xs (i + 1)), xi (xs (i + 2))]) (st := [xi r]) (d2 := 9) (h2 := h2) dL_542 ml251 st214 (by decide) (by decide) cn214 rfl na214 (Nat.le_of_ble_eq_true rfl) (by decide) (fun v hv => by simp only [List.mem_cons, List.not_mem_nil, or_false] at hv; rcases hv with rfl | rfl <;> trivial) (f_M_ahead_ok (by decide) e2) (fun hd1 => ?_)
  refine ll_eq (tgt := 1073) dL_545 (by decide) ?_
  exact next h2 hI2 hd1
/-- when: both answer, and alike -/
def lI_when (I : xH → Prop) : Prop := ∀ (a1 a2 : Int32) (h : xH), I h → ∃ r h1 h2, f_B_when a1 a2 h = some (r, h1) ∧ f_M_when a1 a2 h1 = some (r, h2) ∧ I h2
set_option maxHeartbeats 4000000 in
theorem lc_when {g : xG} {l : Launch} {b L i : Nat} {xs : Nat → Int32} {h : xH} {I : xH → Prop} (hm : lI_when I) (hi : i + 6 ≤ L) (hL : L ≤ 3072) (next : ∀ h2, I h2 → xhd h2 → lEv g l b L xs i 1073 [] h2) : I h → lEv g l b L xs i 550 [] h := by
  intro hI
  obtain ⟨r, h1, h2, e1, e2, hI2⟩ := hm (xs (i + 1)) (xs (i + 2)) h hI
  refine ll_x dL_550 ?_
  refine ll_arg (k := 1) dL_551 dL_552 dL_553 dL_554 dL_555 (by decide) (by omega) hL ?_
  refine ll_arg (k := 2) dL_556 dL_557 dL_558 dL_559 dL_560 (by decide) (by omega) hL ?_
  refine ll_call (as := [xi (xs (i + 1)), xi (xs (i + 2))]) (st := []) (d2 := 8) (h2 := h1) dL_561 ml106 st108 (by decide) (by decide) cn108 rfl na108 (Nat.le_of_ble_eq_true rfl) (by decide) (fun v hv => by simp only [List.mem_cons, List.not_mem_nil, or_false] at hv; rcases hv with rfl | rfl <;> trivial) (f_B_when_ok (by decide) e1) (fun hd0 => ?_)
  refine ll_m dL_564 ?_
  refine ll_arg (k := 1) dL_565 dL_566 dL_567 dL_568 dL_569 (by decide) (by omega) hL ?_
  refine ll_arg (k := 2) dL_570 dL_571 dL_572 dL_573 dL_574 (by decide) (by omega) hL ?_
  refine ll_call (as := [xi (xs (i + 1)), xi (xs (i + 2))]) (st := [xi r]) (d2 := 8) (h2 := h2) dL_575 ml255 st215 (by decide) (by decide) cn215 rfl na215 (Nat.le_of_ble_eq_true rfl) (by decide) (fun v hv => by simp only [List.mem_cons, List.not_mem_nil, or_false] at hv; rcases hv with rfl | rfl <;> trivial) (f_M_when_ok (by decide) e2) (fun hd1 => ?_)
  refine ll_eq (tgt := 1073) dL_578 (by decide) ?_
  exact next h2 hI2 hd1
/-- dusk: both answer, and alike -/
def lI_dusk (I : xH → Prop) : Prop := ∀ (a1 : Int32) (h : xH), I h → ∃ r h1 h2, f_B_dusk a1 h = some (r, h1) ∧ f_M_dusk a1 h1 = some (r, h2) ∧ I h2
set_option maxHeartbeats 4000000 in
theorem lc_dusk {g : xG} {l : Launch} {b L i : Nat} {xs : Nat → Int32} {h : xH} {I : xH → Prop} (hm : lI_dusk I) (hi : i + 6 ≤ L) (hL : L ≤ 3072) (next : ∀ h2, I h2 → xhd h2 → lEv g l b L xs i 1073 [] h2) : I h → lEv g l b L xs i 583 [] h := by
  intro hI
  obtain ⟨r, h1, h2, e1, e2, hI2⟩ := hm (xs (i + 1)) h hI
  refine ll_x dL_583 ?_
  refine ll_arg (k := 1) dL_584 dL_585 dL_586 dL_587 dL_588 (by decide) (by omega) hL ?_
  refine ll_call (as := [xi (xs (i + 1))]) (st := []) (d2 := 8) (h2 := h1) dL_589 ml107 st109 (by decide) (by decide) cn109 rfl na109 (Nat.le_of_ble_eq_true rfl) (by decide) (fun v hv => by simp only [List.mem_cons, List.not_mem_nil, or_false] at hv; rcases hv with rfl <;> trivial) (f_B_dusk_ok (by decide) e1) (fun hd0 => ?_)
  refine ll_m dL_592 ?_
  refine ll_arg (k := 1) dL_593 dL_594 dL_595 dL_596 dL_597 (by decide) (by omega) hL ?_
  refine ll_call (as := [xi (xs (i + 1))]) (st := [xi r]) (d2 := 8) (h2 := h2) dL_598 ml256 st216 (by decide) (by decide) cn216 rfl na216 (Nat.le_of_ble_eq_true rfl) (by decide) (fun v hv => by simp only [List.mem_cons, List.not_mem_nil, or_false] at hv; rcases hv with rfl <;> trivial) (f_M_dusk_ok (by decide) e2) (fun hd1 => ?_)
  refine ll_eq (tgt := 1073) dL_601 (by decide) ?_
  exact next h2 hI2 hd1
/-- order: both answer, and alike -/
def lI_order (I : xH → Prop) : Prop := ∀ (a1 : Int32) (h : xH), I h → ∃ r h1 h2, f_B_order a1 h = some (r, h1) ∧ f_M_order a1 h1 = some (r, h2) ∧ I h2
set_option maxHeartbeats 4000000 in
theorem lc_order {g : xG} {l : Launch} {b L i : Nat} {xs : Nat → Int32} {h : xH} {I : xH → Prop} (hm : lI_order I) (hi : i + 6 ≤ L) (hL : L ≤ 3072) (next : ∀ h2, I h2 → xhd h2 → lEv g l b L xs i 1073 [] h2) : I h → lEv g l b L xs i 606 [] h := by
  intro hI
  obtain ⟨r, h1, h2, e1, e2, hI2⟩ := hm (xs (i + 1)) h hI
  refine ll_x dL_606 ?_
  refine ll_arg (k := 1) dL_607 dL_608 dL_609 dL_610 dL_611 (by decide) (by omega) hL ?_
  refine ll_call (as := [xi (xs (i + 1))]) (st := []) (d2 := 6) (h2 := h1) dL_612 ml113 st112 (by decide) (by decide) cn112 rfl na112 (Nat.le_of_ble_eq_true rfl) (by decide) (fun v hv => by simp only [List.mem_cons, List.not_mem_nil, or_false] at hv; rcases hv with rfl <;> trivial) (f_B_order_ok (by decide) e1) (fun hd0 => ?_)
  refine ll_m dL_615 ?_
  refine ll_arg (k := 1) dL_616 dL_617 dL_618 dL_619 dL_620 (by decide) (by omega) hL ?_
  refine ll_call (as := [xi (xs (i + 1))]) (st := [xi r]) (d2 := 6) (h2 := h2) dL_621 ml257 st221 (by decide) (by decide) cn221 rfl na221 (Nat.le_of_ble_eq_true rfl) (by decide) (fun v hv => by simp only [List.mem_cons, List.not_mem_nil, or_false] at hv; rcases hv with rfl <;> trivial) (f_M_order_ok (by decide) e2) (fun hd1 => ?_)
  refine ll_eq (tgt := 1073) dL_624 (by decide) ?_
  exact next h2 hI2 hd1
/-- chain: both answer, and alike -/
def lI_chain (I : xH → Prop) : Prop := ∀ (a1 : Int32) (h : xH), I h → ∃ r h1 h2, f_B_chain a1 h = some (r, h1) ∧ f_M_chain a1 h1 = some (r, h2) ∧ I h2
set_option maxHeartbeats 4000000 in
theorem lc_chain {g : xG} {l : Launch} {b L i : Nat} {xs : Nat → Int32} {h : xH} {I : xH → Prop} (hm : lI_chain I) (hi : i + 6 ≤ L) (hL : L ≤ 3072) (next : ∀ h2, I h2 → xhd h2 → lEv g l b L xs i 1073 [] h2) : I h → lEv g l b L xs i 629 [] h := by
  intro hI
  obtain ⟨r, h1, h2, e1, e2, hI2⟩ := hm (xs (i + 1)) h hI
  refine ll_x dL_629 ?_
  refine ll_arg (k := 1) dL_630 dL_631 dL_632 dL_633 dL_634 (by decide) (by omega) hL ?_
  refine ll_call (as := [xi (xs (i + 1))]) (st := []) (d2 := 4) (h2 := h1) dL_635 ml125 st113 (by decide) (by decide) cn113 rfl na113 (Nat.le_of_ble_eq_true rfl) (by decide) (fun v hv => by simp only [List.mem_cons, List.not_mem_nil, or_false] at hv; rcases hv with rfl <;> trivial) (f_B_chain_ok (by decide) e1) (fun hd0 => ?_)
  refine ll_m dL_638 ?_
  refine ll_arg (k := 1) dL_639 dL_640 dL_641 dL_642 dL_643 (by decide) (by omega) hL ?_
  refine ll_call (as := [xi (xs (i + 1))]) (st := [xi r]) (d2 := 4) (h2 := h2) dL_644 ml262 st223 (by decide) (by decide) cn223 rfl na223 (Nat.le_of_ble_eq_true rfl) (by decide) (fun v hv => by simp only [List.mem_cons, List.not_mem_nil, or_false] at hv; rcases hv with rfl <;> trivial) (f_M_chain_ok (by decide) e2) (fun hd1 => ?_)
  refine ll_eq (tgt := 1073) dL_647 (by decide) ?_
  exact next h2 hI2 hd1
/-- rings: both answer, and alike -/
def lI_rings (I : xH → Prop) : Prop := ∀ (h : xH), I h → ∃ r h1, f_B_rings h = some (r, h1) ∧ f_M_rings h1 = some r ∧ I h1
set_option maxHeartbeats 4000000 in
theorem lc_rings {g : xG} {l : Launch} {b L i : Nat} {xs : Nat → Int32} {h : xH} {I : xH → Prop} (hm : lI_rings I) (hi : i + 6 ≤ L) (hL : L ≤ 3072) (next : ∀ h2, I h2 → xhd h2 → lEv g l b L xs i 1073 [] h2) : I h → lEv g l b L xs i 652 [] h := by
  intro hI
  obtain ⟨r, h1, e1, e2, hI2⟩ := hm  h hI
  refine ll_x dL_652 ?_
  refine ll_call (as := []) (st := []) (d2 := 3) (h2 := h1) dL_653 ml130 st114 (by decide) (by decide) cn114 rfl na114 (Nat.le_of_ble_eq_true rfl) (by decide) (fun _ h => by cases h) (f_B_rings_ok (by decide) e1) (fun hd0 => ?_)
  refine ll_m dL_656 ?_
  refine ll_call (as := []) (st := [xi r]) (d2 := 3) (h2 := h1) dL_657 ml264 st225 (by decide) (by decide) cn225 rfl na225 (Nat.le_of_ble_eq_true rfl) (by decide) (fun _ h => by cases h) (f_M_rings_ok (by decide) e2) (fun hd1 => ?_)
  refine ll_eq (tgt := 1073) dL_660 (by decide) ?_
  exact next h1 hI2 hd1
/-- taken: both answer, and alike -/
def lI_taken (I : xH → Prop) : Prop := ∀ (a1 : Int32) (h : xH), I h → ∃ r h1, f_B_taken a1 h = some (r, h1) ∧ f_M_taken a1 h1 = some r ∧ I h1
set_option maxHeartbeats 4000000 in
theorem lc_taken {g : xG} {l : Launch} {b L i : Nat} {xs : Nat → Int32} {h : xH} {I : xH → Prop} (hm : lI_taken I) (hi : i + 6 ≤ L) (hL : L ≤ 3072) (next : ∀ h2, I h2 → xhd h2 → lEv g l b L xs i 1073 [] h2) : I h → lEv g l b L xs i 665 [] h := by
  intro hI
  obtain ⟨r, h1, e1, e2, hI2⟩ := hm (xs (i + 1)) h hI
  refine ll_x dL_665 ?_
  refine ll_arg (k := 1) dL_666 dL_667 dL_668 dL_669 dL_670 (by decide) (by omega) hL ?_
  refine ll_call (as := [xi (xs (i + 1))]) (st := []) (d2 := 3) (h2 := h1) dL_671 ml132 st115 (by decide) (by decide) cn115 rfl na115 (Nat.le_of_ble_eq_true rfl) (by decide) (fun v hv => by simp only [List.mem_cons, List.not_mem_nil, or_false] at hv; rcases hv with rfl <;> trivial) (f_B_taken_ok (by decide) e1) (fun hd0 => ?_)
  refine ll_m dL_674 ?_
  refine ll_arg (k := 1) dL_675 dL_676 dL_677 dL_678 dL_679 (by decide) (by omega) hL ?_
  refine ll_call (as := [xi (xs (i + 1))]) (st := [xi r]) (d2 := 3) (h2 := h1) dL_680 ml266 st226 (by decide) (by decide) cn226 rfl na226 (Nat.le_of_ble_eq_true rfl) (by decide) (fun v hv => by simp only [List.mem_cons, List.not_mem_nil, or_false] at hv; rcases hv with rfl <;> trivial) (f_M_taken_ok (by decide) e2) (fun hd1 => ?_)
  refine ll_eq (tgt := 1073) dL_683 (by decide) ?_
  exact next h1 hI2 hd1
/-- slack: both answer, and alike -/
def lI_slack (I : xH → Prop) : Prop := ∀ (a1 : Int32) (h : xH), I h → ∃ r h1 h2, f_B_slack a1 h = some (r, h1) ∧ f_M_slack a1 h1 = some (r, h2) ∧ I h2
set_option maxHeartbeats 4000000 in
theorem lc_slack {g : xG} {l : Launch} {b L i : Nat} {xs : Nat → Int32} {h : xH} {I : xH → Prop} (hm : lI_slack I) (hi : i + 6 ≤ L) (hL : L ≤ 3072) (next : ∀ h2, I h2 → xhd h2 → lEv g l b L xs i 1073 [] h2) : I h → lEv g l b L xs i 688 [] h := by
  intro hI
  obtain ⟨r, h1, h2, e1, e2, hI2⟩ := hm (xs (i + 1)) h hI
  refine ll_x dL_688 ?_
  refine ll_arg (k := 1) dL_689 dL_690 dL_691 dL_692 dL_693 (by decide) (by omega) hL ?_
  refine ll_call (as := [xi (xs (i + 1))]) (st := []) (d2 := 9) (h2 := h1) dL_694 ml109 st110 (by decide) (by decide) cn110 rfl na110 (Nat.le_of_ble_eq_true rfl) (by decide) (fun v hv => by simp only [List.mem_cons, List.not_mem_nil, or_false] at hv; rcases hv with rfl <;> trivial) (f_B_slack_ok (by decide) e1) (fun hd0 => ?_)
  refine ll_m dL_697 ?_
  refine ll_arg (k := 1) dL_698 dL_699 dL_700 dL_701 dL_702 (by decide) (by omega) hL ?_
  refine ll_call (as := [xi (xs (i + 1))]) (st := [xi r]) (d2 := 9) (h2 := h2) dL_703 ml267 st228 (by decide) (by decide) cn228 rfl na228 (Nat.le_of_ble_eq_true rfl) (by decide) (fun v hv => by simp only [List.mem_cons, List.not_mem_nil, or_false] at hv; rcases hv with rfl <;> trivial) (f_M_slack_ok (by decide) e2) (fun hd1 => ?_)
  refine ll_eq (tgt := 1073) dL_706 (by decide) ?_
  exact next h2 hI2 hd1
/-- carry: both answer, and alike -/
def lI_carry (I : xH → Prop) : Prop := ∀ (a1 : Int32) (h : xH), I h → ∃ r h1 h2, f_B_carry a1 h = some (r, h1) ∧ f_M_carry a1 h1 = some (r, h2) ∧ I h2
set_option maxHeartbeats 4000000 in
theorem lc_carry {g : xG} {l : Launch} {b L i : Nat} {xs : Nat → Int32} {h : xH} {I : xH → Prop} (hm : lI_carry I) (hi : i + 6 ≤ L) (hL : L ≤ 3072) (next : ∀ h2, I h2 → xhd h2 → lEv g l b L xs i 1073 [] h2) : I h → lEv g l b L xs i 711 [] h := by
  intro hI
  obtain ⟨r, h1, h2, e1, e2, hI2⟩ := hm (xs (i + 1)) h hI
  refine ll_x dL_711 ?_
  refine ll_arg (k := 1) dL_712 dL_713 dL_714 dL_715 dL_716 (by decide) (by omega) hL ?_
  refine ll_call (as := [xi (xs (i + 1))]) (st := []) (d2 := 4) (h2 := h1) dL_717 ml136 st116 (by decide) (by decide) cn116 rfl na116 (Nat.le_of_ble_eq_true rfl) (by decide) (fun v hv => by simp only [List.mem_cons, List.not_mem_nil, or_false] at hv; rcases hv with rfl <;> trivial) (f_B_carry_ok (by decide) e1) (fun hd0 => ?_)
  refine ll_m dL_720 ?_
  refine ll_arg (k := 1) dL_721 dL_722 dL_723 dL_724 dL_725 (by decide) (by omega) hL ?_
  refine ll_call (as := [xi (xs (i + 1))]) (st := [xi r]) (d2 := 4) (h2 := h2) dL_726 ml269 st232 (by decide) (by decide) cn232 rfl na232 (Nat.le_of_ble_eq_true rfl) (by decide) (fun v hv => by simp only [List.mem_cons, List.not_mem_nil, or_false] at hv; rcases hv with rfl <;> trivial) (f_M_carry_ok (by decide) e2) (fun hd1 => ?_)
  refine ll_eq (tgt := 1073) dL_729 (by decide) ?_
  exact next h2 hI2 hd1
/-- pole: both answer, and alike -/
def lI_pole (I : xH → Prop) : Prop := ∀ (a1 : Int32) (h : xH), I h → ∃ r, f_B_pole a1 h = some r ∧ f_M_pole a1 h = some r
set_option maxHeartbeats 4000000 in
theorem lc_pole {g : xG} {l : Launch} {b L i : Nat} {xs : Nat → Int32} {h : xH} {I : xH → Prop} (hm : lI_pole I) (hi : i + 6 ≤ L) (hL : L ≤ 3072) (next : ∀ h2, I h2 → xhd h2 → lEv g l b L xs i 1073 [] h2) : I h → lEv g l b L xs i 734 [] h := by
  intro hI
  obtain ⟨r, e1, e2⟩ := hm (xs (i + 1)) h hI
  refine ll_x dL_734 ?_
  refine ll_arg (k := 1) dL_735 dL_736 dL_737 dL_738 dL_739 (by decide) (by omega) hL ?_
  refine ll_call (as := [xi (xs (i + 1))]) (st := []) (d2 := 4) (h2 := h) dL_740 ml144 st117 (by decide) (by decide) cn117 rfl na117 (Nat.le_of_ble_eq_true rfl) (by decide) (fun v hv => by simp only [List.mem_cons, List.not_mem_nil, or_false] at hv; rcases hv with rfl <;> trivial) (f_B_pole_ok (by decide) e1) (fun hd0 => ?_)
  refine ll_m dL_743 ?_
  refine ll_arg (k := 1) dL_744 dL_745 dL_746 dL_747 dL_748 (by decide) (by omega) hL ?_
  refine ll_call (as := [xi (xs (i + 1))]) (st := [xi r]) (d2 := 4) (h2 := h) dL_749 ml273 st233 (by decide) (by decide) cn233 rfl na233 (Nat.le_of_ble_eq_true rfl) (by decide) (fun v hv => by simp only [List.mem_cons, List.not_mem_nil, or_false] at hv; rcases hv with rfl <;> trivial) (f_M_pole_ok (by decide) e2) (fun hd1 => ?_)
  refine ll_eq (tgt := 1073) dL_752 (by decide) ?_
  exact next h hI hd1
/-- light: both answer, and alike -/
def lI_light (I : xH → Prop) : Prop := ∀ (a1 : Int32) (h : xH), I h → ∃ r h1 h2, f_B_light a1 h = some (r, h1) ∧ f_M_light a1 h1 = some (r, h2) ∧ I h2
set_option maxHeartbeats 4000000 in
theorem lc_light {g : xG} {l : Launch} {b L i : Nat} {xs : Nat → Int32} {h : xH} {I : xH → Prop} (hm : lI_light I) (hi : i + 6 ≤ L) (hL : L ≤ 3072) (next : ∀ h2, I h2 → xhd h2 → lEv g l b L xs i 1073 [] h2) : I h → lEv g l b L xs i 757 [] h := by
  intro hI
  obtain ⟨r, h1, h2, e1, e2, hI2⟩ := hm (xs (i + 1)) h hI
  refine ll_x dL_757 ?_
  refine ll_arg (k := 1) dL_758 dL_759 dL_760 dL_761 dL_762 (by decide) (by omega) hL ?_
  refine ll_call (as := [xi (xs (i + 1))]) (st := []) (d2 := 8) (h2 := h1) dL_763 ml112 st111 (by decide) (by decide) cn111 rfl na111 (Nat.le_of_ble_eq_true rfl) (by decide) (fun v hv => by simp only [List.mem_cons, List.not_mem_nil, or_false] at hv; rcases hv with rfl <;> trivial) (f_B_light_ok (by decide) e1) (fun hd0 => ?_)
  refine ll_m dL_766 ?_
  refine ll_arg (k := 1) dL_767 dL_768 dL_769 dL_770 dL_771 (by decide) (by omega) hL ?_
  refine ll_call (as := [xi (xs (i + 1))]) (st := [xi r]) (d2 := 8) (h2 := h2) dL_772 ml274 st234 (by decide) (by decide) cn234 rfl na234 (Nat.le_of_ble_eq_true rfl) (by decide) (fun v hv => by simp only [List.mem_cons, List.not_mem_nil, or_false] at hv; rcases hv with rfl <;> trivial) (f_M_light_ok (by decide) e2) (fun hd1 => ?_)
  refine ll_eq (tgt := 1073) dL_775 (by decide) ?_
  exact next h2 hI2 hd1
/-- took: both answer, and alike -/
def lI_took (I : xH → Prop) : Prop := ∀ (a1 a2 : Int32) (h : xH), I h → ∃ r h1 h2, f_B_took a1 a2 h = some (r, h1) ∧ f_M_took a1 a2 h1 = some (r, h2) ∧ I h2
set_option maxHeartbeats 4000000 in
theorem lc_took {g : xG} {l : Launch} {b L i : Nat} {xs : Nat → Int32} {h : xH} {I : xH → Prop} (hm : lI_took I) (hi : i + 6 ≤ L) (hL : L ≤ 3072) (next : ∀ h2, I h2 → xhd h2 → lEv g l b L xs i 1073 [] h2) : I h → lEv g l b L xs i 780 [] h := by
  intro hI
  obtain ⟨r, h1, h2, e1, e2, hI2⟩ := hm (xs (i + 1)) (xs (i + 2)) h hI
  refine ll_x dL_780 ?_
  refine ll_arg (k := 1) dL_781 dL_782 dL_783 dL_784 dL_785 (by decide) (by omega) hL ?_
  refine ll_arg (k := 2) dL_786 dL_787 dL_788 dL_789 dL_790 (by decide) (by omega) hL ?_
  refine ll_call (as := [xi (xs (i + 1)), xi (xs (i + 2))]) (st := []) (d2 := 9) (h2 := h1) dL_791 ml154 st121 (by decide) (by decide) cn121 rfl na121 (Nat.le_of_ble_eq_true rfl) (by decide) (fun v hv => by simp only [List.mem_cons, List.not_mem_nil, or_false] at hv; rcases hv with rfl | rfl <;> trivial) (f_B_took_ok (by decide) e1) (fun hd0 => ?_)
  refine ll_m dL_794 ?_
  refine ll_arg (k := 1) dL_795 dL_796 dL_797 dL_798 dL_799 (by decide) (by omega) hL ?_
  refine ll_arg (k := 2) dL_800 dL_801 dL_802 dL_803 dL_804 (by decide) (by omega) hL ?_
  refine ll_call (as := [xi (xs (i + 1)), xi (xs (i + 2))]) (st := [xi r]) (d2 := 9) (h2 := h2) dL_805 ml286 st246 (by decide) (by decide) cn246 rfl na246 (Nat.le_of_ble_eq_true rfl) (by decide) (fun v hv => by simp only [List.mem_cons, List.not_mem_nil, or_false] at hv; rcases hv with rfl | rfl <;> trivial) (f_M_took_ok (by decide) e2) (fun hd1 => ?_)
  refine ll_eq (tgt := 1073) dL_808 (by decide) ?_
  exact next h2 hI2 hd1
/-- game: both answer, and alike -/
def lI_game (I : xH → Prop) : Prop := ∀ (a1 : Int32) (h : xH), I h → ∃ r h1 h2, f_B_game a1 h = some (r, h1) ∧ f_M_game a1 h1 = some (r, h2) ∧ I h2
set_option maxHeartbeats 4000000 in
theorem lc_game {g : xG} {l : Launch} {b L i : Nat} {xs : Nat → Int32} {h : xH} {I : xH → Prop} (hm : lI_game I) (hi : i + 6 ≤ L) (hL : L ≤ 3072) (next : ∀ h2, I h2 → xhd h2 → lEv g l b L xs i 1073 [] h2) : I h → lEv g l b L xs i 813 [] h := by
  intro hI
  obtain ⟨r, h1, h2, e1, e2, hI2⟩ := hm (xs (i + 1)) h hI
  refine ll_x dL_813 ?_
  refine ll_arg (k := 1) dL_814 dL_815 dL_816 dL_817 dL_818 (by decide) (by omega) hL ?_
  refine ll_call (as := [xi (xs (i + 1))]) (st := []) (d2 := 3) (h2 := h1) dL_819 ml147 st118 (by decide) (by decide) cn118 rfl na118 (Nat.le_of_ble_eq_true rfl) (by decide) (fun v hv => by simp only [List.mem_cons, List.not_mem_nil, or_false] at hv; rcases hv with rfl <;> trivial) (f_B_game_ok (by decide) e1) (fun hd0 => ?_)
  refine ll_m dL_822 ?_
  refine ll_arg (k := 1) dL_823 dL_824 dL_825 dL_826 dL_827 (by decide) (by omega) hL ?_
  refine ll_call (as := [xi (xs (i + 1))]) (st := [xi r]) (d2 := 3) (h2 := h2) dL_828 ml275 st236 (by decide) (by decide) cn236 rfl na236 (Nat.le_of_ble_eq_true rfl) (by decide) (fun v hv => by simp only [List.mem_cons, List.not_mem_nil, or_false] at hv; rcases hv with rfl <;> trivial) (f_M_game_ok (by decide) e2) (fun hd1 => ?_)
  refine ll_eq (tgt := 1073) dL_831 (by decide) ?_
  exact next h2 hI2 hd1
/-- pence: both answer, and alike -/
def lI_pence (I : xH → Prop) : Prop := ∀ (a1 a2 : Int32) (h : xH), I h → ∃ r, f_B_pence a1 a2 h = some r ∧ f_M_pence a1 a2 h = some r
set_option maxHeartbeats 4000000 in
theorem lc_pence {g : xG} {l : Launch} {b L i : Nat} {xs : Nat → Int32} {h : xH} {I : xH → Prop} (hm : lI_pence I) (hi : i + 6 ≤ L) (hL : L ≤ 3072) (next : ∀ h2, I h2 → xhd h2 → lEv g l b L xs i 1073 [] h2) : I h → lEv g l b L xs i 836 [] h := by
  intro hI
  obtain ⟨r, e1, e2⟩ := hm (xs (i + 1)) (xs (i + 2)) h hI
  refine ll_x dL_836 ?_
  refine ll_arg (k := 1) dL_837 dL_838 dL_839 dL_840 dL_841 (by decide) (by omega) hL ?_
  refine ll_arg (k := 2) dL_842 dL_843 dL_844 dL_845 dL_846 (by decide) (by omega) hL ?_
  refine ll_call (as := [xi (xs (i + 1)), xi (xs (i + 2))]) (st := []) (d2 := 3) (h2 := h) dL_847 ml150 st119 (by decide) (by decide) cn119 rfl na119 (Nat.le_of_ble_eq_true rfl) (by decide) (fun v hv => by simp only [List.mem_cons, List.not_mem_nil, or_false] at hv; rcases hv with rfl | rfl <;> trivial) (f_B_pence_ok (by decide) e1) (fun hd0 => ?_)
  refine ll_m dL_850 ?_
  refine ll_arg (k := 1) dL_851 dL_852 dL_853 dL_854 dL_855 (by decide) (by omega) hL ?_
  refine ll_arg (k := 2) dL_856 dL_857 dL_858 dL_859 dL_860 (by decide) (by omega) hL ?_
  refine ll_call (as := [xi (xs (i + 1)), xi (xs (i + 2))]) (st := [xi r]) (d2 := 3) (h2 := h) dL_861 ml277 st238 (by decide) (by decide) cn238 rfl na238 (Nat.le_of_ble_eq_true rfl) (by decide) (fun v hv => by simp only [List.mem_cons, List.not_mem_nil, or_false] at hv; rcases hv with rfl | rfl <;> trivial) (f_M_pence_ok (by decide) e2) (fun hd1 => ?_)
  refine ll_eq (tgt := 1073) dL_864 (by decide) ?_
  exact next h hI hd1
/-- note: both answer, and alike -/
def lI_note (I : xH → Prop) : Prop := ∀ (a1 a2 : Int32) (h : xH), I h → ∃ r h1 h2, f_B_note a1 a2 h = some (r, h1) ∧ f_M_note a1 a2 h1 = some (r, h2) ∧ I h2
set_option maxHeartbeats 4000000 in
theorem lc_note {g : xG} {l : Launch} {b L i : Nat} {xs : Nat → Int32} {h : xH} {I : xH → Prop} (hm : lI_note I) (hi : i + 6 ≤ L) (hL : L ≤ 3072) (next : ∀ h2, I h2 → xhd h2 → lEv g l b L xs i 1073 [] h2) : I h → lEv g l b L xs i 869 [] h := by
  intro hI
  obtain ⟨r, h1, h2, e1, e2, hI2⟩ := hm (xs (i + 1)) (xs (i + 2)) h hI
  refine ll_x dL_869 ?_
  refine ll_arg (k := 1) dL_870 dL_871 dL_872 dL_873 dL_874 (by decide) (by omega) hL ?_
  refine ll_arg (k := 2) dL_875 dL_876 dL_877 dL_878 dL_879 (by decide) (by omega) hL ?_
  refine ll_call (as := [xi (xs (i + 1)), xi (xs (i + 2))]) (st := []) (d2 := 1) (h2 := h1) dL_880 ml152 st120 (by decide) (by decide) cn120 rfl na120 (Nat.le_of_ble_eq_true rfl) (by decide) (fun v hv => by simp only [List.mem_cons, List.not_mem_nil, or_false] at hv; rcases hv with rfl | rfl <;> trivial) (f_B_note_ok (by decide) e1) (fun hd0 => ?_)
  refine ll_m dL_883 ?_
  refine ll_arg (k := 1) dL_884 dL_885 dL_886 dL_887 dL_888 (by decide) (by omega) hL ?_
  refine ll_arg (k := 2) dL_889 dL_890 dL_891 dL_892 dL_893 (by decide) (by omega) hL ?_
  refine ll_call (as := [xi (xs (i + 1)), xi (xs (i + 2))]) (st := [xi r]) (d2 := 1) (h2 := h2) dL_894 ml279 st239 (by decide) (by decide) cn239 rfl na239 (Nat.le_of_ble_eq_true rfl) (by decide) (fun v hv => by simp only [List.mem_cons, List.not_mem_nil, or_false] at hv; rcases hv with rfl | rfl <;> trivial) (f_M_note_ok (by decide) e2) (fun hd1 => ?_)
  refine ll_eq (tgt := 1073) dL_897 (by decide) ?_
  exact next h2 hI2 hd1
/-- ruled: both answer, and alike -/
def lI_ruled (I : xH → Prop) : Prop := ∀ (a1 : Int32) (h : xH), I h → ∃ r h1 h2, f_B_ruled a1 h = some (r, h1) ∧ f_M_ruled a1 h1 = some (r, h2) ∧ I h2
set_option maxHeartbeats 4000000 in
theorem lc_ruled {g : xG} {l : Launch} {b L i : Nat} {xs : Nat → Int32} {h : xH} {I : xH → Prop} (hm : lI_ruled I) (hi : i + 6 ≤ L) (hL : L ≤ 3072) (next : ∀ h2, I h2 → xhd h2 → lEv g l b L xs i 1073 [] h2) : I h → lEv g l b L xs i 902 [] h := by
  intro hI
  obtain ⟨r, h1, h2, e1, e2, hI2⟩ := hm (xs (i + 1)) h hI
  refine ll_x dL_902 ?_
  refine ll_arg (k := 1) dL_903 dL_904 dL_905 dL_906 dL_907 (by decide) (by omega) hL ?_
  refine ll_call (as := [xi (xs (i + 1))]) (st := []) (d2 := 10) (h2 := h1) dL_908 ml162 st122 (by decide) (by decide) cn122 rfl na122 (Nat.le_of_ble_eq_true rfl) (by decide) (fun v hv => by simp only [List.mem_cons, List.not_mem_nil, or_false] at hv; rcases hv with rfl <;> trivial) (f_B_ruled_ok (by decide) e1) (fun hd0 => ?_)
  refine ll_m dL_911 ?_
  refine ll_arg (k := 1) dL_912 dL_913 dL_914 dL_915 dL_916 (by decide) (by omega) hL ?_
  refine ll_call (as := [xi (xs (i + 1))]) (st := [xi r]) (d2 := 10) (h2 := h2) dL_917 ml280 st243 (by decide) (by decide) cn243 rfl na243 (Nat.le_of_ble_eq_true rfl) (by decide) (fun v hv => by simp only [List.mem_cons, List.not_mem_nil, or_false] at hv; rcases hv with rfl <;> trivial) (f_M_ruled_ok (by decide) e2) (fun hd1 => ?_)
  refine ll_eq (tgt := 1073) dL_920 (by decide) ?_
  exact next h2 hI2 hd1
/-- look: both answer, and alike -/
def lI_look (I : xH → Prop) : Prop := ∀ (a1 : Int32) (h : xH), I h → ∃ r h1 h2, f_B_look a1 h = some (r, h1) ∧ f_M_look a1 h1 = some (r, h2) ∧ I h2
set_option maxHeartbeats 4000000 in
theorem lc_look {g : xG} {l : Launch} {b L i : Nat} {xs : Nat → Int32} {h : xH} {I : xH → Prop} (hm : lI_look I) (hi : i + 6 ≤ L) (hL : L ≤ 3072) (next : ∀ h2, I h2 → xhd h2 → lEv g l b L xs i 1073 [] h2) : I h → lEv g l b L xs i 925 [] h := by
  intro hI
  obtain ⟨r, h1, h2, e1, e2, hI2⟩ := hm (xs (i + 1)) h hI
  refine ll_x dL_925 ?_
  refine ll_arg (k := 1) dL_926 dL_927 dL_928 dL_929 dL_930 (by decide) (by omega) hL ?_
  refine ll_call (as := [xi (xs (i + 1))]) (st := []) (d2 := 10) (h2 := h1) dL_931 ml163 st123 (by decide) (by decide) cn123 rfl na123 (Nat.le_of_ble_eq_true rfl) (by decide) (fun v hv => by simp only [List.mem_cons, List.not_mem_nil, or_false] at hv; rcases hv with rfl <;> trivial) (f_B_look_ok (by decide) e1) (fun hd0 => ?_)
  refine ll_m dL_934 ?_
  refine ll_arg (k := 1) dL_935 dL_936 dL_937 dL_938 dL_939 (by decide) (by omega) hL ?_
  refine ll_call (as := [xi (xs (i + 1))]) (st := [xi r]) (d2 := 10) (h2 := h2) dL_940 ml284 st245 (by decide) (by decide) cn245 rfl na245 (Nat.le_of_ble_eq_true rfl) (by decide) (fun v hv => by simp only [List.mem_cons, List.not_mem_nil, or_false] at hv; rcases hv with rfl <;> trivial) (f_M_look_ok (by decide) e2) (fun hd1 => ?_)
  refine ll_eq (tgt := 1073) dL_943 (by decide) ?_
  exact next h2 hI2 hd1
/-- seed: both answer, and alike -/
def lI_seed (I : xH → Prop) : Prop := ∀ (a1 : Int32) (h : xH), I h → ∃ r h1 h2, f_B_seed a1 h = some (r, h1) ∧ f_M_seed a1 h1 = some (r, h2) ∧ I h2
set_option maxHeartbeats 4000000 in
theorem lc_seed {g : xG} {l : Launch} {b L i : Nat} {xs : Nat → Int32} {h : xH} {I : xH → Prop} (hm : lI_seed I) (hi : i + 6 ≤ L) (hL : L ≤ 3072) (next : ∀ h2, I h2 → xhd h2 → lEv g l b L xs i 1073 [] h2) : I h → lEv g l b L xs i 948 [] h := by
  intro hI
  obtain ⟨r, h1, h2, e1, e2, hI2⟩ := hm (xs (i + 1)) h hI
  refine ll_x dL_948 ?_
  refine ll_arg (k := 1) dL_949 dL_950 dL_951 dL_952 dL_953 (by decide) (by omega) hL ?_
  refine ll_call (as := [xi (xs (i + 1))]) (st := []) (d2 := 0) (h2 := h1) dL_954 ml168 st124 (by decide) (by decide) cn124 rfl na124 (Nat.le_of_ble_eq_true rfl) (by decide) (fun v hv => by simp only [List.mem_cons, List.not_mem_nil, or_false] at hv; rcases hv with rfl <;> trivial) (f_B_seed_ok (by decide) e1) (fun hd0 => ?_)
  refine ll_m dL_957 ?_
  refine ll_arg (k := 1) dL_958 dL_959 dL_960 dL_961 dL_962 (by decide) (by omega) hL ?_
  refine ll_call (as := [xi (xs (i + 1))]) (st := [xi r]) (d2 := 0) (h2 := h2) dL_963 ml287 st247 (by decide) (by decide) cn247 rfl na247 (Nat.le_of_ble_eq_true rfl) (by decide) (fun v hv => by simp only [List.mem_cons, List.not_mem_nil, or_false] at hv; rcases hv with rfl <;> trivial) (f_M_seed_ok (by decide) e2) (fun hd1 => ?_)
  refine ll_eq (tgt := 1073) dL_966 (by decide) ?_
  exact next h2 hI2 hd1
/-- years: both answer, and alike -/
def lI_years (I : xH → Prop) : Prop := ∀ (a1 a2 : Int32) (h : xH), I h → ∃ r h1 h2, f_B_years a1 a2 h = some (r, h1) ∧ f_M_years a1 a2 h1 = some (r, h2) ∧ I h2
set_option maxHeartbeats 4000000 in
theorem lc_years {g : xG} {l : Launch} {b L i : Nat} {xs : Nat → Int32} {h : xH} {I : xH → Prop} (hm : lI_years I) (hi : i + 6 ≤ L) (hL : L ≤ 3072) (next : ∀ h2, I h2 → xhd h2 → lEv g l b L xs i 1073 [] h2) : I h → lEv g l b L xs i 971 [] h := by
  intro hI
  obtain ⟨r, h1, h2, e1, e2, hI2⟩ := hm (xs (i + 1)) (xs (i + 2)) h hI
  refine ll_x dL_971 ?_
  refine ll_arg (k := 1) dL_972 dL_973 dL_974 dL_975 dL_976 (by decide) (by omega) hL ?_
  refine ll_arg (k := 2) dL_977 dL_978 dL_979 dL_980 dL_981 (by decide) (by omega) hL ?_
  refine ll_call (as := [xi (xs (i + 1)), xi (xs (i + 2))]) (st := []) (d2 := 5) (h2 := h1) dL_982 ml169 st125 (by decide) (by decide) cn125 rfl na125 (Nat.le_of_ble_eq_true rfl) (by decide) (fun v hv => by simp only [List.mem_cons, List.not_mem_nil, or_false] at hv; rcases hv with rfl | rfl <;> trivial) (f_B_years_ok (by decide) e1) (fun hd0 => ?_)
  refine ll_m dL_985 ?_
  refine ll_arg (k := 1) dL_986 dL_987 dL_988 dL_989 dL_990 (by decide) (by omega) hL ?_
  refine ll_arg (k := 2) dL_991 dL_992 dL_993 dL_994 dL_995 (by decide) (by omega) hL ?_
  refine ll_call (as := [xi (xs (i + 1)), xi (xs (i + 2))]) (st := [xi r]) (d2 := 5) (h2 := h2) dL_996 ml288 st250 (by decide) (by decide) cn250 rfl na250 (Nat.le_of_ble_eq_true rfl) (by decide) (fun v hv => by simp only [List.mem_cons, List.not_mem_nil, or_false] at hv; rcases hv with rfl | rfl <;> trivial) (f_M_years_ok (by decide) e2) (fun hd1 => ?_)
  refine ll_eq (tgt := 1073) dL_999 (by decide) ?_
  exact next h2 hI2 hd1
/-- count: both answer, and alike -/
def lI_count (I : xH → Prop) : Prop := ∀ (a1 : Int32) (h : xH), I h → ∃ r, f_B_count a1 h = some r ∧ f_M_count a1 h = some r
set_option maxHeartbeats 4000000 in
theorem lc_count {g : xG} {l : Launch} {b L i : Nat} {xs : Nat → Int32} {h : xH} {I : xH → Prop} (hm : lI_count I) (hi : i + 6 ≤ L) (hL : L ≤ 3072) (next : ∀ h2, I h2 → xhd h2 → lEv g l b L xs i 1073 [] h2) : I h → lEv g l b L xs i 1004 [] h := by
  intro hI
  obtain ⟨r, e1, e2⟩ := hm (xs (i + 1)) h hI
  refine ll_x dL_1004 ?_
  refine ll_arg (k := 1) dL_1005 dL_1006 dL_1007 dL_1008 dL_1009 (by decide) (by omega) hL ?_
  refine ll_call (as := [xi (xs (i + 1))]) (st := []) (d2 := 5) (h2 := h) dL_1010 ml171 st126 (by decide) (by decide) cn126 rfl na126 (Nat.le_of_ble_eq_true rfl) (by decide) (fun v hv => by simp only [List.mem_cons, List.not_mem_nil, or_false] at hv; rcases hv with rfl <;> trivial) (f_B_count_ok (by decide) e1) (fun hd0 => ?_)
  refine ll_m dL_1013 ?_
  refine ll_arg (k := 1) dL_1014 dL_1015 dL_1016 dL_1017 dL_1018 (by decide) (by omega) hL ?_
  refine ll_call (as := [xi (xs (i + 1))]) (st := [xi r]) (d2 := 5) (h2 := h) dL_1019 ml291 st251 (by decide) (by decide) cn251 rfl na251 (Nat.le_of_ble_eq_true rfl) (by decide) (fun v hv => by simp only [List.mem_cons, List.not_mem_nil, or_false] at hv; rcases hv with rfl <;> trivial) (f_M_count_ok (by decide) e2) (fun hd1 => ?_)
  refine ll_eq (tgt := 1073) dL_1022 (by decide) ?_
  exact next h hI hd1
/-- image: both answer, and alike -/
def lI_image (I : xH → Prop) : Prop := ∀ (a1 : Int32) (h : xH), I h → ∃ r h1 h2, f_B_image a1 h = some (r, h1) ∧ f_M_image a1 h1 = some (r, h2) ∧ I h2
set_option maxHeartbeats 4000000 in
theorem lc_image {g : xG} {l : Launch} {b L i : Nat} {xs : Nat → Int32} {h : xH} {I : xH → Prop} (hm : lI_image I) (hi : i + 6 ≤ L) (hL : L ≤ 3072) (next : ∀ h2, I h2 → xhd h2 → lEv g l b L xs i 1073 [] h2) : I h → lEv g l b L xs i 1027 [] h := by
  intro hI
  obtain ⟨r, h1, h2, e1, e2, hI2⟩ := hm (xs (i + 1)) h hI
  refine ll_x dL_1027 ?_
  refine ll_arg (k := 1) dL_1028 dL_1029 dL_1030 dL_1031 dL_1032 (by decide) (by omega) hL ?_
  refine ll_call (as := [xi (xs (i + 1))]) (st := []) (d2 := 3) (h2 := h1) dL_1033 ml174 st127 (by decide) (by decide) cn127 rfl na127 (Nat.le_of_ble_eq_true rfl) (by decide) (fun v hv => by simp only [List.mem_cons, List.not_mem_nil, or_false] at hv; rcases hv with rfl <;> trivial) (f_B_image_ok (by decide) e1) (fun hd0 => ?_)
  refine ll_m dL_1036 ?_
  refine ll_arg (k := 1) dL_1037 dL_1038 dL_1039 dL_1040 dL_1041 (by decide) (by omega) hL ?_
  refine ll_call (as := [xi (xs (i + 1))]) (st := [xi r]) (d2 := 3) (h2 := h2) dL_1042 ml292 st252 (by decide) (by decide) cn252 rfl na252 (Nat.le_of_ble_eq_true rfl) (by decide) (fun v hv => by simp only [List.mem_cons, List.not_mem_nil, or_false] at hv; rcases hv with rfl <;> trivial) (f_M_image_ok (by decide) e2) (fun hd1 => ?_)
  refine ll_eq (tgt := 1073) dL_1045 (by decide) ?_
  exact next h2 hI2 hd1
/-- back: both answer, and alike -/
def lI_back (I : xH → Prop) : Prop := ∀ (a1 : Int32) (h : xH), I h → ∃ r h1 h2, f_B_back a1 h = some (r, h1) ∧ f_M_back a1 h1 = some (r, h2) ∧ I h2
set_option maxHeartbeats 4000000 in
theorem lc_back {g : xG} {l : Launch} {b L i : Nat} {xs : Nat → Int32} {h : xH} {I : xH → Prop} (hm : lI_back I) (hi : i + 6 ≤ L) (hL : L ≤ 3072) (next : ∀ h2, I h2 → xhd h2 → lEv g l b L xs i 1073 [] h2) : I h → lEv g l b L xs i 1050 [] h := by
  intro hI
  obtain ⟨r, h1, h2, e1, e2, hI2⟩ := hm (xs (i + 1)) h hI
  refine ll_x dL_1050 ?_
  refine ll_arg (k := 1) dL_1051 dL_1052 dL_1053 dL_1054 dL_1055 (by decide) (by omega) hL ?_
  refine ll_call (as := [xi (xs (i + 1))]) (st := []) (d2 := 3) (h2 := h1) dL_1056 ml178 st128 (by decide) (by decide) cn128 rfl na128 (Nat.le_of_ble_eq_true rfl) (by decide) (fun v hv => by simp only [List.mem_cons, List.not_mem_nil, or_false] at hv; rcases hv with rfl <;> trivial) (f_B_back_ok (by decide) e1) (fun hd0 => ?_)
  refine ll_m dL_1059 ?_
  refine ll_arg (k := 1) dL_1060 dL_1061 dL_1062 dL_1063 dL_1064 (by decide) (by omega) hL ?_
  refine ll_call (as := [xi (xs (i + 1))]) (st := [xi r]) (d2 := 3) (h2 := h2) dL_1065 ml293 st253 (by decide) (by decide) cn253 rfl na253 (Nat.le_of_ble_eq_true rfl) (by decide) (fun v hv => by simp only [List.mem_cons, List.not_mem_nil, or_false] at hv; rcases hv with rfl <;> trivial) (f_M_back_ok (by decide) e2) (fun hd1 => ?_)
  refine ll_eq (tgt := 1073) dL_1068 (by decide) ?_
  exact next h2 hI2 hd1
/-- WHAT IS LEFT: an invariant of the store under which both answer alike, whatever is called -/
def lInv (I : xH → Prop) : Prop := I xh0 ∧ lI_feed I ∧ lI_end I ∧ lI_trug I ∧ lI_rule I ∧ lI_force I ∧ lI_sorrow I ∧ lI_carrier I ∧ lI_step I ∧ lI_take I ∧ lI_await I ∧ lI_lay I ∧ lI_lighten I ∧ lI_undo I ∧ lI_ahead I ∧ lI_when I ∧ lI_dusk I ∧ lI_order I ∧ lI_chain I ∧ lI_rings I ∧ lI_taken I ∧ lI_slack I ∧ lI_carry I ∧ lI_pole I ∧ lI_light I ∧ lI_took I ∧ lI_game I ∧ lI_pence I ∧ lI_note I ∧ lI_ruled I ∧ lI_look I ∧ lI_seed I ∧ lI_years I ∧ lI_count I ∧ lI_image I ∧ lI_back I
