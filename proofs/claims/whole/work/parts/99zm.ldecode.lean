theorem d_law_0 : decode code 0 = .ok (.new 7, 3) := by decide +kernel
theorem d_law_3 : decode code 3 = .ok (.dup, 1) := by decide +kernel
theorem d_law_4 : decode code 4 = .ok (.invokespecial 9, 3) := by decide +kernel
theorem d_law_7 : decode code 7 = .ok (.astore_n 1, 1) := by decide +kernel
theorem d_law_8 : decode code 8 = .ok (.new 10, 3) := by decide +kernel
theorem d_law_11 : decode code 11 = .ok (.dup, 1) := by decide +kernel
theorem d_law_12 : decode code 12 = .ok (.invokespecial 12, 3) := by decide +kernel
theorem d_law_15 : decode code 15 = .ok (.astore_n 2, 1) := by decide +kernel
theorem d_law_16 : decode code 16 = .ok (.iconst 0, 1) := by decide +kernel
theorem d_law_17 : decode code 17 = .ok (.istore_n 3, 1) := by decide +kernel
theorem d_law_18 : decode code 18 = .ok (.iload_n 3, 1) := by decide +kernel
theorem d_law_19 : decode code 19 = .ok (.aload_n 0, 1) := by decide +kernel
theorem d_law_20 : decode code 20 = .ok (.arraylength, 1) := by decide +kernel
theorem d_law_21 : decode code 21 = .ok (.bipush 6, 2) := by decide +kernel
theorem d_law_23 : decode code 23 = .ok (.isub, 1) := by decide +kernel
theorem d_law_24 : decode code 24 = .ok (.if_icmp .gt 1376, 3) := by decide +kernel
theorem d_law_27 : decode code 27 = .ok (.aload_n 0, 1) := by decide +kernel
theorem d_law_28 : decode code 28 = .ok (.iload_n 3, 1) := by decide +kernel
theorem d_law_29 : decode code 29 = .ok (.iaload, 1) := by decide +kernel
theorem d_law_30 : decode code 30 = .ok (.bipush 63, 2) := by decide +kernel
theorem d_law_32 : decode code 32 = .ok (.iand, 1) := by decide +kernel
theorem d_law_33 : decode code 33 = .ok (.tableswitch 1361 0 38 #[171, 234, 257, 280, 313, 336, 369, 392, 415, 438, 461, 494, 517, 550, 583, 626, 670, 693, 726, 749, 762, 795, 838, 861, 884, 907, 931, 964, 987, 1010, 1033, 1056, 1099, 1132, 1175, 1249, 1292, 1315, 1338], 171) := by decide +kernel
theorem d_law_204 : decode code 204 = .ok (.aload_n 1, 1) := by decide +kernel
theorem d_law_205 : decode code 205 = .ok (.aload_n 0, 1) := by decide +kernel
theorem d_law_206 : decode code 206 = .ok (.iload_n 3, 1) := by decide +kernel
theorem d_law_207 : decode code 207 = .ok (.iconst 1, 1) := by decide +kernel
theorem d_law_208 : decode code 208 = .ok (.iadd, 1) := by decide +kernel
theorem d_law_209 : decode code 209 = .ok (.iaload, 1) := by decide +kernel
theorem d_law_210 : decode code 210 = .ok (.aload_n 0, 1) := by decide +kernel
theorem d_law_211 : decode code 211 = .ok (.iload_n 3, 1) := by decide +kernel
theorem d_law_212 : decode code 212 = .ok (.iconst 2, 1) := by decide +kernel
theorem d_law_213 : decode code 213 = .ok (.iadd, 1) := by decide +kernel
theorem d_law_214 : decode code 214 = .ok (.iaload, 1) := by decide +kernel
theorem d_law_215 : decode code 215 = .ok (.aload_n 0, 1) := by decide +kernel
theorem d_law_216 : decode code 216 = .ok (.iload_n 3, 1) := by decide +kernel
theorem d_law_217 : decode code 217 = .ok (.iconst 3, 1) := by decide +kernel
theorem d_law_218 : decode code 218 = .ok (.iadd, 1) := by decide +kernel
theorem d_law_219 : decode code 219 = .ok (.iaload, 1) := by decide +kernel
theorem d_law_220 : decode code 220 = .ok (.aload_n 0, 1) := by decide +kernel
theorem d_law_221 : decode code 221 = .ok (.iload_n 3, 1) := by decide +kernel
theorem d_law_222 : decode code 222 = .ok (.iconst 4, 1) := by decide +kernel
theorem d_law_223 : decode code 223 = .ok (.iadd, 1) := by decide +kernel
theorem d_law_224 : decode code 224 = .ok (.iaload, 1) := by decide +kernel
theorem d_law_225 : decode code 225 = .ok (.aload_n 0, 1) := by decide +kernel
theorem d_law_226 : decode code 226 = .ok (.iload_n 3, 1) := by decide +kernel
theorem d_law_227 : decode code 227 = .ok (.iconst 5, 1) := by decide +kernel
theorem d_law_228 : decode code 228 = .ok (.iadd, 1) := by decide +kernel
theorem d_law_229 : decode code 229 = .ok (.iaload, 1) := by decide +kernel
theorem d_law_230 : decode code 230 = .ok (.invokevirtual 13, 3) := by decide +kernel
theorem d_law_233 : decode code 233 = .ok (.aload_n 2, 1) := by decide +kernel
theorem d_law_234 : decode code 234 = .ok (.aload_n 0, 1) := by decide +kernel
theorem d_law_235 : decode code 235 = .ok (.iload_n 3, 1) := by decide +kernel
theorem d_law_236 : decode code 236 = .ok (.iconst 1, 1) := by decide +kernel
theorem d_law_237 : decode code 237 = .ok (.iadd, 1) := by decide +kernel
theorem d_law_238 : decode code 238 = .ok (.iaload, 1) := by decide +kernel
theorem d_law_239 : decode code 239 = .ok (.aload_n 0, 1) := by decide +kernel
theorem d_law_240 : decode code 240 = .ok (.iload_n 3, 1) := by decide +kernel
theorem d_law_241 : decode code 241 = .ok (.iconst 2, 1) := by decide +kernel
theorem d_law_242 : decode code 242 = .ok (.iadd, 1) := by decide +kernel
theorem d_law_243 : decode code 243 = .ok (.iaload, 1) := by decide +kernel
theorem d_law_244 : decode code 244 = .ok (.aload_n 0, 1) := by decide +kernel
theorem d_law_245 : decode code 245 = .ok (.iload_n 3, 1) := by decide +kernel
theorem d_law_246 : decode code 246 = .ok (.iconst 3, 1) := by decide +kernel
theorem d_law_247 : decode code 247 = .ok (.iadd, 1) := by decide +kernel
theorem d_law_248 : decode code 248 = .ok (.iaload, 1) := by decide +kernel
theorem d_law_249 : decode code 249 = .ok (.aload_n 0, 1) := by decide +kernel
theorem d_law_250 : decode code 250 = .ok (.iload_n 3, 1) := by decide +kernel
theorem d_law_251 : decode code 251 = .ok (.iconst 4, 1) := by decide +kernel
theorem d_law_252 : decode code 252 = .ok (.iadd, 1) := by decide +kernel
theorem d_law_253 : decode code 253 = .ok (.iaload, 1) := by decide +kernel
theorem d_law_254 : decode code 254 = .ok (.aload_n 0, 1) := by decide +kernel
theorem d_law_255 : decode code 255 = .ok (.iload_n 3, 1) := by decide +kernel
theorem d_law_256 : decode code 256 = .ok (.iconst 5, 1) := by decide +kernel
theorem d_law_257 : decode code 257 = .ok (.iadd, 1) := by decide +kernel
theorem d_law_258 : decode code 258 = .ok (.iaload, 1) := by decide +kernel
theorem d_law_259 : decode code 259 = .ok (.invokevirtual 17, 3) := by decide +kernel
theorem d_law_262 : decode code 262 = .ok (.if_icmp .eq 1132, 3) := by decide +kernel
theorem d_law_265 : decode code 265 = .ok (.iconst 0, 1) := by decide +kernel
theorem d_law_266 : decode code 266 = .ok (.ireturn, 1) := by decide +kernel
theorem d_law_267 : decode code 267 = .ok (.aload_n 1, 1) := by decide +kernel
theorem d_law_268 : decode code 268 = .ok (.aload_n 0, 1) := by decide +kernel
theorem d_law_269 : decode code 269 = .ok (.iload_n 3, 1) := by decide +kernel
theorem d_law_270 : decode code 270 = .ok (.iconst 1, 1) := by decide +kernel
theorem d_law_271 : decode code 271 = .ok (.iadd, 1) := by decide +kernel
theorem d_law_272 : decode code 272 = .ok (.iaload, 1) := by decide +kernel
theorem d_law_273 : decode code 273 = .ok (.invokevirtual 18, 3) := by decide +kernel
theorem d_law_276 : decode code 276 = .ok (.aload_n 2, 1) := by decide +kernel
theorem d_law_277 : decode code 277 = .ok (.aload_n 0, 1) := by decide +kernel
theorem d_law_278 : decode code 278 = .ok (.iload_n 3, 1) := by decide +kernel
theorem d_law_279 : decode code 279 = .ok (.iconst 1, 1) := by decide +kernel
theorem d_law_280 : decode code 280 = .ok (.iadd, 1) := by decide +kernel
theorem d_law_281 : decode code 281 = .ok (.iaload, 1) := by decide +kernel
theorem d_law_282 : decode code 282 = .ok (.invokevirtual 22, 3) := by decide +kernel
theorem d_law_285 : decode code 285 = .ok (.if_icmp .eq 1109, 3) := by decide +kernel
theorem d_law_288 : decode code 288 = .ok (.iconst 0, 1) := by decide +kernel
theorem d_law_289 : decode code 289 = .ok (.ireturn, 1) := by decide +kernel
theorem d_law_290 : decode code 290 = .ok (.aload_n 1, 1) := by decide +kernel
theorem d_law_291 : decode code 291 = .ok (.aload_n 0, 1) := by decide +kernel
theorem d_law_292 : decode code 292 = .ok (.iload_n 3, 1) := by decide +kernel
theorem d_law_293 : decode code 293 = .ok (.iconst 1, 1) := by decide +kernel
theorem d_law_294 : decode code 294 = .ok (.iadd, 1) := by decide +kernel
theorem d_law_295 : decode code 295 = .ok (.iaload, 1) := by decide +kernel
theorem d_law_296 : decode code 296 = .ok (.invokevirtual 23, 3) := by decide +kernel
theorem d_law_299 : decode code 299 = .ok (.aload_n 2, 1) := by decide +kernel
theorem d_law_300 : decode code 300 = .ok (.aload_n 0, 1) := by decide +kernel
theorem d_law_301 : decode code 301 = .ok (.iload_n 3, 1) := by decide +kernel
theorem d_law_302 : decode code 302 = .ok (.iconst 1, 1) := by decide +kernel
theorem d_law_303 : decode code 303 = .ok (.iadd, 1) := by decide +kernel
theorem d_law_304 : decode code 304 = .ok (.iaload, 1) := by decide +kernel
theorem d_law_305 : decode code 305 = .ok (.invokevirtual 26, 3) := by decide +kernel
theorem d_law_308 : decode code 308 = .ok (.if_icmp .eq 1086, 3) := by decide +kernel
theorem d_law_311 : decode code 311 = .ok (.iconst 0, 1) := by decide +kernel
theorem d_law_312 : decode code 312 = .ok (.ireturn, 1) := by decide +kernel
theorem d_law_313 : decode code 313 = .ok (.aload_n 1, 1) := by decide +kernel
theorem d_law_314 : decode code 314 = .ok (.aload_n 0, 1) := by decide +kernel
theorem d_law_315 : decode code 315 = .ok (.iload_n 3, 1) := by decide +kernel
theorem d_law_316 : decode code 316 = .ok (.iconst 1, 1) := by decide +kernel
theorem d_law_317 : decode code 317 = .ok (.iadd, 1) := by decide +kernel
theorem d_law_318 : decode code 318 = .ok (.iaload, 1) := by decide +kernel
theorem d_law_319 : decode code 319 = .ok (.aload_n 0, 1) := by decide +kernel
theorem d_law_320 : decode code 320 = .ok (.iload_n 3, 1) := by decide +kernel
theorem d_law_321 : decode code 321 = .ok (.iconst 2, 1) := by decide +kernel
theorem d_law_322 : decode code 322 = .ok (.iadd, 1) := by decide +kernel
theorem d_law_323 : decode code 323 = .ok (.iaload, 1) := by decide +kernel
theorem d_law_324 : decode code 324 = .ok (.invokevirtual 27, 3) := by decide +kernel
theorem d_law_327 : decode code 327 = .ok (.aload_n 2, 1) := by decide +kernel
theorem d_law_328 : decode code 328 = .ok (.aload_n 0, 1) := by decide +kernel
theorem d_law_329 : decode code 329 = .ok (.iload_n 3, 1) := by decide +kernel
theorem d_law_330 : decode code 330 = .ok (.iconst 1, 1) := by decide +kernel
theorem d_law_331 : decode code 331 = .ok (.iadd, 1) := by decide +kernel
theorem d_law_332 : decode code 332 = .ok (.iaload, 1) := by decide +kernel
theorem d_law_333 : decode code 333 = .ok (.aload_n 0, 1) := by decide +kernel
theorem d_law_334 : decode code 334 = .ok (.iload_n 3, 1) := by decide +kernel
theorem d_law_335 : decode code 335 = .ok (.iconst 2, 1) := by decide +kernel
theorem d_law_336 : decode code 336 = .ok (.iadd, 1) := by decide +kernel
theorem d_law_337 : decode code 337 = .ok (.iaload, 1) := by decide +kernel
theorem d_law_338 : decode code 338 = .ok (.invokevirtual 31, 3) := by decide +kernel
theorem d_law_341 : decode code 341 = .ok (.if_icmp .eq 1053, 3) := by decide +kernel
theorem d_law_344 : decode code 344 = .ok (.iconst 0, 1) := by decide +kernel
theorem d_law_345 : decode code 345 = .ok (.ireturn, 1) := by decide +kernel
theorem d_law_346 : decode code 346 = .ok (.aload_n 1, 1) := by decide +kernel
theorem d_law_347 : decode code 347 = .ok (.aload_n 0, 1) := by decide +kernel
theorem d_law_348 : decode code 348 = .ok (.iload_n 3, 1) := by decide +kernel
theorem d_law_349 : decode code 349 = .ok (.iconst 1, 1) := by decide +kernel
theorem d_law_350 : decode code 350 = .ok (.iadd, 1) := by decide +kernel
theorem d_law_351 : decode code 351 = .ok (.iaload, 1) := by decide +kernel
theorem d_law_352 : decode code 352 = .ok (.invokevirtual 32, 3) := by decide +kernel
theorem d_law_355 : decode code 355 = .ok (.aload_n 2, 1) := by decide +kernel
theorem d_law_356 : decode code 356 = .ok (.aload_n 0, 1) := by decide +kernel
theorem d_law_357 : decode code 357 = .ok (.iload_n 3, 1) := by decide +kernel
theorem d_law_358 : decode code 358 = .ok (.iconst 1, 1) := by decide +kernel
theorem d_law_359 : decode code 359 = .ok (.iadd, 1) := by decide +kernel
theorem d_law_360 : decode code 360 = .ok (.iaload, 1) := by decide +kernel
theorem d_law_361 : decode code 361 = .ok (.invokevirtual 35, 3) := by decide +kernel
theorem d_law_364 : decode code 364 = .ok (.if_icmp .eq 1030, 3) := by decide +kernel
theorem d_law_367 : decode code 367 = .ok (.iconst 0, 1) := by decide +kernel
theorem d_law_368 : decode code 368 = .ok (.ireturn, 1) := by decide +kernel
theorem d_law_369 : decode code 369 = .ok (.aload_n 1, 1) := by decide +kernel
theorem d_law_370 : decode code 370 = .ok (.aload_n 0, 1) := by decide +kernel
theorem d_law_371 : decode code 371 = .ok (.iload_n 3, 1) := by decide +kernel
theorem d_law_372 : decode code 372 = .ok (.iconst 1, 1) := by decide +kernel
theorem d_law_373 : decode code 373 = .ok (.iadd, 1) := by decide +kernel
theorem d_law_374 : decode code 374 = .ok (.iaload, 1) := by decide +kernel
theorem d_law_375 : decode code 375 = .ok (.aload_n 0, 1) := by decide +kernel
theorem d_law_376 : decode code 376 = .ok (.iload_n 3, 1) := by decide +kernel
theorem d_law_377 : decode code 377 = .ok (.iconst 2, 1) := by decide +kernel
theorem d_law_378 : decode code 378 = .ok (.iadd, 1) := by decide +kernel
theorem d_law_379 : decode code 379 = .ok (.iaload, 1) := by decide +kernel
theorem d_law_380 : decode code 380 = .ok (.invokevirtual 36, 3) := by decide +kernel
theorem d_law_383 : decode code 383 = .ok (.aload_n 2, 1) := by decide +kernel
theorem d_law_384 : decode code 384 = .ok (.aload_n 0, 1) := by decide +kernel
theorem d_law_385 : decode code 385 = .ok (.iload_n 3, 1) := by decide +kernel
theorem d_law_386 : decode code 386 = .ok (.iconst 1, 1) := by decide +kernel
theorem d_law_387 : decode code 387 = .ok (.iadd, 1) := by decide +kernel
theorem d_law_388 : decode code 388 = .ok (.iaload, 1) := by decide +kernel
theorem d_law_389 : decode code 389 = .ok (.aload_n 0, 1) := by decide +kernel
theorem d_law_390 : decode code 390 = .ok (.iload_n 3, 1) := by decide +kernel
theorem d_law_391 : decode code 391 = .ok (.iconst 2, 1) := by decide +kernel
theorem d_law_392 : decode code 392 = .ok (.iadd, 1) := by decide +kernel
theorem d_law_393 : decode code 393 = .ok (.iaload, 1) := by decide +kernel
theorem d_law_394 : decode code 394 = .ok (.invokevirtual 39, 3) := by decide +kernel
theorem d_law_397 : decode code 397 = .ok (.if_icmp .eq 997, 3) := by decide +kernel
theorem d_law_400 : decode code 400 = .ok (.iconst 0, 1) := by decide +kernel
theorem d_law_401 : decode code 401 = .ok (.ireturn, 1) := by decide +kernel
theorem d_law_402 : decode code 402 = .ok (.aload_n 1, 1) := by decide +kernel
theorem d_law_403 : decode code 403 = .ok (.aload_n 0, 1) := by decide +kernel
theorem d_law_404 : decode code 404 = .ok (.iload_n 3, 1) := by decide +kernel
theorem d_law_405 : decode code 405 = .ok (.iconst 1, 1) := by decide +kernel
theorem d_law_406 : decode code 406 = .ok (.iadd, 1) := by decide +kernel
theorem d_law_407 : decode code 407 = .ok (.iaload, 1) := by decide +kernel
theorem d_law_408 : decode code 408 = .ok (.invokevirtual 40, 3) := by decide +kernel
theorem d_law_411 : decode code 411 = .ok (.aload_n 2, 1) := by decide +kernel
theorem d_law_412 : decode code 412 = .ok (.aload_n 0, 1) := by decide +kernel
theorem d_law_413 : decode code 413 = .ok (.iload_n 3, 1) := by decide +kernel
theorem d_law_414 : decode code 414 = .ok (.iconst 1, 1) := by decide +kernel
theorem d_law_415 : decode code 415 = .ok (.iadd, 1) := by decide +kernel
theorem d_law_416 : decode code 416 = .ok (.iaload, 1) := by decide +kernel
theorem d_law_417 : decode code 417 = .ok (.invokevirtual 43, 3) := by decide +kernel
theorem d_law_420 : decode code 420 = .ok (.if_icmp .eq 974, 3) := by decide +kernel
theorem d_law_423 : decode code 423 = .ok (.iconst 0, 1) := by decide +kernel
theorem d_law_424 : decode code 424 = .ok (.ireturn, 1) := by decide +kernel
theorem d_law_425 : decode code 425 = .ok (.aload_n 1, 1) := by decide +kernel
theorem d_law_426 : decode code 426 = .ok (.aload_n 0, 1) := by decide +kernel
theorem d_law_427 : decode code 427 = .ok (.iload_n 3, 1) := by decide +kernel
theorem d_law_428 : decode code 428 = .ok (.iconst 1, 1) := by decide +kernel
theorem d_law_429 : decode code 429 = .ok (.iadd, 1) := by decide +kernel
theorem d_law_430 : decode code 430 = .ok (.iaload, 1) := by decide +kernel
theorem d_law_431 : decode code 431 = .ok (.invokevirtual 44, 3) := by decide +kernel
theorem d_law_434 : decode code 434 = .ok (.aload_n 2, 1) := by decide +kernel
theorem d_law_435 : decode code 435 = .ok (.aload_n 0, 1) := by decide +kernel
theorem d_law_436 : decode code 436 = .ok (.iload_n 3, 1) := by decide +kernel
theorem d_law_437 : decode code 437 = .ok (.iconst 1, 1) := by decide +kernel
theorem d_law_438 : decode code 438 = .ok (.iadd, 1) := by decide +kernel
theorem d_law_439 : decode code 439 = .ok (.iaload, 1) := by decide +kernel
theorem d_law_440 : decode code 440 = .ok (.invokevirtual 47, 3) := by decide +kernel
theorem d_law_443 : decode code 443 = .ok (.if_icmp .eq 951, 3) := by decide +kernel
theorem d_law_446 : decode code 446 = .ok (.iconst 0, 1) := by decide +kernel
theorem d_law_447 : decode code 447 = .ok (.ireturn, 1) := by decide +kernel
theorem d_law_448 : decode code 448 = .ok (.aload_n 1, 1) := by decide +kernel
theorem d_law_449 : decode code 449 = .ok (.aload_n 0, 1) := by decide +kernel
theorem d_law_450 : decode code 450 = .ok (.iload_n 3, 1) := by decide +kernel
theorem d_law_451 : decode code 451 = .ok (.iconst 1, 1) := by decide +kernel
theorem d_law_452 : decode code 452 = .ok (.iadd, 1) := by decide +kernel
theorem d_law_453 : decode code 453 = .ok (.iaload, 1) := by decide +kernel
theorem d_law_454 : decode code 454 = .ok (.invokevirtual 48, 3) := by decide +kernel
theorem d_law_457 : decode code 457 = .ok (.aload_n 2, 1) := by decide +kernel
theorem d_law_458 : decode code 458 = .ok (.aload_n 0, 1) := by decide +kernel
theorem d_law_459 : decode code 459 = .ok (.iload_n 3, 1) := by decide +kernel
theorem d_law_460 : decode code 460 = .ok (.iconst 1, 1) := by decide +kernel
theorem d_law_461 : decode code 461 = .ok (.iadd, 1) := by decide +kernel
theorem d_law_462 : decode code 462 = .ok (.iaload, 1) := by decide +kernel
theorem d_law_463 : decode code 463 = .ok (.invokevirtual 51, 3) := by decide +kernel
theorem d_law_466 : decode code 466 = .ok (.if_icmp .eq 928, 3) := by decide +kernel
theorem d_law_469 : decode code 469 = .ok (.iconst 0, 1) := by decide +kernel
theorem d_law_470 : decode code 470 = .ok (.ireturn, 1) := by decide +kernel
theorem d_law_471 : decode code 471 = .ok (.aload_n 1, 1) := by decide +kernel
theorem d_law_472 : decode code 472 = .ok (.aload_n 0, 1) := by decide +kernel
theorem d_law_473 : decode code 473 = .ok (.iload_n 3, 1) := by decide +kernel
theorem d_law_474 : decode code 474 = .ok (.iconst 1, 1) := by decide +kernel
theorem d_law_475 : decode code 475 = .ok (.iadd, 1) := by decide +kernel
theorem d_law_476 : decode code 476 = .ok (.iaload, 1) := by decide +kernel
theorem d_law_477 : decode code 477 = .ok (.invokevirtual 52, 3) := by decide +kernel
theorem d_law_480 : decode code 480 = .ok (.aload_n 2, 1) := by decide +kernel
theorem d_law_481 : decode code 481 = .ok (.aload_n 0, 1) := by decide +kernel
theorem d_law_482 : decode code 482 = .ok (.iload_n 3, 1) := by decide +kernel
theorem d_law_483 : decode code 483 = .ok (.iconst 1, 1) := by decide +kernel
theorem d_law_484 : decode code 484 = .ok (.iadd, 1) := by decide +kernel
theorem d_law_485 : decode code 485 = .ok (.iaload, 1) := by decide +kernel
theorem d_law_486 : decode code 486 = .ok (.invokevirtual 55, 3) := by decide +kernel
theorem d_law_489 : decode code 489 = .ok (.if_icmp .eq 905, 3) := by decide +kernel
theorem d_law_492 : decode code 492 = .ok (.iconst 0, 1) := by decide +kernel
theorem d_law_493 : decode code 493 = .ok (.ireturn, 1) := by decide +kernel
theorem d_law_494 : decode code 494 = .ok (.aload_n 1, 1) := by decide +kernel
theorem d_law_495 : decode code 495 = .ok (.aload_n 0, 1) := by decide +kernel
theorem d_law_496 : decode code 496 = .ok (.iload_n 3, 1) := by decide +kernel
theorem d_law_497 : decode code 497 = .ok (.iconst 1, 1) := by decide +kernel
theorem d_law_498 : decode code 498 = .ok (.iadd, 1) := by decide +kernel
theorem d_law_499 : decode code 499 = .ok (.iaload, 1) := by decide +kernel
theorem d_law_500 : decode code 500 = .ok (.aload_n 0, 1) := by decide +kernel
theorem d_law_501 : decode code 501 = .ok (.iload_n 3, 1) := by decide +kernel
theorem d_law_502 : decode code 502 = .ok (.iconst 2, 1) := by decide +kernel
theorem d_law_503 : decode code 503 = .ok (.iadd, 1) := by decide +kernel
theorem d_law_504 : decode code 504 = .ok (.iaload, 1) := by decide +kernel
theorem d_law_505 : decode code 505 = .ok (.invokevirtual 56, 3) := by decide +kernel
theorem d_law_508 : decode code 508 = .ok (.aload_n 2, 1) := by decide +kernel
theorem d_law_509 : decode code 509 = .ok (.aload_n 0, 1) := by decide +kernel
theorem d_law_510 : decode code 510 = .ok (.iload_n 3, 1) := by decide +kernel
theorem d_law_511 : decode code 511 = .ok (.iconst 1, 1) := by decide +kernel
theorem d_law_512 : decode code 512 = .ok (.iadd, 1) := by decide +kernel
theorem d_law_513 : decode code 513 = .ok (.iaload, 1) := by decide +kernel
theorem d_law_514 : decode code 514 = .ok (.aload_n 0, 1) := by decide +kernel
theorem d_law_515 : decode code 515 = .ok (.iload_n 3, 1) := by decide +kernel
theorem d_law_516 : decode code 516 = .ok (.iconst 2, 1) := by decide +kernel
theorem d_law_517 : decode code 517 = .ok (.iadd, 1) := by decide +kernel
theorem d_law_518 : decode code 518 = .ok (.iaload, 1) := by decide +kernel
theorem d_law_519 : decode code 519 = .ok (.invokevirtual 59, 3) := by decide +kernel
theorem d_law_522 : decode code 522 = .ok (.if_icmp .eq 872, 3) := by decide +kernel
theorem d_law_525 : decode code 525 = .ok (.iconst 0, 1) := by decide +kernel
theorem d_law_526 : decode code 526 = .ok (.ireturn, 1) := by decide +kernel
theorem d_law_527 : decode code 527 = .ok (.aload_n 1, 1) := by decide +kernel
theorem d_law_528 : decode code 528 = .ok (.aload_n 0, 1) := by decide +kernel
theorem d_law_529 : decode code 529 = .ok (.iload_n 3, 1) := by decide +kernel
theorem d_law_530 : decode code 530 = .ok (.iconst 1, 1) := by decide +kernel
theorem d_law_531 : decode code 531 = .ok (.iadd, 1) := by decide +kernel
theorem d_law_532 : decode code 532 = .ok (.iaload, 1) := by decide +kernel
theorem d_law_533 : decode code 533 = .ok (.invokevirtual 60, 3) := by decide +kernel
theorem d_law_536 : decode code 536 = .ok (.aload_n 2, 1) := by decide +kernel
theorem d_law_537 : decode code 537 = .ok (.aload_n 0, 1) := by decide +kernel
theorem d_law_538 : decode code 538 = .ok (.iload_n 3, 1) := by decide +kernel
theorem d_law_539 : decode code 539 = .ok (.iconst 1, 1) := by decide +kernel
theorem d_law_540 : decode code 540 = .ok (.iadd, 1) := by decide +kernel
theorem d_law_541 : decode code 541 = .ok (.iaload, 1) := by decide +kernel
theorem d_law_542 : decode code 542 = .ok (.invokevirtual 63, 3) := by decide +kernel
theorem d_law_545 : decode code 545 = .ok (.if_icmp .eq 849, 3) := by decide +kernel
theorem d_law_548 : decode code 548 = .ok (.iconst 0, 1) := by decide +kernel
theorem d_law_549 : decode code 549 = .ok (.ireturn, 1) := by decide +kernel
theorem d_law_550 : decode code 550 = .ok (.aload_n 1, 1) := by decide +kernel
theorem d_law_551 : decode code 551 = .ok (.aload_n 0, 1) := by decide +kernel
theorem d_law_552 : decode code 552 = .ok (.iload_n 3, 1) := by decide +kernel
theorem d_law_553 : decode code 553 = .ok (.iconst 1, 1) := by decide +kernel
theorem d_law_554 : decode code 554 = .ok (.iadd, 1) := by decide +kernel
theorem d_law_555 : decode code 555 = .ok (.iaload, 1) := by decide +kernel
theorem d_law_556 : decode code 556 = .ok (.aload_n 0, 1) := by decide +kernel
theorem d_law_557 : decode code 557 = .ok (.iload_n 3, 1) := by decide +kernel
theorem d_law_558 : decode code 558 = .ok (.iconst 2, 1) := by decide +kernel
theorem d_law_559 : decode code 559 = .ok (.iadd, 1) := by decide +kernel
theorem d_law_560 : decode code 560 = .ok (.iaload, 1) := by decide +kernel
theorem d_law_561 : decode code 561 = .ok (.invokevirtual 64, 3) := by decide +kernel
theorem d_law_564 : decode code 564 = .ok (.aload_n 2, 1) := by decide +kernel
theorem d_law_565 : decode code 565 = .ok (.aload_n 0, 1) := by decide +kernel
theorem d_law_566 : decode code 566 = .ok (.iload_n 3, 1) := by decide +kernel
theorem d_law_567 : decode code 567 = .ok (.iconst 1, 1) := by decide +kernel
theorem d_law_568 : decode code 568 = .ok (.iadd, 1) := by decide +kernel
theorem d_law_569 : decode code 569 = .ok (.iaload, 1) := by decide +kernel
theorem d_law_570 : decode code 570 = .ok (.aload_n 0, 1) := by decide +kernel
theorem d_law_571 : decode code 571 = .ok (.iload_n 3, 1) := by decide +kernel
theorem d_law_572 : decode code 572 = .ok (.iconst 2, 1) := by decide +kernel
theorem d_law_573 : decode code 573 = .ok (.iadd, 1) := by decide +kernel
theorem d_law_574 : decode code 574 = .ok (.iaload, 1) := by decide +kernel
theorem d_law_575 : decode code 575 = .ok (.invokevirtual 67, 3) := by decide +kernel
theorem d_law_578 : decode code 578 = .ok (.if_icmp .eq 816, 3) := by decide +kernel
theorem d_law_581 : decode code 581 = .ok (.iconst 0, 1) := by decide +kernel
theorem d_law_582 : decode code 582 = .ok (.ireturn, 1) := by decide +kernel
theorem d_law_583 : decode code 583 = .ok (.aload_n 1, 1) := by decide +kernel
theorem d_law_584 : decode code 584 = .ok (.aload_n 0, 1) := by decide +kernel
theorem d_law_585 : decode code 585 = .ok (.iload_n 3, 1) := by decide +kernel
theorem d_law_586 : decode code 586 = .ok (.iconst 1, 1) := by decide +kernel
theorem d_law_587 : decode code 587 = .ok (.iadd, 1) := by decide +kernel
theorem d_law_588 : decode code 588 = .ok (.iaload, 1) := by decide +kernel
theorem d_law_589 : decode code 589 = .ok (.aload_n 0, 1) := by decide +kernel
theorem d_law_590 : decode code 590 = .ok (.iload_n 3, 1) := by decide +kernel
theorem d_law_591 : decode code 591 = .ok (.iconst 2, 1) := by decide +kernel
theorem d_law_592 : decode code 592 = .ok (.iadd, 1) := by decide +kernel
theorem d_law_593 : decode code 593 = .ok (.iaload, 1) := by decide +kernel
theorem d_law_594 : decode code 594 = .ok (.invokevirtual 68, 3) := by decide +kernel
theorem d_law_597 : decode code 597 = .ok (.aload_n 2, 1) := by decide +kernel
theorem d_law_598 : decode code 598 = .ok (.aload_n 0, 1) := by decide +kernel
theorem d_law_599 : decode code 599 = .ok (.iload_n 3, 1) := by decide +kernel
theorem d_law_600 : decode code 600 = .ok (.iconst 1, 1) := by decide +kernel
theorem d_law_601 : decode code 601 = .ok (.iadd, 1) := by decide +kernel
theorem d_law_602 : decode code 602 = .ok (.iaload, 1) := by decide +kernel
theorem d_law_603 : decode code 603 = .ok (.aload_n 0, 1) := by decide +kernel
theorem d_law_604 : decode code 604 = .ok (.iload_n 3, 1) := by decide +kernel
theorem d_law_605 : decode code 605 = .ok (.iconst 2, 1) := by decide +kernel
theorem d_law_606 : decode code 606 = .ok (.iadd, 1) := by decide +kernel
theorem d_law_607 : decode code 607 = .ok (.iaload, 1) := by decide +kernel
theorem d_law_608 : decode code 608 = .ok (.invokevirtual 71, 3) := by decide +kernel
theorem d_law_611 : decode code 611 = .ok (.if_icmp .eq 783, 3) := by decide +kernel
theorem d_law_614 : decode code 614 = .ok (.iconst 0, 1) := by decide +kernel
theorem d_law_615 : decode code 615 = .ok (.ireturn, 1) := by decide +kernel
theorem d_law_616 : decode code 616 = .ok (.aload_n 1, 1) := by decide +kernel
theorem d_law_617 : decode code 617 = .ok (.aload_n 0, 1) := by decide +kernel
theorem d_law_618 : decode code 618 = .ok (.iload_n 3, 1) := by decide +kernel
theorem d_law_619 : decode code 619 = .ok (.iconst 1, 1) := by decide +kernel
theorem d_law_620 : decode code 620 = .ok (.iadd, 1) := by decide +kernel
theorem d_law_621 : decode code 621 = .ok (.iaload, 1) := by decide +kernel
theorem d_law_622 : decode code 622 = .ok (.aload_n 0, 1) := by decide +kernel
theorem d_law_623 : decode code 623 = .ok (.iload_n 3, 1) := by decide +kernel
theorem d_law_624 : decode code 624 = .ok (.iconst 2, 1) := by decide +kernel
theorem d_law_625 : decode code 625 = .ok (.iadd, 1) := by decide +kernel
theorem d_law_626 : decode code 626 = .ok (.iaload, 1) := by decide +kernel
theorem d_law_627 : decode code 627 = .ok (.aload_n 0, 1) := by decide +kernel
theorem d_law_628 : decode code 628 = .ok (.iload_n 3, 1) := by decide +kernel
theorem d_law_629 : decode code 629 = .ok (.iconst 3, 1) := by decide +kernel
theorem d_law_630 : decode code 630 = .ok (.iadd, 1) := by decide +kernel
theorem d_law_631 : decode code 631 = .ok (.iaload, 1) := by decide +kernel
theorem d_law_632 : decode code 632 = .ok (.invokevirtual 72, 3) := by decide +kernel
theorem d_law_635 : decode code 635 = .ok (.aload_n 2, 1) := by decide +kernel
theorem d_law_636 : decode code 636 = .ok (.aload_n 0, 1) := by decide +kernel
theorem d_law_637 : decode code 637 = .ok (.iload_n 3, 1) := by decide +kernel
theorem d_law_638 : decode code 638 = .ok (.iconst 1, 1) := by decide +kernel
theorem d_law_639 : decode code 639 = .ok (.iadd, 1) := by decide +kernel
theorem d_law_640 : decode code 640 = .ok (.iaload, 1) := by decide +kernel
theorem d_law_641 : decode code 641 = .ok (.aload_n 0, 1) := by decide +kernel
theorem d_law_642 : decode code 642 = .ok (.iload_n 3, 1) := by decide +kernel
theorem d_law_643 : decode code 643 = .ok (.iconst 2, 1) := by decide +kernel
theorem d_law_644 : decode code 644 = .ok (.iadd, 1) := by decide +kernel
theorem d_law_645 : decode code 645 = .ok (.iaload, 1) := by decide +kernel
theorem d_law_646 : decode code 646 = .ok (.aload_n 0, 1) := by decide +kernel
theorem d_law_647 : decode code 647 = .ok (.iload_n 3, 1) := by decide +kernel
theorem d_law_648 : decode code 648 = .ok (.iconst 3, 1) := by decide +kernel
theorem d_law_649 : decode code 649 = .ok (.iadd, 1) := by decide +kernel
theorem d_law_650 : decode code 650 = .ok (.iaload, 1) := by decide +kernel
theorem d_law_651 : decode code 651 = .ok (.invokevirtual 76, 3) := by decide +kernel
theorem d_law_654 : decode code 654 = .ok (.if_icmp .eq 740, 3) := by decide +kernel
theorem d_law_657 : decode code 657 = .ok (.iconst 0, 1) := by decide +kernel
theorem d_law_658 : decode code 658 = .ok (.ireturn, 1) := by decide +kernel
theorem d_law_659 : decode code 659 = .ok (.aload_n 1, 1) := by decide +kernel
theorem d_law_660 : decode code 660 = .ok (.aload_n 0, 1) := by decide +kernel
theorem d_law_661 : decode code 661 = .ok (.iload_n 3, 1) := by decide +kernel
theorem d_law_662 : decode code 662 = .ok (.iconst 1, 1) := by decide +kernel
theorem d_law_663 : decode code 663 = .ok (.iadd, 1) := by decide +kernel
theorem d_law_664 : decode code 664 = .ok (.iaload, 1) := by decide +kernel
theorem d_law_665 : decode code 665 = .ok (.aload_n 0, 1) := by decide +kernel
theorem d_law_666 : decode code 666 = .ok (.iload_n 3, 1) := by decide +kernel
theorem d_law_667 : decode code 667 = .ok (.iconst 2, 1) := by decide +kernel
theorem d_law_668 : decode code 668 = .ok (.iadd, 1) := by decide +kernel
theorem d_law_669 : decode code 669 = .ok (.iaload, 1) := by decide +kernel
theorem d_law_670 : decode code 670 = .ok (.aload_n 0, 1) := by decide +kernel
theorem d_law_671 : decode code 671 = .ok (.iload_n 3, 1) := by decide +kernel
theorem d_law_672 : decode code 672 = .ok (.iconst 3, 1) := by decide +kernel
theorem d_law_673 : decode code 673 = .ok (.iadd, 1) := by decide +kernel
theorem d_law_674 : decode code 674 = .ok (.iaload, 1) := by decide +kernel
theorem d_law_675 : decode code 675 = .ok (.invokevirtual 77, 3) := by decide +kernel
theorem d_law_678 : decode code 678 = .ok (.aload_n 2, 1) := by decide +kernel
theorem d_law_679 : decode code 679 = .ok (.aload_n 0, 1) := by decide +kernel
theorem d_law_680 : decode code 680 = .ok (.iload_n 3, 1) := by decide +kernel
theorem d_law_681 : decode code 681 = .ok (.iconst 1, 1) := by decide +kernel
theorem d_law_682 : decode code 682 = .ok (.iadd, 1) := by decide +kernel
theorem d_law_683 : decode code 683 = .ok (.iaload, 1) := by decide +kernel
theorem d_law_684 : decode code 684 = .ok (.aload_n 0, 1) := by decide +kernel
theorem d_law_685 : decode code 685 = .ok (.iload_n 3, 1) := by decide +kernel
theorem d_law_686 : decode code 686 = .ok (.iconst 2, 1) := by decide +kernel
theorem d_law_687 : decode code 687 = .ok (.iadd, 1) := by decide +kernel
theorem d_law_688 : decode code 688 = .ok (.iaload, 1) := by decide +kernel
theorem d_law_689 : decode code 689 = .ok (.aload_n 0, 1) := by decide +kernel
theorem d_law_690 : decode code 690 = .ok (.iload_n 3, 1) := by decide +kernel
theorem d_law_691 : decode code 691 = .ok (.iconst 3, 1) := by decide +kernel
theorem d_law_692 : decode code 692 = .ok (.iadd, 1) := by decide +kernel
theorem d_law_693 : decode code 693 = .ok (.iaload, 1) := by decide +kernel
theorem d_law_694 : decode code 694 = .ok (.invokevirtual 81, 3) := by decide +kernel
theorem d_law_697 : decode code 697 = .ok (.lcmp, 1) := by decide +kernel
theorem d_law_698 : decode code 698 = .ok (.ifCond .eq 696, 3) := by decide +kernel
theorem d_law_701 : decode code 701 = .ok (.iconst 0, 1) := by decide +kernel
theorem d_law_702 : decode code 702 = .ok (.ireturn, 1) := by decide +kernel
theorem d_law_703 : decode code 703 = .ok (.aload_n 1, 1) := by decide +kernel
theorem d_law_704 : decode code 704 = .ok (.aload_n 0, 1) := by decide +kernel
theorem d_law_705 : decode code 705 = .ok (.iload_n 3, 1) := by decide +kernel
theorem d_law_706 : decode code 706 = .ok (.iconst 1, 1) := by decide +kernel
theorem d_law_707 : decode code 707 = .ok (.iadd, 1) := by decide +kernel
theorem d_law_708 : decode code 708 = .ok (.iaload, 1) := by decide +kernel
theorem d_law_709 : decode code 709 = .ok (.invokevirtual 82, 3) := by decide +kernel
theorem d_law_712 : decode code 712 = .ok (.aload_n 2, 1) := by decide +kernel
theorem d_law_713 : decode code 713 = .ok (.aload_n 0, 1) := by decide +kernel
theorem d_law_714 : decode code 714 = .ok (.iload_n 3, 1) := by decide +kernel
theorem d_law_715 : decode code 715 = .ok (.iconst 1, 1) := by decide +kernel
theorem d_law_716 : decode code 716 = .ok (.iadd, 1) := by decide +kernel
theorem d_law_717 : decode code 717 = .ok (.iaload, 1) := by decide +kernel
theorem d_law_718 : decode code 718 = .ok (.invokevirtual 85, 3) := by decide +kernel
theorem d_law_721 : decode code 721 = .ok (.if_icmp .eq 673, 3) := by decide +kernel
theorem d_law_724 : decode code 724 = .ok (.iconst 0, 1) := by decide +kernel
theorem d_law_725 : decode code 725 = .ok (.ireturn, 1) := by decide +kernel
theorem d_law_726 : decode code 726 = .ok (.aload_n 1, 1) := by decide +kernel
theorem d_law_727 : decode code 727 = .ok (.aload_n 0, 1) := by decide +kernel
theorem d_law_728 : decode code 728 = .ok (.iload_n 3, 1) := by decide +kernel
theorem d_law_729 : decode code 729 = .ok (.iconst 1, 1) := by decide +kernel
theorem d_law_730 : decode code 730 = .ok (.iadd, 1) := by decide +kernel
theorem d_law_731 : decode code 731 = .ok (.iaload, 1) := by decide +kernel
theorem d_law_732 : decode code 732 = .ok (.aload_n 0, 1) := by decide +kernel
theorem d_law_733 : decode code 733 = .ok (.iload_n 3, 1) := by decide +kernel
theorem d_law_734 : decode code 734 = .ok (.iconst 2, 1) := by decide +kernel
theorem d_law_735 : decode code 735 = .ok (.iadd, 1) := by decide +kernel
theorem d_law_736 : decode code 736 = .ok (.iaload, 1) := by decide +kernel
theorem d_law_737 : decode code 737 = .ok (.invokevirtual 86, 3) := by decide +kernel
theorem d_law_740 : decode code 740 = .ok (.aload_n 2, 1) := by decide +kernel
theorem d_law_741 : decode code 741 = .ok (.aload_n 0, 1) := by decide +kernel
theorem d_law_742 : decode code 742 = .ok (.iload_n 3, 1) := by decide +kernel
theorem d_law_743 : decode code 743 = .ok (.iconst 1, 1) := by decide +kernel
theorem d_law_744 : decode code 744 = .ok (.iadd, 1) := by decide +kernel
theorem d_law_745 : decode code 745 = .ok (.iaload, 1) := by decide +kernel
theorem d_law_746 : decode code 746 = .ok (.aload_n 0, 1) := by decide +kernel
theorem d_law_747 : decode code 747 = .ok (.iload_n 3, 1) := by decide +kernel
theorem d_law_748 : decode code 748 = .ok (.iconst 2, 1) := by decide +kernel
theorem d_law_749 : decode code 749 = .ok (.iadd, 1) := by decide +kernel
theorem d_law_750 : decode code 750 = .ok (.iaload, 1) := by decide +kernel
theorem d_law_751 : decode code 751 = .ok (.invokevirtual 89, 3) := by decide +kernel
theorem d_law_754 : decode code 754 = .ok (.if_icmp .eq 640, 3) := by decide +kernel
theorem d_law_757 : decode code 757 = .ok (.iconst 0, 1) := by decide +kernel
theorem d_law_758 : decode code 758 = .ok (.ireturn, 1) := by decide +kernel
theorem d_law_759 : decode code 759 = .ok (.aload_n 1, 1) := by decide +kernel
theorem d_law_760 : decode code 760 = .ok (.aload_n 0, 1) := by decide +kernel
theorem d_law_761 : decode code 761 = .ok (.iload_n 3, 1) := by decide +kernel
theorem d_law_762 : decode code 762 = .ok (.iconst 1, 1) := by decide +kernel
theorem d_law_763 : decode code 763 = .ok (.iadd, 1) := by decide +kernel
theorem d_law_764 : decode code 764 = .ok (.iaload, 1) := by decide +kernel
theorem d_law_765 : decode code 765 = .ok (.invokevirtual 90, 3) := by decide +kernel
theorem d_law_768 : decode code 768 = .ok (.aload_n 2, 1) := by decide +kernel
theorem d_law_769 : decode code 769 = .ok (.aload_n 0, 1) := by decide +kernel
theorem d_law_770 : decode code 770 = .ok (.iload_n 3, 1) := by decide +kernel
theorem d_law_771 : decode code 771 = .ok (.iconst 1, 1) := by decide +kernel
theorem d_law_772 : decode code 772 = .ok (.iadd, 1) := by decide +kernel
theorem d_law_773 : decode code 773 = .ok (.iaload, 1) := by decide +kernel
theorem d_law_774 : decode code 774 = .ok (.invokevirtual 93, 3) := by decide +kernel
theorem d_law_777 : decode code 777 = .ok (.if_icmp .eq 617, 3) := by decide +kernel
theorem d_law_780 : decode code 780 = .ok (.iconst 0, 1) := by decide +kernel
theorem d_law_781 : decode code 781 = .ok (.ireturn, 1) := by decide +kernel
theorem d_law_782 : decode code 782 = .ok (.aload_n 1, 1) := by decide +kernel
theorem d_law_783 : decode code 783 = .ok (.invokevirtual 94, 3) := by decide +kernel
theorem d_law_786 : decode code 786 = .ok (.aload_n 2, 1) := by decide +kernel
theorem d_law_787 : decode code 787 = .ok (.invokevirtual 98, 3) := by decide +kernel
theorem d_law_790 : decode code 790 = .ok (.if_icmp .eq 604, 3) := by decide +kernel
theorem d_law_793 : decode code 793 = .ok (.iconst 0, 1) := by decide +kernel
theorem d_law_794 : decode code 794 = .ok (.ireturn, 1) := by decide +kernel
theorem d_law_795 : decode code 795 = .ok (.aload_n 1, 1) := by decide +kernel
theorem d_law_796 : decode code 796 = .ok (.aload_n 0, 1) := by decide +kernel
theorem d_law_797 : decode code 797 = .ok (.iload_n 3, 1) := by decide +kernel
theorem d_law_798 : decode code 798 = .ok (.iconst 1, 1) := by decide +kernel
theorem d_law_799 : decode code 799 = .ok (.iadd, 1) := by decide +kernel
theorem d_law_800 : decode code 800 = .ok (.iaload, 1) := by decide +kernel
theorem d_law_801 : decode code 801 = .ok (.aload_n 0, 1) := by decide +kernel
theorem d_law_802 : decode code 802 = .ok (.iload_n 3, 1) := by decide +kernel
theorem d_law_803 : decode code 803 = .ok (.iconst 2, 1) := by decide +kernel
theorem d_law_804 : decode code 804 = .ok (.iadd, 1) := by decide +kernel
theorem d_law_805 : decode code 805 = .ok (.iaload, 1) := by decide +kernel
theorem d_law_806 : decode code 806 = .ok (.invokevirtual 99, 3) := by decide +kernel
theorem d_law_809 : decode code 809 = .ok (.aload_n 2, 1) := by decide +kernel
theorem d_law_810 : decode code 810 = .ok (.aload_n 0, 1) := by decide +kernel
theorem d_law_811 : decode code 811 = .ok (.iload_n 3, 1) := by decide +kernel
theorem d_law_812 : decode code 812 = .ok (.iconst 1, 1) := by decide +kernel
theorem d_law_813 : decode code 813 = .ok (.iadd, 1) := by decide +kernel
theorem d_law_814 : decode code 814 = .ok (.iaload, 1) := by decide +kernel
theorem d_law_815 : decode code 815 = .ok (.aload_n 0, 1) := by decide +kernel
theorem d_law_816 : decode code 816 = .ok (.iload_n 3, 1) := by decide +kernel
theorem d_law_817 : decode code 817 = .ok (.iconst 2, 1) := by decide +kernel
theorem d_law_818 : decode code 818 = .ok (.iadd, 1) := by decide +kernel
theorem d_law_819 : decode code 819 = .ok (.iaload, 1) := by decide +kernel
theorem d_law_820 : decode code 820 = .ok (.invokevirtual 102, 3) := by decide +kernel
theorem d_law_823 : decode code 823 = .ok (.if_icmp .eq 571, 3) := by decide +kernel
theorem d_law_826 : decode code 826 = .ok (.iconst 0, 1) := by decide +kernel
theorem d_law_827 : decode code 827 = .ok (.ireturn, 1) := by decide +kernel
theorem d_law_828 : decode code 828 = .ok (.aload_n 1, 1) := by decide +kernel
theorem d_law_829 : decode code 829 = .ok (.aload_n 0, 1) := by decide +kernel
theorem d_law_830 : decode code 830 = .ok (.iload_n 3, 1) := by decide +kernel
theorem d_law_831 : decode code 831 = .ok (.iconst 1, 1) := by decide +kernel
theorem d_law_832 : decode code 832 = .ok (.iadd, 1) := by decide +kernel
theorem d_law_833 : decode code 833 = .ok (.iaload, 1) := by decide +kernel
theorem d_law_834 : decode code 834 = .ok (.aload_n 0, 1) := by decide +kernel
theorem d_law_835 : decode code 835 = .ok (.iload_n 3, 1) := by decide +kernel
theorem d_law_836 : decode code 836 = .ok (.iconst 2, 1) := by decide +kernel
theorem d_law_837 : decode code 837 = .ok (.iadd, 1) := by decide +kernel
theorem d_law_838 : decode code 838 = .ok (.iaload, 1) := by decide +kernel
theorem d_law_839 : decode code 839 = .ok (.aload_n 0, 1) := by decide +kernel
theorem d_law_840 : decode code 840 = .ok (.iload_n 3, 1) := by decide +kernel
theorem d_law_841 : decode code 841 = .ok (.iconst 3, 1) := by decide +kernel
theorem d_law_842 : decode code 842 = .ok (.iadd, 1) := by decide +kernel
theorem d_law_843 : decode code 843 = .ok (.iaload, 1) := by decide +kernel
theorem d_law_844 : decode code 844 = .ok (.invokevirtual 103, 3) := by decide +kernel
theorem d_law_847 : decode code 847 = .ok (.aload_n 2, 1) := by decide +kernel
theorem d_law_848 : decode code 848 = .ok (.aload_n 0, 1) := by decide +kernel
theorem d_law_849 : decode code 849 = .ok (.iload_n 3, 1) := by decide +kernel
theorem d_law_850 : decode code 850 = .ok (.iconst 1, 1) := by decide +kernel
theorem d_law_851 : decode code 851 = .ok (.iadd, 1) := by decide +kernel
theorem d_law_852 : decode code 852 = .ok (.iaload, 1) := by decide +kernel
theorem d_law_853 : decode code 853 = .ok (.aload_n 0, 1) := by decide +kernel
theorem d_law_854 : decode code 854 = .ok (.iload_n 3, 1) := by decide +kernel
theorem d_law_855 : decode code 855 = .ok (.iconst 2, 1) := by decide +kernel
theorem d_law_856 : decode code 856 = .ok (.iadd, 1) := by decide +kernel
theorem d_law_857 : decode code 857 = .ok (.iaload, 1) := by decide +kernel
theorem d_law_858 : decode code 858 = .ok (.aload_n 0, 1) := by decide +kernel
theorem d_law_859 : decode code 859 = .ok (.iload_n 3, 1) := by decide +kernel
theorem d_law_860 : decode code 860 = .ok (.iconst 3, 1) := by decide +kernel
theorem d_law_861 : decode code 861 = .ok (.iadd, 1) := by decide +kernel
theorem d_law_862 : decode code 862 = .ok (.iaload, 1) := by decide +kernel
theorem d_law_863 : decode code 863 = .ok (.invokevirtual 106, 3) := by decide +kernel
theorem d_law_866 : decode code 866 = .ok (.if_icmp .eq 528, 3) := by decide +kernel
theorem d_law_869 : decode code 869 = .ok (.iconst 0, 1) := by decide +kernel
theorem d_law_870 : decode code 870 = .ok (.ireturn, 1) := by decide +kernel
theorem d_law_871 : decode code 871 = .ok (.aload_n 1, 1) := by decide +kernel
theorem d_law_872 : decode code 872 = .ok (.aload_n 0, 1) := by decide +kernel
theorem d_law_873 : decode code 873 = .ok (.iload_n 3, 1) := by decide +kernel
theorem d_law_874 : decode code 874 = .ok (.iconst 1, 1) := by decide +kernel
theorem d_law_875 : decode code 875 = .ok (.iadd, 1) := by decide +kernel
theorem d_law_876 : decode code 876 = .ok (.iaload, 1) := by decide +kernel
theorem d_law_877 : decode code 877 = .ok (.invokevirtual 107, 3) := by decide +kernel
theorem d_law_880 : decode code 880 = .ok (.aload_n 2, 1) := by decide +kernel
theorem d_law_881 : decode code 881 = .ok (.aload_n 0, 1) := by decide +kernel
theorem d_law_882 : decode code 882 = .ok (.iload_n 3, 1) := by decide +kernel
theorem d_law_883 : decode code 883 = .ok (.iconst 1, 1) := by decide +kernel
theorem d_law_884 : decode code 884 = .ok (.iadd, 1) := by decide +kernel
theorem d_law_885 : decode code 885 = .ok (.iaload, 1) := by decide +kernel
theorem d_law_886 : decode code 886 = .ok (.invokevirtual 110, 3) := by decide +kernel
theorem d_law_889 : decode code 889 = .ok (.if_icmp .eq 505, 3) := by decide +kernel
theorem d_law_892 : decode code 892 = .ok (.iconst 0, 1) := by decide +kernel
theorem d_law_893 : decode code 893 = .ok (.ireturn, 1) := by decide +kernel
theorem d_law_894 : decode code 894 = .ok (.aload_n 1, 1) := by decide +kernel
theorem d_law_895 : decode code 895 = .ok (.aload_n 0, 1) := by decide +kernel
theorem d_law_896 : decode code 896 = .ok (.iload_n 3, 1) := by decide +kernel
theorem d_law_897 : decode code 897 = .ok (.iconst 1, 1) := by decide +kernel
theorem d_law_898 : decode code 898 = .ok (.iadd, 1) := by decide +kernel
theorem d_law_899 : decode code 899 = .ok (.iaload, 1) := by decide +kernel
theorem d_law_900 : decode code 900 = .ok (.invokevirtual 111, 3) := by decide +kernel
theorem d_law_903 : decode code 903 = .ok (.aload_n 2, 1) := by decide +kernel
theorem d_law_904 : decode code 904 = .ok (.aload_n 0, 1) := by decide +kernel
theorem d_law_905 : decode code 905 = .ok (.iload_n 3, 1) := by decide +kernel
theorem d_law_906 : decode code 906 = .ok (.iconst 1, 1) := by decide +kernel
theorem d_law_907 : decode code 907 = .ok (.iadd, 1) := by decide +kernel
theorem d_law_908 : decode code 908 = .ok (.iaload, 1) := by decide +kernel
theorem d_law_909 : decode code 909 = .ok (.invokevirtual 114, 3) := by decide +kernel
theorem d_law_912 : decode code 912 = .ok (.if_icmp .eq 482, 3) := by decide +kernel
theorem d_law_915 : decode code 915 = .ok (.iconst 0, 1) := by decide +kernel
theorem d_law_916 : decode code 916 = .ok (.ireturn, 1) := by decide +kernel
theorem d_law_917 : decode code 917 = .ok (.aload_n 1, 1) := by decide +kernel
theorem d_law_918 : decode code 918 = .ok (.aload_n 0, 1) := by decide +kernel
theorem d_law_919 : decode code 919 = .ok (.iload_n 3, 1) := by decide +kernel
theorem d_law_920 : decode code 920 = .ok (.iconst 1, 1) := by decide +kernel
theorem d_law_921 : decode code 921 = .ok (.iadd, 1) := by decide +kernel
theorem d_law_922 : decode code 922 = .ok (.iaload, 1) := by decide +kernel
theorem d_law_923 : decode code 923 = .ok (.invokevirtual 115, 3) := by decide +kernel
theorem d_law_926 : decode code 926 = .ok (.aload_n 2, 1) := by decide +kernel
theorem d_law_927 : decode code 927 = .ok (.aload_n 0, 1) := by decide +kernel
theorem d_law_928 : decode code 928 = .ok (.iload_n 3, 1) := by decide +kernel
theorem d_law_929 : decode code 929 = .ok (.iconst 1, 1) := by decide +kernel
theorem d_law_930 : decode code 930 = .ok (.iadd, 1) := by decide +kernel
theorem d_law_931 : decode code 931 = .ok (.iaload, 1) := by decide +kernel
theorem d_law_932 : decode code 932 = .ok (.invokevirtual 118, 3) := by decide +kernel
theorem d_law_935 : decode code 935 = .ok (.if_icmp .eq 459, 3) := by decide +kernel
theorem d_law_938 : decode code 938 = .ok (.iconst 0, 1) := by decide +kernel
theorem d_law_939 : decode code 939 = .ok (.ireturn, 1) := by decide +kernel
theorem d_law_940 : decode code 940 = .ok (.aload_n 1, 1) := by decide +kernel
theorem d_law_941 : decode code 941 = .ok (.aload_n 0, 1) := by decide +kernel
theorem d_law_942 : decode code 942 = .ok (.iload_n 3, 1) := by decide +kernel
theorem d_law_943 : decode code 943 = .ok (.iconst 1, 1) := by decide +kernel
theorem d_law_944 : decode code 944 = .ok (.iadd, 1) := by decide +kernel
theorem d_law_945 : decode code 945 = .ok (.iaload, 1) := by decide +kernel
theorem d_law_946 : decode code 946 = .ok (.invokevirtual 119, 3) := by decide +kernel
theorem d_law_949 : decode code 949 = .ok (.aload_n 2, 1) := by decide +kernel
theorem d_law_950 : decode code 950 = .ok (.aload_n 0, 1) := by decide +kernel
theorem d_law_951 : decode code 951 = .ok (.iload_n 3, 1) := by decide +kernel
theorem d_law_952 : decode code 952 = .ok (.iconst 1, 1) := by decide +kernel
theorem d_law_953 : decode code 953 = .ok (.iadd, 1) := by decide +kernel
theorem d_law_954 : decode code 954 = .ok (.iaload, 1) := by decide +kernel
theorem d_law_955 : decode code 955 = .ok (.invokevirtual 123, 3) := by decide +kernel
theorem d_law_958 : decode code 958 = .ok (.lcmp, 1) := by decide +kernel
theorem d_law_959 : decode code 959 = .ok (.ifCond .eq 435, 3) := by decide +kernel
theorem d_law_962 : decode code 962 = .ok (.iconst 0, 1) := by decide +kernel
theorem d_law_963 : decode code 963 = .ok (.ireturn, 1) := by decide +kernel
theorem d_law_964 : decode code 964 = .ok (.aload_n 1, 1) := by decide +kernel
theorem d_law_965 : decode code 965 = .ok (.aload_n 0, 1) := by decide +kernel
theorem d_law_966 : decode code 966 = .ok (.iload_n 3, 1) := by decide +kernel
theorem d_law_967 : decode code 967 = .ok (.iconst 1, 1) := by decide +kernel
theorem d_law_968 : decode code 968 = .ok (.iadd, 1) := by decide +kernel
theorem d_law_969 : decode code 969 = .ok (.iaload, 1) := by decide +kernel
theorem d_law_970 : decode code 970 = .ok (.aload_n 0, 1) := by decide +kernel
theorem d_law_971 : decode code 971 = .ok (.iload_n 3, 1) := by decide +kernel
theorem d_law_972 : decode code 972 = .ok (.iconst 2, 1) := by decide +kernel
theorem d_law_973 : decode code 973 = .ok (.iadd, 1) := by decide +kernel
theorem d_law_974 : decode code 974 = .ok (.iaload, 1) := by decide +kernel
theorem d_law_975 : decode code 975 = .ok (.invokevirtual 124, 3) := by decide +kernel
theorem d_law_978 : decode code 978 = .ok (.aload_n 2, 1) := by decide +kernel
theorem d_law_979 : decode code 979 = .ok (.aload_n 0, 1) := by decide +kernel
theorem d_law_980 : decode code 980 = .ok (.iload_n 3, 1) := by decide +kernel
theorem d_law_981 : decode code 981 = .ok (.iconst 1, 1) := by decide +kernel
theorem d_law_982 : decode code 982 = .ok (.iadd, 1) := by decide +kernel
theorem d_law_983 : decode code 983 = .ok (.iaload, 1) := by decide +kernel
theorem d_law_984 : decode code 984 = .ok (.aload_n 0, 1) := by decide +kernel
theorem d_law_985 : decode code 985 = .ok (.iload_n 3, 1) := by decide +kernel
theorem d_law_986 : decode code 986 = .ok (.iconst 2, 1) := by decide +kernel
theorem d_law_987 : decode code 987 = .ok (.iadd, 1) := by decide +kernel
theorem d_law_988 : decode code 988 = .ok (.iaload, 1) := by decide +kernel
theorem d_law_989 : decode code 989 = .ok (.invokevirtual 127, 3) := by decide +kernel
theorem d_law_992 : decode code 992 = .ok (.if_icmp .eq 402, 3) := by decide +kernel
theorem d_law_995 : decode code 995 = .ok (.iconst 0, 1) := by decide +kernel
theorem d_law_996 : decode code 996 = .ok (.ireturn, 1) := by decide +kernel
theorem d_law_997 : decode code 997 = .ok (.aload_n 1, 1) := by decide +kernel
theorem d_law_998 : decode code 998 = .ok (.aload_n 0, 1) := by decide +kernel
theorem d_law_999 : decode code 999 = .ok (.iload_n 3, 1) := by decide +kernel
theorem d_law_1000 : decode code 1000 = .ok (.iconst 1, 1) := by decide +kernel
theorem d_law_1001 : decode code 1001 = .ok (.iadd, 1) := by decide +kernel
theorem d_law_1002 : decode code 1002 = .ok (.iaload, 1) := by decide +kernel
theorem d_law_1003 : decode code 1003 = .ok (.invokevirtual 128, 3) := by decide +kernel
theorem d_law_1006 : decode code 1006 = .ok (.aload_n 2, 1) := by decide +kernel
theorem d_law_1007 : decode code 1007 = .ok (.aload_n 0, 1) := by decide +kernel
theorem d_law_1008 : decode code 1008 = .ok (.iload_n 3, 1) := by decide +kernel
theorem d_law_1009 : decode code 1009 = .ok (.iconst 1, 1) := by decide +kernel
theorem d_law_1010 : decode code 1010 = .ok (.iadd, 1) := by decide +kernel
theorem d_law_1011 : decode code 1011 = .ok (.iaload, 1) := by decide +kernel
theorem d_law_1012 : decode code 1012 = .ok (.invokevirtual 131, 3) := by decide +kernel
theorem d_law_1015 : decode code 1015 = .ok (.if_icmp .eq 379, 3) := by decide +kernel
theorem d_law_1018 : decode code 1018 = .ok (.iconst 0, 1) := by decide +kernel
theorem d_law_1019 : decode code 1019 = .ok (.ireturn, 1) := by decide +kernel
theorem d_law_1020 : decode code 1020 = .ok (.aload_n 1, 1) := by decide +kernel
theorem d_law_1021 : decode code 1021 = .ok (.aload_n 0, 1) := by decide +kernel
theorem d_law_1022 : decode code 1022 = .ok (.iload_n 3, 1) := by decide +kernel
theorem d_law_1023 : decode code 1023 = .ok (.iconst 1, 1) := by decide +kernel
theorem d_law_1024 : decode code 1024 = .ok (.iadd, 1) := by decide +kernel
theorem d_law_1025 : decode code 1025 = .ok (.iaload, 1) := by decide +kernel
theorem d_law_1026 : decode code 1026 = .ok (.invokevirtual 132, 3) := by decide +kernel
theorem d_law_1029 : decode code 1029 = .ok (.aload_n 2, 1) := by decide +kernel
theorem d_law_1030 : decode code 1030 = .ok (.aload_n 0, 1) := by decide +kernel
theorem d_law_1031 : decode code 1031 = .ok (.iload_n 3, 1) := by decide +kernel
theorem d_law_1032 : decode code 1032 = .ok (.iconst 1, 1) := by decide +kernel
theorem d_law_1033 : decode code 1033 = .ok (.iadd, 1) := by decide +kernel
theorem d_law_1034 : decode code 1034 = .ok (.iaload, 1) := by decide +kernel
theorem d_law_1035 : decode code 1035 = .ok (.invokevirtual 135, 3) := by decide +kernel
theorem d_law_1038 : decode code 1038 = .ok (.if_icmp .eq 356, 3) := by decide +kernel
theorem d_law_1041 : decode code 1041 = .ok (.iconst 0, 1) := by decide +kernel
theorem d_law_1042 : decode code 1042 = .ok (.ireturn, 1) := by decide +kernel
theorem d_law_1043 : decode code 1043 = .ok (.aload_n 1, 1) := by decide +kernel
theorem d_law_1044 : decode code 1044 = .ok (.aload_n 0, 1) := by decide +kernel
theorem d_law_1045 : decode code 1045 = .ok (.iload_n 3, 1) := by decide +kernel
theorem d_law_1046 : decode code 1046 = .ok (.iconst 1, 1) := by decide +kernel
theorem d_law_1047 : decode code 1047 = .ok (.iadd, 1) := by decide +kernel
theorem d_law_1048 : decode code 1048 = .ok (.iaload, 1) := by decide +kernel
theorem d_law_1049 : decode code 1049 = .ok (.invokevirtual 136, 3) := by decide +kernel
theorem d_law_1052 : decode code 1052 = .ok (.aload_n 2, 1) := by decide +kernel
theorem d_law_1053 : decode code 1053 = .ok (.aload_n 0, 1) := by decide +kernel
theorem d_law_1054 : decode code 1054 = .ok (.iload_n 3, 1) := by decide +kernel
theorem d_law_1055 : decode code 1055 = .ok (.iconst 1, 1) := by decide +kernel
theorem d_law_1056 : decode code 1056 = .ok (.iadd, 1) := by decide +kernel
theorem d_law_1057 : decode code 1057 = .ok (.iaload, 1) := by decide +kernel
theorem d_law_1058 : decode code 1058 = .ok (.invokevirtual 139, 3) := by decide +kernel
theorem d_law_1061 : decode code 1061 = .ok (.if_icmp .eq 333, 3) := by decide +kernel
theorem d_law_1064 : decode code 1064 = .ok (.iconst 0, 1) := by decide +kernel
theorem d_law_1065 : decode code 1065 = .ok (.ireturn, 1) := by decide +kernel
theorem d_law_1066 : decode code 1066 = .ok (.aload_n 1, 1) := by decide +kernel
theorem d_law_1067 : decode code 1067 = .ok (.aload_n 0, 1) := by decide +kernel
theorem d_law_1068 : decode code 1068 = .ok (.iload_n 3, 1) := by decide +kernel
theorem d_law_1069 : decode code 1069 = .ok (.iconst 1, 1) := by decide +kernel
theorem d_law_1070 : decode code 1070 = .ok (.iadd, 1) := by decide +kernel
theorem d_law_1071 : decode code 1071 = .ok (.iaload, 1) := by decide +kernel
theorem d_law_1072 : decode code 1072 = .ok (.invokevirtual 140, 3) := by decide +kernel
theorem d_law_1075 : decode code 1075 = .ok (.aload_n 2, 1) := by decide +kernel
theorem d_law_1076 : decode code 1076 = .ok (.aload_n 0, 1) := by decide +kernel
theorem d_law_1077 : decode code 1077 = .ok (.iload_n 3, 1) := by decide +kernel
theorem d_law_1078 : decode code 1078 = .ok (.iconst 1, 1) := by decide +kernel
theorem d_law_1079 : decode code 1079 = .ok (.iadd, 1) := by decide +kernel
theorem d_law_1080 : decode code 1080 = .ok (.iaload, 1) := by decide +kernel
theorem d_law_1081 : decode code 1081 = .ok (.invokevirtual 143, 3) := by decide +kernel
theorem d_law_1084 : decode code 1084 = .ok (.if_icmp .eq 310, 3) := by decide +kernel
theorem d_law_1087 : decode code 1087 = .ok (.iconst 0, 1) := by decide +kernel
theorem d_law_1088 : decode code 1088 = .ok (.ireturn, 1) := by decide +kernel
theorem d_law_1089 : decode code 1089 = .ok (.aload_n 1, 1) := by decide +kernel
theorem d_law_1090 : decode code 1090 = .ok (.aload_n 0, 1) := by decide +kernel
theorem d_law_1091 : decode code 1091 = .ok (.iload_n 3, 1) := by decide +kernel
theorem d_law_1092 : decode code 1092 = .ok (.iconst 1, 1) := by decide +kernel
theorem d_law_1093 : decode code 1093 = .ok (.iadd, 1) := by decide +kernel
theorem d_law_1094 : decode code 1094 = .ok (.iaload, 1) := by decide +kernel
theorem d_law_1095 : decode code 1095 = .ok (.aload_n 0, 1) := by decide +kernel
theorem d_law_1096 : decode code 1096 = .ok (.iload_n 3, 1) := by decide +kernel
theorem d_law_1097 : decode code 1097 = .ok (.iconst 2, 1) := by decide +kernel
theorem d_law_1098 : decode code 1098 = .ok (.iadd, 1) := by decide +kernel
theorem d_law_1099 : decode code 1099 = .ok (.iaload, 1) := by decide +kernel
theorem d_law_1100 : decode code 1100 = .ok (.aload_n 0, 1) := by decide +kernel
theorem d_law_1101 : decode code 1101 = .ok (.iload_n 3, 1) := by decide +kernel
theorem d_law_1102 : decode code 1102 = .ok (.iconst 3, 1) := by decide +kernel
theorem d_law_1103 : decode code 1103 = .ok (.iadd, 1) := by decide +kernel
theorem d_law_1104 : decode code 1104 = .ok (.iaload, 1) := by decide +kernel
theorem d_law_1105 : decode code 1105 = .ok (.invokevirtual 144, 3) := by decide +kernel
theorem d_law_1108 : decode code 1108 = .ok (.aload_n 2, 1) := by decide +kernel
theorem d_law_1109 : decode code 1109 = .ok (.aload_n 0, 1) := by decide +kernel
theorem d_law_1110 : decode code 1110 = .ok (.iload_n 3, 1) := by decide +kernel
theorem d_law_1111 : decode code 1111 = .ok (.iconst 1, 1) := by decide +kernel
theorem d_law_1112 : decode code 1112 = .ok (.iadd, 1) := by decide +kernel
theorem d_law_1113 : decode code 1113 = .ok (.iaload, 1) := by decide +kernel
theorem d_law_1114 : decode code 1114 = .ok (.aload_n 0, 1) := by decide +kernel
theorem d_law_1115 : decode code 1115 = .ok (.iload_n 3, 1) := by decide +kernel
theorem d_law_1116 : decode code 1116 = .ok (.iconst 2, 1) := by decide +kernel
theorem d_law_1117 : decode code 1117 = .ok (.iadd, 1) := by decide +kernel
theorem d_law_1118 : decode code 1118 = .ok (.iaload, 1) := by decide +kernel
theorem d_law_1119 : decode code 1119 = .ok (.aload_n 0, 1) := by decide +kernel
theorem d_law_1120 : decode code 1120 = .ok (.iload_n 3, 1) := by decide +kernel
theorem d_law_1121 : decode code 1121 = .ok (.iconst 3, 1) := by decide +kernel
theorem d_law_1122 : decode code 1122 = .ok (.iadd, 1) := by decide +kernel
theorem d_law_1123 : decode code 1123 = .ok (.iaload, 1) := by decide +kernel
theorem d_law_1124 : decode code 1124 = .ok (.invokevirtual 147, 3) := by decide +kernel
theorem d_law_1127 : decode code 1127 = .ok (.if_icmp .eq 267, 3) := by decide +kernel
theorem d_law_1130 : decode code 1130 = .ok (.iconst 0, 1) := by decide +kernel
theorem d_law_1131 : decode code 1131 = .ok (.ireturn, 1) := by decide +kernel
theorem d_law_1132 : decode code 1132 = .ok (.aload_n 1, 1) := by decide +kernel
theorem d_law_1133 : decode code 1133 = .ok (.aload_n 0, 1) := by decide +kernel
theorem d_law_1134 : decode code 1134 = .ok (.iload_n 3, 1) := by decide +kernel
theorem d_law_1135 : decode code 1135 = .ok (.iconst 1, 1) := by decide +kernel
theorem d_law_1136 : decode code 1136 = .ok (.iadd, 1) := by decide +kernel
theorem d_law_1137 : decode code 1137 = .ok (.iaload, 1) := by decide +kernel
theorem d_law_1138 : decode code 1138 = .ok (.aload_n 0, 1) := by decide +kernel
theorem d_law_1139 : decode code 1139 = .ok (.iload_n 3, 1) := by decide +kernel
theorem d_law_1140 : decode code 1140 = .ok (.iconst 2, 1) := by decide +kernel
theorem d_law_1141 : decode code 1141 = .ok (.iadd, 1) := by decide +kernel
theorem d_law_1142 : decode code 1142 = .ok (.iaload, 1) := by decide +kernel
theorem d_law_1143 : decode code 1143 = .ok (.invokevirtual 148, 3) := by decide +kernel
theorem d_law_1146 : decode code 1146 = .ok (.aload_n 2, 1) := by decide +kernel
theorem d_law_1147 : decode code 1147 = .ok (.aload_n 0, 1) := by decide +kernel
theorem d_law_1148 : decode code 1148 = .ok (.iload_n 3, 1) := by decide +kernel
theorem d_law_1149 : decode code 1149 = .ok (.iconst 1, 1) := by decide +kernel
theorem d_law_1150 : decode code 1150 = .ok (.iadd, 1) := by decide +kernel
theorem d_law_1151 : decode code 1151 = .ok (.iaload, 1) := by decide +kernel
theorem d_law_1152 : decode code 1152 = .ok (.aload_n 0, 1) := by decide +kernel
theorem d_law_1153 : decode code 1153 = .ok (.iload_n 3, 1) := by decide +kernel
theorem d_law_1154 : decode code 1154 = .ok (.iconst 2, 1) := by decide +kernel
theorem d_law_1155 : decode code 1155 = .ok (.iadd, 1) := by decide +kernel
theorem d_law_1156 : decode code 1156 = .ok (.iaload, 1) := by decide +kernel
theorem d_law_1157 : decode code 1157 = .ok (.invokevirtual 151, 3) := by decide +kernel
theorem d_law_1160 : decode code 1160 = .ok (.if_icmp .eq 234, 3) := by decide +kernel
theorem d_law_1163 : decode code 1163 = .ok (.iconst 0, 1) := by decide +kernel
theorem d_law_1164 : decode code 1164 = .ok (.ireturn, 1) := by decide +kernel
theorem d_law_1165 : decode code 1165 = .ok (.aload_n 1, 1) := by decide +kernel
theorem d_law_1166 : decode code 1166 = .ok (.aload_n 0, 1) := by decide +kernel
theorem d_law_1167 : decode code 1167 = .ok (.iload_n 3, 1) := by decide +kernel
theorem d_law_1168 : decode code 1168 = .ok (.iconst 1, 1) := by decide +kernel
theorem d_law_1169 : decode code 1169 = .ok (.iadd, 1) := by decide +kernel
theorem d_law_1170 : decode code 1170 = .ok (.iaload, 1) := by decide +kernel
theorem d_law_1171 : decode code 1171 = .ok (.aload_n 0, 1) := by decide +kernel
theorem d_law_1172 : decode code 1172 = .ok (.iload_n 3, 1) := by decide +kernel
theorem d_law_1173 : decode code 1173 = .ok (.iconst 2, 1) := by decide +kernel
theorem d_law_1174 : decode code 1174 = .ok (.iadd, 1) := by decide +kernel
theorem d_law_1175 : decode code 1175 = .ok (.iaload, 1) := by decide +kernel
theorem d_law_1176 : decode code 1176 = .ok (.aload_n 0, 1) := by decide +kernel
theorem d_law_1177 : decode code 1177 = .ok (.iload_n 3, 1) := by decide +kernel
theorem d_law_1178 : decode code 1178 = .ok (.iconst 3, 1) := by decide +kernel
theorem d_law_1179 : decode code 1179 = .ok (.iadd, 1) := by decide +kernel
theorem d_law_1180 : decode code 1180 = .ok (.iaload, 1) := by decide +kernel
theorem d_law_1181 : decode code 1181 = .ok (.invokevirtual 152, 3) := by decide +kernel
theorem d_law_1184 : decode code 1184 = .ok (.aload_n 2, 1) := by decide +kernel
theorem d_law_1185 : decode code 1185 = .ok (.aload_n 0, 1) := by decide +kernel
theorem d_law_1186 : decode code 1186 = .ok (.iload_n 3, 1) := by decide +kernel
theorem d_law_1187 : decode code 1187 = .ok (.iconst 1, 1) := by decide +kernel
theorem d_law_1188 : decode code 1188 = .ok (.iadd, 1) := by decide +kernel
theorem d_law_1189 : decode code 1189 = .ok (.iaload, 1) := by decide +kernel
theorem d_law_1190 : decode code 1190 = .ok (.aload_n 0, 1) := by decide +kernel
theorem d_law_1191 : decode code 1191 = .ok (.iload_n 3, 1) := by decide +kernel
theorem d_law_1192 : decode code 1192 = .ok (.iconst 2, 1) := by decide +kernel
theorem d_law_1193 : decode code 1193 = .ok (.iadd, 1) := by decide +kernel
theorem d_law_1194 : decode code 1194 = .ok (.iaload, 1) := by decide +kernel
theorem d_law_1195 : decode code 1195 = .ok (.aload_n 0, 1) := by decide +kernel
theorem d_law_1196 : decode code 1196 = .ok (.iload_n 3, 1) := by decide +kernel
theorem d_law_1197 : decode code 1197 = .ok (.iconst 3, 1) := by decide +kernel
theorem d_law_1198 : decode code 1198 = .ok (.iadd, 1) := by decide +kernel
theorem d_law_1199 : decode code 1199 = .ok (.iaload, 1) := by decide +kernel
theorem d_law_1200 : decode code 1200 = .ok (.invokevirtual 155, 3) := by decide +kernel
theorem d_law_1203 : decode code 1203 = .ok (.if_icmp .eq 191, 3) := by decide +kernel
theorem d_law_1206 : decode code 1206 = .ok (.iconst 0, 1) := by decide +kernel
theorem d_law_1207 : decode code 1207 = .ok (.ireturn, 1) := by decide +kernel
theorem d_law_1208 : decode code 1208 = .ok (.aload_n 1, 1) := by decide +kernel
theorem d_law_1209 : decode code 1209 = .ok (.aload_n 0, 1) := by decide +kernel
theorem d_law_1210 : decode code 1210 = .ok (.iload_n 3, 1) := by decide +kernel
theorem d_law_1211 : decode code 1211 = .ok (.iconst 1, 1) := by decide +kernel
theorem d_law_1212 : decode code 1212 = .ok (.iadd, 1) := by decide +kernel
theorem d_law_1213 : decode code 1213 = .ok (.iaload, 1) := by decide +kernel
theorem d_law_1214 : decode code 1214 = .ok (.aload_n 0, 1) := by decide +kernel
theorem d_law_1215 : decode code 1215 = .ok (.iload_n 3, 1) := by decide +kernel
theorem d_law_1216 : decode code 1216 = .ok (.iconst 2, 1) := by decide +kernel
theorem d_law_1217 : decode code 1217 = .ok (.iadd, 1) := by decide +kernel
theorem d_law_1218 : decode code 1218 = .ok (.iaload, 1) := by decide +kernel
theorem d_law_1219 : decode code 1219 = .ok (.aload_n 0, 1) := by decide +kernel
theorem d_law_1220 : decode code 1220 = .ok (.iload_n 3, 1) := by decide +kernel
theorem d_law_1221 : decode code 1221 = .ok (.iconst 3, 1) := by decide +kernel
theorem d_law_1222 : decode code 1222 = .ok (.iadd, 1) := by decide +kernel
theorem d_law_1223 : decode code 1223 = .ok (.iaload, 1) := by decide +kernel
theorem d_law_1224 : decode code 1224 = .ok (.i2l, 1) := by decide +kernel
theorem d_law_1225 : decode code 1225 = .ok (.bipush 32, 2) := by decide +kernel
theorem d_law_1227 : decode code 1227 = .ok (.lshl, 1) := by decide +kernel
theorem d_law_1228 : decode code 1228 = .ok (.aload_n 0, 1) := by decide +kernel
theorem d_law_1229 : decode code 1229 = .ok (.iload_n 3, 1) := by decide +kernel
theorem d_law_1230 : decode code 1230 = .ok (.iconst 4, 1) := by decide +kernel
theorem d_law_1231 : decode code 1231 = .ok (.iadd, 1) := by decide +kernel
theorem d_law_1232 : decode code 1232 = .ok (.iaload, 1) := by decide +kernel
theorem d_law_1233 : decode code 1233 = .ok (.i2l, 1) := by decide +kernel
theorem d_law_1234 : decode code 1234 = .ok (.ldc2_w 156, 3) := by decide +kernel
theorem d_law_1237 : decode code 1237 = .ok (.land, 1) := by decide +kernel
theorem d_law_1238 : decode code 1238 = .ok (.lor, 1) := by decide +kernel
theorem d_law_1239 : decode code 1239 = .ok (.invokevirtual 158, 3) := by decide +kernel
theorem d_law_1242 : decode code 1242 = .ok (.aload_n 2, 1) := by decide +kernel
theorem d_law_1243 : decode code 1243 = .ok (.aload_n 0, 1) := by decide +kernel
theorem d_law_1244 : decode code 1244 = .ok (.iload_n 3, 1) := by decide +kernel
theorem d_law_1245 : decode code 1245 = .ok (.iconst 1, 1) := by decide +kernel
theorem d_law_1246 : decode code 1246 = .ok (.iadd, 1) := by decide +kernel
theorem d_law_1247 : decode code 1247 = .ok (.iaload, 1) := by decide +kernel
theorem d_law_1248 : decode code 1248 = .ok (.aload_n 0, 1) := by decide +kernel
theorem d_law_1249 : decode code 1249 = .ok (.iload_n 3, 1) := by decide +kernel
theorem d_law_1250 : decode code 1250 = .ok (.iconst 2, 1) := by decide +kernel
theorem d_law_1251 : decode code 1251 = .ok (.iadd, 1) := by decide +kernel
theorem d_law_1252 : decode code 1252 = .ok (.iaload, 1) := by decide +kernel
theorem d_law_1253 : decode code 1253 = .ok (.aload_n 0, 1) := by decide +kernel
theorem d_law_1254 : decode code 1254 = .ok (.iload_n 3, 1) := by decide +kernel
theorem d_law_1255 : decode code 1255 = .ok (.iconst 3, 1) := by decide +kernel
theorem d_law_1256 : decode code 1256 = .ok (.iadd, 1) := by decide +kernel
theorem d_law_1257 : decode code 1257 = .ok (.iaload, 1) := by decide +kernel
theorem d_law_1258 : decode code 1258 = .ok (.i2l, 1) := by decide +kernel
theorem d_law_1259 : decode code 1259 = .ok (.bipush 32, 2) := by decide +kernel
theorem d_law_1261 : decode code 1261 = .ok (.lshl, 1) := by decide +kernel
theorem d_law_1262 : decode code 1262 = .ok (.aload_n 0, 1) := by decide +kernel
theorem d_law_1263 : decode code 1263 = .ok (.iload_n 3, 1) := by decide +kernel
theorem d_law_1264 : decode code 1264 = .ok (.iconst 4, 1) := by decide +kernel
theorem d_law_1265 : decode code 1265 = .ok (.iadd, 1) := by decide +kernel
theorem d_law_1266 : decode code 1266 = .ok (.iaload, 1) := by decide +kernel
theorem d_law_1267 : decode code 1267 = .ok (.i2l, 1) := by decide +kernel
theorem d_law_1268 : decode code 1268 = .ok (.ldc2_w 156, 3) := by decide +kernel
theorem d_law_1271 : decode code 1271 = .ok (.land, 1) := by decide +kernel
theorem d_law_1272 : decode code 1272 = .ok (.lor, 1) := by decide +kernel
theorem d_law_1273 : decode code 1273 = .ok (.invokevirtual 162, 3) := by decide +kernel
theorem d_law_1276 : decode code 1276 = .ok (.lcmp, 1) := by decide +kernel
theorem d_law_1277 : decode code 1277 = .ok (.ifCond .eq 117, 3) := by decide +kernel
theorem d_law_1280 : decode code 1280 = .ok (.iconst 0, 1) := by decide +kernel
theorem d_law_1281 : decode code 1281 = .ok (.ireturn, 1) := by decide +kernel
theorem d_law_1282 : decode code 1282 = .ok (.aload_n 1, 1) := by decide +kernel
theorem d_law_1283 : decode code 1283 = .ok (.aload_n 0, 1) := by decide +kernel
theorem d_law_1284 : decode code 1284 = .ok (.iload_n 3, 1) := by decide +kernel
theorem d_law_1285 : decode code 1285 = .ok (.iconst 1, 1) := by decide +kernel
theorem d_law_1286 : decode code 1286 = .ok (.iadd, 1) := by decide +kernel
theorem d_law_1287 : decode code 1287 = .ok (.iaload, 1) := by decide +kernel
theorem d_law_1288 : decode code 1288 = .ok (.aload_n 0, 1) := by decide +kernel
theorem d_law_1289 : decode code 1289 = .ok (.iload_n 3, 1) := by decide +kernel
theorem d_law_1290 : decode code 1290 = .ok (.iconst 2, 1) := by decide +kernel
theorem d_law_1291 : decode code 1291 = .ok (.iadd, 1) := by decide +kernel
theorem d_law_1292 : decode code 1292 = .ok (.iaload, 1) := by decide +kernel
theorem d_law_1293 : decode code 1293 = .ok (.aload_n 0, 1) := by decide +kernel
theorem d_law_1294 : decode code 1294 = .ok (.iload_n 3, 1) := by decide +kernel
theorem d_law_1295 : decode code 1295 = .ok (.iconst 3, 1) := by decide +kernel
theorem d_law_1296 : decode code 1296 = .ok (.iadd, 1) := by decide +kernel
theorem d_law_1297 : decode code 1297 = .ok (.iaload, 1) := by decide +kernel
theorem d_law_1298 : decode code 1298 = .ok (.invokevirtual 163, 3) := by decide +kernel
theorem d_law_1301 : decode code 1301 = .ok (.aload_n 2, 1) := by decide +kernel
theorem d_law_1302 : decode code 1302 = .ok (.aload_n 0, 1) := by decide +kernel
theorem d_law_1303 : decode code 1303 = .ok (.iload_n 3, 1) := by decide +kernel
theorem d_law_1304 : decode code 1304 = .ok (.iconst 1, 1) := by decide +kernel
theorem d_law_1305 : decode code 1305 = .ok (.iadd, 1) := by decide +kernel
theorem d_law_1306 : decode code 1306 = .ok (.iaload, 1) := by decide +kernel
theorem d_law_1307 : decode code 1307 = .ok (.aload_n 0, 1) := by decide +kernel
theorem d_law_1308 : decode code 1308 = .ok (.iload_n 3, 1) := by decide +kernel
theorem d_law_1309 : decode code 1309 = .ok (.iconst 2, 1) := by decide +kernel
theorem d_law_1310 : decode code 1310 = .ok (.iadd, 1) := by decide +kernel
theorem d_law_1311 : decode code 1311 = .ok (.iaload, 1) := by decide +kernel
theorem d_law_1312 : decode code 1312 = .ok (.aload_n 0, 1) := by decide +kernel
theorem d_law_1313 : decode code 1313 = .ok (.iload_n 3, 1) := by decide +kernel
theorem d_law_1314 : decode code 1314 = .ok (.iconst 3, 1) := by decide +kernel
theorem d_law_1315 : decode code 1315 = .ok (.iadd, 1) := by decide +kernel
theorem d_law_1316 : decode code 1316 = .ok (.iaload, 1) := by decide +kernel
theorem d_law_1317 : decode code 1317 = .ok (.invokevirtual 166, 3) := by decide +kernel
theorem d_law_1320 : decode code 1320 = .ok (.if_icmp .eq 74, 3) := by decide +kernel
theorem d_law_1323 : decode code 1323 = .ok (.iconst 0, 1) := by decide +kernel
theorem d_law_1324 : decode code 1324 = .ok (.ireturn, 1) := by decide +kernel
theorem d_law_1325 : decode code 1325 = .ok (.aload_n 1, 1) := by decide +kernel
theorem d_law_1326 : decode code 1326 = .ok (.aload_n 0, 1) := by decide +kernel
theorem d_law_1327 : decode code 1327 = .ok (.iload_n 3, 1) := by decide +kernel
theorem d_law_1328 : decode code 1328 = .ok (.iconst 1, 1) := by decide +kernel
theorem d_law_1329 : decode code 1329 = .ok (.iadd, 1) := by decide +kernel
theorem d_law_1330 : decode code 1330 = .ok (.iaload, 1) := by decide +kernel
theorem d_law_1331 : decode code 1331 = .ok (.invokevirtual 167, 3) := by decide +kernel
theorem d_law_1334 : decode code 1334 = .ok (.aload_n 2, 1) := by decide +kernel
theorem d_law_1335 : decode code 1335 = .ok (.aload_n 0, 1) := by decide +kernel
theorem d_law_1336 : decode code 1336 = .ok (.iload_n 3, 1) := by decide +kernel
theorem d_law_1337 : decode code 1337 = .ok (.iconst 1, 1) := by decide +kernel
theorem d_law_1338 : decode code 1338 = .ok (.iadd, 1) := by decide +kernel
theorem d_law_1339 : decode code 1339 = .ok (.iaload, 1) := by decide +kernel
theorem d_law_1340 : decode code 1340 = .ok (.invokevirtual 170, 3) := by decide +kernel
theorem d_law_1343 : decode code 1343 = .ok (.if_icmp .eq 51, 3) := by decide +kernel
theorem d_law_1346 : decode code 1346 = .ok (.iconst 0, 1) := by decide +kernel
theorem d_law_1347 : decode code 1347 = .ok (.ireturn, 1) := by decide +kernel
theorem d_law_1348 : decode code 1348 = .ok (.aload_n 1, 1) := by decide +kernel
theorem d_law_1349 : decode code 1349 = .ok (.aload_n 0, 1) := by decide +kernel
theorem d_law_1350 : decode code 1350 = .ok (.iload_n 3, 1) := by decide +kernel
theorem d_law_1351 : decode code 1351 = .ok (.iconst 1, 1) := by decide +kernel
theorem d_law_1352 : decode code 1352 = .ok (.iadd, 1) := by decide +kernel
theorem d_law_1353 : decode code 1353 = .ok (.iaload, 1) := by decide +kernel
theorem d_law_1354 : decode code 1354 = .ok (.invokevirtual 171, 3) := by decide +kernel
theorem d_law_1357 : decode code 1357 = .ok (.aload_n 2, 1) := by decide +kernel
theorem d_law_1358 : decode code 1358 = .ok (.aload_n 0, 1) := by decide +kernel
theorem d_law_1359 : decode code 1359 = .ok (.iload_n 3, 1) := by decide +kernel
theorem d_law_1360 : decode code 1360 = .ok (.iconst 1, 1) := by decide +kernel
theorem d_law_1361 : decode code 1361 = .ok (.iadd, 1) := by decide +kernel
theorem d_law_1362 : decode code 1362 = .ok (.iaload, 1) := by decide +kernel
theorem d_law_1363 : decode code 1363 = .ok (.invokevirtual 174, 3) := by decide +kernel
theorem d_law_1366 : decode code 1366 = .ok (.if_icmp .eq 28, 3) := by decide +kernel
theorem d_law_1369 : decode code 1369 = .ok (.iconst 0, 1) := by decide +kernel
theorem d_law_1370 : decode code 1370 = .ok (.ireturn, 1) := by decide +kernel
theorem d_law_1371 : decode code 1371 = .ok (.aload_n 1, 1) := by decide +kernel
theorem d_law_1372 : decode code 1372 = .ok (.aload_n 0, 1) := by decide +kernel
theorem d_law_1373 : decode code 1373 = .ok (.iload_n 3, 1) := by decide +kernel
theorem d_law_1374 : decode code 1374 = .ok (.iconst 1, 1) := by decide +kernel
theorem d_law_1375 : decode code 1375 = .ok (.iadd, 1) := by decide +kernel
theorem d_law_1376 : decode code 1376 = .ok (.iaload, 1) := by decide +kernel
theorem d_law_1377 : decode code 1377 = .ok (.invokevirtual 175, 3) := by decide +kernel
theorem d_law_1380 : decode code 1380 = .ok (.aload_n 2, 1) := by decide +kernel
theorem d_law_1381 : decode code 1381 = .ok (.aload_n 0, 1) := by decide +kernel
theorem d_law_1382 : decode code 1382 = .ok (.iload_n 3, 1) := by decide +kernel
theorem d_law_1383 : decode code 1383 = .ok (.iconst 1, 1) := by decide +kernel
theorem d_law_1384 : decode code 1384 = .ok (.iadd, 1) := by decide +kernel
theorem d_law_1385 : decode code 1385 = .ok (.iaload, 1) := by decide +kernel
theorem d_law_1386 : decode code 1386 = .ok (.invokevirtual 178, 3) := by decide +kernel
theorem d_law_1389 : decode code 1389 = .ok (.if_icmp .eq 5, 3) := by decide +kernel
theorem d_law_1392 : decode code 1392 = .ok (.iconst 0, 1) := by decide +kernel
theorem d_law_1393 : decode code 1393 = .ok (.ireturn, 1) := by decide +kernel
theorem d_law_1394 : decode code 1394 = .ok (.iinc 3 6, 3) := by decide +kernel
theorem d_law_1397 : decode code 1397 = .ok (.goto (-1379), 3) := by decide +kernel
theorem d_law_1400 : decode code 1400 = .ok (.iconst 1, 1) := by decide +kernel
theorem d_law_1401 : decode code 1401 = .ok (.ireturn, 1) := by decide +kernel
