theorem d_Law_18 : decode Y_Law.2.1 18 = .ok (.iload_n 3, 1) := by decide +kernel
theorem d_Law_19 : decode Y_Law.2.1 19 = .ok (.aload_n 0, 1) := by decide +kernel
theorem d_Law_20 : decode Y_Law.2.1 20 = .ok (.arraylength, 1) := by decide +kernel
theorem d_Law_21 : decode Y_Law.2.1 21 = .ok (.bipush 6, 2) := by decide +kernel
theorem d_Law_23 : decode Y_Law.2.1 23 = .ok (.isub, 1) := by decide +kernel
theorem d_Law_24 : decode Y_Law.2.1 24 = .ok (.if_icmp .gt 1524, 3) := by decide +kernel
theorem d_Law_27 : decode Y_Law.2.1 27 = .ok (.aload_n 0, 1) := by decide +kernel
theorem d_Law_28 : decode Y_Law.2.1 28 = .ok (.iload_n 3, 1) := by decide +kernel
theorem d_Law_29 : decode Y_Law.2.1 29 = .ok (.iaload, 1) := by decide +kernel
theorem d_Law_30 : decode Y_Law.2.1 30 = .ok (.bipush 63, 2) := by decide +kernel
theorem d_Law_32 : decode Y_Law.2.1 32 = .ok (.iand, 1) := by decide +kernel
theorem d_Law_33 : decode Y_Law.2.1 33 = .ok (.tableswitch 1509 0 53 #[231, 294, 317, 330, 353, 386, 419, 442, 455, 488, 511, 524, 547, 560, 573, 616, 629, 652, 675, 688, 701, 714, 747, 760, 773, 786, 799, 822, 845, 858, 881, 904, 927, 950, 973, 986, 1009, 1022, 1045, 1088, 1111, 1134, 1167, 1190, 1223, 1246, 1305, 1328, 1351, 1374, 1407, 1440, 1463, 1486], 231) := by decide +kernel
theorem d_Law_264 : decode Y_Law.2.1 264 = .ok (.aload_n 1, 1) := by decide +kernel
theorem d_Law_265 : decode Y_Law.2.1 265 = .ok (.aload_n 0, 1) := by decide +kernel
theorem d_Law_266 : decode Y_Law.2.1 266 = .ok (.iload_n 3, 1) := by decide +kernel
theorem d_Law_267 : decode Y_Law.2.1 267 = .ok (.iconst 1, 1) := by decide +kernel
theorem d_Law_268 : decode Y_Law.2.1 268 = .ok (.iadd, 1) := by decide +kernel
theorem d_Law_269 : decode Y_Law.2.1 269 = .ok (.iaload, 1) := by decide +kernel
theorem d_Law_270 : decode Y_Law.2.1 270 = .ok (.aload_n 0, 1) := by decide +kernel
theorem d_Law_271 : decode Y_Law.2.1 271 = .ok (.iload_n 3, 1) := by decide +kernel
theorem d_Law_272 : decode Y_Law.2.1 272 = .ok (.iconst 2, 1) := by decide +kernel
theorem d_Law_273 : decode Y_Law.2.1 273 = .ok (.iadd, 1) := by decide +kernel
theorem d_Law_274 : decode Y_Law.2.1 274 = .ok (.iaload, 1) := by decide +kernel
theorem d_Law_275 : decode Y_Law.2.1 275 = .ok (.aload_n 0, 1) := by decide +kernel
theorem d_Law_276 : decode Y_Law.2.1 276 = .ok (.iload_n 3, 1) := by decide +kernel
theorem d_Law_277 : decode Y_Law.2.1 277 = .ok (.iconst 3, 1) := by decide +kernel
theorem d_Law_278 : decode Y_Law.2.1 278 = .ok (.iadd, 1) := by decide +kernel
theorem d_Law_279 : decode Y_Law.2.1 279 = .ok (.iaload, 1) := by decide +kernel
theorem d_Law_280 : decode Y_Law.2.1 280 = .ok (.aload_n 0, 1) := by decide +kernel
theorem d_Law_281 : decode Y_Law.2.1 281 = .ok (.iload_n 3, 1) := by decide +kernel
theorem d_Law_282 : decode Y_Law.2.1 282 = .ok (.iconst 4, 1) := by decide +kernel
theorem d_Law_283 : decode Y_Law.2.1 283 = .ok (.iadd, 1) := by decide +kernel
theorem d_Law_284 : decode Y_Law.2.1 284 = .ok (.iaload, 1) := by decide +kernel
theorem d_Law_285 : decode Y_Law.2.1 285 = .ok (.aload_n 0, 1) := by decide +kernel
theorem d_Law_286 : decode Y_Law.2.1 286 = .ok (.iload_n 3, 1) := by decide +kernel
theorem d_Law_287 : decode Y_Law.2.1 287 = .ok (.iconst 5, 1) := by decide +kernel
theorem d_Law_288 : decode Y_Law.2.1 288 = .ok (.iadd, 1) := by decide +kernel
theorem d_Law_289 : decode Y_Law.2.1 289 = .ok (.iaload, 1) := by decide +kernel
theorem d_Law_290 : decode Y_Law.2.1 290 = .ok (.invokevirtual 13, 3) := by decide +kernel
theorem d_Law_293 : decode Y_Law.2.1 293 = .ok (.aload_n 2, 1) := by decide +kernel
theorem d_Law_294 : decode Y_Law.2.1 294 = .ok (.aload_n 0, 1) := by decide +kernel
theorem d_Law_295 : decode Y_Law.2.1 295 = .ok (.iload_n 3, 1) := by decide +kernel
theorem d_Law_296 : decode Y_Law.2.1 296 = .ok (.iconst 1, 1) := by decide +kernel
theorem d_Law_297 : decode Y_Law.2.1 297 = .ok (.iadd, 1) := by decide +kernel
theorem d_Law_298 : decode Y_Law.2.1 298 = .ok (.iaload, 1) := by decide +kernel
theorem d_Law_299 : decode Y_Law.2.1 299 = .ok (.aload_n 0, 1) := by decide +kernel
theorem d_Law_300 : decode Y_Law.2.1 300 = .ok (.iload_n 3, 1) := by decide +kernel
theorem d_Law_301 : decode Y_Law.2.1 301 = .ok (.iconst 2, 1) := by decide +kernel
theorem d_Law_302 : decode Y_Law.2.1 302 = .ok (.iadd, 1) := by decide +kernel
theorem d_Law_303 : decode Y_Law.2.1 303 = .ok (.iaload, 1) := by decide +kernel
theorem d_Law_304 : decode Y_Law.2.1 304 = .ok (.aload_n 0, 1) := by decide +kernel
theorem d_Law_305 : decode Y_Law.2.1 305 = .ok (.iload_n 3, 1) := by decide +kernel
theorem d_Law_306 : decode Y_Law.2.1 306 = .ok (.iconst 3, 1) := by decide +kernel
theorem d_Law_307 : decode Y_Law.2.1 307 = .ok (.iadd, 1) := by decide +kernel
theorem d_Law_308 : decode Y_Law.2.1 308 = .ok (.iaload, 1) := by decide +kernel
theorem d_Law_309 : decode Y_Law.2.1 309 = .ok (.aload_n 0, 1) := by decide +kernel
theorem d_Law_310 : decode Y_Law.2.1 310 = .ok (.iload_n 3, 1) := by decide +kernel
theorem d_Law_311 : decode Y_Law.2.1 311 = .ok (.iconst 4, 1) := by decide +kernel
theorem d_Law_312 : decode Y_Law.2.1 312 = .ok (.iadd, 1) := by decide +kernel
theorem d_Law_313 : decode Y_Law.2.1 313 = .ok (.iaload, 1) := by decide +kernel
theorem d_Law_314 : decode Y_Law.2.1 314 = .ok (.aload_n 0, 1) := by decide +kernel
theorem d_Law_315 : decode Y_Law.2.1 315 = .ok (.iload_n 3, 1) := by decide +kernel
theorem d_Law_316 : decode Y_Law.2.1 316 = .ok (.iconst 5, 1) := by decide +kernel
theorem d_Law_317 : decode Y_Law.2.1 317 = .ok (.iadd, 1) := by decide +kernel
theorem d_Law_318 : decode Y_Law.2.1 318 = .ok (.iaload, 1) := by decide +kernel
theorem d_Law_319 : decode Y_Law.2.1 319 = .ok (.invokevirtual 17, 3) := by decide +kernel
theorem d_Law_322 : decode Y_Law.2.1 322 = .ok (.if_icmp .eq 1220, 3) := by decide +kernel
theorem d_Law_325 : decode Y_Law.2.1 325 = .ok (.iconst 0, 1) := by decide +kernel
theorem d_Law_326 : decode Y_Law.2.1 326 = .ok (.ireturn, 1) := by decide +kernel
theorem d_Law_327 : decode Y_Law.2.1 327 = .ok (.aload_n 1, 1) := by decide +kernel
theorem d_Law_328 : decode Y_Law.2.1 328 = .ok (.aload_n 0, 1) := by decide +kernel
theorem d_Law_329 : decode Y_Law.2.1 329 = .ok (.iload_n 3, 1) := by decide +kernel
theorem d_Law_330 : decode Y_Law.2.1 330 = .ok (.iconst 1, 1) := by decide +kernel
theorem d_Law_331 : decode Y_Law.2.1 331 = .ok (.iadd, 1) := by decide +kernel
theorem d_Law_332 : decode Y_Law.2.1 332 = .ok (.iaload, 1) := by decide +kernel
theorem d_Law_333 : decode Y_Law.2.1 333 = .ok (.invokevirtual 18, 3) := by decide +kernel
theorem d_Law_336 : decode Y_Law.2.1 336 = .ok (.aload_n 2, 1) := by decide +kernel
theorem d_Law_337 : decode Y_Law.2.1 337 = .ok (.aload_n 0, 1) := by decide +kernel
theorem d_Law_338 : decode Y_Law.2.1 338 = .ok (.iload_n 3, 1) := by decide +kernel
theorem d_Law_339 : decode Y_Law.2.1 339 = .ok (.iconst 1, 1) := by decide +kernel
theorem d_Law_340 : decode Y_Law.2.1 340 = .ok (.iadd, 1) := by decide +kernel
theorem d_Law_341 : decode Y_Law.2.1 341 = .ok (.iaload, 1) := by decide +kernel
theorem d_Law_342 : decode Y_Law.2.1 342 = .ok (.invokevirtual 22, 3) := by decide +kernel
theorem d_Law_345 : decode Y_Law.2.1 345 = .ok (.if_icmp .eq 1197, 3) := by decide +kernel
theorem d_Law_348 : decode Y_Law.2.1 348 = .ok (.iconst 0, 1) := by decide +kernel
theorem d_Law_349 : decode Y_Law.2.1 349 = .ok (.ireturn, 1) := by decide +kernel
theorem d_Law_350 : decode Y_Law.2.1 350 = .ok (.aload_n 1, 1) := by decide +kernel
theorem d_Law_351 : decode Y_Law.2.1 351 = .ok (.invokevirtual 23, 3) := by decide +kernel
theorem d_Law_354 : decode Y_Law.2.1 354 = .ok (.aload_n 2, 1) := by decide +kernel
theorem d_Law_355 : decode Y_Law.2.1 355 = .ok (.invokevirtual 27, 3) := by decide +kernel
theorem d_Law_358 : decode Y_Law.2.1 358 = .ok (.if_icmp .eq 1184, 3) := by decide +kernel
theorem d_Law_361 : decode Y_Law.2.1 361 = .ok (.iconst 0, 1) := by decide +kernel
theorem d_Law_362 : decode Y_Law.2.1 362 = .ok (.ireturn, 1) := by decide +kernel
theorem d_Law_363 : decode Y_Law.2.1 363 = .ok (.aload_n 1, 1) := by decide +kernel
theorem d_Law_364 : decode Y_Law.2.1 364 = .ok (.aload_n 0, 1) := by decide +kernel
theorem d_Law_365 : decode Y_Law.2.1 365 = .ok (.iload_n 3, 1) := by decide +kernel
theorem d_Law_366 : decode Y_Law.2.1 366 = .ok (.iconst 1, 1) := by decide +kernel
theorem d_Law_367 : decode Y_Law.2.1 367 = .ok (.iadd, 1) := by decide +kernel
theorem d_Law_368 : decode Y_Law.2.1 368 = .ok (.iaload, 1) := by decide +kernel
theorem d_Law_369 : decode Y_Law.2.1 369 = .ok (.invokevirtual 28, 3) := by decide +kernel
theorem d_Law_372 : decode Y_Law.2.1 372 = .ok (.aload_n 2, 1) := by decide +kernel
theorem d_Law_373 : decode Y_Law.2.1 373 = .ok (.aload_n 0, 1) := by decide +kernel
theorem d_Law_374 : decode Y_Law.2.1 374 = .ok (.iload_n 3, 1) := by decide +kernel
theorem d_Law_375 : decode Y_Law.2.1 375 = .ok (.iconst 1, 1) := by decide +kernel
theorem d_Law_376 : decode Y_Law.2.1 376 = .ok (.iadd, 1) := by decide +kernel
theorem d_Law_377 : decode Y_Law.2.1 377 = .ok (.iaload, 1) := by decide +kernel
theorem d_Law_378 : decode Y_Law.2.1 378 = .ok (.invokevirtual 31, 3) := by decide +kernel
theorem d_Law_381 : decode Y_Law.2.1 381 = .ok (.if_icmp .eq 1161, 3) := by decide +kernel
theorem d_Law_384 : decode Y_Law.2.1 384 = .ok (.iconst 0, 1) := by decide +kernel
theorem d_Law_385 : decode Y_Law.2.1 385 = .ok (.ireturn, 1) := by decide +kernel
theorem d_Law_386 : decode Y_Law.2.1 386 = .ok (.aload_n 1, 1) := by decide +kernel
theorem d_Law_387 : decode Y_Law.2.1 387 = .ok (.aload_n 0, 1) := by decide +kernel
theorem d_Law_388 : decode Y_Law.2.1 388 = .ok (.iload_n 3, 1) := by decide +kernel
theorem d_Law_389 : decode Y_Law.2.1 389 = .ok (.iconst 1, 1) := by decide +kernel
theorem d_Law_390 : decode Y_Law.2.1 390 = .ok (.iadd, 1) := by decide +kernel
theorem d_Law_391 : decode Y_Law.2.1 391 = .ok (.iaload, 1) := by decide +kernel
theorem d_Law_392 : decode Y_Law.2.1 392 = .ok (.aload_n 0, 1) := by decide +kernel
theorem d_Law_393 : decode Y_Law.2.1 393 = .ok (.iload_n 3, 1) := by decide +kernel
theorem d_Law_394 : decode Y_Law.2.1 394 = .ok (.iconst 2, 1) := by decide +kernel
theorem d_Law_395 : decode Y_Law.2.1 395 = .ok (.iadd, 1) := by decide +kernel
theorem d_Law_396 : decode Y_Law.2.1 396 = .ok (.iaload, 1) := by decide +kernel
theorem d_Law_397 : decode Y_Law.2.1 397 = .ok (.invokevirtual 32, 3) := by decide +kernel
theorem d_Law_400 : decode Y_Law.2.1 400 = .ok (.aload_n 2, 1) := by decide +kernel
theorem d_Law_401 : decode Y_Law.2.1 401 = .ok (.aload_n 0, 1) := by decide +kernel
theorem d_Law_402 : decode Y_Law.2.1 402 = .ok (.iload_n 3, 1) := by decide +kernel
theorem d_Law_403 : decode Y_Law.2.1 403 = .ok (.iconst 1, 1) := by decide +kernel
theorem d_Law_404 : decode Y_Law.2.1 404 = .ok (.iadd, 1) := by decide +kernel
theorem d_Law_405 : decode Y_Law.2.1 405 = .ok (.iaload, 1) := by decide +kernel
theorem d_Law_406 : decode Y_Law.2.1 406 = .ok (.aload_n 0, 1) := by decide +kernel
theorem d_Law_407 : decode Y_Law.2.1 407 = .ok (.iload_n 3, 1) := by decide +kernel
theorem d_Law_408 : decode Y_Law.2.1 408 = .ok (.iconst 2, 1) := by decide +kernel
theorem d_Law_409 : decode Y_Law.2.1 409 = .ok (.iadd, 1) := by decide +kernel
theorem d_Law_410 : decode Y_Law.2.1 410 = .ok (.iaload, 1) := by decide +kernel
theorem d_Law_411 : decode Y_Law.2.1 411 = .ok (.invokevirtual 36, 3) := by decide +kernel
theorem d_Law_414 : decode Y_Law.2.1 414 = .ok (.if_icmp .eq 1128, 3) := by decide +kernel
theorem d_Law_417 : decode Y_Law.2.1 417 = .ok (.iconst 0, 1) := by decide +kernel
theorem d_Law_418 : decode Y_Law.2.1 418 = .ok (.ireturn, 1) := by decide +kernel
theorem d_Law_419 : decode Y_Law.2.1 419 = .ok (.aload_n 1, 1) := by decide +kernel
theorem d_Law_420 : decode Y_Law.2.1 420 = .ok (.aload_n 0, 1) := by decide +kernel
theorem d_Law_421 : decode Y_Law.2.1 421 = .ok (.iload_n 3, 1) := by decide +kernel
theorem d_Law_422 : decode Y_Law.2.1 422 = .ok (.iconst 1, 1) := by decide +kernel
theorem d_Law_423 : decode Y_Law.2.1 423 = .ok (.iadd, 1) := by decide +kernel
theorem d_Law_424 : decode Y_Law.2.1 424 = .ok (.iaload, 1) := by decide +kernel
theorem d_Law_425 : decode Y_Law.2.1 425 = .ok (.aload_n 0, 1) := by decide +kernel
theorem d_Law_426 : decode Y_Law.2.1 426 = .ok (.iload_n 3, 1) := by decide +kernel
theorem d_Law_427 : decode Y_Law.2.1 427 = .ok (.iconst 2, 1) := by decide +kernel
theorem d_Law_428 : decode Y_Law.2.1 428 = .ok (.iadd, 1) := by decide +kernel
theorem d_Law_429 : decode Y_Law.2.1 429 = .ok (.iaload, 1) := by decide +kernel
theorem d_Law_430 : decode Y_Law.2.1 430 = .ok (.invokevirtual 37, 3) := by decide +kernel
theorem d_Law_433 : decode Y_Law.2.1 433 = .ok (.aload_n 2, 1) := by decide +kernel
theorem d_Law_434 : decode Y_Law.2.1 434 = .ok (.aload_n 0, 1) := by decide +kernel
theorem d_Law_435 : decode Y_Law.2.1 435 = .ok (.iload_n 3, 1) := by decide +kernel
theorem d_Law_436 : decode Y_Law.2.1 436 = .ok (.iconst 1, 1) := by decide +kernel
theorem d_Law_437 : decode Y_Law.2.1 437 = .ok (.iadd, 1) := by decide +kernel
theorem d_Law_438 : decode Y_Law.2.1 438 = .ok (.iaload, 1) := by decide +kernel
theorem d_Law_439 : decode Y_Law.2.1 439 = .ok (.aload_n 0, 1) := by decide +kernel
theorem d_Law_440 : decode Y_Law.2.1 440 = .ok (.iload_n 3, 1) := by decide +kernel
theorem d_Law_441 : decode Y_Law.2.1 441 = .ok (.iconst 2, 1) := by decide +kernel
theorem d_Law_442 : decode Y_Law.2.1 442 = .ok (.iadd, 1) := by decide +kernel
theorem d_Law_443 : decode Y_Law.2.1 443 = .ok (.iaload, 1) := by decide +kernel
theorem d_Law_444 : decode Y_Law.2.1 444 = .ok (.invokevirtual 40, 3) := by decide +kernel
theorem d_Law_447 : decode Y_Law.2.1 447 = .ok (.if_icmp .eq 1095, 3) := by decide +kernel
theorem d_Law_450 : decode Y_Law.2.1 450 = .ok (.iconst 0, 1) := by decide +kernel
theorem d_Law_451 : decode Y_Law.2.1 451 = .ok (.ireturn, 1) := by decide +kernel
theorem d_Law_452 : decode Y_Law.2.1 452 = .ok (.aload_n 1, 1) := by decide +kernel
theorem d_Law_453 : decode Y_Law.2.1 453 = .ok (.aload_n 0, 1) := by decide +kernel
theorem d_Law_454 : decode Y_Law.2.1 454 = .ok (.iload_n 3, 1) := by decide +kernel
theorem d_Law_455 : decode Y_Law.2.1 455 = .ok (.iconst 1, 1) := by decide +kernel
theorem d_Law_456 : decode Y_Law.2.1 456 = .ok (.iadd, 1) := by decide +kernel
theorem d_Law_457 : decode Y_Law.2.1 457 = .ok (.iaload, 1) := by decide +kernel
theorem d_Law_458 : decode Y_Law.2.1 458 = .ok (.invokevirtual 41, 3) := by decide +kernel
theorem d_Law_461 : decode Y_Law.2.1 461 = .ok (.aload_n 2, 1) := by decide +kernel
theorem d_Law_462 : decode Y_Law.2.1 462 = .ok (.aload_n 0, 1) := by decide +kernel
theorem d_Law_463 : decode Y_Law.2.1 463 = .ok (.iload_n 3, 1) := by decide +kernel
theorem d_Law_464 : decode Y_Law.2.1 464 = .ok (.iconst 1, 1) := by decide +kernel
theorem d_Law_465 : decode Y_Law.2.1 465 = .ok (.iadd, 1) := by decide +kernel
theorem d_Law_466 : decode Y_Law.2.1 466 = .ok (.iaload, 1) := by decide +kernel
theorem d_Law_467 : decode Y_Law.2.1 467 = .ok (.invokevirtual 44, 3) := by decide +kernel
theorem d_Law_470 : decode Y_Law.2.1 470 = .ok (.if_icmp .eq 1072, 3) := by decide +kernel
theorem d_Law_473 : decode Y_Law.2.1 473 = .ok (.iconst 0, 1) := by decide +kernel
theorem d_Law_474 : decode Y_Law.2.1 474 = .ok (.ireturn, 1) := by decide +kernel
theorem d_Law_475 : decode Y_Law.2.1 475 = .ok (.aload_n 1, 1) := by decide +kernel
theorem d_Law_476 : decode Y_Law.2.1 476 = .ok (.invokevirtual 45, 3) := by decide +kernel
theorem d_Law_479 : decode Y_Law.2.1 479 = .ok (.aload_n 2, 1) := by decide +kernel
theorem d_Law_480 : decode Y_Law.2.1 480 = .ok (.invokevirtual 48, 3) := by decide +kernel
theorem d_Law_483 : decode Y_Law.2.1 483 = .ok (.if_icmp .eq 1059, 3) := by decide +kernel
theorem d_Law_486 : decode Y_Law.2.1 486 = .ok (.iconst 0, 1) := by decide +kernel
theorem d_Law_487 : decode Y_Law.2.1 487 = .ok (.ireturn, 1) := by decide +kernel
theorem d_Law_488 : decode Y_Law.2.1 488 = .ok (.aload_n 1, 1) := by decide +kernel
theorem d_Law_489 : decode Y_Law.2.1 489 = .ok (.aload_n 0, 1) := by decide +kernel
theorem d_Law_490 : decode Y_Law.2.1 490 = .ok (.iload_n 3, 1) := by decide +kernel
theorem d_Law_491 : decode Y_Law.2.1 491 = .ok (.iconst 1, 1) := by decide +kernel
theorem d_Law_492 : decode Y_Law.2.1 492 = .ok (.iadd, 1) := by decide +kernel
theorem d_Law_493 : decode Y_Law.2.1 493 = .ok (.iaload, 1) := by decide +kernel
theorem d_Law_494 : decode Y_Law.2.1 494 = .ok (.aload_n 0, 1) := by decide +kernel
theorem d_Law_495 : decode Y_Law.2.1 495 = .ok (.iload_n 3, 1) := by decide +kernel
theorem d_Law_496 : decode Y_Law.2.1 496 = .ok (.iconst 2, 1) := by decide +kernel
theorem d_Law_497 : decode Y_Law.2.1 497 = .ok (.iadd, 1) := by decide +kernel
theorem d_Law_498 : decode Y_Law.2.1 498 = .ok (.iaload, 1) := by decide +kernel
theorem d_Law_499 : decode Y_Law.2.1 499 = .ok (.invokevirtual 49, 3) := by decide +kernel
theorem d_Law_502 : decode Y_Law.2.1 502 = .ok (.aload_n 2, 1) := by decide +kernel
theorem d_Law_503 : decode Y_Law.2.1 503 = .ok (.aload_n 0, 1) := by decide +kernel
theorem d_Law_504 : decode Y_Law.2.1 504 = .ok (.iload_n 3, 1) := by decide +kernel
theorem d_Law_505 : decode Y_Law.2.1 505 = .ok (.iconst 1, 1) := by decide +kernel
theorem d_Law_506 : decode Y_Law.2.1 506 = .ok (.iadd, 1) := by decide +kernel
theorem d_Law_507 : decode Y_Law.2.1 507 = .ok (.iaload, 1) := by decide +kernel
theorem d_Law_508 : decode Y_Law.2.1 508 = .ok (.aload_n 0, 1) := by decide +kernel
theorem d_Law_509 : decode Y_Law.2.1 509 = .ok (.iload_n 3, 1) := by decide +kernel
theorem d_Law_510 : decode Y_Law.2.1 510 = .ok (.iconst 2, 1) := by decide +kernel
theorem d_Law_511 : decode Y_Law.2.1 511 = .ok (.iadd, 1) := by decide +kernel
theorem d_Law_512 : decode Y_Law.2.1 512 = .ok (.iaload, 1) := by decide +kernel
theorem d_Law_513 : decode Y_Law.2.1 513 = .ok (.invokevirtual 52, 3) := by decide +kernel
theorem d_Law_516 : decode Y_Law.2.1 516 = .ok (.if_icmp .eq 1026, 3) := by decide +kernel
theorem d_Law_519 : decode Y_Law.2.1 519 = .ok (.iconst 0, 1) := by decide +kernel
theorem d_Law_520 : decode Y_Law.2.1 520 = .ok (.ireturn, 1) := by decide +kernel
theorem d_Law_521 : decode Y_Law.2.1 521 = .ok (.aload_n 1, 1) := by decide +kernel
theorem d_Law_522 : decode Y_Law.2.1 522 = .ok (.aload_n 0, 1) := by decide +kernel
theorem d_Law_523 : decode Y_Law.2.1 523 = .ok (.iload_n 3, 1) := by decide +kernel
theorem d_Law_524 : decode Y_Law.2.1 524 = .ok (.iconst 1, 1) := by decide +kernel
theorem d_Law_525 : decode Y_Law.2.1 525 = .ok (.iadd, 1) := by decide +kernel
theorem d_Law_526 : decode Y_Law.2.1 526 = .ok (.iaload, 1) := by decide +kernel
theorem d_Law_527 : decode Y_Law.2.1 527 = .ok (.invokevirtual 53, 3) := by decide +kernel
theorem d_Law_530 : decode Y_Law.2.1 530 = .ok (.aload_n 2, 1) := by decide +kernel
theorem d_Law_531 : decode Y_Law.2.1 531 = .ok (.aload_n 0, 1) := by decide +kernel
theorem d_Law_532 : decode Y_Law.2.1 532 = .ok (.iload_n 3, 1) := by decide +kernel
theorem d_Law_533 : decode Y_Law.2.1 533 = .ok (.iconst 1, 1) := by decide +kernel
theorem d_Law_534 : decode Y_Law.2.1 534 = .ok (.iadd, 1) := by decide +kernel
theorem d_Law_535 : decode Y_Law.2.1 535 = .ok (.iaload, 1) := by decide +kernel
theorem d_Law_536 : decode Y_Law.2.1 536 = .ok (.invokevirtual 56, 3) := by decide +kernel
theorem d_Law_539 : decode Y_Law.2.1 539 = .ok (.if_icmp .eq 1003, 3) := by decide +kernel
theorem d_Law_542 : decode Y_Law.2.1 542 = .ok (.iconst 0, 1) := by decide +kernel
theorem d_Law_543 : decode Y_Law.2.1 543 = .ok (.ireturn, 1) := by decide +kernel
theorem d_Law_544 : decode Y_Law.2.1 544 = .ok (.aload_n 1, 1) := by decide +kernel
theorem d_Law_545 : decode Y_Law.2.1 545 = .ok (.invokevirtual 57, 3) := by decide +kernel
theorem d_Law_548 : decode Y_Law.2.1 548 = .ok (.aload_n 2, 1) := by decide +kernel
theorem d_Law_549 : decode Y_Law.2.1 549 = .ok (.invokevirtual 60, 3) := by decide +kernel
theorem d_Law_552 : decode Y_Law.2.1 552 = .ok (.if_icmp .eq 990, 3) := by decide +kernel
theorem d_Law_555 : decode Y_Law.2.1 555 = .ok (.iconst 0, 1) := by decide +kernel
theorem d_Law_556 : decode Y_Law.2.1 556 = .ok (.ireturn, 1) := by decide +kernel
theorem d_Law_557 : decode Y_Law.2.1 557 = .ok (.aload_n 1, 1) := by decide +kernel
theorem d_Law_558 : decode Y_Law.2.1 558 = .ok (.aload_n 0, 1) := by decide +kernel
theorem d_Law_559 : decode Y_Law.2.1 559 = .ok (.iload_n 3, 1) := by decide +kernel
theorem d_Law_560 : decode Y_Law.2.1 560 = .ok (.iconst 1, 1) := by decide +kernel
theorem d_Law_561 : decode Y_Law.2.1 561 = .ok (.iadd, 1) := by decide +kernel
theorem d_Law_562 : decode Y_Law.2.1 562 = .ok (.iaload, 1) := by decide +kernel
theorem d_Law_563 : decode Y_Law.2.1 563 = .ok (.invokevirtual 61, 3) := by decide +kernel
theorem d_Law_566 : decode Y_Law.2.1 566 = .ok (.aload_n 2, 1) := by decide +kernel
theorem d_Law_567 : decode Y_Law.2.1 567 = .ok (.aload_n 0, 1) := by decide +kernel
theorem d_Law_568 : decode Y_Law.2.1 568 = .ok (.iload_n 3, 1) := by decide +kernel
theorem d_Law_569 : decode Y_Law.2.1 569 = .ok (.iconst 1, 1) := by decide +kernel
theorem d_Law_570 : decode Y_Law.2.1 570 = .ok (.iadd, 1) := by decide +kernel
theorem d_Law_571 : decode Y_Law.2.1 571 = .ok (.iaload, 1) := by decide +kernel
theorem d_Law_572 : decode Y_Law.2.1 572 = .ok (.invokevirtual 64, 3) := by decide +kernel
theorem d_Law_575 : decode Y_Law.2.1 575 = .ok (.if_icmp .eq 967, 3) := by decide +kernel
theorem d_Law_578 : decode Y_Law.2.1 578 = .ok (.iconst 0, 1) := by decide +kernel
theorem d_Law_579 : decode Y_Law.2.1 579 = .ok (.ireturn, 1) := by decide +kernel
theorem d_Law_580 : decode Y_Law.2.1 580 = .ok (.aload_n 1, 1) := by decide +kernel
theorem d_Law_581 : decode Y_Law.2.1 581 = .ok (.invokevirtual 65, 3) := by decide +kernel
theorem d_Law_584 : decode Y_Law.2.1 584 = .ok (.aload_n 2, 1) := by decide +kernel
theorem d_Law_585 : decode Y_Law.2.1 585 = .ok (.invokevirtual 69, 3) := by decide +kernel
theorem d_Law_588 : decode Y_Law.2.1 588 = .ok (.if_icmp .eq 954, 3) := by decide +kernel
theorem d_Law_591 : decode Y_Law.2.1 591 = .ok (.iconst 0, 1) := by decide +kernel
theorem d_Law_592 : decode Y_Law.2.1 592 = .ok (.ireturn, 1) := by decide +kernel
theorem d_Law_593 : decode Y_Law.2.1 593 = .ok (.aload_n 1, 1) := by decide +kernel
theorem d_Law_594 : decode Y_Law.2.1 594 = .ok (.invokevirtual 70, 3) := by decide +kernel
theorem d_Law_597 : decode Y_Law.2.1 597 = .ok (.aload_n 2, 1) := by decide +kernel
theorem d_Law_598 : decode Y_Law.2.1 598 = .ok (.invokevirtual 73, 3) := by decide +kernel
theorem d_Law_601 : decode Y_Law.2.1 601 = .ok (.if_icmp .eq 941, 3) := by decide +kernel
theorem d_Law_604 : decode Y_Law.2.1 604 = .ok (.iconst 0, 1) := by decide +kernel
theorem d_Law_605 : decode Y_Law.2.1 605 = .ok (.ireturn, 1) := by decide +kernel
theorem d_Law_606 : decode Y_Law.2.1 606 = .ok (.aload_n 1, 1) := by decide +kernel
theorem d_Law_607 : decode Y_Law.2.1 607 = .ok (.aload_n 0, 1) := by decide +kernel
theorem d_Law_608 : decode Y_Law.2.1 608 = .ok (.iload_n 3, 1) := by decide +kernel
theorem d_Law_609 : decode Y_Law.2.1 609 = .ok (.iconst 1, 1) := by decide +kernel
theorem d_Law_610 : decode Y_Law.2.1 610 = .ok (.iadd, 1) := by decide +kernel
theorem d_Law_611 : decode Y_Law.2.1 611 = .ok (.iaload, 1) := by decide +kernel
theorem d_Law_612 : decode Y_Law.2.1 612 = .ok (.aload_n 0, 1) := by decide +kernel
theorem d_Law_613 : decode Y_Law.2.1 613 = .ok (.iload_n 3, 1) := by decide +kernel
theorem d_Law_614 : decode Y_Law.2.1 614 = .ok (.iconst 2, 1) := by decide +kernel
theorem d_Law_615 : decode Y_Law.2.1 615 = .ok (.iadd, 1) := by decide +kernel
theorem d_Law_616 : decode Y_Law.2.1 616 = .ok (.iaload, 1) := by decide +kernel
theorem d_Law_617 : decode Y_Law.2.1 617 = .ok (.aload_n 0, 1) := by decide +kernel
theorem d_Law_618 : decode Y_Law.2.1 618 = .ok (.iload_n 3, 1) := by decide +kernel
theorem d_Law_619 : decode Y_Law.2.1 619 = .ok (.iconst 3, 1) := by decide +kernel
theorem d_Law_620 : decode Y_Law.2.1 620 = .ok (.iadd, 1) := by decide +kernel
theorem d_Law_621 : decode Y_Law.2.1 621 = .ok (.iaload, 1) := by decide +kernel
theorem d_Law_622 : decode Y_Law.2.1 622 = .ok (.invokevirtual 74, 3) := by decide +kernel
theorem d_Law_625 : decode Y_Law.2.1 625 = .ok (.aload_n 2, 1) := by decide +kernel
theorem d_Law_626 : decode Y_Law.2.1 626 = .ok (.aload_n 0, 1) := by decide +kernel
theorem d_Law_627 : decode Y_Law.2.1 627 = .ok (.iload_n 3, 1) := by decide +kernel
theorem d_Law_628 : decode Y_Law.2.1 628 = .ok (.iconst 1, 1) := by decide +kernel
theorem d_Law_629 : decode Y_Law.2.1 629 = .ok (.iadd, 1) := by decide +kernel
theorem d_Law_630 : decode Y_Law.2.1 630 = .ok (.iaload, 1) := by decide +kernel
theorem d_Law_631 : decode Y_Law.2.1 631 = .ok (.aload_n 0, 1) := by decide +kernel
theorem d_Law_632 : decode Y_Law.2.1 632 = .ok (.iload_n 3, 1) := by decide +kernel
theorem d_Law_633 : decode Y_Law.2.1 633 = .ok (.iconst 2, 1) := by decide +kernel
theorem d_Law_634 : decode Y_Law.2.1 634 = .ok (.iadd, 1) := by decide +kernel
theorem d_Law_635 : decode Y_Law.2.1 635 = .ok (.iaload, 1) := by decide +kernel
theorem d_Law_636 : decode Y_Law.2.1 636 = .ok (.aload_n 0, 1) := by decide +kernel
theorem d_Law_637 : decode Y_Law.2.1 637 = .ok (.iload_n 3, 1) := by decide +kernel
theorem d_Law_638 : decode Y_Law.2.1 638 = .ok (.iconst 3, 1) := by decide +kernel
theorem d_Law_639 : decode Y_Law.2.1 639 = .ok (.iadd, 1) := by decide +kernel
theorem d_Law_640 : decode Y_Law.2.1 640 = .ok (.iaload, 1) := by decide +kernel
theorem d_Law_641 : decode Y_Law.2.1 641 = .ok (.invokevirtual 78, 3) := by decide +kernel
theorem d_Law_644 : decode Y_Law.2.1 644 = .ok (.if_icmp .eq 898, 3) := by decide +kernel
theorem d_Law_647 : decode Y_Law.2.1 647 = .ok (.iconst 0, 1) := by decide +kernel
theorem d_Law_648 : decode Y_Law.2.1 648 = .ok (.ireturn, 1) := by decide +kernel
theorem d_Law_649 : decode Y_Law.2.1 649 = .ok (.aload_n 1, 1) := by decide +kernel
theorem d_Law_650 : decode Y_Law.2.1 650 = .ok (.invokevirtual 79, 3) := by decide +kernel
theorem d_Law_653 : decode Y_Law.2.1 653 = .ok (.aload_n 2, 1) := by decide +kernel
theorem d_Law_654 : decode Y_Law.2.1 654 = .ok (.invokevirtual 82, 3) := by decide +kernel
theorem d_Law_657 : decode Y_Law.2.1 657 = .ok (.if_icmp .eq 885, 3) := by decide +kernel
theorem d_Law_660 : decode Y_Law.2.1 660 = .ok (.iconst 0, 1) := by decide +kernel
theorem d_Law_661 : decode Y_Law.2.1 661 = .ok (.ireturn, 1) := by decide +kernel
theorem d_Law_662 : decode Y_Law.2.1 662 = .ok (.aload_n 1, 1) := by decide +kernel
theorem d_Law_663 : decode Y_Law.2.1 663 = .ok (.aload_n 0, 1) := by decide +kernel
theorem d_Law_664 : decode Y_Law.2.1 664 = .ok (.iload_n 3, 1) := by decide +kernel
theorem d_Law_665 : decode Y_Law.2.1 665 = .ok (.iconst 1, 1) := by decide +kernel
theorem d_Law_666 : decode Y_Law.2.1 666 = .ok (.iadd, 1) := by decide +kernel
theorem d_Law_667 : decode Y_Law.2.1 667 = .ok (.iaload, 1) := by decide +kernel
theorem d_Law_668 : decode Y_Law.2.1 668 = .ok (.invokevirtual 83, 3) := by decide +kernel
theorem d_Law_671 : decode Y_Law.2.1 671 = .ok (.aload_n 2, 1) := by decide +kernel
theorem d_Law_672 : decode Y_Law.2.1 672 = .ok (.aload_n 0, 1) := by decide +kernel
theorem d_Law_673 : decode Y_Law.2.1 673 = .ok (.iload_n 3, 1) := by decide +kernel
theorem d_Law_674 : decode Y_Law.2.1 674 = .ok (.iconst 1, 1) := by decide +kernel
theorem d_Law_675 : decode Y_Law.2.1 675 = .ok (.iadd, 1) := by decide +kernel
theorem d_Law_676 : decode Y_Law.2.1 676 = .ok (.iaload, 1) := by decide +kernel
theorem d_Law_677 : decode Y_Law.2.1 677 = .ok (.invokevirtual 86, 3) := by decide +kernel
theorem d_Law_680 : decode Y_Law.2.1 680 = .ok (.if_icmp .eq 862, 3) := by decide +kernel
theorem d_Law_683 : decode Y_Law.2.1 683 = .ok (.iconst 0, 1) := by decide +kernel
theorem d_Law_684 : decode Y_Law.2.1 684 = .ok (.ireturn, 1) := by decide +kernel
theorem d_Law_685 : decode Y_Law.2.1 685 = .ok (.aload_n 1, 1) := by decide +kernel
theorem d_Law_686 : decode Y_Law.2.1 686 = .ok (.aload_n 0, 1) := by decide +kernel
theorem d_Law_687 : decode Y_Law.2.1 687 = .ok (.iload_n 3, 1) := by decide +kernel
theorem d_Law_688 : decode Y_Law.2.1 688 = .ok (.iconst 1, 1) := by decide +kernel
theorem d_Law_689 : decode Y_Law.2.1 689 = .ok (.iadd, 1) := by decide +kernel
theorem d_Law_690 : decode Y_Law.2.1 690 = .ok (.iaload, 1) := by decide +kernel
theorem d_Law_691 : decode Y_Law.2.1 691 = .ok (.invokevirtual 87, 3) := by decide +kernel
theorem d_Law_694 : decode Y_Law.2.1 694 = .ok (.aload_n 2, 1) := by decide +kernel
theorem d_Law_695 : decode Y_Law.2.1 695 = .ok (.aload_n 0, 1) := by decide +kernel
theorem d_Law_696 : decode Y_Law.2.1 696 = .ok (.iload_n 3, 1) := by decide +kernel
theorem d_Law_697 : decode Y_Law.2.1 697 = .ok (.iconst 1, 1) := by decide +kernel
theorem d_Law_698 : decode Y_Law.2.1 698 = .ok (.iadd, 1) := by decide +kernel
theorem d_Law_699 : decode Y_Law.2.1 699 = .ok (.iaload, 1) := by decide +kernel
theorem d_Law_700 : decode Y_Law.2.1 700 = .ok (.invokevirtual 90, 3) := by decide +kernel
theorem d_Law_703 : decode Y_Law.2.1 703 = .ok (.if_icmp .eq 839, 3) := by decide +kernel
theorem d_Law_706 : decode Y_Law.2.1 706 = .ok (.iconst 0, 1) := by decide +kernel
theorem d_Law_707 : decode Y_Law.2.1 707 = .ok (.ireturn, 1) := by decide +kernel
theorem d_Law_708 : decode Y_Law.2.1 708 = .ok (.aload_n 1, 1) := by decide +kernel
theorem d_Law_709 : decode Y_Law.2.1 709 = .ok (.invokevirtual 91, 3) := by decide +kernel
theorem d_Law_712 : decode Y_Law.2.1 712 = .ok (.aload_n 2, 1) := by decide +kernel
theorem d_Law_713 : decode Y_Law.2.1 713 = .ok (.invokevirtual 94, 3) := by decide +kernel
theorem d_Law_716 : decode Y_Law.2.1 716 = .ok (.if_icmp .eq 826, 3) := by decide +kernel
theorem d_Law_719 : decode Y_Law.2.1 719 = .ok (.iconst 0, 1) := by decide +kernel
theorem d_Law_720 : decode Y_Law.2.1 720 = .ok (.ireturn, 1) := by decide +kernel
theorem d_Law_721 : decode Y_Law.2.1 721 = .ok (.aload_n 1, 1) := by decide +kernel
theorem d_Law_722 : decode Y_Law.2.1 722 = .ok (.invokevirtual 95, 3) := by decide +kernel
theorem d_Law_725 : decode Y_Law.2.1 725 = .ok (.aload_n 2, 1) := by decide +kernel
theorem d_Law_726 : decode Y_Law.2.1 726 = .ok (.invokevirtual 98, 3) := by decide +kernel
theorem d_Law_729 : decode Y_Law.2.1 729 = .ok (.if_icmp .eq 813, 3) := by decide +kernel
theorem d_Law_732 : decode Y_Law.2.1 732 = .ok (.iconst 0, 1) := by decide +kernel
theorem d_Law_733 : decode Y_Law.2.1 733 = .ok (.ireturn, 1) := by decide +kernel
theorem d_Law_734 : decode Y_Law.2.1 734 = .ok (.aload_n 1, 1) := by decide +kernel
theorem d_Law_735 : decode Y_Law.2.1 735 = .ok (.invokevirtual 99, 3) := by decide +kernel
theorem d_Law_738 : decode Y_Law.2.1 738 = .ok (.aload_n 2, 1) := by decide +kernel
theorem d_Law_739 : decode Y_Law.2.1 739 = .ok (.invokevirtual 102, 3) := by decide +kernel
theorem d_Law_742 : decode Y_Law.2.1 742 = .ok (.if_icmp .eq 800, 3) := by decide +kernel
theorem d_Law_745 : decode Y_Law.2.1 745 = .ok (.iconst 0, 1) := by decide +kernel
theorem d_Law_746 : decode Y_Law.2.1 746 = .ok (.ireturn, 1) := by decide +kernel
theorem d_Law_747 : decode Y_Law.2.1 747 = .ok (.aload_n 1, 1) := by decide +kernel
theorem d_Law_748 : decode Y_Law.2.1 748 = .ok (.aload_n 0, 1) := by decide +kernel
theorem d_Law_749 : decode Y_Law.2.1 749 = .ok (.iload_n 3, 1) := by decide +kernel
theorem d_Law_750 : decode Y_Law.2.1 750 = .ok (.iconst 1, 1) := by decide +kernel
theorem d_Law_751 : decode Y_Law.2.1 751 = .ok (.iadd, 1) := by decide +kernel
theorem d_Law_752 : decode Y_Law.2.1 752 = .ok (.iaload, 1) := by decide +kernel
theorem d_Law_753 : decode Y_Law.2.1 753 = .ok (.aload_n 0, 1) := by decide +kernel
theorem d_Law_754 : decode Y_Law.2.1 754 = .ok (.iload_n 3, 1) := by decide +kernel
theorem d_Law_755 : decode Y_Law.2.1 755 = .ok (.iconst 2, 1) := by decide +kernel
theorem d_Law_756 : decode Y_Law.2.1 756 = .ok (.iadd, 1) := by decide +kernel
theorem d_Law_757 : decode Y_Law.2.1 757 = .ok (.iaload, 1) := by decide +kernel
theorem d_Law_758 : decode Y_Law.2.1 758 = .ok (.invokevirtual 103, 3) := by decide +kernel
theorem d_Law_761 : decode Y_Law.2.1 761 = .ok (.aload_n 2, 1) := by decide +kernel
theorem d_Law_762 : decode Y_Law.2.1 762 = .ok (.aload_n 0, 1) := by decide +kernel
theorem d_Law_763 : decode Y_Law.2.1 763 = .ok (.iload_n 3, 1) := by decide +kernel
theorem d_Law_764 : decode Y_Law.2.1 764 = .ok (.iconst 1, 1) := by decide +kernel
theorem d_Law_765 : decode Y_Law.2.1 765 = .ok (.iadd, 1) := by decide +kernel
theorem d_Law_766 : decode Y_Law.2.1 766 = .ok (.iaload, 1) := by decide +kernel
theorem d_Law_767 : decode Y_Law.2.1 767 = .ok (.aload_n 0, 1) := by decide +kernel
theorem d_Law_768 : decode Y_Law.2.1 768 = .ok (.iload_n 3, 1) := by decide +kernel
theorem d_Law_769 : decode Y_Law.2.1 769 = .ok (.iconst 2, 1) := by decide +kernel
theorem d_Law_770 : decode Y_Law.2.1 770 = .ok (.iadd, 1) := by decide +kernel
theorem d_Law_771 : decode Y_Law.2.1 771 = .ok (.iaload, 1) := by decide +kernel
theorem d_Law_772 : decode Y_Law.2.1 772 = .ok (.invokevirtual 106, 3) := by decide +kernel
theorem d_Law_775 : decode Y_Law.2.1 775 = .ok (.if_icmp .eq 767, 3) := by decide +kernel
theorem d_Law_778 : decode Y_Law.2.1 778 = .ok (.iconst 0, 1) := by decide +kernel
theorem d_Law_779 : decode Y_Law.2.1 779 = .ok (.ireturn, 1) := by decide +kernel
theorem d_Law_780 : decode Y_Law.2.1 780 = .ok (.aload_n 1, 1) := by decide +kernel
theorem d_Law_781 : decode Y_Law.2.1 781 = .ok (.invokevirtual 107, 3) := by decide +kernel
theorem d_Law_784 : decode Y_Law.2.1 784 = .ok (.aload_n 2, 1) := by decide +kernel
theorem d_Law_785 : decode Y_Law.2.1 785 = .ok (.invokevirtual 110, 3) := by decide +kernel
theorem d_Law_788 : decode Y_Law.2.1 788 = .ok (.if_icmp .eq 754, 3) := by decide +kernel
theorem d_Law_791 : decode Y_Law.2.1 791 = .ok (.iconst 0, 1) := by decide +kernel
theorem d_Law_792 : decode Y_Law.2.1 792 = .ok (.ireturn, 1) := by decide +kernel
theorem d_Law_793 : decode Y_Law.2.1 793 = .ok (.aload_n 1, 1) := by decide +kernel
theorem d_Law_794 : decode Y_Law.2.1 794 = .ok (.invokevirtual 111, 3) := by decide +kernel
theorem d_Law_797 : decode Y_Law.2.1 797 = .ok (.aload_n 2, 1) := by decide +kernel
theorem d_Law_798 : decode Y_Law.2.1 798 = .ok (.invokevirtual 114, 3) := by decide +kernel
theorem d_Law_801 : decode Y_Law.2.1 801 = .ok (.if_icmp .eq 741, 3) := by decide +kernel
theorem d_Law_804 : decode Y_Law.2.1 804 = .ok (.iconst 0, 1) := by decide +kernel
theorem d_Law_805 : decode Y_Law.2.1 805 = .ok (.ireturn, 1) := by decide +kernel
theorem d_Law_806 : decode Y_Law.2.1 806 = .ok (.aload_n 1, 1) := by decide +kernel
theorem d_Law_807 : decode Y_Law.2.1 807 = .ok (.invokevirtual 115, 3) := by decide +kernel
theorem d_Law_810 : decode Y_Law.2.1 810 = .ok (.aload_n 2, 1) := by decide +kernel
theorem d_Law_811 : decode Y_Law.2.1 811 = .ok (.invokevirtual 118, 3) := by decide +kernel
theorem d_Law_814 : decode Y_Law.2.1 814 = .ok (.if_icmp .eq 728, 3) := by decide +kernel
theorem d_Law_817 : decode Y_Law.2.1 817 = .ok (.iconst 0, 1) := by decide +kernel
theorem d_Law_818 : decode Y_Law.2.1 818 = .ok (.ireturn, 1) := by decide +kernel
theorem d_Law_819 : decode Y_Law.2.1 819 = .ok (.aload_n 1, 1) := by decide +kernel
theorem d_Law_820 : decode Y_Law.2.1 820 = .ok (.invokevirtual 119, 3) := by decide +kernel
theorem d_Law_823 : decode Y_Law.2.1 823 = .ok (.aload_n 2, 1) := by decide +kernel
theorem d_Law_824 : decode Y_Law.2.1 824 = .ok (.invokevirtual 122, 3) := by decide +kernel
theorem d_Law_827 : decode Y_Law.2.1 827 = .ok (.if_icmp .eq 715, 3) := by decide +kernel
theorem d_Law_830 : decode Y_Law.2.1 830 = .ok (.iconst 0, 1) := by decide +kernel
theorem d_Law_831 : decode Y_Law.2.1 831 = .ok (.ireturn, 1) := by decide +kernel
theorem d_Law_832 : decode Y_Law.2.1 832 = .ok (.aload_n 1, 1) := by decide +kernel
theorem d_Law_833 : decode Y_Law.2.1 833 = .ok (.aload_n 0, 1) := by decide +kernel
theorem d_Law_834 : decode Y_Law.2.1 834 = .ok (.iload_n 3, 1) := by decide +kernel
theorem d_Law_835 : decode Y_Law.2.1 835 = .ok (.iconst 1, 1) := by decide +kernel
theorem d_Law_836 : decode Y_Law.2.1 836 = .ok (.iadd, 1) := by decide +kernel
theorem d_Law_837 : decode Y_Law.2.1 837 = .ok (.iaload, 1) := by decide +kernel
theorem d_Law_838 : decode Y_Law.2.1 838 = .ok (.invokevirtual 123, 3) := by decide +kernel
theorem d_Law_841 : decode Y_Law.2.1 841 = .ok (.aload_n 2, 1) := by decide +kernel
theorem d_Law_842 : decode Y_Law.2.1 842 = .ok (.aload_n 0, 1) := by decide +kernel
theorem d_Law_843 : decode Y_Law.2.1 843 = .ok (.iload_n 3, 1) := by decide +kernel
theorem d_Law_844 : decode Y_Law.2.1 844 = .ok (.iconst 1, 1) := by decide +kernel
theorem d_Law_845 : decode Y_Law.2.1 845 = .ok (.iadd, 1) := by decide +kernel
theorem d_Law_846 : decode Y_Law.2.1 846 = .ok (.iaload, 1) := by decide +kernel
theorem d_Law_847 : decode Y_Law.2.1 847 = .ok (.invokevirtual 126, 3) := by decide +kernel
theorem d_Law_850 : decode Y_Law.2.1 850 = .ok (.if_icmp .eq 692, 3) := by decide +kernel
theorem d_Law_853 : decode Y_Law.2.1 853 = .ok (.iconst 0, 1) := by decide +kernel
theorem d_Law_854 : decode Y_Law.2.1 854 = .ok (.ireturn, 1) := by decide +kernel
theorem d_Law_855 : decode Y_Law.2.1 855 = .ok (.aload_n 1, 1) := by decide +kernel
theorem d_Law_856 : decode Y_Law.2.1 856 = .ok (.aload_n 0, 1) := by decide +kernel
theorem d_Law_857 : decode Y_Law.2.1 857 = .ok (.iload_n 3, 1) := by decide +kernel
theorem d_Law_858 : decode Y_Law.2.1 858 = .ok (.iconst 1, 1) := by decide +kernel
theorem d_Law_859 : decode Y_Law.2.1 859 = .ok (.iadd, 1) := by decide +kernel
theorem d_Law_860 : decode Y_Law.2.1 860 = .ok (.iaload, 1) := by decide +kernel
theorem d_Law_861 : decode Y_Law.2.1 861 = .ok (.invokevirtual 127, 3) := by decide +kernel
theorem d_Law_864 : decode Y_Law.2.1 864 = .ok (.aload_n 2, 1) := by decide +kernel
theorem d_Law_865 : decode Y_Law.2.1 865 = .ok (.aload_n 0, 1) := by decide +kernel
theorem d_Law_866 : decode Y_Law.2.1 866 = .ok (.iload_n 3, 1) := by decide +kernel
theorem d_Law_867 : decode Y_Law.2.1 867 = .ok (.iconst 1, 1) := by decide +kernel
theorem d_Law_868 : decode Y_Law.2.1 868 = .ok (.iadd, 1) := by decide +kernel
theorem d_Law_869 : decode Y_Law.2.1 869 = .ok (.iaload, 1) := by decide +kernel
theorem d_Law_870 : decode Y_Law.2.1 870 = .ok (.invokevirtual 130, 3) := by decide +kernel
theorem d_Law_873 : decode Y_Law.2.1 873 = .ok (.if_icmp .eq 669, 3) := by decide +kernel
theorem d_Law_876 : decode Y_Law.2.1 876 = .ok (.iconst 0, 1) := by decide +kernel
theorem d_Law_877 : decode Y_Law.2.1 877 = .ok (.ireturn, 1) := by decide +kernel
theorem d_Law_878 : decode Y_Law.2.1 878 = .ok (.aload_n 1, 1) := by decide +kernel
theorem d_Law_879 : decode Y_Law.2.1 879 = .ok (.invokevirtual 131, 3) := by decide +kernel
theorem d_Law_882 : decode Y_Law.2.1 882 = .ok (.aload_n 2, 1) := by decide +kernel
theorem d_Law_883 : decode Y_Law.2.1 883 = .ok (.invokevirtual 134, 3) := by decide +kernel
theorem d_Law_886 : decode Y_Law.2.1 886 = .ok (.if_icmp .eq 656, 3) := by decide +kernel
theorem d_Law_889 : decode Y_Law.2.1 889 = .ok (.iconst 0, 1) := by decide +kernel
theorem d_Law_890 : decode Y_Law.2.1 890 = .ok (.ireturn, 1) := by decide +kernel
theorem d_Law_891 : decode Y_Law.2.1 891 = .ok (.aload_n 1, 1) := by decide +kernel
theorem d_Law_892 : decode Y_Law.2.1 892 = .ok (.aload_n 0, 1) := by decide +kernel
theorem d_Law_893 : decode Y_Law.2.1 893 = .ok (.iload_n 3, 1) := by decide +kernel
theorem d_Law_894 : decode Y_Law.2.1 894 = .ok (.iconst 1, 1) := by decide +kernel
theorem d_Law_895 : decode Y_Law.2.1 895 = .ok (.iadd, 1) := by decide +kernel
theorem d_Law_896 : decode Y_Law.2.1 896 = .ok (.iaload, 1) := by decide +kernel
theorem d_Law_897 : decode Y_Law.2.1 897 = .ok (.invokevirtual 135, 3) := by decide +kernel
theorem d_Law_900 : decode Y_Law.2.1 900 = .ok (.aload_n 2, 1) := by decide +kernel
theorem d_Law_901 : decode Y_Law.2.1 901 = .ok (.aload_n 0, 1) := by decide +kernel
theorem d_Law_902 : decode Y_Law.2.1 902 = .ok (.iload_n 3, 1) := by decide +kernel
theorem d_Law_903 : decode Y_Law.2.1 903 = .ok (.iconst 1, 1) := by decide +kernel
theorem d_Law_904 : decode Y_Law.2.1 904 = .ok (.iadd, 1) := by decide +kernel
theorem d_Law_905 : decode Y_Law.2.1 905 = .ok (.iaload, 1) := by decide +kernel
theorem d_Law_906 : decode Y_Law.2.1 906 = .ok (.invokevirtual 138, 3) := by decide +kernel
theorem d_Law_909 : decode Y_Law.2.1 909 = .ok (.if_icmp .eq 633, 3) := by decide +kernel
theorem d_Law_912 : decode Y_Law.2.1 912 = .ok (.iconst 0, 1) := by decide +kernel
