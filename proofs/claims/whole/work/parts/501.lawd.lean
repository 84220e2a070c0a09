theorem d_law_18 : decode code 18 = .ok (.iload_n 3, 1) := by decide +kernel
theorem d_law_19 : decode code 19 = .ok (.aload_n 0, 1) := by decide +kernel
theorem d_law_20 : decode code 20 = .ok (.arraylength, 1) := by decide +kernel
theorem d_law_21 : decode code 21 = .ok (.bipush 6, 2) := by decide +kernel
theorem d_law_23 : decode code 23 = .ok (.isub, 1) := by decide +kernel
theorem d_law_24 : decode code 24 = .ok (.if_icmp .gt 1350, 3) := by decide +kernel
theorem d_law_27 : decode code 27 = .ok (.aload_n 0, 1) := by decide +kernel
theorem d_law_28 : decode code 28 = .ok (.iload_n 3, 1) := by decide +kernel
theorem d_law_29 : decode code 29 = .ok (.iaload, 1) := by decide +kernel
theorem d_law_30 : decode code 30 = .ok (.bipush 63, 2) := by decide +kernel
theorem d_law_32 : decode code 32 = .ok (.iand, 1) := by decide +kernel
theorem d_law_33 : decode code 33 = .ok (.tableswitch 1335 0 46 #[203, 226, 259, 302, 335, 358, 381, 404, 417, 440, 463, 496, 509, 532, 545, 558, 571, 584, 597, 610, 633, 656, 669, 682, 715, 748, 771, 794, 827, 861, 884, 907, 930, 963, 976, 989, 1022, 1055, 1098, 1141, 1204, 1227, 1250, 1263, 1276, 1289, 1312], 203) := by decide +kernel
theorem d_law_236 : decode code 236 = .ok (.aload_n 1, 1) := by decide +kernel
theorem d_law_237 : decode code 237 = .ok (.aload_n 0, 1) := by decide +kernel
theorem d_law_238 : decode code 238 = .ok (.iload_n 3, 1) := by decide +kernel
theorem d_law_239 : decode code 239 = .ok (.iconst 1, 1) := by decide +kernel
theorem d_law_240 : decode code 240 = .ok (.iadd, 1) := by decide +kernel
theorem d_law_241 : decode code 241 = .ok (.iaload, 1) := by decide +kernel
theorem d_law_242 : decode code 242 = .ok (.invokevirtual 13, 3) := by decide +kernel
theorem d_law_245 : decode code 245 = .ok (.aload_n 2, 1) := by decide +kernel
theorem d_law_246 : decode code 246 = .ok (.aload_n 0, 1) := by decide +kernel
theorem d_law_247 : decode code 247 = .ok (.iload_n 3, 1) := by decide +kernel
theorem d_law_248 : decode code 248 = .ok (.iconst 1, 1) := by decide +kernel
theorem d_law_249 : decode code 249 = .ok (.iadd, 1) := by decide +kernel
theorem d_law_250 : decode code 250 = .ok (.iaload, 1) := by decide +kernel
theorem d_law_251 : decode code 251 = .ok (.invokevirtual 17, 3) := by decide +kernel
theorem d_law_254 : decode code 254 = .ok (.if_icmp .eq 1114, 3) := by decide +kernel
theorem d_law_259 : decode code 259 = .ok (.aload_n 1, 1) := by decide +kernel
theorem d_law_260 : decode code 260 = .ok (.aload_n 0, 1) := by decide +kernel
theorem d_law_261 : decode code 261 = .ok (.iload_n 3, 1) := by decide +kernel
theorem d_law_262 : decode code 262 = .ok (.iconst 1, 1) := by decide +kernel
theorem d_law_263 : decode code 263 = .ok (.iadd, 1) := by decide +kernel
theorem d_law_264 : decode code 264 = .ok (.iaload, 1) := by decide +kernel
theorem d_law_265 : decode code 265 = .ok (.aload_n 0, 1) := by decide +kernel
theorem d_law_266 : decode code 266 = .ok (.iload_n 3, 1) := by decide +kernel
theorem d_law_267 : decode code 267 = .ok (.iconst 2, 1) := by decide +kernel
theorem d_law_268 : decode code 268 = .ok (.iadd, 1) := by decide +kernel
theorem d_law_269 : decode code 269 = .ok (.iaload, 1) := by decide +kernel
theorem d_law_270 : decode code 270 = .ok (.invokevirtual 18, 3) := by decide +kernel
theorem d_law_273 : decode code 273 = .ok (.aload_n 2, 1) := by decide +kernel
theorem d_law_274 : decode code 274 = .ok (.aload_n 0, 1) := by decide +kernel
theorem d_law_275 : decode code 275 = .ok (.iload_n 3, 1) := by decide +kernel
theorem d_law_276 : decode code 276 = .ok (.iconst 1, 1) := by decide +kernel
theorem d_law_277 : decode code 277 = .ok (.iadd, 1) := by decide +kernel
theorem d_law_278 : decode code 278 = .ok (.iaload, 1) := by decide +kernel
theorem d_law_279 : decode code 279 = .ok (.aload_n 0, 1) := by decide +kernel
theorem d_law_280 : decode code 280 = .ok (.iload_n 3, 1) := by decide +kernel
theorem d_law_281 : decode code 281 = .ok (.iconst 2, 1) := by decide +kernel
theorem d_law_282 : decode code 282 = .ok (.iadd, 1) := by decide +kernel
theorem d_law_283 : decode code 283 = .ok (.iaload, 1) := by decide +kernel
theorem d_law_284 : decode code 284 = .ok (.invokevirtual 22, 3) := by decide +kernel
theorem d_law_287 : decode code 287 = .ok (.if_icmp .eq 1081, 3) := by decide +kernel
theorem d_law_292 : decode code 292 = .ok (.aload_n 1, 1) := by decide +kernel
theorem d_law_293 : decode code 293 = .ok (.aload_n 0, 1) := by decide +kernel
theorem d_law_294 : decode code 294 = .ok (.iload_n 3, 1) := by decide +kernel
theorem d_law_295 : decode code 295 = .ok (.iconst 1, 1) := by decide +kernel
theorem d_law_296 : decode code 296 = .ok (.iadd, 1) := by decide +kernel
theorem d_law_297 : decode code 297 = .ok (.iaload, 1) := by decide +kernel
theorem d_law_298 : decode code 298 = .ok (.aload_n 0, 1) := by decide +kernel
theorem d_law_299 : decode code 299 = .ok (.iload_n 3, 1) := by decide +kernel
theorem d_law_300 : decode code 300 = .ok (.iconst 2, 1) := by decide +kernel
theorem d_law_301 : decode code 301 = .ok (.iadd, 1) := by decide +kernel
theorem d_law_302 : decode code 302 = .ok (.iaload, 1) := by decide +kernel
theorem d_law_303 : decode code 303 = .ok (.aload_n 0, 1) := by decide +kernel
theorem d_law_304 : decode code 304 = .ok (.iload_n 3, 1) := by decide +kernel
theorem d_law_305 : decode code 305 = .ok (.iconst 3, 1) := by decide +kernel
theorem d_law_306 : decode code 306 = .ok (.iadd, 1) := by decide +kernel
theorem d_law_307 : decode code 307 = .ok (.iaload, 1) := by decide +kernel
theorem d_law_308 : decode code 308 = .ok (.invokevirtual 23, 3) := by decide +kernel
theorem d_law_311 : decode code 311 = .ok (.aload_n 2, 1) := by decide +kernel
theorem d_law_312 : decode code 312 = .ok (.aload_n 0, 1) := by decide +kernel
theorem d_law_313 : decode code 313 = .ok (.iload_n 3, 1) := by decide +kernel
theorem d_law_314 : decode code 314 = .ok (.iconst 1, 1) := by decide +kernel
theorem d_law_315 : decode code 315 = .ok (.iadd, 1) := by decide +kernel
theorem d_law_316 : decode code 316 = .ok (.iaload, 1) := by decide +kernel
theorem d_law_317 : decode code 317 = .ok (.aload_n 0, 1) := by decide +kernel
theorem d_law_318 : decode code 318 = .ok (.iload_n 3, 1) := by decide +kernel
theorem d_law_319 : decode code 319 = .ok (.iconst 2, 1) := by decide +kernel
theorem d_law_320 : decode code 320 = .ok (.iadd, 1) := by decide +kernel
theorem d_law_321 : decode code 321 = .ok (.iaload, 1) := by decide +kernel
theorem d_law_322 : decode code 322 = .ok (.aload_n 0, 1) := by decide +kernel
theorem d_law_323 : decode code 323 = .ok (.iload_n 3, 1) := by decide +kernel
theorem d_law_324 : decode code 324 = .ok (.iconst 3, 1) := by decide +kernel
theorem d_law_325 : decode code 325 = .ok (.iadd, 1) := by decide +kernel
theorem d_law_326 : decode code 326 = .ok (.iaload, 1) := by decide +kernel
theorem d_law_327 : decode code 327 = .ok (.invokevirtual 27, 3) := by decide +kernel
theorem d_law_330 : decode code 330 = .ok (.if_icmp .eq 1038, 3) := by decide +kernel
theorem d_law_335 : decode code 335 = .ok (.aload_n 1, 1) := by decide +kernel
theorem d_law_336 : decode code 336 = .ok (.aload_n 0, 1) := by decide +kernel
theorem d_law_337 : decode code 337 = .ok (.iload_n 3, 1) := by decide +kernel
theorem d_law_338 : decode code 338 = .ok (.iconst 1, 1) := by decide +kernel
theorem d_law_339 : decode code 339 = .ok (.iadd, 1) := by decide +kernel
theorem d_law_340 : decode code 340 = .ok (.iaload, 1) := by decide +kernel
theorem d_law_341 : decode code 341 = .ok (.aload_n 0, 1) := by decide +kernel
theorem d_law_342 : decode code 342 = .ok (.iload_n 3, 1) := by decide +kernel
theorem d_law_343 : decode code 343 = .ok (.iconst 2, 1) := by decide +kernel
theorem d_law_344 : decode code 344 = .ok (.iadd, 1) := by decide +kernel
theorem d_law_345 : decode code 345 = .ok (.iaload, 1) := by decide +kernel
theorem d_law_346 : decode code 346 = .ok (.invokevirtual 28, 3) := by decide +kernel
theorem d_law_349 : decode code 349 = .ok (.aload_n 2, 1) := by decide +kernel
theorem d_law_350 : decode code 350 = .ok (.aload_n 0, 1) := by decide +kernel
theorem d_law_351 : decode code 351 = .ok (.iload_n 3, 1) := by decide +kernel
theorem d_law_352 : decode code 352 = .ok (.iconst 1, 1) := by decide +kernel
theorem d_law_353 : decode code 353 = .ok (.iadd, 1) := by decide +kernel
theorem d_law_354 : decode code 354 = .ok (.iaload, 1) := by decide +kernel
theorem d_law_355 : decode code 355 = .ok (.aload_n 0, 1) := by decide +kernel
theorem d_law_356 : decode code 356 = .ok (.iload_n 3, 1) := by decide +kernel
theorem d_law_357 : decode code 357 = .ok (.iconst 2, 1) := by decide +kernel
theorem d_law_358 : decode code 358 = .ok (.iadd, 1) := by decide +kernel
theorem d_law_359 : decode code 359 = .ok (.iaload, 1) := by decide +kernel
theorem d_law_360 : decode code 360 = .ok (.invokevirtual 31, 3) := by decide +kernel
theorem d_law_363 : decode code 363 = .ok (.if_icmp .eq 1005, 3) := by decide +kernel
theorem d_law_368 : decode code 368 = .ok (.aload_n 1, 1) := by decide +kernel
theorem d_law_369 : decode code 369 = .ok (.aload_n 0, 1) := by decide +kernel
theorem d_law_370 : decode code 370 = .ok (.iload_n 3, 1) := by decide +kernel
theorem d_law_371 : decode code 371 = .ok (.iconst 1, 1) := by decide +kernel
theorem d_law_372 : decode code 372 = .ok (.iadd, 1) := by decide +kernel
theorem d_law_373 : decode code 373 = .ok (.iaload, 1) := by decide +kernel
theorem d_law_374 : decode code 374 = .ok (.invokevirtual 32, 3) := by decide +kernel
theorem d_law_377 : decode code 377 = .ok (.aload_n 2, 1) := by decide +kernel
theorem d_law_378 : decode code 378 = .ok (.aload_n 0, 1) := by decide +kernel
theorem d_law_379 : decode code 379 = .ok (.iload_n 3, 1) := by decide +kernel
theorem d_law_380 : decode code 380 = .ok (.iconst 1, 1) := by decide +kernel
theorem d_law_381 : decode code 381 = .ok (.iadd, 1) := by decide +kernel
theorem d_law_382 : decode code 382 = .ok (.iaload, 1) := by decide +kernel
theorem d_law_383 : decode code 383 = .ok (.invokevirtual 35, 3) := by decide +kernel
theorem d_law_386 : decode code 386 = .ok (.if_icmp .eq 982, 3) := by decide +kernel
theorem d_law_391 : decode code 391 = .ok (.aload_n 1, 1) := by decide +kernel
theorem d_law_392 : decode code 392 = .ok (.aload_n 0, 1) := by decide +kernel
theorem d_law_393 : decode code 393 = .ok (.iload_n 3, 1) := by decide +kernel
theorem d_law_394 : decode code 394 = .ok (.iconst 1, 1) := by decide +kernel
theorem d_law_395 : decode code 395 = .ok (.iadd, 1) := by decide +kernel
theorem d_law_396 : decode code 396 = .ok (.iaload, 1) := by decide +kernel
theorem d_law_397 : decode code 397 = .ok (.invokevirtual 36, 3) := by decide +kernel
theorem d_law_400 : decode code 400 = .ok (.aload_n 2, 1) := by decide +kernel
theorem d_law_401 : decode code 401 = .ok (.aload_n 0, 1) := by decide +kernel
theorem d_law_402 : decode code 402 = .ok (.iload_n 3, 1) := by decide +kernel
theorem d_law_403 : decode code 403 = .ok (.iconst 1, 1) := by decide +kernel
theorem d_law_404 : decode code 404 = .ok (.iadd, 1) := by decide +kernel
theorem d_law_405 : decode code 405 = .ok (.iaload, 1) := by decide +kernel
theorem d_law_406 : decode code 406 = .ok (.invokevirtual 39, 3) := by decide +kernel
theorem d_law_409 : decode code 409 = .ok (.if_icmp .eq 959, 3) := by decide +kernel
theorem d_law_414 : decode code 414 = .ok (.aload_n 1, 1) := by decide +kernel
theorem d_law_415 : decode code 415 = .ok (.aload_n 0, 1) := by decide +kernel
theorem d_law_416 : decode code 416 = .ok (.iload_n 3, 1) := by decide +kernel
theorem d_law_417 : decode code 417 = .ok (.iconst 1, 1) := by decide +kernel
theorem d_law_418 : decode code 418 = .ok (.iadd, 1) := by decide +kernel
theorem d_law_419 : decode code 419 = .ok (.iaload, 1) := by decide +kernel
theorem d_law_420 : decode code 420 = .ok (.invokevirtual 40, 3) := by decide +kernel
theorem d_law_423 : decode code 423 = .ok (.aload_n 2, 1) := by decide +kernel
theorem d_law_424 : decode code 424 = .ok (.aload_n 0, 1) := by decide +kernel
theorem d_law_425 : decode code 425 = .ok (.iload_n 3, 1) := by decide +kernel
theorem d_law_426 : decode code 426 = .ok (.iconst 1, 1) := by decide +kernel
theorem d_law_427 : decode code 427 = .ok (.iadd, 1) := by decide +kernel
theorem d_law_428 : decode code 428 = .ok (.iaload, 1) := by decide +kernel
theorem d_law_429 : decode code 429 = .ok (.invokevirtual 43, 3) := by decide +kernel
theorem d_law_432 : decode code 432 = .ok (.if_icmp .eq 936, 3) := by decide +kernel
theorem d_law_437 : decode code 437 = .ok (.aload_n 1, 1) := by decide +kernel
theorem d_law_438 : decode code 438 = .ok (.invokevirtual 44, 3) := by decide +kernel
theorem d_law_441 : decode code 441 = .ok (.aload_n 2, 1) := by decide +kernel
theorem d_law_442 : decode code 442 = .ok (.invokevirtual 48, 3) := by decide +kernel
theorem d_law_445 : decode code 445 = .ok (.if_icmp .eq 923, 3) := by decide +kernel
theorem d_law_450 : decode code 450 = .ok (.aload_n 1, 1) := by decide +kernel
theorem d_law_451 : decode code 451 = .ok (.aload_n 0, 1) := by decide +kernel
theorem d_law_452 : decode code 452 = .ok (.iload_n 3, 1) := by decide +kernel
theorem d_law_453 : decode code 453 = .ok (.iconst 1, 1) := by decide +kernel
theorem d_law_454 : decode code 454 = .ok (.iadd, 1) := by decide +kernel
theorem d_law_455 : decode code 455 = .ok (.iaload, 1) := by decide +kernel
theorem d_law_456 : decode code 456 = .ok (.invokevirtual 49, 3) := by decide +kernel
theorem d_law_459 : decode code 459 = .ok (.aload_n 2, 1) := by decide +kernel
theorem d_law_460 : decode code 460 = .ok (.aload_n 0, 1) := by decide +kernel
theorem d_law_461 : decode code 461 = .ok (.iload_n 3, 1) := by decide +kernel
theorem d_law_462 : decode code 462 = .ok (.iconst 1, 1) := by decide +kernel
theorem d_law_463 : decode code 463 = .ok (.iadd, 1) := by decide +kernel
theorem d_law_464 : decode code 464 = .ok (.iaload, 1) := by decide +kernel
theorem d_law_465 : decode code 465 = .ok (.invokevirtual 52, 3) := by decide +kernel
theorem d_law_468 : decode code 468 = .ok (.if_icmp .eq 900, 3) := by decide +kernel
theorem d_law_473 : decode code 473 = .ok (.aload_n 1, 1) := by decide +kernel
theorem d_law_474 : decode code 474 = .ok (.aload_n 0, 1) := by decide +kernel
theorem d_law_475 : decode code 475 = .ok (.iload_n 3, 1) := by decide +kernel
theorem d_law_476 : decode code 476 = .ok (.iconst 1, 1) := by decide +kernel
theorem d_law_477 : decode code 477 = .ok (.iadd, 1) := by decide +kernel
theorem d_law_478 : decode code 478 = .ok (.iaload, 1) := by decide +kernel
theorem d_law_479 : decode code 479 = .ok (.invokevirtual 53, 3) := by decide +kernel
theorem d_law_482 : decode code 482 = .ok (.aload_n 2, 1) := by decide +kernel
theorem d_law_483 : decode code 483 = .ok (.aload_n 0, 1) := by decide +kernel
theorem d_law_484 : decode code 484 = .ok (.iload_n 3, 1) := by decide +kernel
theorem d_law_485 : decode code 485 = .ok (.iconst 1, 1) := by decide +kernel
theorem d_law_486 : decode code 486 = .ok (.iadd, 1) := by decide +kernel
theorem d_law_487 : decode code 487 = .ok (.iaload, 1) := by decide +kernel
theorem d_law_488 : decode code 488 = .ok (.invokevirtual 56, 3) := by decide +kernel
theorem d_law_491 : decode code 491 = .ok (.if_icmp .eq 877, 3) := by decide +kernel
theorem d_law_496 : decode code 496 = .ok (.aload_n 1, 1) := by decide +kernel
theorem d_law_497 : decode code 497 = .ok (.aload_n 0, 1) := by decide +kernel
theorem d_law_498 : decode code 498 = .ok (.iload_n 3, 1) := by decide +kernel
theorem d_law_499 : decode code 499 = .ok (.iconst 1, 1) := by decide +kernel
theorem d_law_500 : decode code 500 = .ok (.iadd, 1) := by decide +kernel
theorem d_law_501 : decode code 501 = .ok (.iaload, 1) := by decide +kernel
theorem d_law_502 : decode code 502 = .ok (.aload_n 0, 1) := by decide +kernel
theorem d_law_503 : decode code 503 = .ok (.iload_n 3, 1) := by decide +kernel
theorem d_law_504 : decode code 504 = .ok (.iconst 2, 1) := by decide +kernel
theorem d_law_505 : decode code 505 = .ok (.iadd, 1) := by decide +kernel
theorem d_law_506 : decode code 506 = .ok (.iaload, 1) := by decide +kernel
theorem d_law_507 : decode code 507 = .ok (.invokevirtual 57, 3) := by decide +kernel
theorem d_law_510 : decode code 510 = .ok (.aload_n 2, 1) := by decide +kernel
theorem d_law_511 : decode code 511 = .ok (.aload_n 0, 1) := by decide +kernel
theorem d_law_512 : decode code 512 = .ok (.iload_n 3, 1) := by decide +kernel
theorem d_law_513 : decode code 513 = .ok (.iconst 1, 1) := by decide +kernel
theorem d_law_514 : decode code 514 = .ok (.iadd, 1) := by decide +kernel
theorem d_law_515 : decode code 515 = .ok (.iaload, 1) := by decide +kernel
theorem d_law_516 : decode code 516 = .ok (.aload_n 0, 1) := by decide +kernel
theorem d_law_517 : decode code 517 = .ok (.iload_n 3, 1) := by decide +kernel
theorem d_law_518 : decode code 518 = .ok (.iconst 2, 1) := by decide +kernel
theorem d_law_519 : decode code 519 = .ok (.iadd, 1) := by decide +kernel
theorem d_law_520 : decode code 520 = .ok (.iaload, 1) := by decide +kernel
theorem d_law_521 : decode code 521 = .ok (.invokevirtual 60, 3) := by decide +kernel
theorem d_law_524 : decode code 524 = .ok (.if_icmp .eq 844, 3) := by decide +kernel
theorem d_law_529 : decode code 529 = .ok (.aload_n 1, 1) := by decide +kernel
theorem d_law_530 : decode code 530 = .ok (.invokevirtual 61, 3) := by decide +kernel
theorem d_law_533 : decode code 533 = .ok (.aload_n 2, 1) := by decide +kernel
theorem d_law_534 : decode code 534 = .ok (.invokevirtual 64, 3) := by decide +kernel
theorem d_law_537 : decode code 537 = .ok (.if_icmp .eq 831, 3) := by decide +kernel
theorem d_law_542 : decode code 542 = .ok (.aload_n 1, 1) := by decide +kernel
theorem d_law_543 : decode code 543 = .ok (.aload_n 0, 1) := by decide +kernel
theorem d_law_544 : decode code 544 = .ok (.iload_n 3, 1) := by decide +kernel
theorem d_law_545 : decode code 545 = .ok (.iconst 1, 1) := by decide +kernel
theorem d_law_546 : decode code 546 = .ok (.iadd, 1) := by decide +kernel
theorem d_law_547 : decode code 547 = .ok (.iaload, 1) := by decide +kernel
theorem d_law_548 : decode code 548 = .ok (.invokevirtual 65, 3) := by decide +kernel
theorem d_law_551 : decode code 551 = .ok (.aload_n 2, 1) := by decide +kernel
theorem d_law_552 : decode code 552 = .ok (.aload_n 0, 1) := by decide +kernel
theorem d_law_553 : decode code 553 = .ok (.iload_n 3, 1) := by decide +kernel
theorem d_law_554 : decode code 554 = .ok (.iconst 1, 1) := by decide +kernel
theorem d_law_555 : decode code 555 = .ok (.iadd, 1) := by decide +kernel
theorem d_law_556 : decode code 556 = .ok (.iaload, 1) := by decide +kernel
theorem d_law_557 : decode code 557 = .ok (.invokevirtual 68, 3) := by decide +kernel
theorem d_law_560 : decode code 560 = .ok (.if_icmp .eq 808, 3) := by decide +kernel
theorem d_law_565 : decode code 565 = .ok (.aload_n 1, 1) := by decide +kernel
theorem d_law_566 : decode code 566 = .ok (.invokevirtual 69, 3) := by decide +kernel
theorem d_law_569 : decode code 569 = .ok (.aload_n 2, 1) := by decide +kernel
theorem d_law_570 : decode code 570 = .ok (.invokevirtual 72, 3) := by decide +kernel
theorem d_law_573 : decode code 573 = .ok (.if_icmp .eq 795, 3) := by decide +kernel
theorem d_law_578 : decode code 578 = .ok (.aload_n 1, 1) := by decide +kernel
theorem d_law_579 : decode code 579 = .ok (.invokevirtual 73, 3) := by decide +kernel
theorem d_law_582 : decode code 582 = .ok (.aload_n 2, 1) := by decide +kernel
theorem d_law_583 : decode code 583 = .ok (.invokevirtual 76, 3) := by decide +kernel
theorem d_law_586 : decode code 586 = .ok (.if_icmp .eq 782, 3) := by decide +kernel
theorem d_law_591 : decode code 591 = .ok (.aload_n 1, 1) := by decide +kernel
theorem d_law_592 : decode code 592 = .ok (.invokevirtual 77, 3) := by decide +kernel
theorem d_law_595 : decode code 595 = .ok (.aload_n 2, 1) := by decide +kernel
theorem d_law_596 : decode code 596 = .ok (.invokevirtual 80, 3) := by decide +kernel
theorem d_law_599 : decode code 599 = .ok (.if_icmp .eq 769, 3) := by decide +kernel
theorem d_law_604 : decode code 604 = .ok (.aload_n 1, 1) := by decide +kernel
theorem d_law_605 : decode code 605 = .ok (.invokevirtual 81, 3) := by decide +kernel
theorem d_law_608 : decode code 608 = .ok (.aload_n 2, 1) := by decide +kernel
theorem d_law_609 : decode code 609 = .ok (.invokevirtual 84, 3) := by decide +kernel
theorem d_law_612 : decode code 612 = .ok (.if_icmp .eq 756, 3) := by decide +kernel
theorem d_law_617 : decode code 617 = .ok (.aload_n 1, 1) := by decide +kernel
theorem d_law_618 : decode code 618 = .ok (.invokevirtual 85, 3) := by decide +kernel
theorem d_law_621 : decode code 621 = .ok (.aload_n 2, 1) := by decide +kernel
theorem d_law_622 : decode code 622 = .ok (.invokevirtual 88, 3) := by decide +kernel
theorem d_law_625 : decode code 625 = .ok (.if_icmp .eq 743, 3) := by decide +kernel
theorem d_law_630 : decode code 630 = .ok (.aload_n 1, 1) := by decide +kernel
theorem d_law_631 : decode code 631 = .ok (.invokevirtual 89, 3) := by decide +kernel
theorem d_law_634 : decode code 634 = .ok (.aload_n 2, 1) := by decide +kernel
theorem d_law_635 : decode code 635 = .ok (.invokevirtual 92, 3) := by decide +kernel
theorem d_law_638 : decode code 638 = .ok (.if_icmp .eq 730, 3) := by decide +kernel
theorem d_law_643 : decode code 643 = .ok (.aload_n 1, 1) := by decide +kernel
theorem d_law_644 : decode code 644 = .ok (.aload_n 0, 1) := by decide +kernel
theorem d_law_645 : decode code 645 = .ok (.iload_n 3, 1) := by decide +kernel
theorem d_law_646 : decode code 646 = .ok (.iconst 1, 1) := by decide +kernel
theorem d_law_647 : decode code 647 = .ok (.iadd, 1) := by decide +kernel
theorem d_law_648 : decode code 648 = .ok (.iaload, 1) := by decide +kernel
theorem d_law_649 : decode code 649 = .ok (.invokevirtual 93, 3) := by decide +kernel
theorem d_law_652 : decode code 652 = .ok (.aload_n 2, 1) := by decide +kernel
theorem d_law_653 : decode code 653 = .ok (.aload_n 0, 1) := by decide +kernel
theorem d_law_654 : decode code 654 = .ok (.iload_n 3, 1) := by decide +kernel
theorem d_law_655 : decode code 655 = .ok (.iconst 1, 1) := by decide +kernel
theorem d_law_656 : decode code 656 = .ok (.iadd, 1) := by decide +kernel
theorem d_law_657 : decode code 657 = .ok (.iaload, 1) := by decide +kernel
theorem d_law_658 : decode code 658 = .ok (.invokevirtual 96, 3) := by decide +kernel
theorem d_law_661 : decode code 661 = .ok (.if_icmp .eq 707, 3) := by decide +kernel
theorem d_law_666 : decode code 666 = .ok (.aload_n 1, 1) := by decide +kernel
theorem d_law_667 : decode code 667 = .ok (.aload_n 0, 1) := by decide +kernel
theorem d_law_668 : decode code 668 = .ok (.iload_n 3, 1) := by decide +kernel
theorem d_law_669 : decode code 669 = .ok (.iconst 1, 1) := by decide +kernel
theorem d_law_670 : decode code 670 = .ok (.iadd, 1) := by decide +kernel
theorem d_law_671 : decode code 671 = .ok (.iaload, 1) := by decide +kernel
theorem d_law_672 : decode code 672 = .ok (.invokevirtual 97, 3) := by decide +kernel
theorem d_law_675 : decode code 675 = .ok (.aload_n 2, 1) := by decide +kernel
theorem d_law_676 : decode code 676 = .ok (.aload_n 0, 1) := by decide +kernel
theorem d_law_677 : decode code 677 = .ok (.iload_n 3, 1) := by decide +kernel
theorem d_law_678 : decode code 678 = .ok (.iconst 1, 1) := by decide +kernel
theorem d_law_679 : decode code 679 = .ok (.iadd, 1) := by decide +kernel
theorem d_law_680 : decode code 680 = .ok (.iaload, 1) := by decide +kernel
theorem d_law_681 : decode code 681 = .ok (.invokevirtual 100, 3) := by decide +kernel
theorem d_law_684 : decode code 684 = .ok (.if_icmp .eq 684, 3) := by decide +kernel
theorem d_law_689 : decode code 689 = .ok (.aload_n 1, 1) := by decide +kernel
theorem d_law_690 : decode code 690 = .ok (.invokevirtual 101, 3) := by decide +kernel
theorem d_law_693 : decode code 693 = .ok (.aload_n 2, 1) := by decide +kernel
theorem d_law_694 : decode code 694 = .ok (.invokevirtual 104, 3) := by decide +kernel
theorem d_law_697 : decode code 697 = .ok (.if_icmp .eq 671, 3) := by decide +kernel
theorem d_law_702 : decode code 702 = .ok (.aload_n 1, 1) := by decide +kernel
theorem d_law_703 : decode code 703 = .ok (.invokevirtual 105, 3) := by decide +kernel
theorem d_law_706 : decode code 706 = .ok (.aload_n 2, 1) := by decide +kernel
theorem d_law_707 : decode code 707 = .ok (.invokevirtual 108, 3) := by decide +kernel
theorem d_law_710 : decode code 710 = .ok (.if_icmp .eq 658, 3) := by decide +kernel
theorem d_law_715 : decode code 715 = .ok (.aload_n 1, 1) := by decide +kernel
theorem d_law_716 : decode code 716 = .ok (.aload_n 0, 1) := by decide +kernel
theorem d_law_717 : decode code 717 = .ok (.iload_n 3, 1) := by decide +kernel
theorem d_law_718 : decode code 718 = .ok (.iconst 1, 1) := by decide +kernel
theorem d_law_719 : decode code 719 = .ok (.iadd, 1) := by decide +kernel
theorem d_law_720 : decode code 720 = .ok (.iaload, 1) := by decide +kernel
theorem d_law_721 : decode code 721 = .ok (.aload_n 0, 1) := by decide +kernel
theorem d_law_722 : decode code 722 = .ok (.iload_n 3, 1) := by decide +kernel
theorem d_law_723 : decode code 723 = .ok (.iconst 2, 1) := by decide +kernel
theorem d_law_724 : decode code 724 = .ok (.iadd, 1) := by decide +kernel
theorem d_law_725 : decode code 725 = .ok (.iaload, 1) := by decide +kernel
theorem d_law_726 : decode code 726 = .ok (.invokevirtual 109, 3) := by decide +kernel
theorem d_law_729 : decode code 729 = .ok (.aload_n 2, 1) := by decide +kernel
theorem d_law_730 : decode code 730 = .ok (.aload_n 0, 1) := by decide +kernel
theorem d_law_731 : decode code 731 = .ok (.iload_n 3, 1) := by decide +kernel
theorem d_law_732 : decode code 732 = .ok (.iconst 1, 1) := by decide +kernel
theorem d_law_733 : decode code 733 = .ok (.iadd, 1) := by decide +kernel
theorem d_law_734 : decode code 734 = .ok (.iaload, 1) := by decide +kernel
theorem d_law_735 : decode code 735 = .ok (.aload_n 0, 1) := by decide +kernel
theorem d_law_736 : decode code 736 = .ok (.iload_n 3, 1) := by decide +kernel
theorem d_law_737 : decode code 737 = .ok (.iconst 2, 1) := by decide +kernel
theorem d_law_738 : decode code 738 = .ok (.iadd, 1) := by decide +kernel
theorem d_law_739 : decode code 739 = .ok (.iaload, 1) := by decide +kernel
theorem d_law_740 : decode code 740 = .ok (.invokevirtual 112, 3) := by decide +kernel
theorem d_law_743 : decode code 743 = .ok (.if_icmp .eq 625, 3) := by decide +kernel
theorem d_law_748 : decode code 748 = .ok (.aload_n 1, 1) := by decide +kernel
theorem d_law_749 : decode code 749 = .ok (.aload_n 0, 1) := by decide +kernel
theorem d_law_750 : decode code 750 = .ok (.iload_n 3, 1) := by decide +kernel
theorem d_law_751 : decode code 751 = .ok (.iconst 1, 1) := by decide +kernel
theorem d_law_752 : decode code 752 = .ok (.iadd, 1) := by decide +kernel
theorem d_law_753 : decode code 753 = .ok (.iaload, 1) := by decide +kernel
theorem d_law_754 : decode code 754 = .ok (.aload_n 0, 1) := by decide +kernel
theorem d_law_755 : decode code 755 = .ok (.iload_n 3, 1) := by decide +kernel
theorem d_law_756 : decode code 756 = .ok (.iconst 2, 1) := by decide +kernel
theorem d_law_757 : decode code 757 = .ok (.iadd, 1) := by decide +kernel
theorem d_law_758 : decode code 758 = .ok (.iaload, 1) := by decide +kernel
theorem d_law_759 : decode code 759 = .ok (.invokevirtual 113, 3) := by decide +kernel
theorem d_law_762 : decode code 762 = .ok (.aload_n 2, 1) := by decide +kernel
theorem d_law_763 : decode code 763 = .ok (.aload_n 0, 1) := by decide +kernel
theorem d_law_764 : decode code 764 = .ok (.iload_n 3, 1) := by decide +kernel
theorem d_law_765 : decode code 765 = .ok (.iconst 1, 1) := by decide +kernel
theorem d_law_766 : decode code 766 = .ok (.iadd, 1) := by decide +kernel
theorem d_law_767 : decode code 767 = .ok (.iaload, 1) := by decide +kernel
theorem d_law_768 : decode code 768 = .ok (.aload_n 0, 1) := by decide +kernel
theorem d_law_769 : decode code 769 = .ok (.iload_n 3, 1) := by decide +kernel
theorem d_law_770 : decode code 770 = .ok (.iconst 2, 1) := by decide +kernel
theorem d_law_771 : decode code 771 = .ok (.iadd, 1) := by decide +kernel
theorem d_law_772 : decode code 772 = .ok (.iaload, 1) := by decide +kernel
theorem d_law_773 : decode code 773 = .ok (.invokevirtual 116, 3) := by decide +kernel
theorem d_law_776 : decode code 776 = .ok (.if_icmp .eq 592, 3) := by decide +kernel
theorem d_law_781 : decode code 781 = .ok (.aload_n 1, 1) := by decide +kernel
theorem d_law_782 : decode code 782 = .ok (.aload_n 0, 1) := by decide +kernel
theorem d_law_783 : decode code 783 = .ok (.iload_n 3, 1) := by decide +kernel
theorem d_law_784 : decode code 784 = .ok (.iconst 1, 1) := by decide +kernel
theorem d_law_785 : decode code 785 = .ok (.iadd, 1) := by decide +kernel
theorem d_law_786 : decode code 786 = .ok (.iaload, 1) := by decide +kernel
theorem d_law_787 : decode code 787 = .ok (.invokevirtual 117, 3) := by decide +kernel
theorem d_law_790 : decode code 790 = .ok (.aload_n 2, 1) := by decide +kernel
theorem d_law_791 : decode code 791 = .ok (.aload_n 0, 1) := by decide +kernel
theorem d_law_792 : decode code 792 = .ok (.iload_n 3, 1) := by decide +kernel
theorem d_law_793 : decode code 793 = .ok (.iconst 1, 1) := by decide +kernel
theorem d_law_794 : decode code 794 = .ok (.iadd, 1) := by decide +kernel
theorem d_law_795 : decode code 795 = .ok (.iaload, 1) := by decide +kernel
theorem d_law_796 : decode code 796 = .ok (.invokevirtual 120, 3) := by decide +kernel
theorem d_law_799 : decode code 799 = .ok (.if_icmp .eq 569, 3) := by decide +kernel
theorem d_law_804 : decode code 804 = .ok (.aload_n 1, 1) := by decide +kernel
theorem d_law_805 : decode code 805 = .ok (.aload_n 0, 1) := by decide +kernel
theorem d_law_806 : decode code 806 = .ok (.iload_n 3, 1) := by decide +kernel
theorem d_law_807 : decode code 807 = .ok (.iconst 1, 1) := by decide +kernel
theorem d_law_808 : decode code 808 = .ok (.iadd, 1) := by decide +kernel
theorem d_law_809 : decode code 809 = .ok (.iaload, 1) := by decide +kernel
theorem d_law_810 : decode code 810 = .ok (.invokevirtual 121, 3) := by decide +kernel
theorem d_law_813 : decode code 813 = .ok (.aload_n 2, 1) := by decide +kernel
theorem d_law_814 : decode code 814 = .ok (.aload_n 0, 1) := by decide +kernel
theorem d_law_815 : decode code 815 = .ok (.iload_n 3, 1) := by decide +kernel
theorem d_law_816 : decode code 816 = .ok (.iconst 1, 1) := by decide +kernel
theorem d_law_817 : decode code 817 = .ok (.iadd, 1) := by decide +kernel
theorem d_law_818 : decode code 818 = .ok (.iaload, 1) := by decide +kernel
theorem d_law_819 : decode code 819 = .ok (.invokevirtual 124, 3) := by decide +kernel
theorem d_law_822 : decode code 822 = .ok (.if_icmp .eq 546, 3) := by decide +kernel
theorem d_law_827 : decode code 827 = .ok (.aload_n 1, 1) := by decide +kernel
theorem d_law_828 : decode code 828 = .ok (.aload_n 0, 1) := by decide +kernel
theorem d_law_829 : decode code 829 = .ok (.iload_n 3, 1) := by decide +kernel
theorem d_law_830 : decode code 830 = .ok (.iconst 1, 1) := by decide +kernel
theorem d_law_831 : decode code 831 = .ok (.iadd, 1) := by decide +kernel
theorem d_law_832 : decode code 832 = .ok (.iaload, 1) := by decide +kernel
theorem d_law_833 : decode code 833 = .ok (.aload_n 0, 1) := by decide +kernel
theorem d_law_834 : decode code 834 = .ok (.iload_n 3, 1) := by decide +kernel
theorem d_law_835 : decode code 835 = .ok (.iconst 2, 1) := by decide +kernel
theorem d_law_836 : decode code 836 = .ok (.iadd, 1) := by decide +kernel
theorem d_law_837 : decode code 837 = .ok (.iaload, 1) := by decide +kernel
theorem d_law_838 : decode code 838 = .ok (.invokevirtual 125, 3) := by decide +kernel
theorem d_law_841 : decode code 841 = .ok (.aload_n 2, 1) := by decide +kernel
theorem d_law_842 : decode code 842 = .ok (.aload_n 0, 1) := by decide +kernel
theorem d_law_843 : decode code 843 = .ok (.iload_n 3, 1) := by decide +kernel
theorem d_law_844 : decode code 844 = .ok (.iconst 1, 1) := by decide +kernel
theorem d_law_845 : decode code 845 = .ok (.iadd, 1) := by decide +kernel
theorem d_law_846 : decode code 846 = .ok (.iaload, 1) := by decide +kernel
theorem d_law_847 : decode code 847 = .ok (.aload_n 0, 1) := by decide +kernel
theorem d_law_848 : decode code 848 = .ok (.iload_n 3, 1) := by decide +kernel
theorem d_law_849 : decode code 849 = .ok (.iconst 2, 1) := by decide +kernel
theorem d_law_850 : decode code 850 = .ok (.iadd, 1) := by decide +kernel
theorem d_law_851 : decode code 851 = .ok (.iaload, 1) := by decide +kernel
theorem d_law_852 : decode code 852 = .ok (.invokevirtual 128, 3) := by decide +kernel
theorem d_law_855 : decode code 855 = .ok (.if_icmp .eq 513, 3) := by decide +kernel
theorem d_law_860 : decode code 860 = .ok (.aload_n 1, 1) := by decide +kernel
theorem d_law_861 : decode code 861 = .ok (.aload_n 0, 1) := by decide +kernel
theorem d_law_862 : decode code 862 = .ok (.iload_n 3, 1) := by decide +kernel
theorem d_law_863 : decode code 863 = .ok (.iconst 1, 1) := by decide +kernel
theorem d_law_864 : decode code 864 = .ok (.iadd, 1) := by decide +kernel
theorem d_law_865 : decode code 865 = .ok (.iaload, 1) := by decide +kernel
theorem d_law_866 : decode code 866 = .ok (.aload_n 0, 1) := by decide +kernel
theorem d_law_867 : decode code 867 = .ok (.iload_n 3, 1) := by decide +kernel
theorem d_law_868 : decode code 868 = .ok (.iconst 2, 1) := by decide +kernel
theorem d_law_869 : decode code 869 = .ok (.iadd, 1) := by decide +kernel
theorem d_law_870 : decode code 870 = .ok (.iaload, 1) := by decide +kernel
theorem d_law_871 : decode code 871 = .ok (.invokevirtual 129, 3) := by decide +kernel
theorem d_law_874 : decode code 874 = .ok (.aload_n 2, 1) := by decide +kernel
theorem d_law_875 : decode code 875 = .ok (.aload_n 0, 1) := by decide +kernel
theorem d_law_876 : decode code 876 = .ok (.iload_n 3, 1) := by decide +kernel
theorem d_law_877 : decode code 877 = .ok (.iconst 1, 1) := by decide +kernel
theorem d_law_878 : decode code 878 = .ok (.iadd, 1) := by decide +kernel
theorem d_law_879 : decode code 879 = .ok (.iaload, 1) := by decide +kernel
theorem d_law_880 : decode code 880 = .ok (.aload_n 0, 1) := by decide +kernel
theorem d_law_881 : decode code 881 = .ok (.iload_n 3, 1) := by decide +kernel
theorem d_law_882 : decode code 882 = .ok (.iconst 2, 1) := by decide +kernel
theorem d_law_883 : decode code 883 = .ok (.iadd, 1) := by decide +kernel
theorem d_law_884 : decode code 884 = .ok (.iaload, 1) := by decide +kernel
theorem d_law_885 : decode code 885 = .ok (.invokevirtual 133, 3) := by decide +kernel
theorem d_law_888 : decode code 888 = .ok (.lcmp, 1) := by decide +kernel
theorem d_law_889 : decode code 889 = .ok (.ifCond .eq 479, 3) := by decide +kernel
theorem d_law_894 : decode code 894 = .ok (.aload_n 1, 1) := by decide +kernel
theorem d_law_895 : decode code 895 = .ok (.aload_n 0, 1) := by decide +kernel
theorem d_law_896 : decode code 896 = .ok (.iload_n 3, 1) := by decide +kernel
theorem d_law_897 : decode code 897 = .ok (.iconst 1, 1) := by decide +kernel
theorem d_law_898 : decode code 898 = .ok (.iadd, 1) := by decide +kernel
theorem d_law_899 : decode code 899 = .ok (.iaload, 1) := by decide +kernel
theorem d_law_900 : decode code 900 = .ok (.invokevirtual 134, 3) := by decide +kernel
theorem d_law_903 : decode code 903 = .ok (.aload_n 2, 1) := by decide +kernel
theorem d_law_904 : decode code 904 = .ok (.aload_n 0, 1) := by decide +kernel
theorem d_law_905 : decode code 905 = .ok (.iload_n 3, 1) := by decide +kernel
theorem d_law_906 : decode code 906 = .ok (.iconst 1, 1) := by decide +kernel
theorem d_law_907 : decode code 907 = .ok (.iadd, 1) := by decide +kernel
theorem d_law_908 : decode code 908 = .ok (.iaload, 1) := by decide +kernel
theorem d_law_909 : decode code 909 = .ok (.invokevirtual 137, 3) := by decide +kernel
theorem d_law_912 : decode code 912 = .ok (.if_icmp .eq 456, 3) := by decide +kernel
theorem d_law_917 : decode code 917 = .ok (.aload_n 1, 1) := by decide +kernel
theorem d_law_918 : decode code 918 = .ok (.aload_n 0, 1) := by decide +kernel
theorem d_law_919 : decode code 919 = .ok (.iload_n 3, 1) := by decide +kernel
theorem d_law_920 : decode code 920 = .ok (.iconst 1, 1) := by decide +kernel
theorem d_law_921 : decode code 921 = .ok (.iadd, 1) := by decide +kernel
theorem d_law_922 : decode code 922 = .ok (.iaload, 1) := by decide +kernel
theorem d_law_923 : decode code 923 = .ok (.invokevirtual 138, 3) := by decide +kernel
theorem d_law_926 : decode code 926 = .ok (.aload_n 2, 1) := by decide +kernel
theorem d_law_927 : decode code 927 = .ok (.aload_n 0, 1) := by decide +kernel
theorem d_law_928 : decode code 928 = .ok (.iload_n 3, 1) := by decide +kernel
theorem d_law_929 : decode code 929 = .ok (.iconst 1, 1) := by decide +kernel
theorem d_law_930 : decode code 930 = .ok (.iadd, 1) := by decide +kernel
theorem d_law_931 : decode code 931 = .ok (.iaload, 1) := by decide +kernel
theorem d_law_932 : decode code 932 = .ok (.invokevirtual 141, 3) := by decide +kernel
theorem d_law_935 : decode code 935 = .ok (.if_icmp .eq 433, 3) := by decide +kernel
theorem d_law_940 : decode code 940 = .ok (.aload_n 1, 1) := by decide +kernel
theorem d_law_941 : decode code 941 = .ok (.aload_n 0, 1) := by decide +kernel
theorem d_law_942 : decode code 942 = .ok (.iload_n 3, 1) := by decide +kernel
theorem d_law_943 : decode code 943 = .ok (.iconst 1, 1) := by decide +kernel
theorem d_law_944 : decode code 944 = .ok (.iadd, 1) := by decide +kernel
theorem d_law_945 : decode code 945 = .ok (.iaload, 1) := by decide +kernel
theorem d_law_946 : decode code 946 = .ok (.invokevirtual 142, 3) := by decide +kernel
theorem d_law_949 : decode code 949 = .ok (.aload_n 2, 1) := by decide +kernel
theorem d_law_950 : decode code 950 = .ok (.aload_n 0, 1) := by decide +kernel
theorem d_law_951 : decode code 951 = .ok (.iload_n 3, 1) := by decide +kernel
theorem d_law_952 : decode code 952 = .ok (.iconst 1, 1) := by decide +kernel
theorem d_law_953 : decode code 953 = .ok (.iadd, 1) := by decide +kernel
theorem d_law_954 : decode code 954 = .ok (.iaload, 1) := by decide +kernel
theorem d_law_955 : decode code 955 = .ok (.invokevirtual 145, 3) := by decide +kernel
theorem d_law_958 : decode code 958 = .ok (.if_icmp .eq 410, 3) := by decide +kernel
theorem d_law_963 : decode code 963 = .ok (.aload_n 1, 1) := by decide +kernel
theorem d_law_964 : decode code 964 = .ok (.aload_n 0, 1) := by decide +kernel
theorem d_law_965 : decode code 965 = .ok (.iload_n 3, 1) := by decide +kernel
theorem d_law_966 : decode code 966 = .ok (.iconst 1, 1) := by decide +kernel
theorem d_law_967 : decode code 967 = .ok (.iadd, 1) := by decide +kernel
theorem d_law_968 : decode code 968 = .ok (.iaload, 1) := by decide +kernel
theorem d_law_969 : decode code 969 = .ok (.aload_n 0, 1) := by decide +kernel
theorem d_law_970 : decode code 970 = .ok (.iload_n 3, 1) := by decide +kernel
theorem d_law_971 : decode code 971 = .ok (.iconst 2, 1) := by decide +kernel
theorem d_law_972 : decode code 972 = .ok (.iadd, 1) := by decide +kernel
theorem d_law_973 : decode code 973 = .ok (.iaload, 1) := by decide +kernel
theorem d_law_974 : decode code 974 = .ok (.invokevirtual 146, 3) := by decide +kernel
theorem d_law_977 : decode code 977 = .ok (.aload_n 2, 1) := by decide +kernel
theorem d_law_978 : decode code 978 = .ok (.aload_n 0, 1) := by decide +kernel
theorem d_law_979 : decode code 979 = .ok (.iload_n 3, 1) := by decide +kernel
theorem d_law_980 : decode code 980 = .ok (.iconst 1, 1) := by decide +kernel
theorem d_law_981 : decode code 981 = .ok (.iadd, 1) := by decide +kernel
theorem d_law_982 : decode code 982 = .ok (.iaload, 1) := by decide +kernel
theorem d_law_983 : decode code 983 = .ok (.aload_n 0, 1) := by decide +kernel
theorem d_law_984 : decode code 984 = .ok (.iload_n 3, 1) := by decide +kernel
theorem d_law_985 : decode code 985 = .ok (.iconst 2, 1) := by decide +kernel
theorem d_law_986 : decode code 986 = .ok (.iadd, 1) := by decide +kernel
theorem d_law_987 : decode code 987 = .ok (.iaload, 1) := by decide +kernel
theorem d_law_988 : decode code 988 = .ok (.invokevirtual 149, 3) := by decide +kernel
theorem d_law_991 : decode code 991 = .ok (.if_icmp .eq 377, 3) := by decide +kernel
theorem d_law_996 : decode code 996 = .ok (.aload_n 1, 1) := by decide +kernel
theorem d_law_997 : decode code 997 = .ok (.invokevirtual 150, 3) := by decide +kernel
theorem d_law_1000 : decode code 1000 = .ok (.aload_n 2, 1) := by decide +kernel
theorem d_law_1001 : decode code 1001 = .ok (.invokevirtual 153, 3) := by decide +kernel
theorem d_law_1004 : decode code 1004 = .ok (.if_icmp .eq 364, 3) := by decide +kernel
theorem d_law_1009 : decode code 1009 = .ok (.aload_n 1, 1) := by decide +kernel
theorem d_law_1010 : decode code 1010 = .ok (.invokevirtual 154, 3) := by decide +kernel
theorem d_law_1013 : decode code 1013 = .ok (.aload_n 2, 1) := by decide +kernel
theorem d_law_1014 : decode code 1014 = .ok (.invokevirtual 157, 3) := by decide +kernel
theorem d_law_1017 : decode code 1017 = .ok (.if_icmp .eq 351, 3) := by decide +kernel
theorem d_law_1022 : decode code 1022 = .ok (.aload_n 1, 1) := by decide +kernel
theorem d_law_1023 : decode code 1023 = .ok (.aload_n 0, 1) := by decide +kernel
theorem d_law_1024 : decode code 1024 = .ok (.iload_n 3, 1) := by decide +kernel
theorem d_law_1025 : decode code 1025 = .ok (.iconst 1, 1) := by decide +kernel
theorem d_law_1026 : decode code 1026 = .ok (.iadd, 1) := by decide +kernel
theorem d_law_1027 : decode code 1027 = .ok (.iaload, 1) := by decide +kernel
theorem d_law_1028 : decode code 1028 = .ok (.aload_n 0, 1) := by decide +kernel
theorem d_law_1029 : decode code 1029 = .ok (.iload_n 3, 1) := by decide +kernel
theorem d_law_1030 : decode code 1030 = .ok (.iconst 2, 1) := by decide +kernel
theorem d_law_1031 : decode code 1031 = .ok (.iadd, 1) := by decide +kernel
theorem d_law_1032 : decode code 1032 = .ok (.iaload, 1) := by decide +kernel
theorem d_law_1033 : decode code 1033 = .ok (.invokevirtual 158, 3) := by decide +kernel
theorem d_law_1036 : decode code 1036 = .ok (.aload_n 2, 1) := by decide +kernel
theorem d_law_1037 : decode code 1037 = .ok (.aload_n 0, 1) := by decide +kernel
theorem d_law_1038 : decode code 1038 = .ok (.iload_n 3, 1) := by decide +kernel
theorem d_law_1039 : decode code 1039 = .ok (.iconst 1, 1) := by decide +kernel
theorem d_law_1040 : decode code 1040 = .ok (.iadd, 1) := by decide +kernel
theorem d_law_1041 : decode code 1041 = .ok (.iaload, 1) := by decide +kernel
theorem d_law_1042 : decode code 1042 = .ok (.aload_n 0, 1) := by decide +kernel
theorem d_law_1043 : decode code 1043 = .ok (.iload_n 3, 1) := by decide +kernel
theorem d_law_1044 : decode code 1044 = .ok (.iconst 2, 1) := by decide +kernel
theorem d_law_1045 : decode code 1045 = .ok (.iadd, 1) := by decide +kernel
theorem d_law_1046 : decode code 1046 = .ok (.iaload, 1) := by decide +kernel
theorem d_law_1047 : decode code 1047 = .ok (.invokevirtual 161, 3) := by decide +kernel
theorem d_law_1050 : decode code 1050 = .ok (.if_icmp .eq 318, 3) := by decide +kernel
theorem d_law_1055 : decode code 1055 = .ok (.aload_n 1, 1) := by decide +kernel
theorem d_law_1056 : decode code 1056 = .ok (.aload_n 0, 1) := by decide +kernel
theorem d_law_1057 : decode code 1057 = .ok (.iload_n 3, 1) := by decide +kernel
theorem d_law_1058 : decode code 1058 = .ok (.iconst 1, 1) := by decide +kernel
theorem d_law_1059 : decode code 1059 = .ok (.iadd, 1) := by decide +kernel
theorem d_law_1060 : decode code 1060 = .ok (.iaload, 1) := by decide +kernel
theorem d_law_1061 : decode code 1061 = .ok (.aload_n 0, 1) := by decide +kernel
theorem d_law_1062 : decode code 1062 = .ok (.iload_n 3, 1) := by decide +kernel
theorem d_law_1063 : decode code 1063 = .ok (.iconst 2, 1) := by decide +kernel
theorem d_law_1064 : decode code 1064 = .ok (.iadd, 1) := by decide +kernel
theorem d_law_1065 : decode code 1065 = .ok (.iaload, 1) := by decide +kernel
theorem d_law_1066 : decode code 1066 = .ok (.invokevirtual 162, 3) := by decide +kernel
theorem d_law_1069 : decode code 1069 = .ok (.aload_n 2, 1) := by decide +kernel
theorem d_law_1070 : decode code 1070 = .ok (.aload_n 0, 1) := by decide +kernel
theorem d_law_1071 : decode code 1071 = .ok (.iload_n 3, 1) := by decide +kernel
theorem d_law_1072 : decode code 1072 = .ok (.iconst 1, 1) := by decide +kernel
theorem d_law_1073 : decode code 1073 = .ok (.iadd, 1) := by decide +kernel
theorem d_law_1074 : decode code 1074 = .ok (.iaload, 1) := by decide +kernel
theorem d_law_1075 : decode code 1075 = .ok (.aload_n 0, 1) := by decide +kernel
theorem d_law_1076 : decode code 1076 = .ok (.iload_n 3, 1) := by decide +kernel
theorem d_law_1077 : decode code 1077 = .ok (.iconst 2, 1) := by decide +kernel
theorem d_law_1078 : decode code 1078 = .ok (.iadd, 1) := by decide +kernel
theorem d_law_1079 : decode code 1079 = .ok (.iaload, 1) := by decide +kernel
theorem d_law_1080 : decode code 1080 = .ok (.invokevirtual 165, 3) := by decide +kernel
theorem d_law_1083 : decode code 1083 = .ok (.if_icmp .eq 285, 3) := by decide +kernel
theorem d_law_1088 : decode code 1088 = .ok (.aload_n 1, 1) := by decide +kernel
theorem d_law_1089 : decode code 1089 = .ok (.aload_n 0, 1) := by decide +kernel
theorem d_law_1090 : decode code 1090 = .ok (.iload_n 3, 1) := by decide +kernel
theorem d_law_1091 : decode code 1091 = .ok (.iconst 1, 1) := by decide +kernel
theorem d_law_1092 : decode code 1092 = .ok (.iadd, 1) := by decide +kernel
theorem d_law_1093 : decode code 1093 = .ok (.iaload, 1) := by decide +kernel
theorem d_law_1094 : decode code 1094 = .ok (.aload_n 0, 1) := by decide +kernel
theorem d_law_1095 : decode code 1095 = .ok (.iload_n 3, 1) := by decide +kernel
theorem d_law_1096 : decode code 1096 = .ok (.iconst 2, 1) := by decide +kernel
theorem d_law_1097 : decode code 1097 = .ok (.iadd, 1) := by decide +kernel
theorem d_law_1098 : decode code 1098 = .ok (.iaload, 1) := by decide +kernel
theorem d_law_1099 : decode code 1099 = .ok (.aload_n 0, 1) := by decide +kernel
theorem d_law_1100 : decode code 1100 = .ok (.iload_n 3, 1) := by decide +kernel
theorem d_law_1101 : decode code 1101 = .ok (.iconst 3, 1) := by decide +kernel
theorem d_law_1102 : decode code 1102 = .ok (.iadd, 1) := by decide +kernel
theorem d_law_1103 : decode code 1103 = .ok (.iaload, 1) := by decide +kernel
theorem d_law_1104 : decode code 1104 = .ok (.invokevirtual 166, 3) := by decide +kernel
theorem d_law_1107 : decode code 1107 = .ok (.aload_n 2, 1) := by decide +kernel
theorem d_law_1108 : decode code 1108 = .ok (.aload_n 0, 1) := by decide +kernel
theorem d_law_1109 : decode code 1109 = .ok (.iload_n 3, 1) := by decide +kernel
theorem d_law_1110 : decode code 1110 = .ok (.iconst 1, 1) := by decide +kernel
theorem d_law_1111 : decode code 1111 = .ok (.iadd, 1) := by decide +kernel
theorem d_law_1112 : decode code 1112 = .ok (.iaload, 1) := by decide +kernel
theorem d_law_1113 : decode code 1113 = .ok (.aload_n 0, 1) := by decide +kernel
theorem d_law_1114 : decode code 1114 = .ok (.iload_n 3, 1) := by decide +kernel
theorem d_law_1115 : decode code 1115 = .ok (.iconst 2, 1) := by decide +kernel
theorem d_law_1116 : decode code 1116 = .ok (.iadd, 1) := by decide +kernel
theorem d_law_1117 : decode code 1117 = .ok (.iaload, 1) := by decide +kernel
theorem d_law_1118 : decode code 1118 = .ok (.aload_n 0, 1) := by decide +kernel
theorem d_law_1119 : decode code 1119 = .ok (.iload_n 3, 1) := by decide +kernel
theorem d_law_1120 : decode code 1120 = .ok (.iconst 3, 1) := by decide +kernel
theorem d_law_1121 : decode code 1121 = .ok (.iadd, 1) := by decide +kernel
theorem d_law_1122 : decode code 1122 = .ok (.iaload, 1) := by decide +kernel
theorem d_law_1123 : decode code 1123 = .ok (.invokevirtual 169, 3) := by decide +kernel
theorem d_law_1126 : decode code 1126 = .ok (.if_icmp .eq 242, 3) := by decide +kernel
theorem d_law_1131 : decode code 1131 = .ok (.aload_n 1, 1) := by decide +kernel
theorem d_law_1132 : decode code 1132 = .ok (.aload_n 0, 1) := by decide +kernel
theorem d_law_1133 : decode code 1133 = .ok (.iload_n 3, 1) := by decide +kernel
theorem d_law_1134 : decode code 1134 = .ok (.iconst 1, 1) := by decide +kernel
theorem d_law_1135 : decode code 1135 = .ok (.iadd, 1) := by decide +kernel
theorem d_law_1136 : decode code 1136 = .ok (.iaload, 1) := by decide +kernel
theorem d_law_1137 : decode code 1137 = .ok (.aload_n 0, 1) := by decide +kernel
theorem d_law_1138 : decode code 1138 = .ok (.iload_n 3, 1) := by decide +kernel
theorem d_law_1139 : decode code 1139 = .ok (.iconst 2, 1) := by decide +kernel
theorem d_law_1140 : decode code 1140 = .ok (.iadd, 1) := by decide +kernel
theorem d_law_1141 : decode code 1141 = .ok (.iaload, 1) := by decide +kernel
theorem d_law_1142 : decode code 1142 = .ok (.aload_n 0, 1) := by decide +kernel
theorem d_law_1143 : decode code 1143 = .ok (.iload_n 3, 1) := by decide +kernel
theorem d_law_1144 : decode code 1144 = .ok (.iconst 3, 1) := by decide +kernel
theorem d_law_1145 : decode code 1145 = .ok (.iadd, 1) := by decide +kernel
theorem d_law_1146 : decode code 1146 = .ok (.iaload, 1) := by decide +kernel
theorem d_law_1147 : decode code 1147 = .ok (.invokevirtual 170, 3) := by decide +kernel
theorem d_law_1150 : decode code 1150 = .ok (.aload_n 2, 1) := by decide +kernel
theorem d_law_1151 : decode code 1151 = .ok (.aload_n 0, 1) := by decide +kernel
theorem d_law_1152 : decode code 1152 = .ok (.iload_n 3, 1) := by decide +kernel
theorem d_law_1153 : decode code 1153 = .ok (.iconst 1, 1) := by decide +kernel
theorem d_law_1154 : decode code 1154 = .ok (.iadd, 1) := by decide +kernel
theorem d_law_1155 : decode code 1155 = .ok (.iaload, 1) := by decide +kernel
theorem d_law_1156 : decode code 1156 = .ok (.aload_n 0, 1) := by decide +kernel
theorem d_law_1157 : decode code 1157 = .ok (.iload_n 3, 1) := by decide +kernel
theorem d_law_1158 : decode code 1158 = .ok (.iconst 2, 1) := by decide +kernel
theorem d_law_1159 : decode code 1159 = .ok (.iadd, 1) := by decide +kernel
theorem d_law_1160 : decode code 1160 = .ok (.iaload, 1) := by decide +kernel
theorem d_law_1161 : decode code 1161 = .ok (.aload_n 0, 1) := by decide +kernel
theorem d_law_1162 : decode code 1162 = .ok (.iload_n 3, 1) := by decide +kernel
theorem d_law_1163 : decode code 1163 = .ok (.iconst 3, 1) := by decide +kernel
theorem d_law_1164 : decode code 1164 = .ok (.iadd, 1) := by decide +kernel
theorem d_law_1165 : decode code 1165 = .ok (.iaload, 1) := by decide +kernel
theorem d_law_1166 : decode code 1166 = .ok (.invokevirtual 173, 3) := by decide +kernel
theorem d_law_1169 : decode code 1169 = .ok (.if_icmp .eq 199, 3) := by decide +kernel
theorem d_law_1174 : decode code 1174 = .ok (.aload_n 1, 1) := by decide +kernel
theorem d_law_1175 : decode code 1175 = .ok (.aload_n 0, 1) := by decide +kernel
theorem d_law_1176 : decode code 1176 = .ok (.iload_n 3, 1) := by decide +kernel
theorem d_law_1177 : decode code 1177 = .ok (.iconst 1, 1) := by decide +kernel
theorem d_law_1178 : decode code 1178 = .ok (.iadd, 1) := by decide +kernel
theorem d_law_1179 : decode code 1179 = .ok (.iaload, 1) := by decide +kernel
theorem d_law_1180 : decode code 1180 = .ok (.aload_n 0, 1) := by decide +kernel
theorem d_law_1181 : decode code 1181 = .ok (.iload_n 3, 1) := by decide +kernel
theorem d_law_1182 : decode code 1182 = .ok (.iconst 2, 1) := by decide +kernel
theorem d_law_1183 : decode code 1183 = .ok (.iadd, 1) := by decide +kernel
theorem d_law_1184 : decode code 1184 = .ok (.iaload, 1) := by decide +kernel
theorem d_law_1185 : decode code 1185 = .ok (.aload_n 0, 1) := by decide +kernel
theorem d_law_1186 : decode code 1186 = .ok (.iload_n 3, 1) := by decide +kernel
theorem d_law_1187 : decode code 1187 = .ok (.iconst 3, 1) := by decide +kernel
theorem d_law_1188 : decode code 1188 = .ok (.iadd, 1) := by decide +kernel
theorem d_law_1189 : decode code 1189 = .ok (.iaload, 1) := by decide +kernel
theorem d_law_1190 : decode code 1190 = .ok (.aload_n 0, 1) := by decide +kernel
theorem d_law_1191 : decode code 1191 = .ok (.iload_n 3, 1) := by decide +kernel
theorem d_law_1192 : decode code 1192 = .ok (.iconst 4, 1) := by decide +kernel
theorem d_law_1193 : decode code 1193 = .ok (.iadd, 1) := by decide +kernel
theorem d_law_1194 : decode code 1194 = .ok (.iaload, 1) := by decide +kernel
theorem d_law_1195 : decode code 1195 = .ok (.aload_n 0, 1) := by decide +kernel
theorem d_law_1196 : decode code 1196 = .ok (.iload_n 3, 1) := by decide +kernel
theorem d_law_1197 : decode code 1197 = .ok (.iconst 5, 1) := by decide +kernel
theorem d_law_1198 : decode code 1198 = .ok (.iadd, 1) := by decide +kernel
theorem d_law_1199 : decode code 1199 = .ok (.iaload, 1) := by decide +kernel
theorem d_law_1200 : decode code 1200 = .ok (.invokevirtual 174, 3) := by decide +kernel
theorem d_law_1203 : decode code 1203 = .ok (.aload_n 2, 1) := by decide +kernel
theorem d_law_1204 : decode code 1204 = .ok (.aload_n 0, 1) := by decide +kernel
theorem d_law_1205 : decode code 1205 = .ok (.iload_n 3, 1) := by decide +kernel
theorem d_law_1206 : decode code 1206 = .ok (.iconst 1, 1) := by decide +kernel
theorem d_law_1207 : decode code 1207 = .ok (.iadd, 1) := by decide +kernel
theorem d_law_1208 : decode code 1208 = .ok (.iaload, 1) := by decide +kernel
theorem d_law_1209 : decode code 1209 = .ok (.aload_n 0, 1) := by decide +kernel
theorem d_law_1210 : decode code 1210 = .ok (.iload_n 3, 1) := by decide +kernel
theorem d_law_1211 : decode code 1211 = .ok (.iconst 2, 1) := by decide +kernel
theorem d_law_1212 : decode code 1212 = .ok (.iadd, 1) := by decide +kernel
theorem d_law_1213 : decode code 1213 = .ok (.iaload, 1) := by decide +kernel
theorem d_law_1214 : decode code 1214 = .ok (.aload_n 0, 1) := by decide +kernel
theorem d_law_1215 : decode code 1215 = .ok (.iload_n 3, 1) := by decide +kernel
theorem d_law_1216 : decode code 1216 = .ok (.iconst 3, 1) := by decide +kernel
theorem d_law_1217 : decode code 1217 = .ok (.iadd, 1) := by decide +kernel
theorem d_law_1218 : decode code 1218 = .ok (.iaload, 1) := by decide +kernel
theorem d_law_1219 : decode code 1219 = .ok (.aload_n 0, 1) := by decide +kernel
theorem d_law_1220 : decode code 1220 = .ok (.iload_n 3, 1) := by decide +kernel
theorem d_law_1221 : decode code 1221 = .ok (.iconst 4, 1) := by decide +kernel
theorem d_law_1222 : decode code 1222 = .ok (.iadd, 1) := by decide +kernel
theorem d_law_1223 : decode code 1223 = .ok (.iaload, 1) := by decide +kernel
theorem d_law_1224 : decode code 1224 = .ok (.aload_n 0, 1) := by decide +kernel
theorem d_law_1225 : decode code 1225 = .ok (.iload_n 3, 1) := by decide +kernel
theorem d_law_1226 : decode code 1226 = .ok (.iconst 5, 1) := by decide +kernel
theorem d_law_1227 : decode code 1227 = .ok (.iadd, 1) := by decide +kernel
theorem d_law_1228 : decode code 1228 = .ok (.iaload, 1) := by decide +kernel
theorem d_law_1229 : decode code 1229 = .ok (.invokevirtual 178, 3) := by decide +kernel
theorem d_law_1232 : decode code 1232 = .ok (.if_icmp .eq 136, 3) := by decide +kernel
theorem d_law_1237 : decode code 1237 = .ok (.aload_n 1, 1) := by decide +kernel
theorem d_law_1238 : decode code 1238 = .ok (.aload_n 0, 1) := by decide +kernel
theorem d_law_1239 : decode code 1239 = .ok (.iload_n 3, 1) := by decide +kernel
theorem d_law_1240 : decode code 1240 = .ok (.iconst 1, 1) := by decide +kernel
theorem d_law_1241 : decode code 1241 = .ok (.iadd, 1) := by decide +kernel
theorem d_law_1242 : decode code 1242 = .ok (.iaload, 1) := by decide +kernel
theorem d_law_1243 : decode code 1243 = .ok (.invokevirtual 179, 3) := by decide +kernel
theorem d_law_1246 : decode code 1246 = .ok (.aload_n 2, 1) := by decide +kernel
theorem d_law_1247 : decode code 1247 = .ok (.aload_n 0, 1) := by decide +kernel
theorem d_law_1248 : decode code 1248 = .ok (.iload_n 3, 1) := by decide +kernel
theorem d_law_1249 : decode code 1249 = .ok (.iconst 1, 1) := by decide +kernel
theorem d_law_1250 : decode code 1250 = .ok (.iadd, 1) := by decide +kernel
theorem d_law_1251 : decode code 1251 = .ok (.iaload, 1) := by decide +kernel
theorem d_law_1252 : decode code 1252 = .ok (.invokevirtual 182, 3) := by decide +kernel
theorem d_law_1255 : decode code 1255 = .ok (.if_icmp .eq 113, 3) := by decide +kernel
theorem d_law_1260 : decode code 1260 = .ok (.aload_n 1, 1) := by decide +kernel
theorem d_law_1261 : decode code 1261 = .ok (.aload_n 0, 1) := by decide +kernel
theorem d_law_1262 : decode code 1262 = .ok (.iload_n 3, 1) := by decide +kernel
theorem d_law_1263 : decode code 1263 = .ok (.iconst 1, 1) := by decide +kernel
theorem d_law_1264 : decode code 1264 = .ok (.iadd, 1) := by decide +kernel
theorem d_law_1265 : decode code 1265 = .ok (.iaload, 1) := by decide +kernel
theorem d_law_1266 : decode code 1266 = .ok (.invokevirtual 183, 3) := by decide +kernel
theorem d_law_1269 : decode code 1269 = .ok (.aload_n 2, 1) := by decide +kernel
theorem d_law_1270 : decode code 1270 = .ok (.aload_n 0, 1) := by decide +kernel
theorem d_law_1271 : decode code 1271 = .ok (.iload_n 3, 1) := by decide +kernel
theorem d_law_1272 : decode code 1272 = .ok (.iconst 1, 1) := by decide +kernel
theorem d_law_1273 : decode code 1273 = .ok (.iadd, 1) := by decide +kernel
theorem d_law_1274 : decode code 1274 = .ok (.iaload, 1) := by decide +kernel
theorem d_law_1275 : decode code 1275 = .ok (.invokevirtual 186, 3) := by decide +kernel
theorem d_law_1278 : decode code 1278 = .ok (.if_icmp .eq 90, 3) := by decide +kernel
theorem d_law_1283 : decode code 1283 = .ok (.aload_n 1, 1) := by decide +kernel
theorem d_law_1284 : decode code 1284 = .ok (.invokevirtual 187, 3) := by decide +kernel
theorem d_law_1287 : decode code 1287 = .ok (.aload_n 2, 1) := by decide +kernel
theorem d_law_1288 : decode code 1288 = .ok (.invokevirtual 190, 3) := by decide +kernel
theorem d_law_1291 : decode code 1291 = .ok (.if_icmp .eq 77, 3) := by decide +kernel
theorem d_law_1296 : decode code 1296 = .ok (.aload_n 1, 1) := by decide +kernel
theorem d_law_1297 : decode code 1297 = .ok (.invokevirtual 191, 3) := by decide +kernel
theorem d_law_1300 : decode code 1300 = .ok (.aload_n 2, 1) := by decide +kernel
theorem d_law_1301 : decode code 1301 = .ok (.invokevirtual 194, 3) := by decide +kernel
theorem d_law_1304 : decode code 1304 = .ok (.if_icmp .eq 64, 3) := by decide +kernel
theorem d_law_1309 : decode code 1309 = .ok (.aload_n 1, 1) := by decide +kernel
theorem d_law_1310 : decode code 1310 = .ok (.invokevirtual 195, 3) := by decide +kernel
theorem d_law_1313 : decode code 1313 = .ok (.aload_n 2, 1) := by decide +kernel
theorem d_law_1314 : decode code 1314 = .ok (.invokevirtual 198, 3) := by decide +kernel
theorem d_law_1317 : decode code 1317 = .ok (.if_icmp .eq 51, 3) := by decide +kernel
theorem d_law_1322 : decode code 1322 = .ok (.aload_n 1, 1) := by decide +kernel
theorem d_law_1323 : decode code 1323 = .ok (.aload_n 0, 1) := by decide +kernel
theorem d_law_1324 : decode code 1324 = .ok (.iload_n 3, 1) := by decide +kernel
theorem d_law_1325 : decode code 1325 = .ok (.iconst 1, 1) := by decide +kernel
theorem d_law_1326 : decode code 1326 = .ok (.iadd, 1) := by decide +kernel
theorem d_law_1327 : decode code 1327 = .ok (.iaload, 1) := by decide +kernel
theorem d_law_1328 : decode code 1328 = .ok (.invokevirtual 199, 3) := by decide +kernel
theorem d_law_1331 : decode code 1331 = .ok (.aload_n 2, 1) := by decide +kernel
theorem d_law_1332 : decode code 1332 = .ok (.aload_n 0, 1) := by decide +kernel
theorem d_law_1333 : decode code 1333 = .ok (.iload_n 3, 1) := by decide +kernel
theorem d_law_1334 : decode code 1334 = .ok (.iconst 1, 1) := by decide +kernel
theorem d_law_1335 : decode code 1335 = .ok (.iadd, 1) := by decide +kernel
theorem d_law_1336 : decode code 1336 = .ok (.iaload, 1) := by decide +kernel
theorem d_law_1337 : decode code 1337 = .ok (.invokevirtual 202, 3) := by decide +kernel
theorem d_law_1340 : decode code 1340 = .ok (.if_icmp .eq 28, 3) := by decide +kernel
theorem d_law_1345 : decode code 1345 = .ok (.aload_n 1, 1) := by decide +kernel
theorem d_law_1346 : decode code 1346 = .ok (.aload_n 0, 1) := by decide +kernel
theorem d_law_1347 : decode code 1347 = .ok (.iload_n 3, 1) := by decide +kernel
theorem d_law_1348 : decode code 1348 = .ok (.iconst 1, 1) := by decide +kernel
theorem d_law_1349 : decode code 1349 = .ok (.iadd, 1) := by decide +kernel
theorem d_law_1350 : decode code 1350 = .ok (.iaload, 1) := by decide +kernel
theorem d_law_1351 : decode code 1351 = .ok (.invokevirtual 203, 3) := by decide +kernel
theorem d_law_1354 : decode code 1354 = .ok (.aload_n 2, 1) := by decide +kernel
theorem d_law_1355 : decode code 1355 = .ok (.aload_n 0, 1) := by decide +kernel
theorem d_law_1356 : decode code 1356 = .ok (.iload_n 3, 1) := by decide +kernel
theorem d_law_1357 : decode code 1357 = .ok (.iconst 1, 1) := by decide +kernel
theorem d_law_1358 : decode code 1358 = .ok (.iadd, 1) := by decide +kernel
theorem d_law_1359 : decode code 1359 = .ok (.iaload, 1) := by decide +kernel
theorem d_law_1360 : decode code 1360 = .ok (.invokevirtual 206, 3) := by decide +kernel
theorem d_law_1363 : decode code 1363 = .ok (.if_icmp .eq 5, 3) := by decide +kernel
theorem d_law_1368 : decode code 1368 = .ok (.iinc 3 6, 3) := by decide +kernel
theorem d_law_1371 : decode code 1371 = .ok (.goto (-1353), 3) := by decide +kernel
theorem d_law_1374 : decode code 1374 = .ok (.iconst 1, 1) := by decide +kernel
theorem d_law_1375 : decode code 1375 = .ok (.ireturn, 1) := by decide +kernel
theorem lk_L_13 : Cond.methodLink R_law 13 ⟨"GlassWords", "line", "(I)I"⟩ ∈ gm_ws := gm_mem 354 (by decide +kernel) rfl
theorem lk_L_17 : Cond.methodLink R_law 17 ⟨"GlassWordsModel", "line", "(I)I"⟩ ∈ gm_ws := gm_mem 1077 (by decide +kernel) rfl
theorem lk_L_18 : Cond.methodLink R_law 18 ⟨"GlassWords", "of", "(II)I"⟩ ∈ gm_ws := gm_mem 374 (by decide +kernel) rfl
theorem lk_L_22 : Cond.methodLink R_law 22 ⟨"GlassWordsModel", "of", "(II)I"⟩ ∈ gm_ws := gm_mem 1100 (by decide +kernel) rfl
theorem lk_L_23 : Cond.methodLink R_law 23 ⟨"GlassWords", "change", "(III)I"⟩ ∈ gm_ws := gm_mem 410 (by decide +kernel) rfl
theorem lk_L_27 : Cond.methodLink R_law 27 ⟨"GlassWordsModel", "change", "(III)I"⟩ ∈ gm_ws := gm_mem 1125 (by decide +kernel) rfl
theorem lk_L_28 : Cond.methodLink R_law 28 ⟨"GlassWords", "rule", "(II)I"⟩ ∈ gm_ws := gm_mem 418 (by decide +kernel) rfl
theorem lk_L_31 : Cond.methodLink R_law 31 ⟨"GlassWordsModel", "rule", "(II)I"⟩ ∈ gm_ws := gm_mem 1133 (by decide +kernel) rfl
theorem lk_L_32 : Cond.methodLink R_law 32 ⟨"GlassWords", "ruled", "(I)I"⟩ ∈ gm_ws := gm_mem 426 (by decide +kernel) rfl
theorem lk_L_35 : Cond.methodLink R_law 35 ⟨"GlassWordsModel", "ruled", "(I)I"⟩ ∈ gm_ws := gm_mem 1147 (by decide +kernel) rfl
theorem lk_L_36 : Cond.methodLink R_law 36 ⟨"GlassWords", "read", "(I)I"⟩ ∈ gm_ws := gm_mem 430 (by decide +kernel) rfl
theorem lk_L_39 : Cond.methodLink R_law 39 ⟨"GlassWordsModel", "read", "(I)I"⟩ ∈ gm_ws := gm_mem 1151 (by decide +kernel) rfl
theorem lk_L_40 : Cond.methodLink R_law 40 ⟨"GlassWords", "go", "(I)I"⟩ ∈ gm_ws := gm_mem 474 (by decide +kernel) rfl
theorem lk_L_43 : Cond.methodLink R_law 43 ⟨"GlassWordsModel", "go", "(I)I"⟩ ∈ gm_ws := gm_mem 1184 (by decide +kernel) rfl
theorem lk_L_44 : Cond.methodLink R_law 44 ⟨"GlassWords", "turn", "()I"⟩ ∈ gm_ws := gm_mem 478 (by decide +kernel) rfl
theorem lk_L_48 : Cond.methodLink R_law 48 ⟨"GlassWordsModel", "turn", "()I"⟩ ∈ gm_ws := gm_mem 1188 (by decide +kernel) rfl
theorem lk_L_49 : Cond.methodLink R_law 49 ⟨"GlassWords", "now", "(I)I"⟩ ∈ gm_ws := gm_mem 483 (by decide +kernel) rfl
theorem lk_L_52 : Cond.methodLink R_law 52 ⟨"GlassWordsModel", "now", "(I)I"⟩ ∈ gm_ws := gm_mem 1192 (by decide +kernel) rfl
theorem lk_L_53 : Cond.methodLink R_law 53 ⟨"GlassWords", "rest", "(I)I"⟩ ∈ gm_ws := gm_mem 487 (by decide +kernel) rfl
theorem lk_L_56 : Cond.methodLink R_law 56 ⟨"GlassWordsModel", "rest", "(I)I"⟩ ∈ gm_ws := gm_mem 1196 (by decide +kernel) rfl
theorem lk_L_57 : Cond.methodLink R_law 57 ⟨"GlassWords", "pace", "(II)I"⟩ ∈ gm_ws := gm_mem 499 (by decide +kernel) rfl
theorem lk_L_60 : Cond.methodLink R_law 60 ⟨"GlassWordsModel", "pace", "(II)I"⟩ ∈ gm_ws := gm_mem 1216 (by decide +kernel) rfl
theorem lk_L_61 : Cond.methodLink R_law 61 ⟨"GlassWords", "sign", "()I"⟩ ∈ gm_ws := gm_mem 504 (by decide +kernel) rfl
theorem lk_L_64 : Cond.methodLink R_law 64 ⟨"GlassWordsModel", "sign", "()I"⟩ ∈ gm_ws := gm_mem 1220 (by decide +kernel) rfl
theorem lk_L_65 : Cond.methodLink R_law 65 ⟨"GlassWords", "round", "(I)I"⟩ ∈ gm_ws := gm_mem 517 (by decide +kernel) rfl
theorem lk_L_68 : Cond.methodLink R_law 68 ⟨"GlassWordsModel", "round", "(I)I"⟩ ∈ gm_ws := gm_mem 1228 (by decide +kernel) rfl
theorem lk_L_69 : Cond.methodLink R_law 69 ⟨"GlassWords", "leads", "()I"⟩ ∈ gm_ws := gm_mem 533 (by decide +kernel) rfl
theorem lk_L_72 : Cond.methodLink R_law 72 ⟨"GlassWordsModel", "leads", "()I"⟩ ∈ gm_ws := gm_mem 1232 (by decide +kernel) rfl
theorem lk_L_73 : Cond.methodLink R_law 73 ⟨"GlassWords", "found", "()I"⟩ ∈ gm_ws := gm_mem 540 (by decide +kernel) rfl
theorem lk_L_76 : Cond.methodLink R_law 76 ⟨"GlassWordsModel", "found", "()I"⟩ ∈ gm_ws := gm_mem 1237 (by decide +kernel) rfl
theorem lk_L_77 : Cond.methodLink R_law 77 ⟨"GlassWords", "off", "()I"⟩ ∈ gm_ws := gm_mem 560 (by decide +kernel) rfl
theorem lk_L_80 : Cond.methodLink R_law 80 ⟨"GlassWordsModel", "off", "()I"⟩ ∈ gm_ws := gm_mem 1246 (by decide +kernel) rfl
theorem lk_L_81 : Cond.methodLink R_law 81 ⟨"GlassWords", "grid", "()I"⟩ ∈ gm_ws := gm_mem 565 (by decide +kernel) rfl
theorem lk_L_84 : Cond.methodLink R_law 84 ⟨"GlassWordsModel", "grid", "()I"⟩ ∈ gm_ws := gm_mem 1250 (by decide +kernel) rfl
theorem lk_L_85 : Cond.methodLink R_law 85 ⟨"GlassWords", "worst", "()I"⟩ ∈ gm_ws := gm_mem 580 (by decide +kernel) rfl
theorem lk_L_88 : Cond.methodLink R_law 88 ⟨"GlassWordsModel", "worst", "()I"⟩ ∈ gm_ws := gm_mem 1258 (by decide +kernel) rfl
theorem lk_L_89 : Cond.methodLink R_law 89 ⟨"GlassWords", "trips", "()I"⟩ ∈ gm_ws := gm_mem 585 (by decide +kernel) rfl
theorem lk_L_92 : Cond.methodLink R_law 92 ⟨"GlassWordsModel", "trips", "()I"⟩ ∈ gm_ws := gm_mem 1262 (by decide +kernel) rfl
theorem lk_L_93 : Cond.methodLink R_law 93 ⟨"GlassWords", "kindFor", "(I)I"⟩ ∈ gm_ws := gm_mem 594 (by decide +kernel) rfl
theorem lk_L_96 : Cond.methodLink R_law 96 ⟨"GlassWordsModel", "kindFor", "(I)I"⟩ ∈ gm_ws := gm_mem 1267 (by decide +kernel) rfl
theorem lk_L_97 : Cond.methodLink R_law 97 ⟨"GlassWords", "ease", "(I)I"⟩ ∈ gm_ws := gm_mem 602 (by decide +kernel) rfl
theorem lk_L_100 : Cond.methodLink R_law 100 ⟨"GlassWordsModel", "ease", "(I)I"⟩ ∈ gm_ws := gm_mem 1271 (by decide +kernel) rfl
theorem lk_L_101 : Cond.methodLink R_law 101 ⟨"GlassWords", "fit", "()I"⟩ ∈ gm_ws := gm_mem 622 (by decide +kernel) rfl
theorem lk_L_104 : Cond.methodLink R_law 104 ⟨"GlassWordsModel", "fit", "()I"⟩ ∈ gm_ws := gm_mem 1285 (by decide +kernel) rfl
theorem lk_L_105 : Cond.methodLink R_law 105 ⟨"GlassWords", "kept", "()I"⟩ ∈ gm_ws := gm_mem 640 (by decide +kernel) rfl
theorem lk_L_108 : Cond.methodLink R_law 108 ⟨"GlassWordsModel", "kept", "()I"⟩ ∈ gm_ws := gm_mem 1297 (by decide +kernel) rfl
theorem lk_L_109 : Cond.methodLink R_law 109 ⟨"GlassWords", "jump", "(II)I"⟩ ∈ gm_ws := gm_mem 645 (by decide +kernel) rfl
theorem lk_L_112 : Cond.methodLink R_law 112 ⟨"GlassWordsModel", "jump", "(II)I"⟩ ∈ gm_ws := gm_mem 1301 (by decide +kernel) rfl
theorem lk_L_113 : Cond.methodLink R_law 113 ⟨"GlassWords", "jumped", "(II)I"⟩ ∈ gm_ws := gm_mem 667 (by decide +kernel) rfl
theorem lk_L_116 : Cond.methodLink R_law 116 ⟨"GlassWordsModel", "jumped", "(II)I"⟩ ∈ gm_ws := gm_mem 1317 (by decide +kernel) rfl
theorem lk_L_117 : Cond.methodLink R_law 117 ⟨"GlassWords", "fits", "(I)I"⟩ ∈ gm_ws := gm_mem 679 (by decide +kernel) rfl
theorem lk_L_120 : Cond.methodLink R_law 120 ⟨"GlassWordsModel", "fits", "(I)I"⟩ ∈ gm_ws := gm_mem 1321 (by decide +kernel) rfl
theorem lk_L_121 : Cond.methodLink R_law 121 ⟨"GlassWords", "led", "(I)I"⟩ ∈ gm_ws := gm_mem 700 (by decide +kernel) rfl
theorem lk_L_124 : Cond.methodLink R_law 124 ⟨"GlassWordsModel", "led", "(I)I"⟩ ∈ gm_ws := gm_mem 1333 (by decide +kernel) rfl
theorem lk_L_125 : Cond.methodLink R_law 125 ⟨"GlassWords", "part", "(II)I"⟩ ∈ gm_ws := gm_mem 704 (by decide +kernel) rfl
theorem lk_L_128 : Cond.methodLink R_law 128 ⟨"GlassWordsModel", "part", "(II)I"⟩ ∈ gm_ws := gm_mem 1337 (by decide +kernel) rfl
theorem lk_L_129 : Cond.methodLink R_law 129 ⟨"GlassWords", "stays", "(II)J"⟩ ∈ gm_ws := gm_mem 711 (by decide +kernel) rfl
theorem lk_L_133 : Cond.methodLink R_law 133 ⟨"GlassWordsModel", "stays", "(II)J"⟩ ∈ gm_ws := gm_mem 1344 (by decide +kernel) rfl
theorem lk_L_134 : Cond.methodLink R_law 134 ⟨"GlassWords", "evening", "(I)I"⟩ ∈ gm_ws := gm_mem 715 (by decide +kernel) rfl
theorem lk_L_137 : Cond.methodLink R_law 137 ⟨"GlassWordsModel", "evening", "(I)I"⟩ ∈ gm_ws := gm_mem 1348 (by decide +kernel) rfl
theorem lk_L_138 : Cond.methodLink R_law 138 ⟨"GlassWords", "ahead", "(I)I"⟩ ∈ gm_ws := gm_mem 731 (by decide +kernel) rfl
theorem lk_L_141 : Cond.methodLink R_law 141 ⟨"GlassWordsModel", "ahead", "(I)I"⟩ ∈ gm_ws := gm_mem 1362 (by decide +kernel) rfl
theorem lk_L_142 : Cond.methodLink R_law 142 ⟨"GlassWords", "seed", "(I)I"⟩ ∈ gm_ws := gm_mem 739 (by decide +kernel) rfl
theorem lk_L_145 : Cond.methodLink R_law 145 ⟨"GlassWordsModel", "seed", "(I)I"⟩ ∈ gm_ws := gm_mem 1366 (by decide +kernel) rfl
theorem lk_L_146 : Cond.methodLink R_law 146 ⟨"GlassWords", "feed", "(II)I"⟩ ∈ gm_ws := gm_mem 743 (by decide +kernel) rfl
theorem lk_L_149 : Cond.methodLink R_law 149 ⟨"GlassWordsModel", "feed", "(II)I"⟩ ∈ gm_ws := gm_mem 1370 (by decide +kernel) rfl
theorem lk_L_150 : Cond.methodLink R_law 150 ⟨"GlassWords", "wipe", "()I"⟩ ∈ gm_ws := gm_mem 751 (by decide +kernel) rfl
theorem lk_L_153 : Cond.methodLink R_law 153 ⟨"GlassWordsModel", "wipe", "()I"⟩ ∈ gm_ws := gm_mem 1374 (by decide +kernel) rfl
theorem lk_L_154 : Cond.methodLink R_law 154 ⟨"GlassWords", "text", "()I"⟩ ∈ gm_ws := gm_mem 755 (by decide +kernel) rfl
theorem lk_L_157 : Cond.methodLink R_law 157 ⟨"GlassWordsModel", "text", "()I"⟩ ∈ gm_ws := gm_mem 1378 (by decide +kernel) rfl
theorem lk_L_158 : Cond.methodLink R_law 158 ⟨"GlassWords", "hold", "(II)I"⟩ ∈ gm_ws := gm_mem 890 (by decide +kernel) rfl
theorem lk_L_161 : Cond.methodLink R_law 161 ⟨"GlassWordsModel", "hold", "(II)I"⟩ ∈ gm_ws := gm_mem 1451 (by decide +kernel) rfl
theorem lk_L_162 : Cond.methodLink R_law 162 ⟨"GlassWords", "as", "(II)I"⟩ ∈ gm_ws := gm_mem 894 (by decide +kernel) rfl
theorem lk_L_165 : Cond.methodLink R_law 165 ⟨"GlassWordsModel", "as", "(II)I"⟩ ∈ gm_ws := gm_mem 1458 (by decide +kernel) rfl
theorem lk_L_166 : Cond.methodLink R_law 166 ⟨"GlassWords", "sheet", "(III)I"⟩ ∈ gm_ws := gm_mem 903 (by decide +kernel) rfl
theorem lk_L_169 : Cond.methodLink R_law 169 ⟨"GlassWordsModel", "sheet", "(III)I"⟩ ∈ gm_ws := gm_mem 1469 (by decide +kernel) rfl
theorem lk_L_170 : Cond.methodLink R_law 170 ⟨"GlassWords", "write", "(III)I"⟩ ∈ gm_ws := gm_mem 915 (by decide +kernel) rfl
theorem lk_L_173 : Cond.methodLink R_law 173 ⟨"GlassWordsModel", "write", "(III)I"⟩ ∈ gm_ws := gm_mem 1474 (by decide +kernel) rfl
theorem lk_L_174 : Cond.methodLink R_law 174 ⟨"GlassWords", "copy", "(IIIII)I"⟩ ∈ gm_ws := gm_mem 923 (by decide +kernel) rfl
theorem lk_L_178 : Cond.methodLink R_law 178 ⟨"GlassWordsModel", "copy", "(IIIII)I"⟩ ∈ gm_ws := gm_mem 1481 (by decide +kernel) rfl
theorem lk_L_179 : Cond.methodLink R_law 179 ⟨"GlassWords", "load", "(I)I"⟩ ∈ gm_ws := gm_mem 932 (by decide +kernel) rfl
theorem lk_L_182 : Cond.methodLink R_law 182 ⟨"GlassWordsModel", "load", "(I)I"⟩ ∈ gm_ws := gm_mem 1485 (by decide +kernel) rfl
theorem lk_L_183 : Cond.methodLink R_law 183 ⟨"GlassWords", "judge", "(I)I"⟩ ∈ gm_ws := gm_mem 941 (by decide +kernel) rfl
theorem lk_L_186 : Cond.methodLink R_law 186 ⟨"GlassWordsModel", "judge", "(I)I"⟩ ∈ gm_ws := gm_mem 1489 (by decide +kernel) rfl
theorem lk_L_187 : Cond.methodLink R_law 187 ⟨"GlassWords", "image", "()I"⟩ ∈ gm_ws := gm_mem 949 (by decide +kernel) rfl
theorem lk_L_190 : Cond.methodLink R_law 190 ⟨"GlassWordsModel", "image", "()I"⟩ ∈ gm_ws := gm_mem 1493 (by decide +kernel) rfl
theorem lk_L_191 : Cond.methodLink R_law 191 ⟨"GlassWords", "undo", "()I"⟩ ∈ gm_ws := gm_mem 953 (by decide +kernel) rfl
theorem lk_L_194 : Cond.methodLink R_law 194 ⟨"GlassWordsModel", "undo", "()I"⟩ ∈ gm_ws := gm_mem 1497 (by decide +kernel) rfl
theorem lk_L_195 : Cond.methodLink R_law 195 ⟨"GlassWords", "tear", "()I"⟩ ∈ gm_ws := gm_mem 957 (by decide +kernel) rfl
theorem lk_L_198 : Cond.methodLink R_law 198 ⟨"GlassWordsModel", "tear", "()I"⟩ ∈ gm_ws := gm_mem 1501 (by decide +kernel) rfl
theorem lk_L_199 : Cond.methodLink R_law 199 ⟨"GlassWords", "count", "(I)I"⟩ ∈ gm_ws := gm_mem 961 (by decide +kernel) rfl
theorem lk_L_202 : Cond.methodLink R_law 202 ⟨"GlassWordsModel", "count", "(I)I"⟩ ∈ gm_ws := gm_mem 1505 (by decide +kernel) rfl
theorem lk_L_203 : Cond.methodLink R_law 203 ⟨"GlassWords", "status", "(I)I"⟩ ∈ gm_ws := gm_mem 973 (by decide +kernel) rfl
theorem lk_L_206 : Cond.methodLink R_law 206 ⟨"GlassWordsModel", "status", "(I)I"⟩ ∈ gm_ws := gm_mem 1509 (by decide +kernel) rfl
theorem lw_cmp0 (x : Int64) : lg_cmp x x = 0 := by simp [lg_cmp]
