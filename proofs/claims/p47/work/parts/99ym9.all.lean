/-! every contract holds -/
theorem ck_one {k : Nat} (h : ((List.range 1).map (fun j => j + k)).all (ckOne Pm) = true) : ckOne Pm k = true := List.all_eq_true.mp h k (List.mem_map.mpr ⟨0, List.mem_range.mpr (by decide), by omega⟩)
theorem ck_ten {a k : Nat} (h : ((List.range 10).map (fun j => j + a)).all (ckOne Pm) = true) (h1 : a ≤ k) (h2 : k < a + 10) : ckOne Pm k = true := List.all_eq_true.mp h k (List.mem_map.mpr ⟨k - a, List.mem_range.mpr (by omega), by omega⟩)
theorem ckb_260 : ∀ k, 260 ≤ k → k < 280 → ckOne Pm k = true := by
  intro k h1 h2
  have h3 : k = 260 ∨ k = 261 ∨ k = 262 ∨ k = 263 ∨ k = 264 ∨ k = 265 ∨ k = 266 ∨ k = 267 ∨ k = 268 ∨ k = 269 ∨ k = 270 ∨ k = 271 ∨ k = 272 ∨ k = 273 ∨ k = 274 ∨ k = 275 ∨ k = 276 ∨ k = 277 ∨ k = 278 ∨ k = 279 := by omega
  rcases h3 with rfl | rfl | rfl | rfl | rfl | rfl | rfl | rfl | rfl | rfl | rfl | rfl | rfl | rfl | rfl | rfl | rfl | rfl | rfl | rfl
  · exact ck_one ck_260
  · exact ck_one ck_261
  · exact ck_one ck_262
  · exact ck_one ck_263
  · exact ck_one ck_264
  · exact ck_one ck_265
  · exact ck_one ck_266
  · exact ck_one ck_267
  · exact ck_one ck_268
  · exact ck_one ck_269
  · exact ck_one ck_270
  · exact ck_one ck_271
  · exact ck_one ck_272
  · exact ck_one ck_273
  · exact ck_one ck_274
  · exact ck_one ck_275
  · exact ck_one ck_276
  · exact ck_one ck_277
  · exact ck_one ck_278
  · exact ck_one ck_279
theorem ckb_280 : ∀ k, 280 ≤ k → k < 300 → ckOne Pm k = true := by
  intro k h1 h2
  have h3 : k = 280 ∨ k = 281 ∨ k = 282 ∨ k = 283 ∨ k = 284 ∨ k = 285 ∨ k = 286 ∨ k = 287 ∨ k = 288 ∨ k = 289 ∨ k = 290 ∨ k = 291 ∨ k = 292 ∨ k = 293 ∨ k = 294 ∨ k = 295 ∨ k = 296 ∨ k = 297 ∨ k = 298 ∨ k = 299 := by omega
  rcases h3 with rfl | rfl | rfl | rfl | rfl | rfl | rfl | rfl | rfl | rfl | rfl | rfl | rfl | rfl | rfl | rfl | rfl | rfl | rfl | rfl
  · exact ck_one ck_280
  · exact ck_one ck_281
  · exact ck_one ck_282
  · exact ck_one ck_283
  · exact ck_one ck_284
  · exact ck_one ck_285
  · exact ck_one ck_286
  · exact ck_one ck_287
  · exact ck_one ck_288
  · exact ck_one ck_289
  · exact ck_one ck_290
  · exact ck_one ck_291
  · exact ck_one ck_292
  · exact ck_one ck_293
  · exact ck_one ck_294
  · exact ck_one ck_295
  · exact ck_one ck_296
  · exact ck_one ck_297
  · exact ck_one ck_298
  · exact ck_one ck_299
theorem ckb_300 : ∀ k, 300 ≤ k → k < 320 → ckOne Pm k = true := by
  intro k h1 h2
  have h3 : k = 300 ∨ k = 301 ∨ k = 302 ∨ k = 303 ∨ k = 304 ∨ k = 305 ∨ k = 306 ∨ k = 307 ∨ k = 308 ∨ k = 309 ∨ k = 310 ∨ k = 311 ∨ k = 312 ∨ k = 313 ∨ k = 314 ∨ k = 315 ∨ k = 316 ∨ k = 317 ∨ k = 318 ∨ k = 319 := by omega
  rcases h3 with rfl | rfl | rfl | rfl | rfl | rfl | rfl | rfl | rfl | rfl | rfl | rfl | rfl | rfl | rfl | rfl | rfl | rfl | rfl | rfl
  · exact ck_one ck_300
  · exact ck_one ck_301
  · exact ck_one ck_302
  · exact ck_one ck_303
  · exact ck_one ck_304
  · exact ck_one ck_305
  · exact ck_one ck_306
  · exact ck_one ck_307
  · exact ck_one ck_308
  · exact ck_one ck_309
  · exact ck_one ck_310
  · exact ck_one ck_311
  · exact ck_one ck_312
  · exact ck_one ck_313
  · exact ck_one ck_314
  · exact ck_one ck_315
  · exact ck_one ck_316
  · exact ck_one ck_317
  · exact ck_one ck_318
  · exact ck_one ck_319
theorem ckb_320 : ∀ k, 320 ≤ k → k < 340 → ckOne Pm k = true := by
  intro k h1 h2
  have h3 : k = 320 ∨ k = 321 ∨ k = 322 ∨ k = 323 ∨ k = 324 ∨ k = 325 ∨ k = 326 ∨ k = 327 ∨ k = 328 ∨ k = 329 ∨ k = 330 ∨ k = 331 ∨ k = 332 ∨ k = 333 ∨ k = 334 ∨ k = 335 ∨ k = 336 ∨ k = 337 ∨ k = 338 ∨ k = 339 := by omega
  rcases h3 with rfl | rfl | rfl | rfl | rfl | rfl | rfl | rfl | rfl | rfl | rfl | rfl | rfl | rfl | rfl | rfl | rfl | rfl | rfl | rfl
  · exact ck_one ck_320
  · exact ck_one ck_321
  · exact ck_one ck_322
  · exact ck_one ck_323
  · exact ck_one ck_324
  · exact ck_one ck_325
  · exact ck_one ck_326
  · exact ck_one ck_327
  · exact ck_one ck_328
  · exact ck_one ck_329
  · exact ck_one ck_330
  · exact ck_one ck_331
  · exact ck_one ck_332
  · exact ck_one ck_333
  · exact ck_one ck_334
  · exact ck_one ck_335
  · exact ck_one ck_336
  · exact ck_one ck_337
  · exact ck_one ck_338
  · exact ck_one ck_339
theorem ckb_340 : ∀ k, 340 ≤ k → k < 360 → ckOne Pm k = true := by
  intro k h1 h2
  have h3 : k = 340 ∨ k = 341 ∨ k = 342 ∨ k = 343 ∨ k = 344 ∨ k = 345 ∨ k = 346 ∨ k = 347 ∨ k = 348 ∨ k = 349 ∨ k = 350 ∨ k = 351 ∨ k = 352 ∨ k = 353 ∨ k = 354 ∨ k = 355 ∨ k = 356 ∨ k = 357 ∨ k = 358 ∨ k = 359 := by omega
  rcases h3 with rfl | rfl | rfl | rfl | rfl | rfl | rfl | rfl | rfl | rfl | rfl | rfl | rfl | rfl | rfl | rfl | rfl | rfl | rfl | rfl
  · exact ck_one ck_340
  · exact ck_one ck_341
  · exact ck_one ck_342
  · exact ck_one ck_343
  · exact ck_one ck_344
  · exact ck_one ck_345
  · exact ck_one ck_346
  · exact ck_one ck_347
  · exact ck_one ck_348
  · exact ck_one ck_349
  · exact ck_one ck_350
  · exact ck_one ck_351
  · exact ck_one ck_352
  · exact ck_one ck_353
  · exact ck_one ck_354
  · exact ck_one ck_355
  · exact ck_one ck_356
  · exact ck_one ck_357
  · exact ck_one ck_358
  · exact ck_one ck_359
theorem ckb_360 : ∀ k, 360 ≤ k → k < 380 → ckOne Pm k = true := by
  intro k h1 h2
  have h3 : k = 360 ∨ k = 361 ∨ k = 362 ∨ k = 363 ∨ k = 364 ∨ k = 365 ∨ k = 366 ∨ k = 367 ∨ k = 368 ∨ k = 369 ∨ k = 370 ∨ k = 371 ∨ k = 372 ∨ k = 373 ∨ k = 374 ∨ k = 375 ∨ k = 376 ∨ k = 377 ∨ k = 378 ∨ k = 379 := by omega
  rcases h3 with rfl | rfl | rfl | rfl | rfl | rfl | rfl | rfl | rfl | rfl | rfl | rfl | rfl | rfl | rfl | rfl | rfl | rfl | rfl | rfl
  · exact ck_one ck_360
  · exact ck_one ck_361
  · exact ck_one ck_362
  · exact ck_one ck_363
  · exact ck_one ck_364
  · exact ck_one ck_365
  · exact ck_one ck_366
  · exact ck_one ck_367
  · exact ck_one ck_368
  · exact ck_one ck_369
  · exact ck_one ck_370
  · exact ck_one ck_371
  · exact ck_one ck_372
  · exact ck_one ck_373
  · exact ck_one ck_374
  · exact ck_one ck_375
  · exact ck_one ck_376
  · exact ck_one ck_377
  · exact ck_one ck_378
  · exact ck_one ck_379
theorem ckb_380 : ∀ k, 380 ≤ k → k < 400 → ckOne Pm k = true := by
  intro k h1 h2
  have h3 : k = 380 ∨ k = 381 ∨ k = 382 ∨ k = 383 ∨ k = 384 ∨ k = 385 ∨ k = 386 ∨ k = 387 ∨ k = 388 ∨ k = 389 ∨ k = 390 ∨ k = 391 ∨ k = 392 ∨ k = 393 ∨ k = 394 ∨ k = 395 ∨ k = 396 ∨ k = 397 ∨ k = 398 ∨ k = 399 := by omega
  rcases h3 with rfl | rfl | rfl | rfl | rfl | rfl | rfl | rfl | rfl | rfl | rfl | rfl | rfl | rfl | rfl | rfl | rfl | rfl | rfl | rfl
  · exact ck_one ck_380
  · exact ck_one ck_381
  · exact ck_one ck_382
  · exact ck_one ck_383
  · exact ck_one ck_384
  · exact ck_one ck_385
  · exact ck_one ck_386
  · exact ck_one ck_387
  · exact ck_one ck_388
  · exact ck_one ck_389
  · exact ck_one ck_390
  · exact ck_one ck_391
  · exact ck_one ck_392
  · exact ck_one ck_393
  · exact ck_one ck_394
  · exact ck_one ck_395
  · exact ck_one ck_396
  · exact ck_one ck_397
  · exact ck_one ck_398
  · exact ck_one ck_399
theorem ckb_400 : ∀ k, 400 ≤ k → k < 420 → ckOne Pm k = true := by
  intro k h1 h2
  have h3 : k = 400 ∨ k = 401 ∨ k = 402 ∨ k = 403 ∨ k = 404 ∨ k = 405 ∨ k = 406 ∨ k = 407 ∨ k = 408 ∨ k = 409 ∨ k = 410 ∨ k = 411 ∨ k = 412 ∨ k = 413 ∨ k = 414 ∨ k = 415 ∨ k = 416 ∨ k = 417 ∨ k = 418 ∨ k = 419 := by omega
  rcases h3 with rfl | rfl | rfl | rfl | rfl | rfl | rfl | rfl | rfl | rfl | rfl | rfl | rfl | rfl | rfl | rfl | rfl | rfl | rfl | rfl
  · exact ck_one ck_400
  · exact ck_one ck_401
  · exact ck_one ck_402
  · exact ck_one ck_403
  · exact ck_one ck_404
  · exact ck_one ck_405
  · exact ck_one ck_406
  · exact ck_one ck_407
  · exact ck_one ck_408
  · exact ck_one ck_409
  · exact ck_one ck_410
  · exact ck_one ck_411
  · exact ck_one ck_412
  · exact ck_one ck_413
  · exact ck_one ck_414
  · exact ck_one ck_415
  · exact ck_one ck_416
  · exact ck_one ck_417
  · exact ck_one ck_418
  · exact ck_one ck_419
theorem ckb_420 : ∀ k, 420 ≤ k → k < 440 → ckOne Pm k = true := by
  intro k h1 h2
  have h3 : k = 420 ∨ k = 421 ∨ k = 422 ∨ k = 423 ∨ k = 424 ∨ k = 425 ∨ k = 426 ∨ k = 427 ∨ k = 428 ∨ k = 429 ∨ k = 430 ∨ k = 431 ∨ k = 432 ∨ k = 433 ∨ k = 434 ∨ k = 435 ∨ k = 436 ∨ k = 437 ∨ k = 438 ∨ k = 439 := by omega
  rcases h3 with rfl | rfl | rfl | rfl | rfl | rfl | rfl | rfl | rfl | rfl | rfl | rfl | rfl | rfl | rfl | rfl | rfl | rfl | rfl | rfl
  · exact ck_one ck_420
  · exact ck_one ck_421
  · exact ck_one ck_422
  · exact ck_one ck_423
  · exact ck_one ck_424
  · exact ck_one ck_425
  · exact ck_one ck_426
  · exact ck_one ck_427
  · exact ck_one ck_428
  · exact ck_one ck_429
  · exact ck_one ck_430
  · exact ck_one ck_431
  · exact ck_one ck_432
  · exact ck_one ck_433
  · exact ck_one ck_434
  · exact ck_one ck_435
  · exact ck_one ck_436
  · exact ck_one ck_437
  · exact ck_one ck_438
  · exact ck_one ck_439
theorem ckb_440 : ∀ k, 440 ≤ k → k < 460 → ckOne Pm k = true := by
  intro k h1 h2
  have h3 : k = 440 ∨ k = 441 ∨ k = 442 ∨ k = 443 ∨ k = 444 ∨ k = 445 ∨ k = 446 ∨ k = 447 ∨ k = 448 ∨ k = 449 ∨ k = 450 ∨ k = 451 ∨ k = 452 ∨ k = 453 ∨ k = 454 ∨ k = 455 ∨ k = 456 ∨ k = 457 ∨ k = 458 ∨ k = 459 := by omega
  rcases h3 with rfl | rfl | rfl | rfl | rfl | rfl | rfl | rfl | rfl | rfl | rfl | rfl | rfl | rfl | rfl | rfl | rfl | rfl | rfl | rfl
  · exact ck_one ck_440
  · exact ck_one ck_441
  · exact ck_one ck_442
  · exact ck_one ck_443
  · exact ck_one ck_444
  · exact ck_one ck_445
  · exact ck_one ck_446
  · exact ck_one ck_447
  · exact ck_one ck_448
  · exact ck_one ck_449
  · exact ck_one ck_450
  · exact ck_one ck_451
  · exact ck_one ck_452
  · exact ck_one ck_453
  · exact ck_one ck_454
  · exact ck_one ck_455
  · exact ck_one ck_456
  · exact ck_one ck_457
  · exact ck_one ck_458
  · exact ck_one ck_459
theorem ckb_460 : ∀ k, 460 ≤ k → k < 480 → ckOne Pm k = true := by
  intro k h1 h2
  have h3 : k = 460 ∨ k = 461 ∨ k = 462 ∨ k = 463 ∨ k = 464 ∨ k = 465 ∨ k = 466 ∨ k = 467 ∨ k = 468 ∨ k = 469 ∨ k = 470 ∨ k = 471 ∨ k = 472 ∨ k = 473 ∨ k = 474 ∨ k = 475 ∨ k = 476 ∨ k = 477 ∨ k = 478 ∨ k = 479 := by omega
  rcases h3 with rfl | rfl | rfl | rfl | rfl | rfl | rfl | rfl | rfl | rfl | rfl | rfl | rfl | rfl | rfl | rfl | rfl | rfl | rfl | rfl
  · exact ck_one ck_460
  · exact ck_one ck_461
  · exact ck_one ck_462
  · exact ck_one ck_463
  · exact ck_one ck_464
  · exact ck_one ck_465
  · exact ck_one ck_466
  · exact ck_one ck_467
  · exact ck_one ck_468
  · exact ck_one ck_469
  · exact ck_one ck_470
  · exact ck_one ck_471
  · exact ck_one ck_472
  · exact ck_one ck_473
  · exact ck_one ck_474
  · exact ck_one ck_475
  · exact ck_one ck_476
  · exact ck_one ck_477
  · exact ck_one ck_478
  · exact ck_one ck_479
theorem ckb_480 : ∀ k, 480 ≤ k → k < 500 → ckOne Pm k = true := by
  intro k h1 h2
  have h3 : k = 480 ∨ k = 481 ∨ k = 482 ∨ k = 483 ∨ k = 484 ∨ k = 485 ∨ k = 486 ∨ k = 487 ∨ k = 488 ∨ k = 489 ∨ k = 490 ∨ k = 491 ∨ k = 492 ∨ k = 493 ∨ k = 494 ∨ k = 495 ∨ k = 496 ∨ k = 497 ∨ k = 498 ∨ k = 499 := by omega
  rcases h3 with rfl | rfl | rfl | rfl | rfl | rfl | rfl | rfl | rfl | rfl | rfl | rfl | rfl | rfl | rfl | rfl | rfl | rfl | rfl | rfl
  · exact ck_one ck_480
  · exact ck_one ck_481
  · exact ck_one ck_482
  · exact ck_one ck_483
  · exact ck_one ck_484
  · exact ck_one ck_485
  · exact ck_one ck_486
  · exact ck_one ck_487
  · exact ck_one ck_488
  · exact ck_one ck_489
  · exact ck_one ck_490
  · exact ck_one ck_491
  · exact ck_one ck_492
  · exact ck_one ck_493
  · exact ck_one ck_494
  · exact ck_one ck_495
  · exact ck_one ck_496
  · exact ck_one ck_497
  · exact ck_one ck_498
  · exact ck_one ck_499
theorem ckb_500 : ∀ k, 500 ≤ k → k < 520 → ckOne Pm k = true := by
  intro k h1 h2
  have h3 : k = 500 ∨ k = 501 ∨ k = 502 ∨ k = 503 ∨ k = 504 ∨ k = 505 ∨ k = 506 ∨ k = 507 ∨ k = 508 ∨ k = 509 ∨ k = 510 ∨ k = 511 ∨ k = 512 ∨ k = 513 ∨ k = 514 ∨ k = 515 ∨ k = 516 ∨ k = 517 ∨ k = 518 ∨ k = 519 := by omega
  rcases h3 with rfl | rfl | rfl | rfl | rfl | rfl | rfl | rfl | rfl | rfl | rfl | rfl | rfl | rfl | rfl | rfl | rfl | rfl | rfl | rfl
  · exact ck_one ck_500
  · exact ck_one ck_501
  · exact ck_one ck_502
  · exact ck_one ck_503
  · exact ck_one ck_504
  · exact ck_one ck_505
  · exact ck_one ck_506
  · exact ck_one ck_507
  · exact ck_one ck_508
  · exact ck_one ck_509
  · exact ck_one ck_510
  · exact ck_one ck_511
  · exact ck_one ck_512
  · exact ck_one ck_513
  · exact ck_one ck_514
  · exact ck_one ck_515
  · exact ck_one ck_516
  · exact ck_one ck_517
  · exact ck_one ck_518
  · exact ck_one ck_519
theorem ckb_520 : ∀ k, 520 ≤ k → k < 540 → ckOne Pm k = true := by
  intro k h1 h2
  have h3 : k = 520 ∨ k = 521 ∨ k = 522 ∨ k = 523 ∨ k = 524 ∨ k = 525 ∨ k = 526 ∨ k = 527 ∨ k = 528 ∨ k = 529 ∨ k = 530 ∨ k = 531 ∨ k = 532 ∨ k = 533 ∨ k = 534 ∨ k = 535 ∨ k = 536 ∨ k = 537 ∨ k = 538 ∨ k = 539 := by omega
  rcases h3 with rfl | rfl | rfl | rfl | rfl | rfl | rfl | rfl | rfl | rfl | rfl | rfl | rfl | rfl | rfl | rfl | rfl | rfl | rfl | rfl
  · exact ck_one ck_520
  · exact ck_one ck_521
  · exact ck_one ck_522
  · exact ck_one ck_523
  · exact ck_one ck_524
  · exact ck_one ck_525
  · exact ck_one ck_526
  · exact ck_one ck_527
  · exact ck_one ck_528
  · exact ck_one ck_529
  · exact ck_one ck_530
  · exact ck_one ck_531
  · exact ck_one ck_532
  · exact ck_one ck_533
  · exact ck_one ck_534
  · exact ck_one ck_535
  · exact ck_one ck_536
  · exact ck_one ck_537
  · exact ck_one ck_538
  · exact ck_one ck_539
theorem ckb_540 : ∀ k, 540 ≤ k → k < 560 → ckOne Pm k = true := by
  intro k h1 h2
  have h3 : k = 540 ∨ k = 541 ∨ k = 542 ∨ k = 543 ∨ k = 544 ∨ k = 545 ∨ k = 546 ∨ k = 547 ∨ k = 548 ∨ k = 549 ∨ k = 550 ∨ k = 551 ∨ k = 552 ∨ k = 553 ∨ k = 554 ∨ k = 555 ∨ k = 556 ∨ k = 557 ∨ k = 558 ∨ k = 559 := by omega
  rcases h3 with rfl | rfl | rfl | rfl | rfl | rfl | rfl | rfl | rfl | rfl | rfl | rfl | rfl | rfl | rfl | rfl | rfl | rfl | rfl | rfl
  · exact ck_one ck_540
  · exact ck_one ck_541
  · exact ck_one ck_542
  · exact ck_one ck_543
  · exact ck_one ck_544
  · exact ck_one ck_545
  · exact ck_one ck_546
  · exact ck_one ck_547
  · exact ck_one ck_548
  · exact ck_one ck_549
  · exact ck_one ck_550
  · exact ck_one ck_551
  · exact ck_one ck_552
  · exact ck_one ck_553
  · exact ck_one ck_554
  · exact ck_one ck_555
  · exact ck_one ck_556
  · exact ck_one ck_557
  · exact ck_one ck_558
  · exact ck_one ck_559
theorem ckb_560 : ∀ k, 560 ≤ k → k < 580 → ckOne Pm k = true := by
  intro k h1 h2
  have h3 : k = 560 ∨ k = 561 ∨ k = 562 ∨ k = 563 ∨ k = 564 ∨ k = 565 ∨ k = 566 ∨ k = 567 ∨ k = 568 ∨ k = 569 ∨ k = 570 ∨ k = 571 ∨ k = 572 ∨ k = 573 ∨ k = 574 ∨ k = 575 ∨ k = 576 ∨ k = 577 ∨ k = 578 ∨ k = 579 := by omega
  rcases h3 with rfl | rfl | rfl | rfl | rfl | rfl | rfl | rfl | rfl | rfl | rfl | rfl | rfl | rfl | rfl | rfl | rfl | rfl | rfl | rfl
  · exact ck_one ck_560
  · exact ck_one ck_561
  · exact ck_one ck_562
  · exact ck_one ck_563
  · exact ck_one ck_564
  · exact ck_one ck_565
  · exact ck_one ck_566
  · exact ck_one ck_567
  · exact ck_one ck_568
  · exact ck_one ck_569
  · exact ck_one ck_570
  · exact ck_one ck_571
  · exact ck_one ck_572
  · exact ck_one ck_573
  · exact ck_one ck_574
  · exact ck_one ck_575
  · exact ck_one ck_576
  · exact ck_one ck_577
  · exact ck_one ck_578
  · exact ck_one ck_579
theorem ckb_580 : ∀ k, 580 ≤ k → k < 600 → ckOne Pm k = true := by
  intro k h1 h2
  have h3 : k = 580 ∨ k = 581 ∨ k = 582 ∨ k = 583 ∨ k = 584 ∨ k = 585 ∨ k = 586 ∨ k = 587 ∨ k = 588 ∨ k = 589 ∨ k = 590 ∨ k = 591 ∨ k = 592 ∨ k = 593 ∨ k = 594 ∨ k = 595 ∨ k = 596 ∨ k = 597 ∨ k = 598 ∨ k = 599 := by omega
  rcases h3 with rfl | rfl | rfl | rfl | rfl | rfl | rfl | rfl | rfl | rfl | rfl | rfl | rfl | rfl | rfl | rfl | rfl | rfl | rfl | rfl
  · exact ck_one ck_580
  · exact ck_one ck_581
  · exact ck_one ck_582
  · exact ck_one ck_583
  · exact ck_one ck_584
  · exact ck_one ck_585
  · exact ck_one ck_586
  · exact ck_one ck_587
  · exact ck_one ck_588
  · exact ck_one ck_589
  · exact ck_one ck_590
  · exact ck_one ck_591
  · exact ck_one ck_592
  · exact ck_one ck_593
  · exact ck_one ck_594
  · exact ck_one ck_595
  · exact ck_one ck_596
  · exact ck_one ck_597
  · exact ck_one ck_598
  · exact ck_one ck_599
theorem ckb_600 : ∀ k, 600 ≤ k → k < 620 → ckOne Pm k = true := by
  intro k h1 h2
  have h3 : k = 600 ∨ k = 601 ∨ k = 602 ∨ k = 603 ∨ k = 604 ∨ k = 605 ∨ k = 606 ∨ k = 607 ∨ k = 608 ∨ k = 609 ∨ k = 610 ∨ k = 611 ∨ k = 612 ∨ k = 613 ∨ k = 614 ∨ k = 615 ∨ k = 616 ∨ k = 617 ∨ k = 618 ∨ k = 619 := by omega
  rcases h3 with rfl | rfl | rfl | rfl | rfl | rfl | rfl | rfl | rfl | rfl | rfl | rfl | rfl | rfl | rfl | rfl | rfl | rfl | rfl | rfl
  · exact ck_one ck_600
  · exact ck_one ck_601
  · exact ck_one ck_602
  · exact ck_one ck_603
  · exact ck_one ck_604
  · exact ck_one ck_605
  · exact ck_one ck_606
  · exact ck_one ck_607
  · exact ck_one ck_608
  · exact ck_one ck_609
  · exact ck_one ck_610
  · exact ck_one ck_611
  · exact ck_one ck_612
  · exact ck_one ck_613
  · exact ck_one ck_614
  · exact ck_one ck_615
  · exact ck_one ck_616
  · exact ck_one ck_617
  · exact ck_one ck_618
  · exact ck_one ck_619
theorem ckb_620 : ∀ k, 620 ≤ k → k < 640 → ckOne Pm k = true := by
  intro k h1 h2
  have h3 : k = 620 ∨ k = 621 ∨ k = 622 ∨ k = 623 ∨ k = 624 ∨ k = 625 ∨ k = 626 ∨ k = 627 ∨ k = 628 ∨ k = 629 ∨ k = 630 ∨ k = 631 ∨ k = 632 ∨ k = 633 ∨ k = 634 ∨ k = 635 ∨ k = 636 ∨ k = 637 ∨ k = 638 ∨ k = 639 := by omega
  rcases h3 with rfl | rfl | rfl | rfl | rfl | rfl | rfl | rfl | rfl | rfl | rfl | rfl | rfl | rfl | rfl | rfl | rfl | rfl | rfl | rfl
  · exact ck_one ck_620
  · exact ck_one ck_621
  · exact ck_one ck_622
  · exact ck_one ck_623
  · exact ck_one ck_624
  · exact ck_one ck_625
  · exact ck_one ck_626
  · exact ck_one ck_627
  · exact ck_one ck_628
  · exact ck_one ck_629
  · exact ck_one ck_630
  · exact ck_one ck_631
  · exact ck_one ck_632
  · exact ck_one ck_633
  · exact ck_one ck_634
  · exact ck_one ck_635
  · exact ck_one ck_636
  · exact ck_one ck_637
  · exact ck_one ck_638
  · exact ck_one ck_639
theorem ckb_640 : ∀ k, 640 ≤ k → k < 660 → ckOne Pm k = true := by
  intro k h1 h2
  have h3 : k = 640 ∨ k = 641 ∨ k = 642 ∨ k = 643 ∨ k = 644 ∨ k = 645 ∨ k = 646 ∨ k = 647 ∨ k = 648 ∨ k = 649 ∨ k = 650 ∨ k = 651 ∨ k = 652 ∨ k = 653 ∨ k = 654 ∨ k = 655 ∨ k = 656 ∨ k = 657 ∨ k = 658 ∨ k = 659 := by omega
  rcases h3 with rfl | rfl | rfl | rfl | rfl | rfl | rfl | rfl | rfl | rfl | rfl | rfl | rfl | rfl | rfl | rfl | rfl | rfl | rfl | rfl
  · exact ck_one ck_640
  · exact ck_one ck_641
  · exact ck_one ck_642
  · exact ck_one ck_643
  · exact ck_one ck_644
  · exact ck_one ck_645
  · exact ck_one ck_646
  · exact ck_one ck_647
  · exact ck_one ck_648
  · exact ck_one ck_649
  · exact ck_one ck_650
  · exact ck_one ck_651
  · exact ck_one ck_652
  · exact ck_one ck_653
  · exact ck_one ck_654
  · exact ck_one ck_655
  · exact ck_one ck_656
  · exact ck_one ck_657
  · exact ck_one ck_658
  · exact ck_one ck_659
theorem ckb_660 : ∀ k, 660 ≤ k → k < 680 → ckOne Pm k = true := by
  intro k h1 h2
  have h3 : k = 660 ∨ k = 661 ∨ k = 662 ∨ k = 663 ∨ k = 664 ∨ k = 665 ∨ k = 666 ∨ k = 667 ∨ k = 668 ∨ k = 669 ∨ k = 670 ∨ k = 671 ∨ k = 672 ∨ k = 673 ∨ k = 674 ∨ k = 675 ∨ k = 676 ∨ k = 677 ∨ k = 678 ∨ k = 679 := by omega
  rcases h3 with rfl | rfl | rfl | rfl | rfl | rfl | rfl | rfl | rfl | rfl | rfl | rfl | rfl | rfl | rfl | rfl | rfl | rfl | rfl | rfl
  · exact ck_one ck_660
  · exact ck_one ck_661
  · exact ck_one ck_662
  · exact ck_one ck_663
  · exact ck_one ck_664
  · exact ck_one ck_665
  · exact ck_one ck_666
  · exact ck_one ck_667
  · exact ck_one ck_668
  · exact ck_one ck_669
  · exact ck_one ck_670
  · exact ck_one ck_671
  · exact ck_one ck_672
  · exact ck_one ck_673
  · exact ck_one ck_674
  · exact ck_one ck_675
  · exact ck_one ck_676
  · exact ck_one ck_677
  · exact ck_one ck_678
  · exact ck_one ck_679
theorem ckb_680 : ∀ k, 680 ≤ k → k < 700 → ckOne Pm k = true := by
  intro k h1 h2
  have h3 : k = 680 ∨ k = 681 ∨ k = 682 ∨ k = 683 ∨ k = 684 ∨ k = 685 ∨ k = 686 ∨ k = 687 ∨ k = 688 ∨ k = 689 ∨ k = 690 ∨ k = 691 ∨ k = 692 ∨ k = 693 ∨ k = 694 ∨ k = 695 ∨ k = 696 ∨ k = 697 ∨ k = 698 ∨ k = 699 := by omega
  rcases h3 with rfl | rfl | rfl | rfl | rfl | rfl | rfl | rfl | rfl | rfl | rfl | rfl | rfl | rfl | rfl | rfl | rfl | rfl | rfl | rfl
  · exact ck_one ck_680
  · exact ck_one ck_681
  · exact ck_one ck_682
  · exact ck_one ck_683
  · exact ck_one ck_684
  · exact ck_one ck_685
  · exact ck_one ck_686
  · exact ck_one ck_687
  · exact ck_one ck_688
  · exact ck_one ck_689
  · exact ck_one ck_690
  · exact ck_one ck_691
  · exact ck_one ck_692
  · exact ck_one ck_693
  · exact ck_one ck_694
  · exact ck_one ck_695
  · exact ck_one ck_696
  · exact ck_one ck_697
  · exact ck_one ck_698
  · exact ck_one ck_699
theorem ckb_700 : ∀ k, 700 ≤ k → k < 720 → ckOne Pm k = true := by
  intro k h1 h2
  have h3 : k = 700 ∨ k = 701 ∨ k = 702 ∨ k = 703 ∨ k = 704 ∨ k = 705 ∨ k = 706 ∨ k = 707 ∨ k = 708 ∨ k = 709 ∨ k = 710 ∨ k = 711 ∨ k = 712 ∨ k = 713 ∨ k = 714 ∨ k = 715 ∨ k = 716 ∨ k = 717 ∨ k = 718 ∨ k = 719 := by omega
  rcases h3 with rfl | rfl | rfl | rfl | rfl | rfl | rfl | rfl | rfl | rfl | rfl | rfl | rfl | rfl | rfl | rfl | rfl | rfl | rfl | rfl
  · exact ck_one ck_700
  · exact ck_one ck_701
  · exact ck_one ck_702
  · exact ck_one ck_703
  · exact ck_one ck_704
  · exact ck_one ck_705
  · exact ck_one ck_706
  · exact ck_one ck_707
  · exact ck_one ck_708
  · exact ck_one ck_709
  · exact ck_one ck_710
  · exact ck_one ck_711
  · exact ck_one ck_712
  · exact ck_one ck_713
  · exact ck_one ck_714
  · exact ck_one ck_715
  · exact ck_one ck_716
  · exact ck_one ck_717
  · exact ck_one ck_718
  · exact ck_one ck_719
theorem ckb_720 : ∀ k, 720 ≤ k → k < 740 → ckOne Pm k = true := by
  intro k h1 h2
  have h3 : k = 720 ∨ k = 721 ∨ k = 722 ∨ k = 723 ∨ k = 724 ∨ k = 725 ∨ k = 726 ∨ k = 727 ∨ k = 728 ∨ k = 729 ∨ k = 730 ∨ k = 731 ∨ k = 732 ∨ k = 733 ∨ k = 734 ∨ k = 735 ∨ k = 736 ∨ k = 737 ∨ k = 738 ∨ k = 739 := by omega
  rcases h3 with rfl | rfl | rfl | rfl | rfl | rfl | rfl | rfl | rfl | rfl | rfl | rfl | rfl | rfl | rfl | rfl | rfl | rfl | rfl | rfl
  · exact ck_one ck_720
  · exact ck_one ck_721
  · exact ck_one ck_722
  · exact ck_one ck_723
  · exact ck_one ck_724
  · exact ck_one ck_725
  · exact ck_one ck_726
  · exact ck_one ck_727
  · exact ck_one ck_728
  · exact ck_one ck_729
  · exact ck_one ck_730
  · exact ck_one ck_731
  · exact ck_one ck_732
  · exact ck_one ck_733
  · exact ck_one ck_734
  · exact ck_one ck_735
  · exact ck_one ck_736
  · exact ck_one ck_737
  · exact ck_one ck_738
  · exact ck_one ck_739
theorem ckb_740 : ∀ k, 740 ≤ k → k < 742 → ckOne Pm k = true := by
  intro k h1 h2
  have h3 : k = 740 ∨ k = 741 := by omega
  rcases h3 with rfl | rfl
  · exact ck_one ck_740
  · exact ck_one ck_741
theorem all_ck : ∀ k, k < 742 → ckOne Pm k = true := by
  intro k hk
  rcases Nat.lt_or_ge k 250 with q250 | q250
  · rcases Nat.lt_or_ge k 120 with q120 | q120
    · rcases Nat.lt_or_ge k 60 with q60 | q60
      · rcases Nat.lt_or_ge k 30 with q30 | q30
        · rcases Nat.lt_or_ge k 10 with q10 | q10
          · have h1 : 0 ≤ k := by omega
            have h2 : k < 10 := by omega
            exact ck_ten ck_0 h1 h2
          · rcases Nat.lt_or_ge k 20 with q20 | q20
            · have h1 : 10 ≤ k := by omega
              have h2 : k < 20 := by omega
              exact ck_ten ck_10 h1 h2
            · have h1 : 20 ≤ k := by omega
              have h2 : k < 30 := by omega
              exact ck_ten ck_20 h1 h2
        · rcases Nat.lt_or_ge k 40 with q40 | q40
          · have h1 : 30 ≤ k := by omega
            have h2 : k < 40 := by omega
            exact ck_ten ck_30 h1 h2
          · rcases Nat.lt_or_ge k 50 with q50 | q50
            · have h1 : 40 ≤ k := by omega
              have h2 : k < 50 := by omega
              exact ck_ten ck_40 h1 h2
            · have h1 : 50 ≤ k := by omega
              have h2 : k < 60 := by omega
              exact ck_ten ck_50 h1 h2
      · rcases Nat.lt_or_ge k 90 with q90 | q90
        · rcases Nat.lt_or_ge k 70 with q70 | q70
          · have h1 : 60 ≤ k := by omega
            have h2 : k < 70 := by omega
            exact ck_ten ck_60 h1 h2
          · rcases Nat.lt_or_ge k 80 with q80 | q80
            · have h1 : 70 ≤ k := by omega
              have h2 : k < 80 := by omega
              exact ck_ten ck_70 h1 h2
            · have h1 : 80 ≤ k := by omega
              have h2 : k < 90 := by omega
              exact ck_ten ck_80 h1 h2
        · rcases Nat.lt_or_ge k 100 with q100 | q100
          · have h1 : 90 ≤ k := by omega
            have h2 : k < 100 := by omega
            exact ck_ten ck_90 h1 h2
          · rcases Nat.lt_or_ge k 110 with q110 | q110
            · have h1 : 100 ≤ k := by omega
              have h2 : k < 110 := by omega
              exact ck_ten ck_100 h1 h2
            · have h1 : 110 ≤ k := by omega
              have h2 : k < 120 := by omega
              exact ck_ten ck_110 h1 h2
    · rcases Nat.lt_or_ge k 180 with q180 | q180
      · rcases Nat.lt_or_ge k 150 with q150 | q150
        · rcases Nat.lt_or_ge k 130 with q130 | q130
          · have h1 : 120 ≤ k := by omega
            have h2 : k < 130 := by omega
            exact ck_ten ck_120 h1 h2
          · rcases Nat.lt_or_ge k 140 with q140 | q140
            · have h1 : 130 ≤ k := by omega
              have h2 : k < 140 := by omega
              exact ck_ten ck_130 h1 h2
            · have h1 : 140 ≤ k := by omega
              have h2 : k < 150 := by omega
              exact ck_ten ck_140 h1 h2
        · rcases Nat.lt_or_ge k 160 with q160 | q160
          · have h1 : 150 ≤ k := by omega
            have h2 : k < 160 := by omega
            exact ck_ten ck_150 h1 h2
          · rcases Nat.lt_or_ge k 170 with q170 | q170
            · have h1 : 160 ≤ k := by omega
              have h2 : k < 170 := by omega
              exact ck_ten ck_160 h1 h2
            · have h1 : 170 ≤ k := by omega
              have h2 : k < 180 := by omega
              exact ck_ten ck_170 h1 h2
      · rcases Nat.lt_or_ge k 210 with q210 | q210
        · rcases Nat.lt_or_ge k 190 with q190 | q190
          · have h1 : 180 ≤ k := by omega
            have h2 : k < 190 := by omega
            exact ck_ten ck_180 h1 h2
          · rcases Nat.lt_or_ge k 200 with q200 | q200
            · have h1 : 190 ≤ k := by omega
              have h2 : k < 200 := by omega
              exact ck_ten ck_190 h1 h2
            · have h1 : 200 ≤ k := by omega
              have h2 : k < 210 := by omega
              exact ck_ten ck_200 h1 h2
        · rcases Nat.lt_or_ge k 230 with q230 | q230
          · rcases Nat.lt_or_ge k 220 with q220 | q220
            · have h1 : 210 ≤ k := by omega
              have h2 : k < 220 := by omega
              exact ck_ten ck_210 h1 h2
            · have h1 : 220 ≤ k := by omega
              have h2 : k < 230 := by omega
              exact ck_ten ck_220 h1 h2
          · rcases Nat.lt_or_ge k 240 with q240 | q240
            · have h1 : 230 ≤ k := by omega
              have h2 : k < 240 := by omega
              exact ck_ten ck_230 h1 h2
            · have h1 : 240 ≤ k := by omega
              have h2 : k < 250 := by omega
              exact ck_ten ck_240 h1 h2
  · rcases Nat.lt_or_ge k 500 with q500 | q500
    · rcases Nat.lt_or_ge k 360 with q360 | q360
      · rcases Nat.lt_or_ge k 300 with q300 | q300
        · rcases Nat.lt_or_ge k 260 with q260 | q260
          · have h1 : 250 ≤ k := by omega
            have h2 : k < 260 := by omega
            exact ck_ten ck_250 h1 h2
          · rcases Nat.lt_or_ge k 280 with q280 | q280
            · have h1 : 260 ≤ k := by omega
              have h2 : k < 280 := by omega
              exact ckb_260 k h1 h2
            · have h1 : 280 ≤ k := by omega
              have h2 : k < 300 := by omega
              exact ckb_280 k h1 h2
        · rcases Nat.lt_or_ge k 320 with q320 | q320
          · have h1 : 300 ≤ k := by omega
            have h2 : k < 320 := by omega
            exact ckb_300 k h1 h2
          · rcases Nat.lt_or_ge k 340 with q340 | q340
            · have h1 : 320 ≤ k := by omega
              have h2 : k < 340 := by omega
              exact ckb_320 k h1 h2
            · have h1 : 340 ≤ k := by omega
              have h2 : k < 360 := by omega
              exact ckb_340 k h1 h2
      · rcases Nat.lt_or_ge k 420 with q420 | q420
        · rcases Nat.lt_or_ge k 380 with q380 | q380
          · have h1 : 360 ≤ k := by omega
            have h2 : k < 380 := by omega
            exact ckb_360 k h1 h2
          · rcases Nat.lt_or_ge k 400 with q400 | q400
            · have h1 : 380 ≤ k := by omega
              have h2 : k < 400 := by omega
              exact ckb_380 k h1 h2
            · have h1 : 400 ≤ k := by omega
              have h2 : k < 420 := by omega
              exact ckb_400 k h1 h2
        · rcases Nat.lt_or_ge k 460 with q460 | q460
          · rcases Nat.lt_or_ge k 440 with q440 | q440
            · have h1 : 420 ≤ k := by omega
              have h2 : k < 440 := by omega
              exact ckb_420 k h1 h2
            · have h1 : 440 ≤ k := by omega
              have h2 : k < 460 := by omega
              exact ckb_440 k h1 h2
          · rcases Nat.lt_or_ge k 480 with q480 | q480
            · have h1 : 460 ≤ k := by omega
              have h2 : k < 480 := by omega
              exact ckb_460 k h1 h2
            · have h1 : 480 ≤ k := by omega
              have h2 : k < 500 := by omega
              exact ckb_480 k h1 h2
    · rcases Nat.lt_or_ge k 620 with q620 | q620
      · rcases Nat.lt_or_ge k 560 with q560 | q560
        · rcases Nat.lt_or_ge k 520 with q520 | q520
          · have h1 : 500 ≤ k := by omega
            have h2 : k < 520 := by omega
            exact ckb_500 k h1 h2
          · rcases Nat.lt_or_ge k 540 with q540 | q540
            · have h1 : 520 ≤ k := by omega
              have h2 : k < 540 := by omega
              exact ckb_520 k h1 h2
            · have h1 : 540 ≤ k := by omega
              have h2 : k < 560 := by omega
              exact ckb_540 k h1 h2
        · rcases Nat.lt_or_ge k 580 with q580 | q580
          · have h1 : 560 ≤ k := by omega
            have h2 : k < 580 := by omega
            exact ckb_560 k h1 h2
          · rcases Nat.lt_or_ge k 600 with q600 | q600
            · have h1 : 580 ≤ k := by omega
              have h2 : k < 600 := by omega
              exact ckb_580 k h1 h2
            · have h1 : 600 ≤ k := by omega
              have h2 : k < 620 := by omega
              exact ckb_600 k h1 h2
      · rcases Nat.lt_or_ge k 680 with q680 | q680
        · rcases Nat.lt_or_ge k 640 with q640 | q640
          · have h1 : 620 ≤ k := by omega
            have h2 : k < 640 := by omega
            exact ckb_620 k h1 h2
          · rcases Nat.lt_or_ge k 660 with q660 | q660
            · have h1 : 640 ≤ k := by omega
              have h2 : k < 660 := by omega
              exact ckb_640 k h1 h2
            · have h1 : 660 ≤ k := by omega
              have h2 : k < 680 := by omega
              exact ckb_660 k h1 h2
        · rcases Nat.lt_or_ge k 720 with q720 | q720
          · rcases Nat.lt_or_ge k 700 with q700 | q700
            · have h1 : 680 ≤ k := by omega
              have h2 : k < 700 := by omega
              exact ckb_680 k h1 h2
            · have h1 : 700 ≤ k := by omega
              have h2 : k < 720 := by omega
              exact ckb_700 k h1 h2
          · rcases Nat.lt_or_ge k 740 with q740 | q740
            · have h1 : 720 ≤ k := by omega
              have h2 : k < 740 := by omega
              exact ckb_720 k h1 h2
            · have h1 : 740 ≤ k := by omega
              have h2 : k < 742 := by omega
              exact ckb_740 k h1 h2
theorem kx_all {l : Launch} {g : jG} {n : Int} : ∀ (k : Nat) (K : aK), KTx[k]? = some K → kOK TTs g (EIm n) l K := ck_all_of (P := Pm) (N := 742) (by decide +kernel) all_ck EIm_ok hand_all
