/-! the law: its instructions, 1 -/
theorem dL_356 : decode code 356 = .ok (.iconst 3, 1) := by decide +kernel
theorem dL_357 : decode code 357 = .ok (.iadd, 1) := by decide +kernel
theorem dL_358 : decode code 358 = .ok (.iaload, 1) := by decide +kernel
theorem dL_359 : decode code 359 = .ok (.aload_n 0, 1) := by decide +kernel
theorem dL_360 : decode code 360 = .ok (.iload_n 3, 1) := by decide +kernel
theorem dL_361 : decode code 361 = .ok (.iconst 4, 1) := by decide +kernel
theorem dL_362 : decode code 362 = .ok (.iadd, 1) := by decide +kernel
theorem dL_363 : decode code 363 = .ok (.iaload, 1) := by decide +kernel
theorem dL_364 : decode code 364 = .ok (.aload_n 0, 1) := by decide +kernel
theorem dL_365 : decode code 365 = .ok (.iload_n 3, 1) := by decide +kernel
theorem dL_366 : decode code 366 = .ok (.iconst 5, 1) := by decide +kernel
theorem dL_367 : decode code 367 = .ok (.iadd, 1) := by decide +kernel
theorem dL_368 : decode code 368 = .ok (.iaload, 1) := by decide +kernel
theorem dL_369 : decode code 369 = .ok (.invokevirtual 36, 3) := by decide +kernel
theorem dL_372 : decode code 372 = .ok (.if_icmp .eq 673, 3) := by decide +kernel
theorem dL_375 : decode code 375 = .ok (.iconst 0, 1) := by decide +kernel
theorem dL_376 : decode code 376 = .ok (.ireturn, 1) := by decide +kernel
theorem dL_377 : decode code 377 = .ok (.aload_n 1, 1) := by decide +kernel
theorem dL_378 : decode code 378 = .ok (.aload_n 0, 1) := by decide +kernel
theorem dL_379 : decode code 379 = .ok (.iload_n 3, 1) := by decide +kernel
theorem dL_380 : decode code 380 = .ok (.iconst 1, 1) := by decide +kernel
theorem dL_381 : decode code 381 = .ok (.iadd, 1) := by decide +kernel
theorem dL_382 : decode code 382 = .ok (.iaload, 1) := by decide +kernel
theorem dL_383 : decode code 383 = .ok (.invokevirtual 37, 3) := by decide +kernel
theorem dL_386 : decode code 386 = .ok (.aload_n 2, 1) := by decide +kernel
theorem dL_387 : decode code 387 = .ok (.aload_n 0, 1) := by decide +kernel
theorem dL_388 : decode code 388 = .ok (.iload_n 3, 1) := by decide +kernel
theorem dL_389 : decode code 389 = .ok (.iconst 1, 1) := by decide +kernel
theorem dL_390 : decode code 390 = .ok (.iadd, 1) := by decide +kernel
theorem dL_391 : decode code 391 = .ok (.iaload, 1) := by decide +kernel
theorem dL_392 : decode code 392 = .ok (.invokevirtual 41, 3) := by decide +kernel
theorem dL_395 : decode code 395 = .ok (.if_icmp .eq 650, 3) := by decide +kernel
theorem dL_398 : decode code 398 = .ok (.iconst 0, 1) := by decide +kernel
theorem dL_399 : decode code 399 = .ok (.ireturn, 1) := by decide +kernel
theorem dL_400 : decode code 400 = .ok (.aload_n 1, 1) := by decide +kernel
theorem dL_401 : decode code 401 = .ok (.aload_n 0, 1) := by decide +kernel
theorem dL_402 : decode code 402 = .ok (.iload_n 3, 1) := by decide +kernel
theorem dL_403 : decode code 403 = .ok (.iconst 1, 1) := by decide +kernel
theorem dL_404 : decode code 404 = .ok (.iadd, 1) := by decide +kernel
theorem dL_405 : decode code 405 = .ok (.iaload, 1) := by decide +kernel
theorem dL_406 : decode code 406 = .ok (.invokevirtual 42, 3) := by decide +kernel
theorem dL_409 : decode code 409 = .ok (.aload_n 2, 1) := by decide +kernel
theorem dL_410 : decode code 410 = .ok (.aload_n 0, 1) := by decide +kernel
theorem dL_411 : decode code 411 = .ok (.iload_n 3, 1) := by decide +kernel
theorem dL_412 : decode code 412 = .ok (.iconst 1, 1) := by decide +kernel
theorem dL_413 : decode code 413 = .ok (.iadd, 1) := by decide +kernel
theorem dL_414 : decode code 414 = .ok (.iaload, 1) := by decide +kernel
theorem dL_415 : decode code 415 = .ok (.invokevirtual 45, 3) := by decide +kernel
theorem dL_418 : decode code 418 = .ok (.if_icmp .eq 627, 3) := by decide +kernel
theorem dL_421 : decode code 421 = .ok (.iconst 0, 1) := by decide +kernel
theorem dL_422 : decode code 422 = .ok (.ireturn, 1) := by decide +kernel
theorem dL_423 : decode code 423 = .ok (.aload_n 1, 1) := by decide +kernel
theorem dL_424 : decode code 424 = .ok (.aload_n 0, 1) := by decide +kernel
theorem dL_425 : decode code 425 = .ok (.iload_n 3, 1) := by decide +kernel
theorem dL_426 : decode code 426 = .ok (.iconst 1, 1) := by decide +kernel
theorem dL_427 : decode code 427 = .ok (.iadd, 1) := by decide +kernel
theorem dL_428 : decode code 428 = .ok (.iaload, 1) := by decide +kernel
theorem dL_429 : decode code 429 = .ok (.invokevirtual 46, 3) := by decide +kernel
theorem dL_432 : decode code 432 = .ok (.aload_n 2, 1) := by decide +kernel
theorem dL_433 : decode code 433 = .ok (.aload_n 0, 1) := by decide +kernel
theorem dL_434 : decode code 434 = .ok (.iload_n 3, 1) := by decide +kernel
theorem dL_435 : decode code 435 = .ok (.iconst 1, 1) := by decide +kernel
theorem dL_436 : decode code 436 = .ok (.iadd, 1) := by decide +kernel
theorem dL_437 : decode code 437 = .ok (.iaload, 1) := by decide +kernel
theorem dL_438 : decode code 438 = .ok (.invokevirtual 49, 3) := by decide +kernel
theorem dL_441 : decode code 441 = .ok (.if_icmp .eq 604, 3) := by decide +kernel
theorem dL_444 : decode code 444 = .ok (.iconst 0, 1) := by decide +kernel
theorem dL_445 : decode code 445 = .ok (.ireturn, 1) := by decide +kernel
theorem dL_446 : decode code 446 = .ok (.aload_n 1, 1) := by decide +kernel
theorem dL_447 : decode code 447 = .ok (.aload_n 0, 1) := by decide +kernel
theorem dL_448 : decode code 448 = .ok (.iload_n 3, 1) := by decide +kernel
theorem dL_449 : decode code 449 = .ok (.iconst 1, 1) := by decide +kernel
theorem dL_450 : decode code 450 = .ok (.iadd, 1) := by decide +kernel
theorem dL_451 : decode code 451 = .ok (.iaload, 1) := by decide +kernel
theorem dL_452 : decode code 452 = .ok (.invokevirtual 50, 3) := by decide +kernel
theorem dL_455 : decode code 455 = .ok (.aload_n 2, 1) := by decide +kernel
theorem dL_456 : decode code 456 = .ok (.aload_n 0, 1) := by decide +kernel
theorem dL_457 : decode code 457 = .ok (.iload_n 3, 1) := by decide +kernel
theorem dL_458 : decode code 458 = .ok (.iconst 1, 1) := by decide +kernel
theorem dL_459 : decode code 459 = .ok (.iadd, 1) := by decide +kernel
theorem dL_460 : decode code 460 = .ok (.iaload, 1) := by decide +kernel
theorem dL_461 : decode code 461 = .ok (.invokevirtual 53, 3) := by decide +kernel
theorem dL_464 : decode code 464 = .ok (.if_icmp .eq 581, 3) := by decide +kernel
theorem dL_467 : decode code 467 = .ok (.iconst 0, 1) := by decide +kernel
theorem dL_468 : decode code 468 = .ok (.ireturn, 1) := by decide +kernel
theorem dL_469 : decode code 469 = .ok (.aload_n 1, 1) := by decide +kernel
theorem dL_470 : decode code 470 = .ok (.invokevirtual 54, 3) := by decide +kernel
theorem dL_473 : decode code 473 = .ok (.aload_n 2, 1) := by decide +kernel
theorem dL_474 : decode code 474 = .ok (.invokevirtual 58, 3) := by decide +kernel
theorem dL_477 : decode code 477 = .ok (.if_icmp .eq 568, 3) := by decide +kernel
theorem dL_480 : decode code 480 = .ok (.iconst 0, 1) := by decide +kernel
theorem dL_481 : decode code 481 = .ok (.ireturn, 1) := by decide +kernel
theorem dL_482 : decode code 482 = .ok (.aload_n 1, 1) := by decide +kernel
theorem dL_483 : decode code 483 = .ok (.aload_n 0, 1) := by decide +kernel
theorem dL_484 : decode code 484 = .ok (.iload_n 3, 1) := by decide +kernel
theorem dL_485 : decode code 485 = .ok (.iconst 1, 1) := by decide +kernel
theorem dL_486 : decode code 486 = .ok (.iadd, 1) := by decide +kernel
theorem dL_487 : decode code 487 = .ok (.iaload, 1) := by decide +kernel
theorem dL_488 : decode code 488 = .ok (.invokevirtual 59, 3) := by decide +kernel
theorem dL_491 : decode code 491 = .ok (.aload_n 2, 1) := by decide +kernel
theorem dL_492 : decode code 492 = .ok (.aload_n 0, 1) := by decide +kernel
theorem dL_493 : decode code 493 = .ok (.iload_n 3, 1) := by decide +kernel
theorem dL_494 : decode code 494 = .ok (.iconst 1, 1) := by decide +kernel
theorem dL_495 : decode code 495 = .ok (.iadd, 1) := by decide +kernel
theorem dL_496 : decode code 496 = .ok (.iaload, 1) := by decide +kernel
theorem dL_497 : decode code 497 = .ok (.invokevirtual 62, 3) := by decide +kernel
theorem dL_500 : decode code 500 = .ok (.if_icmp .eq 545, 3) := by decide +kernel
theorem dL_503 : decode code 503 = .ok (.iconst 0, 1) := by decide +kernel
theorem dL_504 : decode code 504 = .ok (.ireturn, 1) := by decide +kernel
theorem dL_505 : decode code 505 = .ok (.aload_n 1, 1) := by decide +kernel
theorem dL_506 : decode code 506 = .ok (.aload_n 0, 1) := by decide +kernel
theorem dL_507 : decode code 507 = .ok (.iload_n 3, 1) := by decide +kernel
theorem dL_508 : decode code 508 = .ok (.iconst 1, 1) := by decide +kernel
theorem dL_509 : decode code 509 = .ok (.iadd, 1) := by decide +kernel
theorem dL_510 : decode code 510 = .ok (.iaload, 1) := by decide +kernel
theorem dL_511 : decode code 511 = .ok (.invokevirtual 63, 3) := by decide +kernel
theorem dL_514 : decode code 514 = .ok (.aload_n 2, 1) := by decide +kernel
theorem dL_515 : decode code 515 = .ok (.aload_n 0, 1) := by decide +kernel
theorem dL_516 : decode code 516 = .ok (.iload_n 3, 1) := by decide +kernel
theorem dL_517 : decode code 517 = .ok (.iconst 1, 1) := by decide +kernel
theorem dL_518 : decode code 518 = .ok (.iadd, 1) := by decide +kernel
theorem dL_519 : decode code 519 = .ok (.iaload, 1) := by decide +kernel
theorem dL_520 : decode code 520 = .ok (.invokevirtual 66, 3) := by decide +kernel
theorem dL_523 : decode code 523 = .ok (.if_icmp .eq 522, 3) := by decide +kernel
theorem dL_526 : decode code 526 = .ok (.iconst 0, 1) := by decide +kernel
theorem dL_527 : decode code 527 = .ok (.ireturn, 1) := by decide +kernel
theorem dL_528 : decode code 528 = .ok (.aload_n 1, 1) := by decide +kernel
theorem dL_529 : decode code 529 = .ok (.aload_n 0, 1) := by decide +kernel
theorem dL_530 : decode code 530 = .ok (.iload_n 3, 1) := by decide +kernel
theorem dL_531 : decode code 531 = .ok (.iconst 1, 1) := by decide +kernel
theorem dL_532 : decode code 532 = .ok (.iadd, 1) := by decide +kernel
theorem dL_533 : decode code 533 = .ok (.iaload, 1) := by decide +kernel
theorem dL_534 : decode code 534 = .ok (.aload_n 0, 1) := by decide +kernel
theorem dL_535 : decode code 535 = .ok (.iload_n 3, 1) := by decide +kernel
theorem dL_536 : decode code 536 = .ok (.iconst 2, 1) := by decide +kernel
theorem dL_537 : decode code 537 = .ok (.iadd, 1) := by decide +kernel
theorem dL_538 : decode code 538 = .ok (.iaload, 1) := by decide +kernel
theorem dL_539 : decode code 539 = .ok (.invokevirtual 67, 3) := by decide +kernel
theorem dL_542 : decode code 542 = .ok (.aload_n 2, 1) := by decide +kernel
theorem dL_543 : decode code 543 = .ok (.aload_n 0, 1) := by decide +kernel
theorem dL_544 : decode code 544 = .ok (.iload_n 3, 1) := by decide +kernel
theorem dL_545 : decode code 545 = .ok (.iconst 1, 1) := by decide +kernel
theorem dL_546 : decode code 546 = .ok (.iadd, 1) := by decide +kernel
theorem dL_547 : decode code 547 = .ok (.iaload, 1) := by decide +kernel
theorem dL_548 : decode code 548 = .ok (.aload_n 0, 1) := by decide +kernel
theorem dL_549 : decode code 549 = .ok (.iload_n 3, 1) := by decide +kernel
theorem dL_550 : decode code 550 = .ok (.iconst 2, 1) := by decide +kernel
theorem dL_551 : decode code 551 = .ok (.iadd, 1) := by decide +kernel
theorem dL_552 : decode code 552 = .ok (.iaload, 1) := by decide +kernel
theorem dL_553 : decode code 553 = .ok (.invokevirtual 71, 3) := by decide +kernel
theorem dL_556 : decode code 556 = .ok (.if_icmp .eq 489, 3) := by decide +kernel
theorem dL_559 : decode code 559 = .ok (.iconst 0, 1) := by decide +kernel
theorem dL_560 : decode code 560 = .ok (.ireturn, 1) := by decide +kernel
theorem dL_561 : decode code 561 = .ok (.aload_n 1, 1) := by decide +kernel
theorem dL_562 : decode code 562 = .ok (.aload_n 0, 1) := by decide +kernel
theorem dL_563 : decode code 563 = .ok (.iload_n 3, 1) := by decide +kernel
theorem dL_564 : decode code 564 = .ok (.iconst 1, 1) := by decide +kernel
theorem dL_565 : decode code 565 = .ok (.iadd, 1) := by decide +kernel
theorem dL_566 : decode code 566 = .ok (.iaload, 1) := by decide +kernel
theorem dL_567 : decode code 567 = .ok (.invokevirtual 72, 3) := by decide +kernel
theorem dL_570 : decode code 570 = .ok (.aload_n 2, 1) := by decide +kernel
theorem dL_571 : decode code 571 = .ok (.aload_n 0, 1) := by decide +kernel
theorem dL_572 : decode code 572 = .ok (.iload_n 3, 1) := by decide +kernel
theorem dL_573 : decode code 573 = .ok (.iconst 1, 1) := by decide +kernel
theorem dL_574 : decode code 574 = .ok (.iadd, 1) := by decide +kernel
theorem dL_575 : decode code 575 = .ok (.iaload, 1) := by decide +kernel
theorem dL_576 : decode code 576 = .ok (.invokevirtual 75, 3) := by decide +kernel
theorem dL_579 : decode code 579 = .ok (.if_icmp .eq 466, 3) := by decide +kernel
theorem dL_582 : decode code 582 = .ok (.iconst 0, 1) := by decide +kernel
theorem dL_583 : decode code 583 = .ok (.ireturn, 1) := by decide +kernel
theorem dL_584 : decode code 584 = .ok (.aload_n 1, 1) := by decide +kernel
theorem dL_585 : decode code 585 = .ok (.aload_n 0, 1) := by decide +kernel
theorem dL_586 : decode code 586 = .ok (.iload_n 3, 1) := by decide +kernel
theorem dL_587 : decode code 587 = .ok (.iconst 1, 1) := by decide +kernel
theorem dL_588 : decode code 588 = .ok (.iadd, 1) := by decide +kernel
theorem dL_589 : decode code 589 = .ok (.iaload, 1) := by decide +kernel
theorem dL_590 : decode code 590 = .ok (.aload_n 0, 1) := by decide +kernel
theorem dL_591 : decode code 591 = .ok (.iload_n 3, 1) := by decide +kernel
theorem dL_592 : decode code 592 = .ok (.iconst 2, 1) := by decide +kernel
theorem dL_593 : decode code 593 = .ok (.iadd, 1) := by decide +kernel
