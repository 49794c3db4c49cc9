theorem dL_law_351 : decode code 351 = .ok (.ireturn, 1) := by decide +kernel
theorem dL_law_352 : decode code 352 = .ok (.aload_n 1, 1) := by decide +kernel
theorem dL_law_353 : decode code 353 = .ok (.aload_n 0, 1) := by decide +kernel
theorem dL_law_354 : decode code 354 = .ok (.iload_n 3, 1) := by decide +kernel
theorem dL_law_355 : decode code 355 = .ok (.iconst 1, 1) := by decide +kernel
theorem dL_law_356 : decode code 356 = .ok (.iadd, 1) := by decide +kernel
theorem dL_law_357 : decode code 357 = .ok (.iaload, 1) := by decide +kernel
theorem dL_law_358 : decode code 358 = .ok (.invokevirtual 51, 3) := by decide +kernel
theorem dL_law_361 : decode code 361 = .ok (.aload_n 2, 1) := by decide +kernel
theorem dL_law_362 : decode code 362 = .ok (.aload_n 0, 1) := by decide +kernel
theorem dL_law_363 : decode code 363 = .ok (.iload_n 3, 1) := by decide +kernel
theorem dL_law_364 : decode code 364 = .ok (.iconst 1, 1) := by decide +kernel
theorem dL_law_365 : decode code 365 = .ok (.iadd, 1) := by decide +kernel
theorem dL_law_366 : decode code 366 = .ok (.iaload, 1) := by decide +kernel
theorem dL_law_367 : decode code 367 = .ok (.invokevirtual 54, 3) := by decide +kernel
theorem dL_law_370 : decode code 370 = .ok (.if_icmp .eq 275, 3) := by decide +kernel
theorem dL_law_373 : decode code 373 = .ok (.iconst 0, 1) := by decide +kernel
theorem dL_law_374 : decode code 374 = .ok (.ireturn, 1) := by decide +kernel
theorem dL_law_375 : decode code 375 = .ok (.aload_n 1, 1) := by decide +kernel
theorem dL_law_376 : decode code 376 = .ok (.aload_n 0, 1) := by decide +kernel
theorem dL_law_377 : decode code 377 = .ok (.iload_n 3, 1) := by decide +kernel
theorem dL_law_378 : decode code 378 = .ok (.iconst 1, 1) := by decide +kernel
theorem dL_law_379 : decode code 379 = .ok (.iadd, 1) := by decide +kernel
theorem dL_law_380 : decode code 380 = .ok (.iaload, 1) := by decide +kernel
theorem dL_law_381 : decode code 381 = .ok (.invokevirtual 55, 3) := by decide +kernel
theorem dL_law_384 : decode code 384 = .ok (.aload_n 2, 1) := by decide +kernel
theorem dL_law_385 : decode code 385 = .ok (.aload_n 0, 1) := by decide +kernel
theorem dL_law_386 : decode code 386 = .ok (.iload_n 3, 1) := by decide +kernel
theorem dL_law_387 : decode code 387 = .ok (.iconst 1, 1) := by decide +kernel
theorem dL_law_388 : decode code 388 = .ok (.iadd, 1) := by decide +kernel
theorem dL_law_389 : decode code 389 = .ok (.iaload, 1) := by decide +kernel
theorem dL_law_390 : decode code 390 = .ok (.invokevirtual 58, 3) := by decide +kernel
theorem dL_law_393 : decode code 393 = .ok (.if_icmp .eq 252, 3) := by decide +kernel
theorem dL_law_396 : decode code 396 = .ok (.iconst 0, 1) := by decide +kernel
theorem dL_law_397 : decode code 397 = .ok (.ireturn, 1) := by decide +kernel
theorem dL_law_398 : decode code 398 = .ok (.aload_n 1, 1) := by decide +kernel
theorem dL_law_399 : decode code 399 = .ok (.aload_n 0, 1) := by decide +kernel
theorem dL_law_400 : decode code 400 = .ok (.iload_n 3, 1) := by decide +kernel
theorem dL_law_401 : decode code 401 = .ok (.iconst 1, 1) := by decide +kernel
theorem dL_law_402 : decode code 402 = .ok (.iadd, 1) := by decide +kernel
theorem dL_law_403 : decode code 403 = .ok (.iaload, 1) := by decide +kernel
theorem dL_law_404 : decode code 404 = .ok (.invokevirtual 59, 3) := by decide +kernel
theorem dL_law_407 : decode code 407 = .ok (.aload_n 2, 1) := by decide +kernel
theorem dL_law_408 : decode code 408 = .ok (.aload_n 0, 1) := by decide +kernel
theorem dL_law_409 : decode code 409 = .ok (.iload_n 3, 1) := by decide +kernel
theorem dL_law_410 : decode code 410 = .ok (.iconst 1, 1) := by decide +kernel
theorem dL_law_411 : decode code 411 = .ok (.iadd, 1) := by decide +kernel
theorem dL_law_412 : decode code 412 = .ok (.iaload, 1) := by decide +kernel
theorem dL_law_413 : decode code 413 = .ok (.invokevirtual 62, 3) := by decide +kernel
theorem dL_law_416 : decode code 416 = .ok (.if_icmp .eq 229, 3) := by decide +kernel
theorem dL_law_419 : decode code 419 = .ok (.iconst 0, 1) := by decide +kernel
theorem dL_law_420 : decode code 420 = .ok (.ireturn, 1) := by decide +kernel
theorem dL_law_421 : decode code 421 = .ok (.aload_n 1, 1) := by decide +kernel
theorem dL_law_422 : decode code 422 = .ok (.aload_n 0, 1) := by decide +kernel
theorem dL_law_423 : decode code 423 = .ok (.iload_n 3, 1) := by decide +kernel
theorem dL_law_424 : decode code 424 = .ok (.iconst 1, 1) := by decide +kernel
theorem dL_law_425 : decode code 425 = .ok (.iadd, 1) := by decide +kernel
theorem dL_law_426 : decode code 426 = .ok (.iaload, 1) := by decide +kernel
theorem dL_law_427 : decode code 427 = .ok (.aload_n 0, 1) := by decide +kernel
theorem dL_law_428 : decode code 428 = .ok (.iload_n 3, 1) := by decide +kernel
theorem dL_law_429 : decode code 429 = .ok (.iconst 2, 1) := by decide +kernel
theorem dL_law_430 : decode code 430 = .ok (.iadd, 1) := by decide +kernel
theorem dL_law_431 : decode code 431 = .ok (.iaload, 1) := by decide +kernel
theorem dL_law_432 : decode code 432 = .ok (.invokevirtual 63, 3) := by decide +kernel
theorem dL_law_435 : decode code 435 = .ok (.aload_n 2, 1) := by decide +kernel
theorem dL_law_436 : decode code 436 = .ok (.aload_n 0, 1) := by decide +kernel
theorem dL_law_437 : decode code 437 = .ok (.iload_n 3, 1) := by decide +kernel
theorem dL_law_438 : decode code 438 = .ok (.iconst 1, 1) := by decide +kernel
theorem dL_law_439 : decode code 439 = .ok (.iadd, 1) := by decide +kernel
theorem dL_law_440 : decode code 440 = .ok (.iaload, 1) := by decide +kernel
theorem dL_law_441 : decode code 441 = .ok (.aload_n 0, 1) := by decide +kernel
theorem dL_law_442 : decode code 442 = .ok (.iload_n 3, 1) := by decide +kernel
theorem dL_law_443 : decode code 443 = .ok (.iconst 2, 1) := by decide +kernel
theorem dL_law_444 : decode code 444 = .ok (.iadd, 1) := by decide +kernel
theorem dL_law_445 : decode code 445 = .ok (.iaload, 1) := by decide +kernel
theorem dL_law_446 : decode code 446 = .ok (.invokevirtual 67, 3) := by decide +kernel
theorem dL_law_449 : decode code 449 = .ok (.if_icmp .eq 196, 3) := by decide +kernel
theorem dL_law_452 : decode code 452 = .ok (.iconst 0, 1) := by decide +kernel
theorem dL_law_453 : decode code 453 = .ok (.ireturn, 1) := by decide +kernel
theorem dL_law_454 : decode code 454 = .ok (.aload_n 1, 1) := by decide +kernel
theorem dL_law_455 : decode code 455 = .ok (.aload_n 0, 1) := by decide +kernel
theorem dL_law_456 : decode code 456 = .ok (.iload_n 3, 1) := by decide +kernel
theorem dL_law_457 : decode code 457 = .ok (.iconst 1, 1) := by decide +kernel
theorem dL_law_458 : decode code 458 = .ok (.iadd, 1) := by decide +kernel
theorem dL_law_459 : decode code 459 = .ok (.iaload, 1) := by decide +kernel
theorem dL_law_460 : decode code 460 = .ok (.invokevirtual 68, 3) := by decide +kernel
theorem dL_law_463 : decode code 463 = .ok (.aload_n 2, 1) := by decide +kernel
theorem dL_law_464 : decode code 464 = .ok (.aload_n 0, 1) := by decide +kernel
theorem dL_law_465 : decode code 465 = .ok (.iload_n 3, 1) := by decide +kernel
theorem dL_law_466 : decode code 466 = .ok (.iconst 1, 1) := by decide +kernel
theorem dL_law_467 : decode code 467 = .ok (.iadd, 1) := by decide +kernel
theorem dL_law_468 : decode code 468 = .ok (.iaload, 1) := by decide +kernel
theorem dL_law_469 : decode code 469 = .ok (.invokevirtual 71, 3) := by decide +kernel
theorem dL_law_472 : decode code 472 = .ok (.if_icmp .eq 173, 3) := by decide +kernel
theorem dL_law_475 : decode code 475 = .ok (.iconst 0, 1) := by decide +kernel
theorem dL_law_476 : decode code 476 = .ok (.ireturn, 1) := by decide +kernel
theorem dL_law_477 : decode code 477 = .ok (.aload_n 1, 1) := by decide +kernel
theorem dL_law_478 : decode code 478 = .ok (.aload_n 0, 1) := by decide +kernel
theorem dL_law_479 : decode code 479 = .ok (.iload_n 3, 1) := by decide +kernel
theorem dL_law_480 : decode code 480 = .ok (.iconst 1, 1) := by decide +kernel
theorem dL_law_481 : decode code 481 = .ok (.iadd, 1) := by decide +kernel
theorem dL_law_482 : decode code 482 = .ok (.iaload, 1) := by decide +kernel
theorem dL_law_483 : decode code 483 = .ok (.invokevirtual 72, 3) := by decide +kernel
theorem dL_law_486 : decode code 486 = .ok (.aload_n 2, 1) := by decide +kernel
theorem dL_law_487 : decode code 487 = .ok (.aload_n 0, 1) := by decide +kernel
theorem dL_law_488 : decode code 488 = .ok (.iload_n 3, 1) := by decide +kernel
theorem dL_law_489 : decode code 489 = .ok (.iconst 1, 1) := by decide +kernel
theorem dL_law_490 : decode code 490 = .ok (.iadd, 1) := by decide +kernel
theorem dL_law_491 : decode code 491 = .ok (.iaload, 1) := by decide +kernel
theorem dL_law_492 : decode code 492 = .ok (.invokevirtual 75, 3) := by decide +kernel
theorem dL_law_495 : decode code 495 = .ok (.if_icmp .eq 150, 3) := by decide +kernel
theorem dL_law_498 : decode code 498 = .ok (.iconst 0, 1) := by decide +kernel
theorem dL_law_499 : decode code 499 = .ok (.ireturn, 1) := by decide +kernel
theorem dL_law_500 : decode code 500 = .ok (.aload_n 1, 1) := by decide +kernel
theorem dL_law_501 : decode code 501 = .ok (.aload_n 0, 1) := by decide +kernel
theorem dL_law_502 : decode code 502 = .ok (.iload_n 3, 1) := by decide +kernel
theorem dL_law_503 : decode code 503 = .ok (.iconst 1, 1) := by decide +kernel
theorem dL_law_504 : decode code 504 = .ok (.iadd, 1) := by decide +kernel
theorem dL_law_505 : decode code 505 = .ok (.iaload, 1) := by decide +kernel
theorem dL_law_506 : decode code 506 = .ok (.aload_n 0, 1) := by decide +kernel
theorem dL_law_507 : decode code 507 = .ok (.iload_n 3, 1) := by decide +kernel
theorem dL_law_508 : decode code 508 = .ok (.iconst 2, 1) := by decide +kernel
theorem dL_law_509 : decode code 509 = .ok (.iadd, 1) := by decide +kernel
theorem dL_law_510 : decode code 510 = .ok (.iaload, 1) := by decide +kernel
theorem dL_law_511 : decode code 511 = .ok (.aload_n 0, 1) := by decide +kernel
theorem dL_law_512 : decode code 512 = .ok (.iload_n 3, 1) := by decide +kernel
theorem dL_law_513 : decode code 513 = .ok (.iconst 3, 1) := by decide +kernel
theorem dL_law_514 : decode code 514 = .ok (.iadd, 1) := by decide +kernel
theorem dL_law_515 : decode code 515 = .ok (.iaload, 1) := by decide +kernel
theorem dL_law_516 : decode code 516 = .ok (.invokevirtual 76, 3) := by decide +kernel
theorem dL_law_519 : decode code 519 = .ok (.aload_n 2, 1) := by decide +kernel
theorem dL_law_520 : decode code 520 = .ok (.aload_n 0, 1) := by decide +kernel
theorem dL_law_521 : decode code 521 = .ok (.iload_n 3, 1) := by decide +kernel
theorem dL_law_522 : decode code 522 = .ok (.iconst 1, 1) := by decide +kernel
theorem dL_law_523 : decode code 523 = .ok (.iadd, 1) := by decide +kernel
theorem dL_law_524 : decode code 524 = .ok (.iaload, 1) := by decide +kernel
theorem dL_law_525 : decode code 525 = .ok (.aload_n 0, 1) := by decide +kernel
theorem dL_law_526 : decode code 526 = .ok (.iload_n 3, 1) := by decide +kernel
theorem dL_law_527 : decode code 527 = .ok (.iconst 2, 1) := by decide +kernel
theorem dL_law_528 : decode code 528 = .ok (.iadd, 1) := by decide +kernel
theorem dL_law_529 : decode code 529 = .ok (.iaload, 1) := by decide +kernel
theorem dL_law_530 : decode code 530 = .ok (.aload_n 0, 1) := by decide +kernel
theorem dL_law_531 : decode code 531 = .ok (.iload_n 3, 1) := by decide +kernel
theorem dL_law_532 : decode code 532 = .ok (.iconst 3, 1) := by decide +kernel
theorem dL_law_533 : decode code 533 = .ok (.iadd, 1) := by decide +kernel
theorem dL_law_534 : decode code 534 = .ok (.iaload, 1) := by decide +kernel
theorem dL_law_535 : decode code 535 = .ok (.invokevirtual 79, 3) := by decide +kernel
theorem dL_law_538 : decode code 538 = .ok (.if_icmp .eq 107, 3) := by decide +kernel
theorem dL_law_541 : decode code 541 = .ok (.iconst 0, 1) := by decide +kernel
theorem dL_law_542 : decode code 542 = .ok (.ireturn, 1) := by decide +kernel
theorem dL_law_543 : decode code 543 = .ok (.aload_n 1, 1) := by decide +kernel
theorem dL_law_544 : decode code 544 = .ok (.aload_n 0, 1) := by decide +kernel
theorem dL_law_545 : decode code 545 = .ok (.iload_n 3, 1) := by decide +kernel
theorem dL_law_546 : decode code 546 = .ok (.iconst 1, 1) := by decide +kernel
theorem dL_law_547 : decode code 547 = .ok (.iadd, 1) := by decide +kernel
theorem dL_law_548 : decode code 548 = .ok (.iaload, 1) := by decide +kernel
theorem dL_law_549 : decode code 549 = .ok (.aload_n 0, 1) := by decide +kernel
theorem dL_law_550 : decode code 550 = .ok (.iload_n 3, 1) := by decide +kernel
theorem dL_law_551 : decode code 551 = .ok (.iconst 2, 1) := by decide +kernel
theorem dL_law_552 : decode code 552 = .ok (.iadd, 1) := by decide +kernel
theorem dL_law_553 : decode code 553 = .ok (.iaload, 1) := by decide +kernel
theorem dL_law_554 : decode code 554 = .ok (.invokevirtual 80, 3) := by decide +kernel
theorem dL_law_557 : decode code 557 = .ok (.aload_n 2, 1) := by decide +kernel
theorem dL_law_558 : decode code 558 = .ok (.aload_n 0, 1) := by decide +kernel
theorem dL_law_559 : decode code 559 = .ok (.iload_n 3, 1) := by decide +kernel
theorem dL_law_560 : decode code 560 = .ok (.iconst 1, 1) := by decide +kernel
theorem dL_law_561 : decode code 561 = .ok (.iadd, 1) := by decide +kernel
theorem dL_law_562 : decode code 562 = .ok (.iaload, 1) := by decide +kernel
theorem dL_law_563 : decode code 563 = .ok (.aload_n 0, 1) := by decide +kernel
theorem dL_law_564 : decode code 564 = .ok (.iload_n 3, 1) := by decide +kernel
theorem dL_law_565 : decode code 565 = .ok (.iconst 2, 1) := by decide +kernel
theorem dL_law_566 : decode code 566 = .ok (.iadd, 1) := by decide +kernel
theorem dL_law_567 : decode code 567 = .ok (.iaload, 1) := by decide +kernel
theorem dL_law_568 : decode code 568 = .ok (.invokevirtual 83, 3) := by decide +kernel
theorem dL_law_571 : decode code 571 = .ok (.if_icmp .eq 74, 3) := by decide +kernel
theorem dL_law_574 : decode code 574 = .ok (.iconst 0, 1) := by decide +kernel
theorem dL_law_575 : decode code 575 = .ok (.ireturn, 1) := by decide +kernel
theorem dL_law_576 : decode code 576 = .ok (.aload_n 1, 1) := by decide +kernel
theorem dL_law_577 : decode code 577 = .ok (.aload_n 0, 1) := by decide +kernel
theorem dL_law_578 : decode code 578 = .ok (.iload_n 3, 1) := by decide +kernel
theorem dL_law_579 : decode code 579 = .ok (.iconst 1, 1) := by decide +kernel
theorem dL_law_580 : decode code 580 = .ok (.iadd, 1) := by decide +kernel
theorem dL_law_581 : decode code 581 = .ok (.iaload, 1) := by decide +kernel
theorem dL_law_582 : decode code 582 = .ok (.aload_n 0, 1) := by decide +kernel
theorem dL_law_583 : decode code 583 = .ok (.iload_n 3, 1) := by decide +kernel
theorem dL_law_584 : decode code 584 = .ok (.iconst 2, 1) := by decide +kernel
theorem dL_law_585 : decode code 585 = .ok (.iadd, 1) := by decide +kernel
theorem dL_law_586 : decode code 586 = .ok (.iaload, 1) := by decide +kernel
theorem dL_law_587 : decode code 587 = .ok (.invokevirtual 84, 3) := by decide +kernel
theorem dL_law_590 : decode code 590 = .ok (.aload_n 2, 1) := by decide +kernel
theorem dL_law_591 : decode code 591 = .ok (.aload_n 0, 1) := by decide +kernel
theorem dL_law_592 : decode code 592 = .ok (.iload_n 3, 1) := by decide +kernel
theorem dL_law_593 : decode code 593 = .ok (.iconst 1, 1) := by decide +kernel
theorem dL_law_594 : decode code 594 = .ok (.iadd, 1) := by decide +kernel
theorem dL_law_595 : decode code 595 = .ok (.iaload, 1) := by decide +kernel
theorem dL_law_596 : decode code 596 = .ok (.aload_n 0, 1) := by decide +kernel
theorem dL_law_597 : decode code 597 = .ok (.iload_n 3, 1) := by decide +kernel
theorem dL_law_598 : decode code 598 = .ok (.iconst 2, 1) := by decide +kernel
theorem dL_law_599 : decode code 599 = .ok (.iadd, 1) := by decide +kernel
theorem dL_law_600 : decode code 600 = .ok (.iaload, 1) := by decide +kernel
theorem dL_law_601 : decode code 601 = .ok (.invokevirtual 87, 3) := by decide +kernel
theorem dL_law_604 : decode code 604 = .ok (.if_icmp .eq 41, 3) := by decide +kernel
theorem dL_law_607 : decode code 607 = .ok (.iconst 0, 1) := by decide +kernel
theorem dL_law_608 : decode code 608 = .ok (.ireturn, 1) := by decide +kernel
theorem dL_law_609 : decode code 609 = .ok (.aload_n 1, 1) := by decide +kernel
theorem dL_law_610 : decode code 610 = .ok (.invokevirtual 88, 3) := by decide +kernel
theorem dL_law_613 : decode code 613 = .ok (.aload_n 2, 1) := by decide +kernel
theorem dL_law_614 : decode code 614 = .ok (.invokevirtual 92, 3) := by decide +kernel
theorem dL_law_617 : decode code 617 = .ok (.if_icmp .eq 28, 3) := by decide +kernel
theorem dL_law_620 : decode code 620 = .ok (.iconst 0, 1) := by decide +kernel
theorem dL_law_621 : decode code 621 = .ok (.ireturn, 1) := by decide +kernel
theorem dL_law_622 : decode code 622 = .ok (.aload_n 1, 1) := by decide +kernel
theorem dL_law_623 : decode code 623 = .ok (.aload_n 0, 1) := by decide +kernel
theorem dL_law_624 : decode code 624 = .ok (.iload_n 3, 1) := by decide +kernel
theorem dL_law_625 : decode code 625 = .ok (.iconst 1, 1) := by decide +kernel
theorem dL_law_626 : decode code 626 = .ok (.iadd, 1) := by decide +kernel
theorem dL_law_627 : decode code 627 = .ok (.iaload, 1) := by decide +kernel
theorem dL_law_628 : decode code 628 = .ok (.invokevirtual 93, 3) := by decide +kernel
theorem dL_law_631 : decode code 631 = .ok (.aload_n 2, 1) := by decide +kernel
theorem dL_law_632 : decode code 632 = .ok (.aload_n 0, 1) := by decide +kernel
theorem dL_law_633 : decode code 633 = .ok (.iload_n 3, 1) := by decide +kernel
theorem dL_law_634 : decode code 634 = .ok (.iconst 1, 1) := by decide +kernel
theorem dL_law_635 : decode code 635 = .ok (.iadd, 1) := by decide +kernel
theorem dL_law_636 : decode code 636 = .ok (.iaload, 1) := by decide +kernel
theorem dL_law_637 : decode code 637 = .ok (.invokevirtual 96, 3) := by decide +kernel
theorem dL_law_640 : decode code 640 = .ok (.if_icmp .eq 5, 3) := by decide +kernel
theorem dL_law_643 : decode code 643 = .ok (.iconst 0, 1) := by decide +kernel
theorem dL_law_644 : decode code 644 = .ok (.ireturn, 1) := by decide +kernel
theorem dL_law_645 : decode code 645 = .ok (.iinc 3 6, 3) := by decide +kernel
theorem dL_law_648 : decode code 648 = .ok (.goto (-620), 3) := by decide +kernel
theorem dL_law_651 : decode code 651 = .ok (.iconst 1, 1) := by decide +kernel
theorem dL_law_652 : decode code 652 = .ok (.ireturn, 1) := by decide +kernel
