theorem oe_105_365 : okE 105 365 (37, 0, 0, 366) := oi_ialdS (by decide +kernel) rfl rfl
theorem oe_105_366 : okE 105 366 (3, 0, 0, 367) := oi_aload_n (k := 0) (by decide +kernel) rfl rfl
theorem oe_105_367 : okE 105 367 (2, 4, 0, 369) := oi_iload (by decide +kernel) rfl
theorem oe_105_369 : okE 105 369 (0, 4, 0, 370) := oi_iconst (n := 4) (by decide +kernel) (by decide +kernel) rfl
theorem oe_105_370 : okE 105 370 (6, 0, 0, 371) := oi_iadd (by decide +kernel) rfl
theorem oe_105_371 : okE 105 371 (37, 0, 0, 372) := oi_ialdS (by decide +kernel) rfl rfl
theorem oe_105_372 : okE 105 372 (3, 0, 0, 373) := oi_aload_n (k := 0) (by decide +kernel) rfl rfl
theorem oe_105_373 : okE 105 373 (2, 4, 0, 375) := oi_iload (by decide +kernel) rfl
theorem oe_105_375 : okE 105 375 (0, 5, 0, 376) := oi_iconst (n := 5) (by decide +kernel) (by decide +kernel) rfl
theorem oe_105_376 : okE 105 376 (6, 0, 0, 377) := oi_iadd (by decide +kernel) rfl
theorem oe_105_377 : okE 105 377 (37, 0, 0, 378) := oi_ialdS (by decide +kernel) rfl rfl
theorem oe_105_378 : okE 105 378 (70, 26, 6, 381) := oi_callV (i := 66) (by decide +kernel) rfl (by decide) (by decide) okm_26 (by decide) (by rfl) mw_768 mw_769 mw_770 mw_53 (by decide +kernel)
theorem oe_105_381 : okE 105 381 (4, 6, 0, 383) := oi_istore (by decide) (by decide +kernel) rfl
theorem oe_105_383 : okE 105 383 (3, 2, 0, 384) := oi_aload_n (k := 2) (by decide +kernel) rfl rfl
theorem oe_105_384 : okE 105 384 (70, 14, 1, 387) := oi_callV (i := 46) (by decide +kernel) rfl (by decide) (by decide) okm_14 (by decide) (by rfl) mw_725 mw_726 mw_727 mw_53 (by decide +kernel)
theorem oe_105_387 : okE 105 387 (2, 5, 0, 389) := oi_iload (by decide +kernel) rfl
theorem oe_105_389 : okE 105 389 (56, 394, 0, 392) := oi_if_icmpeq (f := 5) (by decide +kernel) (by decide) rfl
theorem oe_105_392 : okE 105 392 (0, 0, 0, 393) := oi_iconst (n := 0) (by decide +kernel) (by decide +kernel) rfl
theorem oe_105_393 : okE 105 393 (80, 2, 0, 0) := oi_ireturnZ (by decide +kernel) rfl
theorem oe_105_394 : okE 105 394 (2, 5, 0, 396) := oi_iload (by decide +kernel) rfl
theorem oe_105_396 : okE 105 396 (51, 411, 0, 399) := oi_ifne (f := 15) (by decide +kernel) (by decide) rfl
theorem oe_105_399 : okE 105 399 (3, 3, 0, 400) := oi_aload_n (k := 3) (by decide +kernel) rfl rfl
theorem oe_105_400 : okE 105 400 (0, 0, 0, 401) := oi_iconst (n := 0) (by decide +kernel) (by decide +kernel) rfl
theorem oe_105_401 : okE 105 401 (35, 0, 0, 402) := oi_lald (by decide +kernel) rfl
theorem oe_105_402 : okE 105 402 (2, 6, 0, 404) := oi_iload (by decide +kernel) rfl
theorem oe_105_404 : okE 105 404 (21, 0, 0, 405) := oi_i2l (by decide +kernel) rfl
theorem oe_105_405 : okE 105 405 (22, 0, 0, 406) := oi_lcmp (by decide +kernel) rfl
theorem oe_105_406 : okE 105 406 (50, 411, 0, 409) := oi_ifeq (f := 5) (by decide +kernel) (by decide) rfl
theorem oe_105_409 : okE 105 409 (0, 0, 0, 410) := oi_iconst (n := 0) (by decide +kernel) (by decide +kernel) rfl
theorem oe_105_410 : okE 105 410 (80, 2, 0, 0) := oi_ireturnZ (by decide +kernel) rfl
theorem oe_105_411 : okE 105 411 (18, 0, 0, 809) := oi_goto (f := 398) (by decide +kernel) (by decide)
theorem oe_105_414 : okE 105 414 (3, 1, 0, 415) := oi_aload_n (k := 1) (by decide +kernel) rfl rfl
theorem oe_105_415 : okE 105 415 (3, 0, 0, 416) := oi_aload_n (k := 0) (by decide +kernel) rfl rfl
theorem oe_105_416 : okE 105 416 (2, 4, 0, 418) := oi_iload (by decide +kernel) rfl
theorem oe_105_418 : okE 105 418 (0, 1, 0, 419) := oi_iconst (n := 1) (by decide +kernel) (by decide +kernel) rfl
theorem oe_105_419 : okE 105 419 (6, 0, 0, 420) := oi_iadd (by decide +kernel) rfl
theorem oe_105_420 : okE 105 420 (37, 0, 0, 421) := oi_ialdS (by decide +kernel) rfl rfl
theorem oe_105_421 : okE 105 421 (3, 0, 0, 422) := oi_aload_n (k := 0) (by decide +kernel) rfl rfl
theorem oe_105_422 : okE 105 422 (2, 4, 0, 424) := oi_iload (by decide +kernel) rfl
theorem oe_105_424 : okE 105 424 (0, 2, 0, 425) := oi_iconst (n := 2) (by decide +kernel) (by decide +kernel) rfl
theorem oe_105_425 : okE 105 425 (6, 0, 0, 426) := oi_iadd (by decide +kernel) rfl
theorem oe_105_426 : okE 105 426 (37, 0, 0, 427) := oi_ialdS (by decide +kernel) rfl rfl
theorem oe_105_427 : okE 105 427 (3, 0, 0, 428) := oi_aload_n (k := 0) (by decide +kernel) rfl rfl
theorem oe_105_428 : okE 105 428 (2, 4, 0, 430) := oi_iload (by decide +kernel) rfl
theorem oe_105_430 : okE 105 430 (0, 3, 0, 431) := oi_iconst (n := 3) (by decide +kernel) (by decide +kernel) rfl
theorem oe_105_431 : okE 105 431 (6, 0, 0, 432) := oi_iadd (by decide +kernel) rfl
theorem oe_105_432 : okE 105 432 (37, 0, 0, 433) := oi_ialdS (by decide +kernel) rfl rfl
theorem oe_105_433 : okE 105 433 (3, 0, 0, 434) := oi_aload_n (k := 0) (by decide +kernel) rfl rfl
theorem oe_105_434 : okE 105 434 (2, 4, 0, 436) := oi_iload (by decide +kernel) rfl
theorem oe_105_436 : okE 105 436 (0, 4, 0, 437) := oi_iconst (n := 4) (by decide +kernel) (by decide +kernel) rfl
theorem oe_105_437 : okE 105 437 (6, 0, 0, 438) := oi_iadd (by decide +kernel) rfl
theorem oe_105_438 : okE 105 438 (37, 0, 0, 439) := oi_ialdS (by decide +kernel) rfl rfl
theorem oe_105_439 : okE 105 439 (3, 0, 0, 440) := oi_aload_n (k := 0) (by decide +kernel) rfl rfl
theorem oe_105_440 : okE 105 440 (2, 4, 0, 442) := oi_iload (by decide +kernel) rfl
theorem oe_105_442 : okE 105 442 (0, 5, 0, 443) := oi_iconst (n := 5) (by decide +kernel) (by decide +kernel) rfl
theorem oe_105_443 : okE 105 443 (6, 0, 0, 444) := oi_iadd (by decide +kernel) rfl
theorem oe_105_444 : okE 105 444 (37, 0, 0, 445) := oi_ialdS (by decide +kernel) rfl rfl
theorem oe_105_445 : okE 105 445 (3, 3, 0, 446) := oi_aload_n (k := 3) (by decide +kernel) rfl rfl
theorem oe_105_446 : okE 105 446 (91, 0, 0, 449) := trivial
theorem oe_105_449 : okE 105 449 (4, 5, 0, 451) := oi_istore (by decide) (by decide +kernel) rfl
theorem oe_105_451 : okE 105 451 (3, 2, 0, 452) := oi_aload_n (k := 2) (by decide +kernel) rfl rfl
theorem oe_105_452 : okE 105 452 (3, 0, 0, 453) := oi_aload_n (k := 0) (by decide +kernel) rfl rfl
theorem oe_105_453 : okE 105 453 (2, 4, 0, 455) := oi_iload (by decide +kernel) rfl
theorem oe_105_455 : okE 105 455 (0, 1, 0, 456) := oi_iconst (n := 1) (by decide +kernel) (by decide +kernel) rfl
theorem oe_105_456 : okE 105 456 (6, 0, 0, 457) := oi_iadd (by decide +kernel) rfl
theorem oe_105_457 : okE 105 457 (37, 0, 0, 458) := oi_ialdS (by decide +kernel) rfl rfl
theorem oe_105_458 : okE 105 458 (3, 0, 0, 459) := oi_aload_n (k := 0) (by decide +kernel) rfl rfl
theorem oe_105_459 : okE 105 459 (2, 4, 0, 461) := oi_iload (by decide +kernel) rfl
theorem oe_105_461 : okE 105 461 (0, 2, 0, 462) := oi_iconst (n := 2) (by decide +kernel) (by decide +kernel) rfl
theorem oe_105_462 : okE 105 462 (6, 0, 0, 463) := oi_iadd (by decide +kernel) rfl
theorem oe_105_463 : okE 105 463 (37, 0, 0, 464) := oi_ialdS (by decide +kernel) rfl rfl
theorem oe_105_464 : okE 105 464 (3, 0, 0, 465) := oi_aload_n (k := 0) (by decide +kernel) rfl rfl
theorem oe_105_465 : okE 105 465 (2, 4, 0, 467) := oi_iload (by decide +kernel) rfl
theorem oe_105_467 : okE 105 467 (0, 3, 0, 468) := oi_iconst (n := 3) (by decide +kernel) (by decide +kernel) rfl
theorem oe_105_468 : okE 105 468 (6, 0, 0, 469) := oi_iadd (by decide +kernel) rfl
theorem oe_105_469 : okE 105 469 (37, 0, 0, 470) := oi_ialdS (by decide +kernel) rfl rfl
theorem oe_105_470 : okE 105 470 (3, 0, 0, 471) := oi_aload_n (k := 0) (by decide +kernel) rfl rfl
theorem oe_105_471 : okE 105 471 (2, 4, 0, 473) := oi_iload (by decide +kernel) rfl
theorem oe_105_473 : okE 105 473 (0, 4, 0, 474) := oi_iconst (n := 4) (by decide +kernel) (by decide +kernel) rfl
theorem oe_105_474 : okE 105 474 (6, 0, 0, 475) := oi_iadd (by decide +kernel) rfl
theorem oe_105_475 : okE 105 475 (37, 0, 0, 476) := oi_ialdS (by decide +kernel) rfl rfl
theorem oe_105_476 : okE 105 476 (3, 0, 0, 477) := oi_aload_n (k := 0) (by decide +kernel) rfl rfl
theorem oe_105_477 : okE 105 477 (2, 4, 0, 479) := oi_iload (by decide +kernel) rfl
theorem oe_105_479 : okE 105 479 (0, 5, 0, 480) := oi_iconst (n := 5) (by decide +kernel) (by decide +kernel) rfl
theorem oe_105_480 : okE 105 480 (6, 0, 0, 481) := oi_iadd (by decide +kernel) rfl
theorem oe_105_481 : okE 105 481 (37, 0, 0, 482) := oi_ialdS (by decide +kernel) rfl rfl
theorem oe_105_482 : okE 105 482 (70, 27, 6, 485) := oi_callV (i := 69) (by decide +kernel) rfl (by decide) (by decide) okm_27 (by decide) (by rfl) mw_772 mw_773 mw_774 mw_53 (by decide +kernel)
theorem oe_105_485 : okE 105 485 (4, 6, 0, 487) := oi_istore (by decide) (by decide +kernel) rfl
theorem oe_105_487 : okE 105 487 (3, 2, 0, 488) := oi_aload_n (k := 2) (by decide +kernel) rfl rfl
theorem oe_105_488 : okE 105 488 (70, 14, 1, 491) := oi_callV (i := 46) (by decide +kernel) rfl (by decide) (by decide) okm_14 (by decide) (by rfl) mw_725 mw_726 mw_727 mw_53 (by decide +kernel)
theorem oe_105_491 : okE 105 491 (2, 5, 0, 493) := oi_iload (by decide +kernel) rfl
theorem oe_105_493 : okE 105 493 (56, 498, 0, 496) := oi_if_icmpeq (f := 5) (by decide +kernel) (by decide) rfl
theorem oe_105_496 : okE 105 496 (0, 0, 0, 497) := oi_iconst (n := 0) (by decide +kernel) (by decide +kernel) rfl
theorem oe_105_497 : okE 105 497 (80, 2, 0, 0) := oi_ireturnZ (by decide +kernel) rfl
theorem oe_105_498 : okE 105 498 (2, 5, 0, 500) := oi_iload (by decide +kernel) rfl
theorem oe_105_500 : okE 105 500 (51, 515, 0, 503) := oi_ifne (f := 15) (by decide +kernel) (by decide) rfl
theorem oe_105_503 : okE 105 503 (3, 3, 0, 504) := oi_aload_n (k := 3) (by decide +kernel) rfl rfl
theorem oe_105_504 : okE 105 504 (0, 0, 0, 505) := oi_iconst (n := 0) (by decide +kernel) (by decide +kernel) rfl
theorem oe_105_505 : okE 105 505 (35, 0, 0, 506) := oi_lald (by decide +kernel) rfl
theorem oe_105_506 : okE 105 506 (2, 6, 0, 508) := oi_iload (by decide +kernel) rfl
theorem oe_105_508 : okE 105 508 (21, 0, 0, 509) := oi_i2l (by decide +kernel) rfl
theorem oe_105_509 : okE 105 509 (22, 0, 0, 510) := oi_lcmp (by decide +kernel) rfl
theorem oe_105_510 : okE 105 510 (50, 515, 0, 513) := oi_ifeq (f := 5) (by decide +kernel) (by decide) rfl
theorem oe_105_513 : okE 105 513 (0, 0, 0, 514) := oi_iconst (n := 0) (by decide +kernel) (by decide +kernel) rfl
theorem oe_105_514 : okE 105 514 (80, 2, 0, 0) := oi_ireturnZ (by decide +kernel) rfl
theorem oe_105_515 : okE 105 515 (18, 0, 0, 809) := oi_goto (f := 294) (by decide +kernel) (by decide)
theorem oe_105_518 : okE 105 518 (3, 1, 0, 519) := oi_aload_n (k := 1) (by decide +kernel) rfl rfl
theorem oe_105_519 : okE 105 519 (3, 0, 0, 520) := oi_aload_n (k := 0) (by decide +kernel) rfl rfl
theorem oe_105_520 : okE 105 520 (2, 4, 0, 522) := oi_iload (by decide +kernel) rfl
theorem oe_105_522 : okE 105 522 (0, 1, 0, 523) := oi_iconst (n := 1) (by decide +kernel) (by decide +kernel) rfl
theorem oe_105_523 : okE 105 523 (6, 0, 0, 524) := oi_iadd (by decide +kernel) rfl
theorem oe_105_524 : okE 105 524 (37, 0, 0, 525) := oi_ialdS (by decide +kernel) rfl rfl
theorem oe_105_525 : okE 105 525 (70, 6, 2, 528) := oi_callV (i := 70) (by decide +kernel) rfl (by decide) (by decide) okm_6 (by decide) (by rfl) mw_253 mw_254 mw_255 mw_47 (by decide +kernel)
theorem oe_105_528 : okE 105 528 (3, 2, 0, 529) := oi_aload_n (k := 2) (by decide +kernel) rfl rfl
theorem oe_105_529 : okE 105 529 (3, 0, 0, 530) := oi_aload_n (k := 0) (by decide +kernel) rfl rfl
theorem oe_105_530 : okE 105 530 (2, 4, 0, 532) := oi_iload (by decide +kernel) rfl
theorem oe_105_532 : okE 105 532 (0, 1, 0, 533) := oi_iconst (n := 1) (by decide +kernel) (by decide +kernel) rfl
theorem oe_105_533 : okE 105 533 (6, 0, 0, 534) := oi_iadd (by decide +kernel) rfl
theorem oe_105_534 : okE 105 534 (37, 0, 0, 535) := oi_ialdS (by decide +kernel) rfl rfl
theorem oe_105_535 : okE 105 535 (70, 35, 2, 538) := oi_callV (i := 73) (by decide +kernel) rfl (by decide) (by decide) okm_35 (by decide) (by rfl) mw_780 mw_781 mw_782 mw_53 (by decide +kernel)
theorem oe_105_538 : okE 105 538 (56, 809, 0, 541) := oi_if_icmpeq (f := 271) (by decide +kernel) (by decide) rfl
theorem oe_105_541 : okE 105 541 (0, 0, 0, 542) := oi_iconst (n := 0) (by decide +kernel) (by decide +kernel) rfl
theorem oe_105_542 : okE 105 542 (80, 2, 0, 0) := oi_ireturnZ (by decide +kernel) rfl
theorem oe_105_543 : okE 105 543 (3, 1, 0, 544) := oi_aload_n (k := 1) (by decide +kernel) rfl rfl
theorem oe_105_544 : okE 105 544 (3, 0, 0, 545) := oi_aload_n (k := 0) (by decide +kernel) rfl rfl
theorem oe_105_545 : okE 105 545 (2, 4, 0, 547) := oi_iload (by decide +kernel) rfl
theorem oe_105_547 : okE 105 547 (0, 1, 0, 548) := oi_iconst (n := 1) (by decide +kernel) (by decide +kernel) rfl
theorem oe_105_548 : okE 105 548 (6, 0, 0, 549) := oi_iadd (by decide +kernel) rfl
theorem oe_105_549 : okE 105 549 (37, 0, 0, 550) := oi_ialdS (by decide +kernel) rfl rfl
theorem oe_105_550 : okE 105 550 (3, 0, 0, 551) := oi_aload_n (k := 0) (by decide +kernel) rfl rfl
theorem oe_105_551 : okE 105 551 (2, 4, 0, 553) := oi_iload (by decide +kernel) rfl
theorem oe_105_553 : okE 105 553 (0, 2, 0, 554) := oi_iconst (n := 2) (by decide +kernel) (by decide +kernel) rfl
theorem oe_105_554 : okE 105 554 (6, 0, 0, 555) := oi_iadd (by decide +kernel) rfl
theorem oe_105_555 : okE 105 555 (37, 0, 0, 556) := oi_ialdS (by decide +kernel) rfl rfl
theorem oe_105_556 : okE 105 556 (70, 7, 3, 559) := oi_callV (i := 74) (by decide +kernel) rfl (by decide) (by decide) okm_7 (by decide) (by rfl) mw_319 mw_320 mw_321 mw_47 (by decide +kernel)
theorem oe_105_559 : okE 105 559 (3, 2, 0, 560) := oi_aload_n (k := 2) (by decide +kernel) rfl rfl
theorem oe_105_560 : okE 105 560 (3, 0, 0, 561) := oi_aload_n (k := 0) (by decide +kernel) rfl rfl
theorem oe_105_561 : okE 105 561 (2, 4, 0, 563) := oi_iload (by decide +kernel) rfl
theorem oe_105_563 : okE 105 563 (0, 1, 0, 564) := oi_iconst (n := 1) (by decide +kernel) (by decide +kernel) rfl
theorem oe_105_564 : okE 105 564 (6, 0, 0, 565) := oi_iadd (by decide +kernel) rfl
theorem oe_105_565 : okE 105 565 (37, 0, 0, 566) := oi_ialdS (by decide +kernel) rfl rfl
theorem oe_105_566 : okE 105 566 (3, 0, 0, 567) := oi_aload_n (k := 0) (by decide +kernel) rfl rfl
theorem oe_105_567 : okE 105 567 (2, 4, 0, 569) := oi_iload (by decide +kernel) rfl
theorem oe_105_569 : okE 105 569 (0, 2, 0, 570) := oi_iconst (n := 2) (by decide +kernel) (by decide +kernel) rfl
theorem oe_105_570 : okE 105 570 (6, 0, 0, 571) := oi_iadd (by decide +kernel) rfl
theorem oe_105_571 : okE 105 571 (37, 0, 0, 572) := oi_ialdS (by decide +kernel) rfl rfl
theorem oe_105_572 : okE 105 572 (70, 36, 3, 575) := oi_callV (i := 78) (by decide +kernel) rfl (by decide) (by decide) okm_36 (by decide) (by rfl) mw_809 mw_810 mw_811 mw_53 (by decide +kernel)
theorem oe_105_575 : okE 105 575 (56, 809, 0, 578) := oi_if_icmpeq (f := 234) (by decide +kernel) (by decide) rfl
theorem oe_105_578 : okE 105 578 (0, 0, 0, 579) := oi_iconst (n := 0) (by decide +kernel) (by decide +kernel) rfl
theorem oe_105_579 : okE 105 579 (80, 2, 0, 0) := oi_ireturnZ (by decide +kernel) rfl
theorem oe_105_580 : okE 105 580 (3, 1, 0, 581) := oi_aload_n (k := 1) (by decide +kernel) rfl rfl
theorem oe_105_581 : okE 105 581 (3, 0, 0, 582) := oi_aload_n (k := 0) (by decide +kernel) rfl rfl
theorem oe_105_582 : okE 105 582 (2, 4, 0, 584) := oi_iload (by decide +kernel) rfl
theorem oe_105_584 : okE 105 584 (0, 1, 0, 585) := oi_iconst (n := 1) (by decide +kernel) (by decide +kernel) rfl
theorem oe_105_585 : okE 105 585 (6, 0, 0, 586) := oi_iadd (by decide +kernel) rfl
theorem oe_105_586 : okE 105 586 (37, 0, 0, 587) := oi_ialdS (by decide +kernel) rfl rfl
theorem oe_105_587 : okE 105 587 (3, 0, 0, 588) := oi_aload_n (k := 0) (by decide +kernel) rfl rfl
theorem oe_105_588 : okE 105 588 (2, 4, 0, 590) := oi_iload (by decide +kernel) rfl
theorem oe_105_590 : okE 105 590 (0, 2, 0, 591) := oi_iconst (n := 2) (by decide +kernel) (by decide +kernel) rfl
theorem oe_105_591 : okE 105 591 (6, 0, 0, 592) := oi_iadd (by decide +kernel) rfl
theorem oe_105_592 : okE 105 592 (37, 0, 0, 593) := oi_ialdS (by decide +kernel) rfl rfl
theorem oe_105_593 : okE 105 593 (70, 8, 3, 596) := oi_callV (i := 79) (by decide +kernel) rfl (by decide) (by decide) okm_8 (by decide) (by rfl) mw_332 mw_333 mw_334 mw_47 (by decide +kernel)
theorem oe_105_596 : okE 105 596 (3, 2, 0, 597) := oi_aload_n (k := 2) (by decide +kernel) rfl rfl
theorem oe_105_597 : okE 105 597 (3, 0, 0, 598) := oi_aload_n (k := 0) (by decide +kernel) rfl rfl
theorem oe_105_598 : okE 105 598 (2, 4, 0, 600) := oi_iload (by decide +kernel) rfl
theorem oe_105_600 : okE 105 600 (0, 1, 0, 601) := oi_iconst (n := 1) (by decide +kernel) (by decide +kernel) rfl
theorem oe_105_601 : okE 105 601 (6, 0, 0, 602) := oi_iadd (by decide +kernel) rfl
theorem oe_105_602 : okE 105 602 (37, 0, 0, 603) := oi_ialdS (by decide +kernel) rfl rfl
theorem oe_105_603 : okE 105 603 (3, 0, 0, 604) := oi_aload_n (k := 0) (by decide +kernel) rfl rfl
theorem oe_105_604 : okE 105 604 (2, 4, 0, 606) := oi_iload (by decide +kernel) rfl
theorem oe_105_606 : okE 105 606 (0, 2, 0, 607) := oi_iconst (n := 2) (by decide +kernel) (by decide +kernel) rfl
theorem oe_105_607 : okE 105 607 (6, 0, 0, 608) := oi_iadd (by decide +kernel) rfl
theorem oe_105_608 : okE 105 608 (37, 0, 0, 609) := oi_ialdS (by decide +kernel) rfl rfl
theorem oe_105_609 : okE 105 609 (70, 37, 3, 612) := oi_callV (i := 82) (by decide +kernel) rfl (by decide) (by decide) okm_37 (by decide) (by rfl) mw_817 mw_818 mw_819 mw_53 (by decide +kernel)
theorem oe_105_612 : okE 105 612 (56, 809, 0, 615) := oi_if_icmpeq (f := 197) (by decide +kernel) (by decide) rfl
theorem oe_105_615 : okE 105 615 (0, 0, 0, 616) := oi_iconst (n := 0) (by decide +kernel) (by decide +kernel) rfl
theorem oe_105_616 : okE 105 616 (80, 2, 0, 0) := oi_ireturnZ (by decide +kernel) rfl
theorem oe_105_617 : okE 105 617 (3, 1, 0, 618) := oi_aload_n (k := 1) (by decide +kernel) rfl rfl
theorem oe_105_618 : okE 105 618 (3, 0, 0, 619) := oi_aload_n (k := 0) (by decide +kernel) rfl rfl
theorem oe_105_619 : okE 105 619 (2, 4, 0, 621) := oi_iload (by decide +kernel) rfl
theorem oe_105_621 : okE 105 621 (0, 1, 0, 622) := oi_iconst (n := 1) (by decide +kernel) (by decide +kernel) rfl
theorem oe_105_622 : okE 105 622 (6, 0, 0, 623) := oi_iadd (by decide +kernel) rfl
theorem oe_105_623 : okE 105 623 (37, 0, 0, 624) := oi_ialdS (by decide +kernel) rfl rfl
theorem oe_105_624 : okE 105 624 (3, 0, 0, 625) := oi_aload_n (k := 0) (by decide +kernel) rfl rfl
theorem oe_105_625 : okE 105 625 (2, 4, 0, 627) := oi_iload (by decide +kernel) rfl
theorem oe_105_627 : okE 105 627 (0, 2, 0, 628) := oi_iconst (n := 2) (by decide +kernel) (by decide +kernel) rfl
theorem oe_105_628 : okE 105 628 (6, 0, 0, 629) := oi_iadd (by decide +kernel) rfl
theorem oe_105_629 : okE 105 629 (37, 0, 0, 630) := oi_ialdS (by decide +kernel) rfl rfl
theorem oe_105_630 : okE 105 630 (70, 9, 3, 633) := oi_callV (i := 83) (by decide +kernel) rfl (by decide) (by decide) okm_9 (by decide) (by rfl) mw_341 mw_342 mw_343 mw_47 (by decide +kernel)
theorem oe_105_633 : okE 105 633 (3, 2, 0, 634) := oi_aload_n (k := 2) (by decide +kernel) rfl rfl
theorem oe_105_634 : okE 105 634 (3, 0, 0, 635) := oi_aload_n (k := 0) (by decide +kernel) rfl rfl
theorem oe_105_635 : okE 105 635 (2, 4, 0, 637) := oi_iload (by decide +kernel) rfl
theorem oe_105_637 : okE 105 637 (0, 1, 0, 638) := oi_iconst (n := 1) (by decide +kernel) (by decide +kernel) rfl
theorem oe_105_638 : okE 105 638 (6, 0, 0, 639) := oi_iadd (by decide +kernel) rfl
theorem oe_105_639 : okE 105 639 (37, 0, 0, 640) := oi_ialdS (by decide +kernel) rfl rfl
theorem oe_105_640 : okE 105 640 (3, 0, 0, 641) := oi_aload_n (k := 0) (by decide +kernel) rfl rfl
theorem oe_105_641 : okE 105 641 (2, 4, 0, 643) := oi_iload (by decide +kernel) rfl
theorem oe_105_643 : okE 105 643 (0, 2, 0, 644) := oi_iconst (n := 2) (by decide +kernel) (by decide +kernel) rfl
theorem oe_105_644 : okE 105 644 (6, 0, 0, 645) := oi_iadd (by decide +kernel) rfl
theorem oe_105_645 : okE 105 645 (37, 0, 0, 646) := oi_ialdS (by decide +kernel) rfl rfl
theorem oe_105_646 : okE 105 646 (70, 39, 3, 649) := oi_callV (i := 86) (by decide +kernel) rfl (by decide) (by decide) okm_39 (by decide) (by rfl) mw_821 mw_822 mw_823 mw_53 (by decide +kernel)
theorem oe_105_649 : okE 105 649 (56, 809, 0, 652) := oi_if_icmpeq (f := 160) (by decide +kernel) (by decide) rfl
theorem oe_105_652 : okE 105 652 (0, 0, 0, 653) := oi_iconst (n := 0) (by decide +kernel) (by decide +kernel) rfl
theorem oe_105_653 : okE 105 653 (80, 2, 0, 0) := oi_ireturnZ (by decide +kernel) rfl
theorem oe_105_654 : okE 105 654 (3, 1, 0, 655) := oi_aload_n (k := 1) (by decide +kernel) rfl rfl
theorem oe_105_655 : okE 105 655 (3, 0, 0, 656) := oi_aload_n (k := 0) (by decide +kernel) rfl rfl
theorem oe_105_656 : okE 105 656 (2, 4, 0, 658) := oi_iload (by decide +kernel) rfl
theorem oe_105_658 : okE 105 658 (0, 1, 0, 659) := oi_iconst (n := 1) (by decide +kernel) (by decide +kernel) rfl
theorem oe_105_659 : okE 105 659 (6, 0, 0, 660) := oi_iadd (by decide +kernel) rfl
theorem oe_105_660 : okE 105 660 (37, 0, 0, 661) := oi_ialdS (by decide +kernel) rfl rfl
theorem oe_105_661 : okE 105 661 (3, 0, 0, 662) := oi_aload_n (k := 0) (by decide +kernel) rfl rfl
theorem oe_105_662 : okE 105 662 (2, 4, 0, 664) := oi_iload (by decide +kernel) rfl
theorem oe_105_664 : okE 105 664 (0, 2, 0, 665) := oi_iconst (n := 2) (by decide +kernel) (by decide +kernel) rfl
theorem oe_105_665 : okE 105 665 (6, 0, 0, 666) := oi_iadd (by decide +kernel) rfl
theorem oe_105_666 : okE 105 666 (37, 0, 0, 667) := oi_ialdS (by decide +kernel) rfl rfl
theorem oe_105_667 : okE 105 667 (3, 0, 0, 668) := oi_aload_n (k := 0) (by decide +kernel) rfl rfl
theorem oe_105_668 : okE 105 668 (2, 4, 0, 670) := oi_iload (by decide +kernel) rfl
theorem oe_105_670 : okE 105 670 (0, 3, 0, 671) := oi_iconst (n := 3) (by decide +kernel) (by decide +kernel) rfl
theorem oe_105_671 : okE 105 671 (6, 0, 0, 672) := oi_iadd (by decide +kernel) rfl
theorem oe_105_672 : okE 105 672 (37, 0, 0, 673) := oi_ialdS (by decide +kernel) rfl rfl
theorem oe_105_673 : okE 105 673 (70, 10, 4, 676) := oi_callV (i := 87) (by decide +kernel) rfl (by decide) (by decide) okm_10 (by decide) (by rfl) mw_359 mw_360 mw_361 mw_47 (by decide +kernel)
theorem oe_105_676 : okE 105 676 (3, 2, 0, 677) := oi_aload_n (k := 2) (by decide +kernel) rfl rfl
theorem oe_105_677 : okE 105 677 (3, 0, 0, 678) := oi_aload_n (k := 0) (by decide +kernel) rfl rfl
theorem oe_105_678 : okE 105 678 (2, 4, 0, 680) := oi_iload (by decide +kernel) rfl
theorem oe_105_680 : okE 105 680 (0, 1, 0, 681) := oi_iconst (n := 1) (by decide +kernel) (by decide +kernel) rfl
theorem oe_105_681 : okE 105 681 (6, 0, 0, 682) := oi_iadd (by decide +kernel) rfl
theorem oe_105_682 : okE 105 682 (37, 0, 0, 683) := oi_ialdS (by decide +kernel) rfl rfl
theorem oe_105_683 : okE 105 683 (3, 0, 0, 684) := oi_aload_n (k := 0) (by decide +kernel) rfl rfl
theorem oe_105_684 : okE 105 684 (2, 4, 0, 686) := oi_iload (by decide +kernel) rfl
theorem oe_105_686 : okE 105 686 (0, 2, 0, 687) := oi_iconst (n := 2) (by decide +kernel) (by decide +kernel) rfl
theorem oe_105_687 : okE 105 687 (6, 0, 0, 688) := oi_iadd (by decide +kernel) rfl
theorem oe_105_688 : okE 105 688 (37, 0, 0, 689) := oi_ialdS (by decide +kernel) rfl rfl
theorem oe_105_689 : okE 105 689 (3, 0, 0, 690) := oi_aload_n (k := 0) (by decide +kernel) rfl rfl
theorem oe_105_690 : okE 105 690 (2, 4, 0, 692) := oi_iload (by decide +kernel) rfl
theorem oe_105_692 : okE 105 692 (0, 3, 0, 693) := oi_iconst (n := 3) (by decide +kernel) (by decide +kernel) rfl
theorem oe_105_693 : okE 105 693 (6, 0, 0, 694) := oi_iadd (by decide +kernel) rfl
theorem oe_105_694 : okE 105 694 (37, 0, 0, 695) := oi_ialdS (by decide +kernel) rfl rfl
theorem oe_105_695 : okE 105 695 (70, 41, 4, 698) := oi_callV (i := 90) (by decide +kernel) rfl (by decide) (by decide) okm_41 (by decide) (by rfl) mw_829 mw_830 mw_831 mw_53 (by decide +kernel)
theorem oe_105_698 : okE 105 698 (56, 809, 0, 701) := oi_if_icmpeq (f := 111) (by decide +kernel) (by decide) rfl
theorem oe_105_701 : okE 105 701 (0, 0, 0, 702) := oi_iconst (n := 0) (by decide +kernel) (by decide +kernel) rfl
theorem oe_105_702 : okE 105 702 (80, 2, 0, 0) := oi_ireturnZ (by decide +kernel) rfl
theorem oe_105_703 : okE 105 703 (3, 1, 0, 704) := oi_aload_n (k := 1) (by decide +kernel) rfl rfl
theorem oe_105_704 : okE 105 704 (3, 0, 0, 705) := oi_aload_n (k := 0) (by decide +kernel) rfl rfl
theorem oe_105_705 : okE 105 705 (2, 4, 0, 707) := oi_iload (by decide +kernel) rfl
theorem oe_105_707 : okE 105 707 (0, 1, 0, 708) := oi_iconst (n := 1) (by decide +kernel) (by decide +kernel) rfl
theorem oe_105_708 : okE 105 708 (6, 0, 0, 709) := oi_iadd (by decide +kernel) rfl
theorem oe_105_709 : okE 105 709 (37, 0, 0, 710) := oi_ialdS (by decide +kernel) rfl rfl
theorem oe_105_710 : okE 105 710 (3, 0, 0, 711) := oi_aload_n (k := 0) (by decide +kernel) rfl rfl
theorem oe_105_711 : okE 105 711 (2, 4, 0, 713) := oi_iload (by decide +kernel) rfl
theorem oe_105_713 : okE 105 713 (0, 2, 0, 714) := oi_iconst (n := 2) (by decide +kernel) (by decide +kernel) rfl
theorem oe_105_714 : okE 105 714 (6, 0, 0, 715) := oi_iadd (by decide +kernel) rfl
theorem oe_105_715 : okE 105 715 (37, 0, 0, 716) := oi_ialdS (by decide +kernel) rfl rfl
theorem oe_105_716 : okE 105 716 (3, 0, 0, 717) := oi_aload_n (k := 0) (by decide +kernel) rfl rfl
theorem oe_105_717 : okE 105 717 (2, 4, 0, 719) := oi_iload (by decide +kernel) rfl
theorem oe_105_719 : okE 105 719 (0, 3, 0, 720) := oi_iconst (n := 3) (by decide +kernel) (by decide +kernel) rfl
theorem oe_105_720 : okE 105 720 (6, 0, 0, 721) := oi_iadd (by decide +kernel) rfl
theorem oe_105_721 : okE 105 721 (37, 0, 0, 722) := oi_ialdS (by decide +kernel) rfl rfl
theorem oe_105_722 : okE 105 722 (3, 3, 0, 723) := oi_aload_n (k := 3) (by decide +kernel) rfl rfl
theorem oe_105_723 : okE 105 723 (91, 0, 0, 726) := trivial
theorem oe_105_726 : okE 105 726 (4, 5, 0, 728) := oi_istore (by decide) (by decide +kernel) rfl
theorem oe_105_728 : okE 105 728 (3, 2, 0, 729) := oi_aload_n (k := 2) (by decide +kernel) rfl rfl
theorem oe_105_729 : okE 105 729 (3, 0, 0, 730) := oi_aload_n (k := 0) (by decide +kernel) rfl rfl
theorem oe_105_730 : okE 105 730 (2, 4, 0, 732) := oi_iload (by decide +kernel) rfl
theorem oe_105_732 : okE 105 732 (0, 1, 0, 733) := oi_iconst (n := 1) (by decide +kernel) (by decide +kernel) rfl
theorem oe_105_733 : okE 105 733 (6, 0, 0, 734) := oi_iadd (by decide +kernel) rfl
theorem oe_105_734 : okE 105 734 (37, 0, 0, 735) := oi_ialdS (by decide +kernel) rfl rfl
theorem oe_105_735 : okE 105 735 (3, 0, 0, 736) := oi_aload_n (k := 0) (by decide +kernel) rfl rfl
theorem oe_105_736 : okE 105 736 (2, 4, 0, 738) := oi_iload (by decide +kernel) rfl
theorem oe_105_738 : okE 105 738 (0, 2, 0, 739) := oi_iconst (n := 2) (by decide +kernel) (by decide +kernel) rfl
theorem oe_105_739 : okE 105 739 (6, 0, 0, 740) := oi_iadd (by decide +kernel) rfl
theorem oe_105_740 : okE 105 740 (37, 0, 0, 741) := oi_ialdS (by decide +kernel) rfl rfl
theorem oe_105_741 : okE 105 741 (3, 0, 0, 742) := oi_aload_n (k := 0) (by decide +kernel) rfl rfl
theorem oe_105_742 : okE 105 742 (2, 4, 0, 744) := oi_iload (by decide +kernel) rfl
theorem oe_105_744 : okE 105 744 (0, 3, 0, 745) := oi_iconst (n := 3) (by decide +kernel) (by decide +kernel) rfl
theorem oe_105_745 : okE 105 745 (6, 0, 0, 746) := oi_iadd (by decide +kernel) rfl
theorem oe_105_746 : okE 105 746 (37, 0, 0, 747) := oi_ialdS (by decide +kernel) rfl rfl
theorem oe_105_747 : okE 105 747 (70, 49, 4, 750) := oi_callV (i := 94) (by decide +kernel) rfl (by decide) (by decide) okm_49 (by decide) (by rfl) mw_837 mw_838 mw_839 mw_53 (by decide +kernel)
theorem oe_105_750 : okE 105 750 (4, 6, 0, 752) := oi_istore (by decide) (by decide +kernel) rfl
theorem oe_105_752 : okE 105 752 (3, 2, 0, 753) := oi_aload_n (k := 2) (by decide +kernel) rfl rfl
theorem oe_105_753 : okE 105 753 (70, 14, 1, 756) := oi_callV (i := 46) (by decide +kernel) rfl (by decide) (by decide) okm_14 (by decide) (by rfl) mw_725 mw_726 mw_727 mw_53 (by decide +kernel)
theorem oe_105_756 : okE 105 756 (2, 5, 0, 758) := oi_iload (by decide +kernel) rfl
theorem oe_105_758 : okE 105 758 (56, 763, 0, 761) := oi_if_icmpeq (f := 5) (by decide +kernel) (by decide) rfl
theorem oe_105_761 : okE 105 761 (0, 0, 0, 762) := oi_iconst (n := 0) (by decide +kernel) (by decide +kernel) rfl
theorem oe_105_762 : okE 105 762 (80, 2, 0, 0) := oi_ireturnZ (by decide +kernel) rfl
theorem oe_105_763 : okE 105 763 (2, 5, 0, 765) := oi_iload (by decide +kernel) rfl
theorem oe_105_765 : okE 105 765 (51, 780, 0, 768) := oi_ifne (f := 15) (by decide +kernel) (by decide) rfl
theorem oe_105_768 : okE 105 768 (3, 3, 0, 769) := oi_aload_n (k := 3) (by decide +kernel) rfl rfl
theorem oe_105_769 : okE 105 769 (0, 0, 0, 770) := oi_iconst (n := 0) (by decide +kernel) (by decide +kernel) rfl
theorem oe_105_770 : okE 105 770 (35, 0, 0, 771) := oi_lald (by decide +kernel) rfl
theorem oe_105_771 : okE 105 771 (2, 6, 0, 773) := oi_iload (by decide +kernel) rfl
theorem oe_105_773 : okE 105 773 (21, 0, 0, 774) := oi_i2l (by decide +kernel) rfl
theorem oe_105_774 : okE 105 774 (22, 0, 0, 775) := oi_lcmp (by decide +kernel) rfl
theorem oe_105_775 : okE 105 775 (50, 780, 0, 778) := oi_ifeq (f := 5) (by decide +kernel) (by decide) rfl
theorem oe_105_778 : okE 105 778 (0, 0, 0, 779) := oi_iconst (n := 0) (by decide +kernel) (by decide +kernel) rfl
theorem oe_105_779 : okE 105 779 (80, 2, 0, 0) := oi_ireturnZ (by decide +kernel) rfl
theorem oe_105_780 : okE 105 780 (18, 0, 0, 809) := oi_goto (f := 29) (by decide +kernel) (by decide)
theorem oe_105_783 : okE 105 783 (3, 1, 0, 784) := oi_aload_n (k := 1) (by decide +kernel) rfl rfl
theorem oe_105_784 : okE 105 784 (70, 12, 1, 787) := oi_callV (i := 95) (by decide +kernel) rfl (by decide) (by decide) okm_12 (by decide) (by rfl) mw_367 mw_368 mw_369 mw_47 (by decide +kernel)
theorem oe_105_787 : okE 105 787 (3, 2, 0, 788) := oi_aload_n (k := 2) (by decide +kernel) rfl rfl
theorem oe_105_788 : okE 105 788 (70, 50, 1, 791) := oi_callV (i := 98) (by decide +kernel) rfl (by decide) (by decide) okm_50 (by decide) (by rfl) mw_869 mw_870 mw_871 mw_53 (by decide +kernel)
theorem oe_105_791 : okE 105 791 (56, 809, 0, 794) := oi_if_icmpeq (f := 18) (by decide +kernel) (by decide) rfl
theorem oe_105_794 : okE 105 794 (0, 0, 0, 795) := oi_iconst (n := 0) (by decide +kernel) (by decide +kernel) rfl
theorem oe_105_795 : okE 105 795 (80, 2, 0, 0) := oi_ireturnZ (by decide +kernel) rfl
theorem oe_105_796 : okE 105 796 (3, 1, 0, 797) := oi_aload_n (k := 1) (by decide +kernel) rfl rfl
theorem oe_105_797 : okE 105 797 (70, 13, 1, 800) := oi_callV (i := 99) (by decide +kernel) rfl (by decide) (by decide) okm_13 (by decide) (by rfl) mw_371 mw_372 mw_373 mw_47 (by decide +kernel)
theorem oe_105_800 : okE 105 800 (3, 2, 0, 801) := oi_aload_n (k := 2) (by decide +kernel) rfl rfl
theorem oe_105_801 : okE 105 801 (70, 51, 1, 804) := oi_callV (i := 102) (by decide +kernel) rfl (by decide) (by decide) okm_51 (by decide) (by rfl) mw_873 mw_874 mw_875 mw_53 (by decide +kernel)
theorem oe_105_804 : okE 105 804 (56, 809, 0, 807) := oi_if_icmpeq (f := 5) (by decide +kernel) (by decide) rfl
theorem oe_105_807 : okE 105 807 (0, 0, 0, 808) := oi_iconst (n := 0) (by decide +kernel) (by decide +kernel) rfl
theorem oe_105_808 : okE 105 808 (80, 2, 0, 0) := oi_ireturnZ (by decide +kernel) rfl
theorem oe_105_809 : okE 105 809 (19, 4, 6, 812) := oi_iinc (n := 6) (by decide) (by decide +kernel) (by decide +kernel) rfl
theorem oe_105_812 : okE 105 812 (18, 0, 0, 23) := oi_goto (f := -789) (by decide +kernel) (by decide)
theorem oe_105_815 : okE 105 815 (0, 1, 0, 816) := oi_iconst (n := 1) (by decide +kernel) (by decide +kernel) rfl
theorem oe_105_816 : okE 105 816 (80, 2, 0, 0) := oi_ireturnZ (by decide +kernel) rfl
set_option maxRecDepth 20000 in
theorem ok_105 : ∀ pc e, k_105 pc = some e → okE 105 pc e := tn_ (tn_ (tn_ (tn_ (tn_ (tn_ (tn_ (tn_ (tl_ (oe_105_20)) (tn_ (tl_ (oe_105_21)) (tl_ (oe_105_23)))) (tn_ (tn_ (tl_ (oe_105_25)) (tl_ (oe_105_26))) (tn_ (tl_ (oe_105_27)) (tl_ (oe_105_29))))) (tn_ (tn_ (tn_ (tl_ (oe_105_30)) (tl_ (oe_105_33))) (tn_ (tl_ (oe_105_34)) (tl_ (oe_105_36)))) (tn_ (tn_ (tl_ (oe_105_37)) (tl_ (oe_105_39))) (tn_ (tl_ (oe_105_40)) (tl_ (oe_105_112)))))) (tn_ (tn_ (tn_ (tn_ (tl_ (oe_105_113)) (tl_ (oe_105_114))) (tn_ (tl_ (oe_105_116)) (tl_ (oe_105_117)))) (tn_ (tn_ (tl_ (oe_105_118)) (tl_ (oe_105_119))) (tn_ (tl_ (oe_105_120)) (tl_ (oe_105_123))))) (tn_ (tn_ (tn_ (tl_ (oe_105_125)) (tl_ (oe_105_126))) (tn_ (tl_ (oe_105_127)) (tl_ (oe_105_129)))) (tn_ (tn_ (tl_ (oe_105_130)) (tl_ (oe_105_131))) (tn_ (tl_ (oe_105_132)) (tl_ (oe_105_135))))))) (tn_ (tn_ (tn_ (tn_ (tn_ (tl_ (oe_105_137)) (tl_ (oe_105_138))) (tn_ (tl_ (oe_105_141)) (tl_ (oe_105_143)))) (tn_ (tn_ (tl_ (oe_105_146)) (tl_ (oe_105_147))) (tn_ (tl_ (oe_105_148)) (tl_ (oe_105_150))))) (tn_ (tn_ (tn_ (tl_ (oe_105_153)) (tl_ (oe_105_154))) (tn_ (tl_ (oe_105_155)) (tl_ (oe_105_156)))) (tn_ (tn_ (tl_ (oe_105_158)) (tl_ (oe_105_159))) (tn_ (tl_ (oe_105_160)) (tl_ (oe_105_163)))))) (tn_ (tn_ (tn_ (tn_ (tl_ (oe_105_164)) (tl_ (oe_105_165))) (tn_ (tl_ (oe_105_168)) (tl_ (oe_105_169)))) (tn_ (tn_ (tl_ (oe_105_170)) (tl_ (oe_105_172))) (tn_ (tl_ (oe_105_173)) (tl_ (oe_105_174))))) (tn_ (tn_ (tn_ (tl_ (oe_105_175)) (tl_ (oe_105_176))) (tn_ (tl_ (oe_105_178)) (tl_ (oe_105_179)))) (tn_ (tn_ (tl_ (oe_105_180)) (tl_ (oe_105_181))) (tn_ (tl_ (oe_105_184)) (tl_ (oe_105_185)))))))) (tn_ (tn_ (tn_ (tn_ (tn_ (tl_ (oe_105_186)) (tn_ (tl_ (oe_105_188)) (tl_ (oe_105_189)))) (tn_ (tn_ (tl_ (oe_105_190)) (tl_ (oe_105_191))) (tn_ (tl_ (oe_105_192)) (tl_ (oe_105_194))))) (tn_ (tn_ (tn_ (tl_ (oe_105_195)) (tl_ (oe_105_196))) (tn_ (tl_ (oe_105_197)) (tl_ (oe_105_200)))) (tn_ (tn_ (tl_ (oe_105_203)) (tl_ (oe_105_204))) (tn_ (tl_ (oe_105_205)) (tl_ (oe_105_206)))))) (tn_ (tn_ (tn_ (tn_ (tl_ (oe_105_209)) (tl_ (oe_105_210))) (tn_ (tl_ (oe_105_213)) (tl_ (oe_105_216)))) (tn_ (tn_ (tl_ (oe_105_217)) (tl_ (oe_105_218))) (tn_ (tl_ (oe_105_219)) (tl_ (oe_105_220))))) (tn_ (tn_ (tn_ (tl_ (oe_105_222)) (tl_ (oe_105_223))) (tn_ (tl_ (oe_105_224)) (tl_ (oe_105_225)))) (tn_ (tn_ (tl_ (oe_105_226)) (tl_ (oe_105_228))) (tn_ (tl_ (oe_105_229)) (tl_ (oe_105_230))))))) (tn_ (tn_ (tn_ (tn_ (tn_ (tl_ (oe_105_231)) (tl_ (oe_105_232))) (tn_ (tl_ (oe_105_234)) (tl_ (oe_105_235)))) (tn_ (tn_ (tl_ (oe_105_236)) (tl_ (oe_105_237))) (tn_ (tl_ (oe_105_238)) (tl_ (oe_105_240))))) (tn_ (tn_ (tn_ (tl_ (oe_105_241)) (tl_ (oe_105_242))) (tn_ (tl_ (oe_105_243)) (tl_ (oe_105_244)))) (tn_ (tn_ (tl_ (oe_105_247)) (tl_ (oe_105_249))) (tn_ (tl_ (oe_105_250)) (tl_ (oe_105_251)))))) (tn_ (tn_ (tn_ (tn_ (tl_ (oe_105_253)) (tl_ (oe_105_254))) (tn_ (tl_ (oe_105_255)) (tl_ (oe_105_256)))) (tn_ (tn_ (tl_ (oe_105_257)) (tl_ (oe_105_259))) (tn_ (tl_ (oe_105_260)) (tl_ (oe_105_261))))) (tn_ (tn_ (tn_ (tl_ (oe_105_262)) (tl_ (oe_105_263))) (tn_ (tl_ (oe_105_265)) (tl_ (oe_105_266)))) (tn_ (tn_ (tl_ (oe_105_267)) (tl_ (oe_105_268))) (tn_ (tl_ (oe_105_269)) (tl_ (oe_105_271))))))))) (tn_ (tn_ (tn_ (tn_ (tn_ (tn_ (tl_ (oe_105_272)) (tn_ (tl_ (oe_105_273)) (tl_ (oe_105_274)))) (tn_ (tn_ (tl_ (oe_105_277)) (tl_ (oe_105_279))) (tn_ (tl_ (oe_105_280)) (tl_ (oe_105_283))))) (tn_ (tn_ (tn_ (tl_ (oe_105_285)) (tl_ (oe_105_288))) (tn_ (tl_ (oe_105_289)) (tl_ (oe_105_290)))) (tn_ (tn_ (tl_ (oe_105_292)) (tl_ (oe_105_295))) (tn_ (tl_ (oe_105_296)) (tl_ (oe_105_297)))))) (tn_ (tn_ (tn_ (tn_ (tl_ (oe_105_298)) (tl_ (oe_105_300))) (tn_ (tl_ (oe_105_301)) (tl_ (oe_105_302)))) (tn_ (tn_ (tl_ (oe_105_305)) (tl_ (oe_105_306))) (tn_ (tl_ (oe_105_307)) (tl_ (oe_105_310))))) (tn_ (tn_ (tn_ (tl_ (oe_105_311)) (tl_ (oe_105_312))) (tn_ (tl_ (oe_105_314)) (tl_ (oe_105_315)))) (tn_ (tn_ (tl_ (oe_105_316)) (tl_ (oe_105_317))) (tn_ (tl_ (oe_105_318)) (tl_ (oe_105_320))))))) (tn_ (tn_ (tn_ (tn_ (tn_ (tl_ (oe_105_321)) (tl_ (oe_105_322))) (tn_ (tl_ (oe_105_323)) (tl_ (oe_105_324)))) (tn_ (tn_ (tl_ (oe_105_326)) (tl_ (oe_105_327))) (tn_ (tl_ (oe_105_328)) (tl_ (oe_105_329))))) (tn_ (tn_ (tn_ (tl_ (oe_105_330)) (tl_ (oe_105_332))) (tn_ (tl_ (oe_105_333)) (tl_ (oe_105_334)))) (tn_ (tn_ (tl_ (oe_105_335)) (tl_ (oe_105_336))) (tn_ (tl_ (oe_105_338)) (tl_ (oe_105_339)))))) (tn_ (tn_ (tn_ (tn_ (tl_ (oe_105_340)) (tl_ (oe_105_341))) (tn_ (tl_ (oe_105_342)) (tl_ (oe_105_345)))) (tn_ (tn_ (tl_ (oe_105_347)) (tl_ (oe_105_348))) (tn_ (tl_ (oe_105_349)) (tl_ (oe_105_351))))) (tn_ (tn_ (tn_ (tl_ (oe_105_352)) (tl_ (oe_105_353))) (tn_ (tl_ (oe_105_354)) (tl_ (oe_105_355)))) (tn_ (tn_ (tl_ (oe_105_357)) (tl_ (oe_105_358))) (tn_ (tl_ (oe_105_359)) (tl_ (oe_105_360)))))))) (tn_ (tn_ (tn_ (tn_ (tn_ (tn_ (tl_ (oe_105_361)) (tl_ (oe_105_363))) (tn_ (tl_ (oe_105_364)) (tl_ (oe_105_365)))) (tn_ (tn_ (tl_ (oe_105_366)) (tl_ (oe_105_367))) (tn_ (tl_ (oe_105_369)) (tl_ (oe_105_370))))) (tn_ (tn_ (tn_ (tl_ (oe_105_371)) (tl_ (oe_105_372))) (tn_ (tl_ (oe_105_373)) (tl_ (oe_105_375)))) (tn_ (tn_ (tl_ (oe_105_376)) (tl_ (oe_105_377))) (tn_ (tl_ (oe_105_378)) (tl_ (oe_105_381)))))) (tn_ (tn_ (tn_ (tn_ (tl_ (oe_105_383)) (tl_ (oe_105_384))) (tn_ (tl_ (oe_105_387)) (tl_ (oe_105_389)))) (tn_ (tn_ (tl_ (oe_105_392)) (tl_ (oe_105_393))) (tn_ (tl_ (oe_105_394)) (tl_ (oe_105_396))))) (tn_ (tn_ (tn_ (tl_ (oe_105_399)) (tl_ (oe_105_400))) (tn_ (tl_ (oe_105_401)) (tl_ (oe_105_402)))) (tn_ (tn_ (tl_ (oe_105_404)) (tl_ (oe_105_405))) (tn_ (tl_ (oe_105_406)) (tl_ (oe_105_409))))))) (tn_ (tn_ (tn_ (tn_ (tn_ (tl_ (oe_105_410)) (tl_ (oe_105_411))) (tn_ (tl_ (oe_105_414)) (tl_ (oe_105_415)))) (tn_ (tn_ (tl_ (oe_105_416)) (tl_ (oe_105_418))) (tn_ (tl_ (oe_105_419)) (tl_ (oe_105_420))))) (tn_ (tn_ (tn_ (tl_ (oe_105_421)) (tl_ (oe_105_422))) (tn_ (tl_ (oe_105_424)) (tl_ (oe_105_425)))) (tn_ (tn_ (tl_ (oe_105_426)) (tl_ (oe_105_427))) (tn_ (tl_ (oe_105_428)) (tl_ (oe_105_430)))))) (tn_ (tn_ (tn_ (tn_ (tl_ (oe_105_431)) (tl_ (oe_105_432))) (tn_ (tl_ (oe_105_433)) (tl_ (oe_105_434)))) (tn_ (tn_ (tl_ (oe_105_436)) (tl_ (oe_105_437))) (tn_ (tl_ (oe_105_438)) (tl_ (oe_105_439))))) (tn_ (tn_ (tn_ (tl_ (oe_105_440)) (tl_ (oe_105_442))) (tn_ (tl_ (oe_105_443)) (tl_ (oe_105_444)))) (tn_ (tn_ (tl_ (oe_105_445)) (tl_ (oe_105_446))) (tn_ (tl_ (oe_105_449)) (tl_ (oe_105_451)))))))))) (tn_ (tn_ (tn_ (tn_ (tn_ (tn_ (tn_ (tl_ (oe_105_452)) (tn_ (tl_ (oe_105_453)) (tl_ (oe_105_455)))) (tn_ (tn_ (tl_ (oe_105_456)) (tl_ (oe_105_457))) (tn_ (tl_ (oe_105_458)) (tl_ (oe_105_459))))) (tn_ (tn_ (tn_ (tl_ (oe_105_461)) (tl_ (oe_105_462))) (tn_ (tl_ (oe_105_463)) (tl_ (oe_105_464)))) (tn_ (tn_ (tl_ (oe_105_465)) (tl_ (oe_105_467))) (tn_ (tl_ (oe_105_468)) (tl_ (oe_105_469)))))) (tn_ (tn_ (tn_ (tn_ (tl_ (oe_105_470)) (tl_ (oe_105_471))) (tn_ (tl_ (oe_105_473)) (tl_ (oe_105_474)))) (tn_ (tn_ (tl_ (oe_105_475)) (tl_ (oe_105_476))) (tn_ (tl_ (oe_105_477)) (tl_ (oe_105_479))))) (tn_ (tn_ (tn_ (tl_ (oe_105_480)) (tl_ (oe_105_481))) (tn_ (tl_ (oe_105_482)) (tl_ (oe_105_485)))) (tn_ (tn_ (tl_ (oe_105_487)) (tl_ (oe_105_488))) (tn_ (tl_ (oe_105_491)) (tl_ (oe_105_493))))))) (tn_ (tn_ (tn_ (tn_ (tn_ (tl_ (oe_105_496)) (tl_ (oe_105_497))) (tn_ (tl_ (oe_105_498)) (tl_ (oe_105_500)))) (tn_ (tn_ (tl_ (oe_105_503)) (tl_ (oe_105_504))) (tn_ (tl_ (oe_105_505)) (tl_ (oe_105_506))))) (tn_ (tn_ (tn_ (tl_ (oe_105_508)) (tl_ (oe_105_509))) (tn_ (tl_ (oe_105_510)) (tl_ (oe_105_513)))) (tn_ (tn_ (tl_ (oe_105_514)) (tl_ (oe_105_515))) (tn_ (tl_ (oe_105_518)) (tl_ (oe_105_519)))))) (tn_ (tn_ (tn_ (tn_ (tl_ (oe_105_520)) (tl_ (oe_105_522))) (tn_ (tl_ (oe_105_523)) (tl_ (oe_105_524)))) (tn_ (tn_ (tl_ (oe_105_525)) (tl_ (oe_105_528))) (tn_ (tl_ (oe_105_529)) (tl_ (oe_105_530))))) (tn_ (tn_ (tn_ (tl_ (oe_105_532)) (tl_ (oe_105_533))) (tn_ (tl_ (oe_105_534)) (tl_ (oe_105_535)))) (tn_ (tn_ (tl_ (oe_105_538)) (tl_ (oe_105_541))) (tn_ (tl_ (oe_105_542)) (tl_ (oe_105_543)))))))) (tn_ (tn_ (tn_ (tn_ (tn_ (tl_ (oe_105_544)) (tn_ (tl_ (oe_105_545)) (tl_ (oe_105_547)))) (tn_ (tn_ (tl_ (oe_105_548)) (tl_ (oe_105_549))) (tn_ (tl_ (oe_105_550)) (tl_ (oe_105_551))))) (tn_ (tn_ (tn_ (tl_ (oe_105_553)) (tl_ (oe_105_554))) (tn_ (tl_ (oe_105_555)) (tl_ (oe_105_556)))) (tn_ (tn_ (tl_ (oe_105_559)) (tl_ (oe_105_560))) (tn_ (tl_ (oe_105_561)) (tl_ (oe_105_563)))))) (tn_ (tn_ (tn_ (tn_ (tl_ (oe_105_564)) (tl_ (oe_105_565))) (tn_ (tl_ (oe_105_566)) (tl_ (oe_105_567)))) (tn_ (tn_ (tl_ (oe_105_569)) (tl_ (oe_105_570))) (tn_ (tl_ (oe_105_571)) (tl_ (oe_105_572))))) (tn_ (tn_ (tn_ (tl_ (oe_105_575)) (tl_ (oe_105_578))) (tn_ (tl_ (oe_105_579)) (tl_ (oe_105_580)))) (tn_ (tn_ (tl_ (oe_105_581)) (tl_ (oe_105_582))) (tn_ (tl_ (oe_105_584)) (tl_ (oe_105_585))))))) (tn_ (tn_ (tn_ (tn_ (tn_ (tl_ (oe_105_586)) (tl_ (oe_105_587))) (tn_ (tl_ (oe_105_588)) (tl_ (oe_105_590)))) (tn_ (tn_ (tl_ (oe_105_591)) (tl_ (oe_105_592))) (tn_ (tl_ (oe_105_593)) (tl_ (oe_105_596))))) (tn_ (tn_ (tn_ (tl_ (oe_105_597)) (tl_ (oe_105_598))) (tn_ (tl_ (oe_105_600)) (tl_ (oe_105_601)))) (tn_ (tn_ (tl_ (oe_105_602)) (tl_ (oe_105_603))) (tn_ (tl_ (oe_105_604)) (tl_ (oe_105_606)))))) (tn_ (tn_ (tn_ (tn_ (tl_ (oe_105_607)) (tl_ (oe_105_608))) (tn_ (tl_ (oe_105_609)) (tl_ (oe_105_612)))) (tn_ (tn_ (tl_ (oe_105_615)) (tl_ (oe_105_616))) (tn_ (tl_ (oe_105_617)) (tl_ (oe_105_618))))) (tn_ (tn_ (tn_ (tl_ (oe_105_619)) (tl_ (oe_105_621))) (tn_ (tl_ (oe_105_622)) (tl_ (oe_105_623)))) (tn_ (tn_ (tl_ (oe_105_624)) (tl_ (oe_105_625))) (tn_ (tl_ (oe_105_627)) (tl_ (oe_105_628))))))))) (tn_ (tn_ (tn_ (tn_ (tn_ (tn_ (tl_ (oe_105_629)) (tn_ (tl_ (oe_105_630)) (tl_ (oe_105_633)))) (tn_ (tn_ (tl_ (oe_105_634)) (tl_ (oe_105_635))) (tn_ (tl_ (oe_105_637)) (tl_ (oe_105_638))))) (tn_ (tn_ (tn_ (tl_ (oe_105_639)) (tl_ (oe_105_640))) (tn_ (tl_ (oe_105_641)) (tl_ (oe_105_643)))) (tn_ (tn_ (tl_ (oe_105_644)) (tl_ (oe_105_645))) (tn_ (tl_ (oe_105_646)) (tl_ (oe_105_649)))))) (tn_ (tn_ (tn_ (tn_ (tl_ (oe_105_652)) (tl_ (oe_105_653))) (tn_ (tl_ (oe_105_654)) (tl_ (oe_105_655)))) (tn_ (tn_ (tl_ (oe_105_656)) (tl_ (oe_105_658))) (tn_ (tl_ (oe_105_659)) (tl_ (oe_105_660))))) (tn_ (tn_ (tn_ (tl_ (oe_105_661)) (tl_ (oe_105_662))) (tn_ (tl_ (oe_105_664)) (tl_ (oe_105_665)))) (tn_ (tn_ (tl_ (oe_105_666)) (tl_ (oe_105_667))) (tn_ (tl_ (oe_105_668)) (tl_ (oe_105_670))))))) (tn_ (tn_ (tn_ (tn_ (tn_ (tl_ (oe_105_671)) (tl_ (oe_105_672))) (tn_ (tl_ (oe_105_673)) (tl_ (oe_105_676)))) (tn_ (tn_ (tl_ (oe_105_677)) (tl_ (oe_105_678))) (tn_ (tl_ (oe_105_680)) (tl_ (oe_105_681))))) (tn_ (tn_ (tn_ (tl_ (oe_105_682)) (tl_ (oe_105_683))) (tn_ (tl_ (oe_105_684)) (tl_ (oe_105_686)))) (tn_ (tn_ (tl_ (oe_105_687)) (tl_ (oe_105_688))) (tn_ (tl_ (oe_105_689)) (tl_ (oe_105_690)))))) (tn_ (tn_ (tn_ (tn_ (tl_ (oe_105_692)) (tl_ (oe_105_693))) (tn_ (tl_ (oe_105_694)) (tl_ (oe_105_695)))) (tn_ (tn_ (tl_ (oe_105_698)) (tl_ (oe_105_701))) (tn_ (tl_ (oe_105_702)) (tl_ (oe_105_703))))) (tn_ (tn_ (tn_ (tl_ (oe_105_704)) (tl_ (oe_105_705))) (tn_ (tl_ (oe_105_707)) (tl_ (oe_105_708)))) (tn_ (tn_ (tl_ (oe_105_709)) (tl_ (oe_105_710))) (tn_ (tl_ (oe_105_711)) (tl_ (oe_105_713)))))))) (tn_ (tn_ (tn_ (tn_ (tn_ (tn_ (tl_ (oe_105_714)) (tl_ (oe_105_715))) (tn_ (tl_ (oe_105_716)) (tl_ (oe_105_717)))) (tn_ (tn_ (tl_ (oe_105_719)) (tl_ (oe_105_720))) (tn_ (tl_ (oe_105_721)) (tl_ (oe_105_722))))) (tn_ (tn_ (tn_ (tl_ (oe_105_723)) (tl_ (oe_105_726))) (tn_ (tl_ (oe_105_728)) (tl_ (oe_105_729)))) (tn_ (tn_ (tl_ (oe_105_730)) (tl_ (oe_105_732))) (tn_ (tl_ (oe_105_733)) (tl_ (oe_105_734)))))) (tn_ (tn_ (tn_ (tn_ (tl_ (oe_105_735)) (tl_ (oe_105_736))) (tn_ (tl_ (oe_105_738)) (tl_ (oe_105_739)))) (tn_ (tn_ (tl_ (oe_105_740)) (tl_ (oe_105_741))) (tn_ (tl_ (oe_105_742)) (tl_ (oe_105_744))))) (tn_ (tn_ (tn_ (tl_ (oe_105_745)) (tl_ (oe_105_746))) (tn_ (tl_ (oe_105_747)) (tl_ (oe_105_750)))) (tn_ (tn_ (tl_ (oe_105_752)) (tl_ (oe_105_753))) (tn_ (tl_ (oe_105_756)) (tl_ (oe_105_758))))))) (tn_ (tn_ (tn_ (tn_ (tn_ (tl_ (oe_105_761)) (tl_ (oe_105_762))) (tn_ (tl_ (oe_105_763)) (tl_ (oe_105_765)))) (tn_ (tn_ (tl_ (oe_105_768)) (tl_ (oe_105_769))) (tn_ (tl_ (oe_105_770)) (tl_ (oe_105_771))))) (tn_ (tn_ (tn_ (tl_ (oe_105_773)) (tl_ (oe_105_774))) (tn_ (tl_ (oe_105_775)) (tl_ (oe_105_778)))) (tn_ (tn_ (tl_ (oe_105_779)) (tl_ (oe_105_780))) (tn_ (tl_ (oe_105_783)) (tl_ (oe_105_784)))))) (tn_ (tn_ (tn_ (tn_ (tl_ (oe_105_787)) (tl_ (oe_105_788))) (tn_ (tl_ (oe_105_791)) (tl_ (oe_105_794)))) (tn_ (tn_ (tl_ (oe_105_795)) (tl_ (oe_105_796))) (tn_ (tl_ (oe_105_797)) (tl_ (oe_105_800))))) (tn_ (tn_ (tn_ (tl_ (oe_105_801)) (tl_ (oe_105_804))) (tn_ (tl_ (oe_105_807)) (tl_ (oe_105_808)))) (tn_ (tn_ (tl_ (oe_105_809)) (tl_ (oe_105_812))) (tn_ (tl_ (oe_105_815)) (tl_ (oe_105_816))))))))))
set_option maxRecDepth 20000 in
theorem ok_106 : ∀ pc e, k_106 pc = some e → okE 106 pc e := tn_ (tn_ (tn_ (tl_ (oi_iconst (n := 0) (by decide +kernel) (by decide +kernel) rfl)) (tn_ (tl_ (oi_istore_n (k := 2) (by decide) (by decide +kernel) rfl rfl)) (tl_ (oi_aload_n (k := 0) (by decide +kernel) rfl rfl)))) (tn_ (tn_ (tl_ (oi_alen (by decide +kernel) rfl)) (tl_ (oi_istore_n (k := 3) (by decide) (by decide +kernel) rfl rfl))) (tn_ (tl_ (oi_iload_n (k := 2) (by decide +kernel) rfl rfl)) (tl_ (oi_iload_n (k := 3) (by decide +kernel) rfl rfl))))) (tn_ (tn_ (tn_ (tl_ (oi_if_icmpge (f := 13) (by decide +kernel) (by decide) rfl)) (tl_ (oi_aload_n (k := 0) (by decide +kernel) rfl rfl))) (tn_ (tl_ (oi_iload_n (k := 2) (by decide +kernel) rfl rfl)) (tl_ (oi_iload_n (k := 1) (by decide +kernel) rfl rfl)))) (tn_ (tn_ (tl_ (oi_iast (by decide +kernel) rfl)) (tl_ (oi_iinc (n := 1) (by decide) (by decide +kernel) (by decide +kernel) rfl))) (tn_ (tl_ (oi_goto (f := -12) (by decide +kernel) (by decide))) (tl_ (oi_return (by decide +kernel) rfl)))))
set_option maxRecDepth 20000 in
theorem ok_cd : ∀ mi pc e, cd mi pc = some e → okE mi pc e := tq_ (tq_ (tq_ (tq_ (tq_ (tq_ (tm_ ok_0) (tq_ (tm_ ok_1) (tm_ ok_2))) (tq_ (tm_ ok_3) (tq_ (tm_ ok_4) (tm_ ok_5)))) (tq_ (tq_ (tm_ ok_6) (tq_ (tm_ ok_7) (tm_ ok_8))) (tq_ (tq_ (tm_ ok_9) (tm_ ok_10)) (tq_ (tm_ ok_11) (tm_ ok_12))))) (tq_ (tq_ (tq_ (tm_ ok_13) (tq_ (tm_ ok_14) (tm_ ok_15))) (tq_ (tm_ ok_16) (tq_ (tm_ ok_17) (tm_ ok_18)))) (tq_ (tq_ (tm_ ok_19) (tq_ (tm_ ok_20) (tm_ ok_21))) (tq_ (tq_ (tm_ ok_22) (tm_ ok_23)) (tq_ (tm_ ok_24) (tm_ ok_25)))))) (tq_ (tq_ (tq_ (tq_ (tm_ ok_26) (tq_ (tm_ ok_27) (tm_ ok_28))) (tq_ (tm_ ok_29) (tq_ (tm_ ok_30) (tm_ ok_31)))) (tq_ (tq_ (tm_ ok_32) (tq_ (tm_ ok_33) (tm_ ok_34))) (tq_ (tq_ (tm_ ok_35) (tm_ ok_36)) (tq_ (tm_ ok_37) (tm_ ok_38))))) (tq_ (tq_ (tq_ (tm_ ok_39) (tq_ (tm_ ok_40) (tm_ ok_41))) (tq_ (tq_ (tm_ ok_42) (tm_ ok_43)) (tq_ (tm_ ok_44) (tm_ ok_45)))) (tq_ (tq_ (tm_ ok_46) (tq_ (tm_ ok_47) (tm_ ok_48))) (tq_ (tq_ (tm_ ok_49) (tm_ ok_50)) (tq_ (tm_ ok_51) (tm_ ok_52))))))) (tq_ (tq_ (tq_ (tq_ (tq_ (tm_ ok_53) (tq_ (tm_ ok_54) (tm_ ok_55))) (tq_ (tm_ ok_56) (tq_ (tm_ ok_57) (tm_ ok_58)))) (tq_ (tq_ (tm_ ok_59) (tq_ (tm_ ok_60) (tm_ ok_61))) (tq_ (tq_ (tm_ ok_62) (tm_ ok_63)) (tq_ (tm_ ok_64) (tm_ ok_65))))) (tq_ (tq_ (tq_ (tm_ ok_66) (tq_ (tm_ ok_67) (tm_ ok_68))) (tq_ (tq_ (tm_ ok_69) (tm_ ok_70)) (tq_ (tm_ ok_71) (tm_ ok_72)))) (tq_ (tq_ (tm_ ok_73) (tq_ (tm_ ok_74) (tm_ ok_75))) (tq_ (tq_ (tm_ ok_76) (tm_ ok_77)) (tq_ (tm_ ok_78) (tm_ ok_79)))))) (tq_ (tq_ (tq_ (tq_ (tm_ ok_80) (tq_ (tm_ ok_81) (tm_ ok_82))) (tq_ (tm_ ok_83) (tq_ (tm_ ok_84) (tm_ ok_85)))) (tq_ (tq_ (tm_ ok_86) (tq_ (tm_ ok_87) (tm_ ok_88))) (tq_ (tq_ (tm_ ok_89) (tm_ ok_90)) (tq_ (tm_ ok_91) (tm_ ok_92))))) (tq_ (tq_ (tq_ (tm_ ok_93) (tq_ (tm_ ok_94) (tm_ ok_95))) (tq_ (tq_ (tm_ ok_96) (tm_ ok_97)) (tq_ (tm_ ok_98) (tm_ ok_99)))) (tq_ (tq_ (tm_ ok_100) (tq_ (tm_ ok_101) (tm_ ok_102))) (tq_ (tq_ (tm_ ok_103) (tm_ ok_104)) (tq_ (tm_ ok_105) (tm_ ok_106)))))))
theorem ok_all (mi pc op a b pc' : Nat) (h : cd mi pc = some (op, a, b, pc')) : okI mi pc op a b pc' := ok_cd mi pc (op, a, b, pc') h
