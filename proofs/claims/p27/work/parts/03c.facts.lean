/-! The words of the tables, each by its place; written by a program. -/
theorem tb_457 : Cond.instanceMethod y_Clb_tellOfMember ∈ Tg := Tg_mem (List.mem_of_getElem? (i := 468) (by decide +kernel)) (by decide +kernel)
theorem tb_458 : Cond.selects "HamperClub$Club" y_Clb_tellOfMember y_Clb_tellOfMember ∈ Tg := Tg_mem (List.mem_of_getElem? (i := 469) (by decide +kernel)) (by decide +kernel)
theorem tb_459 : Cond.code y_Clb_tellOfMember prog_4_method_20_code 3 (Option.some .int) ∈ Tg := Tg_mem (List.mem_of_getElem? (i := 470) (by decide +kernel)) (by decide +kernel)
theorem tb_460 : Cond.methodLink "HamperClub$Club" 150 y_Hmp_hasOneKept ∈ Tg := Tg_mem (List.mem_of_getElem? (i := 471) (by decide +kernel)) (by decide +kernel)
theorem tb_461 : Cond.instanceMethod y_Hmp_hasOneKept ∈ Tg := Tg_mem (List.mem_of_getElem? (i := 472) (by decide +kernel)) (by decide +kernel)
theorem tb_462 : Cond.selects "HamperClub$Hampers" y_Hmp_hasOneKept y_Hmp_hasOneKept ∈ Tg := Tg_mem (List.mem_of_getElem? (i := 473) (by decide +kernel)) (by decide +kernel)
theorem tb_463 : Cond.code y_Hmp_hasOneKept prog_5_method_3_code 2 (Option.some .boolean) ∈ Tg := Tg_mem (List.mem_of_getElem? (i := 474) (by decide +kernel)) (by decide +kernel)
theorem tb_464 : Cond.methodLink "HamperClub$Club" 196 y_Lng_bitCount ∈ Tg := Tg_mem (List.mem_of_getElem? (i := 475) (by decide +kernel)) (by decide +kernel)
theorem tb_465 : Cond.static y_Lng_bitCount ∈ Tg := Tg_mem (List.mem_of_getElem? (i := 476) (by decide +kernel)) (by decide +kernel)
theorem tb_466 : Cond.code y_Lng_bitCount prog_12_method_50_code 2 (Option.some .int) ∈ Tg := Tg_mem (List.mem_of_getElem? (i := 477) (by decide +kernel)) (by decide +kernel)
theorem tb_467 : Cond.constantLong "java/lang/Long" 314 6148914691236517205 ∈ Tg := Tg_mem (List.mem_of_getElem? (i := 478) (by decide +kernel)) (by decide +kernel)
theorem tb_468 : Cond.constantLong "java/lang/Long" 316 3689348814741910323 ∈ Tg := Tg_mem (List.mem_of_getElem? (i := 479) (by decide +kernel)) (by decide +kernel)
theorem tb_469 : Cond.constantLong "java/lang/Long" 318 1085102592571150095 ∈ Tg := Tg_mem (List.mem_of_getElem? (i := 480) (by decide +kernel)) (by decide +kernel)
theorem tb_470 : Cond.methodLink "HamperClub$Club" 202 y_Crd_rowOfGoodWeeks ∈ Tg := Tg_mem (List.mem_of_getElem? (i := 481) (by decide +kernel)) (by decide +kernel)
theorem tb_471 : Cond.instanceMethod y_Crd_rowOfGoodWeeks ∈ Tg := Tg_mem (List.mem_of_getElem? (i := 482) (by decide +kernel)) (by decide +kernel)
theorem tb_472 : Cond.selects "HamperClub$Cards" y_Crd_rowOfGoodWeeks y_Crd_rowOfGoodWeeks ∈ Tg := Tg_mem (List.mem_of_getElem? (i := 483) (by decide +kernel)) (by decide +kernel)
theorem tb_473 : Cond.code y_Crd_rowOfGoodWeeks prog_3_method_12_code 6 (Option.some .int) ∈ Tg := Tg_mem (List.mem_of_getElem? (i := 484) (by decide +kernel)) (by decide +kernel)
theorem tb_474 : Cond.methodLink "HamperClub$Cards" 57 y_Crd_isGoodIn ∈ Tg := Tg_mem (List.mem_of_getElem? (i := 485) (by decide +kernel)) (by decide +kernel)
theorem tb_475 : Cond.methodLink "HamperClubLaw" 33 y_Ham_would ∈ Tg := Tg_mem (List.mem_of_getElem? (i := 486) (by decide +kernel)) (by decide +kernel)
theorem tb_476 : Cond.instanceMethod y_Ham_would ∈ Tg := Tg_mem (List.mem_of_getElem? (i := 487) (by decide +kernel)) (by decide +kernel)
theorem tb_477 : Cond.selects "HamperClub" y_Ham_would y_Ham_would ∈ Tg := Tg_mem (List.mem_of_getElem? (i := 488) (by decide +kernel)) (by decide +kernel)
theorem tb_478 : Cond.code y_Ham_would prog_1_method_23_code 4 (Option.some .int) ∈ Tg := Tg_mem (List.mem_of_getElem? (i := 489) (by decide +kernel)) (by decide +kernel)
theorem tb_479 : Cond.methodLink "HamperClub" 126 y_Crd_exists ∈ Tg := Tg_mem (List.mem_of_getElem? (i := 490) (by decide +kernel)) (by decide +kernel)
theorem tb_480 : Cond.methodLink "HamperClub" 149 y_Clb_bonusOf ∈ Tg := Tg_mem (List.mem_of_getElem? (i := 491) (by decide +kernel)) (by decide +kernel)
theorem tb_481 : Cond.instanceMethod y_Clb_bonusOf ∈ Tg := Tg_mem (List.mem_of_getElem? (i := 492) (by decide +kernel)) (by decide +kernel)
theorem tb_482 : Cond.selects "HamperClub$Club" y_Clb_bonusOf y_Clb_bonusOf ∈ Tg := Tg_mem (List.mem_of_getElem? (i := 493) (by decide +kernel)) (by decide +kernel)
theorem tb_483 : Cond.code y_Clb_bonusOf prog_4_method_15_code 3 (Option.some .int) ∈ Tg := Tg_mem (List.mem_of_getElem? (i := 494) (by decide +kernel)) (by decide +kernel)
theorem tb_484 : Cond.methodLink "HamperClub$Club" 144 y_Crd_sharedStamps ∈ Tg := Tg_mem (List.mem_of_getElem? (i := 495) (by decide +kernel)) (by decide +kernel)
theorem tb_485 : Cond.instanceMethod y_Crd_sharedStamps ∈ Tg := Tg_mem (List.mem_of_getElem? (i := 496) (by decide +kernel)) (by decide +kernel)
theorem tb_486 : Cond.selects "HamperClub$Cards" y_Crd_sharedStamps y_Crd_sharedStamps ∈ Tg := Tg_mem (List.mem_of_getElem? (i := 497) (by decide +kernel)) (by decide +kernel)
theorem tb_487 : Cond.code y_Crd_sharedStamps prog_3_method_7_code 3 (Option.some .int) ∈ Tg := Tg_mem (List.mem_of_getElem? (i := 498) (by decide +kernel)) (by decide +kernel)
theorem tb_488 : Cond.methodLink "HamperClub$Cards" 53 y_Crd_shares ∈ Tg := Tg_mem (List.mem_of_getElem? (i := 499) (by decide +kernel)) (by decide +kernel)
theorem tb_489 : Cond.instanceMethod y_Crd_shares ∈ Tg := Tg_mem (List.mem_of_getElem? (i := 500) (by decide +kernel)) (by decide +kernel)
theorem tb_490 : Cond.selects "HamperClub$Cards" y_Crd_shares y_Crd_shares ∈ Tg := Tg_mem (List.mem_of_getElem? (i := 501) (by decide +kernel)) (by decide +kernel)
theorem tb_491 : Cond.code y_Crd_shares prog_3_method_6_code 2 (Option.some .boolean) ∈ Tg := Tg_mem (List.mem_of_getElem? (i := 502) (by decide +kernel)) (by decide +kernel)
theorem tb_492 : Cond.methodLink "HamperClub$Club" 147 y_Crd_shares ∈ Tg := Tg_mem (List.mem_of_getElem? (i := 503) (by decide +kernel)) (by decide +kernel)
theorem tb_493 : Cond.methodLink "HamperClub" 152 y_Clb_copyFrom ∈ Tg := Tg_mem (List.mem_of_getElem? (i := 504) (by decide +kernel)) (by decide +kernel)
theorem tb_494 : Cond.methodLink "HamperClub" 78 y_Clb_settleAll ∈ Tg := Tg_mem (List.mem_of_getElem? (i := 505) (by decide +kernel)) (by decide +kernel)
theorem tb_495 : Cond.instanceMethod y_Clb_settleAll ∈ Tg := Tg_mem (List.mem_of_getElem? (i := 506) (by decide +kernel)) (by decide +kernel)
theorem tb_496 : Cond.selects "HamperClub$Club" y_Clb_settleAll y_Clb_settleAll ∈ Tg := Tg_mem (List.mem_of_getElem? (i := 507) (by decide +kernel)) (by decide +kernel)
theorem tb_497 : Cond.code y_Clb_settleAll prog_4_method_14_code 2 (Option.some .int) ∈ Tg := Tg_mem (List.mem_of_getElem? (i := 508) (by decide +kernel)) (by decide +kernel)
theorem tb_498 : Cond.methodLink "HamperClub$Club" 134 y_Clb_bonusOf ∈ Tg := Tg_mem (List.mem_of_getElem? (i := 509) (by decide +kernel)) (by decide +kernel)
theorem tb_499 : Cond.methodLink "HamperClub$Club" 97 y_Clb_payMember ∈ Tg := Tg_mem (List.mem_of_getElem? (i := 510) (by decide +kernel)) (by decide +kernel)
theorem tb_501 : Cond.instanceMethod y_Clb_payMember ∈ Tg := Tg_mem (List.mem_of_getElem? (i := 512) (by decide +kernel)) (by decide +kernel)
theorem tb_502 : Cond.code y_Clb_payMember prog_4_method_18_code 3 none ∈ Tg := Tg_mem (List.mem_of_getElem? (i := 513) (by decide +kernel)) (by decide +kernel)
theorem tb_503 : Cond.methodLink "HamperClub$Club" 162 y_Acc_payOut ∈ Tg := Tg_mem (List.mem_of_getElem? (i := 514) (by decide +kernel)) (by decide +kernel)
theorem tb_504 : Cond.instanceMethod y_Acc_payOut ∈ Tg := Tg_mem (List.mem_of_getElem? (i := 515) (by decide +kernel)) (by decide +kernel)
theorem tb_505 : Cond.selects "HamperClub$Accounts" y_Acc_payOut y_Acc_payOut ∈ Tg := Tg_mem (List.mem_of_getElem? (i := 516) (by decide +kernel)) (by decide +kernel)
theorem tb_506 : Cond.code y_Acc_payOut prog_2_method_4_code 2 none ∈ Tg := Tg_mem (List.mem_of_getElem? (i := 517) (by decide +kernel)) (by decide +kernel)
theorem tb_507 : Cond.methodLink "HamperClub$Club" 138 y_Clb_handOutKind ∈ Tg := Tg_mem (List.mem_of_getElem? (i := 518) (by decide +kernel)) (by decide +kernel)
theorem tb_509 : Cond.instanceMethod y_Clb_handOutKind ∈ Tg := Tg_mem (List.mem_of_getElem? (i := 520) (by decide +kernel)) (by decide +kernel)
theorem tb_510 : Cond.code y_Clb_handOutKind prog_4_method_16_code 3 none ∈ Tg := Tg_mem (List.mem_of_getElem? (i := 521) (by decide +kernel)) (by decide +kernel)
theorem tb_511 : Cond.methodLink "HamperClub$Club" 153 y_Clb_handOutOne ∈ Tg := Tg_mem (List.mem_of_getElem? (i := 522) (by decide +kernel)) (by decide +kernel)
theorem tb_513 : Cond.instanceMethod y_Clb_handOutOne ∈ Tg := Tg_mem (List.mem_of_getElem? (i := 524) (by decide +kernel)) (by decide +kernel)
theorem tb_514 : Cond.code y_Clb_handOutOne prog_4_method_17_code 6 none ∈ Tg := Tg_mem (List.mem_of_getElem? (i := 525) (by decide +kernel)) (by decide +kernel)
theorem tb_515 : Cond.methodLink "HamperClub$Club" 156 y_Acc_payShop ∈ Tg := Tg_mem (List.mem_of_getElem? (i := 526) (by decide +kernel)) (by decide +kernel)
theorem tb_516 : Cond.instanceMethod y_Acc_payShop ∈ Tg := Tg_mem (List.mem_of_getElem? (i := 527) (by decide +kernel)) (by decide +kernel)
theorem tb_517 : Cond.selects "HamperClub$Accounts" y_Acc_payShop y_Acc_payShop ∈ Tg := Tg_mem (List.mem_of_getElem? (i := 528) (by decide +kernel)) (by decide +kernel)
theorem tb_518 : Cond.code y_Acc_payShop prog_2_method_5_code 2 none ∈ Tg := Tg_mem (List.mem_of_getElem? (i := 529) (by decide +kernel)) (by decide +kernel)
theorem tb_519 : Cond.methodLink "HamperClub$Club" 159 y_Hmp_handOut ∈ Tg := Tg_mem (List.mem_of_getElem? (i := 530) (by decide +kernel)) (by decide +kernel)
theorem tb_520 : Cond.instanceMethod y_Hmp_handOut ∈ Tg := Tg_mem (List.mem_of_getElem? (i := 531) (by decide +kernel)) (by decide +kernel)
theorem tb_521 : Cond.selects "HamperClub$Hampers" y_Hmp_handOut y_Hmp_handOut ∈ Tg := Tg_mem (List.mem_of_getElem? (i := 532) (by decide +kernel)) (by decide +kernel)
theorem tb_522 : Cond.code y_Hmp_handOut prog_5_method_10_code 3 none ∈ Tg := Tg_mem (List.mem_of_getElem? (i := 533) (by decide +kernel)) (by decide +kernel)
theorem tb_523 : Cond.methodLink "HamperClub$Club" 141 y_Hmp_forgetChoices ∈ Tg := Tg_mem (List.mem_of_getElem? (i := 534) (by decide +kernel)) (by decide +kernel)
theorem tb_524 : Cond.instanceMethod y_Hmp_forgetChoices ∈ Tg := Tg_mem (List.mem_of_getElem? (i := 535) (by decide +kernel)) (by decide +kernel)
theorem tb_525 : Cond.selects "HamperClub$Hampers" y_Hmp_forgetChoices y_Hmp_forgetChoices ∈ Tg := Tg_mem (List.mem_of_getElem? (i := 536) (by decide +kernel)) (by decide +kernel)
theorem tb_526 : Cond.code y_Hmp_forgetChoices prog_5_method_11_code 1 none ∈ Tg := Tg_mem (List.mem_of_getElem? (i := 537) (by decide +kernel)) (by decide +kernel)
theorem tb_527 : Cond.methodLink "HamperClubLaw" 110 y_Ham_weeksFor ∈ Tg := Tg_mem (List.mem_of_getElem? (i := 538) (by decide +kernel)) (by decide +kernel)
theorem tb_528 : Cond.instanceMethod y_Ham_weeksFor ∈ Tg := Tg_mem (List.mem_of_getElem? (i := 539) (by decide +kernel)) (by decide +kernel)
theorem tb_529 : Cond.selects "HamperClub" y_Ham_weeksFor y_Ham_weeksFor ∈ Tg := Tg_mem (List.mem_of_getElem? (i := 540) (by decide +kernel)) (by decide +kernel)
theorem tb_530 : Cond.code y_Ham_weeksFor prog_1_method_25_code 7 (Option.some .int) ∈ Tg := Tg_mem (List.mem_of_getElem? (i := 541) (by decide +kernel)) (by decide +kernel)
theorem tb_531 : Cond.methodLink "HamperClub" 143 y_Ham_isKind ∈ Tg := Tg_mem (List.mem_of_getElem? (i := 542) (by decide +kernel)) (by decide +kernel)
theorem tb_532 : Cond.methodLink "HamperClub" 169 y_Crd_isInHand ∈ Tg := Tg_mem (List.mem_of_getElem? (i := 543) (by decide +kernel)) (by decide +kernel)
theorem tb_533 : Cond.methodLink "HamperClub" 131 y_Crd_isGoodIn ∈ Tg := Tg_mem (List.mem_of_getElem? (i := 544) (by decide +kernel)) (by decide +kernel)
theorem tb_534 : Cond.methodLink "HamperClubLaw" 95 y_Law_cell ∈ Tg := Tg_mem (List.mem_of_getElem? (i := 545) (by decide +kernel)) (by decide +kernel)
theorem tb_535 : Cond.static y_Law_cell ∈ Tg := Tg_mem (List.mem_of_getElem? (i := 546) (by decide +kernel)) (by decide +kernel)
theorem tb_536 : Cond.code y_Law_cell method_2_code 2 (Option.some .int) ∈ Tg := Tg_mem (List.mem_of_getElem? (i := 547) (by decide +kernel)) (by decide +kernel)
theorem tb_537 : Cond.methodLink "HamperClubLaw" 39 y_Law_low ∈ Tg := Tg_mem (List.mem_of_getElem? (i := 548) (by decide +kernel)) (by decide +kernel)
theorem tb_538 : Cond.static y_Law_low ∈ Tg := Tg_mem (List.mem_of_getElem? (i := 549) (by decide +kernel)) (by decide +kernel)
theorem tb_539 : Cond.code y_Law_low method_3_code 2 (Option.some .int) ∈ Tg := Tg_mem (List.mem_of_getElem? (i := 550) (by decide +kernel)) (by decide +kernel)
theorem tb_540 : Cond.constant "HamperClubLaw" 7 (2147483647 : Int32) ∈ Tg := Tg_mem (List.mem_of_getElem? (i := 551) (by decide +kernel)) (by decide +kernel)
theorem tb_541 : Cond.methodLink "HamperClubLaw" 42 y_Law_all ∈ Tg := Tg_mem (List.mem_of_getElem? (i := 552) (by decide +kernel)) (by decide +kernel)
theorem tb_542 : Cond.static y_Law_all ∈ Tg := Tg_mem (List.mem_of_getElem? (i := 553) (by decide +kernel)) (by decide +kernel)
theorem tb_543 : Cond.code y_Law_all method_4_code 5 (Option.some .long) ∈ Tg := Tg_mem (List.mem_of_getElem? (i := 554) (by decide +kernel)) (by decide +kernel)
theorem tb_544 : Cond.constantLong "HamperClubLaw" 8 59 ∈ Tg := Tg_mem (List.mem_of_getElem? (i := 555) (by decide +kernel)) (by decide +kernel)
theorem tb_545 : Cond.constantLong "HamperClubLaw" 10 31 ∈ Tg := Tg_mem (List.mem_of_getElem? (i := 556) (by decide +kernel)) (by decide +kernel)
theorem tb_546 : Cond.methodLink "HamperClubLaw" 18 y_Ham_hamper ∈ Tg := Tg_mem (List.mem_of_getElem? (i := 557) (by decide +kernel)) (by decide +kernel)
theorem tb_547 : Cond.instanceMethod y_Ham_hamper ∈ Tg := Tg_mem (List.mem_of_getElem? (i := 558) (by decide +kernel)) (by decide +kernel)
theorem tb_548 : Cond.selects "HamperClub" y_Ham_hamper y_Ham_hamper ∈ Tg := Tg_mem (List.mem_of_getElem? (i := 559) (by decide +kernel)) (by decide +kernel)
theorem tb_549 : Cond.code y_Ham_hamper prog_1_method_21_code 3 (Option.some .int) ∈ Tg := Tg_mem (List.mem_of_getElem? (i := 560) (by decide +kernel)) (by decide +kernel)
theorem tb_550 : Cond.methodLink "HamperClub" 139 y_Hmp_tell ∈ Tg := Tg_mem (List.mem_of_getElem? (i := 561) (by decide +kernel)) (by decide +kernel)
theorem tb_551 : Cond.instanceMethod y_Hmp_tell ∈ Tg := Tg_mem (List.mem_of_getElem? (i := 562) (by decide +kernel)) (by decide +kernel)
theorem tb_552 : Cond.selects "HamperClub$Hampers" y_Hmp_tell y_Hmp_tell ∈ Tg := Tg_mem (List.mem_of_getElem? (i := 563) (by decide +kernel)) (by decide +kernel)
theorem tb_553 : Cond.code y_Hmp_tell prog_5_method_7_code 3 (Option.some .int) ∈ Tg := Tg_mem (List.mem_of_getElem? (i := 564) (by decide +kernel)) (by decide +kernel)
theorem tb_555 : Cond.methodLink "HamperClub$Hampers" 49 y_Hmp_keptOf ∈ Tg := Tg_mem (List.mem_of_getElem? (i := 566) (by decide +kernel)) (by decide +kernel)
theorem tb_556 : Cond.instanceMethod y_Hmp_keptOf ∈ Tg := Tg_mem (List.mem_of_getElem? (i := 567) (by decide +kernel)) (by decide +kernel)
theorem tb_557 : Cond.selects "HamperClub$Hampers" y_Hmp_keptOf y_Hmp_keptOf ∈ Tg := Tg_mem (List.mem_of_getElem? (i := 568) (by decide +kernel)) (by decide +kernel)
theorem tb_558 : Cond.code y_Hmp_keptOf prog_5_method_4_code 4 (Option.some .int) ∈ Tg := Tg_mem (List.mem_of_getElem? (i := 569) (by decide +kernel)) (by decide +kernel)
theorem tb_559 : Cond.methodLink "HamperClubLaw" 22 y_Ham_waiting ∈ Tg := Tg_mem (List.mem_of_getElem? (i := 570) (by decide +kernel)) (by decide +kernel)
theorem tb_560 : Cond.instanceMethod y_Ham_waiting ∈ Tg := Tg_mem (List.mem_of_getElem? (i := 571) (by decide +kernel)) (by decide +kernel)
theorem tb_561 : Cond.selects "HamperClub" y_Ham_waiting y_Ham_waiting ∈ Tg := Tg_mem (List.mem_of_getElem? (i := 572) (by decide +kernel)) (by decide +kernel)
theorem tb_562 : Cond.code y_Ham_waiting prog_1_method_22_code 3 (Option.some .int) ∈ Tg := Tg_mem (List.mem_of_getElem? (i := 573) (by decide +kernel)) (by decide +kernel)
theorem tb_563 : Cond.methodLink "HamperClub" 146 y_Hmp_memberInRow ∈ Tg := Tg_mem (List.mem_of_getElem? (i := 574) (by decide +kernel)) (by decide +kernel)
theorem tb_564 : Cond.methodLink "HamperClubLaw" 28 y_Ham_isGood ∈ Tg := Tg_mem (List.mem_of_getElem? (i := 575) (by decide +kernel)) (by decide +kernel)
theorem tb_565 : Cond.instanceMethod y_Ham_isGood ∈ Tg := Tg_mem (List.mem_of_getElem? (i := 576) (by decide +kernel)) (by decide +kernel)
theorem tb_566 : Cond.selects "HamperClub" y_Ham_isGood y_Ham_isGood ∈ Tg := Tg_mem (List.mem_of_getElem? (i := 577) (by decide +kernel)) (by decide +kernel)
theorem tb_567 : Cond.code y_Ham_isGood prog_1_method_20_code 4 (Option.some .int) ∈ Tg := Tg_mem (List.mem_of_getElem? (i := 578) (by decide +kernel)) (by decide +kernel)
theorem tb_568 : Cond.methodLink "HamperClubLaw" 50 y_Law_isSound ∈ Tg := Tg_mem (List.mem_of_getElem? (i := 579) (by decide +kernel)) (by decide +kernel)
theorem tb_569 : Cond.static y_Law_isSound ∈ Tg := Tg_mem (List.mem_of_getElem? (i := 580) (by decide +kernel)) (by decide +kernel)
set_option maxRecDepth 100000 in
theorem tb_570 : Cond.code y_Law_isSound method_5_code 13 (Option.some .boolean) ∈ Tg := Tg_mem (List.mem_of_getElem? (i := 581) rfl) (by decide +kernel)
theorem tb_571 : Cond.methodLink "HamperClubLaw" 106 y_Law_isForetold ∈ Tg := Tg_mem (List.mem_of_getElem? (i := 582) (by decide +kernel)) (by decide +kernel)
theorem tb_572 : Cond.static y_Law_isForetold ∈ Tg := Tg_mem (List.mem_of_getElem? (i := 583) (by decide +kernel)) (by decide +kernel)
set_option maxRecDepth 100000 in
theorem tb_573 : Cond.code y_Law_isForetold method_6_code 16 (Option.some .boolean) ∈ Tg := Tg_mem (List.mem_of_getElem? (i := 584) rfl) (by decide +kernel)
theorem tb_574 : Cond.methodLink "HamperClubLaw" 36 y_Ham_bestKind ∈ Tg := Tg_mem (List.mem_of_getElem? (i := 585) (by decide +kernel)) (by decide +kernel)
theorem tb_575 : Cond.instanceMethod y_Ham_bestKind ∈ Tg := Tg_mem (List.mem_of_getElem? (i := 586) (by decide +kernel)) (by decide +kernel)
theorem tb_576 : Cond.selects "HamperClub" y_Ham_bestKind y_Ham_bestKind ∈ Tg := Tg_mem (List.mem_of_getElem? (i := 587) (by decide +kernel)) (by decide +kernel)
theorem tb_577 : Cond.code y_Ham_bestKind prog_1_method_24_code 6 (Option.some .int) ∈ Tg := Tg_mem (List.mem_of_getElem? (i := 588) (by decide +kernel)) (by decide +kernel)
theorem tb_578 : Cond.methodLink "HamperClub" 166 y_Ham_wouldGet ∈ Tg := Tg_mem (List.mem_of_getElem? (i := 589) (by decide +kernel)) (by decide +kernel)
theorem tb_580 : Cond.instanceMethod y_Ham_wouldGet ∈ Tg := Tg_mem (List.mem_of_getElem? (i := 591) (by decide +kernel)) (by decide +kernel)
theorem tb_581 : Cond.code y_Ham_wouldGet prog_1_method_27_code 3 (Option.some .boolean) ∈ Tg := Tg_mem (List.mem_of_getElem? (i := 592) (by decide +kernel)) (by decide +kernel)
theorem tb_582 : Cond.methodLink "HamperClubLaw" 46 y_Ham_settle ∈ Tg := Tg_mem (List.mem_of_getElem? (i := 593) (by decide +kernel)) (by decide +kernel)
theorem tb_583 : Cond.instanceMethod y_Ham_settle ∈ Tg := Tg_mem (List.mem_of_getElem? (i := 594) (by decide +kernel)) (by decide +kernel)
theorem tb_584 : Cond.selects "HamperClub" y_Ham_settle y_Ham_settle ∈ Tg := Tg_mem (List.mem_of_getElem? (i := 595) (by decide +kernel)) (by decide +kernel)
theorem tb_585 : Cond.code y_Ham_settle prog_1_method_11_code 1 (Option.some .int) ∈ Tg := Tg_mem (List.mem_of_getElem? (i := 596) (by decide +kernel)) (by decide +kernel)
theorem tb_586 : Cond.methodLink "HamperClubLaw" 102 y_Law_acts ∈ Tg := Tg_mem (List.mem_of_getElem? (i := 597) (by decide +kernel)) (by decide +kernel)
theorem tb_587 : Cond.static y_Law_acts ∈ Tg := Tg_mem (List.mem_of_getElem? (i := 598) (by decide +kernel)) (by decide +kernel)
set_option maxRecDepth 100000 in
theorem tb_588 : Cond.code y_Law_acts method_7_code 4 (Option.some .int) ∈ Tg := Tg_mem (List.mem_of_getElem? (i := 599) rfl) (by decide +kernel)
theorem tb_589 : Cond.methodLink "HamperClubLaw" 66 y_Ham_withdraw ∈ Tg := Tg_mem (List.mem_of_getElem? (i := 600) (by decide +kernel)) (by decide +kernel)
theorem tb_590 : Cond.instanceMethod y_Ham_withdraw ∈ Tg := Tg_mem (List.mem_of_getElem? (i := 601) (by decide +kernel)) (by decide +kernel)
theorem tb_591 : Cond.selects "HamperClub" y_Ham_withdraw y_Ham_withdraw ∈ Tg := Tg_mem (List.mem_of_getElem? (i := 602) (by decide +kernel)) (by decide +kernel)
theorem tb_592 : Cond.code y_Ham_withdraw prog_1_method_4_code 3 (Option.some .int) ∈ Tg := Tg_mem (List.mem_of_getElem? (i := 603) (by decide +kernel)) (by decide +kernel)
theorem tb_593 : Cond.methodLink "HamperClub" 56 y_Clb_withdrawStamps ∈ Tg := Tg_mem (List.mem_of_getElem? (i := 604) (by decide +kernel)) (by decide +kernel)
theorem tb_594 : Cond.instanceMethod y_Clb_withdrawStamps ∈ Tg := Tg_mem (List.mem_of_getElem? (i := 605) (by decide +kernel)) (by decide +kernel)
theorem tb_595 : Cond.selects "HamperClub$Club" y_Clb_withdrawStamps y_Clb_withdrawStamps ∈ Tg := Tg_mem (List.mem_of_getElem? (i := 606) (by decide +kernel)) (by decide +kernel)
theorem tb_596 : Cond.code y_Clb_withdrawStamps prog_4_method_5_code 5 (Option.some .int) ∈ Tg := Tg_mem (List.mem_of_getElem? (i := 607) (by decide +kernel)) (by decide +kernel)
theorem tb_597 : Cond.methodLink "HamperClub$Club" 85 y_Mth_min ∈ Tg := Tg_mem (List.mem_of_getElem? (i := 608) (by decide +kernel)) (by decide +kernel)
theorem tb_598 : Cond.methodLink "HamperClubLaw" 69 y_Ham_mislay ∈ Tg := Tg_mem (List.mem_of_getElem? (i := 609) (by decide +kernel)) (by decide +kernel)
theorem tb_599 : Cond.instanceMethod y_Ham_mislay ∈ Tg := Tg_mem (List.mem_of_getElem? (i := 610) (by decide +kernel)) (by decide +kernel)
theorem tb_600 : Cond.selects "HamperClub" y_Ham_mislay y_Ham_mislay ∈ Tg := Tg_mem (List.mem_of_getElem? (i := 611) (by decide +kernel)) (by decide +kernel)
theorem tb_601 : Cond.code y_Ham_mislay prog_1_method_5_code 2 (Option.some .int) ∈ Tg := Tg_mem (List.mem_of_getElem? (i := 612) (by decide +kernel)) (by decide +kernel)
theorem tb_602 : Cond.methodLink "HamperClub" 59 y_Clb_mislayCard ∈ Tg := Tg_mem (List.mem_of_getElem? (i := 613) (by decide +kernel)) (by decide +kernel)
theorem tb_603 : Cond.instanceMethod y_Clb_mislayCard ∈ Tg := Tg_mem (List.mem_of_getElem? (i := 614) (by decide +kernel)) (by decide +kernel)
theorem tb_604 : Cond.selects "HamperClub$Club" y_Clb_mislayCard y_Clb_mislayCard ∈ Tg := Tg_mem (List.mem_of_getElem? (i := 615) (by decide +kernel)) (by decide +kernel)
theorem tb_605 : Cond.code y_Clb_mislayCard prog_4_method_6_code 2 (Option.some .int) ∈ Tg := Tg_mem (List.mem_of_getElem? (i := 616) (by decide +kernel)) (by decide +kernel)
theorem tb_606 : Cond.methodLink "HamperClubLaw" 72 y_Ham_find ∈ Tg := Tg_mem (List.mem_of_getElem? (i := 617) (by decide +kernel)) (by decide +kernel)
theorem tb_607 : Cond.instanceMethod y_Ham_find ∈ Tg := Tg_mem (List.mem_of_getElem? (i := 618) (by decide +kernel)) (by decide +kernel)
theorem tb_608 : Cond.selects "HamperClub" y_Ham_find y_Ham_find ∈ Tg := Tg_mem (List.mem_of_getElem? (i := 619) (by decide +kernel)) (by decide +kernel)
theorem tb_609 : Cond.code y_Ham_find prog_1_method_6_code 2 (Option.some .int) ∈ Tg := Tg_mem (List.mem_of_getElem? (i := 620) (by decide +kernel)) (by decide +kernel)
theorem tb_610 : Cond.methodLink "HamperClub" 62 y_Clb_findCard ∈ Tg := Tg_mem (List.mem_of_getElem? (i := 621) (by decide +kernel)) (by decide +kernel)
theorem tb_611 : Cond.instanceMethod y_Clb_findCard ∈ Tg := Tg_mem (List.mem_of_getElem? (i := 622) (by decide +kernel)) (by decide +kernel)
theorem tb_612 : Cond.selects "HamperClub$Club" y_Clb_findCard y_Clb_findCard ∈ Tg := Tg_mem (List.mem_of_getElem? (i := 623) (by decide +kernel)) (by decide +kernel)
theorem tb_613 : Cond.code y_Clb_findCard prog_4_method_7_code 2 (Option.some .int) ∈ Tg := Tg_mem (List.mem_of_getElem? (i := 624) (by decide +kernel)) (by decide +kernel)
theorem tb_614 : Cond.methodLink "HamperClubLaw" 75 y_Ham_giveUp ∈ Tg := Tg_mem (List.mem_of_getElem? (i := 625) (by decide +kernel)) (by decide +kernel)
theorem tb_615 : Cond.instanceMethod y_Ham_giveUp ∈ Tg := Tg_mem (List.mem_of_getElem? (i := 626) (by decide +kernel)) (by decide +kernel)
theorem tb_616 : Cond.selects "HamperClub" y_Ham_giveUp y_Ham_giveUp ∈ Tg := Tg_mem (List.mem_of_getElem? (i := 627) (by decide +kernel)) (by decide +kernel)
theorem tb_617 : Cond.code y_Ham_giveUp prog_1_method_9_code 2 (Option.some .int) ∈ Tg := Tg_mem (List.mem_of_getElem? (i := 628) (by decide +kernel)) (by decide +kernel)
theorem tb_618 : Cond.methodLink "HamperClub" 72 y_Clb_giveUpChoice ∈ Tg := Tg_mem (List.mem_of_getElem? (i := 629) (by decide +kernel)) (by decide +kernel)
theorem tb_619 : Cond.instanceMethod y_Clb_giveUpChoice ∈ Tg := Tg_mem (List.mem_of_getElem? (i := 630) (by decide +kernel)) (by decide +kernel)
theorem tb_620 : Cond.selects "HamperClub$Club" y_Clb_giveUpChoice y_Clb_giveUpChoice ∈ Tg := Tg_mem (List.mem_of_getElem? (i := 631) (by decide +kernel)) (by decide +kernel)
theorem tb_621 : Cond.code y_Clb_giveUpChoice prog_4_method_10_code 3 (Option.some .int) ∈ Tg := Tg_mem (List.mem_of_getElem? (i := 632) (by decide +kernel)) (by decide +kernel)
theorem tb_622 : Cond.methodLink "HamperClubLaw" 88 y_Ham_carryOut ∈ Tg := Tg_mem (List.mem_of_getElem? (i := 633) (by decide +kernel)) (by decide +kernel)
theorem tb_623 : Cond.instanceMethod y_Ham_carryOut ∈ Tg := Tg_mem (List.mem_of_getElem? (i := 634) (by decide +kernel)) (by decide +kernel)
theorem tb_624 : Cond.selects "HamperClub" y_Ham_carryOut y_Ham_carryOut ∈ Tg := Tg_mem (List.mem_of_getElem? (i := 635) (by decide +kernel)) (by decide +kernel)
theorem tb_625 : Cond.code y_Ham_carryOut prog_1_method_17_code 3 (Option.some .int) ∈ Tg := Tg_mem (List.mem_of_getElem? (i := 636) (by decide +kernel)) (by decide +kernel)
theorem tb_626 : Cond.methodLink "HamperClub" 102 y_Ord_fault ∈ Tg := Tg_mem (List.mem_of_getElem? (i := 637) (by decide +kernel)) (by decide +kernel)
theorem tb_627 : Cond.instanceMethod y_Ord_fault ∈ Tg := Tg_mem (List.mem_of_getElem? (i := 638) (by decide +kernel)) (by decide +kernel)
theorem tb_628 : Cond.selects "HamperClub$Orders" y_Ord_fault y_Ord_fault ∈ Tg := Tg_mem (List.mem_of_getElem? (i := 639) (by decide +kernel)) (by decide +kernel)
theorem tb_629 : Cond.code y_Ord_fault prog_7_method_3_code 2 (Option.some .int) ∈ Tg := Tg_mem (List.mem_of_getElem? (i := 640) (by decide +kernel)) (by decide +kernel)
theorem tb_630 : Cond.methodLink "HamperClub$Orders" 22 y_Ord_readOrder ∈ Tg := Tg_mem (List.mem_of_getElem? (i := 641) (by decide +kernel)) (by decide +kernel)
theorem tb_632 : Cond.instanceMethod y_Ord_readOrder ∈ Tg := Tg_mem (List.mem_of_getElem? (i := 643) (by decide +kernel)) (by decide +kernel)
theorem tb_633 : Cond.code y_Ord_readOrder prog_7_method_6_code 3 (Option.some .boolean) ∈ Tg := Tg_mem (List.mem_of_getElem? (i := 644) (by decide +kernel)) (by decide +kernel)
theorem tb_634 : Cond.methodLink "HamperClub$Orders" 65 y_Ord_next ∈ Tg := Tg_mem (List.mem_of_getElem? (i := 645) (by decide +kernel)) (by decide +kernel)
theorem tb_636 : Cond.instanceMethod y_Ord_next ∈ Tg := Tg_mem (List.mem_of_getElem? (i := 647) (by decide +kernel)) (by decide +kernel)
theorem tb_637 : Cond.code y_Ord_next prog_7_method_8_code 1 (Option.some .int) ∈ Tg := Tg_mem (List.mem_of_getElem? (i := 648) (by decide +kernel)) (by decide +kernel)
theorem tb_638 : Cond.methodLink "HamperClub$Orders" 68 y_Ord_readNumber ∈ Tg := Tg_mem (List.mem_of_getElem? (i := 649) (by decide +kernel)) (by decide +kernel)
theorem tb_640 : Cond.instanceMethod y_Ord_readNumber ∈ Tg := Tg_mem (List.mem_of_getElem? (i := 651) (by decide +kernel)) (by decide +kernel)
theorem tb_641 : Cond.code y_Ord_readNumber prog_7_method_7_code 3 (Option.some .int) ∈ Tg := Tg_mem (List.mem_of_getElem? (i := 652) (by decide +kernel)) (by decide +kernel)
theorem tb_642 : Cond.methodLink "HamperClub$Orders" 71 y_Ord_isDigit ∈ Tg := Tg_mem (List.mem_of_getElem? (i := 653) (by decide +kernel)) (by decide +kernel)
theorem tb_643 : Cond.static y_Ord_isDigit ∈ Tg := Tg_mem (List.mem_of_getElem? (i := 654) (by decide +kernel)) (by decide +kernel)
theorem tb_644 : Cond.code y_Ord_isDigit prog_7_method_9_code 1 (Option.some .boolean) ∈ Tg := Tg_mem (List.mem_of_getElem? (i := 655) (by decide +kernel)) (by decide +kernel)
theorem tb_645 : Cond.methodLink "HamperClub" 109 y_Ord_carryOutOn ∈ Tg := Tg_mem (List.mem_of_getElem? (i := 656) (by decide +kernel)) (by decide +kernel)
theorem tb_646 : Cond.instanceMethod y_Ord_carryOutOn ∈ Tg := Tg_mem (List.mem_of_getElem? (i := 657) (by decide +kernel)) (by decide +kernel)
theorem tb_647 : Cond.selects "HamperClub$Orders" y_Ord_carryOutOn y_Ord_carryOutOn ∈ Tg := Tg_mem (List.mem_of_getElem? (i := 658) (by decide +kernel)) (by decide +kernel)
theorem tb_648 : Cond.code y_Ord_carryOutOn prog_7_method_4_code 4 (Option.some .int) ∈ Tg := Tg_mem (List.mem_of_getElem? (i := 659) (by decide +kernel)) (by decide +kernel)
theorem tb_649 : Cond.methodLink "HamperClub$Orders" 26 y_Ord_carryOutOrder ∈ Tg := Tg_mem (List.mem_of_getElem? (i := 660) (by decide +kernel)) (by decide +kernel)
theorem tb_651 : Cond.instanceMethod y_Ord_carryOutOrder ∈ Tg := Tg_mem (List.mem_of_getElem? (i := 662) (by decide +kernel)) (by decide +kernel)
theorem tb_652 : Cond.code y_Ord_carryOutOrder prog_7_method_5_code 2 (Option.some .int) ∈ Tg := Tg_mem (List.mem_of_getElem? (i := 663) (by decide +kernel)) (by decide +kernel)
theorem tb_653 : Cond.methodLink "HamperClub$Orders" 39 y_Clb_stickStamps ∈ Tg := Tg_mem (List.mem_of_getElem? (i := 664) (by decide +kernel)) (by decide +kernel)
theorem tb_654 : Cond.methodLink "HamperClub$Orders" 45 y_Clb_withdrawStamps ∈ Tg := Tg_mem (List.mem_of_getElem? (i := 665) (by decide +kernel)) (by decide +kernel)
theorem tb_655 : Cond.methodLink "HamperClub$Orders" 48 y_Clb_chooseKind ∈ Tg := Tg_mem (List.mem_of_getElem? (i := 666) (by decide +kernel)) (by decide +kernel)
theorem tb_656 : Cond.methodLink "HamperClub$Orders" 51 y_Clb_giveUpChoice ∈ Tg := Tg_mem (List.mem_of_getElem? (i := 667) (by decide +kernel)) (by decide +kernel)
theorem tb_657 : Cond.methodLink "HamperClub$Orders" 55 y_Clb_mislayCard ∈ Tg := Tg_mem (List.mem_of_getElem? (i := 668) (by decide +kernel)) (by decide +kernel)
theorem tb_658 : Cond.methodLink "HamperClub$Orders" 58 y_Clb_findCard ∈ Tg := Tg_mem (List.mem_of_getElem? (i := 669) (by decide +kernel)) (by decide +kernel)
theorem tb_659 : Cond.methodLink "HamperClub$Orders" 61 y_Clb_passWeek ∈ Tg := Tg_mem (List.mem_of_getElem? (i := 670) (by decide +kernel)) (by decide +kernel)
theorem i_Acc : ∀ w ∈ u_ws R_Acc F_Acc 5, w ∈ Tg := by
  intro w hw
  have h : (u_ws R_Acc F_Acc 5).all (fun w => decide (w ∈ lw_tbl) && goodWord w) = true := by decide +kernel
  have h1 := List.all_eq_true.mp h w hw
  simp only [Bool.and_eq_true, decide_eq_true_eq] at h1
  exact Tg_mem h1.1 h1.2
theorem i_Crd : ∀ w ∈ u_ws R_Crd F_Crd 9, w ∈ Tg := by
  intro w hw
  have h : (u_ws R_Crd F_Crd 9).all (fun w => decide (w ∈ lw_tbl) && goodWord w) = true := by decide +kernel
  have h1 := List.all_eq_true.mp h w hw
  simp only [Bool.and_eq_true, decide_eq_true_eq] at h1
  exact Tg_mem h1.1 h1.2
theorem i_Clb : ∀ w ∈ u_ws R_Clb F_Clb 7, w ∈ Tg := by
  intro w hw
  have h : (u_ws R_Clb F_Clb 7).all (fun w => decide (w ∈ lw_tbl) && goodWord w) = true := by decide +kernel
  have h1 := List.all_eq_true.mp h w hw
  simp only [Bool.and_eq_true, decide_eq_true_eq] at h1
  exact Tg_mem h1.1 h1.2
theorem i_Hmp : ∀ w ∈ u_ws R_Hmp F_Hmp 5, w ∈ Tg := by
  intro w hw
  have h : (u_ws R_Hmp F_Hmp 5).all (fun w => decide (w ∈ lw_tbl) && goodWord w) = true := by decide +kernel
  have h1 := List.all_eq_true.mp h w hw
  simp only [Bool.and_eq_true, decide_eq_true_eq] at h1
  exact Tg_mem h1.1 h1.2
theorem i_His : ∀ w ∈ u_ws R_His F_His 3, w ∈ Tg := by
  intro w hw
  have h : (u_ws R_His F_His 3).all (fun w => decide (w ∈ lw_tbl) && goodWord w) = true := by decide +kernel
  have h1 := List.all_eq_true.mp h w hw
  simp only [Bool.and_eq_true, decide_eq_true_eq] at h1
  exact Tg_mem h1.1 h1.2
theorem i_Ord : ∀ w ∈ u_ws R_Ord F_Ord 6, w ∈ Tg := by
  intro w hw
  have h : (u_ws R_Ord F_Ord 6).all (fun w => decide (w ∈ lw_tbl) && goodWord w) = true := by decide +kernel
  have h1 := List.all_eq_true.mp h w hw
  simp only [Bool.and_eq_true, decide_eq_true_eq] at h1
  exact Tg_mem h1.1 h1.2
theorem i_Snp : ∀ w ∈ u_ws R_Snp F_Snp 2, w ∈ Tg := by
  intro w hw
  have h : (u_ws R_Snp F_Snp 2).all (fun w => decide (w ∈ lw_tbl) && goodWord w) = true := by decide +kernel
  have h1 := List.all_eq_true.mp h w hw
  simp only [Bool.and_eq_true, decide_eq_true_eq] at h1
  exact Tg_mem h1.1 h1.2
theorem i_Sta : ∀ w ∈ u_ws R_Sta F_Sta 3, w ∈ Tg := by
  intro w hw
  have h : (u_ws R_Sta F_Sta 3).all (fun w => decide (w ∈ lw_tbl) && goodWord w) = true := by decide +kernel
  have h1 := List.all_eq_true.mp h w hw
  simp only [Bool.and_eq_true, decide_eq_true_eq] at h1
  exact Tg_mem h1.1 h1.2
theorem i_Ham : ∀ w ∈ u_ws R_Ham F_Ham 4, w ∈ Tg := by
  intro w hw
  have h : (u_ws R_Ham F_Ham 4).all (fun w => decide (w ∈ lw_tbl) && goodWord w) = true := by decide +kernel
  have h1 := List.all_eq_true.mp h w hw
  simp only [Bool.and_eq_true, decide_eq_true_eq] at h1
  exact Tg_mem h1.1 h1.2
