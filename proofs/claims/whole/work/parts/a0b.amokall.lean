theorem okm_75 : am_okM (yX6_trait, cX6_trait, 4, some .int, 0, 4) cd_X6_trait 6 588 587 0 97 = true := by decide +kernel
theorem okm_76 : am_okM (yX6_joined, cX6_joined, 3, some .int, 0, 3) cd_X6_joined 6 603 602 0 97 = true := by decide +kernel
theorem okm_77 : am_okM (yX7_init, cX7_init, 1, none, 2, 0) cd_X7_init 7 124 123 0 90 = true := by decide +kernel
theorem okm_78 : am_okM (yX7_copyFrom, cX7_copyFrom, 2, none, 1, 1) cd_X7_copyFrom 7 361 359 360 90 = true := by decide +kernel
theorem okm_79 : am_okM (yX7_lacks, cX7_lacks, 2, some .boolean, 1, 1) cd_X7_lacks 7 476 474 475 90 = true := by decide +kernel
theorem okm_80 : am_okM (yX7_lacksBead, cX7_lacksBead, 3, some .boolean, 1, 2) cd_X7_lacksBead 7 505 503 504 90 = true := by decide +kernel
theorem okm_81 : am_okM (yX7_hasBeadsFor, cX7_hasBeadsFor, 4, some .boolean, 1, 2) cd_X7_hasBeadsFor 7 372 370 371 90 = true := by decide +kernel
theorem okm_82 : am_okM (yX7_putBack, cX7_putBack, 3, none, 1, 2) cd_X7_putBack 7 530 528 529 90 = true := by decide +kernel
theorem okm_83 : am_okM (yX7_stockFrom, cX7_stockFrom, 7, none, 1, 4) cd_X7_stockFrom 7 458 456 457 90 = true := by decide +kernel
theorem okm_84 : am_okM (yX7_string, cX7_string, 4, some .int, 1, 2) cd_X7_string 7 368 366 367 90 = true := by decide +kernel
theorem okm_85 : am_okM (yX7_roll, cX7_roll, 3, some .int, 1, 2) cd_X7_roll 7 472 470 471 90 = true := by decide +kernel
theorem okm_86 : am_okM (yX7_flip, cX7_flip, 2, some .int, 1, 1) cd_X7_flip 7 490 488 489 90 = true := by decide +kernel
theorem okm_87 : am_okM (yX7_swap, cX7_swap, 7, some .int, 1, 2) cd_X7_swap 7 501 499 500 90 = true := by decide +kernel
theorem okm_88 : am_okM (yX7_thread, cX7_thread, 6, some .int, 1, 3) cd_X7_thread 7 516 514 515 90 = true := by decide +kernel
theorem okm_89 : am_okM (yX7_cut, cX7_cut, 6, some .int, 1, 2) cd_X7_cut 7 526 524 525 90 = true := by decide +kernel
theorem okm_90 : am_okM (yX7_join, cX7_join, 4, some .int, 1, 2) cd_X7_join 7 538 536 537 90 = true := by decide +kernel
theorem okm_91 : am_okM (yX7_part, cX7_part, 4, some .int, 1, 1) cd_X7_part 7 550 548 549 90 = true := by decide +kernel
theorem okm_92 : am_okM (yX7_sell, cX7_sell, 4, some .int, 1, 2) cd_X7_sell 7 558 556 557 90 = true := by decide +kernel
theorem okm_93 : am_okM (yX7_buy, cX7_buy, 3, some .int, 1, 2) cd_X7_buy 7 612 610 611 90 = true := by decide +kernel
theorem okm_94 : am_okM (yX7_drop, cX7_drop, 3, none, 1, 1) cd_X7_drop 7 542 541 7 90 = true := by decide +kernel
theorem okm_95 : am_okM (yX7_leastRow, cX7_leastRow, 2, some .int, 1, 1) cd_X7_leastRow 7 570 568 569 90 = true := by decide +kernel
theorem okm_96 : am_okM (yX7_othersAlike, cX7_othersAlike, 5, some .int, 1, 1) cd_X7_othersAlike 7 566 564 565 90 = true := by decide +kernel
theorem okm_97 : am_okM (yX7_firstAlike, cX7_firstAlike, 4, some .int, 1, 1) cd_X7_firstAlike 7 759 757 758 90 = true := by decide +kernel
theorem okm_98 : am_okM (yX7_kindNumber, cX7_kindNumber, 3, some .int, 1, 0) cd_X7_kindNumber 7 763 761 762 90 = true := by decide +kernel
theorem okm_99 : am_okM (yX7_priceOf, cX7_priceOf, 3, some .int, 1, 2) cd_X7_priceOf 7 562 560 561 90 = true := by decide +kernel
theorem okm_100 : am_okM (yX7_pricesOfAll, cX7_pricesOfAll, 4, some .int, 1, 1) cd_X7_pricesOfAll 7 1018 1016 1017 90 = true := by decide +kernel
theorem okm_101 : am_okM (yX7_beadsOfAll, cX7_beadsOfAll, 3, some .int, 1, 0) cd_X7_beadsOfAll 7 1046 1044 1045 90 = true := by decide +kernel
theorem okm_102 : am_okM (yX7_stockOfAll, cX7_stockOfAll, 3, some .int, 1, 0) cd_X7_stockOfAll 7 464 462 463 90 = true := by decide +kernel
theorem okm_103 : am_okM (yX8_init, cX8_init, 1, none, 2, 0) cd_X8_init 8 182 181 0 92 = true := by decide +kernel
theorem okm_104 : am_okM (yX8_size, cX8_size, 1, some .int, 1, 0) cd_X8_size 8 407 405 406 92 = true := by decide +kernel
theorem okm_105 : am_okM (yX8_signAt, cX8_signAt, 2, some .char, 1, 1) cd_X8_signAt 8 412 410 411 92 = true := by decide +kernel
theorem okm_106 : am_okM (yX8_append, cX8_append, 3, some .int, 1, 1) cd_X8_append 8 334 332 333 92 = true := by decide +kernel
theorem okm_107 : am_okM (yX8_shorten, cX8_shorten, 2, some .boolean, 1, 1) cd_X8_shorten 8 342 340 341 92 = true := by decide +kernel
theorem okm_108 : am_okM (yX8_empty, cX8_empty, 1, none, 1, 0) cd_X8_empty 8 450 448 449 92 = true := by decide +kernel
theorem okm_109 : am_okM (yX8_takeWord, cX8_takeWord, 4, some .int, 1, 0) cd_X8_takeWord 8 350 348 349 92 = true := by decide +kernel
theorem okm_110 : am_okM (yX9_init, cX9_init, 1, none, 2, 0) cd_X9_init 9 204 203 0 93 = true := by decide +kernel
theorem okm_111 : am_okM (yX9_begin, cX9_begin, 1, none, 1, 0) cd_X9_begin 9 708 706 707 93 = true := by decide +kernel
theorem okm_112 : am_okM (yX9_add, cX9_add, 2, none, 1, 1) cd_X9_add 9 712 710 711 93 = true := by decide +kernel
theorem okm_113 : am_okM (yX9_addRow, cX9_addRow, 4, none, 1, 2) cd_X9_addRow 9 731 729 730 93 = true := by decide +kernel
theorem okm_114 : am_okM (yX10_init, cX10_init, 2, none, 2, 0) cd_X10_init 10 116 115 0 89 = true := by decide +kernel
theorem okm_115 : am_okM (yX10_sign, cX10_sign, 2, some .int, 1, 1) cd_X10_sign 10 330 328 329 89 = true := by decide +kernel
theorem okm_116 : am_okM (yX10_end, cX10_end, 2, some .boolean, 1, 1) cd_X10_end 10 338 336 337 89 = true := by decide +kernel
theorem okm_117 : am_okM (yX10_strings, cX10_strings, 2, some .int, 1, 0) cd_X10_strings 10 346 344 345 89 = true := by decide +kernel
theorem okm_118 : am_okM (yX10_rule, cX10_rule, 3, some .int, 1, 0) cd_X10_rule 10 399 397 398 89 = true := by decide +kernel
theorem okm_119 : am_okM (yX10_bracelet, cX10_bracelet, 5, some .int, 1, 2) cd_X10_bracelet 10 1074 1072 1073 89 = true := by decide +kernel
theorem okm_120 : am_okM (yX10_bead, cX10_bead, 3, some .int, 1, 2) cd_X10_bead 10 1152 1150 1151 89 = true := by decide +kernel
theorem okm_121 : am_okM (yX10_stock, cX10_stock, 2, some .int, 1, 1) cd_X10_stock 10 1162 1160 1161 89 = true := by decide +kernel
theorem okm_122 : am_okM (yX10_sheet, cX10_sheet, 5, some .int, 1, 4) cd_X10_sheet 10 454 452 453 89 = true := by decide +kernel
theorem okm_123 : am_okM (yX10_rolls, cX10_rolls, 3, some .int, 1, 2) cd_X10_rolls 10 468 466 467 89 = true := by decide +kernel
theorem okm_124 : am_okM (yX10_flips, cX10_flips, 2, some .int, 1, 1) cd_X10_flips 10 486 484 485 89 = true := by decide +kernel
theorem okm_125 : am_okM (yX10_swaps, cX10_swaps, 3, some .int, 1, 2) cd_X10_swaps 10 497 495 496 89 = true := by decide +kernel
theorem okm_126 : am_okM (yX10_threads, cX10_threads, 4, some .int, 1, 3) cd_X10_threads 10 512 510 511 89 = true := by decide +kernel
theorem okm_127 : am_okM (yX10_cuts, cX10_cuts, 3, some .int, 1, 2) cd_X10_cuts 10 522 520 521 89 = true := by decide +kernel
theorem okm_128 : am_okM (yX10_joins, cX10_joins, 3, some .int, 1, 2) cd_X10_joins 10 534 532 533 89 = true := by decide +kernel
theorem okm_129 : am_okM (yX10_parts, cX10_parts, 2, some .int, 1, 1) cd_X10_parts 10 546 544 545 89 = true := by decide +kernel
