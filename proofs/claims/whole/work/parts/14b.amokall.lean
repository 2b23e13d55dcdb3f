theorem okm_75 : am_okM (yX6_trait, cX6_trait, 4, some .int, 0, 4) cd_X6_trait 6 591 590 0 99 = true := by decide +kernel
theorem okm_76 : am_okM (yX6_joined, cX6_joined, 3, some .int, 0, 3) cd_X6_joined 6 614 613 0 99 = true := by decide +kernel
theorem okm_77 : am_okM (yX7_init, cX7_init, 1, none, 2, 0) cd_X7_init 7 126 125 0 92 = true := by decide +kernel
theorem okm_78 : am_okM (yX7_copyFrom, cX7_copyFrom, 2, none, 1, 1) cd_X7_copyFrom 7 366 364 365 92 = true := by decide +kernel
theorem okm_79 : am_okM (yX7_lacks, cX7_lacks, 2, some .boolean, 1, 1) cd_X7_lacks 7 468 466 467 92 = true := by decide +kernel
theorem okm_80 : am_okM (yX7_lacksBead, cX7_lacksBead, 3, some .boolean, 1, 2) cd_X7_lacksBead 7 497 495 496 92 = true := by decide +kernel
theorem okm_81 : am_okM (yX7_hasBeadsFor, cX7_hasBeadsFor, 4, some .boolean, 1, 2) cd_X7_hasBeadsFor 7 377 375 376 92 = true := by decide +kernel
theorem okm_82 : am_okM (yX7_putBack, cX7_putBack, 3, none, 1, 2) cd_X7_putBack 7 524 522 523 92 = true := by decide +kernel
theorem okm_83 : am_okM (yX7_stockFrom, cX7_stockFrom, 7, none, 1, 4) cd_X7_stockFrom 7 450 448 449 92 = true := by decide +kernel
theorem okm_84 : am_okM (yX7_string, cX7_string, 4, some .int, 1, 2) cd_X7_string 7 373 371 372 92 = true := by decide +kernel
theorem okm_85 : am_okM (yX7_roll, cX7_roll, 3, some .int, 1, 2) cd_X7_roll 7 464 462 463 92 = true := by decide +kernel
theorem okm_86 : am_okM (yX7_flip, cX7_flip, 2, some .int, 1, 1) cd_X7_flip 7 482 480 481 92 = true := by decide +kernel
theorem okm_87 : am_okM (yX7_swap, cX7_swap, 7, some .int, 1, 2) cd_X7_swap 7 493 491 492 92 = true := by decide +kernel
theorem okm_88 : am_okM (yX7_thread, cX7_thread, 6, some .int, 1, 3) cd_X7_thread 7 508 506 507 92 = true := by decide +kernel
theorem okm_89 : am_okM (yX7_cut, cX7_cut, 6, some .int, 1, 2) cd_X7_cut 7 520 518 519 92 = true := by decide +kernel
theorem okm_90 : am_okM (yX7_join, cX7_join, 4, some .int, 1, 2) cd_X7_join 7 532 530 531 92 = true := by decide +kernel
theorem okm_91 : am_okM (yX7_part, cX7_part, 4, some .int, 1, 1) cd_X7_part 7 544 542 543 92 = true := by decide +kernel
theorem okm_92 : am_okM (yX7_sell, cX7_sell, 4, some .int, 1, 2) cd_X7_sell 7 552 550 551 92 = true := by decide +kernel
theorem okm_93 : am_okM (yX7_buy, cX7_buy, 3, some .int, 1, 2) cd_X7_buy 7 623 621 622 92 = true := by decide +kernel
theorem okm_94 : am_okM (yX7_drop, cX7_drop, 3, none, 1, 1) cd_X7_drop 7 536 535 7 92 = true := by decide +kernel
theorem okm_95 : am_okM (yX7_leastRow, cX7_leastRow, 2, some .int, 1, 1) cd_X7_leastRow 7 564 562 563 92 = true := by decide +kernel
theorem okm_96 : am_okM (yX7_othersAlike, cX7_othersAlike, 5, some .int, 1, 1) cd_X7_othersAlike 7 560 558 559 92 = true := by decide +kernel
theorem okm_97 : am_okM (yX7_firstAlike, cX7_firstAlike, 4, some .int, 1, 1) cd_X7_firstAlike 7 770 768 769 92 = true := by decide +kernel
theorem okm_98 : am_okM (yX7_kindNumber, cX7_kindNumber, 3, some .int, 1, 0) cd_X7_kindNumber 7 774 772 773 92 = true := by decide +kernel
theorem okm_99 : am_okM (yX7_priceOf, cX7_priceOf, 3, some .int, 1, 2) cd_X7_priceOf 7 556 554 555 92 = true := by decide +kernel
theorem okm_100 : am_okM (yX7_pricesOfAll, cX7_pricesOfAll, 4, some .int, 1, 1) cd_X7_pricesOfAll 7 1029 1027 1028 92 = true := by decide +kernel
theorem okm_101 : am_okM (yX7_beadsOfAll, cX7_beadsOfAll, 3, some .int, 1, 0) cd_X7_beadsOfAll 7 1057 1055 1056 92 = true := by decide +kernel
theorem okm_102 : am_okM (yX7_stockOfAll, cX7_stockOfAll, 3, some .int, 1, 0) cd_X7_stockOfAll 7 456 454 455 92 = true := by decide +kernel
theorem okm_103 : am_okM (yX8_init, cX8_init, 1, none, 2, 0) cd_X8_init 8 184 183 0 94 = true := by decide +kernel
theorem okm_104 : am_okM (yX8_size, cX8_size, 1, some .int, 1, 0) cd_X8_size 8 399 397 398 94 = true := by decide +kernel
theorem okm_105 : am_okM (yX8_signAt, cX8_signAt, 2, some .char, 1, 1) cd_X8_signAt 8 404 402 403 94 = true := by decide +kernel
theorem okm_106 : am_okM (yX8_append, cX8_append, 3, some .int, 1, 1) cd_X8_append 8 339 337 338 94 = true := by decide +kernel
theorem okm_107 : am_okM (yX8_shorten, cX8_shorten, 2, some .boolean, 1, 1) cd_X8_shorten 8 347 345 346 94 = true := by decide +kernel
theorem okm_108 : am_okM (yX8_empty, cX8_empty, 1, none, 1, 0) cd_X8_empty 8 442 440 441 94 = true := by decide +kernel
theorem okm_109 : am_okM (yX8_takeWord, cX8_takeWord, 4, some .int, 1, 0) cd_X8_takeWord 8 355 353 354 94 = true := by decide +kernel
theorem okm_110 : am_okM (yX9_init, cX9_init, 1, none, 2, 0) cd_X9_init 9 206 205 0 95 = true := by decide +kernel
theorem okm_111 : am_okM (yX9_begin, cX9_begin, 1, none, 1, 0) cd_X9_begin 9 719 717 718 95 = true := by decide +kernel
theorem okm_112 : am_okM (yX9_add, cX9_add, 2, none, 1, 1) cd_X9_add 9 723 721 722 95 = true := by decide +kernel
theorem okm_113 : am_okM (yX9_addRow, cX9_addRow, 4, none, 1, 2) cd_X9_addRow 9 742 740 741 95 = true := by decide +kernel
theorem okm_114 : am_okM (yX10_init, cX10_init, 2, none, 2, 0) cd_X10_init 10 118 117 0 91 = true := by decide +kernel
theorem okm_115 : am_okM (yX10_sign, cX10_sign, 2, some .int, 1, 1) cd_X10_sign 10 335 333 334 91 = true := by decide +kernel
theorem okm_116 : am_okM (yX10_end, cX10_end, 2, some .boolean, 1, 1) cd_X10_end 10 343 341 342 91 = true := by decide +kernel
theorem okm_117 : am_okM (yX10_strings, cX10_strings, 2, some .int, 1, 0) cd_X10_strings 10 351 349 350 91 = true := by decide +kernel
theorem okm_118 : am_okM (yX10_rule, cX10_rule, 3, some .int, 1, 0) cd_X10_rule 10 391 389 390 91 = true := by decide +kernel
theorem okm_119 : am_okM (yX10_bracelet, cX10_bracelet, 5, some .int, 1, 2) cd_X10_bracelet 10 1085 1083 1084 91 = true := by decide +kernel
theorem okm_120 : am_okM (yX10_bead, cX10_bead, 3, some .int, 1, 2) cd_X10_bead 10 1163 1161 1162 91 = true := by decide +kernel
theorem okm_121 : am_okM (yX10_stock, cX10_stock, 2, some .int, 1, 1) cd_X10_stock 10 1173 1171 1172 91 = true := by decide +kernel
theorem okm_122 : am_okM (yX10_sheet, cX10_sheet, 5, some .int, 1, 4) cd_X10_sheet 10 446 444 445 91 = true := by decide +kernel
theorem okm_123 : am_okM (yX10_rolls, cX10_rolls, 3, some .int, 1, 2) cd_X10_rolls 10 460 458 459 91 = true := by decide +kernel
theorem okm_124 : am_okM (yX10_flips, cX10_flips, 2, some .int, 1, 1) cd_X10_flips 10 478 476 477 91 = true := by decide +kernel
theorem okm_125 : am_okM (yX10_swaps, cX10_swaps, 3, some .int, 1, 2) cd_X10_swaps 10 489 487 488 91 = true := by decide +kernel
theorem okm_126 : am_okM (yX10_threads, cX10_threads, 4, some .int, 1, 3) cd_X10_threads 10 504 502 503 91 = true := by decide +kernel
theorem okm_127 : am_okM (yX10_cuts, cX10_cuts, 3, some .int, 1, 2) cd_X10_cuts 10 516 514 515 91 = true := by decide +kernel
theorem okm_128 : am_okM (yX10_joins, cX10_joins, 3, some .int, 1, 2) cd_X10_joins 10 528 526 527 91 = true := by decide +kernel
theorem okm_129 : am_okM (yX10_parts, cX10_parts, 2, some .int, 1, 1) cd_X10_parts 10 540 538 539 91 = true := by decide +kernel
