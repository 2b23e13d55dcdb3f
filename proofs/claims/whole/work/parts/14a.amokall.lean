theorem okm_0 : am_okM (yX0_isNoColour, cX0_isNoColour, 1, some .boolean, 0, 1) cd_X0_isNoColour 0 358 357 0 101 = true := by decide +kernel
theorem okm_1 : am_okM (yX0_mask, cX0_mask, 1, some .int, 0, 1) cd_X0_mask 0 512 511 0 101 = true := by decide +kernel
theorem okm_2 : am_okM (yX0_colourAt, cX0_colourAt, 3, some .int, 0, 3) cd_X0_colourAt 0 474 473 0 101 = true := by decide +kernel
theorem okm_3 : am_okM (yX0_withColour, cX0_withColour, 5, some .int, 0, 4) cd_X0_withColour 0 500 499 0 101 = true := by decide +kernel
theorem okm_4 : am_okM (yX0_rolled, cX0_rolled, 5, some .int, 0, 3) cd_X0_rolled 0 471 470 0 101 = true := by decide +kernel
theorem okm_5 : am_okM (yX0_flipped, cX0_flipped, 4, some .int, 0, 2) cd_X0_flipped 0 485 484 0 101 = true := by decide +kernel
theorem okm_6 : am_okM (yX0_turned, cX0_turned, 3, some .int, 0, 3) cd_X0_turned 0 750 749 0 101 = true := by decide +kernel
theorem okm_7 : am_okM (yX0_turningName, cX0_turningName, 2, some .int, 0, 2) cd_X0_turningName 0 753 752 0 101 = true := by decide +kernel
theorem okm_8 : am_okM (yX0_leastRow, cX0_leastRow, 5, some .int, 0, 2) cd_X0_leastRow 0 567 566 0 101 = true := by decide +kernel
theorem okm_9 : am_okM (yX0_isLessFlipped, cX0_isLessFlipped, 4, some .boolean, 0, 2) cd_X0_isLessFlipped 0 884 883 0 101 = true := by decide +kernel
theorem okm_10 : am_okM (yX0_firstTurning, cX0_firstTurning, 4, some .int, 0, 3) cd_X0_firstTurning 0 747 746 0 101 = true := by decide +kernel
theorem okm_11 : am_okM (yX0_period, cX0_period, 3, some .int, 0, 2) cd_X0_period 0 594 593 0 101 = true := by decide +kernel
theorem okm_12 : am_okM (yX0_mirrors, cX0_mirrors, 5, some .int, 0, 2) cd_X0_mirrors 0 597 596 0 101 = true := by decide +kernel
theorem okm_13 : am_okM (yX0_stays, cX0_stays, 2, some .int, 0, 2) cd_X0_stays 0 760 759 0 101 = true := by decide +kernel
theorem okm_14 : am_okM (yX0_numberOf, cX0_numberOf, 5, some .int, 0, 3) cd_X0_numberOf 0 380 379 0 101 = true := by decide +kernel
theorem okm_15 : am_okM (yX0_colourBits, cX0_colourBits, 4, some .int, 0, 2) cd_X0_colourBits 0 577 576 0 101 = true := by decide +kernel
theorem okm_16 : am_okM (yX0_greatestColour, cX0_greatestColour, 3, some .int, 0, 2) cd_X0_greatestColour 0 891 890 0 101 = true := by decide +kernel
theorem okm_17 : am_okM (yX0_tallyInto, cX0_tallyInto, 4, none, 0, 3) cd_X0_tallyInto 0 842 841 0 101 = true := by decide +kernel
theorem okm_18 : am_okM (yX0_mostOfOne, cX0_mostOfOne, 4, some .int, 0, 2) cd_X0_mostOfOne 0 600 599 0 101 = true := by decide +kernel
theorem okm_19 : am_okM (yX0_apart, cX0_apart, 3, some .int, 0, 2) cd_X0_apart 0 605 604 0 101 = true := by decide +kernel
theorem okm_20 : am_okM (yX0_wordAt, cX0_wordAt, 4, some .int, 0, 4) cd_X0_wordAt 0 792 791 0 101 = true := by decide +kernel
theorem okm_21 : am_okM (yX0_placesOf, cX0_placesOf, 6, some .int, 0, 4) cd_X0_placesOf 0 789 788 0 101 = true := by decide +kernel
theorem okm_22 : am_okM (yX1_init, cX1_init, 2, none, 2, 1) cd_X1_init 1 239 238 0 97 = true := by decide +kernel
theorem okm_23 : am_okM (yX1_add, cX1_add, 3, some .int, 1, 2) cd_X1_add 1 955 953 954 97 = true := by decide +kernel
theorem okm_24 : am_okM (yX1_empty, cX1_empty, 2, some .int, 1, 0) cd_X1_empty 1 963 961 962 97 = true := by decide +kernel
theorem okm_25 : am_okM (yX1_canBeFelt, cX1_canBeFelt, 2, some .boolean, 0, 2) cd_X1_canBeFelt 1 950 949 0 97 = true := by decide +kernel
theorem okm_26 : am_okM (yX1_rollsLeft, cX1_rollsLeft, 5, some .int, 1, 2) cd_X1_rollsLeft 1 971 969 970 97 = true := by decide +kernel
theorem okm_27 : am_okM (yX1_isAllFelt, cX1_isAllFelt, 4, some .boolean, 1, 2) cd_X1_isAllFelt 1 976 975 14 97 = true := by decide +kernel
theorem okm_28 : am_okM (yX1_mostLeft, cX1_mostLeft, 8, some .int, 0, 4) cd_X1_mostLeft 1 984 983 0 97 = true := by decide +kernel
theorem okm_29 : am_okM (yX1_canBeHeard, cX1_canBeHeard, 2, some .boolean, 0, 2) cd_X1_canBeHeard 1 991 990 0 97 = true := by decide +kernel
theorem okm_30 : am_okM (yX1_fitting, cX1_fitting, 4, some .int, 1, 1) cd_X1_fitting 1 1003 1001 1002 97 = true := by decide +kernel
theorem okm_31 : am_okM (yX1_suiting, cX1_suiting, 5, some .int, 0, 3) cd_X1_suiting 1 1006 1005 0 97 = true := by decide +kernel
theorem okm_32 : am_okM (yX1_isSo, cX1_isSo, 4, some .boolean, 0, 4) cd_X1_isSo 1 1009 1008 0 97 = true := by decide +kernel
theorem okm_33 : am_okM (yX2_power, cX2_power, 4, some .int, 0, 2) cd_X2_power 2 825 824 0 113 = true := by decide +kernel
theorem okm_34 : am_okM (yX2_commonDivisor, cX2_commonDivisor, 3, some .int, 0, 2) cd_X2_commonDivisor 2 822 821 0 113 = true := by decide +kernel
theorem okm_35 : am_okM (yX2_beadsThatStay, cX2_beadsThatStay, 2, some .int, 0, 2) cd_X2_beadsThatStay 2 835 834 0 113 = true := by decide +kernel
theorem okm_36 : am_okM (yX2_keptByRolls, cX2_keptByRolls, 4, some .int, 0, 2) cd_X2_keptByRolls 2 819 818 0 113 = true := by decide +kernel
theorem okm_37 : am_okM (yX2_keptByFlips, cX2_keptByFlips, 5, some .int, 0, 2) cd_X2_keptByFlips 2 832 831 0 113 = true := by decide +kernel
theorem okm_38 : am_okM (yX2_rowsThatNoRollKeeps, cX2_rowsThatNoRollKeeps, 4, some .int, 0, 2) cd_X2_rowsThatNoRollKeeps 2 828 827 0 113 = true := by decide +kernel
theorem okm_39 : am_okM (yX2_toldKeptByRolls, cX2_toldKeptByRolls, 4, some .int, 0, 2) cd_X2_toldKeptByRolls 2 845 844 0 113 = true := by decide +kernel
theorem okm_40 : am_okM (yX2_toldKeptByFlips, cX2_toldKeptByFlips, 4, some .int, 0, 2) cd_X2_toldKeptByFlips 2 858 857 0 113 = true := by decide +kernel
theorem okm_41 : am_okM (yX2_pairedRows, cX2_pairedRows, 4, some .int, 0, 2) cd_X2_pairedRows 2 861 860 0 113 = true := by decide +kernel
theorem okm_42 : am_okM (yX2_rowsOf, cX2_rowsOf, 6, some .int, 0, 2) cd_X2_rowsOf 2 849 848 0 113 = true := by decide +kernel
theorem okm_43 : am_okM (yX2_factorial, cX2_factorial, 1, some .int, 0, 1) cd_X2_factorial 2 852 851 0 113 = true := by decide +kernel
theorem okm_44 : am_okM (yX3_fault, cX3_fault, 6, some .int, 0, 1) cd_X3_fault 3 630 629 0 112 = true := by decide +kernel
theorem okm_45 : am_okM (yX3_form, cX3_form, 1, some (.object "java/lang/String"), 0, 1) cd_X3_form 3 688 687 0 112 = true := by decide +kernel
theorem okm_46 : am_okM (yX3_suits, cX3_suits, 2, some .boolean, 0, 2) cd_X3_suits 3 685 684 0 112 = true := by decide +kernel
theorem okm_47 : am_okM (yX3_told, cX3_told, 1, some .int, 0, 1) cd_X3_told 3 703 702 0 112 = true := by decide +kernel
theorem okm_48 : am_okM (yX3_act, cX3_act, 6, some .int, 0, 4) cd_X3_act 3 700 699 0 112 = true := by decide +kernel
theorem okm_49 : am_okM (yX4_init, cX4_init, 1, none, 2, 0) cd_X4_init 4 221 220 0 96 = true := by decide +kernel
theorem okm_50 : am_okM (yX4_lacks, cX4_lacks, 1, some .boolean, 0, 1) cd_X4_lacks 4 868 867 0 96 = true := by decide +kernel
theorem okm_51 : am_okM (yX4_number, cX4_number, 3, some .int, 1, 1) cd_X4_number 4 876 874 875 96 = true := by decide +kernel
theorem okm_52 : am_okM (yX4_kind, cX4_kind, 3, some .int, 1, 2) cd_X4_kind 4 888 886 887 96 = true := by decide +kernel
theorem okm_53 : am_okM (yX4_grow, cX4_grow, 7, none, 1, 4) cd_X4_grow 4 881 880 10 96 = true := by decide +kernel
theorem okm_54 : am_okM (yX4_kindAt, cX4_kindAt, 8, some .int, 1, 3) cd_X4_kindAt 4 872 870 871 96 = true := by decide +kernel
theorem okm_55 : am_okM (yX4_kindsAhead, cX4_kindsAhead, 8, some .int, 1, 2) cd_X4_kindsAhead 4 900 898 899 96 = true := by decide +kernel
theorem okm_56 : am_okM (yX4_kindBehind, cX4_kindBehind, 7, some .int, 1, 2) cd_X4_kindBehind 4 908 906 907 96 = true := by decide +kernel
theorem okm_57 : am_okM (yX5_init, cX5_init, 2, none, 2, 0) cd_X5_init 5 157 156 0 93 = true := by decide +kernel
theorem okm_58 : am_okM (yX5_mark, cX5_mark, 2, none, 1, 1) cd_X5_mark 5 362 360 361 93 = true := by decide +kernel
theorem okm_59 : am_okM (yX5_settle, cX5_settle, 2, some .int, 1, 1) cd_X5_settle 5 384 382 383 93 = true := by decide +kernel
theorem okm_60 : am_okM (yX5_bringBack, cX5_bringBack, 2, some .int, 1, 1) cd_X5_bringBack 5 732 730 731 93 = true := by decide +kernel
theorem okm_61 : am_okM (yX5_keepUnder, cX5_keepUnder, 3, some .boolean, 1, 2) cd_X5_keepUnder 5 1065 1063 1064 93 = true := by decide +kernel
theorem okm_62 : am_okM (yX5_takeKept, cX5_takeKept, 3, some .boolean, 1, 2) cd_X5_takeKept 5 1073 1071 1072 93 = true := by decide +kernel
theorem okm_63 : am_okM (yX6_init, cX6_init, 1, none, 2, 0) cd_X6_init 6 259 258 0 99 = true := by decide +kernel
theorem okm_64 : am_okM (yX6_read, cX6_read, 4, some .int, 1, 1) cd_X6_read 6 395 393 394 99 = true := by decide +kernel
theorem okm_65 : am_okM (yX6_takes, cX6_takes, 2, some .boolean, 1, 1) cd_X6_takes 6 408 407 0 99 = true := by decide +kernel
theorem okm_66 : am_okM (yX6_takesDigit, cX6_takesDigit, 2, some .boolean, 1, 1) cd_X6_takesDigit 6 412 411 1 99 = true := by decide +kernel
theorem okm_67 : am_okM (yX6_takesThing, cX6_takesThing, 2, some .boolean, 1, 1) cd_X6_takesThing 6 420 419 3 99 = true := by decide +kernel
theorem okm_68 : am_okM (yX6_takesOperator, cX6_takesOperator, 3, some .boolean, 1, 1) cd_X6_takesOperator 6 431 430 5 99 = true := by decide +kernel
theorem okm_69 : am_okM (yX6_settleDownTo, cX6_settleDownTo, 3, none, 1, 1) cd_X6_settleDownTo 6 435 434 6 99 = true := by decide +kernel
theorem okm_70 : am_okM (yX6_addStep, cX6_addStep, 2, none, 1, 1) cd_X6_addStep 6 416 415 2 99 = true := by decide +kernel
theorem okm_71 : am_okM (yX6_addWaiting, cX6_addWaiting, 2, none, 1, 1) cd_X6_addWaiting 6 424 423 4 99 = true := by decide +kernel
theorem okm_72 : am_okM (yX6_binding, cX6_binding, 1, some .int, 0, 1) cd_X6_binding 6 438 437 0 99 = true := by decide +kernel
theorem okm_73 : am_okM (yX6_isTrait, cX6_isTrait, 1, some .boolean, 0, 1) cd_X6_isTrait 6 427 426 0 99 = true := by decide +kernel
theorem okm_74 : am_okM (yX6_price, cX6_price, 7, some .int, 1, 3) cd_X6_price 6 574 572 573 99 = true := by decide +kernel
