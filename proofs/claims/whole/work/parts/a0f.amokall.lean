theorem okm_285 : am_okM (yX11_next, cX11_next, 3, some .int, 1, 1) cd_X11_next 11 1752 1750 1751 98 = true := by decide +kernel
theorem okm_286 : am_okM (yX11_wordAt, cX11_wordAt, 7, some .int, 1, 4) cd_X11_wordAt 11 1769 1768 77 98 = true := by decide +kernel
theorem okm_287 : am_okM (yX11_isOnce, cX11_isOnce, 7, some .boolean, 1, 3) cd_X11_isOnce 11 1773 1772 78 98 = true := by decide +kernel
theorem okm_288 : am_okM (yX11_wasThere, cX11_wasThere, 7, some .boolean, 1, 4) cd_X11_wasThere 11 1765 1764 76 98 = true := by decide +kernel
theorem okm_289 : am_okM (yX11_laysAround, cX11_laysAround, 6, some .boolean, 1, 4) cd_X11_laysAround 11 1761 1760 75 98 = true := by decide +kernel
theorem okm_290 : am_okM (yX11_once, cX11_once, 5, some .int, 1, 2) cd_X11_once 11 1756 1754 1755 98 = true := by decide +kernel
theorem okm_291 : am_okM (yX11_isInStock, cX11_isInStock, 3, some .boolean, 1, 0) cd_X11_isInStock 11 1781 1780 79 98 = true := by decide +kernel
theorem okm_292 : am_okM (yX11_made, cX11_made, 5, some .int, 1, 1) cd_X11_made 11 1777 1775 1776 98 = true := by decide +kernel
theorem okm_293 : am_okM (yX11_dear, cX11_dear, 5, some .int, 1, 1) cd_X11_dear 11 1785 1783 1784 98 = true := by decide +kernel
theorem okm_294 : am_okM (yX11_odds, cX11_odds, 4, some .int, 1, 1) cd_X11_odds 11 1790 1788 1789 98 = true := by decide +kernel
theorem okm_295 : am_okM (yX11_felt, cX11_felt, 3, some .int, 1, 2) cd_X11_felt 11 1798 1796 1797 98 = true := by decide +kernel
theorem okm_296 : am_okM (yX11_forget, cX11_forget, 2, some .int, 1, 0) cd_X11_forget 11 1802 1800 1801 98 = true := by decide +kernel
theorem okm_297 : am_okM (yX11_clasps, cX11_clasps, 5, some .int, 1, 0) cd_X11_clasps 11 1810 1809 81 98 = true := by decide +kernel
theorem okm_298 : am_okM (yX11_guess, cX11_guess, 3, some .int, 1, 1) cd_X11_guess 11 1806 1804 1805 98 = true := by decide +kernel
theorem okm_299 : am_okM (yX11_feels, cX11_feels, 10, some .int, 1, 1) cd_X11_feels 11 1814 1812 1813 98 = true := by decide +kernel
theorem okm_300 : am_okM (yX11_lowest, cX11_lowest, 1, some .int, 0, 1) cd_X11_lowest 11 1825 1824 0 98 = true := by decide +kernel
theorem okm_301 : am_okM (yX11_highest, cX11_highest, 1, some .int, 0, 1) cd_X11_highest 11 1828 1827 0 98 = true := by decide +kernel
theorem okm_302 : am_okM (yX11_heard, cX11_heard, 3, some .int, 1, 2) cd_X11_heard 11 1822 1820 1821 98 = true := by decide +kernel
theorem okm_303 : am_okM (yX11_denies, cX11_denies, 2, some .int, 1, 0) cd_X11_denies 11 1832 1830 1831 98 = true := by decide +kernel
theorem okm_304 : am_okM (yX11_isSo, cX11_isSo, 3, some .boolean, 1, 2) cd_X11_isSo 11 1844 1843 83 98 = true := by decide +kernel
theorem okm_305 : am_okM (yX11_fitting, cX11_fitting, 5, some .int, 1, 0) cd_X11_fitting 11 1840 1839 82 98 = true := by decide +kernel
theorem okm_306 : am_okM (yX11_fits, cX11_fits, 2, some .int, 1, 0) cd_X11_fits 11 1836 1834 1835 98 = true := by decide +kernel
theorem okm_307 : am_okM (yX11_asks, cX11_asks, 8, some .int, 1, 0) cd_X11_asks 11 1848 1846 1847 98 = true := by decide +kernel
theorem okm_308 : am_okM (yX11_laysWorth, cX11_laysWorth, 4, none, 1, 0) cd_X11_laysWorth 11 1857 1856 84 98 = true := by decide +kernel
theorem okm_309 : am_okM (yX11_ring, cX11_ring, 3, some .int, 1, 1) cd_X11_ring 11 1852 1850 1851 98 = true := by decide +kernel
theorem okm_310 : am_okM (yX11_law, cX11_law, 5, some .int, 1, 0) cd_X11_law 11 1861 1859 1860 98 = true := by decide +kernel
theorem okm_311 : am_okM (yX11_gets, cX11_gets, 3, some .int, 0, 3) cd_X11_gets 11 1876 1875 0 98 = true := by decide +kernel
theorem okm_312 : am_okM (yX11_isRest, cX11_isRest, 5, some .boolean, 0, 3) cd_X11_isRest 11 1873 1872 0 98 = true := by decide +kernel
theorem okm_313 : am_okM (yX11_bargains, cX11_bargains, 5, some .int, 1, 1) cd_X11_bargains 11 1869 1867 1868 98 = true := by decide +kernel
theorem okm_314 : am_okM (yX11_draws, cX11_draws, 2, some .int, 1, 1) cd_X11_draws 11 1885 1884 86 98 = true := by decide +kernel
theorem okm_315 : am_okM (yX11_drawnDay, cX11_drawnDay, 4, none, 1, 1) cd_X11_drawnDay 11 1890 1889 87 98 = true := by decide +kernel
theorem okm_316 : am_okM (yX11_years, cX11_years, 5, some .int, 1, 2) cd_X11_years 11 1880 1878 1879 98 = true := by decide +kernel
theorem okm_317 : am_okM (yX11_keep, cX11_keep, 3, some .boolean, 1, 1) cd_X11_keep 11 1897 1895 1896 98 = true := by decide +kernel
theorem okm_318 : am_okM (yX11_again, cX11_again, 3, some .boolean, 1, 1) cd_X11_again 11 1901 1899 1900 98 = true := by decide +kernel
theorem okm_319 : am_okM (yX11_count, cX11_count, 2, some .int, 1, 1) cd_X11_count 11 1905 1903 1904 98 = true := by decide +kernel
theorem okm_320 : am_okM (yX11_row, cX11_row, 2, some .long, 1, 1) cd_X11_row 11 1909 1907 1908 98 = true := by decide +kernel
theorem okm_321 : am_okM (yJ6_numberOfLeadingZeros_0f7a4, cJ6_numberOfLeadingZeros_0f7a4, 2, some .int, 0, 1) cd_J6_numberOfLeadingZeros_0f7a4 12 1748 1747 0 101 = true := by decide +kernel
theorem okm_322 : am_okM (yJ6_numberOfTrailingZeros_0f7a4, cJ6_numberOfTrailingZeros_0f7a4, 2, some .int, 0, 1) cd_J6_numberOfTrailingZeros_0f7a4 12 794 793 0 101 = true := by decide +kernel
theorem okm_323 : am_okM (yJ6_bitCount_0f7a4, cJ6_bitCount_0f7a4, 1, some .int, 0, 1) cd_J6_bitCount_0f7a4 12 385 384 0 101 = true := by decide +kernel
theorem okm_324 : am_okM (yJ9_max_7cf53, cJ9_max_7cf53, 2, some .int, 0, 2) cd_J9_max_7cf53 13 241 240 0 96 = true := by decide +kernel
theorem okm_325 : am_okM (yJ9_min_7cf53, cJ9_min_7cf53, 2, some .int, 0, 2) cd_J9_min_7cf53 13 395 394 0 96 = true := by decide +kernel
theorem am_okAll_row (k : Nat) (hk : k < 326) : ∀ r, am_mt[k]? = some r → ∃ ow w0 w1 w2 w3, am_okM r (am_cdOf k) ow w0 w1 w2 w3 = true := by
  intro r hr
  match k, hk, hr with
  | 0, _, hr => cases hr; exact ⟨0, 353, 352, 0, 99, okm_0⟩
  | 1, _, hr => cases hr; exact ⟨0, 379, 378, 0, 99, okm_1⟩
  | 2, _, hr => cases hr; exact ⟨0, 482, 481, 0, 99, okm_2⟩
  | 3, _, hr => cases hr; exact ⟨0, 508, 507, 0, 99, okm_3⟩
  | 4, _, hr => cases hr; exact ⟨0, 479, 478, 0, 99, okm_4⟩
  | 5, _, hr => cases hr; exact ⟨0, 493, 492, 0, 99, okm_5⟩
  | 6, _, hr => cases hr; exact ⟨0, 739, 738, 0, 99, okm_6⟩
  | 7, _, hr => cases hr; exact ⟨0, 742, 741, 0, 99, okm_7⟩
  | 8, _, hr => cases hr; exact ⟨0, 573, 572, 0, 99, okm_8⟩
  | 9, _, hr => cases hr; exact ⟨0, 873, 872, 0, 99, okm_9⟩
  | 10, _, hr => cases hr; exact ⟨0, 736, 735, 0, 99, okm_10⟩
  | 11, _, hr => cases hr; exact ⟨0, 591, 590, 0, 99, okm_11⟩
  | 12, _, hr => cases hr; exact ⟨0, 594, 593, 0, 99, okm_12⟩
  | 13, _, hr => cases hr; exact ⟨0, 749, 748, 0, 99, okm_13⟩
  | 14, _, hr => cases hr; exact ⟨0, 375, 374, 0, 99, okm_14⟩
  | 15, _, hr => cases hr; exact ⟨0, 583, 582, 0, 99, okm_15⟩
  | 16, _, hr => cases hr; exact ⟨0, 880, 879, 0, 99, okm_16⟩
  | 17, _, hr => cases hr; exact ⟨0, 831, 830, 0, 99, okm_17⟩
  | 18, _, hr => cases hr; exact ⟨0, 597, 596, 0, 99, okm_18⟩
  | 19, _, hr => cases hr; exact ⟨0, 382, 381, 0, 99, okm_19⟩
  | 20, _, hr => cases hr; exact ⟨0, 781, 780, 0, 99, okm_20⟩
  | 21, _, hr => cases hr; exact ⟨0, 778, 777, 0, 99, okm_21⟩
  | 22, _, hr => cases hr; exact ⟨1, 237, 236, 0, 95, okm_22⟩
  | 23, _, hr => cases hr; exact ⟨1, 944, 942, 943, 95, okm_23⟩
  | 24, _, hr => cases hr; exact ⟨1, 952, 950, 951, 95, okm_24⟩
  | 25, _, hr => cases hr; exact ⟨1, 939, 938, 0, 95, okm_25⟩
  | 26, _, hr => cases hr; exact ⟨1, 960, 958, 959, 95, okm_26⟩
  | 27, _, hr => cases hr; exact ⟨1, 965, 964, 12, 95, okm_27⟩
  | 28, _, hr => cases hr; exact ⟨1, 973, 972, 0, 95, okm_28⟩
  | 29, _, hr => cases hr; exact ⟨1, 980, 979, 0, 95, okm_29⟩
  | 30, _, hr => cases hr; exact ⟨1, 992, 990, 991, 95, okm_30⟩
  | 31, _, hr => cases hr; exact ⟨1, 995, 994, 0, 95, okm_31⟩
  | 32, _, hr => cases hr; exact ⟨1, 998, 997, 0, 95, okm_32⟩
  | 33, _, hr => cases hr; exact ⟨2, 814, 813, 0, 111, okm_33⟩
  | 34, _, hr => cases hr; exact ⟨2, 811, 810, 0, 111, okm_34⟩
  | 35, _, hr => cases hr; exact ⟨2, 824, 823, 0, 111, okm_35⟩
  | 36, _, hr => cases hr; exact ⟨2, 808, 807, 0, 111, okm_36⟩
  | 37, _, hr => cases hr; exact ⟨2, 821, 820, 0, 111, okm_37⟩
  | 38, _, hr => cases hr; exact ⟨2, 817, 816, 0, 111, okm_38⟩
  | 39, _, hr => cases hr; exact ⟨2, 834, 833, 0, 111, okm_39⟩
  | 40, _, hr => cases hr; exact ⟨2, 847, 846, 0, 111, okm_40⟩
  | 41, _, hr => cases hr; exact ⟨2, 850, 849, 0, 111, okm_41⟩
  | 42, _, hr => cases hr; exact ⟨2, 838, 837, 0, 111, okm_42⟩
  | 43, _, hr => cases hr; exact ⟨2, 841, 840, 0, 111, okm_43⟩
  | 44, _, hr => cases hr; exact ⟨3, 619, 618, 0, 110, okm_44⟩
  | 45, _, hr => cases hr; exact ⟨3, 677, 676, 0, 110, okm_45⟩
  | 46, _, hr => cases hr; exact ⟨3, 674, 673, 0, 110, okm_46⟩
  | 47, _, hr => cases hr; exact ⟨3, 692, 691, 0, 110, okm_47⟩
  | 48, _, hr => cases hr; exact ⟨3, 689, 688, 0, 110, okm_48⟩
  | 49, _, hr => cases hr; exact ⟨4, 219, 218, 0, 94, okm_49⟩
  | 50, _, hr => cases hr; exact ⟨4, 857, 856, 0, 94, okm_50⟩
  | 51, _, hr => cases hr; exact ⟨4, 865, 863, 864, 94, okm_51⟩
  | 52, _, hr => cases hr; exact ⟨4, 877, 875, 876, 94, okm_52⟩
  | 53, _, hr => cases hr; exact ⟨4, 870, 869, 8, 94, okm_53⟩
  | 54, _, hr => cases hr; exact ⟨4, 861, 859, 860, 94, okm_54⟩
  | 55, _, hr => cases hr; exact ⟨4, 889, 887, 888, 94, okm_55⟩
  | 56, _, hr => cases hr; exact ⟨4, 897, 895, 896, 94, okm_56⟩
  | 57, _, hr => cases hr; exact ⟨5, 155, 154, 0, 91, okm_57⟩
  | 58, _, hr => cases hr; exact ⟨5, 357, 355, 356, 91, okm_58⟩
  | 59, _, hr => cases hr; exact ⟨5, 392, 390, 391, 91, okm_59⟩
  | 60, _, hr => cases hr; exact ⟨5, 721, 719, 720, 91, okm_60⟩
  | 61, _, hr => cases hr; exact ⟨5, 1054, 1052, 1053, 91, okm_61⟩
  | 62, _, hr => cases hr; exact ⟨5, 1062, 1060, 1061, 91, okm_62⟩
  | 63, _, hr => cases hr; exact ⟨6, 257, 256, 0, 97, okm_63⟩
  | 64, _, hr => cases hr; exact ⟨6, 403, 401, 402, 97, okm_64⟩
  | 65, _, hr => cases hr; exact ⟨6, 416, 415, 0, 97, okm_65⟩
  | 66, _, hr => cases hr; exact ⟨6, 420, 419, 1, 97, okm_66⟩
  | 67, _, hr => cases hr; exact ⟨6, 428, 427, 3, 97, okm_67⟩
  | 68, _, hr => cases hr; exact ⟨6, 439, 438, 5, 97, okm_68⟩
  | 69, _, hr => cases hr; exact ⟨6, 443, 442, 6, 97, okm_69⟩
  | 70, _, hr => cases hr; exact ⟨6, 424, 423, 2, 97, okm_70⟩
  | 71, _, hr => cases hr; exact ⟨6, 432, 431, 4, 97, okm_71⟩
  | 72, _, hr => cases hr; exact ⟨6, 446, 445, 0, 97, okm_72⟩
  | 73, _, hr => cases hr; exact ⟨6, 435, 434, 0, 97, okm_73⟩
  | 74, _, hr => cases hr; exact ⟨6, 580, 578, 579, 97, okm_74⟩
  | 75, _, hr => cases hr; exact ⟨6, 588, 587, 0, 97, okm_75⟩
  | 76, _, hr => cases hr; exact ⟨6, 603, 602, 0, 97, okm_76⟩
  | 77, _, hr => cases hr; exact ⟨7, 124, 123, 0, 90, okm_77⟩
  | 78, _, hr => cases hr; exact ⟨7, 361, 359, 360, 90, okm_78⟩
  | 79, _, hr => cases hr; exact ⟨7, 476, 474, 475, 90, okm_79⟩
  | 80, _, hr => cases hr; exact ⟨7, 505, 503, 504, 90, okm_80⟩
  | 81, _, hr => cases hr; exact ⟨7, 372, 370, 371, 90, okm_81⟩
  | 82, _, hr => cases hr; exact ⟨7, 530, 528, 529, 90, okm_82⟩
  | 83, _, hr => cases hr; exact ⟨7, 458, 456, 457, 90, okm_83⟩
  | 84, _, hr => cases hr; exact ⟨7, 368, 366, 367, 90, okm_84⟩
  | 85, _, hr => cases hr; exact ⟨7, 472, 470, 471, 90, okm_85⟩
  | 86, _, hr => cases hr; exact ⟨7, 490, 488, 489, 90, okm_86⟩
  | 87, _, hr => cases hr; exact ⟨7, 501, 499, 500, 90, okm_87⟩
  | 88, _, hr => cases hr; exact ⟨7, 516, 514, 515, 90, okm_88⟩
  | 89, _, hr => cases hr; exact ⟨7, 526, 524, 525, 90, okm_89⟩
  | 90, _, hr => cases hr; exact ⟨7, 538, 536, 537, 90, okm_90⟩
  | 91, _, hr => cases hr; exact ⟨7, 550, 548, 549, 90, okm_91⟩
  | 92, _, hr => cases hr; exact ⟨7, 558, 556, 557, 90, okm_92⟩
  | 93, _, hr => cases hr; exact ⟨7, 612, 610, 611, 90, okm_93⟩
  | 94, _, hr => cases hr; exact ⟨7, 542, 541, 7, 90, okm_94⟩
  | 95, _, hr => cases hr; exact ⟨7, 570, 568, 569, 90, okm_95⟩
  | 96, _, hr => cases hr; exact ⟨7, 566, 564, 565, 90, okm_96⟩
  | 97, _, hr => cases hr; exact ⟨7, 759, 757, 758, 90, okm_97⟩
  | 98, _, hr => cases hr; exact ⟨7, 763, 761, 762, 90, okm_98⟩
  | 99, _, hr => cases hr; exact ⟨7, 562, 560, 561, 90, okm_99⟩
  | 100, _, hr => cases hr; exact ⟨7, 1018, 1016, 1017, 90, okm_100⟩
  | 101, _, hr => cases hr; exact ⟨7, 1046, 1044, 1045, 90, okm_101⟩
  | 102, _, hr => cases hr; exact ⟨7, 464, 462, 463, 90, okm_102⟩
  | 103, _, hr => cases hr; exact ⟨8, 182, 181, 0, 92, okm_103⟩
  | 104, _, hr => cases hr; exact ⟨8, 407, 405, 406, 92, okm_104⟩
  | 105, _, hr => cases hr; exact ⟨8, 412, 410, 411, 92, okm_105⟩
  | 106, _, hr => cases hr; exact ⟨8, 334, 332, 333, 92, okm_106⟩
  | 107, _, hr => cases hr; exact ⟨8, 342, 340, 341, 92, okm_107⟩
  | 108, _, hr => cases hr; exact ⟨8, 450, 448, 449, 92, okm_108⟩
  | 109, _, hr => cases hr; exact ⟨8, 350, 348, 349, 92, okm_109⟩
  | 110, _, hr => cases hr; exact ⟨9, 204, 203, 0, 93, okm_110⟩
  | 111, _, hr => cases hr; exact ⟨9, 708, 706, 707, 93, okm_111⟩
  | 112, _, hr => cases hr; exact ⟨9, 712, 710, 711, 93, okm_112⟩
  | 113, _, hr => cases hr; exact ⟨9, 731, 729, 730, 93, okm_113⟩
  | 114, _, hr => cases hr; exact ⟨10, 116, 115, 0, 89, okm_114⟩
  | 115, _, hr => cases hr; exact ⟨10, 330, 328, 329, 89, okm_115⟩
  | 116, _, hr => cases hr; exact ⟨10, 338, 336, 337, 89, okm_116⟩
  | 117, _, hr => cases hr; exact ⟨10, 346, 344, 345, 89, okm_117⟩
  | 118, _, hr => cases hr; exact ⟨10, 399, 397, 398, 89, okm_118⟩
  | 119, _, hr => cases hr; exact ⟨10, 1074, 1072, 1073, 89, okm_119⟩
  | 120, _, hr => cases hr; exact ⟨10, 1152, 1150, 1151, 89, okm_120⟩
  | 121, _, hr => cases hr; exact ⟨10, 1162, 1160, 1161, 89, okm_121⟩
  | 122, _, hr => cases hr; exact ⟨10, 454, 452, 453, 89, okm_122⟩
  | 123, _, hr => cases hr; exact ⟨10, 468, 466, 467, 89, okm_123⟩
  | 124, _, hr => cases hr; exact ⟨10, 486, 484, 485, 89, okm_124⟩
  | 125, _, hr => cases hr; exact ⟨10, 497, 495, 496, 89, okm_125⟩
  | 126, _, hr => cases hr; exact ⟨10, 512, 510, 511, 89, okm_126⟩
  | 127, _, hr => cases hr; exact ⟨10, 522, 520, 521, 89, okm_127⟩
  | 128, _, hr => cases hr; exact ⟨10, 534, 532, 533, 89, okm_128⟩
  | 129, _, hr => cases hr; exact ⟨10, 546, 544, 545, 89, okm_129⟩
  | 130, _, hr => cases hr; exact ⟨10, 554, 552, 553, 89, okm_130⟩
  | 131, _, hr => cases hr; exact ⟨10, 608, 606, 607, 89, okm_131⟩
  | 132, _, hr => cases hr; exact ⟨10, 616, 614, 615, 89, okm_132⟩
  | 133, _, hr => cases hr; exact ⟨10, 717, 715, 716, 89, okm_133⟩
  | 134, _, hr => cases hr; exact ⟨10, 725, 723, 724, 89, okm_134⟩
  | 135, _, hr => cases hr; exact ⟨10, 746, 744, 745, 89, okm_135⟩
  | 136, _, hr => cases hr; exact ⟨10, 755, 753, 754, 89, okm_136⟩
  | 137, _, hr => cases hr; exact ⟨10, 768, 766, 767, 89, okm_137⟩
  | 138, _, hr => cases hr; exact ⟨10, 775, 773, 774, 89, okm_138⟩
  | 139, _, hr => cases hr; exact ⟨10, 786, 784, 785, 89, okm_139⟩
  | 140, _, hr => cases hr; exact ⟨10, 791, 789, 790, 89, okm_140⟩
  | 141, _, hr => cases hr; exact ⟨10, 799, 797, 798, 89, okm_141⟩
  | 142, _, hr => cases hr; exact ⟨10, 804, 802, 803, 89, okm_142⟩
  | 143, _, hr => cases hr; exact ⟨10, 828, 826, 827, 89, okm_143⟩
  | 144, _, hr => cases hr; exact ⟨10, 854, 852, 853, 89, okm_144⟩
  | 145, _, hr => cases hr; exact ⟨10, 884, 882, 883, 89, okm_145⟩
  | 146, _, hr => cases hr; exact ⟨10, 893, 891, 892, 89, okm_146⟩
  | 147, _, hr => cases hr; exact ⟨10, 901, 899, 900, 89, okm_147⟩
  | 148, _, hr => cases hr; exact ⟨10, 910, 908, 909, 89, okm_148⟩
  | 149, _, hr => cases hr; exact ⟨10, 917, 915, 916, 89, okm_149⟩
  | 150, _, hr => cases hr; exact ⟨10, 930, 928, 929, 89, okm_150⟩
  | 151, _, hr => cases hr; exact ⟨10, 936, 934, 935, 89, okm_151⟩
  | 152, _, hr => cases hr; exact ⟨10, 948, 946, 947, 89, okm_152⟩
  | 153, _, hr => cases hr; exact ⟨10, 956, 954, 955, 89, okm_153⟩
  | 154, _, hr => cases hr; exact ⟨10, 970, 968, 969, 89, okm_154⟩
  | 155, _, hr => cases hr; exact ⟨10, 977, 975, 976, 89, okm_155⟩
  | 156, _, hr => cases hr; exact ⟨10, 984, 982, 983, 89, okm_156⟩
  | 157, _, hr => cases hr; exact ⟨10, 988, 986, 987, 89, okm_157⟩
  | 158, _, hr => cases hr; exact ⟨10, 1005, 1003, 1004, 89, okm_158⟩
  | 159, _, hr => cases hr; exact ⟨10, 1010, 1008, 1009, 89, okm_159⟩
  | 160, _, hr => cases hr; exact ⟨10, 1014, 1012, 1013, 89, okm_160⟩
  | 161, _, hr => cases hr; exact ⟨10, 1022, 1020, 1021, 89, okm_161⟩
  | 162, _, hr => cases hr; exact ⟨10, 1032, 1030, 1031, 89, okm_162⟩
  | 163, _, hr => cases hr; exact ⟨10, 1050, 1048, 1049, 89, okm_163⟩
  | 164, _, hr => cases hr; exact ⟨10, 1058, 1056, 1057, 89, okm_164⟩
  | 165, _, hr => cases hr; exact ⟨10, 1066, 1064, 1065, 89, okm_165⟩
  | 166, _, hr => cases hr; exact ⟨10, 1170, 1168, 1169, 89, okm_166⟩
  | 167, _, hr => cases hr; exact ⟨10, 906, 905, 9, 89, okm_167⟩
  | 168, _, hr => cases hr; exact ⟨10, 921, 920, 10, 89, okm_168⟩
  | 169, _, hr => cases hr; exact ⟨10, 925, 924, 11, 89, okm_169⟩
  | 170, _, hr => cases hr; exact ⟨10, 1025, 1024, 0, 89, okm_170⟩
  | 171, _, hr => cases hr; exact ⟨10, 1028, 1027, 0, 89, okm_171⟩
  | 172, _, hr => cases hr; exact ⟨10, 1037, 1036, 13, 89, okm_172⟩
  | 173, _, hr => cases hr; exact ⟨10, 1041, 1040, 14, 89, okm_173⟩
  | 174, _, hr => cases hr; exact ⟨11, 1175, 1173, 1174, 98, okm_174⟩
  | 175, _, hr => cases hr; exact ⟨11, 1402, 1401, 28, 98, okm_175⟩
  | 176, _, hr => cases hr; exact ⟨11, 1329, 1328, 0, 98, okm_176⟩
  | 177, _, hr => cases hr; exact ⟨11, 1818, 1817, 0, 98, okm_177⟩
  | 178, _, hr => cases hr; exact ⟨11, 1357, 1356, 0, 98, okm_178⟩
  | 179, _, hr => cases hr; exact ⟨11, 1695, 1694, 0, 98, okm_179⟩
  | 180, _, hr => cases hr; exact ⟨11, 1621, 1620, 60, 98, okm_180⟩
  | 181, _, hr => cases hr; exact ⟨11, 1794, 1793, 80, 98, okm_181⟩
  | 182, _, hr => cases hr; exact ⟨11, 1180, 1179, 0, 98, okm_182⟩
  | 183, _, hr => cases hr; exact ⟨11, 1397, 1396, 27, 98, okm_183⟩
  | 184, _, hr => cases hr; exact ⟨11, 1409, 1408, 0, 98, okm_184⟩
  | 185, _, hr => cases hr; exact ⟨11, 1481, 1480, 0, 98, okm_185⟩
  | 186, _, hr => cases hr; exact ⟨11, 1893, 1892, 0, 98, okm_186⟩
  | 187, _, hr => cases hr; exact ⟨11, 1322, 1320, 1321, 98, okm_187⟩
  | 188, _, hr => cases hr; exact ⟨11, 1326, 1324, 1325, 98, okm_188⟩
  | 189, _, hr => cases hr; exact ⟨11, 1341, 1340, 17, 98, okm_189⟩
  | 190, _, hr => cases hr; exact ⟨11, 1354, 1353, 20, 98, okm_190⟩
  | 191, _, hr => cases hr; exact ⟨11, 1365, 1364, 22, 98, okm_191⟩
  | 192, _, hr => cases hr; exact ⟨11, 1376, 1375, 24, 98, okm_192⟩
  | 193, _, hr => cases hr; exact ⟨11, 1371, 1370, 23, 98, okm_193⟩
  | 194, _, hr => cases hr; exact ⟨11, 1613, 1612, 58, 98, okm_194⟩
  | 195, _, hr => cases hr; exact ⟨11, 1385, 1384, 25, 98, okm_195⟩
  | 196, _, hr => cases hr; exact ⟨11, 1493, 1492, 42, 98, okm_196⟩
  | 197, _, hr => cases hr; exact ⟨11, 1498, 1497, 43, 98, okm_197⟩
  | 198, _, hr => cases hr; exact ⟨11, 1406, 1405, 29, 98, okm_198⟩
  | 199, _, hr => cases hr; exact ⟨11, 1428, 1427, 0, 98, okm_199⟩
  | 200, _, hr => cases hr; exact ⟨11, 1636, 1635, 0, 98, okm_200⟩
  | 201, _, hr => cases hr; exact ⟨11, 1425, 1424, 33, 98, okm_201⟩
  | 202, _, hr => cases hr; exact ⟨11, 1633, 1632, 62, 98, okm_202⟩
  | 203, _, hr => cases hr; exact ⟨11, 1733, 1732, 72, 98, okm_203⟩
  | 204, _, hr => cases hr; exact ⟨11, 1629, 1628, 61, 98, okm_204⟩
  | 205, _, hr => cases hr; exact ⟨11, 1417, 1416, 31, 98, okm_205⟩
  | 206, _, hr => cases hr; exact ⟨11, 1458, 1457, 40, 98, okm_206⟩
  | 207, _, hr => cases hr; exact ⟨11, 1454, 1453, 39, 98, okm_207⟩
  | 208, _, hr => cases hr; exact ⟨11, 1450, 1449, 38, 98, okm_208⟩
  | 209, _, hr => cases hr; exact ⟨11, 1421, 1420, 32, 98, okm_209⟩
  | 210, _, hr => cases hr; exact ⟨11, 1432, 1431, 34, 98, okm_210⟩
  | 211, _, hr => cases hr; exact ⟨11, 1445, 1444, 37, 98, okm_211⟩
  | 212, _, hr => cases hr; exact ⟨11, 1413, 1412, 30, 98, okm_212⟩
  | 213, _, hr => cases hr; exact ⟨11, 1361, 1360, 21, 98, okm_213⟩
  | 214, _, hr => cases hr; exact ⟨11, 1350, 1349, 19, 98, okm_214⟩
  | 215, _, hr => cases hr; exact ⟨11, 1346, 1345, 18, 98, okm_215⟩
  | 216, _, hr => cases hr; exact ⟨11, 1337, 1336, 16, 98, okm_216⟩
  | 217, _, hr => cases hr; exact ⟨11, 1389, 1388, 26, 98, okm_217⟩
  | 218, _, hr => cases hr; exact ⟨11, 1333, 1331, 1332, 98, okm_218⟩
  | 219, _, hr => cases hr; exact ⟨11, 1465, 1464, 0, 98, okm_219⟩
  | 220, _, hr => cases hr; exact ⟨11, 1462, 1461, 41, 98, okm_220⟩
  | 221, _, hr => cases hr; exact ⟨11, 1440, 1439, 36, 98, okm_221⟩
  | 222, _, hr => cases hr; exact ⟨11, 1436, 1435, 35, 98, okm_222⟩
  | 223, _, hr => cases hr; exact ⟨11, 1865, 1864, 85, 98, okm_223⟩
  | 224, _, hr => cases hr; exact ⟨11, 1393, 1391, 1392, 98, okm_224⟩
  | 225, _, hr => cases hr; exact ⟨11, 1469, 1467, 1468, 98, okm_225⟩
  | 226, _, hr => cases hr; exact ⟨11, 1473, 1471, 1472, 98, okm_226⟩
  | 227, _, hr => cases hr; exact ⟨11, 1478, 1476, 1477, 98, okm_227⟩
  | 228, _, hr => cases hr; exact ⟨11, 1502, 1501, 44, 98, okm_228⟩
  | 229, _, hr => cases hr; exact ⟨11, 1509, 1508, 45, 98, okm_229⟩
  | 230, _, hr => cases hr; exact ⟨11, 1529, 1528, 48, 98, okm_230⟩
  | 231, _, hr => cases hr; exact ⟨11, 1485, 1483, 1484, 98, okm_231⟩
  | 232, _, hr => cases hr; exact ⟨11, 1520, 1519, 0, 98, okm_232⟩
  | 233, _, hr => cases hr; exact ⟨11, 1505, 1504, 0, 98, okm_233⟩
  | 234, _, hr => cases hr; exact ⟨11, 1525, 1524, 47, 98, okm_234⟩
  | 235, _, hr => cases hr; exact ⟨11, 1517, 1516, 46, 98, okm_235⟩
  | 236, _, hr => cases hr; exact ⟨11, 1537, 1536, 49, 98, okm_236⟩
  | 237, _, hr => cases hr; exact ⟨11, 1545, 1544, 50, 98, okm_237⟩
  | 238, _, hr => cases hr; exact ⟨11, 1553, 1552, 51, 98, okm_238⟩
  | 239, _, hr => cases hr; exact ⟨11, 1564, 1563, 0, 98, okm_239⟩
  | 240, _, hr => cases hr; exact ⟨11, 1561, 1560, 52, 98, okm_240⟩
  | 241, _, hr => cases hr; exact ⟨11, 1575, 1574, 0, 98, okm_241⟩
  | 242, _, hr => cases hr; exact ⟨11, 1572, 1571, 53, 98, okm_242⟩
  | 243, _, hr => cases hr; exact ⟨11, 1583, 1582, 54, 98, okm_243⟩
  | 244, _, hr => cases hr; exact ⟨11, 1591, 1590, 55, 98, okm_244⟩
  | 245, _, hr => cases hr; exact ⟨11, 1599, 1598, 56, 98, okm_245⟩
  | 246, _, hr => cases hr; exact ⟨11, 1489, 1487, 1488, 98, okm_246⟩
  | 247, _, hr => cases hr; exact ⟨11, 1513, 1511, 1512, 98, okm_247⟩
  | 248, _, hr => cases hr; exact ⟨11, 1533, 1531, 1532, 98, okm_248⟩
  | 249, _, hr => cases hr; exact ⟨11, 1541, 1539, 1540, 98, okm_249⟩
  | 250, _, hr => cases hr; exact ⟨11, 1549, 1547, 1548, 98, okm_250⟩
  | 251, _, hr => cases hr; exact ⟨11, 1557, 1555, 1556, 98, okm_251⟩
  | 252, _, hr => cases hr; exact ⟨11, 1568, 1566, 1567, 98, okm_252⟩
  | 253, _, hr => cases hr; exact ⟨11, 1579, 1577, 1578, 98, okm_253⟩
  | 254, _, hr => cases hr; exact ⟨11, 1587, 1585, 1586, 98, okm_254⟩
  | 255, _, hr => cases hr; exact ⟨11, 1595, 1593, 1594, 98, okm_255⟩
  | 256, _, hr => cases hr; exact ⟨11, 1608, 1607, 57, 98, okm_256⟩
  | 257, _, hr => cases hr; exact ⟨11, 1617, 1616, 59, 98, okm_257⟩
  | 258, _, hr => cases hr; exact ⟨11, 1604, 1602, 1603, 98, okm_258⟩
  | 259, _, hr => cases hr; exact ⟨11, 1625, 1623, 1624, 98, okm_259⟩
  | 260, _, hr => cases hr; exact ⟨11, 1640, 1638, 1639, 98, okm_260⟩
  | 261, _, hr => cases hr; exact ⟨11, 1652, 1651, 64, 98, okm_261⟩
  | 262, _, hr => cases hr; exact ⟨11, 1648, 1647, 63, 98, okm_262⟩
  | 263, _, hr => cases hr; exact ⟨11, 1644, 1642, 1643, 98, okm_263⟩
  | 264, _, hr => cases hr; exact ⟨11, 1656, 1654, 1655, 98, okm_264⟩
  | 265, _, hr => cases hr; exact ⟨11, 1660, 1658, 1659, 98, okm_265⟩
  | 266, _, hr => cases hr; exact ⟨11, 1668, 1667, 65, 98, okm_266⟩
  | 267, _, hr => cases hr; exact ⟨11, 1664, 1662, 1663, 98, okm_267⟩
  | 268, _, hr => cases hr; exact ⟨11, 1672, 1670, 1671, 98, okm_268⟩
  | 269, _, hr => cases hr; exact ⟨11, 1680, 1679, 66, 98, okm_269⟩
  | 270, _, hr => cases hr; exact ⟨11, 1676, 1674, 1675, 98, okm_270⟩
  | 271, _, hr => cases hr; exact ⟨11, 1689, 1688, 0, 98, okm_271⟩
  | 272, _, hr => cases hr; exact ⟨11, 1692, 1691, 0, 98, okm_272⟩
  | 273, _, hr => cases hr; exact ⟨11, 1684, 1682, 1683, 98, okm_273⟩
  | 274, _, hr => cases hr; exact ⟨11, 1698, 1697, 0, 98, okm_274⟩
  | 275, _, hr => cases hr; exact ⟨11, 1710, 1709, 68, 98, okm_275⟩
  | 276, _, hr => cases hr; exact ⟨11, 1718, 1717, 70, 98, okm_276⟩
  | 277, _, hr => cases hr; exact ⟨11, 1706, 1705, 67, 98, okm_277⟩
  | 278, _, hr => cases hr; exact ⟨11, 1714, 1713, 69, 98, okm_278⟩
  | 279, _, hr => cases hr; exact ⟨11, 1702, 1700, 1701, 98, okm_279⟩
  | 280, _, hr => cases hr; exact ⟨11, 1729, 1728, 71, 98, okm_280⟩
  | 281, _, hr => cases hr; exact ⟨11, 1737, 1736, 73, 98, okm_281⟩
  | 282, _, hr => cases hr; exact ⟨11, 1723, 1721, 1722, 98, okm_282⟩
  | 283, _, hr => cases hr; exact ⟨11, 1745, 1744, 74, 98, okm_283⟩
  | 284, _, hr => cases hr; exact ⟨11, 1741, 1739, 1740, 98, okm_284⟩
  | 285, _, hr => cases hr; exact ⟨11, 1752, 1750, 1751, 98, okm_285⟩
  | 286, _, hr => cases hr; exact ⟨11, 1769, 1768, 77, 98, okm_286⟩
  | 287, _, hr => cases hr; exact ⟨11, 1773, 1772, 78, 98, okm_287⟩
  | 288, _, hr => cases hr; exact ⟨11, 1765, 1764, 76, 98, okm_288⟩
  | 289, _, hr => cases hr; exact ⟨11, 1761, 1760, 75, 98, okm_289⟩
  | 290, _, hr => cases hr; exact ⟨11, 1756, 1754, 1755, 98, okm_290⟩
  | 291, _, hr => cases hr; exact ⟨11, 1781, 1780, 79, 98, okm_291⟩
  | 292, _, hr => cases hr; exact ⟨11, 1777, 1775, 1776, 98, okm_292⟩
  | 293, _, hr => cases hr; exact ⟨11, 1785, 1783, 1784, 98, okm_293⟩
  | 294, _, hr => cases hr; exact ⟨11, 1790, 1788, 1789, 98, okm_294⟩
  | 295, _, hr => cases hr; exact ⟨11, 1798, 1796, 1797, 98, okm_295⟩
  | 296, _, hr => cases hr; exact ⟨11, 1802, 1800, 1801, 98, okm_296⟩
  | 297, _, hr => cases hr; exact ⟨11, 1810, 1809, 81, 98, okm_297⟩
  | 298, _, hr => cases hr; exact ⟨11, 1806, 1804, 1805, 98, okm_298⟩
  | 299, _, hr => cases hr; exact ⟨11, 1814, 1812, 1813, 98, okm_299⟩
  | 300, _, hr => cases hr; exact ⟨11, 1825, 1824, 0, 98, okm_300⟩
  | 301, _, hr => cases hr; exact ⟨11, 1828, 1827, 0, 98, okm_301⟩
  | 302, _, hr => cases hr; exact ⟨11, 1822, 1820, 1821, 98, okm_302⟩
  | 303, _, hr => cases hr; exact ⟨11, 1832, 1830, 1831, 98, okm_303⟩
  | 304, _, hr => cases hr; exact ⟨11, 1844, 1843, 83, 98, okm_304⟩
  | 305, _, hr => cases hr; exact ⟨11, 1840, 1839, 82, 98, okm_305⟩
  | 306, _, hr => cases hr; exact ⟨11, 1836, 1834, 1835, 98, okm_306⟩
  | 307, _, hr => cases hr; exact ⟨11, 1848, 1846, 1847, 98, okm_307⟩
  | 308, _, hr => cases hr; exact ⟨11, 1857, 1856, 84, 98, okm_308⟩
  | 309, _, hr => cases hr; exact ⟨11, 1852, 1850, 1851, 98, okm_309⟩
  | 310, _, hr => cases hr; exact ⟨11, 1861, 1859, 1860, 98, okm_310⟩
  | 311, _, hr => cases hr; exact ⟨11, 1876, 1875, 0, 98, okm_311⟩
  | 312, _, hr => cases hr; exact ⟨11, 1873, 1872, 0, 98, okm_312⟩
  | 313, _, hr => cases hr; exact ⟨11, 1869, 1867, 1868, 98, okm_313⟩
  | 314, _, hr => cases hr; exact ⟨11, 1885, 1884, 86, 98, okm_314⟩
  | 315, _, hr => cases hr; exact ⟨11, 1890, 1889, 87, 98, okm_315⟩
  | 316, _, hr => cases hr; exact ⟨11, 1880, 1878, 1879, 98, okm_316⟩
  | 317, _, hr => cases hr; exact ⟨11, 1897, 1895, 1896, 98, okm_317⟩
  | 318, _, hr => cases hr; exact ⟨11, 1901, 1899, 1900, 98, okm_318⟩
  | 319, _, hr => cases hr; exact ⟨11, 1905, 1903, 1904, 98, okm_319⟩
  | 320, _, hr => cases hr; exact ⟨11, 1909, 1907, 1908, 98, okm_320⟩
  | 321, _, hr => cases hr; exact ⟨12, 1748, 1747, 0, 101, okm_321⟩
  | 322, _, hr => cases hr; exact ⟨12, 794, 793, 0, 101, okm_322⟩
  | 323, _, hr => cases hr; exact ⟨12, 385, 384, 0, 101, okm_323⟩
  | 324, _, hr => cases hr; exact ⟨13, 241, 240, 0, 96, okm_324⟩
  | 325, _, hr => cases hr; exact ⟨13, 395, 394, 0, 96, okm_325⟩
