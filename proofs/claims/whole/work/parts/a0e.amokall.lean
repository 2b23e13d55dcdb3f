theorem okm_235 : am_okM (yX11_rollsOne, cX11_rollsOne, 4, some .int, 1, 3) cd_X11_rollsOne 11 1517 1516 46 98 = true := by decide +kernel
theorem okm_236 : am_okM (yX11_flipsOne, cX11_flipsOne, 3, some .int, 1, 2) cd_X11_flipsOne 11 1537 1536 49 98 = true := by decide +kernel
theorem okm_237 : am_okM (yX11_swapsOne, cX11_swapsOne, 7, some .int, 1, 3) cd_X11_swapsOne 11 1545 1544 50 98 = true := by decide +kernel
theorem okm_238 : am_okM (yX11_threadsOne, cX11_threadsOne, 6, some .int, 1, 4) cd_X11_threadsOne 11 1553 1552 51 98 = true := by decide +kernel
theorem okm_239 : am_okM (yX11_stores, cX11_stores, 2, none, 0, 2) cd_X11_stores 11 1564 1563 0 98 = true := by decide +kernel
theorem okm_240 : am_okM (yX11_cutsOne, cX11_cutsOne, 6, some .int, 1, 3) cd_X11_cutsOne 11 1561 1560 52 98 = true := by decide +kernel
theorem okm_241 : am_okM (yX11_goes, cX11_goes, 4, none, 0, 2) cd_X11_goes 11 1575 1574 0 98 = true := by decide +kernel
theorem okm_242 : am_okM (yX11_joinsOne, cX11_joinsOne, 6, some .int, 1, 3) cd_X11_joinsOne 11 1572 1571 53 98 = true := by decide +kernel
theorem okm_243 : am_okM (yX11_partsOne, cX11_partsOne, 5, some .int, 1, 2) cd_X11_partsOne 11 1583 1582 54 98 = true := by decide +kernel
theorem okm_244 : am_okM (yX11_sellsOne, cX11_sellsOne, 4, some .int, 1, 2) cd_X11_sellsOne 11 1591 1590 55 98 = true := by decide +kernel
theorem okm_245 : am_okM (yX11_buysOne, cX11_buysOne, 4, some .int, 1, 3) cd_X11_buysOne 11 1599 1598 56 98 = true := by decide +kernel
theorem okm_246 : am_okM (yX11_strings, cX11_strings, 4, some .int, 1, 0) cd_X11_strings 11 1489 1487 1488 98 = true := by decide +kernel
theorem okm_247 : am_okM (yX11_rolls, cX11_rolls, 3, some .int, 1, 2) cd_X11_rolls 11 1513 1511 1512 98 = true := by decide +kernel
theorem okm_248 : am_okM (yX11_flips, cX11_flips, 2, some .int, 1, 1) cd_X11_flips 11 1533 1531 1532 98 = true := by decide +kernel
theorem okm_249 : am_okM (yX11_swaps, cX11_swaps, 3, some .int, 1, 2) cd_X11_swaps 11 1541 1539 1540 98 = true := by decide +kernel
theorem okm_250 : am_okM (yX11_threads, cX11_threads, 4, some .int, 1, 3) cd_X11_threads 11 1549 1547 1548 98 = true := by decide +kernel
theorem okm_251 : am_okM (yX11_cuts, cX11_cuts, 3, some .int, 1, 2) cd_X11_cuts 11 1557 1555 1556 98 = true := by decide +kernel
theorem okm_252 : am_okM (yX11_joins, cX11_joins, 3, some .int, 1, 2) cd_X11_joins 11 1568 1566 1567 98 = true := by decide +kernel
theorem okm_253 : am_okM (yX11_parts, cX11_parts, 2, some .int, 1, 1) cd_X11_parts 11 1579 1577 1578 98 = true := by decide +kernel
theorem okm_254 : am_okM (yX11_sells, cX11_sells, 2, some .int, 1, 1) cd_X11_sells 11 1587 1585 1586 98 = true := by decide +kernel
theorem okm_255 : am_okM (yX11_buys, cX11_buys, 3, some .int, 1, 2) cd_X11_buys 11 1595 1593 1594 98 = true := by decide +kernel
theorem okm_256 : am_okM (yX11_readsAct, cX11_readsAct, 2, some .boolean, 1, 0) cd_X11_readsAct 11 1608 1607 57 98 = true := by decide +kernel
theorem okm_257 : am_okM (yX11_does, cX11_does, 3, some .boolean, 1, 1) cd_X11_does 11 1617 1616 59 98 = true := by decide +kernel
theorem okm_258 : am_okM (yX11_day, cX11_day, 5, some .int, 1, 0) cd_X11_day 11 1604 1602 1603 98 = true := by decide +kernel
theorem okm_259 : am_okM (yX11_least, cX11_least, 2, some .int, 1, 1) cd_X11_least 11 1625 1623 1624 98 = true := by decide +kernel
theorem okm_260 : am_okM (yX11_alike, cX11_alike, 7, some .int, 1, 2) cd_X11_alike 11 1640 1638 1639 98 = true := by decide +kernel
theorem okm_261 : am_okM (yX11_firstAlike, cX11_firstAlike, 4, some .int, 1, 2) cd_X11_firstAlike 11 1652 1651 64 98 = true := by decide +kernel
theorem okm_262 : am_okM (yX11_kindsOf, cX11_kindsOf, 4, some .int, 1, 1) cd_X11_kindsOf 11 1648 1647 63 98 = true := by decide +kernel
theorem okm_263 : am_okM (yX11_kinds, cX11_kinds, 3, some .int, 1, 0) cd_X11_kinds 11 1644 1642 1643 98 = true := by decide +kernel
theorem okm_264 : am_okM (yX11_far, cX11_far, 5, some .int, 1, 2) cd_X11_far 11 1656 1654 1655 98 = true := by decide +kernel
theorem okm_265 : am_okM (yX11_finds, cX11_finds, 7, some .int, 1, 1) cd_X11_finds 11 1660 1658 1659 98 = true := by decide +kernel
theorem okm_266 : am_okM (yX11_isWord, cX11_isWord, 6, some .boolean, 1, 3) cd_X11_isWord 11 1668 1667 65 98 = true := by decide +kernel
theorem okm_267 : am_okM (yX11_words, cX11_words, 10, some .int, 1, 2) cd_X11_words 11 1664 1662 1663 98 = true := by decide +kernel
theorem okm_268 : am_okM (yX11_twice, cX11_twice, 6, some .int, 1, 1) cd_X11_twice 11 1672 1670 1671 98 = true := by decide +kernel
theorem okm_269 : am_okM (yX11_isSame, cX11_isSame, 5, some .boolean, 1, 2) cd_X11_isSame 11 1680 1679 66 98 = true := by decide +kernel
theorem okm_270 : am_okM (yX11_arc, cX11_arc, 4, some .int, 1, 1) cd_X11_arc 11 1676 1674 1675 98 = true := by decide +kernel
theorem okm_271 : am_okM (yX11_power, cX11_power, 2, some .long, 0, 2) cd_X11_power 11 1689 1688 0 98 = true := by decide +kernel
theorem okm_272 : am_okM (yX11_ringsOf, cX11_ringsOf, 2, some .int, 0, 2) cd_X11_ringsOf 11 1692 1691 0 98 = true := by decide +kernel
theorem okm_273 : am_okM (yX11_many, cX11_many, 10, some .int, 1, 2) cd_X11_many 11 1684 1682 1683 98 = true := by decide +kernel
theorem okm_274 : am_okM (yX11_newRows, cX11_newRows, 5, some .long, 0, 2) cd_X11_newRows 11 1698 1697 0 98 = true := by decide +kernel
theorem okm_275 : am_okM (yX11_rowsOf, cX11_rowsOf, 10, some .long, 1, 3) cd_X11_rowsOf 11 1710 1709 68 98 = true := by decide +kernel
theorem okm_276 : am_okM (yX11_oddOnes, cX11_oddOnes, 3, some .int, 1, 0) cd_X11_oddOnes 11 1718 1717 70 98 = true := by decide +kernel
theorem okm_277 : am_okM (yX11_goesInto, cX11_goesInto, 4, some .boolean, 1, 1) cd_X11_goesInto 11 1706 1705 67 98 = true := by decide +kernel
theorem okm_278 : am_okM (yX11_flippedRows, cX11_flippedRows, 6, some .long, 1, 2) cd_X11_flippedRows 11 1714 1713 69 98 = true := by decide +kernel
theorem okm_279 : am_okM (yX11_ways, cX11_ways, 9, some .int, 1, 0) cd_X11_ways 11 1702 1700 1701 98 = true := by decide +kernel
theorem okm_280 : am_okM (yX11_laysLook, cX11_laysLook, 6, none, 1, 3) cd_X11_laysLook 11 1729 1728 71 98 = true := by decide +kernel
theorem okm_281 : am_okM (yX11_entersLook, cX11_entersLook, 2, none, 1, 0) cd_X11_entersLook 11 1737 1736 73 98 = true := by decide +kernel
theorem okm_282 : am_okM (yX11_nth, cX11_nth, 6, some .int, 1, 3) cd_X11_nth 11 1723 1721 1722 98 = true := by decide +kernel
theorem okm_283 : am_okM (yX11_laysRank, cX11_laysRank, 4, none, 1, 1) cd_X11_laysRank 11 1745 1744 74 98 = true := by decide +kernel
theorem okm_284 : am_okM (yX11_rank, cX11_rank, 4, some .int, 1, 1) cd_X11_rank 11 1741 1739 1740 98 = true := by decide +kernel
