theorem okm_235 : am_okM (yX11_rollsOne, cX11_rollsOne, 4, some .int, 1, 3) cd_X11_rollsOne 11 1528 1527 48 100 = true := by decide +kernel
theorem okm_236 : am_okM (yX11_flipsOne, cX11_flipsOne, 3, some .int, 1, 2) cd_X11_flipsOne 11 1548 1547 51 100 = true := by decide +kernel
theorem okm_237 : am_okM (yX11_swapsOne, cX11_swapsOne, 7, some .int, 1, 3) cd_X11_swapsOne 11 1556 1555 52 100 = true := by decide +kernel
theorem okm_238 : am_okM (yX11_threadsOne, cX11_threadsOne, 6, some .int, 1, 4) cd_X11_threadsOne 11 1564 1563 53 100 = true := by decide +kernel
theorem okm_239 : am_okM (yX11_stores, cX11_stores, 2, none, 0, 2) cd_X11_stores 11 1575 1574 0 100 = true := by decide +kernel
theorem okm_240 : am_okM (yX11_cutsOne, cX11_cutsOne, 6, some .int, 1, 3) cd_X11_cutsOne 11 1572 1571 54 100 = true := by decide +kernel
theorem okm_241 : am_okM (yX11_goes, cX11_goes, 4, none, 0, 2) cd_X11_goes 11 1586 1585 0 100 = true := by decide +kernel
theorem okm_242 : am_okM (yX11_joinsOne, cX11_joinsOne, 6, some .int, 1, 3) cd_X11_joinsOne 11 1583 1582 55 100 = true := by decide +kernel
theorem okm_243 : am_okM (yX11_partsOne, cX11_partsOne, 5, some .int, 1, 2) cd_X11_partsOne 11 1594 1593 56 100 = true := by decide +kernel
theorem okm_244 : am_okM (yX11_sellsOne, cX11_sellsOne, 4, some .int, 1, 2) cd_X11_sellsOne 11 1602 1601 57 100 = true := by decide +kernel
theorem okm_245 : am_okM (yX11_buysOne, cX11_buysOne, 4, some .int, 1, 3) cd_X11_buysOne 11 1610 1609 58 100 = true := by decide +kernel
theorem okm_246 : am_okM (yX11_strings, cX11_strings, 4, some .int, 1, 0) cd_X11_strings 11 1500 1498 1499 100 = true := by decide +kernel
theorem okm_247 : am_okM (yX11_rolls, cX11_rolls, 3, some .int, 1, 2) cd_X11_rolls 11 1524 1522 1523 100 = true := by decide +kernel
theorem okm_248 : am_okM (yX11_flips, cX11_flips, 2, some .int, 1, 1) cd_X11_flips 11 1544 1542 1543 100 = true := by decide +kernel
theorem okm_249 : am_okM (yX11_swaps, cX11_swaps, 3, some .int, 1, 2) cd_X11_swaps 11 1552 1550 1551 100 = true := by decide +kernel
theorem okm_250 : am_okM (yX11_threads, cX11_threads, 4, some .int, 1, 3) cd_X11_threads 11 1560 1558 1559 100 = true := by decide +kernel
theorem okm_251 : am_okM (yX11_cuts, cX11_cuts, 3, some .int, 1, 2) cd_X11_cuts 11 1568 1566 1567 100 = true := by decide +kernel
theorem okm_252 : am_okM (yX11_joins, cX11_joins, 3, some .int, 1, 2) cd_X11_joins 11 1579 1577 1578 100 = true := by decide +kernel
theorem okm_253 : am_okM (yX11_parts, cX11_parts, 2, some .int, 1, 1) cd_X11_parts 11 1590 1588 1589 100 = true := by decide +kernel
theorem okm_254 : am_okM (yX11_sells, cX11_sells, 2, some .int, 1, 1) cd_X11_sells 11 1598 1596 1597 100 = true := by decide +kernel
theorem okm_255 : am_okM (yX11_buys, cX11_buys, 3, some .int, 1, 2) cd_X11_buys 11 1606 1604 1605 100 = true := by decide +kernel
theorem okm_256 : am_okM (yX11_readsAct, cX11_readsAct, 2, some .boolean, 1, 0) cd_X11_readsAct 11 1619 1618 59 100 = true := by decide +kernel
theorem okm_257 : am_okM (yX11_does, cX11_does, 3, some .boolean, 1, 1) cd_X11_does 11 1628 1627 61 100 = true := by decide +kernel
theorem okm_258 : am_okM (yX11_day, cX11_day, 5, some .int, 1, 0) cd_X11_day 11 1615 1613 1614 100 = true := by decide +kernel
theorem okm_259 : am_okM (yX11_least, cX11_least, 2, some .int, 1, 1) cd_X11_least 11 1636 1634 1635 100 = true := by decide +kernel
theorem okm_260 : am_okM (yX11_alike, cX11_alike, 7, some .int, 1, 2) cd_X11_alike 11 1651 1649 1650 100 = true := by decide +kernel
theorem okm_261 : am_okM (yX11_firstAlike, cX11_firstAlike, 4, some .int, 1, 2) cd_X11_firstAlike 11 1663 1662 66 100 = true := by decide +kernel
theorem okm_262 : am_okM (yX11_kindsOf, cX11_kindsOf, 4, some .int, 1, 1) cd_X11_kindsOf 11 1659 1658 65 100 = true := by decide +kernel
theorem okm_263 : am_okM (yX11_kinds, cX11_kinds, 3, some .int, 1, 0) cd_X11_kinds 11 1655 1653 1654 100 = true := by decide +kernel
theorem okm_264 : am_okM (yX11_far, cX11_far, 5, some .int, 1, 2) cd_X11_far 11 1667 1665 1666 100 = true := by decide +kernel
theorem okm_265 : am_okM (yX11_finds, cX11_finds, 7, some .int, 1, 1) cd_X11_finds 11 1671 1669 1670 100 = true := by decide +kernel
theorem okm_266 : am_okM (yX11_isWord, cX11_isWord, 6, some .boolean, 1, 3) cd_X11_isWord 11 1679 1678 67 100 = true := by decide +kernel
theorem okm_267 : am_okM (yX11_words, cX11_words, 10, some .int, 1, 2) cd_X11_words 11 1675 1673 1674 100 = true := by decide +kernel
theorem okm_268 : am_okM (yX11_twice, cX11_twice, 6, some .int, 1, 1) cd_X11_twice 11 1683 1681 1682 100 = true := by decide +kernel
theorem okm_269 : am_okM (yX11_isSame, cX11_isSame, 5, some .boolean, 1, 2) cd_X11_isSame 11 1691 1690 68 100 = true := by decide +kernel
theorem okm_270 : am_okM (yX11_arc, cX11_arc, 4, some .int, 1, 1) cd_X11_arc 11 1687 1685 1686 100 = true := by decide +kernel
theorem okm_271 : am_okM (yX11_power, cX11_power, 2, some .long, 0, 2) cd_X11_power 11 1700 1699 0 100 = true := by decide +kernel
theorem okm_272 : am_okM (yX11_ringsOf, cX11_ringsOf, 2, some .int, 0, 2) cd_X11_ringsOf 11 1703 1702 0 100 = true := by decide +kernel
theorem okm_273 : am_okM (yX11_many, cX11_many, 10, some .int, 1, 2) cd_X11_many 11 1695 1693 1694 100 = true := by decide +kernel
theorem okm_274 : am_okM (yX11_newRows, cX11_newRows, 5, some .long, 0, 2) cd_X11_newRows 11 1709 1708 0 100 = true := by decide +kernel
theorem okm_275 : am_okM (yX11_rowsOf, cX11_rowsOf, 10, some .long, 1, 3) cd_X11_rowsOf 11 1721 1720 70 100 = true := by decide +kernel
theorem okm_276 : am_okM (yX11_oddOnes, cX11_oddOnes, 3, some .int, 1, 0) cd_X11_oddOnes 11 1729 1728 72 100 = true := by decide +kernel
theorem okm_277 : am_okM (yX11_goesInto, cX11_goesInto, 4, some .boolean, 1, 1) cd_X11_goesInto 11 1717 1716 69 100 = true := by decide +kernel
theorem okm_278 : am_okM (yX11_flippedRows, cX11_flippedRows, 6, some .long, 1, 2) cd_X11_flippedRows 11 1725 1724 71 100 = true := by decide +kernel
theorem okm_279 : am_okM (yX11_ways, cX11_ways, 9, some .int, 1, 0) cd_X11_ways 11 1713 1711 1712 100 = true := by decide +kernel
theorem okm_280 : am_okM (yX11_laysLook, cX11_laysLook, 6, none, 1, 3) cd_X11_laysLook 11 1740 1739 73 100 = true := by decide +kernel
theorem okm_281 : am_okM (yX11_entersLook, cX11_entersLook, 2, none, 1, 0) cd_X11_entersLook 11 1748 1747 75 100 = true := by decide +kernel
theorem okm_282 : am_okM (yX11_nth, cX11_nth, 6, some .int, 1, 3) cd_X11_nth 11 1734 1732 1733 100 = true := by decide +kernel
theorem okm_283 : am_okM (yX11_laysRank, cX11_laysRank, 4, none, 1, 1) cd_X11_laysRank 11 1756 1755 76 100 = true := by decide +kernel
theorem okm_284 : am_okM (yX11_rank, cX11_rank, 4, some .int, 1, 1) cd_X11_rank 11 1752 1750 1751 100 = true := by decide +kernel
