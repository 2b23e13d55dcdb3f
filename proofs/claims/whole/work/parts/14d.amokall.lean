theorem okm_182 : am_okM (yX11_init, cX11_init, 2, none, 2, 0) cd_X11_init 11 1191 1190 0 100 = true := by decide +kernel
theorem okm_183 : am_okM (yX11_isRing, cX11_isRing, 2, some .boolean, 1, 1) cd_X11_isRing 11 1408 1407 29 100 = true := by decide +kernel
theorem okm_184 : am_okM (yX11_beadAt, cX11_beadAt, 3, some .int, 0, 3) cd_X11_beadAt 11 1420 1419 0 100 = true := by decide +kernel
theorem okm_185 : am_okM (yX11_stockOf, cX11_stockOf, 3, some .int, 0, 1) cd_X11_stockOf 11 1492 1491 0 100 = true := by decide +kernel
theorem okm_186 : am_okM (yX11_beadsOf, cX11_beadsOf, 3, some .int, 0, 1) cd_X11_beadsOf 11 1904 1903 0 100 = true := by decide +kernel
theorem okm_187 : am_okM (yX11_sign, cX11_sign, 3, some .int, 1, 1) cd_X11_sign 11 1333 1331 1332 100 = true := by decide +kernel
theorem okm_188 : am_okM (yX11_end, cX11_end, 2, some .boolean, 1, 1) cd_X11_end 11 1337 1335 1336 100 = true := by decide +kernel
theorem okm_189 : am_okM (yX11_begins, cX11_begins, 3, some .int, 1, 1) cd_X11_begins 11 1352 1351 19 100 = true := by decide +kernel
theorem okm_190 : am_okM (yX11_takes, cX11_takes, 3, some .boolean, 1, 1) cd_X11_takes 11 1365 1364 22 100 = true := by decide +kernel
theorem okm_191 : am_okM (yX11_isDigit, cX11_isDigit, 1, some .boolean, 1, 0) cd_X11_isDigit 11 1376 1375 24 100 = true := by decide +kernel
theorem okm_192 : am_okM (yX11_takesOf, cX11_takesOf, 3, some .int, 1, 1) cd_X11_takesOf 11 1387 1386 26 100 = true := by decide +kernel
theorem okm_193 : am_okM (yX11_number, cX11_number, 4, some .int, 1, 1) cd_X11_number 11 1382 1381 25 100 = true := by decide +kernel
theorem okm_194 : am_okM (yX11_digitIn, cX11_digitIn, 3, some .int, 1, 2) cd_X11_digitIn 11 1624 1623 60 100 = true := by decide +kernel
theorem okm_195 : am_okM (yX11_faultOf, cX11_faultOf, 5, some .int, 1, 3) cd_X11_faultOf 11 1396 1395 27 100 = true := by decide +kernel
theorem okm_196 : am_okM (yX11_readsWord, cX11_readsWord, 2, some .int, 1, 0) cd_X11_readsWord 11 1504 1503 44 100 = true := by decide +kernel
theorem okm_197 : am_okM (yX11_ofWord, cX11_ofWord, 4, some .int, 1, 1) cd_X11_ofWord 11 1509 1508 45 100 = true := by decide +kernel
theorem okm_198 : am_okM (yX11_looksAt, cX11_looksAt, 4, none, 1, 2) cd_X11_looksAt 11 1417 1416 31 100 = true := by decide +kernel
theorem okm_199 : am_okM (yX11_turnedOf, cX11_turnedOf, 5, some .int, 0, 4) cd_X11_turnedOf 11 1439 1438 0 100 = true := by decide +kernel
theorem okm_200 : am_okM (yX11_tellsTurning, cX11_tellsTurning, 2, some .int, 0, 2) cd_X11_tellsTurning 11 1647 1646 0 100 = true := by decide +kernel
theorem okm_201 : am_okM (yX11_compares, cX11_compares, 5, some .int, 1, 2) cd_X11_compares 11 1436 1435 35 100 = true := by decide +kernel
theorem okm_202 : am_okM (yX11_leastTurning, cX11_leastTurning, 3, some .int, 1, 0) cd_X11_leastTurning 11 1644 1643 64 100 = true := by decide +kernel
theorem okm_203 : am_okM (yX11_isLeast, cX11_isLeast, 3, some .boolean, 1, 0) cd_X11_isLeast 11 1744 1743 74 100 = true := by decide +kernel
theorem okm_204 : am_okM (yX11_entersLeast, cX11_entersLeast, 3, none, 1, 0) cd_X11_entersLeast 11 1640 1639 63 100 = true := by decide +kernel
theorem okm_205 : am_okM (yX11_ofLook, cX11_ofLook, 4, some .int, 1, 1) cd_X11_ofLook 11 1428 1427 33 100 = true := by decide +kernel
theorem okm_206 : am_okM (yX11_offBy, cX11_offBy, 6, some .int, 1, 3) cd_X11_offBy 11 1469 1468 42 100 = true := by decide +kernel
theorem okm_207 : am_okM (yX11_isAlike, cX11_isAlike, 5, some .boolean, 1, 2) cd_X11_isAlike 11 1465 1464 41 100 = true := by decide +kernel
theorem okm_208 : am_okM (yX11_alikeMany, cX11_alikeMany, 5, some .int, 1, 2) cd_X11_alikeMany 11 1461 1460 40 100 = true := by decide +kernel
theorem okm_209 : am_okM (yX11_period, cX11_period, 2, some .int, 1, 0) cd_X11_period 11 1432 1431 34 100 = true := by decide +kernel
theorem okm_210 : am_okM (yX11_mirrors, cX11_mirrors, 3, some .int, 1, 0) cd_X11_mirrors 11 1443 1442 36 100 = true := by decide +kernel
theorem okm_211 : am_okM (yX11_mostOfOne, cX11_mostOfOne, 3, some .int, 1, 0) cd_X11_mostOfOne 11 1456 1455 39 100 = true := by decide +kernel
theorem okm_212 : am_okM (yX11_coloursOf, cX11_coloursOf, 3, some .int, 1, 0) cd_X11_coloursOf 11 1424 1423 32 100 = true := by decide +kernel
theorem okm_213 : am_okM (yX11_codes, cX11_codes, 2, none, 1, 1) cd_X11_codes 11 1372 1371 23 100 = true := by decide +kernel
theorem okm_214 : am_okM (yX11_readsThing, cX11_readsThing, 2, some .boolean, 1, 0) cd_X11_readsThing 11 1361 1360 21 100 = true := by decide +kernel
theorem okm_215 : am_okM (yX11_readsRank, cX11_readsRank, 4, some .boolean, 1, 1) cd_X11_readsRank 11 1357 1356 20 100 = true := by decide +kernel
theorem okm_216 : am_okM (yX11_readsRule, cX11_readsRule, 3, some .int, 1, 0) cd_X11_readsRule 11 1348 1347 18 100 = true := by decide +kernel
theorem okm_217 : am_okM (yX11_laysCode, cX11_laysCode, 4, none, 1, 2) cd_X11_laysCode 11 1400 1399 28 100 = true := by decide +kernel
theorem okm_218 : am_okM (yX11_rule, cX11_rule, 2, some .int, 1, 0) cd_X11_rule 11 1344 1342 1343 100 = true := by decide +kernel
theorem okm_219 : am_okM (yX11_worked, cX11_worked, 3, some .int, 0, 3) cd_X11_worked 11 1476 1475 0 100 = true := by decide +kernel
theorem okm_220 : am_okM (yX11_ruled, cX11_ruled, 4, some .int, 1, 0) cd_X11_ruled 11 1473 1472 43 100 = true := by decide +kernel
theorem okm_221 : am_okM (yX11_priceOfLook, cX11_priceOfLook, 4, some .int, 1, 2) cd_X11_priceOfLook 11 1451 1450 38 100 = true := by decide +kernel
theorem okm_222 : am_okM (yX11_price, cX11_price, 3, some .int, 1, 2) cd_X11_price 11 1447 1446 37 100 = true := by decide +kernel
theorem okm_223 : am_okM (yX11_prices, cX11_prices, 3, some .int, 1, 0) cd_X11_prices 11 1876 1875 87 100 = true := by decide +kernel
theorem okm_224 : am_okM (yX11_bracelet, cX11_bracelet, 3, some .int, 1, 2) cd_X11_bracelet 11 1404 1402 1403 100 = true := by decide +kernel
theorem okm_225 : am_okM (yX11_bead, cX11_bead, 3, some .int, 1, 2) cd_X11_bead 11 1480 1478 1479 100 = true := by decide +kernel
theorem okm_226 : am_okM (yX11_stock, cX11_stock, 2, some .int, 1, 1) cd_X11_stock 11 1484 1482 1483 100 = true := by decide +kernel
theorem okm_227 : am_okM (yX11_sheet, cX11_sheet, 8, some .int, 1, 4) cd_X11_sheet 11 1489 1487 1488 100 = true := by decide +kernel
theorem okm_228 : am_okM (yX11_putsBy, cX11_putsBy, 2, none, 1, 0) cd_X11_putsBy 11 1513 1512 46 100 = true := by decide +kernel
theorem okm_229 : am_okM (yX11_adds, cX11_adds, 3, some .int, 1, 1) cd_X11_adds 11 1520 1519 47 100 = true := by decide +kernel
theorem okm_230 : am_okM (yX11_counted, cX11_counted, 2, some .int, 1, 1) cd_X11_counted 11 1540 1539 50 100 = true := by decide +kernel
theorem okm_231 : am_okM (yX11_undo, cX11_undo, 2, some .int, 1, 0) cd_X11_undo 11 1496 1494 1495 100 = true := by decide +kernel
theorem okm_232 : am_okM (yX11_isOf, cX11_isOf, 2, some .boolean, 0, 2) cd_X11_isOf 11 1531 1530 0 100 = true := by decide +kernel
theorem okm_233 : am_okM (yX11_laysBead, cX11_laysBead, 4, none, 0, 4) cd_X11_laysBead 11 1516 1515 0 100 = true := by decide +kernel
theorem okm_234 : am_okM (yX11_turnsOne, cX11_turnsOne, 6, none, 1, 3) cd_X11_turnsOne 11 1536 1535 49 100 = true := by decide +kernel
