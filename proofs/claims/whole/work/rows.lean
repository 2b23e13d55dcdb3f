section
/-- a private method of a class that the tables say can be made, by its rows of tables_1 -/
def lw_okq (q : MethodName × Nat) : Prop := (q.1.cls ≠ "java/lang/invoke/MethodHandle" ∧ q.1.cls ≠ "java/lang/invoke/VarHandle") ∧ Cond.instantiable q.1.cls q.2 ∈ tables_1 ∧ Cond.privateMethod q.1 ∈ tables_1 ∧ Cond.instanceMethod q.1 ∈ tables_1
theorem lw_p0 : lw_okq (⟨"BeadRings$Rule", "takes", "(C)Z"⟩, 9) := ⟨⟨by decide +kernel, by decide +kernel⟩, List.mem_of_getElem? (i := 166) (by decide +kernel), List.mem_of_getElem? (i := 326) (by decide +kernel), List.mem_of_getElem? (i := 327) (by decide +kernel)⟩
theorem lw_p1 : lw_okq (⟨"BeadRings$Rule", "takesDigit", "(I)Z"⟩, 9) := ⟨⟨by decide +kernel, by decide +kernel⟩, List.mem_of_getElem? (i := 166) (by decide +kernel), List.mem_of_getElem? (i := 330) (by decide +kernel), List.mem_of_getElem? (i := 331) (by decide +kernel)⟩
theorem lw_p2 : lw_okq (⟨"BeadRings$Rule", "addStep", "(I)V"⟩, 9) := ⟨⟨by decide +kernel, by decide +kernel⟩, List.mem_of_getElem? (i := 166) (by decide +kernel), List.mem_of_getElem? (i := 334) (by decide +kernel), List.mem_of_getElem? (i := 335) (by decide +kernel)⟩
theorem lw_p3 : lw_okq (⟨"BeadRings$Rule", "takesThing", "(C)Z"⟩, 9) := ⟨⟨by decide +kernel, by decide +kernel⟩, List.mem_of_getElem? (i := 166) (by decide +kernel), List.mem_of_getElem? (i := 338) (by decide +kernel), List.mem_of_getElem? (i := 339) (by decide +kernel)⟩
theorem lw_p4 : lw_okq (⟨"BeadRings$Rule", "addWaiting", "(C)V"⟩, 9) := ⟨⟨by decide +kernel, by decide +kernel⟩, List.mem_of_getElem? (i := 166) (by decide +kernel), List.mem_of_getElem? (i := 342) (by decide +kernel), List.mem_of_getElem? (i := 343) (by decide +kernel)⟩
theorem lw_p5 : lw_okq (⟨"BeadRings$Rule", "takesOperator", "(C)Z"⟩, 9) := ⟨⟨by decide +kernel, by decide +kernel⟩, List.mem_of_getElem? (i := 166) (by decide +kernel), List.mem_of_getElem? (i := 349) (by decide +kernel), List.mem_of_getElem? (i := 350) (by decide +kernel)⟩
theorem lw_p6 : lw_okq (⟨"BeadRings$Rule", "settleDownTo", "(I)V"⟩, 9) := ⟨⟨by decide +kernel, by decide +kernel⟩, List.mem_of_getElem? (i := 166) (by decide +kernel), List.mem_of_getElem? (i := 353) (by decide +kernel), List.mem_of_getElem? (i := 354) (by decide +kernel)⟩
theorem lw_p7 : lw_okq (⟨"BeadRings$Stall", "drop", "(I)V"⟩, 5) := ⟨⟨by decide +kernel, by decide +kernel⟩, List.mem_of_getElem? (i := 33) (by decide +kernel), List.mem_of_getElem? (i := 452) (by decide +kernel), List.mem_of_getElem? (i := 453) (by decide +kernel)⟩
theorem lw_p8 : lw_okq (⟨"BeadRings$KindLists", "grow", "(IIII)V"⟩, 3) := ⟨⟨by decide +kernel, by decide +kernel⟩, List.mem_of_getElem? (i := 128) (by decide +kernel), List.mem_of_getElem? (i := 780) (by decide +kernel), List.mem_of_getElem? (i := 781) (by decide +kernel)⟩
theorem lw_p9 : lw_okq (⟨"BeadRings", "addOnce", "(IIIII)V"⟩, 13) := ⟨⟨by decide +kernel, by decide +kernel⟩, List.mem_of_getElem? (i := 25) (by decide +kernel), List.mem_of_getElem? (i := 816) (by decide +kernel), List.mem_of_getElem? (i := 817) (by decide +kernel)⟩
theorem lw_p10 : lw_okq (⟨"BeadRings", "noteLeastRows", "(I)V"⟩, 13) := ⟨⟨by decide +kernel, by decide +kernel⟩, List.mem_of_getElem? (i := 25) (by decide +kernel), List.mem_of_getElem? (i := 831) (by decide +kernel), List.mem_of_getElem? (i := 832) (by decide +kernel)⟩
theorem lw_p11 : lw_okq (⟨"BeadRings", "numberNoted", "(I)I"⟩, 13) := ⟨⟨by decide +kernel, by decide +kernel⟩, List.mem_of_getElem? (i := 25) (by decide +kernel), List.mem_of_getElem? (i := 835) (by decide +kernel), List.mem_of_getElem? (i := 836) (by decide +kernel)⟩
theorem lw_p12 : lw_okq (⟨"BeadRings$Clues", "isAllFelt", "(II)Z"⟩, 3) := ⟨⟨by decide +kernel, by decide +kernel⟩, List.mem_of_getElem? (i := 146) (by decide +kernel), List.mem_of_getElem? (i := 875) (by decide +kernel), List.mem_of_getElem? (i := 876) (by decide +kernel)⟩
theorem lw_p13 : lw_okq (⟨"BeadRings", "passYear", "()V"⟩, 13) := ⟨⟨by decide +kernel, by decide +kernel⟩, List.mem_of_getElem? (i := 25) (by decide +kernel), List.mem_of_getElem? (i := 947) (by decide +kernel), List.mem_of_getElem? (i := 948) (by decide +kernel)⟩
theorem lw_p14 : lw_okq (⟨"BeadRings", "draw", "(I)I"⟩, 13) := ⟨⟨by decide +kernel, by decide +kernel⟩, List.mem_of_getElem? (i := 25) (by decide +kernel), List.mem_of_getElem? (i := 951) (by decide +kernel), List.mem_of_getElem? (i := 952) (by decide +kernel)⟩
theorem lw_p15 : lw_okq (⟨"java/lang/Throwable", "fillInStackTrace", "(I)Ljava/lang/Throwable;"⟩, 6) := ⟨⟨by decide +kernel, by decide +kernel⟩, List.mem_of_getElem? (i := 1024) (by decide +kernel), List.mem_of_getElem? (i := 1022) (by decide +kernel), List.mem_of_getElem? (i := 1023) (by decide +kernel)⟩
def lw_privs_1 : List (MethodName × Nat) := [(⟨"BeadRings$Rule", "takes", "(C)Z"⟩, 9), (⟨"BeadRings$Rule", "takesDigit", "(I)Z"⟩, 9), (⟨"BeadRings$Rule", "addStep", "(I)V"⟩, 9), (⟨"BeadRings$Rule", "takesThing", "(C)Z"⟩, 9), (⟨"BeadRings$Rule", "addWaiting", "(C)V"⟩, 9), (⟨"BeadRings$Rule", "takesOperator", "(C)Z"⟩, 9), (⟨"BeadRings$Rule", "settleDownTo", "(I)V"⟩, 9), (⟨"BeadRings$Stall", "drop", "(I)V"⟩, 5), (⟨"BeadRings$KindLists", "grow", "(IIII)V"⟩, 3), (⟨"BeadRings", "addOnce", "(IIIII)V"⟩, 13), (⟨"BeadRings", "noteLeastRows", "(I)V"⟩, 13), (⟨"BeadRings", "numberNoted", "(I)I"⟩, 13), (⟨"BeadRings$Clues", "isAllFelt", "(II)Z"⟩, 3), (⟨"BeadRings", "passYear", "()V"⟩, 13), (⟨"BeadRings", "draw", "(I)I"⟩, 13), (⟨"java/lang/Throwable", "fillInStackTrace", "(I)Ljava/lang/Throwable;"⟩, 6)]
theorem lw_r1 : ∀ q ∈ lw_privs_1, lw_okq q := List.forall_mem_cons.mpr ⟨lw_p0, List.forall_mem_cons.mpr ⟨lw_p1, List.forall_mem_cons.mpr ⟨lw_p2, List.forall_mem_cons.mpr ⟨lw_p3, List.forall_mem_cons.mpr ⟨lw_p4, List.forall_mem_cons.mpr ⟨lw_p5, List.forall_mem_cons.mpr ⟨lw_p6, List.forall_mem_cons.mpr ⟨lw_p7, List.forall_mem_cons.mpr ⟨lw_p8, List.forall_mem_cons.mpr ⟨lw_p9, List.forall_mem_cons.mpr ⟨lw_p10, List.forall_mem_cons.mpr ⟨lw_p11, List.forall_mem_cons.mpr ⟨lw_p12, List.forall_mem_cons.mpr ⟨lw_p13, List.forall_mem_cons.mpr ⟨lw_p14, List.forall_mem_cons.mpr ⟨lw_p15, fun _ h => absurd h List.not_mem_nil⟩⟩⟩⟩⟩⟩⟩⟩⟩⟩⟩⟩⟩⟩⟩⟩
theorem lw_p16 : lw_okq (⟨"BeadRingsModel", "readsRule", "()I"⟩, 45) := ⟨⟨by decide +kernel, by decide +kernel⟩, List.mem_of_getElem? (i := 1089) (by decide +kernel), List.mem_of_getElem? (i := 1247) (by decide +kernel), List.mem_of_getElem? (i := 1248) (by decide +kernel)⟩
theorem lw_p17 : lw_okq (⟨"BeadRingsModel", "begins", "(I)I"⟩, 45) := ⟨⟨by decide +kernel, by decide +kernel⟩, List.mem_of_getElem? (i := 1089) (by decide +kernel), List.mem_of_getElem? (i := 1251) (by decide +kernel), List.mem_of_getElem? (i := 1252) (by decide +kernel)⟩
theorem lw_p18 : lw_okq (⟨"BeadRingsModel", "readsRank", "(I)Z"⟩, 45) := ⟨⟨by decide +kernel, by decide +kernel⟩, List.mem_of_getElem? (i := 1089) (by decide +kernel), List.mem_of_getElem? (i := 1256) (by decide +kernel), List.mem_of_getElem? (i := 1257) (by decide +kernel)⟩
theorem lw_p19 : lw_okq (⟨"BeadRingsModel", "readsThing", "()Z"⟩, 45) := ⟨⟨by decide +kernel, by decide +kernel⟩, List.mem_of_getElem? (i := 1089) (by decide +kernel), List.mem_of_getElem? (i := 1260) (by decide +kernel), List.mem_of_getElem? (i := 1261) (by decide +kernel)⟩
theorem lw_p20 : lw_okq (⟨"BeadRingsModel", "takes", "(I)Z"⟩, 45) := ⟨⟨by decide +kernel, by decide +kernel⟩, List.mem_of_getElem? (i := 1089) (by decide +kernel), List.mem_of_getElem? (i := 1264) (by decide +kernel), List.mem_of_getElem? (i := 1265) (by decide +kernel)⟩
theorem lw_p21 : lw_okq (⟨"BeadRingsModel", "codes", "(I)V"⟩, 45) := ⟨⟨by decide +kernel, by decide +kernel⟩, List.mem_of_getElem? (i := 1089) (by decide +kernel), List.mem_of_getElem? (i := 1271) (by decide +kernel), List.mem_of_getElem? (i := 1272) (by decide +kernel)⟩
theorem lw_p22 : lw_okq (⟨"BeadRingsModel", "isDigit", "()Z"⟩, 45) := ⟨⟨by decide +kernel, by decide +kernel⟩, List.mem_of_getElem? (i := 1089) (by decide +kernel), List.mem_of_getElem? (i := 1275) (by decide +kernel), List.mem_of_getElem? (i := 1276) (by decide +kernel)⟩
theorem lw_p23 : lw_okq (⟨"BeadRingsModel", "number", "(I)I"⟩, 45) := ⟨⟨by decide +kernel, by decide +kernel⟩, List.mem_of_getElem? (i := 1089) (by decide +kernel), List.mem_of_getElem? (i := 1281) (by decide +kernel), List.mem_of_getElem? (i := 1282) (by decide +kernel)⟩
theorem lw_p24 : lw_okq (⟨"BeadRingsModel", "takesOf", "(Ljava/lang/String;)I"⟩, 45) := ⟨⟨by decide +kernel, by decide +kernel⟩, List.mem_of_getElem? (i := 1089) (by decide +kernel), List.mem_of_getElem? (i := 1286) (by decide +kernel), List.mem_of_getElem? (i := 1287) (by decide +kernel)⟩
theorem lw_p25 : lw_okq (⟨"BeadRingsModel", "faultOf", "(IIZ)I"⟩, 45) := ⟨⟨by decide +kernel, by decide +kernel⟩, List.mem_of_getElem? (i := 1089) (by decide +kernel), List.mem_of_getElem? (i := 1295) (by decide +kernel), List.mem_of_getElem? (i := 1296) (by decide +kernel)⟩
theorem lw_p26 : lw_okq (⟨"BeadRingsModel", "laysCode", "([II)V"⟩, 45) := ⟨⟨by decide +kernel, by decide +kernel⟩, List.mem_of_getElem? (i := 1089) (by decide +kernel), List.mem_of_getElem? (i := 1299) (by decide +kernel), List.mem_of_getElem? (i := 1300) (by decide +kernel)⟩
theorem lw_p27 : lw_okq (⟨"BeadRingsModel", "isRing", "(I)Z"⟩, 45) := ⟨⟨by decide +kernel, by decide +kernel⟩, List.mem_of_getElem? (i := 1089) (by decide +kernel), List.mem_of_getElem? (i := 1307) (by decide +kernel), List.mem_of_getElem? (i := 1308) (by decide +kernel)⟩
theorem lw_p28 : lw_okq (⟨"BeadRingsModel", "refuse", "()I"⟩, 45) := ⟨⟨by decide +kernel, by decide +kernel⟩, List.mem_of_getElem? (i := 1089) (by decide +kernel), List.mem_of_getElem? (i := 1312) (by decide +kernel), List.mem_of_getElem? (i := 1313) (by decide +kernel)⟩
theorem lw_p29 : lw_okq (⟨"BeadRingsModel", "looksAt", "([II)V"⟩, 45) := ⟨⟨by decide +kernel, by decide +kernel⟩, List.mem_of_getElem? (i := 1089) (by decide +kernel), List.mem_of_getElem? (i := 1316) (by decide +kernel), List.mem_of_getElem? (i := 1317) (by decide +kernel)⟩
theorem lw_p30 : lw_okq (⟨"BeadRingsModel", "coloursOf", "()I"⟩, 45) := ⟨⟨by decide +kernel, by decide +kernel⟩, List.mem_of_getElem? (i := 1089) (by decide +kernel), List.mem_of_getElem? (i := 1323) (by decide +kernel), List.mem_of_getElem? (i := 1324) (by decide +kernel)⟩
theorem lw_p31 : lw_okq (⟨"BeadRingsModel", "ofLook", "(I)I"⟩, 45) := ⟨⟨by decide +kernel, by decide +kernel⟩, List.mem_of_getElem? (i := 1089) (by decide +kernel), List.mem_of_getElem? (i := 1327) (by decide +kernel), List.mem_of_getElem? (i := 1328) (by decide +kernel)⟩
def lw_privs_2 : List (MethodName × Nat) := [(⟨"BeadRingsModel", "readsRule", "()I"⟩, 45), (⟨"BeadRingsModel", "begins", "(I)I"⟩, 45), (⟨"BeadRingsModel", "readsRank", "(I)Z"⟩, 45), (⟨"BeadRingsModel", "readsThing", "()Z"⟩, 45), (⟨"BeadRingsModel", "takes", "(I)Z"⟩, 45), (⟨"BeadRingsModel", "codes", "(I)V"⟩, 45), (⟨"BeadRingsModel", "isDigit", "()Z"⟩, 45), (⟨"BeadRingsModel", "number", "(I)I"⟩, 45), (⟨"BeadRingsModel", "takesOf", "(Ljava/lang/String;)I"⟩, 45), (⟨"BeadRingsModel", "faultOf", "(IIZ)I"⟩, 45), (⟨"BeadRingsModel", "laysCode", "([II)V"⟩, 45), (⟨"BeadRingsModel", "isRing", "(I)Z"⟩, 45), (⟨"BeadRingsModel", "refuse", "()I"⟩, 45), (⟨"BeadRingsModel", "looksAt", "([II)V"⟩, 45), (⟨"BeadRingsModel", "coloursOf", "()I"⟩, 45), (⟨"BeadRingsModel", "ofLook", "(I)I"⟩, 45)]
theorem lw_r2 : ∀ q ∈ lw_privs_2, lw_okq q := List.forall_mem_cons.mpr ⟨lw_p16, List.forall_mem_cons.mpr ⟨lw_p17, List.forall_mem_cons.mpr ⟨lw_p18, List.forall_mem_cons.mpr ⟨lw_p19, List.forall_mem_cons.mpr ⟨lw_p20, List.forall_mem_cons.mpr ⟨lw_p21, List.forall_mem_cons.mpr ⟨lw_p22, List.forall_mem_cons.mpr ⟨lw_p23, List.forall_mem_cons.mpr ⟨lw_p24, List.forall_mem_cons.mpr ⟨lw_p25, List.forall_mem_cons.mpr ⟨lw_p26, List.forall_mem_cons.mpr ⟨lw_p27, List.forall_mem_cons.mpr ⟨lw_p28, List.forall_mem_cons.mpr ⟨lw_p29, List.forall_mem_cons.mpr ⟨lw_p30, List.forall_mem_cons.mpr ⟨lw_p31, fun _ h => absurd h List.not_mem_nil⟩⟩⟩⟩⟩⟩⟩⟩⟩⟩⟩⟩⟩⟩⟩⟩
theorem lw_p32 : lw_okq (⟨"BeadRingsModel", "period", "()I"⟩, 45) := ⟨⟨by decide +kernel, by decide +kernel⟩, List.mem_of_getElem? (i := 1089) (by decide +kernel), List.mem_of_getElem? (i := 1331) (by decide +kernel), List.mem_of_getElem? (i := 1332) (by decide +kernel)⟩
theorem lw_p33 : lw_okq (⟨"BeadRingsModel", "compares", "(II)I"⟩, 45) := ⟨⟨by decide +kernel, by decide +kernel⟩, List.mem_of_getElem? (i := 1089) (by decide +kernel), List.mem_of_getElem? (i := 1335) (by decide +kernel), List.mem_of_getElem? (i := 1336) (by decide +kernel)⟩
theorem lw_p34 : lw_okq (⟨"BeadRingsModel", "mirrors", "()I"⟩, 45) := ⟨⟨by decide +kernel, by decide +kernel⟩, List.mem_of_getElem? (i := 1089) (by decide +kernel), List.mem_of_getElem? (i := 1342) (by decide +kernel), List.mem_of_getElem? (i := 1343) (by decide +kernel)⟩
theorem lw_p35 : lw_okq (⟨"BeadRingsModel", "price", "([II)I"⟩, 45) := ⟨⟨by decide +kernel, by decide +kernel⟩, List.mem_of_getElem? (i := 1089) (by decide +kernel), List.mem_of_getElem? (i := 1346) (by decide +kernel), List.mem_of_getElem? (i := 1347) (by decide +kernel)⟩
theorem lw_p36 : lw_okq (⟨"BeadRingsModel", "priceOfLook", "([II)I"⟩, 45) := ⟨⟨by decide +kernel, by decide +kernel⟩, List.mem_of_getElem? (i := 1089) (by decide +kernel), List.mem_of_getElem? (i := 1350) (by decide +kernel), List.mem_of_getElem? (i := 1351) (by decide +kernel)⟩
theorem lw_p37 : lw_okq (⟨"BeadRingsModel", "mostOfOne", "()I"⟩, 45) := ⟨⟨by decide +kernel, by decide +kernel⟩, List.mem_of_getElem? (i := 1089) (by decide +kernel), List.mem_of_getElem? (i := 1355) (by decide +kernel), List.mem_of_getElem? (i := 1356) (by decide +kernel)⟩
theorem lw_p38 : lw_okq (⟨"BeadRingsModel", "alikeMany", "([II)I"⟩, 45) := ⟨⟨by decide +kernel, by decide +kernel⟩, List.mem_of_getElem? (i := 1089) (by decide +kernel), List.mem_of_getElem? (i := 1360) (by decide +kernel), List.mem_of_getElem? (i := 1361) (by decide +kernel)⟩
theorem lw_p39 : lw_okq (⟨"BeadRingsModel", "isAlike", "([II)Z"⟩, 45) := ⟨⟨by decide +kernel, by decide +kernel⟩, List.mem_of_getElem? (i := 1089) (by decide +kernel), List.mem_of_getElem? (i := 1364) (by decide +kernel), List.mem_of_getElem? (i := 1365) (by decide +kernel)⟩
theorem lw_p40 : lw_okq (⟨"BeadRingsModel", "offBy", "([III)I"⟩, 45) := ⟨⟨by decide +kernel, by decide +kernel⟩, List.mem_of_getElem? (i := 1089) (by decide +kernel), List.mem_of_getElem? (i := 1368) (by decide +kernel), List.mem_of_getElem? (i := 1369) (by decide +kernel)⟩
theorem lw_p41 : lw_okq (⟨"BeadRingsModel", "ruled", "()I"⟩, 45) := ⟨⟨by decide +kernel, by decide +kernel⟩, List.mem_of_getElem? (i := 1089) (by decide +kernel), List.mem_of_getElem? (i := 1372) (by decide +kernel), List.mem_of_getElem? (i := 1373) (by decide +kernel)⟩
theorem lw_p42 : lw_okq (⟨"BeadRingsModel", "readsWord", "()I"⟩, 45) := ⟨⟨by decide +kernel, by decide +kernel⟩, List.mem_of_getElem? (i := 1089) (by decide +kernel), List.mem_of_getElem? (i := 1403) (by decide +kernel), List.mem_of_getElem? (i := 1404) (by decide +kernel)⟩
theorem lw_p43 : lw_okq (⟨"BeadRingsModel", "ofWord", "(I)I"⟩, 45) := ⟨⟨by decide +kernel, by decide +kernel⟩, List.mem_of_getElem? (i := 1089) (by decide +kernel), List.mem_of_getElem? (i := 1408) (by decide +kernel), List.mem_of_getElem? (i := 1409) (by decide +kernel)⟩
theorem lw_p44 : lw_okq (⟨"BeadRingsModel", "putsBy", "()V"⟩, 45) := ⟨⟨by decide +kernel, by decide +kernel⟩, List.mem_of_getElem? (i := 1089) (by decide +kernel), List.mem_of_getElem? (i := 1412) (by decide +kernel), List.mem_of_getElem? (i := 1413) (by decide +kernel)⟩
theorem lw_p45 : lw_okq (⟨"BeadRingsModel", "adds", "(I)I"⟩, 45) := ⟨⟨by decide +kernel, by decide +kernel⟩, List.mem_of_getElem? (i := 1089) (by decide +kernel), List.mem_of_getElem? (i := 1419) (by decide +kernel), List.mem_of_getElem? (i := 1420) (by decide +kernel)⟩
theorem lw_p46 : lw_okq (⟨"BeadRingsModel", "rollsOne", "([III)I"⟩, 45) := ⟨⟨by decide +kernel, by decide +kernel⟩, List.mem_of_getElem? (i := 1089) (by decide +kernel), List.mem_of_getElem? (i := 1427) (by decide +kernel), List.mem_of_getElem? (i := 1428) (by decide +kernel)⟩
theorem lw_p47 : lw_okq (⟨"BeadRingsModel", "turnsOne", "([III)V"⟩, 45) := ⟨⟨by decide +kernel, by decide +kernel⟩, List.mem_of_getElem? (i := 1089) (by decide +kernel), List.mem_of_getElem? (i := 1435) (by decide +kernel), List.mem_of_getElem? (i := 1436) (by decide +kernel)⟩
def lw_privs_3 : List (MethodName × Nat) := [(⟨"BeadRingsModel", "period", "()I"⟩, 45), (⟨"BeadRingsModel", "compares", "(II)I"⟩, 45), (⟨"BeadRingsModel", "mirrors", "()I"⟩, 45), (⟨"BeadRingsModel", "price", "([II)I"⟩, 45), (⟨"BeadRingsModel", "priceOfLook", "([II)I"⟩, 45), (⟨"BeadRingsModel", "mostOfOne", "()I"⟩, 45), (⟨"BeadRingsModel", "alikeMany", "([II)I"⟩, 45), (⟨"BeadRingsModel", "isAlike", "([II)Z"⟩, 45), (⟨"BeadRingsModel", "offBy", "([III)I"⟩, 45), (⟨"BeadRingsModel", "ruled", "()I"⟩, 45), (⟨"BeadRingsModel", "readsWord", "()I"⟩, 45), (⟨"BeadRingsModel", "ofWord", "(I)I"⟩, 45), (⟨"BeadRingsModel", "putsBy", "()V"⟩, 45), (⟨"BeadRingsModel", "adds", "(I)I"⟩, 45), (⟨"BeadRingsModel", "rollsOne", "([III)I"⟩, 45), (⟨"BeadRingsModel", "turnsOne", "([III)V"⟩, 45)]
theorem lw_r3 : ∀ q ∈ lw_privs_3, lw_okq q := List.forall_mem_cons.mpr ⟨lw_p32, List.forall_mem_cons.mpr ⟨lw_p33, List.forall_mem_cons.mpr ⟨lw_p34, List.forall_mem_cons.mpr ⟨lw_p35, List.forall_mem_cons.mpr ⟨lw_p36, List.forall_mem_cons.mpr ⟨lw_p37, List.forall_mem_cons.mpr ⟨lw_p38, List.forall_mem_cons.mpr ⟨lw_p39, List.forall_mem_cons.mpr ⟨lw_p40, List.forall_mem_cons.mpr ⟨lw_p41, List.forall_mem_cons.mpr ⟨lw_p42, List.forall_mem_cons.mpr ⟨lw_p43, List.forall_mem_cons.mpr ⟨lw_p44, List.forall_mem_cons.mpr ⟨lw_p45, List.forall_mem_cons.mpr ⟨lw_p46, List.forall_mem_cons.mpr ⟨lw_p47, fun _ h => absurd h List.not_mem_nil⟩⟩⟩⟩⟩⟩⟩⟩⟩⟩⟩⟩⟩⟩⟩⟩
theorem lw_p48 : lw_okq (⟨"BeadRingsModel", "counted", "(I)I"⟩, 45) := ⟨⟨by decide +kernel, by decide +kernel⟩, List.mem_of_getElem? (i := 1089) (by decide +kernel), List.mem_of_getElem? (i := 1439) (by decide +kernel), List.mem_of_getElem? (i := 1440) (by decide +kernel)⟩
theorem lw_p49 : lw_okq (⟨"BeadRingsModel", "flipsOne", "([II)I"⟩, 45) := ⟨⟨by decide +kernel, by decide +kernel⟩, List.mem_of_getElem? (i := 1089) (by decide +kernel), List.mem_of_getElem? (i := 1447) (by decide +kernel), List.mem_of_getElem? (i := 1448) (by decide +kernel)⟩
theorem lw_p50 : lw_okq (⟨"BeadRingsModel", "swapsOne", "([III)I"⟩, 45) := ⟨⟨by decide +kernel, by decide +kernel⟩, List.mem_of_getElem? (i := 1089) (by decide +kernel), List.mem_of_getElem? (i := 1455) (by decide +kernel), List.mem_of_getElem? (i := 1456) (by decide +kernel)⟩
theorem lw_p51 : lw_okq (⟨"BeadRingsModel", "threadsOne", "([IIII)I"⟩, 45) := ⟨⟨by decide +kernel, by decide +kernel⟩, List.mem_of_getElem? (i := 1089) (by decide +kernel), List.mem_of_getElem? (i := 1463) (by decide +kernel), List.mem_of_getElem? (i := 1464) (by decide +kernel)⟩
theorem lw_p52 : lw_okq (⟨"BeadRingsModel", "cutsOne", "([III)I"⟩, 45) := ⟨⟨by decide +kernel, by decide +kernel⟩, List.mem_of_getElem? (i := 1089) (by decide +kernel), List.mem_of_getElem? (i := 1471) (by decide +kernel), List.mem_of_getElem? (i := 1472) (by decide +kernel)⟩
theorem lw_p53 : lw_okq (⟨"BeadRingsModel", "joinsOne", "([III)I"⟩, 45) := ⟨⟨by decide +kernel, by decide +kernel⟩, List.mem_of_getElem? (i := 1089) (by decide +kernel), List.mem_of_getElem? (i := 1482) (by decide +kernel), List.mem_of_getElem? (i := 1483) (by decide +kernel)⟩
theorem lw_p54 : lw_okq (⟨"BeadRingsModel", "partsOne", "([II)I"⟩, 45) := ⟨⟨by decide +kernel, by decide +kernel⟩, List.mem_of_getElem? (i := 1089) (by decide +kernel), List.mem_of_getElem? (i := 1493) (by decide +kernel), List.mem_of_getElem? (i := 1494) (by decide +kernel)⟩
theorem lw_p55 : lw_okq (⟨"BeadRingsModel", "sellsOne", "([II)I"⟩, 45) := ⟨⟨by decide +kernel, by decide +kernel⟩, List.mem_of_getElem? (i := 1089) (by decide +kernel), List.mem_of_getElem? (i := 1501) (by decide +kernel), List.mem_of_getElem? (i := 1502) (by decide +kernel)⟩
theorem lw_p56 : lw_okq (⟨"BeadRingsModel", "buysOne", "([III)I"⟩, 45) := ⟨⟨by decide +kernel, by decide +kernel⟩, List.mem_of_getElem? (i := 1089) (by decide +kernel), List.mem_of_getElem? (i := 1509) (by decide +kernel), List.mem_of_getElem? (i := 1510) (by decide +kernel)⟩
theorem lw_p57 : lw_okq (⟨"BeadRingsModel", "readsAct", "()Z"⟩, 45) := ⟨⟨by decide +kernel, by decide +kernel⟩, List.mem_of_getElem? (i := 1089) (by decide +kernel), List.mem_of_getElem? (i := 1518) (by decide +kernel), List.mem_of_getElem? (i := 1519) (by decide +kernel)⟩
theorem lw_p58 : lw_okq (⟨"BeadRingsModel", "digitIn", "(II)I"⟩, 45) := ⟨⟨by decide +kernel, by decide +kernel⟩, List.mem_of_getElem? (i := 1089) (by decide +kernel), List.mem_of_getElem? (i := 1523) (by decide +kernel), List.mem_of_getElem? (i := 1524) (by decide +kernel)⟩
theorem lw_p59 : lw_okq (⟨"BeadRingsModel", "does", "(I)Z"⟩, 45) := ⟨⟨by decide +kernel, by decide +kernel⟩, List.mem_of_getElem? (i := 1089) (by decide +kernel), List.mem_of_getElem? (i := 1527) (by decide +kernel), List.mem_of_getElem? (i := 1528) (by decide +kernel)⟩
theorem lw_p60 : lw_okq (⟨"BeadRingsModel", "enters", "(J)V"⟩, 45) := ⟨⟨by decide +kernel, by decide +kernel⟩, List.mem_of_getElem? (i := 1089) (by decide +kernel), List.mem_of_getElem? (i := 1531) (by decide +kernel), List.mem_of_getElem? (i := 1532) (by decide +kernel)⟩
theorem lw_p61 : lw_okq (⟨"BeadRingsModel", "entersLeast", "()V"⟩, 45) := ⟨⟨by decide +kernel, by decide +kernel⟩, List.mem_of_getElem? (i := 1089) (by decide +kernel), List.mem_of_getElem? (i := 1539) (by decide +kernel), List.mem_of_getElem? (i := 1540) (by decide +kernel)⟩
theorem lw_p62 : lw_okq (⟨"BeadRingsModel", "leastTurning", "()I"⟩, 45) := ⟨⟨by decide +kernel, by decide +kernel⟩, List.mem_of_getElem? (i := 1089) (by decide +kernel), List.mem_of_getElem? (i := 1543) (by decide +kernel), List.mem_of_getElem? (i := 1544) (by decide +kernel)⟩
theorem lw_p63 : lw_okq (⟨"BeadRingsModel", "kindsOf", "([I)I"⟩, 45) := ⟨⟨by decide +kernel, by decide +kernel⟩, List.mem_of_getElem? (i := 1089) (by decide +kernel), List.mem_of_getElem? (i := 1558) (by decide +kernel), List.mem_of_getElem? (i := 1559) (by decide +kernel)⟩
def lw_privs_4 : List (MethodName × Nat) := [(⟨"BeadRingsModel", "counted", "(I)I"⟩, 45), (⟨"BeadRingsModel", "flipsOne", "([II)I"⟩, 45), (⟨"BeadRingsModel", "swapsOne", "([III)I"⟩, 45), (⟨"BeadRingsModel", "threadsOne", "([IIII)I"⟩, 45), (⟨"BeadRingsModel", "cutsOne", "([III)I"⟩, 45), (⟨"BeadRingsModel", "joinsOne", "([III)I"⟩, 45), (⟨"BeadRingsModel", "partsOne", "([II)I"⟩, 45), (⟨"BeadRingsModel", "sellsOne", "([II)I"⟩, 45), (⟨"BeadRingsModel", "buysOne", "([III)I"⟩, 45), (⟨"BeadRingsModel", "readsAct", "()Z"⟩, 45), (⟨"BeadRingsModel", "digitIn", "(II)I"⟩, 45), (⟨"BeadRingsModel", "does", "(I)Z"⟩, 45), (⟨"BeadRingsModel", "enters", "(J)V"⟩, 45), (⟨"BeadRingsModel", "entersLeast", "()V"⟩, 45), (⟨"BeadRingsModel", "leastTurning", "()I"⟩, 45), (⟨"BeadRingsModel", "kindsOf", "([I)I"⟩, 45)]
theorem lw_r4 : ∀ q ∈ lw_privs_4, lw_okq q := List.forall_mem_cons.mpr ⟨lw_p48, List.forall_mem_cons.mpr ⟨lw_p49, List.forall_mem_cons.mpr ⟨lw_p50, List.forall_mem_cons.mpr ⟨lw_p51, List.forall_mem_cons.mpr ⟨lw_p52, List.forall_mem_cons.mpr ⟨lw_p53, List.forall_mem_cons.mpr ⟨lw_p54, List.forall_mem_cons.mpr ⟨lw_p55, List.forall_mem_cons.mpr ⟨lw_p56, List.forall_mem_cons.mpr ⟨lw_p57, List.forall_mem_cons.mpr ⟨lw_p58, List.forall_mem_cons.mpr ⟨lw_p59, List.forall_mem_cons.mpr ⟨lw_p60, List.forall_mem_cons.mpr ⟨lw_p61, List.forall_mem_cons.mpr ⟨lw_p62, List.forall_mem_cons.mpr ⟨lw_p63, fun _ h => absurd h List.not_mem_nil⟩⟩⟩⟩⟩⟩⟩⟩⟩⟩⟩⟩⟩⟩⟩⟩
theorem lw_p64 : lw_okq (⟨"BeadRingsModel", "firstAlike", "([II)I"⟩, 45) := ⟨⟨by decide +kernel, by decide +kernel⟩, List.mem_of_getElem? (i := 1089) (by decide +kernel), List.mem_of_getElem? (i := 1562) (by decide +kernel), List.mem_of_getElem? (i := 1563) (by decide +kernel)⟩
theorem lw_p65 : lw_okq (⟨"BeadRingsModel", "isWord", "(III)Z"⟩, 45) := ⟨⟨by decide +kernel, by decide +kernel⟩, List.mem_of_getElem? (i := 1089) (by decide +kernel), List.mem_of_getElem? (i := 1578) (by decide +kernel), List.mem_of_getElem? (i := 1579) (by decide +kernel)⟩
theorem lw_p66 : lw_okq (⟨"BeadRingsModel", "isSame", "(II)Z"⟩, 45) := ⟨⟨by decide +kernel, by decide +kernel⟩, List.mem_of_getElem? (i := 1089) (by decide +kernel), List.mem_of_getElem? (i := 1590) (by decide +kernel), List.mem_of_getElem? (i := 1591) (by decide +kernel)⟩
theorem lw_p67 : lw_okq (⟨"BeadRingsModel", "goesInto", "(I)Z"⟩, 45) := ⟨⟨by decide +kernel, by decide +kernel⟩, List.mem_of_getElem? (i := 1089) (by decide +kernel), List.mem_of_getElem? (i := 1616) (by decide +kernel), List.mem_of_getElem? (i := 1617) (by decide +kernel)⟩
theorem lw_p68 : lw_okq (⟨"BeadRingsModel", "rowsOf", "(III)J"⟩, 45) := ⟨⟨by decide +kernel, by decide +kernel⟩, List.mem_of_getElem? (i := 1089) (by decide +kernel), List.mem_of_getElem? (i := 1620) (by decide +kernel), List.mem_of_getElem? (i := 1621) (by decide +kernel)⟩
theorem lw_p69 : lw_okq (⟨"BeadRingsModel", "flippedRows", "(IZ)J"⟩, 45) := ⟨⟨by decide +kernel, by decide +kernel⟩, List.mem_of_getElem? (i := 1089) (by decide +kernel), List.mem_of_getElem? (i := 1624) (by decide +kernel), List.mem_of_getElem? (i := 1625) (by decide +kernel)⟩
theorem lw_p70 : lw_okq (⟨"BeadRingsModel", "oddOnes", "()I"⟩, 45) := ⟨⟨by decide +kernel, by decide +kernel⟩, List.mem_of_getElem? (i := 1089) (by decide +kernel), List.mem_of_getElem? (i := 1628) (by decide +kernel), List.mem_of_getElem? (i := 1629) (by decide +kernel)⟩
theorem lw_p71 : lw_okq (⟨"BeadRingsModel", "laysLook", "(III)V"⟩, 45) := ⟨⟨by decide +kernel, by decide +kernel⟩, List.mem_of_getElem? (i := 1089) (by decide +kernel), List.mem_of_getElem? (i := 1639) (by decide +kernel), List.mem_of_getElem? (i := 1640) (by decide +kernel)⟩
theorem lw_p72 : lw_okq (⟨"BeadRingsModel", "isLeast", "()Z"⟩, 45) := ⟨⟨by decide +kernel, by decide +kernel⟩, List.mem_of_getElem? (i := 1089) (by decide +kernel), List.mem_of_getElem? (i := 1643) (by decide +kernel), List.mem_of_getElem? (i := 1644) (by decide +kernel)⟩
theorem lw_p73 : lw_okq (⟨"BeadRingsModel", "entersLook", "()V"⟩, 45) := ⟨⟨by decide +kernel, by decide +kernel⟩, List.mem_of_getElem? (i := 1089) (by decide +kernel), List.mem_of_getElem? (i := 1647) (by decide +kernel), List.mem_of_getElem? (i := 1648) (by decide +kernel)⟩
theorem lw_p74 : lw_okq (⟨"BeadRingsModel", "laysRank", "(I)V"⟩, 45) := ⟨⟨by decide +kernel, by decide +kernel⟩, List.mem_of_getElem? (i := 1089) (by decide +kernel), List.mem_of_getElem? (i := 1655) (by decide +kernel), List.mem_of_getElem? (i := 1656) (by decide +kernel)⟩
theorem lw_p75 : lw_okq (⟨"BeadRingsModel", "laysAround", "(IIII)Z"⟩, 45) := ⟨⟨by decide +kernel, by decide +kernel⟩, List.mem_of_getElem? (i := 1089) (by decide +kernel), List.mem_of_getElem? (i := 1671) (by decide +kernel), List.mem_of_getElem? (i := 1672) (by decide +kernel)⟩
theorem lw_p76 : lw_okq (⟨"BeadRingsModel", "wasThere", "(IIII)Z"⟩, 45) := ⟨⟨by decide +kernel, by decide +kernel⟩, List.mem_of_getElem? (i := 1089) (by decide +kernel), List.mem_of_getElem? (i := 1675) (by decide +kernel), List.mem_of_getElem? (i := 1676) (by decide +kernel)⟩
theorem lw_p77 : lw_okq (⟨"BeadRingsModel", "wordAt", "(IIII)I"⟩, 45) := ⟨⟨by decide +kernel, by decide +kernel⟩, List.mem_of_getElem? (i := 1089) (by decide +kernel), List.mem_of_getElem? (i := 1679) (by decide +kernel), List.mem_of_getElem? (i := 1680) (by decide +kernel)⟩
theorem lw_p78 : lw_okq (⟨"BeadRingsModel", "isOnce", "(III)Z"⟩, 45) := ⟨⟨by decide +kernel, by decide +kernel⟩, List.mem_of_getElem? (i := 1089) (by decide +kernel), List.mem_of_getElem? (i := 1683) (by decide +kernel), List.mem_of_getElem? (i := 1684) (by decide +kernel)⟩
theorem lw_p79 : lw_okq (⟨"BeadRingsModel", "isInStock", "()Z"⟩, 45) := ⟨⟨by decide +kernel, by decide +kernel⟩, List.mem_of_getElem? (i := 1089) (by decide +kernel), List.mem_of_getElem? (i := 1691) (by decide +kernel), List.mem_of_getElem? (i := 1692) (by decide +kernel)⟩
def lw_privs_5 : List (MethodName × Nat) := [(⟨"BeadRingsModel", "firstAlike", "([II)I"⟩, 45), (⟨"BeadRingsModel", "isWord", "(III)Z"⟩, 45), (⟨"BeadRingsModel", "isSame", "(II)Z"⟩, 45), (⟨"BeadRingsModel", "goesInto", "(I)Z"⟩, 45), (⟨"BeadRingsModel", "rowsOf", "(III)J"⟩, 45), (⟨"BeadRingsModel", "flippedRows", "(IZ)J"⟩, 45), (⟨"BeadRingsModel", "oddOnes", "()I"⟩, 45), (⟨"BeadRingsModel", "laysLook", "(III)V"⟩, 45), (⟨"BeadRingsModel", "isLeast", "()Z"⟩, 45), (⟨"BeadRingsModel", "entersLook", "()V"⟩, 45), (⟨"BeadRingsModel", "laysRank", "(I)V"⟩, 45), (⟨"BeadRingsModel", "laysAround", "(IIII)Z"⟩, 45), (⟨"BeadRingsModel", "wasThere", "(IIII)Z"⟩, 45), (⟨"BeadRingsModel", "wordAt", "(IIII)I"⟩, 45), (⟨"BeadRingsModel", "isOnce", "(III)Z"⟩, 45), (⟨"BeadRingsModel", "isInStock", "()Z"⟩, 45)]
theorem lw_r5 : ∀ q ∈ lw_privs_5, lw_okq q := List.forall_mem_cons.mpr ⟨lw_p64, List.forall_mem_cons.mpr ⟨lw_p65, List.forall_mem_cons.mpr ⟨lw_p66, List.forall_mem_cons.mpr ⟨lw_p67, List.forall_mem_cons.mpr ⟨lw_p68, List.forall_mem_cons.mpr ⟨lw_p69, List.forall_mem_cons.mpr ⟨lw_p70, List.forall_mem_cons.mpr ⟨lw_p71, List.forall_mem_cons.mpr ⟨lw_p72, List.forall_mem_cons.mpr ⟨lw_p73, List.forall_mem_cons.mpr ⟨lw_p74, List.forall_mem_cons.mpr ⟨lw_p75, List.forall_mem_cons.mpr ⟨lw_p76, List.forall_mem_cons.mpr ⟨lw_p77, List.forall_mem_cons.mpr ⟨lw_p78, List.forall_mem_cons.mpr ⟨lw_p79, fun _ h => absurd h List.not_mem_nil⟩⟩⟩⟩⟩⟩⟩⟩⟩⟩⟩⟩⟩⟩⟩⟩
theorem lw_p80 : lw_okq (⟨"BeadRingsModel", "entersFraction", "(JJ)I"⟩, 45) := ⟨⟨by decide +kernel, by decide +kernel⟩, List.mem_of_getElem? (i := 1089) (by decide +kernel), List.mem_of_getElem? (i := 1704) (by decide +kernel), List.mem_of_getElem? (i := 1705) (by decide +kernel)⟩
theorem lw_p81 : lw_okq (⟨"BeadRingsModel", "clasps", "()I"⟩, 45) := ⟨⟨by decide +kernel, by decide +kernel⟩, List.mem_of_getElem? (i := 1089) (by decide +kernel), List.mem_of_getElem? (i := 1720) (by decide +kernel), List.mem_of_getElem? (i := 1721) (by decide +kernel)⟩
theorem lw_p82 : lw_okq (⟨"BeadRingsModel", "fitting", "()I"⟩, 45) := ⟨⟨by decide +kernel, by decide +kernel⟩, List.mem_of_getElem? (i := 1089) (by decide +kernel), List.mem_of_getElem? (i := 1750) (by decide +kernel), List.mem_of_getElem? (i := 1751) (by decide +kernel)⟩
theorem lw_p83 : lw_okq (⟨"BeadRingsModel", "isSo", "(II)Z"⟩, 45) := ⟨⟨by decide +kernel, by decide +kernel⟩, List.mem_of_getElem? (i := 1089) (by decide +kernel), List.mem_of_getElem? (i := 1754) (by decide +kernel), List.mem_of_getElem? (i := 1755) (by decide +kernel)⟩
theorem lw_p84 : lw_okq (⟨"BeadRingsModel", "laysWorth", "()V"⟩, 45) := ⟨⟨by decide +kernel, by decide +kernel⟩, List.mem_of_getElem? (i := 1089) (by decide +kernel), List.mem_of_getElem? (i := 1767) (by decide +kernel), List.mem_of_getElem? (i := 1768) (by decide +kernel)⟩
theorem lw_p85 : lw_okq (⟨"BeadRingsModel", "prices", "()I"⟩, 45) := ⟨⟨by decide +kernel, by decide +kernel⟩, List.mem_of_getElem? (i := 1089) (by decide +kernel), List.mem_of_getElem? (i := 1775) (by decide +kernel), List.mem_of_getElem? (i := 1776) (by decide +kernel)⟩
theorem lw_p86 : lw_okq (⟨"BeadRingsModel", "draws", "(I)I"⟩, 45) := ⟨⟨by decide +kernel, by decide +kernel⟩, List.mem_of_getElem? (i := 1089) (by decide +kernel), List.mem_of_getElem? (i := 1795) (by decide +kernel), List.mem_of_getElem? (i := 1796) (by decide +kernel)⟩
theorem lw_p87 : lw_okq (⟨"BeadRingsModel", "drawnDay", "(I)V"⟩, 45) := ⟨⟨by decide +kernel, by decide +kernel⟩, List.mem_of_getElem? (i := 1089) (by decide +kernel), List.mem_of_getElem? (i := 1800) (by decide +kernel), List.mem_of_getElem? (i := 1801) (by decide +kernel)⟩
def lw_privs_6 : List (MethodName × Nat) := [(⟨"BeadRingsModel", "entersFraction", "(JJ)I"⟩, 45), (⟨"BeadRingsModel", "clasps", "()I"⟩, 45), (⟨"BeadRingsModel", "fitting", "()I"⟩, 45), (⟨"BeadRingsModel", "isSo", "(II)Z"⟩, 45), (⟨"BeadRingsModel", "laysWorth", "()V"⟩, 45), (⟨"BeadRingsModel", "prices", "()I"⟩, 45), (⟨"BeadRingsModel", "draws", "(I)I"⟩, 45), (⟨"BeadRingsModel", "drawnDay", "(I)V"⟩, 45)]
theorem lw_r6 : ∀ q ∈ lw_privs_6, lw_okq q := List.forall_mem_cons.mpr ⟨lw_p80, List.forall_mem_cons.mpr ⟨lw_p81, List.forall_mem_cons.mpr ⟨lw_p82, List.forall_mem_cons.mpr ⟨lw_p83, List.forall_mem_cons.mpr ⟨lw_p84, List.forall_mem_cons.mpr ⟨lw_p85, List.forall_mem_cons.mpr ⟨lw_p86, List.forall_mem_cons.mpr ⟨lw_p87, fun _ h => absurd h List.not_mem_nil⟩⟩⟩⟩⟩⟩⟩⟩
def lw_privs : List (MethodName × Nat) := lw_privs_1 ++ (lw_privs_2 ++ (lw_privs_3 ++ (lw_privs_4 ++ (lw_privs_5 ++ (lw_privs_6)))))
def lw_tbl : List Cond := k2_sels lw_privs ++ tables_1
theorem lw_privs_ok : ∀ q ∈ lw_privs, lw_okq q := by
  show ∀ q ∈ lw_privs_1 ++ (lw_privs_2 ++ (lw_privs_3 ++ (lw_privs_4 ++ (lw_privs_5 ++ (lw_privs_6))))), lw_okq q
  exact List.forall_mem_append.mpr ⟨lw_r1, List.forall_mem_append.mpr ⟨lw_r2, List.forall_mem_append.mpr ⟨lw_r3, List.forall_mem_append.mpr ⟨lw_r4, List.forall_mem_append.mpr ⟨lw_r5, lw_r6⟩⟩⟩⟩⟩
end
section
def RX0 : String := "BeadRings$Beads"
def TX0 : u_T := fun k => match k with
  | _ => ("", "", "", false)
def tyX0 : Nat → FieldType := fun k => match k with
  | _ => .int
abbrev wsX00 : List Cond := u_ws RX0 TX0 0
theorem nmX0 : ∀ a, a < 0 → ∀ b, b < 0 → a ≠ b → (TX0 a).2.1 ≠ (TX0 b).2.1 := by decide +kernel
theorem tyX0_ok : ∀ k, k < 0 → parseFieldDescriptor (TX0 k).2.2.1 = some (tyX0 k) := by decide +kernel
abbrev cX0_isNoColour : ByteArray := prog_2_method_2_code
def yX0_isNoColour : MethodName := ⟨RX0, "isNoColour", "(I)Z"⟩
abbrev cX0_mask : ByteArray := prog_2_method_3_code
def yX0_mask : MethodName := ⟨RX0, "mask", "(I)I"⟩
abbrev cX0_colourAt : ByteArray := prog_2_method_4_code
def yX0_colourAt : MethodName := ⟨RX0, "colourAt", "(III)I"⟩
abbrev cX0_withColour : ByteArray := prog_2_method_5_code
def yX0_withColour : MethodName := ⟨RX0, "withColour", "(IIII)I"⟩
abbrev cX0_rolled : ByteArray := prog_2_method_6_code
def yX0_rolled : MethodName := ⟨RX0, "rolled", "(III)I"⟩
abbrev cX0_flipped : ByteArray := prog_2_method_7_code
def yX0_flipped : MethodName := ⟨RX0, "flipped", "(II)I"⟩
abbrev cX0_turned : ByteArray := prog_2_method_8_code
def yX0_turned : MethodName := ⟨RX0, "turned", "(III)I"⟩
abbrev cX0_turningName : ByteArray := prog_2_method_9_code
def yX0_turningName : MethodName := ⟨RX0, "turningName", "(II)I"⟩
abbrev cX0_leastRow : ByteArray := prog_2_method_10_code
def yX0_leastRow : MethodName := ⟨RX0, "leastRow", "(II)I"⟩
abbrev cX0_isLessFlipped : ByteArray := prog_2_method_11_code
def yX0_isLessFlipped : MethodName := ⟨RX0, "isLessFlipped", "(II)Z"⟩
abbrev cX0_firstTurning : ByteArray := prog_2_method_12_code
def yX0_firstTurning : MethodName := ⟨RX0, "firstTurning", "(III)I"⟩
abbrev cX0_period : ByteArray := prog_2_method_13_code
def yX0_period : MethodName := ⟨RX0, "period", "(II)I"⟩
abbrev cX0_mirrors : ByteArray := prog_2_method_14_code
def yX0_mirrors : MethodName := ⟨RX0, "mirrors", "(II)I"⟩
abbrev cX0_stays : ByteArray := prog_2_method_15_code
def yX0_stays : MethodName := ⟨RX0, "stays", "(II)I"⟩
abbrev cX0_numberOf : ByteArray := prog_2_method_16_code
def yX0_numberOf : MethodName := ⟨RX0, "numberOf", "(III)I"⟩
abbrev cX0_colourBits : ByteArray := prog_2_method_17_code
def yX0_colourBits : MethodName := ⟨RX0, "colourBits", "(II)I"⟩
abbrev cX0_greatestColour : ByteArray := prog_2_method_18_code
def yX0_greatestColour : MethodName := ⟨RX0, "greatestColour", "(II)I"⟩
abbrev cX0_tallyInto : ByteArray := prog_2_method_19_code
def yX0_tallyInto : MethodName := ⟨RX0, "tallyInto", "([III)V"⟩
abbrev cX0_mostOfOne : ByteArray := prog_2_method_20_code
def yX0_mostOfOne : MethodName := ⟨RX0, "mostOfOne", "(II)I"⟩
abbrev cX0_apart : ByteArray := prog_2_method_21_code
def yX0_apart : MethodName := ⟨RX0, "apart", "(II)I"⟩
abbrev cX0_wordAt : ByteArray := prog_2_method_22_code
def yX0_wordAt : MethodName := ⟨RX0, "wordAt", "(IIII)I"⟩
abbrev cX0_placesOf : ByteArray := prog_2_method_23_code
def yX0_placesOf : MethodName := ⟨RX0, "placesOf", "(IIII)I"⟩
def RX1 : String := "BeadRings$Clues"
def TX1 : u_T := fun k => match k with
  | 0 => ("BeadRings$Clues", "firsts", "[I", true)
  | 1 => ("BeadRings$Clues", "seconds", "[I", true)
  | _ => ("BeadRings$Clues", "size", "I", false)
def tyX1 : Nat → FieldType := fun k => match k with
  | 0 => .array .int
  | 1 => .array .int
  | _ => .int
abbrev wsX10 : List Cond := u_ws RX1 TX1 3
theorem nmX1 : ∀ a, a < 3 → ∀ b, b < 3 → a ≠ b → (TX1 a).2.1 ≠ (TX1 b).2.1 := by decide +kernel
theorem tyX1_ok : ∀ k, k < 3 → parseFieldDescriptor (TX1 k).2.2.1 = some (tyX1 k) := by decide +kernel
abbrev cX1_init : ByteArray := prog_3_method_1_code
def yX1_init : MethodName := ⟨RX1, "<init>", "(I)V"⟩
abbrev cX1_add : ByteArray := prog_3_method_2_code
def yX1_add : MethodName := ⟨RX1, "add", "(II)I"⟩
abbrev cX1_empty : ByteArray := prog_3_method_3_code
def yX1_empty : MethodName := ⟨RX1, "empty", "()I"⟩
abbrev cX1_canBeFelt : ByteArray := prog_3_method_4_code
def yX1_canBeFelt : MethodName := ⟨RX1, "canBeFelt", "(II)Z"⟩
abbrev cX1_rollsLeft : ByteArray := prog_3_method_5_code
def yX1_rollsLeft : MethodName := ⟨RX1, "rollsLeft", "(II)I"⟩
abbrev cX1_isAllFelt : ByteArray := prog_3_method_6_code
def yX1_isAllFelt : MethodName := ⟨RX1, "isAllFelt", "(II)Z"⟩
abbrev cX1_mostLeft : ByteArray := prog_3_method_7_code
def yX1_mostLeft : MethodName := ⟨RX1, "mostLeft", "(IIII)I"⟩
abbrev cX1_canBeHeard : ByteArray := prog_3_method_8_code
def yX1_canBeHeard : MethodName := ⟨RX1, "canBeHeard", "(II)Z"⟩
abbrev cX1_fitting : ByteArray := prog_3_method_9_code
def yX1_fitting : MethodName := ⟨RX1, "fitting", "(LBeadRings$Stall;)I"⟩
abbrev cX1_suiting : ByteArray := prog_3_method_10_code
def yX1_suiting : MethodName := ⟨RX1, "suiting", "(LBeadRings$Stall;II)I"⟩
abbrev cX1_isSo : ByteArray := prog_3_method_11_code
def yX1_isSo : MethodName := ⟨RX1, "isSo", "(IIII)Z"⟩
def RX2 : String := "BeadRings$Counts"
def TX2 : u_T := fun k => match k with
  | _ => ("", "", "", false)
def tyX2 : Nat → FieldType := fun k => match k with
  | _ => .int
abbrev wsX20 : List Cond := u_ws RX2 TX2 0
theorem nmX2 : ∀ a, a < 0 → ∀ b, b < 0 → a ≠ b → (TX2 a).2.1 ≠ (TX2 b).2.1 := by decide +kernel
theorem tyX2_ok : ∀ k, k < 0 → parseFieldDescriptor (TX2 k).2.2.1 = some (tyX2 k) := by decide +kernel
abbrev cX2_power : ByteArray := prog_4_method_2_code
def yX2_power : MethodName := ⟨RX2, "power", "(II)I"⟩
abbrev cX2_commonDivisor : ByteArray := prog_4_method_3_code
def yX2_commonDivisor : MethodName := ⟨RX2, "commonDivisor", "(II)I"⟩
abbrev cX2_beadsThatStay : ByteArray := prog_4_method_4_code
def yX2_beadsThatStay : MethodName := ⟨RX2, "beadsThatStay", "(II)I"⟩
abbrev cX2_keptByRolls : ByteArray := prog_4_method_5_code
def yX2_keptByRolls : MethodName := ⟨RX2, "keptByRolls", "(II)I"⟩
abbrev cX2_keptByFlips : ByteArray := prog_4_method_6_code
def yX2_keptByFlips : MethodName := ⟨RX2, "keptByFlips", "(II)I"⟩
abbrev cX2_rowsThatNoRollKeeps : ByteArray := prog_4_method_7_code
def yX2_rowsThatNoRollKeeps : MethodName := ⟨RX2, "rowsThatNoRollKeeps", "(II)I"⟩
abbrev cX2_toldKeptByRolls : ByteArray := prog_4_method_8_code
def yX2_toldKeptByRolls : MethodName := ⟨RX2, "toldKeptByRolls", "([II)I"⟩
abbrev cX2_toldKeptByFlips : ByteArray := prog_4_method_9_code
def yX2_toldKeptByFlips : MethodName := ⟨RX2, "toldKeptByFlips", "([II)I"⟩
abbrev cX2_pairedRows : ByteArray := prog_4_method_10_code
def yX2_pairedRows : MethodName := ⟨RX2, "pairedRows", "([II)I"⟩
abbrev cX2_rowsOf : ByteArray := prog_4_method_11_code
def yX2_rowsOf : MethodName := ⟨RX2, "rowsOf", "([II)I"⟩
abbrev cX2_factorial : ByteArray := prog_4_method_12_code
def yX2_factorial : MethodName := ⟨RX2, "factorial", "(I)I"⟩
def RX3 : String := "BeadRings$Day"
def TX3 : u_T := fun k => match k with
  | _ => ("", "", "", false)
def tyX3 : Nat → FieldType := fun k => match k with
  | _ => .int
abbrev wsX30 : List Cond := u_ws RX3 TX3 0
theorem nmX3 : ∀ a, a < 0 → ∀ b, b < 0 → a ≠ b → (TX3 a).2.1 ≠ (TX3 b).2.1 := by decide +kernel
theorem tyX3_ok : ∀ k, k < 0 → parseFieldDescriptor (TX3 k).2.2.1 = some (tyX3 k) := by decide +kernel
abbrev cX3_fault : ByteArray := prog_5_method_2_code
def yX3_fault : MethodName := ⟨RX3, "fault", "(LBeadRings$Text;)I"⟩
abbrev cX3_form : ByteArray := prog_5_method_3_code
def yX3_form : MethodName := ⟨RX3, "form", "(C)Ljava/lang/String;"⟩
abbrev cX3_suits : ByteArray := prog_5_method_4_code
def yX3_suits : MethodName := ⟨RX3, "suits", "(CC)Z"⟩
abbrev cX3_told : ByteArray := prog_5_method_5_code
def yX3_told : MethodName := ⟨RX3, "told", "(C)I"⟩
abbrev cX3_act : ByteArray := prog_5_method_6_code
def yX3_act : MethodName := ⟨RX3, "act", "(LBeadRings$Text;ILBeadRings$Stall;LBeadRings$Rule;)I"⟩
def RX4 : String := "BeadRings$KindLists"
def TX4 : u_T := fun k => match k with
  | 0 => ("BeadRings$KindLists", "rows", "[I", true)
  | 1 => ("BeadRings$KindLists", "isListed", "[Z", true)
  | _ => ("BeadRings$KindLists", "filled", "I", false)
def tyX4 : Nat → FieldType := fun k => match k with
  | 0 => .array .int
  | 1 => .array .boolean
  | _ => .int
abbrev wsX40 : List Cond := u_ws RX4 TX4 3
theorem nmX4 : ∀ a, a < 3 → ∀ b, b < 3 → a ≠ b → (TX4 a).2.1 ≠ (TX4 b).2.1 := by decide +kernel
theorem tyX4_ok : ∀ k, k < 3 → parseFieldDescriptor (TX4 k).2.2.1 = some (tyX4 k) := by decide +kernel
abbrev cX4_init : ByteArray := prog_6_method_1_code
def yX4_init : MethodName := ⟨RX4, "<init>", "()V"⟩
abbrev cX4_lacks : ByteArray := prog_6_method_2_code
def yX4_lacks : MethodName := ⟨RX4, "lacks", "(I)Z"⟩
abbrev cX4_number : ByteArray := prog_6_method_3_code
def yX4_number : MethodName := ⟨RX4, "number", "(I)I"⟩
abbrev cX4_kind : ByteArray := prog_6_method_4_code
def yX4_kind : MethodName := ⟨RX4, "kind", "(II)I"⟩
abbrev cX4_grow : ByteArray := prog_6_method_5_code
def yX4_grow : MethodName := ⟨RX4, "grow", "(IIII)V"⟩
abbrev cX4_kindAt : ByteArray := prog_6_method_6_code
def yX4_kindAt : MethodName := ⟨RX4, "kindAt", "(III)I"⟩
abbrev cX4_kindsAhead : ByteArray := prog_6_method_7_code
def yX4_kindsAhead : MethodName := ⟨RX4, "kindsAhead", "(II)I"⟩
abbrev cX4_kindBehind : ByteArray := prog_6_method_8_code
def yX4_kindBehind : MethodName := ⟨RX4, "kindBehind", "(II)I"⟩
def RX5 : String := "BeadRings$Past"
def TX5 : u_T := fun k => match k with
  | 0 => ("BeadRings$Past", "slots", "[LBeadRings$Stall;", true)
  | 1 => ("BeadRings$Past", "kept", "[LBeadRings$Stall;", true)
  | 2 => ("BeadRings$Past", "isKept", "[Z", true)
  | 3 => ("BeadRings$Past", "marked", "I", false)
  | _ => ("BeadRings$Past", "number", "I", false)
def tyX5 : Nat → FieldType := fun k => match k with
  | 0 => .array (.object "BeadRings$Stall")
  | 1 => .array (.object "BeadRings$Stall")
  | 2 => .array .boolean
  | 3 => .int
  | _ => .int
abbrev wsX50 : List Cond := u_ws RX5 TX5 5
theorem nmX5 : ∀ a, a < 5 → ∀ b, b < 5 → a ≠ b → (TX5 a).2.1 ≠ (TX5 b).2.1 := by decide +kernel
theorem tyX5_ok : ∀ k, k < 5 → parseFieldDescriptor (TX5 k).2.2.1 = some (tyX5 k) := by decide +kernel
abbrev cX5_init : ByteArray := prog_7_method_1_code
def yX5_init : MethodName := ⟨RX5, "<init>", "()V"⟩
abbrev cX5_mark : ByteArray := prog_7_method_2_code
def yX5_mark : MethodName := ⟨RX5, "mark", "(LBeadRings$Stall;)V"⟩
abbrev cX5_settle : ByteArray := prog_7_method_3_code
def yX5_settle : MethodName := ⟨RX5, "settle", "(I)I"⟩
abbrev cX5_bringBack : ByteArray := prog_7_method_4_code
def yX5_bringBack : MethodName := ⟨RX5, "bringBack", "(LBeadRings$Stall;)I"⟩
abbrev cX5_keepUnder : ByteArray := prog_7_method_5_code
def yX5_keepUnder : MethodName := ⟨RX5, "keepUnder", "(ILBeadRings$Stall;)Z"⟩
abbrev cX5_takeKept : ByteArray := prog_7_method_6_code
def yX5_takeKept : MethodName := ⟨RX5, "takeKept", "(ILBeadRings$Stall;)Z"⟩
def RX6 : String := "BeadRings$Rule"
def TX6 : u_T := fun k => match k with
  | 0 => ("BeadRings$Rule", "steps", "[I", true)
  | 1 => ("BeadRings$Rule", "stack", "[I", true)
  | 2 => ("BeadRings$Rule", "waiting", "[C", true)
  | 3 => ("BeadRings$Rule", "stepNumber", "I", false)
  | 4 => ("BeadRings$Rule", "waitingNumber", "I", false)
  | 5 => ("BeadRings$Rule", "depth", "I", false)
  | 6 => ("BeadRings$Rule", "digits", "I", false)
  | 7 => ("BeadRings$Rule", "comparedDepths", "I", false)
  | _ => ("BeadRings$Rule", "wantsThing", "Z", false)
def tyX6 : Nat → FieldType := fun k => match k with
  | 0 => .array .int
  | 1 => .array .int
  | 2 => .array .char
  | 3 => .int
  | 4 => .int
  | 5 => .int
  | 6 => .int
  | 7 => .int
  | _ => .boolean
abbrev wsX60 : List Cond := u_ws RX6 TX6 9
theorem nmX6 : ∀ a, a < 9 → ∀ b, b < 9 → a ≠ b → (TX6 a).2.1 ≠ (TX6 b).2.1 := by decide +kernel
theorem tyX6_ok : ∀ k, k < 9 → parseFieldDescriptor (TX6 k).2.2.1 = some (tyX6 k) := by decide +kernel
abbrev cX6_init : ByteArray := prog_8_method_1_code
def yX6_init : MethodName := ⟨RX6, "<init>", "()V"⟩
abbrev cX6_read : ByteArray := prog_8_method_2_code
def yX6_read : MethodName := ⟨RX6, "read", "(LBeadRings$Text;)I"⟩
abbrev cX6_takes : ByteArray := prog_8_method_3_code
def yX6_takes : MethodName := ⟨RX6, "takes", "(C)Z"⟩
abbrev cX6_takesDigit : ByteArray := prog_8_method_4_code
def yX6_takesDigit : MethodName := ⟨RX6, "takesDigit", "(I)Z"⟩
abbrev cX6_takesThing : ByteArray := prog_8_method_5_code
def yX6_takesThing : MethodName := ⟨RX6, "takesThing", "(C)Z"⟩
abbrev cX6_takesOperator : ByteArray := prog_8_method_6_code
def yX6_takesOperator : MethodName := ⟨RX6, "takesOperator", "(C)Z"⟩
abbrev cX6_settleDownTo : ByteArray := prog_8_method_7_code
def yX6_settleDownTo : MethodName := ⟨RX6, "settleDownTo", "(I)V"⟩
abbrev cX6_addStep : ByteArray := prog_8_method_8_code
def yX6_addStep : MethodName := ⟨RX6, "addStep", "(I)V"⟩
abbrev cX6_addWaiting : ByteArray := prog_8_method_9_code
def yX6_addWaiting : MethodName := ⟨RX6, "addWaiting", "(C)V"⟩
abbrev cX6_binding : ByteArray := prog_8_method_10_code
def yX6_binding : MethodName := ⟨RX6, "binding", "(C)I"⟩
abbrev cX6_isTrait : ByteArray := prog_8_method_11_code
def yX6_isTrait : MethodName := ⟨RX6, "isTrait", "(I)Z"⟩
abbrev cX6_price : ByteArray := prog_8_method_12_code
def yX6_price : MethodName := ⟨RX6, "price", "(III)I"⟩
abbrev cX6_trait : ByteArray := prog_8_method_13_code
def yX6_trait : MethodName := ⟨RX6, "trait", "(IIII)I"⟩
abbrev cX6_joined : ByteArray := prog_8_method_14_code
def yX6_joined : MethodName := ⟨RX6, "joined", "(III)I"⟩
def RX7 : String := "BeadRings$Stall"
def TX7 : u_T := fun k => match k with
  | 0 => ("BeadRings$Stall", "rows", "[I", true)
  | 1 => ("BeadRings$Stall", "sizes", "[I", true)
  | 2 => ("BeadRings$Stall", "stocked", "[I", true)
  | 3 => ("BeadRings$Stall", "number", "I", false)
  | _ => ("BeadRings$Stall", "purse", "I", false)
def tyX7 : Nat → FieldType := fun k => match k with
  | 0 => .array .int
  | 1 => .array .int
  | 2 => .array .int
  | 3 => .int
  | _ => .int
abbrev wsX70 : List Cond := u_ws RX7 TX7 5
theorem nmX7 : ∀ a, a < 5 → ∀ b, b < 5 → a ≠ b → (TX7 a).2.1 ≠ (TX7 b).2.1 := by decide +kernel
theorem tyX7_ok : ∀ k, k < 5 → parseFieldDescriptor (TX7 k).2.2.1 = some (tyX7 k) := by decide +kernel
abbrev cX7_init : ByteArray := prog_9_method_1_code
def yX7_init : MethodName := ⟨RX7, "<init>", "()V"⟩
abbrev cX7_copyFrom : ByteArray := prog_9_method_2_code
def yX7_copyFrom : MethodName := ⟨RX7, "copyFrom", "(LBeadRings$Stall;)V"⟩
abbrev cX7_lacks : ByteArray := prog_9_method_3_code
def yX7_lacks : MethodName := ⟨RX7, "lacks", "(I)Z"⟩
abbrev cX7_lacksBead : ByteArray := prog_9_method_4_code
def yX7_lacksBead : MethodName := ⟨RX7, "lacksBead", "(II)Z"⟩
abbrev cX7_hasBeadsFor : ByteArray := prog_9_method_5_code
def yX7_hasBeadsFor : MethodName := ⟨RX7, "hasBeadsFor", "(II)Z"⟩
abbrev cX7_putBack : ByteArray := prog_9_method_6_code
def yX7_putBack : MethodName := ⟨RX7, "putBack", "(II)V"⟩
abbrev cX7_stockFrom : ByteArray := prog_9_method_7_code
def yX7_stockFrom : MethodName := ⟨RX7, "stockFrom", "(IIII)V"⟩
abbrev cX7_string : ByteArray := prog_9_method_8_code
def yX7_string : MethodName := ⟨RX7, "string", "(II)I"⟩
abbrev cX7_roll : ByteArray := prog_9_method_9_code
def yX7_roll : MethodName := ⟨RX7, "roll", "(II)I"⟩
abbrev cX7_flip : ByteArray := prog_9_method_10_code
def yX7_flip : MethodName := ⟨RX7, "flip", "(I)I"⟩
abbrev cX7_swap : ByteArray := prog_9_method_11_code
def yX7_swap : MethodName := ⟨RX7, "swap", "(II)I"⟩
abbrev cX7_thread : ByteArray := prog_9_method_12_code
def yX7_thread : MethodName := ⟨RX7, "thread", "(III)I"⟩
abbrev cX7_cut : ByteArray := prog_9_method_13_code
def yX7_cut : MethodName := ⟨RX7, "cut", "(II)I"⟩
abbrev cX7_join : ByteArray := prog_9_method_14_code
def yX7_join : MethodName := ⟨RX7, "join", "(II)I"⟩
abbrev cX7_part : ByteArray := prog_9_method_15_code
def yX7_part : MethodName := ⟨RX7, "part", "(I)I"⟩
abbrev cX7_sell : ByteArray := prog_9_method_16_code
def yX7_sell : MethodName := ⟨RX7, "sell", "(ILBeadRings$Rule;)I"⟩
abbrev cX7_buy : ByteArray := prog_9_method_17_code
def yX7_buy : MethodName := ⟨RX7, "buy", "(II)I"⟩
abbrev cX7_drop : ByteArray := prog_9_method_18_code
def yX7_drop : MethodName := ⟨RX7, "drop", "(I)V"⟩
abbrev cX7_leastRow : ByteArray := prog_9_method_19_code
def yX7_leastRow : MethodName := ⟨RX7, "leastRow", "(I)I"⟩
abbrev cX7_othersAlike : ByteArray := prog_9_method_20_code
def yX7_othersAlike : MethodName := ⟨RX7, "othersAlike", "(I)I"⟩
abbrev cX7_firstAlike : ByteArray := prog_9_method_21_code
def yX7_firstAlike : MethodName := ⟨RX7, "firstAlike", "(I)I"⟩
abbrev cX7_kindNumber : ByteArray := prog_9_method_22_code
def yX7_kindNumber : MethodName := ⟨RX7, "kindNumber", "()I"⟩
abbrev cX7_priceOf : ByteArray := prog_9_method_23_code
def yX7_priceOf : MethodName := ⟨RX7, "priceOf", "(ILBeadRings$Rule;)I"⟩
abbrev cX7_pricesOfAll : ByteArray := prog_9_method_24_code
def yX7_pricesOfAll : MethodName := ⟨RX7, "pricesOfAll", "(LBeadRings$Rule;)I"⟩
abbrev cX7_beadsOfAll : ByteArray := prog_9_method_25_code
def yX7_beadsOfAll : MethodName := ⟨RX7, "beadsOfAll", "()I"⟩
abbrev cX7_stockOfAll : ByteArray := prog_9_method_26_code
def yX7_stockOfAll : MethodName := ⟨RX7, "stockOfAll", "()I"⟩
def RX8 : String := "BeadRings$Text"
def TX8 : u_T := fun k => match k with
  | 0 => ("BeadRings$Text", "signs", "[C", true)
  | 1 => ("BeadRings$Text", "length", "I", false)
  | 2 => ("BeadRings$Text", "word", "I", false)
  | _ => ("BeadRings$Text", "wordSize", "I", false)
def tyX8 : Nat → FieldType := fun k => match k with
  | 0 => .array .char
  | 1 => .int
  | 2 => .int
  | _ => .int
abbrev wsX80 : List Cond := u_ws RX8 TX8 4
theorem nmX8 : ∀ a, a < 4 → ∀ b, b < 4 → a ≠ b → (TX8 a).2.1 ≠ (TX8 b).2.1 := by decide +kernel
theorem tyX8_ok : ∀ k, k < 4 → parseFieldDescriptor (TX8 k).2.2.1 = some (tyX8 k) := by decide +kernel
abbrev cX8_init : ByteArray := prog_10_method_1_code
def yX8_init : MethodName := ⟨RX8, "<init>", "()V"⟩
abbrev cX8_size : ByteArray := prog_10_method_2_code
def yX8_size : MethodName := ⟨RX8, "size", "()I"⟩
abbrev cX8_signAt : ByteArray := prog_10_method_3_code
def yX8_signAt : MethodName := ⟨RX8, "signAt", "(I)C"⟩
abbrev cX8_append : ByteArray := prog_10_method_4_code
def yX8_append : MethodName := ⟨RX8, "append", "(I)I"⟩
abbrev cX8_shorten : ByteArray := prog_10_method_5_code
def yX8_shorten : MethodName := ⟨RX8, "shorten", "(I)Z"⟩
abbrev cX8_empty : ByteArray := prog_10_method_6_code
def yX8_empty : MethodName := ⟨RX8, "empty", "()V"⟩
abbrev cX8_takeWord : ByteArray := prog_10_method_7_code
def yX8_takeWord : MethodName := ⟨RX8, "takeWord", "()I"⟩
def RX9 : String := "BeadRings$Told"
def TX9 : u_T := fun k => match k with
  | 0 => ("BeadRings$Told", "numbers", "[I", true)
  | _ => ("BeadRings$Told", "size", "I", false)
def tyX9 : Nat → FieldType := fun k => match k with
  | 0 => .array .int
  | _ => .int
abbrev wsX90 : List Cond := u_ws RX9 TX9 2
theorem nmX9 : ∀ a, a < 2 → ∀ b, b < 2 → a ≠ b → (TX9 a).2.1 ≠ (TX9 b).2.1 := by decide +kernel
theorem tyX9_ok : ∀ k, k < 2 → parseFieldDescriptor (TX9 k).2.2.1 = some (tyX9 k) := by decide +kernel
abbrev cX9_init : ByteArray := prog_11_method_1_code
def yX9_init : MethodName := ⟨RX9, "<init>", "()V"⟩
abbrev cX9_begin : ByteArray := prog_11_method_2_code
def yX9_begin : MethodName := ⟨RX9, "begin", "()V"⟩
abbrev cX9_add : ByteArray := prog_11_method_3_code
def yX9_add : MethodName := ⟨RX9, "add", "(I)V"⟩
abbrev cX9_addRow : ByteArray := prog_11_method_4_code
def yX9_addRow : MethodName := ⟨RX9, "addRow", "(II)V"⟩
def RX10 : String := "BeadRings"
def TX10 : u_T := fun k => match k with
  | 0 => ("BeadRings", "stall", "LBeadRings$Stall;", true)
  | 1 => ("BeadRings", "drawnStall", "LBeadRings$Stall;", true)
  | 2 => ("BeadRings", "past", "LBeadRings$Past;", true)
  | 3 => ("BeadRings", "text", "LBeadRings$Text;", true)
  | 4 => ("BeadRings", "told", "LBeadRings$Told;", true)
  | 5 => ("BeadRings", "lists", "LBeadRings$KindLists;", true)
  | 6 => ("BeadRings", "feltBeads", "LBeadRings$Clues;", true)
  | 7 => ("BeadRings", "hearsay", "LBeadRings$Clues;", true)
  | 8 => ("BeadRings", "tally", "[I", true)
  | 9 => ("BeadRings", "leastRows", "[I", true)
  | 10 => ("BeadRings", "inForce", "LBeadRings$Rule;", false)
  | 11 => ("BeadRings", "draft", "LBeadRings$Rule;", false)
  | _ => ("BeadRings", "drawn", "I", false)
def tyX10 : Nat → FieldType := fun k => match k with
  | 0 => .object "BeadRings$Stall"
  | 1 => .object "BeadRings$Stall"
  | 2 => .object "BeadRings$Past"
  | 3 => .object "BeadRings$Text"
  | 4 => .object "BeadRings$Told"
  | 5 => .object "BeadRings$KindLists"
  | 6 => .object "BeadRings$Clues"
  | 7 => .object "BeadRings$Clues"
  | 8 => .array .int
  | 9 => .array .int
  | 10 => .object "BeadRings$Rule"
  | 11 => .object "BeadRings$Rule"
  | _ => .int
abbrev wsX100 : List Cond := u_ws RX10 TX10 13
theorem nmX10 : ∀ a, a < 13 → ∀ b, b < 13 → a ≠ b → (TX10 a).2.1 ≠ (TX10 b).2.1 := by decide +kernel
theorem tyX10_ok : ∀ k, k < 13 → parseFieldDescriptor (TX10 k).2.2.1 = some (tyX10 k) := by decide +kernel
abbrev cX10_init : ByteArray := prog_1_method_1_code
def yX10_init : MethodName := ⟨RX10, "<init>", "()V"⟩
abbrev cX10_sign : ByteArray := prog_1_method_2_code
def yX10_sign : MethodName := ⟨RX10, "sign", "(I)I"⟩
abbrev cX10_end : ByteArray := prog_1_method_3_code
def yX10_end : MethodName := ⟨RX10, "end", "(I)Z"⟩
abbrev cX10_strings : ByteArray := prog_1_method_4_code
def yX10_strings : MethodName := ⟨RX10, "strings", "()I"⟩
abbrev cX10_rule : ByteArray := prog_1_method_5_code
def yX10_rule : MethodName := ⟨RX10, "rule", "()I"⟩
abbrev cX10_bracelet : ByteArray := prog_1_method_6_code
def yX10_bracelet : MethodName := ⟨RX10, "bracelet", "(II)I"⟩
abbrev cX10_bead : ByteArray := prog_1_method_7_code
def yX10_bead : MethodName := ⟨RX10, "bead", "(II)I"⟩
abbrev cX10_stock : ByteArray := prog_1_method_8_code
def yX10_stock : MethodName := ⟨RX10, "stock", "(I)I"⟩
abbrev cX10_sheet : ByteArray := prog_1_method_9_code
def yX10_sheet : MethodName := ⟨RX10, "sheet", "(IIII)I"⟩
abbrev cX10_rolls : ByteArray := prog_1_method_10_code
def yX10_rolls : MethodName := ⟨RX10, "rolls", "(II)I"⟩
abbrev cX10_flips : ByteArray := prog_1_method_11_code
def yX10_flips : MethodName := ⟨RX10, "flips", "(I)I"⟩
abbrev cX10_swaps : ByteArray := prog_1_method_12_code
def yX10_swaps : MethodName := ⟨RX10, "swaps", "(II)I"⟩
abbrev cX10_threads : ByteArray := prog_1_method_13_code
def yX10_threads : MethodName := ⟨RX10, "threads", "(III)I"⟩
abbrev cX10_cuts : ByteArray := prog_1_method_14_code
def yX10_cuts : MethodName := ⟨RX10, "cuts", "(II)I"⟩
abbrev cX10_joins : ByteArray := prog_1_method_15_code
def yX10_joins : MethodName := ⟨RX10, "joins", "(II)I"⟩
abbrev cX10_parts : ByteArray := prog_1_method_16_code
def yX10_parts : MethodName := ⟨RX10, "parts", "(I)I"⟩
abbrev cX10_sells : ByteArray := prog_1_method_17_code
def yX10_sells : MethodName := ⟨RX10, "sells", "(I)I"⟩
abbrev cX10_buys : ByteArray := prog_1_method_18_code
def yX10_buys : MethodName := ⟨RX10, "buys", "(II)I"⟩
abbrev cX10_day : ByteArray := prog_1_method_19_code
def yX10_day : MethodName := ⟨RX10, "day", "()I"⟩
abbrev cX10_undo : ByteArray := prog_1_method_20_code
def yX10_undo : MethodName := ⟨RX10, "undo", "()I"⟩
abbrev cX10_least : ByteArray := prog_1_method_21_code
def yX10_least : MethodName := ⟨RX10, "least", "(I)I"⟩
abbrev cX10_alike : ByteArray := prog_1_method_22_code
def yX10_alike : MethodName := ⟨RX10, "alike", "(II)I"⟩
abbrev cX10_kinds : ByteArray := prog_1_method_23_code
def yX10_kinds : MethodName := ⟨RX10, "kinds", "()I"⟩
abbrev cX10_far : ByteArray := prog_1_method_24_code
def yX10_far : MethodName := ⟨RX10, "far", "(II)I"⟩
abbrev cX10_finds : ByteArray := prog_1_method_25_code
def yX10_finds : MethodName := ⟨RX10, "finds", "(I)I"⟩
abbrev cX10_words : ByteArray := prog_1_method_26_code
def yX10_words : MethodName := ⟨RX10, "words", "(II)I"⟩
abbrev cX10_twice : ByteArray := prog_1_method_27_code
def yX10_twice : MethodName := ⟨RX10, "twice", "(I)I"⟩
abbrev cX10_arc : ByteArray := prog_1_method_28_code
def yX10_arc : MethodName := ⟨RX10, "arc", "(I)I"⟩
abbrev cX10_many : ByteArray := prog_1_method_29_code
def yX10_many : MethodName := ⟨RX10, "many", "(II)I"⟩
abbrev cX10_ways : ByteArray := prog_1_method_30_code
def yX10_ways : MethodName := ⟨RX10, "ways", "()I"⟩
abbrev cX10_nth : ByteArray := prog_1_method_31_code
def yX10_nth : MethodName := ⟨RX10, "nth", "(III)I"⟩
abbrev cX10_rank : ByteArray := prog_1_method_32_code
def yX10_rank : MethodName := ⟨RX10, "rank", "(I)I"⟩
abbrev cX10_next : ByteArray := prog_1_method_33_code
def yX10_next : MethodName := ⟨RX10, "next", "(I)I"⟩
abbrev cX10_once : ByteArray := prog_1_method_34_code
def yX10_once : MethodName := ⟨RX10, "once", "(II)I"⟩
abbrev cX10_made : ByteArray := prog_1_method_35_code
def yX10_made : MethodName := ⟨RX10, "made", "(I)I"⟩
abbrev cX10_dear : ByteArray := prog_1_method_36_code
def yX10_dear : MethodName := ⟨RX10, "dear", "(I)I"⟩
abbrev cX10_odds : ByteArray := prog_1_method_37_code
def yX10_odds : MethodName := ⟨RX10, "odds", "(I)I"⟩
abbrev cX10_felt : ByteArray := prog_1_method_38_code
def yX10_felt : MethodName := ⟨RX10, "felt", "(II)I"⟩
abbrev cX10_forget : ByteArray := prog_1_method_39_code
def yX10_forget : MethodName := ⟨RX10, "forget", "()I"⟩
abbrev cX10_guess : ByteArray := prog_1_method_40_code
def yX10_guess : MethodName := ⟨RX10, "guess", "(I)I"⟩
abbrev cX10_feels : ByteArray := prog_1_method_41_code
def yX10_feels : MethodName := ⟨RX10, "feels", "(I)I"⟩
abbrev cX10_heard : ByteArray := prog_1_method_42_code
def yX10_heard : MethodName := ⟨RX10, "heard", "(II)I"⟩
abbrev cX10_denies : ByteArray := prog_1_method_43_code
def yX10_denies : MethodName := ⟨RX10, "denies", "()I"⟩
abbrev cX10_fits : ByteArray := prog_1_method_44_code
def yX10_fits : MethodName := ⟨RX10, "fits", "()I"⟩
abbrev cX10_asks : ByteArray := prog_1_method_45_code
def yX10_asks : MethodName := ⟨RX10, "asks", "()I"⟩
abbrev cX10_ring : ByteArray := prog_1_method_46_code
def yX10_ring : MethodName := ⟨RX10, "ring", "(I)I"⟩
abbrev cX10_law : ByteArray := prog_1_method_47_code
def yX10_law : MethodName := ⟨RX10, "law", "()I"⟩
abbrev cX10_bargains : ByteArray := prog_1_method_48_code
def yX10_bargains : MethodName := ⟨RX10, "bargains", "(I)I"⟩
abbrev cX10_years : ByteArray := prog_1_method_49_code
def yX10_years : MethodName := ⟨RX10, "years", "(II)I"⟩
abbrev cX10_keep : ByteArray := prog_1_method_50_code
def yX10_keep : MethodName := ⟨RX10, "keep", "(I)Z"⟩
abbrev cX10_again : ByteArray := prog_1_method_51_code
def yX10_again : MethodName := ⟨RX10, "again", "(I)Z"⟩
abbrev cX10_count : ByteArray := prog_1_method_52_code
def yX10_count : MethodName := ⟨RX10, "count", "(I)I"⟩
abbrev cX10_row : ByteArray := prog_1_method_53_code
def yX10_row : MethodName := ⟨RX10, "row", "(I)J"⟩
abbrev cX10_addOnce : ByteArray := prog_1_method_54_code
def yX10_addOnce : MethodName := ⟨RX10, "addOnce", "(IIIII)V"⟩
abbrev cX10_noteLeastRows : ByteArray := prog_1_method_55_code
def yX10_noteLeastRows : MethodName := ⟨RX10, "noteLeastRows", "(I)V"⟩
abbrev cX10_numberNoted : ByteArray := prog_1_method_56_code
def yX10_numberNoted : MethodName := ⟨RX10, "numberNoted", "(I)I"⟩
abbrev cX10_hasNoBetter : ByteArray := prog_1_method_57_code
def yX10_hasNoBetter : MethodName := ⟨RX10, "hasNoBetter", "(III)Z"⟩
abbrev cX10_share : ByteArray := prog_1_method_58_code
def yX10_share : MethodName := ⟨RX10, "share", "(III)I"⟩
abbrev cX10_passYear : ByteArray := prog_1_method_59_code
def yX10_passYear : MethodName := ⟨RX10, "passYear", "()V"⟩
abbrev cX10_draw : ByteArray := prog_1_method_60_code
def yX10_draw : MethodName := ⟨RX10, "draw", "(I)I"⟩
def RX11 : String := "BeadRingsModel"
def TX11 : u_T := fun k => match k with
  | 0 => ("BeadRingsModel", "thrown", "I", false)
  | 1 => ("BeadRingsModel", "told", "I", false)
  | 2 => ("BeadRingsModel", "row", "[J", true)
  | 3 => ("BeadRingsModel", "now", "[I", true)
  | 4 => ("BeadRingsModel", "then", "[I", true)
  | 5 => ("BeadRingsModel", "tape", "[I", true)
  | 6 => ("BeadRingsModel", "taped", "I", false)
  | 7 => ("BeadRingsModel", "at", "I", false)
  | 8 => ("BeadRingsModel", "to", "I", false)
  | 9 => ("BeadRingsModel", "nest", "I", false)
  | 10 => ("BeadRingsModel", "word", "[I", true)
  | 11 => ("BeadRingsModel", "wordLong", "I", false)
  | 12 => ("BeadRingsModel", "look", "[I", true)
  | 13 => ("BeadRingsModel", "lookLong", "I", false)
  | 14 => ("BeadRingsModel", "code", "[I", true)
  | 15 => ("BeadRingsModel", "readCode", "[I", true)
  | 16 => ("BeadRingsModel", "codeLong", "I", false)
  | 17 => ("BeadRingsModel", "codesRead", "I", false)
  | 18 => ("BeadRingsModel", "stack", "[I", true)
  | 19 => ("BeadRingsModel", "asked", "[I", true)
  | 20 => ("BeadRingsModel", "undos", "I", false)
  | 21 => ("BeadRingsModel", "undone", "[I", true)
  | 22 => ("BeadRingsModel", "spare", "[I", true)
  | 23 => ("BeadRingsModel", "actSign", "[I", true)
  | 24 => ("BeadRingsModel", "actOne", "[I", true)
  | 25 => ("BeadRingsModel", "actTwo", "[I", true)
  | 26 => ("BeadRingsModel", "actThree", "[I", true)
  | 27 => ("BeadRingsModel", "acts", "I", false)
  | 28 => ("BeadRingsModel", "content", "[I", true)
  | 29 => ("BeadRingsModel", "rankColours", "I", false)
  | 30 => ("BeadRingsModel", "rankNumber", "I", false)
  | 31 => ("BeadRingsModel", "around", "[I", true)
  | 32 => ("BeadRingsModel", "been", "[Z", true)
  | 33 => ("BeadRingsModel", "feltMany", "I", false)
  | 34 => ("BeadRingsModel", "feltBead", "[I", true)
  | 35 => ("BeadRingsModel", "feltColour", "[I", true)
  | 36 => ("BeadRingsModel", "heardMany", "I", false)
  | 37 => ("BeadRingsModel", "heardWhat", "[I", true)
  | 38 => ("BeadRingsModel", "heardOf", "[I", true)
  | 39 => ("BeadRingsModel", "worth", "[I", true)
  | 40 => ("BeadRingsModel", "isThere", "[Z", true)
  | 41 => ("BeadRingsModel", "wasCode", "[I", true)
  | 42 => ("BeadRingsModel", "random", "I", false)
  | 43 => ("BeadRingsModel", "isKept", "[Z", true)
  | _ => ("BeadRingsModel", "kept", "[I", true)
def tyX11 : Nat → FieldType := fun k => match k with
  | 0 => .int
  | 1 => .int
  | 2 => .array .long
  | 3 => .array .int
  | 4 => .array .int
  | 5 => .array .int
  | 6 => .int
  | 7 => .int
  | 8 => .int
  | 9 => .int
  | 10 => .array .int
  | 11 => .int
  | 12 => .array .int
  | 13 => .int
  | 14 => .array .int
  | 15 => .array .int
  | 16 => .int
  | 17 => .int
  | 18 => .array .int
  | 19 => .array .int
  | 20 => .int
  | 21 => .array .int
  | 22 => .array .int
  | 23 => .array .int
  | 24 => .array .int
  | 25 => .array .int
  | 26 => .array .int
  | 27 => .int
  | 28 => .array .int
  | 29 => .int
  | 30 => .int
  | 31 => .array .int
  | 32 => .array .boolean
  | 33 => .int
  | 34 => .array .int
  | 35 => .array .int
  | 36 => .int
  | 37 => .array .int
  | 38 => .array .int
  | 39 => .array .int
  | 40 => .array .boolean
  | 41 => .array .int
  | 42 => .int
  | 43 => .array .boolean
  | _ => .array .int
abbrev wsX110 : List Cond := u_ws RX11 TX11 45
theorem nmX11 : ∀ a, a < 45 → ∀ b, b < 45 → a ≠ b → (TX11 a).2.1 ≠ (TX11 b).2.1 := by decide +kernel
theorem tyX11_ok : ∀ k, k < 45 → parseFieldDescriptor (TX11 k).2.2.1 = some (tyX11 k) := by decide +kernel
abbrev cX11_thrown : ByteArray := prog_13_method_1_code
def yX11_thrown : MethodName := ⟨RX11, "thrown", "()I"⟩
abbrev cX11_refuse : ByteArray := prog_13_method_2_code
def yX11_refuse : MethodName := ⟨RX11, "refuse", "()I"⟩
abbrev cX11_in : ByteArray := prog_13_method_3_code
def yX11_in : MethodName := ⟨RX11, "in", "(JJJ)Z"⟩
abbrev cX11_has : ByteArray := prog_13_method_4_code
def yX11_has : MethodName := ⟨RX11, "has", "(II)Z"⟩
abbrev cX11_flag : ByteArray := prog_13_method_5_code
def yX11_flag : MethodName := ⟨RX11, "flag", "(Z)I"⟩
abbrev cX11_common : ByteArray := prog_13_method_6_code
def yX11_common : MethodName := ⟨RX11, "common", "(JJ)J"⟩
abbrev cX11_enters : ByteArray := prog_13_method_7_code
def yX11_enters : MethodName := ⟨RX11, "enters", "(J)V"⟩
abbrev cX11_entersFraction : ByteArray := prog_13_method_8_code
def yX11_entersFraction : MethodName := ⟨RX11, "entersFraction", "(JJ)I"⟩
abbrev cX11_init : ByteArray := prog_13_method_9_code
def yX11_init : MethodName := ⟨RX11, "<init>", "()V"⟩
abbrev cX11_isRing : ByteArray := prog_13_method_10_code
def yX11_isRing : MethodName := ⟨RX11, "isRing", "(I)Z"⟩
abbrev cX11_beadAt : ByteArray := prog_13_method_11_code
def yX11_beadAt : MethodName := ⟨RX11, "beadAt", "([III)I"⟩
abbrev cX11_stockOf : ByteArray := prog_13_method_12_code
def yX11_stockOf : MethodName := ⟨RX11, "stockOf", "([I)I"⟩
abbrev cX11_beadsOf : ByteArray := prog_13_method_13_code
def yX11_beadsOf : MethodName := ⟨RX11, "beadsOf", "([I)I"⟩
abbrev cX11_sign : ByteArray := prog_13_method_14_code
def yX11_sign : MethodName := ⟨RX11, "sign", "(I)I"⟩
abbrev cX11_end : ByteArray := prog_13_method_15_code
def yX11_end : MethodName := ⟨RX11, "end", "(I)Z"⟩
abbrev cX11_begins : ByteArray := prog_13_method_16_code
def yX11_begins : MethodName := ⟨RX11, "begins", "(I)I"⟩
abbrev cX11_takes : ByteArray := prog_13_method_17_code
def yX11_takes : MethodName := ⟨RX11, "takes", "(I)Z"⟩
abbrev cX11_isDigit : ByteArray := prog_13_method_18_code
def yX11_isDigit : MethodName := ⟨RX11, "isDigit", "()Z"⟩
abbrev cX11_takesOf : ByteArray := prog_13_method_19_code
def yX11_takesOf : MethodName := ⟨RX11, "takesOf", "(Ljava/lang/String;)I"⟩
abbrev cX11_number : ByteArray := prog_13_method_20_code
def yX11_number : MethodName := ⟨RX11, "number", "(I)I"⟩
abbrev cX11_digitIn : ByteArray := prog_13_method_21_code
def yX11_digitIn : MethodName := ⟨RX11, "digitIn", "(II)I"⟩
abbrev cX11_faultOf : ByteArray := prog_13_method_22_code
def yX11_faultOf : MethodName := ⟨RX11, "faultOf", "(IIZ)I"⟩
abbrev cX11_readsWord : ByteArray := prog_13_method_23_code
def yX11_readsWord : MethodName := ⟨RX11, "readsWord", "()I"⟩
abbrev cX11_ofWord : ByteArray := prog_13_method_24_code
def yX11_ofWord : MethodName := ⟨RX11, "ofWord", "(I)I"⟩
abbrev cX11_looksAt : ByteArray := prog_13_method_25_code
def yX11_looksAt : MethodName := ⟨RX11, "looksAt", "([II)V"⟩
abbrev cX11_turnedOf : ByteArray := prog_13_method_26_code
def yX11_turnedOf : MethodName := ⟨RX11, "turnedOf", "([IIII)I"⟩
abbrev cX11_tellsTurning : ByteArray := prog_13_method_27_code
def yX11_tellsTurning : MethodName := ⟨RX11, "tellsTurning", "(II)I"⟩
abbrev cX11_compares : ByteArray := prog_13_method_28_code
def yX11_compares : MethodName := ⟨RX11, "compares", "(II)I"⟩
abbrev cX11_leastTurning : ByteArray := prog_13_method_29_code
def yX11_leastTurning : MethodName := ⟨RX11, "leastTurning", "()I"⟩
abbrev cX11_isLeast : ByteArray := prog_13_method_30_code
def yX11_isLeast : MethodName := ⟨RX11, "isLeast", "()Z"⟩
abbrev cX11_entersLeast : ByteArray := prog_13_method_31_code
def yX11_entersLeast : MethodName := ⟨RX11, "entersLeast", "()V"⟩
abbrev cX11_ofLook : ByteArray := prog_13_method_32_code
def yX11_ofLook : MethodName := ⟨RX11, "ofLook", "(I)I"⟩
abbrev cX11_offBy : ByteArray := prog_13_method_33_code
def yX11_offBy : MethodName := ⟨RX11, "offBy", "([III)I"⟩
abbrev cX11_isAlike : ByteArray := prog_13_method_34_code
def yX11_isAlike : MethodName := ⟨RX11, "isAlike", "([II)Z"⟩
abbrev cX11_alikeMany : ByteArray := prog_13_method_35_code
def yX11_alikeMany : MethodName := ⟨RX11, "alikeMany", "([II)I"⟩
abbrev cX11_period : ByteArray := prog_13_method_36_code
def yX11_period : MethodName := ⟨RX11, "period", "()I"⟩
abbrev cX11_mirrors : ByteArray := prog_13_method_37_code
def yX11_mirrors : MethodName := ⟨RX11, "mirrors", "()I"⟩
abbrev cX11_mostOfOne : ByteArray := prog_13_method_38_code
def yX11_mostOfOne : MethodName := ⟨RX11, "mostOfOne", "()I"⟩
abbrev cX11_coloursOf : ByteArray := prog_13_method_39_code
def yX11_coloursOf : MethodName := ⟨RX11, "coloursOf", "()I"⟩
abbrev cX11_codes : ByteArray := prog_13_method_40_code
def yX11_codes : MethodName := ⟨RX11, "codes", "(I)V"⟩
abbrev cX11_readsThing : ByteArray := prog_13_method_41_code
def yX11_readsThing : MethodName := ⟨RX11, "readsThing", "()Z"⟩
abbrev cX11_readsRank : ByteArray := prog_13_method_42_code
def yX11_readsRank : MethodName := ⟨RX11, "readsRank", "(I)Z"⟩
abbrev cX11_readsRule : ByteArray := prog_13_method_43_code
def yX11_readsRule : MethodName := ⟨RX11, "readsRule", "()I"⟩
abbrev cX11_laysCode : ByteArray := prog_13_method_44_code
def yX11_laysCode : MethodName := ⟨RX11, "laysCode", "([II)V"⟩
abbrev cX11_rule : ByteArray := prog_13_method_45_code
def yX11_rule : MethodName := ⟨RX11, "rule", "()I"⟩
abbrev cX11_worked : ByteArray := prog_13_method_46_code
def yX11_worked : MethodName := ⟨RX11, "worked", "(III)I"⟩
abbrev cX11_ruled : ByteArray := prog_13_method_47_code
def yX11_ruled : MethodName := ⟨RX11, "ruled", "()I"⟩
abbrev cX11_priceOfLook : ByteArray := prog_13_method_48_code
def yX11_priceOfLook : MethodName := ⟨RX11, "priceOfLook", "([II)I"⟩
abbrev cX11_price : ByteArray := prog_13_method_49_code
def yX11_price : MethodName := ⟨RX11, "price", "([II)I"⟩
abbrev cX11_prices : ByteArray := prog_13_method_50_code
def yX11_prices : MethodName := ⟨RX11, "prices", "()I"⟩
abbrev cX11_bracelet : ByteArray := prog_13_method_51_code
def yX11_bracelet : MethodName := ⟨RX11, "bracelet", "(II)I"⟩
abbrev cX11_bead : ByteArray := prog_13_method_52_code
def yX11_bead : MethodName := ⟨RX11, "bead", "(II)I"⟩
abbrev cX11_stock : ByteArray := prog_13_method_53_code
def yX11_stock : MethodName := ⟨RX11, "stock", "(I)I"⟩
abbrev cX11_sheet : ByteArray := prog_13_method_54_code
def yX11_sheet : MethodName := ⟨RX11, "sheet", "(IIII)I"⟩
abbrev cX11_putsBy : ByteArray := prog_13_method_55_code
def yX11_putsBy : MethodName := ⟨RX11, "putsBy", "()V"⟩
abbrev cX11_adds : ByteArray := prog_13_method_56_code
def yX11_adds : MethodName := ⟨RX11, "adds", "(I)I"⟩
abbrev cX11_counted : ByteArray := prog_13_method_57_code
def yX11_counted : MethodName := ⟨RX11, "counted", "(I)I"⟩
abbrev cX11_undo : ByteArray := prog_13_method_58_code
def yX11_undo : MethodName := ⟨RX11, "undo", "()I"⟩
abbrev cX11_isOf : ByteArray := prog_13_method_59_code
def yX11_isOf : MethodName := ⟨RX11, "isOf", "([II)Z"⟩
abbrev cX11_laysBead : ByteArray := prog_13_method_60_code
def yX11_laysBead : MethodName := ⟨RX11, "laysBead", "([IIII)V"⟩
abbrev cX11_turnsOne : ByteArray := prog_13_method_61_code
def yX11_turnsOne : MethodName := ⟨RX11, "turnsOne", "([III)V"⟩
abbrev cX11_rollsOne : ByteArray := prog_13_method_62_code
def yX11_rollsOne : MethodName := ⟨RX11, "rollsOne", "([III)I"⟩
abbrev cX11_flipsOne : ByteArray := prog_13_method_63_code
def yX11_flipsOne : MethodName := ⟨RX11, "flipsOne", "([II)I"⟩
abbrev cX11_swapsOne : ByteArray := prog_13_method_64_code
def yX11_swapsOne : MethodName := ⟨RX11, "swapsOne", "([III)I"⟩
abbrev cX11_threadsOne : ByteArray := prog_13_method_65_code
def yX11_threadsOne : MethodName := ⟨RX11, "threadsOne", "([IIII)I"⟩
abbrev cX11_stores : ByteArray := prog_13_method_66_code
def yX11_stores : MethodName := ⟨RX11, "stores", "([II)V"⟩
abbrev cX11_cutsOne : ByteArray := prog_13_method_67_code
def yX11_cutsOne : MethodName := ⟨RX11, "cutsOne", "([III)I"⟩
abbrev cX11_goes : ByteArray := prog_13_method_68_code
def yX11_goes : MethodName := ⟨RX11, "goes", "([II)V"⟩
abbrev cX11_joinsOne : ByteArray := prog_13_method_69_code
def yX11_joinsOne : MethodName := ⟨RX11, "joinsOne", "([III)I"⟩
abbrev cX11_partsOne : ByteArray := prog_13_method_70_code
def yX11_partsOne : MethodName := ⟨RX11, "partsOne", "([II)I"⟩
abbrev cX11_sellsOne : ByteArray := prog_13_method_71_code
def yX11_sellsOne : MethodName := ⟨RX11, "sellsOne", "([II)I"⟩
abbrev cX11_buysOne : ByteArray := prog_13_method_72_code
def yX11_buysOne : MethodName := ⟨RX11, "buysOne", "([III)I"⟩
abbrev cX11_strings : ByteArray := prog_13_method_73_code
def yX11_strings : MethodName := ⟨RX11, "strings", "()I"⟩
abbrev cX11_rolls : ByteArray := prog_13_method_74_code
def yX11_rolls : MethodName := ⟨RX11, "rolls", "(II)I"⟩
abbrev cX11_flips : ByteArray := prog_13_method_75_code
def yX11_flips : MethodName := ⟨RX11, "flips", "(I)I"⟩
abbrev cX11_swaps : ByteArray := prog_13_method_76_code
def yX11_swaps : MethodName := ⟨RX11, "swaps", "(II)I"⟩
abbrev cX11_threads : ByteArray := prog_13_method_77_code
def yX11_threads : MethodName := ⟨RX11, "threads", "(III)I"⟩
abbrev cX11_cuts : ByteArray := prog_13_method_78_code
def yX11_cuts : MethodName := ⟨RX11, "cuts", "(II)I"⟩
abbrev cX11_joins : ByteArray := prog_13_method_79_code
def yX11_joins : MethodName := ⟨RX11, "joins", "(II)I"⟩
abbrev cX11_parts : ByteArray := prog_13_method_80_code
def yX11_parts : MethodName := ⟨RX11, "parts", "(I)I"⟩
abbrev cX11_sells : ByteArray := prog_13_method_81_code
def yX11_sells : MethodName := ⟨RX11, "sells", "(I)I"⟩
abbrev cX11_buys : ByteArray := prog_13_method_82_code
def yX11_buys : MethodName := ⟨RX11, "buys", "(II)I"⟩
abbrev cX11_readsAct : ByteArray := prog_13_method_83_code
def yX11_readsAct : MethodName := ⟨RX11, "readsAct", "()Z"⟩
abbrev cX11_does : ByteArray := prog_13_method_84_code
def yX11_does : MethodName := ⟨RX11, "does", "(I)Z"⟩
abbrev cX11_day : ByteArray := prog_13_method_85_code
def yX11_day : MethodName := ⟨RX11, "day", "()I"⟩
abbrev cX11_least : ByteArray := prog_13_method_86_code
def yX11_least : MethodName := ⟨RX11, "least", "(I)I"⟩
abbrev cX11_alike : ByteArray := prog_13_method_87_code
def yX11_alike : MethodName := ⟨RX11, "alike", "(II)I"⟩
abbrev cX11_firstAlike : ByteArray := prog_13_method_88_code
def yX11_firstAlike : MethodName := ⟨RX11, "firstAlike", "([II)I"⟩
abbrev cX11_kindsOf : ByteArray := prog_13_method_89_code
def yX11_kindsOf : MethodName := ⟨RX11, "kindsOf", "([I)I"⟩
abbrev cX11_kinds : ByteArray := prog_13_method_90_code
def yX11_kinds : MethodName := ⟨RX11, "kinds", "()I"⟩
abbrev cX11_far : ByteArray := prog_13_method_91_code
def yX11_far : MethodName := ⟨RX11, "far", "(II)I"⟩
abbrev cX11_finds : ByteArray := prog_13_method_92_code
def yX11_finds : MethodName := ⟨RX11, "finds", "(I)I"⟩
abbrev cX11_isWord : ByteArray := prog_13_method_93_code
def yX11_isWord : MethodName := ⟨RX11, "isWord", "(III)Z"⟩
abbrev cX11_words : ByteArray := prog_13_method_94_code
def yX11_words : MethodName := ⟨RX11, "words", "(II)I"⟩
abbrev cX11_twice : ByteArray := prog_13_method_95_code
def yX11_twice : MethodName := ⟨RX11, "twice", "(I)I"⟩
abbrev cX11_isSame : ByteArray := prog_13_method_96_code
def yX11_isSame : MethodName := ⟨RX11, "isSame", "(II)Z"⟩
abbrev cX11_arc : ByteArray := prog_13_method_97_code
def yX11_arc : MethodName := ⟨RX11, "arc", "(I)I"⟩
abbrev cX11_power : ByteArray := prog_13_method_98_code
def yX11_power : MethodName := ⟨RX11, "power", "(II)J"⟩
abbrev cX11_ringsOf : ByteArray := prog_13_method_99_code
def yX11_ringsOf : MethodName := ⟨RX11, "ringsOf", "(II)I"⟩
abbrev cX11_many : ByteArray := prog_13_method_100_code
def yX11_many : MethodName := ⟨RX11, "many", "(II)I"⟩
abbrev cX11_newRows : ByteArray := prog_13_method_101_code
def yX11_newRows : MethodName := ⟨RX11, "newRows", "(II)J"⟩
abbrev cX11_rowsOf : ByteArray := prog_13_method_102_code
def yX11_rowsOf : MethodName := ⟨RX11, "rowsOf", "(III)J"⟩
abbrev cX11_oddOnes : ByteArray := prog_13_method_103_code
def yX11_oddOnes : MethodName := ⟨RX11, "oddOnes", "()I"⟩
abbrev cX11_goesInto : ByteArray := prog_13_method_104_code
def yX11_goesInto : MethodName := ⟨RX11, "goesInto", "(I)Z"⟩
abbrev cX11_flippedRows : ByteArray := prog_13_method_105_code
def yX11_flippedRows : MethodName := ⟨RX11, "flippedRows", "(IZ)J"⟩
abbrev cX11_ways : ByteArray := prog_13_method_106_code
def yX11_ways : MethodName := ⟨RX11, "ways", "()I"⟩
abbrev cX11_laysLook : ByteArray := prog_13_method_107_code
def yX11_laysLook : MethodName := ⟨RX11, "laysLook", "(III)V"⟩
abbrev cX11_entersLook : ByteArray := prog_13_method_108_code
def yX11_entersLook : MethodName := ⟨RX11, "entersLook", "()V"⟩
abbrev cX11_nth : ByteArray := prog_13_method_109_code
def yX11_nth : MethodName := ⟨RX11, "nth", "(III)I"⟩
abbrev cX11_laysRank : ByteArray := prog_13_method_110_code
def yX11_laysRank : MethodName := ⟨RX11, "laysRank", "(I)V"⟩
abbrev cX11_rank : ByteArray := prog_13_method_111_code
def yX11_rank : MethodName := ⟨RX11, "rank", "(I)I"⟩
abbrev cX11_next : ByteArray := prog_13_method_112_code
def yX11_next : MethodName := ⟨RX11, "next", "(I)I"⟩
abbrev cX11_wordAt : ByteArray := prog_13_method_113_code
def yX11_wordAt : MethodName := ⟨RX11, "wordAt", "(IIII)I"⟩
abbrev cX11_isOnce : ByteArray := prog_13_method_114_code
def yX11_isOnce : MethodName := ⟨RX11, "isOnce", "(III)Z"⟩
abbrev cX11_wasThere : ByteArray := prog_13_method_115_code
def yX11_wasThere : MethodName := ⟨RX11, "wasThere", "(IIII)Z"⟩
abbrev cX11_laysAround : ByteArray := prog_13_method_116_code
def yX11_laysAround : MethodName := ⟨RX11, "laysAround", "(IIII)Z"⟩
abbrev cX11_once : ByteArray := prog_13_method_117_code
def yX11_once : MethodName := ⟨RX11, "once", "(II)I"⟩
abbrev cX11_isInStock : ByteArray := prog_13_method_118_code
def yX11_isInStock : MethodName := ⟨RX11, "isInStock", "()Z"⟩
abbrev cX11_made : ByteArray := prog_13_method_119_code
def yX11_made : MethodName := ⟨RX11, "made", "(I)I"⟩
abbrev cX11_dear : ByteArray := prog_13_method_120_code
def yX11_dear : MethodName := ⟨RX11, "dear", "(I)I"⟩
abbrev cX11_odds : ByteArray := prog_13_method_121_code
def yX11_odds : MethodName := ⟨RX11, "odds", "(I)I"⟩
abbrev cX11_felt : ByteArray := prog_13_method_122_code
def yX11_felt : MethodName := ⟨RX11, "felt", "(II)I"⟩
abbrev cX11_forget : ByteArray := prog_13_method_123_code
def yX11_forget : MethodName := ⟨RX11, "forget", "()I"⟩
abbrev cX11_clasps : ByteArray := prog_13_method_124_code
def yX11_clasps : MethodName := ⟨RX11, "clasps", "()I"⟩
abbrev cX11_guess : ByteArray := prog_13_method_125_code
def yX11_guess : MethodName := ⟨RX11, "guess", "(I)I"⟩
abbrev cX11_feels : ByteArray := prog_13_method_126_code
def yX11_feels : MethodName := ⟨RX11, "feels", "(I)I"⟩
abbrev cX11_lowest : ByteArray := prog_13_method_127_code
def yX11_lowest : MethodName := ⟨RX11, "lowest", "(I)I"⟩
abbrev cX11_highest : ByteArray := prog_13_method_128_code
def yX11_highest : MethodName := ⟨RX11, "highest", "(I)I"⟩
abbrev cX11_heard : ByteArray := prog_13_method_129_code
def yX11_heard : MethodName := ⟨RX11, "heard", "(II)I"⟩
abbrev cX11_denies : ByteArray := prog_13_method_130_code
def yX11_denies : MethodName := ⟨RX11, "denies", "()I"⟩
abbrev cX11_isSo : ByteArray := prog_13_method_131_code
def yX11_isSo : MethodName := ⟨RX11, "isSo", "(II)Z"⟩
abbrev cX11_fitting : ByteArray := prog_13_method_132_code
def yX11_fitting : MethodName := ⟨RX11, "fitting", "()I"⟩
abbrev cX11_fits : ByteArray := prog_13_method_133_code
def yX11_fits : MethodName := ⟨RX11, "fits", "()I"⟩
abbrev cX11_asks : ByteArray := prog_13_method_134_code
def yX11_asks : MethodName := ⟨RX11, "asks", "()I"⟩
abbrev cX11_laysWorth : ByteArray := prog_13_method_135_code
def yX11_laysWorth : MethodName := ⟨RX11, "laysWorth", "()V"⟩
abbrev cX11_ring : ByteArray := prog_13_method_136_code
def yX11_ring : MethodName := ⟨RX11, "ring", "(I)I"⟩
abbrev cX11_law : ByteArray := prog_13_method_137_code
def yX11_law : MethodName := ⟨RX11, "law", "()I"⟩
abbrev cX11_gets : ByteArray := prog_13_method_138_code
def yX11_gets : MethodName := ⟨RX11, "gets", "(III)I"⟩
abbrev cX11_isRest : ByteArray := prog_13_method_139_code
def yX11_isRest : MethodName := ⟨RX11, "isRest", "(III)Z"⟩
abbrev cX11_bargains : ByteArray := prog_13_method_140_code
def yX11_bargains : MethodName := ⟨RX11, "bargains", "(I)I"⟩
abbrev cX11_draws : ByteArray := prog_13_method_141_code
def yX11_draws : MethodName := ⟨RX11, "draws", "(I)I"⟩
abbrev cX11_drawnDay : ByteArray := prog_13_method_142_code
def yX11_drawnDay : MethodName := ⟨RX11, "drawnDay", "(I)V"⟩
abbrev cX11_years : ByteArray := prog_13_method_143_code
def yX11_years : MethodName := ⟨RX11, "years", "(II)I"⟩
abbrev cX11_keep : ByteArray := prog_13_method_144_code
def yX11_keep : MethodName := ⟨RX11, "keep", "(I)Z"⟩
abbrev cX11_again : ByteArray := prog_13_method_145_code
def yX11_again : MethodName := ⟨RX11, "again", "(I)Z"⟩
abbrev cX11_count : ByteArray := prog_13_method_146_code
def yX11_count : MethodName := ⟨RX11, "count", "(I)I"⟩
abbrev cX11_row : ByteArray := prog_13_method_147_code
def yX11_row : MethodName := ⟨RX11, "row", "(I)J"⟩
def RJ6 : String := "java/lang/Integer"
def TJ6 : u_T := fun k => match k with
  | _ => ("", "", "", false)
def tyJ6 : Nat → FieldType := fun k => match k with
  | _ => .int
abbrev cJ6_numberOfLeadingZeros_0f7a4 : ByteArray := prog_18_method_47_code
def yJ6_numberOfLeadingZeros_0f7a4 : MethodName := ⟨RJ6, "numberOfLeadingZeros", "(I)I"⟩
abbrev cJ6_numberOfTrailingZeros_0f7a4 : ByteArray := prog_18_method_48_code
def yJ6_numberOfTrailingZeros_0f7a4 : MethodName := ⟨RJ6, "numberOfTrailingZeros", "(I)I"⟩
abbrev cJ6_bitCount_0f7a4 : ByteArray := prog_18_method_49_code
def yJ6_bitCount_0f7a4 : MethodName := ⟨RJ6, "bitCount", "(I)I"⟩
def RJ9 : String := "java/lang/Math"
def TJ9 : u_T := fun k => match k with
  | _ => ("", "", "", false)
def tyJ9 : Nat → FieldType := fun k => match k with
  | _ => .int
abbrev cJ9_max_7cf53 : ByteArray := prog_19_method_65_code
def yJ9_max_7cf53 : MethodName := ⟨RJ9, "max", "(II)I"⟩
abbrev cJ9_min_7cf53 : ByteArray := prog_19_method_69_code
def yJ9_min_7cf53 : MethodName := ⟨RJ9, "min", "(II)I"⟩
def RJ0 : String := "java/lang/String"
def TJ0 : u_T := fun k => match k with
  | _ => ("", "", "", false)
def tyJ0 : Nat → FieldType := fun k => match k with
  | _ => .int
abbrev cJ0_length_8abf5 : ByteArray := prog_21_method_54_code
def yJ0_length_8abf5 : MethodName := ⟨RJ0, "length", "()I"⟩
abbrev cJ0_isEmpty_aae02 : ByteArray := prog_21_method_55_code
def yJ0_isEmpty_aae02 : MethodName := ⟨RJ0, "isEmpty", "()Z"⟩
abbrev cJ0_charAt_5068e : ByteArray := prog_21_method_56_code
def yJ0_charAt_5068e : MethodName := ⟨RJ0, "charAt", "(I)C"⟩
abbrev cJ0_coder_7d493 : ByteArray := prog_21_method_152_code
def yJ0_coder_7d493 : MethodName := ⟨RJ0, "coder", "()B"⟩
abbrev cJ0_isLatin1_aae02 : ByteArray := prog_21_method_154_code
def yJ0_isLatin1_aae02 : MethodName := ⟨RJ0, "isLatin1", "()Z"⟩
abbrev cJ0_checkIndex_df160 : ByteArray := prog_21_method_155_code
def yJ0_checkIndex_df160 : MethodName := ⟨RJ0, "checkIndex", "(II)V"⟩
def RJ1 : String := "java/lang/StringLatin1"
def TJ1 : u_T := fun k => match k with
  | _ => ("", "", "", false)
def tyJ1 : Nat → FieldType := fun k => match k with
  | _ => .int
abbrev cJ1_charAt_3b067 : ByteArray := prog_22_method_2_code
def yJ1_charAt_3b067 : MethodName := ⟨RJ1, "charAt", "([BI)C"⟩
def RJ2 : String := "java/lang/StringUTF16"
def TJ2 : u_T := fun k => match k with
  | _ => ("", "", "", false)
def tyJ2 : Nat → FieldType := fun k => match k with
  | _ => .int
abbrev cJ2_getChar_3b067 : ByteArray := prog_23_method_5_code
def yJ2_getChar_3b067 : MethodName := ⟨RJ2, "getChar", "([BI)C"⟩
abbrev cJ2_length_9d52b : ByteArray := prog_23_method_6_code
def yJ2_length_9d52b : MethodName := ⟨RJ2, "length", "([B)I"⟩
abbrev cJ2_charAt_3b067 : ByteArray := prog_23_method_83_code
def yJ2_charAt_3b067 : MethodName := ⟨RJ2, "charAt", "([BI)C"⟩
abbrev cJ2_checkIndex_2214a : ByteArray := prog_23_method_91_code
def yJ2_checkIndex_2214a : MethodName := ⟨RJ2, "checkIndex", "(I[B)V"⟩
def RJ10 : String := "java/lang/System"
def TJ10 : u_T := fun k => match k with
  | _ => ("", "", "", false)
def tyJ10 : Nat → FieldType := fun k => match k with
  | _ => .int
def RJ3 : String := "jdk/internal/util/Preconditions"
def TJ3 : u_T := fun k => match k with
  | _ => ("", "", "", false)
def tyJ3 : Nat → FieldType := fun k => match k with
  | _ => .int
abbrev cJ3_checkIndex_8e157 : ByteArray := prog_29_method_11_code
def yJ3_checkIndex_8e157 : MethodName := ⟨RJ3, "checkIndex", "(IILjava/util/function/BiFunction;)I"⟩
def RL : String := "BeadRingsLaw"
abbrev cL_bracelet : ByteArray := method_3_code
def yL_bracelet : MethodName := ⟨RL, "bracelet", "(LBeadRings;II[J)I"⟩
abbrev cL_bead : ByteArray := method_4_code
def yL_bead : MethodName := ⟨RL, "bead", "(LBeadRings;II[J)I"⟩
abbrev cL_stock : ByteArray := method_5_code
def yL_stock : MethodName := ⟨RL, "stock", "(LBeadRings;I[J)I"⟩
abbrev cL_row : ByteArray := method_6_code
def yL_row : MethodName := ⟨RL, "row", "(LBeadRings;I[J)I"⟩
abbrev cL_law : ByteArray := code
def yL_law : MethodName := ⟨RL, "law", "([I)Z"⟩
abbrev vwCl : List vw_C := [(RX1, TX1, 3), (RX4, TX4, 3), (RX5, TX5, 5), (RX6, TX6, 9), (RX7, TX7, 5), (RX8, TX8, 4), (RX9, TX9, 2), (RX10, TX10, 13), (RX11, TX11, 45)]
theorem inX1 : ∀ w ∈ wsX10, w ∈ lw_tbl := by decide +kernel
theorem inX4 : ∀ w ∈ wsX40, w ∈ lw_tbl := by decide +kernel
theorem inX5 : ∀ w ∈ wsX50, w ∈ lw_tbl := by decide +kernel
theorem inX6 : ∀ w ∈ wsX60, w ∈ lw_tbl := by decide +kernel
theorem inX7 : ∀ w ∈ wsX70, w ∈ lw_tbl := by decide +kernel
theorem inX8 : ∀ w ∈ wsX80, w ∈ lw_tbl := by decide +kernel
theorem inX9 : ∀ w ∈ wsX90, w ∈ lw_tbl := by decide +kernel
theorem inX10 : ∀ w ∈ wsX100, w ∈ lw_tbl := by decide +kernel
theorem inX11 : ∀ w ∈ wsX110, w ∈ lw_tbl := by decide +kernel
end
section
/-! THE ABSTRACT MACHINE (am_): a frame of the JVM over a heap of numbered cells; every answer about a method is proved here, and am_sound ties it to the machine. -/
/-- a cell: an array (its component's type, its length, its contents), or an object (the number of its class in vwCl, its fields); a reference in it is a cell's number -/
abbrev am_C : Type := (FieldType × vp_A) ⊕ (Nat × List Value)
/-- a heap: the next number, the cells; numbers below 32 are what is only read (texts, static arrays, the script) -/
abbrev am_H : Type := Nat × (Nat → am_C)
/-- a frame: pc, locals, operand stack, cells and slots made so far -/
abbrev am_F : Type := Nat × List (Option Value) × List Value × Nat × Nat
/-- an instruction, its length, and what it links: three numbers and a constant -/
abbrev am_E : Type := Instr × Nat × Nat × Nat × Nat × Int32 × Int64
abbrev am_M : Type := Nat → Option am_E
abbrev am_K : Type := Nat → List Value → am_H → (Option Value → am_H → Prop) → Prop
def am_set (h : am_H) (p : Nat) (c : am_C) : am_H := (h.1, va_up h.2 p c)
def am_add (h : am_H) (c : am_C) : am_H := (h.1 + 1, va_up h.2 h.1 c)
def am_br (c a b : Prop) : Prop := (c → a) ∧ (¬ c → b)
def am_i1 (st : List Value) (g : Int32 → List Value → Prop) : Prop := match st with
  | .int x :: r => g x r
  | _ => False
def am_i2 (st : List Value) (g : Int32 → Int32 → List Value → Prop) : Prop := match st with
  | .int y :: .int x :: r => g x y r
  | _ => False
def am_l1 (st : List Value) (g : Int64 → List Value → Prop) : Prop := match st with
  | .long x :: r => g x r
  | _ => False
def am_l2 (st : List Value) (g : Int64 → Int64 → List Value → Prop) : Prop := match st with
  | .long y :: .long x :: r => g x y r
  | _ => False
def am_r1 (st : List Value) (g : Nat → List Value → Prop) : Prop := match st with
  | .ref p :: r => g p r
  | _ => False
def am_ir (st : List Value) (g : Int32 → Nat → List Value → Prop) : Prop := match st with
  | .int i :: .ref p :: r => g i p r
  | _ => False
def am_ldi (ls : List (Option Value)) (i : Nat) (g : Int32 → Prop) : Prop := match ls.getD i none with
  | some (.int x) => g x
  | _ => False
def am_ldl (ls : List (Option Value)) (i : Nat) (g : Int64 → Prop) : Prop := match ls.getD i none with
  | some (.long x) => g x
  | _ => False
def am_lda (ls : List (Option Value)) (i : Nat) (g : Nat → Prop) : Prop := match ls.getD i none with
  | some (.ref x) => g x
  | _ => False
/-- a store at i ends a long that lies at i - 1 -/
def am_kill (ls : List (Option Value)) (i : Nat) : List (Option Value) := match i with
  | 0 => ls
  | j + 1 => match ls.getD j none with
    | some (.long _) => ls.set j none
    | some (.double _) => ls.set j none
    | _ => ls
def am_st1 (ls : List (Option Value)) (i : Nat) (v : Value) : List (Option Value) := (am_kill ls i).set i (some v)
def am_st2 (ls : List (Option Value)) (i : Nat) (v : Value) : List (Option Value) := ((am_kill ls i).set i (some v)).set (i + 1) none
def am_cmp (cd : ClassFile.Cond) (x y : Int32) : Prop := match cd with
  | .eq => x = y
  | .ne => ¬ x = y
  | .lt => x < y
  | .ge => y ≤ x
  | .gt => y < x
  | .le => x ≤ y
/-- an object of class ci at p -/
def am_obj (h : am_H) (p ci : Nat) (g : List Value → Prop) : Prop := match h.2 p with
  | .inr (c, fs) => if c = ci then g fs else False
  | .inl _ => False
/-- a value that a field of this kind may hold: 0 int, 1 a reference, 2 boolean -/
def am_fit (t : Nat) (v : Value) (g : Prop) : Prop := match t, v with
  | 0, .int _ => g
  | 1, .ref _ => g
  | 2, .int x => (x = 0 ∨ x = 1) ∧ g
  | _, _ => False
def am_ari (h : am_H) (p : Nat) (ty : FieldType) (g : Nat → (Nat → Int32) → Prop) : Prop := match h.2 p with
  | .inl (ty', n, .inl f) => if ty' = ty then g n f else False
  | _ => False
/-- an int array to read: one of the heap, or one that is only read -/
def am_rdi (h : am_H) (p : Nat) (g : Nat → (Nat → Int32) → Prop) : Prop := match h.2 p with
  | .inl (.int, n, .inl f) => g n f
  | .inl (.float, n, .inl f) => g n f
  | _ => False
def am_arl (h : am_H) (p : Nat) (g : Nat → (Nat → Int64) → Prop) : Prop := match h.2 p with
  | .inl (.long, n, .inr (.inl f)) => g n f
  | _ => False
def am_arr (h : am_H) (p : Nat) (g : String → Nat → (Nat → Option Nat) → Prop) : Prop := match h.2 p with
  | .inl (.object C, n, .inr (.inr (.inr (.inr f)))) => g C n f
  | _ => False
def am_len (h : am_H) (p : Nat) (g : Nat → Prop) : Prop := match h.2 p with
  | .inl (_, n, _) => g n
  | .inr _ => False
def am_tsw (pc : Nat) (dflt lo hi : Int) (offs : Array Int) (x : Int32) : Nat := ((pc : Int) + (if x.toInt < lo ∨ hi < x.toInt then dflt else offs.toList.getD (x.toInt - lo).toNat 0)).toNat
def am_lsw (pc : Nat) (dflt : Int) (ps : Array (Int × Int)) (x : Int32) : Nat := ((pc : Int) + Op.lookupswitch.offset ps.toList dflt x.toInt).toNat
/-- what a new array of this kind holds -/
def am_new0 (ty : FieldType) (n : Nat) : vp_A := match ty with
  | .long => (n, .inr (.inl (fun _ => 0)))
  | _ => (n, .inl (fun _ => 0))
/-- a new object's fields, by the number of its class in vwCl -/
def am_newf (ci : Nat) : List Value := match ci with
  | 0 => [.null, .null, .int 0]
  | 1 => [.null, .null, .int 0]
  | 2 => [.null, .null, .null, .int 0, .int 0]
  | 3 => [.null, .null, .null, .int 0, .int 0, .int 0, .int 0, .int 0, .int 0]
  | 4 => [.null, .null, .null, .int 0, .int 0]
  | 5 => [.null, .int 0, .int 0, .int 0]
  | 6 => [.null, .int 0]
  | _ => []
/-- the texts: what stands below 16 -/
def am_txt (i : Nat) : List Int32 := []
/-- the cells and slots that a method may make, by its number -/
def am_lim (k : Nat) : Nat × Nat := (0, 0)
def am_cats (st : List Value) : Nat := (st.map Value.category).sum
/-- a call's arguments and what lies below them -/
def am_inv (call : am_K) (mno n ci : Nat) (k : am_F → am_H → Prop) (lim : Nat × Nat) (pc : Nat) (ls : List (Option Value)) (st : List Value) (u : Nat × Nat) (h : am_H) : Prop :=
  if am_cats (st.drop n) ≤ 8 ∧ n ≤ st.length ∧ u.1 + (am_lim mno).1 ≤ lim.1 ∧ u.2 + (am_lim mno).2 ≤ lim.2 then
    (match ci with
      | c + 1 => (match (st.take n).getLast? with
        | some (.ref p) => am_obj h p c (fun _ => call mno (st.take n).reverse h (fun v h' => k (pc + 3, ls, v.toList ++ st.drop n, u.1 + (am_lim mno).1, u.2 + (am_lim mno).2) h'))
        | _ => False)
      | 0 => call mno (st.take n).reverse h (fun v h' => k (pc + 3, ls, v.toList ++ st.drop n, u.1 + (am_lim mno).1, u.2 + (am_lim mno).2) h'))
  else False
def am_ins (call : am_K) (lim : Nat × Nat) (e : am_E) (Q : Option Value → am_H → Prop) (X : am_H → Prop) (k : am_F → am_H → Prop) (pc : Nat) (ls : List (Option Value)) (st : List Value) (u : Nat × Nat) (h : am_H) : Prop :=
  match e with
  | (ei, _, ea, eb, et, ec, ed) => match ei with
  | .iconst _ => k (pc + 1, ls, .int ec :: st, u) h
  | .bipush _ => k (pc + 2, ls, .int ec :: st, u) h
  | .sipush _ => k (pc + 3, ls, .int ec :: st, u) h
  | .lconst _ => k (pc + 1, ls, .long ed :: st, u) h
  | .ldc _ => if eb = 0 then k (pc + 2, ls, .int ec :: st, u) h else k (pc + 2, ls, .ref ea :: st, u) h
  | .ldc_w _ => k (pc + 3, ls, .int ec :: st, u) h
  | .ldc2_w _ => k (pc + 3, ls, .long ed :: st, u) h
  | .iload_n i => am_ldi ls i (fun x => k (pc + 1, ls, .int x :: st, u) h)
  | .iload i => am_ldi ls i (fun x => k (pc + 2, ls, .int x :: st, u) h)
  | .lload_n i => am_ldl ls i (fun x => k (pc + 1, ls, .long x :: st, u) h)
  | .lload i => am_ldl ls i (fun x => k (pc + 2, ls, .long x :: st, u) h)
  | .aload_n i => am_lda ls i (fun x => k (pc + 1, ls, .ref x :: st, u) h)
  | .aload i => am_lda ls i (fun x => k (pc + 2, ls, .ref x :: st, u) h)
  | .istore_n i => am_i1 st (fun x r => k (pc + 1, am_st1 ls i (.int x), r, u) h)
  | .istore i => am_i1 st (fun x r => k (pc + 2, am_st1 ls i (.int x), r, u) h)
  | .lstore_n i => am_l1 st (fun x r => k (pc + 1, am_st2 ls i (.long x), r, u) h)
  | .lstore i => am_l1 st (fun x r => k (pc + 2, am_st2 ls i (.long x), r, u) h)
  | .astore_n i => am_r1 st (fun x r => k (pc + 1, am_st1 ls i (.ref x), r, u) h)
  | .astore i => am_r1 st (fun x r => k (pc + 2, am_st1 ls i (.ref x), r, u) h)
  | .iinc i _ => am_ldi ls i (fun x => k (pc + 3, am_st1 ls i (.int (x + ec)), st, u) h)
  | .iadd => am_i2 st (fun x y r => k (pc + 1, ls, .int (x + y) :: r, u) h)
  | .isub => am_i2 st (fun x y r => k (pc + 1, ls, .int (x - y) :: r, u) h)
  | .imul => am_i2 st (fun x y r => k (pc + 1, ls, .int (x * y) :: r, u) h)
  | .iand => am_i2 st (fun x y r => k (pc + 1, ls, .int (x &&& y) :: r, u) h)
  | .ior => am_i2 st (fun x y r => k (pc + 1, ls, .int (x ||| y) :: r, u) h)
  | .ixor => am_i2 st (fun x y r => k (pc + 1, ls, .int (x ^^^ y) :: r, u) h)
  | .idiv => am_i2 st (fun x y r => ¬ y = 0 ∧ k (pc + 1, ls, .int (x / y) :: r, u) h)
  | .irem => am_i2 st (fun x y r => ¬ y = 0 ∧ k (pc + 1, ls, .int (x - x / y * y) :: r, u) h)
  | .ineg => am_i1 st (fun x r => k (pc + 1, ls, .int (-x) :: r, u) h)
  | .ishl => am_i2 st (fun x y r => k (pc + 1, ls, .int (x <<< (y &&& 31)) :: r, u) h)
  | .ishr => am_i2 st (fun x y r => k (pc + 1, ls, .int (x >>> (y &&& 31)) :: r, u) h)
  | .iushr => am_i2 st (fun x y r => k (pc + 1, ls, .int (x.toUInt32 >>> (y.toUInt32 &&& Int32.toUInt32 31)).toInt32 :: r, u) h)
  | .ladd => am_l2 st (fun x y r => k (pc + 1, ls, .long (x + y) :: r, u) h)
  | .lsub => am_l2 st (fun x y r => k (pc + 1, ls, .long (x - y) :: r, u) h)
  | .lmul => am_l2 st (fun x y r => k (pc + 1, ls, .long (x * y) :: r, u) h)
  | .ldiv => am_l2 st (fun x y r => ¬ y = 0 ∧ k (pc + 1, ls, .long (x / y) :: r, u) h)
  | .lrem => am_l2 st (fun x y r => ¬ y = 0 ∧ k (pc + 1, ls, .long (x - x / y * y) :: r, u) h)
  | .lcmp => am_l2 st (fun x y r => k (pc + 1, ls, .int (lg_cmp x y) :: r, u) h)
  | .i2l => am_i1 st (fun x r => k (pc + 1, ls, .long x.toInt64 :: r, u) h)
  | .l2i => am_l1 st (fun x r => k (pc + 1, ls, .int x.toInt32 :: r, u) h)
  | .i2b => am_i1 st (fun x r => k (pc + 1, ls, .int x.toInt8.toInt32 :: r, u) h)
  | .i2s => am_i1 st (fun x r => k (pc + 1, ls, .int x.toInt16.toInt32 :: r, u) h)
  | .i2c => am_i1 st (fun x r => k (pc + 1, ls, .int (x.toUInt32 % 65536).toInt32 :: r, u) h)
  | .dup => (match st with
    | v :: r => if v.category = 1 then k (pc + 1, ls, v :: v :: r, u) h else False
    | _ => False)
  | .dup2 => (match st with
    | v :: w :: r => if v.category = 1 ∧ w.category = 1 then k (pc + 1, ls, v :: w :: v :: w :: r, u) h else False
    | _ => False)
  | .pop => (match st with
    | v :: r => if v.category = 1 then k (pc + 1, ls, r, u) h else False
    | _ => False)
  | .ifCond cd _ => am_i1 st (fun x r => am_br (am_cmp cd x 0) (k (ea, ls, r, u) h) (k (pc + 3, ls, r, u) h))
  | .if_icmp cd _ => am_i2 st (fun x y r => am_br (am_cmp cd x y) (k (ea, ls, r, u) h) (k (pc + 3, ls, r, u) h))
  | .goto _ => k (ea, ls, st, u) h
  | .tableswitch d lo hi offs => am_i1 st (fun x r => k (am_tsw pc d lo hi offs x, ls, r, u) h)
  | .lookupswitch d ps => am_i1 st (fun x r => k (am_lsw pc d ps x, ls, r, u) h)
  | .getfield _ => am_r1 st (fun p r => am_obj h p ea (fun fs => match fs[eb]? with
    | some v => k (pc + 3, ls, v :: r, u) h
    | none => False))
  | .putfield _ => (match st with
    | v :: .ref p :: r => am_obj h p ea (fun fs => if eb < fs.length then am_fit et v (k (pc + 3, ls, r, u) (am_set h p (.inr (ea, fs.set eb v)))) else False)
    | _ => False)
  | .getstatic _ => k (pc + 3, ls, .ref ea :: st, u) h
  | .iaload => am_ir st (fun i p r => am_rdi h p (fun n f => vp_in i n ∧ k (pc + 1, ls, .int (f i.toNatClampNeg) :: r, u) h))
  | .baload => am_ir st (fun i p r => am_ari h p .boolean (fun n f => vp_in i n ∧ k (pc + 1, ls, .int (f i.toNatClampNeg) :: r, u) h))
  | .caload => am_ir st (fun i p r => am_ari h p .char (fun n f => vp_in i n ∧ k (pc + 1, ls, .int (f i.toNatClampNeg) :: r, u) h))
  | .laload => am_ir st (fun i p r => am_arl h p (fun n f => vp_in i n ∧ k (pc + 1, ls, .long (f i.toNatClampNeg) :: r, u) h))
  | .aaload => am_ir st (fun i p r => am_arr h p (fun _ n f => vp_in i n ∧ ∃ q, f i.toNatClampNeg = some q ∧ k (pc + 1, ls, .ref q :: r, u) h))
  | .iastore => am_i1 st (fun x st' => am_ir st' (fun i p r => am_ari h p .int (fun n f => vp_in i n ∧ k (pc + 1, ls, r, u) (am_set h p (.inl (.int, n, .inl (upd f i.toNatClampNeg x)))))))
  | .bastore => am_i1 st (fun x st' => am_ir st' (fun i p r => am_ari h p .boolean (fun n f => vp_in i n ∧ k (pc + 1, ls, r, u) (am_set h p (.inl (.boolean, n, .inl (upd f i.toNatClampNeg (vp_nar .boolean x))))))))
  | .castore => am_i1 st (fun x st' => am_ir st' (fun i p r => am_ari h p .char (fun n f => vp_in i n ∧ k (pc + 1, ls, r, u) (am_set h p (.inl (.char, n, .inl (upd f i.toNatClampNeg (vp_nar .char x))))))))
  | .lastore => am_l1 st (fun x st' => am_ir st' (fun i p r => am_arl h p (fun n f => vp_in i n ∧ k (pc + 1, ls, r, u) (am_set h p (.inl (.long, n, .inr (.inl (vp_updL f i.toNatClampNeg x))))))))
  | .aastore => am_r1 st (fun v st' => am_ir st' (fun i p r => am_arr h p (fun C n f => am_obj h v 4 (fun _ => C = RX7 ∧ vp_in i n ∧ k (pc + 1, ls, r, u) (am_set h p (.inl (.object C, n, .inr (.inr (.inr (.inr (va_up f i.toNatClampNeg (some v)))))))))))) 
  | .arraylength => am_r1 st (fun p r => am_len h p (fun n => k (pc + 1, ls, .int (Int32.ofNat n) :: r, u) h))
  | .newarray at_ => am_i1 st (fun n r => ¬ n < 0 ∧ n.toNatClampNeg ≤ 10000 ∧ u.1 + 1 ≤ lim.1 ∧ u.2 + n.toNatClampNeg ≤ lim.2 ∧ k (pc + 2, ls, .ref h.1 :: r, u.1 + 1, u.2 + n.toNatClampNeg) (am_add h (.inl (newarray.typeOf at_, am_new0 (newarray.typeOf at_) n.toNatClampNeg))))
  | .anewarray _ => am_i1 st (fun n r => ¬ n < 0 ∧ n.toNatClampNeg ≤ 10000 ∧ u.1 + 1 ≤ lim.1 ∧ u.2 + n.toNatClampNeg ≤ lim.2 ∧ k (pc + 3, ls, .ref h.1 :: r, u.1 + 1, u.2 + n.toNatClampNeg) (am_add h (.inl (.object RX7, n.toNatClampNeg, .inr (.inr (.inr (.inr (fun _ => none))))))))
  | .new _ => if eb = 1 then X h else u.1 + 1 ≤ lim.1 ∧ u.2 + (am_newf ea).length ≤ lim.2 ∧ k (pc + 3, ls, .ref h.1 :: st, u.1 + 1, u.2 + (am_newf ea).length) (am_add h (.inr (ea, am_newf ea)))
  | .invokevirtual _ => am_inv call ea eb et k lim pc ls st u h
  | .invokestatic _ => am_inv call ea eb et k lim pc ls st u h
  | .invokespecial _ => am_inv call ea eb et k lim pc ls st u h
  | .ireturn => (match st with
    | [.int x] => am_fit et (.int x) (Q (some (.int x)) h)
    | _ => False)
  | .lreturn => (match st with
    | [.long x] => Q (some (.long x)) h
    | _ => False)
  | .areturn => (match st with
    | [.ref x] => Q (some (.ref x)) h
    | _ => False)
  | .return_ => (match st with
    | [] => Q none h
    | _ => False)
  | _ => False
def am_step (call : am_K) (lim : Nat × Nat) (M : am_M) (Q : Option Value → am_H → Prop) (X : am_H → Prop) (k : am_F → am_H → Prop) (f : am_F) (h : am_H) : Prop := match f with
  | (pc, ls, st, u) => match M pc with
    | some e => am_ins call lim e Q X k pc ls st u h
    | none => False
/-- the least predicate that is closed under am_step: from this frame the method ends as Q or X says -/
def am_wp (call : am_K) (lim : Nat × Nat) (M : am_M) (Q : Option Value → am_H → Prop) (X : am_H → Prop) (f : am_F) (h : am_H) : Prop :=
  ∀ P : am_F → am_H → Prop, (∀ f h, am_step call lim M Q X P f h → P f h) → P f h
def am_steps (call : am_K) (lim : Nat × Nat) (M : am_M) (Q : Option Value → am_H → Prop) (X : am_H → Prop) (k : am_F → am_H → Prop) : Nat → am_F → am_H → Prop
  | 0 => k
  | n + 1 => am_step call lim M Q X (am_steps call lim M Q X k n)
end
section
section
variable {st : List Value} {ls : List (Option Value)} {h : am_H} {p i ci : Nat}
theorem am_br_mono {c a b a' b' : Prop} (h1 : a → a') (h2 : b → b') (H : am_br c a b) : am_br c a' b' := ⟨fun z => h1 (H.1 z), fun z => h2 (H.2 z)⟩
theorem am_i1_mono {g g' : Int32 → List Value → Prop} (hg : ∀ x r, g x r → g' x r) : am_i1 st g → am_i1 st g' := by
  unfold am_i1; split <;> first | exact hg _ _ | exact id
theorem am_i2_mono {g g' : Int32 → Int32 → List Value → Prop} (hg : ∀ x y r, g x y r → g' x y r) : am_i2 st g → am_i2 st g' := by
  unfold am_i2; split <;> first | exact hg _ _ _ | exact id
theorem am_l1_mono {g g' : Int64 → List Value → Prop} (hg : ∀ x r, g x r → g' x r) : am_l1 st g → am_l1 st g' := by
  unfold am_l1; split <;> first | exact hg _ _ | exact id
theorem am_l2_mono {g g' : Int64 → Int64 → List Value → Prop} (hg : ∀ x y r, g x y r → g' x y r) : am_l2 st g → am_l2 st g' := by
  unfold am_l2; split <;> first | exact hg _ _ _ | exact id
theorem am_r1_mono {g g' : Nat → List Value → Prop} (hg : ∀ x r, g x r → g' x r) : am_r1 st g → am_r1 st g' := by
  unfold am_r1; split <;> first | exact hg _ _ | exact id
theorem am_ir_mono {g g' : Int32 → Nat → List Value → Prop} (hg : ∀ x y r, g x y r → g' x y r) : am_ir st g → am_ir st g' := by
  unfold am_ir; split <;> first | exact hg _ _ _ | exact id
theorem am_ldi_mono {g g' : Int32 → Prop} (hg : ∀ x, g x → g' x) : am_ldi ls i g → am_ldi ls i g' := by
  unfold am_ldi; split <;> first | exact hg _ | exact id
theorem am_ldl_mono {g g' : Int64 → Prop} (hg : ∀ x, g x → g' x) : am_ldl ls i g → am_ldl ls i g' := by
  unfold am_ldl; split <;> first | exact hg _ | exact id
theorem am_lda_mono {g g' : Nat → Prop} (hg : ∀ x, g x → g' x) : am_lda ls i g → am_lda ls i g' := by
  unfold am_lda; split <;> first | exact hg _ | exact id
theorem am_obj_mono {g g' : List Value → Prop} (hg : ∀ x, g x → g' x) : am_obj h p ci g → am_obj h p ci g' := by
  unfold am_obj; split
  · split <;> first | exact hg _ | exact id
  · exact id
theorem am_fit_mono {t : Nat} {v : Value} {a a' : Prop} (hg : a → a') : am_fit t v a → am_fit t v a' := by
  unfold am_fit; split <;> first | exact hg | exact id | exact fun H => ⟨H.1, hg H.2⟩
theorem am_ari_mono {ty : FieldType} {g g' : Nat → (Nat → Int32) → Prop} (hg : ∀ x y, g x y → g' x y) : am_ari h p ty g → am_ari h p ty g' := by
  unfold am_ari; split
  · split <;> first | exact hg _ _ | exact id
  · exact id
theorem am_rdi_mono {g g' : Nat → (Nat → Int32) → Prop} (hg : ∀ x y, g x y → g' x y) : am_rdi h p g → am_rdi h p g' := by
  unfold am_rdi; split <;> first | exact hg _ _ | exact id
theorem am_arl_mono {g g' : Nat → (Nat → Int64) → Prop} (hg : ∀ x y, g x y → g' x y) : am_arl h p g → am_arl h p g' := by
  unfold am_arl; split <;> first | exact hg _ _ | exact id
theorem am_arr_mono {g g' : String → Nat → (Nat → Option Nat) → Prop} (hg : ∀ x y z, g x y z → g' x y z) : am_arr h p g → am_arr h p g' := by
  unfold am_arr; split <;> first | exact hg _ _ _ | exact id
theorem am_len_mono {g g' : Nat → Prop} (hg : ∀ x, g x → g' x) : am_len h p g → am_len h p g' := by
  unfold am_len; split <;> first | exact hg _ | exact id
end
def am_Kmono (call call' : am_K) : Prop := ∀ m a h Q Q', (∀ v h', Q v h' → Q' v h') → call m a h Q → call' m a h Q'
theorem am_inv_mono {call call' : am_K} (hc : am_Kmono call call') {mno n ci : Nat} {k k' : am_F → am_H → Prop} (hk : ∀ f h, k f h → k' f h) {lim : Nat × Nat} {pc : Nat} {ls : List (Option Value)} {st : List Value} {u : Nat × Nat} {h : am_H} :
    am_inv call mno n ci k lim pc ls st u h → am_inv call' mno n ci k' lim pc ls st u h := by
  unfold am_inv
  intro H
  split at H
  · rename_i hcond
    rw [if_pos hcond]
    split at H
    · split at H
      · exact am_obj_mono (fun _ z => hc _ _ _ _ _ (fun _ _ => hk _ _) z) H
      · exact H
    · exact hc _ _ _ _ _ (fun _ _ => hk _ _) H
  · exact H.elim
set_option maxHeartbeats 4000000 in
theorem am_ins_mono {call call' : am_K} (hc : am_Kmono call call') {lim : Nat × Nat} {e : am_E} {Q Q' : Option Value → am_H → Prop} (hQ : ∀ v h, Q v h → Q' v h) {X X' : am_H → Prop} (hX : ∀ h, X h → X' h) {k k' : am_F → am_H → Prop} (hk : ∀ f h, k f h → k' f h) {pc : Nat} {ls : List (Option Value)} {st : List Value} {u : Nat × Nat} {h : am_H} :
    am_ins call lim e Q X k pc ls st u h → am_ins call' lim e Q' X' k' pc ls st u h := by
  obtain ⟨i, len, a, b, t, c, d⟩ := e
  cases i <;> first
    | exact fun H => H.elim
    | exact hk _ _
    | exact am_ldi_mono (fun _ => hk _ _)
    | exact am_ldl_mono (fun _ => hk _ _)
    | exact am_lda_mono (fun _ => hk _ _)
    | exact am_i1_mono (fun _ _ => hk _ _)
    | exact am_i2_mono (fun _ _ _ => hk _ _)
    | exact am_l1_mono (fun _ _ => hk _ _)
    | exact am_l2_mono (fun _ _ _ => hk _ _)
    | exact am_r1_mono (fun _ _ => hk _ _)
    | exact am_inv_mono hc hk
    | exact am_i2_mono (fun _ _ _ H => ⟨H.1, hk _ _ H.2⟩)
    | exact am_l2_mono (fun _ _ _ H => ⟨H.1, hk _ _ H.2⟩)
    | exact am_i1_mono (fun _ _ => am_br_mono (hk _ _) (hk _ _))
    | exact am_i2_mono (fun _ _ _ => am_br_mono (hk _ _) (hk _ _))
    | exact am_ir_mono (fun _ _ _ => am_rdi_mono (fun _ _ H => ⟨H.1, hk _ _ H.2⟩))
    | exact am_ir_mono (fun _ _ _ => am_ari_mono (fun _ _ H => ⟨H.1, hk _ _ H.2⟩))
    | exact am_ir_mono (fun _ _ _ => am_arl_mono (fun _ _ H => ⟨H.1, hk _ _ H.2⟩))
    | exact am_ir_mono (fun _ _ _ => am_arr_mono (fun _ _ _ H => ⟨H.1, H.2.choose, H.2.choose_spec.1, hk _ _ H.2.choose_spec.2⟩))
    | exact am_i1_mono (fun _ _ => am_ir_mono (fun _ _ _ => am_ari_mono (fun _ _ H => ⟨H.1, hk _ _ H.2⟩)))
    | exact am_l1_mono (fun _ _ => am_ir_mono (fun _ _ _ => am_arl_mono (fun _ _ H => ⟨H.1, hk _ _ H.2⟩)))
    | exact am_r1_mono (fun _ _ => am_ir_mono (fun _ _ _ => am_arr_mono (fun _ _ _ => am_obj_mono (fun _ H => ⟨H.1, H.2.1, hk _ _ H.2.2⟩))))
    | exact am_r1_mono (fun _ _ => am_len_mono (fun _ => hk _ _))
    | exact am_i1_mono (fun _ _ H => ⟨H.1, H.2.1, H.2.2.1, H.2.2.2.1, hk _ _ H.2.2.2.2⟩)
    | (unfold am_ins; dsimp only; split <;> first | exact hk _ _ | exact fun H => H.elim | (split <;> first | exact hk _ _ | exact fun H => H.elim))
    | skip
  case getfield =>
    refine am_r1_mono (fun _ _ => am_obj_mono (fun fs => ?_))
    split
    · exact hk _ _
    · exact id
  case putfield =>
    unfold am_ins; dsimp only
    split
    · refine am_obj_mono (fun fs => ?_)
      split
      · exact am_fit_mono (hk _ _)
      · exact id
    · exact id
  case new =>
    unfold am_ins; dsimp only
    split
    · exact hX _
    · exact fun H => ⟨H.1, H.2.1, hk _ _ H.2.2⟩
  case ireturn =>
    unfold am_ins; dsimp only
    split
    · exact am_fit_mono (hQ _ _)
    · exact id
  case lreturn =>
    unfold am_ins; dsimp only
    split
    · exact hQ _ _
    · exact id
  case areturn =>
    unfold am_ins; dsimp only
    split
    · exact hQ _ _
    · exact id
  case return_ =>
    unfold am_ins; dsimp only
    split
    · exact hQ _ _
    · exact id
theorem am_step_mono {call call' : am_K} (hc : am_Kmono call call') {lim : Nat × Nat} {M : am_M} {Q Q' : Option Value → am_H → Prop} (hQ : ∀ v h, Q v h → Q' v h) {X X' : am_H → Prop} (hX : ∀ h, X h → X' h) {k k' : am_F → am_H → Prop} (hk : ∀ f h, k f h → k' f h) {f : am_F} {h : am_H} :
    am_step call lim M Q X k f h → am_step call' lim M Q' X' k' f h := by
  obtain ⟨pc, ls, st, u⟩ := f
  unfold am_step
  dsimp only
  split
  · exact am_ins_mono hc hQ hX hk
  · exact id
theorem am_wp_in {call : am_K} (hc : am_Kmono call call) {lim : Nat × Nat} {M : am_M} {Q : Option Value → am_H → Prop} {X : am_H → Prop} {f : am_F} {h : am_H} (H : am_step call lim M Q X (am_wp call lim M Q X) f h) : am_wp call lim M Q X f h :=
  fun P hP => hP _ _ (am_step_mono hc (fun _ _ z => z) (fun _ z => z) (fun _ _ z => z P hP) H)
/-- n steps at once -/
theorem am_run {call : am_K} (hc : am_Kmono call call) {lim : Nat × Nat} {M : am_M} {Q : Option Value → am_H → Prop} {X : am_H → Prop} (n : Nat) {f : am_F} {h : am_H} (H : am_steps call lim M Q X (am_wp call lim M Q X) n f h) : am_wp call lim M Q X f h := by
  have key : ∀ n f h, am_steps call lim M Q X (am_wp call lim M Q X) n f h → am_wp call lim M Q X f h := by
    intro n
    induction n with
    | zero => exact fun _ _ z => z
    | succ n ih => exact fun f h z => am_wp_in hc (am_step_mono hc (fun _ _ z => z) (fun _ z => z) ih z)
  exact key n f h H
theorem am_wp_mono {call call' : am_K} (hc : am_Kmono call call') {lim : Nat × Nat} {M : am_M} {Q Q' : Option Value → am_H → Prop} (hQ : ∀ v h, Q v h → Q' v h) {X X' : am_H → Prop} (hX : ∀ h, X h → X' h) {f : am_F} {h : am_H} (H : am_wp call lim M Q X f h) : am_wp call' lim M Q' X' f h :=
  fun P hP => H P (fun f h z => hP f h (am_step_mono hc hQ hX (fun _ _ z => z) z))
end
section
def tcd_flipped : List (Nat × am_E) := [(0, .iconst 0, 1, 0, 0, 0, 0, 0), (1, .istore_n 2, 1, 0, 0, 0, 0, 0), (2, .iconst 0, 1, 0, 0, 0, 0, 0), (3, .istore_n 3, 1, 0, 0, 0, 0, 0), (4, .iload_n 3, 1, 0, 0, 0, 0, 0), (5, .iload_n 1, 1, 0, 0, 0, 0, 0), (6, .if_icmp .ge 21, 3, 27, 0, 0, 0, 0), (9, .iload_n 2, 1, 0, 0, 0, 0, 0), (10, .iconst 2, 1, 0, 0, 0, 2, 0), (11, .ishl, 1, 0, 0, 0, 0, 0), (12, .iload_n 0, 1, 0, 0, 0, 0, 0), (13, .iconst 2, 1, 0, 0, 0, 2, 0), (14, .iload_n 3, 1, 0, 0, 0, 0, 0), (15, .imul, 1, 0, 0, 0, 0, 0), (16, .ishr, 1, 0, 0, 0, 0, 0), (17, .iconst 3, 1, 0, 0, 0, 3, 0), (18, .iand, 1, 0, 0, 0, 0, 0), (19, .ior, 1, 0, 0, 0, 0, 0), (20, .istore_n 2, 1, 0, 0, 0, 0, 0), (21, .iinc 3 1, 3, 0, 0, 0, 1, 0), (24, .goto (-20), 3, 4, 0, 0, 0, 0), (27, .iload_n 2, 1, 0, 0, 0, 0, 0), (28, .ireturn, 1, 0, 0, 0, 0, 0)]
def tm_flipped : am_M := fun pc => tcd_flipped.lookup pc
def tfl (row : Int32) : Nat → Int32
  | 0 => 0
  | n + 1 => tfl row n <<< ((2 : Int32) &&& 31) ||| row >>> ((2 * nI n) &&& 31) &&& 3

section
variable {call : am_K} {Q : Option Value → am_H → Prop} {X : am_H → Prop} {k : am_F → am_H → Prop} {h : am_H} {row : Int32} {n i : Nat} {fl : Int32}
set_option maxHeartbeats 100000
theorem tt0 : tm_flipped 24 = some (.goto (-20), 3, 4, 0, 0, 0, 0) := rfl
theorem tt1 : am_step call (0, 0) tm_flipped Q X k (24, [some (.int row)], [], 0, 0) h = k (4, [some (.int row)], [], 0, 0) h := rfl
theorem tt2 : am_step call (0, 0) tm_flipped Q X k (9, [some (.int row), some (.int (nI n)), some (.int fl), some (.int (nI i))], [], 0, 0) h = k (10, [some (.int row), some (.int (nI n)), some (.int fl), some (.int (nI i))], [.int fl], 0, 0) h := rfl
theorem tt3 : am_steps call (0, 0) tm_flipped Q X k 4 (0, [some (.int row), some (.int (nI n)), none, none], [], 0, 0) h = k (4, [some (.int row), some (.int (nI n)), some (.int 0), some (.int 0)], [], 0, 0) h := rfl
theorem tt4 : am_steps call (0, 0) tm_flipped Q X k 3 (4, [some (.int row), some (.int (nI n)), some (.int fl), some (.int (nI i))], [], 0, 0) h = ((nI n ≤ nI i → k (27, [some (.int row), some (.int (nI n)), some (.int fl), some (.int (nI i))], [], 0, 0) h) ∧ (¬ nI n ≤ nI i → k (9, [some (.int row), some (.int (nI n)), some (.int fl), some (.int (nI i))], [], 0, 0) h)) := rfl
theorem tt5 : am_steps call (0, 0) tm_flipped Q X k 4 (9, [some (.int row), some (.int (nI n)), some (.int fl), some (.int (nI i))], [], 0, 0) h = k (13, [some (.int row), some (.int (nI n)), some (.int fl), some (.int (nI i))], [.int row, .int (fl <<< ((2 : Int32) &&& 31))], 0, 0) h := rfl
theorem tt6 : am_steps call (0, 0) tm_flipped Q X k 14 (9, [some (.int row), some (.int (nI n)), some (.int fl), some (.int (nI i))], [], 0, 0) h = k (4, [some (.int row), some (.int (nI n)), some (.int (fl <<< ((2 : Int32) &&& 31) ||| row >>> ((2 * nI i) &&& 31) &&& 3)), some (.int (nI i + 1))], [], 0, 0) h := rfl
end
end
