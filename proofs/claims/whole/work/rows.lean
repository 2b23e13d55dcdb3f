section
/-- a private method of a class that the tables say can be made, by its rows of tables_1 -/
def lw_okq (q : MethodName × Nat) : Prop := (q.1.cls ≠ "java/lang/invoke/MethodHandle" ∧ q.1.cls ≠ "java/lang/invoke/VarHandle") ∧ Cond.instantiable q.1.cls q.2 ∈ tables_1 ∧ Cond.privateMethod q.1 ∈ tables_1 ∧ Cond.instanceMethod q.1 ∈ tables_1
theorem lw_p0 : lw_okq (⟨"BeadRings$Rule", "takes", "(C)Z"⟩, 9) := ⟨⟨by decide +kernel, by decide +kernel⟩, List.mem_of_getElem? (i := 166) (by decide +kernel), List.mem_of_getElem? (i := 326) (by decide +kernel), List.mem_of_getElem? (i := 327) (by decide +kernel)⟩
theorem lw_p1 : lw_okq (⟨"BeadRings$Rule", "takesDigit", "(I)Z"⟩, 9) := ⟨⟨by decide +kernel, by decide +kernel⟩, List.mem_of_getElem? (i := 166) (by decide +kernel), List.mem_of_getElem? (i := 330) (by decide +kernel), List.mem_of_getElem? (i := 331) (by decide +kernel)⟩
theorem lw_p2 : lw_okq (⟨"BeadRings$Rule", "addStep", "(I)V"⟩, 9) := ⟨⟨by decide +kernel, by decide +kernel⟩, List.mem_of_getElem? (i := 166) (by decide +kernel), List.mem_of_getElem? (i := 334) (by decide +kernel), List.mem_of_getElem? (i := 335) (by decide +kernel)⟩
theorem lw_p3 : lw_okq (⟨"BeadRings$Rule", "takesThing", "(C)Z"⟩, 9) := ⟨⟨by decide +kernel, by decide +kernel⟩, List.mem_of_getElem? (i := 166) (by decide +kernel), List.mem_of_getElem? (i := 338) (by decide +kernel), List.mem_of_getElem? (i := 339) (by decide +kernel)⟩
theorem lw_p4 : lw_okq (⟨"BeadRings$Rule", "addWaiting", "(C)V"⟩, 9) := ⟨⟨by decide +kernel, by decide +kernel⟩, List.mem_of_getElem? (i := 166) (by decide +kernel), List.mem_of_getElem? (i := 342) (by decide +kernel), List.mem_of_getElem? (i := 343) (by decide +kernel)⟩
theorem lw_p5 : lw_okq (⟨"BeadRings$Rule", "takesOperator", "(C)Z"⟩, 9) := ⟨⟨by decide +kernel, by decide +kernel⟩, List.mem_of_getElem? (i := 166) (by decide +kernel), List.mem_of_getElem? (i := 349) (by decide +kernel), List.mem_of_getElem? (i := 350) (by decide +kernel)⟩
theorem lw_p6 : lw_okq (⟨"BeadRings$Rule", "settleDownTo", "(I)V"⟩, 9) := ⟨⟨by decide +kernel, by decide +kernel⟩, List.mem_of_getElem? (i := 166) (by decide +kernel), List.mem_of_getElem? (i := 353) (by decide +kernel), List.mem_of_getElem? (i := 354) (by decide +kernel)⟩
theorem lw_p7 : lw_okq (⟨"BeadRings$Stall", "drop", "(I)V"⟩, 5) := ⟨⟨by decide +kernel, by decide +kernel⟩, List.mem_of_getElem? (i := 33) (by decide +kernel), List.mem_of_getElem? (i := 452) (by decide +kernel), List.mem_of_getElem? (i := 453) (by decide +kernel)⟩
theorem lw_p8 : lw_okq (⟨"BeadRings$KindLists", "grow", "(IIII)V"⟩, 3) := ⟨⟨by decide +kernel, by decide +kernel⟩, List.mem_of_getElem? (i := 128) (by decide +kernel), List.mem_of_getElem? (i := 780) (by decide +kernel), List.mem_of_getElem? (i := 781) (by decide +kernel)⟩
theorem lw_p9 : lw_okq (⟨"BeadRings", "addOnce", "(IIIII)V"⟩, 13) := ⟨⟨by decide +kernel, by decide +kernel⟩, List.mem_of_getElem? (i := 25) (by decide +kernel), List.mem_of_getElem? (i := 816) (by decide +kernel), List.mem_of_getElem? (i := 817) (by decide +kernel)⟩
theorem lw_p10 : lw_okq (⟨"BeadRings", "noteLeastRows", "(I)V"⟩, 13) := ⟨⟨by decide +kernel, by decide +kernel⟩, List.mem_of_getElem? (i := 25) (by decide +kernel), List.mem_of_getElem? (i := 831) (by decide +kernel), List.mem_of_getElem? (i := 832) (by decide +kernel)⟩
theorem lw_p11 : lw_okq (⟨"BeadRings", "numberNoted", "(I)I"⟩, 13) := ⟨⟨by decide +kernel, by decide +kernel⟩, List.mem_of_getElem? (i := 25) (by decide +kernel), List.mem_of_getElem? (i := 835) (by decide +kernel), List.mem_of_getElem? (i := 836) (by decide +kernel)⟩
theorem lw_p12 : lw_okq (⟨"BeadRings$Clues", "isAllFelt", "(II)Z"⟩, 3) := ⟨⟨by decide +kernel, by decide +kernel⟩, List.mem_of_getElem? (i := 146) (by decide +kernel), List.mem_of_getElem? (i := 875) (by decide +kernel), List.mem_of_getElem? (i := 876) (by decide +kernel)⟩
theorem lw_p13 : lw_okq (⟨"BeadRings", "passYear", "()V"⟩, 13) := ⟨⟨by decide +kernel, by decide +kernel⟩, List.mem_of_getElem? (i := 25) (by decide +kernel), List.mem_of_getElem? (i := 947) (by decide +kernel), List.mem_of_getElem? (i := 948) (by decide +kernel)⟩
theorem lw_p14 : lw_okq (⟨"BeadRings", "draw", "(I)I"⟩, 13) := ⟨⟨by decide +kernel, by decide +kernel⟩, List.mem_of_getElem? (i := 25) (by decide +kernel), List.mem_of_getElem? (i := 951) (by decide +kernel), List.mem_of_getElem? (i := 952) (by decide +kernel)⟩
theorem lw_p15 : lw_okq (⟨"java/lang/Throwable", "fillInStackTrace", "(I)Ljava/lang/Throwable;"⟩, 6) := ⟨⟨by decide +kernel, by decide +kernel⟩, List.mem_of_getElem? (i := 1024) (by decide +kernel), List.mem_of_getElem? (i := 1022) (by decide +kernel), List.mem_of_getElem? (i := 1023) (by decide +kernel)⟩
def lw_privs_1 : List (MethodName × Nat) := [(⟨"BeadRings$Rule", "takes", "(C)Z"⟩, 9), (⟨"BeadRings$Rule", "takesDigit", "(I)Z"⟩, 9), (⟨"BeadRings$Rule", "addStep", "(I)V"⟩, 9), (⟨"BeadRings$Rule", "takesThing", "(C)Z"⟩, 9), (⟨"BeadRings$Rule", "addWaiting", "(C)V"⟩, 9), (⟨"BeadRings$Rule", "takesOperator", "(C)Z"⟩, 9), (⟨"BeadRings$Rule", "settleDownTo", "(I)V"⟩, 9), (⟨"BeadRings$Stall", "drop", "(I)V"⟩, 5), (⟨"BeadRings$KindLists", "grow", "(IIII)V"⟩, 3), (⟨"BeadRings", "addOnce", "(IIIII)V"⟩, 13), (⟨"BeadRings", "noteLeastRows", "(I)V"⟩, 13), (⟨"BeadRings", "numberNoted", "(I)I"⟩, 13), (⟨"BeadRings$Clues", "isAllFelt", "(II)Z"⟩, 3), (⟨"BeadRings", "passYear", "()V"⟩, 13), (⟨"BeadRings", "draw", "(I)I"⟩, 13), (⟨"java/lang/Throwable", "fillInStackTrace", "(I)Ljava/lang/Throwable;"⟩, 6)]
theorem lw_r1 : ∀ q ∈ lw_privs_1, lw_okq q := List.forall_mem_cons.mpr ⟨lw_p0, List.forall_mem_cons.mpr ⟨lw_p1, List.forall_mem_cons.mpr ⟨lw_p2, List.forall_mem_cons.mpr ⟨lw_p3, List.forall_mem_cons.mpr ⟨lw_p4, List.forall_mem_cons.mpr ⟨lw_p5, List.forall_mem_cons.mpr ⟨lw_p6, List.forall_mem_cons.mpr ⟨lw_p7, List.forall_mem_cons.mpr ⟨lw_p8, List.forall_mem_cons.mpr ⟨lw_p9, List.forall_mem_cons.mpr ⟨lw_p10, List.forall_mem_cons.mpr ⟨lw_p11, List.forall_mem_cons.mpr ⟨lw_p12, List.forall_mem_cons.mpr ⟨lw_p13, List.forall_mem_cons.mpr ⟨lw_p14, List.forall_mem_cons.mpr ⟨lw_p15, fun _ h => absurd h List.not_mem_nil⟩⟩⟩⟩⟩⟩⟩⟩⟩⟩⟩⟩⟩⟩⟩⟩
theorem lw_p16 : lw_okq (⟨"BeadRingsModel", "readsRule", "()I"⟩, 45) := ⟨⟨by decide +kernel, by decide +kernel⟩, List.mem_of_getElem? (i := 1089) (by decide +kernel), List.mem_of_getElem? (i := 1247) (by decide +kernel), List.mem_of_getElem? (i := 1248) (by decide +kernel)⟩
theorem lw_p17 : lw_okq (⟨"BeadRingsModel", "begins", "(I)I"⟩, 45) := ⟨⟨by decide +kernel, by decide +kernel⟩, List.mem_of_getElem? (i := 1089) (by decide +kernel), List.mem_of_getElem? (i := 1251) (by decide +kernel), List.mem_of_getElem? (i := 1252) (by decide +kernel)⟩
theorem lw_p18 : lw_okq (⟨"BeadRingsModel", "readsRank", "(I)Z"⟩, 45) := ⟨⟨by decide +kernel, by decide +kernel⟩, List.mem_of_getElem? (i := 1089) (by decide +kernel), List.mem_of_getElem? (i := 1256) (by decide +kernel), List.mem_of_getElem? (i := 1257) (by decide +kernel)⟩
theorem lw_p19 : lw_okq (⟨"BeadRingsModel", "readsThing", "()Z"⟩, 45) := ⟨⟨by decide +kernel, by decide +kernel⟩, List.mem_of_getElem? (i := 1089) (by decide +kernel), List.mem_of_getElem? (i := 1260) (by decide +kernel), List.mem_of_getElem? (i := 1261) (by decide +kernel)⟩
theorem lw_p20 : lw_okq (⟨"BeadRingsModel", "takes", "(I)Z"⟩, 45) := ⟨⟨by decide +kernel, by decide +kernel⟩, List.mem_of_getElem? (i := 1089) (by decide +kernel), List.mem_of_getElem? (i := 1264) (by decide +kernel), List.mem_of_getElem? (i := 1265) (by decide +kernel)⟩
theorem lw_p21 : lw_okq (⟨"BeadRingsModel", "codes", "(I)V"⟩, 45) := ⟨⟨by decide +kernel, by decide +kernel⟩, List.mem_of_getElem? (i := 1089) (by decide +kernel), List.mem_of_getElem? (i := 1271) (by decide +kernel), List.mem_of_getElem? (i := 1272) (by decide +kernel)⟩
theorem lw_p22 : lw_okq (⟨"BeadRingsModel", "isDigit", "()Z"⟩, 45) := ⟨⟨by decide +kernel, by decide +kernel⟩, List.mem_of_getElem? (i := 1089) (by decide +kernel), List.mem_of_getElem? (i := 1275) (by decide +kernel), List.mem_of_getElem? (i := 1276) (by decide +kernel)⟩
theorem lw_p23 : lw_okq (⟨"BeadRingsModel", "number", "(I)I"⟩, 45) := ⟨⟨by decide +kernel, by decide +kernel⟩, List.mem_of_getElem? (i := 1089) (by decide +kernel), List.mem_of_getElem? (i := 1281) (by decide +kernel), List.mem_of_getElem? (i := 1282) (by decide +kernel)⟩
theorem lw_p24 : lw_okq (⟨"BeadRingsModel", "takesOf", "(Ljava/lang/String;)I"⟩, 45) := ⟨⟨by decide +kernel, by decide +kernel⟩, List.mem_of_getElem? (i := 1089) (by decide +kernel), List.mem_of_getElem? (i := 1286) (by decide +kernel), List.mem_of_getElem? (i := 1287) (by decide +kernel)⟩
theorem lw_p25 : lw_okq (⟨"BeadRingsModel", "faultOf", "(IIZ)I"⟩, 45) := ⟨⟨by decide +kernel, by decide +kernel⟩, List.mem_of_getElem? (i := 1089) (by decide +kernel), List.mem_of_getElem? (i := 1295) (by decide +kernel), List.mem_of_getElem? (i := 1296) (by decide +kernel)⟩
theorem lw_p26 : lw_okq (⟨"BeadRingsModel", "laysCode", "([II)V"⟩, 45) := ⟨⟨by decide +kernel, by decide +kernel⟩, List.mem_of_getElem? (i := 1089) (by decide +kernel), List.mem_of_getElem? (i := 1299) (by decide +kernel), List.mem_of_getElem? (i := 1300) (by decide +kernel)⟩
theorem lw_p27 : lw_okq (⟨"BeadRingsModel", "isRing", "(I)Z"⟩, 45) := ⟨⟨by decide +kernel, by decide +kernel⟩, List.mem_of_getElem? (i := 1089) (by decide +kernel), List.mem_of_getElem? (i := 1307) (by decide +kernel), List.mem_of_getElem? (i := 1308) (by decide +kernel)⟩
theorem lw_p28 : lw_okq (⟨"BeadRingsModel", "refuse", "()I"⟩, 45) := ⟨⟨by decide +kernel, by decide +kernel⟩, List.mem_of_getElem? (i := 1089) (by decide +kernel), List.mem_of_getElem? (i := 1312) (by decide +kernel), List.mem_of_getElem? (i := 1313) (by decide +kernel)⟩
theorem lw_p29 : lw_okq (⟨"BeadRingsModel", "looksAt", "([II)V"⟩, 45) := ⟨⟨by decide +kernel, by decide +kernel⟩, List.mem_of_getElem? (i := 1089) (by decide +kernel), List.mem_of_getElem? (i := 1316) (by decide +kernel), List.mem_of_getElem? (i := 1317) (by decide +kernel)⟩
theorem lw_p30 : lw_okq (⟨"BeadRingsModel", "coloursOf", "()I"⟩, 45) := ⟨⟨by decide +kernel, by decide +kernel⟩, List.mem_of_getElem? (i := 1089) (by decide +kernel), List.mem_of_getElem? (i := 1323) (by decide +kernel), List.mem_of_getElem? (i := 1324) (by decide +kernel)⟩
theorem lw_p31 : lw_okq (⟨"BeadRingsModel", "ofLook", "(I)I"⟩, 45) := ⟨⟨by decide +kernel, by decide +kernel⟩, List.mem_of_getElem? (i := 1089) (by decide +kernel), List.mem_of_getElem? (i := 1327) (by decide +kernel), List.mem_of_getElem? (i := 1328) (by decide +kernel)⟩
def lw_privs_2 : List (MethodName × Nat) := [(⟨"BeadRingsModel", "readsRule", "()I"⟩, 45), (⟨"BeadRingsModel", "begins", "(I)I"⟩, 45), (⟨"BeadRingsModel", "readsRank", "(I)Z"⟩, 45), (⟨"BeadRingsModel", "readsThing", "()Z"⟩, 45), (⟨"BeadRingsModel", "takes", "(I)Z"⟩, 45), (⟨"BeadRingsModel", "codes", "(I)V"⟩, 45), (⟨"BeadRingsModel", "isDigit", "()Z"⟩, 45), (⟨"BeadRingsModel", "number", "(I)I"⟩, 45), (⟨"BeadRingsModel", "takesOf", "(Ljava/lang/String;)I"⟩, 45), (⟨"BeadRingsModel", "faultOf", "(IIZ)I"⟩, 45), (⟨"BeadRingsModel", "laysCode", "([II)V"⟩, 45), (⟨"BeadRingsModel", "isRing", "(I)Z"⟩, 45), (⟨"BeadRingsModel", "refuse", "()I"⟩, 45), (⟨"BeadRingsModel", "looksAt", "([II)V"⟩, 45), (⟨"BeadRingsModel", "coloursOf", "()I"⟩, 45), (⟨"BeadRingsModel", "ofLook", "(I)I"⟩, 45)]
theorem lw_r2 : ∀ q ∈ lw_privs_2, lw_okq q := List.forall_mem_cons.mpr ⟨lw_p16, List.forall_mem_cons.mpr ⟨lw_p17, List.forall_mem_cons.mpr ⟨lw_p18, List.forall_mem_cons.mpr ⟨lw_p19, List.forall_mem_cons.mpr ⟨lw_p20, List.forall_mem_cons.mpr ⟨lw_p21, List.forall_mem_cons.mpr ⟨lw_p22, List.forall_mem_cons.mpr ⟨lw_p23, List.forall_mem_cons.mpr ⟨lw_p24, List.forall_mem_cons.mpr ⟨lw_p25, List.forall_mem_cons.mpr ⟨lw_p26, List.forall_mem_cons.mpr ⟨lw_p27, List.forall_mem_cons.mpr ⟨lw_p28, List.forall_mem_cons.mpr ⟨lw_p29, List.forall_mem_cons.mpr ⟨lw_p30, List.forall_mem_cons.mpr ⟨lw_p31, fun _ h => absurd h List.not_mem_nil⟩⟩⟩⟩⟩⟩⟩⟩⟩⟩⟩⟩⟩⟩⟩⟩
theorem lw_p32 : lw_okq (⟨"BeadRingsModel", "period", "()I"⟩, 45) := ⟨⟨by decide +kernel, by decide +kernel⟩, List.mem_of_getElem? (i := 1089) (by decide +kernel), List.mem_of_getElem? (i := 1331) (by decide +kernel), List.mem_of_getElem? (i := 1332) (by decide +kernel)⟩
theorem lw_p33 : lw_okq (⟨"BeadRingsModel", "compares", "(II)I"⟩, 45) := ⟨⟨by decide +kernel, by decide +kernel⟩, List.mem_of_getElem? (i := 1089) (by decide +kernel), List.mem_of_getElem? (i := 1335) (by decide +kernel), List.mem_of_getElem? (i := 1336) (by decide +kernel)⟩
theorem lw_p34 : lw_okq (⟨"BeadRingsModel", "mirrors", "()I"⟩, 45) := ⟨⟨by decide +kernel, by decide +kernel⟩, List.mem_of_getElem? (i := 1089) (by decide +kernel), List.mem_of_getElem? (i := 1342) (by decide +kernel), List.mem_of_getElem? (i := 1343) (by decide +kernel)⟩
theorem lw_p35 : lw_okq (⟨"BeadRingsModel", "price", "([II)I"⟩, 45) := ⟨⟨by decide +kernel, by decide +kernel⟩, List.mem_of_getElem? (i := 1089) (by decide +kernel), List.mem_of_getElem? (i := 1346) (by decide +kernel), List.mem_of_getElem? (i := 1347) (by decide +kernel)⟩
theorem lw_p36 : lw_okq (⟨"BeadRingsModel", "priceOfLook", "([II)I"⟩, 45) := ⟨⟨by decide +kernel, by decide +kernel⟩, List.mem_of_getElem? (i := 1089) (by decide +kernel), List.mem_of_getElem? (i := 1350) (by decide +kernel), List.mem_of_getElem? (i := 1351) (by decide +kernel)⟩
theorem lw_p37 : lw_okq (⟨"BeadRingsModel", "mostOfOne", "()I"⟩, 45) := ⟨⟨by decide +kernel, by decide +kernel⟩, List.mem_of_getElem? (i := 1089) (by decide +kernel), List.mem_of_getElem? (i := 1355) (by decide +kernel), List.mem_of_getElem? (i := 1356) (by decide +kernel)⟩
theorem lw_p38 : lw_okq (⟨"BeadRingsModel", "alikeMany", "([II)I"⟩, 45) := ⟨⟨by decide +kernel, by decide +kernel⟩, List.mem_of_getElem? (i := 1089) (by decide +kernel), List.mem_of_getElem? (i := 1360) (by decide +kernel), List.mem_of_getElem? (i := 1361) (by decide +kernel)⟩
theorem lw_p39 : lw_okq (⟨"BeadRingsModel", "isAlike", "([II)Z"⟩, 45) := ⟨⟨by decide +kernel, by decide +kernel⟩, List.mem_of_getElem? (i := 1089) (by decide +kernel), List.mem_of_getElem? (i := 1364) (by decide +kernel), List.mem_of_getElem? (i := 1365) (by decide +kernel)⟩
theorem lw_p40 : lw_okq (⟨"BeadRingsModel", "offBy", "([III)I"⟩, 45) := ⟨⟨by decide +kernel, by decide +kernel⟩, List.mem_of_getElem? (i := 1089) (by decide +kernel), List.mem_of_getElem? (i := 1368) (by decide +kernel), List.mem_of_getElem? (i := 1369) (by decide +kernel)⟩
theorem lw_p41 : lw_okq (⟨"BeadRingsModel", "ruled", "()I"⟩, 45) := ⟨⟨by decide +kernel, by decide +kernel⟩, List.mem_of_getElem? (i := 1089) (by decide +kernel), List.mem_of_getElem? (i := 1372) (by decide +kernel), List.mem_of_getElem? (i := 1373) (by decide +kernel)⟩
theorem lw_p42 : lw_okq (⟨"BeadRingsModel", "readsWord", "()I"⟩, 45) := ⟨⟨by decide +kernel, by decide +kernel⟩, List.mem_of_getElem? (i := 1089) (by decide +kernel), List.mem_of_getElem? (i := 1403) (by decide +kernel), List.mem_of_getElem? (i := 1404) (by decide +kernel)⟩
theorem lw_p43 : lw_okq (⟨"BeadRingsModel", "ofWord", "(I)I"⟩, 45) := ⟨⟨by decide +kernel, by decide +kernel⟩, List.mem_of_getElem? (i := 1089) (by decide +kernel), List.mem_of_getElem? (i := 1408) (by decide +kernel), List.mem_of_getElem? (i := 1409) (by decide +kernel)⟩
theorem lw_p44 : lw_okq (⟨"BeadRingsModel", "putsBy", "()V"⟩, 45) := ⟨⟨by decide +kernel, by decide +kernel⟩, List.mem_of_getElem? (i := 1089) (by decide +kernel), List.mem_of_getElem? (i := 1412) (by decide +kernel), List.mem_of_getElem? (i := 1413) (by decide +kernel)⟩
theorem lw_p45 : lw_okq (⟨"BeadRingsModel", "adds", "(I)I"⟩, 45) := ⟨⟨by decide +kernel, by decide +kernel⟩, List.mem_of_getElem? (i := 1089) (by decide +kernel), List.mem_of_getElem? (i := 1419) (by decide +kernel), List.mem_of_getElem? (i := 1420) (by decide +kernel)⟩
theorem lw_p46 : lw_okq (⟨"BeadRingsModel", "rollsOne", "([III)I"⟩, 45) := ⟨⟨by decide +kernel, by decide +kernel⟩, List.mem_of_getElem? (i := 1089) (by decide +kernel), List.mem_of_getElem? (i := 1427) (by decide +kernel), List.mem_of_getElem? (i := 1428) (by decide +kernel)⟩
theorem lw_p47 : lw_okq (⟨"BeadRingsModel", "turnsOne", "([III)V"⟩, 45) := ⟨⟨by decide +kernel, by decide +kernel⟩, List.mem_of_getElem? (i := 1089) (by decide +kernel), List.mem_of_getElem? (i := 1435) (by decide +kernel), List.mem_of_getElem? (i := 1436) (by decide +kernel)⟩
def lw_privs_3 : List (MethodName × Nat) := [(⟨"BeadRingsModel", "period", "()I"⟩, 45), (⟨"BeadRingsModel", "compares", "(II)I"⟩, 45), (⟨"BeadRingsModel", "mirrors", "()I"⟩, 45), (⟨"BeadRingsModel", "price", "([II)I"⟩, 45), (⟨"BeadRingsModel", "priceOfLook", "([II)I"⟩, 45), (⟨"BeadRingsModel", "mostOfOne", "()I"⟩, 45), (⟨"BeadRingsModel", "alikeMany", "([II)I"⟩, 45), (⟨"BeadRingsModel", "isAlike", "([II)Z"⟩, 45), (⟨"BeadRingsModel", "offBy", "([III)I"⟩, 45), (⟨"BeadRingsModel", "ruled", "()I"⟩, 45), (⟨"BeadRingsModel", "readsWord", "()I"⟩, 45), (⟨"BeadRingsModel", "ofWord", "(I)I"⟩, 45), (⟨"BeadRingsModel", "putsBy", "()V"⟩, 45), (⟨"BeadRingsModel", "adds", "(I)I"⟩, 45), (⟨"BeadRingsModel", "rollsOne", "([III)I"⟩, 45), (⟨"BeadRingsModel", "turnsOne", "([III)V"⟩, 45)]
theorem lw_r3 : ∀ q ∈ lw_privs_3, lw_okq q := List.forall_mem_cons.mpr ⟨lw_p32, List.forall_mem_cons.mpr ⟨lw_p33, List.forall_mem_cons.mpr ⟨lw_p34, List.forall_mem_cons.mpr ⟨lw_p35, List.forall_mem_cons.mpr ⟨lw_p36, List.forall_mem_cons.mpr ⟨lw_p37, List.forall_mem_cons.mpr ⟨lw_p38, List.forall_mem_cons.mpr ⟨lw_p39, List.forall_mem_cons.mpr ⟨lw_p40, List.forall_mem_cons.mpr ⟨lw_p41, List.forall_mem_cons.mpr ⟨lw_p42, List.forall_mem_cons.mpr ⟨lw_p43, List.forall_mem_cons.mpr ⟨lw_p44, List.forall_mem_cons.mpr ⟨lw_p45, List.forall_mem_cons.mpr ⟨lw_p46, List.forall_mem_cons.mpr ⟨lw_p47, fun _ h => absurd h List.not_mem_nil⟩⟩⟩⟩⟩⟩⟩⟩⟩⟩⟩⟩⟩⟩⟩⟩
theorem lw_p48 : lw_okq (⟨"BeadRingsModel", "counted", "(I)I"⟩, 45) := ⟨⟨by decide +kernel, by decide +kernel⟩, List.mem_of_getElem? (i := 1089) (by decide +kernel), List.mem_of_getElem? (i := 1439) (by decide +kernel), List.mem_of_getElem? (i := 1440) (by decide +kernel)⟩
theorem lw_p49 : lw_okq (⟨"BeadRingsModel", "flipsOne", "([II)I"⟩, 45) := ⟨⟨by decide +kernel, by decide +kernel⟩, List.mem_of_getElem? (i := 1089) (by decide +kernel), List.mem_of_getElem? (i := 1447) (by decide +kernel), List.mem_of_getElem? (i := 1448) (by decide +kernel)⟩
theorem lw_p50 : lw_okq (⟨"BeadRingsModel", "swapsOne", "([III)I"⟩, 45) := ⟨⟨by decide +kernel, by decide +kernel⟩, List.mem_of_getElem? (i := 1089) (by decide +kernel), List.mem_of_getElem? (i := 1455) (by decide +kernel), List.mem_of_getElem? (i := 1456) (by decide +kernel)⟩
theorem lw_p51 : lw_okq (⟨"BeadRingsModel", "threadsOne", "([IIII)I"⟩, 45) := ⟨⟨by decide +kernel, by decide +kernel⟩, List.mem_of_getElem? (i := 1089) (by decide +kernel), List.mem_of_getElem? (i := 1463) (by decide +kernel), List.mem_of_getElem? (i := 1464) (by decide +kernel)⟩
theorem lw_p52 : lw_okq (⟨"BeadRingsModel", "cutsOne", "([III)I"⟩, 45) := ⟨⟨by decide +kernel, by decide +kernel⟩, List.mem_of_getElem? (i := 1089) (by decide +kernel), List.mem_of_getElem? (i := 1471) (by decide +kernel), List.mem_of_getElem? (i := 1472) (by decide +kernel)⟩
theorem lw_p53 : lw_okq (⟨"BeadRingsModel", "joinsOne", "([III)I"⟩, 45) := ⟨⟨by decide +kernel, by decide +kernel⟩, List.mem_of_getElem? (i := 1089) (by decide +kernel), List.mem_of_getElem? (i := 1482) (by decide +kernel), List.mem_of_getElem? (i := 1483) (by decide +kernel)⟩
theorem lw_p54 : lw_okq (⟨"BeadRingsModel", "partsOne", "([II)I"⟩, 45) := ⟨⟨by decide +kernel, by decide +kernel⟩, List.mem_of_getElem? (i := 1089) (by decide +kernel), List.mem_of_getElem? (i := 1493) (by decide +kernel), List.mem_of_getElem? (i := 1494) (by decide +kernel)⟩
theorem lw_p55 : lw_okq (⟨"BeadRingsModel", "sellsOne", "([II)I"⟩, 45) := ⟨⟨by decide +kernel, by decide +kernel⟩, List.mem_of_getElem? (i := 1089) (by decide +kernel), List.mem_of_getElem? (i := 1501) (by decide +kernel), List.mem_of_getElem? (i := 1502) (by decide +kernel)⟩
theorem lw_p56 : lw_okq (⟨"BeadRingsModel", "buysOne", "([III)I"⟩, 45) := ⟨⟨by decide +kernel, by decide +kernel⟩, List.mem_of_getElem? (i := 1089) (by decide +kernel), List.mem_of_getElem? (i := 1509) (by decide +kernel), List.mem_of_getElem? (i := 1510) (by decide +kernel)⟩
theorem lw_p57 : lw_okq (⟨"BeadRingsModel", "readsAct", "()Z"⟩, 45) := ⟨⟨by decide +kernel, by decide +kernel⟩, List.mem_of_getElem? (i := 1089) (by decide +kernel), List.mem_of_getElem? (i := 1518) (by decide +kernel), List.mem_of_getElem? (i := 1519) (by decide +kernel)⟩
theorem lw_p58 : lw_okq (⟨"BeadRingsModel", "digitIn", "(II)I"⟩, 45) := ⟨⟨by decide +kernel, by decide +kernel⟩, List.mem_of_getElem? (i := 1089) (by decide +kernel), List.mem_of_getElem? (i := 1523) (by decide +kernel), List.mem_of_getElem? (i := 1524) (by decide +kernel)⟩
theorem lw_p59 : lw_okq (⟨"BeadRingsModel", "does", "(I)Z"⟩, 45) := ⟨⟨by decide +kernel, by decide +kernel⟩, List.mem_of_getElem? (i := 1089) (by decide +kernel), List.mem_of_getElem? (i := 1527) (by decide +kernel), List.mem_of_getElem? (i := 1528) (by decide +kernel)⟩
theorem lw_p60 : lw_okq (⟨"BeadRingsModel", "enters", "(J)V"⟩, 45) := ⟨⟨by decide +kernel, by decide +kernel⟩, List.mem_of_getElem? (i := 1089) (by decide +kernel), List.mem_of_getElem? (i := 1531) (by decide +kernel), List.mem_of_getElem? (i := 1532) (by decide +kernel)⟩
theorem lw_p61 : lw_okq (⟨"BeadRingsModel", "entersLeast", "()V"⟩, 45) := ⟨⟨by decide +kernel, by decide +kernel⟩, List.mem_of_getElem? (i := 1089) (by decide +kernel), List.mem_of_getElem? (i := 1539) (by decide +kernel), List.mem_of_getElem? (i := 1540) (by decide +kernel)⟩
theorem lw_p62 : lw_okq (⟨"BeadRingsModel", "leastTurning", "()I"⟩, 45) := ⟨⟨by decide +kernel, by decide +kernel⟩, List.mem_of_getElem? (i := 1089) (by decide +kernel), List.mem_of_getElem? (i := 1543) (by decide +kernel), List.mem_of_getElem? (i := 1544) (by decide +kernel)⟩
theorem lw_p63 : lw_okq (⟨"BeadRingsModel", "kindsOf", "([I)I"⟩, 45) := ⟨⟨by decide +kernel, by decide +kernel⟩, List.mem_of_getElem? (i := 1089) (by decide +kernel), List.mem_of_getElem? (i := 1558) (by decide +kernel), List.mem_of_getElem? (i := 1559) (by decide +kernel)⟩
def lw_privs_4 : List (MethodName × Nat) := [(⟨"BeadRingsModel", "counted", "(I)I"⟩, 45), (⟨"BeadRingsModel", "flipsOne", "([II)I"⟩, 45), (⟨"BeadRingsModel", "swapsOne", "([III)I"⟩, 45), (⟨"BeadRingsModel", "threadsOne", "([IIII)I"⟩, 45), (⟨"BeadRingsModel", "cutsOne", "([III)I"⟩, 45), (⟨"BeadRingsModel", "joinsOne", "([III)I"⟩, 45), (⟨"BeadRingsModel", "partsOne", "([II)I"⟩, 45), (⟨"BeadRingsModel", "sellsOne", "([II)I"⟩, 45), (⟨"BeadRingsModel", "buysOne", "([III)I"⟩, 45), (⟨"BeadRingsModel", "readsAct", "()Z"⟩, 45), (⟨"BeadRingsModel", "digitIn", "(II)I"⟩, 45), (⟨"BeadRingsModel", "does", "(I)Z"⟩, 45), (⟨"BeadRingsModel", "enters", "(J)V"⟩, 45), (⟨"BeadRingsModel", "entersLeast", "()V"⟩, 45), (⟨"BeadRingsModel", "leastTurning", "()I"⟩, 45), (⟨"BeadRingsModel", "kindsOf", "([I)I"⟩, 45)]
theorem lw_r4 : ∀ q ∈ lw_privs_4, lw_okq q := List.forall_mem_cons.mpr ⟨lw_p48, List.forall_mem_cons.mpr ⟨lw_p49, List.forall_mem_cons.mpr ⟨lw_p50, List.forall_mem_cons.mpr ⟨lw_p51, List.forall_mem_cons.mpr ⟨lw_p52, List.forall_mem_cons.mpr ⟨lw_p53, List.forall_mem_cons.mpr ⟨lw_p54, List.forall_mem_cons.mpr ⟨lw_p55, List.forall_mem_cons.mpr ⟨lw_p56, List.forall_mem_cons.mpr ⟨lw_p57, List.forall_mem_cons.mpr ⟨lw_p58, List.forall_mem_cons.mpr ⟨lw_p59, List.forall_mem_cons.mpr ⟨lw_p60, List.forall_mem_cons.mpr ⟨lw_p61, List.forall_mem_cons.mpr ⟨lw_p62, List.forall_mem_cons.mpr ⟨lw_p63, fun _ h => absurd h List.not_mem_nil⟩⟩⟩⟩⟩⟩⟩⟩⟩⟩⟩⟩⟩⟩⟩⟩
theorem lw_p64 : lw_okq (⟨"BeadRingsModel", "firstAlike", "([II)I"⟩, 45) := ⟨⟨by decide +kernel, by decide +kernel⟩, List.mem_of_getElem? (i := 1089) (by decide +kernel), List.mem_of_getElem? (i := 1562) (by decide +kernel), List.mem_of_getElem? (i := 1563) (by decide +kernel)⟩
theorem lw_p65 : lw_okq (⟨"BeadRingsModel", "isWord", "(III)Z"⟩, 45) := ⟨⟨by decide +kernel, by decide +kernel⟩, List.mem_of_getElem? (i := 1089) (by decide +kernel), List.mem_of_getElem? (i := 1578) (by decide +kernel), List.mem_of_getElem? (i := 1579) (by decide +kernel)⟩
theorem lw_p66 : lw_okq (⟨"BeadRingsModel", "isSame", "(II)Z"⟩, 45) := ⟨⟨by decide +kernel, by decide +kernel⟩, List.mem_of_getElem? (i := 1089) (by decide +kernel), List.mem_of_getElem? (i := 1590) (by decide +kernel), List.mem_of_getElem? (i := 1591) (by decide +kernel)⟩
theorem lw_p67 : lw_okq (⟨"BeadRingsModel", "goesInto", "(I)Z"⟩, 45) := ⟨⟨by decide +kernel, by decide +kernel⟩, List.mem_of_getElem? (i := 1089) (by decide +kernel), List.mem_of_getElem? (i := 1616) (by decide +kernel), List.mem_of_getElem? (i := 1617) (by decide +kernel)⟩
theorem lw_p68 : lw_okq (⟨"BeadRingsModel", "rowsOf", "(III)J"⟩, 45) := ⟨⟨by decide +kernel, by decide +kernel⟩, List.mem_of_getElem? (i := 1089) (by decide +kernel), List.mem_of_getElem? (i := 1620) (by decide +kernel), List.mem_of_getElem? (i := 1621) (by decide +kernel)⟩
theorem lw_p69 : lw_okq (⟨"BeadRingsModel", "flippedRows", "(IZ)J"⟩, 45) := ⟨⟨by decide +kernel, by decide +kernel⟩, List.mem_of_getElem? (i := 1089) (by decide +kernel), List.mem_of_getElem? (i := 1624) (by decide +kernel), List.mem_of_getElem? (i := 1625) (by decide +kernel)⟩
theorem lw_p70 : lw_okq (⟨"BeadRingsModel", "oddOnes", "()I"⟩, 45) := ⟨⟨by decide +kernel, by decide +kernel⟩, List.mem_of_getElem? (i := 1089) (by decide +kernel), List.mem_of_getElem? (i := 1628) (by decide +kernel), List.mem_of_getElem? (i := 1629) (by decide +kernel)⟩
theorem lw_p71 : lw_okq (⟨"BeadRingsModel", "laysLook", "(III)V"⟩, 45) := ⟨⟨by decide +kernel, by decide +kernel⟩, List.mem_of_getElem? (i := 1089) (by decide +kernel), List.mem_of_getElem? (i := 1639) (by decide +kernel), List.mem_of_getElem? (i := 1640) (by decide +kernel)⟩
theorem lw_p72 : lw_okq (⟨"BeadRingsModel", "isLeast", "()Z"⟩, 45) := ⟨⟨by decide +kernel, by decide +kernel⟩, List.mem_of_getElem? (i := 1089) (by decide +kernel), List.mem_of_getElem? (i := 1643) (by decide +kernel), List.mem_of_getElem? (i := 1644) (by decide +kernel)⟩
theorem lw_p73 : lw_okq (⟨"BeadRingsModel", "entersLook", "()V"⟩, 45) := ⟨⟨by decide +kernel, by decide +kernel⟩, List.mem_of_getElem? (i := 1089) (by decide +kernel), List.mem_of_getElem? (i := 1647) (by decide +kernel), List.mem_of_getElem? (i := 1648) (by decide +kernel)⟩
theorem lw_p74 : lw_okq (⟨"BeadRingsModel", "laysRank", "(I)V"⟩, 45) := ⟨⟨by decide +kernel, by decide +kernel⟩, List.mem_of_getElem? (i := 1089) (by decide +kernel), List.mem_of_getElem? (i := 1655) (by decide +kernel), List.mem_of_getElem? (i := 1656) (by decide +kernel)⟩
theorem lw_p75 : lw_okq (⟨"BeadRingsModel", "laysAround", "(IIII)Z"⟩, 45) := ⟨⟨by decide +kernel, by decide +kernel⟩, List.mem_of_getElem? (i := 1089) (by decide +kernel), List.mem_of_getElem? (i := 1671) (by decide +kernel), List.mem_of_getElem? (i := 1672) (by decide +kernel)⟩
theorem lw_p76 : lw_okq (⟨"BeadRingsModel", "wasThere", "(IIII)Z"⟩, 45) := ⟨⟨by decide +kernel, by decide +kernel⟩, List.mem_of_getElem? (i := 1089) (by decide +kernel), List.mem_of_getElem? (i := 1675) (by decide +kernel), List.mem_of_getElem? (i := 1676) (by decide +kernel)⟩
theorem lw_p77 : lw_okq (⟨"BeadRingsModel", "wordAt", "(IIII)I"⟩, 45) := ⟨⟨by decide +kernel, by decide +kernel⟩, List.mem_of_getElem? (i := 1089) (by decide +kernel), List.mem_of_getElem? (i := 1679) (by decide +kernel), List.mem_of_getElem? (i := 1680) (by decide +kernel)⟩
theorem lw_p78 : lw_okq (⟨"BeadRingsModel", "isOnce", "(III)Z"⟩, 45) := ⟨⟨by decide +kernel, by decide +kernel⟩, List.mem_of_getElem? (i := 1089) (by decide +kernel), List.mem_of_getElem? (i := 1683) (by decide +kernel), List.mem_of_getElem? (i := 1684) (by decide +kernel)⟩
theorem lw_p79 : lw_okq (⟨"BeadRingsModel", "isInStock", "()Z"⟩, 45) := ⟨⟨by decide +kernel, by decide +kernel⟩, List.mem_of_getElem? (i := 1089) (by decide +kernel), List.mem_of_getElem? (i := 1691) (by decide +kernel), List.mem_of_getElem? (i := 1692) (by decide +kernel)⟩
def lw_privs_5 : List (MethodName × Nat) := [(⟨"BeadRingsModel", "firstAlike", "([II)I"⟩, 45), (⟨"BeadRingsModel", "isWord", "(III)Z"⟩, 45), (⟨"BeadRingsModel", "isSame", "(II)Z"⟩, 45), (⟨"BeadRingsModel", "goesInto", "(I)Z"⟩, 45), (⟨"BeadRingsModel", "rowsOf", "(III)J"⟩, 45), (⟨"BeadRingsModel", "flippedRows", "(IZ)J"⟩, 45), (⟨"BeadRingsModel", "oddOnes", "()I"⟩, 45), (⟨"BeadRingsModel", "laysLook", "(III)V"⟩, 45), (⟨"BeadRingsModel", "isLeast", "()Z"⟩, 45), (⟨"BeadRingsModel", "entersLook", "()V"⟩, 45), (⟨"BeadRingsModel", "laysRank", "(I)V"⟩, 45), (⟨"BeadRingsModel", "laysAround", "(IIII)Z"⟩, 45), (⟨"BeadRingsModel", "wasThere", "(IIII)Z"⟩, 45), (⟨"BeadRingsModel", "wordAt", "(IIII)I"⟩, 45), (⟨"BeadRingsModel", "isOnce", "(III)Z"⟩, 45), (⟨"BeadRingsModel", "isInStock", "()Z"⟩, 45)]
theorem lw_r5 : ∀ q ∈ lw_privs_5, lw_okq q := List.forall_mem_cons.mpr ⟨lw_p64, List.forall_mem_cons.mpr ⟨lw_p65, List.forall_mem_cons.mpr ⟨lw_p66, List.forall_mem_cons.mpr ⟨lw_p67, List.forall_mem_cons.mpr ⟨lw_p68, List.forall_mem_cons.mpr ⟨lw_p69, List.forall_mem_cons.mpr ⟨lw_p70, List.forall_mem_cons.mpr ⟨lw_p71, List.forall_mem_cons.mpr ⟨lw_p72, List.forall_mem_cons.mpr ⟨lw_p73, List.forall_mem_cons.mpr ⟨lw_p74, List.forall_mem_cons.mpr ⟨lw_p75, List.forall_mem_cons.mpr ⟨lw_p76, List.forall_mem_cons.mpr ⟨lw_p77, List.forall_mem_cons.mpr ⟨lw_p78, List.forall_mem_cons.mpr ⟨lw_p79, fun _ h => absurd h List.not_mem_nil⟩⟩⟩⟩⟩⟩⟩⟩⟩⟩⟩⟩⟩⟩⟩⟩
theorem lw_p80 : lw_okq (⟨"BeadRingsModel", "entersFraction", "(JJ)I"⟩, 45) := ⟨⟨by decide +kernel, by decide +kernel⟩, List.mem_of_getElem? (i := 1089) (by decide +kernel), List.mem_of_getElem? (i := 1704) (by decide +kernel), List.mem_of_getElem? (i := 1705) (by decide +kernel)⟩
theorem lw_p81 : lw_okq (⟨"BeadRingsModel", "clasps", "()I"⟩, 45) := ⟨⟨by decide +kernel, by decide +kernel⟩, List.mem_of_getElem? (i := 1089) (by decide +kernel), List.mem_of_getElem? (i := 1720) (by decide +kernel), List.mem_of_getElem? (i := 1721) (by decide +kernel)⟩
theorem lw_p82 : lw_okq (⟨"BeadRingsModel", "fitting", "()I"⟩, 45) := ⟨⟨by decide +kernel, by decide +kernel⟩, List.mem_of_getElem? (i := 1089) (by decide +kernel), List.mem_of_getElem? (i := 1750) (by decide +kernel), List.mem_of_getElem? (i := 1751) (by decide +kernel)⟩
theorem lw_p83 : lw_okq (⟨"BeadRingsModel", "isSo", "(II)Z"⟩, 45) := ⟨⟨by decide +kernel, by decide +kernel⟩, List.mem_of_getElem? (i := 1089) (by decide +kernel), List.mem_of_getElem? (i := 1754) (by decide +kernel), List.mem_of_getElem? (i := 1755) (by decide +kernel)⟩
theorem lw_p84 : lw_okq (⟨"BeadRingsModel", "laysWorth", "()V"⟩, 45) := ⟨⟨by decide +kernel, by decide +kernel⟩, List.mem_of_getElem? (i := 1089) (by decide +kernel), List.mem_of_getElem? (i := 1767) (by decide +kernel), List.mem_of_getElem? (i := 1768) (by decide +kernel)⟩
theorem lw_p85 : lw_okq (⟨"BeadRingsModel", "prices", "()I"⟩, 45) := ⟨⟨by decide +kernel, by decide +kernel⟩, List.mem_of_getElem? (i := 1089) (by decide +kernel), List.mem_of_getElem? (i := 1775) (by decide +kernel), List.mem_of_getElem? (i := 1776) (by decide +kernel)⟩
theorem lw_p86 : lw_okq (⟨"BeadRingsModel", "draws", "(I)I"⟩, 45) := ⟨⟨by decide +kernel, by decide +kernel⟩, List.mem_of_getElem? (i := 1089) (by decide +kernel), List.mem_of_getElem? (i := 1795) (by decide +kernel), List.mem_of_getElem? (i := 1796) (by decide +kernel)⟩
theorem lw_p87 : lw_okq (⟨"BeadRingsModel", "drawnDay", "(I)V"⟩, 45) := ⟨⟨by decide +kernel, by decide +kernel⟩, List.mem_of_getElem? (i := 1089) (by decide +kernel), List.mem_of_getElem? (i := 1800) (by decide +kernel), List.mem_of_getElem? (i := 1801) (by decide +kernel)⟩
def lw_privs_6 : List (MethodName × Nat) := [(⟨"BeadRingsModel", "entersFraction", "(JJ)I"⟩, 45), (⟨"BeadRingsModel", "clasps", "()I"⟩, 45), (⟨"BeadRingsModel", "fitting", "()I"⟩, 45), (⟨"BeadRingsModel", "isSo", "(II)Z"⟩, 45), (⟨"BeadRingsModel", "laysWorth", "()V"⟩, 45), (⟨"BeadRingsModel", "prices", "()I"⟩, 45), (⟨"BeadRingsModel", "draws", "(I)I"⟩, 45), (⟨"BeadRingsModel", "drawnDay", "(I)V"⟩, 45)]
theorem lw_r6 : ∀ q ∈ lw_privs_6, lw_okq q := List.forall_mem_cons.mpr ⟨lw_p80, List.forall_mem_cons.mpr ⟨lw_p81, List.forall_mem_cons.mpr ⟨lw_p82, List.forall_mem_cons.mpr ⟨lw_p83, List.forall_mem_cons.mpr ⟨lw_p84, List.forall_mem_cons.mpr ⟨lw_p85, List.forall_mem_cons.mpr ⟨lw_p86, List.forall_mem_cons.mpr ⟨lw_p87, fun _ h => absurd h List.not_mem_nil⟩⟩⟩⟩⟩⟩⟩⟩
def lw_privs : List (MethodName × Nat) := lw_privs_1 ++ (lw_privs_2 ++ (lw_privs_3 ++ (lw_privs_4 ++ (lw_privs_5 ++ (lw_privs_6)))))
def lw_tbl : List Cond := k2_sels lw_privs ++ tables_1
theorem lw_privs_ok : ∀ q ∈ lw_privs, lw_okq q := by
  show ∀ q ∈ lw_privs_1 ++ (lw_privs_2 ++ (lw_privs_3 ++ (lw_privs_4 ++ (lw_privs_5 ++ (lw_privs_6))))), lw_okq q
  exact List.forall_mem_append.mpr ⟨lw_r1, List.forall_mem_append.mpr ⟨lw_r2, List.forall_mem_append.mpr ⟨lw_r3, List.forall_mem_append.mpr ⟨lw_r4, List.forall_mem_append.mpr ⟨lw_r5, lw_r6⟩⟩⟩⟩⟩
end
section
def RX0 : String := "BeadRings$Beads"
def TX0 : u_T := fun k => match k with
  | _ => ("", "", "", false)
def tyX0 : Nat → FieldType := fun k => match k with
  | _ => .int
abbrev wsX00 : List Cond := u_ws RX0 TX0 0
theorem nmX0 : ∀ a, a < 0 → ∀ b, b < 0 → a ≠ b → (TX0 a).2.1 ≠ (TX0 b).2.1 := by decide +kernel
theorem tyX0_ok : ∀ k, k < 0 → parseFieldDescriptor (TX0 k).2.2.1 = some (tyX0 k) := by decide +kernel
abbrev cX0_isNoColour : ByteArray := prog_2_method_2_code
def yX0_isNoColour : MethodName := ⟨RX0, "isNoColour", "(I)Z"⟩
abbrev cX0_mask : ByteArray := prog_2_method_3_code
def yX0_mask : MethodName := ⟨RX0, "mask", "(I)I"⟩
abbrev cX0_colourAt : ByteArray := prog_2_method_4_code
def yX0_colourAt : MethodName := ⟨RX0, "colourAt", "(III)I"⟩
abbrev cX0_withColour : ByteArray := prog_2_method_5_code
def yX0_withColour : MethodName := ⟨RX0, "withColour", "(IIII)I"⟩
abbrev cX0_rolled : ByteArray := prog_2_method_6_code
def yX0_rolled : MethodName := ⟨RX0, "rolled", "(III)I"⟩
abbrev cX0_flipped : ByteArray := prog_2_method_7_code
def yX0_flipped : MethodName := ⟨RX0, "flipped", "(II)I"⟩
abbrev cX0_turned : ByteArray := prog_2_method_8_code
def yX0_turned : MethodName := ⟨RX0, "turned", "(III)I"⟩
abbrev cX0_turningName : ByteArray := prog_2_method_9_code
def yX0_turningName : MethodName := ⟨RX0, "turningName", "(II)I"⟩
abbrev cX0_leastRow : ByteArray := prog_2_method_10_code
def yX0_leastRow : MethodName := ⟨RX0, "leastRow", "(II)I"⟩
abbrev cX0_isLessFlipped : ByteArray := prog_2_method_11_code
def yX0_isLessFlipped : MethodName := ⟨RX0, "isLessFlipped", "(II)Z"⟩
abbrev cX0_firstTurning : ByteArray := prog_2_method_12_code
def yX0_firstTurning : MethodName := ⟨RX0, "firstTurning", "(III)I"⟩
abbrev cX0_period : ByteArray := prog_2_method_13_code
def yX0_period : MethodName := ⟨RX0, "period", "(II)I"⟩
abbrev cX0_mirrors : ByteArray := prog_2_method_14_code
def yX0_mirrors : MethodName := ⟨RX0, "mirrors", "(II)I"⟩
abbrev cX0_stays : ByteArray := prog_2_method_15_code
def yX0_stays : MethodName := ⟨RX0, "stays", "(II)I"⟩
abbrev cX0_numberOf : ByteArray := prog_2_method_16_code
def yX0_numberOf : MethodName := ⟨RX0, "numberOf", "(III)I"⟩
abbrev cX0_colourBits : ByteArray := prog_2_method_17_code
def yX0_colourBits : MethodName := ⟨RX0, "colourBits", "(II)I"⟩
abbrev cX0_greatestColour : ByteArray := prog_2_method_18_code
def yX0_greatestColour : MethodName := ⟨RX0, "greatestColour", "(II)I"⟩
abbrev cX0_tallyInto : ByteArray := prog_2_method_19_code
def yX0_tallyInto : MethodName := ⟨RX0, "tallyInto", "([III)V"⟩
abbrev cX0_mostOfOne : ByteArray := prog_2_method_20_code
def yX0_mostOfOne : MethodName := ⟨RX0, "mostOfOne", "(II)I"⟩
abbrev cX0_apart : ByteArray := prog_2_method_21_code
def yX0_apart : MethodName := ⟨RX0, "apart", "(II)I"⟩
abbrev cX0_wordAt : ByteArray := prog_2_method_22_code
def yX0_wordAt : MethodName := ⟨RX0, "wordAt", "(IIII)I"⟩
abbrev cX0_placesOf : ByteArray := prog_2_method_23_code
def yX0_placesOf : MethodName := ⟨RX0, "placesOf", "(IIII)I"⟩
def RX1 : String := "BeadRings$Clues"
def TX1 : u_T := fun k => match k with
  | 0 => ("BeadRings$Clues", "firsts", "[I", true)
  | 1 => ("BeadRings$Clues", "seconds", "[I", true)
  | _ => ("BeadRings$Clues", "size", "I", false)
def tyX1 : Nat → FieldType := fun k => match k with
  | 0 => .array .int
  | 1 => .array .int
  | _ => .int
abbrev wsX10 : List Cond := u_ws RX1 TX1 3
theorem nmX1 : ∀ a, a < 3 → ∀ b, b < 3 → a ≠ b → (TX1 a).2.1 ≠ (TX1 b).2.1 := by decide +kernel
theorem tyX1_ok : ∀ k, k < 3 → parseFieldDescriptor (TX1 k).2.2.1 = some (tyX1 k) := by decide +kernel
abbrev cX1_init : ByteArray := prog_3_method_1_code
def yX1_init : MethodName := ⟨RX1, "<init>", "(I)V"⟩
abbrev cX1_add : ByteArray := prog_3_method_2_code
def yX1_add : MethodName := ⟨RX1, "add", "(II)I"⟩
abbrev cX1_empty : ByteArray := prog_3_method_3_code
def yX1_empty : MethodName := ⟨RX1, "empty", "()I"⟩
abbrev cX1_canBeFelt : ByteArray := prog_3_method_4_code
def yX1_canBeFelt : MethodName := ⟨RX1, "canBeFelt", "(II)Z"⟩
abbrev cX1_rollsLeft : ByteArray := prog_3_method_5_code
def yX1_rollsLeft : MethodName := ⟨RX1, "rollsLeft", "(II)I"⟩
abbrev cX1_isAllFelt : ByteArray := prog_3_method_6_code
def yX1_isAllFelt : MethodName := ⟨RX1, "isAllFelt", "(II)Z"⟩
abbrev cX1_mostLeft : ByteArray := prog_3_method_7_code
def yX1_mostLeft : MethodName := ⟨RX1, "mostLeft", "(IIII)I"⟩
abbrev cX1_canBeHeard : ByteArray := prog_3_method_8_code
def yX1_canBeHeard : MethodName := ⟨RX1, "canBeHeard", "(II)Z"⟩
abbrev cX1_fitting : ByteArray := prog_3_method_9_code
def yX1_fitting : MethodName := ⟨RX1, "fitting", "(LBeadRings$Stall;)I"⟩
abbrev cX1_suiting : ByteArray := prog_3_method_10_code
def yX1_suiting : MethodName := ⟨RX1, "suiting", "(LBeadRings$Stall;II)I"⟩
abbrev cX1_isSo : ByteArray := prog_3_method_11_code
def yX1_isSo : MethodName := ⟨RX1, "isSo", "(IIII)Z"⟩
def RX2 : String := "BeadRings$Counts"
def TX2 : u_T := fun k => match k with
  | _ => ("", "", "", false)
def tyX2 : Nat → FieldType := fun k => match k with
  | _ => .int
abbrev wsX20 : List Cond := u_ws RX2 TX2 0
theorem nmX2 : ∀ a, a < 0 → ∀ b, b < 0 → a ≠ b → (TX2 a).2.1 ≠ (TX2 b).2.1 := by decide +kernel
theorem tyX2_ok : ∀ k, k < 0 → parseFieldDescriptor (TX2 k).2.2.1 = some (tyX2 k) := by decide +kernel
abbrev cX2_power : ByteArray := prog_4_method_2_code
def yX2_power : MethodName := ⟨RX2, "power", "(II)I"⟩
abbrev cX2_commonDivisor : ByteArray := prog_4_method_3_code
def yX2_commonDivisor : MethodName := ⟨RX2, "commonDivisor", "(II)I"⟩
abbrev cX2_beadsThatStay : ByteArray := prog_4_method_4_code
def yX2_beadsThatStay : MethodName := ⟨RX2, "beadsThatStay", "(II)I"⟩
abbrev cX2_keptByRolls : ByteArray := prog_4_method_5_code
def yX2_keptByRolls : MethodName := ⟨RX2, "keptByRolls", "(II)I"⟩
abbrev cX2_keptByFlips : ByteArray := prog_4_method_6_code
def yX2_keptByFlips : MethodName := ⟨RX2, "keptByFlips", "(II)I"⟩
abbrev cX2_rowsThatNoRollKeeps : ByteArray := prog_4_method_7_code
def yX2_rowsThatNoRollKeeps : MethodName := ⟨RX2, "rowsThatNoRollKeeps", "(II)I"⟩
abbrev cX2_toldKeptByRolls : ByteArray := prog_4_method_8_code
def yX2_toldKeptByRolls : MethodName := ⟨RX2, "toldKeptByRolls", "([II)I"⟩
abbrev cX2_toldKeptByFlips : ByteArray := prog_4_method_9_code
def yX2_toldKeptByFlips : MethodName := ⟨RX2, "toldKeptByFlips", "([II)I"⟩
abbrev cX2_pairedRows : ByteArray := prog_4_method_10_code
def yX2_pairedRows : MethodName := ⟨RX2, "pairedRows", "([II)I"⟩
abbrev cX2_rowsOf : ByteArray := prog_4_method_11_code
def yX2_rowsOf : MethodName := ⟨RX2, "rowsOf", "([II)I"⟩
abbrev cX2_factorial : ByteArray := prog_4_method_12_code
def yX2_factorial : MethodName := ⟨RX2, "factorial", "(I)I"⟩
def RX3 : String := "BeadRings$Day"
def TX3 : u_T := fun k => match k with
  | _ => ("", "", "", false)
def tyX3 : Nat → FieldType := fun k => match k with
  | _ => .int
abbrev wsX30 : List Cond := u_ws RX3 TX3 0
theorem nmX3 : ∀ a, a < 0 → ∀ b, b < 0 → a ≠ b → (TX3 a).2.1 ≠ (TX3 b).2.1 := by decide +kernel
theorem tyX3_ok : ∀ k, k < 0 → parseFieldDescriptor (TX3 k).2.2.1 = some (tyX3 k) := by decide +kernel
abbrev cX3_fault : ByteArray := prog_5_method_2_code
def yX3_fault : MethodName := ⟨RX3, "fault", "(LBeadRings$Text;)I"⟩
abbrev cX3_form : ByteArray := prog_5_method_3_code
def yX3_form : MethodName := ⟨RX3, "form", "(C)Ljava/lang/String;"⟩
abbrev cX3_suits : ByteArray := prog_5_method_4_code
def yX3_suits : MethodName := ⟨RX3, "suits", "(CC)Z"⟩
abbrev cX3_told : ByteArray := prog_5_method_5_code
def yX3_told : MethodName := ⟨RX3, "told", "(C)I"⟩
abbrev cX3_act : ByteArray := prog_5_method_6_code
def yX3_act : MethodName := ⟨RX3, "act", "(LBeadRings$Text;ILBeadRings$Stall;LBeadRings$Rule;)I"⟩
def RX4 : String := "BeadRings$KindLists"
def TX4 : u_T := fun k => match k with
  | 0 => ("BeadRings$KindLists", "rows", "[I", true)
  | 1 => ("BeadRings$KindLists", "isListed", "[Z", true)
  | _ => ("BeadRings$KindLists", "filled", "I", false)
def tyX4 : Nat → FieldType := fun k => match k with
  | 0 => .array .int
  | 1 => .array .boolean
  | _ => .int
abbrev wsX40 : List Cond := u_ws RX4 TX4 3
theorem nmX4 : ∀ a, a < 3 → ∀ b, b < 3 → a ≠ b → (TX4 a).2.1 ≠ (TX4 b).2.1 := by decide +kernel
theorem tyX4_ok : ∀ k, k < 3 → parseFieldDescriptor (TX4 k).2.2.1 = some (tyX4 k) := by decide +kernel
abbrev cX4_init : ByteArray := prog_6_method_1_code
def yX4_init : MethodName := ⟨RX4, "<init>", "()V"⟩
abbrev cX4_lacks : ByteArray := prog_6_method_2_code
def yX4_lacks : MethodName := ⟨RX4, "lacks", "(I)Z"⟩
abbrev cX4_number : ByteArray := prog_6_method_3_code
def yX4_number : MethodName := ⟨RX4, "number", "(I)I"⟩
abbrev cX4_kind : ByteArray := prog_6_method_4_code
def yX4_kind : MethodName := ⟨RX4, "kind", "(II)I"⟩
abbrev cX4_grow : ByteArray := prog_6_method_5_code
def yX4_grow : MethodName := ⟨RX4, "grow", "(IIII)V"⟩
abbrev cX4_kindAt : ByteArray := prog_6_method_6_code
def yX4_kindAt : MethodName := ⟨RX4, "kindAt", "(III)I"⟩
abbrev cX4_kindsAhead : ByteArray := prog_6_method_7_code
def yX4_kindsAhead : MethodName := ⟨RX4, "kindsAhead", "(II)I"⟩
abbrev cX4_kindBehind : ByteArray := prog_6_method_8_code
def yX4_kindBehind : MethodName := ⟨RX4, "kindBehind", "(II)I"⟩
def RX5 : String := "BeadRings$Past"
def TX5 : u_T := fun k => match k with
  | 0 => ("BeadRings$Past", "slots", "[LBeadRings$Stall;", true)
  | 1 => ("BeadRings$Past", "kept", "[LBeadRings$Stall;", true)
  | 2 => ("BeadRings$Past", "isKept", "[Z", true)
  | 3 => ("BeadRings$Past", "marked", "I", false)
  | _ => ("BeadRings$Past", "number", "I", false)
def tyX5 : Nat → FieldType := fun k => match k with
  | 0 => .array (.object "BeadRings$Stall")
  | 1 => .array (.object "BeadRings$Stall")
  | 2 => .array .boolean
  | 3 => .int
  | _ => .int
abbrev wsX50 : List Cond := u_ws RX5 TX5 5
theorem nmX5 : ∀ a, a < 5 → ∀ b, b < 5 → a ≠ b → (TX5 a).2.1 ≠ (TX5 b).2.1 := by decide +kernel
theorem tyX5_ok : ∀ k, k < 5 → parseFieldDescriptor (TX5 k).2.2.1 = some (tyX5 k) := by decide +kernel
abbrev cX5_init : ByteArray := prog_7_method_1_code
def yX5_init : MethodName := ⟨RX5, "<init>", "()V"⟩
abbrev cX5_mark : ByteArray := prog_7_method_2_code
def yX5_mark : MethodName := ⟨RX5, "mark", "(LBeadRings$Stall;)V"⟩
abbrev cX5_settle : ByteArray := prog_7_method_3_code
def yX5_settle : MethodName := ⟨RX5, "settle", "(I)I"⟩
abbrev cX5_bringBack : ByteArray := prog_7_method_4_code
def yX5_bringBack : MethodName := ⟨RX5, "bringBack", "(LBeadRings$Stall;)I"⟩
abbrev cX5_keepUnder : ByteArray := prog_7_method_5_code
def yX5_keepUnder : MethodName := ⟨RX5, "keepUnder", "(ILBeadRings$Stall;)Z"⟩
abbrev cX5_takeKept : ByteArray := prog_7_method_6_code
def yX5_takeKept : MethodName := ⟨RX5, "takeKept", "(ILBeadRings$Stall;)Z"⟩
def RX6 : String := "BeadRings$Rule"
def TX6 : u_T := fun k => match k with
  | 0 => ("BeadRings$Rule", "steps", "[I", true)
  | 1 => ("BeadRings$Rule", "stack", "[I", true)
  | 2 => ("BeadRings$Rule", "waiting", "[C", true)
  | 3 => ("BeadRings$Rule", "stepNumber", "I", false)
  | 4 => ("BeadRings$Rule", "waitingNumber", "I", false)
  | 5 => ("BeadRings$Rule", "depth", "I", false)
  | 6 => ("BeadRings$Rule", "digits", "I", false)
  | 7 => ("BeadRings$Rule", "comparedDepths", "I", false)
  | _ => ("BeadRings$Rule", "wantsThing", "Z", false)
def tyX6 : Nat → FieldType := fun k => match k with
  | 0 => .array .int
  | 1 => .array .int
  | 2 => .array .char
  | 3 => .int
  | 4 => .int
  | 5 => .int
  | 6 => .int
  | 7 => .int
  | _ => .boolean
abbrev wsX60 : List Cond := u_ws RX6 TX6 9
theorem nmX6 : ∀ a, a < 9 → ∀ b, b < 9 → a ≠ b → (TX6 a).2.1 ≠ (TX6 b).2.1 := by decide +kernel
theorem tyX6_ok : ∀ k, k < 9 → parseFieldDescriptor (TX6 k).2.2.1 = some (tyX6 k) := by decide +kernel
abbrev cX6_init : ByteArray := prog_8_method_1_code
def yX6_init : MethodName := ⟨RX6, "<init>", "()V"⟩
abbrev cX6_read : ByteArray := prog_8_method_2_code
def yX6_read : MethodName := ⟨RX6, "read", "(LBeadRings$Text;)I"⟩
abbrev cX6_takes : ByteArray := prog_8_method_3_code
def yX6_takes : MethodName := ⟨RX6, "takes", "(C)Z"⟩
abbrev cX6_takesDigit : ByteArray := prog_8_method_4_code
def yX6_takesDigit : MethodName := ⟨RX6, "takesDigit", "(I)Z"⟩
abbrev cX6_takesThing : ByteArray := prog_8_method_5_code
def yX6_takesThing : MethodName := ⟨RX6, "takesThing", "(C)Z"⟩
abbrev cX6_takesOperator : ByteArray := prog_8_method_6_code
def yX6_takesOperator : MethodName := ⟨RX6, "takesOperator", "(C)Z"⟩
abbrev cX6_settleDownTo : ByteArray := prog_8_method_7_code
def yX6_settleDownTo : MethodName := ⟨RX6, "settleDownTo", "(I)V"⟩
abbrev cX6_addStep : ByteArray := prog_8_method_8_code
def yX6_addStep : MethodName := ⟨RX6, "addStep", "(I)V"⟩
abbrev cX6_addWaiting : ByteArray := prog_8_method_9_code
def yX6_addWaiting : MethodName := ⟨RX6, "addWaiting", "(C)V"⟩
abbrev cX6_binding : ByteArray := prog_8_method_10_code
def yX6_binding : MethodName := ⟨RX6, "binding", "(C)I"⟩
abbrev cX6_isTrait : ByteArray := prog_8_method_11_code
def yX6_isTrait : MethodName := ⟨RX6, "isTrait", "(I)Z"⟩
abbrev cX6_price : ByteArray := prog_8_method_12_code
def yX6_price : MethodName := ⟨RX6, "price", "(III)I"⟩
abbrev cX6_trait : ByteArray := prog_8_method_13_code
def yX6_trait : MethodName := ⟨RX6, "trait", "(IIII)I"⟩
abbrev cX6_joined : ByteArray := prog_8_method_14_code
def yX6_joined : MethodName := ⟨RX6, "joined", "(III)I"⟩
def RX7 : String := "BeadRings$Stall"
def TX7 : u_T := fun k => match k with
  | 0 => ("BeadRings$Stall", "rows", "[I", true)
  | 1 => ("BeadRings$Stall", "sizes", "[I", true)
  | 2 => ("BeadRings$Stall", "stocked", "[I", true)
  | 3 => ("BeadRings$Stall", "number", "I", false)
  | _ => ("BeadRings$Stall", "purse", "I", false)
def tyX7 : Nat → FieldType := fun k => match k with
  | 0 => .array .int
  | 1 => .array .int
  | 2 => .array .int
  | 3 => .int
  | _ => .int
abbrev wsX70 : List Cond := u_ws RX7 TX7 5
theorem nmX7 : ∀ a, a < 5 → ∀ b, b < 5 → a ≠ b → (TX7 a).2.1 ≠ (TX7 b).2.1 := by decide +kernel
theorem tyX7_ok : ∀ k, k < 5 → parseFieldDescriptor (TX7 k).2.2.1 = some (tyX7 k) := by decide +kernel
abbrev cX7_init : ByteArray := prog_9_method_1_code
def yX7_init : MethodName := ⟨RX7, "<init>", "()V"⟩
abbrev cX7_copyFrom : ByteArray := prog_9_method_2_code
def yX7_copyFrom : MethodName := ⟨RX7, "copyFrom", "(LBeadRings$Stall;)V"⟩
abbrev cX7_lacks : ByteArray := prog_9_method_3_code
def yX7_lacks : MethodName := ⟨RX7, "lacks", "(I)Z"⟩
abbrev cX7_lacksBead : ByteArray := prog_9_method_4_code
def yX7_lacksBead : MethodName := ⟨RX7, "lacksBead", "(II)Z"⟩
abbrev cX7_hasBeadsFor : ByteArray := prog_9_method_5_code
def yX7_hasBeadsFor : MethodName := ⟨RX7, "hasBeadsFor", "(II)Z"⟩
abbrev cX7_putBack : ByteArray := prog_9_method_6_code
def yX7_putBack : MethodName := ⟨RX7, "putBack", "(II)V"⟩
abbrev cX7_stockFrom : ByteArray := prog_9_method_7_code
def yX7_stockFrom : MethodName := ⟨RX7, "stockFrom", "(IIII)V"⟩
abbrev cX7_string : ByteArray := prog_9_method_8_code
def yX7_string : MethodName := ⟨RX7, "string", "(II)I"⟩
abbrev cX7_roll : ByteArray := prog_9_method_9_code
def yX7_roll : MethodName := ⟨RX7, "roll", "(II)I"⟩
abbrev cX7_flip : ByteArray := prog_9_method_10_code
def yX7_flip : MethodName := ⟨RX7, "flip", "(I)I"⟩
abbrev cX7_swap : ByteArray := prog_9_method_11_code
def yX7_swap : MethodName := ⟨RX7, "swap", "(II)I"⟩
abbrev cX7_thread : ByteArray := prog_9_method_12_code
def yX7_thread : MethodName := ⟨RX7, "thread", "(III)I"⟩
abbrev cX7_cut : ByteArray := prog_9_method_13_code
def yX7_cut : MethodName := ⟨RX7, "cut", "(II)I"⟩
abbrev cX7_join : ByteArray := prog_9_method_14_code
def yX7_join : MethodName := ⟨RX7, "join", "(II)I"⟩
abbrev cX7_part : ByteArray := prog_9_method_15_code
def yX7_part : MethodName := ⟨RX7, "part", "(I)I"⟩
abbrev cX7_sell : ByteArray := prog_9_method_16_code
def yX7_sell : MethodName := ⟨RX7, "sell", "(ILBeadRings$Rule;)I"⟩
abbrev cX7_buy : ByteArray := prog_9_method_17_code
def yX7_buy : MethodName := ⟨RX7, "buy", "(II)I"⟩
abbrev cX7_drop : ByteArray := prog_9_method_18_code
def yX7_drop : MethodName := ⟨RX7, "drop", "(I)V"⟩
abbrev cX7_leastRow : ByteArray := prog_9_method_19_code
def yX7_leastRow : MethodName := ⟨RX7, "leastRow", "(I)I"⟩
abbrev cX7_othersAlike : ByteArray := prog_9_method_20_code
def yX7_othersAlike : MethodName := ⟨RX7, "othersAlike", "(I)I"⟩
abbrev cX7_firstAlike : ByteArray := prog_9_method_21_code
def yX7_firstAlike : MethodName := ⟨RX7, "firstAlike", "(I)I"⟩
abbrev cX7_kindNumber : ByteArray := prog_9_method_22_code
def yX7_kindNumber : MethodName := ⟨RX7, "kindNumber", "()I"⟩
abbrev cX7_priceOf : ByteArray := prog_9_method_23_code
def yX7_priceOf : MethodName := ⟨RX7, "priceOf", "(ILBeadRings$Rule;)I"⟩
abbrev cX7_pricesOfAll : ByteArray := prog_9_method_24_code
def yX7_pricesOfAll : MethodName := ⟨RX7, "pricesOfAll", "(LBeadRings$Rule;)I"⟩
abbrev cX7_beadsOfAll : ByteArray := prog_9_method_25_code
def yX7_beadsOfAll : MethodName := ⟨RX7, "beadsOfAll", "()I"⟩
abbrev cX7_stockOfAll : ByteArray := prog_9_method_26_code
def yX7_stockOfAll : MethodName := ⟨RX7, "stockOfAll", "()I"⟩
def RX8 : String := "BeadRings$Text"
def TX8 : u_T := fun k => match k with
  | 0 => ("BeadRings$Text", "signs", "[C", true)
  | 1 => ("BeadRings$Text", "length", "I", false)
  | 2 => ("BeadRings$Text", "word", "I", false)
  | _ => ("BeadRings$Text", "wordSize", "I", false)
def tyX8 : Nat → FieldType := fun k => match k with
  | 0 => .array .char
  | 1 => .int
  | 2 => .int
  | _ => .int
abbrev wsX80 : List Cond := u_ws RX8 TX8 4
theorem nmX8 : ∀ a, a < 4 → ∀ b, b < 4 → a ≠ b → (TX8 a).2.1 ≠ (TX8 b).2.1 := by decide +kernel
theorem tyX8_ok : ∀ k, k < 4 → parseFieldDescriptor (TX8 k).2.2.1 = some (tyX8 k) := by decide +kernel
abbrev cX8_init : ByteArray := prog_10_method_1_code
def yX8_init : MethodName := ⟨RX8, "<init>", "()V"⟩
abbrev cX8_size : ByteArray := prog_10_method_2_code
def yX8_size : MethodName := ⟨RX8, "size", "()I"⟩
abbrev cX8_signAt : ByteArray := prog_10_method_3_code
def yX8_signAt : MethodName := ⟨RX8, "signAt", "(I)C"⟩
abbrev cX8_append : ByteArray := prog_10_method_4_code
def yX8_append : MethodName := ⟨RX8, "append", "(I)I"⟩
abbrev cX8_shorten : ByteArray := prog_10_method_5_code
def yX8_shorten : MethodName := ⟨RX8, "shorten", "(I)Z"⟩
abbrev cX8_empty : ByteArray := prog_10_method_6_code
def yX8_empty : MethodName := ⟨RX8, "empty", "()V"⟩
abbrev cX8_takeWord : ByteArray := prog_10_method_7_code
def yX8_takeWord : MethodName := ⟨RX8, "takeWord", "()I"⟩
def RX9 : String := "BeadRings$Told"
def TX9 : u_T := fun k => match k with
  | 0 => ("BeadRings$Told", "numbers", "[I", true)
  | _ => ("BeadRings$Told", "size", "I", false)
def tyX9 : Nat → FieldType := fun k => match k with
  | 0 => .array .int
  | _ => .int
abbrev wsX90 : List Cond := u_ws RX9 TX9 2
theorem nmX9 : ∀ a, a < 2 → ∀ b, b < 2 → a ≠ b → (TX9 a).2.1 ≠ (TX9 b).2.1 := by decide +kernel
theorem tyX9_ok : ∀ k, k < 2 → parseFieldDescriptor (TX9 k).2.2.1 = some (tyX9 k) := by decide +kernel
abbrev cX9_init : ByteArray := prog_11_method_1_code
def yX9_init : MethodName := ⟨RX9, "<init>", "()V"⟩
abbrev cX9_begin : ByteArray := prog_11_method_2_code
def yX9_begin : MethodName := ⟨RX9, "begin", "()V"⟩
abbrev cX9_add : ByteArray := prog_11_method_3_code
def yX9_add : MethodName := ⟨RX9, "add", "(I)V"⟩
abbrev cX9_addRow : ByteArray := prog_11_method_4_code
def yX9_addRow : MethodName := ⟨RX9, "addRow", "(II)V"⟩
def RX10 : String := "BeadRings"
def TX10 : u_T := fun k => match k with
  | 0 => ("BeadRings", "stall", "LBeadRings$Stall;", true)
  | 1 => ("BeadRings", "drawnStall", "LBeadRings$Stall;", true)
  | 2 => ("BeadRings", "past", "LBeadRings$Past;", true)
  | 3 => ("BeadRings", "text", "LBeadRings$Text;", true)
  | 4 => ("BeadRings", "told", "LBeadRings$Told;", true)
  | 5 => ("BeadRings", "lists", "LBeadRings$KindLists;", true)
  | 6 => ("BeadRings", "feltBeads", "LBeadRings$Clues;", true)
  | 7 => ("BeadRings", "hearsay", "LBeadRings$Clues;", true)
  | 8 => ("BeadRings", "tally", "[I", true)
  | 9 => ("BeadRings", "leastRows", "[I", true)
  | 10 => ("BeadRings", "inForce", "LBeadRings$Rule;", false)
  | 11 => ("BeadRings", "draft", "LBeadRings$Rule;", false)
  | _ => ("BeadRings", "drawn", "I", false)
def tyX10 : Nat → FieldType := fun k => match k with
  | 0 => .object "BeadRings$Stall"
  | 1 => .object "BeadRings$Stall"
  | 2 => .object "BeadRings$Past"
  | 3 => .object "BeadRings$Text"
  | 4 => .object "BeadRings$Told"
  | 5 => .object "BeadRings$KindLists"
  | 6 => .object "BeadRings$Clues"
  | 7 => .object "BeadRings$Clues"
  | 8 => .array .int
  | 9 => .array .int
  | 10 => .object "BeadRings$Rule"
  | 11 => .object "BeadRings$Rule"
  | _ => .int
abbrev wsX100 : List Cond := u_ws RX10 TX10 13
theorem nmX10 : ∀ a, a < 13 → ∀ b, b < 13 → a ≠ b → (TX10 a).2.1 ≠ (TX10 b).2.1 := by decide +kernel
theorem tyX10_ok : ∀ k, k < 13 → parseFieldDescriptor (TX10 k).2.2.1 = some (tyX10 k) := by decide +kernel
abbrev cX10_init : ByteArray := prog_1_method_1_code
def yX10_init : MethodName := ⟨RX10, "<init>", "()V"⟩
abbrev cX10_sign : ByteArray := prog_1_method_2_code
def yX10_sign : MethodName := ⟨RX10, "sign", "(I)I"⟩
abbrev cX10_end : ByteArray := prog_1_method_3_code
def yX10_end : MethodName := ⟨RX10, "end", "(I)Z"⟩
abbrev cX10_strings : ByteArray := prog_1_method_4_code
def yX10_strings : MethodName := ⟨RX10, "strings", "()I"⟩
abbrev cX10_rule : ByteArray := prog_1_method_5_code
def yX10_rule : MethodName := ⟨RX10, "rule", "()I"⟩
abbrev cX10_bracelet : ByteArray := prog_1_method_6_code
def yX10_bracelet : MethodName := ⟨RX10, "bracelet", "(II)I"⟩
abbrev cX10_bead : ByteArray := prog_1_method_7_code
def yX10_bead : MethodName := ⟨RX10, "bead", "(II)I"⟩
abbrev cX10_stock : ByteArray := prog_1_method_8_code
def yX10_stock : MethodName := ⟨RX10, "stock", "(I)I"⟩
abbrev cX10_sheet : ByteArray := prog_1_method_9_code
def yX10_sheet : MethodName := ⟨RX10, "sheet", "(IIII)I"⟩
abbrev cX10_rolls : ByteArray := prog_1_method_10_code
def yX10_rolls : MethodName := ⟨RX10, "rolls", "(II)I"⟩
abbrev cX10_flips : ByteArray := prog_1_method_11_code
def yX10_flips : MethodName := ⟨RX10, "flips", "(I)I"⟩
abbrev cX10_swaps : ByteArray := prog_1_method_12_code
def yX10_swaps : MethodName := ⟨RX10, "swaps", "(II)I"⟩
abbrev cX10_threads : ByteArray := prog_1_method_13_code
def yX10_threads : MethodName := ⟨RX10, "threads", "(III)I"⟩
abbrev cX10_cuts : ByteArray := prog_1_method_14_code
def yX10_cuts : MethodName := ⟨RX10, "cuts", "(II)I"⟩
abbrev cX10_joins : ByteArray := prog_1_method_15_code
def yX10_joins : MethodName := ⟨RX10, "joins", "(II)I"⟩
abbrev cX10_parts : ByteArray := prog_1_method_16_code
def yX10_parts : MethodName := ⟨RX10, "parts", "(I)I"⟩
abbrev cX10_sells : ByteArray := prog_1_method_17_code
def yX10_sells : MethodName := ⟨RX10, "sells", "(I)I"⟩
abbrev cX10_buys : ByteArray := prog_1_method_18_code
def yX10_buys : MethodName := ⟨RX10, "buys", "(II)I"⟩
abbrev cX10_day : ByteArray := prog_1_method_19_code
def yX10_day : MethodName := ⟨RX10, "day", "()I"⟩
abbrev cX10_undo : ByteArray := prog_1_method_20_code
def yX10_undo : MethodName := ⟨RX10, "undo", "()I"⟩
abbrev cX10_least : ByteArray := prog_1_method_21_code
def yX10_least : MethodName := ⟨RX10, "least", "(I)I"⟩
abbrev cX10_alike : ByteArray := prog_1_method_22_code
def yX10_alike : MethodName := ⟨RX10, "alike", "(II)I"⟩
abbrev cX10_kinds : ByteArray := prog_1_method_23_code
def yX10_kinds : MethodName := ⟨RX10, "kinds", "()I"⟩
abbrev cX10_far : ByteArray := prog_1_method_24_code
def yX10_far : MethodName := ⟨RX10, "far", "(II)I"⟩
abbrev cX10_finds : ByteArray := prog_1_method_25_code
def yX10_finds : MethodName := ⟨RX10, "finds", "(I)I"⟩
abbrev cX10_words : ByteArray := prog_1_method_26_code
def yX10_words : MethodName := ⟨RX10, "words", "(II)I"⟩
abbrev cX10_twice : ByteArray := prog_1_method_27_code
def yX10_twice : MethodName := ⟨RX10, "twice", "(I)I"⟩
abbrev cX10_arc : ByteArray := prog_1_method_28_code
def yX10_arc : MethodName := ⟨RX10, "arc", "(I)I"⟩
abbrev cX10_many : ByteArray := prog_1_method_29_code
def yX10_many : MethodName := ⟨RX10, "many", "(II)I"⟩
abbrev cX10_ways : ByteArray := prog_1_method_30_code
def yX10_ways : MethodName := ⟨RX10, "ways", "()I"⟩
abbrev cX10_nth : ByteArray := prog_1_method_31_code
def yX10_nth : MethodName := ⟨RX10, "nth", "(III)I"⟩
abbrev cX10_rank : ByteArray := prog_1_method_32_code
def yX10_rank : MethodName := ⟨RX10, "rank", "(I)I"⟩
abbrev cX10_next : ByteArray := prog_1_method_33_code
def yX10_next : MethodName := ⟨RX10, "next", "(I)I"⟩
abbrev cX10_once : ByteArray := prog_1_method_34_code
def yX10_once : MethodName := ⟨RX10, "once", "(II)I"⟩
abbrev cX10_made : ByteArray := prog_1_method_35_code
def yX10_made : MethodName := ⟨RX10, "made", "(I)I"⟩
abbrev cX10_dear : ByteArray := prog_1_method_36_code
def yX10_dear : MethodName := ⟨RX10, "dear", "(I)I"⟩
abbrev cX10_odds : ByteArray := prog_1_method_37_code
def yX10_odds : MethodName := ⟨RX10, "odds", "(I)I"⟩
abbrev cX10_felt : ByteArray := prog_1_method_38_code
def yX10_felt : MethodName := ⟨RX10, "felt", "(II)I"⟩
abbrev cX10_forget : ByteArray := prog_1_method_39_code
def yX10_forget : MethodName := ⟨RX10, "forget", "()I"⟩
abbrev cX10_guess : ByteArray := prog_1_method_40_code
def yX10_guess : MethodName := ⟨RX10, "guess", "(I)I"⟩
abbrev cX10_feels : ByteArray := prog_1_method_41_code
def yX10_feels : MethodName := ⟨RX10, "feels", "(I)I"⟩
abbrev cX10_heard : ByteArray := prog_1_method_42_code
def yX10_heard : MethodName := ⟨RX10, "heard", "(II)I"⟩
abbrev cX10_denies : ByteArray := prog_1_method_43_code
def yX10_denies : MethodName := ⟨RX10, "denies", "()I"⟩
abbrev cX10_fits : ByteArray := prog_1_method_44_code
def yX10_fits : MethodName := ⟨RX10, "fits", "()I"⟩
abbrev cX10_asks : ByteArray := prog_1_method_45_code
def yX10_asks : MethodName := ⟨RX10, "asks", "()I"⟩
abbrev cX10_ring : ByteArray := prog_1_method_46_code
def yX10_ring : MethodName := ⟨RX10, "ring", "(I)I"⟩
abbrev cX10_law : ByteArray := prog_1_method_47_code
def yX10_law : MethodName := ⟨RX10, "law", "()I"⟩
abbrev cX10_bargains : ByteArray := prog_1_method_48_code
def yX10_bargains : MethodName := ⟨RX10, "bargains", "(I)I"⟩
abbrev cX10_years : ByteArray := prog_1_method_49_code
def yX10_years : MethodName := ⟨RX10, "years", "(II)I"⟩
abbrev cX10_keep : ByteArray := prog_1_method_50_code
def yX10_keep : MethodName := ⟨RX10, "keep", "(I)Z"⟩
abbrev cX10_again : ByteArray := prog_1_method_51_code
def yX10_again : MethodName := ⟨RX10, "again", "(I)Z"⟩
abbrev cX10_count : ByteArray := prog_1_method_52_code
def yX10_count : MethodName := ⟨RX10, "count", "(I)I"⟩
abbrev cX10_row : ByteArray := prog_1_method_53_code
def yX10_row : MethodName := ⟨RX10, "row", "(I)J"⟩
abbrev cX10_addOnce : ByteArray := prog_1_method_54_code
def yX10_addOnce : MethodName := ⟨RX10, "addOnce", "(IIIII)V"⟩
abbrev cX10_noteLeastRows : ByteArray := prog_1_method_55_code
def yX10_noteLeastRows : MethodName := ⟨RX10, "noteLeastRows", "(I)V"⟩
abbrev cX10_numberNoted : ByteArray := prog_1_method_56_code
def yX10_numberNoted : MethodName := ⟨RX10, "numberNoted", "(I)I"⟩
abbrev cX10_hasNoBetter : ByteArray := prog_1_method_57_code
def yX10_hasNoBetter : MethodName := ⟨RX10, "hasNoBetter", "(III)Z"⟩
abbrev cX10_share : ByteArray := prog_1_method_58_code
def yX10_share : MethodName := ⟨RX10, "share", "(III)I"⟩
abbrev cX10_passYear : ByteArray := prog_1_method_59_code
def yX10_passYear : MethodName := ⟨RX10, "passYear", "()V"⟩
abbrev cX10_draw : ByteArray := prog_1_method_60_code
def yX10_draw : MethodName := ⟨RX10, "draw", "(I)I"⟩
def RX11 : String := "BeadRingsModel"
def TX11 : u_T := fun k => match k with
  | 0 => ("BeadRingsModel", "thrown", "I", false)
  | 1 => ("BeadRingsModel", "told", "I", false)
  | 2 => ("BeadRingsModel", "row", "[J", true)
  | 3 => ("BeadRingsModel", "now", "[I", true)
  | 4 => ("BeadRingsModel", "then", "[I", true)
  | 5 => ("BeadRingsModel", "tape", "[I", true)
  | 6 => ("BeadRingsModel", "taped", "I", false)
  | 7 => ("BeadRingsModel", "at", "I", false)
  | 8 => ("BeadRingsModel", "to", "I", false)
  | 9 => ("BeadRingsModel", "nest", "I", false)
  | 10 => ("BeadRingsModel", "word", "[I", true)
  | 11 => ("BeadRingsModel", "wordLong", "I", false)
  | 12 => ("BeadRingsModel", "look", "[I", true)
  | 13 => ("BeadRingsModel", "lookLong", "I", false)
  | 14 => ("BeadRingsModel", "code", "[I", true)
  | 15 => ("BeadRingsModel", "readCode", "[I", true)
  | 16 => ("BeadRingsModel", "codeLong", "I", false)
  | 17 => ("BeadRingsModel", "codesRead", "I", false)
  | 18 => ("BeadRingsModel", "stack", "[I", true)
  | 19 => ("BeadRingsModel", "asked", "[I", true)
  | 20 => ("BeadRingsModel", "undos", "I", false)
  | 21 => ("BeadRingsModel", "undone", "[I", true)
  | 22 => ("BeadRingsModel", "spare", "[I", true)
  | 23 => ("BeadRingsModel", "actSign", "[I", true)
  | 24 => ("BeadRingsModel", "actOne", "[I", true)
  | 25 => ("BeadRingsModel", "actTwo", "[I", true)
  | 26 => ("BeadRingsModel", "actThree", "[I", true)
  | 27 => ("BeadRingsModel", "acts", "I", false)
  | 28 => ("BeadRingsModel", "content", "[I", true)
  | 29 => ("BeadRingsModel", "rankColours", "I", false)
  | 30 => ("BeadRingsModel", "rankNumber", "I", false)
  | 31 => ("BeadRingsModel", "around", "[I", true)
  | 32 => ("BeadRingsModel", "been", "[Z", true)
  | 33 => ("BeadRingsModel", "feltMany", "I", false)
  | 34 => ("BeadRingsModel", "feltBead", "[I", true)
  | 35 => ("BeadRingsModel", "feltColour", "[I", true)
  | 36 => ("BeadRingsModel", "heardMany", "I", false)
  | 37 => ("BeadRingsModel", "heardWhat", "[I", true)
  | 38 => ("BeadRingsModel", "heardOf", "[I", true)
  | 39 => ("BeadRingsModel", "worth", "[I", true)
  | 40 => ("BeadRingsModel", "isThere", "[Z", true)
  | 41 => ("BeadRingsModel", "wasCode", "[I", true)
  | 42 => ("BeadRingsModel", "random", "I", false)
  | 43 => ("BeadRingsModel", "isKept", "[Z", true)
  | _ => ("BeadRingsModel", "kept", "[I", true)
def tyX11 : Nat → FieldType := fun k => match k with
  | 0 => .int
  | 1 => .int
  | 2 => .array .long
  | 3 => .array .int
  | 4 => .array .int
  | 5 => .array .int
  | 6 => .int
  | 7 => .int
  | 8 => .int
  | 9 => .int
  | 10 => .array .int
  | 11 => .int
  | 12 => .array .int
  | 13 => .int
  | 14 => .array .int
  | 15 => .array .int
  | 16 => .int
  | 17 => .int
  | 18 => .array .int
  | 19 => .array .int
  | 20 => .int
  | 21 => .array .int
  | 22 => .array .int
  | 23 => .array .int
  | 24 => .array .int
  | 25 => .array .int
  | 26 => .array .int
  | 27 => .int
  | 28 => .array .int
  | 29 => .int
  | 30 => .int
  | 31 => .array .int
  | 32 => .array .boolean
  | 33 => .int
  | 34 => .array .int
  | 35 => .array .int
  | 36 => .int
  | 37 => .array .int
  | 38 => .array .int
  | 39 => .array .int
  | 40 => .array .boolean
  | 41 => .array .int
  | 42 => .int
  | 43 => .array .boolean
  | _ => .array .int
abbrev wsX110 : List Cond := u_ws RX11 TX11 45
theorem nmX11 : ∀ a, a < 45 → ∀ b, b < 45 → a ≠ b → (TX11 a).2.1 ≠ (TX11 b).2.1 := by decide +kernel
theorem tyX11_ok : ∀ k, k < 45 → parseFieldDescriptor (TX11 k).2.2.1 = some (tyX11 k) := by decide +kernel
abbrev cX11_thrown : ByteArray := prog_13_method_1_code
def yX11_thrown : MethodName := ⟨RX11, "thrown", "()I"⟩
abbrev cX11_refuse : ByteArray := prog_13_method_2_code
def yX11_refuse : MethodName := ⟨RX11, "refuse", "()I"⟩
abbrev cX11_in : ByteArray := prog_13_method_3_code
def yX11_in : MethodName := ⟨RX11, "in", "(JJJ)Z"⟩
abbrev cX11_has : ByteArray := prog_13_method_4_code
def yX11_has : MethodName := ⟨RX11, "has", "(II)Z"⟩
abbrev cX11_flag : ByteArray := prog_13_method_5_code
def yX11_flag : MethodName := ⟨RX11, "flag", "(Z)I"⟩
abbrev cX11_common : ByteArray := prog_13_method_6_code
def yX11_common : MethodName := ⟨RX11, "common", "(JJ)J"⟩
abbrev cX11_enters : ByteArray := prog_13_method_7_code
def yX11_enters : MethodName := ⟨RX11, "enters", "(J)V"⟩
abbrev cX11_entersFraction : ByteArray := prog_13_method_8_code
def yX11_entersFraction : MethodName := ⟨RX11, "entersFraction", "(JJ)I"⟩
abbrev cX11_init : ByteArray := prog_13_method_9_code
def yX11_init : MethodName := ⟨RX11, "<init>", "()V"⟩
abbrev cX11_isRing : ByteArray := prog_13_method_10_code
def yX11_isRing : MethodName := ⟨RX11, "isRing", "(I)Z"⟩
abbrev cX11_beadAt : ByteArray := prog_13_method_11_code
def yX11_beadAt : MethodName := ⟨RX11, "beadAt", "([III)I"⟩
abbrev cX11_stockOf : ByteArray := prog_13_method_12_code
def yX11_stockOf : MethodName := ⟨RX11, "stockOf", "([I)I"⟩
abbrev cX11_beadsOf : ByteArray := prog_13_method_13_code
def yX11_beadsOf : MethodName := ⟨RX11, "beadsOf", "([I)I"⟩
abbrev cX11_sign : ByteArray := prog_13_method_14_code
def yX11_sign : MethodName := ⟨RX11, "sign", "(I)I"⟩
abbrev cX11_end : ByteArray := prog_13_method_15_code
def yX11_end : MethodName := ⟨RX11, "end", "(I)Z"⟩
abbrev cX11_begins : ByteArray := prog_13_method_16_code
def yX11_begins : MethodName := ⟨RX11, "begins", "(I)I"⟩
abbrev cX11_takes : ByteArray := prog_13_method_17_code
def yX11_takes : MethodName := ⟨RX11, "takes", "(I)Z"⟩
abbrev cX11_isDigit : ByteArray := prog_13_method_18_code
def yX11_isDigit : MethodName := ⟨RX11, "isDigit", "()Z"⟩
abbrev cX11_takesOf : ByteArray := prog_13_method_19_code
def yX11_takesOf : MethodName := ⟨RX11, "takesOf", "(Ljava/lang/String;)I"⟩
abbrev cX11_number : ByteArray := prog_13_method_20_code
def yX11_number : MethodName := ⟨RX11, "number", "(I)I"⟩
abbrev cX11_digitIn : ByteArray := prog_13_method_21_code
def yX11_digitIn : MethodName := ⟨RX11, "digitIn", "(II)I"⟩
abbrev cX11_faultOf : ByteArray := prog_13_method_22_code
def yX11_faultOf : MethodName := ⟨RX11, "faultOf", "(IIZ)I"⟩
abbrev cX11_readsWord : ByteArray := prog_13_method_23_code
def yX11_readsWord : MethodName := ⟨RX11, "readsWord", "()I"⟩
abbrev cX11_ofWord : ByteArray := prog_13_method_24_code
def yX11_ofWord : MethodName := ⟨RX11, "ofWord", "(I)I"⟩
abbrev cX11_looksAt : ByteArray := prog_13_method_25_code
def yX11_looksAt : MethodName := ⟨RX11, "looksAt", "([II)V"⟩
abbrev cX11_turnedOf : ByteArray := prog_13_method_26_code
def yX11_turnedOf : MethodName := ⟨RX11, "turnedOf", "([IIII)I"⟩
abbrev cX11_tellsTurning : ByteArray := prog_13_method_27_code
def yX11_tellsTurning : MethodName := ⟨RX11, "tellsTurning", "(II)I"⟩
abbrev cX11_compares : ByteArray := prog_13_method_28_code
def yX11_compares : MethodName := ⟨RX11, "compares", "(II)I"⟩
abbrev cX11_leastTurning : ByteArray := prog_13_method_29_code
def yX11_leastTurning : MethodName := ⟨RX11, "leastTurning", "()I"⟩
abbrev cX11_isLeast : ByteArray := prog_13_method_30_code
def yX11_isLeast : MethodName := ⟨RX11, "isLeast", "()Z"⟩
abbrev cX11_entersLeast : ByteArray := prog_13_method_31_code
def yX11_entersLeast : MethodName := ⟨RX11, "entersLeast", "()V"⟩
abbrev cX11_ofLook : ByteArray := prog_13_method_32_code
def yX11_ofLook : MethodName := ⟨RX11, "ofLook", "(I)I"⟩
abbrev cX11_offBy : ByteArray := prog_13_method_33_code
def yX11_offBy : MethodName := ⟨RX11, "offBy", "([III)I"⟩
abbrev cX11_isAlike : ByteArray := prog_13_method_34_code
def yX11_isAlike : MethodName := ⟨RX11, "isAlike", "([II)Z"⟩
abbrev cX11_alikeMany : ByteArray := prog_13_method_35_code
def yX11_alikeMany : MethodName := ⟨RX11, "alikeMany", "([II)I"⟩
abbrev cX11_period : ByteArray := prog_13_method_36_code
def yX11_period : MethodName := ⟨RX11, "period", "()I"⟩
abbrev cX11_mirrors : ByteArray := prog_13_method_37_code
def yX11_mirrors : MethodName := ⟨RX11, "mirrors", "()I"⟩
abbrev cX11_mostOfOne : ByteArray := prog_13_method_38_code
def yX11_mostOfOne : MethodName := ⟨RX11, "mostOfOne", "()I"⟩
abbrev cX11_coloursOf : ByteArray := prog_13_method_39_code
def yX11_coloursOf : MethodName := ⟨RX11, "coloursOf", "()I"⟩
abbrev cX11_codes : ByteArray := prog_13_method_40_code
def yX11_codes : MethodName := ⟨RX11, "codes", "(I)V"⟩
abbrev cX11_readsThing : ByteArray := prog_13_method_41_code
def yX11_readsThing : MethodName := ⟨RX11, "readsThing", "()Z"⟩
abbrev cX11_readsRank : ByteArray := prog_13_method_42_code
def yX11_readsRank : MethodName := ⟨RX11, "readsRank", "(I)Z"⟩
abbrev cX11_readsRule : ByteArray := prog_13_method_43_code
def yX11_readsRule : MethodName := ⟨RX11, "readsRule", "()I"⟩
abbrev cX11_laysCode : ByteArray := prog_13_method_44_code
def yX11_laysCode : MethodName := ⟨RX11, "laysCode", "([II)V"⟩
abbrev cX11_rule : ByteArray := prog_13_method_45_code
def yX11_rule : MethodName := ⟨RX11, "rule", "()I"⟩
abbrev cX11_worked : ByteArray := prog_13_method_46_code
def yX11_worked : MethodName := ⟨RX11, "worked", "(III)I"⟩
abbrev cX11_ruled : ByteArray := prog_13_method_47_code
def yX11_ruled : MethodName := ⟨RX11, "ruled", "()I"⟩
abbrev cX11_priceOfLook : ByteArray := prog_13_method_48_code
def yX11_priceOfLook : MethodName := ⟨RX11, "priceOfLook", "([II)I"⟩
abbrev cX11_price : ByteArray := prog_13_method_49_code
def yX11_price : MethodName := ⟨RX11, "price", "([II)I"⟩
abbrev cX11_prices : ByteArray := prog_13_method_50_code
def yX11_prices : MethodName := ⟨RX11, "prices", "()I"⟩
abbrev cX11_bracelet : ByteArray := prog_13_method_51_code
def yX11_bracelet : MethodName := ⟨RX11, "bracelet", "(II)I"⟩
abbrev cX11_bead : ByteArray := prog_13_method_52_code
def yX11_bead : MethodName := ⟨RX11, "bead", "(II)I"⟩
abbrev cX11_stock : ByteArray := prog_13_method_53_code
def yX11_stock : MethodName := ⟨RX11, "stock", "(I)I"⟩
abbrev cX11_sheet : ByteArray := prog_13_method_54_code
def yX11_sheet : MethodName := ⟨RX11, "sheet", "(IIII)I"⟩
abbrev cX11_putsBy : ByteArray := prog_13_method_55_code
def yX11_putsBy : MethodName := ⟨RX11, "putsBy", "()V"⟩
abbrev cX11_adds : ByteArray := prog_13_method_56_code
def yX11_adds : MethodName := ⟨RX11, "adds", "(I)I"⟩
abbrev cX11_counted : ByteArray := prog_13_method_57_code
def yX11_counted : MethodName := ⟨RX11, "counted", "(I)I"⟩
abbrev cX11_undo : ByteArray := prog_13_method_58_code
def yX11_undo : MethodName := ⟨RX11, "undo", "()I"⟩
abbrev cX11_isOf : ByteArray := prog_13_method_59_code
def yX11_isOf : MethodName := ⟨RX11, "isOf", "([II)Z"⟩
abbrev cX11_laysBead : ByteArray := prog_13_method_60_code
def yX11_laysBead : MethodName := ⟨RX11, "laysBead", "([IIII)V"⟩
abbrev cX11_turnsOne : ByteArray := prog_13_method_61_code
def yX11_turnsOne : MethodName := ⟨RX11, "turnsOne", "([III)V"⟩
abbrev cX11_rollsOne : ByteArray := prog_13_method_62_code
def yX11_rollsOne : MethodName := ⟨RX11, "rollsOne", "([III)I"⟩
abbrev cX11_flipsOne : ByteArray := prog_13_method_63_code
def yX11_flipsOne : MethodName := ⟨RX11, "flipsOne", "([II)I"⟩
abbrev cX11_swapsOne : ByteArray := prog_13_method_64_code
def yX11_swapsOne : MethodName := ⟨RX11, "swapsOne", "([III)I"⟩
abbrev cX11_threadsOne : ByteArray := prog_13_method_65_code
def yX11_threadsOne : MethodName := ⟨RX11, "threadsOne", "([IIII)I"⟩
abbrev cX11_stores : ByteArray := prog_13_method_66_code
def yX11_stores : MethodName := ⟨RX11, "stores", "([II)V"⟩
abbrev cX11_cutsOne : ByteArray := prog_13_method_67_code
def yX11_cutsOne : MethodName := ⟨RX11, "cutsOne", "([III)I"⟩
abbrev cX11_goes : ByteArray := prog_13_method_68_code
def yX11_goes : MethodName := ⟨RX11, "goes", "([II)V"⟩
abbrev cX11_joinsOne : ByteArray := prog_13_method_69_code
def yX11_joinsOne : MethodName := ⟨RX11, "joinsOne", "([III)I"⟩
abbrev cX11_partsOne : ByteArray := prog_13_method_70_code
def yX11_partsOne : MethodName := ⟨RX11, "partsOne", "([II)I"⟩
abbrev cX11_sellsOne : ByteArray := prog_13_method_71_code
def yX11_sellsOne : MethodName := ⟨RX11, "sellsOne", "([II)I"⟩
abbrev cX11_buysOne : ByteArray := prog_13_method_72_code
def yX11_buysOne : MethodName := ⟨RX11, "buysOne", "([III)I"⟩
abbrev cX11_strings : ByteArray := prog_13_method_73_code
def yX11_strings : MethodName := ⟨RX11, "strings", "()I"⟩
abbrev cX11_rolls : ByteArray := prog_13_method_74_code
def yX11_rolls : MethodName := ⟨RX11, "rolls", "(II)I"⟩
abbrev cX11_flips : ByteArray := prog_13_method_75_code
def yX11_flips : MethodName := ⟨RX11, "flips", "(I)I"⟩
abbrev cX11_swaps : ByteArray := prog_13_method_76_code
def yX11_swaps : MethodName := ⟨RX11, "swaps", "(II)I"⟩
abbrev cX11_threads : ByteArray := prog_13_method_77_code
def yX11_threads : MethodName := ⟨RX11, "threads", "(III)I"⟩
abbrev cX11_cuts : ByteArray := prog_13_method_78_code
def yX11_cuts : MethodName := ⟨RX11, "cuts", "(II)I"⟩
abbrev cX11_joins : ByteArray := prog_13_method_79_code
def yX11_joins : MethodName := ⟨RX11, "joins", "(II)I"⟩
abbrev cX11_parts : ByteArray := prog_13_method_80_code
def yX11_parts : MethodName := ⟨RX11, "parts", "(I)I"⟩
abbrev cX11_sells : ByteArray := prog_13_method_81_code
def yX11_sells : MethodName := ⟨RX11, "sells", "(I)I"⟩
abbrev cX11_buys : ByteArray := prog_13_method_82_code
def yX11_buys : MethodName := ⟨RX11, "buys", "(II)I"⟩
abbrev cX11_readsAct : ByteArray := prog_13_method_83_code
def yX11_readsAct : MethodName := ⟨RX11, "readsAct", "()Z"⟩
abbrev cX11_does : ByteArray := prog_13_method_84_code
def yX11_does : MethodName := ⟨RX11, "does", "(I)Z"⟩
abbrev cX11_day : ByteArray := prog_13_method_85_code
def yX11_day : MethodName := ⟨RX11, "day", "()I"⟩
abbrev cX11_least : ByteArray := prog_13_method_86_code
def yX11_least : MethodName := ⟨RX11, "least", "(I)I"⟩
abbrev cX11_alike : ByteArray := prog_13_method_87_code
def yX11_alike : MethodName := ⟨RX11, "alike", "(II)I"⟩
abbrev cX11_firstAlike : ByteArray := prog_13_method_88_code
def yX11_firstAlike : MethodName := ⟨RX11, "firstAlike", "([II)I"⟩
abbrev cX11_kindsOf : ByteArray := prog_13_method_89_code
def yX11_kindsOf : MethodName := ⟨RX11, "kindsOf", "([I)I"⟩
abbrev cX11_kinds : ByteArray := prog_13_method_90_code
def yX11_kinds : MethodName := ⟨RX11, "kinds", "()I"⟩
abbrev cX11_far : ByteArray := prog_13_method_91_code
def yX11_far : MethodName := ⟨RX11, "far", "(II)I"⟩
abbrev cX11_finds : ByteArray := prog_13_method_92_code
def yX11_finds : MethodName := ⟨RX11, "finds", "(I)I"⟩
abbrev cX11_isWord : ByteArray := prog_13_method_93_code
def yX11_isWord : MethodName := ⟨RX11, "isWord", "(III)Z"⟩
abbrev cX11_words : ByteArray := prog_13_method_94_code
def yX11_words : MethodName := ⟨RX11, "words", "(II)I"⟩
abbrev cX11_twice : ByteArray := prog_13_method_95_code
def yX11_twice : MethodName := ⟨RX11, "twice", "(I)I"⟩
abbrev cX11_isSame : ByteArray := prog_13_method_96_code
def yX11_isSame : MethodName := ⟨RX11, "isSame", "(II)Z"⟩
abbrev cX11_arc : ByteArray := prog_13_method_97_code
def yX11_arc : MethodName := ⟨RX11, "arc", "(I)I"⟩
abbrev cX11_power : ByteArray := prog_13_method_98_code
def yX11_power : MethodName := ⟨RX11, "power", "(II)J"⟩
abbrev cX11_ringsOf : ByteArray := prog_13_method_99_code
def yX11_ringsOf : MethodName := ⟨RX11, "ringsOf", "(II)I"⟩
abbrev cX11_many : ByteArray := prog_13_method_100_code
def yX11_many : MethodName := ⟨RX11, "many", "(II)I"⟩
abbrev cX11_newRows : ByteArray := prog_13_method_101_code
def yX11_newRows : MethodName := ⟨RX11, "newRows", "(II)J"⟩
abbrev cX11_rowsOf : ByteArray := prog_13_method_102_code
def yX11_rowsOf : MethodName := ⟨RX11, "rowsOf", "(III)J"⟩
abbrev cX11_oddOnes : ByteArray := prog_13_method_103_code
def yX11_oddOnes : MethodName := ⟨RX11, "oddOnes", "()I"⟩
abbrev cX11_goesInto : ByteArray := prog_13_method_104_code
def yX11_goesInto : MethodName := ⟨RX11, "goesInto", "(I)Z"⟩
abbrev cX11_flippedRows : ByteArray := prog_13_method_105_code
def yX11_flippedRows : MethodName := ⟨RX11, "flippedRows", "(IZ)J"⟩
abbrev cX11_ways : ByteArray := prog_13_method_106_code
def yX11_ways : MethodName := ⟨RX11, "ways", "()I"⟩
abbrev cX11_laysLook : ByteArray := prog_13_method_107_code
def yX11_laysLook : MethodName := ⟨RX11, "laysLook", "(III)V"⟩
abbrev cX11_entersLook : ByteArray := prog_13_method_108_code
def yX11_entersLook : MethodName := ⟨RX11, "entersLook", "()V"⟩
abbrev cX11_nth : ByteArray := prog_13_method_109_code
def yX11_nth : MethodName := ⟨RX11, "nth", "(III)I"⟩
abbrev cX11_laysRank : ByteArray := prog_13_method_110_code
def yX11_laysRank : MethodName := ⟨RX11, "laysRank", "(I)V"⟩
abbrev cX11_rank : ByteArray := prog_13_method_111_code
def yX11_rank : MethodName := ⟨RX11, "rank", "(I)I"⟩
abbrev cX11_next : ByteArray := prog_13_method_112_code
def yX11_next : MethodName := ⟨RX11, "next", "(I)I"⟩
abbrev cX11_wordAt : ByteArray := prog_13_method_113_code
def yX11_wordAt : MethodName := ⟨RX11, "wordAt", "(IIII)I"⟩
abbrev cX11_isOnce : ByteArray := prog_13_method_114_code
def yX11_isOnce : MethodName := ⟨RX11, "isOnce", "(III)Z"⟩
abbrev cX11_wasThere : ByteArray := prog_13_method_115_code
def yX11_wasThere : MethodName := ⟨RX11, "wasThere", "(IIII)Z"⟩
abbrev cX11_laysAround : ByteArray := prog_13_method_116_code
def yX11_laysAround : MethodName := ⟨RX11, "laysAround", "(IIII)Z"⟩
abbrev cX11_once : ByteArray := prog_13_method_117_code
def yX11_once : MethodName := ⟨RX11, "once", "(II)I"⟩
abbrev cX11_isInStock : ByteArray := prog_13_method_118_code
def yX11_isInStock : MethodName := ⟨RX11, "isInStock", "()Z"⟩
abbrev cX11_made : ByteArray := prog_13_method_119_code
def yX11_made : MethodName := ⟨RX11, "made", "(I)I"⟩
abbrev cX11_dear : ByteArray := prog_13_method_120_code
def yX11_dear : MethodName := ⟨RX11, "dear", "(I)I"⟩
abbrev cX11_odds : ByteArray := prog_13_method_121_code
def yX11_odds : MethodName := ⟨RX11, "odds", "(I)I"⟩
abbrev cX11_felt : ByteArray := prog_13_method_122_code
def yX11_felt : MethodName := ⟨RX11, "felt", "(II)I"⟩
abbrev cX11_forget : ByteArray := prog_13_method_123_code
def yX11_forget : MethodName := ⟨RX11, "forget", "()I"⟩
abbrev cX11_clasps : ByteArray := prog_13_method_124_code
def yX11_clasps : MethodName := ⟨RX11, "clasps", "()I"⟩
abbrev cX11_guess : ByteArray := prog_13_method_125_code
def yX11_guess : MethodName := ⟨RX11, "guess", "(I)I"⟩
abbrev cX11_feels : ByteArray := prog_13_method_126_code
def yX11_feels : MethodName := ⟨RX11, "feels", "(I)I"⟩
abbrev cX11_lowest : ByteArray := prog_13_method_127_code
def yX11_lowest : MethodName := ⟨RX11, "lowest", "(I)I"⟩
abbrev cX11_highest : ByteArray := prog_13_method_128_code
def yX11_highest : MethodName := ⟨RX11, "highest", "(I)I"⟩
abbrev cX11_heard : ByteArray := prog_13_method_129_code
def yX11_heard : MethodName := ⟨RX11, "heard", "(II)I"⟩
abbrev cX11_denies : ByteArray := prog_13_method_130_code
def yX11_denies : MethodName := ⟨RX11, "denies", "()I"⟩
abbrev cX11_isSo : ByteArray := prog_13_method_131_code
def yX11_isSo : MethodName := ⟨RX11, "isSo", "(II)Z"⟩
abbrev cX11_fitting : ByteArray := prog_13_method_132_code
def yX11_fitting : MethodName := ⟨RX11, "fitting", "()I"⟩
abbrev cX11_fits : ByteArray := prog_13_method_133_code
def yX11_fits : MethodName := ⟨RX11, "fits", "()I"⟩
abbrev cX11_asks : ByteArray := prog_13_method_134_code
def yX11_asks : MethodName := ⟨RX11, "asks", "()I"⟩
abbrev cX11_laysWorth : ByteArray := prog_13_method_135_code
def yX11_laysWorth : MethodName := ⟨RX11, "laysWorth", "()V"⟩
abbrev cX11_ring : ByteArray := prog_13_method_136_code
def yX11_ring : MethodName := ⟨RX11, "ring", "(I)I"⟩
abbrev cX11_law : ByteArray := prog_13_method_137_code
def yX11_law : MethodName := ⟨RX11, "law", "()I"⟩
abbrev cX11_gets : ByteArray := prog_13_method_138_code
def yX11_gets : MethodName := ⟨RX11, "gets", "(III)I"⟩
abbrev cX11_isRest : ByteArray := prog_13_method_139_code
def yX11_isRest : MethodName := ⟨RX11, "isRest", "(III)Z"⟩
abbrev cX11_bargains : ByteArray := prog_13_method_140_code
def yX11_bargains : MethodName := ⟨RX11, "bargains", "(I)I"⟩
abbrev cX11_draws : ByteArray := prog_13_method_141_code
def yX11_draws : MethodName := ⟨RX11, "draws", "(I)I"⟩
abbrev cX11_drawnDay : ByteArray := prog_13_method_142_code
def yX11_drawnDay : MethodName := ⟨RX11, "drawnDay", "(I)V"⟩
abbrev cX11_years : ByteArray := prog_13_method_143_code
def yX11_years : MethodName := ⟨RX11, "years", "(II)I"⟩
abbrev cX11_keep : ByteArray := prog_13_method_144_code
def yX11_keep : MethodName := ⟨RX11, "keep", "(I)Z"⟩
abbrev cX11_again : ByteArray := prog_13_method_145_code
def yX11_again : MethodName := ⟨RX11, "again", "(I)Z"⟩
abbrev cX11_count : ByteArray := prog_13_method_146_code
def yX11_count : MethodName := ⟨RX11, "count", "(I)I"⟩
abbrev cX11_row : ByteArray := prog_13_method_147_code
def yX11_row : MethodName := ⟨RX11, "row", "(I)J"⟩
def RJ6 : String := "java/lang/Integer"
def TJ6 : u_T := fun k => match k with
  | _ => ("", "", "", false)
def tyJ6 : Nat → FieldType := fun k => match k with
  | _ => .int
abbrev cJ6_numberOfLeadingZeros_0f7a4 : ByteArray := prog_18_method_47_code
def yJ6_numberOfLeadingZeros_0f7a4 : MethodName := ⟨RJ6, "numberOfLeadingZeros", "(I)I"⟩
abbrev cJ6_numberOfTrailingZeros_0f7a4 : ByteArray := prog_18_method_48_code
def yJ6_numberOfTrailingZeros_0f7a4 : MethodName := ⟨RJ6, "numberOfTrailingZeros", "(I)I"⟩
abbrev cJ6_bitCount_0f7a4 : ByteArray := prog_18_method_49_code
def yJ6_bitCount_0f7a4 : MethodName := ⟨RJ6, "bitCount", "(I)I"⟩
def RJ9 : String := "java/lang/Math"
def TJ9 : u_T := fun k => match k with
  | _ => ("", "", "", false)
def tyJ9 : Nat → FieldType := fun k => match k with
  | _ => .int
abbrev cJ9_max_7cf53 : ByteArray := prog_19_method_65_code
def yJ9_max_7cf53 : MethodName := ⟨RJ9, "max", "(II)I"⟩
abbrev cJ9_min_7cf53 : ByteArray := prog_19_method_69_code
def yJ9_min_7cf53 : MethodName := ⟨RJ9, "min", "(II)I"⟩
def RJ0 : String := "java/lang/String"
def TJ0 : u_T := fun k => match k with
  | _ => ("", "", "", false)
def tyJ0 : Nat → FieldType := fun k => match k with
  | _ => .int
abbrev cJ0_length_8abf5 : ByteArray := prog_21_method_54_code
def yJ0_length_8abf5 : MethodName := ⟨RJ0, "length", "()I"⟩
abbrev cJ0_isEmpty_aae02 : ByteArray := prog_21_method_55_code
def yJ0_isEmpty_aae02 : MethodName := ⟨RJ0, "isEmpty", "()Z"⟩
abbrev cJ0_charAt_5068e : ByteArray := prog_21_method_56_code
def yJ0_charAt_5068e : MethodName := ⟨RJ0, "charAt", "(I)C"⟩
abbrev cJ0_coder_7d493 : ByteArray := prog_21_method_152_code
def yJ0_coder_7d493 : MethodName := ⟨RJ0, "coder", "()B"⟩
abbrev cJ0_isLatin1_aae02 : ByteArray := prog_21_method_154_code
def yJ0_isLatin1_aae02 : MethodName := ⟨RJ0, "isLatin1", "()Z"⟩
abbrev cJ0_checkIndex_df160 : ByteArray := prog_21_method_155_code
def yJ0_checkIndex_df160 : MethodName := ⟨RJ0, "checkIndex", "(II)V"⟩
def RJ1 : String := "java/lang/StringLatin1"
def TJ1 : u_T := fun k => match k with
  | _ => ("", "", "", false)
def tyJ1 : Nat → FieldType := fun k => match k with
  | _ => .int
abbrev cJ1_charAt_3b067 : ByteArray := prog_22_method_2_code
def yJ1_charAt_3b067 : MethodName := ⟨RJ1, "charAt", "([BI)C"⟩
def RJ2 : String := "java/lang/StringUTF16"
def TJ2 : u_T := fun k => match k with
  | _ => ("", "", "", false)
def tyJ2 : Nat → FieldType := fun k => match k with
  | _ => .int
abbrev cJ2_getChar_3b067 : ByteArray := prog_23_method_5_code
def yJ2_getChar_3b067 : MethodName := ⟨RJ2, "getChar", "([BI)C"⟩
abbrev cJ2_length_9d52b : ByteArray := prog_23_method_6_code
def yJ2_length_9d52b : MethodName := ⟨RJ2, "length", "([B)I"⟩
abbrev cJ2_charAt_3b067 : ByteArray := prog_23_method_83_code
def yJ2_charAt_3b067 : MethodName := ⟨RJ2, "charAt", "([BI)C"⟩
abbrev cJ2_checkIndex_2214a : ByteArray := prog_23_method_91_code
def yJ2_checkIndex_2214a : MethodName := ⟨RJ2, "checkIndex", "(I[B)V"⟩
def RJ10 : String := "java/lang/System"
def TJ10 : u_T := fun k => match k with
  | _ => ("", "", "", false)
def tyJ10 : Nat → FieldType := fun k => match k with
  | _ => .int
def RJ3 : String := "jdk/internal/util/Preconditions"
def TJ3 : u_T := fun k => match k with
  | _ => ("", "", "", false)
def tyJ3 : Nat → FieldType := fun k => match k with
  | _ => .int
abbrev cJ3_checkIndex_8e157 : ByteArray := prog_29_method_11_code
def yJ3_checkIndex_8e157 : MethodName := ⟨RJ3, "checkIndex", "(IILjava/util/function/BiFunction;)I"⟩
def RL : String := "BeadRingsLaw"
abbrev cL_bracelet : ByteArray := method_3_code
def yL_bracelet : MethodName := ⟨RL, "bracelet", "(LBeadRings;II[J)I"⟩
abbrev cL_bead : ByteArray := method_4_code
def yL_bead : MethodName := ⟨RL, "bead", "(LBeadRings;II[J)I"⟩
abbrev cL_stock : ByteArray := method_5_code
def yL_stock : MethodName := ⟨RL, "stock", "(LBeadRings;I[J)I"⟩
abbrev cL_row : ByteArray := method_6_code
def yL_row : MethodName := ⟨RL, "row", "(LBeadRings;I[J)I"⟩
abbrev cL_law : ByteArray := code
def yL_law : MethodName := ⟨RL, "law", "([I)Z"⟩
abbrev vwCl : List vw_C := [(RX1, TX1, 3), (RX4, TX4, 3), (RX5, TX5, 5), (RX6, TX6, 9), (RX7, TX7, 5), (RX8, TX8, 4), (RX9, TX9, 2), (RX10, TX10, 13), (RX11, TX11, 45)]
theorem inX1 : ∀ w ∈ wsX10, w ∈ lw_tbl := by decide +kernel
theorem inX4 : ∀ w ∈ wsX40, w ∈ lw_tbl := by decide +kernel
theorem inX5 : ∀ w ∈ wsX50, w ∈ lw_tbl := by decide +kernel
theorem inX6 : ∀ w ∈ wsX60, w ∈ lw_tbl := by decide +kernel
theorem inX7 : ∀ w ∈ wsX70, w ∈ lw_tbl := by decide +kernel
theorem inX8 : ∀ w ∈ wsX80, w ∈ lw_tbl := by decide +kernel
theorem inX9 : ∀ w ∈ wsX90, w ∈ lw_tbl := by decide +kernel
theorem inX10 : ∀ w ∈ wsX100, w ∈ lw_tbl := by decide +kernel
theorem inX11 : ∀ w ∈ wsX110, w ∈ lw_tbl := by decide +kernel
end
section
/-! THE ABSTRACT MACHINE (am_): a frame of the JVM over a heap of numbered cells; every answer about a method is proved here, and am_sound ties it to the machine. -/
/-- a cell: an array (its component's type, its length, its contents), or an object (the number of its class in vwCl, its fields); a reference in it is a cell's number -/
abbrev am_C : Type := (FieldType × vp_A) ⊕ (Nat × List Value)
/-- a heap: the next number, the cells; numbers below 32 are what is only read (texts, static arrays, the script) -/
abbrev am_H : Type := Nat × (Nat → am_C)
/-- a frame: pc, locals, operand stack, cells and slots made so far -/
abbrev am_F : Type := Nat × List (Option Value) × List Value × Nat × Nat
/-- an instruction, its length, and what it links: three numbers and a constant -/
abbrev am_E : Type := Instr × Nat × Nat × Nat × Nat × Int32 × Int64
abbrev am_M : Type := Nat → Option am_E
abbrev am_K : Type := Nat → List Value → am_H → (Option Value → am_H → Prop) → Prop
def am_set (h : am_H) (p : Nat) (c : am_C) : am_H := (h.1, va_up h.2 p c)
def am_add (h : am_H) (c : am_C) : am_H := (h.1 + 1, va_up h.2 h.1 c)
def am_br (c a b : Prop) : Prop := (c → a) ∧ (¬ c → b)
def am_i1 (st : List Value) (g : Int32 → List Value → Prop) : Prop := match st with
  | .int x :: r => g x r
  | _ => False
def am_i2 (st : List Value) (g : Int32 → Int32 → List Value → Prop) : Prop := match st with
  | .int y :: .int x :: r => g x y r
  | _ => False
def am_l1 (st : List Value) (g : Int64 → List Value → Prop) : Prop := match st with
  | .long x :: r => g x r
  | _ => False
def am_l2 (st : List Value) (g : Int64 → Int64 → List Value → Prop) : Prop := match st with
  | .long y :: .long x :: r => g x y r
  | _ => False
def am_r1 (st : List Value) (g : Nat → List Value → Prop) : Prop := match st with
  | .ref p :: r => g p r
  | _ => False
def am_ir (st : List Value) (g : Int32 → Nat → List Value → Prop) : Prop := match st with
  | .int i :: .ref p :: r => g i p r
  | _ => False
def am_ldi (ls : List (Option Value)) (i : Nat) (g : Int32 → Prop) : Prop := match ls.getD i none with
  | some (.int x) => g x
  | _ => False
def am_ldl (ls : List (Option Value)) (i : Nat) (g : Int64 → Prop) : Prop := match ls.getD i none with
  | some (.long x) => g x
  | _ => False
def am_lda (ls : List (Option Value)) (i : Nat) (g : Nat → Prop) : Prop := match ls.getD i none with
  | some (.ref x) => g x
  | _ => False
/-- a store at i ends a long that lies at i - 1 -/
def am_kill (ls : List (Option Value)) (i : Nat) : List (Option Value) := match i with
  | 0 => ls
  | j + 1 => match ls.getD j none with
    | some (.long _) => ls.set j none
    | some (.double _) => ls.set j none
    | _ => ls
def am_st1 (ls : List (Option Value)) (i : Nat) (v : Value) : List (Option Value) := (am_kill ls i).set i (some v)
def am_st2 (ls : List (Option Value)) (i : Nat) (v : Value) : List (Option Value) := ((am_kill ls i).set i (some v)).set (i + 1) none
def am_cmp (cd : ClassFile.Cond) (x y : Int32) : Prop := match cd with
  | .eq => x = y
  | .ne => ¬ x = y
  | .lt => x < y
  | .ge => y ≤ x
  | .gt => y < x
  | .le => x ≤ y
/-- an object of class ci at p -/
def am_obj (h : am_H) (p ci : Nat) (g : List Value → Prop) : Prop := match h.2 p with
  | .inr (c, fs) => if c = ci then g fs else False
  | .inl _ => False
/-- a value that a field of this kind may hold: 0 int, 1 a reference, 2 boolean -/
def am_fit (t : Nat) (v : Value) (g : Prop) : Prop := match t, v with
  | 0, .int _ => g
  | 1, .ref _ => g
  | 2, .int x => (x = 0 ∨ x = 1) ∧ g
  | _, _ => False
def am_ari (h : am_H) (p : Nat) (ty : FieldType) (g : Nat → (Nat → Int32) → Prop) : Prop := match h.2 p with
  | .inl (ty', n, .inl f) => if ty' = ty then g n f else False
  | _ => False
/-- an int array to read: one of the heap, or one that is only read -/
def am_rdi (h : am_H) (p : Nat) (g : Nat → (Nat → Int32) → Prop) : Prop := match h.2 p with
  | .inl (.int, n, .inl f) => g n f
  | .inl (.float, n, .inl f) => g n f
  | _ => False
def am_arl (h : am_H) (p : Nat) (g : Nat → (Nat → Int64) → Prop) : Prop := match h.2 p with
  | .inl (.long, n, .inr (.inl f)) => g n f
  | _ => False
def am_arr (h : am_H) (p : Nat) (g : String → Nat → (Nat → Option Nat) → Prop) : Prop := match h.2 p with
  | .inl (.object C, n, .inr (.inr (.inr (.inr f)))) => g C n f
  | _ => False
def am_len (h : am_H) (p : Nat) (g : Nat → Prop) : Prop := match h.2 p with
  | .inl (_, n, _) => g n
  | .inr _ => False
def am_tsw (pc : Nat) (dflt lo hi : Int) (offs : Array Int) (x : Int32) : Nat := ((pc : Int) + (if x.toInt < lo ∨ hi < x.toInt then dflt else offs.toList.getD (x.toInt - lo).toNat 0)).toNat
def am_lsw (pc : Nat) (dflt : Int) (ps : Array (Int × Int)) (x : Int32) : Nat := ((pc : Int) + Op.lookupswitch.offset ps.toList dflt x.toInt).toNat
/-- what a new array of this kind holds -/
def am_new0 (ty : FieldType) (n : Nat) : vp_A := match ty with
  | .long => (n, .inr (.inl (fun _ => 0)))
  | _ => (n, .inl (fun _ => 0))
/-- a new object's fields, by the number of its class in vwCl -/
def am_newf (ci : Nat) : List Value := match ci with
  | 0 => [.null, .null, .int 0]
  | 1 => [.null, .null, .int 0]
  | 2 => [.null, .null, .null, .int 0, .int 0]
  | 3 => [.null, .null, .null, .int 0, .int 0, .int 0, .int 0, .int 0, .int 0]
  | 4 => [.null, .null, .null, .int 0, .int 0]
  | 5 => [.null, .int 0, .int 0, .int 0]
  | 6 => [.null, .int 0]
  | _ => []
/-- the texts: what stands below 16 -/
def am_txt (i : Nat) : List Int32 := []
/-- the cells and slots that a method may make, by its number -/
def am_lim (k : Nat) : Nat × Nat := (0, 0)
def am_cats (st : List Value) : Nat := (st.map Value.category).sum
/-- a call's arguments and what lies below them -/
def am_inv (call : am_K) (mno n ci : Nat) (k : am_F → am_H → Prop) (lim : Nat × Nat) (pc : Nat) (ls : List (Option Value)) (st : List Value) (u : Nat × Nat) (h : am_H) : Prop :=
  if am_cats (st.drop n) ≤ 8 ∧ n ≤ st.length ∧ u.1 + (am_lim mno).1 ≤ lim.1 ∧ u.2 + (am_lim mno).2 ≤ lim.2 then
    (match ci with
      | c + 1 => (match (st.take n).getLast? with
        | some (.ref p) => am_obj h p c (fun _ => call mno (st.take n).reverse h (fun v h' => k (pc + 3, ls, v.toList ++ st.drop n, u.1 + (am_lim mno).1, u.2 + (am_lim mno).2) h'))
        | _ => False)
      | 0 => call mno (st.take n).reverse h (fun v h' => k (pc + 3, ls, v.toList ++ st.drop n, u.1 + (am_lim mno).1, u.2 + (am_lim mno).2) h'))
  else False
def am_ins (call : am_K) (lim : Nat × Nat) (e : am_E) (Q : Option Value → am_H → Prop) (X : am_H → Prop) (k : am_F → am_H → Prop) (pc : Nat) (ls : List (Option Value)) (st : List Value) (u : Nat × Nat) (h : am_H) : Prop :=
  match e with
  | (ei, _, ea, eb, et, ec, ed) => match ei with
  | .iconst _ => k (pc + 1, ls, .int ec :: st, u) h
  | .bipush _ => k (pc + 2, ls, .int ec :: st, u) h
  | .sipush _ => k (pc + 3, ls, .int ec :: st, u) h
  | .lconst _ => k (pc + 1, ls, .long ed :: st, u) h
  | .ldc _ => if eb = 0 then k (pc + 2, ls, .int ec :: st, u) h else k (pc + 2, ls, .ref ea :: st, u) h
  | .ldc_w _ => k (pc + 3, ls, .int ec :: st, u) h
  | .ldc2_w _ => k (pc + 3, ls, .long ed :: st, u) h
  | .iload_n i => am_ldi ls i (fun x => k (pc + 1, ls, .int x :: st, u) h)
  | .iload i => am_ldi ls i (fun x => k (pc + 2, ls, .int x :: st, u) h)
  | .lload_n i => am_ldl ls i (fun x => k (pc + 1, ls, .long x :: st, u) h)
  | .lload i => am_ldl ls i (fun x => k (pc + 2, ls, .long x :: st, u) h)
  | .aload_n i => am_lda ls i (fun x => k (pc + 1, ls, .ref x :: st, u) h)
  | .aload i => am_lda ls i (fun x => k (pc + 2, ls, .ref x :: st, u) h)
  | .istore_n i => am_i1 st (fun x r => k (pc + 1, am_st1 ls i (.int x), r, u) h)
  | .istore i => am_i1 st (fun x r => k (pc + 2, am_st1 ls i (.int x), r, u) h)
  | .lstore_n i => am_l1 st (fun x r => k (pc + 1, am_st2 ls i (.long x), r, u) h)
  | .lstore i => am_l1 st (fun x r => k (pc + 2, am_st2 ls i (.long x), r, u) h)
  | .astore_n i => am_r1 st (fun x r => k (pc + 1, am_st1 ls i (.ref x), r, u) h)
  | .astore i => am_r1 st (fun x r => k (pc + 2, am_st1 ls i (.ref x), r, u) h)
  | .iinc i _ => am_ldi ls i (fun x => k (pc + 3, am_st1 ls i (.int (x + ec)), st, u) h)
  | .iadd => am_i2 st (fun x y r => k (pc + 1, ls, .int (x + y) :: r, u) h)
  | .isub => am_i2 st (fun x y r => k (pc + 1, ls, .int (x - y) :: r, u) h)
  | .imul => am_i2 st (fun x y r => k (pc + 1, ls, .int (x * y) :: r, u) h)
  | .iand => am_i2 st (fun x y r => k (pc + 1, ls, .int (x &&& y) :: r, u) h)
  | .ior => am_i2 st (fun x y r => k (pc + 1, ls, .int (x ||| y) :: r, u) h)
  | .ixor => am_i2 st (fun x y r => k (pc + 1, ls, .int (x ^^^ y) :: r, u) h)
  | .idiv => am_i2 st (fun x y r => ¬ y = 0 ∧ k (pc + 1, ls, .int (x / y) :: r, u) h)
  | .irem => am_i2 st (fun x y r => ¬ y = 0 ∧ k (pc + 1, ls, .int (x - x / y * y) :: r, u) h)
  | .ineg => am_i1 st (fun x r => k (pc + 1, ls, .int (-x) :: r, u) h)
  | .ishl => am_i2 st (fun x y r => k (pc + 1, ls, .int (x <<< (y &&& 31)) :: r, u) h)
  | .ishr => am_i2 st (fun x y r => k (pc + 1, ls, .int (x >>> (y &&& 31)) :: r, u) h)
  | .iushr => am_i2 st (fun x y r => k (pc + 1, ls, .int (x.toUInt32 >>> (y.toUInt32 &&& Int32.toUInt32 31)).toInt32 :: r, u) h)
  | .ladd => am_l2 st (fun x y r => k (pc + 1, ls, .long (x + y) :: r, u) h)
  | .lsub => am_l2 st (fun x y r => k (pc + 1, ls, .long (x - y) :: r, u) h)
  | .lmul => am_l2 st (fun x y r => k (pc + 1, ls, .long (x * y) :: r, u) h)
  | .ldiv => am_l2 st (fun x y r => ¬ y = 0 ∧ k (pc + 1, ls, .long (x / y) :: r, u) h)
  | .lrem => am_l2 st (fun x y r => ¬ y = 0 ∧ k (pc + 1, ls, .long (x - x / y * y) :: r, u) h)
  | .lcmp => am_l2 st (fun x y r => k (pc + 1, ls, .int (lg_cmp x y) :: r, u) h)
  | .i2l => am_i1 st (fun x r => k (pc + 1, ls, .long x.toInt64 :: r, u) h)
  | .l2i => am_l1 st (fun x r => k (pc + 1, ls, .int x.toInt32 :: r, u) h)
  | .i2b => am_i1 st (fun x r => k (pc + 1, ls, .int x.toInt8.toInt32 :: r, u) h)
  | .i2s => am_i1 st (fun x r => k (pc + 1, ls, .int x.toInt16.toInt32 :: r, u) h)
  | .i2c => am_i1 st (fun x r => k (pc + 1, ls, .int (x.toUInt32 % 65536).toInt32 :: r, u) h)
  | .dup => (match st with
    | v :: r => if v.category = 1 then k (pc + 1, ls, v :: v :: r, u) h else False
    | _ => False)
  | .dup2 => (match st with
    | v :: w :: r => if v.category = 1 ∧ w.category = 1 then k (pc + 1, ls, v :: w :: v :: w :: r, u) h else False
    | _ => False)
  | .pop => (match st with
    | v :: r => if v.category = 1 then k (pc + 1, ls, r, u) h else False
    | _ => False)
  | .ifCond cd _ => am_i1 st (fun x r => am_br (am_cmp cd x 0) (k (ea, ls, r, u) h) (k (pc + 3, ls, r, u) h))
  | .if_icmp cd _ => am_i2 st (fun x y r => am_br (am_cmp cd x y) (k (ea, ls, r, u) h) (k (pc + 3, ls, r, u) h))
  | .goto _ => k (ea, ls, st, u) h
  | .tableswitch d lo hi offs => am_i1 st (fun x r => k (am_tsw pc d lo hi offs x, ls, r, u) h)
  | .lookupswitch d ps => am_i1 st (fun x r => k (am_lsw pc d ps x, ls, r, u) h)
  | .getfield _ => am_r1 st (fun p r => am_obj h p ea (fun fs => match fs[eb]? with
    | some v => k (pc + 3, ls, v :: r, u) h
    | none => False))
  | .putfield _ => (match st with
    | v :: .ref p :: r => am_obj h p ea (fun fs => if eb < fs.length then am_fit et v (k (pc + 3, ls, r, u) (am_set h p (.inr (ea, fs.set eb v)))) else False)
    | _ => False)
  | .getstatic _ => k (pc + 3, ls, .ref ea :: st, u) h
  | .iaload => am_ir st (fun i p r => am_rdi h p (fun n f => vp_in i n ∧ k (pc + 1, ls, .int (f i.toNatClampNeg) :: r, u) h))
  | .baload => am_ir st (fun i p r => am_ari h p .boolean (fun n f => vp_in i n ∧ k (pc + 1, ls, .int (f i.toNatClampNeg) :: r, u) h))
  | .caload => am_ir st (fun i p r => am_ari h p .char (fun n f => vp_in i n ∧ k (pc + 1, ls, .int (f i.toNatClampNeg) :: r, u) h))
  | .laload => am_ir st (fun i p r => am_arl h p (fun n f => vp_in i n ∧ k (pc + 1, ls, .long (f i.toNatClampNeg) :: r, u) h))
  | .aaload => am_ir st (fun i p r => am_arr h p (fun _ n f => vp_in i n ∧ ∃ q, f i.toNatClampNeg = some q ∧ k (pc + 1, ls, .ref q :: r, u) h))
  | .iastore => am_i1 st (fun x st' => am_ir st' (fun i p r => am_ari h p .int (fun n f => vp_in i n ∧ k (pc + 1, ls, r, u) (am_set h p (.inl (.int, n, .inl (upd f i.toNatClampNeg x)))))))
  | .bastore => am_i1 st (fun x st' => am_ir st' (fun i p r => am_ari h p .boolean (fun n f => vp_in i n ∧ k (pc + 1, ls, r, u) (am_set h p (.inl (.boolean, n, .inl (upd f i.toNatClampNeg (vp_nar .boolean x))))))))
  | .castore => am_i1 st (fun x st' => am_ir st' (fun i p r => am_ari h p .char (fun n f => vp_in i n ∧ k (pc + 1, ls, r, u) (am_set h p (.inl (.char, n, .inl (upd f i.toNatClampNeg (vp_nar .char x))))))))
  | .lastore => am_l1 st (fun x st' => am_ir st' (fun i p r => am_arl h p (fun n f => vp_in i n ∧ k (pc + 1, ls, r, u) (am_set h p (.inl (.long, n, .inr (.inl (vp_updL f i.toNatClampNeg x))))))))
  | .aastore => am_r1 st (fun v st' => am_ir st' (fun i p r => am_arr h p (fun C n f => am_obj h v 4 (fun _ => C = RX7 ∧ vp_in i n ∧ k (pc + 1, ls, r, u) (am_set h p (.inl (.object C, n, .inr (.inr (.inr (.inr (va_up f i.toNatClampNeg (some v)))))))))))) 
  | .arraylength => am_r1 st (fun p r => am_len h p (fun n => k (pc + 1, ls, .int (Int32.ofNat n) :: r, u) h))
  | .newarray at_ => am_i1 st (fun n r => ¬ n < 0 ∧ n.toNatClampNeg ≤ 10000 ∧ u.1 + 1 ≤ lim.1 ∧ u.2 + n.toNatClampNeg ≤ lim.2 ∧ k (pc + 2, ls, .ref h.1 :: r, u.1 + 1, u.2 + n.toNatClampNeg) (am_add h (.inl (newarray.typeOf at_, am_new0 (newarray.typeOf at_) n.toNatClampNeg))))
  | .anewarray _ => am_i1 st (fun n r => ¬ n < 0 ∧ n.toNatClampNeg ≤ 10000 ∧ u.1 + 1 ≤ lim.1 ∧ u.2 + n.toNatClampNeg ≤ lim.2 ∧ k (pc + 3, ls, .ref h.1 :: r, u.1 + 1, u.2 + n.toNatClampNeg) (am_add h (.inl (.object RX7, n.toNatClampNeg, .inr (.inr (.inr (.inr (fun _ => none))))))))
  | .new _ => if eb = 1 then X h else u.1 + 1 ≤ lim.1 ∧ u.2 + (am_newf ea).length ≤ lim.2 ∧ k (pc + 3, ls, .ref h.1 :: st, u.1 + 1, u.2 + (am_newf ea).length) (am_add h (.inr (ea, am_newf ea)))
  | .invokevirtual _ => am_inv call ea eb et k lim pc ls st u h
  | .invokestatic _ => am_inv call ea eb et k lim pc ls st u h
  | .invokespecial _ => am_inv call ea eb et k lim pc ls st u h
  | .ireturn => (match st with
    | [.int x] => am_fit et (.int x) (Q (some (.int x)) h)
    | _ => False)
  | .lreturn => (match st with
    | [.long x] => Q (some (.long x)) h
    | _ => False)
  | .areturn => (match st with
    | [.ref x] => Q (some (.ref x)) h
    | _ => False)
  | .return_ => (match st with
    | [] => Q none h
    | _ => False)
  | _ => False
def am_step (call : am_K) (lim : Nat × Nat) (M : am_M) (Q : Option Value → am_H → Prop) (X : am_H → Prop) (k : am_F → am_H → Prop) (f : am_F) (h : am_H) : Prop := match f with
  | (pc, ls, st, u) => match M pc with
    | some e => am_ins call lim e Q X k pc ls st u h
    | none => False
/-- the least predicate that is closed under am_step: from this frame the method ends as Q or X says -/
def am_wp (call : am_K) (lim : Nat × Nat) (M : am_M) (Q : Option Value → am_H → Prop) (X : am_H → Prop) (f : am_F) (h : am_H) : Prop :=
  ∀ P : am_F → am_H → Prop, (∀ f h, am_step call lim M Q X P f h → P f h) → P f h
def am_steps (call : am_K) (lim : Nat × Nat) (M : am_M) (Q : Option Value → am_H → Prop) (X : am_H → Prop) (k : am_F → am_H → Prop) : Nat → am_F → am_H → Prop
  | 0 => k
  | n + 1 => am_step call lim M Q X (am_steps call lim M Q X k n)
end
section
section
variable {st : List Value} {ls : List (Option Value)} {h : am_H} {p i ci : Nat}
theorem am_br_mono {c a b a' b' : Prop} (h1 : a → a') (h2 : b → b') (H : am_br c a b) : am_br c a' b' := ⟨fun z => h1 (H.1 z), fun z => h2 (H.2 z)⟩
theorem am_i1_mono {g g' : Int32 → List Value → Prop} (hg : ∀ x r, g x r → g' x r) : am_i1 st g → am_i1 st g' := by
  unfold am_i1; split <;> first | exact hg _ _ | exact id
theorem am_i2_mono {g g' : Int32 → Int32 → List Value → Prop} (hg : ∀ x y r, g x y r → g' x y r) : am_i2 st g → am_i2 st g' := by
  unfold am_i2; split <;> first | exact hg _ _ _ | exact id
theorem am_l1_mono {g g' : Int64 → List Value → Prop} (hg : ∀ x r, g x r → g' x r) : am_l1 st g → am_l1 st g' := by
  unfold am_l1; split <;> first | exact hg _ _ | exact id
theorem am_l2_mono {g g' : Int64 → Int64 → List Value → Prop} (hg : ∀ x y r, g x y r → g' x y r) : am_l2 st g → am_l2 st g' := by
  unfold am_l2; split <;> first | exact hg _ _ _ | exact id
theorem am_r1_mono {g g' : Nat → List Value → Prop} (hg : ∀ x r, g x r → g' x r) : am_r1 st g → am_r1 st g' := by
  unfold am_r1; split <;> first | exact hg _ _ | exact id
theorem am_ir_mono {g g' : Int32 → Nat → List Value → Prop} (hg : ∀ x y r, g x y r → g' x y r) : am_ir st g → am_ir st g' := by
  unfold am_ir; split <;> first | exact hg _ _ _ | exact id
theorem am_ldi_mono {g g' : Int32 → Prop} (hg : ∀ x, g x → g' x) : am_ldi ls i g → am_ldi ls i g' := by
  unfold am_ldi; split <;> first | exact hg _ | exact id
theorem am_ldl_mono {g g' : Int64 → Prop} (hg : ∀ x, g x → g' x) : am_ldl ls i g → am_ldl ls i g' := by
  unfold am_ldl; split <;> first | exact hg _ | exact id
theorem am_lda_mono {g g' : Nat → Prop} (hg : ∀ x, g x → g' x) : am_lda ls i g → am_lda ls i g' := by
  unfold am_lda; split <;> first | exact hg _ | exact id
theorem am_obj_mono {g g' : List Value → Prop} (hg : ∀ x, g x → g' x) : am_obj h p ci g → am_obj h p ci g' := by
  unfold am_obj; split
  · split <;> first | exact hg _ | exact id
  · exact id
theorem am_fit_mono {t : Nat} {v : Value} {a a' : Prop} (hg : a → a') : am_fit t v a → am_fit t v a' := by
  unfold am_fit; split <;> first | exact hg | exact id | exact fun H => ⟨H.1, hg H.2⟩
theorem am_ari_mono {ty : FieldType} {g g' : Nat → (Nat → Int32) → Prop} (hg : ∀ x y, g x y → g' x y) : am_ari h p ty g → am_ari h p ty g' := by
  unfold am_ari; split
  · split <;> first | exact hg _ _ | exact id
  · exact id
theorem am_rdi_mono {g g' : Nat → (Nat → Int32) → Prop} (hg : ∀ x y, g x y → g' x y) : am_rdi h p g → am_rdi h p g' := by
  unfold am_rdi; split <;> first | exact hg _ _ | exact id
theorem am_arl_mono {g g' : Nat → (Nat → Int64) → Prop} (hg : ∀ x y, g x y → g' x y) : am_arl h p g → am_arl h p g' := by
  unfold am_arl; split <;> first | exact hg _ _ | exact id
theorem am_arr_mono {g g' : String → Nat → (Nat → Option Nat) → Prop} (hg : ∀ x y z, g x y z → g' x y z) : am_arr h p g → am_arr h p g' := by
  unfold am_arr; split <;> first | exact hg _ _ _ | exact id
theorem am_len_mono {g g' : Nat → Prop} (hg : ∀ x, g x → g' x) : am_len h p g → am_len h p g' := by
  unfold am_len; split <;> first | exact hg _ | exact id
end
def am_Kmono (call call' : am_K) : Prop := ∀ m a h Q Q', (∀ v h', Q v h' → Q' v h') → call m a h Q → call' m a h Q'
theorem am_inv_mono {call call' : am_K} (hc : am_Kmono call call') {mno n ci : Nat} {k k' : am_F → am_H → Prop} (hk : ∀ f h, k f h → k' f h) {lim : Nat × Nat} {pc : Nat} {ls : List (Option Value)} {st : List Value} {u : Nat × Nat} {h : am_H} :
    am_inv call mno n ci k lim pc ls st u h → am_inv call' mno n ci k' lim pc ls st u h := by
  unfold am_inv
  intro H
  split at H
  · rename_i hcond
    rw [if_pos hcond]
    split at H
    · split at H
      · exact am_obj_mono (fun _ z => hc _ _ _ _ _ (fun _ _ => hk _ _) z) H
      · exact H
    · exact hc _ _ _ _ _ (fun _ _ => hk _ _) H
  · exact H.elim
set_option maxHeartbeats 4000000 in
theorem am_ins_mono {call call' : am_K} (hc : am_Kmono call call') {lim : Nat × Nat} {e : am_E} {Q Q' : Option Value → am_H → Prop} (hQ : ∀ v h, Q v h → Q' v h) {X X' : am_H → Prop} (hX : ∀ h, X h → X' h) {k k' : am_F → am_H → Prop} (hk : ∀ f h, k f h → k' f h) {pc : Nat} {ls : List (Option Value)} {st : List Value} {u : Nat × Nat} {h : am_H} :
    am_ins call lim e Q X k pc ls st u h → am_ins call' lim e Q' X' k' pc ls st u h := by
  obtain ⟨i, len, a, b, t, c, d⟩ := e
  cases i <;> first
    | exact fun H => H.elim
    | exact hk _ _
    | exact am_ldi_mono (fun _ => hk _ _)
    | exact am_ldl_mono (fun _ => hk _ _)
    | exact am_lda_mono (fun _ => hk _ _)
    | exact am_i1_mono (fun _ _ => hk _ _)
    | exact am_i2_mono (fun _ _ _ => hk _ _)
    | exact am_l1_mono (fun _ _ => hk _ _)
    | exact am_l2_mono (fun _ _ _ => hk _ _)
    | exact am_r1_mono (fun _ _ => hk _ _)
    | exact am_inv_mono hc hk
    | exact am_i2_mono (fun _ _ _ H => ⟨H.1, hk _ _ H.2⟩)
    | exact am_l2_mono (fun _ _ _ H => ⟨H.1, hk _ _ H.2⟩)
    | exact am_i1_mono (fun _ _ => am_br_mono (hk _ _) (hk _ _))
    | exact am_i2_mono (fun _ _ _ => am_br_mono (hk _ _) (hk _ _))
    | exact am_ir_mono (fun _ _ _ => am_rdi_mono (fun _ _ H => ⟨H.1, hk _ _ H.2⟩))
    | exact am_ir_mono (fun _ _ _ => am_ari_mono (fun _ _ H => ⟨H.1, hk _ _ H.2⟩))
    | exact am_ir_mono (fun _ _ _ => am_arl_mono (fun _ _ H => ⟨H.1, hk _ _ H.2⟩))
    | exact am_ir_mono (fun _ _ _ => am_arr_mono (fun _ _ _ H => ⟨H.1, H.2.choose, H.2.choose_spec.1, hk _ _ H.2.choose_spec.2⟩))
    | exact am_i1_mono (fun _ _ => am_ir_mono (fun _ _ _ => am_ari_mono (fun _ _ H => ⟨H.1, hk _ _ H.2⟩)))
    | exact am_l1_mono (fun _ _ => am_ir_mono (fun _ _ _ => am_arl_mono (fun _ _ H => ⟨H.1, hk _ _ H.2⟩)))
    | exact am_r1_mono (fun _ _ => am_ir_mono (fun _ _ _ => am_arr_mono (fun _ _ _ => am_obj_mono (fun _ H => ⟨H.1, H.2.1, hk _ _ H.2.2⟩))))
    | exact am_r1_mono (fun _ _ => am_len_mono (fun _ => hk _ _))
    | exact am_i1_mono (fun _ _ H => ⟨H.1, H.2.1, H.2.2.1, H.2.2.2.1, hk _ _ H.2.2.2.2⟩)
    | (unfold am_ins; dsimp only; split <;> first | exact hk _ _ | exact fun H => H.elim | (split <;> first | exact hk _ _ | exact fun H => H.elim))
    | skip
  case getfield =>
    refine am_r1_mono (fun _ _ => am_obj_mono (fun fs => ?_))
    split
    · exact hk _ _
    · exact id
  case putfield =>
    unfold am_ins; dsimp only
    split
    · refine am_obj_mono (fun fs => ?_)
      split
      · exact am_fit_mono (hk _ _)
      · exact id
    · exact id
  case new =>
    unfold am_ins; dsimp only
    split
    · exact hX _
    · exact fun H => ⟨H.1, H.2.1, hk _ _ H.2.2⟩
  case ireturn =>
    unfold am_ins; dsimp only
    split
    · exact am_fit_mono (hQ _ _)
    · exact id
  case lreturn =>
    unfold am_ins; dsimp only
    split
    · exact hQ _ _
    · exact id
  case areturn =>
    unfold am_ins; dsimp only
    split
    · exact hQ _ _
    · exact id
  case return_ =>
    unfold am_ins; dsimp only
    split
    · exact hQ _ _
    · exact id
theorem am_step_mono {call call' : am_K} (hc : am_Kmono call call') {lim : Nat × Nat} {M : am_M} {Q Q' : Option Value → am_H → Prop} (hQ : ∀ v h, Q v h → Q' v h) {X X' : am_H → Prop} (hX : ∀ h, X h → X' h) {k k' : am_F → am_H → Prop} (hk : ∀ f h, k f h → k' f h) {f : am_F} {h : am_H} :
    am_step call lim M Q X k f h → am_step call' lim M Q' X' k' f h := by
  obtain ⟨pc, ls, st, u⟩ := f
  unfold am_step
  dsimp only
  split
  · exact am_ins_mono hc hQ hX hk
  · exact id
theorem am_wp_in {call : am_K} (hc : am_Kmono call call) {lim : Nat × Nat} {M : am_M} {Q : Option Value → am_H → Prop} {X : am_H → Prop} {f : am_F} {h : am_H} (H : am_step call lim M Q X (am_wp call lim M Q X) f h) : am_wp call lim M Q X f h :=
  fun P hP => hP _ _ (am_step_mono hc (fun _ _ z => z) (fun _ z => z) (fun _ _ z => z P hP) H)
/-- n steps at once -/
theorem am_run {call : am_K} (hc : am_Kmono call call) {lim : Nat × Nat} {M : am_M} {Q : Option Value → am_H → Prop} {X : am_H → Prop} (n : Nat) {f : am_F} {h : am_H} (H : am_steps call lim M Q X (am_wp call lim M Q X) n f h) : am_wp call lim M Q X f h := by
  have key : ∀ n f h, am_steps call lim M Q X (am_wp call lim M Q X) n f h → am_wp call lim M Q X f h := by
    intro n
    induction n with
    | zero => exact fun _ _ z => z
    | succ n ih => exact fun f h z => am_wp_in hc (am_step_mono hc (fun _ _ z => z) (fun _ z => z) ih z)
  exact key n f h H
theorem am_wp_mono {call call' : am_K} (hc : am_Kmono call call') {lim : Nat × Nat} {M : am_M} {Q Q' : Option Value → am_H → Prop} (hQ : ∀ v h, Q v h → Q' v h) {X X' : am_H → Prop} (hX : ∀ h, X h → X' h) {f : am_F} {h : am_H} (H : am_wp call lim M Q X f h) : am_wp call' lim M Q' X' f h :=
  fun P hP => H P (fun f h z => hP f h (am_step_mono hc hQ hX (fun _ _ z => z) z))
end
section
/-! how a heap of numbered cells lies in the machine's heap: ad gives each number its address -/
def am_cv (ad : Nat → Nat) (v : Value) : Value := match v with
  | .ref i => .ref (ad i)
  | .int x => .int x
  | .long x => .long x
  | .float x => .float x
  | .double x => .double x
  | .null => .null
  | .retAddr x => .retAddr x
def am_cx (ad : Nat → Nat) (x : (Nat → Int32) ⊕ (Nat → Int64) ⊕ (Nat → UInt32) ⊕ (Nat → UInt64) ⊕ (Nat → Option Nat)) : (Nat → Int32) ⊕ (Nat → Int64) ⊕ (Nat → UInt32) ⊕ (Nat → UInt64) ⊕ (Nat → Option Nat) := match x with
  | .inr (.inr (.inr (.inr f))) => .inr (.inr (.inr (.inr (fun j => (f j).map ad))))
  | .inr (.inr (.inr (.inl f))) => .inr (.inr (.inr (.inl f)))
  | .inr (.inr (.inl f)) => .inr (.inr (.inl f))
  | .inr (.inl f) => .inr (.inl f)
  | .inl f => .inl f
def am_ca (dA : Nat → ClassId) (ty : FieldType) : ClassId := match ty with
  | .int => dA 0
  | .char => dA 1
  | .boolean => dA 2
  | .long => dA 3
  | _ => dA 4
def am_ce (dA : Nat → ClassId) (ad : Nat → Nat) (c : am_C) : va_E := match c with
  | .inl (ty, n, x) => .inl (am_ca dA ty, n, am_cx ad x)
  | .inr (ci, fs) => .inr (ci, fs.map (am_cv ad))
def am_ws (dA : Nat → ClassId) (ad : Nat → Nat) (h : am_H) : va_W := (List.range (h.1 - 40)).map (fun j => (ad (40 + j), am_ce dA ad (h.2 (40 + j))))
def am_tys (dA : Nat → ClassId) : List (ClassId × FieldType) := [(dA 0, .int), (dA 1, .char), (dA 2, .boolean), (dA 3, .long), (dA 4, .object RX7)]
def am_okv (n : Nat) (v : Value) : Prop := ∀ i, v = .ref i → i < n
def am_okc (n p : Nat) (c : am_C) : Prop := (∀ ty k f, c = .inl (ty, k, .inr (.inr (.inr (.inr f)))) → ∀ j q, f j = some q → q < n) ∧ (∀ ci fs, c = .inr (ci, fs) → ∀ v ∈ fs, am_okv n v) ∧ (40 ≤ p → ∀ k x, ¬ c = .inl (.float, k, x))
def am_okh (ro : Nat → am_C) (h : am_H) : Prop := 40 ≤ h.1 ∧ (∀ p, p < h.1 → am_okc h.1 p (h.2 p)) ∧ ∀ p, p < 40 → h.2 p = ro p
theorem am_up_s {α : Type} {f : Nat → α} {k : Nat} {v : α} : va_up f k v k = v := by simp [va_up]
theorem am_up_n {α : Type} {f : Nat → α} {k j : Nat} {v : α} (h : ¬ j = k) : va_up f k v j = f j := by simp [va_up, h]
theorem am_cv_int {ad : Nat → Nat} {x : Int32} : am_cv ad (.int x) = .int x := rfl
theorem am_cv_ref {ad : Nat → Nat} {x : Nat} : am_cv ad (.ref x) = .ref (ad x) := rfl
theorem am_cv_cat {ad : Nat → Nat} {v : Value} : (am_cv ad v).category = v.category := by cases v <;> rfl
theorem am_cats_cv {ad : Nat → Nat} (st : List Value) : ((st.map (am_cv ad)).map fun v => v.category).sum = am_cats st := by
  unfold am_cats
  rw [List.map_map]
  congr 1
  exact List.map_congr_left (fun v _ => am_cv_cat)
theorem am_cv_same {ad ad' : Nat → Nat} {n : Nat} (h : ∀ i, i < n → ad' i = ad i) {v : Value} (hv : am_okv n v) : am_cv ad' v = am_cv ad v := by
  cases v <;> first | rfl | (rename_i i; show Value.ref (ad' i) = Value.ref (ad i); rw [h i (hv i rfl)])
theorem am_okv_mono {n n' : Nat} (h : n ≤ n') {v : Value} (hv : am_okv n v) : am_okv n' v := fun i e => Nat.lt_of_lt_of_le (hv i e) h
theorem am_okv_int {n : Nat} {x : Int32} : am_okv n (.int x) := fun _ e => by cases e
theorem am_okv_long {n : Nat} {x : Int64} : am_okv n (.long x) := fun _ e => by cases e
theorem am_okv_ref {n i : Nat} (h : i < n) : am_okv n (.ref i) := fun _ e => by cases e; exact h
theorem am_okc_mono {n n' p : Nat} (h : n ≤ n') {c : am_C} (hc : am_okc n p c) : am_okc n' p c := ⟨fun ty k f e j q z => Nat.lt_of_lt_of_le (hc.1 ty k f e j q z) h, fun ci fs e v hv => am_okv_mono h (hc.2.1 ci fs e v hv), hc.2.2⟩
theorem am_ce_same {dA : Nat → ClassId} {ad ad' : Nat → Nat} {n p : Nat} (h : ∀ i, i < n → ad' i = ad i) {c : am_C} (hc : am_okc n p c) : am_ce dA ad' c = am_ce dA ad c := by
  rcases c with ⟨ty, k, x⟩ | ⟨ci, fs⟩
  · show Sum.inl (am_ca dA ty, k, am_cx ad' x) = Sum.inl (am_ca dA ty, k, am_cx ad x)
    rcases x with f | f | f | f | f
    · rfl
    · rfl
    · rfl
    · rfl
    · have e : (fun j => (f j).map ad') = (fun j => (f j).map ad) := by
        funext j
        cases hj : f j with
        | none => rfl
        | some q => show some (ad' q) = some (ad q); rw [h q (hc.1 ty k f rfl j q hj)]
      show Sum.inl (am_ca dA ty, k, Sum.inr (Sum.inr (Sum.inr (Sum.inr (fun j => (f j).map ad'))))) = Sum.inl (am_ca dA ty, k, Sum.inr (Sum.inr (Sum.inr (Sum.inr (fun j => (f j).map ad)))))
      rw [e]
  · show Sum.inr (ci, fs.map (am_cv ad')) = Sum.inr (ci, fs.map (am_cv ad))
    rw [List.map_congr_left (fun v hv => am_cv_same h (hc.2.1 ci fs rfl v hv))]
theorem am_ws_at {dA : Nat → ClassId} {ad : Nat → Nat} {h : am_H} {p : Nat} (h1 : 40 ≤ p) (h2 : p < h.1) : (am_ws dA ad h)[p - 40]? = some (ad p, am_ce dA ad (h.2 p)) := by
  unfold am_ws
  rw [List.getElem?_map, List.getElem?_range (by omega)]
  have e : 40 + (p - 40) = p := by omega
  simp only [Option.map_some, e]
theorem am_ws_len {dA : Nat → ClassId} {ad : Nat → Nat} {h : am_H} : (am_ws dA ad h).length = h.1 - 40 := by simp [am_ws]
theorem am_ws_set {dA : Nat → ClassId} {ad : Nat → Nat} {h : am_H} {p : Nat} (h1 : 40 ≤ p) (h2 : p < h.1) (c : am_C) : am_ws dA ad (am_set h p c) = (am_ws dA ad h).set (p - 40) (ad p, am_ce dA ad c) := by
  apply List.ext_getElem?
  intro i
  by_cases hi : i < h.1 - 40
  · have e1 := am_ws_at (dA := dA) (ad := ad) (h := am_set h p c) (p := 40 + i) (by omega) (by show 40 + i < h.1; omega)
    have e2 := am_ws_at (dA := dA) (ad := ad) (h := h) (p := 40 + i) (by omega) (by omega)
    have e3 : 40 + i - 40 = i := by omega
    rw [e3] at e1 e2
    rw [e1, List.getElem?_set]
    by_cases hip : p - 40 = i
    · have e4 : 40 + i = p := by omega
      rw [if_pos hip, if_pos (by rw [am_ws_len]; omega), e4]
      show some (ad p, am_ce dA ad (va_up h.2 p c p)) = some (ad p, am_ce dA ad c)
      rw [am_up_s]
    · rw [if_neg hip, e2]
      show some (ad (40 + i), am_ce dA ad (va_up h.2 p c (40 + i))) = _
      rw [am_up_n (by omega)]
  · rw [List.getElem?_eq_none (by rw [am_ws_len]; show h.1 - 40 ≤ i; omega), List.getElem?_eq_none (by rw [List.length_set, am_ws_len]; omega)]
theorem am_ws_add {dA : Nat → ClassId} {ad : Nat → Nat} {h : am_H} {q : Nat} {ro : Nat → am_C} (hok : am_okh ro h) (c : am_C) : am_ws dA (va_up ad h.1 q) (am_add h c) = am_ws dA ad h ++ [(q, am_ce dA (va_up ad h.1 q) c)] := by
  apply List.ext_getElem?
  intro i
  have hh := hok.1
  by_cases hi : i < h.1 - 40
  · have e1 := am_ws_at (dA := dA) (ad := va_up ad h.1 q) (h := am_add h c) (p := 40 + i) (by omega) (by show 40 + i < h.1 + 1; omega)
    have e2 := am_ws_at (dA := dA) (ad := ad) (h := h) (p := 40 + i) (by omega) (by omega)
    have e3 : 40 + i - 40 = i := by omega
    rw [e3] at e1 e2
    rw [e1, List.getElem?_append_left (by rw [am_ws_len]; omega), e2]
    show some (va_up ad h.1 q (40 + i), am_ce dA (va_up ad h.1 q) (va_up h.2 h.1 c (40 + i))) = _
    rw [am_up_n (by omega), am_up_n (by omega), am_ce_same (n := h.1) (fun j hj => am_up_n (by omega)) (hok.2.1 (40 + i) (by omega))]
  · by_cases hi2 : i = h.1 - 40
    · subst hi2
      have e1 := am_ws_at (dA := dA) (ad := va_up ad h.1 q) (h := am_add h c) (p := h.1) (by omega) (by show h.1 < h.1 + 1; omega)
      rw [e1, List.getElem?_append_right (by rw [am_ws_len]; omega), am_ws_len, Nat.sub_self]
      show some (va_up ad h.1 q h.1, am_ce dA (va_up ad h.1 q) (va_up h.2 h.1 c h.1)) = some (q, am_ce dA (va_up ad h.1 q) c)
      rw [am_up_s, am_up_s]
    · rw [List.getElem?_eq_none (by rw [am_ws_len]; show h.1 + 1 - 40 ≤ i; omega), List.getElem?_eq_none (by rw [List.length_append, am_ws_len]; simp; omega)]
theorem am_okh_set {ro : Nat → am_C} {h : am_H} {p : Nat} {c : am_C} (hok : am_okh ro h) (h1 : 40 ≤ p) (hc : am_okc h.1 p c) : am_okh ro (am_set h p c) := by
  refine ⟨hok.1, fun q hq => ?_, fun q hq => ?_⟩
  · show am_okc h.1 q (va_up h.2 p c q)
    by_cases e : q = p
    · subst e; rw [am_up_s]; exact hc
    · rw [am_up_n e]; exact hok.2.1 q hq
  · show va_up h.2 p c q = ro q
    rw [am_up_n (by omega)]; exact hok.2.2 q hq
theorem am_okh_add {ro : Nat → am_C} {h : am_H} {c : am_C} (hok : am_okh ro h) (hc : am_okc h.1 h.1 c) : am_okh ro (am_add h c) := by
  have hh := hok.1
  refine ⟨Nat.le_succ_of_le hok.1, fun q hq => ?_, fun q hq => ?_⟩
  · show am_okc (h.1 + 1) q (va_up h.2 h.1 c q)
    by_cases e : q = h.1
    · subst e; rw [am_up_s]; exact am_okc_mono (Nat.le_succ _) hc
    · have hq' : q < h.1 + 1 := hq
      rw [am_up_n e]; exact am_okc_mono (Nat.le_succ _) (hok.2.1 q (by omega))
  · show va_up h.2 h.1 c q = ro q
    rw [am_up_n (by omega)]; exact hok.2.2 q hq
/-! locals -/
def am_pr (L : List (Option Value)) (ad : Nat → Nat) : List (Nat × Value) := (List.range L.length).filterMap (fun i => (L.getD i none).map (fun v => (i, am_cv ad v)))
theorem am_pr_mem {L : List (Option Value)} {ad : Nat → Nat} {i : Nat} {w : Value} : (i, w) ∈ am_pr L ad ↔ ∃ v, L.getD i none = some v ∧ w = am_cv ad v := by
  unfold am_pr
  rw [List.mem_filterMap]
  constructor
  · rintro ⟨j, -, hj⟩
    cases hv : L.getD j none with
    | none => rw [hv] at hj; cases hj
    | some v =>
      rw [hv] at hj
      have e : (j, am_cv ad v) = (i, w) := Option.some.inj hj
      cases e
      exact ⟨v, hv, rfl⟩
  · rintro ⟨v, hv, rfl⟩
    refine ⟨i, List.mem_range.mpr ?_, by rw [hv]; rfl⟩
    by_cases hl : i < L.length
    · exact hl
    · rw [List.getD_eq_getElem?_getD, List.getElem?_eq_none (by omega)] at hv
      cases hv
theorem am_lv_mono {ls : Array Slot} {nL : Nat} {l l' : List (Nat × Value)} (h : lv_has ls nL l) (hs : ∀ q ∈ l', q ∈ l) : lv_has ls nL l' := ⟨h.1, h.2.1, fun q hq => h.2.2 q (hs q hq)⟩
theorem am_pr_at {ls : Array Slot} {nL : Nat} {L : List (Option Value)} {ad : Nat → Nat} (h : lv_has ls nL (am_pr L ad)) {i : Nat} {v : Value} (hv : L.getD i none = some v) : ls[i]? = some (.val (am_cv ad v)) :=
  h.2.2 (i, am_cv ad v) (am_pr_mem.mpr ⟨v, hv, rfl⟩)
theorem am_getD_set {L : List (Option Value)} {i j : Nat} {x : Option Value} : (L.set i x).getD j none = if j = i ∧ i < L.length then x else L.getD j none := by
  rw [List.getD_eq_getElem?_getD, List.getD_eq_getElem?_getD, List.getElem?_set]
  by_cases e : i = j
  · subst e
    by_cases hl : i < L.length
    · simp [hl]
    · simp [hl]
  · have e2 : ¬ j = i := fun z => e z.symm
    simp [e, e2]
theorem am_kill_len {L : List (Option Value)} {i : Nat} : (am_kill L i).length = L.length := by
  unfold am_kill
  split
  · rfl
  · split <;> simp
theorem am_kill_at {L : List (Option Value)} {i j : Nat} {v : Value} (h : (am_kill L i).getD j none = some v) : L.getD j none = some v ∧ ¬ (j + 1 = i ∧ v.category = 2) := by
  unfold am_kill at h
  split at h
  · exact ⟨h, fun z => by omega⟩
  · rename_i k
    split at h
    · rename_i x hx
      rw [am_getD_set] at h
      split at h
      · cases h
      · rename_i hn
        refine ⟨h, fun z => ?_⟩
        have e : j = k := by omega
        subst e
        refine hn ⟨rfl, ?_⟩
        by_cases hl : j < L.length
        · exact hl
        · rw [List.getD_eq_getElem?_getD, List.getElem?_eq_none (by omega)] at hx
          cases hx
    · rename_i x hx
      rw [am_getD_set] at h
      split at h
      · cases h
      · rename_i hn
        refine ⟨h, fun z => ?_⟩
        have e : j = k := by omega
        subst e
        refine hn ⟨rfl, ?_⟩
        by_cases hl : j < L.length
        · exact hl
        · rw [List.getD_eq_getElem?_getD, List.getElem?_eq_none (by omega)] at hx
          cases hx
    · rename_i h1 h2
      refine ⟨h, fun z => ?_⟩
      have e : j = k := by omega
      subst e
      obtain ⟨-, z⟩ := z
      cases v with
      | long x => exact h1 x h
      | double x => exact h2 x h
      | _ => simp [Value.category] at z
theorem am_st1_at {L : List (Option Value)} {i j : Nat} {v w : Value} (h : (am_st1 L i v).getD j none = some w) : (j = i ∧ w = v) ∨ (¬ j = i ∧ L.getD j none = some w ∧ ¬ (j + 1 = i ∧ w.category = 2)) := by
  unfold am_st1 at h
  rw [am_getD_set] at h
  split at h
  · rename_i hz; cases h; exact Or.inl ⟨hz.1, rfl⟩
  · rename_i hz
    obtain ⟨h1, h2⟩ := am_kill_at h
    by_cases e : j = i
    · subst e
      have hl : j < L.length := by
        by_cases hl : j < L.length
        · exact hl
        · rw [List.getD_eq_getElem?_getD, List.getElem?_eq_none (by omega)] at h1
          cases h1
      exact absurd ⟨rfl, by rw [am_kill_len]; exact hl⟩ hz
    · exact Or.inr ⟨e, h1, h2⟩
theorem am_st2_at {L : List (Option Value)} {i j : Nat} {v w : Value} (h : (am_st2 L i v).getD j none = some w) : (j = i ∧ w = v) ∨ (¬ j = i ∧ ¬ j = i + 1 ∧ L.getD j none = some w ∧ ¬ (j + 1 = i ∧ w.category = 2)) := by
  unfold am_st2 at h
  rw [am_getD_set] at h
  split at h
  · cases h
  · rename_i hz
    have h' : (am_st1 L i v).getD j none = some w := h
    rcases am_st1_at h' with h1 | ⟨h1, h2, h3⟩
    · exact Or.inl h1
    · refine Or.inr ⟨h1, fun e => ?_, h2, h3⟩
      subst e
      have hl : i + 1 < L.length := by
        by_cases hl : i + 1 < L.length
        · exact hl
        · rw [List.getD_eq_getElem?_getD, List.getElem?_eq_none (by omega)] at h2
          cases h2
      exact hz ⟨rfl, by rw [List.length_set, am_kill_len]; exact hl⟩
theorem am_st1_len {L : List (Option Value)} {i : Nat} {v : Value} : (am_st1 L i v).length = L.length := by
  unfold am_st1; rw [List.length_set, am_kill_len]
theorem am_st2_len {L : List (Option Value)} {i : Nat} {v : Value} : (am_st2 L i v).length = L.length := by
  unfold am_st2; rw [List.length_set, List.length_set, am_kill_len]
theorem am_lv_st1 {ls : Array Slot} {nL : Nat} {L : List (Option Value)} {ad : Nat → Nat} {i : Nat} {v : Value} (h : lv_has ls nL ((i, am_cv ad v) :: (am_pr L ad).filter (fun q => !(q.1 == i) && !(q.1 + 1 == i && q.2.category == 2)))) : lv_has ls nL (am_pr (am_st1 L i v) ad) := by
  refine am_lv_mono h (fun q hq => ?_)
  obtain ⟨j, w⟩ := q
  obtain ⟨x, hx, rfl⟩ := am_pr_mem.mp hq
  rcases am_st1_at hx with ⟨rfl, rfl⟩ | ⟨h1, h2, h3⟩
  · exact List.mem_cons_self
  · refine List.mem_cons_of_mem _ (List.mem_filter.mpr ⟨am_pr_mem.mpr ⟨x, h2, rfl⟩, ?_⟩)
    simp only [am_cv_cat, Bool.and_eq_true, Bool.not_eq_true', beq_eq_false_iff_ne, ne_eq, Bool.and_eq_false_iff]
    refine ⟨h1, ?_⟩
    by_cases e : j + 1 = i
    · exact Or.inr (fun z => h3 ⟨e, z⟩)
    · exact Or.inl e
theorem am_lv_st2 {ls : Array Slot} {nL : Nat} {L : List (Option Value)} {ad : Nat → Nat} {i : Nat} {v : Value} (h : lv_has ls nL ((i, am_cv ad v) :: (am_pr L ad).filter (fun q => !(q.1 == i) && (!(q.1 == i + 1) && !(q.1 + 1 == i && q.2.category == 2))))) : lv_has ls nL (am_pr (am_st2 L i v) ad) := by
  refine am_lv_mono h (fun q hq => ?_)
  obtain ⟨j, w⟩ := q
  obtain ⟨x, hx, rfl⟩ := am_pr_mem.mp hq
  rcases am_st2_at hx with ⟨rfl, rfl⟩ | ⟨h1, h1', h2, h3⟩
  · exact List.mem_cons_self
  · refine List.mem_cons_of_mem _ (List.mem_filter.mpr ⟨am_pr_mem.mpr ⟨x, h2, rfl⟩, ?_⟩)
    simp only [am_cv_cat, Bool.and_eq_true, Bool.not_eq_true', beq_eq_false_iff_ne, ne_eq, Bool.and_eq_false_iff]
    refine ⟨h1, h1', ?_⟩
    by_cases e : j + 1 = i
    · exact Or.inr (fun z => h3 ⟨e, z⟩)
    · exact Or.inl e
def am_okL (n : Nat) (L : List (Option Value)) : Prop := ∀ i v, L.getD i none = some v → am_okv n v
theorem am_okL_st1 {n : Nat} {L : List (Option Value)} {i : Nat} {v : Value} (h : am_okL n L) (hv : am_okv n v) : am_okL n (am_st1 L i v) := fun j w hw => by
  rcases am_st1_at hw with ⟨-, rfl⟩ | ⟨-, h2, -⟩
  · exact hv
  · exact h j w h2
theorem am_okL_st2 {n : Nat} {L : List (Option Value)} {i : Nat} {v : Value} (h : am_okL n L) (hv : am_okv n v) : am_okL n (am_st2 L i v) := fun j w hw => by
  rcases am_st2_at hw with ⟨-, rfl⟩ | ⟨-, -, h2, -⟩
  · exact hv
  · exact h j w h2
theorem am_okL_mono {n n' : Nat} (h : n ≤ n') {L : List (Option Value)} (hL : am_okL n L) : am_okL n' L := fun i v hv => am_okv_mono h (hL i v hv)
theorem am_pr_same {L : List (Option Value)} {ad ad' : Nat → Nat} {n : Nat} (h : ∀ i, i < n → ad' i = ad i) (hL : am_okL n L) : ∀ q ∈ am_pr L ad', q ∈ am_pr L ad := fun q hq => by
  obtain ⟨j, w⟩ := q
  obtain ⟨x, hx, rfl⟩ := am_pr_mem.mp hq
  exact am_pr_mem.mpr ⟨x, hx, am_cv_same h (hL j x hx)⟩
end
section
/-! what an instruction's meaning gives, taken apart -/
section
variable {st : List Value} {ls : List (Option Value)} {h : am_H} {p i ci : Nat}
theorem am_i1_use {g : Int32 → List Value → Prop} (H : am_i1 st g) : ∃ x r, st = .int x :: r ∧ g x r := by
  unfold am_i1 at H; split at H
  · exact ⟨_, _, rfl, H⟩
  · exact H.elim
theorem am_i2_use {g : Int32 → Int32 → List Value → Prop} (H : am_i2 st g) : ∃ x y r, st = .int y :: .int x :: r ∧ g x y r := by
  unfold am_i2 at H; split at H
  · exact ⟨_, _, _, rfl, H⟩
  · exact H.elim
theorem am_l1_use {g : Int64 → List Value → Prop} (H : am_l1 st g) : ∃ x r, st = .long x :: r ∧ g x r := by
  unfold am_l1 at H; split at H
  · exact ⟨_, _, rfl, H⟩
  · exact H.elim
theorem am_l2_use {g : Int64 → Int64 → List Value → Prop} (H : am_l2 st g) : ∃ x y r, st = .long y :: .long x :: r ∧ g x y r := by
  unfold am_l2 at H; split at H
  · exact ⟨_, _, _, rfl, H⟩
  · exact H.elim
theorem am_r1_use {g : Nat → List Value → Prop} (H : am_r1 st g) : ∃ x r, st = .ref x :: r ∧ g x r := by
  unfold am_r1 at H; split at H
  · exact ⟨_, _, rfl, H⟩
  · exact H.elim
theorem am_ir_use {g : Int32 → Nat → List Value → Prop} (H : am_ir st g) : ∃ x y r, st = .int x :: .ref y :: r ∧ g x y r := by
  unfold am_ir at H; split at H
  · exact ⟨_, _, _, rfl, H⟩
  · exact H.elim
theorem am_ldi_use {g : Int32 → Prop} (H : am_ldi ls i g) : ∃ x, ls.getD i none = some (.int x) ∧ g x := by
  unfold am_ldi at H; split at H
  · rename_i e; exact ⟨_, e, H⟩
  · exact H.elim
theorem am_ldl_use {g : Int64 → Prop} (H : am_ldl ls i g) : ∃ x, ls.getD i none = some (.long x) ∧ g x := by
  unfold am_ldl at H; split at H
  · rename_i e; exact ⟨_, e, H⟩
  · exact H.elim
theorem am_lda_use {g : Nat → Prop} (H : am_lda ls i g) : ∃ x, ls.getD i none = some (.ref x) ∧ g x := by
  unfold am_lda at H; split at H
  · rename_i e; exact ⟨_, e, H⟩
  · exact H.elim
theorem am_obj_use {g : List Value → Prop} (H : am_obj h p ci g) : ∃ fs, h.2 p = .inr (ci, fs) ∧ g fs := by
  unfold am_obj at H; split at H
  · rename_i c fs e
    split at H
    · rename_i hc; subst hc; exact ⟨_, e, H⟩
    · exact H.elim
  · exact H.elim
theorem am_ari_use {ty : FieldType} {g : Nat → (Nat → Int32) → Prop} (H : am_ari h p ty g) : ∃ n f, h.2 p = .inl (ty, n, .inl f) ∧ g n f := by
  unfold am_ari at H; split at H
  · rename_i t n f e
    split at H
    · rename_i hc; subst hc; exact ⟨_, _, e, H⟩
    · exact H.elim
  · exact H.elim
theorem am_rdi_use {g : Nat → (Nat → Int32) → Prop} (H : am_rdi h p g) : ∃ n f, (h.2 p = .inl (.int, n, .inl f) ∨ h.2 p = .inl (.float, n, .inl f)) ∧ g n f := by
  unfold am_rdi at H; split at H
  · rename_i e; exact ⟨_, _, Or.inl e, H⟩
  · rename_i e; exact ⟨_, _, Or.inr e, H⟩
  · exact H.elim
theorem am_arl_use {g : Nat → (Nat → Int64) → Prop} (H : am_arl h p g) : ∃ n f, h.2 p = .inl (.long, n, .inr (.inl f)) ∧ g n f := by
  unfold am_arl at H; split at H
  · rename_i e; exact ⟨_, _, e, H⟩
  · exact H.elim
theorem am_arr_use {g : String → Nat → (Nat → Option Nat) → Prop} (H : am_arr h p g) : ∃ C n f, h.2 p = .inl (.object C, n, .inr (.inr (.inr (.inr f)))) ∧ g C n f := by
  unfold am_arr at H; split at H
  · rename_i e; exact ⟨_, _, _, e, H⟩
  · exact H.elim
theorem am_len_use {g : Nat → Prop} (H : am_len h p g) : ∃ ty n x, h.2 p = .inl (ty, n, x) ∧ g n := by
  unfold am_len at H; split at H
  · rename_i e; exact ⟨_, _, _, e, H⟩
  · exact H.elim
end
/-- what is only read: the texts (0 .. 15), the static arrays (32, 33), the script (34) -/
def am_RO (ro : Nat → am_C) (ad : Nat → Nat) (A : Nat → Prop) (U : State) (H : Heap) : Prop :=
  (∀ p n f, p < 40 → ro p = .inl (.float, n, .inl f) → va_T .int (ad p) n (fun j => .int (f j)) A U H) ∧
  va_Z RX4 "STARTS" "[I" (.ref (ad 32)) A U H ∧ va_Z RX2 "FACTORIALS" "[I" (.ref (ad 33)) A U H
def am_roS (ro : Nat → am_C) : Prop := ∀ p, p < 40 → ro p = .inr (50, []) ∨ ∃ n f, ro p = .inl (.float, n, .inl f)
section
variable (p : Program) (l : Launch) (e : Env) (R : Room) (s : State) (m : MethodId) (args : Array Value) (below : List Frame) (meth : Method) (c : Code)
variable (D : va_G) (dA : Nat → ClassId) (A : Nat → Prop) (ro : Nat → am_C) (ad0 : Nat → Nat) (n0 nL : Nat) (lim : Nat × Nat) (Qm : State → Prop)
/-- the machine at a frame: wherever heap and locals lie so, it comes to Qm -/
def am_Wp : am_F → am_H → Prop := fun f h => match f with
  | (pc, L, st, u) => ∀ (ad : Nat → Nat) (H : Heap) (locs : List Loc) (ls : Array Slot), (∀ i, i < n0 → ad i = ad0 i) → n0 ≤ h.1 → va_P D vwCl (am_ws dA ad h) H → va_D A (am_ws dA ad h) → va_S A s.heap H locs → am_okh ro h → lv_has ls nL (am_pr L ad) → am_okL h.1 L → (∀ v ∈ st, am_okv h.1 v) → u.1 ≤ lim.1 → u.2 ≤ lim.2 →
    W p l e R s m args below meth c H locs u.1 u.2 Qm (F0 m pc ls (st.map (am_cv ad)))
end
section
variable {p : Program} {l : Launch} {e : Env} {R : Room} {s : State} {m : MethodId} {args : Array Value} {below : List Frame} {meth : Method} {c : Code}
variable {D : va_G} {dA : Nat → ClassId} {A : Nat → Prop} {ro : Nat → am_C} {ad0 : Nat → Nat} {n0 nL : Nat} {lim : Nat × Nat} {Qm : State → Prop}
variable {cc : ByteArray} {pc : Nat} {L : List (Option Value)} {st : List Value} {u : Nat × Nat} {h : am_H}

theorem ams_iadd (hx : p.tables.exec = Jvm.exec) (hb : c.code = cc) (hd : decode cc pc = .ok (.iadd, 1)) (H0 : am_i2 st (fun x y r => am_Wp p l e R s m args below meth c D dA A ro ad0 n0 nL lim Qm (pc + 1, L, .int (x + y) :: r, u) h)) : am_Wp p l e R s m args below meth c D dA A ro ad0 n0 nL lim Qm (pc, L, st, u) h := by
  obtain ⟨x, y, r, rfl, K⟩ := am_i2_use H0
  intro ad H locs ls had hn hP hD hS hok hl hLo hst hu1 hu2
  exact lv_iadd hx hb hd (K ad H locs ls had hn hP hD hS hok hl hLo (List.forall_mem_cons.mpr ⟨am_okv_int, fun v hv => hst v (List.mem_cons_of_mem _ (List.mem_cons_of_mem _ hv))⟩) hu1 hu2)
theorem ams_isub (hx : p.tables.exec = Jvm.exec) (hb : c.code = cc) (hd : decode cc pc = .ok (.isub, 1)) (H0 : am_i2 st (fun x y r => am_Wp p l e R s m args below meth c D dA A ro ad0 n0 nL lim Qm (pc + 1, L, .int (x - y) :: r, u) h)) : am_Wp p l e R s m args below meth c D dA A ro ad0 n0 nL lim Qm (pc, L, st, u) h := by
  obtain ⟨x, y, r, rfl, K⟩ := am_i2_use H0
  intro ad H locs ls had hn hP hD hS hok hl hLo hst hu1 hu2
  exact lv_isub hx hb hd (K ad H locs ls had hn hP hD hS hok hl hLo (List.forall_mem_cons.mpr ⟨am_okv_int, fun v hv => hst v (List.mem_cons_of_mem _ (List.mem_cons_of_mem _ hv))⟩) hu1 hu2)
theorem ams_imul (hx : p.tables.exec = Jvm.exec) (hb : c.code = cc) (hd : decode cc pc = .ok (.imul, 1)) (H0 : am_i2 st (fun x y r => am_Wp p l e R s m args below meth c D dA A ro ad0 n0 nL lim Qm (pc + 1, L, .int (x * y) :: r, u) h)) : am_Wp p l e R s m args below meth c D dA A ro ad0 n0 nL lim Qm (pc, L, st, u) h := by
  obtain ⟨x, y, r, rfl, K⟩ := am_i2_use H0
  intro ad H locs ls had hn hP hD hS hok hl hLo hst hu1 hu2
  exact lv_imul hx hb hd (K ad H locs ls had hn hP hD hS hok hl hLo (List.forall_mem_cons.mpr ⟨am_okv_int, fun v hv => hst v (List.mem_cons_of_mem _ (List.mem_cons_of_mem _ hv))⟩) hu1 hu2)
theorem ams_iand (hx : p.tables.exec = Jvm.exec) (hb : c.code = cc) (hd : decode cc pc = .ok (.iand, 1)) (H0 : am_i2 st (fun x y r => am_Wp p l e R s m args below meth c D dA A ro ad0 n0 nL lim Qm (pc + 1, L, .int (x &&& y) :: r, u) h)) : am_Wp p l e R s m args below meth c D dA A ro ad0 n0 nL lim Qm (pc, L, st, u) h := by
  obtain ⟨x, y, r, rfl, K⟩ := am_i2_use H0
  intro ad H locs ls had hn hP hD hS hok hl hLo hst hu1 hu2
  exact lv_iand hx hb hd (K ad H locs ls had hn hP hD hS hok hl hLo (List.forall_mem_cons.mpr ⟨am_okv_int, fun v hv => hst v (List.mem_cons_of_mem _ (List.mem_cons_of_mem _ hv))⟩) hu1 hu2)
theorem ams_ior (hx : p.tables.exec = Jvm.exec) (hb : c.code = cc) (hd : decode cc pc = .ok (.ior, 1)) (H0 : am_i2 st (fun x y r => am_Wp p l e R s m args below meth c D dA A ro ad0 n0 nL lim Qm (pc + 1, L, .int (x ||| y) :: r, u) h)) : am_Wp p l e R s m args below meth c D dA A ro ad0 n0 nL lim Qm (pc, L, st, u) h := by
  obtain ⟨x, y, r, rfl, K⟩ := am_i2_use H0
  intro ad H locs ls had hn hP hD hS hok hl hLo hst hu1 hu2
  exact lv_ior hx hb hd (K ad H locs ls had hn hP hD hS hok hl hLo (List.forall_mem_cons.mpr ⟨am_okv_int, fun v hv => hst v (List.mem_cons_of_mem _ (List.mem_cons_of_mem _ hv))⟩) hu1 hu2)
theorem ams_ixor (hx : p.tables.exec = Jvm.exec) (hb : c.code = cc) (hd : decode cc pc = .ok (.ixor, 1)) (H0 : am_i2 st (fun x y r => am_Wp p l e R s m args below meth c D dA A ro ad0 n0 nL lim Qm (pc + 1, L, .int (x ^^^ y) :: r, u) h)) : am_Wp p l e R s m args below meth c D dA A ro ad0 n0 nL lim Qm (pc, L, st, u) h := by
  obtain ⟨x, y, r, rfl, K⟩ := am_i2_use H0
  intro ad H locs ls had hn hP hD hS hok hl hLo hst hu1 hu2
  exact lv_ixor hx hb hd (K ad H locs ls had hn hP hD hS hok hl hLo (List.forall_mem_cons.mpr ⟨am_okv_int, fun v hv => hst v (List.mem_cons_of_mem _ (List.mem_cons_of_mem _ hv))⟩) hu1 hu2)
theorem ams_ishl (hx : p.tables.exec = Jvm.exec) (hb : c.code = cc) (hd : decode cc pc = .ok (.ishl, 1)) (H0 : am_i2 st (fun x y r => am_Wp p l e R s m args below meth c D dA A ro ad0 n0 nL lim Qm (pc + 1, L, .int (x <<< (y &&& 31)) :: r, u) h)) : am_Wp p l e R s m args below meth c D dA A ro ad0 n0 nL lim Qm (pc, L, st, u) h := by
  obtain ⟨x, y, r, rfl, K⟩ := am_i2_use H0
  intro ad H locs ls had hn hP hD hS hok hl hLo hst hu1 hu2
  exact lv_ishl hx hb hd (K ad H locs ls had hn hP hD hS hok hl hLo (List.forall_mem_cons.mpr ⟨am_okv_int, fun v hv => hst v (List.mem_cons_of_mem _ (List.mem_cons_of_mem _ hv))⟩) hu1 hu2)
theorem ams_ishr (hx : p.tables.exec = Jvm.exec) (hb : c.code = cc) (hd : decode cc pc = .ok (.ishr, 1)) (H0 : am_i2 st (fun x y r => am_Wp p l e R s m args below meth c D dA A ro ad0 n0 nL lim Qm (pc + 1, L, .int (x >>> (y &&& 31)) :: r, u) h)) : am_Wp p l e R s m args below meth c D dA A ro ad0 n0 nL lim Qm (pc, L, st, u) h := by
  obtain ⟨x, y, r, rfl, K⟩ := am_i2_use H0
  intro ad H locs ls had hn hP hD hS hok hl hLo hst hu1 hu2
  exact lv_ishr hx hb hd (K ad H locs ls had hn hP hD hS hok hl hLo (List.forall_mem_cons.mpr ⟨am_okv_int, fun v hv => hst v (List.mem_cons_of_mem _ (List.mem_cons_of_mem _ hv))⟩) hu1 hu2)
theorem ams_iushr (hx : p.tables.exec = Jvm.exec) (hb : c.code = cc) (hd : decode cc pc = .ok (.iushr, 1)) (H0 : am_i2 st (fun x y r => am_Wp p l e R s m args below meth c D dA A ro ad0 n0 nL lim Qm (pc + 1, L, .int (x.toUInt32 >>> (y.toUInt32 &&& Int32.toUInt32 31)).toInt32 :: r, u) h)) : am_Wp p l e R s m args below meth c D dA A ro ad0 n0 nL lim Qm (pc, L, st, u) h := by
  obtain ⟨x, y, r, rfl, K⟩ := am_i2_use H0
  intro ad H locs ls had hn hP hD hS hok hl hLo hst hu1 hu2
  exact lv_iushr hx hb hd rfl (K ad H locs ls had hn hP hD hS hok hl hLo (List.forall_mem_cons.mpr ⟨am_okv_int, fun v hv => hst v (List.mem_cons_of_mem _ (List.mem_cons_of_mem _ hv))⟩) hu1 hu2)
theorem ams_idiv (hx : p.tables.exec = Jvm.exec) (hb : c.code = cc) (hd : decode cc pc = .ok (.idiv, 1)) (H0 : am_i2 st (fun x y r => ¬ y = 0 ∧ am_Wp p l e R s m args below meth c D dA A ro ad0 n0 nL lim Qm (pc + 1, L, .int (x / y) :: r, u) h)) : am_Wp p l e R s m args below meth c D dA A ro ad0 n0 nL lim Qm (pc, L, st, u) h := by
  obtain ⟨x, y, r, rfl, hne, K⟩ := am_i2_use H0
  intro ad H locs ls had hn hP hD hS hok hl hLo hst hu1 hu2
  exact lv_idiv hx hb hd hne (K ad H locs ls had hn hP hD hS hok hl hLo (List.forall_mem_cons.mpr ⟨am_okv_int, fun v hv => hst v (List.mem_cons_of_mem _ (List.mem_cons_of_mem _ hv))⟩) hu1 hu2)
theorem ams_irem (hx : p.tables.exec = Jvm.exec) (hb : c.code = cc) (hd : decode cc pc = .ok (.irem, 1)) (H0 : am_i2 st (fun x y r => ¬ y = 0 ∧ am_Wp p l e R s m args below meth c D dA A ro ad0 n0 nL lim Qm (pc + 1, L, .int (x - x / y * y) :: r, u) h)) : am_Wp p l e R s m args below meth c D dA A ro ad0 n0 nL lim Qm (pc, L, st, u) h := by
  obtain ⟨x, y, r, rfl, hne, K⟩ := am_i2_use H0
  intro ad H locs ls had hn hP hD hS hok hl hLo hst hu1 hu2
  exact lv_irem hx hb hd hne (K ad H locs ls had hn hP hD hS hok hl hLo (List.forall_mem_cons.mpr ⟨am_okv_int, fun v hv => hst v (List.mem_cons_of_mem _ (List.mem_cons_of_mem _ hv))⟩) hu1 hu2)
theorem ams_ladd (hx : p.tables.exec = Jvm.exec) (hb : c.code = cc) (hd : decode cc pc = .ok (.ladd, 1)) (H0 : am_l2 st (fun x y r => am_Wp p l e R s m args below meth c D dA A ro ad0 n0 nL lim Qm (pc + 1, L, .long (x + y) :: r, u) h)) : am_Wp p l e R s m args below meth c D dA A ro ad0 n0 nL lim Qm (pc, L, st, u) h := by
  obtain ⟨x, y, r, rfl, K⟩ := am_l2_use H0
  intro ad H locs ls had hn hP hD hS hok hl hLo hst hu1 hu2
  exact lv_ladd hx hb hd (K ad H locs ls had hn hP hD hS hok hl hLo (List.forall_mem_cons.mpr ⟨am_okv_long, fun v hv => hst v (List.mem_cons_of_mem _ (List.mem_cons_of_mem _ hv))⟩) hu1 hu2)
theorem ams_lsub (hx : p.tables.exec = Jvm.exec) (hb : c.code = cc) (hd : decode cc pc = .ok (.lsub, 1)) (H0 : am_l2 st (fun x y r => am_Wp p l e R s m args below meth c D dA A ro ad0 n0 nL lim Qm (pc + 1, L, .long (x - y) :: r, u) h)) : am_Wp p l e R s m args below meth c D dA A ro ad0 n0 nL lim Qm (pc, L, st, u) h := by
  obtain ⟨x, y, r, rfl, K⟩ := am_l2_use H0
  intro ad H locs ls had hn hP hD hS hok hl hLo hst hu1 hu2
  exact lv_lsub hx hb hd (K ad H locs ls had hn hP hD hS hok hl hLo (List.forall_mem_cons.mpr ⟨am_okv_long, fun v hv => hst v (List.mem_cons_of_mem _ (List.mem_cons_of_mem _ hv))⟩) hu1 hu2)
theorem ams_lmul (hx : p.tables.exec = Jvm.exec) (hb : c.code = cc) (hd : decode cc pc = .ok (.lmul, 1)) (H0 : am_l2 st (fun x y r => am_Wp p l e R s m args below meth c D dA A ro ad0 n0 nL lim Qm (pc + 1, L, .long (x * y) :: r, u) h)) : am_Wp p l e R s m args below meth c D dA A ro ad0 n0 nL lim Qm (pc, L, st, u) h := by
  obtain ⟨x, y, r, rfl, K⟩ := am_l2_use H0
  intro ad H locs ls had hn hP hD hS hok hl hLo hst hu1 hu2
  exact lv_lmul hx hb hd (K ad H locs ls had hn hP hD hS hok hl hLo (List.forall_mem_cons.mpr ⟨am_okv_long, fun v hv => hst v (List.mem_cons_of_mem _ (List.mem_cons_of_mem _ hv))⟩) hu1 hu2)
theorem ams_ldiv (hx : p.tables.exec = Jvm.exec) (hb : c.code = cc) (hd : decode cc pc = .ok (.ldiv, 1)) (H0 : am_l2 st (fun x y r => ¬ y = 0 ∧ am_Wp p l e R s m args below meth c D dA A ro ad0 n0 nL lim Qm (pc + 1, L, .long (x / y) :: r, u) h)) : am_Wp p l e R s m args below meth c D dA A ro ad0 n0 nL lim Qm (pc, L, st, u) h := by
  obtain ⟨x, y, r, rfl, hne, K⟩ := am_l2_use H0
  intro ad H locs ls had hn hP hD hS hok hl hLo hst hu1 hu2
  exact lv_ldiv hx hb hd hne (K ad H locs ls had hn hP hD hS hok hl hLo (List.forall_mem_cons.mpr ⟨am_okv_long, fun v hv => hst v (List.mem_cons_of_mem _ (List.mem_cons_of_mem _ hv))⟩) hu1 hu2)
theorem ams_lrem (hx : p.tables.exec = Jvm.exec) (hb : c.code = cc) (hd : decode cc pc = .ok (.lrem, 1)) (H0 : am_l2 st (fun x y r => ¬ y = 0 ∧ am_Wp p l e R s m args below meth c D dA A ro ad0 n0 nL lim Qm (pc + 1, L, .long (x - x / y * y) :: r, u) h)) : am_Wp p l e R s m args below meth c D dA A ro ad0 n0 nL lim Qm (pc, L, st, u) h := by
  obtain ⟨x, y, r, rfl, hne, K⟩ := am_l2_use H0
  intro ad H locs ls had hn hP hD hS hok hl hLo hst hu1 hu2
  exact lv_lrem hx hb hd hne (K ad H locs ls had hn hP hD hS hok hl hLo (List.forall_mem_cons.mpr ⟨am_okv_long, fun v hv => hst v (List.mem_cons_of_mem _ (List.mem_cons_of_mem _ hv))⟩) hu1 hu2)
theorem ams_lcmp (hx : p.tables.exec = Jvm.exec) (hb : c.code = cc) (hd : decode cc pc = .ok (.lcmp, 1)) (H0 : am_l2 st (fun x y r => am_Wp p l e R s m args below meth c D dA A ro ad0 n0 nL lim Qm (pc + 1, L, .int (lg_cmp x y) :: r, u) h)) : am_Wp p l e R s m args below meth c D dA A ro ad0 n0 nL lim Qm (pc, L, st, u) h := by
  obtain ⟨x, y, r, rfl, K⟩ := am_l2_use H0
  intro ad H locs ls had hn hP hD hS hok hl hLo hst hu1 hu2
  exact W.lcmp hx hb hd (K ad H locs ls had hn hP hD hS hok hl hLo (List.forall_mem_cons.mpr ⟨am_okv_int, fun v hv => hst v (List.mem_cons_of_mem _ (List.mem_cons_of_mem _ hv))⟩) hu1 hu2)
theorem ams_ineg (hx : p.tables.exec = Jvm.exec) (hb : c.code = cc) (hd : decode cc pc = .ok (.ineg, 1)) (H0 : am_i1 st (fun x r => am_Wp p l e R s m args below meth c D dA A ro ad0 n0 nL lim Qm (pc + 1, L, .int (-x) :: r, u) h)) : am_Wp p l e R s m args below meth c D dA A ro ad0 n0 nL lim Qm (pc, L, st, u) h := by
  obtain ⟨x, r, rfl, K⟩ := am_i1_use H0
  intro ad H locs ls had hn hP hD hS hok hl hLo hst hu1 hu2
  exact lv_ineg hx hb hd (K ad H locs ls had hn hP hD hS hok hl hLo (List.forall_mem_cons.mpr ⟨am_okv_int, fun v hv => hst v (List.mem_cons_of_mem _ hv)⟩) hu1 hu2)
theorem ams_i2l (hx : p.tables.exec = Jvm.exec) (hb : c.code = cc) (hd : decode cc pc = .ok (.i2l, 1)) (H0 : am_i1 st (fun x r => am_Wp p l e R s m args below meth c D dA A ro ad0 n0 nL lim Qm (pc + 1, L, .long x.toInt64 :: r, u) h)) : am_Wp p l e R s m args below meth c D dA A ro ad0 n0 nL lim Qm (pc, L, st, u) h := by
  obtain ⟨x, r, rfl, K⟩ := am_i1_use H0
  intro ad H locs ls had hn hP hD hS hok hl hLo hst hu1 hu2
  exact lv_i2l hx hb hd rfl (K ad H locs ls had hn hP hD hS hok hl hLo (List.forall_mem_cons.mpr ⟨am_okv_long, fun v hv => hst v (List.mem_cons_of_mem _ hv)⟩) hu1 hu2)
theorem ams_i2b (hx : p.tables.exec = Jvm.exec) (hb : c.code = cc) (hd : decode cc pc = .ok (.i2b, 1)) (H0 : am_i1 st (fun x r => am_Wp p l e R s m args below meth c D dA A ro ad0 n0 nL lim Qm (pc + 1, L, .int x.toInt8.toInt32 :: r, u) h)) : am_Wp p l e R s m args below meth c D dA A ro ad0 n0 nL lim Qm (pc, L, st, u) h := by
  obtain ⟨x, r, rfl, K⟩ := am_i1_use H0
  intro ad H locs ls had hn hP hD hS hok hl hLo hst hu1 hu2
  exact lv_i2b hx hb hd rfl (K ad H locs ls had hn hP hD hS hok hl hLo (List.forall_mem_cons.mpr ⟨am_okv_int, fun v hv => hst v (List.mem_cons_of_mem _ hv)⟩) hu1 hu2)
theorem ams_i2s (hx : p.tables.exec = Jvm.exec) (hb : c.code = cc) (hd : decode cc pc = .ok (.i2s, 1)) (H0 : am_i1 st (fun x r => am_Wp p l e R s m args below meth c D dA A ro ad0 n0 nL lim Qm (pc + 1, L, .int x.toInt16.toInt32 :: r, u) h)) : am_Wp p l e R s m args below meth c D dA A ro ad0 n0 nL lim Qm (pc, L, st, u) h := by
  obtain ⟨x, r, rfl, K⟩ := am_i1_use H0
  intro ad H locs ls had hn hP hD hS hok hl hLo hst hu1 hu2
  exact lv_i2s hx hb hd rfl (K ad H locs ls had hn hP hD hS hok hl hLo (List.forall_mem_cons.mpr ⟨am_okv_int, fun v hv => hst v (List.mem_cons_of_mem _ hv)⟩) hu1 hu2)
theorem ams_i2c (hx : p.tables.exec = Jvm.exec) (hb : c.code = cc) (hd : decode cc pc = .ok (.i2c, 1)) (H0 : am_i1 st (fun x r => am_Wp p l e R s m args below meth c D dA A ro ad0 n0 nL lim Qm (pc + 1, L, .int (x.toUInt32 % 65536).toInt32 :: r, u) h)) : am_Wp p l e R s m args below meth c D dA A ro ad0 n0 nL lim Qm (pc, L, st, u) h := by
  obtain ⟨x, r, rfl, K⟩ := am_i1_use H0
  intro ad H locs ls had hn hP hD hS hok hl hLo hst hu1 hu2
  exact lv_i2c hx hb hd rfl (K ad H locs ls had hn hP hD hS hok hl hLo (List.forall_mem_cons.mpr ⟨am_okv_int, fun v hv => hst v (List.mem_cons_of_mem _ hv)⟩) hu1 hu2)
theorem ams_l2i (hx : p.tables.exec = Jvm.exec) (hb : c.code = cc) (hd : decode cc pc = .ok (.l2i, 1)) (H0 : am_l1 st (fun x r => am_Wp p l e R s m args below meth c D dA A ro ad0 n0 nL lim Qm (pc + 1, L, .int x.toInt32 :: r, u) h)) : am_Wp p l e R s m args below meth c D dA A ro ad0 n0 nL lim Qm (pc, L, st, u) h := by
  obtain ⟨x, r, rfl, K⟩ := am_l1_use H0
  intro ad H locs ls had hn hP hD hS hok hl hLo hst hu1 hu2
  exact lv_l2i hx hb hd rfl (K ad H locs ls had hn hP hD hS hok hl hLo (List.forall_mem_cons.mpr ⟨am_okv_int, fun v hv => hst v (List.mem_cons_of_mem _ hv)⟩) hu1 hu2)
theorem ams_iconst (hx : p.tables.exec = Jvm.exec) (hb : c.code = cc) {n : Int} {v : Int32} (hd : decode cc pc = .ok (.iconst n, 1)) (hv : Int32.ofInt n = v) (K : am_Wp p l e R s m args below meth c D dA A ro ad0 n0 nL lim Qm (pc + 1, L, .int v :: st, u) h) : am_Wp p l e R s m args below meth c D dA A ro ad0 n0 nL lim Qm (pc, L, st, u) h := by
  intro ad H locs ls had hn hP hD hS hok hl hLo hst hu1 hu2
  exact lv_iconst hx hb hd hv (K ad H locs ls had hn hP hD hS hok hl hLo (List.forall_mem_cons.mpr ⟨am_okv_int, hst⟩) hu1 hu2)
theorem ams_bipush (hx : p.tables.exec = Jvm.exec) (hb : c.code = cc) {n : Int} {v : Int32} (hd : decode cc pc = .ok (.bipush n, 2)) (hv : (Int8.ofInt n).toInt32 = v) (K : am_Wp p l e R s m args below meth c D dA A ro ad0 n0 nL lim Qm (pc + 2, L, .int v :: st, u) h) : am_Wp p l e R s m args below meth c D dA A ro ad0 n0 nL lim Qm (pc, L, st, u) h := by
  intro ad H locs ls had hn hP hD hS hok hl hLo hst hu1 hu2
  exact lv_bipush hx hb hd hv (K ad H locs ls had hn hP hD hS hok hl hLo (List.forall_mem_cons.mpr ⟨am_okv_int, hst⟩) hu1 hu2)
theorem ams_sipush (hx : p.tables.exec = Jvm.exec) (hb : c.code = cc) {n : Int} {v : Int32} (hd : decode cc pc = .ok (.sipush n, 3)) (hv : (Int16.ofInt n).toInt32 = v) (K : am_Wp p l e R s m args below meth c D dA A ro ad0 n0 nL lim Qm (pc + 3, L, .int v :: st, u) h) : am_Wp p l e R s m args below meth c D dA A ro ad0 n0 nL lim Qm (pc, L, st, u) h := by
  intro ad H locs ls had hn hP hD hS hok hl hLo hst hu1 hu2
  exact lv_sipush hx hb hd hv (K ad H locs ls had hn hP hD hS hok hl hLo (List.forall_mem_cons.mpr ⟨am_okv_int, hst⟩) hu1 hu2)
theorem ams_lconst (hx : p.tables.exec = Jvm.exec) (hb : c.code = cc) {n : Fin 2} {v : Int64} (hd : decode cc pc = .ok (.lconst n, 1)) (hv : Int64.ofNat (n : Nat) = v) (K : am_Wp p l e R s m args below meth c D dA A ro ad0 n0 nL lim Qm (pc + 1, L, .long v :: st, u) h) : am_Wp p l e R s m args below meth c D dA A ro ad0 n0 nL lim Qm (pc, L, st, u) h := by
  intro ad H locs ls had hn hP hD hS hok hl hLo hst hu1 hu2
  exact lv_lconst hx hb hd hv (K ad H locs ls had hn hP hD hS hok hl hLo (List.forall_mem_cons.mpr ⟨am_okv_long, hst⟩) hu1 hu2)
theorem ams_ldc (hx : p.tables.exec = Jvm.exec) (hb : c.code = cc) {own : String} {idx : Nat} {v : Int32} (hown : s.vm.findClass own = some m.cls) (hc : (Jvm.Cond.constant own idx v).before args s = true) (hd : decode cc pc = .ok (.ldc idx, 2)) (K : am_Wp p l e R s m args below meth c D dA A ro ad0 n0 nL lim Qm (pc + 2, L, .int v :: st, u) h) : am_Wp p l e R s m args below meth c D dA A ro ad0 n0 nL lim Qm (pc, L, st, u) h := by
  intro ad H locs ls had hn hP hD hS hok hl hLo hst hu1 hu2
  exact lv_ldc hx hb hown hc hd (K ad H locs ls had hn hP hD hS hok hl hLo (List.forall_mem_cons.mpr ⟨am_okv_int, hst⟩) hu1 hu2)
theorem ams_ldc_w (hx : p.tables.exec = Jvm.exec) (hb : c.code = cc) {own : String} {idx : Nat} {v : Int32} (hown : s.vm.findClass own = some m.cls) (hc : (Jvm.Cond.constant own idx v).before args s = true) (hd : decode cc pc = .ok (.ldc_w idx, 3)) (K : am_Wp p l e R s m args below meth c D dA A ro ad0 n0 nL lim Qm (pc + 3, L, .int v :: st, u) h) : am_Wp p l e R s m args below meth c D dA A ro ad0 n0 nL lim Qm (pc, L, st, u) h := by
  intro ad H locs ls had hn hP hD hS hok hl hLo hst hu1 hu2
  exact lv_ldcw hx hb hown hc hd (K ad H locs ls had hn hP hD hS hok hl hLo (List.forall_mem_cons.mpr ⟨am_okv_int, hst⟩) hu1 hu2)
theorem ams_ldc2_w (hx : p.tables.exec = Jvm.exec) (hb : c.code = cc) {own : String} {idx : Nat} {v : Int64} (hown : s.vm.findClass own = some m.cls) (hc : (Jvm.Cond.constantLong own idx v).before args s = true) (hd : decode cc pc = .ok (.ldc2_w idx, 3)) (K : am_Wp p l e R s m args below meth c D dA A ro ad0 n0 nL lim Qm (pc + 3, L, .long v :: st, u) h) : am_Wp p l e R s m args below meth c D dA A ro ad0 n0 nL lim Qm (pc, L, st, u) h := by
  intro ad H locs ls had hn hP hD hS hok hl hLo hst hu1 hu2
  exact lv_ldc2 hx hb hown hc hd (K ad H locs ls had hn hP hD hS hok hl hLo (List.forall_mem_cons.mpr ⟨am_okv_long, hst⟩) hu1 hu2)
theorem ams_iload_n (hx : p.tables.exec = Jvm.exec) (hb : c.code = cc) {i : Fin 4} (hd : decode cc pc = .ok (.iload_n i, 1)) (H0 : am_ldi L i (fun x => am_Wp p l e R s m args below meth c D dA A ro ad0 n0 nL lim Qm (pc + 1, L, .int x :: st, u) h)) : am_Wp p l e R s m args below meth c D dA A ro ad0 n0 nL lim Qm (pc, L, st, u) h := by
  obtain ⟨x, e1, K⟩ := am_ldi_use H0
  intro ad H locs ls had hn hP hD hS hok hl hLo hst hu1 hu2
  exact lv_iload_n hx hb hd rfl (am_pr_at hl e1) (K ad H locs ls had hn hP hD hS hok hl hLo (List.forall_mem_cons.mpr ⟨am_okv_int, hst⟩) hu1 hu2)
theorem ams_iload (hx : p.tables.exec = Jvm.exec) (hb : c.code = cc) {i : Nat} (hd : decode cc pc = .ok (.iload i, 2)) (H0 : am_ldi L i (fun x => am_Wp p l e R s m args below meth c D dA A ro ad0 n0 nL lim Qm (pc + 2, L, .int x :: st, u) h)) : am_Wp p l e R s m args below meth c D dA A ro ad0 n0 nL lim Qm (pc, L, st, u) h := by
  obtain ⟨x, e1, K⟩ := am_ldi_use H0
  intro ad H locs ls had hn hP hD hS hok hl hLo hst hu1 hu2
  exact lv_iload hx hb hd (am_pr_at hl e1) (K ad H locs ls had hn hP hD hS hok hl hLo (List.forall_mem_cons.mpr ⟨am_okv_int, hst⟩) hu1 hu2)
theorem ams_lload_n (hx : p.tables.exec = Jvm.exec) (hb : c.code = cc) {i : Fin 4} (hd : decode cc pc = .ok (.lload_n i, 1)) (H0 : am_ldl L i (fun x => am_Wp p l e R s m args below meth c D dA A ro ad0 n0 nL lim Qm (pc + 1, L, .long x :: st, u) h)) : am_Wp p l e R s m args below meth c D dA A ro ad0 n0 nL lim Qm (pc, L, st, u) h := by
  obtain ⟨x, e1, K⟩ := am_ldl_use H0
  intro ad H locs ls had hn hP hD hS hok hl hLo hst hu1 hu2
  exact lv_lload_n hx hb hd rfl (am_pr_at hl e1) (K ad H locs ls had hn hP hD hS hok hl hLo (List.forall_mem_cons.mpr ⟨am_okv_long, hst⟩) hu1 hu2)
theorem ams_lload (hx : p.tables.exec = Jvm.exec) (hb : c.code = cc) {i : Nat} (hd : decode cc pc = .ok (.lload i, 2)) (H0 : am_ldl L i (fun x => am_Wp p l e R s m args below meth c D dA A ro ad0 n0 nL lim Qm (pc + 2, L, .long x :: st, u) h)) : am_Wp p l e R s m args below meth c D dA A ro ad0 n0 nL lim Qm (pc, L, st, u) h := by
  obtain ⟨x, e1, K⟩ := am_ldl_use H0
  intro ad H locs ls had hn hP hD hS hok hl hLo hst hu1 hu2
  exact lv_lload hx hb hd (am_pr_at hl e1) (K ad H locs ls had hn hP hD hS hok hl hLo (List.forall_mem_cons.mpr ⟨am_okv_long, hst⟩) hu1 hu2)
theorem ams_aload_n (hx : p.tables.exec = Jvm.exec) (hb : c.code = cc) {i : Fin 4} (hd : decode cc pc = .ok (.aload_n i, 1)) (H0 : am_lda L i (fun x => am_Wp p l e R s m args below meth c D dA A ro ad0 n0 nL lim Qm (pc + 1, L, .ref x :: st, u) h)) : am_Wp p l e R s m args below meth c D dA A ro ad0 n0 nL lim Qm (pc, L, st, u) h := by
  obtain ⟨x, e1, K⟩ := am_lda_use H0
  intro ad H locs ls had hn hP hD hS hok hl hLo hst hu1 hu2
  exact lv_aload_n hx hb hd rfl (am_pr_at hl e1) (K ad H locs ls had hn hP hD hS hok hl hLo (List.forall_mem_cons.mpr ⟨(hLo _ _ e1), hst⟩) hu1 hu2)
theorem ams_aload (hx : p.tables.exec = Jvm.exec) (hb : c.code = cc) {i : Nat} (hd : decode cc pc = .ok (.aload i, 2)) (H0 : am_lda L i (fun x => am_Wp p l e R s m args below meth c D dA A ro ad0 n0 nL lim Qm (pc + 2, L, .ref x :: st, u) h)) : am_Wp p l e R s m args below meth c D dA A ro ad0 n0 nL lim Qm (pc, L, st, u) h := by
  obtain ⟨x, e1, K⟩ := am_lda_use H0
  intro ad H locs ls had hn hP hD hS hok hl hLo hst hu1 hu2
  exact lv_aload hx hb hd (am_pr_at hl e1) (K ad H locs ls had hn hP hD hS hok hl hLo (List.forall_mem_cons.mpr ⟨(hLo _ _ e1), hst⟩) hu1 hu2)
theorem ams_istore_n (hx : p.tables.exec = Jvm.exec) (hb : c.code = cc) {i : Fin 4} (hd : decode cc pc = .ok (.istore_n i, 1)) (hi : (i : Nat) < nL) (H0 : am_i1 st (fun x r => am_Wp p l e R s m args below meth c D dA A ro ad0 n0 nL lim Qm (pc + 1, am_st1 L i (.int x), r, u) h)) : am_Wp p l e R s m args below meth c D dA A ro ad0 n0 nL lim Qm (pc, L, st, u) h := by
  obtain ⟨x, r, rfl, K⟩ := am_i1_use H0
  intro ad H locs ls had hn hP hD hS hok hl hLo hst hu1 hu2
  exact lv_istore_n hx hb hd rfl hl hi rfl (fun ls' hl' => K ad H locs ls' had hn hP hD hS hok (am_lv_st1 hl') (am_okL_st1 hLo am_okv_int) (fun v hv => hst v (List.mem_cons_of_mem _ hv)) hu1 hu2)
theorem ams_istore (hx : p.tables.exec = Jvm.exec) (hb : c.code = cc) {i : Nat} (hd : decode cc pc = .ok (.istore i, 2)) (hi : i < nL) (H0 : am_i1 st (fun x r => am_Wp p l e R s m args below meth c D dA A ro ad0 n0 nL lim Qm (pc + 2, am_st1 L i (.int x), r, u) h)) : am_Wp p l e R s m args below meth c D dA A ro ad0 n0 nL lim Qm (pc, L, st, u) h := by
  obtain ⟨x, r, rfl, K⟩ := am_i1_use H0
  intro ad H locs ls had hn hP hD hS hok hl hLo hst hu1 hu2
  exact lv_istore hx hb hd hl hi rfl (fun ls' hl' => K ad H locs ls' had hn hP hD hS hok (am_lv_st1 hl') (am_okL_st1 hLo am_okv_int) (fun v hv => hst v (List.mem_cons_of_mem _ hv)) hu1 hu2)
theorem ams_lstore_n (hx : p.tables.exec = Jvm.exec) (hb : c.code = cc) {i : Fin 4} (hd : decode cc pc = .ok (.lstore_n i, 1)) (hi : (i : Nat) + 1 < nL) (H0 : am_l1 st (fun x r => am_Wp p l e R s m args below meth c D dA A ro ad0 n0 nL lim Qm (pc + 1, am_st2 L i (.long x), r, u) h)) : am_Wp p l e R s m args below meth c D dA A ro ad0 n0 nL lim Qm (pc, L, st, u) h := by
  obtain ⟨x, r, rfl, K⟩ := am_l1_use H0
  intro ad H locs ls had hn hP hD hS hok hl hLo hst hu1 hu2
  exact lv_lstore_n hx hb hd rfl hl hi rfl (fun ls' hl' => K ad H locs ls' had hn hP hD hS hok (am_lv_st2 hl') (am_okL_st2 hLo am_okv_long) (fun v hv => hst v (List.mem_cons_of_mem _ hv)) hu1 hu2)
theorem ams_lstore (hx : p.tables.exec = Jvm.exec) (hb : c.code = cc) {i : Nat} (hd : decode cc pc = .ok (.lstore i, 2)) (hi : i + 1 < nL) (H0 : am_l1 st (fun x r => am_Wp p l e R s m args below meth c D dA A ro ad0 n0 nL lim Qm (pc + 2, am_st2 L i (.long x), r, u) h)) : am_Wp p l e R s m args below meth c D dA A ro ad0 n0 nL lim Qm (pc, L, st, u) h := by
  obtain ⟨x, r, rfl, K⟩ := am_l1_use H0
  intro ad H locs ls had hn hP hD hS hok hl hLo hst hu1 hu2
  exact lv_lstore hx hb hd hl hi rfl (fun ls' hl' => K ad H locs ls' had hn hP hD hS hok (am_lv_st2 hl') (am_okL_st2 hLo am_okv_long) (fun v hv => hst v (List.mem_cons_of_mem _ hv)) hu1 hu2)
theorem ams_astore_n (hx : p.tables.exec = Jvm.exec) (hb : c.code = cc) {i : Fin 4} (hd : decode cc pc = .ok (.astore_n i, 1)) (hi : (i : Nat) < nL) (H0 : am_r1 st (fun x r => am_Wp p l e R s m args below meth c D dA A ro ad0 n0 nL lim Qm (pc + 1, am_st1 L i (.ref x), r, u) h)) : am_Wp p l e R s m args below meth c D dA A ro ad0 n0 nL lim Qm (pc, L, st, u) h := by
  obtain ⟨x, r, rfl, K⟩ := am_r1_use H0
  intro ad H locs ls had hn hP hD hS hok hl hLo hst hu1 hu2
  exact lv_astore_n hx hb hd rfl hl hi rfl (fun ls' hl' => K ad H locs ls' had hn hP hD hS hok (am_lv_st1 hl') (am_okL_st1 hLo (hst _ List.mem_cons_self)) (fun v hv => hst v (List.mem_cons_of_mem _ hv)) hu1 hu2)
theorem ams_astore (hx : p.tables.exec = Jvm.exec) (hb : c.code = cc) {i : Nat} (hd : decode cc pc = .ok (.astore i, 2)) (hi : i < nL) (H0 : am_r1 st (fun x r => am_Wp p l e R s m args below meth c D dA A ro ad0 n0 nL lim Qm (pc + 2, am_st1 L i (.ref x), r, u) h)) : am_Wp p l e R s m args below meth c D dA A ro ad0 n0 nL lim Qm (pc, L, st, u) h := by
  obtain ⟨x, r, rfl, K⟩ := am_r1_use H0
  intro ad H locs ls had hn hP hD hS hok hl hLo hst hu1 hu2
  exact lv_astore hx hb hd hl hi rfl (fun ls' hl' => K ad H locs ls' had hn hP hD hS hok (am_lv_st1 hl') (am_okL_st1 hLo (hst _ List.mem_cons_self)) (fun v hv => hst v (List.mem_cons_of_mem _ hv)) hu1 hu2)
theorem ams_iinc (hx : p.tables.exec = Jvm.exec) (hb : c.code = cc) {i : Nat} {n : Int} {v : Int32} (hd : decode cc pc = .ok (.iinc i n, 3)) (hi : i < nL) (hv : Int32.ofInt n = v) (H0 : am_ldi L i (fun x => am_Wp p l e R s m args below meth c D dA A ro ad0 n0 nL lim Qm (pc + 3, am_st1 L i (.int (x + v)), st, u) h)) : am_Wp p l e R s m args below meth c D dA A ro ad0 n0 nL lim Qm (pc, L, st, u) h := by
  obtain ⟨x, e1, K⟩ := am_ldi_use H0
  intro ad H locs ls had hn hP hD hS hok hl hLo hst hu1 hu2
  obtain ⟨k, hk⟩ := List.getElem?_of_mem (am_pr_mem.mpr ⟨_, e1, rfl⟩ : (i, am_cv ad (.int x)) ∈ am_pr L ad)
  exact lv_iinc hx hb hd hl (k := k) hk (by rw [hv]) hi rfl (fun ls' hl' => K ad H locs ls' had hn hP hD hS hok (am_lv_st1 (v := .int (x + v)) hl') (am_okL_st1 hLo am_okv_int) hst hu1 hu2)
theorem ams_icmp_eq (hx : p.tables.exec = Jvm.exec) (hb : c.code = cc) {off : Int} {t : Nat} (hd : decode cc pc = .ok (.if_icmp .eq off, 3)) (ht : (pc : Int) + off = (t : Int)) (H0 : am_i2 st (fun x y r => am_br (am_cmp .eq x y) (am_Wp p l e R s m args below meth c D dA A ro ad0 n0 nL lim Qm (t, L, r, u) h) (am_Wp p l e R s m args below meth c D dA A ro ad0 n0 nL lim Qm (pc + 3, L, r, u) h))) : am_Wp p l e R s m args below meth c D dA A ro ad0 n0 nL lim Qm (pc, L, st, u) h := by
  obtain ⟨x, y, r, rfl, K⟩ := am_i2_use H0
  intro ad H locs ls had hn hP hD hS hok hl hLo hst hu1 hu2
  have hst' : ∀ v ∈ r, am_okv h.1 v := fun v hv => hst v (List.mem_cons_of_mem _ (List.mem_cons_of_mem _ hv))
  exact lv_icmp_eq hx hb hd ht (fun z => K.1 z ad H locs ls had hn hP hD hS hok hl hLo hst' hu1 hu2) (fun z => K.2 z ad H locs ls had hn hP hD hS hok hl hLo hst' hu1 hu2)
theorem ams_if_eq (hx : p.tables.exec = Jvm.exec) (hb : c.code = cc) {off : Int} {t : Nat} (hd : decode cc pc = .ok (.ifCond .eq off, 3)) (ht : (pc : Int) + off = (t : Int)) (H0 : am_i1 st (fun x r => am_br (am_cmp .eq x 0) (am_Wp p l e R s m args below meth c D dA A ro ad0 n0 nL lim Qm (t, L, r, u) h) (am_Wp p l e R s m args below meth c D dA A ro ad0 n0 nL lim Qm (pc + 3, L, r, u) h))) : am_Wp p l e R s m args below meth c D dA A ro ad0 n0 nL lim Qm (pc, L, st, u) h := by
  obtain ⟨x, r, rfl, K⟩ := am_i1_use H0
  intro ad H locs ls had hn hP hD hS hok hl hLo hst hu1 hu2
  have hst' : ∀ v ∈ r, am_okv h.1 v := fun v hv => hst v (List.mem_cons_of_mem _ hv)
  exact lv_if_eq hx hb hd ht (fun z => K.1 z ad H locs ls had hn hP hD hS hok hl hLo hst' hu1 hu2) (fun z => K.2 z ad H locs ls had hn hP hD hS hok hl hLo hst' hu1 hu2)
theorem ams_icmp_ne (hx : p.tables.exec = Jvm.exec) (hb : c.code = cc) {off : Int} {t : Nat} (hd : decode cc pc = .ok (.if_icmp .ne off, 3)) (ht : (pc : Int) + off = (t : Int)) (H0 : am_i2 st (fun x y r => am_br (am_cmp .ne x y) (am_Wp p l e R s m args below meth c D dA A ro ad0 n0 nL lim Qm (t, L, r, u) h) (am_Wp p l e R s m args below meth c D dA A ro ad0 n0 nL lim Qm (pc + 3, L, r, u) h))) : am_Wp p l e R s m args below meth c D dA A ro ad0 n0 nL lim Qm (pc, L, st, u) h := by
  obtain ⟨x, y, r, rfl, K⟩ := am_i2_use H0
  intro ad H locs ls had hn hP hD hS hok hl hLo hst hu1 hu2
  have hst' : ∀ v ∈ r, am_okv h.1 v := fun v hv => hst v (List.mem_cons_of_mem _ (List.mem_cons_of_mem _ hv))
  exact lv_icmp_ne hx hb hd ht (fun z => K.1 z ad H locs ls had hn hP hD hS hok hl hLo hst' hu1 hu2) (fun z => (fun z => K.2 (fun w => w z)) z ad H locs ls had hn hP hD hS hok hl hLo hst' hu1 hu2)
theorem ams_if_ne (hx : p.tables.exec = Jvm.exec) (hb : c.code = cc) {off : Int} {t : Nat} (hd : decode cc pc = .ok (.ifCond .ne off, 3)) (ht : (pc : Int) + off = (t : Int)) (H0 : am_i1 st (fun x r => am_br (am_cmp .ne x 0) (am_Wp p l e R s m args below meth c D dA A ro ad0 n0 nL lim Qm (t, L, r, u) h) (am_Wp p l e R s m args below meth c D dA A ro ad0 n0 nL lim Qm (pc + 3, L, r, u) h))) : am_Wp p l e R s m args below meth c D dA A ro ad0 n0 nL lim Qm (pc, L, st, u) h := by
  obtain ⟨x, r, rfl, K⟩ := am_i1_use H0
  intro ad H locs ls had hn hP hD hS hok hl hLo hst hu1 hu2
  have hst' : ∀ v ∈ r, am_okv h.1 v := fun v hv => hst v (List.mem_cons_of_mem _ hv)
  exact lv_if_ne hx hb hd ht (fun z => K.1 z ad H locs ls had hn hP hD hS hok hl hLo hst' hu1 hu2) (fun z => (fun z => K.2 (fun w => w z)) z ad H locs ls had hn hP hD hS hok hl hLo hst' hu1 hu2)
theorem ams_icmp_lt (hx : p.tables.exec = Jvm.exec) (hb : c.code = cc) {off : Int} {t : Nat} (hd : decode cc pc = .ok (.if_icmp .lt off, 3)) (ht : (pc : Int) + off = (t : Int)) (H0 : am_i2 st (fun x y r => am_br (am_cmp .lt x y) (am_Wp p l e R s m args below meth c D dA A ro ad0 n0 nL lim Qm (t, L, r, u) h) (am_Wp p l e R s m args below meth c D dA A ro ad0 n0 nL lim Qm (pc + 3, L, r, u) h))) : am_Wp p l e R s m args below meth c D dA A ro ad0 n0 nL lim Qm (pc, L, st, u) h := by
  obtain ⟨x, y, r, rfl, K⟩ := am_i2_use H0
  intro ad H locs ls had hn hP hD hS hok hl hLo hst hu1 hu2
  have hst' : ∀ v ∈ r, am_okv h.1 v := fun v hv => hst v (List.mem_cons_of_mem _ (List.mem_cons_of_mem _ hv))
  exact lv_icmp_lt hx hb hd ht (fun z => K.1 z ad H locs ls had hn hP hD hS hok hl hLo hst' hu1 hu2) (fun z => K.2 z ad H locs ls had hn hP hD hS hok hl hLo hst' hu1 hu2)
theorem ams_if_lt (hx : p.tables.exec = Jvm.exec) (hb : c.code = cc) {off : Int} {t : Nat} (hd : decode cc pc = .ok (.ifCond .lt off, 3)) (ht : (pc : Int) + off = (t : Int)) (H0 : am_i1 st (fun x r => am_br (am_cmp .lt x 0) (am_Wp p l e R s m args below meth c D dA A ro ad0 n0 nL lim Qm (t, L, r, u) h) (am_Wp p l e R s m args below meth c D dA A ro ad0 n0 nL lim Qm (pc + 3, L, r, u) h))) : am_Wp p l e R s m args below meth c D dA A ro ad0 n0 nL lim Qm (pc, L, st, u) h := by
  obtain ⟨x, r, rfl, K⟩ := am_i1_use H0
  intro ad H locs ls had hn hP hD hS hok hl hLo hst hu1 hu2
  have hst' : ∀ v ∈ r, am_okv h.1 v := fun v hv => hst v (List.mem_cons_of_mem _ hv)
  exact lv_if_lt hx hb hd ht (fun z => K.1 z ad H locs ls had hn hP hD hS hok hl hLo hst' hu1 hu2) (fun z => K.2 z ad H locs ls had hn hP hD hS hok hl hLo hst' hu1 hu2)
theorem ams_icmp_ge (hx : p.tables.exec = Jvm.exec) (hb : c.code = cc) {off : Int} {t : Nat} (hd : decode cc pc = .ok (.if_icmp .ge off, 3)) (ht : (pc : Int) + off = (t : Int)) (H0 : am_i2 st (fun x y r => am_br (am_cmp .ge x y) (am_Wp p l e R s m args below meth c D dA A ro ad0 n0 nL lim Qm (t, L, r, u) h) (am_Wp p l e R s m args below meth c D dA A ro ad0 n0 nL lim Qm (pc + 3, L, r, u) h))) : am_Wp p l e R s m args below meth c D dA A ro ad0 n0 nL lim Qm (pc, L, st, u) h := by
  obtain ⟨x, y, r, rfl, K⟩ := am_i2_use H0
  intro ad H locs ls had hn hP hD hS hok hl hLo hst hu1 hu2
  have hst' : ∀ v ∈ r, am_okv h.1 v := fun v hv => hst v (List.mem_cons_of_mem _ (List.mem_cons_of_mem _ hv))
  exact lv_icmp_ge hx hb hd ht (fun z => K.1 z ad H locs ls had hn hP hD hS hok hl hLo hst' hu1 hu2) (fun z => K.2 z ad H locs ls had hn hP hD hS hok hl hLo hst' hu1 hu2)
theorem ams_if_ge (hx : p.tables.exec = Jvm.exec) (hb : c.code = cc) {off : Int} {t : Nat} (hd : decode cc pc = .ok (.ifCond .ge off, 3)) (ht : (pc : Int) + off = (t : Int)) (H0 : am_i1 st (fun x r => am_br (am_cmp .ge x 0) (am_Wp p l e R s m args below meth c D dA A ro ad0 n0 nL lim Qm (t, L, r, u) h) (am_Wp p l e R s m args below meth c D dA A ro ad0 n0 nL lim Qm (pc + 3, L, r, u) h))) : am_Wp p l e R s m args below meth c D dA A ro ad0 n0 nL lim Qm (pc, L, st, u) h := by
  obtain ⟨x, r, rfl, K⟩ := am_i1_use H0
  intro ad H locs ls had hn hP hD hS hok hl hLo hst hu1 hu2
  have hst' : ∀ v ∈ r, am_okv h.1 v := fun v hv => hst v (List.mem_cons_of_mem _ hv)
  exact lv_if_ge hx hb hd ht (fun z => K.1 z ad H locs ls had hn hP hD hS hok hl hLo hst' hu1 hu2) (fun z => K.2 z ad H locs ls had hn hP hD hS hok hl hLo hst' hu1 hu2)
theorem ams_icmp_gt (hx : p.tables.exec = Jvm.exec) (hb : c.code = cc) {off : Int} {t : Nat} (hd : decode cc pc = .ok (.if_icmp .gt off, 3)) (ht : (pc : Int) + off = (t : Int)) (H0 : am_i2 st (fun x y r => am_br (am_cmp .gt x y) (am_Wp p l e R s m args below meth c D dA A ro ad0 n0 nL lim Qm (t, L, r, u) h) (am_Wp p l e R s m args below meth c D dA A ro ad0 n0 nL lim Qm (pc + 3, L, r, u) h))) : am_Wp p l e R s m args below meth c D dA A ro ad0 n0 nL lim Qm (pc, L, st, u) h := by
  obtain ⟨x, y, r, rfl, K⟩ := am_i2_use H0
  intro ad H locs ls had hn hP hD hS hok hl hLo hst hu1 hu2
  have hst' : ∀ v ∈ r, am_okv h.1 v := fun v hv => hst v (List.mem_cons_of_mem _ (List.mem_cons_of_mem _ hv))
  exact lv_icmp_gt hx hb hd ht (fun z => K.1 z ad H locs ls had hn hP hD hS hok hl hLo hst' hu1 hu2) (fun z => K.2 z ad H locs ls had hn hP hD hS hok hl hLo hst' hu1 hu2)
theorem ams_if_gt (hx : p.tables.exec = Jvm.exec) (hb : c.code = cc) {off : Int} {t : Nat} (hd : decode cc pc = .ok (.ifCond .gt off, 3)) (ht : (pc : Int) + off = (t : Int)) (H0 : am_i1 st (fun x r => am_br (am_cmp .gt x 0) (am_Wp p l e R s m args below meth c D dA A ro ad0 n0 nL lim Qm (t, L, r, u) h) (am_Wp p l e R s m args below meth c D dA A ro ad0 n0 nL lim Qm (pc + 3, L, r, u) h))) : am_Wp p l e R s m args below meth c D dA A ro ad0 n0 nL lim Qm (pc, L, st, u) h := by
  obtain ⟨x, r, rfl, K⟩ := am_i1_use H0
  intro ad H locs ls had hn hP hD hS hok hl hLo hst hu1 hu2
  have hst' : ∀ v ∈ r, am_okv h.1 v := fun v hv => hst v (List.mem_cons_of_mem _ hv)
  exact lv_if_gt hx hb hd ht (fun z => K.1 z ad H locs ls had hn hP hD hS hok hl hLo hst' hu1 hu2) (fun z => K.2 z ad H locs ls had hn hP hD hS hok hl hLo hst' hu1 hu2)
theorem ams_icmp_le (hx : p.tables.exec = Jvm.exec) (hb : c.code = cc) {off : Int} {t : Nat} (hd : decode cc pc = .ok (.if_icmp .le off, 3)) (ht : (pc : Int) + off = (t : Int)) (H0 : am_i2 st (fun x y r => am_br (am_cmp .le x y) (am_Wp p l e R s m args below meth c D dA A ro ad0 n0 nL lim Qm (t, L, r, u) h) (am_Wp p l e R s m args below meth c D dA A ro ad0 n0 nL lim Qm (pc + 3, L, r, u) h))) : am_Wp p l e R s m args below meth c D dA A ro ad0 n0 nL lim Qm (pc, L, st, u) h := by
  obtain ⟨x, y, r, rfl, K⟩ := am_i2_use H0
  intro ad H locs ls had hn hP hD hS hok hl hLo hst hu1 hu2
  have hst' : ∀ v ∈ r, am_okv h.1 v := fun v hv => hst v (List.mem_cons_of_mem _ (List.mem_cons_of_mem _ hv))
  exact lv_icmp_le hx hb hd ht (fun z => K.1 z ad H locs ls had hn hP hD hS hok hl hLo hst' hu1 hu2) (fun z => K.2 z ad H locs ls had hn hP hD hS hok hl hLo hst' hu1 hu2)
theorem ams_if_le (hx : p.tables.exec = Jvm.exec) (hb : c.code = cc) {off : Int} {t : Nat} (hd : decode cc pc = .ok (.ifCond .le off, 3)) (ht : (pc : Int) + off = (t : Int)) (H0 : am_i1 st (fun x r => am_br (am_cmp .le x 0) (am_Wp p l e R s m args below meth c D dA A ro ad0 n0 nL lim Qm (t, L, r, u) h) (am_Wp p l e R s m args below meth c D dA A ro ad0 n0 nL lim Qm (pc + 3, L, r, u) h))) : am_Wp p l e R s m args below meth c D dA A ro ad0 n0 nL lim Qm (pc, L, st, u) h := by
  obtain ⟨x, r, rfl, K⟩ := am_i1_use H0
  intro ad H locs ls had hn hP hD hS hok hl hLo hst hu1 hu2
  have hst' : ∀ v ∈ r, am_okv h.1 v := fun v hv => hst v (List.mem_cons_of_mem _ hv)
  exact lv_if_le hx hb hd ht (fun z => K.1 z ad H locs ls had hn hP hD hS hok hl hLo hst' hu1 hu2) (fun z => K.2 z ad H locs ls had hn hP hD hS hok hl hLo hst' hu1 hu2)
theorem ams_goto (hx : p.tables.exec = Jvm.exec) (hb : c.code = cc) {off : Int} {t : Nat} (hd : decode cc pc = .ok (.goto off, 3)) (ht : (pc : Int) + off = (t : Int)) (K : am_Wp p l e R s m args below meth c D dA A ro ad0 n0 nL lim Qm (t, L, st, u) h) : am_Wp p l e R s m args below meth c D dA A ro ad0 n0 nL lim Qm (pc, L, st, u) h := by
  intro ad H locs ls had hn hP hD hS hok hl hLo hst hu1 hu2
  exact lv_goto hx hb hd ht (K ad H locs ls had hn hP hD hS hok hl hLo hst hu1 hu2)
theorem ams_dup (hx : p.tables.exec = Jvm.exec) (hb : c.code = cc) {v : Value} {r : List Value} (hd : decode cc pc = .ok (.dup, 1)) (hv : v.category = 1) (K : am_Wp p l e R s m args below meth c D dA A ro ad0 n0 nL lim Qm (pc + 1, L, v :: v :: r, u) h) : am_Wp p l e R s m args below meth c D dA A ro ad0 n0 nL lim Qm (pc, L, v :: r, u) h := by
  intro ad H locs ls had hn hP hD hS hok hl hLo hst hu1 hu2
  exact lv_dup hx hb hd (by rw [am_cv_cat]; exact hv) (K ad H locs ls had hn hP hD hS hok hl hLo (List.forall_mem_cons.mpr ⟨hst v List.mem_cons_self, hst⟩) hu1 hu2)
theorem ams_dup2 (hx : p.tables.exec = Jvm.exec) (hb : c.code = cc) {v w : Value} {r : List Value} (hd : decode cc pc = .ok (.dup2, 1)) (hv : v.category = 1) (hw : w.category = 1) (K : am_Wp p l e R s m args below meth c D dA A ro ad0 n0 nL lim Qm (pc + 1, L, v :: w :: v :: w :: r, u) h) : am_Wp p l e R s m args below meth c D dA A ro ad0 n0 nL lim Qm (pc, L, v :: w :: r, u) h := by
  intro ad H locs ls had hn hP hD hS hok hl hLo hst hu1 hu2
  exact lv_dup2_11 hx hb hd (by rw [am_cv_cat]; exact hv) (by rw [am_cv_cat]; exact hw) (K ad H locs ls had hn hP hD hS hok hl hLo (List.forall_mem_cons.mpr ⟨hst v List.mem_cons_self, List.forall_mem_cons.mpr ⟨hst w (List.mem_cons_of_mem _ List.mem_cons_self), hst⟩⟩) hu1 hu2)
theorem ams_pop (hx : p.tables.exec = Jvm.exec) (hb : c.code = cc) {v : Value} {r : List Value} (hd : decode cc pc = .ok (.pop, 1)) (hv : v.category = 1) (K : am_Wp p l e R s m args below meth c D dA A ro ad0 n0 nL lim Qm (pc + 1, L, r, u) h) : am_Wp p l e R s m args below meth c D dA A ro ad0 n0 nL lim Qm (pc, L, v :: r, u) h := by
  intro ad H locs ls had hn hP hD hS hok hl hLo hst hu1 hu2
  exact lv_pop hx hb hd (by rw [am_cv_cat]; exact hv) (K ad H locs ls had hn hP hD hS hok hl hLo (fun w hw => hst w (List.mem_cons_of_mem _ hw)) hu1 hu2)
theorem ams_table (hx : p.tables.exec = Jvm.exec) (hb : c.code = cc) {dflt lo hi : Int} {offs : Array Int} {len : Nat} (hd : decode cc pc = .ok (.tableswitch dflt lo hi offs, len)) (h1 : 0 ≤ (pc : Int) + dflt) (h2 : ∀ o ∈ offs.toList, 0 ≤ (pc : Int) + o) (h3 : (offs.size : Int) = hi - lo + 1) (H0 : am_i1 st (fun x r => am_Wp p l e R s m args below meth c D dA A ro ad0 n0 nL lim Qm (am_tsw pc dflt lo hi offs x, L, r, u) h)) : am_Wp p l e R s m args below meth c D dA A ro ad0 n0 nL lim Qm (pc, L, st, u) h := by
  obtain ⟨x, r, rfl, K⟩ := am_i1_use H0
  intro ad H locs ls had hn hP hD hS hok hl hLo hst hu1 hu2
  have hst' : ∀ v ∈ r, am_okv h.1 v := fun v hv => hst v (List.mem_cons_of_mem _ hv)
  have K' := K ad H locs ls had hn hP hD hS hok hl hLo hst' hu1 hu2
  unfold am_tsw at K'
  by_cases hc : x.toInt < lo ∨ hi < x.toInt
  · rw [if_pos hc] at K'
    exact lv_tableOut hx hb hd hc (Int.toNat_of_nonneg h1).symm K'
  · rw [if_neg hc] at K'
    have hlt : (x.toInt - lo).toNat < offs.toList.length := by rw [Array.length_toList]; omega
    have ho : offs.toList[(x.toInt - lo).toNat]? = some (offs.toList.getD (x.toInt - lo).toNat 0) := by rw [List.getD_eq_getElem?_getD, List.getElem?_eq_getElem hlt]; rfl
    exact lv_tableIn hx hb hd (fun z => hc (Or.inl z)) (fun z => hc (Or.inr z)) (by rw [← Array.getElem?_toList]; exact ho) (Int.toNat_of_nonneg (h2 _ (List.mem_of_getElem? ho))).symm K'
theorem ams_lookup (hx : p.tables.exec = Jvm.exec) (hb : c.code = cc) {dflt : Int} {ps : Array (Int × Int)} {len : Nat} (hd : decode cc pc = .ok (.lookupswitch dflt ps, len)) (hp : (ps.toList.zip (ps.toList.drop 1)).all (fun (a, next) => a.1 < next.1) = true) (h1 : ∀ x : Int32, 0 ≤ (pc : Int) + Op.lookupswitch.offset ps.toList dflt x.toInt) (H0 : am_i1 st (fun x r => am_Wp p l e R s m args below meth c D dA A ro ad0 n0 nL lim Qm (am_lsw pc dflt ps x, L, r, u) h)) : am_Wp p l e R s m args below meth c D dA A ro ad0 n0 nL lim Qm (pc, L, st, u) h := by
  obtain ⟨x, r, rfl, K⟩ := am_i1_use H0
  intro ad H locs ls had hn hP hD hS hok hl hLo hst hu1 hu2
  have hst' : ∀ v ∈ r, am_okv h.1 v := fun v hv => hst v (List.mem_cons_of_mem _ hv)
  exact lv_lookup hx hb hd hp rfl (Int.toNat_of_nonneg (h1 x)).symm (K ad H locs ls had hn hP hD hS hok hl hLo hst' hu1 hu2)
end
end
section
section
variable {p : Program} {l : Launch} {e : Env} {R : Room} {s : State} {m : MethodId} {args : Array Value} {below : List Frame} {meth : Method} {c : Code}
variable {D : va_G} {dA : Nat → ClassId} {A : Nat → Prop} {ro : Nat → am_C} {ad0 : Nat → Nat} {n0 nL : Nat} {lim : Nat × Nat} {Qm : State → Prop}
variable {cc : ByteArray} {pc : Nat} {L : List (Option Value)} {st : List Value} {u : Nat × Nat} {h : am_H}
theorem am_hi_obj {q ci : Nat} {fs : List Value} (hok : am_okh ro h) (hr : am_roS ro) (e : h.2 q = .inr (ci, fs)) (hc : ci < 9) : 40 ≤ q := by
  by_cases hq : q < 40
  · rw [hok.2.2 q hq] at e
    rcases hr q hq with z | ⟨n, f, z⟩
    · rw [z] at e; cases e; omega
    · rw [z] at e; cases e
  · omega
theorem am_hi_arr {q n : Nat} {ty : FieldType} {x : (Nat → Int32) ⊕ (Nat → Int64) ⊕ (Nat → UInt32) ⊕ (Nat → UInt64) ⊕ (Nat → Option Nat)} (hok : am_okh ro h) (hr : am_roS ro) (e : h.2 q = .inl (ty, n, x)) (hc : ty ≠ .float) : 40 ≤ q := by
  by_cases hq : q < 40
  · rw [hok.2.2 q hq] at e
    rcases hr q hq with z | ⟨n, f, z⟩
    · rw [z] at e; cases e
    · rw [z] at e; cases e; exact absurd rfl hc
  · omega
theorem am_ro_at {q n : Nat} {f : Nat → Int32} (hok : am_okh ro h) (e : h.2 q = .inl (.float, n, .inl f)) (hq : q < 40) : ro q = .inl (.float, n, .inl f) := by rw [← hok.2.2 q hq]; exact e
theorem am_lo_arr {q n : Nat} {x : (Nat → Int32) ⊕ (Nat → Int64) ⊕ (Nat → UInt32) ⊕ (Nat → UInt64) ⊕ (Nat → Option Nat)} (hok : am_okh ro h) (e : h.2 q = .inl (.float, n, x)) (hq : q < h.1) : q < 40 := by
  by_cases h1 : q < 40
  · exact h1
  · exact absurd e ((hok.2.1 q hq).2.2 (by omega) n x)

theorem ams_getfield (hx : p.tables.exec = Jvm.exec) (hb : c.code = cc) {own C : String} {T : u_T} {N ci k idx : Nat} {Ts : List Cond} (hts : ∀ w ∈ Ts, w.before args s = true) (hin : ∀ w ∈ u_ws C T N, w ∈ Ts) (hown : s.vm.findClass own = some m.cls) (hK : va_K D vwCl (am_tys dA) s) (hr : am_roS ro) (hci : ci < 9) (hc : vwCl[ci]? = some (C, T, N)) (hk : k < N) (hlink : (Cond.fieldLink own idx (T k).1 (T k).2.1 (T k).2.2.1).before args s = true) (hd : decode cc pc = .ok (.getfield idx, 3))
    (H0 : am_r1 st (fun p1 r => am_obj h p1 ci (fun fs => match fs[k]? with
    | some v => am_Wp p l e R s m args below meth c D dA A ro ad0 n0 nL lim Qm (pc + 3, L, v :: r, u) h
    | none => False))) : am_Wp p l e R s m args below meth c D dA A ro ad0 n0 nL lim Qm (pc, L, st, u) h := by
  obtain ⟨q, r, rfl, H1⟩ := am_r1_use H0
  obtain ⟨fs, hq, H2⟩ := am_obj_use H1
  intro ad H locs ls had hn hP hD hS hok hl hLo hst hu1 hu2
  have h40 := am_hi_obj hok hr hq hci
  have hqn : q < h.1 := hst _ List.mem_cons_self q rfl
  have hw := am_ws_at (dA := dA) (ad := ad) h40 hqn
  rw [hq] at hw
  cases hv : fs[k]? with
  | none => rw [hv] at H2; exact H2.elim
  | some v =>
    rw [hv] at H2
    have hv' : (fs.map (am_cv ad))[k]? = some (am_cv ad v) := by rw [List.getElem?_map, hv]; rfl
    have hov : am_okv h.1 v := (hok.2.1 q hqn).2.1 ci fs hq v (List.mem_of_getElem? hv)
    exact va_get hx hb hts hin hown hK hP (q - 40) hw hc k hk hlink (fun _ z => z) hv' hd (H2 ad H locs ls had hn hP hD hS hok hl hLo (List.forall_mem_cons.mpr ⟨hov, fun v hv => hst v (List.mem_cons_of_mem _ hv)⟩) hu1 hu2)
/-- the type that a field's kind stands for -/
def am_fty (t : Nat) (ty : FieldType) : Prop := match t with
  | 0 => ty = .int
  | 1 => (∃ C, ty = .object C) ∨ ∃ z, ty = .array z
  | 2 => ty = .boolean
  | _ => False
theorem am_fit_use {t : Nat} {v : Value} {ty : FieldType} {g : Prop} (ht : am_fty t ty) (H : am_fit t v g) : g ∧ (∀ ad, narrow ty (am_cv ad v) = am_cv ad v) ∧ (∀ ad, fits ty (am_cv ad v) = true) := by
  unfold am_fit at H
  split at H
  · have e : ty = .int := ht
    subst e
    exact ⟨H, fun ad => rfl, fun ad => rfl⟩
  · rcases (show (∃ C, ty = .object C) ∨ ∃ z, ty = .array z from ht) with ⟨C, rfl⟩ | ⟨z, rfl⟩
    · exact ⟨H, fun ad => rfl, fun ad => rfl⟩
    · exact ⟨H, fun ad => rfl, fun ad => rfl⟩
  · have e : ty = .boolean := ht
    subst e
    rcases H with ⟨rfl | rfl, H⟩
    · exact ⟨H, fun ad => (by show narrow FieldType.boolean (Value.int 0) = Value.int 0; decide), fun ad => (by show fits FieldType.boolean (Value.int 0) = true; decide)⟩
    · exact ⟨H, fun ad => (by show narrow FieldType.boolean (Value.int 1) = Value.int 1; decide), fun ad => (by show fits FieldType.boolean (Value.int 1) = true; decide)⟩
  · exact H.elim
theorem ams_putfield (hx : p.tables.exec = Jvm.exec) (hb : c.code = cc) {own C : String} {T : u_T} {N ci k t idx : Nat} {Ts : List Cond} (hts : ∀ w ∈ Ts, w.before args s = true) (hin : ∀ w ∈ u_ws C T N, w ∈ Ts) (ty0 : Nat → FieldType) (hty : ∀ k, k < N → parseFieldDescriptor (T k).2.2.1 = some (ty0 k)) (hnm : ∀ a, a < N → ∀ b, b < N → a ≠ b → (T a).2.1 ≠ (T b).2.1) (hown : s.vm.findClass own = some m.cls) (hK : va_K D vwCl (am_tys dA) s) (hr : am_roS ro) (hci : ci < 9) (hc : vwCl[ci]? = some (C, T, N)) (hk : k < N) (hlink : (Cond.fieldLink own idx (T k).1 (T k).2.1 (T k).2.2.1).before args s = true) (hfin : (T k).2.2.2 = false ∨ (meth.name = "<init>" ∧ (T k).1 = own)) (ht : am_fty t (ty0 k)) (hd : decode cc pc = .ok (.putfield idx, 3))
    {v : Value} {q : Nat} {r : List Value} (hst0 : st = v :: .ref q :: r) (H0 : am_obj h q ci (fun fs => if k < fs.length then am_fit t v (am_Wp p l e R s m args below meth c D dA A ro ad0 n0 nL lim Qm (pc + 3, L, r, u) (am_set h q (.inr (ci, fs.set k v)))) else False)) : am_Wp p l e R s m args below meth c D dA A ro ad0 n0 nL lim Qm (pc, L, st, u) h := by
  subst hst0
  obtain ⟨fs, hq, H1⟩ := am_obj_use H0
  split at H1
  · rename_i hlen
    obtain ⟨K, hnar, hfit⟩ := am_fit_use ht H1
    intro ad H locs ls had hn hP hD hS hok hl hLo hst hu1 hu2
    have h40 := am_hi_obj hok hr hq hci
    have hqn : q < h.1 := hst _ (List.mem_cons_of_mem _ List.mem_cons_self) q rfl
    have hw := am_ws_at (dA := dA) (ad := ad) h40 hqn
    rw [hq] at hw
    have hov : am_okv h.1 v := hst v List.mem_cons_self
    have hoc : am_okc h.1 q (.inr (ci, fs.set k v)) := ⟨fun ty k f e => (by cases e), fun ci' fs' e v' hv' => by
      cases e
      rcases List.mem_or_eq_of_mem_set hv' with z | z
      · exact (hok.2.1 q hqn).2.1 ci fs hq v' z
      · rw [z]; exact hov, fun _ n x e => (by cases e)⟩
    have e1 : am_ws dA ad (am_set h q (.inr (ci, fs.set k v))) = (am_ws dA ad h).set (q - 40) (ad q, .inr (ci, (fs.map (am_cv ad)).set k (am_cv ad v))) := by
      rw [am_ws_set h40 hqn]
      show (am_ws dA ad h).set (q - 40) (ad q, Sum.inr (ci, (fs.set k v).map (am_cv ad))) = _
      rw [List.map_set]
    have fin : ∀ (H1 : Heap) (locs1 : List Loc), va_P D vwCl ((am_ws dA ad h).set (q - 40) (ad q, .inr (ci, (fs.map (am_cv ad)).set k (am_cv ad v)))) H1 → va_D A ((am_ws dA ad h).set (q - 40) (ad q, .inr (ci, (fs.map (am_cv ad)).set k (am_cv ad v)))) → va_S A s.heap H1 locs1 → W p l e R s m args below meth c H1 locs1 u.1 u.2 Qm (F0 m (pc + 3) ls (r.map (am_cv ad))) := by
      intro H1 locs1 a1 a2 a3
      rw [← e1] at a1 a2
      exact K ad H1 locs1 ls had hn a1 a2 a3 (am_okh_set hok h40 hoc) hl hLo (fun v hv => hst v (List.mem_cons_of_mem _ (List.mem_cons_of_mem _ hv))) hu1 hu2
    rcases hfin with hfin | ⟨hin2, hdecl⟩
    · exact va_put hx hb hts hin ty0 hty hnm hown hK hP hD hS (q - 40) hw hc k hk hlink (fun _ z => z) hfin (hty k hk) (hnar ad) (hfit ad) (by rw [List.length_map]; exact hlen) hd fin
    · by_cases hf2 : (T k).2.2.2 = false
      · exact va_put hx hb hts hin ty0 hty hnm hown hK hP hD hS (q - 40) hw hc k hk hlink (fun _ z => z) hf2 (hty k hk) (hnar ad) (hfit ad) (by rw [List.length_map]; exact hlen) hd fin
      · exact va_putF hx hb hts hin ty0 hty hnm hown hK hP hD hS (q - 40) hw hc k hk hlink (fun _ z => z) (by cases hz : (T k).2.2.2 with | true => rfl | false => exact absurd hz hf2) hin2 hdecl (hty k hk) (hnar ad) (hfit ad) (by rw [List.length_map]; exact hlen) hd fin
  · exact H1.elim
theorem ams_getstatic (hx : p.tables.exec = Jvm.exec) (hb : c.code = cc) {own C n d : String} {idx k : Nat} (hro : am_RO ro ad0 A s s.heap) (hn0 : 40 ≤ n0) (hZ : va_Z C n d (.ref (ad0 k)) A s s.heap) (hk : k < 40) (hown : s.vm.findClass own = some m.cls) (hlink : (Cond.fieldLink own idx C n d).before args s = true) (hd : decode cc pc = .ok (.getstatic idx, 3)) (K : am_Wp p l e R s m args below meth c D dA A ro ad0 n0 nL lim Qm (pc + 3, L, .ref k :: st, u) h) : am_Wp p l e R s m args below meth c D dA A ro ad0 n0 nL lim Qm (pc, L, st, u) h := by
  intro ad H locs ls had hn hP hD hS hok hl hLo hst hu1 hu2
  refine va_gets hx hb hZ hS hown hlink (fun _ z => z) hd ?_
  have K' := K ad H locs ls had hn hP hD hS hok hl hLo (List.forall_mem_cons.mpr ⟨am_okv_ref (by omega), hst⟩) hu1 hu2
  rw [List.map_cons, am_cv_ref, had k (by omega)] at K'
  exact K'
theorem ams_iaload (hx : p.tables.exec = Jvm.exec) (hb : c.code = cc) (hK : va_K D vwCl (am_tys dA) s) (hr : am_roS ro) (hro : am_RO ro ad0 A s s.heap) (hn0 : 40 ≤ n0) (hd : decode cc pc = .ok (.iaload, 1)) (H0 : am_ir st (fun i q r => am_rdi h q (fun n f => vp_in i n ∧ am_Wp p l e R s m args below meth c D dA A ro ad0 n0 nL lim Qm (pc + 1, L, .int (f i.toNatClampNeg) :: r, u) h))) : am_Wp p l e R s m args below meth c D dA A ro ad0 n0 nL lim Qm (pc, L, st, u) h := by
  obtain ⟨i, q, r, rfl, H1⟩ := am_ir_use H0
  obtain ⟨n, f, hq, hin, K⟩ := am_rdi_use H1
  intro ad H locs ls had hn hP hD hS hok hl hLo hst hu1 hu2
  have K' := K ad H locs ls had hn hP hD hS hok hl hLo (List.forall_mem_cons.mpr ⟨am_okv_int, fun v hv => hst v (List.mem_cons_of_mem _ (List.mem_cons_of_mem _ hv))⟩) hu1 hu2
  rcases hq with hq | hq
  · have h40 := am_hi_arr hok hr hq (by intro z; cases z)
    have hqn : q < h.1 := hst _ (List.mem_cons_of_mem _ List.mem_cons_self) q rfl
    have hw := am_ws_at (dA := dA) (ad := ad) h40 hqn
    rw [hq] at hw
    exact va_iald hx hb hK hP (q - 40) 0 hw rfl hin hd K'
  · have hq40 := am_lo_arr hok hq (hst _ (List.mem_cons_of_mem _ List.mem_cons_self) q rfl)
    have hT := hro.1 q n f hq40 (am_ro_at hok hq hq40)
    show W p l e R s m args below meth c H locs u.1 u.2 Qm (F0 m pc ls (.int i :: .ref (ad q) :: r.map (am_cv ad)))
    rw [had q (by omega)]
    exact va_ti hx hb hT hS hin rfl hd K' 
theorem ams_baload (hx : p.tables.exec = Jvm.exec) (hb : c.code = cc) (hK : va_K D vwCl (am_tys dA) s) (hr : am_roS ro) (hd : decode cc pc = .ok (.baload, 1)) (H0 : am_ir st (fun i q r => am_ari h q .boolean (fun n f => vp_in i n ∧ am_Wp p l e R s m args below meth c D dA A ro ad0 n0 nL lim Qm (pc + 1, L, .int (f i.toNatClampNeg) :: r, u) h))) : am_Wp p l e R s m args below meth c D dA A ro ad0 n0 nL lim Qm (pc, L, st, u) h := by
  obtain ⟨i, q, r, rfl, H1⟩ := am_ir_use H0
  obtain ⟨n, f, hq, hin, K⟩ := am_ari_use H1
  intro ad H locs ls had hn hP hD hS hok hl hLo hst hu1 hu2
  have h40 := am_hi_arr hok hr hq (by intro z; cases z)
  have hqn : q < h.1 := hst _ (List.mem_cons_of_mem _ List.mem_cons_self) q rfl
  have hw := am_ws_at (dA := dA) (ad := ad) h40 hqn
  rw [hq] at hw
  exact va_zald hx hb hK hP (q - 40) 2 hw rfl hin hd (K ad H locs ls had hn hP hD hS hok hl hLo (List.forall_mem_cons.mpr ⟨am_okv_int, fun v hv => hst v (List.mem_cons_of_mem _ (List.mem_cons_of_mem _ hv))⟩) hu1 hu2)
theorem ams_caload (hx : p.tables.exec = Jvm.exec) (hb : c.code = cc) (hK : va_K D vwCl (am_tys dA) s) (hr : am_roS ro) (hd : decode cc pc = .ok (.caload, 1)) (H0 : am_ir st (fun i q r => am_ari h q .char (fun n f => vp_in i n ∧ am_Wp p l e R s m args below meth c D dA A ro ad0 n0 nL lim Qm (pc + 1, L, .int (f i.toNatClampNeg) :: r, u) h))) : am_Wp p l e R s m args below meth c D dA A ro ad0 n0 nL lim Qm (pc, L, st, u) h := by
  obtain ⟨i, q, r, rfl, H1⟩ := am_ir_use H0
  obtain ⟨n, f, hq, hin, K⟩ := am_ari_use H1
  intro ad H locs ls had hn hP hD hS hok hl hLo hst hu1 hu2
  have h40 := am_hi_arr hok hr hq (by intro z; cases z)
  have hqn : q < h.1 := hst _ (List.mem_cons_of_mem _ List.mem_cons_self) q rfl
  have hw := am_ws_at (dA := dA) (ad := ad) h40 hqn
  rw [hq] at hw
  exact va_cald hx hb hK hP (q - 40) 1 hw rfl hin hd (K ad H locs ls had hn hP hD hS hok hl hLo (List.forall_mem_cons.mpr ⟨am_okv_int, fun v hv => hst v (List.mem_cons_of_mem _ (List.mem_cons_of_mem _ hv))⟩) hu1 hu2)
theorem ams_laload (hx : p.tables.exec = Jvm.exec) (hb : c.code = cc) (hK : va_K D vwCl (am_tys dA) s) (hr : am_roS ro) (hd : decode cc pc = .ok (.laload, 1)) (H0 : am_ir st (fun i q r => am_arl h q (fun n f => vp_in i n ∧ am_Wp p l e R s m args below meth c D dA A ro ad0 n0 nL lim Qm (pc + 1, L, .long (f i.toNatClampNeg) :: r, u) h))) : am_Wp p l e R s m args below meth c D dA A ro ad0 n0 nL lim Qm (pc, L, st, u) h := by
  obtain ⟨i, q, r, rfl, H1⟩ := am_ir_use H0
  obtain ⟨n, f, hq, hin, K⟩ := am_arl_use H1
  intro ad H locs ls had hn hP hD hS hok hl hLo hst hu1 hu2
  have h40 := am_hi_arr hok hr hq (by intro z; cases z)
  have hqn : q < h.1 := hst _ (List.mem_cons_of_mem _ List.mem_cons_self) q rfl
  have hw := am_ws_at (dA := dA) (ad := ad) h40 hqn
  rw [hq] at hw
  exact va_lald hx hb hK hP (q - 40) 3 hw rfl hin hd (K ad H locs ls had hn hP hD hS hok hl hLo (List.forall_mem_cons.mpr ⟨am_okv_long, fun v hv => hst v (List.mem_cons_of_mem _ (List.mem_cons_of_mem _ hv))⟩) hu1 hu2)
theorem ams_aaload (hx : p.tables.exec = Jvm.exec) (hb : c.code = cc) (hK : va_K D vwCl (am_tys dA) s) (hr : am_roS ro) (hd : decode cc pc = .ok (.aaload, 1)) (H0 : am_ir st (fun i q r => am_arr h q (fun _ n f => vp_in i n ∧ ∃ q1, f i.toNatClampNeg = some q1 ∧ am_Wp p l e R s m args below meth c D dA A ro ad0 n0 nL lim Qm (pc + 1, L, .ref q1 :: r, u) h))) : am_Wp p l e R s m args below meth c D dA A ro ad0 n0 nL lim Qm (pc, L, st, u) h := by
  obtain ⟨i, q, r, rfl, H1⟩ := am_ir_use H0
  obtain ⟨C, n, f, hq, hin, q1, hq1, K⟩ := am_arr_use H1
  intro ad H locs ls had hn hP hD hS hok hl hLo hst hu1 hu2
  have h40 := am_hi_arr hok hr hq (by intro z; cases z)
  have hqn : q < h.1 := hst _ (List.mem_cons_of_mem _ List.mem_cons_self) q rfl
  have hw := am_ws_at (dA := dA) (ad := ad) h40 hqn
  rw [hq] at hw
  have K' := K ad H locs ls had hn hP hD hS hok hl hLo (List.forall_mem_cons.mpr ⟨am_okv_ref ((hok.2.1 q hqn).1 _ _ f hq _ q1 hq1), fun v hv => hst v (List.mem_cons_of_mem _ (List.mem_cons_of_mem _ hv))⟩) hu1 hu2
  refine va_aldq hx hb hK hP (q - 40) 4 hw rfl hin hd ?_
  have e1 : va_rf (((f i.toNatClampNeg)).map ad) = am_cv ad (.ref q1) := by rw [hq1]; rfl
  show W p l e R s m args below meth c H locs u.1 u.2 Qm (F0 m (pc + 1) ls (va_rf ((f i.toNatClampNeg).map ad) :: r.map (am_cv ad)))
  rw [e1]
  exact K' 
theorem ams_iastore (hx : p.tables.exec = Jvm.exec) (hb : c.code = cc) (hK : va_K D vwCl (am_tys dA) s) (hr : am_roS ro) (hd : decode cc pc = .ok (.iastore, 1)) (H0 : am_i1 st (fun x st' => am_ir st' (fun i q r => am_ari h q .int (fun n f => vp_in i n ∧ am_Wp p l e R s m args below meth c D dA A ro ad0 n0 nL lim Qm (pc + 1, L, r, u) (am_set h q (.inl (.int, n, .inl (upd f i.toNatClampNeg x)))))))) : am_Wp p l e R s m args below meth c D dA A ro ad0 n0 nL lim Qm (pc, L, st, u) h := by
  obtain ⟨x, st', rfl, H1⟩ := am_i1_use H0
  obtain ⟨i, q, r, rfl, H2⟩ := am_ir_use H1
  obtain ⟨n, f, hq, hin, K⟩ := am_ari_use H2
  intro ad H locs ls had hn hP hD hS hok hl hLo hst hu1 hu2
  have h40 := am_hi_arr hok hr hq (by intro z; cases z)
  have hqn : q < h.1 := hst _ (List.mem_cons_of_mem _ (List.mem_cons_of_mem _ List.mem_cons_self)) q rfl
  have hw := am_ws_at (dA := dA) (ad := ad) h40 hqn
  rw [hq] at hw
  refine va_iast hx hb hK hP hD hS (q - 40) 0 hw rfl hin hd (fun H1 locs1 a1 a2 a3 => ?_)
  have e1 : am_ws dA ad (am_set h q (.inl (.int, n, .inl (upd f i.toNatClampNeg x)))) = (am_ws dA ad h).set (q - 40) (ad q, .inl (dA 0, n, .inl (upd f i.toNatClampNeg x))) := am_ws_set h40 hqn _
  exact K ad H1 locs1 ls had hn (by rw [e1]; exact a1) (by rw [e1]; exact a2) a3 (am_okh_set hok h40 ⟨fun ty k f e => (by cases e), fun ci' fs' e => (by cases e), fun _ n x e => (by cases e)⟩) hl hLo (fun v hv => hst v (List.mem_cons_of_mem _ (List.mem_cons_of_mem _ (List.mem_cons_of_mem _ hv)))) hu1 hu2
theorem ams_bastore (hx : p.tables.exec = Jvm.exec) (hb : c.code = cc) (hK : va_K D vwCl (am_tys dA) s) (hr : am_roS ro) (hd : decode cc pc = .ok (.bastore, 1)) (H0 : am_i1 st (fun x st' => am_ir st' (fun i q r => am_ari h q .boolean (fun n f => vp_in i n ∧ am_Wp p l e R s m args below meth c D dA A ro ad0 n0 nL lim Qm (pc + 1, L, r, u) (am_set h q (.inl (.boolean, n, .inl (upd f i.toNatClampNeg (vp_nar .boolean x))))))))) : am_Wp p l e R s m args below meth c D dA A ro ad0 n0 nL lim Qm (pc, L, st, u) h := by
  obtain ⟨x, st', rfl, H1⟩ := am_i1_use H0
  obtain ⟨i, q, r, rfl, H2⟩ := am_ir_use H1
  obtain ⟨n, f, hq, hin, K⟩ := am_ari_use H2
  intro ad H locs ls had hn hP hD hS hok hl hLo hst hu1 hu2
  have h40 := am_hi_arr hok hr hq (by intro z; cases z)
  have hqn : q < h.1 := hst _ (List.mem_cons_of_mem _ (List.mem_cons_of_mem _ List.mem_cons_self)) q rfl
  have hw := am_ws_at (dA := dA) (ad := ad) h40 hqn
  rw [hq] at hw
  refine va_zast hx hb hK hP hD hS (q - 40) 2 hw rfl hin hd (fun H1 locs1 a1 a2 a3 => ?_)
  have e1 : am_ws dA ad (am_set h q (.inl (.boolean, n, .inl (upd f i.toNatClampNeg (vp_nar .boolean x))))) = (am_ws dA ad h).set (q - 40) (ad q, .inl (dA 2, n, .inl (upd f i.toNatClampNeg (vp_nar .boolean x)))) := am_ws_set h40 hqn _
  exact K ad H1 locs1 ls had hn (by rw [e1]; exact a1) (by rw [e1]; exact a2) a3 (am_okh_set hok h40 ⟨fun ty k f e => (by cases e), fun ci' fs' e => (by cases e), fun _ n x e => (by cases e)⟩) hl hLo (fun v hv => hst v (List.mem_cons_of_mem _ (List.mem_cons_of_mem _ (List.mem_cons_of_mem _ hv)))) hu1 hu2
theorem ams_castore (hx : p.tables.exec = Jvm.exec) (hb : c.code = cc) (hK : va_K D vwCl (am_tys dA) s) (hr : am_roS ro) (hd : decode cc pc = .ok (.castore, 1)) (H0 : am_i1 st (fun x st' => am_ir st' (fun i q r => am_ari h q .char (fun n f => vp_in i n ∧ am_Wp p l e R s m args below meth c D dA A ro ad0 n0 nL lim Qm (pc + 1, L, r, u) (am_set h q (.inl (.char, n, .inl (upd f i.toNatClampNeg (vp_nar .char x))))))))) : am_Wp p l e R s m args below meth c D dA A ro ad0 n0 nL lim Qm (pc, L, st, u) h := by
  obtain ⟨x, st', rfl, H1⟩ := am_i1_use H0
  obtain ⟨i, q, r, rfl, H2⟩ := am_ir_use H1
  obtain ⟨n, f, hq, hin, K⟩ := am_ari_use H2
  intro ad H locs ls had hn hP hD hS hok hl hLo hst hu1 hu2
  have h40 := am_hi_arr hok hr hq (by intro z; cases z)
  have hqn : q < h.1 := hst _ (List.mem_cons_of_mem _ (List.mem_cons_of_mem _ List.mem_cons_self)) q rfl
  have hw := am_ws_at (dA := dA) (ad := ad) h40 hqn
  rw [hq] at hw
  refine va_cast hx hb hK hP hD hS (q - 40) 1 hw rfl hin hd (fun H1 locs1 a1 a2 a3 => ?_)
  have e1 : am_ws dA ad (am_set h q (.inl (.char, n, .inl (upd f i.toNatClampNeg (vp_nar .char x))))) = (am_ws dA ad h).set (q - 40) (ad q, .inl (dA 1, n, .inl (upd f i.toNatClampNeg (vp_nar .char x)))) := am_ws_set h40 hqn _
  exact K ad H1 locs1 ls had hn (by rw [e1]; exact a1) (by rw [e1]; exact a2) a3 (am_okh_set hok h40 ⟨fun ty k f e => (by cases e), fun ci' fs' e => (by cases e), fun _ n x e => (by cases e)⟩) hl hLo (fun v hv => hst v (List.mem_cons_of_mem _ (List.mem_cons_of_mem _ (List.mem_cons_of_mem _ hv)))) hu1 hu2
theorem ams_lastore (hx : p.tables.exec = Jvm.exec) (hb : c.code = cc) (hK : va_K D vwCl (am_tys dA) s) (hr : am_roS ro) (hd : decode cc pc = .ok (.lastore, 1)) (H0 : am_l1 st (fun x st' => am_ir st' (fun i q r => am_arl h q (fun n f => vp_in i n ∧ am_Wp p l e R s m args below meth c D dA A ro ad0 n0 nL lim Qm (pc + 1, L, r, u) (am_set h q (.inl (.long, n, .inr (.inl (vp_updL f i.toNatClampNeg x))))))))) : am_Wp p l e R s m args below meth c D dA A ro ad0 n0 nL lim Qm (pc, L, st, u) h := by
  obtain ⟨x, st', rfl, H1⟩ := am_l1_use H0
  obtain ⟨i, q, r, rfl, H2⟩ := am_ir_use H1
  obtain ⟨n, f, hq, hin, K⟩ := am_arl_use H2
  intro ad H locs ls had hn hP hD hS hok hl hLo hst hu1 hu2
  have h40 := am_hi_arr hok hr hq (by intro z; cases z)
  have hqn : q < h.1 := hst _ (List.mem_cons_of_mem _ (List.mem_cons_of_mem _ List.mem_cons_self)) q rfl
  have hw := am_ws_at (dA := dA) (ad := ad) h40 hqn
  rw [hq] at hw
  refine va_last hx hb hK hP hD hS (q - 40) 3 hw rfl hin hd (fun H1 locs1 a1 a2 a3 => ?_)
  have e1 : am_ws dA ad (am_set h q (.inl (.long, n, .inr (.inl (vp_updL f i.toNatClampNeg x))))) = (am_ws dA ad h).set (q - 40) (ad q, .inl (dA 3, n, .inr (.inl (vp_updL f i.toNatClampNeg x)))) := am_ws_set h40 hqn _
  exact K ad H1 locs1 ls had hn (by rw [e1]; exact a1) (by rw [e1]; exact a2) a3 (am_okh_set hok h40 ⟨fun ty k f e => (by cases e), fun ci' fs' e => (by cases e), fun _ n x e => (by cases e)⟩) hl hLo (fun v hv => hst v (List.mem_cons_of_mem _ (List.mem_cons_of_mem _ (List.mem_cons_of_mem _ hv)))) hu1 hu2
theorem ams_aastore (hx : p.tables.exec = Jvm.exec) (hb : c.code = cc) (hK : va_K D vwCl (am_tys dA) s) (hr : am_roS ro) (hd : decode cc pc = .ok (.aastore, 1)) (H0 : am_r1 st (fun v st' => am_ir st' (fun i q r => am_arr h q (fun C n f => am_obj h v 4 (fun _ => C = RX7 ∧ vp_in i n ∧ am_Wp p l e R s m args below meth c D dA A ro ad0 n0 nL lim Qm (pc + 1, L, r, u) (am_set h q (.inl (.object C, n, .inr (.inr (.inr (.inr (va_up f i.toNatClampNeg (some v)))))))))))) ) : am_Wp p l e R s m args below meth c D dA A ro ad0 n0 nL lim Qm (pc, L, st, u) h := by
  obtain ⟨v, st', rfl, H1⟩ := am_r1_use H0
  obtain ⟨i, q, r, rfl, H2⟩ := am_ir_use H1
  obtain ⟨C, n, f, hq, H3⟩ := am_arr_use H2
  obtain ⟨vs, hv, rfl, hin, K⟩ := am_obj_use H3
  intro ad H locs ls had hn hP hD hS hok hl hLo hst hu1 hu2
  have h40 := am_hi_arr hok hr hq (by intro z; cases z)
  have hqn : q < h.1 := hst _ (List.mem_cons_of_mem _ (List.mem_cons_of_mem _ List.mem_cons_self)) q rfl
  have hv40 := am_hi_obj hok hr hv (by decide)
  have hvn : v < h.1 := hst _ List.mem_cons_self v rfl
  have hw := am_ws_at (dA := dA) (ad := ad) h40 hqn
  have hwv := am_ws_at (dA := dA) (ad := ad) hv40 hvn
  rw [hq] at hw
  rw [hv] at hwv
  refine va_astq hx hb hK hP hD hS (q - 40) 4 (v - 40) 4 hw rfl hwv rfl hin hd (fun H1 locs1 a1 a2 a3 => ?_)
  have ef : (fun j => (va_up f i.toNatClampNeg (some v) j).map ad) = va_up (fun j => (f j).map ad) i.toNatClampNeg (some (ad v)) := by
    funext j
    by_cases e : j = i.toNatClampNeg
    · rw [e, am_up_s, am_up_s]; rfl
    · rw [am_up_n e, am_up_n e]
  have e1 : am_ws dA ad (am_set h q (.inl (.object RX7, n, .inr (.inr (.inr (.inr (va_up f i.toNatClampNeg (some v)))))))) = (am_ws dA ad h).set (q - 40) (ad q, .inl (dA 4, n, .inr (.inr (.inr (.inr (va_up (fun j => (f j).map ad) i.toNatClampNeg (some (ad v)))))))) := by
    rw [am_ws_set h40 hqn, ← ef]; rfl
  refine K ad H1 locs1 ls had hn (by rw [e1]; exact a1) (by rw [e1]; exact a2) a3 (am_okh_set hok h40 ⟨fun ty k f' e j q' hj => ?_, fun ci' fs' e => (by cases e), fun _ n x e => (by cases e)⟩) hl hLo (fun v hv => hst v (List.mem_cons_of_mem _ (List.mem_cons_of_mem _ (List.mem_cons_of_mem _ hv)))) hu1 hu2
  cases e
  by_cases ej : j = i.toNatClampNeg
  · rw [ej, am_up_s] at hj; cases hj; exact hvn
  · rw [am_up_n ej] at hj; exact (hok.2.1 q hqn).1 _ _ f hq j q' hj
theorem ams_arraylength (hx : p.tables.exec = Jvm.exec) (hb : c.code = cc) (hK : va_K D vwCl (am_tys dA) s) (hr : am_roS ro) (hro : am_RO ro ad0 A s s.heap) (hn0 : 40 ≤ n0) (hd : decode cc pc = .ok (.arraylength, 1)) (H0 : am_r1 st (fun q r => am_len h q (fun n => am_Wp p l e R s m args below meth c D dA A ro ad0 n0 nL lim Qm (pc + 1, L, .int (Int32.ofNat n) :: r, u) h))) : am_Wp p l e R s m args below meth c D dA A ro ad0 n0 nL lim Qm (pc, L, st, u) h := by
  obtain ⟨q, r, rfl, H1⟩ := am_r1_use H0
  obtain ⟨ty, n, x, hq, K⟩ := am_len_use H1
  intro ad H locs ls had hn hP hD hS hok hl hLo hst hu1 hu2
  have K' := K ad H locs ls had hn hP hD hS hok hl hLo (List.forall_mem_cons.mpr ⟨am_okv_int, fun v hv => hst v (List.mem_cons_of_mem _ hv)⟩) hu1 hu2
  have hqn : q < h.1 := hst _ List.mem_cons_self q rfl
  by_cases hty : ty = .float
  · subst hty
    have hq40 := am_lo_arr hok hq hqn
    have hf : ∃ f, x = .inl f := by
      have e2 := hok.2.2 q hq40
      rw [hq] at e2
      rcases hr q hq40 with z | ⟨n', f, z⟩
      · rw [z] at e2; cases e2
      · rw [z] at e2; cases e2; exact ⟨f, rfl⟩
    obtain ⟨f, rfl⟩ := hf
    have hT := hro.1 q n f hq40 (am_ro_at hok hq hq40)
    show W p l e R s m args below meth c H locs u.1 u.2 Qm (F0 m pc ls (.ref (ad q) :: r.map (am_cv ad)))
    rw [had q (by omega)]
    exact va_tlen hx hb hT hS rfl hd K'
  · have h40 := am_hi_arr hok hr hq hty
    have hw := am_ws_at (dA := dA) (ad := ad) h40 hqn
    rw [hq] at hw
    have ht : ∃ (t0 : Nat) (ty' : FieldType), (am_tys dA)[t0]? = some (am_ca dA ty, ty') := by
      unfold am_ca
      split
      · exact ⟨0, _, rfl⟩
      · exact ⟨1, _, rfl⟩
      · exact ⟨2, _, rfl⟩
      · exact ⟨3, _, rfl⟩
      · exact ⟨4, _, rfl⟩
    obtain ⟨t0, ty', ht⟩ := ht
    exact va_alen hx hb hK hP (q - 40) t0 hw ht rfl hd K' 
end
end
