section
/-- a private method of a class that the tables say can be made, by its rows of tables_1 -/
def lw_okq (q : MethodName × Nat) : Prop := (q.1.cls ≠ "java/lang/invoke/MethodHandle" ∧ q.1.cls ≠ "java/lang/invoke/VarHandle") ∧ Cond.instantiable q.1.cls q.2 ∈ tables_1 ∧ Cond.privateMethod q.1 ∈ tables_1 ∧ Cond.instanceMethod q.1 ∈ tables_1
theorem lw_p0 : lw_okq (⟨"BeadRings$Rule", "takes", "(C)Z"⟩, 9) := ⟨⟨by decide +kernel, by decide +kernel⟩, List.mem_of_getElem? (i := 166) (by decide +kernel), List.mem_of_getElem? (i := 326) (by decide +kernel), List.mem_of_getElem? (i := 327) (by decide +kernel)⟩
theorem lw_p1 : lw_okq (⟨"BeadRings$Rule", "takesDigit", "(I)Z"⟩, 9) := ⟨⟨by decide +kernel, by decide +kernel⟩, List.mem_of_getElem? (i := 166) (by decide +kernel), List.mem_of_getElem? (i := 330) (by decide +kernel), List.mem_of_getElem? (i := 331) (by decide +kernel)⟩
theorem lw_p2 : lw_okq (⟨"BeadRings$Rule", "addStep", "(I)V"⟩, 9) := ⟨⟨by decide +kernel, by decide +kernel⟩, List.mem_of_getElem? (i := 166) (by decide +kernel), List.mem_of_getElem? (i := 334) (by decide +kernel), List.mem_of_getElem? (i := 335) (by decide +kernel)⟩
theorem lw_p3 : lw_okq (⟨"BeadRings$Rule", "takesThing", "(C)Z"⟩, 9) := ⟨⟨by decide +kernel, by decide +kernel⟩, List.mem_of_getElem? (i := 166) (by decide +kernel), List.mem_of_getElem? (i := 338) (by decide +kernel), List.mem_of_getElem? (i := 339) (by decide +kernel)⟩
theorem lw_p4 : lw_okq (⟨"BeadRings$Rule", "addWaiting", "(C)V"⟩, 9) := ⟨⟨by decide +kernel, by decide +kernel⟩, List.mem_of_getElem? (i := 166) (by decide +kernel), List.mem_of_getElem? (i := 342) (by decide +kernel), List.mem_of_getElem? (i := 343) (by decide +kernel)⟩
theorem lw_p5 : lw_okq (⟨"BeadRings$Rule", "takesOperator", "(C)Z"⟩, 9) := ⟨⟨by decide +kernel, by decide +kernel⟩, List.mem_of_getElem? (i := 166) (by decide +kernel), List.mem_of_getElem? (i := 349) (by decide +kernel), List.mem_of_getElem? (i := 350) (by decide +kernel)⟩
theorem lw_p6 : lw_okq (⟨"BeadRings$Rule", "settleDownTo", "(I)V"⟩, 9) := ⟨⟨by decide +kernel, by decide +kernel⟩, List.mem_of_getElem? (i := 166) (by decide +kernel), List.mem_of_getElem? (i := 353) (by decide +kernel), List.mem_of_getElem? (i := 354) (by decide +kernel)⟩
theorem lw_p7 : lw_okq (⟨"BeadRings$Stall", "drop", "(I)V"⟩, 5) := ⟨⟨by decide +kernel, by decide +kernel⟩, List.mem_of_getElem? (i := 33) (by decide +kernel), List.mem_of_getElem? (i := 452) (by decide +kernel), List.mem_of_getElem? (i := 453) (by decide +kernel)⟩
theorem lw_p8 : lw_okq (⟨"BeadRings$KindLists", "grow", "(IIII)V"⟩, 3) := ⟨⟨by decide +kernel, by decide +kernel⟩, List.mem_of_getElem? (i := 128) (by decide +kernel), List.mem_of_getElem? (i := 780) (by decide +kernel), List.mem_of_getElem? (i := 781) (by decide +kernel)⟩
theorem lw_p9 : lw_okq (⟨"BeadRings", "addOnce", "(IIIII)V"⟩, 13) := ⟨⟨by decide +kernel, by decide +kernel⟩, List.mem_of_getElem? (i := 25) (by decide +kernel), List.mem_of_getElem? (i := 816) (by decide +kernel), List.mem_of_getElem? (i := 817) (by decide +kernel)⟩
theorem lw_p10 : lw_okq (⟨"BeadRings", "noteLeastRows", "(I)V"⟩, 13) := ⟨⟨by decide +kernel, by decide +kernel⟩, List.mem_of_getElem? (i := 25) (by decide +kernel), List.mem_of_getElem? (i := 831) (by decide +kernel), List.mem_of_getElem? (i := 832) (by decide +kernel)⟩
theorem lw_p11 : lw_okq (⟨"BeadRings", "numberNoted", "(I)I"⟩, 13) := ⟨⟨by decide +kernel, by decide +kernel⟩, List.mem_of_getElem? (i := 25) (by decide +kernel), List.mem_of_getElem? (i := 835) (by decide +kernel), List.mem_of_getElem? (i := 836) (by decide +kernel)⟩
theorem lw_p12 : lw_okq (⟨"BeadRings$Clues", "isAllFelt", "(II)Z"⟩, 3) := ⟨⟨by decide +kernel, by decide +kernel⟩, List.mem_of_getElem? (i := 146) (by decide +kernel), List.mem_of_getElem? (i := 875) (by decide +kernel), List.mem_of_getElem? (i := 876) (by decide +kernel)⟩
theorem lw_p13 : lw_okq (⟨"BeadRings", "passYear", "()V"⟩, 13) := ⟨⟨by decide +kernel, by decide +kernel⟩, List.mem_of_getElem? (i := 25) (by decide +kernel), List.mem_of_getElem? (i := 947) (by decide +kernel), List.mem_of_getElem? (i := 948) (by decide +kernel)⟩
theorem lw_p14 : lw_okq (⟨"BeadRings", "draw", "(I)I"⟩, 13) := ⟨⟨by decide +kernel, by decide +kernel⟩, List.mem_of_getElem? (i := 25) (by decide +kernel), List.mem_of_getElem? (i := 951) (by decide +kernel), List.mem_of_getElem? (i := 952) (by decide +kernel)⟩
theorem lw_p15 : lw_okq (⟨"java/lang/Throwable", "fillInStackTrace", "(I)Ljava/lang/Throwable;"⟩, 6) := ⟨⟨by decide +kernel, by decide +kernel⟩, List.mem_of_getElem? (i := 1024) (by decide +kernel), List.mem_of_getElem? (i := 1022) (by decide +kernel), List.mem_of_getElem? (i := 1023) (by decide +kernel)⟩
def lw_privs_1 : List (MethodName × Nat) := [(⟨"BeadRings$Rule", "takes", "(C)Z"⟩, 9), (⟨"BeadRings$Rule", "takesDigit", "(I)Z"⟩, 9), (⟨"BeadRings$Rule", "addStep", "(I)V"⟩, 9), (⟨"BeadRings$Rule", "takesThing", "(C)Z"⟩, 9), (⟨"BeadRings$Rule", "addWaiting", "(C)V"⟩, 9), (⟨"BeadRings$Rule", "takesOperator", "(C)Z"⟩, 9), (⟨"BeadRings$Rule", "settleDownTo", "(I)V"⟩, 9), (⟨"BeadRings$Stall", "drop", "(I)V"⟩, 5), (⟨"BeadRings$KindLists", "grow", "(IIII)V"⟩, 3), (⟨"BeadRings", "addOnce", "(IIIII)V"⟩, 13), (⟨"BeadRings", "noteLeastRows", "(I)V"⟩, 13), (⟨"BeadRings", "numberNoted", "(I)I"⟩, 13), (⟨"BeadRings$Clues", "isAllFelt", "(II)Z"⟩, 3), (⟨"BeadRings", "passYear", "()V"⟩, 13), (⟨"BeadRings", "draw", "(I)I"⟩, 13), (⟨"java/lang/Throwable", "fillInStackTrace", "(I)Ljava/lang/Throwable;"⟩, 6)]
theorem lw_r1 : ∀ q ∈ lw_privs_1, lw_okq q := List.forall_mem_cons.mpr ⟨lw_p0, List.forall_mem_cons.mpr ⟨lw_p1, List.forall_mem_cons.mpr ⟨lw_p2, List.forall_mem_cons.mpr ⟨lw_p3, List.forall_mem_cons.mpr ⟨lw_p4, List.forall_mem_cons.mpr ⟨lw_p5, List.forall_mem_cons.mpr ⟨lw_p6, List.forall_mem_cons.mpr ⟨lw_p7, List.forall_mem_cons.mpr ⟨lw_p8, List.forall_mem_cons.mpr ⟨lw_p9, List.forall_mem_cons.mpr ⟨lw_p10, List.forall_mem_cons.mpr ⟨lw_p11, List.forall_mem_cons.mpr ⟨lw_p12, List.forall_mem_cons.mpr ⟨lw_p13, List.forall_mem_cons.mpr ⟨lw_p14, List.forall_mem_cons.mpr ⟨lw_p15, fun _ h => absurd h List.not_mem_nil⟩⟩⟩⟩⟩⟩⟩⟩⟩⟩⟩⟩⟩⟩⟩⟩
theorem lw_p16 : lw_okq (⟨"BeadRingsModel", "readsRule", "()I"⟩, 45) := ⟨⟨by decide +kernel, by decide +kernel⟩, List.mem_of_getElem? (i := 1089) (by decide +kernel), List.mem_of_getElem? (i := 1247) (by decide +kernel), List.mem_of_getElem? (i := 1248) (by decide +kernel)⟩
theorem lw_p17 : lw_okq (⟨"BeadRingsModel", "begins", "(I)I"⟩, 45) := ⟨⟨by decide +kernel, by decide +kernel⟩, List.mem_of_getElem? (i := 1089) (by decide +kernel), List.mem_of_getElem? (i := 1251) (by decide +kernel), List.mem_of_getElem? (i := 1252) (by decide +kernel)⟩
theorem lw_p18 : lw_okq (⟨"BeadRingsModel", "readsRank", "(I)Z"⟩, 45) := ⟨⟨by decide +kernel, by decide +kernel⟩, List.mem_of_getElem? (i := 1089) (by decide +kernel), List.mem_of_getElem? (i := 1256) (by decide +kernel), List.mem_of_getElem? (i := 1257) (by decide +kernel)⟩
theorem lw_p19 : lw_okq (⟨"BeadRingsModel", "readsThing", "()Z"⟩, 45) := ⟨⟨by decide +kernel, by decide +kernel⟩, List.mem_of_getElem? (i := 1089) (by decide +kernel), List.mem_of_getElem? (i := 1260) (by decide +kernel), List.mem_of_getElem? (i := 1261) (by decide +kernel)⟩
theorem lw_p20 : lw_okq (⟨"BeadRingsModel", "takes", "(I)Z"⟩, 45) := ⟨⟨by decide +kernel, by decide +kernel⟩, List.mem_of_getElem? (i := 1089) (by decide +kernel), List.mem_of_getElem? (i := 1264) (by decide +kernel), List.mem_of_getElem? (i := 1265) (by decide +kernel)⟩
theorem lw_p21 : lw_okq (⟨"BeadRingsModel", "codes", "(I)V"⟩, 45) := ⟨⟨by decide +kernel, by decide +kernel⟩, List.mem_of_getElem? (i := 1089) (by decide +kernel), List.mem_of_getElem? (i := 1271) (by decide +kernel), List.mem_of_getElem? (i := 1272) (by decide +kernel)⟩
theorem lw_p22 : lw_okq (⟨"BeadRingsModel", "isDigit", "()Z"⟩, 45) := ⟨⟨by decide +kernel, by decide +kernel⟩, List.mem_of_getElem? (i := 1089) (by decide +kernel), List.mem_of_getElem? (i := 1275) (by decide +kernel), List.mem_of_getElem? (i := 1276) (by decide +kernel)⟩
theorem lw_p23 : lw_okq (⟨"BeadRingsModel", "number", "(I)I"⟩, 45) := ⟨⟨by decide +kernel, by decide +kernel⟩, List.mem_of_getElem? (i := 1089) (by decide +kernel), List.mem_of_getElem? (i := 1281) (by decide +kernel), List.mem_of_getElem? (i := 1282) (by decide +kernel)⟩
theorem lw_p24 : lw_okq (⟨"BeadRingsModel", "takesOf", "(Ljava/lang/String;)I"⟩, 45) := ⟨⟨by decide +kernel, by decide +kernel⟩, List.mem_of_getElem? (i := 1089) (by decide +kernel), List.mem_of_getElem? (i := 1286) (by decide +kernel), List.mem_of_getElem? (i := 1287) (by decide +kernel)⟩
theorem lw_p25 : lw_okq (⟨"BeadRingsModel", "faultOf", "(IIZ)I"⟩, 45) := ⟨⟨by decide +kernel, by decide +kernel⟩, List.mem_of_getElem? (i := 1089) (by decide +kernel), List.mem_of_getElem? (i := 1295) (by decide +kernel), List.mem_of_getElem? (i := 1296) (by decide +kernel)⟩
theorem lw_p26 : lw_okq (⟨"BeadRingsModel", "laysCode", "([II)V"⟩, 45) := ⟨⟨by decide +kernel, by decide +kernel⟩, List.mem_of_getElem? (i := 1089) (by decide +kernel), List.mem_of_getElem? (i := 1299) (by decide +kernel), List.mem_of_getElem? (i := 1300) (by decide +kernel)⟩
theorem lw_p27 : lw_okq (⟨"BeadRingsModel", "isRing", "(I)Z"⟩, 45) := ⟨⟨by decide +kernel, by decide +kernel⟩, List.mem_of_getElem? (i := 1089) (by decide +kernel), List.mem_of_getElem? (i := 1307) (by decide +kernel), List.mem_of_getElem? (i := 1308) (by decide +kernel)⟩
theorem lw_p28 : lw_okq (⟨"BeadRingsModel", "refuse", "()I"⟩, 45) := ⟨⟨by decide +kernel, by decide +kernel⟩, List.mem_of_getElem? (i := 1089) (by decide +kernel), List.mem_of_getElem? (i := 1312) (by decide +kernel), List.mem_of_getElem? (i := 1313) (by decide +kernel)⟩
theorem lw_p29 : lw_okq (⟨"BeadRingsModel", "looksAt", "([II)V"⟩, 45) := ⟨⟨by decide +kernel, by decide +kernel⟩, List.mem_of_getElem? (i := 1089) (by decide +kernel), List.mem_of_getElem? (i := 1316) (by decide +kernel), List.mem_of_getElem? (i := 1317) (by decide +kernel)⟩
theorem lw_p30 : lw_okq (⟨"BeadRingsModel", "coloursOf", "()I"⟩, 45) := ⟨⟨by decide +kernel, by decide +kernel⟩, List.mem_of_getElem? (i := 1089) (by decide +kernel), List.mem_of_getElem? (i := 1323) (by decide +kernel), List.mem_of_getElem? (i := 1324) (by decide +kernel)⟩
theorem lw_p31 : lw_okq (⟨"BeadRingsModel", "ofLook", "(I)I"⟩, 45) := ⟨⟨by decide +kernel, by decide +kernel⟩, List.mem_of_getElem? (i := 1089) (by decide +kernel), List.mem_of_getElem? (i := 1327) (by decide +kernel), List.mem_of_getElem? (i := 1328) (by decide +kernel)⟩
def lw_privs_2 : List (MethodName × Nat) := [(⟨"BeadRingsModel", "readsRule", "()I"⟩, 45), (⟨"BeadRingsModel", "begins", "(I)I"⟩, 45), (⟨"BeadRingsModel", "readsRank", "(I)Z"⟩, 45), (⟨"BeadRingsModel", "readsThing", "()Z"⟩, 45), (⟨"BeadRingsModel", "takes", "(I)Z"⟩, 45), (⟨"BeadRingsModel", "codes", "(I)V"⟩, 45), (⟨"BeadRingsModel", "isDigit", "()Z"⟩, 45), (⟨"BeadRingsModel", "number", "(I)I"⟩, 45), (⟨"BeadRingsModel", "takesOf", "(Ljava/lang/String;)I"⟩, 45), (⟨"BeadRingsModel", "faultOf", "(IIZ)I"⟩, 45), (⟨"BeadRingsModel", "laysCode", "([II)V"⟩, 45), (⟨"BeadRingsModel", "isRing", "(I)Z"⟩, 45), (⟨"BeadRingsModel", "refuse", "()I"⟩, 45), (⟨"BeadRingsModel", "looksAt", "([II)V"⟩, 45), (⟨"BeadRingsModel", "coloursOf", "()I"⟩, 45), (⟨"BeadRingsModel", "ofLook", "(I)I"⟩, 45)]
theorem lw_r2 : ∀ q ∈ lw_privs_2, lw_okq q := List.forall_mem_cons.mpr ⟨lw_p16, List.forall_mem_cons.mpr ⟨lw_p17, List.forall_mem_cons.mpr ⟨lw_p18, List.forall_mem_cons.mpr ⟨lw_p19, List.forall_mem_cons.mpr ⟨lw_p20, List.forall_mem_cons.mpr ⟨lw_p21, List.forall_mem_cons.mpr ⟨lw_p22, List.forall_mem_cons.mpr ⟨lw_p23, List.forall_mem_cons.mpr ⟨lw_p24, List.forall_mem_cons.mpr ⟨lw_p25, List.forall_mem_cons.mpr ⟨lw_p26, List.forall_mem_cons.mpr ⟨lw_p27, List.forall_mem_cons.mpr ⟨lw_p28, List.forall_mem_cons.mpr ⟨lw_p29, List.forall_mem_cons.mpr ⟨lw_p30, List.forall_mem_cons.mpr ⟨lw_p31, fun _ h => absurd h List.not_mem_nil⟩⟩⟩⟩⟩⟩⟩⟩⟩⟩⟩⟩⟩⟩⟩⟩
theorem lw_p32 : lw_okq (⟨"BeadRingsModel", "period", "()I"⟩, 45) := ⟨⟨by decide +kernel, by decide +kernel⟩, List.mem_of_getElem? (i := 1089) (by decide +kernel), List.mem_of_getElem? (i := 1331) (by decide +kernel), List.mem_of_getElem? (i := 1332) (by decide +kernel)⟩
theorem lw_p33 : lw_okq (⟨"BeadRingsModel", "compares", "(II)I"⟩, 45) := ⟨⟨by decide +kernel, by decide +kernel⟩, List.mem_of_getElem? (i := 1089) (by decide +kernel), List.mem_of_getElem? (i := 1335) (by decide +kernel), List.mem_of_getElem? (i := 1336) (by decide +kernel)⟩
theorem lw_p34 : lw_okq (⟨"BeadRingsModel", "mirrors", "()I"⟩, 45) := ⟨⟨by decide +kernel, by decide +kernel⟩, List.mem_of_getElem? (i := 1089) (by decide +kernel), List.mem_of_getElem? (i := 1342) (by decide +kernel), List.mem_of_getElem? (i := 1343) (by decide +kernel)⟩
theorem lw_p35 : lw_okq (⟨"BeadRingsModel", "price", "([II)I"⟩, 45) := ⟨⟨by decide +kernel, by decide +kernel⟩, List.mem_of_getElem? (i := 1089) (by decide +kernel), List.mem_of_getElem? (i := 1346) (by decide +kernel), List.mem_of_getElem? (i := 1347) (by decide +kernel)⟩
theorem lw_p36 : lw_okq (⟨"BeadRingsModel", "priceOfLook", "([II)I"⟩, 45) := ⟨⟨by decide +kernel, by decide +kernel⟩, List.mem_of_getElem? (i := 1089) (by decide +kernel), List.mem_of_getElem? (i := 1350) (by decide +kernel), List.mem_of_getElem? (i := 1351) (by decide +kernel)⟩
theorem lw_p37 : lw_okq (⟨"BeadRingsModel", "mostOfOne", "()I"⟩, 45) := ⟨⟨by decide +kernel, by decide +kernel⟩, List.mem_of_getElem? (i := 1089) (by decide +kernel), List.mem_of_getElem? (i := 1355) (by decide +kernel), List.mem_of_getElem? (i := 1356) (by decide +kernel)⟩
theorem lw_p38 : lw_okq (⟨"BeadRingsModel", "alikeMany", "([II)I"⟩, 45) := ⟨⟨by decide +kernel, by decide +kernel⟩, List.mem_of_getElem? (i := 1089) (by decide +kernel), List.mem_of_getElem? (i := 1360) (by decide +kernel), List.mem_of_getElem? (i := 1361) (by decide +kernel)⟩
theorem lw_p39 : lw_okq (⟨"BeadRingsModel", "isAlike", "([II)Z"⟩, 45) := ⟨⟨by decide +kernel, by decide +kernel⟩, List.mem_of_getElem? (i := 1089) (by decide +kernel), List.mem_of_getElem? (i := 1364) (by decide +kernel), List.mem_of_getElem? (i := 1365) (by decide +kernel)⟩
theorem lw_p40 : lw_okq (⟨"BeadRingsModel", "offBy", "([III)I"⟩, 45) := ⟨⟨by decide +kernel, by decide +kernel⟩, List.mem_of_getElem? (i := 1089) (by decide +kernel), List.mem_of_getElem? (i := 1368) (by decide +kernel), List.mem_of_getElem? (i := 1369) (by decide +kernel)⟩
theorem lw_p41 : lw_okq (⟨"BeadRingsModel", "ruled", "()I"⟩, 45) := ⟨⟨by decide +kernel, by decide +kernel⟩, List.mem_of_getElem? (i := 1089) (by decide +kernel), List.mem_of_getElem? (i := 1372) (by decide +kernel), List.mem_of_getElem? (i := 1373) (by decide +kernel)⟩
theorem lw_p42 : lw_okq (⟨"BeadRingsModel", "readsWord", "()I"⟩, 45) := ⟨⟨by decide +kernel, by decide +kernel⟩, List.mem_of_getElem? (i := 1089) (by decide +kernel), List.mem_of_getElem? (i := 1403) (by decide +kernel), List.mem_of_getElem? (i := 1404) (by decide +kernel)⟩
theorem lw_p43 : lw_okq (⟨"BeadRingsModel", "ofWord", "(I)I"⟩, 45) := ⟨⟨by decide +kernel, by decide +kernel⟩, List.mem_of_getElem? (i := 1089) (by decide +kernel), List.mem_of_getElem? (i := 1408) (by decide +kernel), List.mem_of_getElem? (i := 1409) (by decide +kernel)⟩
theorem lw_p44 : lw_okq (⟨"BeadRingsModel", "putsBy", "()V"⟩, 45) := ⟨⟨by decide +kernel, by decide +kernel⟩, List.mem_of_getElem? (i := 1089) (by decide +kernel), List.mem_of_getElem? (i := 1412) (by decide +kernel), List.mem_of_getElem? (i := 1413) (by decide +kernel)⟩
theorem lw_p45 : lw_okq (⟨"BeadRingsModel", "adds", "(I)I"⟩, 45) := ⟨⟨by decide +kernel, by decide +kernel⟩, List.mem_of_getElem? (i := 1089) (by decide +kernel), List.mem_of_getElem? (i := 1419) (by decide +kernel), List.mem_of_getElem? (i := 1420) (by decide +kernel)⟩
theorem lw_p46 : lw_okq (⟨"BeadRingsModel", "rollsOne", "([III)I"⟩, 45) := ⟨⟨by decide +kernel, by decide +kernel⟩, List.mem_of_getElem? (i := 1089) (by decide +kernel), List.mem_of_getElem? (i := 1427) (by decide +kernel), List.mem_of_getElem? (i := 1428) (by decide +kernel)⟩
theorem lw_p47 : lw_okq (⟨"BeadRingsModel", "turnsOne", "([III)V"⟩, 45) := ⟨⟨by decide +kernel, by decide +kernel⟩, List.mem_of_getElem? (i := 1089) (by decide +kernel), List.mem_of_getElem? (i := 1435) (by decide +kernel), List.mem_of_getElem? (i := 1436) (by decide +kernel)⟩
def lw_privs_3 : List (MethodName × Nat) := [(⟨"BeadRingsModel", "period", "()I"⟩, 45), (⟨"BeadRingsModel", "compares", "(II)I"⟩, 45), (⟨"BeadRingsModel", "mirrors", "()I"⟩, 45), (⟨"BeadRingsModel", "price", "([II)I"⟩, 45), (⟨"BeadRingsModel", "priceOfLook", "([II)I"⟩, 45), (⟨"BeadRingsModel", "mostOfOne", "()I"⟩, 45), (⟨"BeadRingsModel", "alikeMany", "([II)I"⟩, 45), (⟨"BeadRingsModel", "isAlike", "([II)Z"⟩, 45), (⟨"BeadRingsModel", "offBy", "([III)I"⟩, 45), (⟨"BeadRingsModel", "ruled", "()I"⟩, 45), (⟨"BeadRingsModel", "readsWord", "()I"⟩, 45), (⟨"BeadRingsModel", "ofWord", "(I)I"⟩, 45), (⟨"BeadRingsModel", "putsBy", "()V"⟩, 45), (⟨"BeadRingsModel", "adds", "(I)I"⟩, 45), (⟨"BeadRingsModel", "rollsOne", "([III)I"⟩, 45), (⟨"BeadRingsModel", "turnsOne", "([III)V"⟩, 45)]
theorem lw_r3 : ∀ q ∈ lw_privs_3, lw_okq q := List.forall_mem_cons.mpr ⟨lw_p32, List.forall_mem_cons.mpr ⟨lw_p33, List.forall_mem_cons.mpr ⟨lw_p34, List.forall_mem_cons.mpr ⟨lw_p35, List.forall_mem_cons.mpr ⟨lw_p36, List.forall_mem_cons.mpr ⟨lw_p37, List.forall_mem_cons.mpr ⟨lw_p38, List.forall_mem_cons.mpr ⟨lw_p39, List.forall_mem_cons.mpr ⟨lw_p40, List.forall_mem_cons.mpr ⟨lw_p41, List.forall_mem_cons.mpr ⟨lw_p42, List.forall_mem_cons.mpr ⟨lw_p43, List.forall_mem_cons.mpr ⟨lw_p44, List.forall_mem_cons.mpr ⟨lw_p45, List.forall_mem_cons.mpr ⟨lw_p46, List.forall_mem_cons.mpr ⟨lw_p47, fun _ h => absurd h List.not_mem_nil⟩⟩⟩⟩⟩⟩⟩⟩⟩⟩⟩⟩⟩⟩⟩⟩
theorem lw_p48 : lw_okq (⟨"BeadRingsModel", "counted", "(I)I"⟩, 45) := ⟨⟨by decide +kernel, by decide +kernel⟩, List.mem_of_getElem? (i := 1089) (by decide +kernel), List.mem_of_getElem? (i := 1439) (by decide +kernel), List.mem_of_getElem? (i := 1440) (by decide +kernel)⟩
theorem lw_p49 : lw_okq (⟨"BeadRingsModel", "flipsOne", "([II)I"⟩, 45) := ⟨⟨by decide +kernel, by decide +kernel⟩, List.mem_of_getElem? (i := 1089) (by decide +kernel), List.mem_of_getElem? (i := 1447) (by decide +kernel), List.mem_of_getElem? (i := 1448) (by decide +kernel)⟩
theorem lw_p50 : lw_okq (⟨"BeadRingsModel", "swapsOne", "([III)I"⟩, 45) := ⟨⟨by decide +kernel, by decide +kernel⟩, List.mem_of_getElem? (i := 1089) (by decide +kernel), List.mem_of_getElem? (i := 1455) (by decide +kernel), List.mem_of_getElem? (i := 1456) (by decide +kernel)⟩
theorem lw_p51 : lw_okq (⟨"BeadRingsModel", "threadsOne", "([IIII)I"⟩, 45) := ⟨⟨by decide +kernel, by decide +kernel⟩, List.mem_of_getElem? (i := 1089) (by decide +kernel), List.mem_of_getElem? (i := 1463) (by decide +kernel), List.mem_of_getElem? (i := 1464) (by decide +kernel)⟩
theorem lw_p52 : lw_okq (⟨"BeadRingsModel", "cutsOne", "([III)I"⟩, 45) := ⟨⟨by decide +kernel, by decide +kernel⟩, List.mem_of_getElem? (i := 1089) (by decide +kernel), List.mem_of_getElem? (i := 1471) (by decide +kernel), List.mem_of_getElem? (i := 1472) (by decide +kernel)⟩
theorem lw_p53 : lw_okq (⟨"BeadRingsModel", "joinsOne", "([III)I"⟩, 45) := ⟨⟨by decide +kernel, by decide +kernel⟩, List.mem_of_getElem? (i := 1089) (by decide +kernel), List.mem_of_getElem? (i := 1482) (by decide +kernel), List.mem_of_getElem? (i := 1483) (by decide +kernel)⟩
theorem lw_p54 : lw_okq (⟨"BeadRingsModel", "partsOne", "([II)I"⟩, 45) := ⟨⟨by decide +kernel, by decide +kernel⟩, List.mem_of_getElem? (i := 1089) (by decide +kernel), List.mem_of_getElem? (i := 1493) (by decide +kernel), List.mem_of_getElem? (i := 1494) (by decide +kernel)⟩
theorem lw_p55 : lw_okq (⟨"BeadRingsModel", "sellsOne", "([II)I"⟩, 45) := ⟨⟨by decide +kernel, by decide +kernel⟩, List.mem_of_getElem? (i := 1089) (by decide +kernel), List.mem_of_getElem? (i := 1501) (by decide +kernel), List.mem_of_getElem? (i := 1502) (by decide +kernel)⟩
theorem lw_p56 : lw_okq (⟨"BeadRingsModel", "buysOne", "([III)I"⟩, 45) := ⟨⟨by decide +kernel, by decide +kernel⟩, List.mem_of_getElem? (i := 1089) (by decide +kernel), List.mem_of_getElem? (i := 1509) (by decide +kernel), List.mem_of_getElem? (i := 1510) (by decide +kernel)⟩
theorem lw_p57 : lw_okq (⟨"BeadRingsModel", "readsAct", "()Z"⟩, 45) := ⟨⟨by decide +kernel, by decide +kernel⟩, List.mem_of_getElem? (i := 1089) (by decide +kernel), List.mem_of_getElem? (i := 1518) (by decide +kernel), List.mem_of_getElem? (i := 1519) (by decide +kernel)⟩
theorem lw_p58 : lw_okq (⟨"BeadRingsModel", "digitIn", "(II)I"⟩, 45) := ⟨⟨by decide +kernel, by decide +kernel⟩, List.mem_of_getElem? (i := 1089) (by decide +kernel), List.mem_of_getElem? (i := 1523) (by decide +kernel), List.mem_of_getElem? (i := 1524) (by decide +kernel)⟩
theorem lw_p59 : lw_okq (⟨"BeadRingsModel", "does", "(I)Z"⟩, 45) := ⟨⟨by decide +kernel, by decide +kernel⟩, List.mem_of_getElem? (i := 1089) (by decide +kernel), List.mem_of_getElem? (i := 1527) (by decide +kernel), List.mem_of_getElem? (i := 1528) (by decide +kernel)⟩
theorem lw_p60 : lw_okq (⟨"BeadRingsModel", "enters", "(J)V"⟩, 45) := ⟨⟨by decide +kernel, by decide +kernel⟩, List.mem_of_getElem? (i := 1089) (by decide +kernel), List.mem_of_getElem? (i := 1531) (by decide +kernel), List.mem_of_getElem? (i := 1532) (by decide +kernel)⟩
theorem lw_p61 : lw_okq (⟨"BeadRingsModel", "entersLeast", "()V"⟩, 45) := ⟨⟨by decide +kernel, by decide +kernel⟩, List.mem_of_getElem? (i := 1089) (by decide +kernel), List.mem_of_getElem? (i := 1539) (by decide +kernel), List.mem_of_getElem? (i := 1540) (by decide +kernel)⟩
theorem lw_p62 : lw_okq (⟨"BeadRingsModel", "leastTurning", "()I"⟩, 45) := ⟨⟨by decide +kernel, by decide +kernel⟩, List.mem_of_getElem? (i := 1089) (by decide +kernel), List.mem_of_getElem? (i := 1543) (by decide +kernel), List.mem_of_getElem? (i := 1544) (by decide +kernel)⟩
theorem lw_p63 : lw_okq (⟨"BeadRingsModel", "kindsOf", "([I)I"⟩, 45) := ⟨⟨by decide +kernel, by decide +kernel⟩, List.mem_of_getElem? (i := 1089) (by decide +kernel), List.mem_of_getElem? (i := 1558) (by decide +kernel), List.mem_of_getElem? (i := 1559) (by decide +kernel)⟩
def lw_privs_4 : List (MethodName × Nat) := [(⟨"BeadRingsModel", "counted", "(I)I"⟩, 45), (⟨"BeadRingsModel", "flipsOne", "([II)I"⟩, 45), (⟨"BeadRingsModel", "swapsOne", "([III)I"⟩, 45), (⟨"BeadRingsModel", "threadsOne", "([IIII)I"⟩, 45), (⟨"BeadRingsModel", "cutsOne", "([III)I"⟩, 45), (⟨"BeadRingsModel", "joinsOne", "([III)I"⟩, 45), (⟨"BeadRingsModel", "partsOne", "([II)I"⟩, 45), (⟨"BeadRingsModel", "sellsOne", "([II)I"⟩, 45), (⟨"BeadRingsModel", "buysOne", "([III)I"⟩, 45), (⟨"BeadRingsModel", "readsAct", "()Z"⟩, 45), (⟨"BeadRingsModel", "digitIn", "(II)I"⟩, 45), (⟨"BeadRingsModel", "does", "(I)Z"⟩, 45), (⟨"BeadRingsModel", "enters", "(J)V"⟩, 45), (⟨"BeadRingsModel", "entersLeast", "()V"⟩, 45), (⟨"BeadRingsModel", "leastTurning", "()I"⟩, 45), (⟨"BeadRingsModel", "kindsOf", "([I)I"⟩, 45)]
theorem lw_r4 : ∀ q ∈ lw_privs_4, lw_okq q := List.forall_mem_cons.mpr ⟨lw_p48, List.forall_mem_cons.mpr ⟨lw_p49, List.forall_mem_cons.mpr ⟨lw_p50, List.forall_mem_cons.mpr ⟨lw_p51, List.forall_mem_cons.mpr ⟨lw_p52, List.forall_mem_cons.mpr ⟨lw_p53, List.forall_mem_cons.mpr ⟨lw_p54, List.forall_mem_cons.mpr ⟨lw_p55, List.forall_mem_cons.mpr ⟨lw_p56, List.forall_mem_cons.mpr ⟨lw_p57, List.forall_mem_cons.mpr ⟨lw_p58, List.forall_mem_cons.mpr ⟨lw_p59, List.forall_mem_cons.mpr ⟨lw_p60, List.forall_mem_cons.mpr ⟨lw_p61, List.forall_mem_cons.mpr ⟨lw_p62, List.forall_mem_cons.mpr ⟨lw_p63, fun _ h => absurd h List.not_mem_nil⟩⟩⟩⟩⟩⟩⟩⟩⟩⟩⟩⟩⟩⟩⟩⟩
theorem lw_p64 : lw_okq (⟨"BeadRingsModel", "firstAlike", "([II)I"⟩, 45) := ⟨⟨by decide +kernel, by decide +kernel⟩, List.mem_of_getElem? (i := 1089) (by decide +kernel), List.mem_of_getElem? (i := 1562) (by decide +kernel), List.mem_of_getElem? (i := 1563) (by decide +kernel)⟩
theorem lw_p65 : lw_okq (⟨"BeadRingsModel", "isWord", "(III)Z"⟩, 45) := ⟨⟨by decide +kernel, by decide +kernel⟩, List.mem_of_getElem? (i := 1089) (by decide +kernel), List.mem_of_getElem? (i := 1578) (by decide +kernel), List.mem_of_getElem? (i := 1579) (by decide +kernel)⟩
theorem lw_p66 : lw_okq (⟨"BeadRingsModel", "isSame", "(II)Z"⟩, 45) := ⟨⟨by decide +kernel, by decide +kernel⟩, List.mem_of_getElem? (i := 1089) (by decide +kernel), List.mem_of_getElem? (i := 1590) (by decide +kernel), List.mem_of_getElem? (i := 1591) (by decide +kernel)⟩
theorem lw_p67 : lw_okq (⟨"BeadRingsModel", "goesInto", "(I)Z"⟩, 45) := ⟨⟨by decide +kernel, by decide +kernel⟩, List.mem_of_getElem? (i := 1089) (by decide +kernel), List.mem_of_getElem? (i := 1616) (by decide +kernel), List.mem_of_getElem? (i := 1617) (by decide +kernel)⟩
theorem lw_p68 : lw_okq (⟨"BeadRingsModel", "rowsOf", "(III)J"⟩, 45) := ⟨⟨by decide +kernel, by decide +kernel⟩, List.mem_of_getElem? (i := 1089) (by decide +kernel), List.mem_of_getElem? (i := 1620) (by decide +kernel), List.mem_of_getElem? (i := 1621) (by decide +kernel)⟩
theorem lw_p69 : lw_okq (⟨"BeadRingsModel", "flippedRows", "(IZ)J"⟩, 45) := ⟨⟨by decide +kernel, by decide +kernel⟩, List.mem_of_getElem? (i := 1089) (by decide +kernel), List.mem_of_getElem? (i := 1624) (by decide +kernel), List.mem_of_getElem? (i := 1625) (by decide +kernel)⟩
theorem lw_p70 : lw_okq (⟨"BeadRingsModel", "oddOnes", "()I"⟩, 45) := ⟨⟨by decide +kernel, by decide +kernel⟩, List.mem_of_getElem? (i := 1089) (by decide +kernel), List.mem_of_getElem? (i := 1628) (by decide +kernel), List.mem_of_getElem? (i := 1629) (by decide +kernel)⟩
theorem lw_p71 : lw_okq (⟨"BeadRingsModel", "laysLook", "(III)V"⟩, 45) := ⟨⟨by decide +kernel, by decide +kernel⟩, List.mem_of_getElem? (i := 1089) (by decide +kernel), List.mem_of_getElem? (i := 1639) (by decide +kernel), List.mem_of_getElem? (i := 1640) (by decide +kernel)⟩
theorem lw_p72 : lw_okq (⟨"BeadRingsModel", "isLeast", "()Z"⟩, 45) := ⟨⟨by decide +kernel, by decide +kernel⟩, List.mem_of_getElem? (i := 1089) (by decide +kernel), List.mem_of_getElem? (i := 1643) (by decide +kernel), List.mem_of_getElem? (i := 1644) (by decide +kernel)⟩
theorem lw_p73 : lw_okq (⟨"BeadRingsModel", "entersLook", "()V"⟩, 45) := ⟨⟨by decide +kernel, by decide +kernel⟩, List.mem_of_getElem? (i := 1089) (by decide +kernel), List.mem_of_getElem? (i := 1647) (by decide +kernel), List.mem_of_getElem? (i := 1648) (by decide +kernel)⟩
theorem lw_p74 : lw_okq (⟨"BeadRingsModel", "laysRank", "(I)V"⟩, 45) := ⟨⟨by decide +kernel, by decide +kernel⟩, List.mem_of_getElem? (i := 1089) (by decide +kernel), List.mem_of_getElem? (i := 1655) (by decide +kernel), List.mem_of_getElem? (i := 1656) (by decide +kernel)⟩
theorem lw_p75 : lw_okq (⟨"BeadRingsModel", "laysAround", "(IIII)Z"⟩, 45) := ⟨⟨by decide +kernel, by decide +kernel⟩, List.mem_of_getElem? (i := 1089) (by decide +kernel), List.mem_of_getElem? (i := 1671) (by decide +kernel), List.mem_of_getElem? (i := 1672) (by decide +kernel)⟩
theorem lw_p76 : lw_okq (⟨"BeadRingsModel", "wasThere", "(IIII)Z"⟩, 45) := ⟨⟨by decide +kernel, by decide +kernel⟩, List.mem_of_getElem? (i := 1089) (by decide +kernel), List.mem_of_getElem? (i := 1675) (by decide +kernel), List.mem_of_getElem? (i := 1676) (by decide +kernel)⟩
theorem lw_p77 : lw_okq (⟨"BeadRingsModel", "wordAt", "(IIII)I"⟩, 45) := ⟨⟨by decide +kernel, by decide +kernel⟩, List.mem_of_getElem? (i := 1089) (by decide +kernel), List.mem_of_getElem? (i := 1679) (by decide +kernel), List.mem_of_getElem? (i := 1680) (by decide +kernel)⟩
theorem lw_p78 : lw_okq (⟨"BeadRingsModel", "isOnce", "(III)Z"⟩, 45) := ⟨⟨by decide +kernel, by decide +kernel⟩, List.mem_of_getElem? (i := 1089) (by decide +kernel), List.mem_of_getElem? (i := 1683) (by decide +kernel), List.mem_of_getElem? (i := 1684) (by decide +kernel)⟩
theorem lw_p79 : lw_okq (⟨"BeadRingsModel", "isInStock", "()Z"⟩, 45) := ⟨⟨by decide +kernel, by decide +kernel⟩, List.mem_of_getElem? (i := 1089) (by decide +kernel), List.mem_of_getElem? (i := 1691) (by decide +kernel), List.mem_of_getElem? (i := 1692) (by decide +kernel)⟩
def lw_privs_5 : List (MethodName × Nat) := [(⟨"BeadRingsModel", "firstAlike", "([II)I"⟩, 45), (⟨"BeadRingsModel", "isWord", "(III)Z"⟩, 45), (⟨"BeadRingsModel", "isSame", "(II)Z"⟩, 45), (⟨"BeadRingsModel", "goesInto", "(I)Z"⟩, 45), (⟨"BeadRingsModel", "rowsOf", "(III)J"⟩, 45), (⟨"BeadRingsModel", "flippedRows", "(IZ)J"⟩, 45), (⟨"BeadRingsModel", "oddOnes", "()I"⟩, 45), (⟨"BeadRingsModel", "laysLook", "(III)V"⟩, 45), (⟨"BeadRingsModel", "isLeast", "()Z"⟩, 45), (⟨"BeadRingsModel", "entersLook", "()V"⟩, 45), (⟨"BeadRingsModel", "laysRank", "(I)V"⟩, 45), (⟨"BeadRingsModel", "laysAround", "(IIII)Z"⟩, 45), (⟨"BeadRingsModel", "wasThere", "(IIII)Z"⟩, 45), (⟨"BeadRingsModel", "wordAt", "(IIII)I"⟩, 45), (⟨"BeadRingsModel", "isOnce", "(III)Z"⟩, 45), (⟨"BeadRingsModel", "isInStock", "()Z"⟩, 45)]
theorem lw_r5 : ∀ q ∈ lw_privs_5, lw_okq q := List.forall_mem_cons.mpr ⟨lw_p64, List.forall_mem_cons.mpr ⟨lw_p65, List.forall_mem_cons.mpr ⟨lw_p66, List.forall_mem_cons.mpr ⟨lw_p67, List.forall_mem_cons.mpr ⟨lw_p68, List.forall_mem_cons.mpr ⟨lw_p69, List.forall_mem_cons.mpr ⟨lw_p70, List.forall_mem_cons.mpr ⟨lw_p71, List.forall_mem_cons.mpr ⟨lw_p72, List.forall_mem_cons.mpr ⟨lw_p73, List.forall_mem_cons.mpr ⟨lw_p74, List.forall_mem_cons.mpr ⟨lw_p75, List.forall_mem_cons.mpr ⟨lw_p76, List.forall_mem_cons.mpr ⟨lw_p77, List.forall_mem_cons.mpr ⟨lw_p78, List.forall_mem_cons.mpr ⟨lw_p79, fun _ h => absurd h List.not_mem_nil⟩⟩⟩⟩⟩⟩⟩⟩⟩⟩⟩⟩⟩⟩⟩⟩
theorem lw_p80 : lw_okq (⟨"BeadRingsModel", "entersFraction", "(JJ)I"⟩, 45) := ⟨⟨by decide +kernel, by decide +kernel⟩, List.mem_of_getElem? (i := 1089) (by decide +kernel), List.mem_of_getElem? (i := 1704) (by decide +kernel), List.mem_of_getElem? (i := 1705) (by decide +kernel)⟩
theorem lw_p81 : lw_okq (⟨"BeadRingsModel", "clasps", "()I"⟩, 45) := ⟨⟨by decide +kernel, by decide +kernel⟩, List.mem_of_getElem? (i := 1089) (by decide +kernel), List.mem_of_getElem? (i := 1720) (by decide +kernel), List.mem_of_getElem? (i := 1721) (by decide +kernel)⟩
theorem lw_p82 : lw_okq (⟨"BeadRingsModel", "fitting", "()I"⟩, 45) := ⟨⟨by decide +kernel, by decide +kernel⟩, List.mem_of_getElem? (i := 1089) (by decide +kernel), List.mem_of_getElem? (i := 1750) (by decide +kernel), List.mem_of_getElem? (i := 1751) (by decide +kernel)⟩
theorem lw_p83 : lw_okq (⟨"BeadRingsModel", "isSo", "(II)Z"⟩, 45) := ⟨⟨by decide +kernel, by decide +kernel⟩, List.mem_of_getElem? (i := 1089) (by decide +kernel), List.mem_of_getElem? (i := 1754) (by decide +kernel), List.mem_of_getElem? (i := 1755) (by decide +kernel)⟩
theorem lw_p84 : lw_okq (⟨"BeadRingsModel", "laysWorth", "()V"⟩, 45) := ⟨⟨by decide +kernel, by decide +kernel⟩, List.mem_of_getElem? (i := 1089) (by decide +kernel), List.mem_of_getElem? (i := 1767) (by decide +kernel), List.mem_of_getElem? (i := 1768) (by decide +kernel)⟩
theorem lw_p85 : lw_okq (⟨"BeadRingsModel", "prices", "()I"⟩, 45) := ⟨⟨by decide +kernel, by decide +kernel⟩, List.mem_of_getElem? (i := 1089) (by decide +kernel), List.mem_of_getElem? (i := 1775) (by decide +kernel), List.mem_of_getElem? (i := 1776) (by decide +kernel)⟩
theorem lw_p86 : lw_okq (⟨"BeadRingsModel", "draws", "(I)I"⟩, 45) := ⟨⟨by decide +kernel, by decide +kernel⟩, List.mem_of_getElem? (i := 1089) (by decide +kernel), List.mem_of_getElem? (i := 1795) (by decide +kernel), List.mem_of_getElem? (i := 1796) (by decide +kernel)⟩
theorem lw_p87 : lw_okq (⟨"BeadRingsModel", "drawnDay", "(I)V"⟩, 45) := ⟨⟨by decide +kernel, by decide +kernel⟩, List.mem_of_getElem? (i := 1089) (by decide +kernel), List.mem_of_getElem? (i := 1800) (by decide +kernel), List.mem_of_getElem? (i := 1801) (by decide +kernel)⟩
def lw_privs_6 : List (MethodName × Nat) := [(⟨"BeadRingsModel", "entersFraction", "(JJ)I"⟩, 45), (⟨"BeadRingsModel", "clasps", "()I"⟩, 45), (⟨"BeadRingsModel", "fitting", "()I"⟩, 45), (⟨"BeadRingsModel", "isSo", "(II)Z"⟩, 45), (⟨"BeadRingsModel", "laysWorth", "()V"⟩, 45), (⟨"BeadRingsModel", "prices", "()I"⟩, 45), (⟨"BeadRingsModel", "draws", "(I)I"⟩, 45), (⟨"BeadRingsModel", "drawnDay", "(I)V"⟩, 45)]
theorem lw_r6 : ∀ q ∈ lw_privs_6, lw_okq q := List.forall_mem_cons.mpr ⟨lw_p80, List.forall_mem_cons.mpr ⟨lw_p81, List.forall_mem_cons.mpr ⟨lw_p82, List.forall_mem_cons.mpr ⟨lw_p83, List.forall_mem_cons.mpr ⟨lw_p84, List.forall_mem_cons.mpr ⟨lw_p85, List.forall_mem_cons.mpr ⟨lw_p86, List.forall_mem_cons.mpr ⟨lw_p87, fun _ h => absurd h List.not_mem_nil⟩⟩⟩⟩⟩⟩⟩⟩
def lw_privs : List (MethodName × Nat) := lw_privs_1 ++ (lw_privs_2 ++ (lw_privs_3 ++ (lw_privs_4 ++ (lw_privs_5 ++ (lw_privs_6)))))
def lw_tbl : List Cond := k2_sels lw_privs ++ tables_1
theorem lw_privs_ok : ∀ q ∈ lw_privs, lw_okq q := by
  show ∀ q ∈ lw_privs_1 ++ (lw_privs_2 ++ (lw_privs_3 ++ (lw_privs_4 ++ (lw_privs_5 ++ (lw_privs_6))))), lw_okq q
  exact List.forall_mem_append.mpr ⟨lw_r1, List.forall_mem_append.mpr ⟨lw_r2, List.forall_mem_append.mpr ⟨lw_r3, List.forall_mem_append.mpr ⟨lw_r4, List.forall_mem_append.mpr ⟨lw_r5, lw_r6⟩⟩⟩⟩⟩
end
section
def RX0 : String := "BeadRings$Beads"
def TX0 : u_T := fun k => match k with
  | _ => ("", "", "", false)
def tyX0 : Nat → FieldType := fun k => match k with
  | _ => .int
abbrev wsX00 : List Cond := u_ws RX0 TX0 0
theorem nmX0 : ∀ a, a < 0 → ∀ b, b < 0 → a ≠ b → (TX0 a).2.1 ≠ (TX0 b).2.1 := by decide +kernel
theorem tyX0_ok : ∀ k, k < 0 → parseFieldDescriptor (TX0 k).2.2.1 = some (tyX0 k) := by decide +kernel
abbrev cX0_isNoColour : ByteArray := prog_2_method_2_code
def yX0_isNoColour : MethodName := ⟨RX0, "isNoColour", "(I)Z"⟩
abbrev cX0_mask : ByteArray := prog_2_method_3_code
def yX0_mask : MethodName := ⟨RX0, "mask", "(I)I"⟩
abbrev cX0_colourAt : ByteArray := prog_2_method_4_code
def yX0_colourAt : MethodName := ⟨RX0, "colourAt", "(III)I"⟩
abbrev cX0_withColour : ByteArray := prog_2_method_5_code
def yX0_withColour : MethodName := ⟨RX0, "withColour", "(IIII)I"⟩
abbrev cX0_rolled : ByteArray := prog_2_method_6_code
def yX0_rolled : MethodName := ⟨RX0, "rolled", "(III)I"⟩
abbrev cX0_flipped : ByteArray := prog_2_method_7_code
def yX0_flipped : MethodName := ⟨RX0, "flipped", "(II)I"⟩
abbrev cX0_turned : ByteArray := prog_2_method_8_code
def yX0_turned : MethodName := ⟨RX0, "turned", "(III)I"⟩
abbrev cX0_turningName : ByteArray := prog_2_method_9_code
def yX0_turningName : MethodName := ⟨RX0, "turningName", "(II)I"⟩
abbrev cX0_leastRow : ByteArray := prog_2_method_10_code
def yX0_leastRow : MethodName := ⟨RX0, "leastRow", "(II)I"⟩
abbrev cX0_isLessFlipped : ByteArray := prog_2_method_11_code
def yX0_isLessFlipped : MethodName := ⟨RX0, "isLessFlipped", "(II)Z"⟩
abbrev cX0_firstTurning : ByteArray := prog_2_method_12_code
def yX0_firstTurning : MethodName := ⟨RX0, "firstTurning", "(III)I"⟩
abbrev cX0_period : ByteArray := prog_2_method_13_code
def yX0_period : MethodName := ⟨RX0, "period", "(II)I"⟩
abbrev cX0_mirrors : ByteArray := prog_2_method_14_code
def yX0_mirrors : MethodName := ⟨RX0, "mirrors", "(II)I"⟩
abbrev cX0_stays : ByteArray := prog_2_method_15_code
def yX0_stays : MethodName := ⟨RX0, "stays", "(II)I"⟩
abbrev cX0_numberOf : ByteArray := prog_2_method_16_code
def yX0_numberOf : MethodName := ⟨RX0, "numberOf", "(III)I"⟩
abbrev cX0_colourBits : ByteArray := prog_2_method_17_code
def yX0_colourBits : MethodName := ⟨RX0, "colourBits", "(II)I"⟩
abbrev cX0_greatestColour : ByteArray := prog_2_method_18_code
def yX0_greatestColour : MethodName := ⟨RX0, "greatestColour", "(II)I"⟩
abbrev cX0_tallyInto : ByteArray := prog_2_method_19_code
def yX0_tallyInto : MethodName := ⟨RX0, "tallyInto", "([III)V"⟩
abbrev cX0_mostOfOne : ByteArray := prog_2_method_20_code
def yX0_mostOfOne : MethodName := ⟨RX0, "mostOfOne", "(II)I"⟩
abbrev cX0_apart : ByteArray := prog_2_method_21_code
def yX0_apart : MethodName := ⟨RX0, "apart", "(II)I"⟩
abbrev cX0_wordAt : ByteArray := prog_2_method_22_code
def yX0_wordAt : MethodName := ⟨RX0, "wordAt", "(IIII)I"⟩
abbrev cX0_placesOf : ByteArray := prog_2_method_23_code
def yX0_placesOf : MethodName := ⟨RX0, "placesOf", "(IIII)I"⟩
def RX1 : String := "BeadRings$Clues"
def TX1 : u_T := fun k => match k with
  | 0 => ("BeadRings$Clues", "firsts", "[I", true)
  | 1 => ("BeadRings$Clues", "seconds", "[I", true)
  | _ => ("BeadRings$Clues", "size", "I", false)
def tyX1 : Nat → FieldType := fun k => match k with
  | 0 => .array .int
  | 1 => .array .int
  | _ => .int
abbrev wsX10 : List Cond := u_ws RX1 TX1 3
theorem nmX1 : ∀ a, a < 3 → ∀ b, b < 3 → a ≠ b → (TX1 a).2.1 ≠ (TX1 b).2.1 := by decide +kernel
theorem tyX1_ok : ∀ k, k < 3 → parseFieldDescriptor (TX1 k).2.2.1 = some (tyX1 k) := by decide +kernel
abbrev cX1_init : ByteArray := prog_3_method_1_code
def yX1_init : MethodName := ⟨RX1, "<init>", "(I)V"⟩
abbrev cX1_add : ByteArray := prog_3_method_2_code
def yX1_add : MethodName := ⟨RX1, "add", "(II)I"⟩
abbrev cX1_empty : ByteArray := prog_3_method_3_code
def yX1_empty : MethodName := ⟨RX1, "empty", "()I"⟩
abbrev cX1_canBeFelt : ByteArray := prog_3_method_4_code
def yX1_canBeFelt : MethodName := ⟨RX1, "canBeFelt", "(II)Z"⟩
abbrev cX1_rollsLeft : ByteArray := prog_3_method_5_code
def yX1_rollsLeft : MethodName := ⟨RX1, "rollsLeft", "(II)I"⟩
abbrev cX1_isAllFelt : ByteArray := prog_3_method_6_code
def yX1_isAllFelt : MethodName := ⟨RX1, "isAllFelt", "(II)Z"⟩
abbrev cX1_mostLeft : ByteArray := prog_3_method_7_code
def yX1_mostLeft : MethodName := ⟨RX1, "mostLeft", "(IIII)I"⟩
abbrev cX1_canBeHeard : ByteArray := prog_3_method_8_code
def yX1_canBeHeard : MethodName := ⟨RX1, "canBeHeard", "(II)Z"⟩
abbrev cX1_fitting : ByteArray := prog_3_method_9_code
def yX1_fitting : MethodName := ⟨RX1, "fitting", "(LBeadRings$Stall;)I"⟩
abbrev cX1_suiting : ByteArray := prog_3_method_10_code
def yX1_suiting : MethodName := ⟨RX1, "suiting", "(LBeadRings$Stall;II)I"⟩
abbrev cX1_isSo : ByteArray := prog_3_method_11_code
def yX1_isSo : MethodName := ⟨RX1, "isSo", "(IIII)Z"⟩
def RX2 : String := "BeadRings$Counts"
def TX2 : u_T := fun k => match k with
  | _ => ("", "", "", false)
def tyX2 : Nat → FieldType := fun k => match k with
  | _ => .int
abbrev wsX20 : List Cond := u_ws RX2 TX2 0
theorem nmX2 : ∀ a, a < 0 → ∀ b, b < 0 → a ≠ b → (TX2 a).2.1 ≠ (TX2 b).2.1 := by decide +kernel
theorem tyX2_ok : ∀ k, k < 0 → parseFieldDescriptor (TX2 k).2.2.1 = some (tyX2 k) := by decide +kernel
abbrev cX2_power : ByteArray := prog_4_method_2_code
def yX2_power : MethodName := ⟨RX2, "power", "(II)I"⟩
abbrev cX2_commonDivisor : ByteArray := prog_4_method_3_code
def yX2_commonDivisor : MethodName := ⟨RX2, "commonDivisor", "(II)I"⟩
abbrev cX2_beadsThatStay : ByteArray := prog_4_method_4_code
def yX2_beadsThatStay : MethodName := ⟨RX2, "beadsThatStay", "(II)I"⟩
abbrev cX2_keptByRolls : ByteArray := prog_4_method_5_code
def yX2_keptByRolls : MethodName := ⟨RX2, "keptByRolls", "(II)I"⟩
abbrev cX2_keptByFlips : ByteArray := prog_4_method_6_code
def yX2_keptByFlips : MethodName := ⟨RX2, "keptByFlips", "(II)I"⟩
abbrev cX2_rowsThatNoRollKeeps : ByteArray := prog_4_method_7_code
def yX2_rowsThatNoRollKeeps : MethodName := ⟨RX2, "rowsThatNoRollKeeps", "(II)I"⟩
abbrev cX2_toldKeptByRolls : ByteArray := prog_4_method_8_code
def yX2_toldKeptByRolls : MethodName := ⟨RX2, "toldKeptByRolls", "([II)I"⟩
abbrev cX2_toldKeptByFlips : ByteArray := prog_4_method_9_code
def yX2_toldKeptByFlips : MethodName := ⟨RX2, "toldKeptByFlips", "([II)I"⟩
abbrev cX2_pairedRows : ByteArray := prog_4_method_10_code
def yX2_pairedRows : MethodName := ⟨RX2, "pairedRows", "([II)I"⟩
abbrev cX2_rowsOf : ByteArray := prog_4_method_11_code
def yX2_rowsOf : MethodName := ⟨RX2, "rowsOf", "([II)I"⟩
abbrev cX2_factorial : ByteArray := prog_4_method_12_code
def yX2_factorial : MethodName := ⟨RX2, "factorial", "(I)I"⟩
def RX3 : String := "BeadRings$Day"
def TX3 : u_T := fun k => match k with
  | _ => ("", "", "", false)
def tyX3 : Nat → FieldType := fun k => match k with
  | _ => .int
abbrev wsX30 : List Cond := u_ws RX3 TX3 0
theorem nmX3 : ∀ a, a < 0 → ∀ b, b < 0 → a ≠ b → (TX3 a).2.1 ≠ (TX3 b).2.1 := by decide +kernel
theorem tyX3_ok : ∀ k, k < 0 → parseFieldDescriptor (TX3 k).2.2.1 = some (tyX3 k) := by decide +kernel
abbrev cX3_fault : ByteArray := prog_5_method_2_code
def yX3_fault : MethodName := ⟨RX3, "fault", "(LBeadRings$Text;)I"⟩
abbrev cX3_form : ByteArray := prog_5_method_3_code
def yX3_form : MethodName := ⟨RX3, "form", "(C)Ljava/lang/String;"⟩
abbrev cX3_suits : ByteArray := prog_5_method_4_code
def yX3_suits : MethodName := ⟨RX3, "suits", "(CC)Z"⟩
abbrev cX3_told : ByteArray := prog_5_method_5_code
def yX3_told : MethodName := ⟨RX3, "told", "(C)I"⟩
abbrev cX3_act : ByteArray := prog_5_method_6_code
def yX3_act : MethodName := ⟨RX3, "act", "(LBeadRings$Text;ILBeadRings$Stall;LBeadRings$Rule;)I"⟩
def RX4 : String := "BeadRings$KindLists"
def TX4 : u_T := fun k => match k with
  | 0 => ("BeadRings$KindLists", "rows", "[I", true)
  | 1 => ("BeadRings$KindLists", "isListed", "[Z", true)
  | _ => ("BeadRings$KindLists", "filled", "I", false)
def tyX4 : Nat → FieldType := fun k => match k with
  | 0 => .array .int
  | 1 => .array .boolean
  | _ => .int
abbrev wsX40 : List Cond := u_ws RX4 TX4 3
theorem nmX4 : ∀ a, a < 3 → ∀ b, b < 3 → a ≠ b → (TX4 a).2.1 ≠ (TX4 b).2.1 := by decide +kernel
theorem tyX4_ok : ∀ k, k < 3 → parseFieldDescriptor (TX4 k).2.2.1 = some (tyX4 k) := by decide +kernel
abbrev cX4_init : ByteArray := prog_6_method_1_code
def yX4_init : MethodName := ⟨RX4, "<init>", "()V"⟩
abbrev cX4_lacks : ByteArray := prog_6_method_2_code
def yX4_lacks : MethodName := ⟨RX4, "lacks", "(I)Z"⟩
abbrev cX4_number : ByteArray := prog_6_method_3_code
def yX4_number : MethodName := ⟨RX4, "number", "(I)I"⟩
abbrev cX4_kind : ByteArray := prog_6_method_4_code
def yX4_kind : MethodName := ⟨RX4, "kind", "(II)I"⟩
abbrev cX4_grow : ByteArray := prog_6_method_5_code
def yX4_grow : MethodName := ⟨RX4, "grow", "(IIII)V"⟩
abbrev cX4_kindAt : ByteArray := prog_6_method_6_code
def yX4_kindAt : MethodName := ⟨RX4, "kindAt", "(III)I"⟩
abbrev cX4_kindsAhead : ByteArray := prog_6_method_7_code
def yX4_kindsAhead : MethodName := ⟨RX4, "kindsAhead", "(II)I"⟩
abbrev cX4_kindBehind : ByteArray := prog_6_method_8_code
def yX4_kindBehind : MethodName := ⟨RX4, "kindBehind", "(II)I"⟩
def RX5 : String := "BeadRings$Past"
def TX5 : u_T := fun k => match k with
  | 0 => ("BeadRings$Past", "slots", "[LBeadRings$Stall;", true)
  | 1 => ("BeadRings$Past", "kept", "[LBeadRings$Stall;", true)
  | 2 => ("BeadRings$Past", "isKept", "[Z", true)
  | 3 => ("BeadRings$Past", "marked", "I", false)
  | _ => ("BeadRings$Past", "number", "I", false)
def tyX5 : Nat → FieldType := fun k => match k with
  | 0 => .array (.object "BeadRings$Stall")
  | 1 => .array (.object "BeadRings$Stall")
  | 2 => .array .boolean
  | 3 => .int
  | _ => .int
abbrev wsX50 : List Cond := u_ws RX5 TX5 5
theorem nmX5 : ∀ a, a < 5 → ∀ b, b < 5 → a ≠ b → (TX5 a).2.1 ≠ (TX5 b).2.1 := by decide +kernel
theorem tyX5_ok : ∀ k, k < 5 → parseFieldDescriptor (TX5 k).2.2.1 = some (tyX5 k) := by decide +kernel
abbrev cX5_init : ByteArray := prog_7_method_1_code
def yX5_init : MethodName := ⟨RX5, "<init>", "()V"⟩
abbrev cX5_mark : ByteArray := prog_7_method_2_code
def yX5_mark : MethodName := ⟨RX5, "mark", "(LBeadRings$Stall;)V"⟩
abbrev cX5_settle : ByteArray := prog_7_method_3_code
def yX5_settle : MethodName := ⟨RX5, "settle", "(I)I"⟩
abbrev cX5_bringBack : ByteArray := prog_7_method_4_code
def yX5_bringBack : MethodName := ⟨RX5, "bringBack", "(LBeadRings$Stall;)I"⟩
abbrev cX5_keepUnder : ByteArray := prog_7_method_5_code
def yX5_keepUnder : MethodName := ⟨RX5, "keepUnder", "(ILBeadRings$Stall;)Z"⟩
abbrev cX5_takeKept : ByteArray := prog_7_method_6_code
def yX5_takeKept : MethodName := ⟨RX5, "takeKept", "(ILBeadRings$Stall;)Z"⟩
def RX6 : String := "BeadRings$Rule"
def TX6 : u_T := fun k => match k with
  | 0 => ("BeadRings$Rule", "steps", "[I", true)
  | 1 => ("BeadRings$Rule", "stack", "[I", true)
  | 2 => ("BeadRings$Rule", "waiting", "[C", true)
  | 3 => ("BeadRings$Rule", "stepNumber", "I", false)
  | 4 => ("BeadRings$Rule", "waitingNumber", "I", false)
  | 5 => ("BeadRings$Rule", "depth", "I", false)
  | 6 => ("BeadRings$Rule", "digits", "I", false)
  | 7 => ("BeadRings$Rule", "comparedDepths", "I", false)
  | _ => ("BeadRings$Rule", "wantsThing", "Z", false)
def tyX6 : Nat → FieldType := fun k => match k with
  | 0 => .array .int
  | 1 => .array .int
  | 2 => .array .char
  | 3 => .int
  | 4 => .int
  | 5 => .int
  | 6 => .int
  | 7 => .int
  | _ => .boolean
abbrev wsX60 : List Cond := u_ws RX6 TX6 9
theorem nmX6 : ∀ a, a < 9 → ∀ b, b < 9 → a ≠ b → (TX6 a).2.1 ≠ (TX6 b).2.1 := by decide +kernel
theorem tyX6_ok : ∀ k, k < 9 → parseFieldDescriptor (TX6 k).2.2.1 = some (tyX6 k) := by decide +kernel
abbrev cX6_init : ByteArray := prog_8_method_1_code
def yX6_init : MethodName := ⟨RX6, "<init>", "()V"⟩
abbrev cX6_read : ByteArray := prog_8_method_2_code
def yX6_read : MethodName := ⟨RX6, "read", "(LBeadRings$Text;)I"⟩
abbrev cX6_takes : ByteArray := prog_8_method_3_code
def yX6_takes : MethodName := ⟨RX6, "takes", "(C)Z"⟩
abbrev cX6_takesDigit : ByteArray := prog_8_method_4_code
def yX6_takesDigit : MethodName := ⟨RX6, "takesDigit", "(I)Z"⟩
abbrev cX6_takesThing : ByteArray := prog_8_method_5_code
def yX6_takesThing : MethodName := ⟨RX6, "takesThing", "(C)Z"⟩
abbrev cX6_takesOperator : ByteArray := prog_8_method_6_code
def yX6_takesOperator : MethodName := ⟨RX6, "takesOperator", "(C)Z"⟩
abbrev cX6_settleDownTo : ByteArray := prog_8_method_7_code
def yX6_settleDownTo : MethodName := ⟨RX6, "settleDownTo", "(I)V"⟩
abbrev cX6_addStep : ByteArray := prog_8_method_8_code
def yX6_addStep : MethodName := ⟨RX6, "addStep", "(I)V"⟩
abbrev cX6_addWaiting : ByteArray := prog_8_method_9_code
def yX6_addWaiting : MethodName := ⟨RX6, "addWaiting", "(C)V"⟩
abbrev cX6_binding : ByteArray := prog_8_method_10_code
def yX6_binding : MethodName := ⟨RX6, "binding", "(C)I"⟩
abbrev cX6_isTrait : ByteArray := prog_8_method_11_code
def yX6_isTrait : MethodName := ⟨RX6, "isTrait", "(I)Z"⟩
abbrev cX6_price : ByteArray := prog_8_method_12_code
def yX6_price : MethodName := ⟨RX6, "price", "(III)I"⟩
abbrev cX6_trait : ByteArray := prog_8_method_13_code
def yX6_trait : MethodName := ⟨RX6, "trait", "(IIII)I"⟩
abbrev cX6_joined : ByteArray := prog_8_method_14_code
def yX6_joined : MethodName := ⟨RX6, "joined", "(III)I"⟩
def RX7 : String := "BeadRings$Stall"
def TX7 : u_T := fun k => match k with
  | 0 => ("BeadRings$Stall", "rows", "[I", true)
  | 1 => ("BeadRings$Stall", "sizes", "[I", true)
  | 2 => ("BeadRings$Stall", "stocked", "[I", true)
  | 3 => ("BeadRings$Stall", "number", "I", false)
  | _ => ("BeadRings$Stall", "purse", "I", false)
def tyX7 : Nat → FieldType := fun k => match k with
  | 0 => .array .int
  | 1 => .array .int
  | 2 => .array .int
  | 3 => .int
  | _ => .int
abbrev wsX70 : List Cond := u_ws RX7 TX7 5
theorem nmX7 : ∀ a, a < 5 → ∀ b, b < 5 → a ≠ b → (TX7 a).2.1 ≠ (TX7 b).2.1 := by decide +kernel
theorem tyX7_ok : ∀ k, k < 5 → parseFieldDescriptor (TX7 k).2.2.1 = some (tyX7 k) := by decide +kernel
abbrev cX7_init : ByteArray := prog_9_method_1_code
def yX7_init : MethodName := ⟨RX7, "<init>", "()V"⟩
abbrev cX7_copyFrom : ByteArray := prog_9_method_2_code
def yX7_copyFrom : MethodName := ⟨RX7, "copyFrom", "(LBeadRings$Stall;)V"⟩
abbrev cX7_lacks : ByteArray := prog_9_method_3_code
def yX7_lacks : MethodName := ⟨RX7, "lacks", "(I)Z"⟩
abbrev cX7_lacksBead : ByteArray := prog_9_method_4_code
def yX7_lacksBead : MethodName := ⟨RX7, "lacksBead", "(II)Z"⟩
abbrev cX7_hasBeadsFor : ByteArray := prog_9_method_5_code
def yX7_hasBeadsFor : MethodName := ⟨RX7, "hasBeadsFor", "(II)Z"⟩
abbrev cX7_putBack : ByteArray := prog_9_method_6_code
def yX7_putBack : MethodName := ⟨RX7, "putBack", "(II)V"⟩
abbrev cX7_stockFrom : ByteArray := prog_9_method_7_code
def yX7_stockFrom : MethodName := ⟨RX7, "stockFrom", "(IIII)V"⟩
abbrev cX7_string : ByteArray := prog_9_method_8_code
def yX7_string : MethodName := ⟨RX7, "string", "(II)I"⟩
abbrev cX7_roll : ByteArray := prog_9_method_9_code
def yX7_roll : MethodName := ⟨RX7, "roll", "(II)I"⟩
abbrev cX7_flip : ByteArray := prog_9_method_10_code
def yX7_flip : MethodName := ⟨RX7, "flip", "(I)I"⟩
abbrev cX7_swap : ByteArray := prog_9_method_11_code
def yX7_swap : MethodName := ⟨RX7, "swap", "(II)I"⟩
abbrev cX7_thread : ByteArray := prog_9_method_12_code
def yX7_thread : MethodName := ⟨RX7, "thread", "(III)I"⟩
abbrev cX7_cut : ByteArray := prog_9_method_13_code
def yX7_cut : MethodName := ⟨RX7, "cut", "(II)I"⟩
abbrev cX7_join : ByteArray := prog_9_method_14_code
def yX7_join : MethodName := ⟨RX7, "join", "(II)I"⟩
abbrev cX7_part : ByteArray := prog_9_method_15_code
def yX7_part : MethodName := ⟨RX7, "part", "(I)I"⟩
abbrev cX7_sell : ByteArray := prog_9_method_16_code
def yX7_sell : MethodName := ⟨RX7, "sell", "(ILBeadRings$Rule;)I"⟩
abbrev cX7_buy : ByteArray := prog_9_method_17_code
def yX7_buy : MethodName := ⟨RX7, "buy", "(II)I"⟩
abbrev cX7_drop : ByteArray := prog_9_method_18_code
def yX7_drop : MethodName := ⟨RX7, "drop", "(I)V"⟩
abbrev cX7_leastRow : ByteArray := prog_9_method_19_code
def yX7_leastRow : MethodName := ⟨RX7, "leastRow", "(I)I"⟩
abbrev cX7_othersAlike : ByteArray := prog_9_method_20_code
def yX7_othersAlike : MethodName := ⟨RX7, "othersAlike", "(I)I"⟩
abbrev cX7_firstAlike : ByteArray := prog_9_method_21_code
def yX7_firstAlike : MethodName := ⟨RX7, "firstAlike", "(I)I"⟩
abbrev cX7_kindNumber : ByteArray := prog_9_method_22_code
def yX7_kindNumber : MethodName := ⟨RX7, "kindNumber", "()I"⟩
abbrev cX7_priceOf : ByteArray := prog_9_method_23_code
def yX7_priceOf : MethodName := ⟨RX7, "priceOf", "(ILBeadRings$Rule;)I"⟩
abbrev cX7_pricesOfAll : ByteArray := prog_9_method_24_code
def yX7_pricesOfAll : MethodName := ⟨RX7, "pricesOfAll", "(LBeadRings$Rule;)I"⟩
abbrev cX7_beadsOfAll : ByteArray := prog_9_method_25_code
def yX7_beadsOfAll : MethodName := ⟨RX7, "beadsOfAll", "()I"⟩
abbrev cX7_stockOfAll : ByteArray := prog_9_method_26_code
def yX7_stockOfAll : MethodName := ⟨RX7, "stockOfAll", "()I"⟩
def RX8 : String := "BeadRings$Text"
def TX8 : u_T := fun k => match k with
  | 0 => ("BeadRings$Text", "signs", "[C", true)
  | 1 => ("BeadRings$Text", "length", "I", false)
  | 2 => ("BeadRings$Text", "word", "I", false)
  | _ => ("BeadRings$Text", "wordSize", "I", false)
def tyX8 : Nat → FieldType := fun k => match k with
  | 0 => .array .char
  | 1 => .int
  | 2 => .int
  | _ => .int
abbrev wsX80 : List Cond := u_ws RX8 TX8 4
theorem nmX8 : ∀ a, a < 4 → ∀ b, b < 4 → a ≠ b → (TX8 a).2.1 ≠ (TX8 b).2.1 := by decide +kernel
theorem tyX8_ok : ∀ k, k < 4 → parseFieldDescriptor (TX8 k).2.2.1 = some (tyX8 k) := by decide +kernel
abbrev cX8_init : ByteArray := prog_10_method_1_code
def yX8_init : MethodName := ⟨RX8, "<init>", "()V"⟩
abbrev cX8_size : ByteArray := prog_10_method_2_code
def yX8_size : MethodName := ⟨RX8, "size", "()I"⟩
abbrev cX8_signAt : ByteArray := prog_10_method_3_code
def yX8_signAt : MethodName := ⟨RX8, "signAt", "(I)C"⟩
abbrev cX8_append : ByteArray := prog_10_method_4_code
def yX8_append : MethodName := ⟨RX8, "append", "(I)I"⟩
abbrev cX8_shorten : ByteArray := prog_10_method_5_code
def yX8_shorten : MethodName := ⟨RX8, "shorten", "(I)Z"⟩
abbrev cX8_empty : ByteArray := prog_10_method_6_code
def yX8_empty : MethodName := ⟨RX8, "empty", "()V"⟩
abbrev cX8_takeWord : ByteArray := prog_10_method_7_code
def yX8_takeWord : MethodName := ⟨RX8, "takeWord", "()I"⟩
def RX9 : String := "BeadRings$Told"
def TX9 : u_T := fun k => match k with
  | 0 => ("BeadRings$Told", "numbers", "[I", true)
  | _ => ("BeadRings$Told", "size", "I", false)
def tyX9 : Nat → FieldType := fun k => match k with
  | 0 => .array .int
  | _ => .int
abbrev wsX90 : List Cond := u_ws RX9 TX9 2
theorem nmX9 : ∀ a, a < 2 → ∀ b, b < 2 → a ≠ b → (TX9 a).2.1 ≠ (TX9 b).2.1 := by decide +kernel
theorem tyX9_ok : ∀ k, k < 2 → parseFieldDescriptor (TX9 k).2.2.1 = some (tyX9 k) := by decide +kernel
abbrev cX9_init : ByteArray := prog_11_method_1_code
def yX9_init : MethodName := ⟨RX9, "<init>", "()V"⟩
abbrev cX9_begin : ByteArray := prog_11_method_2_code
def yX9_begin : MethodName := ⟨RX9, "begin", "()V"⟩
abbrev cX9_add : ByteArray := prog_11_method_3_code
def yX9_add : MethodName := ⟨RX9, "add", "(I)V"⟩
abbrev cX9_addRow : ByteArray := prog_11_method_4_code
def yX9_addRow : MethodName := ⟨RX9, "addRow", "(II)V"⟩
def RX10 : String := "BeadRings"
def TX10 : u_T := fun k => match k with
  | 0 => ("BeadRings", "stall", "LBeadRings$Stall;", true)
  | 1 => ("BeadRings", "drawnStall", "LBeadRings$Stall;", true)
  | 2 => ("BeadRings", "past", "LBeadRings$Past;", true)
  | 3 => ("BeadRings", "text", "LBeadRings$Text;", true)
  | 4 => ("BeadRings", "told", "LBeadRings$Told;", true)
  | 5 => ("BeadRings", "lists", "LBeadRings$KindLists;", true)
  | 6 => ("BeadRings", "feltBeads", "LBeadRings$Clues;", true)
  | 7 => ("BeadRings", "hearsay", "LBeadRings$Clues;", true)
  | 8 => ("BeadRings", "tally", "[I", true)
  | 9 => ("BeadRings", "leastRows", "[I", true)
  | 10 => ("BeadRings", "inForce", "LBeadRings$Rule;", false)
  | 11 => ("BeadRings", "draft", "LBeadRings$Rule;", false)
  | _ => ("BeadRings", "drawn", "I", false)
def tyX10 : Nat → FieldType := fun k => match k with
  | 0 => .object "BeadRings$Stall"
  | 1 => .object "BeadRings$Stall"
  | 2 => .object "BeadRings$Past"
  | 3 => .object "BeadRings$Text"
  | 4 => .object "BeadRings$Told"
  | 5 => .object "BeadRings$KindLists"
  | 6 => .object "BeadRings$Clues"
  | 7 => .object "BeadRings$Clues"
  | 8 => .array .int
  | 9 => .array .int
  | 10 => .object "BeadRings$Rule"
  | 11 => .object "BeadRings$Rule"
  | _ => .int
abbrev wsX100 : List Cond := u_ws RX10 TX10 13
theorem nmX10 : ∀ a, a < 13 → ∀ b, b < 13 → a ≠ b → (TX10 a).2.1 ≠ (TX10 b).2.1 := by decide +kernel
theorem tyX10_ok : ∀ k, k < 13 → parseFieldDescriptor (TX10 k).2.2.1 = some (tyX10 k) := by decide +kernel
abbrev cX10_init : ByteArray := prog_1_method_1_code
def yX10_init : MethodName := ⟨RX10, "<init>", "()V"⟩
abbrev cX10_sign : ByteArray := prog_1_method_2_code
def yX10_sign : MethodName := ⟨RX10, "sign", "(I)I"⟩
abbrev cX10_end : ByteArray := prog_1_method_3_code
def yX10_end : MethodName := ⟨RX10, "end", "(I)Z"⟩
abbrev cX10_strings : ByteArray := prog_1_method_4_code
def yX10_strings : MethodName := ⟨RX10, "strings", "()I"⟩
abbrev cX10_rule : ByteArray := prog_1_method_5_code
def yX10_rule : MethodName := ⟨RX10, "rule", "()I"⟩
abbrev cX10_bracelet : ByteArray := prog_1_method_6_code
def yX10_bracelet : MethodName := ⟨RX10, "bracelet", "(II)I"⟩
abbrev cX10_bead : ByteArray := prog_1_method_7_code
def yX10_bead : MethodName := ⟨RX10, "bead", "(II)I"⟩
abbrev cX10_stock : ByteArray := prog_1_method_8_code
def yX10_stock : MethodName := ⟨RX10, "stock", "(I)I"⟩
abbrev cX10_sheet : ByteArray := prog_1_method_9_code
def yX10_sheet : MethodName := ⟨RX10, "sheet", "(IIII)I"⟩
abbrev cX10_rolls : ByteArray := prog_1_method_10_code
def yX10_rolls : MethodName := ⟨RX10, "rolls", "(II)I"⟩
abbrev cX10_flips : ByteArray := prog_1_method_11_code
def yX10_flips : MethodName := ⟨RX10, "flips", "(I)I"⟩
abbrev cX10_swaps : ByteArray := prog_1_method_12_code
def yX10_swaps : MethodName := ⟨RX10, "swaps", "(II)I"⟩
abbrev cX10_threads : ByteArray := prog_1_method_13_code
def yX10_threads : MethodName := ⟨RX10, "threads", "(III)I"⟩
abbrev cX10_cuts : ByteArray := prog_1_method_14_code
def yX10_cuts : MethodName := ⟨RX10, "cuts", "(II)I"⟩
abbrev cX10_joins : ByteArray := prog_1_method_15_code
def yX10_joins : MethodName := ⟨RX10, "joins", "(II)I"⟩
abbrev cX10_parts : ByteArray := prog_1_method_16_code
def yX10_parts : MethodName := ⟨RX10, "parts", "(I)I"⟩
abbrev cX10_sells : ByteArray := prog_1_method_17_code
def yX10_sells : MethodName := ⟨RX10, "sells", "(I)I"⟩
abbrev cX10_buys : ByteArray := prog_1_method_18_code
def yX10_buys : MethodName := ⟨RX10, "buys", "(II)I"⟩
abbrev cX10_day : ByteArray := prog_1_method_19_code
def yX10_day : MethodName := ⟨RX10, "day", "()I"⟩
abbrev cX10_undo : ByteArray := prog_1_method_20_code
def yX10_undo : MethodName := ⟨RX10, "undo", "()I"⟩
abbrev cX10_least : ByteArray := prog_1_method_21_code
def yX10_least : MethodName := ⟨RX10, "least", "(I)I"⟩
abbrev cX10_alike : ByteArray := prog_1_method_22_code
def yX10_alike : MethodName := ⟨RX10, "alike", "(II)I"⟩
abbrev cX10_kinds : ByteArray := prog_1_method_23_code
def yX10_kinds : MethodName := ⟨RX10, "kinds", "()I"⟩
abbrev cX10_far : ByteArray := prog_1_method_24_code
def yX10_far : MethodName := ⟨RX10, "far", "(II)I"⟩
abbrev cX10_finds : ByteArray := prog_1_method_25_code
def yX10_finds : MethodName := ⟨RX10, "finds", "(I)I"⟩
abbrev cX10_words : ByteArray := prog_1_method_26_code
def yX10_words : MethodName := ⟨RX10, "words", "(II)I"⟩
abbrev cX10_twice : ByteArray := prog_1_method_27_code
def yX10_twice : MethodName := ⟨RX10, "twice", "(I)I"⟩
abbrev cX10_arc : ByteArray := prog_1_method_28_code
def yX10_arc : MethodName := ⟨RX10, "arc", "(I)I"⟩
abbrev cX10_many : ByteArray := prog_1_method_29_code
def yX10_many : MethodName := ⟨RX10, "many", "(II)I"⟩
abbrev cX10_ways : ByteArray := prog_1_method_30_code
def yX10_ways : MethodName := ⟨RX10, "ways", "()I"⟩
abbrev cX10_nth : ByteArray := prog_1_method_31_code
def yX10_nth : MethodName := ⟨RX10, "nth", "(III)I"⟩
abbrev cX10_rank : ByteArray := prog_1_method_32_code
def yX10_rank : MethodName := ⟨RX10, "rank", "(I)I"⟩
abbrev cX10_next : ByteArray := prog_1_method_33_code
def yX10_next : MethodName := ⟨RX10, "next", "(I)I"⟩
abbrev cX10_once : ByteArray := prog_1_method_34_code
def yX10_once : MethodName := ⟨RX10, "once", "(II)I"⟩
abbrev cX10_made : ByteArray := prog_1_method_35_code
def yX10_made : MethodName := ⟨RX10, "made", "(I)I"⟩
abbrev cX10_dear : ByteArray := prog_1_method_36_code
def yX10_dear : MethodName := ⟨RX10, "dear", "(I)I"⟩
abbrev cX10_odds : ByteArray := prog_1_method_37_code
def yX10_odds : MethodName := ⟨RX10, "odds", "(I)I"⟩
abbrev cX10_felt : ByteArray := prog_1_method_38_code
def yX10_felt : MethodName := ⟨RX10, "felt", "(II)I"⟩
abbrev cX10_forget : ByteArray := prog_1_method_39_code
def yX10_forget : MethodName := ⟨RX10, "forget", "()I"⟩
abbrev cX10_guess : ByteArray := prog_1_method_40_code
def yX10_guess : MethodName := ⟨RX10, "guess", "(I)I"⟩
abbrev cX10_feels : ByteArray := prog_1_method_41_code
def yX10_feels : MethodName := ⟨RX10, "feels", "(I)I"⟩
abbrev cX10_heard : ByteArray := prog_1_method_42_code
def yX10_heard : MethodName := ⟨RX10, "heard", "(II)I"⟩
abbrev cX10_denies : ByteArray := prog_1_method_43_code
def yX10_denies : MethodName := ⟨RX10, "denies", "()I"⟩
abbrev cX10_fits : ByteArray := prog_1_method_44_code
def yX10_fits : MethodName := ⟨RX10, "fits", "()I"⟩
abbrev cX10_asks : ByteArray := prog_1_method_45_code
def yX10_asks : MethodName := ⟨RX10, "asks", "()I"⟩
abbrev cX10_ring : ByteArray := prog_1_method_46_code
def yX10_ring : MethodName := ⟨RX10, "ring", "(I)I"⟩
abbrev cX10_law : ByteArray := prog_1_method_47_code
def yX10_law : MethodName := ⟨RX10, "law", "()I"⟩
abbrev cX10_bargains : ByteArray := prog_1_method_48_code
def yX10_bargains : MethodName := ⟨RX10, "bargains", "(I)I"⟩
abbrev cX10_years : ByteArray := prog_1_method_49_code
def yX10_years : MethodName := ⟨RX10, "years", "(II)I"⟩
abbrev cX10_keep : ByteArray := prog_1_method_50_code
def yX10_keep : MethodName := ⟨RX10, "keep", "(I)Z"⟩
abbrev cX10_again : ByteArray := prog_1_method_51_code
def yX10_again : MethodName := ⟨RX10, "again", "(I)Z"⟩
abbrev cX10_count : ByteArray := prog_1_method_52_code
def yX10_count : MethodName := ⟨RX10, "count", "(I)I"⟩
abbrev cX10_row : ByteArray := prog_1_method_53_code
def yX10_row : MethodName := ⟨RX10, "row", "(I)J"⟩
abbrev cX10_addOnce : ByteArray := prog_1_method_54_code
def yX10_addOnce : MethodName := ⟨RX10, "addOnce", "(IIIII)V"⟩
abbrev cX10_noteLeastRows : ByteArray := prog_1_method_55_code
def yX10_noteLeastRows : MethodName := ⟨RX10, "noteLeastRows", "(I)V"⟩
abbrev cX10_numberNoted : ByteArray := prog_1_method_56_code
def yX10_numberNoted : MethodName := ⟨RX10, "numberNoted", "(I)I"⟩
abbrev cX10_hasNoBetter : ByteArray := prog_1_method_57_code
def yX10_hasNoBetter : MethodName := ⟨RX10, "hasNoBetter", "(III)Z"⟩
abbrev cX10_share : ByteArray := prog_1_method_58_code
def yX10_share : MethodName := ⟨RX10, "share", "(III)I"⟩
abbrev cX10_passYear : ByteArray := prog_1_method_59_code
def yX10_passYear : MethodName := ⟨RX10, "passYear", "()V"⟩
abbrev cX10_draw : ByteArray := prog_1_method_60_code
def yX10_draw : MethodName := ⟨RX10, "draw", "(I)I"⟩
def RX11 : String := "BeadRingsModel"
def TX11 : u_T := fun k => match k with
  | 0 => ("BeadRingsModel", "thrown", "I", false)
  | 1 => ("BeadRingsModel", "told", "I", false)
  | 2 => ("BeadRingsModel", "row", "[J", true)
  | 3 => ("BeadRingsModel", "now", "[I", true)
  | 4 => ("BeadRingsModel", "then", "[I", true)
  | 5 => ("BeadRingsModel", "tape", "[I", true)
  | 6 => ("BeadRingsModel", "taped", "I", false)
  | 7 => ("BeadRingsModel", "at", "I", false)
  | 8 => ("BeadRingsModel", "to", "I", false)
  | 9 => ("BeadRingsModel", "nest", "I", false)
  | 10 => ("BeadRingsModel", "word", "[I", true)
  | 11 => ("BeadRingsModel", "wordLong", "I", false)
  | 12 => ("BeadRingsModel", "look", "[I", true)
  | 13 => ("BeadRingsModel", "lookLong", "I", false)
  | 14 => ("BeadRingsModel", "code", "[I", true)
  | 15 => ("BeadRingsModel", "readCode", "[I", true)
  | 16 => ("BeadRingsModel", "codeLong", "I", false)
  | 17 => ("BeadRingsModel", "codesRead", "I", false)
  | 18 => ("BeadRingsModel", "stack", "[I", true)
  | 19 => ("BeadRingsModel", "asked", "[I", true)
  | 20 => ("BeadRingsModel", "undos", "I", false)
  | 21 => ("BeadRingsModel", "undone", "[I", true)
  | 22 => ("BeadRingsModel", "spare", "[I", true)
  | 23 => ("BeadRingsModel", "actSign", "[I", true)
  | 24 => ("BeadRingsModel", "actOne", "[I", true)
  | 25 => ("BeadRingsModel", "actTwo", "[I", true)
  | 26 => ("BeadRingsModel", "actThree", "[I", true)
  | 27 => ("BeadRingsModel", "acts", "I", false)
  | 28 => ("BeadRingsModel", "content", "[I", true)
  | 29 => ("BeadRingsModel", "rankColours", "I", false)
  | 30 => ("BeadRingsModel", "rankNumber", "I", false)
  | 31 => ("BeadRingsModel", "around", "[I", true)
  | 32 => ("BeadRingsModel", "been", "[Z", true)
  | 33 => ("BeadRingsModel", "feltMany", "I", false)
  | 34 => ("BeadRingsModel", "feltBead", "[I", true)
  | 35 => ("BeadRingsModel", "feltColour", "[I", true)
  | 36 => ("BeadRingsModel", "heardMany", "I", false)
  | 37 => ("BeadRingsModel", "heardWhat", "[I", true)
  | 38 => ("BeadRingsModel", "heardOf", "[I", true)
  | 39 => ("BeadRingsModel", "worth", "[I", true)
  | 40 => ("BeadRingsModel", "isThere", "[Z", true)
  | 41 => ("BeadRingsModel", "wasCode", "[I", true)
  | 42 => ("BeadRingsModel", "random", "I", false)
  | 43 => ("BeadRingsModel", "isKept", "[Z", true)
  | _ => ("BeadRingsModel", "kept", "[I", true)
def tyX11 : Nat → FieldType := fun k => match k with
  | 0 => .int
  | 1 => .int
  | 2 => .array .long
  | 3 => .array .int
  | 4 => .array .int
  | 5 => .array .int
  | 6 => .int
  | 7 => .int
  | 8 => .int
  | 9 => .int
  | 10 => .array .int
  | 11 => .int
  | 12 => .array .int
  | 13 => .int
  | 14 => .array .int
  | 15 => .array .int
  | 16 => .int
  | 17 => .int
  | 18 => .array .int
  | 19 => .array .int
  | 20 => .int
  | 21 => .array .int
  | 22 => .array .int
  | 23 => .array .int
  | 24 => .array .int
  | 25 => .array .int
  | 26 => .array .int
  | 27 => .int
  | 28 => .array .int
  | 29 => .int
  | 30 => .int
  | 31 => .array .int
  | 32 => .array .boolean
  | 33 => .int
  | 34 => .array .int
  | 35 => .array .int
  | 36 => .int
  | 37 => .array .int
  | 38 => .array .int
  | 39 => .array .int
  | 40 => .array .boolean
  | 41 => .array .int
  | 42 => .int
  | 43 => .array .boolean
  | _ => .array .int
abbrev wsX110 : List Cond := u_ws RX11 TX11 45
theorem nmX11 : ∀ a, a < 45 → ∀ b, b < 45 → a ≠ b → (TX11 a).2.1 ≠ (TX11 b).2.1 := by decide +kernel
theorem tyX11_ok : ∀ k, k < 45 → parseFieldDescriptor (TX11 k).2.2.1 = some (tyX11 k) := by decide +kernel
abbrev cX11_thrown : ByteArray := prog_13_method_1_code
def yX11_thrown : MethodName := ⟨RX11, "thrown", "()I"⟩
abbrev cX11_refuse : ByteArray := prog_13_method_2_code
def yX11_refuse : MethodName := ⟨RX11, "refuse", "()I"⟩
abbrev cX11_in : ByteArray := prog_13_method_3_code
def yX11_in : MethodName := ⟨RX11, "in", "(JJJ)Z"⟩
abbrev cX11_has : ByteArray := prog_13_method_4_code
def yX11_has : MethodName := ⟨RX11, "has", "(II)Z"⟩
abbrev cX11_flag : ByteArray := prog_13_method_5_code
def yX11_flag : MethodName := ⟨RX11, "flag", "(Z)I"⟩
abbrev cX11_common : ByteArray := prog_13_method_6_code
def yX11_common : MethodName := ⟨RX11, "common", "(JJ)J"⟩
abbrev cX11_enters : ByteArray := prog_13_method_7_code
def yX11_enters : MethodName := ⟨RX11, "enters", "(J)V"⟩
abbrev cX11_entersFraction : ByteArray := prog_13_method_8_code
def yX11_entersFraction : MethodName := ⟨RX11, "entersFraction", "(JJ)I"⟩
abbrev cX11_init : ByteArray := prog_13_method_9_code
def yX11_init : MethodName := ⟨RX11, "<init>", "()V"⟩
abbrev cX11_isRing : ByteArray := prog_13_method_10_code
def yX11_isRing : MethodName := ⟨RX11, "isRing", "(I)Z"⟩
abbrev cX11_beadAt : ByteArray := prog_13_method_11_code
def yX11_beadAt : MethodName := ⟨RX11, "beadAt", "([III)I"⟩
abbrev cX11_stockOf : ByteArray := prog_13_method_12_code
def yX11_stockOf : MethodName := ⟨RX11, "stockOf", "([I)I"⟩
abbrev cX11_beadsOf : ByteArray := prog_13_method_13_code
def yX11_beadsOf : MethodName := ⟨RX11, "beadsOf", "([I)I"⟩
abbrev cX11_sign : ByteArray := prog_13_method_14_code
def yX11_sign : MethodName := ⟨RX11, "sign", "(I)I"⟩
abbrev cX11_end : ByteArray := prog_13_method_15_code
def yX11_end : MethodName := ⟨RX11, "end", "(I)Z"⟩
abbrev cX11_begins : ByteArray := prog_13_method_16_code
def yX11_begins : MethodName := ⟨RX11, "begins", "(I)I"⟩
abbrev cX11_takes : ByteArray := prog_13_method_17_code
def yX11_takes : MethodName := ⟨RX11, "takes", "(I)Z"⟩
abbrev cX11_isDigit : ByteArray := prog_13_method_18_code
def yX11_isDigit : MethodName := ⟨RX11, "isDigit", "()Z"⟩
abbrev cX11_takesOf : ByteArray := prog_13_method_19_code
def yX11_takesOf : MethodName := ⟨RX11, "takesOf", "(Ljava/lang/String;)I"⟩
abbrev cX11_number : ByteArray := prog_13_method_20_code
def yX11_number : MethodName := ⟨RX11, "number", "(I)I"⟩
abbrev cX11_digitIn : ByteArray := prog_13_method_21_code
def yX11_digitIn : MethodName := ⟨RX11, "digitIn", "(II)I"⟩
abbrev cX11_faultOf : ByteArray := prog_13_method_22_code
def yX11_faultOf : MethodName := ⟨RX11, "faultOf", "(IIZ)I"⟩
abbrev cX11_readsWord : ByteArray := prog_13_method_23_code
def yX11_readsWord : MethodName := ⟨RX11, "readsWord", "()I"⟩
abbrev cX11_ofWord : ByteArray := prog_13_method_24_code
def yX11_ofWord : MethodName := ⟨RX11, "ofWord", "(I)I"⟩
abbrev cX11_looksAt : ByteArray := prog_13_method_25_code
def yX11_looksAt : MethodName := ⟨RX11, "looksAt", "([II)V"⟩
abbrev cX11_turnedOf : ByteArray := prog_13_method_26_code
def yX11_turnedOf : MethodName := ⟨RX11, "turnedOf", "([IIII)I"⟩
abbrev cX11_tellsTurning : ByteArray := prog_13_method_27_code
def yX11_tellsTurning : MethodName := ⟨RX11, "tellsTurning", "(II)I"⟩
abbrev cX11_compares : ByteArray := prog_13_method_28_code
def yX11_compares : MethodName := ⟨RX11, "compares", "(II)I"⟩
abbrev cX11_leastTurning : ByteArray := prog_13_method_29_code
def yX11_leastTurning : MethodName := ⟨RX11, "leastTurning", "()I"⟩
abbrev cX11_isLeast : ByteArray := prog_13_method_30_code
def yX11_isLeast : MethodName := ⟨RX11, "isLeast", "()Z"⟩
abbrev cX11_entersLeast : ByteArray := prog_13_method_31_code
def yX11_entersLeast : MethodName := ⟨RX11, "entersLeast", "()V"⟩
abbrev cX11_ofLook : ByteArray := prog_13_method_32_code
def yX11_ofLook : MethodName := ⟨RX11, "ofLook", "(I)I"⟩
abbrev cX11_offBy : ByteArray := prog_13_method_33_code
def yX11_offBy : MethodName := ⟨RX11, "offBy", "([III)I"⟩
abbrev cX11_isAlike : ByteArray := prog_13_method_34_code
def yX11_isAlike : MethodName := ⟨RX11, "isAlike", "([II)Z"⟩
abbrev cX11_alikeMany : ByteArray := prog_13_method_35_code
def yX11_alikeMany : MethodName := ⟨RX11, "alikeMany", "([II)I"⟩
abbrev cX11_period : ByteArray := prog_13_method_36_code
def yX11_period : MethodName := ⟨RX11, "period", "()I"⟩
abbrev cX11_mirrors : ByteArray := prog_13_method_37_code
def yX11_mirrors : MethodName := ⟨RX11, "mirrors", "()I"⟩
abbrev cX11_mostOfOne : ByteArray := prog_13_method_38_code
def yX11_mostOfOne : MethodName := ⟨RX11, "mostOfOne", "()I"⟩
abbrev cX11_coloursOf : ByteArray := prog_13_method_39_code
def yX11_coloursOf : MethodName := ⟨RX11, "coloursOf", "()I"⟩
abbrev cX11_codes : ByteArray := prog_13_method_40_code
def yX11_codes : MethodName := ⟨RX11, "codes", "(I)V"⟩
abbrev cX11_readsThing : ByteArray := prog_13_method_41_code
def yX11_readsThing : MethodName := ⟨RX11, "readsThing", "()Z"⟩
abbrev cX11_readsRank : ByteArray := prog_13_method_42_code
def yX11_readsRank : MethodName := ⟨RX11, "readsRank", "(I)Z"⟩
abbrev cX11_readsRule : ByteArray := prog_13_method_43_code
def yX11_readsRule : MethodName := ⟨RX11, "readsRule", "()I"⟩
abbrev cX11_laysCode : ByteArray := prog_13_method_44_code
def yX11_laysCode : MethodName := ⟨RX11, "laysCode", "([II)V"⟩
abbrev cX11_rule : ByteArray := prog_13_method_45_code
def yX11_rule : MethodName := ⟨RX11, "rule", "()I"⟩
abbrev cX11_worked : ByteArray := prog_13_method_46_code
def yX11_worked : MethodName := ⟨RX11, "worked", "(III)I"⟩
abbrev cX11_ruled : ByteArray := prog_13_method_47_code
def yX11_ruled : MethodName := ⟨RX11, "ruled", "()I"⟩
abbrev cX11_priceOfLook : ByteArray := prog_13_method_48_code
def yX11_priceOfLook : MethodName := ⟨RX11, "priceOfLook", "([II)I"⟩
abbrev cX11_price : ByteArray := prog_13_method_49_code
def yX11_price : MethodName := ⟨RX11, "price", "([II)I"⟩
abbrev cX11_prices : ByteArray := prog_13_method_50_code
def yX11_prices : MethodName := ⟨RX11, "prices", "()I"⟩
abbrev cX11_bracelet : ByteArray := prog_13_method_51_code
def yX11_bracelet : MethodName := ⟨RX11, "bracelet", "(II)I"⟩
abbrev cX11_bead : ByteArray := prog_13_method_52_code
def yX11_bead : MethodName := ⟨RX11, "bead", "(II)I"⟩
abbrev cX11_stock : ByteArray := prog_13_method_53_code
def yX11_stock : MethodName := ⟨RX11, "stock", "(I)I"⟩
abbrev cX11_sheet : ByteArray := prog_13_method_54_code
def yX11_sheet : MethodName := ⟨RX11, "sheet", "(IIII)I"⟩
abbrev cX11_putsBy : ByteArray := prog_13_method_55_code
def yX11_putsBy : MethodName := ⟨RX11, "putsBy", "()V"⟩
abbrev cX11_adds : ByteArray := prog_13_method_56_code
def yX11_adds : MethodName := ⟨RX11, "adds", "(I)I"⟩
abbrev cX11_counted : ByteArray := prog_13_method_57_code
def yX11_counted : MethodName := ⟨RX11, "counted", "(I)I"⟩
abbrev cX11_undo : ByteArray := prog_13_method_58_code
def yX11_undo : MethodName := ⟨RX11, "undo", "()I"⟩
abbrev cX11_isOf : ByteArray := prog_13_method_59_code
def yX11_isOf : MethodName := ⟨RX11, "isOf", "([II)Z"⟩
abbrev cX11_laysBead : ByteArray := prog_13_method_60_code
def yX11_laysBead : MethodName := ⟨RX11, "laysBead", "([IIII)V"⟩
abbrev cX11_turnsOne : ByteArray := prog_13_method_61_code
def yX11_turnsOne : MethodName := ⟨RX11, "turnsOne", "([III)V"⟩
abbrev cX11_rollsOne : ByteArray := prog_13_method_62_code
def yX11_rollsOne : MethodName := ⟨RX11, "rollsOne", "([III)I"⟩
abbrev cX11_flipsOne : ByteArray := prog_13_method_63_code
def yX11_flipsOne : MethodName := ⟨RX11, "flipsOne", "([II)I"⟩
abbrev cX11_swapsOne : ByteArray := prog_13_method_64_code
def yX11_swapsOne : MethodName := ⟨RX11, "swapsOne", "([III)I"⟩
abbrev cX11_threadsOne : ByteArray := prog_13_method_65_code
def yX11_threadsOne : MethodName := ⟨RX11, "threadsOne", "([IIII)I"⟩
abbrev cX11_stores : ByteArray := prog_13_method_66_code
def yX11_stores : MethodName := ⟨RX11, "stores", "([II)V"⟩
abbrev cX11_cutsOne : ByteArray := prog_13_method_67_code
def yX11_cutsOne : MethodName := ⟨RX11, "cutsOne", "([III)I"⟩
abbrev cX11_goes : ByteArray := prog_13_method_68_code
def yX11_goes : MethodName := ⟨RX11, "goes", "([II)V"⟩
abbrev cX11_joinsOne : ByteArray := prog_13_method_69_code
def yX11_joinsOne : MethodName := ⟨RX11, "joinsOne", "([III)I"⟩
abbrev cX11_partsOne : ByteArray := prog_13_method_70_code
def yX11_partsOne : MethodName := ⟨RX11, "partsOne", "([II)I"⟩
abbrev cX11_sellsOne : ByteArray := prog_13_method_71_code
def yX11_sellsOne : MethodName := ⟨RX11, "sellsOne", "([II)I"⟩
abbrev cX11_buysOne : ByteArray := prog_13_method_72_code
def yX11_buysOne : MethodName := ⟨RX11, "buysOne", "([III)I"⟩
abbrev cX11_strings : ByteArray := prog_13_method_73_code
def yX11_strings : MethodName := ⟨RX11, "strings", "()I"⟩
abbrev cX11_rolls : ByteArray := prog_13_method_74_code
def yX11_rolls : MethodName := ⟨RX11, "rolls", "(II)I"⟩
abbrev cX11_flips : ByteArray := prog_13_method_75_code
def yX11_flips : MethodName := ⟨RX11, "flips", "(I)I"⟩
abbrev cX11_swaps : ByteArray := prog_13_method_76_code
def yX11_swaps : MethodName := ⟨RX11, "swaps", "(II)I"⟩
abbrev cX11_threads : ByteArray := prog_13_method_77_code
def yX11_threads : MethodName := ⟨RX11, "threads", "(III)I"⟩
abbrev cX11_cuts : ByteArray := prog_13_method_78_code
def yX11_cuts : MethodName := ⟨RX11, "cuts", "(II)I"⟩
abbrev cX11_joins : ByteArray := prog_13_method_79_code
def yX11_joins : MethodName := ⟨RX11, "joins", "(II)I"⟩
abbrev cX11_parts : ByteArray := prog_13_method_80_code
def yX11_parts : MethodName := ⟨RX11, "parts", "(I)I"⟩
abbrev cX11_sells : ByteArray := prog_13_method_81_code
def yX11_sells : MethodName := ⟨RX11, "sells", "(I)I"⟩
abbrev cX11_buys : ByteArray := prog_13_method_82_code
def yX11_buys : MethodName := ⟨RX11, "buys", "(II)I"⟩
abbrev cX11_readsAct : ByteArray := prog_13_method_83_code
def yX11_readsAct : MethodName := ⟨RX11, "readsAct", "()Z"⟩
abbrev cX11_does : ByteArray := prog_13_method_84_code
def yX11_does : MethodName := ⟨RX11, "does", "(I)Z"⟩
abbrev cX11_day : ByteArray := prog_13_method_85_code
def yX11_day : MethodName := ⟨RX11, "day", "()I"⟩
abbrev cX11_least : ByteArray := prog_13_method_86_code
def yX11_least : MethodName := ⟨RX11, "least", "(I)I"⟩
abbrev cX11_alike : ByteArray := prog_13_method_87_code
def yX11_alike : MethodName := ⟨RX11, "alike", "(II)I"⟩
abbrev cX11_firstAlike : ByteArray := prog_13_method_88_code
def yX11_firstAlike : MethodName := ⟨RX11, "firstAlike", "([II)I"⟩
abbrev cX11_kindsOf : ByteArray := prog_13_method_89_code
def yX11_kindsOf : MethodName := ⟨RX11, "kindsOf", "([I)I"⟩
abbrev cX11_kinds : ByteArray := prog_13_method_90_code
def yX11_kinds : MethodName := ⟨RX11, "kinds", "()I"⟩
abbrev cX11_far : ByteArray := prog_13_method_91_code
def yX11_far : MethodName := ⟨RX11, "far", "(II)I"⟩
abbrev cX11_finds : ByteArray := prog_13_method_92_code
def yX11_finds : MethodName := ⟨RX11, "finds", "(I)I"⟩
abbrev cX11_isWord : ByteArray := prog_13_method_93_code
def yX11_isWord : MethodName := ⟨RX11, "isWord", "(III)Z"⟩
abbrev cX11_words : ByteArray := prog_13_method_94_code
def yX11_words : MethodName := ⟨RX11, "words", "(II)I"⟩
abbrev cX11_twice : ByteArray := prog_13_method_95_code
def yX11_twice : MethodName := ⟨RX11, "twice", "(I)I"⟩
abbrev cX11_isSame : ByteArray := prog_13_method_96_code
def yX11_isSame : MethodName := ⟨RX11, "isSame", "(II)Z"⟩
abbrev cX11_arc : ByteArray := prog_13_method_97_code
def yX11_arc : MethodName := ⟨RX11, "arc", "(I)I"⟩
abbrev cX11_power : ByteArray := prog_13_method_98_code
def yX11_power : MethodName := ⟨RX11, "power", "(II)J"⟩
abbrev cX11_ringsOf : ByteArray := prog_13_method_99_code
def yX11_ringsOf : MethodName := ⟨RX11, "ringsOf", "(II)I"⟩
abbrev cX11_many : ByteArray := prog_13_method_100_code
def yX11_many : MethodName := ⟨RX11, "many", "(II)I"⟩
abbrev cX11_newRows : ByteArray := prog_13_method_101_code
def yX11_newRows : MethodName := ⟨RX11, "newRows", "(II)J"⟩
abbrev cX11_rowsOf : ByteArray := prog_13_method_102_code
def yX11_rowsOf : MethodName := ⟨RX11, "rowsOf", "(III)J"⟩
abbrev cX11_oddOnes : ByteArray := prog_13_method_103_code
def yX11_oddOnes : MethodName := ⟨RX11, "oddOnes", "()I"⟩
abbrev cX11_goesInto : ByteArray := prog_13_method_104_code
def yX11_goesInto : MethodName := ⟨RX11, "goesInto", "(I)Z"⟩
abbrev cX11_flippedRows : ByteArray := prog_13_method_105_code
def yX11_flippedRows : MethodName := ⟨RX11, "flippedRows", "(IZ)J"⟩
abbrev cX11_ways : ByteArray := prog_13_method_106_code
def yX11_ways : MethodName := ⟨RX11, "ways", "()I"⟩
abbrev cX11_laysLook : ByteArray := prog_13_method_107_code
def yX11_laysLook : MethodName := ⟨RX11, "laysLook", "(III)V"⟩
abbrev cX11_entersLook : ByteArray := prog_13_method_108_code
def yX11_entersLook : MethodName := ⟨RX11, "entersLook", "()V"⟩
abbrev cX11_nth : ByteArray := prog_13_method_109_code
def yX11_nth : MethodName := ⟨RX11, "nth", "(III)I"⟩
abbrev cX11_laysRank : ByteArray := prog_13_method_110_code
def yX11_laysRank : MethodName := ⟨RX11, "laysRank", "(I)V"⟩
abbrev cX11_rank : ByteArray := prog_13_method_111_code
def yX11_rank : MethodName := ⟨RX11, "rank", "(I)I"⟩
abbrev cX11_next : ByteArray := prog_13_method_112_code
def yX11_next : MethodName := ⟨RX11, "next", "(I)I"⟩
abbrev cX11_wordAt : ByteArray := prog_13_method_113_code
def yX11_wordAt : MethodName := ⟨RX11, "wordAt", "(IIII)I"⟩
abbrev cX11_isOnce : ByteArray := prog_13_method_114_code
def yX11_isOnce : MethodName := ⟨RX11, "isOnce", "(III)Z"⟩
abbrev cX11_wasThere : ByteArray := prog_13_method_115_code
def yX11_wasThere : MethodName := ⟨RX11, "wasThere", "(IIII)Z"⟩
abbrev cX11_laysAround : ByteArray := prog_13_method_116_code
def yX11_laysAround : MethodName := ⟨RX11, "laysAround", "(IIII)Z"⟩
abbrev cX11_once : ByteArray := prog_13_method_117_code
def yX11_once : MethodName := ⟨RX11, "once", "(II)I"⟩
abbrev cX11_isInStock : ByteArray := prog_13_method_118_code
def yX11_isInStock : MethodName := ⟨RX11, "isInStock", "()Z"⟩
abbrev cX11_made : ByteArray := prog_13_method_119_code
def yX11_made : MethodName := ⟨RX11, "made", "(I)I"⟩
abbrev cX11_dear : ByteArray := prog_13_method_120_code
def yX11_dear : MethodName := ⟨RX11, "dear", "(I)I"⟩
abbrev cX11_odds : ByteArray := prog_13_method_121_code
def yX11_odds : MethodName := ⟨RX11, "odds", "(I)I"⟩
abbrev cX11_felt : ByteArray := prog_13_method_122_code
def yX11_felt : MethodName := ⟨RX11, "felt", "(II)I"⟩
abbrev cX11_forget : ByteArray := prog_13_method_123_code
def yX11_forget : MethodName := ⟨RX11, "forget", "()I"⟩
abbrev cX11_clasps : ByteArray := prog_13_method_124_code
def yX11_clasps : MethodName := ⟨RX11, "clasps", "()I"⟩
abbrev cX11_guess : ByteArray := prog_13_method_125_code
def yX11_guess : MethodName := ⟨RX11, "guess", "(I)I"⟩
abbrev cX11_feels : ByteArray := prog_13_method_126_code
def yX11_feels : MethodName := ⟨RX11, "feels", "(I)I"⟩
abbrev cX11_lowest : ByteArray := prog_13_method_127_code
def yX11_lowest : MethodName := ⟨RX11, "lowest", "(I)I"⟩
abbrev cX11_highest : ByteArray := prog_13_method_128_code
def yX11_highest : MethodName := ⟨RX11, "highest", "(I)I"⟩
abbrev cX11_heard : ByteArray := prog_13_method_129_code
def yX11_heard : MethodName := ⟨RX11, "heard", "(II)I"⟩
abbrev cX11_denies : ByteArray := prog_13_method_130_code
def yX11_denies : MethodName := ⟨RX11, "denies", "()I"⟩
abbrev cX11_isSo : ByteArray := prog_13_method_131_code
def yX11_isSo : MethodName := ⟨RX11, "isSo", "(II)Z"⟩
abbrev cX11_fitting : ByteArray := prog_13_method_132_code
def yX11_fitting : MethodName := ⟨RX11, "fitting", "()I"⟩
abbrev cX11_fits : ByteArray := prog_13_method_133_code
def yX11_fits : MethodName := ⟨RX11, "fits", "()I"⟩
abbrev cX11_asks : ByteArray := prog_13_method_134_code
def yX11_asks : MethodName := ⟨RX11, "asks", "()I"⟩
abbrev cX11_laysWorth : ByteArray := prog_13_method_135_code
def yX11_laysWorth : MethodName := ⟨RX11, "laysWorth", "()V"⟩
abbrev cX11_ring : ByteArray := prog_13_method_136_code
def yX11_ring : MethodName := ⟨RX11, "ring", "(I)I"⟩
abbrev cX11_law : ByteArray := prog_13_method_137_code
def yX11_law : MethodName := ⟨RX11, "law", "()I"⟩
abbrev cX11_gets : ByteArray := prog_13_method_138_code
def yX11_gets : MethodName := ⟨RX11, "gets", "(III)I"⟩
abbrev cX11_isRest : ByteArray := prog_13_method_139_code
def yX11_isRest : MethodName := ⟨RX11, "isRest", "(III)Z"⟩
abbrev cX11_bargains : ByteArray := prog_13_method_140_code
def yX11_bargains : MethodName := ⟨RX11, "bargains", "(I)I"⟩
abbrev cX11_draws : ByteArray := prog_13_method_141_code
def yX11_draws : MethodName := ⟨RX11, "draws", "(I)I"⟩
abbrev cX11_drawnDay : ByteArray := prog_13_method_142_code
def yX11_drawnDay : MethodName := ⟨RX11, "drawnDay", "(I)V"⟩
abbrev cX11_years : ByteArray := prog_13_method_143_code
def yX11_years : MethodName := ⟨RX11, "years", "(II)I"⟩
abbrev cX11_keep : ByteArray := prog_13_method_144_code
def yX11_keep : MethodName := ⟨RX11, "keep", "(I)Z"⟩
abbrev cX11_again : ByteArray := prog_13_method_145_code
def yX11_again : MethodName := ⟨RX11, "again", "(I)Z"⟩
abbrev cX11_count : ByteArray := prog_13_method_146_code
def yX11_count : MethodName := ⟨RX11, "count", "(I)I"⟩
abbrev cX11_row : ByteArray := prog_13_method_147_code
def yX11_row : MethodName := ⟨RX11, "row", "(I)J"⟩
def RJ6 : String := "java/lang/Integer"
def TJ6 : u_T := fun k => match k with
  | _ => ("", "", "", false)
def tyJ6 : Nat → FieldType := fun k => match k with
  | _ => .int
abbrev cJ6_numberOfLeadingZeros_0f7a4 : ByteArray := prog_18_method_47_code
def yJ6_numberOfLeadingZeros_0f7a4 : MethodName := ⟨RJ6, "numberOfLeadingZeros", "(I)I"⟩
abbrev cJ6_numberOfTrailingZeros_0f7a4 : ByteArray := prog_18_method_48_code
def yJ6_numberOfTrailingZeros_0f7a4 : MethodName := ⟨RJ6, "numberOfTrailingZeros", "(I)I"⟩
abbrev cJ6_bitCount_0f7a4 : ByteArray := prog_18_method_49_code
def yJ6_bitCount_0f7a4 : MethodName := ⟨RJ6, "bitCount", "(I)I"⟩
def RJ9 : String := "java/lang/Math"
def TJ9 : u_T := fun k => match k with
  | _ => ("", "", "", false)
def tyJ9 : Nat → FieldType := fun k => match k with
  | _ => .int
abbrev cJ9_max_7cf53 : ByteArray := prog_19_method_65_code
def yJ9_max_7cf53 : MethodName := ⟨RJ9, "max", "(II)I"⟩
abbrev cJ9_min_7cf53 : ByteArray := prog_19_method_69_code
def yJ9_min_7cf53 : MethodName := ⟨RJ9, "min", "(II)I"⟩
def RJ0 : String := "java/lang/String"
def TJ0 : u_T := fun k => match k with
  | _ => ("", "", "", false)
def tyJ0 : Nat → FieldType := fun k => match k with
  | _ => .int
abbrev cJ0_length_8abf5 : ByteArray := prog_21_method_54_code
def yJ0_length_8abf5 : MethodName := ⟨RJ0, "length", "()I"⟩
abbrev cJ0_isEmpty_aae02 : ByteArray := prog_21_method_55_code
def yJ0_isEmpty_aae02 : MethodName := ⟨RJ0, "isEmpty", "()Z"⟩
abbrev cJ0_charAt_5068e : ByteArray := prog_21_method_56_code
def yJ0_charAt_5068e : MethodName := ⟨RJ0, "charAt", "(I)C"⟩
abbrev cJ0_coder_7d493 : ByteArray := prog_21_method_152_code
def yJ0_coder_7d493 : MethodName := ⟨RJ0, "coder", "()B"⟩
abbrev cJ0_isLatin1_aae02 : ByteArray := prog_21_method_154_code
def yJ0_isLatin1_aae02 : MethodName := ⟨RJ0, "isLatin1", "()Z"⟩
abbrev cJ0_checkIndex_df160 : ByteArray := prog_21_method_155_code
def yJ0_checkIndex_df160 : MethodName := ⟨RJ0, "checkIndex", "(II)V"⟩
def RJ1 : String := "java/lang/StringLatin1"
def TJ1 : u_T := fun k => match k with
  | _ => ("", "", "", false)
def tyJ1 : Nat → FieldType := fun k => match k with
  | _ => .int
abbrev cJ1_charAt_3b067 : ByteArray := prog_22_method_2_code
def yJ1_charAt_3b067 : MethodName := ⟨RJ1, "charAt", "([BI)C"⟩
def RJ2 : String := "java/lang/StringUTF16"
def TJ2 : u_T := fun k => match k with
  | _ => ("", "", "", false)
def tyJ2 : Nat → FieldType := fun k => match k with
  | _ => .int
abbrev cJ2_getChar_3b067 : ByteArray := prog_23_method_5_code
def yJ2_getChar_3b067 : MethodName := ⟨RJ2, "getChar", "([BI)C"⟩
abbrev cJ2_length_9d52b : ByteArray := prog_23_method_6_code
def yJ2_length_9d52b : MethodName := ⟨RJ2, "length", "([B)I"⟩
abbrev cJ2_charAt_3b067 : ByteArray := prog_23_method_83_code
def yJ2_charAt_3b067 : MethodName := ⟨RJ2, "charAt", "([BI)C"⟩
abbrev cJ2_checkIndex_2214a : ByteArray := prog_23_method_91_code
def yJ2_checkIndex_2214a : MethodName := ⟨RJ2, "checkIndex", "(I[B)V"⟩
def RJ10 : String := "java/lang/System"
def TJ10 : u_T := fun k => match k with
  | _ => ("", "", "", false)
def tyJ10 : Nat → FieldType := fun k => match k with
  | _ => .int
def RJ3 : String := "jdk/internal/util/Preconditions"
def TJ3 : u_T := fun k => match k with
  | _ => ("", "", "", false)
def tyJ3 : Nat → FieldType := fun k => match k with
  | _ => .int
abbrev cJ3_checkIndex_8e157 : ByteArray := prog_29_method_11_code
def yJ3_checkIndex_8e157 : MethodName := ⟨RJ3, "checkIndex", "(IILjava/util/function/BiFunction;)I"⟩
def RL : String := "BeadRingsLaw"
abbrev cL_bracelet : ByteArray := method_3_code
def yL_bracelet : MethodName := ⟨RL, "bracelet", "(LBeadRings;II[J)I"⟩
abbrev cL_bead : ByteArray := method_4_code
def yL_bead : MethodName := ⟨RL, "bead", "(LBeadRings;II[J)I"⟩
abbrev cL_stock : ByteArray := method_5_code
def yL_stock : MethodName := ⟨RL, "stock", "(LBeadRings;I[J)I"⟩
abbrev cL_row : ByteArray := method_6_code
def yL_row : MethodName := ⟨RL, "row", "(LBeadRings;I[J)I"⟩
abbrev cL_law : ByteArray := code
def yL_law : MethodName := ⟨RL, "law", "([I)Z"⟩
abbrev vwCl : List vw_C := [(RX1, TX1, 3), (RX4, TX4, 3), (RX5, TX5, 5), (RX6, TX6, 9), (RX7, TX7, 5), (RX8, TX8, 4), (RX9, TX9, 2), (RX10, TX10, 13), (RX11, TX11, 45)]
theorem inX1 : ∀ w ∈ wsX10, w ∈ lw_tbl := by decide +kernel
theorem inX4 : ∀ w ∈ wsX40, w ∈ lw_tbl := by decide +kernel
theorem inX5 : ∀ w ∈ wsX50, w ∈ lw_tbl := by decide +kernel
theorem inX6 : ∀ w ∈ wsX60, w ∈ lw_tbl := by decide +kernel
theorem inX7 : ∀ w ∈ wsX70, w ∈ lw_tbl := by decide +kernel
theorem inX8 : ∀ w ∈ wsX80, w ∈ lw_tbl := by decide +kernel
theorem inX9 : ∀ w ∈ wsX90, w ∈ lw_tbl := by decide +kernel
theorem inX10 : ∀ w ∈ wsX100, w ∈ lw_tbl := by decide +kernel
theorem inX11 : ∀ w ∈ wsX110, w ∈ lw_tbl := by decide +kernel
end
section
/-! ===== BEGIN words of one list among another's, by their places ===== -/
theorem goodIn_r {big : List Cond} (ws : List Cond) (ps : List Nat) (hp : ws = ps.filterMap (fun i => big[i]?)) (h : ws.all goodWord = true) : GoodIn big ws := by
  intro w hw
  have h1 := List.all_eq_true.mp h w hw
  rw [hp] at hw
  obtain ⟨i, -, hi⟩ := List.mem_filterMap.mp hw
  have hm : w ∈ big := by first | exact List.mem_of_getElem? hi | exact List.getElem?_mem hi
  exact ⟨hm, good_of_word h1⟩
theorem goodIn_app {big a b : List Cond} (ha : GoodIn big a) (hb : GoodIn big b) : GoodIn big (a ++ b) := fun w h => (List.mem_append.mp h).elim (ha w) (hb w)
theorem goodIn_ca {big a b : List Cond} {c : Cond} (ha : GoodIn big (c :: a)) (hb : GoodIn big b) : GoodIn big (c :: (a ++ b)) := fun w h => (List.mem_cons.mp h).elim (fun e => ha w (List.mem_cons.mpr (Or.inl e))) (fun h => (List.mem_append.mp h).elim (fun h => ha w (List.mem_cons.mpr (Or.inr h))) (hb w))
theorem goodIn_sub {big ws : List Cond} (hm : ∀ w ∈ ws, w ∈ big) (h : ws.all goodWord = true) : GoodIn big ws := fun w hw => ⟨hm w hw, good_of_word (List.all_eq_true.mp h w hw)⟩
/-! ===== END ===== -/

/-! ===== BEGIN exceptions that leave a method, and their catching by the caller (launches without stack traces) ===== -/
section VXA
/-! The laws vx_back, vx_callV, vx_callS, vx_callSW, vx_throw0, vx_throwS follow proofs of the library, with one case more: JvmDerived/Free/Laws.lean (Back.of_free), Shelf42/LK1.lean (callV, callS), Shelf/KitTraced.lean (throwNew0V, throwNewS). -/
/-- where a method has thrown q: the class by its name, the cell, what was written, the world -/
def vx_T (XC : String → State → State → Prop) (st : State) (q : Addr) (t : State) (mc ms : Nat) (free : Addr → Prop) : Prop :=
  ∃ (E : String) (ce : Cell) (L : List Loc), XC E st t ∧ t.heap[q]? = some ce ∧ ce.vm = .none ∧ st.vm.findClass E = some ce.cls ∧ st.WarmedH t.vm ∧ st.sameButNew ({ t with vm := st.vm } : State) L mc ms ∧ ∀ z ∈ L, free z.base
def vx_Q (Qc : Array Value → State → Outcome → State → Prop) (XC : String → State → State → Prop) (mc ms : Nat) (free : Addr → Prop) : Array Value → State → Outcome → State → Prop := fun a st o t =>
  (Qc a st o t ∧ ∃ L, FrameEnd st o t L mc ms ∧ ∀ q ∈ L, free q.base) ∨ ∃ q, o = .threw q ∧ vx_T XC st q t mc ms free
/-- a callee that returns or throws -/
def vx_Met (l : Launch) (y : MethodName) (ws : List Cond) (rm : Room) (Pc : Array Value → State → Prop) (Qc : Array Value → State → Outcome → State → Prop) (XC : String → State → State → Prop) (mc ms : Nat) (free : Addr → Prop) : Prop :=
  MetFree l y (headSpec ws rm) Pc (fun _ _ _ _ _ => True) (vx_Q Qc XC mc ms free)
def vx_Post (XC : String → State → State → Prop) (mc ms : Nat) (free : Addr → Prop) : Pt → Array Value → Addr → Pt → Prop := fun A a q B =>
  ∃ (g : JFrame) (mk : MethodId) (t : State) (L : List Loc) (E : String) (ce : Cell), B.U.heap = t.heap ∧ B.U.vm = t.vm ∧ XC E (A.U.calling g mk a) t ∧ t.heap[q]? = some ce ∧ ce.vm = .none ∧ A.U.vm.findClass E = some ce.cls ∧ B.locs = A.locs ++ L ∧ (∀ z ∈ L, free z.base) ∧ B.cells = A.cells + mc ∧ B.slots = A.slots + ms
def vx_Back (l : Launch) (R : Room) (p : Program) (e : Env) (below : List Frame) (s : State) (sargs : Array Value) (y : MethodName) (len W9 : Nat)
    (Pre : Pt → Array Value → Prop) (Post : Pt → Array Value → Option Value → Pt → Prop) (PostX : Pt → Array Value → Addr → Pt → Prop) : Prop :=
  ∀ (m : MethodId) (meth : Method) (c : Code) (A : Pt) (g : JFrame) (ig : Instr) (mk : MethodId) (a : Array Value),
    Stand p l e R s m sargs below meth c A.U A.locs A.cells A.slots → g.method = m → g.locals.size = c.maxLocals → decode c.code g.pc = .ok (ig, len) →
    2 * g.monitorRoom + (g.stack.map fun v => v.category).sum ≤ W9 → A.U.methodNamed? y = some mk → Pre A a →
    (∃ (v : Option Value) (B : Pt), Stand p l e R s m sargs below meth c B.U B.locs B.cells B.slots ∧ Post A a v B ∧
      Steps p.tables e below (doInvoke e (A.U.setTop g) [] mk a).1 (B.U.setTop { g with pc := g.pc + len, stack := v.toList ++ g.stack })) ∨
    (∃ (q : Addr) (B : Pt), Stand p l e R s m sargs below meth c B.U B.locs B.cells B.slots ∧ PostX A a q B ∧
      Steps p.tables e below (doInvoke e (A.U.setTop g) [] mk a).1 ((B.U.setTop g).pushFrame (.throwing q)))
section Payer
variable {l : Launch} {R : Room} {p : Program} {e : Env} {below : List Frame} {s : State} {sargs : Array Value} {y : MethodName} {len W9 : Nat}
theorem vx_back {ws : List Cond} {rm : Room} {Pc : Array Value → State → Prop} {Qc : Array Value → State → Outcome → State → Prop} {XC : String → State → State → Prop} {mc ms : Nat} {free : Addr → Prop} {bytes : ByteArray} {maxL : Nat} {ret : Option FieldType}
    (hM : vx_Met l y ws rm Pc Qc XC mc ms free) (hblind : FrameBlind Pc) (hrc : rm.cells = mc) (hrs : rm.slots = ms)
    (hframes : rm.frames + 1 ≤ R.frames) (hlocals : W9 + (maxL + 11) + rm.locals ≤ R.locals)
    (hws : ∀ w ∈ ws, ∀ a' U, s.WarmedH U.vm → w.before a' U = true) (hcode : Cond.code y bytes maxL ret ∈ ws) (hinit : ∀ a' U, s.WarmedH U.vm → (Cond.initialized y.cls).before a' U = true) :
    vx_Back l R p e below s sargs y len W9 (PreOf R mc ms Pc) (PostOf Qc mc ms free) (vx_Post XC mc ms free) := by
  intro m meth c A g ig mk a X hg hsize hdg hW hn hp
  have h1 : (headSpec ws rm).pre.before a A.U = true := atoms_intro fun w hw => hws w hw _ _ X.warmed
  have h2 : (Cond.code y bytes maxL ret).before a A.U = true := hws _ hcode _ _ X.warmed
  have h3 : (Cond.initialized y.cls).before a A.U = true := hinit _ _ X.warmed
  have h4 : A.cells + (headSpec ws rm).room.cells ≤ R.cells := by rw [show (headSpec ws rm).room.cells = mc from hrc]; exact hp.1
  have h5 : A.slots + (headSpec ws rm).room.slots ≤ R.slots := by rw [show (headSpec ws rm).room.slots = ms from hrs]; exact hp.2.1
  have hPc : Pc a (A.U.calling g mk a) := hblind _ _ _ _ hp.2.2
  obtain ⟨U, Ls, c0, s0⟩ := A
  dsimp only [Pt.U, Pt.locs, Pt.cells, Pt.slots] at h1 h2 h3 h4 h5 X hn hPc ⊢
  obtain ⟨methY, cY, hmY, hcY, -, hlY, -, -, -, -⟩ := Cond.code_spec hn h2
  obtain ⟨kY, hkY, -⟩ := className_of_methodNamed hn
  have hinitY : kY.init = .initialized := Cond.initialized_spec (findClass_of_methodNamed hn) hkY h3
  have h : At U g.method c below := by rw [hg]; exact X.here
  have hlocals9 : W9 + (maxL + 11) + (headSpec ws rm).room.locals ≤ R.locals := hlocals
  have happ : (headSpec ws rm).appliesLoose y e.platform (U.calling g mk a) = true :=
    Spec.appliesLoose_calling (g := g) h hdg hn hkY hinitY
      (X.room_calling (g := g) (R' := (headSpec ws rm).room) hsize hmY hcY hframes (by rw [hlY]; omega) h4 h5) h1
  obtain ⟨mid, hmid⟩ := h.above
  have hfr : (U.setTop g).frames = (.java g :: mid) ++ below := by rw [State.frames_setTop' g h.top, hmid]; rfl
  obtain ⟨o, s₂, hsteps, -, hend, hq⟩ := Steps.callFree hM p X.admits X.cas X.clock (acts := []) hfr happ hPc trivial
  have hq' : vx_Q Qc XC mc ms free a (U.calling g mk a) o s₂ := hq
  rw [State.frames_setTop' g h.top] at hend
  obtain ⟨g₀, hg0⟩ := Option.isSome_iff_exists.mp h.top
  obtain ⟨r, hr⟩ := State.topJava?_eq_some.mp hg0
  have hr' : (({ U with heap := s₂.heap, slotsUsed := s₂.slotsUsed } : State).setVm s₂.vm).frames = .java g₀ :: r := hr
  rcases hq' with ⟨hqc, L, hfe, hL⟩ | ⟨q, rfl, E, ce, L, hx, hce, hcv, hcl, hW₂, hsm, hL⟩
  · obtain ⟨⟨v, rfl⟩, hW₂, e2, q2, q3, q4, q5, q6⟩ := id hfe
    have e3 : s₂ = ({ (U.calling g mk a).setFrames s₂.frames with heap := s₂.heap, slotsUsed := s₂.slotsUsed } : State).setVm s₂.vm := by
      have : s₂ = ({ s₂ with vm := (U.calling g mk a).vm } : State).setVm s₂.vm := rfl
      rw [e2] at this
      exact this
    obtain ⟨c₂, i₂, len₂, hc₂, hd₂, hf₂⟩ := hend
    have hW' : U.WarmedH s₂.vm := hW₂
    have hcc : c₂ = c := by
      have h1 : s₂.code? g.method = U.code? g.method := by
        rw [State.code?_eq, State.code?_eq, hW'.alike.method?]
      exact Option.some.inj (hc₂.symm.trans (h1.trans h.code))
    subst hcc
    have hlen : len₂ = len := by rw [hdg] at hd₂; cases hd₂; rfl
    subst hlen
    have hs₂ : s₂ = (({ U with heap := s₂.heap, slotsUsed := s₂.slotsUsed } : State).setVm s₂.vm).setTop { g with pc := g.pc + len₂, stack := v.toList ++ g.stack } := by
      refine e3.trans ?_
      rw [hf₂, State.calling_eq h.top, State.setFrames_setFrames, State.setTop_of_frames _ hr', hr]
      rfl
    have hsame : U.sameButNew ({ U with heap := s₂.heap, slotsUsed := s₂.slotsUsed } : State) L mc ms := by
      refine ⟨?_, q2, q3, q4, q5, q6⟩
      obtain ⟨t, ht, -⟩ := State.frames_cons hr
      show ({ U with heap := s₂.heap, slotsUsed := s₂.slotsUsed } : State) = { U.setFrames U.frames with heap := s₂.heap, slotsUsed := s₂.slotsUsed }
      rw [State.setFrames_self ht]
    subst hg
    refine Or.inl ⟨v, ⟨(({ U with heap := s₂.heap, slotsUsed := s₂.slotsUsed } : State).setVm s₂.vm), Ls ++ L, c0 + mc, s0 + ms⟩,
      ⟨X.admits, X.cas, X.clock, X.frames, X.room, X.hears, X.method, X.code, (X.here.setHeapUsed s₂.heap s₂.slotsUsed).setVm hW'.alike, X.tail, State.WarmedH.trans X.warmed hW', X.limits, X.bytes, X.same.trans (hsame.setVm s.vm)⟩,
      ⟨g, mk, s₂, L, rfl, rfl, hqc, rfl, hL, rfl, rfl⟩, ?_⟩
    show Steps p.tables e below _ ((({ U with heap := s₂.heap, slotsUsed := s₂.slotsUsed } : State).setVm s₂.vm).setTop { g with pc := g.pc + len₂, stack := v.toList ++ g.stack })
    rw [← hs₂]
    exact hsteps
  · obtain ⟨e2, q2, q3, q4, q5, q6⟩ := id hsm
    have e3 : s₂ = ({ (U.calling g mk a).setFrames s₂.frames with heap := s₂.heap, slotsUsed := s₂.slotsUsed } : State).setVm s₂.vm := by
      have : s₂ = ({ s₂ with vm := (U.calling g mk a).vm } : State).setVm s₂.vm := rfl
      rw [e2] at this
      exact this
    have hf₂ : s₂.frames = .throwing q :: .java g :: U.frames.tail := hend
    have hW' : U.WarmedH s₂.vm := hW₂
    have hs₂ : s₂ = ((({ U with heap := s₂.heap, slotsUsed := s₂.slotsUsed } : State).setVm s₂.vm).setTop g).pushFrame (.throwing q) := by
      refine e3.trans ?_
      rw [hf₂, State.calling_eq h.top, State.setFrames_setFrames, State.pushFrame, State.frames_setTop _ hr', State.setTop_of_frames _ hr', State.setFrames_setFrames, hr]
      rfl
    have hsame : U.sameButNew ({ U with heap := s₂.heap, slotsUsed := s₂.slotsUsed } : State) L mc ms := by
      refine ⟨?_, q2, q3, q4, q5, q6⟩
      obtain ⟨t, ht, -⟩ := State.frames_cons hr
      show ({ U with heap := s₂.heap, slotsUsed := s₂.slotsUsed } : State) = { U.setFrames U.frames with heap := s₂.heap, slotsUsed := s₂.slotsUsed }
      rw [State.setFrames_self ht]
    subst hg
    refine Or.inr ⟨q, ⟨(({ U with heap := s₂.heap, slotsUsed := s₂.slotsUsed } : State).setVm s₂.vm), Ls ++ L, c0 + mc, s0 + ms⟩,
      ⟨X.admits, X.cas, X.clock, X.frames, X.room, X.hears, X.method, X.code, (X.here.setHeapUsed s₂.heap s₂.slotsUsed).setVm hW'.alike, X.tail, State.WarmedH.trans X.warmed hW', X.limits, X.bytes, X.same.trans (hsame.setVm s.vm)⟩,
      ⟨g, mk, s₂, L, E, ce, rfl, rfl, hx, hce, hcv, hcl, rfl, hL, rfl, rfl⟩, ?_⟩
    show Steps p.tables e below _ (((({ U with heap := s₂.heap, slotsUsed := s₂.slotsUsed } : State).setVm s₂.vm).setTop g).pushFrame (.throwing q))
    rw [← hs₂]
    exact hsteps
end Payer
section Calls
variable {p : Program} {l : Launch} {e : Env} {R : Room} {s : State} {m : MethodId} {args : Array Value} {below : List Frame} {meth : Method} {c : Code} {T : State} {locs : List Loc} {cells slots : Nat}
theorem vx_callV (X : Stand p l e R s m args below meth c T locs cells slots) (hexec : p.tables.exec = Jvm.exec) {own C : String} {index : Nat} {y : MethodName} {bytes : ByteArray} {maxL : Nat} {ret : Option FieldType}
    (hown : s.vm.findClass own = some m.cls) (hlink : (Cond.methodLink own index y).before args s = true) (hinst : (Cond.instanceMethod y).before args s = true) (hsel : (Cond.selects C y y).before args s = true)
    (hcode : (Cond.code y bytes maxL ret).before args s = true) (hy : y.cls ≠ "java/lang/invoke/MethodHandle" ∧ y.cls ≠ "java/lang/invoke/VarHandle")
    {W9 : Nat} {Pre : Pt → Array Value → Prop} {Post : Pt → Array Value → Option Value → Pt → Prop} {PostX : Pt → Array Value → Addr → Pt → Prop} (hK : vx_Back l R p e below s args y 3 W9 Pre Post PostX)
    {b : Addr} {cellB : Cell} (hcell : T.heap[b]? = some cellB) (hobj : cellB.vm.isStatics = false) (hcls : s.vm.findClass C = some cellB.cls)
    {g : JFrame} (hg : g.method = m) (hsize : g.locals.size = c.maxLocals) {argsL rest : List Value} (hlen : ∀ sig, parseMethodDescriptor y.desc = some sig → argsL.length = sig.parameters.length)
    (hstack : g.stack = argsL.reverse ++ .ref b :: rest) (hW : 2 * g.monitorRoom + (rest.map fun v => v.category).sum ≤ W9) (hdg : decode c.code g.pc = .ok (.invokevirtual index, 3))
    (hpre : ∀ vm₁, s.WarmedH vm₁ → Pre ⟨T.setVm vm₁, locs, cells, slots⟩ (Value.ref b :: argsL).toArray) :
    (∃ (v : Option Value) (vm₁ : Vm) (B : Pt), s.WarmedH vm₁ ∧ Stand p l e R s m args below meth c B.U B.locs B.cells B.slots ∧ Post ⟨T.setVm vm₁, locs, cells, slots⟩ (Value.ref b :: argsL).toArray v B ∧
      ∀ target, Steps p.tables e below (B.U.setTop { g with pc := g.pc + 3, stack := v.toList ++ rest }) target → Steps p.tables e below (T.setTop g) target) ∨
    (∃ (q : Addr) (vm₁ : Vm) (B : Pt), s.WarmedH vm₁ ∧ Stand p l e R s m args below meth c B.U B.locs B.cells B.slots ∧ PostX ⟨T.setVm vm₁, locs, cells, slots⟩ (Value.ref b :: argsL).toArray q B ∧
      Steps p.tables e below (T.setTop g) ((B.U.setTop { g with stack := rest }).pushFrame (.throwing q))) := by
  obtain ⟨mk, methM, hnamed, hmethM, hstM, habM⟩ := Cond.instanceMethod_spec hinst
  obtain ⟨methM', cM, hmethM', -, -, -, -, -, -, hsigM⟩ := Cond.code_spec hnamed hcode
  cases hmethM.symm.trans hmethM'
  obtain ⟨c2, r2, m2, q1, q2, q3, q4, kP, hkP, hkPi⟩ := Cond.selects_spec hsel
  cases hcls.symm.trans q1
  cases (State.methodFound?_of_named hnamed hy).symm.trans q2
  cases hnamed.symm.trans q3
  have hselP : selectMethod e.platform s.vm cellB.cls mk = .method mk := by rw [Launch.admits_selectMethod X.admits]; exact q4
  obtain ⟨vm₁, X₁, hstep₁⟩ := X.invokevirtual hexec hown hlink hnamed hmethM hstM hkP hkPi hy (a := b) (cell := cellB) hcell
    (fun z h => by rw [h] at hobj; cases hobj) hselP hmethM habM hkP hkPi (g := g) hg (argsL := argsL) (rest := rest) (hlen _ hsigM) hstack hdg
  rcases hK m meth c ⟨T.setVm vm₁, locs, cells, slots⟩ { g with stack := rest } (.invokevirtual index) mk (Value.ref b :: argsL).toArray X₁ hg hsize hdg hW (X₁.named hnamed) (hpre vm₁ X₁.warmed) with ⟨v, B, X', hpost, hsteps⟩ | ⟨q, B, X', hpost, hsteps⟩
  · exact Or.inl ⟨v, vm₁, B, X₁.warmed, X', hpost, fun target h => hstep₁ _ fun acts => by rw [doInvoke_state]; exact hsteps.trans h⟩
  · exact Or.inr ⟨q, vm₁, B, X₁.warmed, X', hpost, hstep₁ _ fun acts => by rw [doInvoke_state]; exact hsteps⟩
theorem vx_callS (X : Stand p l e R s m args below meth c T locs cells slots) (hexec : p.tables.exec = Jvm.exec) {own : String} {index : Nat} {y : MethodName} {bytes : ByteArray} {maxL : Nat} {ret : Option FieldType}
    (hown : s.vm.findClass own = some m.cls) (hlink : (Cond.methodLink own index y).before args s = true) (hstat : (Cond.static y).before args s = true) (hinit : (Cond.initialized y.cls).before args s = true)
    (hcode : (Cond.code y bytes maxL ret).before args s = true) (hy : y.cls ≠ "java/lang/invoke/MethodHandle" ∧ y.cls ≠ "java/lang/invoke/VarHandle")
    {W9 : Nat} {Pre : Pt → Array Value → Prop} {Post : Pt → Array Value → Option Value → Pt → Prop} {PostX : Pt → Array Value → Addr → Pt → Prop} (hK : vx_Back l R p e below s args y 3 W9 Pre Post PostX)
    {g : JFrame} (hg : g.method = m) (hsize : g.locals.size = c.maxLocals) {argsL rest : List Value} (hlen : ∀ sig, parseMethodDescriptor y.desc = some sig → argsL.length = sig.parameters.length)
    (hstack : g.stack = argsL.reverse ++ rest) (hW : 2 * g.monitorRoom + (rest.map fun v => v.category).sum ≤ W9) (hdg : decode c.code g.pc = .ok (.invokestatic index, 3))
    (hpre : ∀ vm₁, s.WarmedH vm₁ → Pre ⟨T.setVm vm₁, locs, cells, slots⟩ argsL.toArray) :
    (∃ (v : Option Value) (vm₁ : Vm) (B : Pt), s.WarmedH vm₁ ∧ Stand p l e R s m args below meth c B.U B.locs B.cells B.slots ∧ Post ⟨T.setVm vm₁, locs, cells, slots⟩ argsL.toArray v B ∧
      ∀ target, Steps p.tables e below (B.U.setTop { g with pc := g.pc + 3, stack := v.toList ++ rest }) target → Steps p.tables e below (T.setTop g) target) ∨
    (∃ (q : Addr) (vm₁ : Vm) (B : Pt), s.WarmedH vm₁ ∧ Stand p l e R s m args below meth c B.U B.locs B.cells B.slots ∧ PostX ⟨T.setVm vm₁, locs, cells, slots⟩ argsL.toArray q B ∧
      Steps p.tables e below (T.setTop g) ((B.U.setTop { g with stack := rest }).pushFrame (.throwing q))) := by
  obtain ⟨mk, hnamed⟩ := Cond.code_named hcode
  obtain ⟨methM, cM, hmethM, -, -, -, -, -, -, hsigM⟩ := Cond.code_spec hnamed hcode
  have hstatic : methM.isStatic = true := Cond.static_spec hnamed hmethM hstat
  obtain ⟨kP, hkP, -⟩ := className_of_methodNamed hnamed
  have hinitP : kP.init = .initialized := Cond.initialized_spec (findClass_of_methodNamed hnamed) hkP hinit
  obtain ⟨vm₁, X₁, hstep₁⟩ := X.invokestatic hexec hown hlink hnamed hmethM hstatic hkP hinitP hy (g := g) hg (argsL := argsL) (rest := rest) (hlen _ hsigM) hstack hdg
  rcases hK m meth c ⟨T.setVm vm₁, locs, cells, slots⟩ { g with stack := rest } (.invokestatic index) mk argsL.toArray X₁ hg hsize hdg hW (X₁.named hnamed) (hpre vm₁ X₁.warmed) with ⟨v, B, X', hpost, hsteps⟩ | ⟨q, B, X', hpost, hsteps⟩
  · exact Or.inl ⟨v, vm₁, B, X₁.warmed, X', hpost, fun target h => hstep₁ _ fun acts => by rw [doInvoke_state]; exact hsteps.trans h⟩
  · exact Or.inr ⟨q, vm₁, B, X₁.warmed, X', hpost, hstep₁ _ fun acts => by rw [doInvoke_state]; exact hsteps⟩
end Calls
theorem vx_cls {s : State} {T : State} {vm₁ : Vm} {E : String} {k : ClassId} (hW : s.WarmedH vm₁) (h : (T.setVm vm₁).vm.findClass E = some k) : s.vm.findClass E = some k := by
  have h1 : vm₁.findClass E = some k := h
  rw [hW.alike.findClass] at h1
  exact h1
/-- the method's frame g, with q thrown over it -/
def vx_W (p : Program) (l : Launch) (e : Env) (R : Room) (s : State) (m : MethodId) (args : Array Value) (below : List Frame) (meth : Method) (c : Code) (H : Heap) (locs : List Loc) (cells slots : Nat) (Q : State → Prop) (g : JFrame) (q : Addr) : Prop :=
  ∀ T : State, T.heap = H → Stand p l e R s m args below meth c T locs cells slots → ∃ t, Steps p.tables e below ((T.setTop g).pushFrame (.throwing q)) t ∧ Q t
def vx_Run (p : Program) (l : Launch) (e : Env) (R : Room) (s : State) (m : MethodId) (args : Array Value) (below : List Frame) (meth : Method) (c : Code) (H : Heap) (locs : List Loc) (cells slots mc ms : Nat) (g : JFrame) (rest : List Value) (Qa : State → Outcome → State → Prop) (XC : String → State → State → Prop) (free : Addr → Prop) : Prop :=
  ∀ T : State, T.heap = H → Stand p l e R s m args below meth c T locs cells slots →
    (∃ (v : Option Value) (st₀ t T' : State) (L : List Loc), st₀.heap = H ∧ Stand p l e R s m args below meth c T' (locs ++ L) (cells + mc) (slots + ms) ∧ (∀ q ∈ L, free q.base) ∧ T'.heap = t.heap ∧ T'.vm = t.vm ∧ Qa st₀ (.returned v) t ∧
      Goes p e below T g T' { g with pc := g.pc + 3, stack := v.toList ++ rest }) ∨
    (∃ (q : Addr) (st₀ t T' : State) (L : List Loc) (E : String) (ce : Cell), st₀.heap = H ∧ Stand p l e R s m args below meth c T' (locs ++ L) (cells + mc) (slots + ms) ∧ (∀ z ∈ L, free z.base) ∧ T'.heap = t.heap ∧ T'.vm = t.vm ∧ XC E st₀ t ∧ t.heap[q]? = some ce ∧ ce.vm = .none ∧ s.vm.findClass E = some ce.cls ∧
      Steps p.tables e below (T.setTop g) ((T'.setTop { g with stack := rest }).pushFrame (.throwing q)))
def vx_X {S : Type} (px : S → Prop) (B : String → S → State → Prop) (A : Nat → Prop) : String → State → State → Prop := fun E st t => ∃ u : S, px u ∧ B E u t ∧ va_F A st t
section Runs
variable {p : Program} {l : Launch} {e : Env} {R : Room} {s : State} {m : MethodId} {args : Array Value} {below : List Frame} {meth : Method} {c : Code} {H : Heap} {locs : List Loc} {cells slots : Nat}
variable {y : MethodName} {bytes cc : ByteArray} {maxL nL mc ms n index : Nat} {ret : Option FieldType} {ws : List Cond} {rm : Room} {Pc : Array Value → State → Prop} {Qc : Array Value → State → Outcome → State → Prop} {XC : String → State → State → Prop} {free : Addr → Prop} {Ts : List Cond} {own C : String} {b : Addr} {As rest : List Value} {g : JFrame}
theorem vx_callBack (cb : CallB R s args own index y bytes maxL ret ws rm mc ms n) (hM : vx_Met l y ws rm Pc Qc XC mc ms free) (hbl : FrameBlind Pc) : vx_Back l R p e below s args y 3 8 (PreOf R mc ms Pc) (PostOf Qc mc ms free) (vx_Post XC mc ms free) := by
  obtain ⟨hrc, hrs, hfr, hlo, hws, hcw, -, hini, -⟩ := cb
  exact vx_back (bytes := bytes) (maxL := maxL) (ret := ret) hM hbl hrc hrs hfr hlo hws hcw (fun a' U hW => word_at hW (Or.inl (by first | rfl | simp [Cond.onTables, Cond.keeps, Cond.steady])) hini)
theorem vx_runV (S : CallFix p m c cc nL s args Ts own) (hM : vx_Met l y ws rm Pc Qc XC mc ms free) (cw : CallW R s args own C index y bytes maxL ret ws rm mc ms n) (hp : PreV s H C b Pc As)
    (hg : g.method = m) (hn : As.length = n) (hsize : g.locals.size = nL) (hstack : g.stack = As.reverse ++ .ref b :: rest) (hW : 2 * g.monitorRoom + (rest.map fun v => v.category).sum ≤ 8) (hdg : decode cc g.pc = .ok (.invokevirtual index, 3)) (hf : cells + mc ≤ R.cells ∧ slots + ms ≤ R.slots) :
    vx_Run p l e R s m args below meth c H locs cells slots mc ms g rest (Qc (Value.ref b :: As).toArray) XC free := by
  have hK : vx_Back l R p e below s args y 3 8 (PreOf R mc ms Pc) (PostOf Qc mc ms free) (vx_Post XC mc ms free) := vx_callBack cw.1 hM hp.1
  obtain ⟨⟨-, -, -, -, -, -, hcode, -, hy, hlen, hl⟩, hin, hse⟩ := cw
  obtain ⟨hx, hb, hml, ho, -⟩ := S
  obtain ⟨-, ⟨cellB, hcB, hoB, hclB⟩, hPc⟩ := hp
  intro T hT X
  rcases vx_callV X hx (C := C) (bytes := bytes) (maxL := maxL) (ret := ret) ho hl hin hse hcode hy hK (by rw [hT]; exact hcB) hoB hclB hg (hsize.trans hml.symm) (argsL := As) (rest := rest) (fun sig h => hn.trans (hlen sig h)) hstack hW (by rw [hb]; exact hdg)
    (fun vm₁ hW₁ => ⟨hf.1, hf.2, hPc (T.setVm vm₁) hT hW₁⟩) with ⟨v, vm₁, ⟨U', l2, c2, s2⟩, hW₁, X', ⟨g', mk, t, L, e1, e2, hq, h1, hL, h2, h3⟩, st⟩ | ⟨q, vm₁, ⟨U', l2, c2, s2⟩, hW₁, X', ⟨g', mk, t, L, E, ce, e1, e2, hq, hce, hcv, hcl, h1, hL, h2, h3⟩, st⟩
  · dsimp only [Pt.U, Pt.locs, Pt.cells, Pt.slots] at X' e1 e2 h1 h2 h3 st
    subst h1; subst h2; subst h3
    exact Or.inl ⟨v, (T.setVm vm₁).calling g' mk (Value.ref b :: As).toArray, t, U', L, hT, X', hL, e1, e2, hq, st⟩
  · dsimp only [Pt.U, Pt.locs, Pt.cells, Pt.slots] at X' e1 e2 h1 h2 h3 st hcl
    subst h1; subst h2; subst h3
    exact Or.inr ⟨q, (T.setVm vm₁).calling g' mk (Value.ref b :: As).toArray, t, U', L, E, ce, hT, X', hL, e1, e2, hq, hce, hcv, vx_cls hW₁ hcl, st⟩
theorem vx_runS (S : CallFix p m c cc nL s args Ts own) (hM : vx_Met l y ws rm Pc Qc XC mc ms free) (cw : CallB R s args own index y bytes maxL ret ws rm mc ms n ∧ (Cond.static y).before args s = true) (hp : PreS s H Pc As)
    (hg : g.method = m) (hn : As.length = n) (hsize : g.locals.size = nL) (hstack : g.stack = As.reverse ++ rest) (hW : 2 * g.monitorRoom + (rest.map fun v => v.category).sum ≤ 8) (hdg : decode cc g.pc = .ok (.invokestatic index, 3)) (hf : cells + mc ≤ R.cells ∧ slots + ms ≤ R.slots) :
    vx_Run p l e R s m args below meth c H locs cells slots mc ms g rest (Qc As.toArray) XC free := by
  have hK : vx_Back l R p e below s args y 3 8 (PreOf R mc ms Pc) (PostOf Qc mc ms free) (vx_Post XC mc ms free) := vx_callBack cw.1 hM hp.1
  obtain ⟨⟨-, -, -, -, -, -, hcode, hini, hy, hlen, hl⟩, hstt⟩ := cw
  obtain ⟨hx, hb, hml, ho, -⟩ := S
  intro T hT X
  rcases vx_callS X hx (bytes := bytes) (maxL := maxL) (ret := ret) ho hl hstt hini hcode hy hK hg (hsize.trans hml.symm) (argsL := As) (rest := rest) (fun sig h => hn.trans (hlen sig h)) hstack hW (by rw [hb]; exact hdg)
    (fun vm₁ hW₁ => ⟨hf.1, hf.2, hp.2 (T.setVm vm₁) hT hW₁⟩) with ⟨v, vm₁, ⟨U', l2, c2, s2⟩, hW₁, X', ⟨g', mk, t, L, e1, e2, hq, h1, hL, h2, h3⟩, st⟩ | ⟨q, vm₁, ⟨U', l2, c2, s2⟩, hW₁, X', ⟨g', mk, t, L, E, ce, e1, e2, hq, hce, hcv, hcl, h1, hL, h2, h3⟩, st⟩
  · dsimp only [Pt.U, Pt.locs, Pt.cells, Pt.slots] at X' e1 e2 h1 h2 h3 st
    subst h1; subst h2; subst h3
    exact Or.inl ⟨v, (T.setVm vm₁).calling g' mk As.toArray, t, U', L, hT, X', hL, e1, e2, hq, st⟩
  · dsimp only [Pt.U, Pt.locs, Pt.cells, Pt.slots] at X' e1 e2 h1 h2 h3 st hcl
    subst h1; subst h2; subst h3
    exact Or.inr ⟨q, (T.setVm vm₁).calling g' mk As.toArray, t, U', L, E, ce, hT, X', hL, e1, e2, hq, hce, hcv, vx_cls hW₁ hcl, st⟩
end Runs
section Rows
variable {p : Program} {l : Launch} {e : Env} {R : Room} {s : State} {m : MethodId} {args : Array Value} {below : List Frame} {meth : Method} {c : Code} {H : Heap} {locs : List Loc} {cells slots : Nat} {Q : State → Prop}
variable {mc ms : Nat} {free : Addr → Prop} {A0 A1 : Nat → Prop} {H0 : Heap} {a : Array Value} {pc : Nat} {ls : Array Slot} {st0 rest : List Value}
theorem vx_keep {st₀ t T' : State} {L : List Loc} (h0 : st₀.heap = H) (e1 : T'.heap = t.heap) (hS : va_S A0 H0 H locs) (hA : ∀ q, q < H.size → A1 q → A0 q) (hf : ∀ q, free q → A0 q) (hL : ∀ q ∈ L, free q.base) (hF : va_F A1 st₀ t) :
    H.size ≤ T'.heap.size ∧ (∀ q : Nat, q < H.size → ¬ A1 q → T'.heap[q]? = H[q]?) ∧ va_S A0 H0 T'.heap (locs ++ L) := by
  obtain ⟨hz, hk⟩ := hF
  rw [h0] at hz hk
  exact ⟨by rw [e1]; exact hz, fun q h1 h2 => by rw [e1]; exact hk q h1 h2,
    ⟨Nat.le_trans hS.1 (by rw [e1]; exact hz), fun q h1 h2 => by rw [e1, hk q (Nat.lt_of_lt_of_le h1 hS.1) (fun z => h2 (hA q (Nat.lt_of_lt_of_le h1 hS.1) z))]; exact hS.2.1 q h1 h2, fun q hq => by
      rcases List.mem_append.mp hq with h | h
      · exact hS.2.2 q h
      · exact hf _ (hL q h)⟩⟩
theorem vx_calli {S SX : Type} {post : Int32 → S → Prop} {px : SX → Prop} {B : S → State → Prop} {BX : String → SX → State → Prop} {AX : Nat → Prop} (hr : vx_Run p l e R s m args below meth c H locs cells slots mc ms (F0 m pc ls st0) rest (va_Qi post B A1 a) (vx_X px BX AX) free) (hS : va_S A0 H0 H locs) (hA : ∀ q, q < H.size → A1 q → A0 q) (hf : ∀ q, free q → A0 q) (hAX : ∀ q, q < H.size → AX q → A0 q)
    (kx : ∀ (E : String) (ce : Cell) (q9 : Addr) (u : SX) (t : State) (H1 : Heap) (locs1 : List Loc), t.heap = H1 → s.vm.Alike t.vm → px u → BX E u t → H.size ≤ H1.size → (∀ q : Nat, q < H.size → ¬ AX q → H1[q]? = H[q]?) → va_S A0 H0 H1 locs1 → H1[q9]? = some ce → ce.vm = .none → s.vm.findClass E = some ce.cls → vx_W p l e R s m args below meth c H1 locs1 (cells + mc) (slots + ms) Q (F0 m pc ls rest) q9)
    (kk : ∀ (r : Int32) (u : S) (t : State) (H1 : Heap) (locs1 : List Loc), t.heap = H1 → s.vm.Alike t.vm → post r u → B u t → H.size ≤ H1.size → (∀ q : Nat, q < H.size → ¬ A1 q → H1[q]? = H[q]?) → va_S A0 H0 H1 locs1 → W p l e R s m args below meth c H1 locs1 (cells + mc) (slots + ms) Q (F0 m (pc + 3) ls (.int r :: rest))) : W p l e R s m args below meth c H locs cells slots Q (F0 m pc ls st0) := by
  intro T hT X
  rcases hr T hT X with ⟨v, st₀, t, T', L, h0, X', hL, e1, e2, ⟨⟨r, u, hv, hp, hb⟩, hF⟩, st⟩ | ⟨q, st₀, t, T', L, E, ce, h0, X', hL, e1, e2, ⟨u, hp, hb, hF⟩, hce, hcv, hcl, st⟩
  · cases hv
    obtain ⟨k1, k2, k3⟩ := vx_keep h0 e1 hS hA hf hL hF
    obtain ⟨t2, a1, b1⟩ := kk r u t T'.heap (locs ++ L) e1.symm (by rw [← e2]; exact X'.warmed.alike) hp hb k1 k2 k3 T' rfl X'
    exact ⟨t2, st t2 a1, b1⟩
  · obtain ⟨k1, k2, k3⟩ := vx_keep h0 e1 hS hAX hf hL hF
    obtain ⟨t2, a1, b1⟩ := kx E ce q u t T'.heap (locs ++ L) e1.symm (by rw [← e2]; exact X'.warmed.alike) hp hb k1 k2 k3 (by rw [e1]; exact hce) hcv hcl T' rfl X'
    exact ⟨t2, st.trans a1, b1⟩
theorem vx_calll {S SX : Type} {post : Int64 → S → Prop} {px : SX → Prop} {B : S → State → Prop} {BX : String → SX → State → Prop} {AX : Nat → Prop} (hr : vx_Run p l e R s m args below meth c H locs cells slots mc ms (F0 m pc ls st0) rest (va_Ql post B A1 a) (vx_X px BX AX) free) (hS : va_S A0 H0 H locs) (hA : ∀ q, q < H.size → A1 q → A0 q) (hf : ∀ q, free q → A0 q) (hAX : ∀ q, q < H.size → AX q → A0 q)
    (kx : ∀ (E : String) (ce : Cell) (q9 : Addr) (u : SX) (t : State) (H1 : Heap) (locs1 : List Loc), t.heap = H1 → s.vm.Alike t.vm → px u → BX E u t → H.size ≤ H1.size → (∀ q : Nat, q < H.size → ¬ AX q → H1[q]? = H[q]?) → va_S A0 H0 H1 locs1 → H1[q9]? = some ce → ce.vm = .none → s.vm.findClass E = some ce.cls → vx_W p l e R s m args below meth c H1 locs1 (cells + mc) (slots + ms) Q (F0 m pc ls rest) q9)
    (kk : ∀ (r : Int64) (u : S) (t : State) (H1 : Heap) (locs1 : List Loc), t.heap = H1 → s.vm.Alike t.vm → post r u → B u t → H.size ≤ H1.size → (∀ q : Nat, q < H.size → ¬ A1 q → H1[q]? = H[q]?) → va_S A0 H0 H1 locs1 → W p l e R s m args below meth c H1 locs1 (cells + mc) (slots + ms) Q (F0 m (pc + 3) ls (.long r :: rest))) : W p l e R s m args below meth c H locs cells slots Q (F0 m pc ls st0) := by
  intro T hT X
  rcases hr T hT X with ⟨v, st₀, t, T', L, h0, X', hL, e1, e2, ⟨⟨r, u, hv, hp, hb⟩, hF⟩, st⟩ | ⟨q, st₀, t, T', L, E, ce, h0, X', hL, e1, e2, ⟨u, hp, hb, hF⟩, hce, hcv, hcl, st⟩
  · cases hv
    obtain ⟨k1, k2, k3⟩ := vx_keep h0 e1 hS hA hf hL hF
    obtain ⟨t2, a1, b1⟩ := kk r u t T'.heap (locs ++ L) e1.symm (by rw [← e2]; exact X'.warmed.alike) hp hb k1 k2 k3 T' rfl X'
    exact ⟨t2, st t2 a1, b1⟩
  · obtain ⟨k1, k2, k3⟩ := vx_keep h0 e1 hS hAX hf hL hF
    obtain ⟨t2, a1, b1⟩ := kx E ce q u t T'.heap (locs ++ L) e1.symm (by rw [← e2]; exact X'.warmed.alike) hp hb k1 k2 k3 (by rw [e1]; exact hce) hcv hcl T' rfl X'
    exact ⟨t2, st.trans a1, b1⟩
theorem vx_callf {S SX : Type} {post : UInt32 → S → Prop} {px : SX → Prop} {B : S → State → Prop} {BX : String → SX → State → Prop} {AX : Nat → Prop} (hr : vx_Run p l e R s m args below meth c H locs cells slots mc ms (F0 m pc ls st0) rest (va_Qf post B A1 a) (vx_X px BX AX) free) (hS : va_S A0 H0 H locs) (hA : ∀ q, q < H.size → A1 q → A0 q) (hf : ∀ q, free q → A0 q) (hAX : ∀ q, q < H.size → AX q → A0 q)
    (kx : ∀ (E : String) (ce : Cell) (q9 : Addr) (u : SX) (t : State) (H1 : Heap) (locs1 : List Loc), t.heap = H1 → s.vm.Alike t.vm → px u → BX E u t → H.size ≤ H1.size → (∀ q : Nat, q < H.size → ¬ AX q → H1[q]? = H[q]?) → va_S A0 H0 H1 locs1 → H1[q9]? = some ce → ce.vm = .none → s.vm.findClass E = some ce.cls → vx_W p l e R s m args below meth c H1 locs1 (cells + mc) (slots + ms) Q (F0 m pc ls rest) q9)
    (kk : ∀ (r : UInt32) (u : S) (t : State) (H1 : Heap) (locs1 : List Loc), t.heap = H1 → s.vm.Alike t.vm → post r u → B u t → H.size ≤ H1.size → (∀ q : Nat, q < H.size → ¬ A1 q → H1[q]? = H[q]?) → va_S A0 H0 H1 locs1 → W p l e R s m args below meth c H1 locs1 (cells + mc) (slots + ms) Q (F0 m (pc + 3) ls (.float r :: rest))) : W p l e R s m args below meth c H locs cells slots Q (F0 m pc ls st0) := by
  intro T hT X
  rcases hr T hT X with ⟨v, st₀, t, T', L, h0, X', hL, e1, e2, ⟨⟨r, u, hv, hp, hb⟩, hF⟩, st⟩ | ⟨q, st₀, t, T', L, E, ce, h0, X', hL, e1, e2, ⟨u, hp, hb, hF⟩, hce, hcv, hcl, st⟩
  · cases hv
    obtain ⟨k1, k2, k3⟩ := vx_keep h0 e1 hS hA hf hL hF
    obtain ⟨t2, a1, b1⟩ := kk r u t T'.heap (locs ++ L) e1.symm (by rw [← e2]; exact X'.warmed.alike) hp hb k1 k2 k3 T' rfl X'
    exact ⟨t2, st t2 a1, b1⟩
  · obtain ⟨k1, k2, k3⟩ := vx_keep h0 e1 hS hAX hf hL hF
    obtain ⟨t2, a1, b1⟩ := kx E ce q u t T'.heap (locs ++ L) e1.symm (by rw [← e2]; exact X'.warmed.alike) hp hb k1 k2 k3 (by rw [e1]; exact hce) hcv hcl T' rfl X'
    exact ⟨t2, st.trans a1, b1⟩
theorem vx_calld {S SX : Type} {post : UInt64 → S → Prop} {px : SX → Prop} {B : S → State → Prop} {BX : String → SX → State → Prop} {AX : Nat → Prop} (hr : vx_Run p l e R s m args below meth c H locs cells slots mc ms (F0 m pc ls st0) rest (va_Qd post B A1 a) (vx_X px BX AX) free) (hS : va_S A0 H0 H locs) (hA : ∀ q, q < H.size → A1 q → A0 q) (hf : ∀ q, free q → A0 q) (hAX : ∀ q, q < H.size → AX q → A0 q)
    (kx : ∀ (E : String) (ce : Cell) (q9 : Addr) (u : SX) (t : State) (H1 : Heap) (locs1 : List Loc), t.heap = H1 → s.vm.Alike t.vm → px u → BX E u t → H.size ≤ H1.size → (∀ q : Nat, q < H.size → ¬ AX q → H1[q]? = H[q]?) → va_S A0 H0 H1 locs1 → H1[q9]? = some ce → ce.vm = .none → s.vm.findClass E = some ce.cls → vx_W p l e R s m args below meth c H1 locs1 (cells + mc) (slots + ms) Q (F0 m pc ls rest) q9)
    (kk : ∀ (r : UInt64) (u : S) (t : State) (H1 : Heap) (locs1 : List Loc), t.heap = H1 → s.vm.Alike t.vm → post r u → B u t → H.size ≤ H1.size → (∀ q : Nat, q < H.size → ¬ A1 q → H1[q]? = H[q]?) → va_S A0 H0 H1 locs1 → W p l e R s m args below meth c H1 locs1 (cells + mc) (slots + ms) Q (F0 m (pc + 3) ls (.double r :: rest))) : W p l e R s m args below meth c H locs cells slots Q (F0 m pc ls st0) := by
  intro T hT X
  rcases hr T hT X with ⟨v, st₀, t, T', L, h0, X', hL, e1, e2, ⟨⟨r, u, hv, hp, hb⟩, hF⟩, st⟩ | ⟨q, st₀, t, T', L, E, ce, h0, X', hL, e1, e2, ⟨u, hp, hb, hF⟩, hce, hcv, hcl, st⟩
  · cases hv
    obtain ⟨k1, k2, k3⟩ := vx_keep h0 e1 hS hA hf hL hF
    obtain ⟨t2, a1, b1⟩ := kk r u t T'.heap (locs ++ L) e1.symm (by rw [← e2]; exact X'.warmed.alike) hp hb k1 k2 k3 T' rfl X'
    exact ⟨t2, st t2 a1, b1⟩
  · obtain ⟨k1, k2, k3⟩ := vx_keep h0 e1 hS hAX hf hL hF
    obtain ⟨t2, a1, b1⟩ := kx E ce q u t T'.heap (locs ++ L) e1.symm (by rw [← e2]; exact X'.warmed.alike) hp hb k1 k2 k3 (by rw [e1]; exact hce) hcv hcl T' rfl X'
    exact ⟨t2, st.trans a1, b1⟩
theorem vx_callv {S SX : Type} {post : S → Prop} {px : SX → Prop} {B : S → State → Prop} {BX : String → SX → State → Prop} {AX : Nat → Prop} (hr : vx_Run p l e R s m args below meth c H locs cells slots mc ms (F0 m pc ls st0) rest (va_Qv post B A1 a) (vx_X px BX AX) free) (hS : va_S A0 H0 H locs) (hA : ∀ q, q < H.size → A1 q → A0 q) (hf : ∀ q, free q → A0 q) (hAX : ∀ q, q < H.size → AX q → A0 q)
    (kx : ∀ (E : String) (ce : Cell) (q9 : Addr) (u : SX) (t : State) (H1 : Heap) (locs1 : List Loc), t.heap = H1 → s.vm.Alike t.vm → px u → BX E u t → H.size ≤ H1.size → (∀ q : Nat, q < H.size → ¬ AX q → H1[q]? = H[q]?) → va_S A0 H0 H1 locs1 → H1[q9]? = some ce → ce.vm = .none → s.vm.findClass E = some ce.cls → vx_W p l e R s m args below meth c H1 locs1 (cells + mc) (slots + ms) Q (F0 m pc ls rest) q9)
    (kk : ∀ (u : S) (t : State) (H1 : Heap) (locs1 : List Loc), t.heap = H1 → s.vm.Alike t.vm → post u → B u t → H.size ≤ H1.size → (∀ q : Nat, q < H.size → ¬ A1 q → H1[q]? = H[q]?) → va_S A0 H0 H1 locs1 → W p l e R s m args below meth c H1 locs1 (cells + mc) (slots + ms) Q (F0 m (pc + 3) ls (rest))) : W p l e R s m args below meth c H locs cells slots Q (F0 m pc ls st0) := by
  intro T hT X
  rcases hr T hT X with ⟨v, st₀, t, T', L, h0, X', hL, e1, e2, ⟨⟨u, hv, hp, hb⟩, hF⟩, st⟩ | ⟨q, st₀, t, T', L, E, ce, h0, X', hL, e1, e2, ⟨u, hp, hb, hF⟩, hce, hcv, hcl, st⟩
  · cases hv
    obtain ⟨k1, k2, k3⟩ := vx_keep h0 e1 hS hA hf hL hF
    obtain ⟨t2, a1, b1⟩ := kk u t T'.heap (locs ++ L) e1.symm (by rw [← e2]; exact X'.warmed.alike) hp hb k1 k2 k3 T' rfl X'
    exact ⟨t2, st t2 a1, b1⟩
  · obtain ⟨k1, k2, k3⟩ := vx_keep h0 e1 hS hAX hf hL hF
    obtain ⟨t2, a1, b1⟩ := kx E ce q u t T'.heap (locs ++ L) e1.symm (by rw [← e2]; exact X'.warmed.alike) hp hb k1 k2 k3 (by rw [e1]; exact hce) hcv hcl T' rfl X'
    exact ⟨t2, st.trans a1, b1⟩
/-- caught by the row x of this method's table; the rows ahead don't take it -/
theorem vx_catch {own name : String} {E : String} {ce : Cell} {q : Addr} (hown : s.vm.findClass own = some m.cls) (pre : List ExceptionTableEntry) (x : ExceptionTableEntry) (suf : List ExceptionTableEntry) (hsplit : c.exceptionTable.toList = pre ++ x :: suf)
    (hpass : ∀ z ∈ pre, covers z pc = false ∨ (z.catchType ≠ 0 ∧ ∃ nm : String, (Cond.classLink own z.catchType nm).before args s = true ∧ va_Nc E nm s)) (hx : covers x pc = true) (h0 : x.catchType ≠ 0)
    (hlink : (Cond.classLink own x.catchType name).before args s = true) (hcast : (Cond.castable E name).before args s = true) (hcell : H[q]? = some ce) (hv : ce.vm = .none) (hcl : s.vm.findClass E = some ce.cls)
    (kk : W p l e R s m args below meth c H locs cells slots Q (F0 m x.handlerPc ls [.ref q])) : vx_W p l e R s m args below meth c H locs cells slots Q (F0 m pc ls rest) q := by
  intro T hT X
  have hpl : e.platform.magicAccessors = ({} : Platform).magicAccessors := by rw [X.admits.platform]
  obtain ⟨c3, c4, hc3, hc4, hasg⟩ := Cond.castable_spec hcast
  cases Option.some.inj (hc3.symm.trans hcl)
  obtain ⟨c5, hc5, hcl5⟩ := Cond.classLink_spec hown hlink e.platform hpl
  cases Option.some.inj (hc4.symm.trans hc5)
  obtain ⟨vm', X', st⟩ := Jvm.Stand.thenCaughtThrough X q (g := F0 m pc ls rest) rfl (Steps.refl _) (by rw [hT]; exact hcell) (by rw [hv]; rfl) (by obtain ⟨k9, h9, -⟩ := Vm.findClass_spec hcl; exact ⟨k9, h9⟩) pre x suf hsplit
    (fun z hz => by
      rcases hpass z hz with h | ⟨hz0, nm, hl1, hn1⟩
      · exact Or.inl h
      · obtain ⟨c6, hc6, hcl6⟩ := Cond.classLink_spec hown hl1 e.platform hpl
        obtain ⟨a8, b8, h1, h2, h3⟩ := hn1
        cases Option.some.inj (h1.symm.trans hcl)
        cases Option.some.inj (h2.symm.trans hc6)
        exact Or.inr ⟨hz0, _, hcl6, h3⟩) hx (Or.inr ⟨h0, c4, hcl5, hasg⟩)
  obtain ⟨t, a1, b1⟩ := kk (T.setVm vm') hT X'
  exact ⟨t, st.trans a1, b1⟩
end Rows
section Ends
variable {p : Program} {l : Launch} {e : Env} {R : Room} {s : State} {m : MethodId} {args : Array Value} {below : List Frame} {meth : Method} {c : Code} {H : Heap} {locs : List Loc} {cells slots : Nat} {Q : State → Prop}
variable {mc ms : Nat} {free : Addr → Prop} {A0 A1 : Nat → Prop} {H0 : Heap} {a : Array Value} {ls : Array Slot} {st0 rest : List Value}
variable {Qc : Array Value → State → Outcome → State → Prop} {XC : String → State → State → Prop}
/-- what a body that may throw owes at its end -/
def vx_MQ (below : List Frame) (Qc : Array Value → State → Outcome → State → Prop) (XC : String → State → State → Prop) (a : Array Value) (s : State) (mc ms : Nat) (free : Addr → Prop) : State → Prop := fun t =>
  ∃ o, t.status = .running ∧ Ended t below o ∧ vx_Q Qc XC mc ms free a s o t
theorem vx_ret {g : JFrame} {mc ms : Nat} (k : W p l e R s m args below meth c H locs cells slots (MQ below Qc args s mc ms free) g) : W p l e R s m args below meth c H locs cells slots (vx_MQ below Qc XC args s mc ms free) g := by
  intro T hT X
  obtain ⟨t, a1, o, b1, b2, b3, b4⟩ := k T hT X
  exact ⟨t, a1, o, b1, b2, Or.inl ⟨b3, b4⟩⟩
/-- not caught here: it goes on to the caller -/
theorem vx_widen {g : JFrame} {q : Addr} {k n : Nat} (h1 : cells ≤ k) (h2 : slots ≤ n) (kk : vx_W p l e R s m args below meth c H locs k n Q g q) : vx_W p l e R s m args below meth c H locs cells slots Q g q := fun T hT X => kk T hT (stand_widen X h1 h2)
theorem vx_out {pc : Nat} {E : String} {ce : Cell} {q : Addr} {mc ms : Nat} (hout : ∀ x ∈ c.exceptionTable.toList, covers x pc = false) (hlocks : meth.locks = false) (hcell : H[q]? = some ce) (hv : ce.vm = .none) (hcl : s.vm.findClass E = some ce.cls)
    (hx : ∀ t : State, t.heap = H → s.vm.Alike t.vm → XC E s t) (hf : ∀ z ∈ locs, free z.base) (hc : cells ≤ mc) (hs : slots ≤ ms) :
    vx_W p l e R s m args below meth c H locs cells slots (vx_MQ below Qc XC args s mc ms free) (F0 m pc ls rest) q := by
  intro T hT X
  obtain ⟨st1, hrun, hend, hW, hsm⟩ := X.leaveThrown q (g := F0 m pc ls rest) rfl rfl rfl hout hlocks
  have hcell9 : (T.setFrames (.throwing q :: below)).heap[q]? = some ce := by
    show T.heap[q]? = some ce
    rw [hT]; exact hcell
  exact ⟨_, st1, .threw q, hrun, hend, Or.inr ⟨q, rfl, E, ce, locs, hx _ hT hW.alike, hcell9, hv, hcl, hW, hsm.mono hc hs, hf⟩⟩
theorem vx_frame {U : State} {k n : Nat} (h : s.sameButNew ({ U with vm := s.vm } : State) locs k n) : s.heap.size ≤ U.heap.size ∧ ∀ q : Nat, q < s.heap.size → (∀ z ∈ locs, z.base ≠ q) → U.heap[q]? = s.heap[q]? := by
  obtain ⟨-, h2, -, -, -, h6⟩ := h
  refine ⟨h2, fun q hq hz => ?_⟩
  obtain ⟨c9, e1, e2, e3, e4⟩ := h6 q _ (Array.getElem?_eq_getElem hq)
  have hs : c9.slots = (s.heap[q]).slots := Array.ext_getElem? fun i => e4 i fun hm => hz _ hm rfl
  have h9 : c9 = s.heap[q] := by
    rw [hs] at e2
    exact e2
  have e5 : U.heap[q]? = some c9 := e1
  rw [e5, h9, Array.getElem?_eq_getElem hq]
/-- the words of a throw but the four that speak of the heap -/
def vx_no (w : Cond) : Bool := decide (w ≠ .isRef (.static Bundle.tN "UNASSIGNED_STACK" Bundle.steD)) && decide (w ≠ .isRef (.static Bundle.tN "SUPPRESSED_SENTINEL" Bundle.listD)) && decide (w ≠ .laysStatic Bundle.tN "UNASSIGNED_STACK" Bundle.steD) && decide (w ≠ .laysStatic Bundle.tN "SUPPRESSED_SENTINEL" Bundle.listD)
def vx_at0 (own : String) (ic : Nat) (X : String) (names : List String) : List Cond := (Bundle.ownAtoms0 own ic X names).filter vx_no
def vx_atS (own : String) (ic : Nat) (X : String) (names : List String) : List Cond := (Bundle.ownAtoms own ic X names).filter vx_no
/-- a word that the tables alone decide, or a good one -/
def vx_ot (w : Cond) : Bool := w.onTables || goodWord w
theorem vx_ot_at {args a' : Array Value} {s U : State} {w : Cond} (hW : s.WarmedH U.vm) (hvm : s.vm = U.vm) (hg : vx_ot w = true) (h : w.before args s = true) : w.before a' U = true := by
  simp only [vx_ot, Bool.or_eq_true] at hg
  rcases hg with hg | hg
  · exact va_tabs hg hvm h
  · exact word_at hW (good_of_word hg) h
/-- a list's words: the good ones out of the method's own list, the others by premises of their own -/
theorem vx_hat {args : Array Value} {s : State} {L B : List Cond} (h1 : ∀ w ∈ L.filter goodWord, w.before args s = true) (h2 : ∀ w ∈ L.filter (fun w => !goodWord w), w ∈ B) (h3 : ∀ w ∈ B, w.before args s = true) : ∀ w ∈ L, w.before args s = true := by
  intro w hw
  by_cases g : goodWord w = true
  · exact h1 w (List.mem_filter.mpr ⟨hw, g⟩)
  · refine h3 w (h2 w (List.mem_filter.mpr ⟨hw, ?_⟩))
    show (!goodWord w) = true
    cases hgw : goodWord w
    · rfl
    · exact absurd hgw g
theorem vx_c {args : Array Value} {s : State} {w : Cond} {B : List Cond} (h : w.before args s = true) (t : ∀ w ∈ B, w.before args s = true) : ∀ w' ∈ w :: B, w'.before args s = true := fun w' h' => (List.mem_cons.mp h').elim (fun e => by rw [e]; exact h) (t w')
theorem vx_n {args : Array Value} {s : State} : ∀ w ∈ ([] : List Cond), w.before args s = true := fun _ h => nomatch h
theorem vx_own {args : Array Value} {s : State} {L : List Cond} (h1 : ∀ w ∈ L.filter vx_no, w.before args s = true)
    (hU : (Cond.isRef (.static Bundle.tN "UNASSIGNED_STACK" Bundle.steD)).before args s = true) (hN : (Cond.isRef (.static Bundle.tN "SUPPRESSED_SENTINEL" Bundle.listD)).before args s = true)
    (lU : (Cond.laysStatic Bundle.tN "UNASSIGNED_STACK" Bundle.steD).before args s = true) (lN : (Cond.laysStatic Bundle.tN "SUPPRESSED_SENTINEL" Bundle.listD).before args s = true) : ∀ w ∈ L, w.before args s = true := by
  intro w hw
  by_cases e1 : w = .isRef (.static Bundle.tN "UNASSIGNED_STACK" Bundle.steD)
  · rw [e1]; exact hU
  · by_cases e2 : w = .isRef (.static Bundle.tN "SUPPRESSED_SENTINEL" Bundle.listD)
    · rw [e2]; exact hN
    · by_cases e3 : w = .laysStatic Bundle.tN "UNASSIGNED_STACK" Bundle.steD
      · rw [e3]; exact lU
      · by_cases e4 : w = .laysStatic Bundle.tN "SUPPRESSED_SENTINEL" Bundle.listD
        · rw [e4]; exact lN
        · exact h1 w (List.mem_filter.mpr ⟨hw, by unfold vx_no; rw [decide_eq_true e1, decide_eq_true e2, decide_eq_true e3, decide_eq_true e4]; rfl⟩)
/-- where a static field lies, its class's statics cell in H -/
def vx_L (C n d : String) (A : Nat → Prop) (U : State) (H : Heap) : Prop := ∃ (c : ClassId) (k : Class) (i : Nat) (f : Field) (a : Nat) (cell : Cell), U.vm.findClass C = some c ∧ U.fieldFound? C n d = some (c, k, i, f) ∧ f.isStatic = true ∧ k.statics = some a ∧ H[a]? = some cell ∧ cell.vm.isStatics = true ∧ cell.cls = c ∧ f.slot < cell.slots.size ∧ k.staticTypes[f.slot]? = some f.type ∧ ¬ A a
theorem vx_L.moved {C n d : String} {A : Nat → Prop} {u U : State} {H : Heap} (hvm : u.vm.Alike U.vm) (h : vx_L C n d A u H) : vx_L C n d A U H := by
  obtain ⟨c, k, i, f, a, cell, h1, h2, h3, h4, h5, h6, h7, h8, h9, h10⟩ := h
  obtain ⟨k', hi', he⟩ := State.fieldFound?_setVm hvm h2
  exact ⟨c, k', i, f, a, cell, by rw [hvm.findClass]; exact h1, hi', h3, by rw [he]; exact h4, h5, h6, h7, h8, by rw [he]; exact h9, h10⟩
theorem vx_L.kept {C n d : String} {A : Nat → Prop} {U : State} {H H1 : Heap} (h : vx_L C n d A U H) (hq : ∀ a : Nat, a < H.size → ¬ A a → H1[a]? = H[a]?) : vx_L C n d A U H1 := by
  obtain ⟨c, k, i, f, a, cell, h1, h2, h3, h4, h5, h6, h7, h8, h9, h10⟩ := h
  exact ⟨c, k, i, f, a, cell, h1, h2, h3, h4, by rw [hq a (Array.getElem?_eq_some_iff.mp h5).1 h10]; exact h5, h6, h7, h8, h9, h10⟩
theorem vx_L.narrow {C n d : String} {A B : Nat → Prop} {U : State} {H : Heap} (h : vx_L C n d A U H) (hAB : ∀ q, B q → A q) : vx_L C n d B U H := by
  obtain ⟨c, k, i, f, a, cell, h1, h2, h3, h4, h5, h6, h7, h8, h9, h10⟩ := h
  exact ⟨c, k, i, f, a, cell, h1, h2, h3, h4, h5, h6, h7, h8, h9, fun z => h10 (hAB _ z)⟩
theorem vx_L.word {C n d : String} {A : Nat → Prop} {s : State} {args : Array Value} (h : vx_L C n d A s s.heap) : (Cond.laysStatic C n d).before args s = true := by
  obtain ⟨c, k, i, f, a, cell, h1, h2, h3, h4, h5, h6, h7, h8, h9, -⟩ := h
  show (Cond.laysStatic C n d).holds args s none s [] = true
  exact Cond.laysStatic_of h1 h2 h3 h4 h5 h6 h7 h8 h9
/-- .. and what it holds: null or some reference -/
def vx_Zq (C n d : String) (A : Nat → Prop) (U : State) (H : Heap) : Prop := va_Zq C n d A U H ∧ vx_L C n d A U H
theorem vx_Zq.moved {C n d : String} {A : Nat → Prop} {u U : State} {H : Heap} (hvm : u.vm.Alike U.vm) (h : vx_Zq C n d A u H) : vx_Zq C n d A U H := ⟨va_Zq.moved hvm h.1, vx_L.moved hvm h.2⟩
theorem vx_Zq.kept {C n d : String} {A : Nat → Prop} {U : State} {H H1 : Heap} (h : vx_Zq C n d A U H) (hq : ∀ a : Nat, a < H.size → ¬ A a → H1[a]? = H[a]?) : vx_Zq C n d A U H1 := ⟨va_Zq.kept h.1 hq, vx_L.kept h.2 hq⟩
theorem vx_Zq.narrow {C n d : String} {A B : Nat → Prop} {U : State} {H : Heap} (h : vx_Zq C n d A U H) (hAB : ∀ q, B q → A q) : vx_Zq C n d B U H := ⟨va_Zq.narrow h.1 hAB, vx_L.narrow h.2 hAB⟩
theorem vx_Zqof {args : Array Value} {s : State} {C n d : String} {A : Nat → Prop} (hl : (Cond.laysStatic C n d).before args s = true) (hini : (Cond.initialized C).before args s = true) (h : (Cond.isRef (.static C n d)).before args s = true) (hA : ∀ a : Nat, a < s.heap.size → ¬ A a) : vx_Zq C n d A s s.heap := by
  refine ⟨va_Zqof hl hini h hA, ?_⟩
  obtain ⟨c, k, i, f, a, cell, h1, h2, h3, h4, h5, h6, h7, h8, h9⟩ := Cond.laysStatic_spec hl
  exact ⟨c, k, i, f, a, cell, h1, h2, h3, h4, h5, h6, h7, h8, h9, hA a (Array.getElem?_eq_some_iff.mp h5).1⟩
theorem vx_isRef {C n d : String} {v : Value} {A : Nat → Prop} {s : State} {args : Array Value} (h : va_Z C n d v A s s.heap) (hv : v.isRef = true) : (Cond.isRef (.static C n d)).before args s = true := by
  obtain ⟨cf, kf, fi, f, a, cell, h1, h2, h3, h4, h5, h6, h7, -⟩ := h
  have he : (Term.static C n d).eval args s none [] s = some v := by
    simp [Term.eval, State.fieldNamed?, h1, h2, h4, h5, h6, h7]
  simp only [Cond.before, Cond.holds, Cond.value, he]
  cases v <;> simp_all [Value.isRef]
theorem vx_isRefq {C n d : String} {A : Nat → Prop} {s : State} {args : Array Value} (h : va_Zq C n d A s s.heap) : (Cond.isRef (.static C n d)).before args s = true := by
  rcases h with h | ⟨t, h⟩
  · exact vx_isRef h rfl
  · exact vx_isRef h rfl
/-- the same frame, seen from here: as if the method were called anew in this heap -/
theorem vx_rebase {T : State} (X : Stand p l e R s m args below meth c T locs cells slots) {R' : Room} (hf : R'.frames ≤ R.frames) (hl : R'.locals ≤ R.locals) (hc : cells + R'.cells ≤ R.cells) (hs : slots + R'.slots ≤ R.slots) :
    Stand p l e R' ((T.setVm s.vm).setFrames (.invoking m args :: below)) m args below meth c T [] 0 0 := by
  have htop : (T.setVm s.vm).topJava?.isSome := X.here.top
  have hF : ((T.setVm s.vm).setFrames (.invoking m args :: below)).frames = .invoking m args :: below := State.frames_setFrames _ (State.cur_lt_of_top htop)
  obtain ⟨g₀, hg0⟩ := Option.isSome_iff_exists.mp htop
  obtain ⟨r, hr⟩ := State.topJava?_eq_some.mp hg0
  have hl9 : e.platform.stackLimits (T.setVm s.vm).me = e.platform.stackLimits s.me := X.limits
  have hb9 : (T.setVm s.vm).me.stackBytes = s.me.stackBytes := X.bytes
  refine ⟨X.admits, X.cas, X.clock, hF, ?_, X.hears, X.method, X.code, X.here, X.tail, X.warmed, ?_, ?_, ?_⟩
  · have h := X.room
    have hU : ((T.setVm s.vm).setFrames (.invoking m args :: below)).localsInUse = s.localsInUse := by
      rw [State.localsInUse_invoking hF (meth := meth) (c := c) X.method X.code, State.localsInUse_invoking X.frames X.method X.code]
    simp only [State.hasRoom, Bool.and_eq_true, decide_eq_true_eq] at h ⊢
    obtain ⟨⟨⟨⟨h1, h2, h3, h4, h5, h6⟩, h7⟩, h8⟩, h9⟩ := h
    rw [X.frames, List.length_cons] at h2 h3
    have q1 := X.heapSize
    have q2 := X.used
    simp only [hF, hU, List.length_cons, State.stackLimits_setFrames, State.stackBytes_setFrames, hl9, hb9]
    refine ⟨⟨⟨⟨by omega, by omega, by omega, by omega, by omega, h6⟩, ?_⟩, ?_⟩, X.book⟩
    · show T.heap.size + R'.cells ≤ e.platform.maxCells
      omega
    · show T.slotsUsed + R'.slots ≤ e.platform.maxSlots
      omega
  · rw [State.stackLimits_setFrames]; rfl
  · rw [State.stackBytes_setFrames]; rfl
  · refine ⟨?_, Nat.le_refl _, Nat.le_refl _, ?_, ?_, fun a c9 h9 => ⟨c9, h9, rfl, rfl, fun _ _ => rfl⟩⟩
    · obtain ⟨t, ht, -⟩ := State.frames_cons hr
      show T.setVm s.vm = { ((T.setVm s.vm).setFrames (.invoking m args :: below)).setFrames (T.setVm s.vm).frames with heap := T.heap, slotsUsed := T.slotsUsed }
      rw [State.setFrames_setFrames, State.setFrames_self ht]
      rfl
    · show T.slotsUsed = T.slotsUsed + ((T.heap.toList.drop T.heap.size).map (·.slots.size)).sum
      rw [List.drop_eq_nil_of_le (Nat.le_of_eq Array.length_toList)]
      rfl
    · show ((T.heap.toList.drop T.heap.size).map (·.slots.size)).sum ≤ 0
      rw [List.drop_eq_nil_of_le (Nat.le_of_eq Array.length_toList)]
      exact Nat.le_refl _
/-- 'throw new E()': new; dup; invokespecial; athrow -/
theorem vx_throw0 {cc : ByteArray} {pc : Nat} (hexec : p.tables.exec = Jvm.exec) (hb : c.code = cc) (hl : l.stackTraces = false) {own cls : String} {names : List String} {ik ic mc ms : Nat} {A : Nat → Prop}
    (hown : s.vm.findClass own = some m.cls) (hcls : Bundle.fit cls = true) (hnames : ∀ n ∈ names, Bundle.fit n = true)
    (hk : (Cond.classLink own ik cls).before args s = true) (hini : (Cond.initialized cls).before args s = true) (hat : ∀ w ∈ vx_at0 own ic cls names, w.before args s = true)
    (hgood : ∀ w ∈ Cond.classLink own ik cls :: Cond.initialized cls :: vx_at0 own ic cls names, vx_ot w = true)
    (hU : vx_Zq Bundle.tN "UNASSIGNED_STACK" Bundle.steD A s s.heap) (hN : vx_Zq Bundle.tN "SUPPRESSED_SENTINEL" Bundle.listD A s s.heap) (hS : va_S A s.heap H locs) (hsize : ls.size = c.maxLocals)
    (d0 : decode cc pc = .ok (.new ik, 3)) (d3 : decode cc (pc + 3) = .ok (.dup, 1)) (d4 : decode cc (pc + 4) = .ok (.invokespecial ic, 3)) (d7 : decode cc (pc + 7) = .ok (.athrow, 1))
    (hout : ∀ x ∈ c.exceptionTable.toList, covers x (pc + 7) = false)
    (hRframes : names.length + 3 < R.frames) (hRlocals : (rest.map fun v => v.category).sum + (13 * (names.length + 1) + 42) ≤ R.locals) (hRcells : cells + 1 ≤ R.cells) (hRslots : slots + 6 ≤ R.slots) (hlocks : meth.locks = false)
    (hx : ∀ t : State, s.vm.Alike t.vm → H.size ≤ t.heap.size → (∀ q : Nat, q < H.size → t.heap[q]? = H[q]?) → XC cls s t)
    (hf : ∀ z ∈ locs, free z.base) (hc : cells + 1 ≤ mc) (hs : slots + 6 ≤ ms) :
    W p l e R s m args below meth c H locs cells slots (vx_MQ below Qc XC args s mc ms free) (F0 m pc ls rest) := by
  intro T hT X
  have htr : e.platform.stackTraces = false := (show e.platform.stackTraces = l.stackTraces by rw [X.admits.platform]).trans hl
  have Y := vx_rebase X (R' := { frames := R.frames, locals := R.locals, cells := 1, slots := 6 }) (Nat.le_refl _) (Nat.le_refl _) hRcells hRslots
  obtain ⟨s', hA⟩ : ∃ z, z = (T.setVm s.vm).setFrames (.invoking m args :: below) := ⟨_, rfl⟩
  rw [← hA] at Y
  have hvm : s'.vm = s.vm := by rw [hA]; rfl
  have hhp : s'.heap = H := by rw [hA]; exact hT
  have hW0 : s.WarmedH s'.vm := by rw [hvm]; exact State.WarmedH.refl s
  have hat' : ∀ w ∈ vx_at0 own ic cls names, w.before args s' = true := fun w hw => vx_ot_at hW0 hvm.symm (hgood w (List.mem_cons_of_mem _ (List.mem_cons_of_mem _ hw))) (hat w hw)
  have hk' : (Cond.classLink own ik cls).before args s' = true := vx_ot_at hW0 hvm.symm (hgood _ List.mem_cons_self) hk
  have hini' : (Cond.initialized cls).before args s' = true := vx_ot_at hW0 hvm.symm (hgood _ (List.mem_cons_of_mem _ List.mem_cons_self)) hini
  have hU' : vx_Zq Bundle.tN "UNASSIGNED_STACK" Bundle.steD A s' s'.heap := by rw [hhp]; exact vx_Zq.moved hW0.alike (hU.kept hS.2.1)
  have hN' : vx_Zq Bundle.tN "SUPPRESSED_SENTINEL" Bundle.listD A s' s'.heap := by rw [hhp]; exact vx_Zq.moved hW0.alike (hN.kept hS.2.1)
  have h : ∀ w ∈ Bundle.ownAtoms0 own ic cls names, w.before args s' = true := vx_own hat' (vx_isRefq hU'.1) (vx_isRefq hN'.1) hU'.2.word hN'.2.word
  have hown' : s'.vm.findClass own = some m.cls := by rw [hvm]; exact hown
  have hins : (Cond.instantiable cls 6).before args s' = true := h _ (by simp [Bundle.ownAtoms0])
  obtain ⟨vm₁, cX, kX, hfX, hkX, -, -, X₁, st1⟩ := Y.newCold hexec (own := own) (C := cls) (index := ik) (n := 6) hown' hk' hins hini'
    (g := F0 m pc ls rest) rfl (by rw [hb]; exact d0) (Nat.le_refl _) (Nat.le_refl _)
  generalize hT1 : (T.setVm vm₁).pushCell { cls := cX, slots := kX.instanceTypes.map defaultValue, vm := .none } = T1 at X₁ st1
  have hcat : (Value.ref T.heap.size).category = 1 := rfl
  have hcellA : T1.heap[T.heap.size]? = some (freshCell cX kX) := by rw [← hT1]; exact State.heap_pushCell_size _ _
  have d3' : decode c.code (pc + 3) = .ok (.dup, 1) := by rw [hb]; exact d3
  obtain ⟨U, hsteps, hrun, hend, hW, hsame, ce, hce, hO⟩ := X₁.ctorThrow0 hexec htr (own := own) (cls := cls) (names := names) (ic := ic) hown' hcls hnames h (fun x hx => nomatch hx) hfX hkX hcellA (by rw [hhp, hT]; exact Nat.le_refl _)
    (g := { method := m, pc := pc + 4, locals := ls, stack := .ref T.heap.size :: .ref T.heap.size :: rest, locked := none }) rfl hsize rfl rfl (rest := rest) rfl
    (by rw [hb]; exact d4) (by rw [hb]; exact d7) hout hRframes (by simp only [List.map_cons, List.sum_cons, hcat]; omega) hlocks
  obtain ⟨f1, f2⟩ := vx_frame hsame
  rw [hhp] at f1 f2
  have hWs : s.WarmedH U.vm := State.WarmedH.trans hW0 hW
  have hcl : s.vm.findClass cls = some ce.cls := by
    have h9 := hO.cls
    rw [hvm] at h9
    exact h9
  have hall : s.sameButNew ({ U with vm := s.vm } : State) locs mc ms := by
    subst hA
    obtain ⟨e1, e2⟩ := hsame
    rw [State.setFrames_setFrames] at e1
    have h2 : (T.setVm s.vm).sameButNew ({ U with vm := s.vm } : State) [] (0 + 1) (0 + 6) := ⟨e1, e2⟩
    have h3 := X.same.trans h2
    rw [List.append_nil] at h3
    exact h3.mono hc hs
  refine ⟨U, ?_, .threw T.heap.size, hrun, hend, Or.inr ⟨T.heap.size, rfl, cls, ce, locs, hx U hWs.alike f1 (fun q hq => f2 q hq (fun z hz => nomatch hz)), hce, hO.vm, hcl, hWs, hall, hf⟩⟩
  refine st1 _ ?_
  show Steps p.tables e below (T1.setTop { method := m, pc := pc + 3, locals := ls, stack := .ref T.heap.size :: rest, locked := none }) _
  jvm_step X₁.here [X₁.here.top, hexec, d3', Value.category]
  exact hsteps
/-- 'throw new E("text")': new; dup; ldc; invokespecial; athrow -/
theorem vx_throwS {cc : ByteArray} {pc : Nat} (hexec : p.tables.exec = Jvm.exec) (hb : c.code = cc) (hl : l.stackTraces = false) {own cls text : String} {names : List String} {ik is ic mc ms sa : Nat} {A : Nat → Prop}
    (hown : s.vm.findClass own = some m.cls) (hcls : Bundle.fit cls = true) (hnames : ∀ n ∈ names, Bundle.fit n = true)
    (hk : (Cond.classLink own ik cls).before args s = true) (hini : (Cond.initialized cls).before args s = true) (hstr : vk_R own is text sa s) (hat : ∀ w ∈ vx_atS own ic cls names, w.before args s = true)
    (hgood : ∀ w ∈ Cond.classLink own ik cls :: Cond.initialized cls :: vx_atS own ic cls names, vx_ot w = true)
    (hU : vx_Zq Bundle.tN "UNASSIGNED_STACK" Bundle.steD A s s.heap) (hN : vx_Zq Bundle.tN "SUPPRESSED_SENTINEL" Bundle.listD A s s.heap) (hS : va_S A s.heap H locs) (hsize : ls.size = c.maxLocals)
    (d0 : decode cc pc = .ok (.new ik, 3)) (d3 : decode cc (pc + 3) = .ok (.dup, 1)) (d4 : decode cc (pc + 4) = .ok (.ldc is, 2)) (d6 : decode cc (pc + 6) = .ok (.invokespecial ic, 3)) (d9 : decode cc (pc + 9) = .ok (.athrow, 1))
    (hout : ∀ x ∈ c.exceptionTable.toList, covers x (pc + 9) = false)
    (hRframes : names.length + 3 < R.frames) (hRlocals : (rest.map fun v => v.category).sum + (13 * (names.length + 1) + 43) ≤ R.locals) (hRcells : cells + 1 ≤ R.cells) (hRslots : slots + 6 ≤ R.slots) (hlocks : meth.locks = false)
    (hx : ∀ t : State, s.vm.Alike t.vm → H.size ≤ t.heap.size → (∀ q : Nat, q < H.size → t.heap[q]? = H[q]?) → XC cls s t)
    (hf : ∀ z ∈ locs, free z.base) (hc : cells + 1 ≤ mc) (hs : slots + 6 ≤ ms) :
    W p l e R s m args below meth c H locs cells slots (vx_MQ below Qc XC args s mc ms free) (F0 m pc ls rest) := by
  intro T hT X
  have htr : e.platform.stackTraces = false := (show e.platform.stackTraces = l.stackTraces by rw [X.admits.platform]).trans hl
  have Y := vx_rebase X (R' := { frames := R.frames, locals := R.locals, cells := 1, slots := 6 }) (Nat.le_refl _) (Nat.le_refl _) hRcells hRslots
  obtain ⟨s', hA⟩ : ∃ z, z = (T.setVm s.vm).setFrames (.invoking m args :: below) := ⟨_, rfl⟩
  rw [← hA] at Y
  have hvm : s'.vm = s.vm := by rw [hA]; rfl
  have hhp : s'.heap = H := by rw [hA]; exact hT
  have hW0 : s.WarmedH s'.vm := by rw [hvm]; exact State.WarmedH.refl s
  have hat' : ∀ w ∈ vx_atS own ic cls names, w.before args s' = true := fun w hw => vx_ot_at hW0 hvm.symm (hgood w (List.mem_cons_of_mem _ (List.mem_cons_of_mem _ hw))) (hat w hw)
  have hk' : (Cond.classLink own ik cls).before args s' = true := vx_ot_at hW0 hvm.symm (hgood _ List.mem_cons_self) hk
  have hini' : (Cond.initialized cls).before args s' = true := vx_ot_at hW0 hvm.symm (hgood _ (List.mem_cons_of_mem _ List.mem_cons_self)) hini
  have hU' : vx_Zq Bundle.tN "UNASSIGNED_STACK" Bundle.steD A s' s'.heap := by rw [hhp]; exact vx_Zq.moved hW0.alike (hU.kept hS.2.1)
  have hN' : vx_Zq Bundle.tN "SUPPRESSED_SENTINEL" Bundle.listD A s' s'.heap := by rw [hhp]; exact vx_Zq.moved hW0.alike (hN.kept hS.2.1)
  have h : ∀ w ∈ Bundle.ownAtoms own ic cls names, w.before args s' = true := vx_own hat' (vx_isRefq hU'.1) (vx_isRefq hN'.1) hU'.2.word hN'.2.word
  have hown' : s'.vm.findClass own = some m.cls := by rw [hvm]; exact hown
  have hins : (Cond.instantiable cls 6).before args s' = true := h _ (by simp [Bundle.ownAtoms])
  obtain ⟨vm₁, cX, kX, hfX, hkX, -, -, X₁, st1⟩ := Y.newCold hexec (own := own) (C := cls) (index := ik) (n := 6) hown' hk' hins hini'
    (g := F0 m pc ls rest) rfl (by rw [hb]; exact d0) (Nat.le_refl _) (Nat.le_refl _)
  generalize hT1 : (T.setVm vm₁).pushCell { cls := cX, slots := kX.instanceTypes.map defaultValue, vm := .none } = T1 at X₁ st1
  have hcat : (Value.ref T.heap.size).category = 1 := rfl
  have hcellA : T1.heap[T.heap.size]? = some (freshCell cX kX) := by rw [← hT1]; exact State.heap_pushCell_size _ _
  have d3' : decode c.code (pc + 3) = .ok (.dup, 1) := by rw [hb]; exact d3
  have d4' : decode c.code (pc + 4) = .ok (.ldc is, 2) := by rw [hb]; exact d4
  have hstr' : vk_R own is text sa s' := vk_R.warm hW0 hstr
  obtain ⟨U, hsteps, hrun, hend, hW, hsame, ce, hce, hO⟩ := X₁.ctorThrowS hexec htr (own := own) (cls := cls) (names := names) (ic := ic) hown' hcls hnames h (fun x hx => nomatch hx) hfX hkX hcellA (by rw [hhp, hT]; exact Nat.le_refl _) (msg := .ref sa) rfl
    (g := { method := m, pc := pc + 6, locals := ls, stack := .ref sa :: .ref T.heap.size :: .ref T.heap.size :: rest, locked := none }) rfl hsize rfl rfl (rest := rest) rfl
    (by rw [hb]; exact d6) (by rw [hb]; exact d9) hout hRframes (by simp only [List.map_cons, List.sum_cons, hcat]; omega) hlocks
  obtain ⟨f1, f2⟩ := vx_frame hsame
  rw [hhp] at f1 f2
  have hWs : s.WarmedH U.vm := State.WarmedH.trans hW0 hW
  have hcl : s.vm.findClass cls = some ce.cls := by
    have h9 := hO.cls
    rw [hvm] at h9
    exact h9
  have hall : s.sameButNew ({ U with vm := s.vm } : State) locs mc ms := by
    subst hA
    obtain ⟨e1, e2⟩ := hsame
    rw [State.setFrames_setFrames] at e1
    have h2 : (T.setVm s.vm).sameButNew ({ U with vm := s.vm } : State) [] (0 + 1) (0 + 6) := ⟨e1, e2⟩
    have h3 := X.same.trans h2
    rw [List.append_nil] at h3
    exact h3.mono hc hs
  refine ⟨U, ?_, .threw T.heap.size, hrun, hend, Or.inr ⟨T.heap.size, rfl, cls, ce, locs, hx U hWs.alike f1 (fun q hq => f2 q hq (fun z hz => nomatch hz)), hce, hO.vm, hcl, hWs, hall, hf⟩⟩
  refine st1 _ ?_
  show Steps p.tables e below (T1.setTop { method := m, pc := pc + 3, locals := ls, stack := .ref T.heap.size :: rest, locked := none }) _
  jvm_step X₁.here [X₁.here.top, hexec, d3', Value.category]
  exact X₁.ldcString hexec (own := own) (text := text) (index := is) (a := sa) hown' hstr'.1 hstr'.2
    (g := { method := m, pc := pc + 4, locals := ls, stack := .ref T.heap.size :: .ref T.heap.size :: rest, locked := none }) rfl d4' _ hsteps
/-- 'throw new E("text")', the text by a wide index -/
theorem vx_throwSW {cc : ByteArray} {pc : Nat} (hexec : p.tables.exec = Jvm.exec) (hb : c.code = cc) (hl : l.stackTraces = false) {own cls text : String} {names : List String} {ik is ic mc ms sa : Nat} {A : Nat → Prop}
    (hown : s.vm.findClass own = some m.cls) (hcls : Bundle.fit cls = true) (hnames : ∀ n ∈ names, Bundle.fit n = true)
    (hk : (Cond.classLink own ik cls).before args s = true) (hini : (Cond.initialized cls).before args s = true) (hstr : vk_R own is text sa s) (hat : ∀ w ∈ vx_atS own ic cls names, w.before args s = true)
    (hgood : ∀ w ∈ Cond.classLink own ik cls :: Cond.initialized cls :: vx_atS own ic cls names, vx_ot w = true)
    (hU : vx_Zq Bundle.tN "UNASSIGNED_STACK" Bundle.steD A s s.heap) (hN : vx_Zq Bundle.tN "SUPPRESSED_SENTINEL" Bundle.listD A s s.heap) (hS : va_S A s.heap H locs) (hsize : ls.size = c.maxLocals)
    (d0 : decode cc pc = .ok (.new ik, 3)) (d3 : decode cc (pc + 3) = .ok (.dup, 1)) (d4 : decode cc (pc + 4) = .ok (.ldc_w is, 3)) (d7 : decode cc (pc + 7) = .ok (.invokespecial ic, 3)) (d10 : decode cc (pc + 10) = .ok (.athrow, 1))
    (hout : ∀ x ∈ c.exceptionTable.toList, covers x (pc + 10) = false)
    (hRframes : names.length + 3 < R.frames) (hRlocals : (rest.map fun v => v.category).sum + (13 * (names.length + 1) + 43) ≤ R.locals) (hRcells : cells + 1 ≤ R.cells) (hRslots : slots + 6 ≤ R.slots) (hlocks : meth.locks = false)
    (hx : ∀ t : State, s.vm.Alike t.vm → H.size ≤ t.heap.size → (∀ q : Nat, q < H.size → t.heap[q]? = H[q]?) → XC cls s t)
    (hf : ∀ z ∈ locs, free z.base) (hc : cells + 1 ≤ mc) (hs : slots + 6 ≤ ms) :
    W p l e R s m args below meth c H locs cells slots (vx_MQ below Qc XC args s mc ms free) (F0 m pc ls rest) := by
  intro T hT X
  have htr : e.platform.stackTraces = false := (show e.platform.stackTraces = l.stackTraces by rw [X.admits.platform]).trans hl
  have Y := vx_rebase X (R' := { frames := R.frames, locals := R.locals, cells := 1, slots := 6 }) (Nat.le_refl _) (Nat.le_refl _) hRcells hRslots
  obtain ⟨s', hA⟩ : ∃ z, z = (T.setVm s.vm).setFrames (.invoking m args :: below) := ⟨_, rfl⟩
  rw [← hA] at Y
  have hvm : s'.vm = s.vm := by rw [hA]; rfl
  have hhp : s'.heap = H := by rw [hA]; exact hT
  have hW0 : s.WarmedH s'.vm := by rw [hvm]; exact State.WarmedH.refl s
  have hat' : ∀ w ∈ vx_atS own ic cls names, w.before args s' = true := fun w hw => vx_ot_at hW0 hvm.symm (hgood w (List.mem_cons_of_mem _ (List.mem_cons_of_mem _ hw))) (hat w hw)
  have hk' : (Cond.classLink own ik cls).before args s' = true := vx_ot_at hW0 hvm.symm (hgood _ List.mem_cons_self) hk
  have hini' : (Cond.initialized cls).before args s' = true := vx_ot_at hW0 hvm.symm (hgood _ (List.mem_cons_of_mem _ List.mem_cons_self)) hini
  have hU' : vx_Zq Bundle.tN "UNASSIGNED_STACK" Bundle.steD A s' s'.heap := by rw [hhp]; exact vx_Zq.moved hW0.alike (hU.kept hS.2.1)
  have hN' : vx_Zq Bundle.tN "SUPPRESSED_SENTINEL" Bundle.listD A s' s'.heap := by rw [hhp]; exact vx_Zq.moved hW0.alike (hN.kept hS.2.1)
  have h : ∀ w ∈ Bundle.ownAtoms own ic cls names, w.before args s' = true := vx_own hat' (vx_isRefq hU'.1) (vx_isRefq hN'.1) hU'.2.word hN'.2.word
  have hown' : s'.vm.findClass own = some m.cls := by rw [hvm]; exact hown
  have hins : (Cond.instantiable cls 6).before args s' = true := h _ (by simp [Bundle.ownAtoms])
  obtain ⟨vm₁, cX, kX, hfX, hkX, -, -, X₁, st1⟩ := Y.newCold hexec (own := own) (C := cls) (index := ik) (n := 6) hown' hk' hins hini'
    (g := F0 m pc ls rest) rfl (by rw [hb]; exact d0) (Nat.le_refl _) (Nat.le_refl _)
  generalize hT1 : (T.setVm vm₁).pushCell { cls := cX, slots := kX.instanceTypes.map defaultValue, vm := .none } = T1 at X₁ st1
  have hcat : (Value.ref T.heap.size).category = 1 := rfl
  have hcellA : T1.heap[T.heap.size]? = some (freshCell cX kX) := by rw [← hT1]; exact State.heap_pushCell_size _ _
  have d3' : decode c.code (pc + 3) = .ok (.dup, 1) := by rw [hb]; exact d3
  have d4' : decode c.code (pc + 4) = .ok (.ldc_w is, 3) := by rw [hb]; exact d4
  have hstr' : vk_R own is text sa s' := vk_R.warm hW0 hstr
  obtain ⟨U, hsteps, hrun, hend, hW, hsame, ce, hce, hO⟩ := X₁.ctorThrowS hexec htr (own := own) (cls := cls) (names := names) (ic := ic) hown' hcls hnames h (fun x hx => nomatch hx) hfX hkX hcellA (by rw [hhp, hT]; exact Nat.le_refl _) (msg := .ref sa) rfl
    (g := { method := m, pc := pc + 7, locals := ls, stack := .ref sa :: .ref T.heap.size :: .ref T.heap.size :: rest, locked := none }) rfl hsize rfl rfl (rest := rest) rfl
    (by rw [hb]; exact d7) (by rw [hb]; exact d10) hout hRframes (by simp only [List.map_cons, List.sum_cons, hcat]; omega) hlocks
  obtain ⟨f1, f2⟩ := vx_frame hsame
  rw [hhp] at f1 f2
  have hWs : s.WarmedH U.vm := State.WarmedH.trans hW0 hW
  have hcl : s.vm.findClass cls = some ce.cls := by
    have h9 := hO.cls
    rw [hvm] at h9
    exact h9
  have hall : s.sameButNew ({ U with vm := s.vm } : State) locs mc ms := by
    subst hA
    obtain ⟨e1, e2⟩ := hsame
    rw [State.setFrames_setFrames] at e1
    have h2 : (T.setVm s.vm).sameButNew ({ U with vm := s.vm } : State) [] (0 + 1) (0 + 6) := ⟨e1, e2⟩
    have h3 := X.same.trans h2
    rw [List.append_nil] at h3
    exact h3.mono hc hs
  refine ⟨U, ?_, .threw T.heap.size, hrun, hend, Or.inr ⟨T.heap.size, rfl, cls, ce, locs, hx U hWs.alike f1 (fun q hq => f2 q hq (fun z hz => nomatch hz)), hce, hO.vm, hcl, hWs, hall, hf⟩⟩
  refine st1 _ ?_
  show Steps p.tables e below (T1.setTop { method := m, pc := pc + 3, locals := ls, stack := .ref T.heap.size :: rest, locked := none }) _
  jvm_step X₁.here [X₁.here.top, hexec, d3', Value.category]
  exact X₁.ldcStringW hexec (own := own) (text := text) (index := is) (a := sa) hown' hstr'.1 hstr'.2
    (g := { method := m, pc := pc + 4, locals := ls, stack := .ref T.heap.size :: .ref T.heap.size :: rest, locked := none }) rfl d4' _ hsteps
end Ends
section Bodies
variable {l : Launch}
theorem vx_ofW {y : MethodName} {ws ws' : List Cond} {rm : Room} {Pc : Array Value → State → Prop} {Qc : Array Value → State → Outcome → State → Prop} {XC : String → State → State → Prop} {mc ms : Nat} {free : Addr → Prop} {cc : ByteArray} {maxL : Nat} {ret : Option FieldType}
    (hy : plainName y.cls = true) (hw : ws = Cond.code y cc maxL ret :: ws')
    (body : ∀ p e s m args below meth c s₁, BodyLoose p l y (headSpec ws rm) cc maxL ret e s m args below meth c s₁ → c.maxLocals = maxL → (∀ x ∈ c.exceptionTable.toList, False) → Pc args s →
      W p l e (headSpec ws rm).room s m args below meth c s.heap [] 0 0 (vx_MQ below Qc XC args s mc ms free) (entryFrame m args maxL)) : vx_Met l y ws rm Pc Qc XC mc ms free := by
  refine MetFree.of_bodyS (code := cc) (maxLocals := maxL) (ret := ret) hy ?_ ?_
  · intro args s m h hn
    obtain ⟨meth, c, h1, h2, h3, h4, h5, h6, -, -⟩ := Cond.code_spec hn (atoms_spec (ws := ws) h _ (by rw [hw]; exact List.mem_cons_self))
    exact ⟨meth, c, h1, h2, h3, h4, h5, h6⟩
  · intro p e s m args below meth c s₁ B hml hP _
    have hh0 : s₁.heap = s.heap := by rw [B.state]; rfl
    have ht : ∀ x ∈ c.exceptionTable.toList, False := by
      obtain ⟨meth9, c9, h1, h2, -, -, -, -, h7, -⟩ := Cond.code_spec B.named (atoms_spec (ws := ws) B.pre _ (by rw [hw]; exact List.mem_cons_self))
      cases Option.some.inj (h1.symm.trans B.method)
      cases Option.some.inj (h2.symm.trans (Stand.of_body B).code)
      intro x hx
      rw [Array.isEmpty_iff.mp h7] at hx
      cases hx
    obtain ⟨t, a1, o, b1, b2, b3⟩ := body p e s m args below meth c s₁ B hml ht hP s₁ hh0 (Stand.of_body B)
    exact ⟨t, o, a1, b1, b2, b3⟩
/-- the table of a body with handlers -/
theorem vx_table {p : Program} {x y : MethodName} {S : Spec} {cc bytes : ByteArray} {maxL maxL' : Nat} {ret ret' : Option FieldType} {e : Env} {s s₁ : State} {m : MethodId} {args : Array Value} {below : List Frame} {meth : Method} {c : Code} {hh : List (Nat × Nat × Nat × Nat)}
    (B : BodyLoose p l y S cc maxL ret e s m args below meth c s₁) (h : (Cond.codeWith y bytes maxL' ret' hh).before args s = true) : c.exceptionTable.toList = tableOf hh := by
  obtain ⟨m9, meth9, c9, hn9, h1, h2, -, -, h6, -⟩ := Cond.codeWith_spec h
  cases Option.some.inj (hn9.symm.trans B.named)
  cases Option.some.inj (h1.symm.trans B.method)
  cases Option.some.inj (h2.symm.trans (Stand.of_body B).code)
  rw [← h6, table_eq]
end Bodies
end VXA
/-! ===== END ===== -/
/-! ===== BEGIN a static call of a method with an exception table ===== -/
section VXS
variable {p : Program} {l : Launch} {e : Env} {R : Room} {s : State} {m : MethodId} {args : Array Value} {below : List Frame} {meth : Method} {c : Code} {T : State} {H : Heap} {locs : List Loc} {cells slots : Nat}
abbrev vx_CSW (R : Room) (s : State) (args : Array Value) (own : String) (index : Nat) (y : MethodName) (bytes : ByteArray) (maxL : Nat) (ret : Option FieldType) (hh : List (Nat × Nat × Nat × Nat)) (ws : List Cond) (rm : Room) (mc ms n : Nat) : Prop :=
  (rm.cells = mc ∧ rm.slots = ms ∧ rm.frames + 1 ≤ R.frames ∧ 8 + (maxL + 11) + rm.locals ≤ R.locals ∧ (∀ w ∈ ws, ∀ (a' : Array Value) (U : State), s.WarmedH U.vm → w.before a' U = true) ∧ Cond.codeWith y bytes maxL ret hh ∈ ws) ∧
  (Cond.codeWith y bytes maxL ret hh).before args s = true ∧ (Cond.initialized y.cls).before args s = true ∧ (y.cls ≠ "java/lang/invoke/MethodHandle" ∧ y.cls ≠ "java/lang/invoke/VarHandle") ∧
  (∀ sig, parseMethodDescriptor y.desc = some sig → n = sig.parameters.length) ∧ (Cond.methodLink own index y).before args s = true ∧ (Cond.static y).before args s = true
theorem vx_cwSW {own : String} {index maxL mc ms : Nat} {y : MethodName} {bytes : ByteArray} {ret : Option FieldType} {hh : List (Nat × Nat × Nat × Nat)} {Ts ws ws' : List Cond} {rm : Room} (n : Nat) (ht : ∀ w ∈ Ts, w.before args s = true) (hT : GoodIn Ts (va_wsS own index y ws)) (hw : ws = Cond.codeWith y bytes maxL ret hh :: ws') (hrc : rm.cells = mc) (hrs : rm.slots = ms)
    (hd : y.cls ≠ "java/lang/invoke/MethodHandle" ∧ y.cls ≠ "java/lang/invoke/VarHandle" ∧ (parseMethodDescriptor y.desc).map (fun d => d.parameters.length) = some n) (hR : rm.frames + 1 ≤ R.frames ∧ 8 + (maxL + 11) + rm.locals ≤ R.locals) :
    vx_CSW R s args own index y bytes maxL ret hh ws rm mc ms n := by
  have ok : ∀ w ∈ va_wsS own index y ws, w.before args s = true := fun w h => ht w (hT w h).1
  have hG : GoodIn Ts ws := fun w h => hT w (by unfold va_wsS; exact List.mem_append_right _ h)
  have hc : Cond.codeWith y bytes maxL ret hh ∈ ws := by rw [hw]; exact List.mem_cons_self
  refine ⟨⟨hrc, hrs, hR.1, hR.2, pay_in ht hG, hc⟩, ht _ (hG _ hc).1, ok _ (by simp [va_wsS]), ⟨hd.1, hd.2.1⟩, fun sig h => ?_, ok _ (by simp [va_wsS]), ok _ (by simp [va_wsS])⟩
  have h2 := hd.2.2
  rw [h] at h2
  exact (Option.some.inj h2).symm
theorem vx_callSW (X : Stand p l e R s m args below meth c T locs cells slots) (hexec : p.tables.exec = Jvm.exec) {own : String} {index : Nat} {y : MethodName} {bytes : ByteArray} {maxL : Nat} {ret : Option FieldType} {hh : List (Nat × Nat × Nat × Nat)}
    (hown : s.vm.findClass own = some m.cls) (hlink : (Cond.methodLink own index y).before args s = true) (hstat : (Cond.static y).before args s = true) (hinit : (Cond.initialized y.cls).before args s = true)
    (hcode : (Cond.codeWith y bytes maxL ret hh).before args s = true) (hy : y.cls ≠ "java/lang/invoke/MethodHandle" ∧ y.cls ≠ "java/lang/invoke/VarHandle")
    {W9 : Nat} {Pre : Pt → Array Value → Prop} {Post : Pt → Array Value → Option Value → Pt → Prop} (hK : Back l R p e below s args y 3 W9 Pre Post)
    {g : JFrame} (hg : g.method = m) (hsize : g.locals.size = c.maxLocals) {argsL rest : List Value} (hlen : ∀ sig, parseMethodDescriptor y.desc = some sig → argsL.length = sig.parameters.length)
    (hstack : g.stack = argsL.reverse ++ rest) (hW : 2 * g.monitorRoom + (rest.map fun v => v.category).sum ≤ W9) (hdg : decode c.code g.pc = .ok (.invokestatic index, 3))
    (hpre : ∀ vm₁, s.WarmedH vm₁ → Pre ⟨T.setVm vm₁, locs, cells, slots⟩ argsL.toArray) :
    ∃ (v : Option Value) (vm₁ : Vm) (B : Pt), s.WarmedH vm₁ ∧ Stand p l e R s m args below meth c B.U B.locs B.cells B.slots ∧ Post ⟨T.setVm vm₁, locs, cells, slots⟩ argsL.toArray v B ∧
      ∀ target, Steps p.tables e below (B.U.setTop { g with pc := g.pc + 3, stack := v.toList ++ rest }) target → Steps p.tables e below (T.setTop g) target := by
  obtain ⟨mk, methM, cM, hnamed, hmethM, -, -, -, -, -, -, hsigM⟩ := Cond.codeWith_spec hcode
  have hstatic : methM.isStatic = true := Cond.static_spec hnamed hmethM hstat
  obtain ⟨kP, hkP, -⟩ := className_of_methodNamed hnamed
  have hinitP : kP.init = .initialized := Cond.initialized_spec (findClass_of_methodNamed hnamed) hkP hinit
  obtain ⟨vm₁, X₁, hstep₁⟩ := X.invokestatic hexec hown hlink hnamed hmethM hstatic hkP hinitP hy (g := g) hg (argsL := argsL) (rest := rest) (hlen _ hsigM) hstack hdg
  obtain ⟨v, B, X', hpost, hsteps⟩ := hK m meth c ⟨T.setVm vm₁, locs, cells, slots⟩ { g with stack := rest } (.invokestatic index) mk argsL.toArray X₁ hg hsize hdg hW (X₁.named hnamed) (hpre vm₁ X₁.warmed)
  exact ⟨v, vm₁, B, X₁.warmed, X', hpost, fun target h => hstep₁ _ fun acts => by rw [doInvoke_state]; exact hsteps.trans h⟩
theorem vx_runSW {y : MethodName} {bytes cc : ByteArray} {maxL nL mc ms n index : Nat} {ret : Option FieldType} {hh : List (Nat × Nat × Nat × Nat)} {ws : List Cond} {rm : Room} {Pc : Array Value → State → Prop} {Qc : Array Value → State → Outcome → State → Prop} {free : Addr → Prop} {Ts : List Cond} {own : String} {As rest : List Value} {g : JFrame}
    (S : CallFix p m c cc nL s args Ts own) (hM : Met l y ws rm Pc Qc mc ms free) (cw : vx_CSW R s args own index y bytes maxL ret hh ws rm mc ms n) (hp : PreS s H Pc As)
    (hg : g.method = m) (hn : As.length = n) (hsize : g.locals.size = nL) (hstack : g.stack = As.reverse ++ rest) (hW : 2 * g.monitorRoom + (rest.map fun v => v.category).sum ≤ 8) (hdg : decode cc g.pc = .ok (.invokestatic index, 3)) (hf : cells + mc ≤ R.cells ∧ slots + ms ≤ R.slots) :
    va_Run p l e R s m args below meth c H locs cells slots mc ms g rest (Qc As.toArray) (free) := by
  obtain ⟨⟨hrc, hrs, hfr, hlo, hws, hcw⟩, hcode, hini, hy, hlen, hl, hstt⟩ := cw
  have hK : Back l R p e below s args y 3 8 (PreOf R mc ms Pc) (PostOf Qc mc ms free) := va_backW (hh := hh) (bytes := bytes) (maxL := maxL) (ret := ret) hM hp.1 hrc hrs hfr hlo hws hcw (fun a' U hW => word_at hW (Or.inl (by first | rfl | simp [Cond.onTables, Cond.keeps, Cond.steady])) hini)
  obtain ⟨hx, hb, hml, ho, -⟩ := S
  intro T hT X
  obtain ⟨v, vm₁, ⟨U', l2, c2, s2⟩, hW₁, X', ⟨g', mk, t, L, e1, e2, hq, h1, hL, h2, h3⟩, st⟩ := vx_callSW X hx (hh := hh) (bytes := bytes) (maxL := maxL) (ret := ret) ho hl hstt hini hcode hy hK hg (hsize.trans hml.symm) (argsL := As) (rest := rest) (fun sig h => hn.trans (hlen sig h)) hstack hW (by rw [hb]; exact hdg)
    (fun vm₁ hW₁ => ⟨hf.1, hf.2, hp.2 (T.setVm vm₁) hT hW₁⟩)
  dsimp only [Pt.U, Pt.locs, Pt.cells, Pt.slots] at X' e1 e2 h1 h2 h3 st
  subst h1; subst h2; subst h3
  exact ⟨v, (T.setVm vm₁).calling g' mk As.toArray, t, U', L, hT, X', hL, e1, e2, hq, st⟩
/-- not caught here, past rows that name other classes: it goes on to the caller -/
theorem vx_outP {p : Program} {l : Launch} {e : Env} {R : Room} {s : State} {m : MethodId} {args : Array Value} {below : List Frame} {meth : Method} {c : Code} {H : Heap} {locs : List Loc} {cells slots : Nat} {free : Addr → Prop} {ls : Array Slot} {rest : List Value} {Qc : Array Value → State → Outcome → State → Prop} {XC : String → State → State → Prop}
    {pc : Nat} {own E : String} {ce : Cell} {q : Addr} {mc ms : Nat} (hown : s.vm.findClass own = some m.cls) (hlocks : meth.locks = false)
    (hpass : ∀ z ∈ c.exceptionTable.toList, covers z pc = false ∨ (z.catchType ≠ 0 ∧ ∃ nm : String, (Cond.classLink own z.catchType nm).before args s = true ∧ va_Nc E nm s)) (hcell : H[q]? = some ce) (hv : ce.vm = .none) (hcl : s.vm.findClass E = some ce.cls)
    (hx : ∀ t : State, t.heap = H → s.vm.Alike t.vm → XC E s t) (hf : ∀ z ∈ locs, free z.base) (hc : cells ≤ mc) (hs : slots ≤ ms) :
    vx_W p l e R s m args below meth c H locs cells slots (vx_MQ below Qc XC args s mc ms free) (F0 m pc ls rest) q := by
  intro T hT X
  have hpl : e.platform.magicAccessors = ({} : Platform).magicAccessors := by rw [X.admits.platform]
  obtain ⟨vm', hW', X', st⟩ := Jvm.Stand.outThrough X hlocks q (g := F0 m pc ls rest) rfl rfl rfl (cell := ce) (by rw [hT]; exact hcell) (by rw [hv]; rfl)
    (by obtain ⟨k9, h9, -⟩ := Vm.findClass_spec hcl; exact ⟨k9, h9⟩) (fun z hz => by
      rcases hpass z hz with h | ⟨hz0, nm, hl1, hn1⟩
      · exact Or.inl h
      · obtain ⟨c6, hc6, hcl6⟩ := Cond.classLink_spec hown hl1 e.platform hpl
        obtain ⟨a8, b8, h1, h2, h3⟩ := hn1
        cases Option.some.inj (h1.symm.trans hcl)
        cases Option.some.inj (h2.symm.trans hc6)
        exact Or.inr ⟨hz0, _, hcl6, h3⟩)
  obtain ⟨g₀, hfr⟩ := X'.frames_eq
  have hcell9 : ((T.setVm vm').setFrames (.throwing q :: below)).heap[q]? = some ce := by
    show T.heap[q]? = some ce
    rw [hT]; exact hcell
  have hend : Ended ((T.setVm vm').setFrames (.throwing q :: below)) below (.threw q) := State.frames_setFrames _ (State.cur_lt_of_frames hfr)
  refine ⟨(T.setVm vm').setFrames (.throwing q :: below), ?_, .threw q, X'.here.running, hend, Or.inr ⟨q, rfl, E, ce, locs, hx _ hT (X'.ends _).1.alike, hcell9, hv, hcl, (X'.ends _).1, (X'.ends _).2.mono hc hs, hf⟩⟩
  rw [X.pushThrowing_eq]
  exact st
/-- a thing of a world lies in the heap -/
theorem vx_lt {D : va_G} {cl : List vw_C} {ws : va_W} {H1 : Heap} (h : va_P D cl ws H1) {k : Nat} {q : Nat × va_E} (hk : ws[k]? = some q) : q.1 < H1.size := (h k q hk).lt
end VXS
/-! ===== END ===== -/
/-! ===== BEGIN methods with a table of their own: called by a name, returning or throwing ===== -/
section VXH
/-! vx_backW, vx_callVX, vx_callSX, vx_callVW, vx_runVW, vx_runVX, vx_runSX, vx_ofWH follow the same proofs as their sisters above (Free/Laws.lean, Shelf42/LK1.lean); vx_outP calls Shelf42/NT130.lean (outThrough). -/
section
variable {l : Launch} {R : Room} {p : Program} {e : Env} {below : List Frame} {s : State} {sargs : Array Value} {y : MethodName} {len W9 : Nat}
theorem vx_backW {ws : List Cond} {rm : Room} {Pc : Array Value → State → Prop} {Qc : Array Value → State → Outcome → State → Prop} {XC : String → State → State → Prop} {mc ms : Nat} {free : Addr → Prop} {bytes : ByteArray} {maxL : Nat} {ret : Option FieldType} {hh : List (Nat × Nat × Nat × Nat)}
    (hM : vx_Met l y ws rm Pc Qc XC mc ms free) (hblind : FrameBlind Pc) (hrc : rm.cells = mc) (hrs : rm.slots = ms)
    (hframes : rm.frames + 1 ≤ R.frames) (hlocals : W9 + (maxL + 11) + rm.locals ≤ R.locals)
    (hws : ∀ w ∈ ws, ∀ a' U, s.WarmedH U.vm → w.before a' U = true) (hcode : Cond.codeWith y bytes maxL ret hh ∈ ws) (hinit : ∀ a' U, s.WarmedH U.vm → (Cond.initialized y.cls).before a' U = true) :
    vx_Back l R p e below s sargs y len W9 (PreOf R mc ms Pc) (PostOf Qc mc ms free) (vx_Post XC mc ms free) := by
  intro m meth c A g ig mk a X hg hsize hdg hW hn hp
  have h1 : (headSpec ws rm).pre.before a A.U = true := atoms_intro fun w hw => hws w hw _ _ X.warmed
  have h2 : (Cond.codeWith y bytes maxL ret hh).before a A.U = true := hws _ hcode _ _ X.warmed
  have h3 : (Cond.initialized y.cls).before a A.U = true := hinit _ _ X.warmed
  have h4 : A.cells + (headSpec ws rm).room.cells ≤ R.cells := by rw [show (headSpec ws rm).room.cells = mc from hrc]; exact hp.1
  have h5 : A.slots + (headSpec ws rm).room.slots ≤ R.slots := by rw [show (headSpec ws rm).room.slots = ms from hrs]; exact hp.2.1
  have hPc : Pc a (A.U.calling g mk a) := hblind _ _ _ _ hp.2.2
  obtain ⟨U, Ls, c0, s0⟩ := A
  dsimp only [Pt.U, Pt.locs, Pt.cells, Pt.slots] at h1 h2 h3 h4 h5 X hn hPc ⊢
  obtain ⟨m9, methY, cY, hn9, hmY, hcY, -, hlY, -⟩ := Cond.codeWith_spec h2
  cases Option.some.inj (hn9.symm.trans hn)
  obtain ⟨kY, hkY, -⟩ := className_of_methodNamed hn
  have hinitY : kY.init = .initialized := Cond.initialized_spec (findClass_of_methodNamed hn) hkY h3
  have h : At U g.method c below := by rw [hg]; exact X.here
  have hlocals9 : W9 + (maxL + 11) + (headSpec ws rm).room.locals ≤ R.locals := hlocals
  have happ : (headSpec ws rm).appliesLoose y e.platform (U.calling g mk a) = true :=
    Spec.appliesLoose_calling (g := g) h hdg hn hkY hinitY
      (X.room_calling (g := g) (R' := (headSpec ws rm).room) hsize hmY hcY hframes (by rw [hlY]; omega) h4 h5) h1
  obtain ⟨mid, hmid⟩ := h.above
  have hfr : (U.setTop g).frames = (.java g :: mid) ++ below := by rw [State.frames_setTop' g h.top, hmid]; rfl
  obtain ⟨o, s₂, hsteps, -, hend, hq⟩ := Steps.callFree hM p X.admits X.cas X.clock (acts := []) hfr happ hPc trivial
  have hq' : vx_Q Qc XC mc ms free a (U.calling g mk a) o s₂ := hq
  rw [State.frames_setTop' g h.top] at hend
  obtain ⟨g₀, hg0⟩ := Option.isSome_iff_exists.mp h.top
  obtain ⟨r, hr⟩ := State.topJava?_eq_some.mp hg0
  have hr' : (({ U with heap := s₂.heap, slotsUsed := s₂.slotsUsed } : State).setVm s₂.vm).frames = .java g₀ :: r := hr
  rcases hq' with ⟨hqc, L, hfe, hL⟩ | ⟨q, rfl, E, ce, L, hx, hce, hcv, hcl, hW₂, hsm, hL⟩
  · obtain ⟨⟨v, rfl⟩, hW₂, e2, q2, q3, q4, q5, q6⟩ := id hfe
    have e3 : s₂ = ({ (U.calling g mk a).setFrames s₂.frames with heap := s₂.heap, slotsUsed := s₂.slotsUsed } : State).setVm s₂.vm := by
      have : s₂ = ({ s₂ with vm := (U.calling g mk a).vm } : State).setVm s₂.vm := rfl
      rw [e2] at this
      exact this
    obtain ⟨c₂, i₂, len₂, hc₂, hd₂, hf₂⟩ := hend
    have hW' : U.WarmedH s₂.vm := hW₂
    have hcc : c₂ = c := by
      have h1 : s₂.code? g.method = U.code? g.method := by
        rw [State.code?_eq, State.code?_eq, hW'.alike.method?]
      exact Option.some.inj (hc₂.symm.trans (h1.trans h.code))
    subst hcc
    have hlen : len₂ = len := by rw [hdg] at hd₂; cases hd₂; rfl
    subst hlen
    have hs₂ : s₂ = (({ U with heap := s₂.heap, slotsUsed := s₂.slotsUsed } : State).setVm s₂.vm).setTop { g with pc := g.pc + len₂, stack := v.toList ++ g.stack } := by
      refine e3.trans ?_
      rw [hf₂, State.calling_eq h.top, State.setFrames_setFrames, State.setTop_of_frames _ hr', hr]
      rfl
    have hsame : U.sameButNew ({ U with heap := s₂.heap, slotsUsed := s₂.slotsUsed } : State) L mc ms := by
      refine ⟨?_, q2, q3, q4, q5, q6⟩
      obtain ⟨t, ht, -⟩ := State.frames_cons hr
      show ({ U with heap := s₂.heap, slotsUsed := s₂.slotsUsed } : State) = { U.setFrames U.frames with heap := s₂.heap, slotsUsed := s₂.slotsUsed }
      rw [State.setFrames_self ht]
    subst hg
    refine Or.inl ⟨v, ⟨(({ U with heap := s₂.heap, slotsUsed := s₂.slotsUsed } : State).setVm s₂.vm), Ls ++ L, c0 + mc, s0 + ms⟩,
      ⟨X.admits, X.cas, X.clock, X.frames, X.room, X.hears, X.method, X.code, (X.here.setHeapUsed s₂.heap s₂.slotsUsed).setVm hW'.alike, X.tail, State.WarmedH.trans X.warmed hW', X.limits, X.bytes, X.same.trans (hsame.setVm s.vm)⟩,
      ⟨g, mk, s₂, L, rfl, rfl, hqc, rfl, hL, rfl, rfl⟩, ?_⟩
    show Steps p.tables e below _ ((({ U with heap := s₂.heap, slotsUsed := s₂.slotsUsed } : State).setVm s₂.vm).setTop { g with pc := g.pc + len₂, stack := v.toList ++ g.stack })
    rw [← hs₂]
    exact hsteps
  · obtain ⟨e2, q2, q3, q4, q5, q6⟩ := id hsm
    have e3 : s₂ = ({ (U.calling g mk a).setFrames s₂.frames with heap := s₂.heap, slotsUsed := s₂.slotsUsed } : State).setVm s₂.vm := by
      have : s₂ = ({ s₂ with vm := (U.calling g mk a).vm } : State).setVm s₂.vm := rfl
      rw [e2] at this
      exact this
    have hf₂ : s₂.frames = .throwing q :: .java g :: U.frames.tail := hend
    have hW' : U.WarmedH s₂.vm := hW₂
    have hs₂ : s₂ = ((({ U with heap := s₂.heap, slotsUsed := s₂.slotsUsed } : State).setVm s₂.vm).setTop g).pushFrame (.throwing q) := by
      refine e3.trans ?_
      rw [hf₂, State.calling_eq h.top, State.setFrames_setFrames, State.pushFrame, State.frames_setTop _ hr', State.setTop_of_frames _ hr', State.setFrames_setFrames, hr]
      rfl
    have hsame : U.sameButNew ({ U with heap := s₂.heap, slotsUsed := s₂.slotsUsed } : State) L mc ms := by
      refine ⟨?_, q2, q3, q4, q5, q6⟩
      obtain ⟨t, ht, -⟩ := State.frames_cons hr
      show ({ U with heap := s₂.heap, slotsUsed := s₂.slotsUsed } : State) = { U.setFrames U.frames with heap := s₂.heap, slotsUsed := s₂.slotsUsed }
      rw [State.setFrames_self ht]
    subst hg
    refine Or.inr ⟨q, ⟨(({ U with heap := s₂.heap, slotsUsed := s₂.slotsUsed } : State).setVm s₂.vm), Ls ++ L, c0 + mc, s0 + ms⟩,
      ⟨X.admits, X.cas, X.clock, X.frames, X.room, X.hears, X.method, X.code, (X.here.setHeapUsed s₂.heap s₂.slotsUsed).setVm hW'.alike, X.tail, State.WarmedH.trans X.warmed hW', X.limits, X.bytes, X.same.trans (hsame.setVm s.vm)⟩,
      ⟨g, mk, s₂, L, E, ce, rfl, rfl, hx, hce, hcv, hcl, rfl, hL, rfl, rfl⟩, ?_⟩
    show Steps p.tables e below _ (((({ U with heap := s₂.heap, slotsUsed := s₂.slotsUsed } : State).setVm s₂.vm).setTop g).pushFrame (.throwing q))
    rw [← hs₂]
    exact hsteps
end
variable {p : Program} {l : Launch} {e : Env} {R : Room} {s : State} {m : MethodId} {args : Array Value} {below : List Frame} {meth : Method} {c : Code} {T : State} {H : Heap} {locs : List Loc} {cells slots : Nat}
theorem vx_callVX (X : Stand p l e R s m args below meth c T locs cells slots) (hexec : p.tables.exec = Jvm.exec) {own C : String} {index : Nat} {y : MethodName} {bytes : ByteArray} {maxL : Nat} {ret : Option FieldType} {hh : List (Nat × Nat × Nat × Nat)}
    (hown : s.vm.findClass own = some m.cls) (hlink : (Cond.methodLink own index y).before args s = true) (hinst : (Cond.instanceMethod y).before args s = true) (hsel : (Cond.selects C y y).before args s = true)
    (hcode : (Cond.codeWith y bytes maxL ret hh).before args s = true) (hy : y.cls ≠ "java/lang/invoke/MethodHandle" ∧ y.cls ≠ "java/lang/invoke/VarHandle")
    {W9 : Nat} {Pre : Pt → Array Value → Prop} {Post : Pt → Array Value → Option Value → Pt → Prop} {PostX : Pt → Array Value → Addr → Pt → Prop} (hK : vx_Back l R p e below s args y 3 W9 Pre Post PostX)
    {b : Addr} {cellB : Cell} (hcell : T.heap[b]? = some cellB) (hobj : cellB.vm.isStatics = false) (hcls : s.vm.findClass C = some cellB.cls)
    {g : JFrame} (hg : g.method = m) (hsize : g.locals.size = c.maxLocals) {argsL rest : List Value} (hlen : ∀ sig, parseMethodDescriptor y.desc = some sig → argsL.length = sig.parameters.length)
    (hstack : g.stack = argsL.reverse ++ .ref b :: rest) (hW : 2 * g.monitorRoom + (rest.map fun v => v.category).sum ≤ W9) (hdg : decode c.code g.pc = .ok (.invokevirtual index, 3))
    (hpre : ∀ vm₁, s.WarmedH vm₁ → Pre ⟨T.setVm vm₁, locs, cells, slots⟩ (Value.ref b :: argsL).toArray) :
    (∃ (v : Option Value) (vm₁ : Vm) (B : Pt), s.WarmedH vm₁ ∧ Stand p l e R s m args below meth c B.U B.locs B.cells B.slots ∧ Post ⟨T.setVm vm₁, locs, cells, slots⟩ (Value.ref b :: argsL).toArray v B ∧
      ∀ target, Steps p.tables e below (B.U.setTop { g with pc := g.pc + 3, stack := v.toList ++ rest }) target → Steps p.tables e below (T.setTop g) target) ∨
    (∃ (q : Addr) (vm₁ : Vm) (B : Pt), s.WarmedH vm₁ ∧ Stand p l e R s m args below meth c B.U B.locs B.cells B.slots ∧ PostX ⟨T.setVm vm₁, locs, cells, slots⟩ (Value.ref b :: argsL).toArray q B ∧
      Steps p.tables e below (T.setTop g) ((B.U.setTop { g with stack := rest }).pushFrame (.throwing q))) := by
  obtain ⟨mk, methM, hnamed, hmethM, hstM, habM⟩ := Cond.instanceMethod_spec hinst
  obtain ⟨m8, methM', cM, hn8, hmethM', -, -, -, -, -, -, hsigM⟩ := Cond.codeWith_spec hcode
  cases Option.some.inj (hn8.symm.trans hnamed)
  cases hmethM.symm.trans hmethM'
  obtain ⟨c2, r2, m2, q1, q2, q3, q4, kP, hkP, hkPi⟩ := Cond.selects_spec hsel
  cases hcls.symm.trans q1
  cases (State.methodFound?_of_named hnamed hy).symm.trans q2
  cases hnamed.symm.trans q3
  have hselP : selectMethod e.platform s.vm cellB.cls mk = .method mk := by rw [Launch.admits_selectMethod X.admits]; exact q4
  obtain ⟨vm₁, X₁, hstep₁⟩ := X.invokevirtual hexec hown hlink hnamed hmethM hstM hkP hkPi hy (a := b) (cell := cellB) hcell
    (fun z h => by rw [h] at hobj; cases hobj) hselP hmethM habM hkP hkPi (g := g) hg (argsL := argsL) (rest := rest) (hlen _ hsigM) hstack hdg
  rcases hK m meth c ⟨T.setVm vm₁, locs, cells, slots⟩ { g with stack := rest } (.invokevirtual index) mk (Value.ref b :: argsL).toArray X₁ hg hsize hdg hW (X₁.named hnamed) (hpre vm₁ X₁.warmed) with ⟨v, B, X', hpost, hsteps⟩ | ⟨q, B, X', hpost, hsteps⟩
  · exact Or.inl ⟨v, vm₁, B, X₁.warmed, X', hpost, fun target h => hstep₁ _ fun acts => by rw [doInvoke_state]; exact hsteps.trans h⟩
  · exact Or.inr ⟨q, vm₁, B, X₁.warmed, X', hpost, hstep₁ _ fun acts => by rw [doInvoke_state]; exact hsteps⟩
theorem vx_callSX (X : Stand p l e R s m args below meth c T locs cells slots) (hexec : p.tables.exec = Jvm.exec) {own : String} {index : Nat} {y : MethodName} {bytes : ByteArray} {maxL : Nat} {ret : Option FieldType} {hh : List (Nat × Nat × Nat × Nat)}
    (hown : s.vm.findClass own = some m.cls) (hlink : (Cond.methodLink own index y).before args s = true) (hstat : (Cond.static y).before args s = true) (hinit : (Cond.initialized y.cls).before args s = true)
    (hcode : (Cond.codeWith y bytes maxL ret hh).before args s = true) (hy : y.cls ≠ "java/lang/invoke/MethodHandle" ∧ y.cls ≠ "java/lang/invoke/VarHandle")
    {W9 : Nat} {Pre : Pt → Array Value → Prop} {Post : Pt → Array Value → Option Value → Pt → Prop} {PostX : Pt → Array Value → Addr → Pt → Prop} (hK : vx_Back l R p e below s args y 3 W9 Pre Post PostX)
    {g : JFrame} (hg : g.method = m) (hsize : g.locals.size = c.maxLocals) {argsL rest : List Value} (hlen : ∀ sig, parseMethodDescriptor y.desc = some sig → argsL.length = sig.parameters.length)
    (hstack : g.stack = argsL.reverse ++ rest) (hW : 2 * g.monitorRoom + (rest.map fun v => v.category).sum ≤ W9) (hdg : decode c.code g.pc = .ok (.invokestatic index, 3))
    (hpre : ∀ vm₁, s.WarmedH vm₁ → Pre ⟨T.setVm vm₁, locs, cells, slots⟩ argsL.toArray) :
    (∃ (v : Option Value) (vm₁ : Vm) (B : Pt), s.WarmedH vm₁ ∧ Stand p l e R s m args below meth c B.U B.locs B.cells B.slots ∧ Post ⟨T.setVm vm₁, locs, cells, slots⟩ argsL.toArray v B ∧
      ∀ target, Steps p.tables e below (B.U.setTop { g with pc := g.pc + 3, stack := v.toList ++ rest }) target → Steps p.tables e below (T.setTop g) target) ∨
    (∃ (q : Addr) (vm₁ : Vm) (B : Pt), s.WarmedH vm₁ ∧ Stand p l e R s m args below meth c B.U B.locs B.cells B.slots ∧ PostX ⟨T.setVm vm₁, locs, cells, slots⟩ argsL.toArray q B ∧
      Steps p.tables e below (T.setTop g) ((B.U.setTop { g with stack := rest }).pushFrame (.throwing q))) := by
  obtain ⟨mk, methM, cM, hnamed, hmethM, -, -, -, -, -, -, hsigM⟩ := Cond.codeWith_spec hcode
  have hstatic : methM.isStatic = true := Cond.static_spec hnamed hmethM hstat
  obtain ⟨kP, hkP, -⟩ := className_of_methodNamed hnamed
  have hinitP : kP.init = .initialized := Cond.initialized_spec (findClass_of_methodNamed hnamed) hkP hinit
  obtain ⟨vm₁, X₁, hstep₁⟩ := X.invokestatic hexec hown hlink hnamed hmethM hstatic hkP hinitP hy (g := g) hg (argsL := argsL) (rest := rest) (hlen _ hsigM) hstack hdg
  rcases hK m meth c ⟨T.setVm vm₁, locs, cells, slots⟩ { g with stack := rest } (.invokestatic index) mk argsL.toArray X₁ hg hsize hdg hW (X₁.named hnamed) (hpre vm₁ X₁.warmed) with ⟨v, B, X', hpost, hsteps⟩ | ⟨q, B, X', hpost, hsteps⟩
  · exact Or.inl ⟨v, vm₁, B, X₁.warmed, X', hpost, fun target h => hstep₁ _ fun acts => by rw [doInvoke_state]; exact hsteps.trans h⟩
  · exact Or.inr ⟨q, vm₁, B, X₁.warmed, X', hpost, hstep₁ _ fun acts => by rw [doInvoke_state]; exact hsteps⟩
theorem vx_callVW (X : Stand p l e R s m args below meth c T locs cells slots) (hexec : p.tables.exec = Jvm.exec) {own C : String} {index : Nat} {y : MethodName} {bytes : ByteArray} {maxL : Nat} {ret : Option FieldType} {hh : List (Nat × Nat × Nat × Nat)}
    (hown : s.vm.findClass own = some m.cls) (hlink : (Cond.methodLink own index y).before args s = true) (hinst : (Cond.instanceMethod y).before args s = true) (hsel : (Cond.selects C y y).before args s = true)
    (hcode : (Cond.codeWith y bytes maxL ret hh).before args s = true) (hy : y.cls ≠ "java/lang/invoke/MethodHandle" ∧ y.cls ≠ "java/lang/invoke/VarHandle")
    {W9 : Nat} {Pre : Pt → Array Value → Prop} {Post : Pt → Array Value → Option Value → Pt → Prop} (hK : Back l R p e below s args y 3 W9 Pre Post)
    {b : Addr} {cellB : Cell} (hcell : T.heap[b]? = some cellB) (hobj : cellB.vm.isStatics = false) (hcls : s.vm.findClass C = some cellB.cls)
    {g : JFrame} (hg : g.method = m) (hsize : g.locals.size = c.maxLocals) {argsL rest : List Value} (hlen : ∀ sig, parseMethodDescriptor y.desc = some sig → argsL.length = sig.parameters.length)
    (hstack : g.stack = argsL.reverse ++ .ref b :: rest) (hW : 2 * g.monitorRoom + (rest.map fun v => v.category).sum ≤ W9) (hdg : decode c.code g.pc = .ok (.invokevirtual index, 3))
    (hpre : ∀ vm₁, s.WarmedH vm₁ → Pre ⟨T.setVm vm₁, locs, cells, slots⟩ (Value.ref b :: argsL).toArray) :
    ∃ (v : Option Value) (vm₁ : Vm) (B : Pt), s.WarmedH vm₁ ∧ Stand p l e R s m args below meth c B.U B.locs B.cells B.slots ∧ Post ⟨T.setVm vm₁, locs, cells, slots⟩ (Value.ref b :: argsL).toArray v B ∧
      ∀ target, Steps p.tables e below (B.U.setTop { g with pc := g.pc + 3, stack := v.toList ++ rest }) target → Steps p.tables e below (T.setTop g) target := by
  obtain ⟨mk, methM, hnamed, hmethM, hstM, habM⟩ := Cond.instanceMethod_spec hinst
  obtain ⟨m8, methM', cM, hn8, hmethM', -, -, -, -, -, -, hsigM⟩ := Cond.codeWith_spec hcode
  cases Option.some.inj (hn8.symm.trans hnamed)
  cases hmethM.symm.trans hmethM'
  obtain ⟨c2, r2, m2, q1, q2, q3, q4, kP, hkP, hkPi⟩ := Cond.selects_spec hsel
  cases hcls.symm.trans q1
  cases (State.methodFound?_of_named hnamed hy).symm.trans q2
  cases hnamed.symm.trans q3
  have hselP : selectMethod e.platform s.vm cellB.cls mk = .method mk := by rw [Launch.admits_selectMethod X.admits]; exact q4
  obtain ⟨vm₁, X₁, hstep₁⟩ := X.invokevirtual hexec hown hlink hnamed hmethM hstM hkP hkPi hy (a := b) (cell := cellB) hcell
    (fun z h => by rw [h] at hobj; cases hobj) hselP hmethM habM hkP hkPi (g := g) hg (argsL := argsL) (rest := rest) (hlen _ hsigM) hstack hdg
  obtain ⟨v, B, X', hpost, hsteps⟩ := hK m meth c ⟨T.setVm vm₁, locs, cells, slots⟩ { g with stack := rest } (.invokevirtual index) mk (Value.ref b :: argsL).toArray X₁ hg hsize hdg hW (X₁.named hnamed) (hpre vm₁ X₁.warmed)
  exact ⟨v, vm₁, B, X₁.warmed, X', hpost, fun target h => hstep₁ _ fun acts => by rw [doInvoke_state]; exact hsteps.trans h⟩
abbrev vx_CVW (R : Room) (s : State) (args : Array Value) (own C : String) (index : Nat) (y : MethodName) (bytes : ByteArray) (maxL : Nat) (ret : Option FieldType) (hh : List (Nat × Nat × Nat × Nat)) (ws : List Cond) (rm : Room) (mc ms n : Nat) : Prop :=
  (rm.cells = mc ∧ rm.slots = ms ∧ rm.frames + 1 ≤ R.frames ∧ 8 + (maxL + 11) + rm.locals ≤ R.locals ∧ (∀ w ∈ ws, ∀ (a' : Array Value) (U : State), s.WarmedH U.vm → w.before a' U = true) ∧ Cond.codeWith y bytes maxL ret hh ∈ ws) ∧
  (Cond.codeWith y bytes maxL ret hh).before args s = true ∧ (Cond.initialized y.cls).before args s = true ∧ (y.cls ≠ "java/lang/invoke/MethodHandle" ∧ y.cls ≠ "java/lang/invoke/VarHandle") ∧
  (∀ sig, parseMethodDescriptor y.desc = some sig → n = sig.parameters.length) ∧ (Cond.methodLink own index y).before args s = true ∧ (Cond.instanceMethod y).before args s = true ∧ (Cond.selects C y y).before args s = true
theorem vx_cwVW {own C : String} {index maxL mc ms : Nat} {y : MethodName} {bytes : ByteArray} {ret : Option FieldType} {hh : List (Nat × Nat × Nat × Nat)} {Ts ws ws' : List Cond} {rm : Room} (n : Nat) (ht : ∀ w ∈ Ts, w.before args s = true) (hT : GoodIn Ts (wsV own index C y ws)) (hw : ws = Cond.codeWith y bytes maxL ret hh :: ws') (hrc : rm.cells = mc) (hrs : rm.slots = ms)
    (hd : y.cls = C ∧ y.cls ≠ "java/lang/invoke/MethodHandle" ∧ y.cls ≠ "java/lang/invoke/VarHandle" ∧ (parseMethodDescriptor y.desc).map (fun d => d.parameters.length) = some n) (hR : rm.frames + 1 ≤ R.frames ∧ 8 + (maxL + 11) + rm.locals ≤ R.locals) :
    vx_CVW R s args own C index y bytes maxL ret hh ws rm mc ms n := by
  obtain ⟨hC, hd⟩ := hd
  subst hC
  have ok : ∀ w ∈ wsV own index y.cls y ws, w.before args s = true := fun w h => ht w (hT w h).1
  have hG : GoodIn Ts ws := fun w h => hT w (by unfold wsV; exact List.mem_append_right _ h)
  have hc : Cond.codeWith y bytes maxL ret hh ∈ ws := by rw [hw]; exact List.mem_cons_self
  refine ⟨⟨hrc, hrs, hR.1, hR.2, pay_in ht hG, hc⟩, ht _ (hG _ hc).1, ok _ (by simp [wsV]), ⟨hd.1, hd.2.1⟩, fun sig h => ?_, ok _ (by simp [wsV]), ok _ (by simp [wsV]), ok _ (by simp [wsV])⟩
  have h2 := hd.2.2
  rw [h] at h2
  exact (Option.some.inj h2).symm
theorem vx_runVW {y : MethodName} {bytes cc : ByteArray} {maxL nL mc ms n index : Nat} {ret : Option FieldType} {hh : List (Nat × Nat × Nat × Nat)} {ws : List Cond} {rm : Room} {Pc : Array Value → State → Prop} {Qc : Array Value → State → Outcome → State → Prop} {free : Addr → Prop} {Ts : List Cond} {own C : String} {b : Addr} {As rest : List Value} {g : JFrame}
    (S : CallFix p m c cc nL s args Ts own) (hM : Met l y ws rm Pc Qc mc ms free) (cw : vx_CVW R s args own C index y bytes maxL ret hh ws rm mc ms n) (hp : PreV s H C b Pc As)
    (hg : g.method = m) (hn : As.length = n) (hsize : g.locals.size = nL) (hstack : g.stack = As.reverse ++ .ref b :: rest) (hW : 2 * g.monitorRoom + (rest.map fun v => v.category).sum ≤ 8) (hdg : decode cc g.pc = .ok (.invokevirtual index, 3)) (hf : cells + mc ≤ R.cells ∧ slots + ms ≤ R.slots) :
    va_Run p l e R s m args below meth c H locs cells slots mc ms g rest (Qc (Value.ref b :: As).toArray) free := by
  obtain ⟨⟨hrc, hrs, hfr, hlo, hws, hcw⟩, hcode, hini, hy, hlen, hl, hin, hse⟩ := cw
  have hK : Back l R p e below s args y 3 8 (PreOf R mc ms Pc) (PostOf Qc mc ms free) := va_backW (hh := hh) (bytes := bytes) (maxL := maxL) (ret := ret) hM hp.1 hrc hrs hfr hlo hws hcw (fun a' U hW => word_at hW (Or.inl (by first | rfl | simp [Cond.onTables, Cond.keeps, Cond.steady])) hini)
  obtain ⟨hx, hb, hml, ho, -⟩ := S
  obtain ⟨-, ⟨cellB, hcB, hoB, hclB⟩, hPc⟩ := hp
  intro T hT X
  obtain ⟨v, vm₁, ⟨U', l2, c2, s2⟩, hW₁, X', ⟨g', mk, t, L, e1, e2, hq, h1, hL, h2, h3⟩, st⟩ := vx_callVW X hx (C := C) (hh := hh) (bytes := bytes) (maxL := maxL) (ret := ret) ho hl hin hse hcode hy hK (by rw [hT]; exact hcB) hoB hclB hg (hsize.trans hml.symm) (argsL := As) (rest := rest) (fun sig h => hn.trans (hlen sig h)) hstack hW (by rw [hb]; exact hdg)
    (fun vm₁ hW₁ => ⟨hf.1, hf.2, hPc (T.setVm vm₁) hT hW₁⟩)
  dsimp only [Pt.U, Pt.locs, Pt.cells, Pt.slots] at X' e1 e2 h1 h2 h3 st
  subst h1; subst h2; subst h3
  exact ⟨v, (T.setVm vm₁).calling g' mk (Value.ref b :: As).toArray, t, U', L, hT, X', hL, e1, e2, hq, st⟩
section
variable {y : MethodName} {bytes cc : ByteArray} {maxL nL mc ms n index : Nat} {ret : Option FieldType} {ws : List Cond} {rm : Room} {Pc : Array Value → State → Prop} {Qc : Array Value → State → Outcome → State → Prop} {XC : String → State → State → Prop} {free : Addr → Prop} {Ts : List Cond} {own C : String} {b : Addr} {As rest : List Value} {g : JFrame}
theorem vx_runVX {hh : List (Nat × Nat × Nat × Nat)} (S : CallFix p m c cc nL s args Ts own) (hM : vx_Met l y ws rm Pc Qc XC mc ms free) (cw : vx_CVW R s args own C index y bytes maxL ret hh ws rm mc ms n) (hp : PreV s H C b Pc As)
    (hg : g.method = m) (hn : As.length = n) (hsize : g.locals.size = nL) (hstack : g.stack = As.reverse ++ .ref b :: rest) (hW : 2 * g.monitorRoom + (rest.map fun v => v.category).sum ≤ 8) (hdg : decode cc g.pc = .ok (.invokevirtual index, 3)) (hf : cells + mc ≤ R.cells ∧ slots + ms ≤ R.slots) :
    vx_Run p l e R s m args below meth c H locs cells slots mc ms g rest (Qc (Value.ref b :: As).toArray) XC free := by
  obtain ⟨⟨hrc, hrs, hfr, hlo, hws, hcw⟩, hcode, hini, hy, hlen, hl, hin, hse⟩ := cw
  have hK : vx_Back l R p e below s args y 3 8 (PreOf R mc ms Pc) (PostOf Qc mc ms free) (vx_Post XC mc ms free) := vx_backW (hh := hh) (bytes := bytes) (maxL := maxL) (ret := ret) hM hp.1 hrc hrs hfr hlo hws hcw (fun a' U hW => word_at hW (Or.inl (by first | rfl | simp [Cond.onTables, Cond.keeps, Cond.steady])) hini)
  obtain ⟨hx, hb, hml, ho, -⟩ := S
  obtain ⟨-, ⟨cellB, hcB, hoB, hclB⟩, hPc⟩ := hp
  intro T hT X
  rcases vx_callVX X hx (C := C) (hh := hh) (bytes := bytes) (maxL := maxL) (ret := ret) ho hl hin hse hcode hy hK (by rw [hT]; exact hcB) hoB hclB hg (hsize.trans hml.symm) (argsL := As) (rest := rest) (fun sig h => hn.trans (hlen sig h)) hstack hW (by rw [hb]; exact hdg)
    (fun vm₁ hW₁ => ⟨hf.1, hf.2, hPc (T.setVm vm₁) hT hW₁⟩) with ⟨v, vm₁, ⟨U', l2, c2, s2⟩, hW₁, X', ⟨g', mk, t, L, e1, e2, hq, h1, hL, h2, h3⟩, st⟩ | ⟨q, vm₁, ⟨U', l2, c2, s2⟩, hW₁, X', ⟨g', mk, t, L, E, ce, e1, e2, hq, hce, hcv, hcl, h1, hL, h2, h3⟩, st⟩
  · dsimp only [Pt.U, Pt.locs, Pt.cells, Pt.slots] at X' e1 e2 h1 h2 h3 st
    subst h1; subst h2; subst h3
    exact Or.inl ⟨v, (T.setVm vm₁).calling g' mk (Value.ref b :: As).toArray, t, U', L, hT, X', hL, e1, e2, hq, st⟩
  · dsimp only [Pt.U, Pt.locs, Pt.cells, Pt.slots] at X' e1 e2 h1 h2 h3 st hcl
    subst h1; subst h2; subst h3
    exact Or.inr ⟨q, (T.setVm vm₁).calling g' mk (Value.ref b :: As).toArray, t, U', L, E, ce, hT, X', hL, e1, e2, hq, hce, hcv, vx_cls hW₁ hcl, st⟩
theorem vx_runSX {hh : List (Nat × Nat × Nat × Nat)} (S : CallFix p m c cc nL s args Ts own) (hM : vx_Met l y ws rm Pc Qc XC mc ms free) (cw : vx_CSW R s args own index y bytes maxL ret hh ws rm mc ms n) (hp : PreS s H Pc As)
    (hg : g.method = m) (hn : As.length = n) (hsize : g.locals.size = nL) (hstack : g.stack = As.reverse ++ rest) (hW : 2 * g.monitorRoom + (rest.map fun v => v.category).sum ≤ 8) (hdg : decode cc g.pc = .ok (.invokestatic index, 3)) (hf : cells + mc ≤ R.cells ∧ slots + ms ≤ R.slots) :
    vx_Run p l e R s m args below meth c H locs cells slots mc ms g rest (Qc As.toArray) XC free := by
  obtain ⟨⟨hrc, hrs, hfr, hlo, hws, hcw⟩, hcode, hini, hy, hlen, hl, hstt⟩ := cw
  have hK : vx_Back l R p e below s args y 3 8 (PreOf R mc ms Pc) (PostOf Qc mc ms free) (vx_Post XC mc ms free) := vx_backW (hh := hh) (bytes := bytes) (maxL := maxL) (ret := ret) hM hp.1 hrc hrs hfr hlo hws hcw (fun a' U hW => word_at hW (Or.inl (by first | rfl | simp [Cond.onTables, Cond.keeps, Cond.steady])) hini)
  obtain ⟨hx, hb, hml, ho, -⟩ := S
  intro T hT X
  rcases vx_callSX X hx (hh := hh) (bytes := bytes) (maxL := maxL) (ret := ret) ho hl hstt hini hcode hy hK hg (hsize.trans hml.symm) (argsL := As) (rest := rest) (fun sig h => hn.trans (hlen sig h)) hstack hW (by rw [hb]; exact hdg)
    (fun vm₁ hW₁ => ⟨hf.1, hf.2, hp.2 (T.setVm vm₁) hT hW₁⟩) with ⟨v, vm₁, ⟨U', l2, c2, s2⟩, hW₁, X', ⟨g', mk, t, L, e1, e2, hq, h1, hL, h2, h3⟩, st⟩ | ⟨q, vm₁, ⟨U', l2, c2, s2⟩, hW₁, X', ⟨g', mk, t, L, E, ce, e1, e2, hq, hce, hcv, hcl, h1, hL, h2, h3⟩, st⟩
  · dsimp only [Pt.U, Pt.locs, Pt.cells, Pt.slots] at X' e1 e2 h1 h2 h3 st
    subst h1; subst h2; subst h3
    exact Or.inl ⟨v, (T.setVm vm₁).calling g' mk As.toArray, t, U', L, hT, X', hL, e1, e2, hq, st⟩
  · dsimp only [Pt.U, Pt.locs, Pt.cells, Pt.slots] at X' e1 e2 h1 h2 h3 st hcl
    subst h1; subst h2; subst h3
    exact Or.inr ⟨q, (T.setVm vm₁).calling g' mk As.toArray, t, U', L, E, ce, hT, X', hL, e1, e2, hq, hce, hcv, vx_cls hW₁ hcl, st⟩
end
end VXH
theorem vx_ofWH {l : Launch} {y : MethodName} {ws ws' : List Cond} {rm : Room} {Pc : Array Value → State → Prop} {Qc : Array Value → State → Outcome → State → Prop} {XC : String → State → State → Prop} {mc ms : Nat} {free : Addr → Prop} {cc : ByteArray} {maxL : Nat} {ret : Option FieldType} {hh : List (Nat × Nat × Nat × Nat)}
    (hy : plainName y.cls = true) (hw : ws = Cond.codeWith y cc maxL ret hh :: ws')
    (body : ∀ p e s m args below meth c s₁, BodyLoose p l y (headSpec ws rm) cc maxL ret e s m args below meth c s₁ → c.maxLocals = maxL → Pc args s →
      W p l e (headSpec ws rm).room s m args below meth c s.heap [] 0 0 (vx_MQ below Qc XC args s mc ms free) (entryFrame m args maxL)) : vx_Met l y ws rm Pc Qc XC mc ms free := by
  refine MetFree.of_bodyS (code := cc) (maxLocals := maxL) (ret := ret) hy ?_ ?_
  · intro args s m h hn
    obtain ⟨m9, meth, c, hn9, h1, h2, h3, h4, -, h5, h6, -⟩ := Cond.codeWith_spec (atoms_spec (ws := ws) h _ (by rw [hw]; exact List.mem_cons_self))
    cases hn.symm.trans hn9
    exact ⟨meth, c, h1, h2, h3, h4, h5, h6⟩
  · intro p e s m args below meth c s₁ B hml hP _
    have hh0 : s₁.heap = s.heap := by rw [B.state]; rfl
    obtain ⟨t, a1, o, b1, b2, b3⟩ := body p e s m args below meth c s₁ B hml hP s₁ hh0 (Stand.of_body B)
    exact ⟨t, o, a1, b1, b2, b3⟩
/-! ===== END ===== -/
end
section
/-! THE ABSTRACT MACHINE (am_): a frame of the JVM over a heap of numbered cells; every answer about a method is proved here, and am_sound ties it to the machine. -/
/-- a cell: an array (its component's type, its length, its contents), or an object (the number of its class in vwCl, its fields); a reference in it is a cell's number -/
abbrev am_C : Type := (FieldType × vp_A) ⊕ (Nat × List Value)
/-- a heap: the next number, the cells; numbers below 40 are what is only read (texts, static arrays, the script) -/
abbrev am_H : Type := Nat × (Nat → am_C)
/-- a frame: pc, locals, operand stack, cells and slots made so far -/
abbrev am_F : Type := Nat × List (Option Value) × List Value × Nat × Nat
/-- an instruction, its length, and what it links: three numbers and a constant -/
abbrev am_E : Type := Instr × Nat × Nat × Nat × Nat × Int32 × Int64
abbrev am_M : Type := Nat → Option am_E
abbrev am_K : Type := Nat → List Value → am_H → (Option Value → am_H → Prop) → Prop
def am_set (h : am_H) (p : Nat) (c : am_C) : am_H := (h.1, va_up h.2 p c)
def am_add (h : am_H) (c : am_C) : am_H := (h.1 + 1, va_up h.2 h.1 c)
def am_br (c a b : Prop) : Prop := (c → a) ∧ (¬ c → b)
def am_i1 (st : List Value) (g : Int32 → List Value → Prop) : Prop := match st with
  | .int x :: r => g x r
  | _ => False
def am_i2 (st : List Value) (g : Int32 → Int32 → List Value → Prop) : Prop := match st with
  | .int y :: .int x :: r => g x y r
  | _ => False
def am_l1 (st : List Value) (g : Int64 → List Value → Prop) : Prop := match st with
  | .long x :: r => g x r
  | _ => False
def am_l2 (st : List Value) (g : Int64 → Int64 → List Value → Prop) : Prop := match st with
  | .long y :: .long x :: r => g x y r
  | _ => False
def am_r1 (st : List Value) (g : Nat → List Value → Prop) : Prop := match st with
  | .ref p :: r => g p r
  | _ => False
def am_ir (st : List Value) (g : Int32 → Nat → List Value → Prop) : Prop := match st with
  | .int i :: .ref p :: r => g i p r
  | _ => False
def am_ldi (ls : List (Option Value)) (i : Nat) (g : Int32 → Prop) : Prop := match ls.getD i none with
  | some (.int x) => g x
  | _ => False
def am_ldl (ls : List (Option Value)) (i : Nat) (g : Int64 → Prop) : Prop := match ls.getD i none with
  | some (.long x) => g x
  | _ => False
def am_lda (ls : List (Option Value)) (i : Nat) (g : Nat → Prop) : Prop := match ls.getD i none with
  | some (.ref x) => g x
  | _ => False
/-- a store at i ends a long that lies at i - 1 -/
def am_kill (ls : List (Option Value)) (i : Nat) : List (Option Value) := match i with
  | 0 => ls
  | j + 1 => match ls.getD j none with
    | some (.long _) => ls.set j none
    | some (.double _) => ls.set j none
    | _ => ls
def am_st1 (ls : List (Option Value)) (i : Nat) (v : Value) : List (Option Value) := (am_kill ls i).set i (some v)
def am_st2 (ls : List (Option Value)) (i : Nat) (v : Value) : List (Option Value) := ((am_kill ls i).set i (some v)).set (i + 1) none
def am_cmp (cd : ClassFile.Cond) (x y : Int32) : Prop := match cd with
  | .eq => x = y
  | .ne => ¬ x = y
  | .lt => x < y
  | .ge => y ≤ x
  | .gt => y < x
  | .le => x ≤ y
/-- an object of class ci at p -/
def am_obj (h : am_H) (p ci : Nat) (g : List Value → Prop) : Prop := match h.2 p with
  | .inr (c, fs) => if c = ci then g fs else False
  | .inl _ => False
/-- a value that a field (or an answer) of this kind may hold: 0 int, 1 a reference, 2 boolean, 3 char -/
def am_fit (t : Nat) (v : Value) (g : Prop) : Prop := match t, v with
  | 0, .int _ => g
  | 1, .ref _ => g
  | 2, .int x => (x = 0 ∨ x = 1) ∧ g
  | 3, .int x => (∃ q : Nat, q < 65536 ∧ x = nI q) ∧ g
  | _, _ => False
def am_ari (h : am_H) (p : Nat) (ty : FieldType) (g : Nat → (Nat → Int32) → Prop) : Prop := match h.2 p with
  | .inl (ty', n, .inl f) => if ty' = ty then g n f else False
  | _ => False
/-- an int array to read: one of the heap, or one that is only read -/
def am_rdi (h : am_H) (p : Nat) (g : Nat → (Nat → Int32) → Prop) : Prop := match h.2 p with
  | .inl (.int, n, .inl f) => g n f
  | .inl (.float, n, .inl f) => g n f
  | _ => False
def am_arl (h : am_H) (p : Nat) (g : Nat → (Nat → Int64) → Prop) : Prop := match h.2 p with
  | .inl (.long, n, .inr (.inl f)) => g n f
  | _ => False
def am_arr (h : am_H) (p : Nat) (g : String → Nat → (Nat → Option Nat) → Prop) : Prop := match h.2 p with
  | .inl (.object C, n, .inr (.inr (.inr (.inr f)))) => g C n f
  | _ => False
def am_len (h : am_H) (p : Nat) (g : Nat → Prop) : Prop := match h.2 p with
  | .inl (_, n, _) => g n
  | .inr _ => False
def am_tsw (pc : Nat) (dflt lo hi : Int) (offs : Array Int) (x : Int32) : Nat := ((pc : Int) + (if x.toInt < lo ∨ hi < x.toInt then dflt else offs.toList.getD (x.toInt - lo).toNat 0)).toNat
def am_lsw (pc : Nat) (dflt : Int) (ps : Array (Int × Int)) (x : Int32) : Nat := ((pc : Int) + Op.lookupswitch.offset ps.toList dflt x.toInt).toNat
/-- what a new array of this kind holds -/
def am_new0 (ty : FieldType) (n : Nat) : vp_A := match ty with
  | .long => (n, .inr (.inl (fun _ => 0)))
  | _ => (n, .inl (fun _ => 0))
/-- a new object's fields, by the number of its class in vwCl -/
def am_newf (ci : Nat) : List Value := match ci with
  | 0 => [.null, .null, .int 0]
  | 1 => [.null, .null, .int 0]
  | 2 => [.null, .null, .null, .int 0, .int 0]
  | 3 => [.null, .null, .null, .int 0, .int 0, .int 0, .int 0, .int 0, .int 0]
  | 4 => [.null, .null, .null, .int 0, .int 0]
  | 5 => [.null, .int 0, .int 0, .int 0]
  | 6 => [.null, .int 0]
  | 7 => [.null, .null, .null, .null, .null, .null, .null, .null, .null, .null, .null, .null, .int 0]
  | 8 => [.int 0, .int 0, .null, .null, .null, .null, .int 0, .int 0, .int 0, .int 0, .null, .int 0, .null, .int 0, .null, .null, .int 0, .int 0, .null, .null, .int 0, .null, .null, .null, .null, .null, .null, .int 0, .null, .int 0, .int 0, .null, .null, .int 0, .null, .null, .int 0, .null, .null, .null, .null, .null, .int 0, .null, .null]
  | _ => []
/-- the texts: what stands below 16 -/
def am_txt (i : Nat) : List Int32 := match i with
  | 0 => []
  | 1 => [100, 100]
  | 2 => [100]
  | 3 => [100, 100, 108]
  | 4 => [108, 112]
  | 5 => [110, 111, 32, 115, 117, 99, 104, 32, 98, 114, 97, 99, 101, 108, 101, 116]
  | 6 => [110, 111, 32, 115, 117, 99, 104, 32, 113, 117, 101, 115, 116, 105, 111, 110]
  | 7 => [110, 111, 32, 115, 117, 99, 104, 32, 98, 101, 97, 100]
  | 8 => [110, 111, 32, 115, 117, 99, 104, 32, 99, 111, 108, 111, 117, 114]
  | 9 => [116, 104, 101, 32, 114, 111, 119, 32, 104, 97, 115, 32, 110, 111, 32, 115, 117, 99, 104, 32, 110, 117, 109, 98, 101, 114]
  | 10 => [110, 99, 116, 102, 109, 100, 104]
  | 11 => [60, 62, 61]
  | 12 => [43, 45]
  | 13 => [42, 47]
  | 14 => [97, 98, 99, 100]
  | 15 => [102, 117, 115, 114, 120, 99, 106, 116, 98]
  | _ => []
/-- the cells and slots that a method may make, by its number -/
def am_lim (k : Nat) : Nat × Nat := match k with
  | 22 => (2, 24)
  | 49 => (2, 1963)
  | 57 => (79, 383)
  | 63 => (3, 120)
  | 77 => (3, 14)
  | 103 => (1, 80)
  | 110 => (1, 16)
  | 114 => (111, 2815)
  | 119 => (1, 6)
  | 120 => (1, 6)
  | 121 => (1, 6)
  | 166 => (1, 6)
  | 182 => (28, 2170)
  | 600 => (1, 6)
  | 601 => (1, 6)
  | 602 => (1, 6)
  | 603 => (1, 6)
  | _ => (0, 0)
def am_cats (st : List Value) : Nat := (st.map Value.category).sum
/-- a call's arguments and what lies below them -/
def am_inv (call : am_K) (mno n ci : Nat) (k : am_F → am_H → Prop) (lim : Nat × Nat) (pc : Nat) (ls : List (Option Value)) (st : List Value) (u : Nat × Nat) (h : am_H) : Prop :=
  if am_cats (st.drop n) ≤ 8 ∧ n ≤ st.length ∧ u.1 + (am_lim mno).1 ≤ lim.1 ∧ u.2 + (am_lim mno).2 ≤ lim.2 then
    (match ci with
      | c + 1 => (match (st.take n).getLast? with
        | some (.ref p) => am_obj h p c (fun _ => call mno (st.take n).reverse h (fun v h' => k (pc + 3, ls, v.toList ++ st.drop n, u.1 + (am_lim mno).1, u.2 + (am_lim mno).2) h'))
        | _ => False)
      | 0 => call mno (st.take n).reverse h (fun v h' => k (pc + 3, ls, v.toList ++ st.drop n, u.1 + (am_lim mno).1, u.2 + (am_lim mno).2) h'))
  else False
def am_ins (call : am_K) (lim : Nat × Nat) (e : am_E) (Q : Option Value → am_H → Prop) (X : am_H → Prop) (k : am_F → am_H → Prop) (pc : Nat) (ls : List (Option Value)) (st : List Value) (u : Nat × Nat) (h : am_H) : Prop :=
  match e with
  | (ei, _, ea, eb, et, ec, ed) => match ei with
  | .iconst _ => k (pc + 1, ls, .int ec :: st, u) h
  | .bipush _ => k (pc + 2, ls, .int ec :: st, u) h
  | .sipush _ => k (pc + 3, ls, .int ec :: st, u) h
  | .lconst _ => k (pc + 1, ls, .long ed :: st, u) h
  | .ldc _ => if eb = 0 then k (pc + 2, ls, .int ec :: st, u) h else k (pc + 2, ls, .ref ea :: st, u) h
  | .ldc_w _ => if eb = 0 then k (pc + 3, ls, .int ec :: st, u) h else k (pc + 3, ls, .ref ea :: st, u) h
  | .ldc2_w _ => k (pc + 3, ls, .long ed :: st, u) h
  | .iload_n i => am_ldi ls i (fun x => k (pc + 1, ls, .int x :: st, u) h)
  | .iload i => am_ldi ls i (fun x => k (pc + 2, ls, .int x :: st, u) h)
  | .lload_n i => am_ldl ls i (fun x => k (pc + 1, ls, .long x :: st, u) h)
  | .lload i => am_ldl ls i (fun x => k (pc + 2, ls, .long x :: st, u) h)
  | .aload_n i => am_lda ls i (fun x => k (pc + 1, ls, .ref x :: st, u) h)
  | .aload i => am_lda ls i (fun x => k (pc + 2, ls, .ref x :: st, u) h)
  | .istore_n i => am_i1 st (fun x r => k (pc + 1, am_st1 ls i (.int x), r, u) h)
  | .istore i => am_i1 st (fun x r => k (pc + 2, am_st1 ls i (.int x), r, u) h)
  | .lstore_n i => am_l1 st (fun x r => k (pc + 1, am_st2 ls i (.long x), r, u) h)
  | .lstore i => am_l1 st (fun x r => k (pc + 2, am_st2 ls i (.long x), r, u) h)
  | .astore_n i => am_r1 st (fun x r => k (pc + 1, am_st1 ls i (.ref x), r, u) h)
  | .astore i => am_r1 st (fun x r => k (pc + 2, am_st1 ls i (.ref x), r, u) h)
  | .iinc i _ => am_ldi ls i (fun x => k (pc + 3, am_st1 ls i (.int (x + ec)), st, u) h)
  | .iadd => am_i2 st (fun x y r => k (pc + 1, ls, .int (x + y) :: r, u) h)
  | .isub => am_i2 st (fun x y r => k (pc + 1, ls, .int (x - y) :: r, u) h)
  | .imul => am_i2 st (fun x y r => k (pc + 1, ls, .int (x * y) :: r, u) h)
  | .iand => am_i2 st (fun x y r => k (pc + 1, ls, .int (x &&& y) :: r, u) h)
  | .ior => am_i2 st (fun x y r => k (pc + 1, ls, .int (x ||| y) :: r, u) h)
  | .ixor => am_i2 st (fun x y r => k (pc + 1, ls, .int (x ^^^ y) :: r, u) h)
  | .idiv => am_i2 st (fun x y r => ¬ y = 0 ∧ k (pc + 1, ls, .int (x / y) :: r, u) h)
  | .irem => am_i2 st (fun x y r => ¬ y = 0 ∧ k (pc + 1, ls, .int (x - x / y * y) :: r, u) h)
  | .ineg => am_i1 st (fun x r => k (pc + 1, ls, .int (-x) :: r, u) h)
  | .ishl => am_i2 st (fun x y r => k (pc + 1, ls, .int (x <<< (y &&& 31)) :: r, u) h)
  | .ishr => am_i2 st (fun x y r => k (pc + 1, ls, .int (x >>> (y &&& 31)) :: r, u) h)
  | .iushr => am_i2 st (fun x y r => k (pc + 1, ls, .int (x.toUInt32 >>> (y.toUInt32 &&& Int32.toUInt32 31)).toInt32 :: r, u) h)
  | .ladd => am_l2 st (fun x y r => k (pc + 1, ls, .long (x + y) :: r, u) h)
  | .lsub => am_l2 st (fun x y r => k (pc + 1, ls, .long (x - y) :: r, u) h)
  | .lmul => am_l2 st (fun x y r => k (pc + 1, ls, .long (x * y) :: r, u) h)
  | .ldiv => am_l2 st (fun x y r => ¬ y = 0 ∧ k (pc + 1, ls, .long (x / y) :: r, u) h)
  | .lrem => am_l2 st (fun x y r => ¬ y = 0 ∧ k (pc + 1, ls, .long (x - x / y * y) :: r, u) h)
  | .lcmp => am_l2 st (fun x y r => k (pc + 1, ls, .int (lg_cmp x y) :: r, u) h)
  | .i2l => am_i1 st (fun x r => k (pc + 1, ls, .long x.toInt64 :: r, u) h)
  | .l2i => am_l1 st (fun x r => k (pc + 1, ls, .int x.toInt32 :: r, u) h)
  | .i2b => am_i1 st (fun x r => k (pc + 1, ls, .int x.toInt8.toInt32 :: r, u) h)
  | .i2s => am_i1 st (fun x r => k (pc + 1, ls, .int x.toInt16.toInt32 :: r, u) h)
  | .i2c => am_i1 st (fun x r => k (pc + 1, ls, .int (x.toUInt32 % 65536).toInt32 :: r, u) h)
  | .dup => (match st with
    | v :: r => if v.category = 1 then k (pc + 1, ls, v :: v :: r, u) h else False
    | _ => False)
  | .dup2 => (match st with
    | v :: w :: r => if v.category = 1 ∧ w.category = 1 then k (pc + 1, ls, v :: w :: v :: w :: r, u) h else False
    | _ => False)
  | .pop => (match st with
    | v :: r => if v.category = 1 then k (pc + 1, ls, r, u) h else False
    | _ => False)
  | .ifCond cd _ => am_i1 st (fun x r => am_br (am_cmp cd x 0) (k (ea, ls, r, u) h) (k (pc + 3, ls, r, u) h))
  | .if_icmp cd _ => am_i2 st (fun x y r => am_br (am_cmp cd x y) (k (ea, ls, r, u) h) (k (pc + 3, ls, r, u) h))
  | .goto _ => k (ea, ls, st, u) h
  | .tableswitch d lo hi offs => am_i1 st (fun x r => k (am_tsw pc d lo hi offs x, ls, r, u) h)
  | .lookupswitch d ps => am_i1 st (fun x r => k (am_lsw pc d ps x, ls, r, u) h)
  | .getfield _ => am_r1 st (fun p r => am_obj h p ea (fun fs => match fs[eb]? with
    | some v => k (pc + 3, ls, v :: r, u) h
    | none => False))
  | .putfield _ => (match st with
    | v :: .ref p :: r => am_obj h p ea (fun fs => if eb < fs.length then am_fit et v (k (pc + 3, ls, r, u) (am_set h p (.inr (ea, fs.set eb v)))) else False)
    | _ => False)
  | .getstatic _ => k (pc + 3, ls, .ref ea :: st, u) h
  | .iaload => am_ir st (fun i p r => am_rdi h p (fun n f => vp_in i n ∧ k (pc + 1, ls, .int (f i.toNatClampNeg) :: r, u) h))
  | .baload => am_ir st (fun i p r => am_ari h p .boolean (fun n f => vp_in i n ∧ k (pc + 1, ls, .int (f i.toNatClampNeg) :: r, u) h))
  | .caload => am_ir st (fun i p r => am_ari h p .char (fun n f => vp_in i n ∧ k (pc + 1, ls, .int (f i.toNatClampNeg) :: r, u) h))
  | .laload => am_ir st (fun i p r => am_arl h p (fun n f => vp_in i n ∧ k (pc + 1, ls, .long (f i.toNatClampNeg) :: r, u) h))
  | .aaload => am_ir st (fun i p r => am_arr h p (fun _ n f => vp_in i n ∧ ∃ q, f i.toNatClampNeg = some q ∧ k (pc + 1, ls, .ref q :: r, u) h))
  | .iastore => am_i1 st (fun x st' => am_ir st' (fun i p r => am_ari h p .int (fun n f => vp_in i n ∧ k (pc + 1, ls, r, u) (am_set h p (.inl (.int, n, .inl (upd f i.toNatClampNeg x)))))))
  | .bastore => am_i1 st (fun x st' => am_ir st' (fun i p r => am_ari h p .boolean (fun n f => vp_in i n ∧ k (pc + 1, ls, r, u) (am_set h p (.inl (.boolean, n, .inl (upd f i.toNatClampNeg (vp_nar .boolean x))))))))
  | .castore => am_i1 st (fun x st' => am_ir st' (fun i p r => am_ari h p .char (fun n f => vp_in i n ∧ k (pc + 1, ls, r, u) (am_set h p (.inl (.char, n, .inl (upd f i.toNatClampNeg (vp_nar .char x))))))))
  | .lastore => am_l1 st (fun x st' => am_ir st' (fun i p r => am_arl h p (fun n f => vp_in i n ∧ k (pc + 1, ls, r, u) (am_set h p (.inl (.long, n, .inr (.inl (vp_updL f i.toNatClampNeg x))))))))
  | .aastore => am_r1 st (fun v st' => am_ir st' (fun i p r => am_arr h p (fun C n f => am_obj h v 4 (fun _ => C = RX7 ∧ vp_in i n ∧ k (pc + 1, ls, r, u) (am_set h p (.inl (.object C, n, .inr (.inr (.inr (.inr (va_up f i.toNatClampNeg (some v)))))))))))) 
  | .arraylength => am_r1 st (fun p r => am_len h p (fun n => k (pc + 1, ls, .int (Int32.ofNat n) :: r, u) h))
  | .newarray at_ => am_i1 st (fun n r => ¬ n < 0 ∧ n.toNatClampNeg ≤ 10000 ∧ u.1 + 1 ≤ lim.1 ∧ u.2 + n.toNatClampNeg ≤ lim.2 ∧ k (pc + 2, ls, .ref h.1 :: r, u.1 + 1, u.2 + n.toNatClampNeg) (am_add h (.inl (newarray.typeOf at_, am_new0 (newarray.typeOf at_) n.toNatClampNeg))))
  | .anewarray _ => am_i1 st (fun n r => ¬ n < 0 ∧ n.toNatClampNeg ≤ 10000 ∧ u.1 + 1 ≤ lim.1 ∧ u.2 + n.toNatClampNeg ≤ lim.2 ∧ k (pc + 3, ls, .ref h.1 :: r, u.1 + 1, u.2 + n.toNatClampNeg) (am_add h (.inl (.object RX7, n.toNatClampNeg, .inr (.inr (.inr (.inr (fun _ => none))))))))
  | .new _ => if eb = 1 then X h else u.1 + 1 ≤ lim.1 ∧ u.2 + (am_newf ea).length ≤ lim.2 ∧ k (pc + 3, ls, .ref h.1 :: st, u.1 + 1, u.2 + (am_newf ea).length) (am_add h (.inr (ea, am_newf ea)))
  | .invokevirtual _ => am_inv call ea eb et k lim pc ls st u h
  | .invokestatic _ => am_inv call ea eb et k lim pc ls st u h
  | .invokespecial _ => am_inv call ea eb et k lim pc ls st u h
  | .ireturn => (match st with
    | [.int x] => am_fit et (.int x) (Q (some (.int x)) h)
    | _ => False)
  | .lreturn => (match st with
    | [.long x] => Q (some (.long x)) h
    | _ => False)
  | .areturn => (match st with
    | [.ref x] => Q (some (.ref x)) h
    | _ => False)
  | .return_ => (match st with
    | [] => Q none h
    | _ => False)
  | _ => False
def am_step (call : am_K) (lim : Nat × Nat) (M : am_M) (Q : Option Value → am_H → Prop) (X : am_H → Prop) (k : am_F → am_H → Prop) (f : am_F) (h : am_H) : Prop := match f with
  | (pc, ls, st, u) => match M pc with
    | some e => am_ins call lim e Q X k pc ls st u h
    | none => False
/-- the least predicate that is closed under am_step: from this frame the method ends as Q or X says -/
def am_wp (call : am_K) (lim : Nat × Nat) (M : am_M) (Q : Option Value → am_H → Prop) (X : am_H → Prop) (f : am_F) (h : am_H) : Prop :=
  ∀ P : am_F → am_H → Prop, (∀ f h, am_step call lim M Q X P f h → P f h) → P f h
def am_steps (call : am_K) (lim : Nat × Nat) (M : am_M) (Q : Option Value → am_H → Prop) (X : am_H → Prop) (k : am_F → am_H → Prop) : Nat → am_F → am_H → Prop
  | 0 => k
  | n + 1 => am_step call lim M Q X (am_steps call lim M Q X k n)
end
section
def cd_X0_isNoColour : List (Nat × am_E) := [(0, .iload_n 0, 1, 0, 0, 0, 0, 0), (1, .ifCond .lt 8, 3, 9, 0, 0, 0, 0), (4, .iload_n 0, 1, 0, 0, 0, 0, 0), (5, .iconst 4, 1, 0, 0, 0, (4), 0), (6, .if_icmp .lt 7, 3, 13, 0, 0, 0, 0), (9, .iconst 1, 1, 0, 0, 0, (1), 0), (10, .goto 4, 3, 14, 0, 0, 0, 0), (13, .iconst 0, 1, 0, 0, 0, (0), 0), (14, .ireturn, 1, 0, 0, 2, 0, 0)]
def cm_X0_isNoColour : am_M := fun pc => cd_X0_isNoColour.lookup pc
def cd_X0_mask : List (Nat × am_E) := [(0, .iconst 1, 1, 0, 0, 0, (1), 0), (1, .iconst 2, 1, 0, 0, 0, (2), 0), (2, .iload_n 0, 1, 0, 0, 0, 0, 0), (3, .imul, 1, 0, 0, 0, 0, 0), (4, .ishl, 1, 0, 0, 0, 0, 0), (5, .iconst 1, 1, 0, 0, 0, (1), 0), (6, .isub, 1, 0, 0, 0, 0, 0), (7, .ireturn, 1, 0, 0, 0, 0, 0)]
def cm_X0_mask : am_M := fun pc => cd_X0_mask.lookup pc
def cd_X0_colourAt : List (Nat × am_E) := [(0, .iload_n 0, 1, 0, 0, 0, 0, 0), (1, .iconst 2, 1, 0, 0, 0, (2), 0), (2, .iload_n 1, 1, 0, 0, 0, 0, 0), (3, .iconst 1, 1, 0, 0, 0, (1), 0), (4, .isub, 1, 0, 0, 0, 0, 0), (5, .iload_n 2, 1, 0, 0, 0, 0, 0), (6, .isub, 1, 0, 0, 0, 0, 0), (7, .imul, 1, 0, 0, 0, 0, 0), (8, .ishr, 1, 0, 0, 0, 0, 0), (9, .iconst 3, 1, 0, 0, 0, (3), 0), (10, .iand, 1, 0, 0, 0, 0, 0), (11, .ireturn, 1, 0, 0, 0, 0, 0)]
def cm_X0_colourAt : am_M := fun pc => cd_X0_colourAt.lookup pc
def cd_X0_withColour : List (Nat × am_E) := [(0, .iconst 2, 1, 0, 0, 0, (2), 0), (1, .iload_n 1, 1, 0, 0, 0, 0, 0), (2, .iconst 1, 1, 0, 0, 0, (1), 0), (3, .isub, 1, 0, 0, 0, 0, 0), (4, .iload_n 2, 1, 0, 0, 0, 0, 0), (5, .isub, 1, 0, 0, 0, 0, 0), (6, .imul, 1, 0, 0, 0, 0, 0), (7, .istore 4, 2, 0, 0, 0, 0, 0), (9, .iload_n 0, 1, 0, 0, 0, 0, 0), (10, .iconst 3, 1, 0, 0, 0, (3), 0), (11, .iload 4, 2, 0, 0, 0, 0, 0), (13, .ishl, 1, 0, 0, 0, 0, 0), (14, .iconst (-1), 1, 0, 0, 0, (-1), 0), (15, .ixor, 1, 0, 0, 0, 0, 0), (16, .iand, 1, 0, 0, 0, 0, 0), (17, .iload_n 3, 1, 0, 0, 0, 0, 0), (18, .iload 4, 2, 0, 0, 0, 0, 0), (20, .ishl, 1, 0, 0, 0, 0, 0), (21, .ior, 1, 0, 0, 0, 0, 0), (22, .ireturn, 1, 0, 0, 0, 0, 0)]
def cm_X0_withColour : am_M := fun pc => cd_X0_withColour.lookup pc
def cd_X0_rolled : List (Nat × am_E) := [(0, .iload_n 1, 1, 0, 0, 0, 0, 0), (1, .ifCond .le 9, 3, 10, 0, 0, 0, 0), (4, .iload_n 2, 1, 0, 0, 0, 0, 0), (5, .iload_n 1, 1, 0, 0, 0, 0, 0), (6, .irem, 1, 0, 0, 0, 0, 0), (7, .goto 4, 3, 11, 0, 0, 0, 0), (10, .iconst 0, 1, 0, 0, 0, (0), 0), (11, .istore_n 3, 1, 0, 0, 0, 0, 0), (12, .iload_n 0, 1, 0, 0, 0, 0, 0), (13, .iconst 2, 1, 0, 0, 0, (2), 0), (14, .iload_n 3, 1, 0, 0, 0, 0, 0), (15, .imul, 1, 0, 0, 0, 0, 0), (16, .ishl, 1, 0, 0, 0, 0, 0), (17, .iload_n 0, 1, 0, 0, 0, 0, 0), (18, .iconst 2, 1, 0, 0, 0, (2), 0), (19, .iload_n 1, 1, 0, 0, 0, 0, 0), (20, .iload_n 3, 1, 0, 0, 0, 0, 0), (21, .isub, 1, 0, 0, 0, 0, 0), (22, .imul, 1, 0, 0, 0, 0, 0), (23, .ishr, 1, 0, 0, 0, 0, 0), (24, .ior, 1, 0, 0, 0, 0, 0), (25, .iload_n 1, 1, 0, 0, 0, 0, 0), (26, .invokestatic 9, 3, 1, 1, 0, 0, 0), (29, .iand, 1, 0, 0, 0, 0, 0), (30, .ireturn, 1, 0, 0, 0, 0, 0)]
def cm_X0_rolled : am_M := fun pc => cd_X0_rolled.lookup pc
def cd_X0_flipped : List (Nat × am_E) := [(0, .iconst 0, 1, 0, 0, 0, (0), 0), (1, .istore_n 2, 1, 0, 0, 0, 0, 0), (2, .iconst 0, 1, 0, 0, 0, (0), 0), (3, .istore_n 3, 1, 0, 0, 0, 0, 0), (4, .iload_n 3, 1, 0, 0, 0, 0, 0), (5, .iload_n 1, 1, 0, 0, 0, 0, 0), (6, .if_icmp .ge 21, 3, 27, 0, 0, 0, 0), (9, .iload_n 2, 1, 0, 0, 0, 0, 0), (10, .iconst 2, 1, 0, 0, 0, (2), 0), (11, .ishl, 1, 0, 0, 0, 0, 0), (12, .iload_n 0, 1, 0, 0, 0, 0, 0), (13, .iconst 2, 1, 0, 0, 0, (2), 0), (14, .iload_n 3, 1, 0, 0, 0, 0, 0), (15, .imul, 1, 0, 0, 0, 0, 0), (16, .ishr, 1, 0, 0, 0, 0, 0), (17, .iconst 3, 1, 0, 0, 0, (3), 0), (18, .iand, 1, 0, 0, 0, 0, 0), (19, .ior, 1, 0, 0, 0, 0, 0), (20, .istore_n 2, 1, 0, 0, 0, 0, 0), (21, .iinc 3 1, 3, 0, 0, 0, (1), 0), (24, .goto (-20), 3, 4, 0, 0, 0, 0), (27, .iload_n 2, 1, 0, 0, 0, 0, 0), (28, .ireturn, 1, 0, 0, 0, 0, 0)]
def cm_X0_flipped : am_M := fun pc => cd_X0_flipped.lookup pc
def cd_X0_turned : List (Nat × am_E) := [(0, .iload_n 2, 1, 0, 0, 0, 0, 0), (1, .iload_n 1, 1, 0, 0, 0, 0, 0), (2, .if_icmp .ge 12, 3, 14, 0, 0, 0, 0), (5, .iload_n 0, 1, 0, 0, 0, 0, 0), (6, .iload_n 1, 1, 0, 0, 0, 0, 0), (7, .iload_n 2, 1, 0, 0, 0, 0, 0), (8, .invokestatic 15, 3, 4, 3, 0, 0, 0), (11, .goto 15, 3, 26, 0, 0, 0, 0), (14, .iload_n 0, 1, 0, 0, 0, 0, 0), (15, .iload_n 1, 1, 0, 0, 0, 0, 0), (16, .invokestatic 19, 3, 5, 2, 0, 0, 0), (19, .iload_n 1, 1, 0, 0, 0, 0, 0), (20, .iload_n 2, 1, 0, 0, 0, 0, 0), (21, .iload_n 1, 1, 0, 0, 0, 0, 0), (22, .isub, 1, 0, 0, 0, 0, 0), (23, .invokestatic 15, 3, 4, 3, 0, 0, 0), (26, .ireturn, 1, 0, 0, 0, 0, 0)]
def cm_X0_turned : am_M := fun pc => cd_X0_turned.lookup pc
def cd_X0_turningName : List (Nat × am_E) := [(0, .iload_n 0, 1, 0, 0, 0, 0, 0), (1, .iload_n 1, 1, 0, 0, 0, 0, 0), (2, .if_icmp .ge 7, 3, 9, 0, 0, 0, 0), (5, .iload_n 0, 1, 0, 0, 0, 0, 0), (6, .goto 9, 3, 15, 0, 0, 0, 0), (9, .bipush 100, 2, 0, 0, 0, (100), 0), (11, .iload_n 0, 1, 0, 0, 0, 0, 0), (12, .iadd, 1, 0, 0, 0, 0, 0), (13, .iload_n 1, 1, 0, 0, 0, 0, 0), (14, .isub, 1, 0, 0, 0, 0, 0), (15, .ireturn, 1, 0, 0, 0, 0, 0)]
def cm_X0_turningName : am_M := fun pc => cd_X0_turningName.lookup pc
def cd_X0_leastRow : List (Nat × am_E) := [(0, .iload_n 0, 1, 0, 0, 0, 0, 0), (1, .iload_n 1, 1, 0, 0, 0, 0, 0), (2, .invokestatic 19, 3, 5, 2, 0, 0, 0), (5, .istore_n 2, 1, 0, 0, 0, 0, 0), (6, .iload_n 0, 1, 0, 0, 0, 0, 0), (7, .istore_n 3, 1, 0, 0, 0, 0, 0), (8, .iconst 0, 1, 0, 0, 0, (0), 0), (9, .istore 4, 2, 0, 0, 0, 0, 0), (11, .iload 4, 2, 0, 0, 0, 0, 0), (13, .iload_n 1, 1, 0, 0, 0, 0, 0), (14, .if_icmp .ge 31, 3, 45, 0, 0, 0, 0), (17, .iload_n 3, 1, 0, 0, 0, 0, 0), (18, .iload_n 0, 1, 0, 0, 0, 0, 0), (19, .iload_n 1, 1, 0, 0, 0, 0, 0), (20, .iload 4, 2, 0, 0, 0, 0, 0), (22, .invokestatic 15, 3, 4, 3, 0, 0, 0), (25, .iload_n 2, 1, 0, 0, 0, 0, 0), (26, .iload_n 1, 1, 0, 0, 0, 0, 0), (27, .iload 4, 2, 0, 0, 0, 0, 0), (29, .invokestatic 15, 3, 4, 3, 0, 0, 0), (32, .invokestatic 23, 3, 325, 2, 0, 0, 0), (35, .invokestatic 23, 3, 325, 2, 0, 0, 0), (38, .istore_n 3, 1, 0, 0, 0, 0, 0), (39, .iinc 4 1, 3, 0, 0, 0, (1), 0), (42, .goto (-31), 3, 11, 0, 0, 0, 0), (45, .iload_n 3, 1, 0, 0, 0, 0, 0), (46, .ireturn, 1, 0, 0, 0, 0, 0)]
def cm_X0_leastRow : am_M := fun pc => cd_X0_leastRow.lookup pc
def cd_X0_isLessFlipped : List (Nat × am_E) := [(0, .iload_n 0, 1, 0, 0, 0, 0, 0), (1, .iload_n 1, 1, 0, 0, 0, 0, 0), (2, .invokestatic 19, 3, 5, 2, 0, 0, 0), (5, .istore_n 2, 1, 0, 0, 0, 0, 0), (6, .iconst 0, 1, 0, 0, 0, (0), 0), (7, .istore_n 3, 1, 0, 0, 0, 0, 0), (8, .iload_n 3, 1, 0, 0, 0, 0, 0), (9, .iload_n 1, 1, 0, 0, 0, 0, 0), (10, .if_icmp .ge 21, 3, 31, 0, 0, 0, 0), (13, .iload_n 2, 1, 0, 0, 0, 0, 0), (14, .iload_n 1, 1, 0, 0, 0, 0, 0), (15, .iload_n 3, 1, 0, 0, 0, 0, 0), (16, .invokestatic 15, 3, 4, 3, 0, 0, 0), (19, .iload_n 0, 1, 0, 0, 0, 0, 0), (20, .if_icmp .ge 5, 3, 25, 0, 0, 0, 0), (23, .iconst 1, 1, 0, 0, 0, (1), 0), (24, .ireturn, 1, 0, 0, 2, 0, 0), (25, .iinc 3 1, 3, 0, 0, 0, (1), 0), (28, .goto (-20), 3, 8, 0, 0, 0, 0), (31, .iconst 0, 1, 0, 0, 0, (0), 0), (32, .ireturn, 1, 0, 0, 2, 0, 0)]
def cm_X0_isLessFlipped : am_M := fun pc => cd_X0_isLessFlipped.lookup pc
def cd_X0_firstTurning : List (Nat × am_E) := [(0, .iconst 0, 1, 0, 0, 0, (0), 0), (1, .istore_n 3, 1, 0, 0, 0, 0, 0), (2, .iload_n 3, 1, 0, 0, 0, 0, 0), (3, .iconst 2, 1, 0, 0, 0, (2), 0), (4, .iload_n 2, 1, 0, 0, 0, 0, 0), (5, .imul, 1, 0, 0, 0, 0, 0), (6, .if_icmp .ge 25, 3, 31, 0, 0, 0, 0), (9, .iload_n 0, 1, 0, 0, 0, 0, 0), (10, .iload_n 2, 1, 0, 0, 0, 0, 0), (11, .iload_n 3, 1, 0, 0, 0, 0, 0), (12, .invokestatic 28, 3, 6, 3, 0, 0, 0), (15, .iload_n 1, 1, 0, 0, 0, 0, 0), (16, .if_icmp .ne 9, 3, 25, 0, 0, 0, 0), (19, .iload_n 3, 1, 0, 0, 0, 0, 0), (20, .iload_n 2, 1, 0, 0, 0, 0, 0), (21, .invokestatic 31, 3, 7, 2, 0, 0, 0), (24, .ireturn, 1, 0, 0, 0, 0, 0), (25, .iinc 3 1, 3, 0, 0, 0, (1), 0), (28, .goto (-26), 3, 2, 0, 0, 0, 0), (31, .iconst (-1), 1, 0, 0, 0, (-1), 0), (32, .ireturn, 1, 0, 0, 0, 0, 0)]
def cm_X0_firstTurning : am_M := fun pc => cd_X0_firstTurning.lookup pc
def cd_X0_period : List (Nat × am_E) := [(0, .iconst 1, 1, 0, 0, 0, (1), 0), (1, .istore_n 2, 1, 0, 0, 0, 0, 0), (2, .iload_n 2, 1, 0, 0, 0, 0, 0), (3, .iload_n 1, 1, 0, 0, 0, 0, 0), (4, .if_icmp .ge 21, 3, 25, 0, 0, 0, 0), (7, .iload_n 0, 1, 0, 0, 0, 0, 0), (8, .iload_n 1, 1, 0, 0, 0, 0, 0), (9, .iload_n 2, 1, 0, 0, 0, 0, 0), (10, .invokestatic 15, 3, 4, 3, 0, 0, 0), (13, .iload_n 0, 1, 0, 0, 0, 0, 0), (14, .if_icmp .ne 5, 3, 19, 0, 0, 0, 0), (17, .iload_n 2, 1, 0, 0, 0, 0, 0), (18, .ireturn, 1, 0, 0, 0, 0, 0), (19, .iinc 2 1, 3, 0, 0, 0, (1), 0), (22, .goto (-20), 3, 2, 0, 0, 0, 0), (25, .iload_n 1, 1, 0, 0, 0, 0, 0), (26, .ireturn, 1, 0, 0, 0, 0, 0)]
def cm_X0_period : am_M := fun pc => cd_X0_period.lookup pc
def cd_X0_mirrors : List (Nat × am_E) := [(0, .iload_n 0, 1, 0, 0, 0, 0, 0), (1, .iload_n 1, 1, 0, 0, 0, 0, 0), (2, .invokestatic 19, 3, 5, 2, 0, 0, 0), (5, .istore_n 2, 1, 0, 0, 0, 0, 0), (6, .iconst 0, 1, 0, 0, 0, (0), 0), (7, .istore_n 3, 1, 0, 0, 0, 0, 0), (8, .iconst 0, 1, 0, 0, 0, (0), 0), (9, .istore 4, 2, 0, 0, 0, 0, 0), (11, .iload 4, 2, 0, 0, 0, 0, 0), (13, .iload_n 1, 1, 0, 0, 0, 0, 0), (14, .if_icmp .ge 23, 3, 37, 0, 0, 0, 0), (17, .iload_n 2, 1, 0, 0, 0, 0, 0), (18, .iload_n 1, 1, 0, 0, 0, 0, 0), (19, .iload 4, 2, 0, 0, 0, 0, 0), (21, .invokestatic 15, 3, 4, 3, 0, 0, 0), (24, .iload_n 0, 1, 0, 0, 0, 0, 0), (25, .if_icmp .ne 6, 3, 31, 0, 0, 0, 0), (28, .iinc 3 1, 3, 0, 0, 0, (1), 0), (31, .iinc 4 1, 3, 0, 0, 0, (1), 0), (34, .goto (-23), 3, 11, 0, 0, 0, 0), (37, .iload_n 3, 1, 0, 0, 0, 0, 0), (38, .ireturn, 1, 0, 0, 0, 0, 0)]
def cm_X0_mirrors : am_M := fun pc => cd_X0_mirrors.lookup pc
def cd_X0_stays : List (Nat × am_E) := [(0, .iload_n 1, 1, 0, 0, 0, 0, 0), (1, .iconst 1, 1, 0, 0, 0, (1), 0), (2, .iload_n 0, 1, 0, 0, 0, 0, 0), (3, .iload_n 1, 1, 0, 0, 0, 0, 0), (4, .invokestatic 34, 3, 11, 2, 0, 0, 0), (7, .invokestatic 37, 3, 324, 2, 0, 0, 0), (10, .idiv, 1, 0, 0, 0, 0, 0), (11, .iload_n 0, 1, 0, 0, 0, 0, 0), (12, .iload_n 1, 1, 0, 0, 0, 0, 0), (13, .invokestatic 40, 3, 12, 2, 0, 0, 0), (16, .iadd, 1, 0, 0, 0, 0, 0), (17, .ireturn, 1, 0, 0, 0, 0, 0)]
def cm_X0_stays : am_M := fun pc => cd_X0_stays.lookup pc
def cd_X0_numberOf : List (Nat × am_E) := [(0, .iload_n 2, 1, 0, 0, 0, 0, 0), (1, .iload_n 1, 1, 0, 0, 0, 0, 0), (2, .iload_n 0, 1, 0, 0, 0, 0, 0), (3, .ldc 43, 2, 0, 0, 0, (349525), 0), (5, .imul, 1, 0, 0, 0, 0, 0), (6, .iload_n 2, 1, 0, 0, 0, 0, 0), (7, .invokestatic 9, 3, 1, 1, 0, 0, 0), (10, .iand, 1, 0, 0, 0, 0, 0), (11, .invokestatic 44, 3, 19, 2, 0, 0, 0), (14, .isub, 1, 0, 0, 0, 0, 0), (15, .ireturn, 1, 0, 0, 0, 0, 0)]
def cm_X0_numberOf : am_M := fun pc => cd_X0_numberOf.lookup pc
def cd_X0_colourBits : List (Nat × am_E) := [(0, .iconst 0, 1, 0, 0, 0, (0), 0), (1, .istore_n 2, 1, 0, 0, 0, 0, 0), (2, .iconst 0, 1, 0, 0, 0, (0), 0), (3, .istore_n 3, 1, 0, 0, 0, 0, 0), (4, .iload_n 3, 1, 0, 0, 0, 0, 0), (5, .iconst 4, 1, 0, 0, 0, (4), 0), (6, .if_icmp .ge 24, 3, 30, 0, 0, 0, 0), (9, .iload_n 3, 1, 0, 0, 0, 0, 0), (10, .iload_n 0, 1, 0, 0, 0, 0, 0), (11, .iload_n 1, 1, 0, 0, 0, 0, 0), (12, .invokestatic 47, 3, 14, 3, 0, 0, 0), (15, .ifCond .le 9, 3, 24, 0, 0, 0, 0), (18, .iload_n 2, 1, 0, 0, 0, 0, 0), (19, .iconst 1, 1, 0, 0, 0, (1), 0), (20, .iload_n 3, 1, 0, 0, 0, 0, 0), (21, .ishl, 1, 0, 0, 0, 0, 0), (22, .ior, 1, 0, 0, 0, 0, 0), (23, .istore_n 2, 1, 0, 0, 0, 0, 0), (24, .iinc 3 1, 3, 0, 0, 0, (1), 0), (27, .goto (-23), 3, 4, 0, 0, 0, 0), (30, .iload_n 2, 1, 0, 0, 0, 0, 0), (31, .ireturn, 1, 0, 0, 0, 0, 0)]
def cm_X0_colourBits : am_M := fun pc => cd_X0_colourBits.lookup pc
def cd_X0_greatestColour : List (Nat × am_E) := [(0, .iconst 3, 1, 0, 0, 0, (3), 0), (1, .istore_n 2, 1, 0, 0, 0, 0, 0), (2, .iload_n 2, 1, 0, 0, 0, 0, 0), (3, .ifCond .le 20, 3, 23, 0, 0, 0, 0), (6, .iload_n 2, 1, 0, 0, 0, 0, 0), (7, .iload_n 0, 1, 0, 0, 0, 0, 0), (8, .iload_n 1, 1, 0, 0, 0, 0, 0), (9, .invokestatic 47, 3, 14, 3, 0, 0, 0), (12, .ifCond .le 5, 3, 17, 0, 0, 0, 0), (15, .iload_n 2, 1, 0, 0, 0, 0, 0), (16, .ireturn, 1, 0, 0, 0, 0, 0), (17, .iinc 2 (-1), 3, 0, 0, 0, (-1), 0), (20, .goto (-18), 3, 2, 0, 0, 0, 0), (23, .iconst 0, 1, 0, 0, 0, (0), 0), (24, .ireturn, 1, 0, 0, 0, 0, 0)]
def cm_X0_greatestColour : am_M := fun pc => cd_X0_greatestColour.lookup pc
def cd_X0_tallyInto : List (Nat × am_E) := [(0, .iconst 0, 1, 0, 0, 0, (0), 0), (1, .istore_n 3, 1, 0, 0, 0, 0, 0), (2, .iload_n 3, 1, 0, 0, 0, 0, 0), (3, .iconst 4, 1, 0, 0, 0, (4), 0), (4, .if_icmp .ge 18, 3, 22, 0, 0, 0, 0), (7, .aload_n 0, 1, 0, 0, 0, 0, 0), (8, .iload_n 3, 1, 0, 0, 0, 0, 0), (9, .iload_n 3, 1, 0, 0, 0, 0, 0), (10, .iload_n 1, 1, 0, 0, 0, 0, 0), (11, .iload_n 2, 1, 0, 0, 0, 0, 0), (12, .invokestatic 47, 3, 14, 3, 0, 0, 0), (15, .iastore, 1, 0, 0, 0, 0, 0), (16, .iinc 3 1, 3, 0, 0, 0, (1), 0), (19, .goto (-17), 3, 2, 0, 0, 0, 0), (22, .return_, 1, 0, 0, 0, 0, 0)]
def cm_X0_tallyInto : am_M := fun pc => cd_X0_tallyInto.lookup pc
def cd_X0_mostOfOne : List (Nat × am_E) := [(0, .iconst 0, 1, 0, 0, 0, (0), 0), (1, .istore_n 2, 1, 0, 0, 0, 0, 0), (2, .iconst 0, 1, 0, 0, 0, (0), 0), (3, .istore_n 3, 1, 0, 0, 0, 0, 0), (4, .iload_n 3, 1, 0, 0, 0, 0, 0), (5, .iconst 4, 1, 0, 0, 0, (4), 0), (6, .if_icmp .ge 20, 3, 26, 0, 0, 0, 0), (9, .iload_n 2, 1, 0, 0, 0, 0, 0), (10, .iload_n 3, 1, 0, 0, 0, 0, 0), (11, .iload_n 0, 1, 0, 0, 0, 0, 0), (12, .iload_n 1, 1, 0, 0, 0, 0, 0), (13, .invokestatic 47, 3, 14, 3, 0, 0, 0), (16, .invokestatic 37, 3, 324, 2, 0, 0, 0), (19, .istore_n 2, 1, 0, 0, 0, 0, 0), (20, .iinc 3 1, 3, 0, 0, 0, (1), 0), (23, .goto (-19), 3, 4, 0, 0, 0, 0), (26, .iload_n 2, 1, 0, 0, 0, 0, 0), (27, .ireturn, 1, 0, 0, 0, 0, 0)]
def cm_X0_mostOfOne : am_M := fun pc => cd_X0_mostOfOne.lookup pc
def cd_X0_apart : List (Nat × am_E) := [(0, .iload_n 0, 1, 0, 0, 0, 0, 0), (1, .iload_n 1, 1, 0, 0, 0, 0, 0), (2, .ixor, 1, 0, 0, 0, 0, 0), (3, .istore_n 2, 1, 0, 0, 0, 0, 0), (4, .iload_n 2, 1, 0, 0, 0, 0, 0), (5, .iload_n 2, 1, 0, 0, 0, 0, 0), (6, .iconst 1, 1, 0, 0, 0, (1), 0), (7, .ishr, 1, 0, 0, 0, 0, 0), (8, .ior, 1, 0, 0, 0, 0, 0), (9, .ldc 43, 2, 0, 0, 0, (349525), 0), (11, .iand, 1, 0, 0, 0, 0, 0), (12, .invokestatic 50, 3, 323, 1, 0, 0, 0), (15, .ireturn, 1, 0, 0, 0, 0, 0)]
def cm_X0_apart : am_M := fun pc => cd_X0_apart.lookup pc
def cd_X0_wordAt : List (Nat × am_E) := [(0, .iload_n 0, 1, 0, 0, 0, 0, 0), (1, .iload_n 1, 1, 0, 0, 0, 0, 0), (2, .iload_n 2, 1, 0, 0, 0, 0, 0), (3, .invokestatic 15, 3, 4, 3, 0, 0, 0), (6, .iconst 2, 1, 0, 0, 0, (2), 0), (7, .iload_n 1, 1, 0, 0, 0, 0, 0), (8, .iload_n 3, 1, 0, 0, 0, 0, 0), (9, .isub, 1, 0, 0, 0, 0, 0), (10, .imul, 1, 0, 0, 0, 0, 0), (11, .ishr, 1, 0, 0, 0, 0, 0), (12, .ireturn, 1, 0, 0, 0, 0, 0)]
def cm_X0_wordAt : am_M := fun pc => cd_X0_wordAt.lookup pc
def cd_X0_placesOf : List (Nat × am_E) := [(0, .iconst 0, 1, 0, 0, 0, (0), 0), (1, .istore 4, 2, 0, 0, 0, 0, 0), (3, .iconst 0, 1, 0, 0, 0, (0), 0), (4, .istore 5, 2, 0, 0, 0, 0, 0), (6, .iload 5, 2, 0, 0, 0, 0, 0), (8, .iload_n 1, 1, 0, 0, 0, 0, 0), (9, .if_icmp .ge 30, 3, 39, 0, 0, 0, 0), (12, .iload_n 0, 1, 0, 0, 0, 0, 0), (13, .iload_n 1, 1, 0, 0, 0, 0, 0), (14, .iload 5, 2, 0, 0, 0, 0, 0), (16, .iload_n 3, 1, 0, 0, 0, 0, 0), (17, .invokestatic 55, 3, 20, 4, 0, 0, 0), (20, .iload_n 2, 1, 0, 0, 0, 0, 0), (21, .if_icmp .ne 12, 3, 33, 0, 0, 0, 0), (24, .iload 4, 2, 0, 0, 0, 0, 0), (26, .iconst 1, 1, 0, 0, 0, (1), 0), (27, .iload 5, 2, 0, 0, 0, 0, 0), (29, .ishl, 1, 0, 0, 0, 0, 0), (30, .ior, 1, 0, 0, 0, 0, 0), (31, .istore 4, 2, 0, 0, 0, 0, 0), (33, .iinc 5 1, 3, 0, 0, 0, (1), 0), (36, .goto (-30), 3, 6, 0, 0, 0, 0), (39, .iload 4, 2, 0, 0, 0, 0, 0), (41, .ireturn, 1, 0, 0, 0, 0, 0)]
def cm_X0_placesOf : am_M := fun pc => cd_X0_placesOf.lookup pc
def cd_X1_init : List (Nat × am_E) := [(0, .aload_n 0, 1, 0, 0, 0, 0, 0), (1, .invokespecial 3, 3, 904, 1, 0, 0, 0), (4, .aload_n 0, 1, 0, 0, 0, 0, 0), (5, .iconst 0, 1, 0, 0, 0, (0), 0), (6, .iload_n 1, 1, 0, 0, 0, 0, 0), (7, .invokestatic 9, 3, 324, 2, 0, 0, 0), (10, .newarray .int, 2, 0, 0, 0, 0, 0), (12, .putfield 15, 3, 0, 0, 1, 0, 0), (15, .aload_n 0, 1, 0, 0, 0, 0, 0), (16, .iconst 0, 1, 0, 0, 0, (0), 0), (17, .iload_n 1, 1, 0, 0, 0, 0, 0), (18, .invokestatic 9, 3, 324, 2, 0, 0, 0), (21, .newarray .int, 2, 0, 0, 0, 0, 0), (23, .putfield 21, 3, 0, 1, 1, 0, 0), (26, .return_, 1, 0, 0, 0, 0, 0)]
def cm_X1_init : am_M := fun pc => cd_X1_init.lookup pc
def cd_X1_add : List (Nat × am_E) := [(0, .aload_n 0, 1, 0, 0, 0, 0, 0), (1, .getfield 24, 3, 0, 2, 0, 0, 0), (4, .aload_n 0, 1, 0, 0, 0, 0, 0), (5, .getfield 15, 3, 0, 0, 0, 0, 0), (8, .arraylength, 1, 0, 0, 0, 0, 0), (9, .if_icmp .lt 5, 3, 14, 0, 0, 0, 0), (12, .iconst (-1), 1, 0, 0, 0, (-1), 0), (13, .ireturn, 1, 0, 0, 0, 0, 0), (14, .aload_n 0, 1, 0, 0, 0, 0, 0), (15, .getfield 15, 3, 0, 0, 0, 0, 0), (18, .aload_n 0, 1, 0, 0, 0, 0, 0), (19, .getfield 24, 3, 0, 2, 0, 0, 0), (22, .iload_n 1, 1, 0, 0, 0, 0, 0), (23, .iastore, 1, 0, 0, 0, 0, 0), (24, .aload_n 0, 1, 0, 0, 0, 0, 0), (25, .getfield 21, 3, 0, 1, 0, 0, 0), (28, .aload_n 0, 1, 0, 0, 0, 0, 0), (29, .getfield 24, 3, 0, 2, 0, 0, 0), (32, .iload_n 2, 1, 0, 0, 0, 0, 0), (33, .iastore, 1, 0, 0, 0, 0, 0), (34, .aload_n 0, 1, 0, 0, 0, 0, 0), (35, .dup, 1, 0, 0, 0, 0, 0), (36, .getfield 24, 3, 0, 2, 0, 0, 0), (39, .iconst 1, 1, 0, 0, 0, (1), 0), (40, .iadd, 1, 0, 0, 0, 0, 0), (41, .putfield 24, 3, 0, 2, 0, 0, 0), (44, .aload_n 0, 1, 0, 0, 0, 0, 0), (45, .getfield 24, 3, 0, 2, 0, 0, 0), (48, .ireturn, 1, 0, 0, 0, 0, 0)]
def cm_X1_add : am_M := fun pc => cd_X1_add.lookup pc
def cd_X1_empty : List (Nat × am_E) := [(0, .aload_n 0, 1, 0, 0, 0, 0, 0), (1, .getfield 24, 3, 0, 2, 0, 0, 0), (4, .istore_n 1, 1, 0, 0, 0, 0, 0), (5, .aload_n 0, 1, 0, 0, 0, 0, 0), (6, .iconst 0, 1, 0, 0, 0, (0), 0), (7, .putfield 24, 3, 0, 2, 0, 0, 0), (10, .iload_n 1, 1, 0, 0, 0, 0, 0), (11, .ireturn, 1, 0, 0, 0, 0, 0)]
def cm_X1_empty : am_M := fun pc => cd_X1_empty.lookup pc
def cd_X1_canBeFelt : List (Nat × am_E) := [(0, .iload_n 0, 1, 0, 0, 0, 0, 0), (1, .ifCond .lt 20, 3, 21, 0, 0, 0, 0), (4, .iload_n 0, 1, 0, 0, 0, 0, 0), (5, .bipush 9, 2, 0, 0, 0, (9), 0), (7, .if_icmp .gt 14, 3, 21, 0, 0, 0, 0), (10, .iload_n 1, 1, 0, 0, 0, 0, 0), (11, .invokestatic 28, 3, 0, 1, 0, 0, 0), (14, .ifCond .ne 7, 3, 21, 0, 0, 0, 0), (17, .iconst 1, 1, 0, 0, 0, (1), 0), (18, .goto 4, 3, 22, 0, 0, 0, 0), (21, .iconst 0, 1, 0, 0, 0, (0), 0), (22, .ireturn, 1, 0, 0, 2, 0, 0)]
def cm_X1_canBeFelt : am_M := fun pc => cd_X1_canBeFelt.lookup pc
def cd_X1_rollsLeft : List (Nat × am_E) := [(0, .iconst 0, 1, 0, 0, 0, (0), 0), (1, .istore_n 3, 1, 0, 0, 0, 0, 0), (2, .iconst 0, 1, 0, 0, 0, (0), 0), (3, .istore 4, 2, 0, 0, 0, 0, 0), (5, .iload 4, 2, 0, 0, 0, 0, 0), (7, .iload_n 2, 1, 0, 0, 0, 0, 0), (8, .if_icmp .ge 31, 3, 39, 0, 0, 0, 0), (11, .aload_n 0, 1, 0, 0, 0, 0, 0), (12, .iload_n 1, 1, 0, 0, 0, 0, 0), (13, .iload_n 2, 1, 0, 0, 0, 0, 0), (14, .iload 4, 2, 0, 0, 0, 0, 0), (16, .invokestatic 34, 3, 4, 3, 0, 0, 0), (19, .iload_n 2, 1, 0, 0, 0, 0, 0), (20, .invokevirtual 38, 3, 27, 3, 1, 0, 0), (23, .ifCond .eq 10, 3, 33, 0, 0, 0, 0), (26, .iload_n 3, 1, 0, 0, 0, 0, 0), (27, .iconst 1, 1, 0, 0, 0, (1), 0), (28, .iload 4, 2, 0, 0, 0, 0, 0), (30, .ishl, 1, 0, 0, 0, 0, 0), (31, .ior, 1, 0, 0, 0, 0, 0), (32, .istore_n 3, 1, 0, 0, 0, 0, 0), (33, .iinc 4 1, 3, 0, 0, 0, (1), 0), (36, .goto (-31), 3, 5, 0, 0, 0, 0), (39, .iload_n 3, 1, 0, 0, 0, 0, 0), (40, .ireturn, 1, 0, 0, 0, 0, 0)]
def cm_X1_rollsLeft : am_M := fun pc => cd_X1_rollsLeft.lookup pc
def cd_X1_isAllFelt : List (Nat × am_E) := [(0, .iconst 0, 1, 0, 0, 0, (0), 0), (1, .istore_n 3, 1, 0, 0, 0, 0, 0), (2, .iload_n 3, 1, 0, 0, 0, 0, 0), (3, .aload_n 0, 1, 0, 0, 0, 0, 0), (4, .getfield 24, 3, 0, 2, 0, 0, 0), (7, .if_icmp .ge 37, 3, 44, 0, 0, 0, 0), (10, .iload_n 1, 1, 0, 0, 0, 0, 0), (11, .iload_n 2, 1, 0, 0, 0, 0, 0), (12, .aload_n 0, 1, 0, 0, 0, 0, 0), (13, .getfield 15, 3, 0, 0, 0, 0, 0), (16, .iload_n 3, 1, 0, 0, 0, 0, 0), (17, .iaload, 1, 0, 0, 0, 0, 0), (18, .iconst 1, 1, 0, 0, 0, (1), 0), (19, .iload_n 2, 1, 0, 0, 0, 0, 0), (20, .invokestatic 9, 3, 324, 2, 0, 0, 0), (23, .irem, 1, 0, 0, 0, 0, 0), (24, .invokestatic 42, 3, 2, 3, 0, 0, 0), (27, .aload_n 0, 1, 0, 0, 0, 0, 0), (28, .getfield 21, 3, 0, 1, 0, 0, 0), (31, .iload_n 3, 1, 0, 0, 0, 0, 0), (32, .iaload, 1, 0, 0, 0, 0, 0), (33, .if_icmp .eq 5, 3, 38, 0, 0, 0, 0), (36, .iconst 0, 1, 0, 0, 0, (0), 0), (37, .ireturn, 1, 0, 0, 2, 0, 0), (38, .iinc 3 1, 3, 0, 0, 0, (1), 0), (41, .goto (-39), 3, 2, 0, 0, 0, 0), (44, .iconst 1, 1, 0, 0, 0, (1), 0), (45, .ireturn, 1, 0, 0, 2, 0, 0)]
def cm_X1_isAllFelt : am_M := fun pc => cd_X1_isAllFelt.lookup pc
def cd_X1_mostLeft : List (Nat × am_E) := [(0, .iconst 0, 1, 0, 0, 0, (0), 0), (1, .istore 4, 2, 0, 0, 0, 0, 0), (3, .iconst 0, 1, 0, 0, 0, (0), 0), (4, .istore 5, 2, 0, 0, 0, 0, 0), (6, .iload 5, 2, 0, 0, 0, 0, 0), (8, .iconst 4, 1, 0, 0, 0, (4), 0), (9, .if_icmp .ge 66, 3, 75, 0, 0, 0, 0), (12, .iconst 0, 1, 0, 0, 0, (0), 0), (13, .istore 6, 2, 0, 0, 0, 0, 0), (15, .iconst 0, 1, 0, 0, 0, (0), 0), (16, .istore 7, 2, 0, 0, 0, 0, 0), (18, .iload 7, 2, 0, 0, 0, 0, 0), (20, .iload_n 1, 1, 0, 0, 0, 0, 0), (21, .if_icmp .ge 39, 3, 60, 0, 0, 0, 0), (24, .iload_n 2, 1, 0, 0, 0, 0, 0), (25, .iload 7, 2, 0, 0, 0, 0, 0), (27, .ishr, 1, 0, 0, 0, 0, 0), (28, .iconst 1, 1, 0, 0, 0, (1), 0), (29, .iand, 1, 0, 0, 0, 0, 0), (30, .iconst 1, 1, 0, 0, 0, (1), 0), (31, .if_icmp .ne 23, 3, 54, 0, 0, 0, 0), (34, .iload_n 0, 1, 0, 0, 0, 0, 0), (35, .iload_n 1, 1, 0, 0, 0, 0, 0), (36, .iload 7, 2, 0, 0, 0, 0, 0), (38, .invokestatic 34, 3, 4, 3, 0, 0, 0), (41, .iload_n 1, 1, 0, 0, 0, 0, 0), (42, .iload_n 3, 1, 0, 0, 0, 0, 0), (43, .invokestatic 42, 3, 2, 3, 0, 0, 0), (46, .iload 5, 2, 0, 0, 0, 0, 0), (48, .if_icmp .ne 6, 3, 54, 0, 0, 0, 0), (51, .iinc 6 1, 3, 0, 0, 0, (1), 0), (54, .iinc 7 1, 3, 0, 0, 0, (1), 0), (57, .goto (-39), 3, 18, 0, 0, 0, 0), (60, .iload 4, 2, 0, 0, 0, 0, 0), (62, .iload 6, 2, 0, 0, 0, 0, 0), (64, .invokestatic 9, 3, 324, 2, 0, 0, 0), (67, .istore 4, 2, 0, 0, 0, 0, 0), (69, .iinc 5 1, 3, 0, 0, 0, (1), 0), (72, .goto (-66), 3, 6, 0, 0, 0, 0), (75, .iload 4, 2, 0, 0, 0, 0, 0), (77, .ireturn, 1, 0, 0, 0, 0, 0)]
def cm_X1_mostLeft : am_M := fun pc => cd_X1_mostLeft.lookup pc
def cd_X1_canBeHeard : List (Nat × am_E) := [(0, .iload_n 0, 1, 0, 0, 0, 0, 0), (1, .iconst 1, 1, 0, 0, 0, (1), 0), (2, .if_icmp .ne 16, 3, 18, 0, 0, 0, 0), (5, .iload_n 1, 1, 0, 0, 0, 0, 0), (6, .invokestatic 28, 3, 0, 1, 0, 0, 0), (9, .ifCond .ne 7, 3, 16, 0, 0, 0, 0), (12, .iconst 1, 1, 0, 0, 0, (1), 0), (13, .goto 4, 3, 17, 0, 0, 0, 0), (16, .iconst 0, 1, 0, 0, 0, (0), 0), (17, .ireturn, 1, 0, 0, 2, 0, 0), (18, .iload_n 0, 1, 0, 0, 0, 0, 0), (19, .ifCond .lt 23, 3, 42, 0, 0, 0, 0), (22, .iload_n 0, 1, 0, 0, 0, 0, 0), (23, .iconst 3, 1, 0, 0, 0, (3), 0), (24, .if_icmp .gt 18, 3, 42, 0, 0, 0, 0), (27, .iload_n 1, 1, 0, 0, 0, 0, 0), (28, .iconst 1, 1, 0, 0, 0, (1), 0), (29, .if_icmp .lt 13, 3, 42, 0, 0, 0, 0), (32, .iload_n 1, 1, 0, 0, 0, 0, 0), (33, .bipush 9, 2, 0, 0, 0, (9), 0), (35, .if_icmp .gt 7, 3, 42, 0, 0, 0, 0), (38, .iconst 1, 1, 0, 0, 0, (1), 0), (39, .goto 4, 3, 43, 0, 0, 0, 0), (42, .iconst 0, 1, 0, 0, 0, (0), 0), (43, .ireturn, 1, 0, 0, 2, 0, 0)]
def cm_X1_canBeHeard : am_M := fun pc => cd_X1_canBeHeard.lookup pc
def cd_X1_fitting : List (Nat × am_E) := [(0, .iconst 1, 1, 0, 0, 0, (1), 0), (1, .aload_n 1, 1, 0, 0, 0, 0, 0), (2, .getfield 45, 3, 4, 3, 0, 0, 0), (5, .ishl, 1, 0, 0, 0, 0, 0), (6, .iconst 1, 1, 0, 0, 0, (1), 0), (7, .isub, 1, 0, 0, 0, 0, 0), (8, .istore_n 2, 1, 0, 0, 0, 0, 0), (9, .iconst 0, 1, 0, 0, 0, (0), 0), (10, .istore_n 3, 1, 0, 0, 0, 0, 0), (11, .iload_n 3, 1, 0, 0, 0, 0, 0), (12, .aload_n 0, 1, 0, 0, 0, 0, 0), (13, .getfield 24, 3, 0, 2, 0, 0, 0), (16, .if_icmp .ge 28, 3, 44, 0, 0, 0, 0), (19, .iload_n 2, 1, 0, 0, 0, 0, 0), (20, .aload_n 1, 1, 0, 0, 0, 0, 0), (21, .aload_n 0, 1, 0, 0, 0, 0, 0), (22, .getfield 15, 3, 0, 0, 0, 0, 0), (25, .iload_n 3, 1, 0, 0, 0, 0, 0), (26, .iaload, 1, 0, 0, 0, 0, 0), (27, .aload_n 0, 1, 0, 0, 0, 0, 0), (28, .getfield 21, 3, 0, 1, 0, 0, 0), (31, .iload_n 3, 1, 0, 0, 0, 0, 0), (32, .iaload, 1, 0, 0, 0, 0, 0), (33, .invokestatic 50, 3, 31, 3, 0, 0, 0), (36, .iand, 1, 0, 0, 0, 0, 0), (37, .istore_n 2, 1, 0, 0, 0, 0, 0), (38, .iinc 3 1, 3, 0, 0, 0, (1), 0), (41, .goto (-30), 3, 11, 0, 0, 0, 0), (44, .iload_n 2, 1, 0, 0, 0, 0, 0), (45, .ireturn, 1, 0, 0, 0, 0, 0)]
def cm_X1_fitting : am_M := fun pc => cd_X1_fitting.lookup pc
def cd_X1_suiting : List (Nat × am_E) := [(0, .iconst 0, 1, 0, 0, 0, (0), 0), (1, .istore_n 3, 1, 0, 0, 0, 0, 0), (2, .iconst 0, 1, 0, 0, 0, (0), 0), (3, .istore 4, 2, 0, 0, 0, 0, 0), (5, .iload 4, 2, 0, 0, 0, 0, 0), (7, .aload_n 0, 1, 0, 0, 0, 0, 0), (8, .getfield 45, 3, 4, 3, 0, 0, 0), (11, .if_icmp .ge 38, 3, 49, 0, 0, 0, 0), (14, .iload_n 1, 1, 0, 0, 0, 0, 0), (15, .iload_n 2, 1, 0, 0, 0, 0, 0), (16, .aload_n 0, 1, 0, 0, 0, 0, 0), (17, .getfield 54, 3, 4, 0, 0, 0, 0), (20, .iload 4, 2, 0, 0, 0, 0, 0), (22, .iaload, 1, 0, 0, 0, 0, 0), (23, .aload_n 0, 1, 0, 0, 0, 0, 0), (24, .getfield 57, 3, 4, 1, 0, 0, 0), (27, .iload 4, 2, 0, 0, 0, 0, 0), (29, .iaload, 1, 0, 0, 0, 0, 0), (30, .invokestatic 60, 3, 32, 4, 0, 0, 0), (33, .ifCond .eq 10, 3, 43, 0, 0, 0, 0), (36, .iload_n 3, 1, 0, 0, 0, 0, 0), (37, .iconst 1, 1, 0, 0, 0, (1), 0), (38, .iload 4, 2, 0, 0, 0, 0, 0), (40, .ishl, 1, 0, 0, 0, 0, 0), (41, .ior, 1, 0, 0, 0, 0, 0), (42, .istore_n 3, 1, 0, 0, 0, 0, 0), (43, .iinc 4 1, 3, 0, 0, 0, (1), 0), (46, .goto (-41), 3, 5, 0, 0, 0, 0), (49, .iload_n 3, 1, 0, 0, 0, 0, 0), (50, .ireturn, 1, 0, 0, 0, 0, 0)]
def cm_X1_suiting : am_M := fun pc => cd_X1_suiting.lookup pc
def cd_X1_isSo : List (Nat × am_E) := [(0, .iload_n 0, 1, 0, 0, 0, 0, 0), (1, .tableswitch 68 0 2 #[27, 38, 53], 27, 0, 0, 0, 0, 0), (28, .iload_n 3, 1, 0, 0, 0, 0, 0), (29, .iload_n 1, 1, 0, 0, 0, 0, 0), (30, .if_icmp .lt 7, 3, 37, 0, 0, 0, 0), (33, .iconst 1, 1, 0, 0, 0, (1), 0), (34, .goto 4, 3, 38, 0, 0, 0, 0), (37, .iconst 0, 1, 0, 0, 0, (0), 0), (38, .ireturn, 1, 0, 0, 2, 0, 0), (39, .iload_n 1, 1, 0, 0, 0, 0, 0), (40, .iload_n 2, 1, 0, 0, 0, 0, 0), (41, .iload_n 3, 1, 0, 0, 0, 0, 0), (42, .invokestatic 64, 3, 14, 3, 0, 0, 0), (45, .ifCond .le 7, 3, 52, 0, 0, 0, 0), (48, .iconst 1, 1, 0, 0, 0, (1), 0), (49, .goto 4, 3, 53, 0, 0, 0, 0), (52, .iconst 0, 1, 0, 0, 0, (0), 0), (53, .ireturn, 1, 0, 0, 2, 0, 0), (54, .iload_n 2, 1, 0, 0, 0, 0, 0), (55, .iload_n 3, 1, 0, 0, 0, 0, 0), (56, .invokestatic 67, 3, 11, 2, 0, 0, 0), (59, .iload_n 1, 1, 0, 0, 0, 0, 0), (60, .if_icmp .ne 7, 3, 67, 0, 0, 0, 0), (63, .iconst 1, 1, 0, 0, 0, (1), 0), (64, .goto 4, 3, 68, 0, 0, 0, 0), (67, .iconst 0, 1, 0, 0, 0, (0), 0), (68, .ireturn, 1, 0, 0, 2, 0, 0), (69, .iload_n 2, 1, 0, 0, 0, 0, 0), (70, .iload_n 3, 1, 0, 0, 0, 0, 0), (71, .invokestatic 70, 3, 18, 2, 0, 0, 0), (74, .iload_n 1, 1, 0, 0, 0, 0, 0), (75, .if_icmp .lt 7, 3, 82, 0, 0, 0, 0), (78, .iconst 1, 1, 0, 0, 0, (1), 0), (79, .goto 4, 3, 83, 0, 0, 0, 0), (82, .iconst 0, 1, 0, 0, 0, (0), 0), (83, .ireturn, 1, 0, 0, 2, 0, 0)]
def cm_X1_isSo : am_M := fun pc => cd_X1_isSo.lookup pc
def cd_X2_power : List (Nat × am_E) := [(0, .iconst 1, 1, 0, 0, 0, (1), 0), (1, .istore_n 2, 1, 0, 0, 0, 0, 0), (2, .iconst 0, 1, 0, 0, 0, (0), 0), (3, .istore_n 3, 1, 0, 0, 0, 0, 0), (4, .iload_n 3, 1, 0, 0, 0, 0, 0), (5, .iload_n 1, 1, 0, 0, 0, 0, 0), (6, .if_icmp .ge 13, 3, 19, 0, 0, 0, 0), (9, .iload_n 2, 1, 0, 0, 0, 0, 0), (10, .iload_n 0, 1, 0, 0, 0, 0, 0), (11, .imul, 1, 0, 0, 0, 0, 0), (12, .istore_n 2, 1, 0, 0, 0, 0, 0), (13, .iinc 3 1, 3, 0, 0, 0, (1), 0), (16, .goto (-12), 3, 4, 0, 0, 0, 0), (19, .iload_n 2, 1, 0, 0, 0, 0, 0), (20, .ireturn, 1, 0, 0, 0, 0, 0)]
def cm_X2_power : am_M := fun pc => cd_X2_power.lookup pc
def cd_X2_commonDivisor : List (Nat × am_E) := [(0, .iload_n 0, 1, 0, 0, 0, 0, 0), (1, .istore_n 2, 1, 0, 0, 0, 0, 0), (2, .iload_n 2, 1, 0, 0, 0, 0, 0), (3, .iconst 1, 1, 0, 0, 0, (1), 0), (4, .if_icmp .le 23, 3, 27, 0, 0, 0, 0), (7, .iload_n 0, 1, 0, 0, 0, 0, 0), (8, .iload_n 2, 1, 0, 0, 0, 0, 0), (9, .irem, 1, 0, 0, 0, 0, 0), (10, .ifCond .ne 11, 3, 21, 0, 0, 0, 0), (13, .iload_n 1, 1, 0, 0, 0, 0, 0), (14, .iload_n 2, 1, 0, 0, 0, 0, 0), (15, .irem, 1, 0, 0, 0, 0, 0), (16, .ifCond .ne 5, 3, 21, 0, 0, 0, 0), (19, .iload_n 2, 1, 0, 0, 0, 0, 0), (20, .ireturn, 1, 0, 0, 0, 0, 0), (21, .iinc 2 (-1), 3, 0, 0, 0, (-1), 0), (24, .goto (-22), 3, 2, 0, 0, 0, 0), (27, .iload_n 0, 1, 0, 0, 0, 0, 0), (28, .ifCond .ne 7, 3, 35, 0, 0, 0, 0), (31, .iload_n 1, 1, 0, 0, 0, 0, 0), (32, .goto 4, 3, 36, 0, 0, 0, 0), (35, .iconst 1, 1, 0, 0, 0, (1), 0), (36, .ireturn, 1, 0, 0, 0, 0, 0)]
def cm_X2_commonDivisor : am_M := fun pc => cd_X2_commonDivisor.lookup pc
def cd_X2_beadsThatStay : List (Nat × am_E) := [(0, .iload_n 0, 1, 0, 0, 0, 0, 0), (1, .iconst 2, 1, 0, 0, 0, (2), 0), (2, .irem, 1, 0, 0, 0, 0, 0), (3, .iconst 1, 1, 0, 0, 0, (1), 0), (4, .if_icmp .ne 5, 3, 9, 0, 0, 0, 0), (7, .iconst 1, 1, 0, 0, 0, (1), 0), (8, .ireturn, 1, 0, 0, 0, 0, 0), (9, .iload_n 1, 1, 0, 0, 0, 0, 0), (10, .iconst 2, 1, 0, 0, 0, (2), 0), (11, .irem, 1, 0, 0, 0, 0, 0), (12, .iconst 1, 1, 0, 0, 0, (1), 0), (13, .if_icmp .ne 7, 3, 20, 0, 0, 0, 0), (16, .iconst 2, 1, 0, 0, 0, (2), 0), (17, .goto 4, 3, 21, 0, 0, 0, 0), (20, .iconst 0, 1, 0, 0, 0, (0), 0), (21, .ireturn, 1, 0, 0, 0, 0, 0)]
def cm_X2_beadsThatStay : am_M := fun pc => cd_X2_beadsThatStay.lookup pc
def cd_X2_keptByRolls : List (Nat × am_E) := [(0, .iconst 0, 1, 0, 0, 0, (0), 0), (1, .istore_n 2, 1, 0, 0, 0, 0, 0), (2, .iconst 0, 1, 0, 0, 0, (0), 0), (3, .istore_n 3, 1, 0, 0, 0, 0, 0), (4, .iload_n 3, 1, 0, 0, 0, 0, 0), (5, .iload_n 0, 1, 0, 0, 0, 0, 0), (6, .if_icmp .ge 21, 3, 27, 0, 0, 0, 0), (9, .iload_n 2, 1, 0, 0, 0, 0, 0), (10, .iload_n 1, 1, 0, 0, 0, 0, 0), (11, .iload_n 3, 1, 0, 0, 0, 0, 0), (12, .iload_n 0, 1, 0, 0, 0, 0, 0), (13, .invokestatic 9, 3, 34, 2, 0, 0, 0), (16, .invokestatic 15, 3, 33, 2, 0, 0, 0), (19, .iadd, 1, 0, 0, 0, 0, 0), (20, .istore_n 2, 1, 0, 0, 0, 0, 0), (21, .iinc 3 1, 3, 0, 0, 0, (1), 0), (24, .goto (-20), 3, 4, 0, 0, 0, 0), (27, .iload_n 2, 1, 0, 0, 0, 0, 0), (28, .ireturn, 1, 0, 0, 0, 0, 0)]
def cm_X2_keptByRolls : am_M := fun pc => cd_X2_keptByRolls.lookup pc
def cd_X2_keptByFlips : List (Nat × am_E) := [(0, .iconst 0, 1, 0, 0, 0, (0), 0), (1, .istore_n 2, 1, 0, 0, 0, 0, 0), (2, .iconst 0, 1, 0, 0, 0, (0), 0), (3, .istore_n 3, 1, 0, 0, 0, 0, 0), (4, .iload_n 3, 1, 0, 0, 0, 0, 0), (5, .iload_n 0, 1, 0, 0, 0, 0, 0), (6, .if_icmp .ge 32, 3, 38, 0, 0, 0, 0), (9, .iload_n 0, 1, 0, 0, 0, 0, 0), (10, .iload_n 3, 1, 0, 0, 0, 0, 0), (11, .invokestatic 18, 3, 35, 2, 0, 0, 0), (14, .istore 4, 2, 0, 0, 0, 0, 0), (16, .iload_n 2, 1, 0, 0, 0, 0, 0), (17, .iload_n 1, 1, 0, 0, 0, 0, 0), (18, .iload 4, 2, 0, 0, 0, 0, 0), (20, .iload_n 0, 1, 0, 0, 0, 0, 0), (21, .iload 4, 2, 0, 0, 0, 0, 0), (23, .isub, 1, 0, 0, 0, 0, 0), (24, .iconst 2, 1, 0, 0, 0, (2), 0), (25, .idiv, 1, 0, 0, 0, 0, 0), (26, .iadd, 1, 0, 0, 0, 0, 0), (27, .invokestatic 15, 3, 33, 2, 0, 0, 0), (30, .iadd, 1, 0, 0, 0, 0, 0), (31, .istore_n 2, 1, 0, 0, 0, 0, 0), (32, .iinc 3 1, 3, 0, 0, 0, (1), 0), (35, .goto (-31), 3, 4, 0, 0, 0, 0), (38, .iload_n 2, 1, 0, 0, 0, 0, 0), (39, .ireturn, 1, 0, 0, 0, 0, 0)]
def cm_X2_keptByFlips : am_M := fun pc => cd_X2_keptByFlips.lookup pc
def cd_X2_rowsThatNoRollKeeps : List (Nat × am_E) := [(0, .iload_n 1, 1, 0, 0, 0, 0, 0), (1, .iload_n 0, 1, 0, 0, 0, 0, 0), (2, .invokestatic 15, 3, 33, 2, 0, 0, 0), (5, .istore_n 2, 1, 0, 0, 0, 0, 0), (6, .iconst 1, 1, 0, 0, 0, (1), 0), (7, .istore_n 3, 1, 0, 0, 0, 0, 0), (8, .iload_n 3, 1, 0, 0, 0, 0, 0), (9, .iload_n 0, 1, 0, 0, 0, 0, 0), (10, .if_icmp .ge 23, 3, 33, 0, 0, 0, 0), (13, .iload_n 0, 1, 0, 0, 0, 0, 0), (14, .iload_n 3, 1, 0, 0, 0, 0, 0), (15, .irem, 1, 0, 0, 0, 0, 0), (16, .ifCond .ne 11, 3, 27, 0, 0, 0, 0), (19, .iload_n 2, 1, 0, 0, 0, 0, 0), (20, .iload_n 3, 1, 0, 0, 0, 0, 0), (21, .iload_n 1, 1, 0, 0, 0, 0, 0), (22, .invokestatic 21, 3, 38, 2, 0, 0, 0), (25, .isub, 1, 0, 0, 0, 0, 0), (26, .istore_n 2, 1, 0, 0, 0, 0, 0), (27, .iinc 3 1, 3, 0, 0, 0, (1), 0), (30, .goto (-22), 3, 8, 0, 0, 0, 0), (33, .iload_n 2, 1, 0, 0, 0, 0, 0), (34, .ireturn, 1, 0, 0, 0, 0, 0)]
def cm_X2_rowsThatNoRollKeeps : am_M := fun pc => cd_X2_rowsThatNoRollKeeps.lookup pc
def cd_X2_toldKeptByRolls : List (Nat × am_E) := [(0, .iconst 0, 1, 0, 0, 0, (0), 0), (1, .istore_n 2, 1, 0, 0, 0, 0, 0), (2, .iconst 0, 1, 0, 0, 0, (0), 0), (3, .istore_n 3, 1, 0, 0, 0, 0, 0), (4, .iload_n 3, 1, 0, 0, 0, 0, 0), (5, .iload_n 1, 1, 0, 0, 0, 0, 0), (6, .if_icmp .ge 27, 3, 33, 0, 0, 0, 0), (9, .iload_n 2, 1, 0, 0, 0, 0, 0), (10, .aload_n 0, 1, 0, 0, 0, 0, 0), (11, .iload_n 1, 1, 0, 0, 0, 0, 0), (12, .iconst 1, 1, 0, 0, 0, (1), 0), (13, .iload_n 3, 1, 0, 0, 0, 0, 0), (14, .iload_n 1, 1, 0, 0, 0, 0, 0), (15, .invokestatic 9, 3, 34, 2, 0, 0, 0), (18, .invokestatic 24, 3, 324, 2, 0, 0, 0), (21, .idiv, 1, 0, 0, 0, 0, 0), (22, .invokestatic 29, 3, 42, 2, 0, 0, 0), (25, .iadd, 1, 0, 0, 0, 0, 0), (26, .istore_n 2, 1, 0, 0, 0, 0, 0), (27, .iinc 3 1, 3, 0, 0, 0, (1), 0), (30, .goto (-26), 3, 4, 0, 0, 0, 0), (33, .iload_n 2, 1, 0, 0, 0, 0, 0), (34, .ireturn, 1, 0, 0, 0, 0, 0)]
def cm_X2_toldKeptByRolls : am_M := fun pc => cd_X2_toldKeptByRolls.lookup pc
def cd_X2_toldKeptByFlips : List (Nat × am_E) := [(0, .iconst 0, 1, 0, 0, 0, (0), 0), (1, .istore_n 2, 1, 0, 0, 0, 0, 0), (2, .iconst 0, 1, 0, 0, 0, (0), 0), (3, .istore_n 3, 1, 0, 0, 0, 0, 0), (4, .iload_n 3, 1, 0, 0, 0, 0, 0), (5, .iload_n 1, 1, 0, 0, 0, 0, 0), (6, .if_icmp .ge 21, 3, 27, 0, 0, 0, 0), (9, .iload_n 2, 1, 0, 0, 0, 0, 0), (10, .aload_n 0, 1, 0, 0, 0, 0, 0), (11, .iload_n 1, 1, 0, 0, 0, 0, 0), (12, .iload_n 3, 1, 0, 0, 0, 0, 0), (13, .invokestatic 18, 3, 35, 2, 0, 0, 0), (16, .invokestatic 33, 3, 41, 2, 0, 0, 0), (19, .iadd, 1, 0, 0, 0, 0, 0), (20, .istore_n 2, 1, 0, 0, 0, 0, 0), (21, .iinc 3 1, 3, 0, 0, 0, (1), 0), (24, .goto (-20), 3, 4, 0, 0, 0, 0), (27, .iload_n 2, 1, 0, 0, 0, 0, 0), (28, .ireturn, 1, 0, 0, 0, 0, 0)]
def cm_X2_toldKeptByFlips : am_M := fun pc => cd_X2_toldKeptByFlips.lookup pc
def cd_X2_pairedRows : List (Nat × am_E) := [(0, .iload_n 1, 1, 0, 0, 0, 0, 0), (1, .ifCond .gt 9, 3, 10, 0, 0, 0, 0), (4, .aload_n 0, 1, 0, 0, 0, 0, 0), (5, .iconst 2, 1, 0, 0, 0, (2), 0), (6, .invokestatic 29, 3, 42, 2, 0, 0, 0), (9, .ireturn, 1, 0, 0, 0, 0, 0), (10, .iconst 0, 1, 0, 0, 0, (0), 0), (11, .istore_n 2, 1, 0, 0, 0, 0, 0), (12, .iconst 0, 1, 0, 0, 0, (0), 0), (13, .istore_n 3, 1, 0, 0, 0, 0, 0), (14, .iload_n 3, 1, 0, 0, 0, 0, 0), (15, .iconst 4, 1, 0, 0, 0, (4), 0), (16, .if_icmp .ge 39, 3, 55, 0, 0, 0, 0), (19, .aload_n 0, 1, 0, 0, 0, 0, 0), (20, .iload_n 3, 1, 0, 0, 0, 0, 0), (21, .iaload, 1, 0, 0, 0, 0, 0), (22, .ifCond .le 27, 3, 49, 0, 0, 0, 0), (25, .aload_n 0, 1, 0, 0, 0, 0, 0), (26, .iload_n 3, 1, 0, 0, 0, 0, 0), (27, .dup2, 1, 0, 0, 0, 0, 0), (28, .iaload, 1, 0, 0, 0, 0, 0), (29, .iconst 1, 1, 0, 0, 0, (1), 0), (30, .isub, 1, 0, 0, 0, 0, 0), (31, .iastore, 1, 0, 0, 0, 0, 0), (32, .iload_n 2, 1, 0, 0, 0, 0, 0), (33, .aload_n 0, 1, 0, 0, 0, 0, 0), (34, .iload_n 1, 1, 0, 0, 0, 0, 0), (35, .iconst 1, 1, 0, 0, 0, (1), 0), (36, .isub, 1, 0, 0, 0, 0, 0), (37, .invokestatic 33, 3, 41, 2, 0, 0, 0), (40, .iadd, 1, 0, 0, 0, 0, 0), (41, .istore_n 2, 1, 0, 0, 0, 0, 0), (42, .aload_n 0, 1, 0, 0, 0, 0, 0), (43, .iload_n 3, 1, 0, 0, 0, 0, 0), (44, .dup2, 1, 0, 0, 0, 0, 0), (45, .iaload, 1, 0, 0, 0, 0, 0), (46, .iconst 1, 1, 0, 0, 0, (1), 0), (47, .iadd, 1, 0, 0, 0, 0, 0), (48, .iastore, 1, 0, 0, 0, 0, 0), (49, .iinc 3 1, 3, 0, 0, 0, (1), 0), (52, .goto (-38), 3, 14, 0, 0, 0, 0), (55, .iload_n 2, 1, 0, 0, 0, 0, 0), (56, .ireturn, 1, 0, 0, 0, 0, 0)]
def cm_X2_pairedRows : am_M := fun pc => cd_X2_pairedRows.lookup pc
def cd_X2_rowsOf : List (Nat × am_E) := [(0, .iconst 1, 1, 0, 0, 0, (1), 0), (1, .iload_n 1, 1, 0, 0, 0, 0, 0), (2, .invokestatic 24, 3, 324, 2, 0, 0, 0), (5, .istore_n 2, 1, 0, 0, 0, 0, 0), (6, .iconst 0, 1, 0, 0, 0, (0), 0), (7, .istore_n 3, 1, 0, 0, 0, 0, 0), (8, .iconst 1, 1, 0, 0, 0, (1), 0), (9, .istore 4, 2, 0, 0, 0, 0, 0), (11, .iconst 0, 1, 0, 0, 0, (0), 0), (12, .istore 5, 2, 0, 0, 0, 0, 0), (14, .iload 5, 2, 0, 0, 0, 0, 0), (16, .iconst 4, 1, 0, 0, 0, (4), 0), (17, .if_icmp .ge 43, 3, 60, 0, 0, 0, 0), (20, .aload_n 0, 1, 0, 0, 0, 0, 0), (21, .iload 5, 2, 0, 0, 0, 0, 0), (23, .iaload, 1, 0, 0, 0, 0, 0), (24, .iload_n 2, 1, 0, 0, 0, 0, 0), (25, .irem, 1, 0, 0, 0, 0, 0), (26, .ifCond .eq 5, 3, 31, 0, 0, 0, 0), (29, .iconst 0, 1, 0, 0, 0, (0), 0), (30, .ireturn, 1, 0, 0, 0, 0, 0), (31, .iload_n 3, 1, 0, 0, 0, 0, 0), (32, .aload_n 0, 1, 0, 0, 0, 0, 0), (33, .iload 5, 2, 0, 0, 0, 0, 0), (35, .iaload, 1, 0, 0, 0, 0, 0), (36, .iload_n 2, 1, 0, 0, 0, 0, 0), (37, .idiv, 1, 0, 0, 0, 0, 0), (38, .iadd, 1, 0, 0, 0, 0, 0), (39, .istore_n 3, 1, 0, 0, 0, 0, 0), (40, .iload 4, 2, 0, 0, 0, 0, 0), (42, .aload_n 0, 1, 0, 0, 0, 0, 0), (43, .iload 5, 2, 0, 0, 0, 0, 0), (45, .iaload, 1, 0, 0, 0, 0, 0), (46, .iload_n 2, 1, 0, 0, 0, 0, 0), (47, .idiv, 1, 0, 0, 0, 0, 0), (48, .invokestatic 36, 3, 43, 1, 0, 0, 0), (51, .imul, 1, 0, 0, 0, 0, 0), (52, .istore 4, 2, 0, 0, 0, 0, 0), (54, .iinc 5 1, 3, 0, 0, 0, (1), 0), (57, .goto (-43), 3, 14, 0, 0, 0, 0), (60, .iload_n 3, 1, 0, 0, 0, 0, 0), (61, .invokestatic 36, 3, 43, 1, 0, 0, 0), (64, .iconst 1, 1, 0, 0, 0, (1), 0), (65, .iload 4, 2, 0, 0, 0, 0, 0), (67, .invokestatic 24, 3, 324, 2, 0, 0, 0), (70, .idiv, 1, 0, 0, 0, 0, 0), (71, .ireturn, 1, 0, 0, 0, 0, 0)]
def cm_X2_rowsOf : am_M := fun pc => cd_X2_rowsOf.lookup pc
def cd_X2_factorial : List (Nat × am_E) := [(0, .iload_n 0, 1, 0, 0, 0, 0, 0), (1, .ifCond .lt 19, 3, 20, 0, 0, 0, 0), (4, .iload_n 0, 1, 0, 0, 0, 0, 0), (5, .getstatic 40, 3, 33, 0, 0, 0, 0), (8, .arraylength, 1, 0, 0, 0, 0, 0), (9, .if_icmp .ge 11, 3, 20, 0, 0, 0, 0), (12, .getstatic 40, 3, 33, 0, 0, 0, 0), (15, .iload_n 0, 1, 0, 0, 0, 0, 0), (16, .iaload, 1, 0, 0, 0, 0, 0), (17, .goto 4, 3, 21, 0, 0, 0, 0), (20, .iconst 1, 1, 0, 0, 0, (1), 0), (21, .ireturn, 1, 0, 0, 0, 0, 0)]
def cm_X2_factorial : am_M := fun pc => cd_X2_factorial.lookup pc
def cd_X3_fault : List (Nat × am_E) := [(0, .ldc 9, 2, 0, 1, 0, 0, 0), (2, .astore_n 1, 1, 0, 0, 0, 0, 0), (3, .iconst 0, 1, 0, 0, 0, (0), 0), (4, .istore_n 2, 1, 0, 0, 0, 0, 0), (5, .aload_n 0, 1, 0, 0, 0, 0, 0), (6, .invokevirtual 11, 3, 104, 1, 6, 0, 0), (9, .bipush 60, 2, 0, 0, 0, (60), 0), (11, .invokestatic 17, 3, 325, 2, 0, 0, 0), (14, .istore_n 3, 1, 0, 0, 0, 0, 0), (15, .iconst 0, 1, 0, 0, 0, (0), 0), (16, .istore 4, 2, 0, 0, 0, 0, 0), (18, .iload 4, 2, 0, 0, 0, 0, 0), (20, .iload_n 3, 1, 0, 0, 0, 0, 0), (21, .if_icmp .ge 65, 3, 86, 0, 0, 0, 0), (24, .aload_n 0, 1, 0, 0, 0, 0, 0), (25, .iload 4, 2, 0, 0, 0, 0, 0), (27, .invokevirtual 23, 3, 105, 2, 6, 0, 0), (30, .istore 5, 2, 0, 0, 0, 0, 0), (32, .iload_n 2, 1, 0, 0, 0, 0, 0), (33, .aload_n 1, 1, 0, 0, 0, 0, 0), (34, .invokevirtual 27, 3, 901, 1, 0, 0, 0), (37, .if_icmp .ge 25, 3, 62, 0, 0, 0, 0), (40, .iload 5, 2, 0, 0, 0, 0, 0), (42, .aload_n 1, 1, 0, 0, 0, 0, 0), (43, .iload_n 2, 1, 0, 0, 0, 0, 0), (44, .invokevirtual 32, 3, 902, 2, 0, 0, 0), (47, .invokestatic 35, 3, 46, 2, 0, 0, 0), (50, .ifCond .ne 6, 3, 56, 0, 0, 0, 0), (53, .iload 4, 2, 0, 0, 0, 0, 0), (55, .ireturn, 1, 0, 0, 0, 0, 0), (56, .iinc 2 1, 3, 0, 0, 0, (1), 0), (59, .goto 21, 3, 80, 0, 0, 0, 0), (62, .iload 5, 2, 0, 0, 0, 0, 0), (64, .invokestatic 41, 3, 45, 1, 0, 0, 0), (67, .astore_n 1, 1, 0, 0, 0, 0, 0), (68, .iconst 0, 1, 0, 0, 0, (0), 0), (69, .istore_n 2, 1, 0, 0, 0, 0, 0), (70, .aload_n 1, 1, 0, 0, 0, 0, 0), (71, .invokevirtual 45, 3, 903, 1, 0, 0, 0), (74, .ifCond .eq 6, 3, 80, 0, 0, 0, 0), (77, .iload 4, 2, 0, 0, 0, 0, 0), (79, .ireturn, 1, 0, 0, 0, 0, 0), (80, .iinc 4 1, 3, 0, 0, 0, (1), 0), (83, .goto (-65), 3, 18, 0, 0, 0, 0), (86, .aload_n 0, 1, 0, 0, 0, 0, 0), (87, .invokevirtual 11, 3, 104, 1, 6, 0, 0), (90, .bipush 60, 2, 0, 0, 0, (60), 0), (92, .if_icmp .le 6, 3, 98, 0, 0, 0, 0), (95, .bipush 60, 2, 0, 0, 0, (60), 0), (97, .ireturn, 1, 0, 0, 0, 0, 0), (98, .iload_n 2, 1, 0, 0, 0, 0, 0), (99, .aload_n 1, 1, 0, 0, 0, 0, 0), (100, .invokevirtual 27, 3, 901, 1, 0, 0, 0), (103, .if_icmp .ge 7, 3, 110, 0, 0, 0, 0), (106, .iload_n 3, 1, 0, 0, 0, 0, 0), (107, .goto 4, 3, 111, 0, 0, 0, 0), (110, .iconst (-1), 1, 0, 0, 0, (-1), 0), (111, .ireturn, 1, 0, 0, 0, 0, 0)]
def cm_X3_fault : am_M := fun pc => cd_X3_fault.lookup pc
def cd_X3_form : List (Nat × am_E) := [(0, .iload_n 0, 1, 0, 0, 0, 0, 0), (1, .tableswitch 119 98 120 #[116, 107, 119, 119, 110, 119, 119, 119, 107, 119, 119, 119, 119, 119, 119, 119, 107, 110, 113, 110, 119, 119, 107], 107, 0, 0, 0, 0, 0), (108, .ldc 49, 2, 1, 1, 0, 0, 0), (110, .areturn, 1, 0, 0, 0, 0, 0), (111, .ldc 51, 2, 2, 1, 0, 0, 0), (113, .areturn, 1, 0, 0, 0, 0, 0), (114, .ldc 53, 2, 3, 1, 0, 0, 0), (116, .areturn, 1, 0, 0, 0, 0, 0), (117, .ldc 55, 2, 4, 1, 0, 0, 0), (119, .areturn, 1, 0, 0, 0, 0, 0), (120, .ldc 9, 2, 0, 1, 0, 0, 0), (122, .areturn, 1, 0, 0, 0, 0, 0)]
def cm_X3_form : am_M := fun pc => cd_X3_form.lookup pc
def cd_X3_suits : List (Nat × am_E) := [(0, .iload_n 1, 1, 0, 0, 0, 0, 0), (1, .bipush 108, 2, 0, 0, 0, (108), 0), (3, .if_icmp .ne 21, 3, 24, 0, 0, 0, 0), (6, .iload_n 0, 1, 0, 0, 0, 0, 0), (7, .bipush 97, 2, 0, 0, 0, (97), 0), (9, .if_icmp .lt 13, 3, 22, 0, 0, 0, 0), (12, .iload_n 0, 1, 0, 0, 0, 0, 0), (13, .bipush 100, 2, 0, 0, 0, (100), 0), (15, .if_icmp .gt 7, 3, 22, 0, 0, 0, 0), (18, .iconst 1, 1, 0, 0, 0, (1), 0), (19, .goto 4, 3, 23, 0, 0, 0, 0), (22, .iconst 0, 1, 0, 0, 0, (0), 0), (23, .ireturn, 1, 0, 0, 2, 0, 0), (24, .iload_n 0, 1, 0, 0, 0, 0, 0), (25, .iload_n 1, 1, 0, 0, 0, 0, 0), (26, .bipush 112, 2, 0, 0, 0, (112), 0), (28, .if_icmp .ne 8, 3, 36, 0, 0, 0, 0), (31, .bipush 49, 2, 0, 0, 0, (49), 0), (33, .goto 5, 3, 38, 0, 0, 0, 0), (36, .bipush 48, 2, 0, 0, 0, (48), 0), (38, .if_icmp .lt 13, 3, 51, 0, 0, 0, 0), (41, .iload_n 0, 1, 0, 0, 0, 0, 0), (42, .bipush 57, 2, 0, 0, 0, (57), 0), (44, .if_icmp .gt 7, 3, 51, 0, 0, 0, 0), (47, .iconst 1, 1, 0, 0, 0, (1), 0), (48, .goto 4, 3, 52, 0, 0, 0, 0), (51, .iconst 0, 1, 0, 0, 0, (0), 0), (52, .ireturn, 1, 0, 0, 2, 0, 0)]
def cm_X3_suits : am_M := fun pc => cd_X3_suits.lookup pc
def cd_X3_told : List (Nat × am_E) := [(0, .iload_n 0, 1, 0, 0, 0, 0, 0), (1, .bipush 97, 2, 0, 0, 0, (97), 0), (3, .if_icmp .lt 10, 3, 13, 0, 0, 0, 0), (6, .iload_n 0, 1, 0, 0, 0, 0, 0), (7, .bipush 97, 2, 0, 0, 0, (97), 0), (9, .isub, 1, 0, 0, 0, 0, 0), (10, .goto 7, 3, 17, 0, 0, 0, 0), (13, .iload_n 0, 1, 0, 0, 0, 0, 0), (14, .bipush 48, 2, 0, 0, 0, (48), 0), (16, .isub, 1, 0, 0, 0, 0, 0), (17, .ireturn, 1, 0, 0, 0, 0, 0)]
def cm_X3_told : am_M := fun pc => cd_X3_told.lookup pc
def cd_X3_act : List (Nat × am_E) := [(0, .aload_n 0, 1, 0, 0, 0, 0, 0), (1, .iload_n 1, 1, 0, 0, 0, 0, 0), (2, .iconst 1, 1, 0, 0, 0, (1), 0), (3, .iadd, 1, 0, 0, 0, 0, 0), (4, .invokevirtual 23, 3, 105, 2, 6, 0, 0), (7, .invokestatic 57, 3, 47, 1, 0, 0, 0), (10, .istore 4, 2, 0, 0, 0, 0, 0), (12, .aload_n 0, 1, 0, 0, 0, 0, 0), (13, .iload_n 1, 1, 0, 0, 0, 0, 0), (14, .iconst 2, 1, 0, 0, 0, (2), 0), (15, .iadd, 1, 0, 0, 0, 0, 0), (16, .invokevirtual 23, 3, 105, 2, 6, 0, 0), (19, .invokestatic 57, 3, 47, 1, 0, 0, 0), (22, .istore 5, 2, 0, 0, 0, 0, 0), (24, .aload_n 0, 1, 0, 0, 0, 0, 0), (25, .iload_n 1, 1, 0, 0, 0, 0, 0), (26, .invokevirtual 23, 3, 105, 2, 6, 0, 0), (29, .tableswitch 180 99 120 #[147, 180, 180, 112, 180, 180, 180, 156, 180, 180, 180, 180, 180, 180, 180, 103, 172, 128, 165, 180, 180, 119], 103, 0, 0, 0, 0, 0), (132, .aload_n 2, 1, 0, 0, 0, 0, 0), (133, .iload 4, 2, 0, 0, 0, 0, 0), (135, .iload 5, 2, 0, 0, 0, 0, 0), (137, .invokevirtual 61, 3, 85, 3, 5, 0, 0), (140, .ireturn, 1, 0, 0, 0, 0, 0), (141, .aload_n 2, 1, 0, 0, 0, 0, 0), (142, .iload 4, 2, 0, 0, 0, 0, 0), (144, .invokevirtual 66, 3, 86, 2, 5, 0, 0), (147, .ireturn, 1, 0, 0, 0, 0, 0), (148, .aload_n 2, 1, 0, 0, 0, 0, 0), (149, .iload 4, 2, 0, 0, 0, 0, 0), (151, .iload 5, 2, 0, 0, 0, 0, 0), (153, .invokevirtual 70, 3, 87, 3, 5, 0, 0), (156, .ireturn, 1, 0, 0, 0, 0, 0), (157, .aload_n 2, 1, 0, 0, 0, 0, 0), (158, .iload 4, 2, 0, 0, 0, 0, 0), (160, .iload 5, 2, 0, 0, 0, 0, 0), (162, .aload_n 0, 1, 0, 0, 0, 0, 0), (163, .iload_n 1, 1, 0, 0, 0, 0, 0), (164, .iconst 3, 1, 0, 0, 0, (3), 0), (165, .iadd, 1, 0, 0, 0, 0, 0), (166, .invokevirtual 23, 3, 105, 2, 6, 0, 0), (169, .invokestatic 57, 3, 47, 1, 0, 0, 0), (172, .invokevirtual 73, 3, 88, 4, 5, 0, 0), (175, .ireturn, 1, 0, 0, 0, 0, 0), (176, .aload_n 2, 1, 0, 0, 0, 0, 0), (177, .iload 4, 2, 0, 0, 0, 0, 0), (179, .iload 5, 2, 0, 0, 0, 0, 0), (181, .invokevirtual 77, 3, 89, 3, 5, 0, 0), (184, .ireturn, 1, 0, 0, 0, 0, 0), (185, .aload_n 2, 1, 0, 0, 0, 0, 0), (186, .iload 4, 2, 0, 0, 0, 0, 0), (188, .iload 5, 2, 0, 0, 0, 0, 0), (190, .invokevirtual 80, 3, 90, 3, 5, 0, 0), (193, .ireturn, 1, 0, 0, 0, 0, 0), (194, .aload_n 2, 1, 0, 0, 0, 0, 0), (195, .iload 4, 2, 0, 0, 0, 0, 0), (197, .invokevirtual 83, 3, 91, 2, 5, 0, 0), (200, .ireturn, 1, 0, 0, 0, 0, 0), (201, .aload_n 2, 1, 0, 0, 0, 0, 0), (202, .iload 4, 2, 0, 0, 0, 0, 0), (204, .aload_n 3, 1, 0, 0, 0, 0, 0), (205, .invokevirtual 86, 3, 92, 3, 5, 0, 0), (208, .ireturn, 1, 0, 0, 0, 0, 0), (209, .aload_n 2, 1, 0, 0, 0, 0, 0), (210, .iload 4, 2, 0, 0, 0, 0, 0), (212, .iload 5, 2, 0, 0, 0, 0, 0), (214, .invokevirtual 90, 3, 93, 3, 5, 0, 0), (217, .ireturn, 1, 0, 0, 0, 0, 0)]
def cm_X3_act : am_M := fun pc => cd_X3_act.lookup pc
def cd_X4_init : List (Nat × am_E) := [(0, .aload_n 0, 1, 0, 0, 0, 0, 0), (1, .invokespecial 3, 3, 904, 1, 0, 0, 0), (4, .aload_n 0, 1, 0, 0, 0, 0, 0), (5, .getstatic 9, 3, 32, 0, 0, 0, 0), (8, .bipush 8, 2, 0, 0, 0, (8), 0), (10, .iaload, 1, 0, 0, 0, 0, 0), (11, .newarray .int, 2, 0, 0, 0, 0, 0), (13, .putfield 15, 3, 1, 0, 1, 0, 0), (16, .aload_n 0, 1, 0, 0, 0, 0, 0), (17, .bipush 8, 2, 0, 0, 0, (8), 0), (19, .newarray .boolean, 2, 0, 0, 0, 0, 0), (21, .putfield 18, 3, 1, 1, 1, 0, 0), (24, .return_, 1, 0, 0, 0, 0, 0)]
def cm_X4_init : am_M := fun pc => cd_X4_init.lookup pc
def cd_X4_lacks : List (Nat × am_E) := [(0, .iload_n 0, 1, 0, 0, 0, 0, 0), (1, .iconst 1, 1, 0, 0, 0, (1), 0), (2, .if_icmp .lt 9, 3, 11, 0, 0, 0, 0), (5, .iload_n 0, 1, 0, 0, 0, 0, 0), (6, .bipush 7, 2, 0, 0, 0, (7), 0), (8, .if_icmp .le 7, 3, 15, 0, 0, 0, 0), (11, .iconst 1, 1, 0, 0, 0, (1), 0), (12, .goto 4, 3, 16, 0, 0, 0, 0), (15, .iconst 0, 1, 0, 0, 0, (0), 0), (16, .ireturn, 1, 0, 0, 2, 0, 0)]
def cm_X4_lacks : am_M := fun pc => cd_X4_lacks.lookup pc
def cd_X4_number : List (Nat × am_E) := [(0, .iload_n 1, 1, 0, 0, 0, 0, 0), (1, .invokestatic 22, 3, 50, 1, 0, 0, 0), (4, .ifCond .eq 5, 3, 9, 0, 0, 0, 0), (7, .iconst 0, 1, 0, 0, 0, (0), 0), (8, .ireturn, 1, 0, 0, 0, 0, 0), (9, .aload_n 0, 1, 0, 0, 0, 0, 0), (10, .getfield 18, 3, 1, 1, 0, 0, 0), (13, .iload_n 1, 1, 0, 0, 0, 0, 0), (14, .baload, 1, 0, 0, 0, 0, 0), (15, .ifCond .ne 40, 3, 55, 0, 0, 0, 0), (18, .aload_n 0, 1, 0, 0, 0, 0, 0), (19, .getfield 18, 3, 1, 1, 0, 0, 0), (22, .iload_n 1, 1, 0, 0, 0, 0, 0), (23, .iconst 1, 1, 0, 0, 0, (1), 0), (24, .bastore, 1, 0, 0, 0, 0, 0), (25, .aload_n 0, 1, 0, 0, 0, 0, 0), (26, .getstatic 9, 3, 32, 0, 0, 0, 0), (29, .iload_n 1, 1, 0, 0, 0, 0, 0), (30, .iaload, 1, 0, 0, 0, 0, 0), (31, .putfield 26, 3, 1, 2, 0, 0, 0), (34, .iconst 0, 1, 0, 0, 0, (0), 0), (35, .istore_n 2, 1, 0, 0, 0, 0, 0), (36, .iload_n 2, 1, 0, 0, 0, 0, 0), (37, .iconst 4, 1, 0, 0, 0, (4), 0), (38, .if_icmp .ge 17, 3, 55, 0, 0, 0, 0), (41, .aload_n 0, 1, 0, 0, 0, 0, 0), (42, .iload_n 2, 1, 0, 0, 0, 0, 0), (43, .iconst 1, 1, 0, 0, 0, (1), 0), (44, .iconst 1, 1, 0, 0, 0, (1), 0), (45, .iload_n 1, 1, 0, 0, 0, 0, 0), (46, .invokevirtual 30, 3, 53, 5, 2, 0, 0), (49, .iinc 2 1, 3, 0, 0, 0, (1), 0), (52, .goto (-16), 3, 36, 0, 0, 0, 0), (55, .getstatic 9, 3, 32, 0, 0, 0, 0), (58, .iload_n 1, 1, 0, 0, 0, 0, 0), (59, .iconst 1, 1, 0, 0, 0, (1), 0), (60, .iadd, 1, 0, 0, 0, 0, 0), (61, .iaload, 1, 0, 0, 0, 0, 0), (62, .getstatic 9, 3, 32, 0, 0, 0, 0), (65, .iload_n 1, 1, 0, 0, 0, 0, 0), (66, .iaload, 1, 0, 0, 0, 0, 0), (67, .isub, 1, 0, 0, 0, 0, 0), (68, .ireturn, 1, 0, 0, 0, 0, 0)]
def cm_X4_number : am_M := fun pc => cd_X4_number.lookup pc
def cd_X4_kind : List (Nat × am_E) := [(0, .iload_n 2, 1, 0, 0, 0, 0, 0), (1, .ifCond .lt 27, 3, 28, 0, 0, 0, 0), (4, .iload_n 2, 1, 0, 0, 0, 0, 0), (5, .aload_n 0, 1, 0, 0, 0, 0, 0), (6, .iload_n 1, 1, 0, 0, 0, 0, 0), (7, .invokevirtual 34, 3, 51, 2, 2, 0, 0), (10, .if_icmp .ge 18, 3, 28, 0, 0, 0, 0), (13, .aload_n 0, 1, 0, 0, 0, 0, 0), (14, .getfield 15, 3, 1, 0, 0, 0, 0), (17, .getstatic 9, 3, 32, 0, 0, 0, 0), (20, .iload_n 1, 1, 0, 0, 0, 0, 0), (21, .iaload, 1, 0, 0, 0, 0, 0), (22, .iload_n 2, 1, 0, 0, 0, 0, 0), (23, .iadd, 1, 0, 0, 0, 0, 0), (24, .iaload, 1, 0, 0, 0, 0, 0), (25, .goto 4, 3, 29, 0, 0, 0, 0), (28, .iconst (-1), 1, 0, 0, 0, (-1), 0), (29, .ireturn, 1, 0, 0, 0, 0, 0)]
def cm_X4_kind : am_M := fun pc => cd_X4_kind.lookup pc
def cd_X4_grow : List (Nat × am_E) := [(0, .iload_n 2, 1, 0, 0, 0, 0, 0), (1, .iload 4, 2, 0, 0, 0, 0, 0), (3, .if_icmp .lt 55, 3, 58, 0, 0, 0, 0), (6, .iload 4, 2, 0, 0, 0, 0, 0), (8, .iload_n 3, 1, 0, 0, 0, 0, 0), (9, .irem, 1, 0, 0, 0, 0, 0), (10, .ifCond .ne 47, 3, 57, 0, 0, 0, 0), (13, .iload_n 1, 1, 0, 0, 0, 0, 0), (14, .iload 4, 2, 0, 0, 0, 0, 0), (16, .invokestatic 38, 3, 9, 2, 0, 0, 0), (19, .ifCond .ne 38, 3, 57, 0, 0, 0, 0), (22, .aload_n 0, 1, 0, 0, 0, 0, 0), (23, .getfield 26, 3, 1, 2, 0, 0, 0), (26, .getstatic 9, 3, 32, 0, 0, 0, 0), (29, .iload 4, 2, 0, 0, 0, 0, 0), (31, .iconst 1, 1, 0, 0, 0, (1), 0), (32, .iadd, 1, 0, 0, 0, 0, 0), (33, .iaload, 1, 0, 0, 0, 0, 0), (34, .if_icmp .ge 23, 3, 57, 0, 0, 0, 0), (37, .aload_n 0, 1, 0, 0, 0, 0, 0), (38, .getfield 15, 3, 1, 0, 0, 0, 0), (41, .aload_n 0, 1, 0, 0, 0, 0, 0), (42, .getfield 26, 3, 1, 2, 0, 0, 0), (45, .iload_n 1, 1, 0, 0, 0, 0, 0), (46, .iastore, 1, 0, 0, 0, 0, 0), (47, .aload_n 0, 1, 0, 0, 0, 0, 0), (48, .dup, 1, 0, 0, 0, 0, 0), (49, .getfield 26, 3, 1, 2, 0, 0, 0), (52, .iconst 1, 1, 0, 0, 0, (1), 0), (53, .iadd, 1, 0, 0, 0, 0, 0), (54, .putfield 26, 3, 1, 2, 0, 0, 0), (57, .return_, 1, 0, 0, 0, 0, 0), (58, .iload_n 1, 1, 0, 0, 0, 0, 0), (59, .iconst 2, 1, 0, 0, 0, (2), 0), (60, .iload_n 3, 1, 0, 0, 0, 0, 0), (61, .iconst 1, 1, 0, 0, 0, (1), 0), (62, .isub, 1, 0, 0, 0, 0, 0), (63, .imul, 1, 0, 0, 0, 0, 0), (64, .ishr, 1, 0, 0, 0, 0, 0), (65, .iconst 3, 1, 0, 0, 0, (3), 0), (66, .iand, 1, 0, 0, 0, 0, 0), (67, .istore 5, 2, 0, 0, 0, 0, 0), (69, .iload 5, 2, 0, 0, 0, 0, 0), (71, .istore 6, 2, 0, 0, 0, 0, 0), (73, .iload 6, 2, 0, 0, 0, 0, 0), (75, .iconst 4, 1, 0, 0, 0, (4), 0), (76, .if_icmp .ge 38, 3, 114, 0, 0, 0, 0), (79, .aload_n 0, 1, 0, 0, 0, 0, 0), (80, .iload_n 1, 1, 0, 0, 0, 0, 0), (81, .iconst 2, 1, 0, 0, 0, (2), 0), (82, .ishl, 1, 0, 0, 0, 0, 0), (83, .iload 6, 2, 0, 0, 0, 0, 0), (85, .ior, 1, 0, 0, 0, 0, 0), (86, .iload_n 2, 1, 0, 0, 0, 0, 0), (87, .iconst 1, 1, 0, 0, 0, (1), 0), (88, .iadd, 1, 0, 0, 0, 0, 0), (89, .iload 6, 2, 0, 0, 0, 0, 0), (91, .iload 5, 2, 0, 0, 0, 0, 0), (93, .if_icmp .ne 7, 3, 100, 0, 0, 0, 0), (96, .iload_n 3, 1, 0, 0, 0, 0, 0), (97, .goto 6, 3, 103, 0, 0, 0, 0), (100, .iload_n 2, 1, 0, 0, 0, 0, 0), (101, .iconst 1, 1, 0, 0, 0, (1), 0), (102, .iadd, 1, 0, 0, 0, 0, 0), (103, .iload 4, 2, 0, 0, 0, 0, 0), (105, .invokevirtual 30, 3, 53, 5, 2, 0, 0), (108, .iinc 6 1, 3, 0, 0, 0, (1), 0), (111, .goto (-38), 3, 73, 0, 0, 0, 0), (114, .return_, 1, 0, 0, 0, 0, 0)]
def cm_X4_grow : am_M := fun pc => cd_X4_grow.lookup pc
def cd_X4_kindAt : List (Nat × am_E) := [(0, .iconst 0, 1, 0, 0, 0, (0), 0), (1, .istore 4, 2, 0, 0, 0, 0, 0), (3, .iconst 0, 1, 0, 0, 0, (0), 0), (4, .istore 5, 2, 0, 0, 0, 0, 0), (6, .aload_n 0, 1, 0, 0, 0, 0, 0), (7, .iload_n 1, 1, 0, 0, 0, 0, 0), (8, .invokevirtual 34, 3, 51, 2, 2, 0, 0), (11, .istore 6, 2, 0, 0, 0, 0, 0), (13, .iload 5, 2, 0, 0, 0, 0, 0), (15, .iload 6, 2, 0, 0, 0, 0, 0), (17, .if_icmp .ge 40, 3, 57, 0, 0, 0, 0), (20, .aload_n 0, 1, 0, 0, 0, 0, 0), (21, .iload_n 1, 1, 0, 0, 0, 0, 0), (22, .iload 5, 2, 0, 0, 0, 0, 0), (24, .invokevirtual 44, 3, 52, 3, 2, 0, 0), (27, .istore 7, 2, 0, 0, 0, 0, 0), (29, .iload 7, 2, 0, 0, 0, 0, 0), (31, .iload_n 1, 1, 0, 0, 0, 0, 0), (32, .invokestatic 48, 3, 16, 2, 0, 0, 0), (35, .iload_n 2, 1, 0, 0, 0, 0, 0), (36, .if_icmp .ge 15, 3, 51, 0, 0, 0, 0), (39, .iload 4, 2, 0, 0, 0, 0, 0), (41, .iload_n 3, 1, 0, 0, 0, 0, 0), (42, .if_icmp .ne 6, 3, 48, 0, 0, 0, 0), (45, .iload 7, 2, 0, 0, 0, 0, 0), (47, .ireturn, 1, 0, 0, 0, 0, 0), (48, .iinc 4 1, 3, 0, 0, 0, (1), 0), (51, .iinc 5 1, 3, 0, 0, 0, (1), 0), (54, .goto (-41), 3, 13, 0, 0, 0, 0), (57, .iconst (-1), 1, 0, 0, 0, (-1), 0), (58, .ireturn, 1, 0, 0, 0, 0, 0)]
def cm_X4_kindAt : am_M := fun pc => cd_X4_kindAt.lookup pc
def cd_X4_kindsAhead : List (Nat × am_E) := [(0, .iload_n 2, 1, 0, 0, 0, 0, 0), (1, .iload_n 1, 1, 0, 0, 0, 0, 0), (2, .invokestatic 48, 3, 16, 2, 0, 0, 0), (5, .istore_n 3, 1, 0, 0, 0, 0, 0), (6, .iconst 0, 1, 0, 0, 0, (0), 0), (7, .istore 4, 2, 0, 0, 0, 0, 0), (9, .iconst 0, 1, 0, 0, 0, (0), 0), (10, .istore 5, 2, 0, 0, 0, 0, 0), (12, .aload_n 0, 1, 0, 0, 0, 0, 0), (13, .iload_n 1, 1, 0, 0, 0, 0, 0), (14, .invokevirtual 34, 3, 51, 2, 2, 0, 0), (17, .istore 6, 2, 0, 0, 0, 0, 0), (19, .iload 5, 2, 0, 0, 0, 0, 0), (21, .iload 6, 2, 0, 0, 0, 0, 0), (23, .if_icmp .ge 37, 3, 60, 0, 0, 0, 0), (26, .aload_n 0, 1, 0, 0, 0, 0, 0), (27, .iload_n 1, 1, 0, 0, 0, 0, 0), (28, .iload 5, 2, 0, 0, 0, 0, 0), (30, .invokevirtual 44, 3, 52, 3, 2, 0, 0), (33, .istore 7, 2, 0, 0, 0, 0, 0), (35, .iload 7, 2, 0, 0, 0, 0, 0), (37, .iload_n 2, 1, 0, 0, 0, 0, 0), (38, .if_icmp .ge 16, 3, 54, 0, 0, 0, 0), (41, .iload 7, 2, 0, 0, 0, 0, 0), (43, .iload_n 1, 1, 0, 0, 0, 0, 0), (44, .invokestatic 48, 3, 16, 2, 0, 0, 0), (47, .iload_n 3, 1, 0, 0, 0, 0, 0), (48, .if_icmp .gt 6, 3, 54, 0, 0, 0, 0), (51, .iinc 4 1, 3, 0, 0, 0, (1), 0), (54, .iinc 5 1, 3, 0, 0, 0, (1), 0), (57, .goto (-38), 3, 19, 0, 0, 0, 0), (60, .iload 4, 2, 0, 0, 0, 0, 0), (62, .ireturn, 1, 0, 0, 0, 0, 0)]
def cm_X4_kindsAhead : am_M := fun pc => cd_X4_kindsAhead.lookup pc
def cd_X4_kindBehind : List (Nat × am_E) := [(0, .iload_n 2, 1, 0, 0, 0, 0, 0), (1, .iload_n 1, 1, 0, 0, 0, 0, 0), (2, .invokestatic 48, 3, 16, 2, 0, 0, 0), (5, .istore_n 3, 1, 0, 0, 0, 0, 0), (6, .iconst 0, 1, 0, 0, 0, (0), 0), (7, .istore 4, 2, 0, 0, 0, 0, 0), (9, .aload_n 0, 1, 0, 0, 0, 0, 0), (10, .iload_n 1, 1, 0, 0, 0, 0, 0), (11, .invokevirtual 34, 3, 51, 2, 2, 0, 0), (14, .istore 5, 2, 0, 0, 0, 0, 0), (16, .iload 4, 2, 0, 0, 0, 0, 0), (18, .iload 5, 2, 0, 0, 0, 0, 0), (20, .if_icmp .ge 37, 3, 57, 0, 0, 0, 0), (23, .aload_n 0, 1, 0, 0, 0, 0, 0), (24, .iload_n 1, 1, 0, 0, 0, 0, 0), (25, .iload 4, 2, 0, 0, 0, 0, 0), (27, .invokevirtual 44, 3, 52, 3, 2, 0, 0), (30, .istore 6, 2, 0, 0, 0, 0, 0), (32, .iload 6, 2, 0, 0, 0, 0, 0), (34, .iload_n 2, 1, 0, 0, 0, 0, 0), (35, .if_icmp .le 16, 3, 51, 0, 0, 0, 0), (38, .iload 6, 2, 0, 0, 0, 0, 0), (40, .iload_n 1, 1, 0, 0, 0, 0, 0), (41, .invokestatic 48, 3, 16, 2, 0, 0, 0), (44, .iload_n 3, 1, 0, 0, 0, 0, 0), (45, .if_icmp .gt 6, 3, 51, 0, 0, 0, 0), (48, .iload 6, 2, 0, 0, 0, 0, 0), (50, .ireturn, 1, 0, 0, 0, 0, 0), (51, .iinc 4 1, 3, 0, 0, 0, (1), 0), (54, .goto (-38), 3, 16, 0, 0, 0, 0), (57, .iconst (-1), 1, 0, 0, 0, (-1), 0), (58, .ireturn, 1, 0, 0, 0, 0, 0)]
def cm_X4_kindBehind : am_M := fun pc => cd_X4_kindBehind.lookup pc
def cd_X5_init : List (Nat × am_E) := [(0, .aload_n 0, 1, 0, 0, 0, 0, 0), (1, .invokespecial 3, 3, 904, 1, 0, 0, 0), (4, .aload_n 0, 1, 0, 0, 0, 0, 0), (5, .bipush 16, 2, 0, 0, 0, (16), 0), (7, .anewarray 9, 3, 0, 0, 0, 0, 0), (10, .putfield 11, 3, 2, 0, 1, 0, 0), (13, .aload_n 0, 1, 0, 0, 0, 0, 0), (14, .iconst 3, 1, 0, 0, 0, (3), 0), (15, .anewarray 9, 3, 0, 0, 0, 0, 0), (18, .putfield 17, 3, 2, 1, 1, 0, 0), (21, .aload_n 0, 1, 0, 0, 0, 0, 0), (22, .iconst 3, 1, 0, 0, 0, (3), 0), (23, .newarray .boolean, 2, 0, 0, 0, 0, 0), (25, .putfield 20, 3, 2, 2, 1, 0, 0), (28, .iconst 0, 1, 0, 0, 0, (0), 0), (29, .istore_n 1, 1, 0, 0, 0, 0, 0), (30, .iload_n 1, 1, 0, 0, 0, 0, 0), (31, .bipush 15, 2, 0, 0, 0, (15), 0), (33, .if_icmp .gt 22, 3, 55, 0, 0, 0, 0), (36, .aload_n 0, 1, 0, 0, 0, 0, 0), (37, .getfield 11, 3, 2, 0, 0, 0, 0), (40, .iload_n 1, 1, 0, 0, 0, 0, 0), (41, .new 9, 3, 4, 0, 0, 0, 0), (44, .dup, 1, 0, 0, 0, 0, 0), (45, .invokespecial 24, 3, 77, 1, 5, 0, 0), (48, .aastore, 1, 0, 0, 0, 0, 0), (49, .iinc 1 1, 3, 0, 0, 0, (1), 0), (52, .goto (-22), 3, 30, 0, 0, 0, 0), (55, .iconst 0, 1, 0, 0, 0, (0), 0), (56, .istore_n 1, 1, 0, 0, 0, 0, 0), (57, .iload_n 1, 1, 0, 0, 0, 0, 0), (58, .iconst 3, 1, 0, 0, 0, (3), 0), (59, .if_icmp .ge 22, 3, 81, 0, 0, 0, 0), (62, .aload_n 0, 1, 0, 0, 0, 0, 0), (63, .getfield 17, 3, 2, 1, 0, 0, 0), (66, .iload_n 1, 1, 0, 0, 0, 0, 0), (67, .new 9, 3, 4, 0, 0, 0, 0), (70, .dup, 1, 0, 0, 0, 0, 0), (71, .invokespecial 24, 3, 77, 1, 5, 0, 0), (74, .aastore, 1, 0, 0, 0, 0, 0), (75, .iinc 1 1, 3, 0, 0, 0, (1), 0), (78, .goto (-21), 3, 57, 0, 0, 0, 0), (81, .return_, 1, 0, 0, 0, 0, 0)]
def cm_X5_init : am_M := fun pc => cd_X5_init.lookup pc
def cd_X5_mark : List (Nat × am_E) := [(0, .aload_n 0, 1, 0, 0, 0, 0, 0), (1, .getfield 11, 3, 2, 0, 0, 0, 0), (4, .aload_n 0, 1, 0, 0, 0, 0, 0), (5, .getfield 25, 3, 2, 3, 0, 0, 0), (8, .aaload, 1, 0, 0, 0, 0, 0), (9, .aload_n 1, 1, 0, 0, 0, 0, 0), (10, .invokevirtual 29, 3, 78, 2, 5, 0, 0), (13, .return_, 1, 0, 0, 0, 0, 0)]
def cm_X5_mark : am_M := fun pc => cd_X5_mark.lookup pc
def cd_X5_settle : List (Nat × am_E) := [(0, .iload_n 1, 1, 0, 0, 0, 0, 0), (1, .ifCond .lt 41, 3, 42, 0, 0, 0, 0), (4, .aload_n 0, 1, 0, 0, 0, 0, 0), (5, .aload_n 0, 1, 0, 0, 0, 0, 0), (6, .getfield 25, 3, 2, 3, 0, 0, 0), (9, .bipush 15, 2, 0, 0, 0, (15), 0), (11, .if_icmp .ge 12, 3, 23, 0, 0, 0, 0), (14, .aload_n 0, 1, 0, 0, 0, 0, 0), (15, .getfield 25, 3, 2, 3, 0, 0, 0), (18, .iconst 1, 1, 0, 0, 0, (1), 0), (19, .iadd, 1, 0, 0, 0, 0, 0), (20, .goto 4, 3, 24, 0, 0, 0, 0), (23, .iconst 0, 1, 0, 0, 0, (0), 0), (24, .putfield 25, 3, 2, 3, 0, 0, 0), (27, .aload_n 0, 1, 0, 0, 0, 0, 0), (28, .bipush 15, 2, 0, 0, 0, (15), 0), (30, .aload_n 0, 1, 0, 0, 0, 0, 0), (31, .getfield 33, 3, 2, 4, 0, 0, 0), (34, .iconst 1, 1, 0, 0, 0, (1), 0), (35, .iadd, 1, 0, 0, 0, 0, 0), (36, .invokestatic 36, 3, 325, 2, 0, 0, 0), (39, .putfield 33, 3, 2, 4, 0, 0, 0), (42, .iload_n 1, 1, 0, 0, 0, 0, 0), (43, .ireturn, 1, 0, 0, 0, 0, 0)]
def cm_X5_settle : am_M := fun pc => cd_X5_settle.lookup pc
def cd_X5_bringBack : List (Nat × am_E) := [(0, .aload_n 0, 1, 0, 0, 0, 0, 0), (1, .getfield 33, 3, 2, 4, 0, 0, 0), (4, .ifCond .ne 5, 3, 9, 0, 0, 0, 0), (7, .iconst (-1), 1, 0, 0, 0, (-1), 0), (8, .ireturn, 1, 0, 0, 0, 0, 0), (9, .aload_n 0, 1, 0, 0, 0, 0, 0), (10, .aload_n 0, 1, 0, 0, 0, 0, 0), (11, .getfield 25, 3, 2, 3, 0, 0, 0), (14, .ifCond .le 12, 3, 26, 0, 0, 0, 0), (17, .aload_n 0, 1, 0, 0, 0, 0, 0), (18, .getfield 25, 3, 2, 3, 0, 0, 0), (21, .iconst 1, 1, 0, 0, 0, (1), 0), (22, .isub, 1, 0, 0, 0, 0, 0), (23, .goto 5, 3, 28, 0, 0, 0, 0), (26, .bipush 15, 2, 0, 0, 0, (15), 0), (28, .putfield 25, 3, 2, 3, 0, 0, 0), (31, .aload_n 1, 1, 0, 0, 0, 0, 0), (32, .aload_n 0, 1, 0, 0, 0, 0, 0), (33, .getfield 11, 3, 2, 0, 0, 0, 0), (36, .aload_n 0, 1, 0, 0, 0, 0, 0), (37, .getfield 25, 3, 2, 3, 0, 0, 0), (40, .aaload, 1, 0, 0, 0, 0, 0), (41, .invokevirtual 29, 3, 78, 2, 5, 0, 0), (44, .aload_n 0, 1, 0, 0, 0, 0, 0), (45, .dup, 1, 0, 0, 0, 0, 0), (46, .getfield 33, 3, 2, 4, 0, 0, 0), (49, .iconst 1, 1, 0, 0, 0, (1), 0), (50, .isub, 1, 0, 0, 0, 0, 0), (51, .putfield 33, 3, 2, 4, 0, 0, 0), (54, .aload_n 0, 1, 0, 0, 0, 0, 0), (55, .getfield 33, 3, 2, 4, 0, 0, 0), (58, .ireturn, 1, 0, 0, 0, 0, 0)]
def cm_X5_bringBack : am_M := fun pc => cd_X5_bringBack.lookup pc
def cd_X5_keepUnder : List (Nat × am_E) := [(0, .iload_n 1, 1, 0, 0, 0, 0, 0), (1, .ifCond .lt 8, 3, 9, 0, 0, 0, 0), (4, .iload_n 1, 1, 0, 0, 0, 0, 0), (5, .iconst 3, 1, 0, 0, 0, (3), 0), (6, .if_icmp .lt 5, 3, 11, 0, 0, 0, 0), (9, .iconst 0, 1, 0, 0, 0, (0), 0), (10, .ireturn, 1, 0, 0, 2, 0, 0), (11, .aload_n 0, 1, 0, 0, 0, 0, 0), (12, .getfield 17, 3, 2, 1, 0, 0, 0), (15, .iload_n 1, 1, 0, 0, 0, 0, 0), (16, .aaload, 1, 0, 0, 0, 0, 0), (17, .aload_n 2, 1, 0, 0, 0, 0, 0), (18, .invokevirtual 29, 3, 78, 2, 5, 0, 0), (21, .aload_n 0, 1, 0, 0, 0, 0, 0), (22, .getfield 20, 3, 2, 2, 0, 0, 0), (25, .iload_n 1, 1, 0, 0, 0, 0, 0), (26, .iconst 1, 1, 0, 0, 0, (1), 0), (27, .bastore, 1, 0, 0, 0, 0, 0), (28, .iconst 1, 1, 0, 0, 0, (1), 0), (29, .ireturn, 1, 0, 0, 2, 0, 0)]
def cm_X5_keepUnder : am_M := fun pc => cd_X5_keepUnder.lookup pc
def cd_X5_takeKept : List (Nat × am_E) := [(0, .iload_n 1, 1, 0, 0, 0, 0, 0), (1, .ifCond .lt 17, 3, 18, 0, 0, 0, 0), (4, .iload_n 1, 1, 0, 0, 0, 0, 0), (5, .iconst 3, 1, 0, 0, 0, (3), 0), (6, .if_icmp .ge 12, 3, 18, 0, 0, 0, 0), (9, .aload_n 0, 1, 0, 0, 0, 0, 0), (10, .getfield 20, 3, 2, 2, 0, 0, 0), (13, .iload_n 1, 1, 0, 0, 0, 0, 0), (14, .baload, 1, 0, 0, 0, 0, 0), (15, .ifCond .ne 5, 3, 20, 0, 0, 0, 0), (18, .iconst 0, 1, 0, 0, 0, (0), 0), (19, .ireturn, 1, 0, 0, 2, 0, 0), (20, .aload_n 2, 1, 0, 0, 0, 0, 0), (21, .aload_n 0, 1, 0, 0, 0, 0, 0), (22, .getfield 17, 3, 2, 1, 0, 0, 0), (25, .iload_n 1, 1, 0, 0, 0, 0, 0), (26, .aaload, 1, 0, 0, 0, 0, 0), (27, .invokevirtual 29, 3, 78, 2, 5, 0, 0), (30, .aload_n 0, 1, 0, 0, 0, 0, 0), (31, .iconst 0, 1, 0, 0, 0, (0), 0), (32, .putfield 33, 3, 2, 4, 0, 0, 0), (35, .iconst 1, 1, 0, 0, 0, (1), 0), (36, .ireturn, 1, 0, 0, 2, 0, 0)]
def cm_X5_takeKept : am_M := fun pc => cd_X5_takeKept.lookup pc
def cd_X6_init : List (Nat × am_E) := [(0, .aload_n 0, 1, 0, 0, 0, 0, 0), (1, .invokespecial 3, 3, 904, 1, 0, 0, 0), (4, .aload_n 0, 1, 0, 0, 0, 0, 0), (5, .bipush 40, 2, 0, 0, 0, (40), 0), (7, .newarray .int, 2, 0, 0, 0, 0, 0), (9, .putfield 9, 3, 3, 0, 1, 0, 0), (12, .aload_n 0, 1, 0, 0, 0, 0, 0), (13, .bipush 40, 2, 0, 0, 0, (40), 0), (15, .newarray .int, 2, 0, 0, 0, 0, 0), (17, .putfield 15, 3, 3, 1, 1, 0, 0), (20, .aload_n 0, 1, 0, 0, 0, 0, 0), (21, .bipush 40, 2, 0, 0, 0, (40), 0), (23, .newarray .char, 2, 0, 0, 0, 0, 0), (25, .putfield 18, 3, 3, 2, 1, 0, 0), (28, .return_, 1, 0, 0, 0, 0, 0)]
def cm_X6_init : am_M := fun pc => cd_X6_init.lookup pc
def cd_X6_read : List (Nat × am_E) := [(0, .aload_n 0, 1, 0, 0, 0, 0, 0), (1, .iconst 0, 1, 0, 0, 0, (0), 0), (2, .putfield 22, 3, 3, 3, 0, 0, 0), (5, .aload_n 0, 1, 0, 0, 0, 0, 0), (6, .iconst 0, 1, 0, 0, 0, (0), 0), (7, .putfield 26, 3, 3, 4, 0, 0, 0), (10, .aload_n 0, 1, 0, 0, 0, 0, 0), (11, .iconst 0, 1, 0, 0, 0, (0), 0), (12, .putfield 29, 3, 3, 5, 0, 0, 0), (15, .aload_n 0, 1, 0, 0, 0, 0, 0), (16, .iconst 0, 1, 0, 0, 0, (0), 0), (17, .putfield 32, 3, 3, 6, 0, 0, 0), (20, .aload_n 0, 1, 0, 0, 0, 0, 0), (21, .iconst 0, 1, 0, 0, 0, (0), 0), (22, .putfield 35, 3, 3, 7, 0, 0, 0), (25, .aload_n 0, 1, 0, 0, 0, 0, 0), (26, .iconst 1, 1, 0, 0, 0, (1), 0), (27, .putfield 38, 3, 3, 8, 2, 0, 0), (30, .aload_n 1, 1, 0, 0, 0, 0, 0), (31, .invokevirtual 42, 3, 104, 1, 6, 0, 0), (34, .bipush 40, 2, 0, 0, 0, (40), 0), (36, .invokestatic 48, 3, 325, 2, 0, 0, 0), (39, .istore_n 2, 1, 0, 0, 0, 0, 0), (40, .iconst 0, 1, 0, 0, 0, (0), 0), (41, .istore_n 3, 1, 0, 0, 0, 0, 0), (42, .iload_n 3, 1, 0, 0, 0, 0, 0), (43, .iload_n 2, 1, 0, 0, 0, 0, 0), (44, .if_icmp .ge 23, 3, 67, 0, 0, 0, 0), (47, .aload_n 0, 1, 0, 0, 0, 0, 0), (48, .aload_n 1, 1, 0, 0, 0, 0, 0), (49, .iload_n 3, 1, 0, 0, 0, 0, 0), (50, .invokevirtual 54, 3, 105, 2, 6, 0, 0), (53, .invokevirtual 58, 3, 65, 2, 4, 0, 0), (56, .ifCond .ne 5, 3, 61, 0, 0, 0, 0), (59, .iload_n 3, 1, 0, 0, 0, 0, 0), (60, .ireturn, 1, 0, 0, 0, 0, 0), (61, .iinc 3 1, 3, 0, 0, 0, (1), 0), (64, .goto (-22), 3, 42, 0, 0, 0, 0), (67, .aload_n 1, 1, 0, 0, 0, 0, 0), (68, .invokevirtual 42, 3, 104, 1, 6, 0, 0), (71, .bipush 40, 2, 0, 0, 0, (40), 0), (73, .if_icmp .le 6, 3, 79, 0, 0, 0, 0), (76, .bipush 40, 2, 0, 0, 0, (40), 0), (78, .ireturn, 1, 0, 0, 0, 0, 0), (79, .iload_n 2, 1, 0, 0, 0, 0, 0), (80, .ifCond .le 19, 3, 99, 0, 0, 0, 0), (83, .aload_n 0, 1, 0, 0, 0, 0, 0), (84, .getfield 38, 3, 3, 8, 0, 0, 0), (87, .ifCond .ne 10, 3, 97, 0, 0, 0, 0), (90, .aload_n 0, 1, 0, 0, 0, 0, 0), (91, .getfield 29, 3, 3, 5, 0, 0, 0), (94, .ifCond .le 5, 3, 99, 0, 0, 0, 0), (97, .iload_n 2, 1, 0, 0, 0, 0, 0), (98, .ireturn, 1, 0, 0, 0, 0, 0), (99, .aload_n 0, 1, 0, 0, 0, 0, 0), (100, .iconst 1, 1, 0, 0, 0, (1), 0), (101, .invokevirtual 62, 3, 69, 2, 4, 0, 0), (104, .iconst (-1), 1, 0, 0, 0, (-1), 0), (105, .ireturn, 1, 0, 0, 0, 0, 0)]
def cm_X6_read : am_M := fun pc => cd_X6_read.lookup pc
def cd_X6_takes : List (Nat × am_E) := [(0, .iload_n 1, 1, 0, 0, 0, 0, 0), (1, .bipush 48, 2, 0, 0, 0, (48), 0), (3, .if_icmp .lt 18, 3, 21, 0, 0, 0, 0), (6, .iload_n 1, 1, 0, 0, 0, 0, 0), (7, .bipush 57, 2, 0, 0, 0, (57), 0), (9, .if_icmp .gt 12, 3, 21, 0, 0, 0, 0), (12, .aload_n 0, 1, 0, 0, 0, 0, 0), (13, .iload_n 1, 1, 0, 0, 0, 0, 0), (14, .bipush 48, 2, 0, 0, 0, (48), 0), (16, .isub, 1, 0, 0, 0, 0, 0), (17, .invokevirtual 66, 3, 66, 2, 4, 0, 0), (20, .ireturn, 1, 0, 0, 2, 0, 0), (21, .aload_n 0, 1, 0, 0, 0, 0, 0), (22, .iconst 0, 1, 0, 0, 0, (0), 0), (23, .putfield 32, 3, 3, 6, 0, 0, 0), (26, .aload_n 0, 1, 0, 0, 0, 0, 0), (27, .getfield 38, 3, 3, 8, 0, 0, 0), (30, .ifCond .eq 11, 3, 41, 0, 0, 0, 0), (33, .aload_n 0, 1, 0, 0, 0, 0, 0), (34, .iload_n 1, 1, 0, 0, 0, 0, 0), (35, .invokevirtual 70, 3, 67, 2, 4, 0, 0), (38, .goto 8, 3, 46, 0, 0, 0, 0), (41, .aload_n 0, 1, 0, 0, 0, 0, 0), (42, .iload_n 1, 1, 0, 0, 0, 0, 0), (43, .invokevirtual 73, 3, 68, 2, 4, 0, 0), (46, .ireturn, 1, 0, 0, 2, 0, 0)]
def cm_X6_takes : am_M := fun pc => cd_X6_takes.lookup pc
def cd_X6_takesDigit : List (Nat × am_E) := [(0, .aload_n 0, 1, 0, 0, 0, 0, 0), (1, .getfield 38, 3, 3, 8, 0, 0, 0), (4, .ifCond .eq 11, 3, 15, 0, 0, 0, 0), (7, .aload_n 0, 1, 0, 0, 0, 0, 0), (8, .iload_n 1, 1, 0, 0, 0, 0, 0), (9, .invokevirtual 76, 3, 70, 2, 4, 0, 0), (12, .goto 51, 3, 63, 0, 0, 0, 0), (15, .aload_n 0, 1, 0, 0, 0, 0, 0), (16, .getfield 32, 3, 3, 6, 0, 0, 0), (19, .iconst 1, 1, 0, 0, 0, (1), 0), (20, .if_icmp .eq 11, 3, 31, 0, 0, 0, 0), (23, .aload_n 0, 1, 0, 0, 0, 0, 0), (24, .getfield 32, 3, 3, 6, 0, 0, 0), (27, .iconst 2, 1, 0, 0, 0, (2), 0), (28, .if_icmp .ne 33, 3, 61, 0, 0, 0, 0), (31, .aload_n 0, 1, 0, 0, 0, 0, 0), (32, .getfield 9, 3, 3, 0, 0, 0, 0), (35, .aload_n 0, 1, 0, 0, 0, 0, 0), (36, .getfield 22, 3, 3, 3, 0, 0, 0), (39, .iconst 1, 1, 0, 0, 0, (1), 0), (40, .isub, 1, 0, 0, 0, 0, 0), (41, .aload_n 0, 1, 0, 0, 0, 0, 0), (42, .getfield 9, 3, 3, 0, 0, 0, 0), (45, .aload_n 0, 1, 0, 0, 0, 0, 0), (46, .getfield 22, 3, 3, 3, 0, 0, 0), (49, .iconst 1, 1, 0, 0, 0, (1), 0), (50, .isub, 1, 0, 0, 0, 0, 0), (51, .iaload, 1, 0, 0, 0, 0, 0), (52, .bipush 10, 2, 0, 0, 0, (10), 0), (54, .imul, 1, 0, 0, 0, 0, 0), (55, .iload_n 1, 1, 0, 0, 0, 0, 0), (56, .iadd, 1, 0, 0, 0, 0, 0), (57, .iastore, 1, 0, 0, 0, 0, 0), (58, .goto 5, 3, 63, 0, 0, 0, 0), (61, .iconst 0, 1, 0, 0, 0, (0), 0), (62, .ireturn, 1, 0, 0, 2, 0, 0), (63, .aload_n 0, 1, 0, 0, 0, 0, 0), (64, .dup, 1, 0, 0, 0, 0, 0), (65, .getfield 32, 3, 3, 6, 0, 0, 0), (68, .iconst 1, 1, 0, 0, 0, (1), 0), (69, .iadd, 1, 0, 0, 0, 0, 0), (70, .putfield 32, 3, 3, 6, 0, 0, 0), (73, .aload_n 0, 1, 0, 0, 0, 0, 0), (74, .iconst 0, 1, 0, 0, 0, (0), 0), (75, .putfield 38, 3, 3, 8, 2, 0, 0), (78, .iconst 1, 1, 0, 0, 0, (1), 0), (79, .ireturn, 1, 0, 0, 2, 0, 0)]
def cm_X6_takesDigit : am_M := fun pc => cd_X6_takesDigit.lookup pc
def cd_X6_takesThing : List (Nat × am_E) := [(0, .iload_n 1, 1, 0, 0, 0, 0, 0), (1, .bipush 45, 2, 0, 0, 0, (45), 0), (3, .if_icmp .ne 11, 3, 14, 0, 0, 0, 0), (6, .aload_n 0, 1, 0, 0, 0, 0, 0), (7, .bipush 126, 2, 0, 0, 0, (126), 0), (9, .invokevirtual 79, 3, 71, 2, 4, 0, 0), (12, .iconst 1, 1, 0, 0, 0, (1), 0), (13, .ireturn, 1, 0, 0, 2, 0, 0), (14, .iload_n 1, 1, 0, 0, 0, 0, 0), (15, .bipush 40, 2, 0, 0, 0, (40), 0), (17, .if_icmp .ne 47, 3, 64, 0, 0, 0, 0), (20, .aload_n 0, 1, 0, 0, 0, 0, 0), (21, .getfield 29, 3, 3, 5, 0, 0, 0), (24, .iconst 4, 1, 0, 0, 0, (4), 0), (25, .if_icmp .lt 5, 3, 30, 0, 0, 0, 0), (28, .iconst 0, 1, 0, 0, 0, (0), 0), (29, .ireturn, 1, 0, 0, 2, 0, 0), (30, .aload_n 0, 1, 0, 0, 0, 0, 0), (31, .dup, 1, 0, 0, 0, 0, 0), (32, .getfield 29, 3, 3, 5, 0, 0, 0), (35, .iconst 1, 1, 0, 0, 0, (1), 0), (36, .iadd, 1, 0, 0, 0, 0, 0), (37, .putfield 29, 3, 3, 5, 0, 0, 0), (40, .aload_n 0, 1, 0, 0, 0, 0, 0), (41, .dup, 1, 0, 0, 0, 0, 0), (42, .getfield 35, 3, 3, 7, 0, 0, 0), (45, .iconst 1, 1, 0, 0, 0, (1), 0), (46, .aload_n 0, 1, 0, 0, 0, 0, 0), (47, .getfield 29, 3, 3, 5, 0, 0, 0), (50, .ishl, 1, 0, 0, 0, 0, 0), (51, .iconst (-1), 1, 0, 0, 0, (-1), 0), (52, .ixor, 1, 0, 0, 0, 0, 0), (53, .iand, 1, 0, 0, 0, 0, 0), (54, .putfield 35, 3, 3, 7, 0, 0, 0), (57, .aload_n 0, 1, 0, 0, 0, 0, 0), (58, .iload_n 1, 1, 0, 0, 0, 0, 0), (59, .invokevirtual 79, 3, 71, 2, 4, 0, 0), (62, .iconst 1, 1, 0, 0, 0, (1), 0), (63, .ireturn, 1, 0, 0, 2, 0, 0), (64, .iload_n 1, 1, 0, 0, 0, 0, 0), (65, .invokestatic 83, 3, 73, 1, 0, 0, 0), (68, .ifCond .ne 5, 3, 73, 0, 0, 0, 0), (71, .iconst 0, 1, 0, 0, 0, (0), 0), (72, .ireturn, 1, 0, 0, 2, 0, 0), (73, .aload_n 0, 1, 0, 0, 0, 0, 0), (74, .iload_n 1, 1, 0, 0, 0, 0, 0), (75, .ineg, 1, 0, 0, 0, 0, 0), (76, .invokevirtual 76, 3, 70, 2, 4, 0, 0), (79, .aload_n 0, 1, 0, 0, 0, 0, 0), (80, .iconst 0, 1, 0, 0, 0, (0), 0), (81, .putfield 38, 3, 3, 8, 2, 0, 0), (84, .iconst 1, 1, 0, 0, 0, (1), 0), (85, .ireturn, 1, 0, 0, 2, 0, 0)]
def cm_X6_takesThing : am_M := fun pc => cd_X6_takesThing.lookup pc
def cd_X6_takesOperator : List (Nat × am_E) := [(0, .iload_n 1, 1, 0, 0, 0, 0, 0), (1, .bipush 41, 2, 0, 0, 0, (41), 0), (3, .if_icmp .ne 39, 3, 42, 0, 0, 0, 0), (6, .aload_n 0, 1, 0, 0, 0, 0, 0), (7, .getfield 29, 3, 3, 5, 0, 0, 0), (10, .ifCond .ne 5, 3, 15, 0, 0, 0, 0), (13, .iconst 0, 1, 0, 0, 0, (0), 0), (14, .ireturn, 1, 0, 0, 2, 0, 0), (15, .aload_n 0, 1, 0, 0, 0, 0, 0), (16, .iconst 1, 1, 0, 0, 0, (1), 0), (17, .invokevirtual 62, 3, 69, 2, 4, 0, 0), (20, .aload_n 0, 1, 0, 0, 0, 0, 0), (21, .dup, 1, 0, 0, 0, 0, 0), (22, .getfield 26, 3, 3, 4, 0, 0, 0), (25, .iconst 1, 1, 0, 0, 0, (1), 0), (26, .isub, 1, 0, 0, 0, 0, 0), (27, .putfield 26, 3, 3, 4, 0, 0, 0), (30, .aload_n 0, 1, 0, 0, 0, 0, 0), (31, .dup, 1, 0, 0, 0, 0, 0), (32, .getfield 29, 3, 3, 5, 0, 0, 0), (35, .iconst 1, 1, 0, 0, 0, (1), 0), (36, .isub, 1, 0, 0, 0, 0, 0), (37, .putfield 29, 3, 3, 5, 0, 0, 0), (40, .iconst 1, 1, 0, 0, 0, (1), 0), (41, .ireturn, 1, 0, 0, 2, 0, 0), (42, .iload_n 1, 1, 0, 0, 0, 0, 0), (43, .invokestatic 86, 3, 72, 1, 0, 0, 0), (46, .istore_n 2, 1, 0, 0, 0, 0, 0), (47, .iload_n 2, 1, 0, 0, 0, 0, 0), (48, .ifCond .eq 8, 3, 56, 0, 0, 0, 0), (51, .iload_n 2, 1, 0, 0, 0, 0, 0), (52, .iconst 4, 1, 0, 0, 0, (4), 0), (53, .if_icmp .ne 5, 3, 58, 0, 0, 0, 0), (56, .iconst 0, 1, 0, 0, 0, (0), 0), (57, .ireturn, 1, 0, 0, 2, 0, 0), (58, .iload_n 2, 1, 0, 0, 0, 0, 0), (59, .iconst 1, 1, 0, 0, 0, (1), 0), (60, .if_icmp .ne 35, 3, 95, 0, 0, 0, 0), (63, .aload_n 0, 1, 0, 0, 0, 0, 0), (64, .getfield 35, 3, 3, 7, 0, 0, 0), (67, .aload_n 0, 1, 0, 0, 0, 0, 0), (68, .getfield 29, 3, 3, 5, 0, 0, 0), (71, .ishr, 1, 0, 0, 0, 0, 0), (72, .iconst 1, 1, 0, 0, 0, (1), 0), (73, .iand, 1, 0, 0, 0, 0, 0), (74, .iconst 1, 1, 0, 0, 0, (1), 0), (75, .if_icmp .ne 5, 3, 80, 0, 0, 0, 0), (78, .iconst 0, 1, 0, 0, 0, (0), 0), (79, .ireturn, 1, 0, 0, 2, 0, 0), (80, .aload_n 0, 1, 0, 0, 0, 0, 0), (81, .dup, 1, 0, 0, 0, 0, 0), (82, .getfield 35, 3, 3, 7, 0, 0, 0), (85, .iconst 1, 1, 0, 0, 0, (1), 0), (86, .aload_n 0, 1, 0, 0, 0, 0, 0), (87, .getfield 29, 3, 3, 5, 0, 0, 0), (90, .ishl, 1, 0, 0, 0, 0, 0), (91, .ior, 1, 0, 0, 0, 0, 0), (92, .putfield 35, 3, 3, 7, 0, 0, 0), (95, .aload_n 0, 1, 0, 0, 0, 0, 0), (96, .iload_n 2, 1, 0, 0, 0, 0, 0), (97, .invokevirtual 62, 3, 69, 2, 4, 0, 0), (100, .aload_n 0, 1, 0, 0, 0, 0, 0), (101, .iload_n 1, 1, 0, 0, 0, 0, 0), (102, .invokevirtual 79, 3, 71, 2, 4, 0, 0), (105, .aload_n 0, 1, 0, 0, 0, 0, 0), (106, .iconst 1, 1, 0, 0, 0, (1), 0), (107, .putfield 38, 3, 3, 8, 2, 0, 0), (110, .iconst 1, 1, 0, 0, 0, (1), 0), (111, .ireturn, 1, 0, 0, 2, 0, 0)]
def cm_X6_takesOperator : am_M := fun pc => cd_X6_takesOperator.lookup pc
def cd_X6_settleDownTo : List (Nat × am_E) := [(0, .aload_n 0, 1, 0, 0, 0, 0, 0), (1, .getfield 26, 3, 3, 4, 0, 0, 0), (4, .iconst 1, 1, 0, 0, 0, (1), 0), (5, .isub, 1, 0, 0, 0, 0, 0), (6, .istore_n 2, 1, 0, 0, 0, 0, 0), (7, .iload_n 2, 1, 0, 0, 0, 0, 0), (8, .ifCond .lt 43, 3, 51, 0, 0, 0, 0), (11, .aload_n 0, 1, 0, 0, 0, 0, 0), (12, .getfield 18, 3, 3, 2, 0, 0, 0), (15, .iload_n 2, 1, 0, 0, 0, 0, 0), (16, .caload, 1, 0, 0, 0, 0, 0), (17, .invokestatic 86, 3, 72, 1, 0, 0, 0), (20, .iload_n 1, 1, 0, 0, 0, 0, 0), (21, .if_icmp .lt 30, 3, 51, 0, 0, 0, 0), (24, .aload_n 0, 1, 0, 0, 0, 0, 0), (25, .aload_n 0, 1, 0, 0, 0, 0, 0), (26, .getfield 18, 3, 3, 2, 0, 0, 0), (29, .iload_n 2, 1, 0, 0, 0, 0, 0), (30, .caload, 1, 0, 0, 0, 0, 0), (31, .ineg, 1, 0, 0, 0, 0, 0), (32, .invokevirtual 76, 3, 70, 2, 4, 0, 0), (35, .aload_n 0, 1, 0, 0, 0, 0, 0), (36, .dup, 1, 0, 0, 0, 0, 0), (37, .getfield 26, 3, 3, 4, 0, 0, 0), (40, .iconst 1, 1, 0, 0, 0, (1), 0), (41, .isub, 1, 0, 0, 0, 0, 0), (42, .putfield 26, 3, 3, 4, 0, 0, 0), (45, .iinc 2 (-1), 3, 0, 0, 0, (-1), 0), (48, .goto (-41), 3, 7, 0, 0, 0, 0), (51, .return_, 1, 0, 0, 0, 0, 0)]
def cm_X6_settleDownTo : am_M := fun pc => cd_X6_settleDownTo.lookup pc
def cd_X6_addStep : List (Nat × am_E) := [(0, .aload_n 0, 1, 0, 0, 0, 0, 0), (1, .getfield 22, 3, 3, 3, 0, 0, 0), (4, .bipush 40, 2, 0, 0, 0, (40), 0), (6, .if_icmp .ge 23, 3, 29, 0, 0, 0, 0), (9, .aload_n 0, 1, 0, 0, 0, 0, 0), (10, .getfield 9, 3, 3, 0, 0, 0, 0), (13, .aload_n 0, 1, 0, 0, 0, 0, 0), (14, .getfield 22, 3, 3, 3, 0, 0, 0), (17, .iload_n 1, 1, 0, 0, 0, 0, 0), (18, .iastore, 1, 0, 0, 0, 0, 0), (19, .aload_n 0, 1, 0, 0, 0, 0, 0), (20, .dup, 1, 0, 0, 0, 0, 0), (21, .getfield 22, 3, 3, 3, 0, 0, 0), (24, .iconst 1, 1, 0, 0, 0, (1), 0), (25, .iadd, 1, 0, 0, 0, 0, 0), (26, .putfield 22, 3, 3, 3, 0, 0, 0), (29, .return_, 1, 0, 0, 0, 0, 0)]
def cm_X6_addStep : am_M := fun pc => cd_X6_addStep.lookup pc
def cd_X6_addWaiting : List (Nat × am_E) := [(0, .aload_n 0, 1, 0, 0, 0, 0, 0), (1, .getfield 26, 3, 3, 4, 0, 0, 0), (4, .bipush 40, 2, 0, 0, 0, (40), 0), (6, .if_icmp .ge 23, 3, 29, 0, 0, 0, 0), (9, .aload_n 0, 1, 0, 0, 0, 0, 0), (10, .getfield 18, 3, 3, 2, 0, 0, 0), (13, .aload_n 0, 1, 0, 0, 0, 0, 0), (14, .getfield 26, 3, 3, 4, 0, 0, 0), (17, .iload_n 1, 1, 0, 0, 0, 0, 0), (18, .castore, 1, 0, 0, 0, 0, 0), (19, .aload_n 0, 1, 0, 0, 0, 0, 0), (20, .dup, 1, 0, 0, 0, 0, 0), (21, .getfield 26, 3, 3, 4, 0, 0, 0), (24, .iconst 1, 1, 0, 0, 0, (1), 0), (25, .iadd, 1, 0, 0, 0, 0, 0), (26, .putfield 26, 3, 3, 4, 0, 0, 0), (29, .return_, 1, 0, 0, 0, 0, 0)]
def cm_X6_addWaiting : am_M := fun pc => cd_X6_addWaiting.lookup pc
def cd_X6_binding : List (Nat × am_E) := [(0, .iload_n 0, 1, 0, 0, 0, 0, 0), (1, .lookupswitch 83 #[(42, 79), (43, 77), (45, 77), (47, 79), (60, 75), (61, 75), (62, 75), (126, 81)], 75, 0, 0, 0, 0, 0), (76, .iconst 1, 1, 0, 0, 0, (1), 0), (77, .ireturn, 1, 0, 0, 0, 0, 0), (78, .iconst 2, 1, 0, 0, 0, (2), 0), (79, .ireturn, 1, 0, 0, 0, 0, 0), (80, .iconst 3, 1, 0, 0, 0, (3), 0), (81, .ireturn, 1, 0, 0, 0, 0, 0), (82, .iconst 4, 1, 0, 0, 0, (4), 0), (83, .ireturn, 1, 0, 0, 0, 0, 0), (84, .iconst 0, 1, 0, 0, 0, (0), 0), (85, .ireturn, 1, 0, 0, 0, 0, 0)]
def cm_X6_binding : am_M := fun pc => cd_X6_binding.lookup pc
def cd_X6_isTrait : List (Nat × am_E) := [(0, .iload_n 0, 1, 0, 0, 0, 0, 0), (1, .bipush 110, 2, 0, 0, 0, (110), 0), (3, .if_icmp .eq 39, 3, 42, 0, 0, 0, 0), (6, .iload_n 0, 1, 0, 0, 0, 0, 0), (7, .bipush 99, 2, 0, 0, 0, (99), 0), (9, .if_icmp .eq 33, 3, 42, 0, 0, 0, 0), (12, .iload_n 0, 1, 0, 0, 0, 0, 0), (13, .bipush 116, 2, 0, 0, 0, (116), 0), (15, .if_icmp .eq 27, 3, 42, 0, 0, 0, 0), (18, .iload_n 0, 1, 0, 0, 0, 0, 0), (19, .bipush 102, 2, 0, 0, 0, (102), 0), (21, .if_icmp .eq 21, 3, 42, 0, 0, 0, 0), (24, .iload_n 0, 1, 0, 0, 0, 0, 0), (25, .bipush 109, 2, 0, 0, 0, (109), 0), (27, .if_icmp .eq 15, 3, 42, 0, 0, 0, 0), (30, .iload_n 0, 1, 0, 0, 0, 0, 0), (31, .bipush 100, 2, 0, 0, 0, (100), 0), (33, .if_icmp .eq 9, 3, 42, 0, 0, 0, 0), (36, .iload_n 0, 1, 0, 0, 0, 0, 0), (37, .bipush 104, 2, 0, 0, 0, (104), 0), (39, .if_icmp .ne 7, 3, 46, 0, 0, 0, 0), (42, .iconst 1, 1, 0, 0, 0, (1), 0), (43, .goto 4, 3, 47, 0, 0, 0, 0), (46, .iconst 0, 1, 0, 0, 0, (0), 0), (47, .ireturn, 1, 0, 0, 2, 0, 0)]
def cm_X6_isTrait : am_M := fun pc => cd_X6_isTrait.lookup pc
def cd_X6_price : List (Nat × am_E) := [(0, .aload_n 0, 1, 0, 0, 0, 0, 0), (1, .getfield 22, 3, 3, 3, 0, 0, 0), (4, .ifCond .ne 16, 3, 20, 0, 0, 0, 0), (7, .iload_n 2, 1, 0, 0, 0, 0, 0), (8, .iconst 2, 1, 0, 0, 0, (2), 0), (9, .iload_n 1, 1, 0, 0, 0, 0, 0), (10, .iload_n 2, 1, 0, 0, 0, 0, 0), (11, .invokestatic 90, 3, 15, 2, 0, 0, 0), (14, .invokestatic 95, 3, 323, 1, 0, 0, 0), (17, .imul, 1, 0, 0, 0, 0, 0), (18, .iadd, 1, 0, 0, 0, 0, 0), (19, .ireturn, 1, 0, 0, 0, 0, 0), (20, .iconst (-1), 1, 0, 0, 0, (-1), 0), (21, .istore 4, 2, 0, 0, 0, 0, 0), (23, .iconst 0, 1, 0, 0, 0, (0), 0), (24, .istore 5, 2, 0, 0, 0, 0, 0), (26, .iload 5, 2, 0, 0, 0, 0, 0), (28, .aload_n 0, 1, 0, 0, 0, 0, 0), (29, .getfield 22, 3, 3, 3, 0, 0, 0), (32, .if_icmp .ge 126, 3, 158, 0, 0, 0, 0), (35, .aload_n 0, 1, 0, 0, 0, 0, 0), (36, .getfield 9, 3, 3, 0, 0, 0, 0), (39, .iload 5, 2, 0, 0, 0, 0, 0), (41, .iaload, 1, 0, 0, 0, 0, 0), (42, .istore 6, 2, 0, 0, 0, 0, 0), (44, .iload 6, 2, 0, 0, 0, 0, 0), (46, .ifCond .lt 18, 3, 64, 0, 0, 0, 0), (49, .iinc 4 1, 3, 0, 0, 0, (1), 0), (52, .aload_n 0, 1, 0, 0, 0, 0, 0), (53, .getfield 15, 3, 3, 1, 0, 0, 0), (56, .iload 4, 2, 0, 0, 0, 0, 0), (58, .iload 6, 2, 0, 0, 0, 0, 0), (60, .iastore, 1, 0, 0, 0, 0, 0), (61, .goto 91, 3, 152, 0, 0, 0, 0), (64, .iload 6, 2, 0, 0, 0, 0, 0), (66, .ineg, 1, 0, 0, 0, 0, 0), (67, .invokestatic 83, 3, 73, 1, 0, 0, 0), (70, .ifCond .eq 25, 3, 95, 0, 0, 0, 0), (73, .iinc 4 1, 3, 0, 0, 0, (1), 0), (76, .aload_n 0, 1, 0, 0, 0, 0, 0), (77, .getfield 15, 3, 3, 1, 0, 0, 0), (80, .iload 4, 2, 0, 0, 0, 0, 0), (82, .iload 6, 2, 0, 0, 0, 0, 0), (84, .ineg, 1, 0, 0, 0, 0, 0), (85, .iload_n 1, 1, 0, 0, 0, 0, 0), (86, .iload_n 2, 1, 0, 0, 0, 0, 0), (87, .iload_n 3, 1, 0, 0, 0, 0, 0), (88, .invokestatic 101, 3, 75, 4, 0, 0, 0), (91, .iastore, 1, 0, 0, 0, 0, 0), (92, .goto 60, 3, 152, 0, 0, 0, 0), (95, .iload 6, 2, 0, 0, 0, 0, 0), (97, .bipush (-126), 2, 0, 0, 0, (-126), 0), (99, .if_icmp .ne 21, 3, 120, 0, 0, 0, 0), (102, .aload_n 0, 1, 0, 0, 0, 0, 0), (103, .getfield 15, 3, 3, 1, 0, 0, 0), (106, .iload 4, 2, 0, 0, 0, 0, 0), (108, .aload_n 0, 1, 0, 0, 0, 0, 0), (109, .getfield 15, 3, 3, 1, 0, 0, 0), (112, .iload 4, 2, 0, 0, 0, 0, 0), (114, .iaload, 1, 0, 0, 0, 0, 0), (115, .ineg, 1, 0, 0, 0, 0, 0), (116, .iastore, 1, 0, 0, 0, 0, 0), (117, .goto 35, 3, 152, 0, 0, 0, 0), (120, .iinc 4 (-1), 3, 0, 0, 0, (-1), 0), (123, .aload_n 0, 1, 0, 0, 0, 0, 0), (124, .getfield 15, 3, 3, 1, 0, 0, 0), (127, .iload 4, 2, 0, 0, 0, 0, 0), (129, .iload 6, 2, 0, 0, 0, 0, 0), (131, .ineg, 1, 0, 0, 0, 0, 0), (132, .aload_n 0, 1, 0, 0, 0, 0, 0), (133, .getfield 15, 3, 3, 1, 0, 0, 0), (136, .iload 4, 2, 0, 0, 0, 0, 0), (138, .iaload, 1, 0, 0, 0, 0, 0), (139, .aload_n 0, 1, 0, 0, 0, 0, 0), (140, .getfield 15, 3, 3, 1, 0, 0, 0), (143, .iload 4, 2, 0, 0, 0, 0, 0), (145, .iconst 1, 1, 0, 0, 0, (1), 0), (146, .iadd, 1, 0, 0, 0, 0, 0), (147, .iaload, 1, 0, 0, 0, 0, 0), (148, .invokestatic 105, 3, 76, 3, 0, 0, 0), (151, .iastore, 1, 0, 0, 0, 0, 0), (152, .iinc 5 1, 3, 0, 0, 0, (1), 0), (155, .goto (-129), 3, 26, 0, 0, 0, 0), (158, .iconst 0, 1, 0, 0, 0, (0), 0), (159, .bipush 99, 2, 0, 0, 0, (99), 0), (161, .aload_n 0, 1, 0, 0, 0, 0, 0), (162, .getfield 15, 3, 3, 1, 0, 0, 0), (165, .iconst 0, 1, 0, 0, 0, (0), 0), (166, .iaload, 1, 0, 0, 0, 0, 0), (167, .invokestatic 48, 3, 325, 2, 0, 0, 0), (170, .invokestatic 109, 3, 324, 2, 0, 0, 0), (173, .ireturn, 1, 0, 0, 0, 0, 0)]
def cm_X6_price : am_M := fun pc => cd_X6_price.lookup pc
def cd_X6_trait : List (Nat × am_E) := [(0, .iload_n 0, 1, 0, 0, 0, 0, 0), (1, .tableswitch 127 99 116 #[89, 116, 127, 104, 127, 127, 127, 127, 127, 127, 110, 87, 127, 127, 127, 127, 127, 98], 87, 0, 0, 0, 0, 0), (88, .iload_n 2, 1, 0, 0, 0, 0, 0), (89, .ireturn, 1, 0, 0, 0, 0, 0), (90, .iload_n 1, 1, 0, 0, 0, 0, 0), (91, .iload_n 2, 1, 0, 0, 0, 0, 0), (92, .invokestatic 90, 3, 15, 2, 0, 0, 0), (95, .invokestatic 95, 3, 323, 1, 0, 0, 0), (98, .ireturn, 1, 0, 0, 0, 0, 0), (99, .iload_n 1, 1, 0, 0, 0, 0, 0), (100, .iload_n 2, 1, 0, 0, 0, 0, 0), (101, .invokestatic 112, 3, 11, 2, 0, 0, 0), (104, .ireturn, 1, 0, 0, 0, 0, 0), (105, .iload_n 1, 1, 0, 0, 0, 0, 0), (106, .iload_n 2, 1, 0, 0, 0, 0, 0), (107, .invokestatic 115, 3, 12, 2, 0, 0, 0), (110, .ireturn, 1, 0, 0, 0, 0, 0), (111, .iload_n 1, 1, 0, 0, 0, 0, 0), (112, .iload_n 2, 1, 0, 0, 0, 0, 0), (113, .invokestatic 118, 3, 18, 2, 0, 0, 0), (116, .ireturn, 1, 0, 0, 0, 0, 0), (117, .iload_n 1, 1, 0, 0, 0, 0, 0), (118, .iload_n 1, 1, 0, 0, 0, 0, 0), (119, .iload_n 2, 1, 0, 0, 0, 0, 0), (120, .iconst 1, 1, 0, 0, 0, (1), 0), (121, .invokestatic 121, 3, 4, 3, 0, 0, 0), (124, .invokestatic 124, 3, 19, 2, 0, 0, 0), (127, .ireturn, 1, 0, 0, 0, 0, 0), (128, .iload_n 3, 1, 0, 0, 0, 0, 0), (129, .ireturn, 1, 0, 0, 0, 0, 0)]
def cm_X6_trait : am_M := fun pc => cd_X6_trait.lookup pc
def cd_X6_joined : List (Nat × am_E) := [(0, .iload_n 0, 1, 0, 0, 0, 0, 0), (1, .lookupswitch 104 #[(42, 100), (43, 92), (45, 96), (60, 59), (61, 81), (62, 70)], 59, 0, 0, 0, 0, 0), (60, .iload_n 1, 1, 0, 0, 0, 0, 0), (61, .iload_n 2, 1, 0, 0, 0, 0, 0), (62, .if_icmp .ge 7, 3, 69, 0, 0, 0, 0), (65, .iconst 1, 1, 0, 0, 0, (1), 0), (66, .goto 4, 3, 70, 0, 0, 0, 0), (69, .iconst 0, 1, 0, 0, 0, (0), 0), (70, .ireturn, 1, 0, 0, 0, 0, 0), (71, .iload_n 1, 1, 0, 0, 0, 0, 0), (72, .iload_n 2, 1, 0, 0, 0, 0, 0), (73, .if_icmp .le 7, 3, 80, 0, 0, 0, 0), (76, .iconst 1, 1, 0, 0, 0, (1), 0), (77, .goto 4, 3, 81, 0, 0, 0, 0), (80, .iconst 0, 1, 0, 0, 0, (0), 0), (81, .ireturn, 1, 0, 0, 0, 0, 0), (82, .iload_n 1, 1, 0, 0, 0, 0, 0), (83, .iload_n 2, 1, 0, 0, 0, 0, 0), (84, .if_icmp .ne 7, 3, 91, 0, 0, 0, 0), (87, .iconst 1, 1, 0, 0, 0, (1), 0), (88, .goto 4, 3, 92, 0, 0, 0, 0), (91, .iconst 0, 1, 0, 0, 0, (0), 0), (92, .ireturn, 1, 0, 0, 0, 0, 0), (93, .iload_n 1, 1, 0, 0, 0, 0, 0), (94, .iload_n 2, 1, 0, 0, 0, 0, 0), (95, .iadd, 1, 0, 0, 0, 0, 0), (96, .ireturn, 1, 0, 0, 0, 0, 0), (97, .iload_n 1, 1, 0, 0, 0, 0, 0), (98, .iload_n 2, 1, 0, 0, 0, 0, 0), (99, .isub, 1, 0, 0, 0, 0, 0), (100, .ireturn, 1, 0, 0, 0, 0, 0), (101, .iload_n 1, 1, 0, 0, 0, 0, 0), (102, .iload_n 2, 1, 0, 0, 0, 0, 0), (103, .imul, 1, 0, 0, 0, 0, 0), (104, .ireturn, 1, 0, 0, 0, 0, 0), (105, .iload_n 2, 1, 0, 0, 0, 0, 0), (106, .ifCond .ne 7, 3, 113, 0, 0, 0, 0), (109, .iconst 0, 1, 0, 0, 0, (0), 0), (110, .goto 6, 3, 116, 0, 0, 0, 0), (113, .iload_n 1, 1, 0, 0, 0, 0, 0), (114, .iload_n 2, 1, 0, 0, 0, 0, 0), (115, .idiv, 1, 0, 0, 0, 0, 0), (116, .ireturn, 1, 0, 0, 0, 0, 0)]
def cm_X6_joined : am_M := fun pc => cd_X6_joined.lookup pc
def cd_X7_init : List (Nat × am_E) := [(0, .aload_n 0, 1, 0, 0, 0, 0, 0), (1, .invokespecial 3, 3, 904, 1, 0, 0, 0), (4, .aload_n 0, 1, 0, 0, 0, 0, 0), (5, .iconst 5, 1, 0, 0, 0, (5), 0), (6, .newarray .int, 2, 0, 0, 0, 0, 0), (8, .putfield 9, 3, 4, 0, 1, 0, 0), (11, .aload_n 0, 1, 0, 0, 0, 0, 0), (12, .iconst 5, 1, 0, 0, 0, (5), 0), (13, .newarray .int, 2, 0, 0, 0, 0, 0), (15, .putfield 15, 3, 4, 1, 1, 0, 0), (18, .aload_n 0, 1, 0, 0, 0, 0, 0), (19, .iconst 4, 1, 0, 0, 0, (4), 0), (20, .newarray .int, 2, 0, 0, 0, 0, 0), (22, .putfield 18, 3, 4, 2, 1, 0, 0), (25, .return_, 1, 0, 0, 0, 0, 0)]
def cm_X7_init : am_M := fun pc => cd_X7_init.lookup pc
def cd_X7_copyFrom : List (Nat × am_E) := [(0, .aload_n 1, 1, 0, 0, 0, 0, 0), (1, .getfield 9, 3, 4, 0, 0, 0, 0), (4, .iconst 0, 1, 0, 0, 0, (0), 0), (5, .aload_n 0, 1, 0, 0, 0, 0, 0), (6, .getfield 9, 3, 4, 0, 0, 0, 0), (9, .iconst 0, 1, 0, 0, 0, (0), 0), (10, .iconst 5, 1, 0, 0, 0, (5), 0), (11, .invokestatic 21, 3, 900, 5, 0, 0, 0), (14, .aload_n 1, 1, 0, 0, 0, 0, 0), (15, .getfield 15, 3, 4, 1, 0, 0, 0), (18, .iconst 0, 1, 0, 0, 0, (0), 0), (19, .aload_n 0, 1, 0, 0, 0, 0, 0), (20, .getfield 15, 3, 4, 1, 0, 0, 0), (23, .iconst 0, 1, 0, 0, 0, (0), 0), (24, .iconst 5, 1, 0, 0, 0, (5), 0), (25, .invokestatic 21, 3, 900, 5, 0, 0, 0), (28, .aload_n 1, 1, 0, 0, 0, 0, 0), (29, .getfield 18, 3, 4, 2, 0, 0, 0), (32, .iconst 0, 1, 0, 0, 0, (0), 0), (33, .aload_n 0, 1, 0, 0, 0, 0, 0), (34, .getfield 18, 3, 4, 2, 0, 0, 0), (37, .iconst 0, 1, 0, 0, 0, (0), 0), (38, .iconst 4, 1, 0, 0, 0, (4), 0), (39, .invokestatic 21, 3, 900, 5, 0, 0, 0), (42, .aload_n 0, 1, 0, 0, 0, 0, 0), (43, .aload_n 1, 1, 0, 0, 0, 0, 0), (44, .getfield 27, 3, 4, 3, 0, 0, 0), (47, .putfield 27, 3, 4, 3, 0, 0, 0), (50, .aload_n 0, 1, 0, 0, 0, 0, 0), (51, .aload_n 1, 1, 0, 0, 0, 0, 0), (52, .getfield 31, 3, 4, 4, 0, 0, 0), (55, .putfield 31, 3, 4, 4, 0, 0, 0), (58, .return_, 1, 0, 0, 0, 0, 0)]
def cm_X7_copyFrom : am_M := fun pc => cd_X7_copyFrom.lookup pc
def cd_X7_lacks : List (Nat × am_E) := [(0, .iload_n 1, 1, 0, 0, 0, 0, 0), (1, .ifCond .lt 11, 3, 12, 0, 0, 0, 0), (4, .iload_n 1, 1, 0, 0, 0, 0, 0), (5, .aload_n 0, 1, 0, 0, 0, 0, 0), (6, .getfield 27, 3, 4, 3, 0, 0, 0), (9, .if_icmp .lt 7, 3, 16, 0, 0, 0, 0), (12, .iconst 1, 1, 0, 0, 0, (1), 0), (13, .goto 4, 3, 17, 0, 0, 0, 0), (16, .iconst 0, 1, 0, 0, 0, (0), 0), (17, .ireturn, 1, 0, 0, 2, 0, 0)]
def cm_X7_lacks : am_M := fun pc => cd_X7_lacks.lookup pc
def cd_X7_lacksBead : List (Nat × am_E) := [(0, .aload_n 0, 1, 0, 0, 0, 0, 0), (1, .iload_n 1, 1, 0, 0, 0, 0, 0), (2, .invokevirtual 34, 3, 79, 2, 5, 0, 0), (5, .ifCond .ne 17, 3, 22, 0, 0, 0, 0), (8, .iload_n 2, 1, 0, 0, 0, 0, 0), (9, .ifCond .lt 13, 3, 22, 0, 0, 0, 0), (12, .iload_n 2, 1, 0, 0, 0, 0, 0), (13, .aload_n 0, 1, 0, 0, 0, 0, 0), (14, .getfield 15, 3, 4, 1, 0, 0, 0), (17, .iload_n 1, 1, 0, 0, 0, 0, 0), (18, .iaload, 1, 0, 0, 0, 0, 0), (19, .if_icmp .lt 7, 3, 26, 0, 0, 0, 0), (22, .iconst 1, 1, 0, 0, 0, (1), 0), (23, .goto 4, 3, 27, 0, 0, 0, 0), (26, .iconst 0, 1, 0, 0, 0, (0), 0), (27, .ireturn, 1, 0, 0, 2, 0, 0)]
def cm_X7_lacksBead : am_M := fun pc => cd_X7_lacksBead.lookup pc
def cd_X7_hasBeadsFor : List (Nat × am_E) := [(0, .iconst 0, 1, 0, 0, 0, (0), 0), (1, .istore_n 3, 1, 0, 0, 0, 0, 0), (2, .iload_n 3, 1, 0, 0, 0, 0, 0), (3, .iconst 4, 1, 0, 0, 0, (4), 0), (4, .if_icmp .ge 26, 3, 30, 0, 0, 0, 0), (7, .iload_n 3, 1, 0, 0, 0, 0, 0), (8, .iload_n 1, 1, 0, 0, 0, 0, 0), (9, .iload_n 2, 1, 0, 0, 0, 0, 0), (10, .invokestatic 38, 3, 14, 3, 0, 0, 0), (13, .aload_n 0, 1, 0, 0, 0, 0, 0), (14, .getfield 18, 3, 4, 2, 0, 0, 0), (17, .iload_n 3, 1, 0, 0, 0, 0, 0), (18, .iaload, 1, 0, 0, 0, 0, 0), (19, .if_icmp .le 5, 3, 24, 0, 0, 0, 0), (22, .iconst 0, 1, 0, 0, 0, (0), 0), (23, .ireturn, 1, 0, 0, 2, 0, 0), (24, .iinc 3 1, 3, 0, 0, 0, (1), 0), (27, .goto (-25), 3, 2, 0, 0, 0, 0), (30, .iconst 1, 1, 0, 0, 0, (1), 0), (31, .ireturn, 1, 0, 0, 2, 0, 0)]
def cm_X7_hasBeadsFor : am_M := fun pc => cd_X7_hasBeadsFor.lookup pc
def cd_X7_putBack : List (Nat × am_E) := [(0, .aload_n 0, 1, 0, 0, 0, 0, 0), (1, .getfield 18, 3, 4, 2, 0, 0, 0), (4, .iload_n 1, 1, 0, 0, 0, 0, 0), (5, .bipush 99, 2, 0, 0, 0, (99), 0), (7, .aload_n 0, 1, 0, 0, 0, 0, 0), (8, .getfield 18, 3, 4, 2, 0, 0, 0), (11, .iload_n 1, 1, 0, 0, 0, 0, 0), (12, .iaload, 1, 0, 0, 0, 0, 0), (13, .iload_n 2, 1, 0, 0, 0, 0, 0), (14, .iadd, 1, 0, 0, 0, 0, 0), (15, .invokestatic 44, 3, 325, 2, 0, 0, 0), (18, .iastore, 1, 0, 0, 0, 0, 0), (19, .return_, 1, 0, 0, 0, 0, 0)]
def cm_X7_putBack : am_M := fun pc => cd_X7_putBack.lookup pc
def cd_X7_stockFrom : List (Nat × am_E) := [(0, .iconst 0, 1, 0, 0, 0, (0), 0), (1, .istore 5, 2, 0, 0, 0, 0, 0), (3, .iload 5, 2, 0, 0, 0, 0, 0), (5, .iconst 4, 1, 0, 0, 0, (4), 0), (6, .if_icmp .ge 68, 3, 74, 0, 0, 0, 0), (9, .iload_n 3, 1, 0, 0, 0, 0, 0), (10, .iload 5, 2, 0, 0, 0, 0, 0), (12, .iload 4, 2, 0, 0, 0, 0, 0), (14, .imul, 1, 0, 0, 0, 0, 0), (15, .iadd, 1, 0, 0, 0, 0, 0), (16, .istore 6, 2, 0, 0, 0, 0, 0), (18, .iload_n 1, 1, 0, 0, 0, 0, 0), (19, .ifCond .ne 11, 3, 30, 0, 0, 0, 0), (22, .iload 6, 2, 0, 0, 0, 0, 0), (24, .i2b, 1, 0, 0, 0, 0, 0), (25, .istore 6, 2, 0, 0, 0, 0, 0), (27, .goto 13, 3, 40, 0, 0, 0, 0), (30, .iload_n 1, 1, 0, 0, 0, 0, 0), (31, .iconst 1, 1, 0, 0, 0, (1), 0), (32, .if_icmp .ne 8, 3, 40, 0, 0, 0, 0), (35, .iload 6, 2, 0, 0, 0, 0, 0), (37, .i2s, 1, 0, 0, 0, 0, 0), (38, .istore 6, 2, 0, 0, 0, 0, 0), (40, .aload_n 0, 1, 0, 0, 0, 0, 0), (41, .getfield 18, 3, 4, 2, 0, 0, 0), (44, .iload 5, 2, 0, 0, 0, 0, 0), (46, .iload 5, 2, 0, 0, 0, 0, 0), (48, .iload_n 2, 1, 0, 0, 0, 0, 0), (49, .if_icmp .ge 17, 3, 66, 0, 0, 0, 0), (52, .iconst 0, 1, 0, 0, 0, (0), 0), (53, .bipush 99, 2, 0, 0, 0, (99), 0), (55, .iload 6, 2, 0, 0, 0, 0, 0), (57, .invokestatic 44, 3, 325, 2, 0, 0, 0), (60, .invokestatic 50, 3, 324, 2, 0, 0, 0), (63, .goto 4, 3, 67, 0, 0, 0, 0), (66, .iconst 0, 1, 0, 0, 0, (0), 0), (67, .iastore, 1, 0, 0, 0, 0, 0), (68, .iinc 5 1, 3, 0, 0, 0, (1), 0), (71, .goto (-68), 3, 3, 0, 0, 0, 0), (74, .return_, 1, 0, 0, 0, 0, 0)]
def cm_X7_stockFrom : am_M := fun pc => cd_X7_stockFrom.lookup pc
def cd_X7_string : List (Nat × am_E) := [(0, .aload_n 0, 1, 0, 0, 0, 0, 0), (1, .getfield 27, 3, 4, 3, 0, 0, 0), (4, .iconst 5, 1, 0, 0, 0, (5), 0), (5, .if_icmp .lt 6, 3, 11, 0, 0, 0, 0), (8, .bipush (-100), 2, 0, 0, 0, (-100), 0), (10, .ireturn, 1, 0, 0, 0, 0, 0), (11, .aload_n 0, 1, 0, 0, 0, 0, 0), (12, .iload_n 1, 1, 0, 0, 0, 0, 0), (13, .iload_n 2, 1, 0, 0, 0, 0, 0), (14, .invokevirtual 53, 3, 81, 3, 5, 0, 0), (17, .ifCond .ne 6, 3, 23, 0, 0, 0, 0), (20, .bipush (-101), 2, 0, 0, 0, (-101), 0), (22, .ireturn, 1, 0, 0, 0, 0, 0), (23, .iconst 0, 1, 0, 0, 0, (0), 0), (24, .istore_n 3, 1, 0, 0, 0, 0, 0), (25, .iload_n 3, 1, 0, 0, 0, 0, 0), (26, .iconst 4, 1, 0, 0, 0, (4), 0), (27, .if_icmp .ge 24, 3, 51, 0, 0, 0, 0), (30, .aload_n 0, 1, 0, 0, 0, 0, 0), (31, .getfield 18, 3, 4, 2, 0, 0, 0), (34, .iload_n 3, 1, 0, 0, 0, 0, 0), (35, .dup2, 1, 0, 0, 0, 0, 0), (36, .iaload, 1, 0, 0, 0, 0, 0), (37, .iload_n 3, 1, 0, 0, 0, 0, 0), (38, .iload_n 1, 1, 0, 0, 0, 0, 0), (39, .iload_n 2, 1, 0, 0, 0, 0, 0), (40, .invokestatic 38, 3, 14, 3, 0, 0, 0), (43, .isub, 1, 0, 0, 0, 0, 0), (44, .iastore, 1, 0, 0, 0, 0, 0), (45, .iinc 3 1, 3, 0, 0, 0, (1), 0), (48, .goto (-23), 3, 25, 0, 0, 0, 0), (51, .aload_n 0, 1, 0, 0, 0, 0, 0), (52, .getfield 9, 3, 4, 0, 0, 0, 0), (55, .aload_n 0, 1, 0, 0, 0, 0, 0), (56, .getfield 27, 3, 4, 3, 0, 0, 0), (59, .iload_n 1, 1, 0, 0, 0, 0, 0), (60, .iastore, 1, 0, 0, 0, 0, 0), (61, .aload_n 0, 1, 0, 0, 0, 0, 0), (62, .getfield 15, 3, 4, 1, 0, 0, 0), (65, .aload_n 0, 1, 0, 0, 0, 0, 0), (66, .getfield 27, 3, 4, 3, 0, 0, 0), (69, .iload_n 2, 1, 0, 0, 0, 0, 0), (70, .iastore, 1, 0, 0, 0, 0, 0), (71, .aload_n 0, 1, 0, 0, 0, 0, 0), (72, .dup, 1, 0, 0, 0, 0, 0), (73, .getfield 27, 3, 4, 3, 0, 0, 0), (76, .iconst 1, 1, 0, 0, 0, (1), 0), (77, .iadd, 1, 0, 0, 0, 0, 0), (78, .putfield 27, 3, 4, 3, 0, 0, 0), (81, .aload_n 0, 1, 0, 0, 0, 0, 0), (82, .getfield 27, 3, 4, 3, 0, 0, 0), (85, .iconst 1, 1, 0, 0, 0, (1), 0), (86, .isub, 1, 0, 0, 0, 0, 0), (87, .ireturn, 1, 0, 0, 0, 0, 0)]
def cm_X7_string : am_M := fun pc => cd_X7_string.lookup pc
def cd_X7_roll : List (Nat × am_E) := [(0, .aload_n 0, 1, 0, 0, 0, 0, 0), (1, .iload_n 1, 1, 0, 0, 0, 0, 0), (2, .invokevirtual 34, 3, 79, 2, 5, 0, 0), (5, .ifCond .ne 13, 3, 18, 0, 0, 0, 0), (8, .iload_n 2, 1, 0, 0, 0, 0, 0), (9, .ifCond .lt 9, 3, 18, 0, 0, 0, 0), (12, .iload_n 2, 1, 0, 0, 0, 0, 0), (13, .bipush 99, 2, 0, 0, 0, (99), 0), (15, .if_icmp .le 5, 3, 20, 0, 0, 0, 0), (18, .iconst (-1), 1, 0, 0, 0, (-1), 0), (19, .ireturn, 1, 0, 0, 0, 0, 0), (20, .aload_n 0, 1, 0, 0, 0, 0, 0), (21, .getfield 9, 3, 4, 0, 0, 0, 0), (24, .iload_n 1, 1, 0, 0, 0, 0, 0), (25, .aload_n 0, 1, 0, 0, 0, 0, 0), (26, .getfield 9, 3, 4, 0, 0, 0, 0), (29, .iload_n 1, 1, 0, 0, 0, 0, 0), (30, .iaload, 1, 0, 0, 0, 0, 0), (31, .aload_n 0, 1, 0, 0, 0, 0, 0), (32, .getfield 15, 3, 4, 1, 0, 0, 0), (35, .iload_n 1, 1, 0, 0, 0, 0, 0), (36, .iaload, 1, 0, 0, 0, 0, 0), (37, .iload_n 2, 1, 0, 0, 0, 0, 0), (38, .invokestatic 57, 3, 4, 3, 0, 0, 0), (41, .iastore, 1, 0, 0, 0, 0, 0), (42, .aload_n 0, 1, 0, 0, 0, 0, 0), (43, .getfield 9, 3, 4, 0, 0, 0, 0), (46, .iload_n 1, 1, 0, 0, 0, 0, 0), (47, .iaload, 1, 0, 0, 0, 0, 0), (48, .aload_n 0, 1, 0, 0, 0, 0, 0), (49, .getfield 15, 3, 4, 1, 0, 0, 0), (52, .iload_n 1, 1, 0, 0, 0, 0, 0), (53, .iaload, 1, 0, 0, 0, 0, 0), (54, .iconst 0, 1, 0, 0, 0, (0), 0), (55, .invokestatic 60, 3, 2, 3, 0, 0, 0), (58, .ireturn, 1, 0, 0, 0, 0, 0)]
def cm_X7_roll : am_M := fun pc => cd_X7_roll.lookup pc
def cd_X7_flip : List (Nat × am_E) := [(0, .aload_n 0, 1, 0, 0, 0, 0, 0), (1, .iload_n 1, 1, 0, 0, 0, 0, 0), (2, .invokevirtual 34, 3, 79, 2, 5, 0, 0), (5, .ifCond .eq 5, 3, 10, 0, 0, 0, 0), (8, .iconst (-1), 1, 0, 0, 0, (-1), 0), (9, .ireturn, 1, 0, 0, 0, 0, 0), (10, .aload_n 0, 1, 0, 0, 0, 0, 0), (11, .getfield 9, 3, 4, 0, 0, 0, 0), (14, .iload_n 1, 1, 0, 0, 0, 0, 0), (15, .aload_n 0, 1, 0, 0, 0, 0, 0), (16, .getfield 9, 3, 4, 0, 0, 0, 0), (19, .iload_n 1, 1, 0, 0, 0, 0, 0), (20, .iaload, 1, 0, 0, 0, 0, 0), (21, .aload_n 0, 1, 0, 0, 0, 0, 0), (22, .getfield 15, 3, 4, 1, 0, 0, 0), (25, .iload_n 1, 1, 0, 0, 0, 0, 0), (26, .iaload, 1, 0, 0, 0, 0, 0), (27, .invokestatic 63, 3, 5, 2, 0, 0, 0), (30, .iastore, 1, 0, 0, 0, 0, 0), (31, .aload_n 0, 1, 0, 0, 0, 0, 0), (32, .getfield 9, 3, 4, 0, 0, 0, 0), (35, .iload_n 1, 1, 0, 0, 0, 0, 0), (36, .iaload, 1, 0, 0, 0, 0, 0), (37, .aload_n 0, 1, 0, 0, 0, 0, 0), (38, .getfield 15, 3, 4, 1, 0, 0, 0), (41, .iload_n 1, 1, 0, 0, 0, 0, 0), (42, .iaload, 1, 0, 0, 0, 0, 0), (43, .iconst 0, 1, 0, 0, 0, (0), 0), (44, .invokestatic 60, 3, 2, 3, 0, 0, 0), (47, .ireturn, 1, 0, 0, 0, 0, 0)]
def cm_X7_flip : am_M := fun pc => cd_X7_flip.lookup pc
def cd_X7_swap : List (Nat × am_E) := [(0, .aload_n 0, 1, 0, 0, 0, 0, 0), (1, .iload_n 1, 1, 0, 0, 0, 0, 0), (2, .iload_n 2, 1, 0, 0, 0, 0, 0), (3, .invokevirtual 66, 3, 80, 3, 5, 0, 0), (6, .ifCond .eq 5, 3, 11, 0, 0, 0, 0), (9, .iconst (-1), 1, 0, 0, 0, (-1), 0), (10, .ireturn, 1, 0, 0, 0, 0, 0), (11, .aload_n 0, 1, 0, 0, 0, 0, 0), (12, .getfield 15, 3, 4, 1, 0, 0, 0), (15, .iload_n 1, 1, 0, 0, 0, 0, 0), (16, .iaload, 1, 0, 0, 0, 0, 0), (17, .istore_n 3, 1, 0, 0, 0, 0, 0), (18, .iload_n 2, 1, 0, 0, 0, 0, 0), (19, .iconst 1, 1, 0, 0, 0, (1), 0), (20, .iadd, 1, 0, 0, 0, 0, 0), (21, .iload_n 3, 1, 0, 0, 0, 0, 0), (22, .if_icmp .ge 9, 3, 31, 0, 0, 0, 0), (25, .iload_n 2, 1, 0, 0, 0, 0, 0), (26, .iconst 1, 1, 0, 0, 0, (1), 0), (27, .iadd, 1, 0, 0, 0, 0, 0), (28, .goto 4, 3, 32, 0, 0, 0, 0), (31, .iconst 0, 1, 0, 0, 0, (0), 0), (32, .istore 4, 2, 0, 0, 0, 0, 0), (34, .aload_n 0, 1, 0, 0, 0, 0, 0), (35, .getfield 9, 3, 4, 0, 0, 0, 0), (38, .iload_n 1, 1, 0, 0, 0, 0, 0), (39, .iaload, 1, 0, 0, 0, 0, 0), (40, .iload_n 3, 1, 0, 0, 0, 0, 0), (41, .iload_n 2, 1, 0, 0, 0, 0, 0), (42, .invokestatic 60, 3, 2, 3, 0, 0, 0), (45, .istore 5, 2, 0, 0, 0, 0, 0), (47, .aload_n 0, 1, 0, 0, 0, 0, 0), (48, .getfield 9, 3, 4, 0, 0, 0, 0), (51, .iload_n 1, 1, 0, 0, 0, 0, 0), (52, .iaload, 1, 0, 0, 0, 0, 0), (53, .iload_n 3, 1, 0, 0, 0, 0, 0), (54, .iload 4, 2, 0, 0, 0, 0, 0), (56, .invokestatic 60, 3, 2, 3, 0, 0, 0), (59, .istore 6, 2, 0, 0, 0, 0, 0), (61, .iload 5, 2, 0, 0, 0, 0, 0), (63, .iload 6, 2, 0, 0, 0, 0, 0), (65, .if_icmp .ne 6, 3, 71, 0, 0, 0, 0), (68, .bipush (-2), 2, 0, 0, 0, (-2), 0), (70, .ireturn, 1, 0, 0, 0, 0, 0), (71, .aload_n 0, 1, 0, 0, 0, 0, 0), (72, .getfield 9, 3, 4, 0, 0, 0, 0), (75, .iload_n 1, 1, 0, 0, 0, 0, 0), (76, .aload_n 0, 1, 0, 0, 0, 0, 0), (77, .getfield 9, 3, 4, 0, 0, 0, 0), (80, .iload_n 1, 1, 0, 0, 0, 0, 0), (81, .iaload, 1, 0, 0, 0, 0, 0), (82, .iload_n 3, 1, 0, 0, 0, 0, 0), (83, .iload_n 2, 1, 0, 0, 0, 0, 0), (84, .iload 6, 2, 0, 0, 0, 0, 0), (86, .invokestatic 69, 3, 3, 4, 0, 0, 0), (89, .iload_n 3, 1, 0, 0, 0, 0, 0), (90, .iload 4, 2, 0, 0, 0, 0, 0), (92, .iload 5, 2, 0, 0, 0, 0, 0), (94, .invokestatic 69, 3, 3, 4, 0, 0, 0), (97, .iastore, 1, 0, 0, 0, 0, 0), (98, .bipush 10, 2, 0, 0, 0, (10), 0), (100, .iload 6, 2, 0, 0, 0, 0, 0), (102, .imul, 1, 0, 0, 0, 0, 0), (103, .iload 5, 2, 0, 0, 0, 0, 0), (105, .iadd, 1, 0, 0, 0, 0, 0), (106, .ireturn, 1, 0, 0, 0, 0, 0)]
def cm_X7_swap : am_M := fun pc => cd_X7_swap.lookup pc
def cd_X7_thread : List (Nat × am_E) := [(0, .aload_n 0, 1, 0, 0, 0, 0, 0), (1, .iload_n 1, 1, 0, 0, 0, 0, 0), (2, .invokevirtual 34, 3, 79, 2, 5, 0, 0), (5, .ifCond .ne 24, 3, 29, 0, 0, 0, 0), (8, .iload_n 2, 1, 0, 0, 0, 0, 0), (9, .ifCond .lt 20, 3, 29, 0, 0, 0, 0), (12, .iload_n 2, 1, 0, 0, 0, 0, 0), (13, .aload_n 0, 1, 0, 0, 0, 0, 0), (14, .getfield 15, 3, 4, 1, 0, 0, 0), (17, .iload_n 1, 1, 0, 0, 0, 0, 0), (18, .iaload, 1, 0, 0, 0, 0, 0), (19, .if_icmp .gt 10, 3, 29, 0, 0, 0, 0), (22, .iload_n 3, 1, 0, 0, 0, 0, 0), (23, .invokestatic 73, 3, 0, 1, 0, 0, 0), (26, .ifCond .eq 5, 3, 31, 0, 0, 0, 0), (29, .iconst (-1), 1, 0, 0, 0, (-1), 0), (30, .ireturn, 1, 0, 0, 0, 0, 0), (31, .aload_n 0, 1, 0, 0, 0, 0, 0), (32, .getfield 15, 3, 4, 1, 0, 0, 0), (35, .iload_n 1, 1, 0, 0, 0, 0, 0), (36, .iaload, 1, 0, 0, 0, 0, 0), (37, .bipush 10, 2, 0, 0, 0, (10), 0), (39, .if_icmp .lt 6, 3, 45, 0, 0, 0, 0), (42, .bipush (-2), 2, 0, 0, 0, (-2), 0), (44, .ireturn, 1, 0, 0, 0, 0, 0), (45, .aload_n 0, 1, 0, 0, 0, 0, 0), (46, .getfield 18, 3, 4, 2, 0, 0, 0), (49, .iload_n 3, 1, 0, 0, 0, 0, 0), (50, .iaload, 1, 0, 0, 0, 0, 0), (51, .ifCond .ne 6, 3, 57, 0, 0, 0, 0), (54, .bipush (-3), 2, 0, 0, 0, (-3), 0), (56, .ireturn, 1, 0, 0, 0, 0, 0), (57, .aload_n 0, 1, 0, 0, 0, 0, 0), (58, .getfield 15, 3, 4, 1, 0, 0, 0), (61, .iload_n 1, 1, 0, 0, 0, 0, 0), (62, .iaload, 1, 0, 0, 0, 0, 0), (63, .iload_n 2, 1, 0, 0, 0, 0, 0), (64, .isub, 1, 0, 0, 0, 0, 0), (65, .istore 4, 2, 0, 0, 0, 0, 0), (67, .aload_n 0, 1, 0, 0, 0, 0, 0), (68, .getfield 9, 3, 4, 0, 0, 0, 0), (71, .iload_n 1, 1, 0, 0, 0, 0, 0), (72, .iaload, 1, 0, 0, 0, 0, 0), (73, .iconst 2, 1, 0, 0, 0, (2), 0), (74, .iload 4, 2, 0, 0, 0, 0, 0), (76, .imul, 1, 0, 0, 0, 0, 0), (77, .ishr, 1, 0, 0, 0, 0, 0), (78, .iconst 2, 1, 0, 0, 0, (2), 0), (79, .ishl, 1, 0, 0, 0, 0, 0), (80, .iload_n 3, 1, 0, 0, 0, 0, 0), (81, .ior, 1, 0, 0, 0, 0, 0), (82, .istore 5, 2, 0, 0, 0, 0, 0), (84, .aload_n 0, 1, 0, 0, 0, 0, 0), (85, .getfield 9, 3, 4, 0, 0, 0, 0), (88, .iload_n 1, 1, 0, 0, 0, 0, 0), (89, .iload 5, 2, 0, 0, 0, 0, 0), (91, .iconst 2, 1, 0, 0, 0, (2), 0), (92, .iload 4, 2, 0, 0, 0, 0, 0), (94, .imul, 1, 0, 0, 0, 0, 0), (95, .ishl, 1, 0, 0, 0, 0, 0), (96, .aload_n 0, 1, 0, 0, 0, 0, 0), (97, .getfield 9, 3, 4, 0, 0, 0, 0), (100, .iload_n 1, 1, 0, 0, 0, 0, 0), (101, .iaload, 1, 0, 0, 0, 0, 0), (102, .iload 4, 2, 0, 0, 0, 0, 0), (104, .invokestatic 76, 3, 1, 1, 0, 0, 0), (107, .iand, 1, 0, 0, 0, 0, 0), (108, .ior, 1, 0, 0, 0, 0, 0), (109, .iastore, 1, 0, 0, 0, 0, 0), (110, .aload_n 0, 1, 0, 0, 0, 0, 0), (111, .getfield 18, 3, 4, 2, 0, 0, 0), (114, .iload_n 3, 1, 0, 0, 0, 0, 0), (115, .dup2, 1, 0, 0, 0, 0, 0), (116, .iaload, 1, 0, 0, 0, 0, 0), (117, .iconst 1, 1, 0, 0, 0, (1), 0), (118, .isub, 1, 0, 0, 0, 0, 0), (119, .iastore, 1, 0, 0, 0, 0, 0), (120, .aload_n 0, 1, 0, 0, 0, 0, 0), (121, .getfield 15, 3, 4, 1, 0, 0, 0), (124, .iload_n 1, 1, 0, 0, 0, 0, 0), (125, .dup2, 1, 0, 0, 0, 0, 0), (126, .iaload, 1, 0, 0, 0, 0, 0), (127, .iconst 1, 1, 0, 0, 0, (1), 0), (128, .iadd, 1, 0, 0, 0, 0, 0), (129, .iastore, 1, 0, 0, 0, 0, 0), (130, .aload_n 0, 1, 0, 0, 0, 0, 0), (131, .getfield 15, 3, 4, 1, 0, 0, 0), (134, .iload_n 1, 1, 0, 0, 0, 0, 0), (135, .iaload, 1, 0, 0, 0, 0, 0), (136, .ireturn, 1, 0, 0, 0, 0, 0)]
def cm_X7_thread : am_M := fun pc => cd_X7_thread.lookup pc
def cd_X7_cut : List (Nat × am_E) := [(0, .aload_n 0, 1, 0, 0, 0, 0, 0), (1, .iload_n 1, 1, 0, 0, 0, 0, 0), (2, .iload_n 2, 1, 0, 0, 0, 0, 0), (3, .invokevirtual 66, 3, 80, 3, 5, 0, 0), (6, .ifCond .eq 5, 3, 11, 0, 0, 0, 0), (9, .iconst (-1), 1, 0, 0, 0, (-1), 0), (10, .ireturn, 1, 0, 0, 0, 0, 0), (11, .aload_n 0, 1, 0, 0, 0, 0, 0), (12, .getfield 15, 3, 4, 1, 0, 0, 0), (15, .iload_n 1, 1, 0, 0, 0, 0, 0), (16, .iaload, 1, 0, 0, 0, 0, 0), (17, .iconst 1, 1, 0, 0, 0, (1), 0), (18, .if_icmp .ne 6, 3, 24, 0, 0, 0, 0), (21, .bipush (-2), 2, 0, 0, 0, (-2), 0), (23, .ireturn, 1, 0, 0, 0, 0, 0), (24, .aload_n 0, 1, 0, 0, 0, 0, 0), (25, .getfield 9, 3, 4, 0, 0, 0, 0), (28, .iload_n 1, 1, 0, 0, 0, 0, 0), (29, .iaload, 1, 0, 0, 0, 0, 0), (30, .aload_n 0, 1, 0, 0, 0, 0, 0), (31, .getfield 15, 3, 4, 1, 0, 0, 0), (34, .iload_n 1, 1, 0, 0, 0, 0, 0), (35, .iaload, 1, 0, 0, 0, 0, 0), (36, .iload_n 2, 1, 0, 0, 0, 0, 0), (37, .invokestatic 60, 3, 2, 3, 0, 0, 0), (40, .istore_n 3, 1, 0, 0, 0, 0, 0), (41, .aload_n 0, 1, 0, 0, 0, 0, 0), (42, .getfield 15, 3, 4, 1, 0, 0, 0), (45, .iload_n 1, 1, 0, 0, 0, 0, 0), (46, .iaload, 1, 0, 0, 0, 0, 0), (47, .iconst 1, 1, 0, 0, 0, (1), 0), (48, .isub, 1, 0, 0, 0, 0, 0), (49, .iload_n 2, 1, 0, 0, 0, 0, 0), (50, .isub, 1, 0, 0, 0, 0, 0), (51, .istore 4, 2, 0, 0, 0, 0, 0), (53, .aload_n 0, 1, 0, 0, 0, 0, 0), (54, .getfield 9, 3, 4, 0, 0, 0, 0), (57, .iload_n 1, 1, 0, 0, 0, 0, 0), (58, .iaload, 1, 0, 0, 0, 0, 0), (59, .iconst 2, 1, 0, 0, 0, (2), 0), (60, .iload 4, 2, 0, 0, 0, 0, 0), (62, .iconst 1, 1, 0, 0, 0, (1), 0), (63, .iadd, 1, 0, 0, 0, 0, 0), (64, .imul, 1, 0, 0, 0, 0, 0), (65, .ishr, 1, 0, 0, 0, 0, 0), (66, .istore 5, 2, 0, 0, 0, 0, 0), (68, .aload_n 0, 1, 0, 0, 0, 0, 0), (69, .getfield 9, 3, 4, 0, 0, 0, 0), (72, .iload_n 1, 1, 0, 0, 0, 0, 0), (73, .iload 5, 2, 0, 0, 0, 0, 0), (75, .iconst 2, 1, 0, 0, 0, (2), 0), (76, .iload 4, 2, 0, 0, 0, 0, 0), (78, .imul, 1, 0, 0, 0, 0, 0), (79, .ishl, 1, 0, 0, 0, 0, 0), (80, .aload_n 0, 1, 0, 0, 0, 0, 0), (81, .getfield 9, 3, 4, 0, 0, 0, 0), (84, .iload_n 1, 1, 0, 0, 0, 0, 0), (85, .iaload, 1, 0, 0, 0, 0, 0), (86, .iload 4, 2, 0, 0, 0, 0, 0), (88, .invokestatic 76, 3, 1, 1, 0, 0, 0), (91, .iand, 1, 0, 0, 0, 0, 0), (92, .ior, 1, 0, 0, 0, 0, 0), (93, .iastore, 1, 0, 0, 0, 0, 0), (94, .aload_n 0, 1, 0, 0, 0, 0, 0), (95, .getfield 15, 3, 4, 1, 0, 0, 0), (98, .iload_n 1, 1, 0, 0, 0, 0, 0), (99, .dup2, 1, 0, 0, 0, 0, 0), (100, .iaload, 1, 0, 0, 0, 0, 0), (101, .iconst 1, 1, 0, 0, 0, (1), 0), (102, .isub, 1, 0, 0, 0, 0, 0), (103, .iastore, 1, 0, 0, 0, 0, 0), (104, .aload_n 0, 1, 0, 0, 0, 0, 0), (105, .iload_n 3, 1, 0, 0, 0, 0, 0), (106, .iconst 1, 1, 0, 0, 0, (1), 0), (107, .invokevirtual 80, 3, 82, 3, 5, 0, 0), (110, .iload_n 3, 1, 0, 0, 0, 0, 0), (111, .ireturn, 1, 0, 0, 0, 0, 0)]
def cm_X7_cut : am_M := fun pc => cd_X7_cut.lookup pc
def cd_X7_join : List (Nat × am_E) := [(0, .aload_n 0, 1, 0, 0, 0, 0, 0), (1, .iload_n 1, 1, 0, 0, 0, 0, 0), (2, .invokevirtual 34, 3, 79, 2, 5, 0, 0), (5, .ifCond .ne 16, 3, 21, 0, 0, 0, 0), (8, .aload_n 0, 1, 0, 0, 0, 0, 0), (9, .iload_n 2, 1, 0, 0, 0, 0, 0), (10, .invokevirtual 34, 3, 79, 2, 5, 0, 0), (13, .ifCond .ne 8, 3, 21, 0, 0, 0, 0), (16, .iload_n 1, 1, 0, 0, 0, 0, 0), (17, .iload_n 2, 1, 0, 0, 0, 0, 0), (18, .if_icmp .ne 5, 3, 23, 0, 0, 0, 0), (21, .iconst (-1), 1, 0, 0, 0, (-1), 0), (22, .ireturn, 1, 0, 0, 0, 0, 0), (23, .aload_n 0, 1, 0, 0, 0, 0, 0), (24, .getfield 15, 3, 4, 1, 0, 0, 0), (27, .iload_n 1, 1, 0, 0, 0, 0, 0), (28, .iaload, 1, 0, 0, 0, 0, 0), (29, .aload_n 0, 1, 0, 0, 0, 0, 0), (30, .getfield 15, 3, 4, 1, 0, 0, 0), (33, .iload_n 2, 1, 0, 0, 0, 0, 0), (34, .iaload, 1, 0, 0, 0, 0, 0), (35, .iadd, 1, 0, 0, 0, 0, 0), (36, .istore_n 3, 1, 0, 0, 0, 0, 0), (37, .iload_n 3, 1, 0, 0, 0, 0, 0), (38, .bipush 10, 2, 0, 0, 0, (10), 0), (40, .if_icmp .le 6, 3, 46, 0, 0, 0, 0), (43, .bipush (-2), 2, 0, 0, 0, (-2), 0), (45, .ireturn, 1, 0, 0, 0, 0, 0), (46, .aload_n 0, 1, 0, 0, 0, 0, 0), (47, .getfield 9, 3, 4, 0, 0, 0, 0), (50, .iload_n 1, 1, 0, 0, 0, 0, 0), (51, .aload_n 0, 1, 0, 0, 0, 0, 0), (52, .getfield 9, 3, 4, 0, 0, 0, 0), (55, .iload_n 1, 1, 0, 0, 0, 0, 0), (56, .iaload, 1, 0, 0, 0, 0, 0), (57, .iconst 2, 1, 0, 0, 0, (2), 0), (58, .aload_n 0, 1, 0, 0, 0, 0, 0), (59, .getfield 15, 3, 4, 1, 0, 0, 0), (62, .iload_n 2, 1, 0, 0, 0, 0, 0), (63, .iaload, 1, 0, 0, 0, 0, 0), (64, .imul, 1, 0, 0, 0, 0, 0), (65, .ishl, 1, 0, 0, 0, 0, 0), (66, .aload_n 0, 1, 0, 0, 0, 0, 0), (67, .getfield 9, 3, 4, 0, 0, 0, 0), (70, .iload_n 2, 1, 0, 0, 0, 0, 0), (71, .iaload, 1, 0, 0, 0, 0, 0), (72, .ior, 1, 0, 0, 0, 0, 0), (73, .iastore, 1, 0, 0, 0, 0, 0), (74, .aload_n 0, 1, 0, 0, 0, 0, 0), (75, .getfield 15, 3, 4, 1, 0, 0, 0), (78, .iload_n 1, 1, 0, 0, 0, 0, 0), (79, .iload_n 3, 1, 0, 0, 0, 0, 0), (80, .iastore, 1, 0, 0, 0, 0, 0), (81, .aload_n 0, 1, 0, 0, 0, 0, 0), (82, .iload_n 2, 1, 0, 0, 0, 0, 0), (83, .invokevirtual 84, 3, 94, 2, 5, 0, 0), (86, .iload_n 3, 1, 0, 0, 0, 0, 0), (87, .ireturn, 1, 0, 0, 0, 0, 0)]
def cm_X7_join : am_M := fun pc => cd_X7_join.lookup pc
def cd_X7_part : List (Nat × am_E) := [(0, .aload_n 0, 1, 0, 0, 0, 0, 0), (1, .iload_n 1, 1, 0, 0, 0, 0, 0), (2, .invokevirtual 34, 3, 79, 2, 5, 0, 0), (5, .ifCond .eq 5, 3, 10, 0, 0, 0, 0), (8, .iconst (-1), 1, 0, 0, 0, (-1), 0), (9, .ireturn, 1, 0, 0, 0, 0, 0), (10, .aload_n 0, 1, 0, 0, 0, 0, 0), (11, .getfield 15, 3, 4, 1, 0, 0, 0), (14, .iload_n 1, 1, 0, 0, 0, 0, 0), (15, .iaload, 1, 0, 0, 0, 0, 0), (16, .istore_n 2, 1, 0, 0, 0, 0, 0), (17, .iconst 0, 1, 0, 0, 0, (0), 0), (18, .istore_n 3, 1, 0, 0, 0, 0, 0), (19, .iload_n 3, 1, 0, 0, 0, 0, 0), (20, .iconst 4, 1, 0, 0, 0, (4), 0), (21, .if_icmp .ge 25, 3, 46, 0, 0, 0, 0), (24, .aload_n 0, 1, 0, 0, 0, 0, 0), (25, .iload_n 3, 1, 0, 0, 0, 0, 0), (26, .iload_n 3, 1, 0, 0, 0, 0, 0), (27, .aload_n 0, 1, 0, 0, 0, 0, 0), (28, .getfield 9, 3, 4, 0, 0, 0, 0), (31, .iload_n 1, 1, 0, 0, 0, 0, 0), (32, .iaload, 1, 0, 0, 0, 0, 0), (33, .iload_n 2, 1, 0, 0, 0, 0, 0), (34, .invokestatic 38, 3, 14, 3, 0, 0, 0), (37, .invokevirtual 80, 3, 82, 3, 5, 0, 0), (40, .iinc 3 1, 3, 0, 0, 0, (1), 0), (43, .goto (-24), 3, 19, 0, 0, 0, 0), (46, .aload_n 0, 1, 0, 0, 0, 0, 0), (47, .iload_n 1, 1, 0, 0, 0, 0, 0), (48, .invokevirtual 84, 3, 94, 2, 5, 0, 0), (51, .iload_n 2, 1, 0, 0, 0, 0, 0), (52, .ireturn, 1, 0, 0, 0, 0, 0)]
def cm_X7_part : am_M := fun pc => cd_X7_part.lookup pc
def cd_X7_sell : List (Nat × am_E) := [(0, .aload_n 0, 1, 0, 0, 0, 0, 0), (1, .iload_n 1, 1, 0, 0, 0, 0, 0), (2, .invokevirtual 34, 3, 79, 2, 5, 0, 0), (5, .ifCond .eq 5, 3, 10, 0, 0, 0, 0), (8, .iconst (-1), 1, 0, 0, 0, (-1), 0), (9, .ireturn, 1, 0, 0, 0, 0, 0), (10, .aload_n 0, 1, 0, 0, 0, 0, 0), (11, .iload_n 1, 1, 0, 0, 0, 0, 0), (12, .aload_n 2, 1, 0, 0, 0, 0, 0), (13, .invokevirtual 88, 3, 99, 3, 5, 0, 0), (16, .istore_n 3, 1, 0, 0, 0, 0, 0), (17, .aload_n 0, 1, 0, 0, 0, 0, 0), (18, .sipush 9999, 3, 0, 0, 0, (9999), 0), (21, .aload_n 0, 1, 0, 0, 0, 0, 0), (22, .getfield 31, 3, 4, 4, 0, 0, 0), (25, .iload_n 3, 1, 0, 0, 0, 0, 0), (26, .iadd, 1, 0, 0, 0, 0, 0), (27, .invokestatic 44, 3, 325, 2, 0, 0, 0), (30, .putfield 31, 3, 4, 4, 0, 0, 0), (33, .aload_n 0, 1, 0, 0, 0, 0, 0), (34, .iload_n 1, 1, 0, 0, 0, 0, 0), (35, .invokevirtual 84, 3, 94, 2, 5, 0, 0), (38, .iload_n 3, 1, 0, 0, 0, 0, 0), (39, .ireturn, 1, 0, 0, 0, 0, 0)]
def cm_X7_sell : am_M := fun pc => cd_X7_sell.lookup pc
def cd_X7_buy : List (Nat × am_E) := [(0, .iload_n 1, 1, 0, 0, 0, 0, 0), (1, .invokestatic 73, 3, 0, 1, 0, 0, 0), (4, .ifCond .ne 14, 3, 18, 0, 0, 0, 0), (7, .iload_n 2, 1, 0, 0, 0, 0, 0), (8, .iconst 1, 1, 0, 0, 0, (1), 0), (9, .if_icmp .lt 9, 3, 18, 0, 0, 0, 0), (12, .iload_n 2, 1, 0, 0, 0, 0, 0), (13, .bipush 9, 2, 0, 0, 0, (9), 0), (15, .if_icmp .le 5, 3, 20, 0, 0, 0, 0), (18, .iconst (-1), 1, 0, 0, 0, (-1), 0), (19, .ireturn, 1, 0, 0, 0, 0, 0), (20, .aload_n 0, 1, 0, 0, 0, 0, 0), (21, .getfield 31, 3, 4, 4, 0, 0, 0), (24, .iload_n 2, 1, 0, 0, 0, 0, 0), (25, .if_icmp .ge 6, 3, 31, 0, 0, 0, 0), (28, .bipush (-2), 2, 0, 0, 0, (-2), 0), (30, .ireturn, 1, 0, 0, 0, 0, 0), (31, .aload_n 0, 1, 0, 0, 0, 0, 0), (32, .getfield 18, 3, 4, 2, 0, 0, 0), (35, .iload_n 1, 1, 0, 0, 0, 0, 0), (36, .iaload, 1, 0, 0, 0, 0, 0), (37, .iload_n 2, 1, 0, 0, 0, 0, 0), (38, .iadd, 1, 0, 0, 0, 0, 0), (39, .bipush 99, 2, 0, 0, 0, (99), 0), (41, .if_icmp .le 6, 3, 47, 0, 0, 0, 0), (44, .bipush (-3), 2, 0, 0, 0, (-3), 0), (46, .ireturn, 1, 0, 0, 0, 0, 0), (47, .aload_n 0, 1, 0, 0, 0, 0, 0), (48, .dup, 1, 0, 0, 0, 0, 0), (49, .getfield 31, 3, 4, 4, 0, 0, 0), (52, .iload_n 2, 1, 0, 0, 0, 0, 0), (53, .isub, 1, 0, 0, 0, 0, 0), (54, .putfield 31, 3, 4, 4, 0, 0, 0), (57, .aload_n 0, 1, 0, 0, 0, 0, 0), (58, .getfield 18, 3, 4, 2, 0, 0, 0), (61, .iload_n 1, 1, 0, 0, 0, 0, 0), (62, .dup2, 1, 0, 0, 0, 0, 0), (63, .iaload, 1, 0, 0, 0, 0, 0), (64, .iload_n 2, 1, 0, 0, 0, 0, 0), (65, .iadd, 1, 0, 0, 0, 0, 0), (66, .iastore, 1, 0, 0, 0, 0, 0), (67, .aload_n 0, 1, 0, 0, 0, 0, 0), (68, .getfield 18, 3, 4, 2, 0, 0, 0), (71, .iload_n 1, 1, 0, 0, 0, 0, 0), (72, .iaload, 1, 0, 0, 0, 0, 0), (73, .ireturn, 1, 0, 0, 0, 0, 0)]
def cm_X7_buy : am_M := fun pc => cd_X7_buy.lookup pc
def cd_X7_drop : List (Nat × am_E) := [(0, .iload_n 1, 1, 0, 0, 0, 0, 0), (1, .istore_n 2, 1, 0, 0, 0, 0, 0), (2, .iload_n 2, 1, 0, 0, 0, 0, 0), (3, .iconst 1, 1, 0, 0, 0, (1), 0), (4, .iadd, 1, 0, 0, 0, 0, 0), (5, .aload_n 0, 1, 0, 0, 0, 0, 0), (6, .getfield 27, 3, 4, 3, 0, 0, 0), (9, .if_icmp .ge 37, 3, 46, 0, 0, 0, 0), (12, .aload_n 0, 1, 0, 0, 0, 0, 0), (13, .getfield 9, 3, 4, 0, 0, 0, 0), (16, .iload_n 2, 1, 0, 0, 0, 0, 0), (17, .aload_n 0, 1, 0, 0, 0, 0, 0), (18, .getfield 9, 3, 4, 0, 0, 0, 0), (21, .iload_n 2, 1, 0, 0, 0, 0, 0), (22, .iconst 1, 1, 0, 0, 0, (1), 0), (23, .iadd, 1, 0, 0, 0, 0, 0), (24, .iaload, 1, 0, 0, 0, 0, 0), (25, .iastore, 1, 0, 0, 0, 0, 0), (26, .aload_n 0, 1, 0, 0, 0, 0, 0), (27, .getfield 15, 3, 4, 1, 0, 0, 0), (30, .iload_n 2, 1, 0, 0, 0, 0, 0), (31, .aload_n 0, 1, 0, 0, 0, 0, 0), (32, .getfield 15, 3, 4, 1, 0, 0, 0), (35, .iload_n 2, 1, 0, 0, 0, 0, 0), (36, .iconst 1, 1, 0, 0, 0, (1), 0), (37, .iadd, 1, 0, 0, 0, 0, 0), (38, .iaload, 1, 0, 0, 0, 0, 0), (39, .iastore, 1, 0, 0, 0, 0, 0), (40, .iinc 2 1, 3, 0, 0, 0, (1), 0), (43, .goto (-41), 3, 2, 0, 0, 0, 0), (46, .aload_n 0, 1, 0, 0, 0, 0, 0), (47, .dup, 1, 0, 0, 0, 0, 0), (48, .getfield 27, 3, 4, 3, 0, 0, 0), (51, .iconst 1, 1, 0, 0, 0, (1), 0), (52, .isub, 1, 0, 0, 0, 0, 0), (53, .putfield 27, 3, 4, 3, 0, 0, 0), (56, .return_, 1, 0, 0, 0, 0, 0)]
def cm_X7_drop : am_M := fun pc => cd_X7_drop.lookup pc
def cd_X7_leastRow : List (Nat × am_E) := [(0, .aload_n 0, 1, 0, 0, 0, 0, 0), (1, .getfield 9, 3, 4, 0, 0, 0, 0), (4, .iload_n 1, 1, 0, 0, 0, 0, 0), (5, .iaload, 1, 0, 0, 0, 0, 0), (6, .aload_n 0, 1, 0, 0, 0, 0, 0), (7, .getfield 15, 3, 4, 1, 0, 0, 0), (10, .iload_n 1, 1, 0, 0, 0, 0, 0), (11, .iaload, 1, 0, 0, 0, 0, 0), (12, .invokestatic 92, 3, 8, 2, 0, 0, 0), (15, .ireturn, 1, 0, 0, 0, 0, 0)]
def cm_X7_leastRow : am_M := fun pc => cd_X7_leastRow.lookup pc
def cd_X7_othersAlike : List (Nat × am_E) := [(0, .aload_n 0, 1, 0, 0, 0, 0, 0), (1, .iload_n 1, 1, 0, 0, 0, 0, 0), (2, .invokevirtual 95, 3, 95, 2, 5, 0, 0), (5, .istore_n 2, 1, 0, 0, 0, 0, 0), (6, .iconst 0, 1, 0, 0, 0, (0), 0), (7, .istore_n 3, 1, 0, 0, 0, 0, 0), (8, .iconst 0, 1, 0, 0, 0, (0), 0), (9, .istore 4, 2, 0, 0, 0, 0, 0), (11, .iload 4, 2, 0, 0, 0, 0, 0), (13, .aload_n 0, 1, 0, 0, 0, 0, 0), (14, .getfield 27, 3, 4, 3, 0, 0, 0), (17, .if_icmp .ge 44, 3, 61, 0, 0, 0, 0), (20, .iload 4, 2, 0, 0, 0, 0, 0), (22, .iload_n 1, 1, 0, 0, 0, 0, 0), (23, .if_icmp .eq 32, 3, 55, 0, 0, 0, 0), (26, .aload_n 0, 1, 0, 0, 0, 0, 0), (27, .getfield 15, 3, 4, 1, 0, 0, 0), (30, .iload 4, 2, 0, 0, 0, 0, 0), (32, .iaload, 1, 0, 0, 0, 0, 0), (33, .aload_n 0, 1, 0, 0, 0, 0, 0), (34, .getfield 15, 3, 4, 1, 0, 0, 0), (37, .iload_n 1, 1, 0, 0, 0, 0, 0), (38, .iaload, 1, 0, 0, 0, 0, 0), (39, .if_icmp .ne 16, 3, 55, 0, 0, 0, 0), (42, .aload_n 0, 1, 0, 0, 0, 0, 0), (43, .iload 4, 2, 0, 0, 0, 0, 0), (45, .invokevirtual 95, 3, 95, 2, 5, 0, 0), (48, .iload_n 2, 1, 0, 0, 0, 0, 0), (49, .if_icmp .ne 6, 3, 55, 0, 0, 0, 0), (52, .iinc 3 1, 3, 0, 0, 0, (1), 0), (55, .iinc 4 1, 3, 0, 0, 0, (1), 0), (58, .goto (-47), 3, 11, 0, 0, 0, 0), (61, .iload_n 3, 1, 0, 0, 0, 0, 0), (62, .ireturn, 1, 0, 0, 0, 0, 0)]
def cm_X7_othersAlike : am_M := fun pc => cd_X7_othersAlike.lookup pc
def cd_X7_firstAlike : List (Nat × am_E) := [(0, .aload_n 0, 1, 0, 0, 0, 0, 0), (1, .iload_n 1, 1, 0, 0, 0, 0, 0), (2, .invokevirtual 95, 3, 95, 2, 5, 0, 0), (5, .istore_n 2, 1, 0, 0, 0, 0, 0), (6, .iconst 0, 1, 0, 0, 0, (0), 0), (7, .istore_n 3, 1, 0, 0, 0, 0, 0), (8, .iload_n 3, 1, 0, 0, 0, 0, 0), (9, .iload_n 1, 1, 0, 0, 0, 0, 0), (10, .if_icmp .ge 35, 3, 45, 0, 0, 0, 0), (13, .aload_n 0, 1, 0, 0, 0, 0, 0), (14, .getfield 15, 3, 4, 1, 0, 0, 0), (17, .iload_n 3, 1, 0, 0, 0, 0, 0), (18, .iaload, 1, 0, 0, 0, 0, 0), (19, .aload_n 0, 1, 0, 0, 0, 0, 0), (20, .getfield 15, 3, 4, 1, 0, 0, 0), (23, .iload_n 1, 1, 0, 0, 0, 0, 0), (24, .iaload, 1, 0, 0, 0, 0, 0), (25, .if_icmp .ne 14, 3, 39, 0, 0, 0, 0), (28, .aload_n 0, 1, 0, 0, 0, 0, 0), (29, .iload_n 3, 1, 0, 0, 0, 0, 0), (30, .invokevirtual 95, 3, 95, 2, 5, 0, 0), (33, .iload_n 2, 1, 0, 0, 0, 0, 0), (34, .if_icmp .ne 5, 3, 39, 0, 0, 0, 0), (37, .iload_n 3, 1, 0, 0, 0, 0, 0), (38, .ireturn, 1, 0, 0, 0, 0, 0), (39, .iinc 3 1, 3, 0, 0, 0, (1), 0), (42, .goto (-34), 3, 8, 0, 0, 0, 0), (45, .iload_n 1, 1, 0, 0, 0, 0, 0), (46, .ireturn, 1, 0, 0, 0, 0, 0)]
def cm_X7_firstAlike : am_M := fun pc => cd_X7_firstAlike.lookup pc
def cd_X7_kindNumber : List (Nat × am_E) := [(0, .iconst 0, 1, 0, 0, 0, (0), 0), (1, .istore_n 1, 1, 0, 0, 0, 0, 0), (2, .iconst 0, 1, 0, 0, 0, (0), 0), (3, .istore_n 2, 1, 0, 0, 0, 0, 0), (4, .iload_n 2, 1, 0, 0, 0, 0, 0), (5, .aload_n 0, 1, 0, 0, 0, 0, 0), (6, .getfield 27, 3, 4, 3, 0, 0, 0), (9, .if_icmp .ge 21, 3, 30, 0, 0, 0, 0), (12, .aload_n 0, 1, 0, 0, 0, 0, 0), (13, .iload_n 2, 1, 0, 0, 0, 0, 0), (14, .invokevirtual 97, 3, 97, 2, 5, 0, 0), (17, .iload_n 2, 1, 0, 0, 0, 0, 0), (18, .if_icmp .ne 6, 3, 24, 0, 0, 0, 0), (21, .iinc 1 1, 3, 0, 0, 0, (1), 0), (24, .iinc 2 1, 3, 0, 0, 0, (1), 0), (27, .goto (-23), 3, 4, 0, 0, 0, 0), (30, .iload_n 1, 1, 0, 0, 0, 0, 0), (31, .ireturn, 1, 0, 0, 0, 0, 0)]
def cm_X7_kindNumber : am_M := fun pc => cd_X7_kindNumber.lookup pc
def cd_X7_priceOf : List (Nat × am_E) := [(0, .aload_n 2, 1, 0, 0, 0, 0, 0), (1, .aload_n 0, 1, 0, 0, 0, 0, 0), (2, .getfield 9, 3, 4, 0, 0, 0, 0), (5, .iload_n 1, 1, 0, 0, 0, 0, 0), (6, .iaload, 1, 0, 0, 0, 0, 0), (7, .aload_n 0, 1, 0, 0, 0, 0, 0), (8, .getfield 15, 3, 4, 1, 0, 0, 0), (11, .iload_n 1, 1, 0, 0, 0, 0, 0), (12, .iaload, 1, 0, 0, 0, 0, 0), (13, .aload_n 0, 1, 0, 0, 0, 0, 0), (14, .iload_n 1, 1, 0, 0, 0, 0, 0), (15, .invokevirtual 100, 3, 96, 2, 5, 0, 0), (18, .invokevirtual 103, 3, 74, 4, 4, 0, 0), (21, .ireturn, 1, 0, 0, 0, 0, 0)]
def cm_X7_priceOf : am_M := fun pc => cd_X7_priceOf.lookup pc
def cd_X7_pricesOfAll : List (Nat × am_E) := [(0, .iconst 0, 1, 0, 0, 0, (0), 0), (1, .istore_n 2, 1, 0, 0, 0, 0, 0), (2, .iconst 0, 1, 0, 0, 0, (0), 0), (3, .istore_n 3, 1, 0, 0, 0, 0, 0), (4, .iload_n 3, 1, 0, 0, 0, 0, 0), (5, .aload_n 0, 1, 0, 0, 0, 0, 0), (6, .getfield 27, 3, 4, 3, 0, 0, 0), (9, .if_icmp .ge 18, 3, 27, 0, 0, 0, 0), (12, .iload_n 2, 1, 0, 0, 0, 0, 0), (13, .aload_n 0, 1, 0, 0, 0, 0, 0), (14, .iload_n 3, 1, 0, 0, 0, 0, 0), (15, .aload_n 1, 1, 0, 0, 0, 0, 0), (16, .invokevirtual 88, 3, 99, 3, 5, 0, 0), (19, .iadd, 1, 0, 0, 0, 0, 0), (20, .istore_n 2, 1, 0, 0, 0, 0, 0), (21, .iinc 3 1, 3, 0, 0, 0, (1), 0), (24, .goto (-20), 3, 4, 0, 0, 0, 0), (27, .iload_n 2, 1, 0, 0, 0, 0, 0), (28, .ireturn, 1, 0, 0, 0, 0, 0)]
def cm_X7_pricesOfAll : am_M := fun pc => cd_X7_pricesOfAll.lookup pc
def cd_X7_beadsOfAll : List (Nat × am_E) := [(0, .iconst 0, 1, 0, 0, 0, (0), 0), (1, .istore_n 1, 1, 0, 0, 0, 0, 0), (2, .iconst 0, 1, 0, 0, 0, (0), 0), (3, .istore_n 2, 1, 0, 0, 0, 0, 0), (4, .iload_n 2, 1, 0, 0, 0, 0, 0), (5, .aload_n 0, 1, 0, 0, 0, 0, 0), (6, .getfield 27, 3, 4, 3, 0, 0, 0), (9, .if_icmp .ge 18, 3, 27, 0, 0, 0, 0), (12, .iload_n 1, 1, 0, 0, 0, 0, 0), (13, .aload_n 0, 1, 0, 0, 0, 0, 0), (14, .getfield 15, 3, 4, 1, 0, 0, 0), (17, .iload_n 2, 1, 0, 0, 0, 0, 0), (18, .iaload, 1, 0, 0, 0, 0, 0), (19, .iadd, 1, 0, 0, 0, 0, 0), (20, .istore_n 1, 1, 0, 0, 0, 0, 0), (21, .iinc 2 1, 3, 0, 0, 0, (1), 0), (24, .goto (-20), 3, 4, 0, 0, 0, 0), (27, .iload_n 1, 1, 0, 0, 0, 0, 0), (28, .ireturn, 1, 0, 0, 0, 0, 0)]
def cm_X7_beadsOfAll : am_M := fun pc => cd_X7_beadsOfAll.lookup pc
def cd_X7_stockOfAll : List (Nat × am_E) := [(0, .iconst 0, 1, 0, 0, 0, (0), 0), (1, .istore_n 1, 1, 0, 0, 0, 0, 0), (2, .iconst 0, 1, 0, 0, 0, (0), 0), (3, .istore_n 2, 1, 0, 0, 0, 0, 0), (4, .iload_n 2, 1, 0, 0, 0, 0, 0), (5, .iconst 4, 1, 0, 0, 0, (4), 0), (6, .if_icmp .ge 18, 3, 24, 0, 0, 0, 0), (9, .iload_n 1, 1, 0, 0, 0, 0, 0), (10, .aload_n 0, 1, 0, 0, 0, 0, 0), (11, .getfield 18, 3, 4, 2, 0, 0, 0), (14, .iload_n 2, 1, 0, 0, 0, 0, 0), (15, .iaload, 1, 0, 0, 0, 0, 0), (16, .iadd, 1, 0, 0, 0, 0, 0), (17, .istore_n 1, 1, 0, 0, 0, 0, 0), (18, .iinc 2 1, 3, 0, 0, 0, (1), 0), (21, .goto (-17), 3, 4, 0, 0, 0, 0), (24, .iload_n 1, 1, 0, 0, 0, 0, 0), (25, .ireturn, 1, 0, 0, 0, 0, 0)]
def cm_X7_stockOfAll : am_M := fun pc => cd_X7_stockOfAll.lookup pc
def cd_X8_init : List (Nat × am_E) := [(0, .aload_n 0, 1, 0, 0, 0, 0, 0), (1, .invokespecial 3, 3, 904, 1, 0, 0, 0), (4, .aload_n 0, 1, 0, 0, 0, 0, 0), (5, .bipush 80, 2, 0, 0, 0, (80), 0), (7, .newarray .char, 2, 0, 0, 0, 0, 0), (9, .putfield 9, 3, 5, 0, 1, 0, 0), (12, .return_, 1, 0, 0, 0, 0, 0)]
def cm_X8_init : am_M := fun pc => cd_X8_init.lookup pc
def cd_X8_size : List (Nat × am_E) := [(0, .aload_n 0, 1, 0, 0, 0, 0, 0), (1, .getfield 15, 3, 5, 1, 0, 0, 0), (4, .ireturn, 1, 0, 0, 0, 0, 0)]
def cm_X8_size : am_M := fun pc => cd_X8_size.lookup pc
def cd_X8_signAt : List (Nat × am_E) := [(0, .iload_n 1, 1, 0, 0, 0, 0, 0), (1, .ifCond .lt 20, 3, 21, 0, 0, 0, 0), (4, .iload_n 1, 1, 0, 0, 0, 0, 0), (5, .aload_n 0, 1, 0, 0, 0, 0, 0), (6, .getfield 15, 3, 5, 1, 0, 0, 0), (9, .if_icmp .ge 12, 3, 21, 0, 0, 0, 0), (12, .aload_n 0, 1, 0, 0, 0, 0, 0), (13, .getfield 9, 3, 5, 0, 0, 0, 0), (16, .iload_n 1, 1, 0, 0, 0, 0, 0), (17, .caload, 1, 0, 0, 0, 0, 0), (18, .goto 4, 3, 22, 0, 0, 0, 0), (21, .iconst 0, 1, 0, 0, 0, (0), 0), (22, .ireturn, 1, 0, 0, 3, 0, 0)]
def cm_X8_signAt : am_M := fun pc => cd_X8_signAt.lookup pc
def cd_X8_append : List (Nat × am_E) := [(0, .aload_n 0, 1, 0, 0, 0, 0, 0), (1, .getfield 15, 3, 5, 1, 0, 0, 0), (4, .iconst 4, 1, 0, 0, 0, (4), 0), (5, .iadd, 1, 0, 0, 0, 0, 0), (6, .bipush 80, 2, 0, 0, 0, (80), 0), (8, .if_icmp .le 5, 3, 13, 0, 0, 0, 0), (11, .iconst (-1), 1, 0, 0, 0, (-1), 0), (12, .ireturn, 1, 0, 0, 0, 0, 0), (13, .bipush 24, 2, 0, 0, 0, (24), 0), (15, .istore_n 2, 1, 0, 0, 0, 0, 0), (16, .iload_n 2, 1, 0, 0, 0, 0, 0), (17, .ifCond .lt 36, 3, 53, 0, 0, 0, 0), (20, .aload_n 0, 1, 0, 0, 0, 0, 0), (21, .getfield 9, 3, 5, 0, 0, 0, 0), (24, .aload_n 0, 1, 0, 0, 0, 0, 0), (25, .getfield 15, 3, 5, 1, 0, 0, 0), (28, .iload_n 1, 1, 0, 0, 0, 0, 0), (29, .iload_n 2, 1, 0, 0, 0, 0, 0), (30, .iushr, 1, 0, 0, 0, 0, 0), (31, .sipush 255, 3, 0, 0, 0, (255), 0), (34, .iand, 1, 0, 0, 0, 0, 0), (35, .i2c, 1, 0, 0, 0, 0, 0), (36, .castore, 1, 0, 0, 0, 0, 0), (37, .aload_n 0, 1, 0, 0, 0, 0, 0), (38, .dup, 1, 0, 0, 0, 0, 0), (39, .getfield 15, 3, 5, 1, 0, 0, 0), (42, .iconst 1, 1, 0, 0, 0, (1), 0), (43, .iadd, 1, 0, 0, 0, 0, 0), (44, .putfield 15, 3, 5, 1, 0, 0, 0), (47, .iinc 2 (-8), 3, 0, 0, 0, (-8), 0), (50, .goto (-34), 3, 16, 0, 0, 0, 0), (53, .aload_n 0, 1, 0, 0, 0, 0, 0), (54, .getfield 15, 3, 5, 1, 0, 0, 0), (57, .ireturn, 1, 0, 0, 0, 0, 0)]
def cm_X8_append : am_M := fun pc => cd_X8_append.lookup pc
def cd_X8_shorten : List (Nat × am_E) := [(0, .iload_n 1, 1, 0, 0, 0, 0, 0), (1, .ifCond .lt 11, 3, 12, 0, 0, 0, 0), (4, .iload_n 1, 1, 0, 0, 0, 0, 0), (5, .aload_n 0, 1, 0, 0, 0, 0, 0), (6, .getfield 15, 3, 5, 1, 0, 0, 0), (9, .if_icmp .le 5, 3, 14, 0, 0, 0, 0), (12, .iconst 0, 1, 0, 0, 0, (0), 0), (13, .ireturn, 1, 0, 0, 2, 0, 0), (14, .aload_n 0, 1, 0, 0, 0, 0, 0), (15, .iload_n 1, 1, 0, 0, 0, 0, 0), (16, .putfield 15, 3, 5, 1, 0, 0, 0), (19, .iconst 1, 1, 0, 0, 0, (1), 0), (20, .ireturn, 1, 0, 0, 2, 0, 0)]
def cm_X8_shorten : am_M := fun pc => cd_X8_shorten.lookup pc
def cd_X8_empty : List (Nat × am_E) := [(0, .aload_n 0, 1, 0, 0, 0, 0, 0), (1, .iconst 0, 1, 0, 0, 0, (0), 0), (2, .putfield 15, 3, 5, 1, 0, 0, 0), (5, .return_, 1, 0, 0, 0, 0, 0)]
def cm_X8_empty : am_M := fun pc => cd_X8_empty.lookup pc
def cd_X8_takeWord : List (Nat × am_E) := [(0, .aload_n 0, 1, 0, 0, 0, 0, 0), (1, .getfield 15, 3, 5, 1, 0, 0, 0), (4, .istore_n 1, 1, 0, 0, 0, 0, 0), (5, .aload_n 0, 1, 0, 0, 0, 0, 0), (6, .iconst 0, 1, 0, 0, 0, (0), 0), (7, .putfield 15, 3, 5, 1, 0, 0, 0), (10, .aload_n 0, 1, 0, 0, 0, 0, 0), (11, .iconst 0, 1, 0, 0, 0, (0), 0), (12, .putfield 19, 3, 5, 2, 0, 0, 0), (15, .aload_n 0, 1, 0, 0, 0, 0, 0), (16, .iload_n 1, 1, 0, 0, 0, 0, 0), (17, .putfield 22, 3, 5, 3, 0, 0, 0), (20, .iconst 0, 1, 0, 0, 0, (0), 0), (21, .istore_n 2, 1, 0, 0, 0, 0, 0), (22, .iload_n 2, 1, 0, 0, 0, 0, 0), (23, .iload_n 1, 1, 0, 0, 0, 0, 0), (24, .if_icmp .ge 48, 3, 72, 0, 0, 0, 0), (27, .iload_n 2, 1, 0, 0, 0, 0, 0), (28, .bipush 10, 2, 0, 0, 0, (10), 0), (30, .if_icmp .ge 42, 3, 72, 0, 0, 0, 0), (33, .aload_n 0, 1, 0, 0, 0, 0, 0), (34, .getfield 9, 3, 5, 0, 0, 0, 0), (37, .iload_n 2, 1, 0, 0, 0, 0, 0), (38, .caload, 1, 0, 0, 0, 0, 0), (39, .bipush 97, 2, 0, 0, 0, (97), 0), (41, .isub, 1, 0, 0, 0, 0, 0), (42, .istore_n 3, 1, 0, 0, 0, 0, 0), (43, .iload_n 3, 1, 0, 0, 0, 0, 0), (44, .invokestatic 25, 3, 0, 1, 0, 0, 0), (47, .ifCond .eq 7, 3, 54, 0, 0, 0, 0), (50, .iconst (-1), 1, 0, 0, 0, (-1), 0), (51, .iload_n 2, 1, 0, 0, 0, 0, 0), (52, .isub, 1, 0, 0, 0, 0, 0), (53, .ireturn, 1, 0, 0, 0, 0, 0), (54, .aload_n 0, 1, 0, 0, 0, 0, 0), (55, .aload_n 0, 1, 0, 0, 0, 0, 0), (56, .getfield 19, 3, 5, 2, 0, 0, 0), (59, .iconst 2, 1, 0, 0, 0, (2), 0), (60, .ishl, 1, 0, 0, 0, 0, 0), (61, .iload_n 3, 1, 0, 0, 0, 0, 0), (62, .ior, 1, 0, 0, 0, 0, 0), (63, .putfield 19, 3, 5, 2, 0, 0, 0), (66, .iinc 2 1, 3, 0, 0, 0, (1), 0), (69, .goto (-47), 3, 22, 0, 0, 0, 0), (72, .iload_n 1, 1, 0, 0, 0, 0, 0), (73, .ifCond .ne 5, 3, 78, 0, 0, 0, 0), (76, .iconst (-1), 1, 0, 0, 0, (-1), 0), (77, .ireturn, 1, 0, 0, 0, 0, 0), (78, .iload_n 1, 1, 0, 0, 0, 0, 0), (79, .bipush 10, 2, 0, 0, 0, (10), 0), (81, .if_icmp .le 8, 3, 89, 0, 0, 0, 0), (84, .bipush (-11), 2, 0, 0, 0, (-11), 0), (86, .goto 4, 3, 90, 0, 0, 0, 0), (89, .iconst 0, 1, 0, 0, 0, (0), 0), (90, .ireturn, 1, 0, 0, 0, 0, 0)]
def cm_X8_takeWord : am_M := fun pc => cd_X8_takeWord.lookup pc
def cd_X9_init : List (Nat × am_E) := [(0, .aload_n 0, 1, 0, 0, 0, 0, 0), (1, .invokespecial 3, 3, 904, 1, 0, 0, 0), (4, .aload_n 0, 1, 0, 0, 0, 0, 0), (5, .bipush 16, 2, 0, 0, 0, (16), 0), (7, .newarray .int, 2, 0, 0, 0, 0, 0), (9, .putfield 9, 3, 6, 0, 1, 0, 0), (12, .return_, 1, 0, 0, 0, 0, 0)]
def cm_X9_init : am_M := fun pc => cd_X9_init.lookup pc
def cd_X9_begin : List (Nat × am_E) := [(0, .aload_n 0, 1, 0, 0, 0, 0, 0), (1, .iconst 0, 1, 0, 0, 0, (0), 0), (2, .putfield 15, 3, 6, 1, 0, 0, 0), (5, .return_, 1, 0, 0, 0, 0, 0)]
def cm_X9_begin : am_M := fun pc => cd_X9_begin.lookup pc
def cd_X9_add : List (Nat × am_E) := [(0, .aload_n 0, 1, 0, 0, 0, 0, 0), (1, .getfield 15, 3, 6, 1, 0, 0, 0), (4, .bipush 16, 2, 0, 0, 0, (16), 0), (6, .if_icmp .ge 23, 3, 29, 0, 0, 0, 0), (9, .aload_n 0, 1, 0, 0, 0, 0, 0), (10, .getfield 9, 3, 6, 0, 0, 0, 0), (13, .aload_n 0, 1, 0, 0, 0, 0, 0), (14, .getfield 15, 3, 6, 1, 0, 0, 0), (17, .iload_n 1, 1, 0, 0, 0, 0, 0), (18, .iastore, 1, 0, 0, 0, 0, 0), (19, .aload_n 0, 1, 0, 0, 0, 0, 0), (20, .dup, 1, 0, 0, 0, 0, 0), (21, .getfield 15, 3, 6, 1, 0, 0, 0), (24, .iconst 1, 1, 0, 0, 0, (1), 0), (25, .iadd, 1, 0, 0, 0, 0, 0), (26, .putfield 15, 3, 6, 1, 0, 0, 0), (29, .return_, 1, 0, 0, 0, 0, 0)]
def cm_X9_add : am_M := fun pc => cd_X9_add.lookup pc
def cd_X9_addRow : List (Nat × am_E) := [(0, .iconst 0, 1, 0, 0, 0, (0), 0), (1, .istore_n 3, 1, 0, 0, 0, 0, 0), (2, .iload_n 3, 1, 0, 0, 0, 0, 0), (3, .iload_n 2, 1, 0, 0, 0, 0, 0), (4, .if_icmp .ge 19, 3, 23, 0, 0, 0, 0), (7, .aload_n 0, 1, 0, 0, 0, 0, 0), (8, .iload_n 1, 1, 0, 0, 0, 0, 0), (9, .iload_n 2, 1, 0, 0, 0, 0, 0), (10, .iload_n 3, 1, 0, 0, 0, 0, 0), (11, .invokestatic 19, 3, 2, 3, 0, 0, 0), (14, .invokevirtual 25, 3, 112, 2, 7, 0, 0), (17, .iinc 3 1, 3, 0, 0, 0, (1), 0), (20, .goto (-18), 3, 2, 0, 0, 0, 0), (23, .return_, 1, 0, 0, 0, 0, 0)]
def cm_X9_addRow : am_M := fun pc => cd_X9_addRow.lookup pc
def cd_X10_init : List (Nat × am_E) := [(0, .aload_n 0, 1, 0, 0, 0, 0, 0), (1, .invokespecial 1, 3, 904, 1, 0, 0, 0), (4, .aload_n 0, 1, 0, 0, 0, 0, 0), (5, .new 7, 3, 4, 0, 0, 0, 0), (8, .dup, 1, 0, 0, 0, 0, 0), (9, .invokespecial 9, 3, 77, 1, 5, 0, 0), (12, .putfield 10, 3, 7, 0, 1, 0, 0), (15, .aload_n 0, 1, 0, 0, 0, 0, 0), (16, .new 7, 3, 4, 0, 0, 0, 0), (19, .dup, 1, 0, 0, 0, 0, 0), (20, .invokespecial 9, 3, 77, 1, 5, 0, 0), (23, .putfield 16, 3, 7, 1, 1, 0, 0), (26, .aload_n 0, 1, 0, 0, 0, 0, 0), (27, .new 19, 3, 2, 0, 0, 0, 0), (30, .dup, 1, 0, 0, 0, 0, 0), (31, .invokespecial 21, 3, 57, 1, 3, 0, 0), (34, .putfield 22, 3, 7, 2, 1, 0, 0), (37, .aload_n 0, 1, 0, 0, 0, 0, 0), (38, .new 26, 3, 5, 0, 0, 0, 0), (41, .dup, 1, 0, 0, 0, 0, 0), (42, .invokespecial 28, 3, 103, 1, 6, 0, 0), (45, .putfield 29, 3, 7, 3, 1, 0, 0), (48, .aload_n 0, 1, 0, 0, 0, 0, 0), (49, .new 33, 3, 6, 0, 0, 0, 0), (52, .dup, 1, 0, 0, 0, 0, 0), (53, .invokespecial 35, 3, 110, 1, 7, 0, 0), (56, .putfield 36, 3, 7, 4, 1, 0, 0), (59, .aload_n 0, 1, 0, 0, 0, 0, 0), (60, .new 40, 3, 1, 0, 0, 0, 0), (63, .dup, 1, 0, 0, 0, 0, 0), (64, .invokespecial 42, 3, 49, 1, 2, 0, 0), (67, .putfield 43, 3, 7, 5, 1, 0, 0), (70, .aload_n 0, 1, 0, 0, 0, 0, 0), (71, .new 47, 3, 0, 0, 0, 0, 0), (74, .dup, 1, 0, 0, 0, 0, 0), (75, .bipush 10, 2, 0, 0, 0, (10), 0), (77, .invokespecial 49, 3, 22, 2, 1, 0, 0), (80, .putfield 52, 3, 7, 6, 1, 0, 0), (83, .aload_n 0, 1, 0, 0, 0, 0, 0), (84, .new 47, 3, 0, 0, 0, 0, 0), (87, .dup, 1, 0, 0, 0, 0, 0), (88, .bipush 12, 2, 0, 0, 0, (12), 0), (90, .invokespecial 49, 3, 22, 2, 1, 0, 0), (93, .putfield 56, 3, 7, 7, 1, 0, 0), (96, .aload_n 0, 1, 0, 0, 0, 0, 0), (97, .iconst 4, 1, 0, 0, 0, (4), 0), (98, .newarray .int, 2, 0, 0, 0, 0, 0), (100, .putfield 59, 3, 7, 8, 1, 0, 0), (103, .aload_n 0, 1, 0, 0, 0, 0, 0), (104, .iconst 5, 1, 0, 0, 0, (5), 0), (105, .newarray .int, 2, 0, 0, 0, 0, 0), (107, .putfield 63, 3, 7, 9, 1, 0, 0), (110, .aload_n 0, 1, 0, 0, 0, 0, 0), (111, .new 66, 3, 3, 0, 0, 0, 0), (114, .dup, 1, 0, 0, 0, 0, 0), (115, .invokespecial 68, 3, 63, 1, 4, 0, 0), (118, .putfield 69, 3, 7, 10, 1, 0, 0), (121, .aload_n 0, 1, 0, 0, 0, 0, 0), (122, .new 66, 3, 3, 0, 0, 0, 0), (125, .dup, 1, 0, 0, 0, 0, 0), (126, .invokespecial 68, 3, 63, 1, 4, 0, 0), (129, .putfield 73, 3, 7, 11, 1, 0, 0), (132, .iconst 0, 1, 0, 0, 0, (0), 0), (133, .istore_n 1, 1, 0, 0, 0, 0, 0), (134, .iload_n 1, 1, 0, 0, 0, 0, 0), (135, .iconst 4, 1, 0, 0, 0, (4), 0), (136, .if_icmp .ge 20, 3, 156, 0, 0, 0, 0), (139, .aload_n 0, 1, 0, 0, 0, 0, 0), (140, .getfield 10, 3, 7, 0, 0, 0, 0), (143, .getfield 76, 3, 4, 2, 0, 0, 0), (146, .iload_n 1, 1, 0, 0, 0, 0, 0), (147, .bipush 12, 2, 0, 0, 0, (12), 0), (149, .iastore, 1, 0, 0, 0, 0, 0), (150, .iinc 1 1, 3, 0, 0, 0, (1), 0), (153, .goto (-19), 3, 134, 0, 0, 0, 0), (156, .return_, 1, 0, 0, 0, 0, 0)]
def cm_X10_init : am_M := fun pc => cd_X10_init.lookup pc
def cd_X10_sign : List (Nat × am_E) := [(0, .aload_n 0, 1, 0, 0, 0, 0, 0), (1, .getfield 29, 3, 7, 3, 0, 0, 0), (4, .iload_n 1, 1, 0, 0, 0, 0, 0), (5, .invokevirtual 79, 3, 106, 2, 6, 0, 0), (8, .ireturn, 1, 0, 0, 0, 0, 0)]
def cm_X10_sign : am_M := fun pc => cd_X10_sign.lookup pc
def cd_X10_end : List (Nat × am_E) := [(0, .aload_n 0, 1, 0, 0, 0, 0, 0), (1, .getfield 29, 3, 7, 3, 0, 0, 0), (4, .iload_n 1, 1, 0, 0, 0, 0, 0), (5, .invokevirtual 83, 3, 107, 2, 6, 0, 0), (8, .ireturn, 1, 0, 0, 2, 0, 0)]
def cm_X10_end : am_M := fun pc => cd_X10_end.lookup pc
def cd_X10_strings : List (Nat × am_E) := [(0, .aload_n 0, 1, 0, 0, 0, 0, 0), (1, .getfield 29, 3, 7, 3, 0, 0, 0), (4, .invokevirtual 87, 3, 109, 1, 6, 0, 0), (7, .istore_n 1, 1, 0, 0, 0, 0, 0), (8, .iload_n 1, 1, 0, 0, 0, 0, 0), (9, .ifCond .ge 5, 3, 14, 0, 0, 0, 0), (12, .iload_n 1, 1, 0, 0, 0, 0, 0), (13, .ireturn, 1, 0, 0, 0, 0, 0), (14, .aload_n 0, 1, 0, 0, 0, 0, 0), (15, .getfield 22, 3, 7, 2, 0, 0, 0), (18, .aload_n 0, 1, 0, 0, 0, 0, 0), (19, .getfield 10, 3, 7, 0, 0, 0, 0), (22, .invokevirtual 91, 3, 58, 2, 3, 0, 0), (25, .aload_n 0, 1, 0, 0, 0, 0, 0), (26, .getfield 22, 3, 7, 2, 0, 0, 0), (29, .aload_n 0, 1, 0, 0, 0, 0, 0), (30, .getfield 10, 3, 7, 0, 0, 0, 0), (33, .aload_n 0, 1, 0, 0, 0, 0, 0), (34, .getfield 29, 3, 7, 3, 0, 0, 0), (37, .getfield 95, 3, 5, 2, 0, 0, 0), (40, .aload_n 0, 1, 0, 0, 0, 0, 0), (41, .getfield 29, 3, 7, 3, 0, 0, 0), (44, .getfield 99, 3, 5, 3, 0, 0, 0), (47, .invokevirtual 102, 3, 84, 3, 5, 0, 0), (50, .invokevirtual 106, 3, 59, 2, 3, 0, 0), (53, .ireturn, 1, 0, 0, 0, 0, 0)]
def cm_X10_strings : am_M := fun pc => cd_X10_strings.lookup pc
def cd_X10_rule : List (Nat × am_E) := [(0, .aload_n 0, 1, 0, 0, 0, 0, 0), (1, .getfield 73, 3, 7, 11, 0, 0, 0), (4, .aload_n 0, 1, 0, 0, 0, 0, 0), (5, .getfield 29, 3, 7, 3, 0, 0, 0), (8, .invokevirtual 109, 3, 64, 2, 4, 0, 0), (11, .istore_n 1, 1, 0, 0, 0, 0, 0), (12, .aload_n 0, 1, 0, 0, 0, 0, 0), (13, .getfield 29, 3, 7, 3, 0, 0, 0), (16, .invokevirtual 113, 3, 108, 1, 6, 0, 0), (19, .iload_n 1, 1, 0, 0, 0, 0, 0), (20, .ifCond .lt 7, 3, 27, 0, 0, 0, 0), (23, .iconst (-1), 1, 0, 0, 0, (-1), 0), (24, .iload_n 1, 1, 0, 0, 0, 0, 0), (25, .isub, 1, 0, 0, 0, 0, 0), (26, .ireturn, 1, 0, 0, 0, 0, 0), (27, .aload_n 0, 1, 0, 0, 0, 0, 0), (28, .getfield 69, 3, 7, 10, 0, 0, 0), (31, .astore_n 2, 1, 0, 0, 0, 0, 0), (32, .aload_n 0, 1, 0, 0, 0, 0, 0), (33, .aload_n 0, 1, 0, 0, 0, 0, 0), (34, .getfield 73, 3, 7, 11, 0, 0, 0), (37, .putfield 69, 3, 7, 10, 1, 0, 0), (40, .aload_n 0, 1, 0, 0, 0, 0, 0), (41, .aload_n 2, 1, 0, 0, 0, 0, 0), (42, .putfield 73, 3, 7, 11, 1, 0, 0), (45, .iconst 0, 1, 0, 0, 0, (0), 0), (46, .ireturn, 1, 0, 0, 0, 0, 0)]
def cm_X10_rule : am_M := fun pc => cd_X10_rule.lookup pc
def cd_X10_bracelet : List (Nat × am_E) := [(0, .aload_n 0, 1, 0, 0, 0, 0, 0), (1, .getfield 10, 3, 7, 0, 0, 0, 0), (4, .iload_n 1, 1, 0, 0, 0, 0, 0), (5, .invokevirtual 116, 3, 79, 2, 5, 0, 0), (8, .ifCond .eq 13, 3, 21, 0, 0, 0, 0), (11, .new 119, 3, 0, 1, 0, 0, 0), (21, .aload_n 0, 1, 0, 0, 0, 0, 0), (22, .getfield 10, 3, 7, 0, 0, 0, 0), (25, .getfield 126, 3, 4, 0, 0, 0, 0), (28, .iload_n 1, 1, 0, 0, 0, 0, 0), (29, .iaload, 1, 0, 0, 0, 0, 0), (30, .istore_n 3, 1, 0, 0, 0, 0, 0), (31, .aload_n 0, 1, 0, 0, 0, 0, 0), (32, .getfield 10, 3, 7, 0, 0, 0, 0), (35, .getfield 129, 3, 4, 1, 0, 0, 0), (38, .iload_n 1, 1, 0, 0, 0, 0, 0), (39, .iaload, 1, 0, 0, 0, 0, 0), (40, .istore 4, 2, 0, 0, 0, 0, 0), (42, .iload_n 2, 1, 0, 0, 0, 0, 0), (43, .tableswitch 83 0 5 #[37, 40, 47, 54, 61, 74], 37, 0, 0, 0, 0, 0), (80, .iload 4, 2, 0, 0, 0, 0, 0), (82, .ireturn, 1, 0, 0, 0, 0, 0), (83, .iload_n 3, 1, 0, 0, 0, 0, 0), (84, .iload 4, 2, 0, 0, 0, 0, 0), (86, .invokestatic 132, 3, 15, 2, 0, 0, 0), (89, .ireturn, 1, 0, 0, 0, 0, 0), (90, .iload_n 3, 1, 0, 0, 0, 0, 0), (91, .iload 4, 2, 0, 0, 0, 0, 0), (93, .invokestatic 137, 3, 11, 2, 0, 0, 0), (96, .ireturn, 1, 0, 0, 0, 0, 0), (97, .iload_n 3, 1, 0, 0, 0, 0, 0), (98, .iload 4, 2, 0, 0, 0, 0, 0), (100, .invokestatic 140, 3, 12, 2, 0, 0, 0), (103, .ireturn, 1, 0, 0, 0, 0, 0), (104, .aload_n 0, 1, 0, 0, 0, 0, 0), (105, .getfield 10, 3, 7, 0, 0, 0, 0), (108, .iload_n 1, 1, 0, 0, 0, 0, 0), (109, .aload_n 0, 1, 0, 0, 0, 0, 0), (110, .getfield 69, 3, 7, 10, 0, 0, 0), (113, .invokevirtual 143, 3, 99, 3, 5, 0, 0), (116, .ireturn, 1, 0, 0, 0, 0, 0), (117, .aload_n 0, 1, 0, 0, 0, 0, 0), (118, .getfield 10, 3, 7, 0, 0, 0, 0), (121, .iload_n 1, 1, 0, 0, 0, 0, 0), (122, .invokevirtual 147, 3, 96, 2, 5, 0, 0), (125, .ireturn, 1, 0, 0, 0, 0, 0), (126, .new 119, 3, 0, 1, 0, 0, 0)]
def cm_X10_bracelet : am_M := fun pc => cd_X10_bracelet.lookup pc
def cd_X10_bead : List (Nat × am_E) := [(0, .aload_n 0, 1, 0, 0, 0, 0, 0), (1, .getfield 10, 3, 7, 0, 0, 0, 0), (4, .iload_n 1, 1, 0, 0, 0, 0, 0), (5, .iload_n 2, 1, 0, 0, 0, 0, 0), (6, .invokevirtual 152, 3, 80, 3, 5, 0, 0), (9, .ifCond .eq 13, 3, 22, 0, 0, 0, 0), (12, .new 119, 3, 0, 1, 0, 0, 0), (22, .aload_n 0, 1, 0, 0, 0, 0, 0), (23, .getfield 10, 3, 7, 0, 0, 0, 0), (26, .getfield 126, 3, 4, 0, 0, 0, 0), (29, .iload_n 1, 1, 0, 0, 0, 0, 0), (30, .iaload, 1, 0, 0, 0, 0, 0), (31, .aload_n 0, 1, 0, 0, 0, 0, 0), (32, .getfield 10, 3, 7, 0, 0, 0, 0), (35, .getfield 129, 3, 4, 1, 0, 0, 0), (38, .iload_n 1, 1, 0, 0, 0, 0, 0), (39, .iaload, 1, 0, 0, 0, 0, 0), (40, .iload_n 2, 1, 0, 0, 0, 0, 0), (41, .invokestatic 158, 3, 2, 3, 0, 0, 0), (44, .ireturn, 1, 0, 0, 0, 0, 0)]
def cm_X10_bead : am_M := fun pc => cd_X10_bead.lookup pc
def cd_X10_stock : List (Nat × am_E) := [(0, .iload_n 1, 1, 0, 0, 0, 0, 0), (1, .invokestatic 162, 3, 0, 1, 0, 0, 0), (4, .ifCond .eq 13, 3, 17, 0, 0, 0, 0), (7, .new 119, 3, 0, 1, 0, 0, 0), (17, .aload_n 0, 1, 0, 0, 0, 0, 0), (18, .getfield 10, 3, 7, 0, 0, 0, 0), (21, .getfield 76, 3, 4, 2, 0, 0, 0), (24, .iload_n 1, 1, 0, 0, 0, 0, 0), (25, .iaload, 1, 0, 0, 0, 0, 0), (26, .ireturn, 1, 0, 0, 0, 0, 0)]
def cm_X10_stock : am_M := fun pc => cd_X10_stock.lookup pc
def cd_X10_sheet : List (Nat × am_E) := [(0, .iload_n 1, 1, 0, 0, 0, 0, 0), (1, .ifCond .lt 13, 3, 14, 0, 0, 0, 0), (4, .iload_n 1, 1, 0, 0, 0, 0, 0), (5, .iconst 3, 1, 0, 0, 0, (3), 0), (6, .if_icmp .gt 8, 3, 14, 0, 0, 0, 0), (9, .iload_n 2, 1, 0, 0, 0, 0, 0), (10, .iconst 4, 1, 0, 0, 0, (4), 0), (11, .if_icmp .le 5, 3, 16, 0, 0, 0, 0), (14, .iconst (-1), 1, 0, 0, 0, (-1), 0), (15, .ireturn, 1, 0, 0, 0, 0, 0), (16, .iload_n 1, 1, 0, 0, 0, 0, 0), (17, .iconst 3, 1, 0, 0, 0, (3), 0), (18, .if_icmp .ne 17, 3, 35, 0, 0, 0, 0), (21, .aload_n 0, 1, 0, 0, 0, 0, 0), (22, .getfield 10, 3, 7, 0, 0, 0, 0), (25, .iload_n 1, 1, 0, 0, 0, 0, 0), (26, .iconst 0, 1, 0, 0, 0, (0), 0), (27, .iconst 0, 1, 0, 0, 0, (0), 0), (28, .iconst 0, 1, 0, 0, 0, (0), 0), (29, .invokevirtual 167, 3, 83, 5, 5, 0, 0), (32, .bipush (-3), 2, 0, 0, 0, (-3), 0), (34, .ireturn, 1, 0, 0, 0, 0, 0), (35, .iload_n 2, 1, 0, 0, 0, 0, 0), (36, .ifCond .ge 6, 3, 42, 0, 0, 0, 0), (39, .bipush (-2), 2, 0, 0, 0, (-2), 0), (41, .ireturn, 1, 0, 0, 0, 0, 0), (42, .aload_n 0, 1, 0, 0, 0, 0, 0), (43, .getfield 10, 3, 7, 0, 0, 0, 0), (46, .iload_n 1, 1, 0, 0, 0, 0, 0), (47, .iload_n 2, 1, 0, 0, 0, 0, 0), (48, .iload_n 3, 1, 0, 0, 0, 0, 0), (49, .iload 4, 2, 0, 0, 0, 0, 0), (51, .invokevirtual 167, 3, 83, 5, 5, 0, 0), (54, .aload_n 0, 1, 0, 0, 0, 0, 0), (55, .getfield 10, 3, 7, 0, 0, 0, 0), (58, .invokevirtual 171, 3, 102, 1, 5, 0, 0), (61, .ireturn, 1, 0, 0, 0, 0, 0)]
def cm_X10_sheet : am_M := fun pc => cd_X10_sheet.lookup pc
def cd_X10_rolls : List (Nat × am_E) := [(0, .aload_n 0, 1, 0, 0, 0, 0, 0), (1, .getfield 22, 3, 7, 2, 0, 0, 0), (4, .aload_n 0, 1, 0, 0, 0, 0, 0), (5, .getfield 10, 3, 7, 0, 0, 0, 0), (8, .invokevirtual 91, 3, 58, 2, 3, 0, 0), (11, .aload_n 0, 1, 0, 0, 0, 0, 0), (12, .getfield 22, 3, 7, 2, 0, 0, 0), (15, .aload_n 0, 1, 0, 0, 0, 0, 0), (16, .getfield 10, 3, 7, 0, 0, 0, 0), (19, .iload_n 1, 1, 0, 0, 0, 0, 0), (20, .iload_n 2, 1, 0, 0, 0, 0, 0), (21, .invokevirtual 174, 3, 85, 3, 5, 0, 0), (24, .invokevirtual 106, 3, 59, 2, 3, 0, 0), (27, .ireturn, 1, 0, 0, 0, 0, 0)]
def cm_X10_rolls : am_M := fun pc => cd_X10_rolls.lookup pc
def cd_X10_flips : List (Nat × am_E) := [(0, .aload_n 0, 1, 0, 0, 0, 0, 0), (1, .getfield 22, 3, 7, 2, 0, 0, 0), (4, .aload_n 0, 1, 0, 0, 0, 0, 0), (5, .getfield 10, 3, 7, 0, 0, 0, 0), (8, .invokevirtual 91, 3, 58, 2, 3, 0, 0), (11, .aload_n 0, 1, 0, 0, 0, 0, 0), (12, .getfield 22, 3, 7, 2, 0, 0, 0), (15, .aload_n 0, 1, 0, 0, 0, 0, 0), (16, .getfield 10, 3, 7, 0, 0, 0, 0), (19, .iload_n 1, 1, 0, 0, 0, 0, 0), (20, .invokevirtual 177, 3, 86, 2, 5, 0, 0), (23, .invokevirtual 106, 3, 59, 2, 3, 0, 0), (26, .ireturn, 1, 0, 0, 0, 0, 0)]
def cm_X10_flips : am_M := fun pc => cd_X10_flips.lookup pc
def cd_X10_swaps : List (Nat × am_E) := [(0, .aload_n 0, 1, 0, 0, 0, 0, 0), (1, .getfield 22, 3, 7, 2, 0, 0, 0), (4, .aload_n 0, 1, 0, 0, 0, 0, 0), (5, .getfield 10, 3, 7, 0, 0, 0, 0), (8, .invokevirtual 91, 3, 58, 2, 3, 0, 0), (11, .aload_n 0, 1, 0, 0, 0, 0, 0), (12, .getfield 22, 3, 7, 2, 0, 0, 0), (15, .aload_n 0, 1, 0, 0, 0, 0, 0), (16, .getfield 10, 3, 7, 0, 0, 0, 0), (19, .iload_n 1, 1, 0, 0, 0, 0, 0), (20, .iload_n 2, 1, 0, 0, 0, 0, 0), (21, .invokevirtual 180, 3, 87, 3, 5, 0, 0), (24, .invokevirtual 106, 3, 59, 2, 3, 0, 0), (27, .ireturn, 1, 0, 0, 0, 0, 0)]
def cm_X10_swaps : am_M := fun pc => cd_X10_swaps.lookup pc
def cd_X10_threads : List (Nat × am_E) := [(0, .aload_n 0, 1, 0, 0, 0, 0, 0), (1, .getfield 22, 3, 7, 2, 0, 0, 0), (4, .aload_n 0, 1, 0, 0, 0, 0, 0), (5, .getfield 10, 3, 7, 0, 0, 0, 0), (8, .invokevirtual 91, 3, 58, 2, 3, 0, 0), (11, .aload_n 0, 1, 0, 0, 0, 0, 0), (12, .getfield 22, 3, 7, 2, 0, 0, 0), (15, .aload_n 0, 1, 0, 0, 0, 0, 0), (16, .getfield 10, 3, 7, 0, 0, 0, 0), (19, .iload_n 1, 1, 0, 0, 0, 0, 0), (20, .iload_n 2, 1, 0, 0, 0, 0, 0), (21, .iload_n 3, 1, 0, 0, 0, 0, 0), (22, .invokevirtual 183, 3, 88, 4, 5, 0, 0), (25, .invokevirtual 106, 3, 59, 2, 3, 0, 0), (28, .ireturn, 1, 0, 0, 0, 0, 0)]
def cm_X10_threads : am_M := fun pc => cd_X10_threads.lookup pc
def cd_X10_cuts : List (Nat × am_E) := [(0, .aload_n 0, 1, 0, 0, 0, 0, 0), (1, .getfield 22, 3, 7, 2, 0, 0, 0), (4, .aload_n 0, 1, 0, 0, 0, 0, 0), (5, .getfield 10, 3, 7, 0, 0, 0, 0), (8, .invokevirtual 91, 3, 58, 2, 3, 0, 0), (11, .aload_n 0, 1, 0, 0, 0, 0, 0), (12, .getfield 22, 3, 7, 2, 0, 0, 0), (15, .aload_n 0, 1, 0, 0, 0, 0, 0), (16, .getfield 10, 3, 7, 0, 0, 0, 0), (19, .iload_n 1, 1, 0, 0, 0, 0, 0), (20, .iload_n 2, 1, 0, 0, 0, 0, 0), (21, .invokevirtual 186, 3, 89, 3, 5, 0, 0), (24, .invokevirtual 106, 3, 59, 2, 3, 0, 0), (27, .ireturn, 1, 0, 0, 0, 0, 0)]
def cm_X10_cuts : am_M := fun pc => cd_X10_cuts.lookup pc
def cd_X10_joins : List (Nat × am_E) := [(0, .aload_n 0, 1, 0, 0, 0, 0, 0), (1, .getfield 22, 3, 7, 2, 0, 0, 0), (4, .aload_n 0, 1, 0, 0, 0, 0, 0), (5, .getfield 10, 3, 7, 0, 0, 0, 0), (8, .invokevirtual 91, 3, 58, 2, 3, 0, 0), (11, .aload_n 0, 1, 0, 0, 0, 0, 0), (12, .getfield 22, 3, 7, 2, 0, 0, 0), (15, .aload_n 0, 1, 0, 0, 0, 0, 0), (16, .getfield 10, 3, 7, 0, 0, 0, 0), (19, .iload_n 1, 1, 0, 0, 0, 0, 0), (20, .iload_n 2, 1, 0, 0, 0, 0, 0), (21, .invokevirtual 189, 3, 90, 3, 5, 0, 0), (24, .invokevirtual 106, 3, 59, 2, 3, 0, 0), (27, .ireturn, 1, 0, 0, 0, 0, 0)]
def cm_X10_joins : am_M := fun pc => cd_X10_joins.lookup pc
def cd_X10_parts : List (Nat × am_E) := [(0, .aload_n 0, 1, 0, 0, 0, 0, 0), (1, .getfield 22, 3, 7, 2, 0, 0, 0), (4, .aload_n 0, 1, 0, 0, 0, 0, 0), (5, .getfield 10, 3, 7, 0, 0, 0, 0), (8, .invokevirtual 91, 3, 58, 2, 3, 0, 0), (11, .aload_n 0, 1, 0, 0, 0, 0, 0), (12, .getfield 22, 3, 7, 2, 0, 0, 0), (15, .aload_n 0, 1, 0, 0, 0, 0, 0), (16, .getfield 10, 3, 7, 0, 0, 0, 0), (19, .iload_n 1, 1, 0, 0, 0, 0, 0), (20, .invokevirtual 192, 3, 91, 2, 5, 0, 0), (23, .invokevirtual 106, 3, 59, 2, 3, 0, 0), (26, .ireturn, 1, 0, 0, 0, 0, 0)]
def cm_X10_parts : am_M := fun pc => cd_X10_parts.lookup pc
def cd_X10_sells : List (Nat × am_E) := [(0, .aload_n 0, 1, 0, 0, 0, 0, 0), (1, .getfield 22, 3, 7, 2, 0, 0, 0), (4, .aload_n 0, 1, 0, 0, 0, 0, 0), (5, .getfield 10, 3, 7, 0, 0, 0, 0), (8, .invokevirtual 91, 3, 58, 2, 3, 0, 0), (11, .aload_n 0, 1, 0, 0, 0, 0, 0), (12, .getfield 22, 3, 7, 2, 0, 0, 0), (15, .aload_n 0, 1, 0, 0, 0, 0, 0), (16, .getfield 10, 3, 7, 0, 0, 0, 0), (19, .iload_n 1, 1, 0, 0, 0, 0, 0), (20, .aload_n 0, 1, 0, 0, 0, 0, 0), (21, .getfield 69, 3, 7, 10, 0, 0, 0), (24, .invokevirtual 195, 3, 92, 3, 5, 0, 0), (27, .invokevirtual 106, 3, 59, 2, 3, 0, 0), (30, .ireturn, 1, 0, 0, 0, 0, 0)]
def cm_X10_sells : am_M := fun pc => cd_X10_sells.lookup pc
def cd_X10_buys : List (Nat × am_E) := [(0, .aload_n 0, 1, 0, 0, 0, 0, 0), (1, .getfield 22, 3, 7, 2, 0, 0, 0), (4, .aload_n 0, 1, 0, 0, 0, 0, 0), (5, .getfield 10, 3, 7, 0, 0, 0, 0), (8, .invokevirtual 91, 3, 58, 2, 3, 0, 0), (11, .aload_n 0, 1, 0, 0, 0, 0, 0), (12, .getfield 22, 3, 7, 2, 0, 0, 0), (15, .aload_n 0, 1, 0, 0, 0, 0, 0), (16, .getfield 10, 3, 7, 0, 0, 0, 0), (19, .iload_n 1, 1, 0, 0, 0, 0, 0), (20, .iload_n 2, 1, 0, 0, 0, 0, 0), (21, .invokevirtual 198, 3, 93, 3, 5, 0, 0), (24, .invokevirtual 106, 3, 59, 2, 3, 0, 0), (27, .ireturn, 1, 0, 0, 0, 0, 0)]
def cm_X10_buys : am_M := fun pc => cd_X10_buys.lookup pc
def cd_X10_day : List (Nat × am_E) := [(0, .aload_n 0, 1, 0, 0, 0, 0, 0), (1, .getfield 29, 3, 7, 3, 0, 0, 0), (4, .invokestatic 201, 3, 44, 1, 0, 0, 0), (7, .istore_n 1, 1, 0, 0, 0, 0, 0), (8, .iload_n 1, 1, 0, 0, 0, 0, 0), (9, .ifCond .lt 14, 3, 23, 0, 0, 0, 0), (12, .aload_n 0, 1, 0, 0, 0, 0, 0), (13, .getfield 29, 3, 7, 3, 0, 0, 0), (16, .invokevirtual 113, 3, 108, 1, 6, 0, 0), (19, .iconst (-1), 1, 0, 0, 0, (-1), 0), (20, .iload_n 1, 1, 0, 0, 0, 0, 0), (21, .isub, 1, 0, 0, 0, 0, 0), (22, .ireturn, 1, 0, 0, 0, 0, 0), (23, .aload_n 0, 1, 0, 0, 0, 0, 0), (24, .getfield 22, 3, 7, 2, 0, 0, 0), (27, .aload_n 0, 1, 0, 0, 0, 0, 0), (28, .getfield 10, 3, 7, 0, 0, 0, 0), (31, .invokevirtual 91, 3, 58, 2, 3, 0, 0), (34, .iconst 0, 1, 0, 0, 0, (0), 0), (35, .istore_n 2, 1, 0, 0, 0, 0, 0), (36, .iconst 0, 1, 0, 0, 0, (0), 0), (37, .istore_n 3, 1, 0, 0, 0, 0, 0), (38, .iconst 0, 1, 0, 0, 0, (0), 0), (39, .istore 4, 2, 0, 0, 0, 0, 0), (41, .iload 4, 2, 0, 0, 0, 0, 0), (43, .aload_n 0, 1, 0, 0, 0, 0, 0), (44, .getfield 29, 3, 7, 3, 0, 0, 0), (47, .invokevirtual 206, 3, 104, 1, 6, 0, 0), (50, .if_icmp .ge 60, 3, 110, 0, 0, 0, 0), (53, .iload_n 3, 1, 0, 0, 0, 0, 0), (54, .ifCond .ne 56, 3, 110, 0, 0, 0, 0), (57, .aload_n 0, 1, 0, 0, 0, 0, 0), (58, .getfield 29, 3, 7, 3, 0, 0, 0), (61, .iload 4, 2, 0, 0, 0, 0, 0), (63, .aload_n 0, 1, 0, 0, 0, 0, 0), (64, .getfield 10, 3, 7, 0, 0, 0, 0), (67, .aload_n 0, 1, 0, 0, 0, 0, 0), (68, .getfield 69, 3, 7, 10, 0, 0, 0), (71, .invokestatic 209, 3, 48, 4, 0, 0, 0), (74, .ifCond .ge 8, 3, 82, 0, 0, 0, 0), (77, .iconst 1, 1, 0, 0, 0, (1), 0), (78, .istore_n 3, 1, 0, 0, 0, 0, 0), (79, .goto 6, 3, 85, 0, 0, 0, 0), (82, .iinc 2 1, 3, 0, 0, 0, (1), 0), (85, .iload 4, 2, 0, 0, 0, 0, 0), (87, .iconst 1, 1, 0, 0, 0, (1), 0), (88, .aload_n 0, 1, 0, 0, 0, 0, 0), (89, .getfield 29, 3, 7, 3, 0, 0, 0), (92, .iload 4, 2, 0, 0, 0, 0, 0), (94, .invokevirtual 213, 3, 105, 2, 6, 0, 0), (97, .invokestatic 217, 3, 45, 1, 0, 0, 0), (100, .invokevirtual 221, 3, 901, 1, 0, 0, 0), (103, .iadd, 1, 0, 0, 0, 0, 0), (104, .iadd, 1, 0, 0, 0, 0, 0), (105, .istore 4, 2, 0, 0, 0, 0, 0), (107, .goto (-66), 3, 41, 0, 0, 0, 0), (110, .aload_n 0, 1, 0, 0, 0, 0, 0), (111, .getfield 29, 3, 7, 3, 0, 0, 0), (114, .invokevirtual 113, 3, 108, 1, 6, 0, 0), (117, .aload_n 0, 1, 0, 0, 0, 0, 0), (118, .getfield 22, 3, 7, 2, 0, 0, 0), (121, .iload_n 2, 1, 0, 0, 0, 0, 0), (122, .ifCond .le 7, 3, 129, 0, 0, 0, 0), (125, .iload_n 2, 1, 0, 0, 0, 0, 0), (126, .goto 4, 3, 130, 0, 0, 0, 0), (129, .iconst (-1), 1, 0, 0, 0, (-1), 0), (130, .invokevirtual 106, 3, 59, 2, 3, 0, 0), (133, .pop, 1, 0, 0, 0, 0, 0), (134, .aload_n 0, 1, 0, 0, 0, 0, 0), (135, .getfield 36, 3, 7, 4, 0, 0, 0), (138, .invokevirtual 226, 3, 111, 1, 7, 0, 0), (141, .aload_n 0, 1, 0, 0, 0, 0, 0), (142, .getfield 36, 3, 7, 4, 0, 0, 0), (145, .iload_n 3, 1, 0, 0, 0, 0, 0), (146, .invokevirtual 229, 3, 112, 2, 7, 0, 0), (149, .aload_n 0, 1, 0, 0, 0, 0, 0), (150, .getfield 36, 3, 7, 4, 0, 0, 0), (153, .aload_n 0, 1, 0, 0, 0, 0, 0), (154, .getfield 10, 3, 7, 0, 0, 0, 0), (157, .getfield 232, 3, 4, 3, 0, 0, 0), (160, .invokevirtual 229, 3, 112, 2, 7, 0, 0), (163, .iload_n 2, 1, 0, 0, 0, 0, 0), (164, .ireturn, 1, 0, 0, 0, 0, 0)]
def cm_X10_day : am_M := fun pc => cd_X10_day.lookup pc
def cd_X10_undo : List (Nat × am_E) := [(0, .aload_n 0, 1, 0, 0, 0, 0, 0), (1, .getfield 22, 3, 7, 2, 0, 0, 0), (4, .aload_n 0, 1, 0, 0, 0, 0, 0), (5, .getfield 10, 3, 7, 0, 0, 0, 0), (8, .invokevirtual 235, 3, 60, 2, 3, 0, 0), (11, .ireturn, 1, 0, 0, 0, 0, 0)]
def cm_X10_undo : am_M := fun pc => cd_X10_undo.lookup pc
def cd_X10_least : List (Nat × am_E) := [(0, .aload_n 0, 1, 0, 0, 0, 0, 0), (1, .getfield 10, 3, 7, 0, 0, 0, 0), (4, .iload_n 1, 1, 0, 0, 0, 0, 0), (5, .invokevirtual 116, 3, 79, 2, 5, 0, 0), (8, .ifCond .eq 5, 3, 13, 0, 0, 0, 0), (11, .iconst (-1), 1, 0, 0, 0, (-1), 0), (12, .ireturn, 1, 0, 0, 0, 0, 0), (13, .aload_n 0, 1, 0, 0, 0, 0, 0), (14, .getfield 10, 3, 7, 0, 0, 0, 0), (17, .getfield 126, 3, 4, 0, 0, 0, 0), (20, .iload_n 1, 1, 0, 0, 0, 0, 0), (21, .iaload, 1, 0, 0, 0, 0, 0), (22, .istore_n 2, 1, 0, 0, 0, 0, 0), (23, .aload_n 0, 1, 0, 0, 0, 0, 0), (24, .getfield 10, 3, 7, 0, 0, 0, 0), (27, .getfield 129, 3, 4, 1, 0, 0, 0), (30, .iload_n 1, 1, 0, 0, 0, 0, 0), (31, .iaload, 1, 0, 0, 0, 0, 0), (32, .istore_n 3, 1, 0, 0, 0, 0, 0), (33, .iload_n 2, 1, 0, 0, 0, 0, 0), (34, .iload_n 3, 1, 0, 0, 0, 0, 0), (35, .invokestatic 239, 3, 8, 2, 0, 0, 0), (38, .istore 4, 2, 0, 0, 0, 0, 0), (40, .aload_n 0, 1, 0, 0, 0, 0, 0), (41, .getfield 36, 3, 7, 4, 0, 0, 0), (44, .invokevirtual 226, 3, 111, 1, 7, 0, 0), (47, .aload_n 0, 1, 0, 0, 0, 0, 0), (48, .getfield 36, 3, 7, 4, 0, 0, 0), (51, .iload 4, 2, 0, 0, 0, 0, 0), (53, .iload_n 3, 1, 0, 0, 0, 0, 0), (54, .invokevirtual 242, 3, 113, 3, 7, 0, 0), (57, .iload_n 2, 1, 0, 0, 0, 0, 0), (58, .iload 4, 2, 0, 0, 0, 0, 0), (60, .iload_n 3, 1, 0, 0, 0, 0, 0), (61, .invokestatic 246, 3, 10, 3, 0, 0, 0), (64, .ireturn, 1, 0, 0, 0, 0, 0)]
def cm_X10_least : am_M := fun pc => cd_X10_least.lookup pc
def cd_X10_alike : List (Nat × am_E) := [(0, .aload_n 0, 1, 0, 0, 0, 0, 0), (1, .getfield 10, 3, 7, 0, 0, 0, 0), (4, .iload_n 1, 1, 0, 0, 0, 0, 0), (5, .invokevirtual 116, 3, 79, 2, 5, 0, 0), (8, .ifCond .ne 14, 3, 22, 0, 0, 0, 0), (11, .aload_n 0, 1, 0, 0, 0, 0, 0), (12, .getfield 10, 3, 7, 0, 0, 0, 0), (15, .iload_n 2, 1, 0, 0, 0, 0, 0), (16, .invokevirtual 116, 3, 79, 2, 5, 0, 0), (19, .ifCond .eq 5, 3, 24, 0, 0, 0, 0), (22, .iconst (-1), 1, 0, 0, 0, (-1), 0), (23, .ireturn, 1, 0, 0, 0, 0, 0), (24, .aload_n 0, 1, 0, 0, 0, 0, 0), (25, .getfield 10, 3, 7, 0, 0, 0, 0), (28, .getfield 129, 3, 4, 1, 0, 0, 0), (31, .iload_n 1, 1, 0, 0, 0, 0, 0), (32, .iaload, 1, 0, 0, 0, 0, 0), (33, .istore_n 3, 1, 0, 0, 0, 0, 0), (34, .iload_n 3, 1, 0, 0, 0, 0, 0), (35, .aload_n 0, 1, 0, 0, 0, 0, 0), (36, .getfield 10, 3, 7, 0, 0, 0, 0), (39, .getfield 129, 3, 4, 1, 0, 0, 0), (42, .iload_n 2, 1, 0, 0, 0, 0, 0), (43, .iaload, 1, 0, 0, 0, 0, 0), (44, .if_icmp .eq 6, 3, 50, 0, 0, 0, 0), (47, .bipush (-2), 2, 0, 0, 0, (-2), 0), (49, .ireturn, 1, 0, 0, 0, 0, 0), (50, .aload_n 0, 1, 0, 0, 0, 0, 0), (51, .getfield 10, 3, 7, 0, 0, 0, 0), (54, .getfield 126, 3, 4, 0, 0, 0, 0), (57, .iload_n 1, 1, 0, 0, 0, 0, 0), (58, .iaload, 1, 0, 0, 0, 0, 0), (59, .istore 4, 2, 0, 0, 0, 0, 0), (61, .iload 4, 2, 0, 0, 0, 0, 0), (63, .aload_n 0, 1, 0, 0, 0, 0, 0), (64, .getfield 10, 3, 7, 0, 0, 0, 0), (67, .getfield 126, 3, 4, 0, 0, 0, 0), (70, .iload_n 2, 1, 0, 0, 0, 0, 0), (71, .iaload, 1, 0, 0, 0, 0, 0), (72, .iload_n 3, 1, 0, 0, 0, 0, 0), (73, .invokestatic 246, 3, 10, 3, 0, 0, 0), (76, .istore 5, 2, 0, 0, 0, 0, 0), (78, .iload 5, 2, 0, 0, 0, 0, 0), (80, .ifCond .ge 6, 3, 86, 0, 0, 0, 0), (83, .bipush (-2), 2, 0, 0, 0, (-2), 0), (85, .ireturn, 1, 0, 0, 0, 0, 0), (86, .aload_n 0, 1, 0, 0, 0, 0, 0), (87, .getfield 36, 3, 7, 4, 0, 0, 0), (90, .invokevirtual 226, 3, 111, 1, 7, 0, 0), (93, .aload_n 0, 1, 0, 0, 0, 0, 0), (94, .getfield 36, 3, 7, 4, 0, 0, 0), (97, .iload 4, 2, 0, 0, 0, 0, 0), (99, .iload_n 3, 1, 0, 0, 0, 0, 0), (100, .invokestatic 249, 3, 13, 2, 0, 0, 0), (103, .invokevirtual 229, 3, 112, 2, 7, 0, 0), (106, .iload 5, 2, 0, 0, 0, 0, 0), (108, .ireturn, 1, 0, 0, 0, 0, 0)]
def cm_X10_alike : am_M := fun pc => cd_X10_alike.lookup pc
def cd_X10_kinds : List (Nat × am_E) := [(0, .aload_n 0, 1, 0, 0, 0, 0, 0), (1, .getfield 36, 3, 7, 4, 0, 0, 0), (4, .invokevirtual 226, 3, 111, 1, 7, 0, 0), (7, .iconst 0, 1, 0, 0, 0, (0), 0), (8, .istore_n 1, 1, 0, 0, 0, 0, 0), (9, .iload_n 1, 1, 0, 0, 0, 0, 0), (10, .aload_n 0, 1, 0, 0, 0, 0, 0), (11, .getfield 10, 3, 7, 0, 0, 0, 0), (14, .getfield 232, 3, 4, 3, 0, 0, 0), (17, .if_icmp .ge 24, 3, 41, 0, 0, 0, 0), (20, .aload_n 0, 1, 0, 0, 0, 0, 0), (21, .getfield 36, 3, 7, 4, 0, 0, 0), (24, .aload_n 0, 1, 0, 0, 0, 0, 0), (25, .getfield 10, 3, 7, 0, 0, 0, 0), (28, .iload_n 1, 1, 0, 0, 0, 0, 0), (29, .invokevirtual 252, 3, 97, 2, 5, 0, 0), (32, .invokevirtual 229, 3, 112, 2, 7, 0, 0), (35, .iinc 1 1, 3, 0, 0, 0, (1), 0), (38, .goto (-29), 3, 9, 0, 0, 0, 0), (41, .aload_n 0, 1, 0, 0, 0, 0, 0), (42, .getfield 10, 3, 7, 0, 0, 0, 0), (45, .invokevirtual 255, 3, 98, 1, 5, 0, 0), (48, .ireturn, 1, 0, 0, 0, 0, 0)]
def cm_X10_kinds : am_M := fun pc => cd_X10_kinds.lookup pc
def cd_X10_far : List (Nat × am_E) := [(0, .aload_n 0, 1, 0, 0, 0, 0, 0), (1, .getfield 10, 3, 7, 0, 0, 0, 0), (4, .iload_n 1, 1, 0, 0, 0, 0, 0), (5, .invokevirtual 116, 3, 79, 2, 5, 0, 0), (8, .ifCond .ne 14, 3, 22, 0, 0, 0, 0), (11, .aload_n 0, 1, 0, 0, 0, 0, 0), (12, .getfield 10, 3, 7, 0, 0, 0, 0), (15, .iload_n 2, 1, 0, 0, 0, 0, 0), (16, .invokevirtual 116, 3, 79, 2, 5, 0, 0), (19, .ifCond .eq 5, 3, 24, 0, 0, 0, 0), (22, .iconst (-1), 1, 0, 0, 0, (-1), 0), (23, .ireturn, 1, 0, 0, 0, 0, 0), (24, .aload_n 0, 1, 0, 0, 0, 0, 0), (25, .getfield 10, 3, 7, 0, 0, 0, 0), (28, .getfield 129, 3, 4, 1, 0, 0, 0), (31, .iload_n 1, 1, 0, 0, 0, 0, 0), (32, .iaload, 1, 0, 0, 0, 0, 0), (33, .istore_n 3, 1, 0, 0, 0, 0, 0), (34, .iload_n 3, 1, 0, 0, 0, 0, 0), (35, .aload_n 0, 1, 0, 0, 0, 0, 0), (36, .getfield 10, 3, 7, 0, 0, 0, 0), (39, .getfield 129, 3, 4, 1, 0, 0, 0), (42, .iload_n 2, 1, 0, 0, 0, 0, 0), (43, .iaload, 1, 0, 0, 0, 0, 0), (44, .if_icmp .eq 6, 3, 50, 0, 0, 0, 0), (47, .bipush (-2), 2, 0, 0, 0, (-2), 0), (49, .ireturn, 1, 0, 0, 0, 0, 0), (50, .iload_n 3, 1, 0, 0, 0, 0, 0), (51, .iconst 1, 1, 0, 0, 0, (1), 0), (52, .iadd, 1, 0, 0, 0, 0, 0), (53, .istore 4, 2, 0, 0, 0, 0, 0), (55, .iconst 0, 1, 0, 0, 0, (0), 0), (56, .istore 5, 2, 0, 0, 0, 0, 0), (58, .iconst 0, 1, 0, 0, 0, (0), 0), (59, .istore 6, 2, 0, 0, 0, 0, 0), (61, .iload 6, 2, 0, 0, 0, 0, 0), (63, .iconst 2, 1, 0, 0, 0, (2), 0), (64, .iload_n 3, 1, 0, 0, 0, 0, 0), (65, .imul, 1, 0, 0, 0, 0, 0), (66, .if_icmp .ge 53, 3, 119, 0, 0, 0, 0), (69, .aload_n 0, 1, 0, 0, 0, 0, 0), (70, .getfield 10, 3, 7, 0, 0, 0, 0), (73, .getfield 126, 3, 4, 0, 0, 0, 0), (76, .iload_n 1, 1, 0, 0, 0, 0, 0), (77, .iaload, 1, 0, 0, 0, 0, 0), (78, .iload_n 3, 1, 0, 0, 0, 0, 0), (79, .iload 6, 2, 0, 0, 0, 0, 0), (81, .invokestatic 258, 3, 6, 3, 0, 0, 0), (84, .aload_n 0, 1, 0, 0, 0, 0, 0), (85, .getfield 10, 3, 7, 0, 0, 0, 0), (88, .getfield 126, 3, 4, 0, 0, 0, 0), (91, .iload_n 2, 1, 0, 0, 0, 0, 0), (92, .iaload, 1, 0, 0, 0, 0, 0), (93, .invokestatic 261, 3, 19, 2, 0, 0, 0), (96, .istore 7, 2, 0, 0, 0, 0, 0), (98, .iload 7, 2, 0, 0, 0, 0, 0), (100, .iload 4, 2, 0, 0, 0, 0, 0), (102, .if_icmp .ge 11, 3, 113, 0, 0, 0, 0), (105, .iload 7, 2, 0, 0, 0, 0, 0), (107, .istore 4, 2, 0, 0, 0, 0, 0), (109, .iload 6, 2, 0, 0, 0, 0, 0), (111, .istore 5, 2, 0, 0, 0, 0, 0), (113, .iinc 6 1, 3, 0, 0, 0, (1), 0), (116, .goto (-55), 3, 61, 0, 0, 0, 0), (119, .aload_n 0, 1, 0, 0, 0, 0, 0), (120, .getfield 36, 3, 7, 4, 0, 0, 0), (123, .invokevirtual 226, 3, 111, 1, 7, 0, 0), (126, .aload_n 0, 1, 0, 0, 0, 0, 0), (127, .getfield 36, 3, 7, 4, 0, 0, 0), (130, .iload 5, 2, 0, 0, 0, 0, 0), (132, .iload_n 3, 1, 0, 0, 0, 0, 0), (133, .invokestatic 264, 3, 7, 2, 0, 0, 0), (136, .invokevirtual 229, 3, 112, 2, 7, 0, 0), (139, .iload 4, 2, 0, 0, 0, 0, 0), (141, .ireturn, 1, 0, 0, 0, 0, 0)]
def cm_X10_far : am_M := fun pc => cd_X10_far.lookup pc
def cd_X10_finds : List (Nat × am_E) := [(0, .aload_n 0, 1, 0, 0, 0, 0, 0), (1, .getfield 29, 3, 7, 3, 0, 0, 0), (4, .invokevirtual 87, 3, 109, 1, 6, 0, 0), (7, .istore_n 2, 1, 0, 0, 0, 0, 0), (8, .iload_n 2, 1, 0, 0, 0, 0, 0), (9, .ifCond .ge 5, 3, 14, 0, 0, 0, 0), (12, .iload_n 2, 1, 0, 0, 0, 0, 0), (13, .ireturn, 1, 0, 0, 0, 0, 0), (14, .aload_n 0, 1, 0, 0, 0, 0, 0), (15, .getfield 10, 3, 7, 0, 0, 0, 0), (18, .iload_n 1, 1, 0, 0, 0, 0, 0), (19, .invokevirtual 116, 3, 79, 2, 5, 0, 0), (22, .ifCond .eq 6, 3, 28, 0, 0, 0, 0), (25, .bipush (-100), 2, 0, 0, 0, (-100), 0), (27, .ireturn, 1, 0, 0, 0, 0, 0), (28, .aload_n 0, 1, 0, 0, 0, 0, 0), (29, .getfield 10, 3, 7, 0, 0, 0, 0), (32, .getfield 129, 3, 4, 1, 0, 0, 0), (35, .iload_n 1, 1, 0, 0, 0, 0, 0), (36, .iaload, 1, 0, 0, 0, 0, 0), (37, .istore_n 3, 1, 0, 0, 0, 0, 0), (38, .aload_n 0, 1, 0, 0, 0, 0, 0), (39, .getfield 29, 3, 7, 3, 0, 0, 0), (42, .getfield 99, 3, 5, 3, 0, 0, 0), (45, .iload_n 3, 1, 0, 0, 0, 0, 0), (46, .if_icmp .le 6, 3, 52, 0, 0, 0, 0), (49, .bipush (-101), 2, 0, 0, 0, (-101), 0), (51, .ireturn, 1, 0, 0, 0, 0, 0), (52, .aload_n 0, 1, 0, 0, 0, 0, 0), (53, .getfield 10, 3, 7, 0, 0, 0, 0), (56, .getfield 126, 3, 4, 0, 0, 0, 0), (59, .iload_n 1, 1, 0, 0, 0, 0, 0), (60, .iaload, 1, 0, 0, 0, 0, 0), (61, .iload_n 3, 1, 0, 0, 0, 0, 0), (62, .aload_n 0, 1, 0, 0, 0, 0, 0), (63, .getfield 29, 3, 7, 3, 0, 0, 0), (66, .getfield 95, 3, 5, 2, 0, 0, 0), (69, .aload_n 0, 1, 0, 0, 0, 0, 0), (70, .getfield 29, 3, 7, 3, 0, 0, 0), (73, .getfield 99, 3, 5, 3, 0, 0, 0), (76, .invokestatic 267, 3, 21, 4, 0, 0, 0), (79, .istore 4, 2, 0, 0, 0, 0, 0), (81, .aload_n 0, 1, 0, 0, 0, 0, 0), (82, .getfield 36, 3, 7, 4, 0, 0, 0), (85, .invokevirtual 226, 3, 111, 1, 7, 0, 0), (88, .aload_n 0, 1, 0, 0, 0, 0, 0), (89, .getfield 36, 3, 7, 4, 0, 0, 0), (92, .iload 4, 2, 0, 0, 0, 0, 0), (94, .invokestatic 271, 3, 323, 1, 0, 0, 0), (97, .invokevirtual 229, 3, 112, 2, 7, 0, 0), (100, .iload 4, 2, 0, 0, 0, 0, 0), (102, .ireturn, 1, 0, 0, 0, 0, 0)]
def cm_X10_finds : am_M := fun pc => cd_X10_finds.lookup pc
def cd_X10_words : List (Nat × am_E) := [(0, .aload_n 0, 1, 0, 0, 0, 0, 0), (1, .getfield 10, 3, 7, 0, 0, 0, 0), (4, .iload_n 1, 1, 0, 0, 0, 0, 0), (5, .invokevirtual 116, 3, 79, 2, 5, 0, 0), (8, .ifCond .ne 21, 3, 29, 0, 0, 0, 0), (11, .iload_n 2, 1, 0, 0, 0, 0, 0), (12, .iconst 1, 1, 0, 0, 0, (1), 0), (13, .if_icmp .lt 16, 3, 29, 0, 0, 0, 0), (16, .iload_n 2, 1, 0, 0, 0, 0, 0), (17, .aload_n 0, 1, 0, 0, 0, 0, 0), (18, .getfield 10, 3, 7, 0, 0, 0, 0), (21, .getfield 129, 3, 4, 1, 0, 0, 0), (24, .iload_n 1, 1, 0, 0, 0, 0, 0), (25, .iaload, 1, 0, 0, 0, 0, 0), (26, .if_icmp .le 5, 3, 31, 0, 0, 0, 0), (29, .iconst (-1), 1, 0, 0, 0, (-1), 0), (30, .ireturn, 1, 0, 0, 0, 0, 0), (31, .aload_n 0, 1, 0, 0, 0, 0, 0), (32, .getfield 10, 3, 7, 0, 0, 0, 0), (35, .getfield 126, 3, 4, 0, 0, 0, 0), (38, .iload_n 1, 1, 0, 0, 0, 0, 0), (39, .iaload, 1, 0, 0, 0, 0, 0), (40, .istore_n 3, 1, 0, 0, 0, 0, 0), (41, .aload_n 0, 1, 0, 0, 0, 0, 0), (42, .getfield 10, 3, 7, 0, 0, 0, 0), (45, .getfield 129, 3, 4, 1, 0, 0, 0), (48, .iload_n 1, 1, 0, 0, 0, 0, 0), (49, .iaload, 1, 0, 0, 0, 0, 0), (50, .istore 4, 2, 0, 0, 0, 0, 0), (52, .iconst 0, 1, 0, 0, 0, (0), 0), (53, .istore 5, 2, 0, 0, 0, 0, 0), (55, .iconst 0, 1, 0, 0, 0, (0), 0), (56, .istore 6, 2, 0, 0, 0, 0, 0), (58, .iconst 0, 1, 0, 0, 0, (0), 0), (59, .istore 7, 2, 0, 0, 0, 0, 0), (61, .iconst 0, 1, 0, 0, 0, (0), 0), (62, .istore 8, 2, 0, 0, 0, 0, 0), (64, .iload 8, 2, 0, 0, 0, 0, 0), (66, .iload 4, 2, 0, 0, 0, 0, 0), (68, .if_icmp .ge 64, 3, 132, 0, 0, 0, 0), (71, .iload_n 3, 1, 0, 0, 0, 0, 0), (72, .iload 4, 2, 0, 0, 0, 0, 0), (74, .iload_n 3, 1, 0, 0, 0, 0, 0), (75, .iload 4, 2, 0, 0, 0, 0, 0), (77, .iload 8, 2, 0, 0, 0, 0, 0), (79, .iload_n 2, 1, 0, 0, 0, 0, 0), (80, .invokestatic 276, 3, 20, 4, 0, 0, 0), (83, .iload_n 2, 1, 0, 0, 0, 0, 0), (84, .invokestatic 267, 3, 21, 4, 0, 0, 0), (87, .istore 9, 2, 0, 0, 0, 0, 0), (89, .iload 9, 2, 0, 0, 0, 0, 0), (91, .invokestatic 271, 3, 323, 1, 0, 0, 0), (94, .istore 10, 2, 0, 0, 0, 0, 0), (96, .iload 9, 2, 0, 0, 0, 0, 0), (98, .iconst 1, 1, 0, 0, 0, (1), 0), (99, .iload 8, 2, 0, 0, 0, 0, 0), (101, .ishl, 1, 0, 0, 0, 0, 0), (102, .iconst 1, 1, 0, 0, 0, (1), 0), (103, .isub, 1, 0, 0, 0, 0, 0), (104, .iand, 1, 0, 0, 0, 0, 0), (105, .ifCond .ne 6, 3, 111, 0, 0, 0, 0), (108, .iinc 5 1, 3, 0, 0, 0, (1), 0), (111, .iload 10, 2, 0, 0, 0, 0, 0), (113, .iload 6, 2, 0, 0, 0, 0, 0), (115, .if_icmp .le 11, 3, 126, 0, 0, 0, 0), (118, .iload 10, 2, 0, 0, 0, 0, 0), (120, .istore 6, 2, 0, 0, 0, 0, 0), (122, .iload 8, 2, 0, 0, 0, 0, 0), (124, .istore 7, 2, 0, 0, 0, 0, 0), (126, .iinc 8 1, 3, 0, 0, 0, (1), 0), (129, .goto (-65), 3, 64, 0, 0, 0, 0), (132, .aload_n 0, 1, 0, 0, 0, 0, 0), (133, .getfield 36, 3, 7, 4, 0, 0, 0), (136, .invokevirtual 226, 3, 111, 1, 7, 0, 0), (139, .aload_n 0, 1, 0, 0, 0, 0, 0), (140, .getfield 36, 3, 7, 4, 0, 0, 0), (143, .iload 6, 2, 0, 0, 0, 0, 0), (145, .invokevirtual 229, 3, 112, 2, 7, 0, 0), (148, .aload_n 0, 1, 0, 0, 0, 0, 0), (149, .getfield 36, 3, 7, 4, 0, 0, 0), (152, .iload 7, 2, 0, 0, 0, 0, 0), (154, .invokevirtual 229, 3, 112, 2, 7, 0, 0), (157, .iload 5, 2, 0, 0, 0, 0, 0), (159, .ireturn, 1, 0, 0, 0, 0, 0)]
def cm_X10_words : am_M := fun pc => cd_X10_words.lookup pc
def cd_X10_twice : List (Nat × am_E) := [(0, .aload_n 0, 1, 0, 0, 0, 0, 0), (1, .getfield 10, 3, 7, 0, 0, 0, 0), (4, .iload_n 1, 1, 0, 0, 0, 0, 0), (5, .invokevirtual 116, 3, 79, 2, 5, 0, 0), (8, .ifCond .eq 5, 3, 13, 0, 0, 0, 0), (11, .iconst (-1), 1, 0, 0, 0, (-1), 0), (12, .ireturn, 1, 0, 0, 0, 0, 0), (13, .aload_n 0, 1, 0, 0, 0, 0, 0), (14, .getfield 10, 3, 7, 0, 0, 0, 0), (17, .getfield 126, 3, 4, 0, 0, 0, 0), (20, .iload_n 1, 1, 0, 0, 0, 0, 0), (21, .iaload, 1, 0, 0, 0, 0, 0), (22, .istore_n 2, 1, 0, 0, 0, 0, 0), (23, .aload_n 0, 1, 0, 0, 0, 0, 0), (24, .getfield 10, 3, 7, 0, 0, 0, 0), (27, .getfield 129, 3, 4, 1, 0, 0, 0), (30, .iload_n 1, 1, 0, 0, 0, 0, 0), (31, .iaload, 1, 0, 0, 0, 0, 0), (32, .istore_n 3, 1, 0, 0, 0, 0, 0), (33, .aload_n 0, 1, 0, 0, 0, 0, 0), (34, .getfield 36, 3, 7, 4, 0, 0, 0), (37, .invokevirtual 226, 3, 111, 1, 7, 0, 0), (40, .iload_n 3, 1, 0, 0, 0, 0, 0), (41, .iconst 1, 1, 0, 0, 0, (1), 0), (42, .isub, 1, 0, 0, 0, 0, 0), (43, .istore 4, 2, 0, 0, 0, 0, 0), (45, .iload 4, 2, 0, 0, 0, 0, 0), (47, .ifCond .le 85, 3, 132, 0, 0, 0, 0), (50, .iconst 0, 1, 0, 0, 0, (0), 0), (51, .istore 5, 2, 0, 0, 0, 0, 0), (53, .iload 5, 2, 0, 0, 0, 0, 0), (55, .iload_n 3, 1, 0, 0, 0, 0, 0), (56, .if_icmp .ge 70, 3, 126, 0, 0, 0, 0), (59, .iload_n 2, 1, 0, 0, 0, 0, 0), (60, .iload_n 3, 1, 0, 0, 0, 0, 0), (61, .iload_n 2, 1, 0, 0, 0, 0, 0), (62, .iload_n 3, 1, 0, 0, 0, 0, 0), (63, .iload 5, 2, 0, 0, 0, 0, 0), (65, .iload 4, 2, 0, 0, 0, 0, 0), (67, .invokestatic 276, 3, 20, 4, 0, 0, 0), (70, .iload 4, 2, 0, 0, 0, 0, 0), (72, .invokestatic 267, 3, 21, 4, 0, 0, 0), (75, .istore 6, 2, 0, 0, 0, 0, 0), (77, .iload 6, 2, 0, 0, 0, 0, 0), (79, .iload 5, 2, 0, 0, 0, 0, 0), (81, .iconst 1, 1, 0, 0, 0, (1), 0), (82, .iadd, 1, 0, 0, 0, 0, 0), (83, .ishr, 1, 0, 0, 0, 0, 0), (84, .istore 7, 2, 0, 0, 0, 0, 0), (86, .iload 7, 2, 0, 0, 0, 0, 0), (88, .ifCond .eq 32, 3, 120, 0, 0, 0, 0), (91, .aload_n 0, 1, 0, 0, 0, 0, 0), (92, .getfield 36, 3, 7, 4, 0, 0, 0), (95, .iload 5, 2, 0, 0, 0, 0, 0), (97, .invokevirtual 229, 3, 112, 2, 7, 0, 0), (100, .aload_n 0, 1, 0, 0, 0, 0, 0), (101, .getfield 36, 3, 7, 4, 0, 0, 0), (104, .iload 5, 2, 0, 0, 0, 0, 0), (106, .iconst 1, 1, 0, 0, 0, (1), 0), (107, .iadd, 1, 0, 0, 0, 0, 0), (108, .iload 7, 2, 0, 0, 0, 0, 0), (110, .invokestatic 279, 3, 322, 1, 0, 0, 0), (113, .iadd, 1, 0, 0, 0, 0, 0), (114, .invokevirtual 229, 3, 112, 2, 7, 0, 0), (117, .iload 4, 2, 0, 0, 0, 0, 0), (119, .ireturn, 1, 0, 0, 0, 0, 0), (120, .iinc 5 1, 3, 0, 0, 0, (1), 0), (123, .goto (-70), 3, 53, 0, 0, 0, 0), (126, .iinc 4 (-1), 3, 0, 0, 0, (-1), 0), (129, .goto (-84), 3, 45, 0, 0, 0, 0), (132, .iconst 0, 1, 0, 0, 0, (0), 0), (133, .ireturn, 1, 0, 0, 0, 0, 0)]
def cm_X10_twice : am_M := fun pc => cd_X10_twice.lookup pc
def cd_X10_arc : List (Nat × am_E) := [(0, .aload_n 0, 1, 0, 0, 0, 0, 0), (1, .getfield 10, 3, 7, 0, 0, 0, 0), (4, .iload_n 1, 1, 0, 0, 0, 0, 0), (5, .invokevirtual 116, 3, 79, 2, 5, 0, 0), (8, .ifCond .eq 5, 3, 13, 0, 0, 0, 0), (11, .iconst (-1), 1, 0, 0, 0, (-1), 0), (12, .ireturn, 1, 0, 0, 0, 0, 0), (13, .aload_n 0, 1, 0, 0, 0, 0, 0), (14, .getfield 10, 3, 7, 0, 0, 0, 0), (17, .getfield 126, 3, 4, 0, 0, 0, 0), (20, .iload_n 1, 1, 0, 0, 0, 0, 0), (21, .iaload, 1, 0, 0, 0, 0, 0), (22, .istore_n 2, 1, 0, 0, 0, 0, 0), (23, .aload_n 0, 1, 0, 0, 0, 0, 0), (24, .getfield 10, 3, 7, 0, 0, 0, 0), (27, .getfield 129, 3, 4, 1, 0, 0, 0), (30, .iload_n 1, 1, 0, 0, 0, 0, 0), (31, .iaload, 1, 0, 0, 0, 0, 0), (32, .istore_n 3, 1, 0, 0, 0, 0, 0), (33, .aload_n 0, 1, 0, 0, 0, 0, 0), (34, .getfield 36, 3, 7, 4, 0, 0, 0), (37, .invokevirtual 226, 3, 111, 1, 7, 0, 0), (40, .iload_n 3, 1, 0, 0, 0, 0, 0), (41, .istore 4, 2, 0, 0, 0, 0, 0), (43, .iload 4, 2, 0, 0, 0, 0, 0), (45, .iconst 1, 1, 0, 0, 0, (1), 0), (46, .if_icmp .le 59, 3, 105, 0, 0, 0, 0), (49, .iconst 0, 1, 0, 0, 0, (0), 0), (50, .istore 5, 2, 0, 0, 0, 0, 0), (52, .iload 5, 2, 0, 0, 0, 0, 0), (54, .iload_n 3, 1, 0, 0, 0, 0, 0), (55, .if_icmp .ge 44, 3, 99, 0, 0, 0, 0), (58, .iload_n 2, 1, 0, 0, 0, 0, 0), (59, .iload_n 3, 1, 0, 0, 0, 0, 0), (60, .iload 5, 2, 0, 0, 0, 0, 0), (62, .iload 4, 2, 0, 0, 0, 0, 0), (64, .invokestatic 276, 3, 20, 4, 0, 0, 0), (67, .istore 6, 2, 0, 0, 0, 0, 0), (69, .iload 6, 2, 0, 0, 0, 0, 0), (71, .iload 4, 2, 0, 0, 0, 0, 0), (73, .invokestatic 282, 3, 5, 2, 0, 0, 0), (76, .iload 6, 2, 0, 0, 0, 0, 0), (78, .if_icmp .ne 15, 3, 93, 0, 0, 0, 0), (81, .aload_n 0, 1, 0, 0, 0, 0, 0), (82, .getfield 36, 3, 7, 4, 0, 0, 0), (85, .iload 5, 2, 0, 0, 0, 0, 0), (87, .invokevirtual 229, 3, 112, 2, 7, 0, 0), (90, .iload 4, 2, 0, 0, 0, 0, 0), (92, .ireturn, 1, 0, 0, 0, 0, 0), (93, .iinc 5 1, 3, 0, 0, 0, (1), 0), (96, .goto (-44), 3, 52, 0, 0, 0, 0), (99, .iinc 4 (-1), 3, 0, 0, 0, (-1), 0), (102, .goto (-59), 3, 43, 0, 0, 0, 0), (105, .aload_n 0, 1, 0, 0, 0, 0, 0), (106, .getfield 36, 3, 7, 4, 0, 0, 0), (109, .iconst 0, 1, 0, 0, 0, (0), 0), (110, .invokevirtual 229, 3, 112, 2, 7, 0, 0), (113, .iconst 1, 1, 0, 0, 0, (1), 0), (114, .ireturn, 1, 0, 0, 0, 0, 0)]
def cm_X10_arc : am_M := fun pc => cd_X10_arc.lookup pc
def cd_X10_many : List (Nat × am_E) := [(0, .iload_n 1, 1, 0, 0, 0, 0, 0), (1, .iconst 1, 1, 0, 0, 0, (1), 0), (2, .if_icmp .lt 18, 3, 20, 0, 0, 0, 0), (5, .iload_n 1, 1, 0, 0, 0, 0, 0), (6, .bipush 10, 2, 0, 0, 0, (10), 0), (8, .if_icmp .gt 12, 3, 20, 0, 0, 0, 0), (11, .iload_n 2, 1, 0, 0, 0, 0, 0), (12, .iconst 1, 1, 0, 0, 0, (1), 0), (13, .isub, 1, 0, 0, 0, 0, 0), (14, .invokestatic 162, 3, 0, 1, 0, 0, 0), (17, .ifCond .eq 5, 3, 22, 0, 0, 0, 0), (20, .iconst (-1), 1, 0, 0, 0, (-1), 0), (21, .ireturn, 1, 0, 0, 0, 0, 0), (22, .iload_n 1, 1, 0, 0, 0, 0, 0), (23, .iload_n 2, 1, 0, 0, 0, 0, 0), (24, .invokestatic 285, 3, 36, 2, 0, 0, 0), (27, .istore_n 3, 1, 0, 0, 0, 0, 0), (28, .aload_n 0, 1, 0, 0, 0, 0, 0), (29, .getfield 36, 3, 7, 4, 0, 0, 0), (32, .invokevirtual 226, 3, 111, 1, 7, 0, 0), (35, .aload_n 0, 1, 0, 0, 0, 0, 0), (36, .getfield 36, 3, 7, 4, 0, 0, 0), (39, .iload_n 3, 1, 0, 0, 0, 0, 0), (40, .iload_n 1, 1, 0, 0, 0, 0, 0), (41, .idiv, 1, 0, 0, 0, 0, 0), (42, .invokevirtual 229, 3, 112, 2, 7, 0, 0), (45, .aload_n 0, 1, 0, 0, 0, 0, 0), (46, .getfield 36, 3, 7, 4, 0, 0, 0), (49, .iload_n 1, 1, 0, 0, 0, 0, 0), (50, .iload_n 2, 1, 0, 0, 0, 0, 0), (51, .invokestatic 290, 3, 38, 2, 0, 0, 0), (54, .iload_n 1, 1, 0, 0, 0, 0, 0), (55, .idiv, 1, 0, 0, 0, 0, 0), (56, .invokevirtual 229, 3, 112, 2, 7, 0, 0), (59, .iload_n 3, 1, 0, 0, 0, 0, 0), (60, .iload_n 1, 1, 0, 0, 0, 0, 0), (61, .iload_n 2, 1, 0, 0, 0, 0, 0), (62, .invokestatic 293, 3, 37, 2, 0, 0, 0), (65, .iadd, 1, 0, 0, 0, 0, 0), (66, .iconst 2, 1, 0, 0, 0, (2), 0), (67, .iload_n 1, 1, 0, 0, 0, 0, 0), (68, .imul, 1, 0, 0, 0, 0, 0), (69, .idiv, 1, 0, 0, 0, 0, 0), (70, .ireturn, 1, 0, 0, 0, 0, 0)]
def cm_X10_many : am_M := fun pc => cd_X10_many.lookup pc
def cd_X10_ways : List (Nat × am_E) := [(0, .aload_n 0, 1, 0, 0, 0, 0, 0), (1, .getfield 29, 3, 7, 3, 0, 0, 0), (4, .invokevirtual 87, 3, 109, 1, 6, 0, 0), (7, .istore_n 1, 1, 0, 0, 0, 0, 0), (8, .iload_n 1, 1, 0, 0, 0, 0, 0), (9, .ifCond .ge 5, 3, 14, 0, 0, 0, 0), (12, .iload_n 1, 1, 0, 0, 0, 0, 0), (13, .ireturn, 1, 0, 0, 0, 0, 0), (14, .aload_n 0, 1, 0, 0, 0, 0, 0), (15, .getfield 29, 3, 7, 3, 0, 0, 0), (18, .getfield 99, 3, 5, 3, 0, 0, 0), (21, .istore_n 2, 1, 0, 0, 0, 0, 0), (22, .aload_n 0, 1, 0, 0, 0, 0, 0), (23, .getfield 59, 3, 7, 8, 0, 0, 0), (26, .aload_n 0, 1, 0, 0, 0, 0, 0), (27, .getfield 29, 3, 7, 3, 0, 0, 0), (30, .getfield 95, 3, 5, 2, 0, 0, 0), (33, .iload_n 2, 1, 0, 0, 0, 0, 0), (34, .invokestatic 296, 3, 17, 3, 0, 0, 0), (37, .aload_n 0, 1, 0, 0, 0, 0, 0), (38, .getfield 59, 3, 7, 8, 0, 0, 0), (41, .iload_n 2, 1, 0, 0, 0, 0, 0), (42, .invokestatic 300, 3, 39, 2, 0, 0, 0), (45, .istore_n 3, 1, 0, 0, 0, 0, 0), (46, .aload_n 0, 1, 0, 0, 0, 0, 0), (47, .getfield 36, 3, 7, 4, 0, 0, 0), (50, .invokevirtual 226, 3, 111, 1, 7, 0, 0), (53, .aload_n 0, 1, 0, 0, 0, 0, 0), (54, .getfield 36, 3, 7, 4, 0, 0, 0), (57, .iload_n 3, 1, 0, 0, 0, 0, 0), (58, .iload_n 2, 1, 0, 0, 0, 0, 0), (59, .idiv, 1, 0, 0, 0, 0, 0), (60, .invokevirtual 229, 3, 112, 2, 7, 0, 0), (63, .aload_n 0, 1, 0, 0, 0, 0, 0), (64, .getfield 36, 3, 7, 4, 0, 0, 0), (67, .aload_n 0, 1, 0, 0, 0, 0, 0), (68, .getfield 59, 3, 7, 8, 0, 0, 0), (71, .iconst 1, 1, 0, 0, 0, (1), 0), (72, .invokestatic 304, 3, 42, 2, 0, 0, 0), (75, .invokevirtual 229, 3, 112, 2, 7, 0, 0), (78, .iload_n 3, 1, 0, 0, 0, 0, 0), (79, .aload_n 0, 1, 0, 0, 0, 0, 0), (80, .getfield 59, 3, 7, 8, 0, 0, 0), (83, .iload_n 2, 1, 0, 0, 0, 0, 0), (84, .invokestatic 307, 3, 40, 2, 0, 0, 0), (87, .iadd, 1, 0, 0, 0, 0, 0), (88, .iconst 2, 1, 0, 0, 0, (2), 0), (89, .iload_n 2, 1, 0, 0, 0, 0, 0), (90, .imul, 1, 0, 0, 0, 0, 0), (91, .idiv, 1, 0, 0, 0, 0, 0), (92, .ireturn, 1, 0, 0, 0, 0, 0)]
def cm_X10_ways : am_M := fun pc => cd_X10_ways.lookup pc
def cd_X10_nth : List (Nat × am_E) := [(0, .iload_n 1, 1, 0, 0, 0, 0, 0), (1, .invokestatic 310, 3, 50, 1, 0, 0, 0), (4, .ifCond .ne 23, 3, 27, 0, 0, 0, 0), (7, .iload_n 2, 1, 0, 0, 0, 0, 0), (8, .iconst 1, 1, 0, 0, 0, (1), 0), (9, .isub, 1, 0, 0, 0, 0, 0), (10, .invokestatic 162, 3, 0, 1, 0, 0, 0), (13, .ifCond .ne 14, 3, 27, 0, 0, 0, 0), (16, .iload_n 3, 1, 0, 0, 0, 0, 0), (17, .ifCond .lt 10, 3, 27, 0, 0, 0, 0), (20, .iload_n 3, 1, 0, 0, 0, 0, 0), (21, .sipush 999, 3, 0, 0, 0, (999), 0), (24, .if_icmp .le 5, 3, 29, 0, 0, 0, 0), (27, .iconst (-1), 1, 0, 0, 0, (-1), 0), (28, .ireturn, 1, 0, 0, 0, 0, 0), (29, .aload_n 0, 1, 0, 0, 0, 0, 0), (30, .getfield 43, 3, 7, 5, 0, 0, 0), (33, .iload_n 1, 1, 0, 0, 0, 0, 0), (34, .iload_n 2, 1, 0, 0, 0, 0, 0), (35, .iload_n 3, 1, 0, 0, 0, 0, 0), (36, .invokevirtual 311, 3, 54, 4, 2, 0, 0), (39, .istore 4, 2, 0, 0, 0, 0, 0), (41, .iload 4, 2, 0, 0, 0, 0, 0), (43, .ifCond .ge 6, 3, 49, 0, 0, 0, 0), (46, .bipush (-2), 2, 0, 0, 0, (-2), 0), (48, .ireturn, 1, 0, 0, 0, 0, 0), (49, .aload_n 0, 1, 0, 0, 0, 0, 0), (50, .getfield 36, 3, 7, 4, 0, 0, 0), (53, .invokevirtual 226, 3, 111, 1, 7, 0, 0), (56, .aload_n 0, 1, 0, 0, 0, 0, 0), (57, .getfield 36, 3, 7, 4, 0, 0, 0), (60, .iload 4, 2, 0, 0, 0, 0, 0), (62, .iload_n 1, 1, 0, 0, 0, 0, 0), (63, .invokevirtual 242, 3, 113, 3, 7, 0, 0), (66, .iconst 0, 1, 0, 0, 0, (0), 0), (67, .ireturn, 1, 0, 0, 0, 0, 0)]
def cm_X10_nth : am_M := fun pc => cd_X10_nth.lookup pc
def cd_X10_rank : List (Nat × am_E) := [(0, .aload_n 0, 1, 0, 0, 0, 0, 0), (1, .getfield 10, 3, 7, 0, 0, 0, 0), (4, .iload_n 1, 1, 0, 0, 0, 0, 0), (5, .invokevirtual 116, 3, 79, 2, 5, 0, 0), (8, .ifCond .eq 5, 3, 13, 0, 0, 0, 0), (11, .iconst (-1), 1, 0, 0, 0, (-1), 0), (12, .ireturn, 1, 0, 0, 0, 0, 0), (13, .aload_n 0, 1, 0, 0, 0, 0, 0), (14, .getfield 10, 3, 7, 0, 0, 0, 0), (17, .getfield 129, 3, 4, 1, 0, 0, 0), (20, .iload_n 1, 1, 0, 0, 0, 0, 0), (21, .iaload, 1, 0, 0, 0, 0, 0), (22, .istore_n 2, 1, 0, 0, 0, 0, 0), (23, .iload_n 2, 1, 0, 0, 0, 0, 0), (24, .invokestatic 310, 3, 50, 1, 0, 0, 0), (27, .ifCond .eq 6, 3, 33, 0, 0, 0, 0), (30, .bipush (-2), 2, 0, 0, 0, (-2), 0), (32, .ireturn, 1, 0, 0, 0, 0, 0), (33, .aload_n 0, 1, 0, 0, 0, 0, 0), (34, .getfield 43, 3, 7, 5, 0, 0, 0), (37, .iload_n 2, 1, 0, 0, 0, 0, 0), (38, .aload_n 0, 1, 0, 0, 0, 0, 0), (39, .getfield 10, 3, 7, 0, 0, 0, 0), (42, .iload_n 1, 1, 0, 0, 0, 0, 0), (43, .invokevirtual 314, 3, 95, 2, 5, 0, 0), (46, .invokevirtual 316, 3, 55, 3, 2, 0, 0), (49, .ireturn, 1, 0, 0, 0, 0, 0)]
def cm_X10_rank : am_M := fun pc => cd_X10_rank.lookup pc
def cd_X10_next : List (Nat × am_E) := [(0, .aload_n 0, 1, 0, 0, 0, 0, 0), (1, .getfield 10, 3, 7, 0, 0, 0, 0), (4, .iload_n 1, 1, 0, 0, 0, 0, 0), (5, .invokevirtual 116, 3, 79, 2, 5, 0, 0), (8, .ifCond .eq 5, 3, 13, 0, 0, 0, 0), (11, .iconst (-1), 1, 0, 0, 0, (-1), 0), (12, .ireturn, 1, 0, 0, 0, 0, 0), (13, .aload_n 0, 1, 0, 0, 0, 0, 0), (14, .getfield 10, 3, 7, 0, 0, 0, 0), (17, .getfield 129, 3, 4, 1, 0, 0, 0), (20, .iload_n 1, 1, 0, 0, 0, 0, 0), (21, .iaload, 1, 0, 0, 0, 0, 0), (22, .istore_n 2, 1, 0, 0, 0, 0, 0), (23, .iload_n 2, 1, 0, 0, 0, 0, 0), (24, .invokestatic 310, 3, 50, 1, 0, 0, 0), (27, .ifCond .eq 6, 3, 33, 0, 0, 0, 0), (30, .bipush (-3), 2, 0, 0, 0, (-3), 0), (32, .ireturn, 1, 0, 0, 0, 0, 0), (33, .aload_n 0, 1, 0, 0, 0, 0, 0), (34, .getfield 43, 3, 7, 5, 0, 0, 0), (37, .iload_n 2, 1, 0, 0, 0, 0, 0), (38, .aload_n 0, 1, 0, 0, 0, 0, 0), (39, .getfield 10, 3, 7, 0, 0, 0, 0), (42, .iload_n 1, 1, 0, 0, 0, 0, 0), (43, .invokevirtual 314, 3, 95, 2, 5, 0, 0), (46, .invokevirtual 319, 3, 56, 3, 2, 0, 0), (49, .istore_n 3, 1, 0, 0, 0, 0, 0), (50, .iload_n 3, 1, 0, 0, 0, 0, 0), (51, .ifCond .ge 6, 3, 57, 0, 0, 0, 0), (54, .bipush (-2), 2, 0, 0, 0, (-2), 0), (56, .ireturn, 1, 0, 0, 0, 0, 0), (57, .aload_n 0, 1, 0, 0, 0, 0, 0), (58, .getfield 36, 3, 7, 4, 0, 0, 0), (61, .invokevirtual 226, 3, 111, 1, 7, 0, 0), (64, .aload_n 0, 1, 0, 0, 0, 0, 0), (65, .getfield 36, 3, 7, 4, 0, 0, 0), (68, .iload_n 3, 1, 0, 0, 0, 0, 0), (69, .iload_n 2, 1, 0, 0, 0, 0, 0), (70, .invokevirtual 242, 3, 113, 3, 7, 0, 0), (73, .iconst 0, 1, 0, 0, 0, (0), 0), (74, .ireturn, 1, 0, 0, 0, 0, 0)]
def cm_X10_next : am_M := fun pc => cd_X10_next.lookup pc
def cd_X10_once : List (Nat × am_E) := [(0, .iload_n 1, 1, 0, 0, 0, 0, 0), (1, .iconst 1, 1, 0, 0, 0, (1), 0), (2, .isub, 1, 0, 0, 0, 0, 0), (3, .invokestatic 162, 3, 0, 1, 0, 0, 0), (6, .ifCond .ne 23, 3, 29, 0, 0, 0, 0), (9, .iload_n 2, 1, 0, 0, 0, 0, 0), (10, .iconst 1, 1, 0, 0, 0, (1), 0), (11, .if_icmp .lt 18, 3, 29, 0, 0, 0, 0), (14, .iload_n 2, 1, 0, 0, 0, 0, 0), (15, .iconst 4, 1, 0, 0, 0, (4), 0), (16, .if_icmp .gt 13, 3, 29, 0, 0, 0, 0), (19, .iload_n 1, 1, 0, 0, 0, 0, 0), (20, .iload_n 2, 1, 0, 0, 0, 0, 0), (21, .invokestatic 322, 3, 33, 2, 0, 0, 0), (24, .bipush 16, 2, 0, 0, 0, (16), 0), (26, .if_icmp .le 5, 3, 31, 0, 0, 0, 0), (29, .iconst (-1), 1, 0, 0, 0, (-1), 0), (30, .ireturn, 1, 0, 0, 0, 0, 0), (31, .aload_n 0, 1, 0, 0, 0, 0, 0), (32, .getfield 36, 3, 7, 4, 0, 0, 0), (35, .invokevirtual 226, 3, 111, 1, 7, 0, 0), (38, .iconst 0, 1, 0, 0, 0, (0), 0), (39, .istore_n 3, 1, 0, 0, 0, 0, 0), (40, .iload_n 3, 1, 0, 0, 0, 0, 0), (41, .iload_n 1, 1, 0, 0, 0, 0, 0), (42, .if_icmp .ge 18, 3, 60, 0, 0, 0, 0), (45, .aload_n 0, 1, 0, 0, 0, 0, 0), (46, .iload_n 3, 1, 0, 0, 0, 0, 0), (47, .iconst 1, 1, 0, 0, 0, (1), 0), (48, .iconst 1, 1, 0, 0, 0, (1), 0), (49, .iload_n 1, 1, 0, 0, 0, 0, 0), (50, .iload_n 2, 1, 0, 0, 0, 0, 0), (51, .invokevirtual 325, 3, 167, 6, 8, 0, 0), (54, .iinc 3 1, 3, 0, 0, 0, (1), 0), (57, .goto (-17), 3, 40, 0, 0, 0, 0), (60, .aload_n 0, 1, 0, 0, 0, 0, 0), (61, .getfield 36, 3, 7, 4, 0, 0, 0), (64, .getfield 329, 3, 6, 1, 0, 0, 0), (67, .ireturn, 1, 0, 0, 0, 0, 0)]
def cm_X10_once : am_M := fun pc => cd_X10_once.lookup pc
def cd_X10_made : List (Nat × am_E) := [(0, .iload_n 1, 1, 0, 0, 0, 0, 0), (1, .invokestatic 310, 3, 50, 1, 0, 0, 0), (4, .ifCond .eq 5, 3, 9, 0, 0, 0, 0), (7, .iconst (-1), 1, 0, 0, 0, (-1), 0), (8, .ireturn, 1, 0, 0, 0, 0, 0), (9, .iconst 0, 1, 0, 0, 0, (0), 0), (10, .istore_n 2, 1, 0, 0, 0, 0, 0), (11, .aload_n 0, 1, 0, 0, 0, 0, 0), (12, .getfield 36, 3, 7, 4, 0, 0, 0), (15, .invokevirtual 226, 3, 111, 1, 7, 0, 0), (18, .iconst 0, 1, 0, 0, 0, (0), 0), (19, .istore_n 3, 1, 0, 0, 0, 0, 0), (20, .aload_n 0, 1, 0, 0, 0, 0, 0), (21, .getfield 43, 3, 7, 5, 0, 0, 0), (24, .iload_n 1, 1, 0, 0, 0, 0, 0), (25, .invokevirtual 331, 3, 51, 2, 2, 0, 0), (28, .istore 4, 2, 0, 0, 0, 0, 0), (30, .iload_n 3, 1, 0, 0, 0, 0, 0), (31, .iload 4, 2, 0, 0, 0, 0, 0), (33, .if_icmp .ge 50, 3, 83, 0, 0, 0, 0), (36, .aload_n 0, 1, 0, 0, 0, 0, 0), (37, .getfield 43, 3, 7, 5, 0, 0, 0), (40, .iload_n 1, 1, 0, 0, 0, 0, 0), (41, .iload_n 3, 1, 0, 0, 0, 0, 0), (42, .invokevirtual 333, 3, 52, 3, 2, 0, 0), (45, .istore 5, 2, 0, 0, 0, 0, 0), (47, .aload_n 0, 1, 0, 0, 0, 0, 0), (48, .getfield 10, 3, 7, 0, 0, 0, 0), (51, .iload 5, 2, 0, 0, 0, 0, 0), (53, .iload_n 1, 1, 0, 0, 0, 0, 0), (54, .invokevirtual 336, 3, 81, 3, 5, 0, 0), (57, .ifCond .eq 20, 3, 77, 0, 0, 0, 0), (60, .iload_n 2, 1, 0, 0, 0, 0, 0), (61, .ifCond .ne 13, 3, 74, 0, 0, 0, 0), (64, .aload_n 0, 1, 0, 0, 0, 0, 0), (65, .getfield 36, 3, 7, 4, 0, 0, 0), (68, .iload 5, 2, 0, 0, 0, 0, 0), (70, .iload_n 1, 1, 0, 0, 0, 0, 0), (71, .invokevirtual 242, 3, 113, 3, 7, 0, 0), (74, .iinc 2 1, 3, 0, 0, 0, (1), 0), (77, .iinc 3 1, 3, 0, 0, 0, (1), 0), (80, .goto (-50), 3, 30, 0, 0, 0, 0), (83, .iload_n 2, 1, 0, 0, 0, 0, 0), (84, .ireturn, 1, 0, 0, 0, 0, 0)]
def cm_X10_made : am_M := fun pc => cd_X10_made.lookup pc
def cd_X10_dear : List (Nat × am_E) := [(0, .iload_n 1, 1, 0, 0, 0, 0, 0), (1, .invokestatic 310, 3, 50, 1, 0, 0, 0), (4, .ifCond .ne 9, 3, 13, 0, 0, 0, 0), (7, .iload_n 1, 1, 0, 0, 0, 0, 0), (8, .bipush 7, 2, 0, 0, 0, (7), 0), (10, .if_icmp .ne 5, 3, 15, 0, 0, 0, 0), (13, .iconst (-1), 1, 0, 0, 0, (-1), 0), (14, .ireturn, 1, 0, 0, 0, 0, 0), (15, .aload_n 0, 1, 0, 0, 0, 0, 0), (16, .iload_n 1, 1, 0, 0, 0, 0, 0), (17, .invokevirtual 339, 3, 168, 2, 8, 0, 0), (20, .iconst (-1), 1, 0, 0, 0, (-1), 0), (21, .istore_n 2, 1, 0, 0, 0, 0, 0), (22, .iconst 0, 1, 0, 0, 0, (0), 0), (23, .istore_n 3, 1, 0, 0, 0, 0, 0), (24, .iconst 0, 1, 0, 0, 0, (0), 0), (25, .istore 4, 2, 0, 0, 0, 0, 0), (27, .aload_n 0, 1, 0, 0, 0, 0, 0), (28, .getfield 43, 3, 7, 5, 0, 0, 0), (31, .iload_n 1, 1, 0, 0, 0, 0, 0), (32, .invokevirtual 331, 3, 51, 2, 2, 0, 0), (35, .istore 5, 2, 0, 0, 0, 0, 0), (37, .iload 4, 2, 0, 0, 0, 0, 0), (39, .iload 5, 2, 0, 0, 0, 0, 0), (41, .if_icmp .ge 64, 3, 105, 0, 0, 0, 0), (44, .aload_n 0, 1, 0, 0, 0, 0, 0), (45, .getfield 43, 3, 7, 5, 0, 0, 0), (48, .iload_n 1, 1, 0, 0, 0, 0, 0), (49, .iload 4, 2, 0, 0, 0, 0, 0), (51, .invokevirtual 333, 3, 52, 3, 2, 0, 0), (54, .istore 6, 2, 0, 0, 0, 0, 0), (56, .aload_n 0, 1, 0, 0, 0, 0, 0), (57, .getfield 10, 3, 7, 0, 0, 0, 0), (60, .iload 6, 2, 0, 0, 0, 0, 0), (62, .iload_n 1, 1, 0, 0, 0, 0, 0), (63, .invokevirtual 336, 3, 81, 3, 5, 0, 0), (66, .ifCond .eq 33, 3, 99, 0, 0, 0, 0), (69, .aload_n 0, 1, 0, 0, 0, 0, 0), (70, .getfield 69, 3, 7, 10, 0, 0, 0), (73, .iload 6, 2, 0, 0, 0, 0, 0), (75, .iload_n 1, 1, 0, 0, 0, 0, 0), (76, .aload_n 0, 1, 0, 0, 0, 0, 0), (77, .iload 6, 2, 0, 0, 0, 0, 0), (79, .invokevirtual 342, 3, 169, 2, 8, 0, 0), (82, .invokevirtual 345, 3, 74, 4, 4, 0, 0), (85, .istore 7, 2, 0, 0, 0, 0, 0), (87, .iload 7, 2, 0, 0, 0, 0, 0), (89, .iload_n 2, 1, 0, 0, 0, 0, 0), (90, .if_icmp .le 9, 3, 99, 0, 0, 0, 0), (93, .iload 7, 2, 0, 0, 0, 0, 0), (95, .istore_n 2, 1, 0, 0, 0, 0, 0), (96, .iload 6, 2, 0, 0, 0, 0, 0), (98, .istore_n 3, 1, 0, 0, 0, 0, 0), (99, .iinc 4 1, 3, 0, 0, 0, (1), 0), (102, .goto (-65), 3, 37, 0, 0, 0, 0), (105, .iload_n 2, 1, 0, 0, 0, 0, 0), (106, .ifCond .ge 6, 3, 112, 0, 0, 0, 0), (109, .bipush (-2), 2, 0, 0, 0, (-2), 0), (111, .ireturn, 1, 0, 0, 0, 0, 0), (112, .aload_n 0, 1, 0, 0, 0, 0, 0), (113, .getfield 36, 3, 7, 4, 0, 0, 0), (116, .invokevirtual 226, 3, 111, 1, 7, 0, 0), (119, .aload_n 0, 1, 0, 0, 0, 0, 0), (120, .getfield 36, 3, 7, 4, 0, 0, 0), (123, .iload_n 3, 1, 0, 0, 0, 0, 0), (124, .iload_n 1, 1, 0, 0, 0, 0, 0), (125, .invokevirtual 242, 3, 113, 3, 7, 0, 0), (128, .iload_n 2, 1, 0, 0, 0, 0, 0), (129, .ireturn, 1, 0, 0, 0, 0, 0)]
def cm_X10_dear : am_M := fun pc => cd_X10_dear.lookup pc
def cd_X10_odds : List (Nat × am_E) := [(0, .aload_n 0, 1, 0, 0, 0, 0, 0), (1, .getfield 10, 3, 7, 0, 0, 0, 0), (4, .iload_n 1, 1, 0, 0, 0, 0, 0), (5, .invokevirtual 116, 3, 79, 2, 5, 0, 0), (8, .ifCond .eq 5, 3, 13, 0, 0, 0, 0), (11, .iconst (-1), 1, 0, 0, 0, (-1), 0), (12, .ireturn, 1, 0, 0, 0, 0, 0), (13, .aload_n 0, 1, 0, 0, 0, 0, 0), (14, .getfield 10, 3, 7, 0, 0, 0, 0), (17, .getfield 126, 3, 4, 0, 0, 0, 0), (20, .iload_n 1, 1, 0, 0, 0, 0, 0), (21, .iaload, 1, 0, 0, 0, 0, 0), (22, .istore_n 2, 1, 0, 0, 0, 0, 0), (23, .aload_n 0, 1, 0, 0, 0, 0, 0), (24, .getfield 10, 3, 7, 0, 0, 0, 0), (27, .getfield 129, 3, 4, 1, 0, 0, 0), (30, .iload_n 1, 1, 0, 0, 0, 0, 0), (31, .iaload, 1, 0, 0, 0, 0, 0), (32, .istore_n 3, 1, 0, 0, 0, 0, 0), (33, .aload_n 0, 1, 0, 0, 0, 0, 0), (34, .getfield 59, 3, 7, 8, 0, 0, 0), (37, .iload_n 2, 1, 0, 0, 0, 0, 0), (38, .iload_n 3, 1, 0, 0, 0, 0, 0), (39, .invokestatic 296, 3, 17, 3, 0, 0, 0), (42, .iconst 2, 1, 0, 0, 0, (2), 0), (43, .iload_n 3, 1, 0, 0, 0, 0, 0), (44, .imul, 1, 0, 0, 0, 0, 0), (45, .iconst 1, 1, 0, 0, 0, (1), 0), (46, .iload_n 2, 1, 0, 0, 0, 0, 0), (47, .iload_n 3, 1, 0, 0, 0, 0, 0), (48, .invokestatic 249, 3, 13, 2, 0, 0, 0), (51, .invokestatic 348, 3, 324, 2, 0, 0, 0), (54, .idiv, 1, 0, 0, 0, 0, 0), (55, .istore 4, 2, 0, 0, 0, 0, 0), (57, .aload_n 0, 1, 0, 0, 0, 0, 0), (58, .getfield 59, 3, 7, 8, 0, 0, 0), (61, .iconst 1, 1, 0, 0, 0, (1), 0), (62, .invokestatic 304, 3, 42, 2, 0, 0, 0), (65, .istore 5, 2, 0, 0, 0, 0, 0), (67, .iconst 1, 1, 0, 0, 0, (1), 0), (68, .iload 4, 2, 0, 0, 0, 0, 0), (70, .iload 5, 2, 0, 0, 0, 0, 0), (72, .invokestatic 353, 3, 34, 2, 0, 0, 0), (75, .invokestatic 348, 3, 324, 2, 0, 0, 0), (78, .istore 6, 2, 0, 0, 0, 0, 0), (80, .aload_n 0, 1, 0, 0, 0, 0, 0), (81, .getfield 36, 3, 7, 4, 0, 0, 0), (84, .invokevirtual 226, 3, 111, 1, 7, 0, 0), (87, .aload_n 0, 1, 0, 0, 0, 0, 0), (88, .getfield 36, 3, 7, 4, 0, 0, 0), (91, .iload 4, 2, 0, 0, 0, 0, 0), (93, .iload 6, 2, 0, 0, 0, 0, 0), (95, .idiv, 1, 0, 0, 0, 0, 0), (96, .invokevirtual 229, 3, 112, 2, 7, 0, 0), (99, .aload_n 0, 1, 0, 0, 0, 0, 0), (100, .getfield 36, 3, 7, 4, 0, 0, 0), (103, .iload 5, 2, 0, 0, 0, 0, 0), (105, .iload 6, 2, 0, 0, 0, 0, 0), (107, .idiv, 1, 0, 0, 0, 0, 0), (108, .invokevirtual 229, 3, 112, 2, 7, 0, 0), (111, .iconst 0, 1, 0, 0, 0, (0), 0), (112, .ireturn, 1, 0, 0, 0, 0, 0)]
def cm_X10_odds : am_M := fun pc => cd_X10_odds.lookup pc
def cd_X10_felt : List (Nat × am_E) := [(0, .iload_n 1, 1, 0, 0, 0, 0, 0), (1, .iload_n 2, 1, 0, 0, 0, 0, 0), (2, .invokestatic 356, 3, 25, 2, 0, 0, 0), (5, .ifCond .eq 15, 3, 20, 0, 0, 0, 0), (8, .aload_n 0, 1, 0, 0, 0, 0, 0), (9, .getfield 52, 3, 7, 6, 0, 0, 0), (12, .iload_n 1, 1, 0, 0, 0, 0, 0), (13, .iload_n 2, 1, 0, 0, 0, 0, 0), (14, .invokevirtual 359, 3, 23, 3, 1, 0, 0), (17, .goto 4, 3, 21, 0, 0, 0, 0), (20, .iconst (-1), 1, 0, 0, 0, (-1), 0), (21, .ireturn, 1, 0, 0, 0, 0, 0)]
def cm_X10_felt : am_M := fun pc => cd_X10_felt.lookup pc
def cd_X10_forget : List (Nat × am_E) := [(0, .aload_n 0, 1, 0, 0, 0, 0, 0), (1, .getfield 52, 3, 7, 6, 0, 0, 0), (4, .invokevirtual 361, 3, 24, 1, 1, 0, 0), (7, .ireturn, 1, 0, 0, 0, 0, 0)]
def cm_X10_forget : am_M := fun pc => cd_X10_forget.lookup pc
def cd_X10_guess : List (Nat × am_E) := [(0, .aload_n 0, 1, 0, 0, 0, 0, 0), (1, .getfield 10, 3, 7, 0, 0, 0, 0), (4, .iload_n 1, 1, 0, 0, 0, 0, 0), (5, .invokevirtual 116, 3, 79, 2, 5, 0, 0), (8, .ifCond .eq 5, 3, 13, 0, 0, 0, 0), (11, .iconst (-1), 1, 0, 0, 0, (-1), 0), (12, .ireturn, 1, 0, 0, 0, 0, 0), (13, .aload_n 0, 1, 0, 0, 0, 0, 0), (14, .getfield 52, 3, 7, 6, 0, 0, 0), (17, .aload_n 0, 1, 0, 0, 0, 0, 0), (18, .getfield 10, 3, 7, 0, 0, 0, 0), (21, .getfield 126, 3, 4, 0, 0, 0, 0), (24, .iload_n 1, 1, 0, 0, 0, 0, 0), (25, .iaload, 1, 0, 0, 0, 0, 0), (26, .aload_n 0, 1, 0, 0, 0, 0, 0), (27, .getfield 10, 3, 7, 0, 0, 0, 0), (30, .getfield 129, 3, 4, 1, 0, 0, 0), (33, .iload_n 1, 1, 0, 0, 0, 0, 0), (34, .iaload, 1, 0, 0, 0, 0, 0), (35, .invokevirtual 363, 3, 26, 3, 1, 0, 0), (38, .istore_n 2, 1, 0, 0, 0, 0, 0), (39, .aload_n 0, 1, 0, 0, 0, 0, 0), (40, .getfield 36, 3, 7, 4, 0, 0, 0), (43, .invokevirtual 226, 3, 111, 1, 7, 0, 0), (46, .aload_n 0, 1, 0, 0, 0, 0, 0), (47, .getfield 36, 3, 7, 4, 0, 0, 0), (50, .iload_n 2, 1, 0, 0, 0, 0, 0), (51, .invokestatic 271, 3, 323, 1, 0, 0, 0), (54, .invokevirtual 229, 3, 112, 2, 7, 0, 0), (57, .aload_n 0, 1, 0, 0, 0, 0, 0), (58, .getfield 36, 3, 7, 4, 0, 0, 0), (61, .iload_n 2, 1, 0, 0, 0, 0, 0), (62, .iconst 1, 1, 0, 0, 0, (1), 0), (63, .iand, 1, 0, 0, 0, 0, 0), (64, .invokevirtual 229, 3, 112, 2, 7, 0, 0), (67, .iload_n 2, 1, 0, 0, 0, 0, 0), (68, .ireturn, 1, 0, 0, 0, 0, 0)]
def cm_X10_guess : am_M := fun pc => cd_X10_guess.lookup pc
def cd_X10_feels : List (Nat × am_E) := [(0, .aload_n 0, 1, 0, 0, 0, 0, 0), (1, .getfield 10, 3, 7, 0, 0, 0, 0), (4, .iload_n 1, 1, 0, 0, 0, 0, 0), (5, .invokevirtual 116, 3, 79, 2, 5, 0, 0), (8, .ifCond .eq 5, 3, 13, 0, 0, 0, 0), (11, .iconst (-1), 1, 0, 0, 0, (-1), 0), (12, .ireturn, 1, 0, 0, 0, 0, 0), (13, .aload_n 0, 1, 0, 0, 0, 0, 0), (14, .getfield 10, 3, 7, 0, 0, 0, 0), (17, .getfield 126, 3, 4, 0, 0, 0, 0), (20, .iload_n 1, 1, 0, 0, 0, 0, 0), (21, .iaload, 1, 0, 0, 0, 0, 0), (22, .istore_n 2, 1, 0, 0, 0, 0, 0), (23, .aload_n 0, 1, 0, 0, 0, 0, 0), (24, .getfield 10, 3, 7, 0, 0, 0, 0), (27, .getfield 129, 3, 4, 1, 0, 0, 0), (30, .iload_n 1, 1, 0, 0, 0, 0, 0), (31, .iaload, 1, 0, 0, 0, 0, 0), (32, .istore_n 3, 1, 0, 0, 0, 0, 0), (33, .aload_n 0, 1, 0, 0, 0, 0, 0), (34, .getfield 52, 3, 7, 6, 0, 0, 0), (37, .iload_n 2, 1, 0, 0, 0, 0, 0), (38, .iload_n 3, 1, 0, 0, 0, 0, 0), (39, .invokevirtual 363, 3, 26, 3, 1, 0, 0), (42, .istore 4, 2, 0, 0, 0, 0, 0), (44, .iload 4, 2, 0, 0, 0, 0, 0), (46, .ifCond .ne 6, 3, 52, 0, 0, 0, 0), (49, .bipush (-2), 2, 0, 0, 0, (-2), 0), (51, .ireturn, 1, 0, 0, 0, 0, 0), (52, .iconst 0, 1, 0, 0, 0, (0), 0), (53, .istore 5, 2, 0, 0, 0, 0, 0), (55, .iload_n 3, 1, 0, 0, 0, 0, 0), (56, .iconst 1, 1, 0, 0, 0, (1), 0), (57, .iadd, 1, 0, 0, 0, 0, 0), (58, .istore 6, 2, 0, 0, 0, 0, 0), (60, .iconst 0, 1, 0, 0, 0, (0), 0), (61, .istore 7, 2, 0, 0, 0, 0, 0), (63, .iload 7, 2, 0, 0, 0, 0, 0), (65, .iload_n 3, 1, 0, 0, 0, 0, 0), (66, .if_icmp .ge 35, 3, 101, 0, 0, 0, 0), (69, .iload_n 2, 1, 0, 0, 0, 0, 0), (70, .iload_n 3, 1, 0, 0, 0, 0, 0), (71, .iload 4, 2, 0, 0, 0, 0, 0), (73, .iload 7, 2, 0, 0, 0, 0, 0), (75, .invokestatic 366, 3, 28, 4, 0, 0, 0), (78, .istore 8, 2, 0, 0, 0, 0, 0), (80, .iload 8, 2, 0, 0, 0, 0, 0), (82, .iload 6, 2, 0, 0, 0, 0, 0), (84, .if_icmp .ge 11, 3, 95, 0, 0, 0, 0), (87, .iload 8, 2, 0, 0, 0, 0, 0), (89, .istore 6, 2, 0, 0, 0, 0, 0), (91, .iload 7, 2, 0, 0, 0, 0, 0), (93, .istore 5, 2, 0, 0, 0, 0, 0), (95, .iinc 7 1, 3, 0, 0, 0, (1), 0), (98, .goto (-35), 3, 63, 0, 0, 0, 0), (101, .aload_n 0, 1, 0, 0, 0, 0, 0), (102, .getfield 36, 3, 7, 4, 0, 0, 0), (105, .invokevirtual 226, 3, 111, 1, 7, 0, 0), (108, .aload_n 0, 1, 0, 0, 0, 0, 0), (109, .getfield 36, 3, 7, 4, 0, 0, 0), (112, .iload 6, 2, 0, 0, 0, 0, 0), (114, .invokevirtual 229, 3, 112, 2, 7, 0, 0), (117, .iload 5, 2, 0, 0, 0, 0, 0), (119, .ireturn, 1, 0, 0, 0, 0, 0)]
def cm_X10_feels : am_M := fun pc => cd_X10_feels.lookup pc
def cd_X10_heard : List (Nat × am_E) := [(0, .iload_n 1, 1, 0, 0, 0, 0, 0), (1, .iload_n 2, 1, 0, 0, 0, 0, 0), (2, .invokestatic 369, 3, 29, 2, 0, 0, 0), (5, .ifCond .eq 15, 3, 20, 0, 0, 0, 0), (8, .aload_n 0, 1, 0, 0, 0, 0, 0), (9, .getfield 56, 3, 7, 7, 0, 0, 0), (12, .iload_n 1, 1, 0, 0, 0, 0, 0), (13, .iload_n 2, 1, 0, 0, 0, 0, 0), (14, .invokevirtual 359, 3, 23, 3, 1, 0, 0), (17, .goto 4, 3, 21, 0, 0, 0, 0), (20, .iconst (-1), 1, 0, 0, 0, (-1), 0), (21, .ireturn, 1, 0, 0, 0, 0, 0)]
def cm_X10_heard : am_M := fun pc => cd_X10_heard.lookup pc
def cd_X10_denies : List (Nat × am_E) := [(0, .aload_n 0, 1, 0, 0, 0, 0, 0), (1, .getfield 56, 3, 7, 7, 0, 0, 0), (4, .invokevirtual 361, 3, 24, 1, 1, 0, 0), (7, .ireturn, 1, 0, 0, 0, 0, 0)]
def cm_X10_denies : am_M := fun pc => cd_X10_denies.lookup pc
def cd_X10_fits : List (Nat × am_E) := [(0, .aload_n 0, 1, 0, 0, 0, 0, 0), (1, .getfield 56, 3, 7, 7, 0, 0, 0), (4, .aload_n 0, 1, 0, 0, 0, 0, 0), (5, .getfield 10, 3, 7, 0, 0, 0, 0), (8, .invokevirtual 372, 3, 30, 2, 1, 0, 0), (11, .istore_n 1, 1, 0, 0, 0, 0, 0), (12, .aload_n 0, 1, 0, 0, 0, 0, 0), (13, .getfield 36, 3, 7, 4, 0, 0, 0), (16, .invokevirtual 226, 3, 111, 1, 7, 0, 0), (19, .aload_n 0, 1, 0, 0, 0, 0, 0), (20, .getfield 36, 3, 7, 4, 0, 0, 0), (23, .iload_n 1, 1, 0, 0, 0, 0, 0), (24, .invokestatic 271, 3, 323, 1, 0, 0, 0), (27, .invokevirtual 229, 3, 112, 2, 7, 0, 0), (30, .iload_n 1, 1, 0, 0, 0, 0, 0), (31, .ireturn, 1, 0, 0, 0, 0, 0)]
def cm_X10_fits : am_M := fun pc => cd_X10_fits.lookup pc
def cd_X10_asks : List (Nat × am_E) := [(0, .aload_n 0, 1, 0, 0, 0, 0, 0), (1, .getfield 56, 3, 7, 7, 0, 0, 0), (4, .aload_n 0, 1, 0, 0, 0, 0, 0), (5, .getfield 10, 3, 7, 0, 0, 0, 0), (8, .invokevirtual 372, 3, 30, 2, 1, 0, 0), (11, .istore_n 1, 1, 0, 0, 0, 0, 0), (12, .iload_n 1, 1, 0, 0, 0, 0, 0), (13, .ifCond .ne 6, 3, 19, 0, 0, 0, 0), (16, .bipush (-2), 2, 0, 0, 0, (-2), 0), (18, .ireturn, 1, 0, 0, 0, 0, 0), (19, .iconst 0, 1, 0, 0, 0, (0), 0), (20, .istore_n 2, 1, 0, 0, 0, 0, 0), (21, .bipush 6, 2, 0, 0, 0, (6), 0), (23, .istore_n 3, 1, 0, 0, 0, 0, 0), (24, .iconst 0, 1, 0, 0, 0, (0), 0), (25, .istore 4, 2, 0, 0, 0, 0, 0), (27, .iload 4, 2, 0, 0, 0, 0, 0), (29, .bipush 40, 2, 0, 0, 0, (40), 0), (31, .if_icmp .ge 75, 3, 106, 0, 0, 0, 0), (34, .iload 4, 2, 0, 0, 0, 0, 0), (36, .bipush 10, 2, 0, 0, 0, (10), 0), (38, .idiv, 1, 0, 0, 0, 0, 0), (39, .iload 4, 2, 0, 0, 0, 0, 0), (41, .bipush 10, 2, 0, 0, 0, (10), 0), (43, .irem, 1, 0, 0, 0, 0, 0), (44, .invokestatic 369, 3, 29, 2, 0, 0, 0), (47, .ifCond .eq 53, 3, 100, 0, 0, 0, 0), (50, .iload_n 1, 1, 0, 0, 0, 0, 0), (51, .aload_n 0, 1, 0, 0, 0, 0, 0), (52, .getfield 10, 3, 7, 0, 0, 0, 0), (55, .iload 4, 2, 0, 0, 0, 0, 0), (57, .bipush 10, 2, 0, 0, 0, (10), 0), (59, .idiv, 1, 0, 0, 0, 0, 0), (60, .iload 4, 2, 0, 0, 0, 0, 0), (62, .bipush 10, 2, 0, 0, 0, (10), 0), (64, .irem, 1, 0, 0, 0, 0, 0), (65, .invokestatic 375, 3, 31, 3, 0, 0, 0), (68, .iand, 1, 0, 0, 0, 0, 0), (69, .invokestatic 271, 3, 323, 1, 0, 0, 0), (72, .istore 5, 2, 0, 0, 0, 0, 0), (74, .iload 5, 2, 0, 0, 0, 0, 0), (76, .iload_n 1, 1, 0, 0, 0, 0, 0), (77, .invokestatic 271, 3, 323, 1, 0, 0, 0), (80, .iload 5, 2, 0, 0, 0, 0, 0), (82, .isub, 1, 0, 0, 0, 0, 0), (83, .invokestatic 348, 3, 324, 2, 0, 0, 0), (86, .istore 6, 2, 0, 0, 0, 0, 0), (88, .iload 6, 2, 0, 0, 0, 0, 0), (90, .iload_n 3, 1, 0, 0, 0, 0, 0), (91, .if_icmp .ge 9, 3, 100, 0, 0, 0, 0), (94, .iload 6, 2, 0, 0, 0, 0, 0), (96, .istore_n 3, 1, 0, 0, 0, 0, 0), (97, .iload 4, 2, 0, 0, 0, 0, 0), (99, .istore_n 2, 1, 0, 0, 0, 0, 0), (100, .iinc 4 1, 3, 0, 0, 0, (1), 0), (103, .goto (-76), 3, 27, 0, 0, 0, 0), (106, .aload_n 0, 1, 0, 0, 0, 0, 0), (107, .getfield 36, 3, 7, 4, 0, 0, 0), (110, .invokevirtual 226, 3, 111, 1, 7, 0, 0), (113, .aload_n 0, 1, 0, 0, 0, 0, 0), (114, .getfield 36, 3, 7, 4, 0, 0, 0), (117, .iload_n 3, 1, 0, 0, 0, 0, 0), (118, .invokevirtual 229, 3, 112, 2, 7, 0, 0), (121, .iload_n 2, 1, 0, 0, 0, 0, 0), (122, .ireturn, 1, 0, 0, 0, 0, 0)]
def cm_X10_asks : am_M := fun pc => cd_X10_asks.lookup pc
def cd_X10_ring : List (Nat × am_E) := [(0, .iload_n 1, 1, 0, 0, 0, 0, 0), (1, .ifCond .lt 9, 3, 10, 0, 0, 0, 0), (4, .iload_n 1, 1, 0, 0, 0, 0, 0), (5, .bipush 40, 2, 0, 0, 0, (40), 0), (7, .if_icmp .le 5, 3, 12, 0, 0, 0, 0), (10, .iconst (-1), 1, 0, 0, 0, (-1), 0), (11, .ireturn, 1, 0, 0, 0, 0, 0), (12, .aload_n 0, 1, 0, 0, 0, 0, 0), (13, .getfield 36, 3, 7, 4, 0, 0, 0), (16, .invokevirtual 226, 3, 111, 1, 7, 0, 0), (19, .iload_n 1, 1, 0, 0, 0, 0, 0), (20, .iconst 1, 1, 0, 0, 0, (1), 0), (21, .if_icmp .eq 8, 3, 29, 0, 0, 0, 0), (24, .iload_n 1, 1, 0, 0, 0, 0, 0), (25, .iconst 2, 1, 0, 0, 0, (2), 0), (26, .if_icmp .ne 13, 3, 39, 0, 0, 0, 0), (29, .aload_n 0, 1, 0, 0, 0, 0, 0), (30, .getfield 36, 3, 7, 4, 0, 0, 0), (33, .iload_n 1, 1, 0, 0, 0, 0, 0), (34, .invokevirtual 229, 3, 112, 2, 7, 0, 0), (37, .iconst 1, 1, 0, 0, 0, (1), 0), (38, .ireturn, 1, 0, 0, 0, 0, 0), (39, .iconst 0, 1, 0, 0, 0, (0), 0), (40, .ireturn, 1, 0, 0, 0, 0, 0)]
def cm_X10_ring : am_M := fun pc => cd_X10_ring.lookup pc
def cd_X10_law : List (Nat × am_E) := [(0, .aload_n 0, 1, 0, 0, 0, 0, 0), (1, .getfield 73, 3, 7, 11, 0, 0, 0), (4, .aload_n 0, 1, 0, 0, 0, 0, 0), (5, .getfield 29, 3, 7, 3, 0, 0, 0), (8, .invokevirtual 109, 3, 64, 2, 4, 0, 0), (11, .istore_n 1, 1, 0, 0, 0, 0, 0), (12, .aload_n 0, 1, 0, 0, 0, 0, 0), (13, .getfield 29, 3, 7, 3, 0, 0, 0), (16, .invokevirtual 113, 3, 108, 1, 6, 0, 0), (19, .iload_n 1, 1, 0, 0, 0, 0, 0), (20, .ifCond .lt 9, 3, 29, 0, 0, 0, 0), (23, .sipush (-10000), 3, 0, 0, 0, (-10000), 0), (26, .iload_n 1, 1, 0, 0, 0, 0, 0), (27, .isub, 1, 0, 0, 0, 0, 0), (28, .ireturn, 1, 0, 0, 0, 0, 0), (29, .aload_n 0, 1, 0, 0, 0, 0, 0), (30, .getfield 10, 3, 7, 0, 0, 0, 0), (33, .aload_n 0, 1, 0, 0, 0, 0, 0), (34, .getfield 73, 3, 7, 11, 0, 0, 0), (37, .invokevirtual 379, 3, 100, 2, 5, 0, 0), (40, .istore_n 2, 1, 0, 0, 0, 0, 0), (41, .aload_n 0, 1, 0, 0, 0, 0, 0), (42, .getfield 10, 3, 7, 0, 0, 0, 0), (45, .aload_n 0, 1, 0, 0, 0, 0, 0), (46, .getfield 69, 3, 7, 10, 0, 0, 0), (49, .invokevirtual 379, 3, 100, 2, 5, 0, 0), (52, .istore_n 3, 1, 0, 0, 0, 0, 0), (53, .aload_n 0, 1, 0, 0, 0, 0, 0), (54, .getfield 36, 3, 7, 4, 0, 0, 0), (57, .invokevirtual 226, 3, 111, 1, 7, 0, 0), (60, .aload_n 0, 1, 0, 0, 0, 0, 0), (61, .getfield 36, 3, 7, 4, 0, 0, 0), (64, .iload_n 2, 1, 0, 0, 0, 0, 0), (65, .invokevirtual 229, 3, 112, 2, 7, 0, 0), (68, .aload_n 0, 1, 0, 0, 0, 0, 0), (69, .getfield 36, 3, 7, 4, 0, 0, 0), (72, .iload_n 3, 1, 0, 0, 0, 0, 0), (73, .invokevirtual 229, 3, 112, 2, 7, 0, 0), (76, .iload_n 2, 1, 0, 0, 0, 0, 0), (77, .iload_n 3, 1, 0, 0, 0, 0, 0), (78, .isub, 1, 0, 0, 0, 0, 0), (79, .ireturn, 1, 0, 0, 0, 0, 0)]
def cm_X10_law : am_M := fun pc => cd_X10_law.lookup pc
def cd_X10_bargains : List (Nat × am_E) := [(0, .iload_n 1, 1, 0, 0, 0, 0, 0), (1, .ifCond .lt 9, 3, 10, 0, 0, 0, 0), (4, .iload_n 1, 1, 0, 0, 0, 0, 0), (5, .bipush 18, 2, 0, 0, 0, (18), 0), (7, .if_icmp .le 5, 3, 12, 0, 0, 0, 0), (10, .iconst (-1), 1, 0, 0, 0, (-1), 0), (11, .ireturn, 1, 0, 0, 0, 0, 0), (12, .iconst 0, 1, 0, 0, 0, (0), 0), (13, .istore_n 2, 1, 0, 0, 0, 0, 0), (14, .aload_n 0, 1, 0, 0, 0, 0, 0), (15, .getfield 36, 3, 7, 4, 0, 0, 0), (18, .invokevirtual 226, 3, 111, 1, 7, 0, 0), (21, .iconst 0, 1, 0, 0, 0, (0), 0), (22, .istore_n 3, 1, 0, 0, 0, 0, 0), (23, .iload_n 3, 1, 0, 0, 0, 0, 0), (24, .bipush 10, 2, 0, 0, 0, (10), 0), (26, .if_icmp .ge 69, 3, 95, 0, 0, 0, 0), (29, .iconst 0, 1, 0, 0, 0, (0), 0), (30, .istore 4, 2, 0, 0, 0, 0, 0), (32, .iload 4, 2, 0, 0, 0, 0, 0), (34, .bipush 10, 2, 0, 0, 0, (10), 0), (36, .if_icmp .ge 53, 3, 89, 0, 0, 0, 0), (39, .iload_n 1, 1, 0, 0, 0, 0, 0), (40, .iload_n 3, 1, 0, 0, 0, 0, 0), (41, .iload 4, 2, 0, 0, 0, 0, 0), (43, .invokestatic 383, 3, 170, 3, 0, 0, 0), (46, .ifCond .eq 37, 3, 83, 0, 0, 0, 0), (49, .iload_n 1, 1, 0, 0, 0, 0, 0), (50, .iload 4, 2, 0, 0, 0, 0, 0), (52, .iload_n 3, 1, 0, 0, 0, 0, 0), (53, .invokestatic 383, 3, 170, 3, 0, 0, 0), (56, .ifCond .eq 27, 3, 83, 0, 0, 0, 0), (59, .iload_n 2, 1, 0, 0, 0, 0, 0), (60, .ifCond .ne 20, 3, 80, 0, 0, 0, 0), (63, .aload_n 0, 1, 0, 0, 0, 0, 0), (64, .getfield 36, 3, 7, 4, 0, 0, 0), (67, .iload_n 3, 1, 0, 0, 0, 0, 0), (68, .invokevirtual 229, 3, 112, 2, 7, 0, 0), (71, .aload_n 0, 1, 0, 0, 0, 0, 0), (72, .getfield 36, 3, 7, 4, 0, 0, 0), (75, .iload 4, 2, 0, 0, 0, 0, 0), (77, .invokevirtual 229, 3, 112, 2, 7, 0, 0), (80, .iinc 2 1, 3, 0, 0, 0, (1), 0), (83, .iinc 4 1, 3, 0, 0, 0, (1), 0), (86, .goto (-54), 3, 32, 0, 0, 0, 0), (89, .iinc 3 1, 3, 0, 0, 0, (1), 0), (92, .goto (-69), 3, 23, 0, 0, 0, 0), (95, .iload_n 2, 1, 0, 0, 0, 0, 0), (96, .ireturn, 1, 0, 0, 0, 0, 0)]
def cm_X10_bargains : am_M := fun pc => cd_X10_bargains.lookup pc
def cd_X10_years : List (Nat × am_E) := [(0, .iload_n 2, 1, 0, 0, 0, 0, 0), (1, .iconst 1, 1, 0, 0, 0, (1), 0), (2, .if_icmp .lt 9, 3, 11, 0, 0, 0, 0), (5, .iload_n 2, 1, 0, 0, 0, 0, 0), (6, .bipush 60, 2, 0, 0, 0, (60), 0), (8, .if_icmp .le 5, 3, 13, 0, 0, 0, 0), (11, .iconst (-1), 1, 0, 0, 0, (-1), 0), (12, .ireturn, 1, 0, 0, 0, 0, 0), (13, .aload_n 0, 1, 0, 0, 0, 0, 0), (14, .getfield 16, 3, 7, 1, 0, 0, 0), (17, .aload_n 0, 1, 0, 0, 0, 0, 0), (18, .getfield 10, 3, 7, 0, 0, 0, 0), (21, .invokevirtual 387, 3, 78, 2, 5, 0, 0), (24, .aload_n 0, 1, 0, 0, 0, 0, 0), (25, .iload_n 1, 1, 0, 0, 0, 0, 0), (26, .putfield 390, 3, 7, 12, 0, 0, 0), (29, .iconst 0, 1, 0, 0, 0, (0), 0), (30, .istore_n 3, 1, 0, 0, 0, 0, 0), (31, .iload_n 3, 1, 0, 0, 0, 0, 0), (32, .iload_n 2, 1, 0, 0, 0, 0, 0), (33, .if_icmp .ge 13, 3, 46, 0, 0, 0, 0), (36, .aload_n 0, 1, 0, 0, 0, 0, 0), (37, .invokevirtual 393, 3, 172, 1, 8, 0, 0), (40, .iinc 3 1, 3, 0, 0, 0, (1), 0), (43, .goto (-12), 3, 31, 0, 0, 0, 0), (46, .aload_n 0, 1, 0, 0, 0, 0, 0), (47, .getfield 36, 3, 7, 4, 0, 0, 0), (50, .invokevirtual 226, 3, 111, 1, 7, 0, 0), (53, .aload_n 0, 1, 0, 0, 0, 0, 0), (54, .getfield 36, 3, 7, 4, 0, 0, 0), (57, .aload_n 0, 1, 0, 0, 0, 0, 0), (58, .getfield 16, 3, 7, 1, 0, 0, 0), (61, .invokevirtual 255, 3, 98, 1, 5, 0, 0), (64, .invokevirtual 229, 3, 112, 2, 7, 0, 0), (67, .aload_n 0, 1, 0, 0, 0, 0, 0), (68, .getfield 36, 3, 7, 4, 0, 0, 0), (71, .aload_n 0, 1, 0, 0, 0, 0, 0), (72, .getfield 16, 3, 7, 1, 0, 0, 0), (75, .invokevirtual 171, 3, 102, 1, 5, 0, 0), (78, .invokevirtual 229, 3, 112, 2, 7, 0, 0), (81, .aload_n 0, 1, 0, 0, 0, 0, 0), (82, .getfield 16, 3, 7, 1, 0, 0, 0), (85, .invokevirtual 396, 3, 101, 1, 5, 0, 0), (88, .ireturn, 1, 0, 0, 0, 0, 0)]
def cm_X10_years : am_M := fun pc => cd_X10_years.lookup pc
def cd_X10_keep : List (Nat × am_E) := [(0, .aload_n 0, 1, 0, 0, 0, 0, 0), (1, .getfield 22, 3, 7, 2, 0, 0, 0), (4, .iload_n 1, 1, 0, 0, 0, 0, 0), (5, .aload_n 0, 1, 0, 0, 0, 0, 0), (6, .getfield 10, 3, 7, 0, 0, 0, 0), (9, .invokevirtual 399, 3, 61, 3, 3, 0, 0), (12, .ireturn, 1, 0, 0, 2, 0, 0)]
def cm_X10_keep : am_M := fun pc => cd_X10_keep.lookup pc
def cd_X10_again : List (Nat × am_E) := [(0, .aload_n 0, 1, 0, 0, 0, 0, 0), (1, .getfield 22, 3, 7, 2, 0, 0, 0), (4, .iload_n 1, 1, 0, 0, 0, 0, 0), (5, .aload_n 0, 1, 0, 0, 0, 0, 0), (6, .getfield 10, 3, 7, 0, 0, 0, 0), (9, .invokevirtual 403, 3, 62, 3, 3, 0, 0), (12, .ireturn, 1, 0, 0, 2, 0, 0)]
def cm_X10_again : am_M := fun pc => cd_X10_again.lookup pc
def cd_X10_count : List (Nat × am_E) := [(0, .iload_n 1, 1, 0, 0, 0, 0, 0), (1, .tableswitch 139 0 9 #[55, 63, 71, 79, 87, 99, 107, 115, 123, 131], 55, 0, 0, 0, 0, 0), (56, .aload_n 0, 1, 0, 0, 0, 0, 0), (57, .getfield 10, 3, 7, 0, 0, 0, 0), (60, .getfield 232, 3, 4, 3, 0, 0, 0), (63, .ireturn, 1, 0, 0, 0, 0, 0), (64, .aload_n 0, 1, 0, 0, 0, 0, 0), (65, .getfield 10, 3, 7, 0, 0, 0, 0), (68, .invokevirtual 396, 3, 101, 1, 5, 0, 0), (71, .ireturn, 1, 0, 0, 0, 0, 0), (72, .aload_n 0, 1, 0, 0, 0, 0, 0), (73, .getfield 10, 3, 7, 0, 0, 0, 0), (76, .invokevirtual 171, 3, 102, 1, 5, 0, 0), (79, .ireturn, 1, 0, 0, 0, 0, 0), (80, .aload_n 0, 1, 0, 0, 0, 0, 0), (81, .getfield 10, 3, 7, 0, 0, 0, 0), (84, .getfield 406, 3, 4, 4, 0, 0, 0), (87, .ireturn, 1, 0, 0, 0, 0, 0), (88, .aload_n 0, 1, 0, 0, 0, 0, 0), (89, .getfield 10, 3, 7, 0, 0, 0, 0), (92, .aload_n 0, 1, 0, 0, 0, 0, 0), (93, .getfield 69, 3, 7, 10, 0, 0, 0), (96, .invokevirtual 379, 3, 100, 2, 5, 0, 0), (99, .ireturn, 1, 0, 0, 0, 0, 0), (100, .aload_n 0, 1, 0, 0, 0, 0, 0), (101, .getfield 52, 3, 7, 6, 0, 0, 0), (104, .getfield 409, 3, 0, 2, 0, 0, 0), (107, .ireturn, 1, 0, 0, 0, 0, 0), (108, .aload_n 0, 1, 0, 0, 0, 0, 0), (109, .getfield 56, 3, 7, 7, 0, 0, 0), (112, .getfield 409, 3, 0, 2, 0, 0, 0), (115, .ireturn, 1, 0, 0, 0, 0, 0), (116, .aload_n 0, 1, 0, 0, 0, 0, 0), (117, .getfield 22, 3, 7, 2, 0, 0, 0), (120, .getfield 410, 3, 2, 4, 0, 0, 0), (123, .ireturn, 1, 0, 0, 0, 0, 0), (124, .aload_n 0, 1, 0, 0, 0, 0, 0), (125, .getfield 36, 3, 7, 4, 0, 0, 0), (128, .getfield 329, 3, 6, 1, 0, 0, 0), (131, .ireturn, 1, 0, 0, 0, 0, 0), (132, .aload_n 0, 1, 0, 0, 0, 0, 0), (133, .getfield 29, 3, 7, 3, 0, 0, 0), (136, .invokevirtual 206, 3, 104, 1, 6, 0, 0), (139, .ireturn, 1, 0, 0, 0, 0, 0), (140, .bipush (-100), 2, 0, 0, 0, (-100), 0), (142, .ireturn, 1, 0, 0, 0, 0, 0)]
def cm_X10_count : am_M := fun pc => cd_X10_count.lookup pc
def cd_X10_row : List (Nat × am_E) := [(0, .iload_n 1, 1, 0, 0, 0, 0, 0), (1, .ifCond .lt 14, 3, 15, 0, 0, 0, 0), (4, .iload_n 1, 1, 0, 0, 0, 0, 0), (5, .aload_n 0, 1, 0, 0, 0, 0, 0), (6, .getfield 36, 3, 7, 4, 0, 0, 0), (9, .getfield 329, 3, 6, 1, 0, 0, 0), (12, .if_icmp .lt 14, 3, 26, 0, 0, 0, 0), (15, .new 119, 3, 0, 1, 0, 0, 0), (26, .aload_n 0, 1, 0, 0, 0, 0, 0), (27, .getfield 36, 3, 7, 4, 0, 0, 0), (30, .getfield 413, 3, 6, 0, 0, 0, 0), (33, .iload_n 1, 1, 0, 0, 0, 0, 0), (34, .iaload, 1, 0, 0, 0, 0, 0), (35, .i2l, 1, 0, 0, 0, 0, 0), (36, .lreturn, 1, 0, 0, 0, 0, 0)]
def cm_X10_row : am_M := fun pc => cd_X10_row.lookup pc
def cd_X10_addOnce : List (Nat × am_E) := [(0, .iload_n 2, 1, 0, 0, 0, 0, 0), (1, .iload 5, 2, 0, 0, 0, 0, 0), (3, .if_icmp .lt 27, 3, 30, 0, 0, 0, 0), (6, .iload 5, 2, 0, 0, 0, 0, 0), (8, .iload_n 3, 1, 0, 0, 0, 0, 0), (9, .irem, 1, 0, 0, 0, 0, 0), (10, .ifCond .ne 19, 3, 29, 0, 0, 0, 0), (13, .aload_n 0, 1, 0, 0, 0, 0, 0), (14, .getfield 36, 3, 7, 4, 0, 0, 0), (17, .iload_n 1, 1, 0, 0, 0, 0, 0), (18, .iconst 2, 1, 0, 0, 0, (2), 0), (19, .iload 5, 2, 0, 0, 0, 0, 0), (21, .iload_n 3, 1, 0, 0, 0, 0, 0), (22, .isub, 1, 0, 0, 0, 0, 0), (23, .imul, 1, 0, 0, 0, 0, 0), (24, .ishr, 1, 0, 0, 0, 0, 0), (25, .iload_n 3, 1, 0, 0, 0, 0, 0), (26, .invokevirtual 242, 3, 113, 3, 7, 0, 0), (29, .return_, 1, 0, 0, 0, 0, 0), (30, .iload_n 1, 1, 0, 0, 0, 0, 0), (31, .iconst 2, 1, 0, 0, 0, (2), 0), (32, .iload_n 3, 1, 0, 0, 0, 0, 0), (33, .iconst 1, 1, 0, 0, 0, (1), 0), (34, .isub, 1, 0, 0, 0, 0, 0), (35, .imul, 1, 0, 0, 0, 0, 0), (36, .ishr, 1, 0, 0, 0, 0, 0), (37, .iconst 3, 1, 0, 0, 0, (3), 0), (38, .iand, 1, 0, 0, 0, 0, 0), (39, .istore 6, 2, 0, 0, 0, 0, 0), (41, .iload 6, 2, 0, 0, 0, 0, 0), (43, .istore 7, 2, 0, 0, 0, 0, 0), (45, .iload 7, 2, 0, 0, 0, 0, 0), (47, .iload 4, 2, 0, 0, 0, 0, 0), (49, .if_icmp .ge 40, 3, 89, 0, 0, 0, 0), (52, .aload_n 0, 1, 0, 0, 0, 0, 0), (53, .iload_n 1, 1, 0, 0, 0, 0, 0), (54, .iconst 2, 1, 0, 0, 0, (2), 0), (55, .ishl, 1, 0, 0, 0, 0, 0), (56, .iload 7, 2, 0, 0, 0, 0, 0), (58, .ior, 1, 0, 0, 0, 0, 0), (59, .iload_n 2, 1, 0, 0, 0, 0, 0), (60, .iconst 1, 1, 0, 0, 0, (1), 0), (61, .iadd, 1, 0, 0, 0, 0, 0), (62, .iload 7, 2, 0, 0, 0, 0, 0), (64, .iload 6, 2, 0, 0, 0, 0, 0), (66, .if_icmp .ne 7, 3, 73, 0, 0, 0, 0), (69, .iload_n 3, 1, 0, 0, 0, 0, 0), (70, .goto 6, 3, 76, 0, 0, 0, 0), (73, .iload_n 2, 1, 0, 0, 0, 0, 0), (74, .iconst 1, 1, 0, 0, 0, (1), 0), (75, .iadd, 1, 0, 0, 0, 0, 0), (76, .iload 4, 2, 0, 0, 0, 0, 0), (78, .iload 5, 2, 0, 0, 0, 0, 0), (80, .invokevirtual 325, 3, 167, 6, 8, 0, 0), (83, .iinc 7 1, 3, 0, 0, 0, (1), 0), (86, .goto (-41), 3, 45, 0, 0, 0, 0), (89, .return_, 1, 0, 0, 0, 0, 0)]
def cm_X10_addOnce : am_M := fun pc => cd_X10_addOnce.lookup pc
def cd_X10_noteLeastRows : List (Nat × am_E) := [(0, .iconst 0, 1, 0, 0, 0, (0), 0), (1, .istore_n 2, 1, 0, 0, 0, 0, 0), (2, .iload_n 2, 1, 0, 0, 0, 0, 0), (3, .iconst 5, 1, 0, 0, 0, (5), 0), (4, .if_icmp .ge 51, 3, 55, 0, 0, 0, 0), (7, .aload_n 0, 1, 0, 0, 0, 0, 0), (8, .getfield 63, 3, 7, 9, 0, 0, 0), (11, .iload_n 2, 1, 0, 0, 0, 0, 0), (12, .iload_n 2, 1, 0, 0, 0, 0, 0), (13, .aload_n 0, 1, 0, 0, 0, 0, 0), (14, .getfield 10, 3, 7, 0, 0, 0, 0), (17, .getfield 232, 3, 4, 3, 0, 0, 0), (20, .if_icmp .ge 27, 3, 47, 0, 0, 0, 0), (23, .aload_n 0, 1, 0, 0, 0, 0, 0), (24, .getfield 10, 3, 7, 0, 0, 0, 0), (27, .getfield 129, 3, 4, 1, 0, 0, 0), (30, .iload_n 2, 1, 0, 0, 0, 0, 0), (31, .iaload, 1, 0, 0, 0, 0, 0), (32, .iload_n 1, 1, 0, 0, 0, 0, 0), (33, .if_icmp .ne 14, 3, 47, 0, 0, 0, 0), (36, .aload_n 0, 1, 0, 0, 0, 0, 0), (37, .getfield 10, 3, 7, 0, 0, 0, 0), (40, .iload_n 2, 1, 0, 0, 0, 0, 0), (41, .invokevirtual 314, 3, 95, 2, 5, 0, 0), (44, .goto 4, 3, 48, 0, 0, 0, 0), (47, .iconst (-1), 1, 0, 0, 0, (-1), 0), (48, .iastore, 1, 0, 0, 0, 0, 0), (49, .iinc 2 1, 3, 0, 0, 0, (1), 0), (52, .goto (-50), 3, 2, 0, 0, 0, 0), (55, .return_, 1, 0, 0, 0, 0, 0)]
def cm_X10_noteLeastRows : am_M := fun pc => cd_X10_noteLeastRows.lookup pc
def cd_X10_numberNoted : List (Nat × am_E) := [(0, .iconst 0, 1, 0, 0, 0, (0), 0), (1, .istore_n 2, 1, 0, 0, 0, 0, 0), (2, .iconst 0, 1, 0, 0, 0, (0), 0), (3, .istore_n 3, 1, 0, 0, 0, 0, 0), (4, .iload_n 3, 1, 0, 0, 0, 0, 0), (5, .iconst 5, 1, 0, 0, 0, (5), 0), (6, .if_icmp .ge 22, 3, 28, 0, 0, 0, 0), (9, .aload_n 0, 1, 0, 0, 0, 0, 0), (10, .getfield 63, 3, 7, 9, 0, 0, 0), (13, .iload_n 3, 1, 0, 0, 0, 0, 0), (14, .iaload, 1, 0, 0, 0, 0, 0), (15, .iload_n 1, 1, 0, 0, 0, 0, 0), (16, .if_icmp .ne 6, 3, 22, 0, 0, 0, 0), (19, .iinc 2 1, 3, 0, 0, 0, (1), 0), (22, .iinc 3 1, 3, 0, 0, 0, (1), 0), (25, .goto (-21), 3, 4, 0, 0, 0, 0), (28, .iload_n 2, 1, 0, 0, 0, 0, 0), (29, .ireturn, 1, 0, 0, 0, 0, 0)]
def cm_X10_numberNoted : am_M := fun pc => cd_X10_numberNoted.lookup pc
def cd_X10_hasNoBetter : List (Nat × am_E) := [(0, .iload_n 0, 1, 0, 0, 0, 0, 0), (1, .iload_n 1, 1, 0, 0, 0, 0, 0), (2, .iload_n 2, 1, 0, 0, 0, 0, 0), (3, .invokestatic 416, 3, 171, 3, 0, 0, 0), (6, .istore_n 3, 1, 0, 0, 0, 0, 0), (7, .iconst 0, 1, 0, 0, 0, (0), 0), (8, .istore 4, 2, 0, 0, 0, 0, 0), (10, .iload 4, 2, 0, 0, 0, 0, 0), (12, .bipush 10, 2, 0, 0, 0, (10), 0), (14, .if_icmp .ge 22, 3, 36, 0, 0, 0, 0), (17, .iload_n 0, 1, 0, 0, 0, 0, 0), (18, .iload 4, 2, 0, 0, 0, 0, 0), (20, .iload_n 2, 1, 0, 0, 0, 0, 0), (21, .invokestatic 416, 3, 171, 3, 0, 0, 0), (24, .iload_n 3, 1, 0, 0, 0, 0, 0), (25, .if_icmp .le 5, 3, 30, 0, 0, 0, 0), (28, .iconst 0, 1, 0, 0, 0, (0), 0), (29, .ireturn, 1, 0, 0, 2, 0, 0), (30, .iinc 4 1, 3, 0, 0, 0, (1), 0), (33, .goto (-23), 3, 10, 0, 0, 0, 0), (36, .iconst 1, 1, 0, 0, 0, (1), 0), (37, .ireturn, 1, 0, 0, 2, 0, 0)]
def cm_X10_hasNoBetter : am_M := fun pc => cd_X10_hasNoBetter.lookup pc
def cd_X10_share : List (Nat × am_E) := [(0, .iload_n 0, 1, 0, 0, 0, 0, 0), (1, .iload_n 1, 1, 0, 0, 0, 0, 0), (2, .isub, 1, 0, 0, 0, 0, 0), (3, .iload_n 2, 1, 0, 0, 0, 0, 0), (4, .isub, 1, 0, 0, 0, 0, 0), (5, .istore_n 3, 1, 0, 0, 0, 0, 0), (6, .iload_n 3, 1, 0, 0, 0, 0, 0), (7, .ifCond .lt 9, 3, 16, 0, 0, 0, 0), (10, .iload_n 1, 1, 0, 0, 0, 0, 0), (11, .iload_n 3, 1, 0, 0, 0, 0, 0), (12, .iconst 2, 1, 0, 0, 0, (2), 0), (13, .idiv, 1, 0, 0, 0, 0, 0), (14, .iadd, 1, 0, 0, 0, 0, 0), (15, .ireturn, 1, 0, 0, 0, 0, 0), (16, .iload_n 1, 1, 0, 0, 0, 0, 0), (17, .iload_n 2, 1, 0, 0, 0, 0, 0), (18, .if_icmp .le 8, 3, 26, 0, 0, 0, 0), (21, .bipush (-2), 2, 0, 0, 0, (-2), 0), (23, .goto 4, 3, 27, 0, 0, 0, 0), (26, .iconst 0, 1, 0, 0, 0, (0), 0), (27, .ireturn, 1, 0, 0, 0, 0, 0)]
def cm_X10_share : am_M := fun pc => cd_X10_share.lookup pc
def cd_X10_passYear : List (Nat × am_E) := [(0, .aload_n 0, 1, 0, 0, 0, 0, 0), (1, .iconst 4, 1, 0, 0, 0, (4), 0), (2, .invokevirtual 419, 3, 173, 2, 8, 0, 0), (5, .istore_n 1, 1, 0, 0, 0, 0, 0), (6, .aload_n 0, 1, 0, 0, 0, 0, 0), (7, .getfield 16, 3, 7, 1, 0, 0, 0), (10, .getfield 232, 3, 4, 3, 0, 0, 0), (13, .ifCond .ne 4, 3, 17, 0, 0, 0, 0), (16, .return_, 1, 0, 0, 0, 0, 0), (17, .aload_n 0, 1, 0, 0, 0, 0, 0), (18, .aload_n 0, 1, 0, 0, 0, 0, 0), (19, .getfield 16, 3, 7, 1, 0, 0, 0), (22, .getfield 232, 3, 4, 3, 0, 0, 0), (25, .invokevirtual 419, 3, 173, 2, 8, 0, 0), (28, .istore_n 2, 1, 0, 0, 0, 0, 0), (29, .aload_n 0, 1, 0, 0, 0, 0, 0), (30, .bipush 10, 2, 0, 0, 0, (10), 0), (32, .invokevirtual 419, 3, 173, 2, 8, 0, 0), (35, .istore_n 3, 1, 0, 0, 0, 0, 0), (36, .iload_n 3, 1, 0, 0, 0, 0, 0), (37, .iconst 1, 1, 0, 0, 0, (1), 0), (38, .aload_n 0, 1, 0, 0, 0, 0, 0), (39, .getfield 16, 3, 7, 1, 0, 0, 0), (42, .getfield 129, 3, 4, 1, 0, 0, 0), (45, .iload_n 2, 1, 0, 0, 0, 0, 0), (46, .iaload, 1, 0, 0, 0, 0, 0), (47, .invokestatic 348, 3, 324, 2, 0, 0, 0), (50, .irem, 1, 0, 0, 0, 0, 0), (51, .istore 4, 2, 0, 0, 0, 0, 0), (53, .iload_n 1, 1, 0, 0, 0, 0, 0), (54, .tableswitch 69 0 2 #[26, 39, 53], 26, 0, 0, 0, 0, 0), (80, .aload_n 0, 1, 0, 0, 0, 0, 0), (81, .getfield 16, 3, 7, 1, 0, 0, 0), (84, .iload_n 2, 1, 0, 0, 0, 0, 0), (85, .iload_n 3, 1, 0, 0, 0, 0, 0), (86, .invokevirtual 174, 3, 85, 3, 5, 0, 0), (89, .pop, 1, 0, 0, 0, 0, 0), (90, .goto 44, 3, 134, 0, 0, 0, 0), (93, .aload_n 0, 1, 0, 0, 0, 0, 0), (94, .getfield 16, 3, 7, 1, 0, 0, 0), (97, .iload_n 2, 1, 0, 0, 0, 0, 0), (98, .iload 4, 2, 0, 0, 0, 0, 0), (100, .invokevirtual 180, 3, 87, 3, 5, 0, 0), (103, .pop, 1, 0, 0, 0, 0, 0), (104, .goto 30, 3, 134, 0, 0, 0, 0), (107, .aload_n 0, 1, 0, 0, 0, 0, 0), (108, .getfield 16, 3, 7, 1, 0, 0, 0), (111, .iload_n 2, 1, 0, 0, 0, 0, 0), (112, .iconst 0, 1, 0, 0, 0, (0), 0), (113, .iload_n 3, 1, 0, 0, 0, 0, 0), (114, .iconst 4, 1, 0, 0, 0, (4), 0), (115, .irem, 1, 0, 0, 0, 0, 0), (116, .invokevirtual 183, 3, 88, 4, 5, 0, 0), (119, .pop, 1, 0, 0, 0, 0, 0), (120, .goto 14, 3, 134, 0, 0, 0, 0), (123, .aload_n 0, 1, 0, 0, 0, 0, 0), (124, .getfield 16, 3, 7, 1, 0, 0, 0), (127, .iload_n 2, 1, 0, 0, 0, 0, 0), (128, .iload 4, 2, 0, 0, 0, 0, 0), (130, .invokevirtual 186, 3, 89, 3, 5, 0, 0), (133, .pop, 1, 0, 0, 0, 0, 0), (134, .return_, 1, 0, 0, 0, 0, 0)]
def cm_X10_passYear : am_M := fun pc => cd_X10_passYear.lookup pc
def cd_X10_draw : List (Nat × am_E) := [(0, .aload_n 0, 1, 0, 0, 0, 0, 0), (1, .aload_n 0, 1, 0, 0, 0, 0, 0), (2, .getfield 390, 3, 7, 12, 0, 0, 0), (5, .ldc_w 422, 3, 0, 0, 0, (1103515245), 0), (8, .imul, 1, 0, 0, 0, 0, 0), (9, .sipush 12345, 3, 0, 0, 0, (12345), 0), (12, .iadd, 1, 0, 0, 0, 0, 0), (13, .putfield 390, 3, 7, 12, 0, 0, 0), (16, .iload_n 1, 1, 0, 0, 0, 0, 0), (17, .ifCond .le 15, 3, 32, 0, 0, 0, 0), (20, .aload_n 0, 1, 0, 0, 0, 0, 0), (21, .getfield 390, 3, 7, 12, 0, 0, 0), (24, .bipush 16, 2, 0, 0, 0, (16), 0), (26, .iushr, 1, 0, 0, 0, 0, 0), (27, .iload_n 1, 1, 0, 0, 0, 0, 0), (28, .irem, 1, 0, 0, 0, 0, 0), (29, .goto 4, 3, 33, 0, 0, 0, 0), (32, .iconst 0, 1, 0, 0, 0, (0), 0), (33, .ireturn, 1, 0, 0, 0, 0, 0)]
def cm_X10_draw : am_M := fun pc => cd_X10_draw.lookup pc
def cd_X11_thrown : List (Nat × am_E) := [(0, .aload_n 0, 1, 0, 0, 0, 0, 0), (1, .getfield 3, 3, 8, 0, 0, 0, 0), (4, .ireturn, 1, 0, 0, 0, 0, 0)]
def cm_X11_thrown : am_M := fun pc => cd_X11_thrown.lookup pc
def cd_X11_refuse : List (Nat × am_E) := [(0, .aload_n 0, 1, 0, 0, 0, 0, 0), (1, .iconst 1, 1, 0, 0, 0, (1), 0), (2, .putfield 3, 3, 8, 0, 0, 0, 0), (5, .iconst 0, 1, 0, 0, 0, (0), 0), (6, .ireturn, 1, 0, 0, 0, 0, 0)]
def cm_X11_refuse : am_M := fun pc => cd_X11_refuse.lookup pc
def cd_X11_in : List (Nat × am_E) := [(0, .lload_n 0, 1, 0, 0, 0, 0, 0), (1, .lload_n 2, 1, 0, 0, 0, 0, 0), (2, .lcmp, 1, 0, 0, 0, 0, 0), (3, .ifCond .lt 14, 3, 17, 0, 0, 0, 0), (6, .lload_n 0, 1, 0, 0, 0, 0, 0), (7, .lload 4, 2, 0, 0, 0, 0, 0), (9, .lcmp, 1, 0, 0, 0, 0, 0), (10, .ifCond .gt 7, 3, 17, 0, 0, 0, 0), (13, .iconst 1, 1, 0, 0, 0, (1), 0), (14, .goto 4, 3, 18, 0, 0, 0, 0), (17, .iconst 0, 1, 0, 0, 0, (0), 0), (18, .ireturn, 1, 0, 0, 2, 0, 0)]
def cm_X11_in : am_M := fun pc => cd_X11_in.lookup pc
def cd_X11_has : List (Nat × am_E) := [(0, .iload_n 0, 1, 0, 0, 0, 0, 0), (1, .iload_n 1, 1, 0, 0, 0, 0, 0), (2, .ishr, 1, 0, 0, 0, 0, 0), (3, .iconst 1, 1, 0, 0, 0, (1), 0), (4, .iand, 1, 0, 0, 0, 0, 0), (5, .iconst 1, 1, 0, 0, 0, (1), 0), (6, .if_icmp .ne 7, 3, 13, 0, 0, 0, 0), (9, .iconst 1, 1, 0, 0, 0, (1), 0), (10, .goto 4, 3, 14, 0, 0, 0, 0), (13, .iconst 0, 1, 0, 0, 0, (0), 0), (14, .ireturn, 1, 0, 0, 2, 0, 0)]
def cm_X11_has : am_M := fun pc => cd_X11_has.lookup pc
def cd_X11_flag : List (Nat × am_E) := [(0, .iload_n 0, 1, 0, 0, 0, 0, 0), (1, .ifCond .eq 7, 3, 8, 0, 0, 0, 0), (4, .iconst 1, 1, 0, 0, 0, (1), 0), (5, .goto 4, 3, 9, 0, 0, 0, 0), (8, .iconst 0, 1, 0, 0, 0, (0), 0), (9, .ireturn, 1, 0, 0, 0, 0, 0)]
def cm_X11_flag : am_M := fun pc => cd_X11_flag.lookup pc
def cd_X11_common : List (Nat × am_E) := [(0, .lload_n 2, 1, 0, 0, 0, 0, 0), (1, .lconst 0, 1, 0, 0, 0, 0, (0)), (2, .lcmp, 1, 0, 0, 0, 0, 0), (3, .ifCond .ne 7, 3, 10, 0, 0, 0, 0), (6, .lload_n 0, 1, 0, 0, 0, 0, 0), (7, .goto 10, 3, 17, 0, 0, 0, 0), (10, .lload_n 2, 1, 0, 0, 0, 0, 0), (11, .lload_n 0, 1, 0, 0, 0, 0, 0), (12, .lload_n 2, 1, 0, 0, 0, 0, 0), (13, .lrem, 1, 0, 0, 0, 0, 0), (14, .invokestatic 7, 3, 179, 2, 0, 0, 0), (17, .lreturn, 1, 0, 0, 0, 0, 0)]
def cm_X11_common : am_M := fun pc => cd_X11_common.lookup pc
def cd_X11_enters : List (Nat × am_E) := [(0, .aload_n 0, 1, 0, 0, 0, 0, 0), (1, .getfield 11, 3, 8, 2, 0, 0, 0), (4, .aload_n 0, 1, 0, 0, 0, 0, 0), (5, .getfield 15, 3, 8, 1, 0, 0, 0), (8, .lload_n 1, 1, 0, 0, 0, 0, 0), (9, .lastore, 1, 0, 0, 0, 0, 0), (10, .aload_n 0, 1, 0, 0, 0, 0, 0), (11, .dup, 1, 0, 0, 0, 0, 0), (12, .getfield 15, 3, 8, 1, 0, 0, 0), (15, .iconst 1, 1, 0, 0, 0, (1), 0), (16, .iadd, 1, 0, 0, 0, 0, 0), (17, .putfield 15, 3, 8, 1, 0, 0, 0), (20, .return_, 1, 0, 0, 0, 0, 0)]
def cm_X11_enters : am_M := fun pc => cd_X11_enters.lookup pc
def cd_X11_entersFraction : List (Nat × am_E) := [(0, .lload_n 1, 1, 0, 0, 0, 0, 0), (1, .lload_n 3, 1, 0, 0, 0, 0, 0), (2, .invokestatic 7, 3, 179, 2, 0, 0, 0), (5, .lstore 5, 2, 0, 0, 0, 0, 0), (7, .aload_n 0, 1, 0, 0, 0, 0, 0), (8, .iconst 0, 1, 0, 0, 0, (0), 0), (9, .putfield 15, 3, 8, 1, 0, 0, 0), (12, .aload_n 0, 1, 0, 0, 0, 0, 0), (13, .lload_n 1, 1, 0, 0, 0, 0, 0), (14, .lload 5, 2, 0, 0, 0, 0, 0), (16, .ldiv, 1, 0, 0, 0, 0, 0), (17, .invokevirtual 18, 3, 180, 2, 9, 0, 0), (20, .aload_n 0, 1, 0, 0, 0, 0, 0), (21, .lload_n 3, 1, 0, 0, 0, 0, 0), (22, .lload 5, 2, 0, 0, 0, 0, 0), (24, .ldiv, 1, 0, 0, 0, 0, 0), (25, .invokevirtual 18, 3, 180, 2, 9, 0, 0), (28, .iconst 0, 1, 0, 0, 0, (0), 0), (29, .ireturn, 1, 0, 0, 0, 0, 0)]
def cm_X11_entersFraction : am_M := fun pc => cd_X11_entersFraction.lookup pc
def cd_X11_init : List (Nat × am_E) := [(0, .aload_n 0, 1, 0, 0, 0, 0, 0), (1, .invokespecial 22, 3, 904, 1, 0, 0, 0), (4, .aload_n 0, 1, 0, 0, 0, 0, 0), (5, .bipush 24, 2, 0, 0, 0, (24), 0), (7, .newarray .long, 2, 0, 0, 0, 0, 0), (9, .putfield 11, 3, 8, 2, 1, 0, 0), (12, .aload_n 0, 1, 0, 0, 0, 0, 0), (13, .bipush 61, 2, 0, 0, 0, (61), 0), (15, .newarray .int, 2, 0, 0, 0, 0, 0), (17, .putfield 28, 3, 8, 3, 1, 0, 0), (20, .aload_n 0, 1, 0, 0, 0, 0, 0), (21, .bipush 61, 2, 0, 0, 0, (61), 0), (23, .newarray .int, 2, 0, 0, 0, 0, 0), (25, .putfield 32, 3, 8, 4, 1, 0, 0), (28, .aload_n 0, 1, 0, 0, 0, 0, 0), (29, .bipush 80, 2, 0, 0, 0, (80), 0), (31, .newarray .int, 2, 0, 0, 0, 0, 0), (33, .putfield 35, 3, 8, 5, 1, 0, 0), (36, .aload_n 0, 1, 0, 0, 0, 0, 0), (37, .bipush 10, 2, 0, 0, 0, (10), 0), (39, .newarray .int, 2, 0, 0, 0, 0, 0), (41, .putfield 38, 3, 8, 10, 1, 0, 0), (44, .aload_n 0, 1, 0, 0, 0, 0, 0), (45, .bipush 10, 2, 0, 0, 0, (10), 0), (47, .newarray .int, 2, 0, 0, 0, 0, 0), (49, .putfield 41, 3, 8, 12, 1, 0, 0), (52, .aload_n 0, 1, 0, 0, 0, 0, 0), (53, .bipush 80, 2, 0, 0, 0, (80), 0), (55, .newarray .int, 2, 0, 0, 0, 0, 0), (57, .putfield 44, 3, 8, 14, 1, 0, 0), (60, .aload_n 0, 1, 0, 0, 0, 0, 0), (61, .bipush 80, 2, 0, 0, 0, (80), 0), (63, .newarray .int, 2, 0, 0, 0, 0, 0), (65, .putfield 47, 3, 8, 15, 1, 0, 0), (68, .aload_n 0, 1, 0, 0, 0, 0, 0), (69, .bipush 80, 2, 0, 0, 0, (80), 0), (71, .newarray .int, 2, 0, 0, 0, 0, 0), (73, .putfield 50, 3, 8, 18, 1, 0, 0), (76, .aload_n 0, 1, 0, 0, 0, 0, 0), (77, .bipush 7, 2, 0, 0, 0, (7), 0), (79, .newarray .int, 2, 0, 0, 0, 0, 0), (81, .putfield 53, 3, 8, 19, 1, 0, 0), (84, .aload_n 0, 1, 0, 0, 0, 0, 0), (85, .sipush 976, 3, 0, 0, 0, (976), 0), (88, .newarray .int, 2, 0, 0, 0, 0, 0), (90, .putfield 56, 3, 8, 21, 1, 0, 0), (93, .aload_n 0, 1, 0, 0, 0, 0, 0), (94, .bipush 10, 2, 0, 0, 0, (10), 0), (96, .newarray .int, 2, 0, 0, 0, 0, 0), (98, .putfield 59, 3, 8, 22, 1, 0, 0), (101, .aload_n 0, 1, 0, 0, 0, 0, 0), (102, .bipush 60, 2, 0, 0, 0, (60), 0), (104, .newarray .int, 2, 0, 0, 0, 0, 0), (106, .putfield 62, 3, 8, 23, 1, 0, 0), (109, .aload_n 0, 1, 0, 0, 0, 0, 0), (110, .bipush 60, 2, 0, 0, 0, (60), 0), (112, .newarray .int, 2, 0, 0, 0, 0, 0), (114, .putfield 65, 3, 8, 24, 1, 0, 0), (117, .aload_n 0, 1, 0, 0, 0, 0, 0), (118, .bipush 60, 2, 0, 0, 0, (60), 0), (120, .newarray .int, 2, 0, 0, 0, 0, 0), (122, .putfield 68, 3, 8, 25, 1, 0, 0), (125, .aload_n 0, 1, 0, 0, 0, 0, 0), (126, .bipush 60, 2, 0, 0, 0, (60), 0), (128, .newarray .int, 2, 0, 0, 0, 0, 0), (130, .putfield 71, 3, 8, 26, 1, 0, 0), (133, .aload_n 0, 1, 0, 0, 0, 0, 0), (134, .iconst 4, 1, 0, 0, 0, (4), 0), (135, .newarray .int, 2, 0, 0, 0, 0, 0), (137, .putfield 74, 3, 8, 28, 1, 0, 0), (140, .aload_n 0, 1, 0, 0, 0, 0, 0), (141, .bipush 16, 2, 0, 0, 0, (16), 0), (143, .newarray .int, 2, 0, 0, 0, 0, 0), (145, .putfield 77, 3, 8, 31, 1, 0, 0), (148, .aload_n 0, 1, 0, 0, 0, 0, 0), (149, .bipush 16, 2, 0, 0, 0, (16), 0), (151, .newarray .boolean, 2, 0, 0, 0, 0, 0), (153, .putfield 80, 3, 8, 32, 1, 0, 0), (156, .aload_n 0, 1, 0, 0, 0, 0, 0), (157, .bipush 10, 2, 0, 0, 0, (10), 0), (159, .newarray .int, 2, 0, 0, 0, 0, 0), (161, .putfield 84, 3, 8, 34, 1, 0, 0), (164, .aload_n 0, 1, 0, 0, 0, 0, 0), (165, .bipush 10, 2, 0, 0, 0, (10), 0), (167, .newarray .int, 2, 0, 0, 0, 0, 0), (169, .putfield 87, 3, 8, 35, 1, 0, 0), (172, .aload_n 0, 1, 0, 0, 0, 0, 0), (173, .bipush 12, 2, 0, 0, 0, (12), 0), (175, .newarray .int, 2, 0, 0, 0, 0, 0), (177, .putfield 90, 3, 8, 37, 1, 0, 0), (180, .aload_n 0, 1, 0, 0, 0, 0, 0), (181, .bipush 12, 2, 0, 0, 0, (12), 0), (183, .newarray .int, 2, 0, 0, 0, 0, 0), (185, .putfield 93, 3, 8, 38, 1, 0, 0), (188, .aload_n 0, 1, 0, 0, 0, 0, 0), (189, .bipush 41, 2, 0, 0, 0, (41), 0), (191, .newarray .int, 2, 0, 0, 0, 0, 0), (193, .putfield 96, 3, 8, 39, 1, 0, 0), (196, .aload_n 0, 1, 0, 0, 0, 0, 0), (197, .bipush 64, 2, 0, 0, 0, (64), 0), (199, .newarray .boolean, 2, 0, 0, 0, 0, 0), (201, .putfield 99, 3, 8, 40, 1, 0, 0), (204, .aload_n 0, 1, 0, 0, 0, 0, 0), (205, .bipush 80, 2, 0, 0, 0, (80), 0), (207, .newarray .int, 2, 0, 0, 0, 0, 0), (209, .putfield 102, 3, 8, 41, 1, 0, 0), (212, .aload_n 0, 1, 0, 0, 0, 0, 0), (213, .iconst 3, 1, 0, 0, 0, (3), 0), (214, .newarray .boolean, 2, 0, 0, 0, 0, 0), (216, .putfield 105, 3, 8, 43, 1, 0, 0), (219, .aload_n 0, 1, 0, 0, 0, 0, 0), (220, .sipush 183, 3, 0, 0, 0, (183), 0), (223, .newarray .int, 2, 0, 0, 0, 0, 0), (225, .putfield 108, 3, 8, 44, 1, 0, 0), (228, .iconst 0, 1, 0, 0, 0, (0), 0), (229, .istore_n 1, 1, 0, 0, 0, 0, 0), (230, .iload_n 1, 1, 0, 0, 0, 0, 0), (231, .iconst 4, 1, 0, 0, 0, (4), 0), (232, .if_icmp .ge 20, 3, 252, 0, 0, 0, 0), (235, .aload_n 0, 1, 0, 0, 0, 0, 0), (236, .getfield 28, 3, 8, 3, 0, 0, 0), (239, .bipush 55, 2, 0, 0, 0, (55), 0), (241, .iload_n 1, 1, 0, 0, 0, 0, 0), (242, .iadd, 1, 0, 0, 0, 0, 0), (243, .bipush 12, 2, 0, 0, 0, (12), 0), (245, .iastore, 1, 0, 0, 0, 0, 0), (246, .iinc 1 1, 3, 0, 0, 0, (1), 0), (249, .goto (-19), 3, 230, 0, 0, 0, 0), (252, .return_, 1, 0, 0, 0, 0, 0)]
def cm_X11_init : am_M := fun pc => cd_X11_init.lookup pc
def cd_X11_isRing : List (Nat × am_E) := [(0, .iload_n 1, 1, 0, 0, 0, 0, 0), (1, .i2l, 1, 0, 0, 0, 0, 0), (2, .lconst 0, 1, 0, 0, 0, 0, (0)), (3, .aload_n 0, 1, 0, 0, 0, 0, 0), (4, .getfield 28, 3, 8, 3, 0, 0, 0), (7, .bipush 60, 2, 0, 0, 0, (60), 0), (9, .iaload, 1, 0, 0, 0, 0, 0), (10, .iconst 1, 1, 0, 0, 0, (1), 0), (11, .isub, 1, 0, 0, 0, 0, 0), (12, .i2l, 1, 0, 0, 0, 0, 0), (13, .invokestatic 111, 3, 176, 3, 0, 0, 0), (16, .ireturn, 1, 0, 0, 2, 0, 0)]
def cm_X11_isRing : am_M := fun pc => cd_X11_isRing.lookup pc
def cd_X11_beadAt : List (Nat × am_E) := [(0, .aload_n 0, 1, 0, 0, 0, 0, 0), (1, .iconst 5, 1, 0, 0, 0, (5), 0), (2, .bipush 10, 2, 0, 0, 0, (10), 0), (4, .iload_n 1, 1, 0, 0, 0, 0, 0), (5, .imul, 1, 0, 0, 0, 0, 0), (6, .iadd, 1, 0, 0, 0, 0, 0), (7, .iload_n 2, 1, 0, 0, 0, 0, 0), (8, .iadd, 1, 0, 0, 0, 0, 0), (9, .iaload, 1, 0, 0, 0, 0, 0), (10, .ireturn, 1, 0, 0, 0, 0, 0)]
def cm_X11_beadAt : am_M := fun pc => cd_X11_beadAt.lookup pc
def cd_X11_stockOf : List (Nat × am_E) := [(0, .iconst 0, 1, 0, 0, 0, (0), 0), (1, .istore_n 1, 1, 0, 0, 0, 0, 0), (2, .iconst 0, 1, 0, 0, 0, (0), 0), (3, .istore_n 2, 1, 0, 0, 0, 0, 0), (4, .iload_n 2, 1, 0, 0, 0, 0, 0), (5, .iconst 4, 1, 0, 0, 0, (4), 0), (6, .if_icmp .ge 18, 3, 24, 0, 0, 0, 0), (9, .iload_n 1, 1, 0, 0, 0, 0, 0), (10, .aload_n 0, 1, 0, 0, 0, 0, 0), (11, .bipush 55, 2, 0, 0, 0, (55), 0), (13, .iload_n 2, 1, 0, 0, 0, 0, 0), (14, .iadd, 1, 0, 0, 0, 0, 0), (15, .iaload, 1, 0, 0, 0, 0, 0), (16, .iadd, 1, 0, 0, 0, 0, 0), (17, .istore_n 1, 1, 0, 0, 0, 0, 0), (18, .iinc 2 1, 3, 0, 0, 0, (1), 0), (21, .goto (-17), 3, 4, 0, 0, 0, 0), (24, .iload_n 1, 1, 0, 0, 0, 0, 0), (25, .ireturn, 1, 0, 0, 0, 0, 0)]
def cm_X11_stockOf : am_M := fun pc => cd_X11_stockOf.lookup pc
def cd_X11_beadsOf : List (Nat × am_E) := [(0, .iconst 0, 1, 0, 0, 0, (0), 0), (1, .istore_n 1, 1, 0, 0, 0, 0, 0), (2, .iconst 0, 1, 0, 0, 0, (0), 0), (3, .istore_n 2, 1, 0, 0, 0, 0, 0), (4, .iload_n 2, 1, 0, 0, 0, 0, 0), (5, .aload_n 0, 1, 0, 0, 0, 0, 0), (6, .bipush 60, 2, 0, 0, 0, (60), 0), (8, .iaload, 1, 0, 0, 0, 0, 0), (9, .if_icmp .ge 15, 3, 24, 0, 0, 0, 0), (12, .iload_n 1, 1, 0, 0, 0, 0, 0), (13, .aload_n 0, 1, 0, 0, 0, 0, 0), (14, .iload_n 2, 1, 0, 0, 0, 0, 0), (15, .iaload, 1, 0, 0, 0, 0, 0), (16, .iadd, 1, 0, 0, 0, 0, 0), (17, .istore_n 1, 1, 0, 0, 0, 0, 0), (18, .iinc 2 1, 3, 0, 0, 0, (1), 0), (21, .goto (-17), 3, 4, 0, 0, 0, 0), (24, .iload_n 1, 1, 0, 0, 0, 0, 0), (25, .ireturn, 1, 0, 0, 0, 0, 0)]
def cm_X11_beadsOf : am_M := fun pc => cd_X11_beadsOf.lookup pc
def cd_X11_sign : List (Nat × am_E) := [(0, .aload_n 0, 1, 0, 0, 0, 0, 0), (1, .iconst 0, 1, 0, 0, 0, (0), 0), (2, .putfield 3, 3, 8, 0, 0, 0, 0), (5, .aload_n 0, 1, 0, 0, 0, 0, 0), (6, .getfield 115, 3, 8, 6, 0, 0, 0), (9, .bipush 76, 2, 0, 0, 0, (76), 0), (11, .if_icmp .le 5, 3, 16, 0, 0, 0, 0), (14, .iconst (-1), 1, 0, 0, 0, (-1), 0), (15, .ireturn, 1, 0, 0, 0, 0, 0), (16, .iconst 0, 1, 0, 0, 0, (0), 0), (17, .istore_n 2, 1, 0, 0, 0, 0, 0), (18, .iload_n 2, 1, 0, 0, 0, 0, 0), (19, .iconst 4, 1, 0, 0, 0, (4), 0), (20, .if_icmp .ge 33, 3, 53, 0, 0, 0, 0), (23, .aload_n 0, 1, 0, 0, 0, 0, 0), (24, .getfield 35, 3, 8, 5, 0, 0, 0), (27, .aload_n 0, 1, 0, 0, 0, 0, 0), (28, .getfield 115, 3, 8, 6, 0, 0, 0), (31, .iload_n 2, 1, 0, 0, 0, 0, 0), (32, .iadd, 1, 0, 0, 0, 0, 0), (33, .iload_n 1, 1, 0, 0, 0, 0, 0), (34, .bipush 24, 2, 0, 0, 0, (24), 0), (36, .bipush 8, 2, 0, 0, 0, (8), 0), (38, .iload_n 2, 1, 0, 0, 0, 0, 0), (39, .imul, 1, 0, 0, 0, 0, 0), (40, .isub, 1, 0, 0, 0, 0, 0), (41, .ishr, 1, 0, 0, 0, 0, 0), (42, .sipush 255, 3, 0, 0, 0, (255), 0), (45, .iand, 1, 0, 0, 0, 0, 0), (46, .iastore, 1, 0, 0, 0, 0, 0), (47, .iinc 2 1, 3, 0, 0, 0, (1), 0), (50, .goto (-32), 3, 18, 0, 0, 0, 0), (53, .aload_n 0, 1, 0, 0, 0, 0, 0), (54, .dup, 1, 0, 0, 0, 0, 0), (55, .getfield 115, 3, 8, 6, 0, 0, 0), (58, .iconst 4, 1, 0, 0, 0, (4), 0), (59, .iadd, 1, 0, 0, 0, 0, 0), (60, .putfield 115, 3, 8, 6, 0, 0, 0), (63, .aload_n 0, 1, 0, 0, 0, 0, 0), (64, .getfield 115, 3, 8, 6, 0, 0, 0), (67, .ireturn, 1, 0, 0, 0, 0, 0)]
def cm_X11_sign : am_M := fun pc => cd_X11_sign.lookup pc
def cd_X11_end : List (Nat × am_E) := [(0, .aload_n 0, 1, 0, 0, 0, 0, 0), (1, .iconst 0, 1, 0, 0, 0, (0), 0), (2, .putfield 3, 3, 8, 0, 0, 0, 0), (5, .iload_n 1, 1, 0, 0, 0, 0, 0), (6, .i2l, 1, 0, 0, 0, 0, 0), (7, .lconst 0, 1, 0, 0, 0, 0, (0)), (8, .aload_n 0, 1, 0, 0, 0, 0, 0), (9, .getfield 115, 3, 8, 6, 0, 0, 0), (12, .i2l, 1, 0, 0, 0, 0, 0), (13, .invokestatic 111, 3, 176, 3, 0, 0, 0), (16, .ifCond .ne 5, 3, 21, 0, 0, 0, 0), (19, .iconst 0, 1, 0, 0, 0, (0), 0), (20, .ireturn, 1, 0, 0, 2, 0, 0), (21, .aload_n 0, 1, 0, 0, 0, 0, 0), (22, .iload_n 1, 1, 0, 0, 0, 0, 0), (23, .putfield 115, 3, 8, 6, 0, 0, 0), (26, .iconst 1, 1, 0, 0, 0, (1), 0), (27, .ireturn, 1, 0, 0, 2, 0, 0)]
def cm_X11_end : am_M := fun pc => cd_X11_end.lookup pc
def cd_X11_begins : List (Nat × am_E) := [(0, .aload_n 0, 1, 0, 0, 0, 0, 0), (1, .getfield 115, 3, 8, 6, 0, 0, 0), (4, .istore_n 2, 1, 0, 0, 0, 0, 0), (5, .aload_n 0, 1, 0, 0, 0, 0, 0), (6, .iconst 0, 1, 0, 0, 0, (0), 0), (7, .putfield 115, 3, 8, 6, 0, 0, 0), (10, .aload_n 0, 1, 0, 0, 0, 0, 0), (11, .iconst 0, 1, 0, 0, 0, (0), 0), (12, .putfield 118, 3, 8, 7, 0, 0, 0), (15, .aload_n 0, 1, 0, 0, 0, 0, 0), (16, .iconst 0, 1, 0, 0, 0, (0), 0), (17, .putfield 121, 3, 8, 9, 0, 0, 0), (20, .aload_n 0, 1, 0, 0, 0, 0, 0), (21, .iload_n 2, 1, 0, 0, 0, 0, 0), (22, .iload_n 1, 1, 0, 0, 0, 0, 0), (23, .invokestatic 124, 3, 325, 2, 0, 0, 0), (26, .putfield 130, 3, 8, 8, 0, 0, 0), (29, .iload_n 2, 1, 0, 0, 0, 0, 0), (30, .ireturn, 1, 0, 0, 0, 0, 0)]
def cm_X11_begins : am_M := fun pc => cd_X11_begins.lookup pc
def cd_X11_takes : List (Nat × am_E) := [(0, .aload_n 0, 1, 0, 0, 0, 0, 0), (1, .getfield 118, 3, 8, 7, 0, 0, 0), (4, .aload_n 0, 1, 0, 0, 0, 0, 0), (5, .getfield 130, 3, 8, 8, 0, 0, 0), (8, .if_icmp .ge 20, 3, 28, 0, 0, 0, 0), (11, .aload_n 0, 1, 0, 0, 0, 0, 0), (12, .getfield 35, 3, 8, 5, 0, 0, 0), (15, .aload_n 0, 1, 0, 0, 0, 0, 0), (16, .getfield 118, 3, 8, 7, 0, 0, 0), (19, .iaload, 1, 0, 0, 0, 0, 0), (20, .iload_n 1, 1, 0, 0, 0, 0, 0), (21, .if_icmp .ne 7, 3, 28, 0, 0, 0, 0), (24, .iconst 1, 1, 0, 0, 0, (1), 0), (25, .goto 4, 3, 29, 0, 0, 0, 0), (28, .iconst 0, 1, 0, 0, 0, (0), 0), (29, .istore_n 2, 1, 0, 0, 0, 0, 0), (30, .aload_n 0, 1, 0, 0, 0, 0, 0), (31, .dup, 1, 0, 0, 0, 0, 0), (32, .getfield 118, 3, 8, 7, 0, 0, 0), (35, .iload_n 2, 1, 0, 0, 0, 0, 0), (36, .invokestatic 133, 3, 178, 1, 0, 0, 0), (39, .iadd, 1, 0, 0, 0, 0, 0), (40, .putfield 118, 3, 8, 7, 0, 0, 0), (43, .iload_n 2, 1, 0, 0, 0, 0, 0), (44, .ireturn, 1, 0, 0, 2, 0, 0)]
def cm_X11_takes : am_M := fun pc => cd_X11_takes.lookup pc
def cd_X11_isDigit : List (Nat × am_E) := [(0, .aload_n 0, 1, 0, 0, 0, 0, 0), (1, .getfield 118, 3, 8, 7, 0, 0, 0), (4, .aload_n 0, 1, 0, 0, 0, 0, 0), (5, .getfield 130, 3, 8, 8, 0, 0, 0), (8, .if_icmp .ge 29, 3, 37, 0, 0, 0, 0), (11, .aload_n 0, 1, 0, 0, 0, 0, 0), (12, .getfield 35, 3, 8, 5, 0, 0, 0), (15, .aload_n 0, 1, 0, 0, 0, 0, 0), (16, .getfield 118, 3, 8, 7, 0, 0, 0), (19, .iaload, 1, 0, 0, 0, 0, 0), (20, .i2l, 1, 0, 0, 0, 0, 0), (21, .ldc2_w 137, 3, 0, 0, 0, 0, (48)), (24, .ldc2_w 139, 3, 0, 0, 0, 0, (57)), (27, .invokestatic 111, 3, 176, 3, 0, 0, 0), (30, .ifCond .eq 7, 3, 37, 0, 0, 0, 0), (33, .iconst 1, 1, 0, 0, 0, (1), 0), (34, .goto 4, 3, 38, 0, 0, 0, 0), (37, .iconst 0, 1, 0, 0, 0, (0), 0), (38, .ireturn, 1, 0, 0, 2, 0, 0)]
def cm_X11_isDigit : am_M := fun pc => cd_X11_isDigit.lookup pc
def cd_X11_takesOf : List (Nat × am_E) := [(0, .iconst 0, 1, 0, 0, 0, (0), 0), (1, .istore_n 2, 1, 0, 0, 0, 0, 0), (2, .iload_n 2, 1, 0, 0, 0, 0, 0), (3, .aload_n 1, 1, 0, 0, 0, 0, 0), (4, .invokevirtual 141, 3, 901, 1, 0, 0, 0), (7, .if_icmp .ge 49, 3, 56, 0, 0, 0, 0), (10, .aload_n 0, 1, 0, 0, 0, 0, 0), (11, .getfield 118, 3, 8, 7, 0, 0, 0), (14, .aload_n 0, 1, 0, 0, 0, 0, 0), (15, .getfield 130, 3, 8, 8, 0, 0, 0), (18, .if_icmp .ge 38, 3, 56, 0, 0, 0, 0), (21, .aload_n 1, 1, 0, 0, 0, 0, 0), (22, .iload_n 2, 1, 0, 0, 0, 0, 0), (23, .invokevirtual 147, 3, 902, 2, 0, 0, 0), (26, .aload_n 0, 1, 0, 0, 0, 0, 0), (27, .getfield 35, 3, 8, 5, 0, 0, 0), (30, .aload_n 0, 1, 0, 0, 0, 0, 0), (31, .getfield 118, 3, 8, 7, 0, 0, 0), (34, .iaload, 1, 0, 0, 0, 0, 0), (35, .if_icmp .ne 15, 3, 50, 0, 0, 0, 0), (38, .aload_n 0, 1, 0, 0, 0, 0, 0), (39, .dup, 1, 0, 0, 0, 0, 0), (40, .getfield 118, 3, 8, 7, 0, 0, 0), (43, .iconst 1, 1, 0, 0, 0, (1), 0), (44, .iadd, 1, 0, 0, 0, 0, 0), (45, .putfield 118, 3, 8, 7, 0, 0, 0), (48, .iload_n 2, 1, 0, 0, 0, 0, 0), (49, .ireturn, 1, 0, 0, 0, 0, 0), (50, .iinc 2 1, 3, 0, 0, 0, (1), 0), (53, .goto (-51), 3, 2, 0, 0, 0, 0), (56, .iconst (-1), 1, 0, 0, 0, (-1), 0), (57, .ireturn, 1, 0, 0, 0, 0, 0)]
def cm_X11_takesOf : am_M := fun pc => cd_X11_takesOf.lookup pc
def cd_X11_number : List (Nat × am_E) := [(0, .aload_n 0, 1, 0, 0, 0, 0, 0), (1, .invokevirtual 151, 3, 191, 1, 9, 0, 0), (4, .ifCond .ne 5, 3, 9, 0, 0, 0, 0), (7, .iconst (-1), 1, 0, 0, 0, (-1), 0), (8, .ireturn, 1, 0, 0, 0, 0, 0), (9, .iconst 0, 1, 0, 0, 0, (0), 0), (10, .istore_n 2, 1, 0, 0, 0, 0, 0), (11, .iconst 0, 1, 0, 0, 0, (0), 0), (12, .istore_n 3, 1, 0, 0, 0, 0, 0), (13, .iload_n 3, 1, 0, 0, 0, 0, 0), (14, .iload_n 1, 1, 0, 0, 0, 0, 0), (15, .if_icmp .ge 44, 3, 59, 0, 0, 0, 0), (18, .aload_n 0, 1, 0, 0, 0, 0, 0), (19, .invokevirtual 151, 3, 191, 1, 9, 0, 0), (22, .ifCond .eq 37, 3, 59, 0, 0, 0, 0), (25, .bipush 10, 2, 0, 0, 0, (10), 0), (27, .iload_n 2, 1, 0, 0, 0, 0, 0), (28, .imul, 1, 0, 0, 0, 0, 0), (29, .aload_n 0, 1, 0, 0, 0, 0, 0), (30, .getfield 35, 3, 8, 5, 0, 0, 0), (33, .aload_n 0, 1, 0, 0, 0, 0, 0), (34, .getfield 118, 3, 8, 7, 0, 0, 0), (37, .iaload, 1, 0, 0, 0, 0, 0), (38, .iadd, 1, 0, 0, 0, 0, 0), (39, .bipush 48, 2, 0, 0, 0, (48), 0), (41, .isub, 1, 0, 0, 0, 0, 0), (42, .istore_n 2, 1, 0, 0, 0, 0, 0), (43, .aload_n 0, 1, 0, 0, 0, 0, 0), (44, .dup, 1, 0, 0, 0, 0, 0), (45, .getfield 118, 3, 8, 7, 0, 0, 0), (48, .iconst 1, 1, 0, 0, 0, (1), 0), (49, .iadd, 1, 0, 0, 0, 0, 0), (50, .putfield 118, 3, 8, 7, 0, 0, 0), (53, .iinc 3 1, 3, 0, 0, 0, (1), 0), (56, .goto (-43), 3, 13, 0, 0, 0, 0), (59, .iload_n 2, 1, 0, 0, 0, 0, 0), (60, .ireturn, 1, 0, 0, 0, 0, 0)]
def cm_X11_number : am_M := fun pc => cd_X11_number.lookup pc
def cd_X11_digitIn : List (Nat × am_E) := [(0, .aload_n 0, 1, 0, 0, 0, 0, 0), (1, .getfield 118, 3, 8, 7, 0, 0, 0), (4, .aload_n 0, 1, 0, 0, 0, 0, 0), (5, .getfield 130, 3, 8, 8, 0, 0, 0), (8, .if_icmp .ge 26, 3, 34, 0, 0, 0, 0), (11, .aload_n 0, 1, 0, 0, 0, 0, 0), (12, .getfield 35, 3, 8, 5, 0, 0, 0), (15, .aload_n 0, 1, 0, 0, 0, 0, 0), (16, .getfield 118, 3, 8, 7, 0, 0, 0), (19, .iaload, 1, 0, 0, 0, 0, 0), (20, .bipush 48, 2, 0, 0, 0, (48), 0), (22, .isub, 1, 0, 0, 0, 0, 0), (23, .i2l, 1, 0, 0, 0, 0, 0), (24, .iload_n 1, 1, 0, 0, 0, 0, 0), (25, .i2l, 1, 0, 0, 0, 0, 0), (26, .iload_n 2, 1, 0, 0, 0, 0, 0), (27, .i2l, 1, 0, 0, 0, 0, 0), (28, .invokestatic 111, 3, 176, 3, 0, 0, 0), (31, .ifCond .ne 5, 3, 36, 0, 0, 0, 0), (34, .iconst (-1), 1, 0, 0, 0, (-1), 0), (35, .ireturn, 1, 0, 0, 0, 0, 0), (36, .aload_n 0, 1, 0, 0, 0, 0, 0), (37, .dup, 1, 0, 0, 0, 0, 0), (38, .getfield 118, 3, 8, 7, 0, 0, 0), (41, .iconst 1, 1, 0, 0, 0, (1), 0), (42, .iadd, 1, 0, 0, 0, 0, 0), (43, .putfield 118, 3, 8, 7, 0, 0, 0), (46, .aload_n 0, 1, 0, 0, 0, 0, 0), (47, .getfield 35, 3, 8, 5, 0, 0, 0), (50, .aload_n 0, 1, 0, 0, 0, 0, 0), (51, .getfield 118, 3, 8, 7, 0, 0, 0), (54, .iconst 1, 1, 0, 0, 0, (1), 0), (55, .isub, 1, 0, 0, 0, 0, 0), (56, .iaload, 1, 0, 0, 0, 0, 0), (57, .bipush 48, 2, 0, 0, 0, (48), 0), (59, .isub, 1, 0, 0, 0, 0, 0), (60, .ireturn, 1, 0, 0, 0, 0, 0)]
def cm_X11_digitIn : am_M := fun pc => cd_X11_digitIn.lookup pc
def cd_X11_faultOf : List (Nat × am_E) := [(0, .iload_n 3, 1, 0, 0, 0, 0, 0), (1, .ifCond .eq 18, 3, 19, 0, 0, 0, 0), (4, .aload_n 0, 1, 0, 0, 0, 0, 0), (5, .getfield 118, 3, 8, 7, 0, 0, 0), (8, .aload_n 0, 1, 0, 0, 0, 0, 0), (9, .getfield 130, 3, 8, 8, 0, 0, 0), (12, .if_icmp .ne 7, 3, 19, 0, 0, 0, 0), (15, .iconst 1, 1, 0, 0, 0, (1), 0), (16, .goto 4, 3, 20, 0, 0, 0, 0), (19, .iconst 0, 1, 0, 0, 0, (0), 0), (20, .istore 4, 2, 0, 0, 0, 0, 0), (22, .iload_n 1, 1, 0, 0, 0, 0, 0), (23, .iload_n 2, 1, 0, 0, 0, 0, 0), (24, .if_icmp .le 20, 3, 44, 0, 0, 0, 0), (27, .iload 4, 2, 0, 0, 0, 0, 0), (29, .ifCond .ne 11, 3, 40, 0, 0, 0, 0), (32, .aload_n 0, 1, 0, 0, 0, 0, 0), (33, .getfield 118, 3, 8, 7, 0, 0, 0), (36, .iload_n 2, 1, 0, 0, 0, 0, 0), (37, .if_icmp .lt 7, 3, 44, 0, 0, 0, 0), (40, .iconst (-1), 1, 0, 0, 0, (-1), 0), (41, .iload_n 2, 1, 0, 0, 0, 0, 0), (42, .isub, 1, 0, 0, 0, 0, 0), (43, .ireturn, 1, 0, 0, 0, 0, 0), (44, .iload 4, 2, 0, 0, 0, 0, 0), (46, .ifCond .eq 7, 3, 53, 0, 0, 0, 0), (49, .iconst 0, 1, 0, 0, 0, (0), 0), (50, .goto 9, 3, 59, 0, 0, 0, 0), (53, .iconst (-1), 1, 0, 0, 0, (-1), 0), (54, .aload_n 0, 1, 0, 0, 0, 0, 0), (55, .getfield 118, 3, 8, 7, 0, 0, 0), (58, .isub, 1, 0, 0, 0, 0, 0), (59, .ireturn, 1, 0, 0, 0, 0, 0)]
def cm_X11_faultOf : am_M := fun pc => cd_X11_faultOf.lookup pc
def cd_X11_readsWord : List (Nat × am_E) := [(0, .aload_n 0, 1, 0, 0, 0, 0, 0), (1, .bipush 80, 2, 0, 0, 0, (80), 0), (3, .invokevirtual 155, 3, 189, 2, 9, 0, 0), (6, .pop, 1, 0, 0, 0, 0, 0), (7, .aload_n 0, 1, 0, 0, 0, 0, 0), (8, .iconst 0, 1, 0, 0, 0, (0), 0), (9, .putfield 159, 3, 8, 11, 0, 0, 0), (12, .aload_n 0, 1, 0, 0, 0, 0, 0), (13, .ldc 162, 2, 14, 1, 0, 0, 0), (15, .invokevirtual 164, 3, 192, 2, 9, 0, 0), (18, .istore_n 1, 1, 0, 0, 0, 0, 0), (19, .iload_n 1, 1, 0, 0, 0, 0, 0), (20, .ifCond .lt 46, 3, 66, 0, 0, 0, 0), (23, .aload_n 0, 1, 0, 0, 0, 0, 0), (24, .getfield 38, 3, 8, 10, 0, 0, 0), (27, .aload_n 0, 1, 0, 0, 0, 0, 0), (28, .getfield 159, 3, 8, 11, 0, 0, 0), (31, .iload_n 1, 1, 0, 0, 0, 0, 0), (32, .iastore, 1, 0, 0, 0, 0, 0), (33, .aload_n 0, 1, 0, 0, 0, 0, 0), (34, .dup, 1, 0, 0, 0, 0, 0), (35, .getfield 159, 3, 8, 11, 0, 0, 0), (38, .iconst 1, 1, 0, 0, 0, (1), 0), (39, .iadd, 1, 0, 0, 0, 0, 0), (40, .putfield 159, 3, 8, 11, 0, 0, 0), (43, .aload_n 0, 1, 0, 0, 0, 0, 0), (44, .getfield 159, 3, 8, 11, 0, 0, 0), (47, .bipush 10, 2, 0, 0, 0, (10), 0), (49, .if_icmp .ge 12, 3, 61, 0, 0, 0, 0), (52, .aload_n 0, 1, 0, 0, 0, 0, 0), (53, .ldc 162, 2, 14, 1, 0, 0, 0), (55, .invokevirtual 164, 3, 192, 2, 9, 0, 0), (58, .goto 4, 3, 62, 0, 0, 0, 0), (61, .iconst (-1), 1, 0, 0, 0, (-1), 0), (62, .istore_n 1, 1, 0, 0, 0, 0, 0), (63, .goto (-44), 3, 19, 0, 0, 0, 0), (66, .aload_n 0, 1, 0, 0, 0, 0, 0), (67, .getfield 159, 3, 8, 11, 0, 0, 0), (70, .ifCond .eq 14, 3, 84, 0, 0, 0, 0), (73, .aload_n 0, 1, 0, 0, 0, 0, 0), (74, .getfield 118, 3, 8, 7, 0, 0, 0), (77, .aload_n 0, 1, 0, 0, 0, 0, 0), (78, .getfield 130, 3, 8, 8, 0, 0, 0), (81, .if_icmp .ge 12, 3, 93, 0, 0, 0, 0), (84, .iconst (-1), 1, 0, 0, 0, (-1), 0), (85, .aload_n 0, 1, 0, 0, 0, 0, 0), (86, .getfield 118, 3, 8, 7, 0, 0, 0), (89, .isub, 1, 0, 0, 0, 0, 0), (90, .goto 4, 3, 94, 0, 0, 0, 0), (93, .iconst 0, 1, 0, 0, 0, (0), 0), (94, .ireturn, 1, 0, 0, 0, 0, 0)]
def cm_X11_readsWord : am_M := fun pc => cd_X11_readsWord.lookup pc
def cd_X11_ofWord : List (Nat × am_E) := [(0, .iconst 0, 1, 0, 0, 0, (0), 0), (1, .istore_n 2, 1, 0, 0, 0, 0, 0), (2, .iconst 0, 1, 0, 0, 0, (0), 0), (3, .istore_n 3, 1, 0, 0, 0, 0, 0), (4, .iload_n 3, 1, 0, 0, 0, 0, 0), (5, .aload_n 0, 1, 0, 0, 0, 0, 0), (6, .getfield 159, 3, 8, 11, 0, 0, 0), (9, .if_icmp .ge 30, 3, 39, 0, 0, 0, 0), (12, .iload_n 2, 1, 0, 0, 0, 0, 0), (13, .aload_n 0, 1, 0, 0, 0, 0, 0), (14, .getfield 38, 3, 8, 10, 0, 0, 0), (17, .iload_n 3, 1, 0, 0, 0, 0, 0), (18, .iaload, 1, 0, 0, 0, 0, 0), (19, .iload_n 1, 1, 0, 0, 0, 0, 0), (20, .if_icmp .ne 7, 3, 27, 0, 0, 0, 0), (23, .iconst 1, 1, 0, 0, 0, (1), 0), (24, .goto 4, 3, 28, 0, 0, 0, 0), (27, .iconst 0, 1, 0, 0, 0, (0), 0), (28, .invokestatic 133, 3, 178, 1, 0, 0, 0), (31, .iadd, 1, 0, 0, 0, 0, 0), (32, .istore_n 2, 1, 0, 0, 0, 0, 0), (33, .iinc 3 1, 3, 0, 0, 0, (1), 0), (36, .goto (-32), 3, 4, 0, 0, 0, 0), (39, .iload_n 2, 1, 0, 0, 0, 0, 0), (40, .ireturn, 1, 0, 0, 0, 0, 0)]
def cm_X11_ofWord : am_M := fun pc => cd_X11_ofWord.lookup pc
def cd_X11_looksAt : List (Nat × am_E) := [(0, .aload_n 0, 1, 0, 0, 0, 0, 0), (1, .aload_n 1, 1, 0, 0, 0, 0, 0), (2, .iload_n 2, 1, 0, 0, 0, 0, 0), (3, .iaload, 1, 0, 0, 0, 0, 0), (4, .putfield 168, 3, 8, 13, 0, 0, 0), (7, .iconst 0, 1, 0, 0, 0, (0), 0), (8, .istore_n 3, 1, 0, 0, 0, 0, 0), (9, .iload_n 3, 1, 0, 0, 0, 0, 0), (10, .aload_n 0, 1, 0, 0, 0, 0, 0), (11, .getfield 168, 3, 8, 13, 0, 0, 0), (14, .if_icmp .ge 21, 3, 35, 0, 0, 0, 0), (17, .aload_n 0, 1, 0, 0, 0, 0, 0), (18, .getfield 41, 3, 8, 12, 0, 0, 0), (21, .iload_n 3, 1, 0, 0, 0, 0, 0), (22, .aload_n 1, 1, 0, 0, 0, 0, 0), (23, .iload_n 2, 1, 0, 0, 0, 0, 0), (24, .iload_n 3, 1, 0, 0, 0, 0, 0), (25, .invokestatic 171, 3, 184, 3, 0, 0, 0), (28, .iastore, 1, 0, 0, 0, 0, 0), (29, .iinc 3 1, 3, 0, 0, 0, (1), 0), (32, .goto (-23), 3, 9, 0, 0, 0, 0), (35, .return_, 1, 0, 0, 0, 0, 0)]
def cm_X11_looksAt : am_M := fun pc => cd_X11_looksAt.lookup pc
def cd_X11_turnedOf : List (Nat × am_E) := [(0, .iload_n 3, 1, 0, 0, 0, 0, 0), (1, .iload_n 2, 1, 0, 0, 0, 0, 0), (2, .iload_n 1, 1, 0, 0, 0, 0, 0), (3, .irem, 1, 0, 0, 0, 0, 0), (4, .iadd, 1, 0, 0, 0, 0, 0), (5, .iload_n 1, 1, 0, 0, 0, 0, 0), (6, .irem, 1, 0, 0, 0, 0, 0), (7, .istore 4, 2, 0, 0, 0, 0, 0), (9, .aload_n 0, 1, 0, 0, 0, 0, 0), (10, .iload_n 2, 1, 0, 0, 0, 0, 0), (11, .iload_n 1, 1, 0, 0, 0, 0, 0), (12, .if_icmp .ge 8, 3, 20, 0, 0, 0, 0), (15, .iload 4, 2, 0, 0, 0, 0, 0), (17, .goto 9, 3, 26, 0, 0, 0, 0), (20, .iload_n 1, 1, 0, 0, 0, 0, 0), (21, .iconst 1, 1, 0, 0, 0, (1), 0), (22, .isub, 1, 0, 0, 0, 0, 0), (23, .iload 4, 2, 0, 0, 0, 0, 0), (25, .isub, 1, 0, 0, 0, 0, 0), (26, .iaload, 1, 0, 0, 0, 0, 0), (27, .ireturn, 1, 0, 0, 0, 0, 0)]
def cm_X11_turnedOf : am_M := fun pc => cd_X11_turnedOf.lookup pc
def cd_X11_tellsTurning : List (Nat × am_E) := [(0, .iload_n 1, 1, 0, 0, 0, 0, 0), (1, .iload_n 0, 1, 0, 0, 0, 0, 0), (2, .if_icmp .ge 7, 3, 9, 0, 0, 0, 0), (5, .iload_n 1, 1, 0, 0, 0, 0, 0), (6, .goto 9, 3, 15, 0, 0, 0, 0), (9, .bipush 100, 2, 0, 0, 0, (100), 0), (11, .iload_n 1, 1, 0, 0, 0, 0, 0), (12, .iadd, 1, 0, 0, 0, 0, 0), (13, .iload_n 0, 1, 0, 0, 0, 0, 0), (14, .isub, 1, 0, 0, 0, 0, 0), (15, .ireturn, 1, 0, 0, 0, 0, 0)]
def cm_X11_tellsTurning : am_M := fun pc => cd_X11_tellsTurning.lookup pc
def cd_X11_compares : List (Nat × am_E) := [(0, .iconst 0, 1, 0, 0, 0, (0), 0), (1, .istore_n 3, 1, 0, 0, 0, 0, 0), (2, .iload_n 3, 1, 0, 0, 0, 0, 0), (3, .aload_n 0, 1, 0, 0, 0, 0, 0), (4, .getfield 168, 3, 8, 13, 0, 0, 0), (7, .if_icmp .ge 46, 3, 53, 0, 0, 0, 0), (10, .aload_n 0, 1, 0, 0, 0, 0, 0), (11, .getfield 41, 3, 8, 12, 0, 0, 0), (14, .aload_n 0, 1, 0, 0, 0, 0, 0), (15, .getfield 168, 3, 8, 13, 0, 0, 0), (18, .iload_n 1, 1, 0, 0, 0, 0, 0), (19, .iload_n 3, 1, 0, 0, 0, 0, 0), (20, .invokestatic 175, 3, 199, 4, 0, 0, 0), (23, .aload_n 0, 1, 0, 0, 0, 0, 0), (24, .getfield 41, 3, 8, 12, 0, 0, 0), (27, .aload_n 0, 1, 0, 0, 0, 0, 0), (28, .getfield 168, 3, 8, 13, 0, 0, 0), (31, .iload_n 2, 1, 0, 0, 0, 0, 0), (32, .iload_n 3, 1, 0, 0, 0, 0, 0), (33, .invokestatic 175, 3, 199, 4, 0, 0, 0), (36, .isub, 1, 0, 0, 0, 0, 0), (37, .istore 4, 2, 0, 0, 0, 0, 0), (39, .iload 4, 2, 0, 0, 0, 0, 0), (41, .ifCond .eq 6, 3, 47, 0, 0, 0, 0), (44, .iload 4, 2, 0, 0, 0, 0, 0), (46, .ireturn, 1, 0, 0, 0, 0, 0), (47, .iinc 3 1, 3, 0, 0, 0, (1), 0), (50, .goto (-48), 3, 2, 0, 0, 0, 0), (53, .iconst 0, 1, 0, 0, 0, (0), 0), (54, .ireturn, 1, 0, 0, 0, 0, 0)]
def cm_X11_compares : am_M := fun pc => cd_X11_compares.lookup pc
def cd_X11_leastTurning : List (Nat × am_E) := [(0, .iconst 0, 1, 0, 0, 0, (0), 0), (1, .istore_n 1, 1, 0, 0, 0, 0, 0), (2, .iconst 1, 1, 0, 0, 0, (1), 0), (3, .istore_n 2, 1, 0, 0, 0, 0, 0), (4, .iload_n 2, 1, 0, 0, 0, 0, 0), (5, .iconst 2, 1, 0, 0, 0, (2), 0), (6, .aload_n 0, 1, 0, 0, 0, 0, 0), (7, .getfield 168, 3, 8, 13, 0, 0, 0), (10, .imul, 1, 0, 0, 0, 0, 0), (11, .if_icmp .ge 24, 3, 35, 0, 0, 0, 0), (14, .aload_n 0, 1, 0, 0, 0, 0, 0), (15, .iload_n 2, 1, 0, 0, 0, 0, 0), (16, .iload_n 1, 1, 0, 0, 0, 0, 0), (17, .invokevirtual 179, 3, 201, 3, 9, 0, 0), (20, .ifCond .ge 7, 3, 27, 0, 0, 0, 0), (23, .iload_n 2, 1, 0, 0, 0, 0, 0), (24, .goto 4, 3, 28, 0, 0, 0, 0), (27, .iload_n 1, 1, 0, 0, 0, 0, 0), (28, .istore_n 1, 1, 0, 0, 0, 0, 0), (29, .iinc 2 1, 3, 0, 0, 0, (1), 0), (32, .goto (-28), 3, 4, 0, 0, 0, 0), (35, .iload_n 1, 1, 0, 0, 0, 0, 0), (36, .ireturn, 1, 0, 0, 0, 0, 0)]
def cm_X11_leastTurning : am_M := fun pc => cd_X11_leastTurning.lookup pc
def cd_X11_isLeast : List (Nat × am_E) := [(0, .iconst 1, 1, 0, 0, 0, (1), 0), (1, .istore_n 1, 1, 0, 0, 0, 0, 0), (2, .iconst 1, 1, 0, 0, 0, (1), 0), (3, .istore_n 2, 1, 0, 0, 0, 0, 0), (4, .iload_n 2, 1, 0, 0, 0, 0, 0), (5, .iconst 2, 1, 0, 0, 0, (2), 0), (6, .aload_n 0, 1, 0, 0, 0, 0, 0), (7, .getfield 168, 3, 8, 13, 0, 0, 0), (10, .imul, 1, 0, 0, 0, 0, 0), (11, .if_icmp .ge 28, 3, 39, 0, 0, 0, 0), (14, .iload_n 1, 1, 0, 0, 0, 0, 0), (15, .ifCond .eq 24, 3, 39, 0, 0, 0, 0), (18, .aload_n 0, 1, 0, 0, 0, 0, 0), (19, .iload_n 2, 1, 0, 0, 0, 0, 0), (20, .iconst 0, 1, 0, 0, 0, (0), 0), (21, .invokevirtual 179, 3, 201, 3, 9, 0, 0), (24, .ifCond .lt 7, 3, 31, 0, 0, 0, 0), (27, .iconst 1, 1, 0, 0, 0, (1), 0), (28, .goto 4, 3, 32, 0, 0, 0, 0), (31, .iconst 0, 1, 0, 0, 0, (0), 0), (32, .istore_n 1, 1, 0, 0, 0, 0, 0), (33, .iinc 2 1, 3, 0, 0, 0, (1), 0), (36, .goto (-32), 3, 4, 0, 0, 0, 0), (39, .iload_n 1, 1, 0, 0, 0, 0, 0), (40, .ireturn, 1, 0, 0, 2, 0, 0)]
def cm_X11_isLeast : am_M := fun pc => cd_X11_isLeast.lookup pc
def cd_X11_entersLeast : List (Nat × am_E) := [(0, .aload_n 0, 1, 0, 0, 0, 0, 0), (1, .invokevirtual 182, 3, 202, 1, 9, 0, 0), (4, .istore_n 1, 1, 0, 0, 0, 0, 0), (5, .aload_n 0, 1, 0, 0, 0, 0, 0), (6, .iconst 0, 1, 0, 0, 0, (0), 0), (7, .putfield 15, 3, 8, 1, 0, 0, 0), (10, .iconst 0, 1, 0, 0, 0, (0), 0), (11, .istore_n 2, 1, 0, 0, 0, 0, 0), (12, .iload_n 2, 1, 0, 0, 0, 0, 0), (13, .aload_n 0, 1, 0, 0, 0, 0, 0), (14, .getfield 168, 3, 8, 13, 0, 0, 0), (17, .if_icmp .ge 27, 3, 44, 0, 0, 0, 0), (20, .aload_n 0, 1, 0, 0, 0, 0, 0), (21, .aload_n 0, 1, 0, 0, 0, 0, 0), (22, .getfield 41, 3, 8, 12, 0, 0, 0), (25, .aload_n 0, 1, 0, 0, 0, 0, 0), (26, .getfield 168, 3, 8, 13, 0, 0, 0), (29, .iload_n 1, 1, 0, 0, 0, 0, 0), (30, .iload_n 2, 1, 0, 0, 0, 0, 0), (31, .invokestatic 175, 3, 199, 4, 0, 0, 0), (34, .i2l, 1, 0, 0, 0, 0, 0), (35, .invokevirtual 18, 3, 180, 2, 9, 0, 0), (38, .iinc 2 1, 3, 0, 0, 0, (1), 0), (41, .goto (-29), 3, 12, 0, 0, 0, 0), (44, .return_, 1, 0, 0, 0, 0, 0)]
def cm_X11_entersLeast : am_M := fun pc => cd_X11_entersLeast.lookup pc
def cd_X11_ofLook : List (Nat × am_E) := [(0, .iconst 0, 1, 0, 0, 0, (0), 0), (1, .istore_n 2, 1, 0, 0, 0, 0, 0), (2, .iconst 0, 1, 0, 0, 0, (0), 0), (3, .istore_n 3, 1, 0, 0, 0, 0, 0), (4, .iload_n 3, 1, 0, 0, 0, 0, 0), (5, .aload_n 0, 1, 0, 0, 0, 0, 0), (6, .getfield 168, 3, 8, 13, 0, 0, 0), (9, .if_icmp .ge 30, 3, 39, 0, 0, 0, 0), (12, .iload_n 2, 1, 0, 0, 0, 0, 0), (13, .aload_n 0, 1, 0, 0, 0, 0, 0), (14, .getfield 41, 3, 8, 12, 0, 0, 0), (17, .iload_n 3, 1, 0, 0, 0, 0, 0), (18, .iaload, 1, 0, 0, 0, 0, 0), (19, .iload_n 1, 1, 0, 0, 0, 0, 0), (20, .if_icmp .ne 7, 3, 27, 0, 0, 0, 0), (23, .iconst 1, 1, 0, 0, 0, (1), 0), (24, .goto 4, 3, 28, 0, 0, 0, 0), (27, .iconst 0, 1, 0, 0, 0, (0), 0), (28, .invokestatic 133, 3, 178, 1, 0, 0, 0), (31, .iadd, 1, 0, 0, 0, 0, 0), (32, .istore_n 2, 1, 0, 0, 0, 0, 0), (33, .iinc 3 1, 3, 0, 0, 0, (1), 0), (36, .goto (-32), 3, 4, 0, 0, 0, 0), (39, .iload_n 2, 1, 0, 0, 0, 0, 0), (40, .ireturn, 1, 0, 0, 0, 0, 0)]
def cm_X11_ofLook : am_M := fun pc => cd_X11_ofLook.lookup pc
def cd_X11_offBy : List (Nat × am_E) := [(0, .iconst 0, 1, 0, 0, 0, (0), 0), (1, .istore 4, 2, 0, 0, 0, 0, 0), (3, .iconst 0, 1, 0, 0, 0, (0), 0), (4, .istore 5, 2, 0, 0, 0, 0, 0), (6, .iload 5, 2, 0, 0, 0, 0, 0), (8, .aload_n 0, 1, 0, 0, 0, 0, 0), (9, .getfield 168, 3, 8, 13, 0, 0, 0), (12, .if_icmp .ge 46, 3, 58, 0, 0, 0, 0), (15, .iload 4, 2, 0, 0, 0, 0, 0), (17, .aload_n 0, 1, 0, 0, 0, 0, 0), (18, .getfield 41, 3, 8, 12, 0, 0, 0), (21, .aload_n 0, 1, 0, 0, 0, 0, 0), (22, .getfield 168, 3, 8, 13, 0, 0, 0), (25, .iload_n 3, 1, 0, 0, 0, 0, 0), (26, .iload 5, 2, 0, 0, 0, 0, 0), (28, .invokestatic 175, 3, 199, 4, 0, 0, 0), (31, .aload_n 1, 1, 0, 0, 0, 0, 0), (32, .iload_n 2, 1, 0, 0, 0, 0, 0), (33, .iload 5, 2, 0, 0, 0, 0, 0), (35, .invokestatic 171, 3, 184, 3, 0, 0, 0), (38, .if_icmp .eq 7, 3, 45, 0, 0, 0, 0), (41, .iconst 1, 1, 0, 0, 0, (1), 0), (42, .goto 4, 3, 46, 0, 0, 0, 0), (45, .iconst 0, 1, 0, 0, 0, (0), 0), (46, .invokestatic 133, 3, 178, 1, 0, 0, 0), (49, .iadd, 1, 0, 0, 0, 0, 0), (50, .istore 4, 2, 0, 0, 0, 0, 0), (52, .iinc 5 1, 3, 0, 0, 0, (1), 0), (55, .goto (-49), 3, 6, 0, 0, 0, 0), (58, .iload 4, 2, 0, 0, 0, 0, 0), (60, .ireturn, 1, 0, 0, 0, 0, 0)]
def cm_X11_offBy : am_M := fun pc => cd_X11_offBy.lookup pc
def cd_X11_isAlike : List (Nat × am_E) := [(0, .iconst 0, 1, 0, 0, 0, (0), 0), (1, .istore_n 3, 1, 0, 0, 0, 0, 0), (2, .iconst 0, 1, 0, 0, 0, (0), 0), (3, .istore 4, 2, 0, 0, 0, 0, 0), (5, .iload 4, 2, 0, 0, 0, 0, 0), (7, .iconst 2, 1, 0, 0, 0, (2), 0), (8, .aload_n 0, 1, 0, 0, 0, 0, 0), (9, .getfield 168, 3, 8, 13, 0, 0, 0), (12, .imul, 1, 0, 0, 0, 0, 0), (13, .if_icmp .ge 40, 3, 53, 0, 0, 0, 0), (16, .aload_n 1, 1, 0, 0, 0, 0, 0), (17, .iload_n 2, 1, 0, 0, 0, 0, 0), (18, .iaload, 1, 0, 0, 0, 0, 0), (19, .aload_n 0, 1, 0, 0, 0, 0, 0), (20, .getfield 168, 3, 8, 13, 0, 0, 0), (23, .if_icmp .ne 30, 3, 53, 0, 0, 0, 0), (26, .iload_n 3, 1, 0, 0, 0, 0, 0), (27, .ifCond .ne 14, 3, 41, 0, 0, 0, 0), (30, .aload_n 0, 1, 0, 0, 0, 0, 0), (31, .aload_n 1, 1, 0, 0, 0, 0, 0), (32, .iload_n 2, 1, 0, 0, 0, 0, 0), (33, .iload 4, 2, 0, 0, 0, 0, 0), (35, .invokevirtual 185, 3, 206, 4, 9, 0, 0), (38, .ifCond .ne 7, 3, 45, 0, 0, 0, 0), (41, .iconst 1, 1, 0, 0, 0, (1), 0), (42, .goto 4, 3, 46, 0, 0, 0, 0), (45, .iconst 0, 1, 0, 0, 0, (0), 0), (46, .istore_n 3, 1, 0, 0, 0, 0, 0), (47, .iinc 4 1, 3, 0, 0, 0, (1), 0), (50, .goto (-45), 3, 5, 0, 0, 0, 0), (53, .iload_n 3, 1, 0, 0, 0, 0, 0), (54, .ireturn, 1, 0, 0, 2, 0, 0)]
def cm_X11_isAlike : am_M := fun pc => cd_X11_isAlike.lookup pc
def cd_X11_alikeMany : List (Nat × am_E) := [(0, .iconst 0, 1, 0, 0, 0, (0), 0), (1, .istore_n 3, 1, 0, 0, 0, 0, 0), (2, .iconst 0, 1, 0, 0, 0, (0), 0), (3, .istore 4, 2, 0, 0, 0, 0, 0), (5, .iload 4, 2, 0, 0, 0, 0, 0), (7, .aload_n 1, 1, 0, 0, 0, 0, 0), (8, .bipush 60, 2, 0, 0, 0, (60), 0), (10, .iaload, 1, 0, 0, 0, 0, 0), (11, .if_icmp .ge 36, 3, 47, 0, 0, 0, 0), (14, .iload_n 3, 1, 0, 0, 0, 0, 0), (15, .iload 4, 2, 0, 0, 0, 0, 0), (17, .iload_n 2, 1, 0, 0, 0, 0, 0), (18, .if_icmp .eq 17, 3, 35, 0, 0, 0, 0), (21, .aload_n 0, 1, 0, 0, 0, 0, 0), (22, .aload_n 1, 1, 0, 0, 0, 0, 0), (23, .iload 4, 2, 0, 0, 0, 0, 0), (25, .invokevirtual 188, 3, 207, 3, 9, 0, 0), (28, .ifCond .eq 7, 3, 35, 0, 0, 0, 0), (31, .iconst 1, 1, 0, 0, 0, (1), 0), (32, .goto 4, 3, 36, 0, 0, 0, 0), (35, .iconst 0, 1, 0, 0, 0, (0), 0), (36, .invokestatic 133, 3, 178, 1, 0, 0, 0), (39, .iadd, 1, 0, 0, 0, 0, 0), (40, .istore_n 3, 1, 0, 0, 0, 0, 0), (41, .iinc 4 1, 3, 0, 0, 0, (1), 0), (44, .goto (-39), 3, 5, 0, 0, 0, 0), (47, .iload_n 3, 1, 0, 0, 0, 0, 0), (48, .ireturn, 1, 0, 0, 0, 0, 0)]
def cm_X11_alikeMany : am_M := fun pc => cd_X11_alikeMany.lookup pc
def cd_X11_period : List (Nat × am_E) := [(0, .iconst 1, 1, 0, 0, 0, (1), 0), (1, .istore_n 1, 1, 0, 0, 0, 0, 0), (2, .aload_n 0, 1, 0, 0, 0, 0, 0), (3, .iload_n 1, 1, 0, 0, 0, 0, 0), (4, .aload_n 0, 1, 0, 0, 0, 0, 0), (5, .getfield 168, 3, 8, 13, 0, 0, 0), (8, .irem, 1, 0, 0, 0, 0, 0), (9, .iconst 0, 1, 0, 0, 0, (0), 0), (10, .invokevirtual 179, 3, 201, 3, 9, 0, 0), (13, .ifCond .eq 9, 3, 22, 0, 0, 0, 0), (16, .iinc 1 1, 3, 0, 0, 0, (1), 0), (19, .goto (-17), 3, 2, 0, 0, 0, 0), (22, .iload_n 1, 1, 0, 0, 0, 0, 0), (23, .ireturn, 1, 0, 0, 0, 0, 0)]
def cm_X11_period : am_M := fun pc => cd_X11_period.lookup pc
def cd_X11_mirrors : List (Nat × am_E) := [(0, .iconst 0, 1, 0, 0, 0, (0), 0), (1, .istore_n 1, 1, 0, 0, 0, 0, 0), (2, .aload_n 0, 1, 0, 0, 0, 0, 0), (3, .getfield 168, 3, 8, 13, 0, 0, 0), (6, .istore_n 2, 1, 0, 0, 0, 0, 0), (7, .iload_n 2, 1, 0, 0, 0, 0, 0), (8, .iconst 2, 1, 0, 0, 0, (2), 0), (9, .aload_n 0, 1, 0, 0, 0, 0, 0), (10, .getfield 168, 3, 8, 13, 0, 0, 0), (13, .imul, 1, 0, 0, 0, 0, 0), (14, .if_icmp .ge 29, 3, 43, 0, 0, 0, 0), (17, .iload_n 1, 1, 0, 0, 0, 0, 0), (18, .aload_n 0, 1, 0, 0, 0, 0, 0), (19, .iload_n 2, 1, 0, 0, 0, 0, 0), (20, .iconst 0, 1, 0, 0, 0, (0), 0), (21, .invokevirtual 179, 3, 201, 3, 9, 0, 0), (24, .ifCond .ne 7, 3, 31, 0, 0, 0, 0), (27, .iconst 1, 1, 0, 0, 0, (1), 0), (28, .goto 4, 3, 32, 0, 0, 0, 0), (31, .iconst 0, 1, 0, 0, 0, (0), 0), (32, .invokestatic 133, 3, 178, 1, 0, 0, 0), (35, .iadd, 1, 0, 0, 0, 0, 0), (36, .istore_n 1, 1, 0, 0, 0, 0, 0), (37, .iinc 2 1, 3, 0, 0, 0, (1), 0), (40, .goto (-33), 3, 7, 0, 0, 0, 0), (43, .iload_n 1, 1, 0, 0, 0, 0, 0), (44, .ireturn, 1, 0, 0, 0, 0, 0)]
def cm_X11_mirrors : am_M := fun pc => cd_X11_mirrors.lookup pc
def cd_X11_mostOfOne : List (Nat × am_E) := [(0, .iconst 0, 1, 0, 0, 0, (0), 0), (1, .istore_n 1, 1, 0, 0, 0, 0, 0), (2, .iconst 0, 1, 0, 0, 0, (0), 0), (3, .istore_n 2, 1, 0, 0, 0, 0, 0), (4, .iload_n 2, 1, 0, 0, 0, 0, 0), (5, .iconst 4, 1, 0, 0, 0, (4), 0), (6, .if_icmp .ge 19, 3, 25, 0, 0, 0, 0), (9, .iload_n 1, 1, 0, 0, 0, 0, 0), (10, .aload_n 0, 1, 0, 0, 0, 0, 0), (11, .iload_n 2, 1, 0, 0, 0, 0, 0), (12, .invokevirtual 192, 3, 205, 2, 9, 0, 0), (15, .invokestatic 195, 3, 324, 2, 0, 0, 0), (18, .istore_n 1, 1, 0, 0, 0, 0, 0), (19, .iinc 2 1, 3, 0, 0, 0, (1), 0), (22, .goto (-18), 3, 4, 0, 0, 0, 0), (25, .iload_n 1, 1, 0, 0, 0, 0, 0), (26, .ireturn, 1, 0, 0, 0, 0, 0)]
def cm_X11_mostOfOne : am_M := fun pc => cd_X11_mostOfOne.lookup pc
def cd_X11_coloursOf : List (Nat × am_E) := [(0, .iconst 0, 1, 0, 0, 0, (0), 0), (1, .istore_n 1, 1, 0, 0, 0, 0, 0), (2, .iconst 0, 1, 0, 0, 0, (0), 0), (3, .istore_n 2, 1, 0, 0, 0, 0, 0), (4, .iload_n 2, 1, 0, 0, 0, 0, 0), (5, .iconst 4, 1, 0, 0, 0, (4), 0), (6, .if_icmp .ge 27, 3, 33, 0, 0, 0, 0), (9, .iload_n 1, 1, 0, 0, 0, 0, 0), (10, .aload_n 0, 1, 0, 0, 0, 0, 0), (11, .iload_n 2, 1, 0, 0, 0, 0, 0), (12, .invokevirtual 192, 3, 205, 2, 9, 0, 0), (15, .ifCond .le 9, 3, 24, 0, 0, 0, 0), (18, .iconst 1, 1, 0, 0, 0, (1), 0), (19, .iload_n 2, 1, 0, 0, 0, 0, 0), (20, .ishl, 1, 0, 0, 0, 0, 0), (21, .goto 4, 3, 25, 0, 0, 0, 0), (24, .iconst 0, 1, 0, 0, 0, (0), 0), (25, .ior, 1, 0, 0, 0, 0, 0), (26, .istore_n 1, 1, 0, 0, 0, 0, 0), (27, .iinc 2 1, 3, 0, 0, 0, (1), 0), (30, .goto (-26), 3, 4, 0, 0, 0, 0), (33, .iload_n 1, 1, 0, 0, 0, 0, 0), (34, .ireturn, 1, 0, 0, 0, 0, 0)]
def cm_X11_coloursOf : am_M := fun pc => cd_X11_coloursOf.lookup pc
def cd_X11_codes : List (Nat × am_E) := [(0, .aload_n 0, 1, 0, 0, 0, 0, 0), (1, .getfield 47, 3, 8, 15, 0, 0, 0), (4, .aload_n 0, 1, 0, 0, 0, 0, 0), (5, .getfield 198, 3, 8, 17, 0, 0, 0), (8, .iload_n 1, 1, 0, 0, 0, 0, 0), (9, .iastore, 1, 0, 0, 0, 0, 0), (10, .aload_n 0, 1, 0, 0, 0, 0, 0), (11, .dup, 1, 0, 0, 0, 0, 0), (12, .getfield 198, 3, 8, 17, 0, 0, 0), (15, .iconst 1, 1, 0, 0, 0, (1), 0), (16, .iadd, 1, 0, 0, 0, 0, 0), (17, .putfield 198, 3, 8, 17, 0, 0, 0), (20, .return_, 1, 0, 0, 0, 0, 0)]
def cm_X11_codes : am_M := fun pc => cd_X11_codes.lookup pc
def cd_X11_readsThing : List (Nat × am_E) := [(0, .aload_n 0, 1, 0, 0, 0, 0, 0), (1, .bipush 45, 2, 0, 0, 0, (45), 0), (3, .invokevirtual 201, 3, 190, 2, 9, 0, 0), (6, .ifCond .eq 17, 3, 23, 0, 0, 0, 0), (9, .aload_n 0, 1, 0, 0, 0, 0, 0), (10, .invokevirtual 205, 3, 214, 1, 9, 0, 0), (13, .istore_n 1, 1, 0, 0, 0, 0, 0), (14, .aload_n 0, 1, 0, 0, 0, 0, 0), (15, .sipush 3000, 3, 0, 0, 0, (3000), 0), (18, .invokevirtual 208, 3, 213, 2, 9, 0, 0), (21, .iload_n 1, 1, 0, 0, 0, 0, 0), (22, .ireturn, 1, 0, 0, 2, 0, 0), (23, .aload_n 0, 1, 0, 0, 0, 0, 0), (24, .invokevirtual 151, 3, 191, 1, 9, 0, 0), (27, .ifCond .eq 14, 3, 41, 0, 0, 0, 0), (30, .aload_n 0, 1, 0, 0, 0, 0, 0), (31, .aload_n 0, 1, 0, 0, 0, 0, 0), (32, .iconst 3, 1, 0, 0, 0, (3), 0), (33, .invokevirtual 212, 3, 193, 2, 9, 0, 0), (36, .invokevirtual 208, 3, 213, 2, 9, 0, 0), (39, .iconst 1, 1, 0, 0, 0, (1), 0), (40, .ireturn, 1, 0, 0, 2, 0, 0), (41, .aload_n 0, 1, 0, 0, 0, 0, 0), (42, .ldc 215, 2, 10, 1, 0, 0, 0), (44, .invokevirtual 164, 3, 192, 2, 9, 0, 0), (47, .istore_n 1, 1, 0, 0, 0, 0, 0), (48, .iload_n 1, 1, 0, 0, 0, 0, 0), (49, .ifCond .lt 14, 3, 63, 0, 0, 0, 0), (52, .aload_n 0, 1, 0, 0, 0, 0, 0), (53, .sipush 1000, 3, 0, 0, 0, (1000), 0), (56, .iload_n 1, 1, 0, 0, 0, 0, 0), (57, .iadd, 1, 0, 0, 0, 0, 0), (58, .invokevirtual 208, 3, 213, 2, 9, 0, 0), (61, .iconst 1, 1, 0, 0, 0, (1), 0), (62, .ireturn, 1, 0, 0, 2, 0, 0), (63, .aload_n 0, 1, 0, 0, 0, 0, 0), (64, .getfield 121, 3, 8, 9, 0, 0, 0), (67, .iconst 4, 1, 0, 0, 0, (4), 0), (68, .if_icmp .eq 12, 3, 80, 0, 0, 0, 0), (71, .aload_n 0, 1, 0, 0, 0, 0, 0), (72, .bipush 40, 2, 0, 0, 0, (40), 0), (74, .invokevirtual 201, 3, 190, 2, 9, 0, 0), (77, .ifCond .ne 5, 3, 82, 0, 0, 0, 0), (80, .iconst 0, 1, 0, 0, 0, (0), 0), (81, .ireturn, 1, 0, 0, 2, 0, 0), (82, .aload_n 0, 1, 0, 0, 0, 0, 0), (83, .dup, 1, 0, 0, 0, 0, 0), (84, .getfield 121, 3, 8, 9, 0, 0, 0), (87, .iconst 1, 1, 0, 0, 0, (1), 0), (88, .iadd, 1, 0, 0, 0, 0, 0), (89, .putfield 121, 3, 8, 9, 0, 0, 0), (92, .aload_n 0, 1, 0, 0, 0, 0, 0), (93, .iconst 0, 1, 0, 0, 0, (0), 0), (94, .invokevirtual 217, 3, 215, 2, 9, 0, 0), (97, .ifCond .eq 12, 3, 109, 0, 0, 0, 0), (100, .aload_n 0, 1, 0, 0, 0, 0, 0), (101, .bipush 41, 2, 0, 0, 0, (41), 0), (103, .invokevirtual 201, 3, 190, 2, 9, 0, 0), (106, .ifCond .ne 5, 3, 111, 0, 0, 0, 0), (109, .iconst 0, 1, 0, 0, 0, (0), 0), (110, .ireturn, 1, 0, 0, 2, 0, 0), (111, .aload_n 0, 1, 0, 0, 0, 0, 0), (112, .dup, 1, 0, 0, 0, 0, 0), (113, .getfield 121, 3, 8, 9, 0, 0, 0), (116, .iconst 1, 1, 0, 0, 0, (1), 0), (117, .isub, 1, 0, 0, 0, 0, 0), (118, .putfield 121, 3, 8, 9, 0, 0, 0), (121, .iconst 1, 1, 0, 0, 0, (1), 0), (122, .ireturn, 1, 0, 0, 2, 0, 0)]
def cm_X11_readsThing : am_M := fun pc => cd_X11_readsThing.lookup pc
def cd_X11_readsRank : List (Nat × am_E) := [(0, .iload_n 1, 1, 0, 0, 0, 0, 0), (1, .iconst 3, 1, 0, 0, 0, (3), 0), (2, .if_icmp .ne 8, 3, 10, 0, 0, 0, 0), (5, .aload_n 0, 1, 0, 0, 0, 0, 0), (6, .invokevirtual 205, 3, 214, 1, 9, 0, 0), (9, .ireturn, 1, 0, 0, 2, 0, 0), (10, .aload_n 0, 1, 0, 0, 0, 0, 0), (11, .iload_n 1, 1, 0, 0, 0, 0, 0), (12, .iconst 1, 1, 0, 0, 0, (1), 0), (13, .iadd, 1, 0, 0, 0, 0, 0), (14, .invokevirtual 217, 3, 215, 2, 9, 0, 0), (17, .ifCond .ne 5, 3, 22, 0, 0, 0, 0), (20, .iconst 0, 1, 0, 0, 0, (0), 0), (21, .ireturn, 1, 0, 0, 2, 0, 0), (22, .iconst 1, 1, 0, 0, 0, (1), 0), (23, .istore_n 2, 1, 0, 0, 0, 0, 0), (24, .iload_n 2, 1, 0, 0, 0, 0, 0), (25, .ifCond .eq 88, 3, 113, 0, 0, 0, 0), (28, .aload_n 0, 1, 0, 0, 0, 0, 0), (29, .iload_n 1, 1, 0, 0, 0, 0, 0), (30, .ifCond .ne 8, 3, 38, 0, 0, 0, 0), (33, .ldc 220, 2, 11, 1, 0, 0, 0), (35, .goto 15, 3, 50, 0, 0, 0, 0), (38, .iload_n 1, 1, 0, 0, 0, 0, 0), (39, .iconst 1, 1, 0, 0, 0, (1), 0), (40, .if_icmp .ne 8, 3, 48, 0, 0, 0, 0), (43, .ldc 222, 2, 12, 1, 0, 0, 0), (45, .goto 5, 3, 50, 0, 0, 0, 0), (48, .ldc 224, 2, 13, 1, 0, 0, 0), (50, .invokevirtual 164, 3, 192, 2, 9, 0, 0), (53, .istore_n 3, 1, 0, 0, 0, 0, 0), (54, .iload_n 3, 1, 0, 0, 0, 0, 0), (55, .ifCond .ge 5, 3, 60, 0, 0, 0, 0), (58, .iconst 1, 1, 0, 0, 0, (1), 0), (59, .ireturn, 1, 0, 0, 2, 0, 0), (60, .aload_n 0, 1, 0, 0, 0, 0, 0), (61, .iload_n 1, 1, 0, 0, 0, 0, 0), (62, .iconst 1, 1, 0, 0, 0, (1), 0), (63, .iadd, 1, 0, 0, 0, 0, 0), (64, .invokevirtual 217, 3, 215, 2, 9, 0, 0), (67, .ifCond .ne 5, 3, 72, 0, 0, 0, 0), (70, .iconst 0, 1, 0, 0, 0, (0), 0), (71, .ireturn, 1, 0, 0, 2, 0, 0), (72, .aload_n 0, 1, 0, 0, 0, 0, 0), (73, .sipush 2000, 3, 0, 0, 0, (2000), 0), (76, .iload_n 3, 1, 0, 0, 0, 0, 0), (77, .iadd, 1, 0, 0, 0, 0, 0), (78, .iload_n 1, 1, 0, 0, 0, 0, 0), (79, .ifCond .ne 7, 3, 86, 0, 0, 0, 0), (82, .iconst 0, 1, 0, 0, 0, (0), 0), (83, .goto 13, 3, 96, 0, 0, 0, 0), (86, .iload_n 1, 1, 0, 0, 0, 0, 0), (87, .iconst 1, 1, 0, 0, 0, (1), 0), (88, .if_icmp .ne 7, 3, 95, 0, 0, 0, 0), (91, .iconst 3, 1, 0, 0, 0, (3), 0), (92, .goto 4, 3, 96, 0, 0, 0, 0), (95, .iconst 5, 1, 0, 0, 0, (5), 0), (96, .iadd, 1, 0, 0, 0, 0, 0), (97, .invokevirtual 208, 3, 213, 2, 9, 0, 0), (100, .iload_n 1, 1, 0, 0, 0, 0, 0), (101, .ifCond .le 7, 3, 108, 0, 0, 0, 0), (104, .iconst 1, 1, 0, 0, 0, (1), 0), (105, .goto 4, 3, 109, 0, 0, 0, 0), (108, .iconst 0, 1, 0, 0, 0, (0), 0), (109, .istore_n 2, 1, 0, 0, 0, 0, 0), (110, .goto (-86), 3, 24, 0, 0, 0, 0), (113, .iconst 1, 1, 0, 0, 0, (1), 0), (114, .ireturn, 1, 0, 0, 2, 0, 0)]
def cm_X11_readsRank : am_M := fun pc => cd_X11_readsRank.lookup pc
def cd_X11_readsRule : List (Nat × am_E) := [(0, .aload_n 0, 1, 0, 0, 0, 0, 0), (1, .bipush 40, 2, 0, 0, 0, (40), 0), (3, .invokevirtual 155, 3, 189, 2, 9, 0, 0), (6, .istore_n 1, 1, 0, 0, 0, 0, 0), (7, .aload_n 0, 1, 0, 0, 0, 0, 0), (8, .iconst 0, 1, 0, 0, 0, (0), 0), (9, .putfield 198, 3, 8, 17, 0, 0, 0), (12, .iload_n 1, 1, 0, 0, 0, 0, 0), (13, .ifCond .eq 11, 3, 24, 0, 0, 0, 0), (16, .aload_n 0, 1, 0, 0, 0, 0, 0), (17, .iconst 0, 1, 0, 0, 0, (0), 0), (18, .invokevirtual 217, 3, 215, 2, 9, 0, 0), (21, .ifCond .eq 7, 3, 28, 0, 0, 0, 0), (24, .iconst 1, 1, 0, 0, 0, (1), 0), (25, .goto 4, 3, 29, 0, 0, 0, 0), (28, .iconst 0, 1, 0, 0, 0, (0), 0), (29, .istore_n 2, 1, 0, 0, 0, 0, 0), (30, .aload_n 0, 1, 0, 0, 0, 0, 0), (31, .iload_n 1, 1, 0, 0, 0, 0, 0), (32, .bipush 40, 2, 0, 0, 0, (40), 0), (34, .iload_n 2, 1, 0, 0, 0, 0, 0), (35, .invokevirtual 226, 3, 195, 4, 9, 0, 0), (38, .ireturn, 1, 0, 0, 0, 0, 0)]
def cm_X11_readsRule : am_M := fun pc => cd_X11_readsRule.lookup pc
def cd_X11_laysCode : List (Nat × am_E) := [(0, .aload_n 0, 1, 0, 0, 0, 0, 0), (1, .iload_n 2, 1, 0, 0, 0, 0, 0), (2, .putfield 230, 3, 8, 16, 0, 0, 0), (5, .iconst 0, 1, 0, 0, 0, (0), 0), (6, .istore_n 3, 1, 0, 0, 0, 0, 0), (7, .iload_n 3, 1, 0, 0, 0, 0, 0), (8, .iload_n 2, 1, 0, 0, 0, 0, 0), (9, .if_icmp .ge 18, 3, 27, 0, 0, 0, 0), (12, .aload_n 0, 1, 0, 0, 0, 0, 0), (13, .getfield 44, 3, 8, 14, 0, 0, 0), (16, .iload_n 3, 1, 0, 0, 0, 0, 0), (17, .aload_n 1, 1, 0, 0, 0, 0, 0), (18, .iload_n 3, 1, 0, 0, 0, 0, 0), (19, .iaload, 1, 0, 0, 0, 0, 0), (20, .iastore, 1, 0, 0, 0, 0, 0), (21, .iinc 3 1, 3, 0, 0, 0, (1), 0), (24, .goto (-17), 3, 7, 0, 0, 0, 0), (27, .return_, 1, 0, 0, 0, 0, 0)]
def cm_X11_laysCode : am_M := fun pc => cd_X11_laysCode.lookup pc
def cd_X11_rule : List (Nat × am_E) := [(0, .aload_n 0, 1, 0, 0, 0, 0, 0), (1, .iconst 0, 1, 0, 0, 0, (0), 0), (2, .putfield 3, 3, 8, 0, 0, 0, 0), (5, .aload_n 0, 1, 0, 0, 0, 0, 0), (6, .invokevirtual 233, 3, 216, 1, 9, 0, 0), (9, .istore_n 1, 1, 0, 0, 0, 0, 0), (10, .iload_n 1, 1, 0, 0, 0, 0, 0), (11, .ifCond .ne 15, 3, 26, 0, 0, 0, 0), (14, .aload_n 0, 1, 0, 0, 0, 0, 0), (15, .aload_n 0, 1, 0, 0, 0, 0, 0), (16, .getfield 47, 3, 8, 15, 0, 0, 0), (19, .aload_n 0, 1, 0, 0, 0, 0, 0), (20, .getfield 198, 3, 8, 17, 0, 0, 0), (23, .invokevirtual 236, 3, 217, 3, 9, 0, 0), (26, .iload_n 1, 1, 0, 0, 0, 0, 0), (27, .ireturn, 1, 0, 0, 0, 0, 0)]
def cm_X11_rule : am_M := fun pc => cd_X11_rule.lookup pc
def cd_X11_worked : List (Nat × am_E) := [(0, .iload_n 0, 1, 0, 0, 0, 0, 0), (1, .tableswitch 93 0 5 #[39, 53, 67, 81, 85, 89], 39, 0, 0, 0, 0, 0), (40, .iload_n 1, 1, 0, 0, 0, 0, 0), (41, .iload_n 2, 1, 0, 0, 0, 0, 0), (42, .if_icmp .ge 7, 3, 49, 0, 0, 0, 0), (45, .iconst 1, 1, 0, 0, 0, (1), 0), (46, .goto 4, 3, 50, 0, 0, 0, 0), (49, .iconst 0, 1, 0, 0, 0, (0), 0), (50, .invokestatic 133, 3, 178, 1, 0, 0, 0), (53, .ireturn, 1, 0, 0, 0, 0, 0), (54, .iload_n 1, 1, 0, 0, 0, 0, 0), (55, .iload_n 2, 1, 0, 0, 0, 0, 0), (56, .if_icmp .le 7, 3, 63, 0, 0, 0, 0), (59, .iconst 1, 1, 0, 0, 0, (1), 0), (60, .goto 4, 3, 64, 0, 0, 0, 0), (63, .iconst 0, 1, 0, 0, 0, (0), 0), (64, .invokestatic 133, 3, 178, 1, 0, 0, 0), (67, .ireturn, 1, 0, 0, 0, 0, 0), (68, .iload_n 1, 1, 0, 0, 0, 0, 0), (69, .iload_n 2, 1, 0, 0, 0, 0, 0), (70, .if_icmp .ne 7, 3, 77, 0, 0, 0, 0), (73, .iconst 1, 1, 0, 0, 0, (1), 0), (74, .goto 4, 3, 78, 0, 0, 0, 0), (77, .iconst 0, 1, 0, 0, 0, (0), 0), (78, .invokestatic 133, 3, 178, 1, 0, 0, 0), (81, .ireturn, 1, 0, 0, 0, 0, 0), (82, .iload_n 1, 1, 0, 0, 0, 0, 0), (83, .iload_n 2, 1, 0, 0, 0, 0, 0), (84, .iadd, 1, 0, 0, 0, 0, 0), (85, .ireturn, 1, 0, 0, 0, 0, 0), (86, .iload_n 1, 1, 0, 0, 0, 0, 0), (87, .iload_n 2, 1, 0, 0, 0, 0, 0), (88, .isub, 1, 0, 0, 0, 0, 0), (89, .ireturn, 1, 0, 0, 0, 0, 0), (90, .iload_n 1, 1, 0, 0, 0, 0, 0), (91, .iload_n 2, 1, 0, 0, 0, 0, 0), (92, .imul, 1, 0, 0, 0, 0, 0), (93, .ireturn, 1, 0, 0, 0, 0, 0), (94, .iload_n 2, 1, 0, 0, 0, 0, 0), (95, .ifCond .ne 7, 3, 102, 0, 0, 0, 0), (98, .iconst 0, 1, 0, 0, 0, (0), 0), (99, .goto 6, 3, 105, 0, 0, 0, 0), (102, .iload_n 1, 1, 0, 0, 0, 0, 0), (103, .iload_n 2, 1, 0, 0, 0, 0, 0), (104, .idiv, 1, 0, 0, 0, 0, 0), (105, .ireturn, 1, 0, 0, 0, 0, 0)]
def cm_X11_worked : am_M := fun pc => cd_X11_worked.lookup pc
def cd_X11_ruled : List (Nat × am_E) := [(0, .iconst 0, 1, 0, 0, 0, (0), 0), (1, .istore_n 1, 1, 0, 0, 0, 0, 0), (2, .iconst 0, 1, 0, 0, 0, (0), 0), (3, .istore_n 2, 1, 0, 0, 0, 0, 0), (4, .iload_n 2, 1, 0, 0, 0, 0, 0), (5, .aload_n 0, 1, 0, 0, 0, 0, 0), (6, .getfield 230, 3, 8, 16, 0, 0, 0), (9, .if_icmp .ge 116, 3, 125, 0, 0, 0, 0), (12, .aload_n 0, 1, 0, 0, 0, 0, 0), (13, .getfield 44, 3, 8, 14, 0, 0, 0), (16, .iload_n 2, 1, 0, 0, 0, 0, 0), (17, .iaload, 1, 0, 0, 0, 0, 0), (18, .istore_n 3, 1, 0, 0, 0, 0, 0), (19, .iload_n 3, 1, 0, 0, 0, 0, 0), (20, .sipush 3000, 3, 0, 0, 0, (3000), 0), (23, .if_icmp .ne 23, 3, 46, 0, 0, 0, 0), (26, .aload_n 0, 1, 0, 0, 0, 0, 0), (27, .getfield 50, 3, 8, 18, 0, 0, 0), (30, .iload_n 1, 1, 0, 0, 0, 0, 0), (31, .iconst 1, 1, 0, 0, 0, (1), 0), (32, .isub, 1, 0, 0, 0, 0, 0), (33, .aload_n 0, 1, 0, 0, 0, 0, 0), (34, .getfield 50, 3, 8, 18, 0, 0, 0), (37, .iload_n 1, 1, 0, 0, 0, 0, 0), (38, .iconst 1, 1, 0, 0, 0, (1), 0), (39, .isub, 1, 0, 0, 0, 0, 0), (40, .iaload, 1, 0, 0, 0, 0, 0), (41, .ineg, 1, 0, 0, 0, 0, 0), (42, .iastore, 1, 0, 0, 0, 0, 0), (43, .goto 76, 3, 119, 0, 0, 0, 0), (46, .iload_n 3, 1, 0, 0, 0, 0, 0), (47, .sipush 2000, 3, 0, 0, 0, (2000), 0), (50, .if_icmp .lt 39, 3, 89, 0, 0, 0, 0), (53, .iinc 1 (-1), 3, 0, 0, 0, (-1), 0), (56, .aload_n 0, 1, 0, 0, 0, 0, 0), (57, .getfield 50, 3, 8, 18, 0, 0, 0), (60, .iload_n 1, 1, 0, 0, 0, 0, 0), (61, .iconst 1, 1, 0, 0, 0, (1), 0), (62, .isub, 1, 0, 0, 0, 0, 0), (63, .iload_n 3, 1, 0, 0, 0, 0, 0), (64, .sipush 2000, 3, 0, 0, 0, (2000), 0), (67, .isub, 1, 0, 0, 0, 0, 0), (68, .aload_n 0, 1, 0, 0, 0, 0, 0), (69, .getfield 50, 3, 8, 18, 0, 0, 0), (72, .iload_n 1, 1, 0, 0, 0, 0, 0), (73, .iconst 1, 1, 0, 0, 0, (1), 0), (74, .isub, 1, 0, 0, 0, 0, 0), (75, .iaload, 1, 0, 0, 0, 0, 0), (76, .aload_n 0, 1, 0, 0, 0, 0, 0), (77, .getfield 50, 3, 8, 18, 0, 0, 0), (80, .iload_n 1, 1, 0, 0, 0, 0, 0), (81, .iaload, 1, 0, 0, 0, 0, 0), (82, .invokestatic 240, 3, 219, 3, 0, 0, 0), (85, .iastore, 1, 0, 0, 0, 0, 0), (86, .goto 33, 3, 119, 0, 0, 0, 0), (89, .aload_n 0, 1, 0, 0, 0, 0, 0), (90, .getfield 50, 3, 8, 18, 0, 0, 0), (93, .iload_n 1, 1, 0, 0, 0, 0, 0), (94, .iload_n 3, 1, 0, 0, 0, 0, 0), (95, .sipush 1000, 3, 0, 0, 0, (1000), 0), (98, .if_icmp .lt 16, 3, 114, 0, 0, 0, 0), (101, .aload_n 0, 1, 0, 0, 0, 0, 0), (102, .getfield 53, 3, 8, 19, 0, 0, 0), (105, .iload_n 3, 1, 0, 0, 0, 0, 0), (106, .sipush 1000, 3, 0, 0, 0, (1000), 0), (109, .isub, 1, 0, 0, 0, 0, 0), (110, .iaload, 1, 0, 0, 0, 0, 0), (111, .goto 4, 3, 115, 0, 0, 0, 0), (114, .iload_n 3, 1, 0, 0, 0, 0, 0), (115, .iastore, 1, 0, 0, 0, 0, 0), (116, .iinc 1 1, 3, 0, 0, 0, (1), 0), (119, .iinc 2 1, 3, 0, 0, 0, (1), 0), (122, .goto (-118), 3, 4, 0, 0, 0, 0), (125, .aload_n 0, 1, 0, 0, 0, 0, 0), (126, .getfield 230, 3, 8, 16, 0, 0, 0), (129, .ifCond .ne 21, 3, 150, 0, 0, 0, 0), (132, .aload_n 0, 1, 0, 0, 0, 0, 0), (133, .getfield 53, 3, 8, 19, 0, 0, 0), (136, .iconst 0, 1, 0, 0, 0, (0), 0), (137, .iaload, 1, 0, 0, 0, 0, 0), (138, .iconst 2, 1, 0, 0, 0, (2), 0), (139, .aload_n 0, 1, 0, 0, 0, 0, 0), (140, .getfield 53, 3, 8, 19, 0, 0, 0), (143, .iconst 1, 1, 0, 0, 0, (1), 0), (144, .iaload, 1, 0, 0, 0, 0, 0), (145, .imul, 1, 0, 0, 0, 0, 0), (146, .iadd, 1, 0, 0, 0, 0, 0), (147, .goto 9, 3, 156, 0, 0, 0, 0), (150, .aload_n 0, 1, 0, 0, 0, 0, 0), (151, .getfield 50, 3, 8, 18, 0, 0, 0), (154, .iconst 0, 1, 0, 0, 0, (0), 0), (155, .iaload, 1, 0, 0, 0, 0, 0), (156, .ireturn, 1, 0, 0, 0, 0, 0)]
def cm_X11_ruled : am_M := fun pc => cd_X11_ruled.lookup pc
def cd_X11_priceOfLook : List (Nat × am_E) := [(0, .aload_n 0, 1, 0, 0, 0, 0, 0), (1, .getfield 53, 3, 8, 19, 0, 0, 0), (4, .iconst 0, 1, 0, 0, 0, (0), 0), (5, .aload_n 0, 1, 0, 0, 0, 0, 0), (6, .getfield 168, 3, 8, 13, 0, 0, 0), (9, .iastore, 1, 0, 0, 0, 0, 0), (10, .aload_n 0, 1, 0, 0, 0, 0, 0), (11, .getfield 53, 3, 8, 19, 0, 0, 0), (14, .iconst 1, 1, 0, 0, 0, (1), 0), (15, .aload_n 0, 1, 0, 0, 0, 0, 0), (16, .invokevirtual 244, 3, 212, 1, 9, 0, 0), (19, .invokestatic 247, 3, 323, 1, 0, 0, 0), (22, .iastore, 1, 0, 0, 0, 0, 0), (23, .aload_n 0, 1, 0, 0, 0, 0, 0), (24, .getfield 53, 3, 8, 19, 0, 0, 0), (27, .iconst 2, 1, 0, 0, 0, (2), 0), (28, .aload_n 0, 1, 0, 0, 0, 0, 0), (29, .invokevirtual 252, 3, 209, 1, 9, 0, 0), (32, .iastore, 1, 0, 0, 0, 0, 0), (33, .aload_n 0, 1, 0, 0, 0, 0, 0), (34, .getfield 53, 3, 8, 19, 0, 0, 0), (37, .iconst 3, 1, 0, 0, 0, (3), 0), (38, .aload_n 0, 1, 0, 0, 0, 0, 0), (39, .invokevirtual 255, 3, 210, 1, 9, 0, 0), (42, .iastore, 1, 0, 0, 0, 0, 0), (43, .aload_n 0, 1, 0, 0, 0, 0, 0), (44, .getfield 53, 3, 8, 19, 0, 0, 0), (47, .iconst 4, 1, 0, 0, 0, (4), 0), (48, .aload_n 0, 1, 0, 0, 0, 0, 0), (49, .invokevirtual 258, 3, 211, 1, 9, 0, 0), (52, .iastore, 1, 0, 0, 0, 0, 0), (53, .aload_n 0, 1, 0, 0, 0, 0, 0), (54, .getfield 53, 3, 8, 19, 0, 0, 0), (57, .iconst 5, 1, 0, 0, 0, (5), 0), (58, .iconst 0, 1, 0, 0, 0, (0), 0), (59, .iastore, 1, 0, 0, 0, 0, 0), (60, .iconst 0, 1, 0, 0, 0, (0), 0), (61, .istore_n 3, 1, 0, 0, 0, 0, 0), (62, .iload_n 3, 1, 0, 0, 0, 0, 0), (63, .aload_n 0, 1, 0, 0, 0, 0, 0), (64, .getfield 168, 3, 8, 13, 0, 0, 0), (67, .if_icmp .ge 48, 3, 115, 0, 0, 0, 0), (70, .aload_n 0, 1, 0, 0, 0, 0, 0), (71, .getfield 53, 3, 8, 19, 0, 0, 0), (74, .iconst 5, 1, 0, 0, 0, (5), 0), (75, .dup2, 1, 0, 0, 0, 0, 0), (76, .iaload, 1, 0, 0, 0, 0, 0), (77, .aload_n 0, 1, 0, 0, 0, 0, 0), (78, .getfield 41, 3, 8, 12, 0, 0, 0), (81, .iload_n 3, 1, 0, 0, 0, 0, 0), (82, .iaload, 1, 0, 0, 0, 0, 0), (83, .aload_n 0, 1, 0, 0, 0, 0, 0), (84, .getfield 41, 3, 8, 12, 0, 0, 0), (87, .iload_n 3, 1, 0, 0, 0, 0, 0), (88, .iconst 1, 1, 0, 0, 0, (1), 0), (89, .iadd, 1, 0, 0, 0, 0, 0), (90, .aload_n 0, 1, 0, 0, 0, 0, 0), (91, .getfield 168, 3, 8, 13, 0, 0, 0), (94, .irem, 1, 0, 0, 0, 0, 0), (95, .iaload, 1, 0, 0, 0, 0, 0), (96, .if_icmp .eq 7, 3, 103, 0, 0, 0, 0), (99, .iconst 1, 1, 0, 0, 0, (1), 0), (100, .goto 4, 3, 104, 0, 0, 0, 0), (103, .iconst 0, 1, 0, 0, 0, (0), 0), (104, .invokestatic 133, 3, 178, 1, 0, 0, 0), (107, .iadd, 1, 0, 0, 0, 0, 0), (108, .iastore, 1, 0, 0, 0, 0, 0), (109, .iinc 3 1, 3, 0, 0, 0, (1), 0), (112, .goto (-50), 3, 62, 0, 0, 0, 0), (115, .aload_n 0, 1, 0, 0, 0, 0, 0), (116, .getfield 53, 3, 8, 19, 0, 0, 0), (119, .bipush 6, 2, 0, 0, 0, (6), 0), (121, .aload_n 0, 1, 0, 0, 0, 0, 0), (122, .aload_n 1, 1, 0, 0, 0, 0, 0), (123, .iload_n 2, 1, 0, 0, 0, 0, 0), (124, .invokevirtual 261, 3, 208, 3, 9, 0, 0), (127, .iastore, 1, 0, 0, 0, 0, 0), (128, .iconst 0, 1, 0, 0, 0, (0), 0), (129, .bipush 99, 2, 0, 0, 0, (99), 0), (131, .aload_n 0, 1, 0, 0, 0, 0, 0), (132, .invokevirtual 265, 3, 220, 1, 9, 0, 0), (135, .invokestatic 124, 3, 325, 2, 0, 0, 0), (138, .invokestatic 195, 3, 324, 2, 0, 0, 0), (141, .ireturn, 1, 0, 0, 0, 0, 0)]
def cm_X11_priceOfLook : am_M := fun pc => cd_X11_priceOfLook.lookup pc
def cd_X11_price : List (Nat × am_E) := [(0, .aload_n 0, 1, 0, 0, 0, 0, 0), (1, .aload_n 1, 1, 0, 0, 0, 0, 0), (2, .iload_n 2, 1, 0, 0, 0, 0, 0), (3, .invokevirtual 268, 3, 198, 3, 9, 0, 0), (6, .aload_n 0, 1, 0, 0, 0, 0, 0), (7, .aload_n 1, 1, 0, 0, 0, 0, 0), (8, .iload_n 2, 1, 0, 0, 0, 0, 0), (9, .invokevirtual 271, 3, 221, 3, 9, 0, 0), (12, .ireturn, 1, 0, 0, 0, 0, 0)]
def cm_X11_price : am_M := fun pc => cd_X11_price.lookup pc
def cd_X11_prices : List (Nat × am_E) := [(0, .iconst 0, 1, 0, 0, 0, (0), 0), (1, .istore_n 1, 1, 0, 0, 0, 0, 0), (2, .iconst 0, 1, 0, 0, 0, (0), 0), (3, .istore_n 2, 1, 0, 0, 0, 0, 0), (4, .iload_n 2, 1, 0, 0, 0, 0, 0), (5, .aload_n 0, 1, 0, 0, 0, 0, 0), (6, .getfield 28, 3, 8, 3, 0, 0, 0), (9, .bipush 60, 2, 0, 0, 0, (60), 0), (11, .iaload, 1, 0, 0, 0, 0, 0), (12, .if_icmp .ge 21, 3, 33, 0, 0, 0, 0), (15, .iload_n 1, 1, 0, 0, 0, 0, 0), (16, .aload_n 0, 1, 0, 0, 0, 0, 0), (17, .aload_n 0, 1, 0, 0, 0, 0, 0), (18, .getfield 28, 3, 8, 3, 0, 0, 0), (21, .iload_n 2, 1, 0, 0, 0, 0, 0), (22, .invokevirtual 274, 3, 222, 3, 9, 0, 0), (25, .iadd, 1, 0, 0, 0, 0, 0), (26, .istore_n 1, 1, 0, 0, 0, 0, 0), (27, .iinc 2 1, 3, 0, 0, 0, (1), 0), (30, .goto (-26), 3, 4, 0, 0, 0, 0), (33, .iload_n 1, 1, 0, 0, 0, 0, 0), (34, .ireturn, 1, 0, 0, 0, 0, 0)]
def cm_X11_prices : am_M := fun pc => cd_X11_prices.lookup pc
def cd_X11_bracelet : List (Nat × am_E) := [(0, .aload_n 0, 1, 0, 0, 0, 0, 0), (1, .iconst 0, 1, 0, 0, 0, (0), 0), (2, .putfield 3, 3, 8, 0, 0, 0, 0), (5, .aload_n 0, 1, 0, 0, 0, 0, 0), (6, .iload_n 1, 1, 0, 0, 0, 0, 0), (7, .invokevirtual 277, 3, 183, 2, 9, 0, 0), (10, .ifCond .eq 15, 3, 25, 0, 0, 0, 0), (13, .iload_n 2, 1, 0, 0, 0, 0, 0), (14, .i2l, 1, 0, 0, 0, 0, 0), (15, .lconst 0, 1, 0, 0, 0, 0, (0)), (16, .ldc2_w 280, 3, 0, 0, 0, 0, (5)), (19, .invokestatic 111, 3, 176, 3, 0, 0, 0), (22, .ifCond .ne 8, 3, 30, 0, 0, 0, 0), (25, .aload_n 0, 1, 0, 0, 0, 0, 0), (26, .invokevirtual 282, 3, 175, 1, 9, 0, 0), (29, .ireturn, 1, 0, 0, 0, 0, 0), (30, .aload_n 0, 1, 0, 0, 0, 0, 0), (31, .aload_n 0, 1, 0, 0, 0, 0, 0), (32, .getfield 28, 3, 8, 3, 0, 0, 0), (35, .iload_n 1, 1, 0, 0, 0, 0, 0), (36, .invokevirtual 268, 3, 198, 3, 9, 0, 0), (39, .iload_n 2, 1, 0, 0, 0, 0, 0), (40, .tableswitch 68 0 4 #[36, 43, 48, 53, 58], 36, 0, 0, 0, 0, 0), (76, .aload_n 0, 1, 0, 0, 0, 0, 0), (77, .getfield 28, 3, 8, 3, 0, 0, 0), (80, .iload_n 1, 1, 0, 0, 0, 0, 0), (81, .iaload, 1, 0, 0, 0, 0, 0), (82, .ireturn, 1, 0, 0, 0, 0, 0), (83, .aload_n 0, 1, 0, 0, 0, 0, 0), (84, .invokevirtual 244, 3, 212, 1, 9, 0, 0), (87, .ireturn, 1, 0, 0, 0, 0, 0), (88, .aload_n 0, 1, 0, 0, 0, 0, 0), (89, .invokevirtual 252, 3, 209, 1, 9, 0, 0), (92, .ireturn, 1, 0, 0, 0, 0, 0), (93, .aload_n 0, 1, 0, 0, 0, 0, 0), (94, .invokevirtual 255, 3, 210, 1, 9, 0, 0), (97, .ireturn, 1, 0, 0, 0, 0, 0), (98, .aload_n 0, 1, 0, 0, 0, 0, 0), (99, .aload_n 0, 1, 0, 0, 0, 0, 0), (100, .getfield 28, 3, 8, 3, 0, 0, 0), (103, .iload_n 1, 1, 0, 0, 0, 0, 0), (104, .invokevirtual 274, 3, 222, 3, 9, 0, 0), (107, .ireturn, 1, 0, 0, 0, 0, 0), (108, .aload_n 0, 1, 0, 0, 0, 0, 0), (109, .aload_n 0, 1, 0, 0, 0, 0, 0), (110, .getfield 28, 3, 8, 3, 0, 0, 0), (113, .iload_n 1, 1, 0, 0, 0, 0, 0), (114, .invokevirtual 261, 3, 208, 3, 9, 0, 0), (117, .ireturn, 1, 0, 0, 0, 0, 0)]
def cm_X11_bracelet : am_M := fun pc => cd_X11_bracelet.lookup pc
def cd_X11_bead : List (Nat × am_E) := [(0, .aload_n 0, 1, 0, 0, 0, 0, 0), (1, .iconst 0, 1, 0, 0, 0, (0), 0), (2, .putfield 3, 3, 8, 0, 0, 0, 0), (5, .aload_n 0, 1, 0, 0, 0, 0, 0), (6, .iload_n 1, 1, 0, 0, 0, 0, 0), (7, .invokevirtual 277, 3, 183, 2, 9, 0, 0), (10, .ifCond .eq 33, 3, 43, 0, 0, 0, 0), (13, .iload_n 2, 1, 0, 0, 0, 0, 0), (14, .i2l, 1, 0, 0, 0, 0, 0), (15, .lconst 0, 1, 0, 0, 0, 0, (0)), (16, .aload_n 0, 1, 0, 0, 0, 0, 0), (17, .getfield 28, 3, 8, 3, 0, 0, 0), (20, .iload_n 1, 1, 0, 0, 0, 0, 0), (21, .iaload, 1, 0, 0, 0, 0, 0), (22, .iconst 1, 1, 0, 0, 0, (1), 0), (23, .isub, 1, 0, 0, 0, 0, 0), (24, .i2l, 1, 0, 0, 0, 0, 0), (25, .invokestatic 111, 3, 176, 3, 0, 0, 0), (28, .ifCond .eq 15, 3, 43, 0, 0, 0, 0), (31, .aload_n 0, 1, 0, 0, 0, 0, 0), (32, .getfield 28, 3, 8, 3, 0, 0, 0), (35, .iload_n 1, 1, 0, 0, 0, 0, 0), (36, .iload_n 2, 1, 0, 0, 0, 0, 0), (37, .invokestatic 171, 3, 184, 3, 0, 0, 0), (40, .goto 7, 3, 47, 0, 0, 0, 0), (43, .aload_n 0, 1, 0, 0, 0, 0, 0), (44, .invokevirtual 282, 3, 175, 1, 9, 0, 0), (47, .ireturn, 1, 0, 0, 0, 0, 0)]
def cm_X11_bead : am_M := fun pc => cd_X11_bead.lookup pc
def cd_X11_stock : List (Nat × am_E) := [(0, .aload_n 0, 1, 0, 0, 0, 0, 0), (1, .iconst 0, 1, 0, 0, 0, (0), 0), (2, .putfield 3, 3, 8, 0, 0, 0, 0), (5, .iload_n 1, 1, 0, 0, 0, 0, 0), (6, .i2l, 1, 0, 0, 0, 0, 0), (7, .lconst 0, 1, 0, 0, 0, 0, (0)), (8, .ldc2_w 285, 3, 0, 0, 0, 0, (3)), (11, .invokestatic 111, 3, 176, 3, 0, 0, 0), (14, .ifCond .eq 15, 3, 29, 0, 0, 0, 0), (17, .aload_n 0, 1, 0, 0, 0, 0, 0), (18, .getfield 28, 3, 8, 3, 0, 0, 0), (21, .bipush 55, 2, 0, 0, 0, (55), 0), (23, .iload_n 1, 1, 0, 0, 0, 0, 0), (24, .iadd, 1, 0, 0, 0, 0, 0), (25, .iaload, 1, 0, 0, 0, 0, 0), (26, .goto 7, 3, 33, 0, 0, 0, 0), (29, .aload_n 0, 1, 0, 0, 0, 0, 0), (30, .invokevirtual 282, 3, 175, 1, 9, 0, 0), (33, .ireturn, 1, 0, 0, 0, 0, 0)]
def cm_X11_stock : am_M := fun pc => cd_X11_stock.lookup pc
def cd_X11_sheet : List (Nat × am_E) := [(0, .aload_n 0, 1, 0, 0, 0, 0, 0), (1, .iconst 0, 1, 0, 0, 0, (0), 0), (2, .putfield 3, 3, 8, 0, 0, 0, 0), (5, .iload_n 1, 1, 0, 0, 0, 0, 0), (6, .i2l, 1, 0, 0, 0, 0, 0), (7, .lconst 0, 1, 0, 0, 0, 0, (0)), (8, .ldc2_w 285, 3, 0, 0, 0, 0, (3)), (11, .invokestatic 111, 3, 176, 3, 0, 0, 0), (14, .ifCond .eq 8, 3, 22, 0, 0, 0, 0), (17, .iload_n 2, 1, 0, 0, 0, 0, 0), (18, .iconst 4, 1, 0, 0, 0, (4), 0), (19, .if_icmp .le 5, 3, 24, 0, 0, 0, 0), (22, .iconst (-1), 1, 0, 0, 0, (-1), 0), (23, .ireturn, 1, 0, 0, 0, 0, 0), (24, .iload_n 1, 1, 0, 0, 0, 0, 0), (25, .iconst 3, 1, 0, 0, 0, (3), 0), (26, .if_icmp .eq 10, 3, 36, 0, 0, 0, 0), (29, .iload_n 2, 1, 0, 0, 0, 0, 0), (30, .ifCond .ge 6, 3, 36, 0, 0, 0, 0), (33, .bipush (-2), 2, 0, 0, 0, (-2), 0), (35, .ireturn, 1, 0, 0, 0, 0, 0), (36, .iload_n 3, 1, 0, 0, 0, 0, 0), (37, .istore 5, 2, 0, 0, 0, 0, 0), (39, .iconst 0, 1, 0, 0, 0, (0), 0), (40, .istore 6, 2, 0, 0, 0, 0, 0), (42, .iload 6, 2, 0, 0, 0, 0, 0), (44, .iconst 4, 1, 0, 0, 0, (4), 0), (45, .if_icmp .ge 77, 3, 122, 0, 0, 0, 0), (48, .iload_n 1, 1, 0, 0, 0, 0, 0), (49, .ifCond .ne 9, 3, 58, 0, 0, 0, 0), (52, .iload 5, 2, 0, 0, 0, 0, 0), (54, .i2b, 1, 0, 0, 0, 0, 0), (55, .goto 16, 3, 71, 0, 0, 0, 0), (58, .iload_n 1, 1, 0, 0, 0, 0, 0), (59, .iconst 1, 1, 0, 0, 0, (1), 0), (60, .if_icmp .ne 9, 3, 69, 0, 0, 0, 0), (63, .iload 5, 2, 0, 0, 0, 0, 0), (65, .i2s, 1, 0, 0, 0, 0, 0), (66, .goto 5, 3, 71, 0, 0, 0, 0), (69, .iload 5, 2, 0, 0, 0, 0, 0), (71, .istore 7, 2, 0, 0, 0, 0, 0), (73, .aload_n 0, 1, 0, 0, 0, 0, 0), (74, .getfield 28, 3, 8, 3, 0, 0, 0), (77, .bipush 55, 2, 0, 0, 0, (55), 0), (79, .iload 6, 2, 0, 0, 0, 0, 0), (81, .iadd, 1, 0, 0, 0, 0, 0), (82, .iload_n 1, 1, 0, 0, 0, 0, 0), (83, .iconst 3, 1, 0, 0, 0, (3), 0), (84, .if_icmp .eq 9, 3, 93, 0, 0, 0, 0), (87, .iload 6, 2, 0, 0, 0, 0, 0), (89, .iload_n 2, 1, 0, 0, 0, 0, 0), (90, .if_icmp .lt 7, 3, 97, 0, 0, 0, 0), (93, .iconst 0, 1, 0, 0, 0, (0), 0), (94, .goto 14, 3, 108, 0, 0, 0, 0), (97, .iconst 0, 1, 0, 0, 0, (0), 0), (98, .bipush 99, 2, 0, 0, 0, (99), 0), (100, .iload 7, 2, 0, 0, 0, 0, 0), (102, .invokestatic 124, 3, 325, 2, 0, 0, 0), (105, .invokestatic 195, 3, 324, 2, 0, 0, 0), (108, .iastore, 1, 0, 0, 0, 0, 0), (109, .iload 5, 2, 0, 0, 0, 0, 0), (111, .iload 4, 2, 0, 0, 0, 0, 0), (113, .iadd, 1, 0, 0, 0, 0, 0), (114, .istore 5, 2, 0, 0, 0, 0, 0), (116, .iinc 6 1, 3, 0, 0, 0, (1), 0), (119, .goto (-77), 3, 42, 0, 0, 0, 0), (122, .iload_n 1, 1, 0, 0, 0, 0, 0), (123, .iconst 3, 1, 0, 0, 0, (3), 0), (124, .if_icmp .ne 8, 3, 132, 0, 0, 0, 0), (127, .bipush (-3), 2, 0, 0, 0, (-3), 0), (129, .goto 10, 3, 139, 0, 0, 0, 0), (132, .aload_n 0, 1, 0, 0, 0, 0, 0), (133, .getfield 28, 3, 8, 3, 0, 0, 0), (136, .invokestatic 287, 3, 185, 1, 0, 0, 0), (139, .ireturn, 1, 0, 0, 0, 0, 0)]
def cm_X11_sheet : am_M := fun pc => cd_X11_sheet.lookup pc
def cd_X11_putsBy : List (Nat × am_E) := [(0, .iconst 0, 1, 0, 0, 0, (0), 0), (1, .istore_n 1, 1, 0, 0, 0, 0, 0), (2, .iload_n 1, 1, 0, 0, 0, 0, 0), (3, .bipush 61, 2, 0, 0, 0, (61), 0), (5, .if_icmp .ge 29, 3, 34, 0, 0, 0, 0), (8, .aload_n 0, 1, 0, 0, 0, 0, 0), (9, .getfield 56, 3, 8, 21, 0, 0, 0), (12, .bipush 61, 2, 0, 0, 0, (61), 0), (14, .aload_n 0, 1, 0, 0, 0, 0, 0), (15, .getfield 291, 3, 8, 20, 0, 0, 0), (18, .imul, 1, 0, 0, 0, 0, 0), (19, .iload_n 1, 1, 0, 0, 0, 0, 0), (20, .iadd, 1, 0, 0, 0, 0, 0), (21, .aload_n 0, 1, 0, 0, 0, 0, 0), (22, .getfield 28, 3, 8, 3, 0, 0, 0), (25, .iload_n 1, 1, 0, 0, 0, 0, 0), (26, .iaload, 1, 0, 0, 0, 0, 0), (27, .iastore, 1, 0, 0, 0, 0, 0), (28, .iinc 1 1, 3, 0, 0, 0, (1), 0), (31, .goto (-29), 3, 2, 0, 0, 0, 0), (34, .return_, 1, 0, 0, 0, 0, 0)]
def cm_X11_putsBy : am_M := fun pc => cd_X11_putsBy.lookup pc
def cd_X11_adds : List (Nat × am_E) := [(0, .aload_n 0, 1, 0, 0, 0, 0, 0), (1, .dup, 1, 0, 0, 0, 0, 0), (2, .getfield 291, 3, 8, 20, 0, 0, 0), (5, .iconst 1, 1, 0, 0, 0, (1), 0), (6, .iadd, 1, 0, 0, 0, 0, 0), (7, .putfield 291, 3, 8, 20, 0, 0, 0), (10, .aload_n 0, 1, 0, 0, 0, 0, 0), (11, .getfield 291, 3, 8, 20, 0, 0, 0), (14, .bipush 15, 2, 0, 0, 0, (15), 0), (16, .if_icmp .le 43, 3, 59, 0, 0, 0, 0), (19, .iconst 0, 1, 0, 0, 0, (0), 0), (20, .istore_n 2, 1, 0, 0, 0, 0, 0), (21, .iload_n 2, 1, 0, 0, 0, 0, 0), (22, .sipush 915, 3, 0, 0, 0, (915), 0), (25, .if_icmp .ge 24, 3, 49, 0, 0, 0, 0), (28, .aload_n 0, 1, 0, 0, 0, 0, 0), (29, .getfield 56, 3, 8, 21, 0, 0, 0), (32, .iload_n 2, 1, 0, 0, 0, 0, 0), (33, .aload_n 0, 1, 0, 0, 0, 0, 0), (34, .getfield 56, 3, 8, 21, 0, 0, 0), (37, .iload_n 2, 1, 0, 0, 0, 0, 0), (38, .bipush 61, 2, 0, 0, 0, (61), 0), (40, .iadd, 1, 0, 0, 0, 0, 0), (41, .iaload, 1, 0, 0, 0, 0, 0), (42, .iastore, 1, 0, 0, 0, 0, 0), (43, .iinc 2 1, 3, 0, 0, 0, (1), 0), (46, .goto (-25), 3, 21, 0, 0, 0, 0), (49, .aload_n 0, 1, 0, 0, 0, 0, 0), (50, .dup, 1, 0, 0, 0, 0, 0), (51, .getfield 291, 3, 8, 20, 0, 0, 0), (54, .iconst 1, 1, 0, 0, 0, (1), 0), (55, .isub, 1, 0, 0, 0, 0, 0), (56, .putfield 291, 3, 8, 20, 0, 0, 0), (59, .iload_n 1, 1, 0, 0, 0, 0, 0), (60, .ireturn, 1, 0, 0, 0, 0, 0)]
def cm_X11_adds : am_M := fun pc => cd_X11_adds.lookup pc
def cd_X11_counted : List (Nat × am_E) := [(0, .iload_n 1, 1, 0, 0, 0, 0, 0), (1, .ifCond .ge 7, 3, 8, 0, 0, 0, 0), (4, .iload_n 1, 1, 0, 0, 0, 0, 0), (5, .goto 8, 3, 13, 0, 0, 0, 0), (8, .aload_n 0, 1, 0, 0, 0, 0, 0), (9, .iload_n 1, 1, 0, 0, 0, 0, 0), (10, .invokevirtual 294, 3, 229, 2, 9, 0, 0), (13, .ireturn, 1, 0, 0, 0, 0, 0)]
def cm_X11_counted : am_M := fun pc => cd_X11_counted.lookup pc
def cd_X11_undo : List (Nat × am_E) := [(0, .aload_n 0, 1, 0, 0, 0, 0, 0), (1, .iconst 0, 1, 0, 0, 0, (0), 0), (2, .putfield 3, 3, 8, 0, 0, 0, 0), (5, .aload_n 0, 1, 0, 0, 0, 0, 0), (6, .getfield 291, 3, 8, 20, 0, 0, 0), (9, .ifCond .ne 5, 3, 14, 0, 0, 0, 0), (12, .iconst (-1), 1, 0, 0, 0, (-1), 0), (13, .ireturn, 1, 0, 0, 0, 0, 0), (14, .aload_n 0, 1, 0, 0, 0, 0, 0), (15, .dup, 1, 0, 0, 0, 0, 0), (16, .getfield 291, 3, 8, 20, 0, 0, 0), (19, .iconst 1, 1, 0, 0, 0, (1), 0), (20, .isub, 1, 0, 0, 0, 0, 0), (21, .putfield 291, 3, 8, 20, 0, 0, 0), (24, .iconst 0, 1, 0, 0, 0, (0), 0), (25, .istore_n 1, 1, 0, 0, 0, 0, 0), (26, .iload_n 1, 1, 0, 0, 0, 0, 0), (27, .bipush 61, 2, 0, 0, 0, (61), 0), (29, .if_icmp .ge 29, 3, 58, 0, 0, 0, 0), (32, .aload_n 0, 1, 0, 0, 0, 0, 0), (33, .getfield 28, 3, 8, 3, 0, 0, 0), (36, .iload_n 1, 1, 0, 0, 0, 0, 0), (37, .aload_n 0, 1, 0, 0, 0, 0, 0), (38, .getfield 56, 3, 8, 21, 0, 0, 0), (41, .bipush 61, 2, 0, 0, 0, (61), 0), (43, .aload_n 0, 1, 0, 0, 0, 0, 0), (44, .getfield 291, 3, 8, 20, 0, 0, 0), (47, .imul, 1, 0, 0, 0, 0, 0), (48, .iload_n 1, 1, 0, 0, 0, 0, 0), (49, .iadd, 1, 0, 0, 0, 0, 0), (50, .iaload, 1, 0, 0, 0, 0, 0), (51, .iastore, 1, 0, 0, 0, 0, 0), (52, .iinc 1 1, 3, 0, 0, 0, (1), 0), (55, .goto (-29), 3, 26, 0, 0, 0, 0), (58, .aload_n 0, 1, 0, 0, 0, 0, 0), (59, .getfield 291, 3, 8, 20, 0, 0, 0), (62, .ireturn, 1, 0, 0, 0, 0, 0)]
def cm_X11_undo : am_M := fun pc => cd_X11_undo.lookup pc
def cd_X11_isOf : List (Nat × am_E) := [(0, .iload_n 1, 1, 0, 0, 0, 0, 0), (1, .i2l, 1, 0, 0, 0, 0, 0), (2, .lconst 0, 1, 0, 0, 0, 0, (0)), (3, .aload_n 0, 1, 0, 0, 0, 0, 0), (4, .bipush 60, 2, 0, 0, 0, (60), 0), (6, .iaload, 1, 0, 0, 0, 0, 0), (7, .iconst 1, 1, 0, 0, 0, (1), 0), (8, .isub, 1, 0, 0, 0, 0, 0), (9, .i2l, 1, 0, 0, 0, 0, 0), (10, .invokestatic 111, 3, 176, 3, 0, 0, 0), (13, .ireturn, 1, 0, 0, 2, 0, 0)]
def cm_X11_isOf : am_M := fun pc => cd_X11_isOf.lookup pc
def cd_X11_laysBead : List (Nat × am_E) := [(0, .aload_n 0, 1, 0, 0, 0, 0, 0), (1, .iconst 5, 1, 0, 0, 0, (5), 0), (2, .bipush 10, 2, 0, 0, 0, (10), 0), (4, .iload_n 1, 1, 0, 0, 0, 0, 0), (5, .imul, 1, 0, 0, 0, 0, 0), (6, .iadd, 1, 0, 0, 0, 0, 0), (7, .iload_n 2, 1, 0, 0, 0, 0, 0), (8, .iadd, 1, 0, 0, 0, 0, 0), (9, .iload_n 3, 1, 0, 0, 0, 0, 0), (10, .iastore, 1, 0, 0, 0, 0, 0), (11, .return_, 1, 0, 0, 0, 0, 0)]
def cm_X11_laysBead : am_M := fun pc => cd_X11_laysBead.lookup pc
def cd_X11_turnsOne : List (Nat × am_E) := [(0, .aload_n 1, 1, 0, 0, 0, 0, 0), (1, .iload_n 2, 1, 0, 0, 0, 0, 0), (2, .iaload, 1, 0, 0, 0, 0, 0), (3, .istore 4, 2, 0, 0, 0, 0, 0), (5, .iconst 0, 1, 0, 0, 0, (0), 0), (6, .istore 5, 2, 0, 0, 0, 0, 0), (8, .iload 5, 2, 0, 0, 0, 0, 0), (10, .iload 4, 2, 0, 0, 0, 0, 0), (12, .if_icmp .ge 23, 3, 35, 0, 0, 0, 0), (15, .aload_n 0, 1, 0, 0, 0, 0, 0), (16, .getfield 59, 3, 8, 22, 0, 0, 0), (19, .iload 5, 2, 0, 0, 0, 0, 0), (21, .aload_n 1, 1, 0, 0, 0, 0, 0), (22, .iload_n 2, 1, 0, 0, 0, 0, 0), (23, .iload 5, 2, 0, 0, 0, 0, 0), (25, .invokestatic 171, 3, 184, 3, 0, 0, 0), (28, .iastore, 1, 0, 0, 0, 0, 0), (29, .iinc 5 1, 3, 0, 0, 0, (1), 0), (32, .goto (-24), 3, 8, 0, 0, 0, 0), (35, .iconst 0, 1, 0, 0, 0, (0), 0), (36, .istore 5, 2, 0, 0, 0, 0, 0), (38, .iload 5, 2, 0, 0, 0, 0, 0), (40, .iload 4, 2, 0, 0, 0, 0, 0), (42, .if_icmp .ge 28, 3, 70, 0, 0, 0, 0), (45, .aload_n 1, 1, 0, 0, 0, 0, 0), (46, .iload_n 2, 1, 0, 0, 0, 0, 0), (47, .iload 5, 2, 0, 0, 0, 0, 0), (49, .aload_n 0, 1, 0, 0, 0, 0, 0), (50, .getfield 59, 3, 8, 22, 0, 0, 0), (53, .iload 4, 2, 0, 0, 0, 0, 0), (55, .iload_n 3, 1, 0, 0, 0, 0, 0), (56, .iload 5, 2, 0, 0, 0, 0, 0), (58, .invokestatic 175, 3, 199, 4, 0, 0, 0), (61, .invokestatic 297, 3, 233, 4, 0, 0, 0), (64, .iinc 5 1, 3, 0, 0, 0, (1), 0), (67, .goto (-29), 3, 38, 0, 0, 0, 0), (70, .return_, 1, 0, 0, 0, 0, 0)]
def cm_X11_turnsOne : am_M := fun pc => cd_X11_turnsOne.lookup pc
def cd_X11_rollsOne : List (Nat × am_E) := [(0, .aload_n 1, 1, 0, 0, 0, 0, 0), (1, .iload_n 2, 1, 0, 0, 0, 0, 0), (2, .invokestatic 301, 3, 232, 2, 0, 0, 0), (5, .ifCond .eq 15, 3, 20, 0, 0, 0, 0), (8, .iload_n 3, 1, 0, 0, 0, 0, 0), (9, .i2l, 1, 0, 0, 0, 0, 0), (10, .lconst 0, 1, 0, 0, 0, 0, (0)), (11, .ldc2_w 304, 3, 0, 0, 0, 0, (99)), (14, .invokestatic 111, 3, 176, 3, 0, 0, 0), (17, .ifCond .ne 5, 3, 22, 0, 0, 0, 0), (20, .iconst (-1), 1, 0, 0, 0, (-1), 0), (21, .ireturn, 1, 0, 0, 0, 0, 0), (22, .aload_n 0, 1, 0, 0, 0, 0, 0), (23, .aload_n 1, 1, 0, 0, 0, 0, 0), (24, .iload_n 2, 1, 0, 0, 0, 0, 0), (25, .iload_n 3, 1, 0, 0, 0, 0, 0), (26, .aload_n 1, 1, 0, 0, 0, 0, 0), (27, .iload_n 2, 1, 0, 0, 0, 0, 0), (28, .iaload, 1, 0, 0, 0, 0, 0), (29, .irem, 1, 0, 0, 0, 0, 0), (30, .invokevirtual 306, 3, 234, 4, 9, 0, 0), (33, .aload_n 1, 1, 0, 0, 0, 0, 0), (34, .iload_n 2, 1, 0, 0, 0, 0, 0), (35, .iconst 0, 1, 0, 0, 0, (0), 0), (36, .invokestatic 171, 3, 184, 3, 0, 0, 0), (39, .ireturn, 1, 0, 0, 0, 0, 0)]
def cm_X11_rollsOne : am_M := fun pc => cd_X11_rollsOne.lookup pc
def cd_X11_flipsOne : List (Nat × am_E) := [(0, .aload_n 1, 1, 0, 0, 0, 0, 0), (1, .iload_n 2, 1, 0, 0, 0, 0, 0), (2, .invokestatic 301, 3, 232, 2, 0, 0, 0), (5, .ifCond .ne 5, 3, 10, 0, 0, 0, 0), (8, .iconst (-1), 1, 0, 0, 0, (-1), 0), (9, .ireturn, 1, 0, 0, 0, 0, 0), (10, .aload_n 0, 1, 0, 0, 0, 0, 0), (11, .aload_n 1, 1, 0, 0, 0, 0, 0), (12, .iload_n 2, 1, 0, 0, 0, 0, 0), (13, .aload_n 1, 1, 0, 0, 0, 0, 0), (14, .iload_n 2, 1, 0, 0, 0, 0, 0), (15, .iaload, 1, 0, 0, 0, 0, 0), (16, .invokevirtual 306, 3, 234, 4, 9, 0, 0), (19, .aload_n 1, 1, 0, 0, 0, 0, 0), (20, .iload_n 2, 1, 0, 0, 0, 0, 0), (21, .iconst 0, 1, 0, 0, 0, (0), 0), (22, .invokestatic 171, 3, 184, 3, 0, 0, 0), (25, .ireturn, 1, 0, 0, 0, 0, 0)]
def cm_X11_flipsOne : am_M := fun pc => cd_X11_flipsOne.lookup pc
def cd_X11_swapsOne : List (Nat × am_E) := [(0, .aload_n 1, 1, 0, 0, 0, 0, 0), (1, .iload_n 2, 1, 0, 0, 0, 0, 0), (2, .invokestatic 301, 3, 232, 2, 0, 0, 0), (5, .ifCond .eq 18, 3, 23, 0, 0, 0, 0), (8, .iload_n 3, 1, 0, 0, 0, 0, 0), (9, .i2l, 1, 0, 0, 0, 0, 0), (10, .lconst 0, 1, 0, 0, 0, 0, (0)), (11, .aload_n 1, 1, 0, 0, 0, 0, 0), (12, .iload_n 2, 1, 0, 0, 0, 0, 0), (13, .iaload, 1, 0, 0, 0, 0, 0), (14, .iconst 1, 1, 0, 0, 0, (1), 0), (15, .isub, 1, 0, 0, 0, 0, 0), (16, .i2l, 1, 0, 0, 0, 0, 0), (17, .invokestatic 111, 3, 176, 3, 0, 0, 0), (20, .ifCond .ne 5, 3, 25, 0, 0, 0, 0), (23, .iconst (-1), 1, 0, 0, 0, (-1), 0), (24, .ireturn, 1, 0, 0, 0, 0, 0), (25, .iload_n 3, 1, 0, 0, 0, 0, 0), (26, .iconst 1, 1, 0, 0, 0, (1), 0), (27, .iadd, 1, 0, 0, 0, 0, 0), (28, .aload_n 1, 1, 0, 0, 0, 0, 0), (29, .iload_n 2, 1, 0, 0, 0, 0, 0), (30, .iaload, 1, 0, 0, 0, 0, 0), (31, .irem, 1, 0, 0, 0, 0, 0), (32, .istore 4, 2, 0, 0, 0, 0, 0), (34, .aload_n 1, 1, 0, 0, 0, 0, 0), (35, .iload_n 2, 1, 0, 0, 0, 0, 0), (36, .iload_n 3, 1, 0, 0, 0, 0, 0), (37, .invokestatic 171, 3, 184, 3, 0, 0, 0), (40, .istore 5, 2, 0, 0, 0, 0, 0), (42, .aload_n 1, 1, 0, 0, 0, 0, 0), (43, .iload_n 2, 1, 0, 0, 0, 0, 0), (44, .iload 4, 2, 0, 0, 0, 0, 0), (46, .invokestatic 171, 3, 184, 3, 0, 0, 0), (49, .istore 6, 2, 0, 0, 0, 0, 0), (51, .aload_n 1, 1, 0, 0, 0, 0, 0), (52, .iload_n 2, 1, 0, 0, 0, 0, 0), (53, .iload_n 3, 1, 0, 0, 0, 0, 0), (54, .iload 6, 2, 0, 0, 0, 0, 0), (56, .invokestatic 297, 3, 233, 4, 0, 0, 0), (59, .aload_n 1, 1, 0, 0, 0, 0, 0), (60, .iload_n 2, 1, 0, 0, 0, 0, 0), (61, .iload 4, 2, 0, 0, 0, 0, 0), (63, .iload 5, 2, 0, 0, 0, 0, 0), (65, .invokestatic 297, 3, 233, 4, 0, 0, 0), (68, .iload 5, 2, 0, 0, 0, 0, 0), (70, .iload 6, 2, 0, 0, 0, 0, 0), (72, .if_icmp .ne 8, 3, 80, 0, 0, 0, 0), (75, .bipush (-2), 2, 0, 0, 0, (-2), 0), (77, .goto 11, 3, 88, 0, 0, 0, 0), (80, .bipush 10, 2, 0, 0, 0, (10), 0), (82, .iload 6, 2, 0, 0, 0, 0, 0), (84, .imul, 1, 0, 0, 0, 0, 0), (85, .iload 5, 2, 0, 0, 0, 0, 0), (87, .iadd, 1, 0, 0, 0, 0, 0), (88, .ireturn, 1, 0, 0, 0, 0, 0)]
def cm_X11_swapsOne : am_M := fun pc => cd_X11_swapsOne.lookup pc
def cd_X11_threadsOne : List (Nat × am_E) := [(0, .aload_n 1, 1, 0, 0, 0, 0, 0), (1, .iload_n 2, 1, 0, 0, 0, 0, 0), (2, .invokestatic 301, 3, 232, 2, 0, 0, 0), (5, .ifCond .eq 29, 3, 34, 0, 0, 0, 0), (8, .iload_n 3, 1, 0, 0, 0, 0, 0), (9, .i2l, 1, 0, 0, 0, 0, 0), (10, .lconst 0, 1, 0, 0, 0, 0, (0)), (11, .aload_n 1, 1, 0, 0, 0, 0, 0), (12, .iload_n 2, 1, 0, 0, 0, 0, 0), (13, .iaload, 1, 0, 0, 0, 0, 0), (14, .i2l, 1, 0, 0, 0, 0, 0), (15, .invokestatic 111, 3, 176, 3, 0, 0, 0), (18, .ifCond .eq 16, 3, 34, 0, 0, 0, 0), (21, .iload 4, 2, 0, 0, 0, 0, 0), (23, .i2l, 1, 0, 0, 0, 0, 0), (24, .lconst 0, 1, 0, 0, 0, 0, (0)), (25, .ldc2_w 285, 3, 0, 0, 0, 0, (3)), (28, .invokestatic 111, 3, 176, 3, 0, 0, 0), (31, .ifCond .ne 5, 3, 36, 0, 0, 0, 0), (34, .iconst (-1), 1, 0, 0, 0, (-1), 0), (35, .ireturn, 1, 0, 0, 0, 0, 0), (36, .aload_n 1, 1, 0, 0, 0, 0, 0), (37, .iload_n 2, 1, 0, 0, 0, 0, 0), (38, .iaload, 1, 0, 0, 0, 0, 0), (39, .bipush 10, 2, 0, 0, 0, (10), 0), (41, .if_icmp .ne 6, 3, 47, 0, 0, 0, 0), (44, .bipush (-2), 2, 0, 0, 0, (-2), 0), (46, .ireturn, 1, 0, 0, 0, 0, 0), (47, .aload_n 1, 1, 0, 0, 0, 0, 0), (48, .bipush 55, 2, 0, 0, 0, (55), 0), (50, .iload 4, 2, 0, 0, 0, 0, 0), (52, .iadd, 1, 0, 0, 0, 0, 0), (53, .iaload, 1, 0, 0, 0, 0, 0), (54, .ifCond .ne 6, 3, 60, 0, 0, 0, 0), (57, .bipush (-3), 2, 0, 0, 0, (-3), 0), (59, .ireturn, 1, 0, 0, 0, 0, 0), (60, .aload_n 1, 1, 0, 0, 0, 0, 0), (61, .iload_n 2, 1, 0, 0, 0, 0, 0), (62, .iaload, 1, 0, 0, 0, 0, 0), (63, .istore 5, 2, 0, 0, 0, 0, 0), (65, .iload 5, 2, 0, 0, 0, 0, 0), (67, .iload_n 3, 1, 0, 0, 0, 0, 0), (68, .if_icmp .le 25, 3, 93, 0, 0, 0, 0), (71, .aload_n 1, 1, 0, 0, 0, 0, 0), (72, .iload_n 2, 1, 0, 0, 0, 0, 0), (73, .iload 5, 2, 0, 0, 0, 0, 0), (75, .aload_n 1, 1, 0, 0, 0, 0, 0), (76, .iload_n 2, 1, 0, 0, 0, 0, 0), (77, .iload 5, 2, 0, 0, 0, 0, 0), (79, .iconst 1, 1, 0, 0, 0, (1), 0), (80, .isub, 1, 0, 0, 0, 0, 0), (81, .invokestatic 171, 3, 184, 3, 0, 0, 0), (84, .invokestatic 297, 3, 233, 4, 0, 0, 0), (87, .iinc 5 (-1), 3, 0, 0, 0, (-1), 0), (90, .goto (-25), 3, 65, 0, 0, 0, 0), (93, .aload_n 1, 1, 0, 0, 0, 0, 0), (94, .iload_n 2, 1, 0, 0, 0, 0, 0), (95, .iload_n 3, 1, 0, 0, 0, 0, 0), (96, .iload 4, 2, 0, 0, 0, 0, 0), (98, .invokestatic 297, 3, 233, 4, 0, 0, 0), (101, .aload_n 1, 1, 0, 0, 0, 0, 0), (102, .bipush 55, 2, 0, 0, 0, (55), 0), (104, .iload 4, 2, 0, 0, 0, 0, 0), (106, .iadd, 1, 0, 0, 0, 0, 0), (107, .dup2, 1, 0, 0, 0, 0, 0), (108, .iaload, 1, 0, 0, 0, 0, 0), (109, .iconst 1, 1, 0, 0, 0, (1), 0), (110, .isub, 1, 0, 0, 0, 0, 0), (111, .iastore, 1, 0, 0, 0, 0, 0), (112, .aload_n 1, 1, 0, 0, 0, 0, 0), (113, .iload_n 2, 1, 0, 0, 0, 0, 0), (114, .dup2, 1, 0, 0, 0, 0, 0), (115, .iaload, 1, 0, 0, 0, 0, 0), (116, .iconst 1, 1, 0, 0, 0, (1), 0), (117, .iadd, 1, 0, 0, 0, 0, 0), (118, .iastore, 1, 0, 0, 0, 0, 0), (119, .aload_n 1, 1, 0, 0, 0, 0, 0), (120, .iload_n 2, 1, 0, 0, 0, 0, 0), (121, .iaload, 1, 0, 0, 0, 0, 0), (122, .ireturn, 1, 0, 0, 0, 0, 0)]
def cm_X11_threadsOne : am_M := fun pc => cd_X11_threadsOne.lookup pc
def cd_X11_stores : List (Nat × am_E) := [(0, .aload_n 0, 1, 0, 0, 0, 0, 0), (1, .bipush 55, 2, 0, 0, 0, (55), 0), (3, .iload_n 1, 1, 0, 0, 0, 0, 0), (4, .iadd, 1, 0, 0, 0, 0, 0), (5, .bipush 99, 2, 0, 0, 0, (99), 0), (7, .aload_n 0, 1, 0, 0, 0, 0, 0), (8, .bipush 55, 2, 0, 0, 0, (55), 0), (10, .iload_n 1, 1, 0, 0, 0, 0, 0), (11, .iadd, 1, 0, 0, 0, 0, 0), (12, .iaload, 1, 0, 0, 0, 0, 0), (13, .iconst 1, 1, 0, 0, 0, (1), 0), (14, .iadd, 1, 0, 0, 0, 0, 0), (15, .invokestatic 124, 3, 325, 2, 0, 0, 0), (18, .iastore, 1, 0, 0, 0, 0, 0), (19, .return_, 1, 0, 0, 0, 0, 0)]
def cm_X11_stores : am_M := fun pc => cd_X11_stores.lookup pc
def cd_X11_cutsOne : List (Nat × am_E) := [(0, .aload_n 1, 1, 0, 0, 0, 0, 0), (1, .iload_n 2, 1, 0, 0, 0, 0, 0), (2, .invokestatic 301, 3, 232, 2, 0, 0, 0), (5, .ifCond .eq 18, 3, 23, 0, 0, 0, 0), (8, .iload_n 3, 1, 0, 0, 0, 0, 0), (9, .i2l, 1, 0, 0, 0, 0, 0), (10, .lconst 0, 1, 0, 0, 0, 0, (0)), (11, .aload_n 1, 1, 0, 0, 0, 0, 0), (12, .iload_n 2, 1, 0, 0, 0, 0, 0), (13, .iaload, 1, 0, 0, 0, 0, 0), (14, .iconst 1, 1, 0, 0, 0, (1), 0), (15, .isub, 1, 0, 0, 0, 0, 0), (16, .i2l, 1, 0, 0, 0, 0, 0), (17, .invokestatic 111, 3, 176, 3, 0, 0, 0), (20, .ifCond .ne 5, 3, 25, 0, 0, 0, 0), (23, .iconst (-1), 1, 0, 0, 0, (-1), 0), (24, .ireturn, 1, 0, 0, 0, 0, 0), (25, .aload_n 1, 1, 0, 0, 0, 0, 0), (26, .iload_n 2, 1, 0, 0, 0, 0, 0), (27, .iaload, 1, 0, 0, 0, 0, 0), (28, .iconst 1, 1, 0, 0, 0, (1), 0), (29, .if_icmp .ne 6, 3, 35, 0, 0, 0, 0), (32, .bipush (-2), 2, 0, 0, 0, (-2), 0), (34, .ireturn, 1, 0, 0, 0, 0, 0), (35, .aload_n 1, 1, 0, 0, 0, 0, 0), (36, .iload_n 2, 1, 0, 0, 0, 0, 0), (37, .iload_n 3, 1, 0, 0, 0, 0, 0), (38, .invokestatic 171, 3, 184, 3, 0, 0, 0), (41, .istore 4, 2, 0, 0, 0, 0, 0), (43, .iload_n 3, 1, 0, 0, 0, 0, 0), (44, .iconst 1, 1, 0, 0, 0, (1), 0), (45, .iadd, 1, 0, 0, 0, 0, 0), (46, .istore 5, 2, 0, 0, 0, 0, 0), (48, .iload 5, 2, 0, 0, 0, 0, 0), (50, .aload_n 1, 1, 0, 0, 0, 0, 0), (51, .iload_n 2, 1, 0, 0, 0, 0, 0), (52, .iaload, 1, 0, 0, 0, 0, 0), (53, .if_icmp .ge 25, 3, 78, 0, 0, 0, 0), (56, .aload_n 1, 1, 0, 0, 0, 0, 0), (57, .iload_n 2, 1, 0, 0, 0, 0, 0), (58, .iload 5, 2, 0, 0, 0, 0, 0), (60, .iconst 1, 1, 0, 0, 0, (1), 0), (61, .isub, 1, 0, 0, 0, 0, 0), (62, .aload_n 1, 1, 0, 0, 0, 0, 0), (63, .iload_n 2, 1, 0, 0, 0, 0, 0), (64, .iload 5, 2, 0, 0, 0, 0, 0), (66, .invokestatic 171, 3, 184, 3, 0, 0, 0), (69, .invokestatic 297, 3, 233, 4, 0, 0, 0), (72, .iinc 5 1, 3, 0, 0, 0, (1), 0), (75, .goto (-27), 3, 48, 0, 0, 0, 0), (78, .aload_n 1, 1, 0, 0, 0, 0, 0), (79, .iload_n 2, 1, 0, 0, 0, 0, 0), (80, .dup2, 1, 0, 0, 0, 0, 0), (81, .iaload, 1, 0, 0, 0, 0, 0), (82, .iconst 1, 1, 0, 0, 0, (1), 0), (83, .isub, 1, 0, 0, 0, 0, 0), (84, .iastore, 1, 0, 0, 0, 0, 0), (85, .aload_n 1, 1, 0, 0, 0, 0, 0), (86, .iload 4, 2, 0, 0, 0, 0, 0), (88, .invokestatic 310, 3, 239, 2, 0, 0, 0), (91, .iload 4, 2, 0, 0, 0, 0, 0), (93, .ireturn, 1, 0, 0, 0, 0, 0)]
def cm_X11_cutsOne : am_M := fun pc => cd_X11_cutsOne.lookup pc
def cd_X11_goes : List (Nat × am_E) := [(0, .iload_n 1, 1, 0, 0, 0, 0, 0), (1, .iconst 1, 1, 0, 0, 0, (1), 0), (2, .iadd, 1, 0, 0, 0, 0, 0), (3, .istore_n 2, 1, 0, 0, 0, 0, 0), (4, .iload_n 2, 1, 0, 0, 0, 0, 0), (5, .aload_n 0, 1, 0, 0, 0, 0, 0), (6, .bipush 60, 2, 0, 0, 0, (60), 0), (8, .iaload, 1, 0, 0, 0, 0, 0), (9, .if_icmp .ge 45, 3, 54, 0, 0, 0, 0), (12, .aload_n 0, 1, 0, 0, 0, 0, 0), (13, .iload_n 2, 1, 0, 0, 0, 0, 0), (14, .iconst 1, 1, 0, 0, 0, (1), 0), (15, .isub, 1, 0, 0, 0, 0, 0), (16, .aload_n 0, 1, 0, 0, 0, 0, 0), (17, .iload_n 2, 1, 0, 0, 0, 0, 0), (18, .iaload, 1, 0, 0, 0, 0, 0), (19, .iastore, 1, 0, 0, 0, 0, 0), (20, .iconst 0, 1, 0, 0, 0, (0), 0), (21, .istore_n 3, 1, 0, 0, 0, 0, 0), (22, .iload_n 3, 1, 0, 0, 0, 0, 0), (23, .bipush 10, 2, 0, 0, 0, (10), 0), (25, .if_icmp .ge 23, 3, 48, 0, 0, 0, 0), (28, .aload_n 0, 1, 0, 0, 0, 0, 0), (29, .iload_n 2, 1, 0, 0, 0, 0, 0), (30, .iconst 1, 1, 0, 0, 0, (1), 0), (31, .isub, 1, 0, 0, 0, 0, 0), (32, .iload_n 3, 1, 0, 0, 0, 0, 0), (33, .aload_n 0, 1, 0, 0, 0, 0, 0), (34, .iload_n 2, 1, 0, 0, 0, 0, 0), (35, .iload_n 3, 1, 0, 0, 0, 0, 0), (36, .invokestatic 171, 3, 184, 3, 0, 0, 0), (39, .invokestatic 297, 3, 233, 4, 0, 0, 0), (42, .iinc 3 1, 3, 0, 0, 0, (1), 0), (45, .goto (-23), 3, 22, 0, 0, 0, 0), (48, .iinc 2 1, 3, 0, 0, 0, (1), 0), (51, .goto (-47), 3, 4, 0, 0, 0, 0), (54, .aload_n 0, 1, 0, 0, 0, 0, 0), (55, .bipush 60, 2, 0, 0, 0, (60), 0), (57, .dup2, 1, 0, 0, 0, 0, 0), (58, .iaload, 1, 0, 0, 0, 0, 0), (59, .iconst 1, 1, 0, 0, 0, (1), 0), (60, .isub, 1, 0, 0, 0, 0, 0), (61, .iastore, 1, 0, 0, 0, 0, 0), (62, .return_, 1, 0, 0, 0, 0, 0)]
def cm_X11_goes : am_M := fun pc => cd_X11_goes.lookup pc
def cd_X11_joinsOne : List (Nat × am_E) := [(0, .aload_n 1, 1, 0, 0, 0, 0, 0), (1, .iload_n 2, 1, 0, 0, 0, 0, 0), (2, .invokestatic 301, 3, 232, 2, 0, 0, 0), (5, .ifCond .eq 16, 3, 21, 0, 0, 0, 0), (8, .aload_n 1, 1, 0, 0, 0, 0, 0), (9, .iload_n 3, 1, 0, 0, 0, 0, 0), (10, .invokestatic 301, 3, 232, 2, 0, 0, 0), (13, .ifCond .eq 8, 3, 21, 0, 0, 0, 0), (16, .iload_n 2, 1, 0, 0, 0, 0, 0), (17, .iload_n 3, 1, 0, 0, 0, 0, 0), (18, .if_icmp .ne 5, 3, 23, 0, 0, 0, 0), (21, .iconst (-1), 1, 0, 0, 0, (-1), 0), (22, .ireturn, 1, 0, 0, 0, 0, 0), (23, .aload_n 1, 1, 0, 0, 0, 0, 0), (24, .iload_n 2, 1, 0, 0, 0, 0, 0), (25, .iaload, 1, 0, 0, 0, 0, 0), (26, .aload_n 1, 1, 0, 0, 0, 0, 0), (27, .iload_n 3, 1, 0, 0, 0, 0, 0), (28, .iaload, 1, 0, 0, 0, 0, 0), (29, .iadd, 1, 0, 0, 0, 0, 0), (30, .istore 4, 2, 0, 0, 0, 0, 0), (32, .iload 4, 2, 0, 0, 0, 0, 0), (34, .bipush 10, 2, 0, 0, 0, (10), 0), (36, .if_icmp .le 6, 3, 42, 0, 0, 0, 0), (39, .bipush (-2), 2, 0, 0, 0, (-2), 0), (41, .ireturn, 1, 0, 0, 0, 0, 0), (42, .aload_n 1, 1, 0, 0, 0, 0, 0), (43, .iload_n 2, 1, 0, 0, 0, 0, 0), (44, .iaload, 1, 0, 0, 0, 0, 0), (45, .istore 5, 2, 0, 0, 0, 0, 0), (47, .iload 5, 2, 0, 0, 0, 0, 0), (49, .iload 4, 2, 0, 0, 0, 0, 0), (51, .if_icmp .ge 27, 3, 78, 0, 0, 0, 0), (54, .aload_n 1, 1, 0, 0, 0, 0, 0), (55, .iload_n 2, 1, 0, 0, 0, 0, 0), (56, .iload 5, 2, 0, 0, 0, 0, 0), (58, .aload_n 1, 1, 0, 0, 0, 0, 0), (59, .iload_n 3, 1, 0, 0, 0, 0, 0), (60, .iload 5, 2, 0, 0, 0, 0, 0), (62, .aload_n 1, 1, 0, 0, 0, 0, 0), (63, .iload_n 2, 1, 0, 0, 0, 0, 0), (64, .iaload, 1, 0, 0, 0, 0, 0), (65, .isub, 1, 0, 0, 0, 0, 0), (66, .invokestatic 171, 3, 184, 3, 0, 0, 0), (69, .invokestatic 297, 3, 233, 4, 0, 0, 0), (72, .iinc 5 1, 3, 0, 0, 0, (1), 0), (75, .goto (-28), 3, 47, 0, 0, 0, 0), (78, .aload_n 1, 1, 0, 0, 0, 0, 0), (79, .iload_n 2, 1, 0, 0, 0, 0, 0), (80, .iload 4, 2, 0, 0, 0, 0, 0), (82, .iastore, 1, 0, 0, 0, 0, 0), (83, .aload_n 1, 1, 0, 0, 0, 0, 0), (84, .iload_n 3, 1, 0, 0, 0, 0, 0), (85, .invokestatic 313, 3, 241, 2, 0, 0, 0), (88, .iload 4, 2, 0, 0, 0, 0, 0), (90, .ireturn, 1, 0, 0, 0, 0, 0)]
def cm_X11_joinsOne : am_M := fun pc => cd_X11_joinsOne.lookup pc
def cd_X11_partsOne : List (Nat × am_E) := [(0, .aload_n 1, 1, 0, 0, 0, 0, 0), (1, .iload_n 2, 1, 0, 0, 0, 0, 0), (2, .invokestatic 301, 3, 232, 2, 0, 0, 0), (5, .ifCond .ne 5, 3, 10, 0, 0, 0, 0), (8, .iconst (-1), 1, 0, 0, 0, (-1), 0), (9, .ireturn, 1, 0, 0, 0, 0, 0), (10, .aload_n 1, 1, 0, 0, 0, 0, 0), (11, .iload_n 2, 1, 0, 0, 0, 0, 0), (12, .iaload, 1, 0, 0, 0, 0, 0), (13, .istore_n 3, 1, 0, 0, 0, 0, 0), (14, .iconst 0, 1, 0, 0, 0, (0), 0), (15, .istore 4, 2, 0, 0, 0, 0, 0), (17, .iload 4, 2, 0, 0, 0, 0, 0), (19, .iload_n 3, 1, 0, 0, 0, 0, 0), (20, .if_icmp .ge 20, 3, 40, 0, 0, 0, 0), (23, .aload_n 1, 1, 0, 0, 0, 0, 0), (24, .aload_n 1, 1, 0, 0, 0, 0, 0), (25, .iload_n 2, 1, 0, 0, 0, 0, 0), (26, .iload 4, 2, 0, 0, 0, 0, 0), (28, .invokestatic 171, 3, 184, 3, 0, 0, 0), (31, .invokestatic 310, 3, 239, 2, 0, 0, 0), (34, .iinc 4 1, 3, 0, 0, 0, (1), 0), (37, .goto (-20), 3, 17, 0, 0, 0, 0), (40, .aload_n 1, 1, 0, 0, 0, 0, 0), (41, .iload_n 2, 1, 0, 0, 0, 0, 0), (42, .invokestatic 313, 3, 241, 2, 0, 0, 0), (45, .iload_n 3, 1, 0, 0, 0, 0, 0), (46, .ireturn, 1, 0, 0, 0, 0, 0)]
def cm_X11_partsOne : am_M := fun pc => cd_X11_partsOne.lookup pc
def cd_X11_sellsOne : List (Nat × am_E) := [(0, .aload_n 1, 1, 0, 0, 0, 0, 0), (1, .iload_n 2, 1, 0, 0, 0, 0, 0), (2, .invokestatic 301, 3, 232, 2, 0, 0, 0), (5, .ifCond .ne 5, 3, 10, 0, 0, 0, 0), (8, .iconst (-1), 1, 0, 0, 0, (-1), 0), (9, .ireturn, 1, 0, 0, 0, 0, 0), (10, .aload_n 0, 1, 0, 0, 0, 0, 0), (11, .aload_n 1, 1, 0, 0, 0, 0, 0), (12, .iload_n 2, 1, 0, 0, 0, 0, 0), (13, .invokevirtual 274, 3, 222, 3, 9, 0, 0), (16, .istore_n 3, 1, 0, 0, 0, 0, 0), (17, .aload_n 1, 1, 0, 0, 0, 0, 0), (18, .bipush 59, 2, 0, 0, 0, (59), 0), (20, .sipush 9999, 3, 0, 0, 0, (9999), 0), (23, .aload_n 1, 1, 0, 0, 0, 0, 0), (24, .bipush 59, 2, 0, 0, 0, (59), 0), (26, .iaload, 1, 0, 0, 0, 0, 0), (27, .iload_n 3, 1, 0, 0, 0, 0, 0), (28, .iadd, 1, 0, 0, 0, 0, 0), (29, .invokestatic 124, 3, 325, 2, 0, 0, 0), (32, .iastore, 1, 0, 0, 0, 0, 0), (33, .aload_n 1, 1, 0, 0, 0, 0, 0), (34, .iload_n 2, 1, 0, 0, 0, 0, 0), (35, .invokestatic 313, 3, 241, 2, 0, 0, 0), (38, .iload_n 3, 1, 0, 0, 0, 0, 0), (39, .ireturn, 1, 0, 0, 0, 0, 0)]
def cm_X11_sellsOne : am_M := fun pc => cd_X11_sellsOne.lookup pc
def cd_X11_buysOne : List (Nat × am_E) := [(0, .iload_n 2, 1, 0, 0, 0, 0, 0), (1, .i2l, 1, 0, 0, 0, 0, 0), (2, .lconst 0, 1, 0, 0, 0, 0, (0)), (3, .ldc2_w 285, 3, 0, 0, 0, 0, (3)), (6, .invokestatic 111, 3, 176, 3, 0, 0, 0), (9, .ifCond .eq 15, 3, 24, 0, 0, 0, 0), (12, .iload_n 3, 1, 0, 0, 0, 0, 0), (13, .i2l, 1, 0, 0, 0, 0, 0), (14, .lconst 1, 1, 0, 0, 0, 0, (1)), (15, .ldc2_w 316, 3, 0, 0, 0, 0, (9)), (18, .invokestatic 111, 3, 176, 3, 0, 0, 0), (21, .ifCond .ne 5, 3, 26, 0, 0, 0, 0), (24, .iconst (-1), 1, 0, 0, 0, (-1), 0), (25, .ireturn, 1, 0, 0, 0, 0, 0), (26, .aload_n 1, 1, 0, 0, 0, 0, 0), (27, .bipush 59, 2, 0, 0, 0, (59), 0), (29, .iaload, 1, 0, 0, 0, 0, 0), (30, .iload_n 3, 1, 0, 0, 0, 0, 0), (31, .if_icmp .ge 6, 3, 37, 0, 0, 0, 0), (34, .bipush (-2), 2, 0, 0, 0, (-2), 0), (36, .ireturn, 1, 0, 0, 0, 0, 0), (37, .aload_n 1, 1, 0, 0, 0, 0, 0), (38, .bipush 55, 2, 0, 0, 0, (55), 0), (40, .iload_n 2, 1, 0, 0, 0, 0, 0), (41, .iadd, 1, 0, 0, 0, 0, 0), (42, .iaload, 1, 0, 0, 0, 0, 0), (43, .iload_n 3, 1, 0, 0, 0, 0, 0), (44, .iadd, 1, 0, 0, 0, 0, 0), (45, .bipush 99, 2, 0, 0, 0, (99), 0), (47, .if_icmp .le 6, 3, 53, 0, 0, 0, 0), (50, .bipush (-3), 2, 0, 0, 0, (-3), 0), (52, .ireturn, 1, 0, 0, 0, 0, 0), (53, .aload_n 1, 1, 0, 0, 0, 0, 0), (54, .bipush 59, 2, 0, 0, 0, (59), 0), (56, .dup2, 1, 0, 0, 0, 0, 0), (57, .iaload, 1, 0, 0, 0, 0, 0), (58, .iload_n 3, 1, 0, 0, 0, 0, 0), (59, .isub, 1, 0, 0, 0, 0, 0), (60, .iastore, 1, 0, 0, 0, 0, 0), (61, .aload_n 1, 1, 0, 0, 0, 0, 0), (62, .bipush 55, 2, 0, 0, 0, (55), 0), (64, .iload_n 2, 1, 0, 0, 0, 0, 0), (65, .iadd, 1, 0, 0, 0, 0, 0), (66, .dup2, 1, 0, 0, 0, 0, 0), (67, .iaload, 1, 0, 0, 0, 0, 0), (68, .iload_n 3, 1, 0, 0, 0, 0, 0), (69, .iadd, 1, 0, 0, 0, 0, 0), (70, .iastore, 1, 0, 0, 0, 0, 0), (71, .aload_n 1, 1, 0, 0, 0, 0, 0), (72, .bipush 55, 2, 0, 0, 0, (55), 0), (74, .iload_n 2, 1, 0, 0, 0, 0, 0), (75, .iadd, 1, 0, 0, 0, 0, 0), (76, .iaload, 1, 0, 0, 0, 0, 0), (77, .ireturn, 1, 0, 0, 0, 0, 0)]
def cm_X11_buysOne : am_M := fun pc => cd_X11_buysOne.lookup pc
def cd_X11_strings : List (Nat × am_E) := [(0, .aload_n 0, 1, 0, 0, 0, 0, 0), (1, .iconst 0, 1, 0, 0, 0, (0), 0), (2, .putfield 3, 3, 8, 0, 0, 0, 0), (5, .aload_n 0, 1, 0, 0, 0, 0, 0), (6, .invokevirtual 318, 3, 196, 1, 9, 0, 0), (9, .istore_n 1, 1, 0, 0, 0, 0, 0), (10, .iload_n 1, 1, 0, 0, 0, 0, 0), (11, .ifCond .ge 5, 3, 16, 0, 0, 0, 0), (14, .iload_n 1, 1, 0, 0, 0, 0, 0), (15, .ireturn, 1, 0, 0, 0, 0, 0), (16, .aload_n 0, 1, 0, 0, 0, 0, 0), (17, .getfield 28, 3, 8, 3, 0, 0, 0), (20, .bipush 60, 2, 0, 0, 0, (60), 0), (22, .iaload, 1, 0, 0, 0, 0, 0), (23, .iconst 5, 1, 0, 0, 0, (5), 0), (24, .if_icmp .ne 6, 3, 30, 0, 0, 0, 0), (27, .bipush (-100), 2, 0, 0, 0, (-100), 0), (29, .ireturn, 1, 0, 0, 0, 0, 0), (30, .iconst 0, 1, 0, 0, 0, (0), 0), (31, .istore_n 2, 1, 0, 0, 0, 0, 0), (32, .iload_n 2, 1, 0, 0, 0, 0, 0), (33, .iconst 4, 1, 0, 0, 0, (4), 0), (34, .if_icmp .ge 29, 3, 63, 0, 0, 0, 0), (37, .aload_n 0, 1, 0, 0, 0, 0, 0), (38, .iload_n 2, 1, 0, 0, 0, 0, 0), (39, .invokevirtual 321, 3, 197, 2, 9, 0, 0), (42, .aload_n 0, 1, 0, 0, 0, 0, 0), (43, .getfield 28, 3, 8, 3, 0, 0, 0), (46, .bipush 55, 2, 0, 0, 0, (55), 0), (48, .iload_n 2, 1, 0, 0, 0, 0, 0), (49, .iadd, 1, 0, 0, 0, 0, 0), (50, .iaload, 1, 0, 0, 0, 0, 0), (51, .if_icmp .le 6, 3, 57, 0, 0, 0, 0), (54, .bipush (-101), 2, 0, 0, 0, (-101), 0), (56, .ireturn, 1, 0, 0, 0, 0, 0), (57, .iinc 2 1, 3, 0, 0, 0, (1), 0), (60, .goto (-28), 3, 32, 0, 0, 0, 0), (63, .aload_n 0, 1, 0, 0, 0, 0, 0), (64, .invokevirtual 324, 3, 228, 1, 9, 0, 0), (67, .aload_n 0, 1, 0, 0, 0, 0, 0), (68, .getfield 28, 3, 8, 3, 0, 0, 0), (71, .bipush 60, 2, 0, 0, 0, (60), 0), (73, .iaload, 1, 0, 0, 0, 0, 0), (74, .istore_n 2, 1, 0, 0, 0, 0, 0), (75, .aload_n 0, 1, 0, 0, 0, 0, 0), (76, .getfield 28, 3, 8, 3, 0, 0, 0), (79, .iload_n 2, 1, 0, 0, 0, 0, 0), (80, .aload_n 0, 1, 0, 0, 0, 0, 0), (81, .getfield 159, 3, 8, 11, 0, 0, 0), (84, .iastore, 1, 0, 0, 0, 0, 0), (85, .iconst 0, 1, 0, 0, 0, (0), 0), (86, .istore_n 3, 1, 0, 0, 0, 0, 0), (87, .iload_n 3, 1, 0, 0, 0, 0, 0), (88, .aload_n 0, 1, 0, 0, 0, 0, 0), (89, .getfield 159, 3, 8, 11, 0, 0, 0), (92, .if_icmp .ge 42, 3, 134, 0, 0, 0, 0), (95, .aload_n 0, 1, 0, 0, 0, 0, 0), (96, .getfield 28, 3, 8, 3, 0, 0, 0), (99, .iload_n 2, 1, 0, 0, 0, 0, 0), (100, .iload_n 3, 1, 0, 0, 0, 0, 0), (101, .aload_n 0, 1, 0, 0, 0, 0, 0), (102, .getfield 38, 3, 8, 10, 0, 0, 0), (105, .iload_n 3, 1, 0, 0, 0, 0, 0), (106, .iaload, 1, 0, 0, 0, 0, 0), (107, .invokestatic 297, 3, 233, 4, 0, 0, 0), (110, .aload_n 0, 1, 0, 0, 0, 0, 0), (111, .getfield 28, 3, 8, 3, 0, 0, 0), (114, .bipush 55, 2, 0, 0, 0, (55), 0), (116, .aload_n 0, 1, 0, 0, 0, 0, 0), (117, .getfield 38, 3, 8, 10, 0, 0, 0), (120, .iload_n 3, 1, 0, 0, 0, 0, 0), (121, .iaload, 1, 0, 0, 0, 0, 0), (122, .iadd, 1, 0, 0, 0, 0, 0), (123, .dup2, 1, 0, 0, 0, 0, 0), (124, .iaload, 1, 0, 0, 0, 0, 0), (125, .iconst 1, 1, 0, 0, 0, (1), 0), (126, .isub, 1, 0, 0, 0, 0, 0), (127, .iastore, 1, 0, 0, 0, 0, 0), (128, .iinc 3 1, 3, 0, 0, 0, (1), 0), (131, .goto (-44), 3, 87, 0, 0, 0, 0), (134, .aload_n 0, 1, 0, 0, 0, 0, 0), (135, .getfield 28, 3, 8, 3, 0, 0, 0), (138, .bipush 60, 2, 0, 0, 0, (60), 0), (140, .dup2, 1, 0, 0, 0, 0, 0), (141, .iaload, 1, 0, 0, 0, 0, 0), (142, .iconst 1, 1, 0, 0, 0, (1), 0), (143, .iadd, 1, 0, 0, 0, 0, 0), (144, .iastore, 1, 0, 0, 0, 0, 0), (145, .aload_n 0, 1, 0, 0, 0, 0, 0), (146, .iload_n 2, 1, 0, 0, 0, 0, 0), (147, .invokevirtual 294, 3, 229, 2, 9, 0, 0), (150, .ireturn, 1, 0, 0, 0, 0, 0)]
def cm_X11_strings : am_M := fun pc => cd_X11_strings.lookup pc
def cd_X11_rolls : List (Nat × am_E) := [(0, .aload_n 0, 1, 0, 0, 0, 0, 0), (1, .iconst 0, 1, 0, 0, 0, (0), 0), (2, .putfield 3, 3, 8, 0, 0, 0, 0), (5, .aload_n 0, 1, 0, 0, 0, 0, 0), (6, .invokevirtual 324, 3, 228, 1, 9, 0, 0), (9, .aload_n 0, 1, 0, 0, 0, 0, 0), (10, .aload_n 0, 1, 0, 0, 0, 0, 0), (11, .aload_n 0, 1, 0, 0, 0, 0, 0), (12, .getfield 28, 3, 8, 3, 0, 0, 0), (15, .iload_n 1, 1, 0, 0, 0, 0, 0), (16, .iload_n 2, 1, 0, 0, 0, 0, 0), (17, .invokevirtual 327, 3, 235, 4, 9, 0, 0), (20, .invokevirtual 330, 3, 230, 2, 9, 0, 0), (23, .ireturn, 1, 0, 0, 0, 0, 0)]
def cm_X11_rolls : am_M := fun pc => cd_X11_rolls.lookup pc
def cd_X11_flips : List (Nat × am_E) := [(0, .aload_n 0, 1, 0, 0, 0, 0, 0), (1, .iconst 0, 1, 0, 0, 0, (0), 0), (2, .putfield 3, 3, 8, 0, 0, 0, 0), (5, .aload_n 0, 1, 0, 0, 0, 0, 0), (6, .invokevirtual 324, 3, 228, 1, 9, 0, 0), (9, .aload_n 0, 1, 0, 0, 0, 0, 0), (10, .aload_n 0, 1, 0, 0, 0, 0, 0), (11, .aload_n 0, 1, 0, 0, 0, 0, 0), (12, .getfield 28, 3, 8, 3, 0, 0, 0), (15, .iload_n 1, 1, 0, 0, 0, 0, 0), (16, .invokevirtual 333, 3, 236, 3, 9, 0, 0), (19, .invokevirtual 330, 3, 230, 2, 9, 0, 0), (22, .ireturn, 1, 0, 0, 0, 0, 0)]
def cm_X11_flips : am_M := fun pc => cd_X11_flips.lookup pc
def cd_X11_swaps : List (Nat × am_E) := [(0, .aload_n 0, 1, 0, 0, 0, 0, 0), (1, .iconst 0, 1, 0, 0, 0, (0), 0), (2, .putfield 3, 3, 8, 0, 0, 0, 0), (5, .aload_n 0, 1, 0, 0, 0, 0, 0), (6, .invokevirtual 324, 3, 228, 1, 9, 0, 0), (9, .aload_n 0, 1, 0, 0, 0, 0, 0), (10, .aload_n 0, 1, 0, 0, 0, 0, 0), (11, .aload_n 0, 1, 0, 0, 0, 0, 0), (12, .getfield 28, 3, 8, 3, 0, 0, 0), (15, .iload_n 1, 1, 0, 0, 0, 0, 0), (16, .iload_n 2, 1, 0, 0, 0, 0, 0), (17, .invokevirtual 336, 3, 237, 4, 9, 0, 0), (20, .invokevirtual 330, 3, 230, 2, 9, 0, 0), (23, .ireturn, 1, 0, 0, 0, 0, 0)]
def cm_X11_swaps : am_M := fun pc => cd_X11_swaps.lookup pc
def cd_X11_threads : List (Nat × am_E) := [(0, .aload_n 0, 1, 0, 0, 0, 0, 0), (1, .iconst 0, 1, 0, 0, 0, (0), 0), (2, .putfield 3, 3, 8, 0, 0, 0, 0), (5, .aload_n 0, 1, 0, 0, 0, 0, 0), (6, .invokevirtual 324, 3, 228, 1, 9, 0, 0), (9, .aload_n 0, 1, 0, 0, 0, 0, 0), (10, .aload_n 0, 1, 0, 0, 0, 0, 0), (11, .aload_n 0, 1, 0, 0, 0, 0, 0), (12, .getfield 28, 3, 8, 3, 0, 0, 0), (15, .iload_n 1, 1, 0, 0, 0, 0, 0), (16, .iload_n 2, 1, 0, 0, 0, 0, 0), (17, .iload_n 3, 1, 0, 0, 0, 0, 0), (18, .invokevirtual 339, 3, 238, 5, 9, 0, 0), (21, .invokevirtual 330, 3, 230, 2, 9, 0, 0), (24, .ireturn, 1, 0, 0, 0, 0, 0)]
def cm_X11_threads : am_M := fun pc => cd_X11_threads.lookup pc
def cd_X11_cuts : List (Nat × am_E) := [(0, .aload_n 0, 1, 0, 0, 0, 0, 0), (1, .iconst 0, 1, 0, 0, 0, (0), 0), (2, .putfield 3, 3, 8, 0, 0, 0, 0), (5, .aload_n 0, 1, 0, 0, 0, 0, 0), (6, .invokevirtual 324, 3, 228, 1, 9, 0, 0), (9, .aload_n 0, 1, 0, 0, 0, 0, 0), (10, .aload_n 0, 1, 0, 0, 0, 0, 0), (11, .aload_n 0, 1, 0, 0, 0, 0, 0), (12, .getfield 28, 3, 8, 3, 0, 0, 0), (15, .iload_n 1, 1, 0, 0, 0, 0, 0), (16, .iload_n 2, 1, 0, 0, 0, 0, 0), (17, .invokevirtual 342, 3, 240, 4, 9, 0, 0), (20, .invokevirtual 330, 3, 230, 2, 9, 0, 0), (23, .ireturn, 1, 0, 0, 0, 0, 0)]
def cm_X11_cuts : am_M := fun pc => cd_X11_cuts.lookup pc
def cd_X11_joins : List (Nat × am_E) := [(0, .aload_n 0, 1, 0, 0, 0, 0, 0), (1, .iconst 0, 1, 0, 0, 0, (0), 0), (2, .putfield 3, 3, 8, 0, 0, 0, 0), (5, .aload_n 0, 1, 0, 0, 0, 0, 0), (6, .invokevirtual 324, 3, 228, 1, 9, 0, 0), (9, .aload_n 0, 1, 0, 0, 0, 0, 0), (10, .aload_n 0, 1, 0, 0, 0, 0, 0), (11, .aload_n 0, 1, 0, 0, 0, 0, 0), (12, .getfield 28, 3, 8, 3, 0, 0, 0), (15, .iload_n 1, 1, 0, 0, 0, 0, 0), (16, .iload_n 2, 1, 0, 0, 0, 0, 0), (17, .invokevirtual 345, 3, 242, 4, 9, 0, 0), (20, .invokevirtual 330, 3, 230, 2, 9, 0, 0), (23, .ireturn, 1, 0, 0, 0, 0, 0)]
def cm_X11_joins : am_M := fun pc => cd_X11_joins.lookup pc
def cd_X11_parts : List (Nat × am_E) := [(0, .aload_n 0, 1, 0, 0, 0, 0, 0), (1, .iconst 0, 1, 0, 0, 0, (0), 0), (2, .putfield 3, 3, 8, 0, 0, 0, 0), (5, .aload_n 0, 1, 0, 0, 0, 0, 0), (6, .invokevirtual 324, 3, 228, 1, 9, 0, 0), (9, .aload_n 0, 1, 0, 0, 0, 0, 0), (10, .aload_n 0, 1, 0, 0, 0, 0, 0), (11, .aload_n 0, 1, 0, 0, 0, 0, 0), (12, .getfield 28, 3, 8, 3, 0, 0, 0), (15, .iload_n 1, 1, 0, 0, 0, 0, 0), (16, .invokevirtual 348, 3, 243, 3, 9, 0, 0), (19, .invokevirtual 330, 3, 230, 2, 9, 0, 0), (22, .ireturn, 1, 0, 0, 0, 0, 0)]
def cm_X11_parts : am_M := fun pc => cd_X11_parts.lookup pc
def cd_X11_sells : List (Nat × am_E) := [(0, .aload_n 0, 1, 0, 0, 0, 0, 0), (1, .iconst 0, 1, 0, 0, 0, (0), 0), (2, .putfield 3, 3, 8, 0, 0, 0, 0), (5, .aload_n 0, 1, 0, 0, 0, 0, 0), (6, .invokevirtual 324, 3, 228, 1, 9, 0, 0), (9, .aload_n 0, 1, 0, 0, 0, 0, 0), (10, .aload_n 0, 1, 0, 0, 0, 0, 0), (11, .aload_n 0, 1, 0, 0, 0, 0, 0), (12, .getfield 28, 3, 8, 3, 0, 0, 0), (15, .iload_n 1, 1, 0, 0, 0, 0, 0), (16, .invokevirtual 351, 3, 244, 3, 9, 0, 0), (19, .invokevirtual 330, 3, 230, 2, 9, 0, 0), (22, .ireturn, 1, 0, 0, 0, 0, 0)]
def cm_X11_sells : am_M := fun pc => cd_X11_sells.lookup pc
def cd_X11_buys : List (Nat × am_E) := [(0, .aload_n 0, 1, 0, 0, 0, 0, 0), (1, .iconst 0, 1, 0, 0, 0, (0), 0), (2, .putfield 3, 3, 8, 0, 0, 0, 0), (5, .aload_n 0, 1, 0, 0, 0, 0, 0), (6, .invokevirtual 324, 3, 228, 1, 9, 0, 0), (9, .aload_n 0, 1, 0, 0, 0, 0, 0), (10, .aload_n 0, 1, 0, 0, 0, 0, 0), (11, .aload_n 0, 1, 0, 0, 0, 0, 0), (12, .getfield 28, 3, 8, 3, 0, 0, 0), (15, .iload_n 1, 1, 0, 0, 0, 0, 0), (16, .iload_n 2, 1, 0, 0, 0, 0, 0), (17, .invokevirtual 354, 3, 245, 4, 9, 0, 0), (20, .invokevirtual 330, 3, 230, 2, 9, 0, 0), (23, .ireturn, 1, 0, 0, 0, 0, 0)]
def cm_X11_buys : am_M := fun pc => cd_X11_buys.lookup pc
def cd_X11_readsAct : List (Nat × am_E) := [(0, .aload_n 0, 1, 0, 0, 0, 0, 0), (1, .getfield 357, 3, 8, 27, 0, 0, 0), (4, .istore_n 1, 1, 0, 0, 0, 0, 0), (5, .aload_n 0, 1, 0, 0, 0, 0, 0), (6, .getfield 62, 3, 8, 23, 0, 0, 0), (9, .iload_n 1, 1, 0, 0, 0, 0, 0), (10, .aload_n 0, 1, 0, 0, 0, 0, 0), (11, .ldc_w 360, 3, 15, 1, 0, 0, 0), (14, .invokevirtual 164, 3, 192, 2, 9, 0, 0), (17, .iastore, 1, 0, 0, 0, 0, 0), (18, .aload_n 0, 1, 0, 0, 0, 0, 0), (19, .dup, 1, 0, 0, 0, 0, 0), (20, .getfield 357, 3, 8, 27, 0, 0, 0), (23, .iconst 1, 1, 0, 0, 0, (1), 0), (24, .iadd, 1, 0, 0, 0, 0, 0), (25, .putfield 357, 3, 8, 27, 0, 0, 0), (28, .aload_n 0, 1, 0, 0, 0, 0, 0), (29, .getfield 62, 3, 8, 23, 0, 0, 0), (32, .iload_n 1, 1, 0, 0, 0, 0, 0), (33, .iaload, 1, 0, 0, 0, 0, 0), (34, .ifCond .ge 5, 3, 39, 0, 0, 0, 0), (37, .iconst 0, 1, 0, 0, 0, (0), 0), (38, .ireturn, 1, 0, 0, 2, 0, 0), (39, .aload_n 0, 1, 0, 0, 0, 0, 0), (40, .getfield 65, 3, 8, 24, 0, 0, 0), (43, .iload_n 1, 1, 0, 0, 0, 0, 0), (44, .aload_n 0, 1, 0, 0, 0, 0, 0), (45, .getfield 62, 3, 8, 23, 0, 0, 0), (48, .iload_n 1, 1, 0, 0, 0, 0, 0), (49, .iaload, 1, 0, 0, 0, 0, 0), (50, .bipush 8, 2, 0, 0, 0, (8), 0), (52, .if_icmp .ne 12, 3, 64, 0, 0, 0, 0), (55, .aload_n 0, 1, 0, 0, 0, 0, 0), (56, .ldc 162, 2, 14, 1, 0, 0, 0), (58, .invokevirtual 164, 3, 192, 2, 9, 0, 0), (61, .goto 8, 3, 69, 0, 0, 0, 0), (64, .aload_n 0, 1, 0, 0, 0, 0, 0), (65, .iconst 1, 1, 0, 0, 0, (1), 0), (66, .invokevirtual 212, 3, 193, 2, 9, 0, 0), (69, .iastore, 1, 0, 0, 0, 0, 0), (70, .aload_n 0, 1, 0, 0, 0, 0, 0), (71, .getfield 65, 3, 8, 24, 0, 0, 0), (74, .iload_n 1, 1, 0, 0, 0, 0, 0), (75, .iaload, 1, 0, 0, 0, 0, 0), (76, .ifCond .lt 13, 3, 89, 0, 0, 0, 0), (79, .aload_n 0, 1, 0, 0, 0, 0, 0), (80, .getfield 62, 3, 8, 23, 0, 0, 0), (83, .iload_n 1, 1, 0, 0, 0, 0, 0), (84, .iaload, 1, 0, 0, 0, 0, 0), (85, .iconst 3, 1, 0, 0, 0, (3), 0), (86, .if_icmp .ge 18, 3, 104, 0, 0, 0, 0), (89, .aload_n 0, 1, 0, 0, 0, 0, 0), (90, .getfield 65, 3, 8, 24, 0, 0, 0), (93, .iload_n 1, 1, 0, 0, 0, 0, 0), (94, .iaload, 1, 0, 0, 0, 0, 0), (95, .ifCond .lt 7, 3, 102, 0, 0, 0, 0), (98, .iconst 1, 1, 0, 0, 0, (1), 0), (99, .goto 4, 3, 103, 0, 0, 0, 0), (102, .iconst 0, 1, 0, 0, 0, (0), 0), (103, .ireturn, 1, 0, 0, 2, 0, 0), (104, .aload_n 0, 1, 0, 0, 0, 0, 0), (105, .getfield 68, 3, 8, 25, 0, 0, 0), (108, .iload_n 1, 1, 0, 0, 0, 0, 0), (109, .aload_n 0, 1, 0, 0, 0, 0, 0), (110, .aload_n 0, 1, 0, 0, 0, 0, 0), (111, .getfield 62, 3, 8, 23, 0, 0, 0), (114, .iload_n 1, 1, 0, 0, 0, 0, 0), (115, .iaload, 1, 0, 0, 0, 0, 0), (116, .bipush 8, 2, 0, 0, 0, (8), 0), (118, .if_icmp .ne 7, 3, 125, 0, 0, 0, 0), (121, .iconst 1, 1, 0, 0, 0, (1), 0), (122, .goto 4, 3, 126, 0, 0, 0, 0), (125, .iconst 0, 1, 0, 0, 0, (0), 0), (126, .invokestatic 133, 3, 178, 1, 0, 0, 0), (129, .bipush 9, 2, 0, 0, 0, (9), 0), (131, .invokevirtual 362, 3, 194, 3, 9, 0, 0), (134, .iastore, 1, 0, 0, 0, 0, 0), (135, .aload_n 0, 1, 0, 0, 0, 0, 0), (136, .getfield 68, 3, 8, 25, 0, 0, 0), (139, .iload_n 1, 1, 0, 0, 0, 0, 0), (140, .iaload, 1, 0, 0, 0, 0, 0), (141, .ifCond .lt 14, 3, 155, 0, 0, 0, 0), (144, .aload_n 0, 1, 0, 0, 0, 0, 0), (145, .getfield 62, 3, 8, 23, 0, 0, 0), (148, .iload_n 1, 1, 0, 0, 0, 0, 0), (149, .iaload, 1, 0, 0, 0, 0, 0), (150, .bipush 7, 2, 0, 0, 0, (7), 0), (152, .if_icmp .eq 18, 3, 170, 0, 0, 0, 0), (155, .aload_n 0, 1, 0, 0, 0, 0, 0), (156, .getfield 68, 3, 8, 25, 0, 0, 0), (159, .iload_n 1, 1, 0, 0, 0, 0, 0), (160, .iaload, 1, 0, 0, 0, 0, 0), (161, .ifCond .lt 7, 3, 168, 0, 0, 0, 0), (164, .iconst 1, 1, 0, 0, 0, (1), 0), (165, .goto 4, 3, 169, 0, 0, 0, 0), (168, .iconst 0, 1, 0, 0, 0, (0), 0), (169, .ireturn, 1, 0, 0, 2, 0, 0), (170, .aload_n 0, 1, 0, 0, 0, 0, 0), (171, .getfield 71, 3, 8, 26, 0, 0, 0), (174, .iload_n 1, 1, 0, 0, 0, 0, 0), (175, .aload_n 0, 1, 0, 0, 0, 0, 0), (176, .ldc 162, 2, 14, 1, 0, 0, 0), (178, .invokevirtual 164, 3, 192, 2, 9, 0, 0), (181, .iastore, 1, 0, 0, 0, 0, 0), (182, .aload_n 0, 1, 0, 0, 0, 0, 0), (183, .getfield 71, 3, 8, 26, 0, 0, 0), (186, .iload_n 1, 1, 0, 0, 0, 0, 0), (187, .iaload, 1, 0, 0, 0, 0, 0), (188, .ifCond .lt 7, 3, 195, 0, 0, 0, 0), (191, .iconst 1, 1, 0, 0, 0, (1), 0), (192, .goto 4, 3, 196, 0, 0, 0, 0), (195, .iconst 0, 1, 0, 0, 0, (0), 0), (196, .ireturn, 1, 0, 0, 2, 0, 0)]
def cm_X11_readsAct : am_M := fun pc => cd_X11_readsAct.lookup pc
def cd_X11_does : List (Nat × am_E) := [(0, .aload_n 0, 1, 0, 0, 0, 0, 0), (1, .getfield 65, 3, 8, 24, 0, 0, 0), (4, .iload_n 1, 1, 0, 0, 0, 0, 0), (5, .iaload, 1, 0, 0, 0, 0, 0), (6, .istore_n 2, 1, 0, 0, 0, 0, 0), (7, .aload_n 0, 1, 0, 0, 0, 0, 0), (8, .getfield 62, 3, 8, 23, 0, 0, 0), (11, .iload_n 1, 1, 0, 0, 0, 0, 0), (12, .iaload, 1, 0, 0, 0, 0, 0), (13, .tableswitch 227 0 7 #[47, 65, 83, 101, 125, 149, 173, 197], 47, 0, 0, 0, 0, 0), (60, .aload_n 0, 1, 0, 0, 0, 0, 0), (61, .aload_n 0, 1, 0, 0, 0, 0, 0), (62, .getfield 28, 3, 8, 3, 0, 0, 0), (65, .iload_n 2, 1, 0, 0, 0, 0, 0), (66, .invokevirtual 333, 3, 236, 3, 9, 0, 0), (69, .ifCond .lt 7, 3, 76, 0, 0, 0, 0), (72, .iconst 1, 1, 0, 0, 0, (1), 0), (73, .goto 4, 3, 77, 0, 0, 0, 0), (76, .iconst 0, 1, 0, 0, 0, (0), 0), (77, .ireturn, 1, 0, 0, 2, 0, 0), (78, .aload_n 0, 1, 0, 0, 0, 0, 0), (79, .aload_n 0, 1, 0, 0, 0, 0, 0), (80, .getfield 28, 3, 8, 3, 0, 0, 0), (83, .iload_n 2, 1, 0, 0, 0, 0, 0), (84, .invokevirtual 348, 3, 243, 3, 9, 0, 0), (87, .ifCond .lt 7, 3, 94, 0, 0, 0, 0), (90, .iconst 1, 1, 0, 0, 0, (1), 0), (91, .goto 4, 3, 95, 0, 0, 0, 0), (94, .iconst 0, 1, 0, 0, 0, (0), 0), (95, .ireturn, 1, 0, 0, 2, 0, 0), (96, .aload_n 0, 1, 0, 0, 0, 0, 0), (97, .aload_n 0, 1, 0, 0, 0, 0, 0), (98, .getfield 28, 3, 8, 3, 0, 0, 0), (101, .iload_n 2, 1, 0, 0, 0, 0, 0), (102, .invokevirtual 351, 3, 244, 3, 9, 0, 0), (105, .ifCond .lt 7, 3, 112, 0, 0, 0, 0), (108, .iconst 1, 1, 0, 0, 0, (1), 0), (109, .goto 4, 3, 113, 0, 0, 0, 0), (112, .iconst 0, 1, 0, 0, 0, (0), 0), (113, .ireturn, 1, 0, 0, 2, 0, 0), (114, .aload_n 0, 1, 0, 0, 0, 0, 0), (115, .aload_n 0, 1, 0, 0, 0, 0, 0), (116, .getfield 28, 3, 8, 3, 0, 0, 0), (119, .iload_n 2, 1, 0, 0, 0, 0, 0), (120, .aload_n 0, 1, 0, 0, 0, 0, 0), (121, .getfield 68, 3, 8, 25, 0, 0, 0), (124, .iload_n 1, 1, 0, 0, 0, 0, 0), (125, .iaload, 1, 0, 0, 0, 0, 0), (126, .invokevirtual 327, 3, 235, 4, 9, 0, 0), (129, .ifCond .lt 7, 3, 136, 0, 0, 0, 0), (132, .iconst 1, 1, 0, 0, 0, (1), 0), (133, .goto 4, 3, 137, 0, 0, 0, 0), (136, .iconst 0, 1, 0, 0, 0, (0), 0), (137, .ireturn, 1, 0, 0, 2, 0, 0), (138, .aload_n 0, 1, 0, 0, 0, 0, 0), (139, .aload_n 0, 1, 0, 0, 0, 0, 0), (140, .getfield 28, 3, 8, 3, 0, 0, 0), (143, .iload_n 2, 1, 0, 0, 0, 0, 0), (144, .aload_n 0, 1, 0, 0, 0, 0, 0), (145, .getfield 68, 3, 8, 25, 0, 0, 0), (148, .iload_n 1, 1, 0, 0, 0, 0, 0), (149, .iaload, 1, 0, 0, 0, 0, 0), (150, .invokevirtual 336, 3, 237, 4, 9, 0, 0), (153, .ifCond .lt 7, 3, 160, 0, 0, 0, 0), (156, .iconst 1, 1, 0, 0, 0, (1), 0), (157, .goto 4, 3, 161, 0, 0, 0, 0), (160, .iconst 0, 1, 0, 0, 0, (0), 0), (161, .ireturn, 1, 0, 0, 2, 0, 0), (162, .aload_n 0, 1, 0, 0, 0, 0, 0), (163, .aload_n 0, 1, 0, 0, 0, 0, 0), (164, .getfield 28, 3, 8, 3, 0, 0, 0), (167, .iload_n 2, 1, 0, 0, 0, 0, 0), (168, .aload_n 0, 1, 0, 0, 0, 0, 0), (169, .getfield 68, 3, 8, 25, 0, 0, 0), (172, .iload_n 1, 1, 0, 0, 0, 0, 0), (173, .iaload, 1, 0, 0, 0, 0, 0), (174, .invokevirtual 342, 3, 240, 4, 9, 0, 0), (177, .ifCond .lt 7, 3, 184, 0, 0, 0, 0), (180, .iconst 1, 1, 0, 0, 0, (1), 0), (181, .goto 4, 3, 185, 0, 0, 0, 0), (184, .iconst 0, 1, 0, 0, 0, (0), 0), (185, .ireturn, 1, 0, 0, 2, 0, 0), (186, .aload_n 0, 1, 0, 0, 0, 0, 0), (187, .aload_n 0, 1, 0, 0, 0, 0, 0), (188, .getfield 28, 3, 8, 3, 0, 0, 0), (191, .iload_n 2, 1, 0, 0, 0, 0, 0), (192, .aload_n 0, 1, 0, 0, 0, 0, 0), (193, .getfield 68, 3, 8, 25, 0, 0, 0), (196, .iload_n 1, 1, 0, 0, 0, 0, 0), (197, .iaload, 1, 0, 0, 0, 0, 0), (198, .invokevirtual 345, 3, 242, 4, 9, 0, 0), (201, .ifCond .lt 7, 3, 208, 0, 0, 0, 0), (204, .iconst 1, 1, 0, 0, 0, (1), 0), (205, .goto 4, 3, 209, 0, 0, 0, 0), (208, .iconst 0, 1, 0, 0, 0, (0), 0), (209, .ireturn, 1, 0, 0, 2, 0, 0), (210, .aload_n 0, 1, 0, 0, 0, 0, 0), (211, .aload_n 0, 1, 0, 0, 0, 0, 0), (212, .getfield 28, 3, 8, 3, 0, 0, 0), (215, .iload_n 2, 1, 0, 0, 0, 0, 0), (216, .aload_n 0, 1, 0, 0, 0, 0, 0), (217, .getfield 68, 3, 8, 25, 0, 0, 0), (220, .iload_n 1, 1, 0, 0, 0, 0, 0), (221, .iaload, 1, 0, 0, 0, 0, 0), (222, .aload_n 0, 1, 0, 0, 0, 0, 0), (223, .getfield 71, 3, 8, 26, 0, 0, 0), (226, .iload_n 1, 1, 0, 0, 0, 0, 0), (227, .iaload, 1, 0, 0, 0, 0, 0), (228, .invokevirtual 339, 3, 238, 5, 9, 0, 0), (231, .ifCond .lt 7, 3, 238, 0, 0, 0, 0), (234, .iconst 1, 1, 0, 0, 0, (1), 0), (235, .goto 4, 3, 239, 0, 0, 0, 0), (238, .iconst 0, 1, 0, 0, 0, (0), 0), (239, .ireturn, 1, 0, 0, 2, 0, 0), (240, .aload_n 0, 1, 0, 0, 0, 0, 0), (241, .aload_n 0, 1, 0, 0, 0, 0, 0), (242, .getfield 28, 3, 8, 3, 0, 0, 0), (245, .iload_n 2, 1, 0, 0, 0, 0, 0), (246, .aload_n 0, 1, 0, 0, 0, 0, 0), (247, .getfield 68, 3, 8, 25, 0, 0, 0), (250, .iload_n 1, 1, 0, 0, 0, 0, 0), (251, .iaload, 1, 0, 0, 0, 0, 0), (252, .invokevirtual 354, 3, 245, 4, 9, 0, 0), (255, .ifCond .lt 7, 3, 262, 0, 0, 0, 0), (258, .iconst 1, 1, 0, 0, 0, (1), 0), (259, .goto 4, 3, 263, 0, 0, 0, 0), (262, .iconst 0, 1, 0, 0, 0, (0), 0), (263, .ireturn, 1, 0, 0, 2, 0, 0)]
def cm_X11_does : am_M := fun pc => cd_X11_does.lookup pc
def cd_X11_day : List (Nat × am_E) := [(0, .aload_n 0, 1, 0, 0, 0, 0, 0), (1, .iconst 0, 1, 0, 0, 0, (0), 0), (2, .putfield 3, 3, 8, 0, 0, 0, 0), (5, .aload_n 0, 1, 0, 0, 0, 0, 0), (6, .bipush 60, 2, 0, 0, 0, (60), 0), (8, .invokevirtual 155, 3, 189, 2, 9, 0, 0), (11, .istore_n 1, 1, 0, 0, 0, 0, 0), (12, .aload_n 0, 1, 0, 0, 0, 0, 0), (13, .iconst 0, 1, 0, 0, 0, (0), 0), (14, .putfield 357, 3, 8, 27, 0, 0, 0), (17, .iconst 1, 1, 0, 0, 0, (1), 0), (18, .istore_n 2, 1, 0, 0, 0, 0, 0), (19, .iload_n 2, 1, 0, 0, 0, 0, 0), (20, .ifCond .eq 22, 3, 42, 0, 0, 0, 0), (23, .aload_n 0, 1, 0, 0, 0, 0, 0), (24, .getfield 118, 3, 8, 7, 0, 0, 0), (27, .aload_n 0, 1, 0, 0, 0, 0, 0), (28, .getfield 130, 3, 8, 8, 0, 0, 0), (31, .if_icmp .ge 11, 3, 42, 0, 0, 0, 0), (34, .aload_n 0, 1, 0, 0, 0, 0, 0), (35, .invokevirtual 365, 3, 256, 1, 9, 0, 0), (38, .istore_n 2, 1, 0, 0, 0, 0, 0), (39, .goto (-20), 3, 19, 0, 0, 0, 0), (42, .aload_n 0, 1, 0, 0, 0, 0, 0), (43, .iload_n 1, 1, 0, 0, 0, 0, 0), (44, .bipush 60, 2, 0, 0, 0, (60), 0), (46, .iload_n 2, 1, 0, 0, 0, 0, 0), (47, .invokevirtual 226, 3, 195, 4, 9, 0, 0), (50, .istore_n 3, 1, 0, 0, 0, 0, 0), (51, .iload_n 3, 1, 0, 0, 0, 0, 0), (52, .ifCond .ge 5, 3, 57, 0, 0, 0, 0), (55, .iload_n 3, 1, 0, 0, 0, 0, 0), (56, .ireturn, 1, 0, 0, 0, 0, 0), (57, .aload_n 0, 1, 0, 0, 0, 0, 0), (58, .invokevirtual 324, 3, 228, 1, 9, 0, 0), (61, .iconst 0, 1, 0, 0, 0, (0), 0), (62, .istore 4, 2, 0, 0, 0, 0, 0), (64, .iload 4, 2, 0, 0, 0, 0, 0), (66, .aload_n 0, 1, 0, 0, 0, 0, 0), (67, .getfield 357, 3, 8, 27, 0, 0, 0), (70, .if_icmp .ge 18, 3, 88, 0, 0, 0, 0), (73, .aload_n 0, 1, 0, 0, 0, 0, 0), (74, .iload 4, 2, 0, 0, 0, 0, 0), (76, .invokevirtual 368, 3, 257, 2, 9, 0, 0), (79, .ifCond .eq 9, 3, 88, 0, 0, 0, 0), (82, .iinc 4 1, 3, 0, 0, 0, (1), 0), (85, .goto (-21), 3, 64, 0, 0, 0, 0), (88, .aload_n 0, 1, 0, 0, 0, 0, 0), (89, .iconst 0, 1, 0, 0, 0, (0), 0), (90, .putfield 15, 3, 8, 1, 0, 0, 0), (93, .aload_n 0, 1, 0, 0, 0, 0, 0), (94, .iload 4, 2, 0, 0, 0, 0, 0), (96, .aload_n 0, 1, 0, 0, 0, 0, 0), (97, .getfield 357, 3, 8, 27, 0, 0, 0), (100, .if_icmp .ge 7, 3, 107, 0, 0, 0, 0), (103, .iconst 1, 1, 0, 0, 0, (1), 0), (104, .goto 4, 3, 108, 0, 0, 0, 0), (107, .iconst 0, 1, 0, 0, 0, (0), 0), (108, .invokestatic 133, 3, 178, 1, 0, 0, 0), (111, .i2l, 1, 0, 0, 0, 0, 0), (112, .invokevirtual 18, 3, 180, 2, 9, 0, 0), (115, .aload_n 0, 1, 0, 0, 0, 0, 0), (116, .aload_n 0, 1, 0, 0, 0, 0, 0), (117, .getfield 28, 3, 8, 3, 0, 0, 0), (120, .bipush 60, 2, 0, 0, 0, (60), 0), (122, .iaload, 1, 0, 0, 0, 0, 0), (123, .i2l, 1, 0, 0, 0, 0, 0), (124, .invokevirtual 18, 3, 180, 2, 9, 0, 0), (127, .iload 4, 2, 0, 0, 0, 0, 0), (129, .ifCond .le 12, 3, 141, 0, 0, 0, 0), (132, .aload_n 0, 1, 0, 0, 0, 0, 0), (133, .iload 4, 2, 0, 0, 0, 0, 0), (135, .invokevirtual 294, 3, 229, 2, 9, 0, 0), (138, .goto 4, 3, 142, 0, 0, 0, 0), (141, .iconst 0, 1, 0, 0, 0, (0), 0), (142, .ireturn, 1, 0, 0, 0, 0, 0)]
def cm_X11_day : am_M := fun pc => cd_X11_day.lookup pc
def cd_X11_least : List (Nat × am_E) := [(0, .aload_n 0, 1, 0, 0, 0, 0, 0), (1, .iconst 0, 1, 0, 0, 0, (0), 0), (2, .putfield 3, 3, 8, 0, 0, 0, 0), (5, .aload_n 0, 1, 0, 0, 0, 0, 0), (6, .iload_n 1, 1, 0, 0, 0, 0, 0), (7, .invokevirtual 277, 3, 183, 2, 9, 0, 0), (10, .ifCond .ne 5, 3, 15, 0, 0, 0, 0), (13, .iconst (-1), 1, 0, 0, 0, (-1), 0), (14, .ireturn, 1, 0, 0, 0, 0, 0), (15, .aload_n 0, 1, 0, 0, 0, 0, 0), (16, .aload_n 0, 1, 0, 0, 0, 0, 0), (17, .getfield 28, 3, 8, 3, 0, 0, 0), (20, .iload_n 1, 1, 0, 0, 0, 0, 0), (21, .invokevirtual 268, 3, 198, 3, 9, 0, 0), (24, .aload_n 0, 1, 0, 0, 0, 0, 0), (25, .invokevirtual 371, 3, 204, 1, 9, 0, 0), (28, .aload_n 0, 1, 0, 0, 0, 0, 0), (29, .getfield 168, 3, 8, 13, 0, 0, 0), (32, .aload_n 0, 1, 0, 0, 0, 0, 0), (33, .invokevirtual 182, 3, 202, 1, 9, 0, 0), (36, .invokestatic 374, 3, 200, 2, 0, 0, 0), (39, .ireturn, 1, 0, 0, 0, 0, 0)]
def cm_X11_least : am_M := fun pc => cd_X11_least.lookup pc
def cd_X11_alike : List (Nat × am_E) := [(0, .aload_n 0, 1, 0, 0, 0, 0, 0), (1, .iconst 0, 1, 0, 0, 0, (0), 0), (2, .putfield 3, 3, 8, 0, 0, 0, 0), (5, .aload_n 0, 1, 0, 0, 0, 0, 0), (6, .iload_n 1, 1, 0, 0, 0, 0, 0), (7, .invokevirtual 277, 3, 183, 2, 9, 0, 0), (10, .ifCond .eq 11, 3, 21, 0, 0, 0, 0), (13, .aload_n 0, 1, 0, 0, 0, 0, 0), (14, .iload_n 2, 1, 0, 0, 0, 0, 0), (15, .invokevirtual 277, 3, 183, 2, 9, 0, 0), (18, .ifCond .ne 5, 3, 23, 0, 0, 0, 0), (21, .iconst (-1), 1, 0, 0, 0, (-1), 0), (22, .ireturn, 1, 0, 0, 0, 0, 0), (23, .aload_n 0, 1, 0, 0, 0, 0, 0), (24, .aload_n 0, 1, 0, 0, 0, 0, 0), (25, .getfield 28, 3, 8, 3, 0, 0, 0), (28, .iload_n 1, 1, 0, 0, 0, 0, 0), (29, .invokevirtual 268, 3, 198, 3, 9, 0, 0), (32, .bipush (-2), 2, 0, 0, 0, (-2), 0), (34, .istore_n 3, 1, 0, 0, 0, 0, 0), (35, .iconst 0, 1, 0, 0, 0, (0), 0), (36, .istore 4, 2, 0, 0, 0, 0, 0), (38, .iconst 0, 1, 0, 0, 0, (0), 0), (39, .istore 5, 2, 0, 0, 0, 0, 0), (41, .iload 5, 2, 0, 0, 0, 0, 0), (43, .iconst 2, 1, 0, 0, 0, (2), 0), (44, .aload_n 0, 1, 0, 0, 0, 0, 0), (45, .getfield 168, 3, 8, 13, 0, 0, 0), (48, .imul, 1, 0, 0, 0, 0, 0), (49, .if_icmp .ge 77, 3, 126, 0, 0, 0, 0), (52, .aload_n 0, 1, 0, 0, 0, 0, 0), (53, .getfield 28, 3, 8, 3, 0, 0, 0), (56, .iload_n 2, 1, 0, 0, 0, 0, 0), (57, .iaload, 1, 0, 0, 0, 0, 0), (58, .aload_n 0, 1, 0, 0, 0, 0, 0), (59, .getfield 168, 3, 8, 13, 0, 0, 0), (62, .if_icmp .ne 64, 3, 126, 0, 0, 0, 0), (65, .aload_n 0, 1, 0, 0, 0, 0, 0), (66, .aload_n 0, 1, 0, 0, 0, 0, 0), (67, .getfield 28, 3, 8, 3, 0, 0, 0), (70, .iload_n 2, 1, 0, 0, 0, 0, 0), (71, .iload 5, 2, 0, 0, 0, 0, 0), (73, .invokevirtual 185, 3, 206, 4, 9, 0, 0), (76, .ifCond .ne 7, 3, 83, 0, 0, 0, 0), (79, .iconst 1, 1, 0, 0, 0, (1), 0), (80, .goto 4, 3, 84, 0, 0, 0, 0), (83, .iconst 0, 1, 0, 0, 0, (0), 0), (84, .istore 6, 2, 0, 0, 0, 0, 0), (86, .iload 6, 2, 0, 0, 0, 0, 0), (88, .ifCond .eq 20, 3, 108, 0, 0, 0, 0), (91, .iload 4, 2, 0, 0, 0, 0, 0), (93, .ifCond .ne 15, 3, 108, 0, 0, 0, 0), (96, .aload_n 0, 1, 0, 0, 0, 0, 0), (97, .getfield 168, 3, 8, 13, 0, 0, 0), (100, .iload 5, 2, 0, 0, 0, 0, 0), (102, .invokestatic 374, 3, 200, 2, 0, 0, 0), (105, .goto 4, 3, 109, 0, 0, 0, 0), (108, .iload_n 3, 1, 0, 0, 0, 0, 0), (109, .istore_n 3, 1, 0, 0, 0, 0, 0), (110, .iload 4, 2, 0, 0, 0, 0, 0), (112, .iload 6, 2, 0, 0, 0, 0, 0), (114, .invokestatic 133, 3, 178, 1, 0, 0, 0), (117, .iadd, 1, 0, 0, 0, 0, 0), (118, .istore 4, 2, 0, 0, 0, 0, 0), (120, .iinc 5 1, 3, 0, 0, 0, (1), 0), (123, .goto (-82), 3, 41, 0, 0, 0, 0), (126, .iload 4, 2, 0, 0, 0, 0, 0), (128, .ifCond .le 15, 3, 143, 0, 0, 0, 0), (131, .aload_n 0, 1, 0, 0, 0, 0, 0), (132, .iconst 0, 1, 0, 0, 0, (0), 0), (133, .putfield 15, 3, 8, 1, 0, 0, 0), (136, .aload_n 0, 1, 0, 0, 0, 0, 0), (137, .iload 4, 2, 0, 0, 0, 0, 0), (139, .i2l, 1, 0, 0, 0, 0, 0), (140, .invokevirtual 18, 3, 180, 2, 9, 0, 0), (143, .iload_n 3, 1, 0, 0, 0, 0, 0), (144, .ireturn, 1, 0, 0, 0, 0, 0)]
def cm_X11_alike : am_M := fun pc => cd_X11_alike.lookup pc
def cd_X11_firstAlike : List (Nat × am_E) := [(0, .aload_n 0, 1, 0, 0, 0, 0, 0), (1, .aload_n 1, 1, 0, 0, 0, 0, 0), (2, .iload_n 2, 1, 0, 0, 0, 0, 0), (3, .invokevirtual 268, 3, 198, 3, 9, 0, 0), (6, .iconst 0, 1, 0, 0, 0, (0), 0), (7, .istore_n 3, 1, 0, 0, 0, 0, 0), (8, .aload_n 0, 1, 0, 0, 0, 0, 0), (9, .aload_n 1, 1, 0, 0, 0, 0, 0), (10, .iload_n 3, 1, 0, 0, 0, 0, 0), (11, .invokevirtual 188, 3, 207, 3, 9, 0, 0), (14, .ifCond .ne 9, 3, 23, 0, 0, 0, 0), (17, .iinc 3 1, 3, 0, 0, 0, (1), 0), (20, .goto (-12), 3, 8, 0, 0, 0, 0), (23, .iload_n 3, 1, 0, 0, 0, 0, 0), (24, .ireturn, 1, 0, 0, 0, 0, 0)]
def cm_X11_firstAlike : am_M := fun pc => cd_X11_firstAlike.lookup pc
def cd_X11_kindsOf : List (Nat × am_E) := [(0, .iconst 0, 1, 0, 0, 0, (0), 0), (1, .istore_n 2, 1, 0, 0, 0, 0, 0), (2, .iconst 0, 1, 0, 0, 0, (0), 0), (3, .istore_n 3, 1, 0, 0, 0, 0, 0), (4, .iload_n 3, 1, 0, 0, 0, 0, 0), (5, .aload_n 1, 1, 0, 0, 0, 0, 0), (6, .bipush 60, 2, 0, 0, 0, (60), 0), (8, .iaload, 1, 0, 0, 0, 0, 0), (9, .if_icmp .ge 30, 3, 39, 0, 0, 0, 0), (12, .iload_n 2, 1, 0, 0, 0, 0, 0), (13, .aload_n 0, 1, 0, 0, 0, 0, 0), (14, .aload_n 1, 1, 0, 0, 0, 0, 0), (15, .iload_n 3, 1, 0, 0, 0, 0, 0), (16, .invokevirtual 377, 3, 261, 3, 9, 0, 0), (19, .iload_n 3, 1, 0, 0, 0, 0, 0), (20, .if_icmp .ne 7, 3, 27, 0, 0, 0, 0), (23, .iconst 1, 1, 0, 0, 0, (1), 0), (24, .goto 4, 3, 28, 0, 0, 0, 0), (27, .iconst 0, 1, 0, 0, 0, (0), 0), (28, .invokestatic 133, 3, 178, 1, 0, 0, 0), (31, .iadd, 1, 0, 0, 0, 0, 0), (32, .istore_n 2, 1, 0, 0, 0, 0, 0), (33, .iinc 3 1, 3, 0, 0, 0, (1), 0), (36, .goto (-32), 3, 4, 0, 0, 0, 0), (39, .iload_n 2, 1, 0, 0, 0, 0, 0), (40, .ireturn, 1, 0, 0, 0, 0, 0)]
def cm_X11_kindsOf : am_M := fun pc => cd_X11_kindsOf.lookup pc
def cd_X11_kinds : List (Nat × am_E) := [(0, .aload_n 0, 1, 0, 0, 0, 0, 0), (1, .iconst 0, 1, 0, 0, 0, (0), 0), (2, .putfield 3, 3, 8, 0, 0, 0, 0), (5, .aload_n 0, 1, 0, 0, 0, 0, 0), (6, .aload_n 0, 1, 0, 0, 0, 0, 0), (7, .getfield 28, 3, 8, 3, 0, 0, 0), (10, .invokevirtual 380, 3, 262, 2, 9, 0, 0), (13, .istore_n 1, 1, 0, 0, 0, 0, 0), (14, .aload_n 0, 1, 0, 0, 0, 0, 0), (15, .iconst 0, 1, 0, 0, 0, (0), 0), (16, .putfield 15, 3, 8, 1, 0, 0, 0), (19, .iconst 0, 1, 0, 0, 0, (0), 0), (20, .istore_n 2, 1, 0, 0, 0, 0, 0), (21, .iload_n 2, 1, 0, 0, 0, 0, 0), (22, .aload_n 0, 1, 0, 0, 0, 0, 0), (23, .getfield 28, 3, 8, 3, 0, 0, 0), (26, .bipush 60, 2, 0, 0, 0, (60), 0), (28, .iaload, 1, 0, 0, 0, 0, 0), (29, .if_icmp .ge 23, 3, 52, 0, 0, 0, 0), (32, .aload_n 0, 1, 0, 0, 0, 0, 0), (33, .aload_n 0, 1, 0, 0, 0, 0, 0), (34, .aload_n 0, 1, 0, 0, 0, 0, 0), (35, .getfield 28, 3, 8, 3, 0, 0, 0), (38, .iload_n 2, 1, 0, 0, 0, 0, 0), (39, .invokevirtual 377, 3, 261, 3, 9, 0, 0), (42, .i2l, 1, 0, 0, 0, 0, 0), (43, .invokevirtual 18, 3, 180, 2, 9, 0, 0), (46, .iinc 2 1, 3, 0, 0, 0, (1), 0), (49, .goto (-28), 3, 21, 0, 0, 0, 0), (52, .iload_n 1, 1, 0, 0, 0, 0, 0), (53, .ireturn, 1, 0, 0, 0, 0, 0)]
def cm_X11_kinds : am_M := fun pc => cd_X11_kinds.lookup pc
def cd_X11_far : List (Nat × am_E) := [(0, .aload_n 0, 1, 0, 0, 0, 0, 0), (1, .iconst 0, 1, 0, 0, 0, (0), 0), (2, .putfield 3, 3, 8, 0, 0, 0, 0), (5, .aload_n 0, 1, 0, 0, 0, 0, 0), (6, .iload_n 1, 1, 0, 0, 0, 0, 0), (7, .invokevirtual 277, 3, 183, 2, 9, 0, 0), (10, .ifCond .eq 11, 3, 21, 0, 0, 0, 0), (13, .aload_n 0, 1, 0, 0, 0, 0, 0), (14, .iload_n 2, 1, 0, 0, 0, 0, 0), (15, .invokevirtual 277, 3, 183, 2, 9, 0, 0), (18, .ifCond .ne 5, 3, 23, 0, 0, 0, 0), (21, .iconst (-1), 1, 0, 0, 0, (-1), 0), (22, .ireturn, 1, 0, 0, 0, 0, 0), (23, .aload_n 0, 1, 0, 0, 0, 0, 0), (24, .aload_n 0, 1, 0, 0, 0, 0, 0), (25, .getfield 28, 3, 8, 3, 0, 0, 0), (28, .iload_n 1, 1, 0, 0, 0, 0, 0), (29, .invokevirtual 268, 3, 198, 3, 9, 0, 0), (32, .aload_n 0, 1, 0, 0, 0, 0, 0), (33, .getfield 28, 3, 8, 3, 0, 0, 0), (36, .iload_n 2, 1, 0, 0, 0, 0, 0), (37, .iaload, 1, 0, 0, 0, 0, 0), (38, .aload_n 0, 1, 0, 0, 0, 0, 0), (39, .getfield 168, 3, 8, 13, 0, 0, 0), (42, .if_icmp .eq 6, 3, 48, 0, 0, 0, 0), (45, .bipush (-2), 2, 0, 0, 0, (-2), 0), (47, .ireturn, 1, 0, 0, 0, 0, 0), (48, .iconst 0, 1, 0, 0, 0, (0), 0), (49, .istore_n 3, 1, 0, 0, 0, 0, 0), (50, .iconst 1, 1, 0, 0, 0, (1), 0), (51, .istore 4, 2, 0, 0, 0, 0, 0), (53, .iload 4, 2, 0, 0, 0, 0, 0), (55, .iconst 2, 1, 0, 0, 0, (2), 0), (56, .aload_n 0, 1, 0, 0, 0, 0, 0), (57, .getfield 168, 3, 8, 13, 0, 0, 0), (60, .imul, 1, 0, 0, 0, 0, 0), (61, .if_icmp .ge 40, 3, 101, 0, 0, 0, 0), (64, .aload_n 0, 1, 0, 0, 0, 0, 0), (65, .aload_n 0, 1, 0, 0, 0, 0, 0), (66, .getfield 28, 3, 8, 3, 0, 0, 0), (69, .iload_n 2, 1, 0, 0, 0, 0, 0), (70, .iload 4, 2, 0, 0, 0, 0, 0), (72, .invokevirtual 185, 3, 206, 4, 9, 0, 0), (75, .aload_n 0, 1, 0, 0, 0, 0, 0), (76, .aload_n 0, 1, 0, 0, 0, 0, 0), (77, .getfield 28, 3, 8, 3, 0, 0, 0), (80, .iload_n 2, 1, 0, 0, 0, 0, 0), (81, .iload_n 3, 1, 0, 0, 0, 0, 0), (82, .invokevirtual 185, 3, 206, 4, 9, 0, 0), (85, .if_icmp .ge 8, 3, 93, 0, 0, 0, 0), (88, .iload 4, 2, 0, 0, 0, 0, 0), (90, .goto 4, 3, 94, 0, 0, 0, 0), (93, .iload_n 3, 1, 0, 0, 0, 0, 0), (94, .istore_n 3, 1, 0, 0, 0, 0, 0), (95, .iinc 4 1, 3, 0, 0, 0, (1), 0), (98, .goto (-45), 3, 53, 0, 0, 0, 0), (101, .aload_n 0, 1, 0, 0, 0, 0, 0), (102, .iconst 0, 1, 0, 0, 0, (0), 0), (103, .putfield 15, 3, 8, 1, 0, 0, 0), (106, .aload_n 0, 1, 0, 0, 0, 0, 0), (107, .aload_n 0, 1, 0, 0, 0, 0, 0), (108, .getfield 168, 3, 8, 13, 0, 0, 0), (111, .iload_n 3, 1, 0, 0, 0, 0, 0), (112, .invokestatic 374, 3, 200, 2, 0, 0, 0), (115, .i2l, 1, 0, 0, 0, 0, 0), (116, .invokevirtual 18, 3, 180, 2, 9, 0, 0), (119, .aload_n 0, 1, 0, 0, 0, 0, 0), (120, .aload_n 0, 1, 0, 0, 0, 0, 0), (121, .getfield 28, 3, 8, 3, 0, 0, 0), (124, .iload_n 2, 1, 0, 0, 0, 0, 0), (125, .iload_n 3, 1, 0, 0, 0, 0, 0), (126, .invokevirtual 185, 3, 206, 4, 9, 0, 0), (129, .ireturn, 1, 0, 0, 0, 0, 0)]
def cm_X11_far : am_M := fun pc => cd_X11_far.lookup pc
def cd_X11_finds : List (Nat × am_E) := [(0, .aload_n 0, 1, 0, 0, 0, 0, 0), (1, .iconst 0, 1, 0, 0, 0, (0), 0), (2, .putfield 3, 3, 8, 0, 0, 0, 0), (5, .aload_n 0, 1, 0, 0, 0, 0, 0), (6, .invokevirtual 318, 3, 196, 1, 9, 0, 0), (9, .istore_n 2, 1, 0, 0, 0, 0, 0), (10, .iload_n 2, 1, 0, 0, 0, 0, 0), (11, .ifCond .ge 5, 3, 16, 0, 0, 0, 0), (14, .iload_n 2, 1, 0, 0, 0, 0, 0), (15, .ireturn, 1, 0, 0, 0, 0, 0), (16, .aload_n 0, 1, 0, 0, 0, 0, 0), (17, .iload_n 1, 1, 0, 0, 0, 0, 0), (18, .invokevirtual 277, 3, 183, 2, 9, 0, 0), (21, .ifCond .ne 6, 3, 27, 0, 0, 0, 0), (24, .bipush (-100), 2, 0, 0, 0, (-100), 0), (26, .ireturn, 1, 0, 0, 0, 0, 0), (27, .aload_n 0, 1, 0, 0, 0, 0, 0), (28, .getfield 159, 3, 8, 11, 0, 0, 0), (31, .aload_n 0, 1, 0, 0, 0, 0, 0), (32, .getfield 28, 3, 8, 3, 0, 0, 0), (35, .iload_n 1, 1, 0, 0, 0, 0, 0), (36, .iaload, 1, 0, 0, 0, 0, 0), (37, .if_icmp .le 6, 3, 43, 0, 0, 0, 0), (40, .bipush (-101), 2, 0, 0, 0, (-101), 0), (42, .ireturn, 1, 0, 0, 0, 0, 0), (43, .iconst 0, 1, 0, 0, 0, (0), 0), (44, .istore_n 3, 1, 0, 0, 0, 0, 0), (45, .iconst 0, 1, 0, 0, 0, (0), 0), (46, .istore 4, 2, 0, 0, 0, 0, 0), (48, .iload 4, 2, 0, 0, 0, 0, 0), (50, .aload_n 0, 1, 0, 0, 0, 0, 0), (51, .getfield 28, 3, 8, 3, 0, 0, 0), (54, .iload_n 1, 1, 0, 0, 0, 0, 0), (55, .iaload, 1, 0, 0, 0, 0, 0), (56, .if_icmp .ge 88, 3, 144, 0, 0, 0, 0), (59, .iconst 1, 1, 0, 0, 0, (1), 0), (60, .istore 5, 2, 0, 0, 0, 0, 0), (62, .iconst 0, 1, 0, 0, 0, (0), 0), (63, .istore 6, 2, 0, 0, 0, 0, 0), (65, .iload 6, 2, 0, 0, 0, 0, 0), (67, .aload_n 0, 1, 0, 0, 0, 0, 0), (68, .getfield 159, 3, 8, 11, 0, 0, 0), (71, .if_icmp .ge 51, 3, 122, 0, 0, 0, 0), (74, .iload 5, 2, 0, 0, 0, 0, 0), (76, .ifCond .eq 37, 3, 113, 0, 0, 0, 0), (79, .aload_n 0, 1, 0, 0, 0, 0, 0), (80, .getfield 28, 3, 8, 3, 0, 0, 0), (83, .iload_n 1, 1, 0, 0, 0, 0, 0), (84, .iload 4, 2, 0, 0, 0, 0, 0), (86, .iload 6, 2, 0, 0, 0, 0, 0), (88, .iadd, 1, 0, 0, 0, 0, 0), (89, .aload_n 0, 1, 0, 0, 0, 0, 0), (90, .getfield 28, 3, 8, 3, 0, 0, 0), (93, .iload_n 1, 1, 0, 0, 0, 0, 0), (94, .iaload, 1, 0, 0, 0, 0, 0), (95, .irem, 1, 0, 0, 0, 0, 0), (96, .invokestatic 171, 3, 184, 3, 0, 0, 0), (99, .aload_n 0, 1, 0, 0, 0, 0, 0), (100, .getfield 38, 3, 8, 10, 0, 0, 0), (103, .iload 6, 2, 0, 0, 0, 0, 0), (105, .iaload, 1, 0, 0, 0, 0, 0), (106, .if_icmp .ne 7, 3, 113, 0, 0, 0, 0), (109, .iconst 1, 1, 0, 0, 0, (1), 0), (110, .goto 4, 3, 114, 0, 0, 0, 0), (113, .iconst 0, 1, 0, 0, 0, (0), 0), (114, .istore 5, 2, 0, 0, 0, 0, 0), (116, .iinc 6 1, 3, 0, 0, 0, (1), 0), (119, .goto (-54), 3, 65, 0, 0, 0, 0), (122, .iload_n 3, 1, 0, 0, 0, 0, 0), (123, .iload 5, 2, 0, 0, 0, 0, 0), (125, .ifCond .eq 10, 3, 135, 0, 0, 0, 0), (128, .iconst 1, 1, 0, 0, 0, (1), 0), (129, .iload 4, 2, 0, 0, 0, 0, 0), (131, .ishl, 1, 0, 0, 0, 0, 0), (132, .goto 4, 3, 136, 0, 0, 0, 0), (135, .iconst 0, 1, 0, 0, 0, (0), 0), (136, .ior, 1, 0, 0, 0, 0, 0), (137, .istore_n 3, 1, 0, 0, 0, 0, 0), (138, .iinc 4 1, 3, 0, 0, 0, (1), 0), (141, .goto (-93), 3, 48, 0, 0, 0, 0), (144, .aload_n 0, 1, 0, 0, 0, 0, 0), (145, .iconst 0, 1, 0, 0, 0, (0), 0), (146, .putfield 15, 3, 8, 1, 0, 0, 0), (149, .aload_n 0, 1, 0, 0, 0, 0, 0), (150, .iload_n 3, 1, 0, 0, 0, 0, 0), (151, .invokestatic 247, 3, 323, 1, 0, 0, 0), (154, .i2l, 1, 0, 0, 0, 0, 0), (155, .invokevirtual 18, 3, 180, 2, 9, 0, 0), (158, .iload_n 3, 1, 0, 0, 0, 0, 0), (159, .ireturn, 1, 0, 0, 0, 0, 0)]
def cm_X11_finds : am_M := fun pc => cd_X11_finds.lookup pc
def cd_X11_isWord : List (Nat × am_E) := [(0, .iconst 1, 1, 0, 0, 0, (1), 0), (1, .istore 4, 2, 0, 0, 0, 0, 0), (3, .iconst 0, 1, 0, 0, 0, (0), 0), (4, .istore 5, 2, 0, 0, 0, 0, 0), (6, .iload 5, 2, 0, 0, 0, 0, 0), (8, .iload_n 3, 1, 0, 0, 0, 0, 0), (9, .if_icmp .ge 52, 3, 61, 0, 0, 0, 0), (12, .iload 4, 2, 0, 0, 0, 0, 0), (14, .ifCond .eq 38, 3, 52, 0, 0, 0, 0), (17, .aload_n 0, 1, 0, 0, 0, 0, 0), (18, .getfield 41, 3, 8, 12, 0, 0, 0), (21, .iload_n 1, 1, 0, 0, 0, 0, 0), (22, .iload 5, 2, 0, 0, 0, 0, 0), (24, .iadd, 1, 0, 0, 0, 0, 0), (25, .aload_n 0, 1, 0, 0, 0, 0, 0), (26, .getfield 168, 3, 8, 13, 0, 0, 0), (29, .irem, 1, 0, 0, 0, 0, 0), (30, .iaload, 1, 0, 0, 0, 0, 0), (31, .aload_n 0, 1, 0, 0, 0, 0, 0), (32, .getfield 41, 3, 8, 12, 0, 0, 0), (35, .iload_n 2, 1, 0, 0, 0, 0, 0), (36, .iload 5, 2, 0, 0, 0, 0, 0), (38, .iadd, 1, 0, 0, 0, 0, 0), (39, .aload_n 0, 1, 0, 0, 0, 0, 0), (40, .getfield 168, 3, 8, 13, 0, 0, 0), (43, .irem, 1, 0, 0, 0, 0, 0), (44, .iaload, 1, 0, 0, 0, 0, 0), (45, .if_icmp .ne 7, 3, 52, 0, 0, 0, 0), (48, .iconst 1, 1, 0, 0, 0, (1), 0), (49, .goto 4, 3, 53, 0, 0, 0, 0), (52, .iconst 0, 1, 0, 0, 0, (0), 0), (53, .istore 4, 2, 0, 0, 0, 0, 0), (55, .iinc 5 1, 3, 0, 0, 0, (1), 0), (58, .goto (-52), 3, 6, 0, 0, 0, 0), (61, .iload 4, 2, 0, 0, 0, 0, 0), (63, .ireturn, 1, 0, 0, 2, 0, 0)]
def cm_X11_isWord : am_M := fun pc => cd_X11_isWord.lookup pc
def cd_X11_words : List (Nat × am_E) := [(0, .aload_n 0, 1, 0, 0, 0, 0, 0), (1, .iconst 0, 1, 0, 0, 0, (0), 0), (2, .putfield 3, 3, 8, 0, 0, 0, 0), (5, .aload_n 0, 1, 0, 0, 0, 0, 0), (6, .iload_n 1, 1, 0, 0, 0, 0, 0), (7, .invokevirtual 277, 3, 183, 2, 9, 0, 0), (10, .ifCond .eq 19, 3, 29, 0, 0, 0, 0), (13, .iload_n 2, 1, 0, 0, 0, 0, 0), (14, .i2l, 1, 0, 0, 0, 0, 0), (15, .lconst 1, 1, 0, 0, 0, 0, (1)), (16, .aload_n 0, 1, 0, 0, 0, 0, 0), (17, .getfield 28, 3, 8, 3, 0, 0, 0), (20, .iload_n 1, 1, 0, 0, 0, 0, 0), (21, .iaload, 1, 0, 0, 0, 0, 0), (22, .i2l, 1, 0, 0, 0, 0, 0), (23, .invokestatic 111, 3, 176, 3, 0, 0, 0), (26, .ifCond .ne 5, 3, 31, 0, 0, 0, 0), (29, .iconst (-1), 1, 0, 0, 0, (-1), 0), (30, .ireturn, 1, 0, 0, 0, 0, 0), (31, .aload_n 0, 1, 0, 0, 0, 0, 0), (32, .aload_n 0, 1, 0, 0, 0, 0, 0), (33, .getfield 28, 3, 8, 3, 0, 0, 0), (36, .iload_n 1, 1, 0, 0, 0, 0, 0), (37, .invokevirtual 268, 3, 198, 3, 9, 0, 0), (40, .iconst 0, 1, 0, 0, 0, (0), 0), (41, .istore_n 3, 1, 0, 0, 0, 0, 0), (42, .iconst 0, 1, 0, 0, 0, (0), 0), (43, .istore 4, 2, 0, 0, 0, 0, 0), (45, .iconst 0, 1, 0, 0, 0, (0), 0), (46, .istore 5, 2, 0, 0, 0, 0, 0), (48, .iconst 0, 1, 0, 0, 0, (0), 0), (49, .istore 6, 2, 0, 0, 0, 0, 0), (51, .iload 6, 2, 0, 0, 0, 0, 0), (53, .aload_n 0, 1, 0, 0, 0, 0, 0), (54, .getfield 168, 3, 8, 13, 0, 0, 0), (57, .if_icmp .ge 123, 3, 180, 0, 0, 0, 0), (60, .iconst 0, 1, 0, 0, 0, (0), 0), (61, .istore 7, 2, 0, 0, 0, 0, 0), (63, .iconst 0, 1, 0, 0, 0, (0), 0), (64, .istore 8, 2, 0, 0, 0, 0, 0), (66, .iconst 0, 1, 0, 0, 0, (0), 0), (67, .istore 9, 2, 0, 0, 0, 0, 0), (69, .iload 9, 2, 0, 0, 0, 0, 0), (71, .aload_n 0, 1, 0, 0, 0, 0, 0), (72, .getfield 168, 3, 8, 13, 0, 0, 0), (75, .if_icmp .ge 58, 3, 133, 0, 0, 0, 0), (78, .iload 7, 2, 0, 0, 0, 0, 0), (80, .iload 9, 2, 0, 0, 0, 0, 0), (82, .iload 6, 2, 0, 0, 0, 0, 0), (84, .if_icmp .ge 19, 3, 103, 0, 0, 0, 0), (87, .aload_n 0, 1, 0, 0, 0, 0, 0), (88, .iload 6, 2, 0, 0, 0, 0, 0), (90, .iload 9, 2, 0, 0, 0, 0, 0), (92, .iload_n 2, 1, 0, 0, 0, 0, 0), (93, .invokevirtual 383, 3, 266, 4, 9, 0, 0), (96, .ifCond .eq 7, 3, 103, 0, 0, 0, 0), (99, .iconst 1, 1, 0, 0, 0, (1), 0), (100, .goto 4, 3, 104, 0, 0, 0, 0), (103, .iconst 0, 1, 0, 0, 0, (0), 0), (104, .invokestatic 133, 3, 178, 1, 0, 0, 0), (107, .iadd, 1, 0, 0, 0, 0, 0), (108, .istore 7, 2, 0, 0, 0, 0, 0), (110, .iload 8, 2, 0, 0, 0, 0, 0), (112, .aload_n 0, 1, 0, 0, 0, 0, 0), (113, .iload 6, 2, 0, 0, 0, 0, 0), (115, .iload 9, 2, 0, 0, 0, 0, 0), (117, .iload_n 2, 1, 0, 0, 0, 0, 0), (118, .invokevirtual 383, 3, 266, 4, 9, 0, 0), (121, .invokestatic 133, 3, 178, 1, 0, 0, 0), (124, .iadd, 1, 0, 0, 0, 0, 0), (125, .istore 8, 2, 0, 0, 0, 0, 0), (127, .iinc 9 1, 3, 0, 0, 0, (1), 0), (130, .goto (-61), 3, 69, 0, 0, 0, 0), (133, .iload_n 3, 1, 0, 0, 0, 0, 0), (134, .iload 7, 2, 0, 0, 0, 0, 0), (136, .ifCond .ne 7, 3, 143, 0, 0, 0, 0), (139, .iconst 1, 1, 0, 0, 0, (1), 0), (140, .goto 4, 3, 144, 0, 0, 0, 0), (143, .iconst 0, 1, 0, 0, 0, (0), 0), (144, .invokestatic 133, 3, 178, 1, 0, 0, 0), (147, .iadd, 1, 0, 0, 0, 0, 0), (148, .istore_n 3, 1, 0, 0, 0, 0, 0), (149, .iload 8, 2, 0, 0, 0, 0, 0), (151, .iload 4, 2, 0, 0, 0, 0, 0), (153, .if_icmp .le 8, 3, 161, 0, 0, 0, 0), (156, .iload 6, 2, 0, 0, 0, 0, 0), (158, .goto 5, 3, 163, 0, 0, 0, 0), (161, .iload 5, 2, 0, 0, 0, 0, 0), (163, .istore 5, 2, 0, 0, 0, 0, 0), (165, .iload 4, 2, 0, 0, 0, 0, 0), (167, .iload 8, 2, 0, 0, 0, 0, 0), (169, .invokestatic 195, 3, 324, 2, 0, 0, 0), (172, .istore 4, 2, 0, 0, 0, 0, 0), (174, .iinc 6 1, 3, 0, 0, 0, (1), 0), (177, .goto (-126), 3, 51, 0, 0, 0, 0), (180, .aload_n 0, 1, 0, 0, 0, 0, 0), (181, .iconst 0, 1, 0, 0, 0, (0), 0), (182, .putfield 15, 3, 8, 1, 0, 0, 0), (185, .aload_n 0, 1, 0, 0, 0, 0, 0), (186, .iload 4, 2, 0, 0, 0, 0, 0), (188, .i2l, 1, 0, 0, 0, 0, 0), (189, .invokevirtual 18, 3, 180, 2, 9, 0, 0), (192, .aload_n 0, 1, 0, 0, 0, 0, 0), (193, .iload 5, 2, 0, 0, 0, 0, 0), (195, .i2l, 1, 0, 0, 0, 0, 0), (196, .invokevirtual 18, 3, 180, 2, 9, 0, 0), (199, .iload_n 3, 1, 0, 0, 0, 0, 0), (200, .ireturn, 1, 0, 0, 0, 0, 0)]
def cm_X11_words : am_M := fun pc => cd_X11_words.lookup pc
def cd_X11_twice : List (Nat × am_E) := [(0, .aload_n 0, 1, 0, 0, 0, 0, 0), (1, .iconst 0, 1, 0, 0, 0, (0), 0), (2, .putfield 3, 3, 8, 0, 0, 0, 0), (5, .aload_n 0, 1, 0, 0, 0, 0, 0), (6, .iload_n 1, 1, 0, 0, 0, 0, 0), (7, .invokevirtual 277, 3, 183, 2, 9, 0, 0), (10, .ifCond .ne 5, 3, 15, 0, 0, 0, 0), (13, .iconst (-1), 1, 0, 0, 0, (-1), 0), (14, .ireturn, 1, 0, 0, 0, 0, 0), (15, .aload_n 0, 1, 0, 0, 0, 0, 0), (16, .aload_n 0, 1, 0, 0, 0, 0, 0), (17, .getfield 28, 3, 8, 3, 0, 0, 0), (20, .iload_n 1, 1, 0, 0, 0, 0, 0), (21, .invokevirtual 268, 3, 198, 3, 9, 0, 0), (24, .aload_n 0, 1, 0, 0, 0, 0, 0), (25, .iconst 0, 1, 0, 0, 0, (0), 0), (26, .putfield 15, 3, 8, 1, 0, 0, 0), (29, .iconst 0, 1, 0, 0, 0, (0), 0), (30, .istore_n 2, 1, 0, 0, 0, 0, 0), (31, .iconst 0, 1, 0, 0, 0, (0), 0), (32, .istore_n 3, 1, 0, 0, 0, 0, 0), (33, .iload_n 3, 1, 0, 0, 0, 0, 0), (34, .aload_n 0, 1, 0, 0, 0, 0, 0), (35, .getfield 168, 3, 8, 13, 0, 0, 0), (38, .if_icmp .ge 90, 3, 128, 0, 0, 0, 0), (41, .iload_n 3, 1, 0, 0, 0, 0, 0), (42, .iconst 1, 1, 0, 0, 0, (1), 0), (43, .iadd, 1, 0, 0, 0, 0, 0), (44, .istore 4, 2, 0, 0, 0, 0, 0), (46, .iload 4, 2, 0, 0, 0, 0, 0), (48, .aload_n 0, 1, 0, 0, 0, 0, 0), (49, .getfield 168, 3, 8, 13, 0, 0, 0), (52, .if_icmp .ge 70, 3, 122, 0, 0, 0, 0), (55, .iconst 0, 1, 0, 0, 0, (0), 0), (56, .istore 5, 2, 0, 0, 0, 0, 0), (58, .iload 5, 2, 0, 0, 0, 0, 0), (60, .aload_n 0, 1, 0, 0, 0, 0, 0), (61, .getfield 168, 3, 8, 13, 0, 0, 0), (64, .iconst 1, 1, 0, 0, 0, (1), 0), (65, .isub, 1, 0, 0, 0, 0, 0), (66, .if_icmp .ge 23, 3, 89, 0, 0, 0, 0), (69, .aload_n 0, 1, 0, 0, 0, 0, 0), (70, .iload_n 3, 1, 0, 0, 0, 0, 0), (71, .iload 4, 2, 0, 0, 0, 0, 0), (73, .iload 5, 2, 0, 0, 0, 0, 0), (75, .iconst 1, 1, 0, 0, 0, (1), 0), (76, .iadd, 1, 0, 0, 0, 0, 0), (77, .invokevirtual 383, 3, 266, 4, 9, 0, 0), (80, .ifCond .eq 9, 3, 89, 0, 0, 0, 0), (83, .iinc 5 1, 3, 0, 0, 0, (1), 0), (86, .goto (-28), 3, 58, 0, 0, 0, 0), (89, .iload 5, 2, 0, 0, 0, 0, 0), (91, .iload_n 2, 1, 0, 0, 0, 0, 0), (92, .if_icmp .le 24, 3, 116, 0, 0, 0, 0), (95, .iload 5, 2, 0, 0, 0, 0, 0), (97, .istore_n 2, 1, 0, 0, 0, 0, 0), (98, .aload_n 0, 1, 0, 0, 0, 0, 0), (99, .iconst 0, 1, 0, 0, 0, (0), 0), (100, .putfield 15, 3, 8, 1, 0, 0, 0), (103, .aload_n 0, 1, 0, 0, 0, 0, 0), (104, .iload_n 3, 1, 0, 0, 0, 0, 0), (105, .i2l, 1, 0, 0, 0, 0, 0), (106, .invokevirtual 18, 3, 180, 2, 9, 0, 0), (109, .aload_n 0, 1, 0, 0, 0, 0, 0), (110, .iload 4, 2, 0, 0, 0, 0, 0), (112, .i2l, 1, 0, 0, 0, 0, 0), (113, .invokevirtual 18, 3, 180, 2, 9, 0, 0), (116, .iinc 4 1, 3, 0, 0, 0, (1), 0), (119, .goto (-73), 3, 46, 0, 0, 0, 0), (122, .iinc 3 1, 3, 0, 0, 0, (1), 0), (125, .goto (-92), 3, 33, 0, 0, 0, 0), (128, .iload_n 2, 1, 0, 0, 0, 0, 0), (129, .ireturn, 1, 0, 0, 0, 0, 0)]
def cm_X11_twice : am_M := fun pc => cd_X11_twice.lookup pc
def cd_X11_isSame : List (Nat × am_E) := [(0, .iconst 1, 1, 0, 0, 0, (1), 0), (1, .istore_n 3, 1, 0, 0, 0, 0, 0), (2, .iconst 0, 1, 0, 0, 0, (0), 0), (3, .istore 4, 2, 0, 0, 0, 0, 0), (5, .iload 4, 2, 0, 0, 0, 0, 0), (7, .iload_n 2, 1, 0, 0, 0, 0, 0), (8, .if_icmp .ge 54, 3, 62, 0, 0, 0, 0), (11, .iload_n 3, 1, 0, 0, 0, 0, 0), (12, .ifCond .eq 42, 3, 54, 0, 0, 0, 0), (15, .aload_n 0, 1, 0, 0, 0, 0, 0), (16, .getfield 41, 3, 8, 12, 0, 0, 0), (19, .iload_n 1, 1, 0, 0, 0, 0, 0), (20, .iload 4, 2, 0, 0, 0, 0, 0), (22, .iadd, 1, 0, 0, 0, 0, 0), (23, .aload_n 0, 1, 0, 0, 0, 0, 0), (24, .getfield 168, 3, 8, 13, 0, 0, 0), (27, .irem, 1, 0, 0, 0, 0, 0), (28, .iaload, 1, 0, 0, 0, 0, 0), (29, .aload_n 0, 1, 0, 0, 0, 0, 0), (30, .getfield 41, 3, 8, 12, 0, 0, 0), (33, .iload_n 1, 1, 0, 0, 0, 0, 0), (34, .iload_n 2, 1, 0, 0, 0, 0, 0), (35, .iadd, 1, 0, 0, 0, 0, 0), (36, .iconst 1, 1, 0, 0, 0, (1), 0), (37, .isub, 1, 0, 0, 0, 0, 0), (38, .iload 4, 2, 0, 0, 0, 0, 0), (40, .isub, 1, 0, 0, 0, 0, 0), (41, .aload_n 0, 1, 0, 0, 0, 0, 0), (42, .getfield 168, 3, 8, 13, 0, 0, 0), (45, .irem, 1, 0, 0, 0, 0, 0), (46, .iaload, 1, 0, 0, 0, 0, 0), (47, .if_icmp .ne 7, 3, 54, 0, 0, 0, 0), (50, .iconst 1, 1, 0, 0, 0, (1), 0), (51, .goto 4, 3, 55, 0, 0, 0, 0), (54, .iconst 0, 1, 0, 0, 0, (0), 0), (55, .istore_n 3, 1, 0, 0, 0, 0, 0), (56, .iinc 4 1, 3, 0, 0, 0, (1), 0), (59, .goto (-54), 3, 5, 0, 0, 0, 0), (62, .iload_n 3, 1, 0, 0, 0, 0, 0), (63, .ireturn, 1, 0, 0, 2, 0, 0)]
def cm_X11_isSame : am_M := fun pc => cd_X11_isSame.lookup pc
def cd_X11_arc : List (Nat × am_E) := [(0, .aload_n 0, 1, 0, 0, 0, 0, 0), (1, .iconst 0, 1, 0, 0, 0, (0), 0), (2, .putfield 3, 3, 8, 0, 0, 0, 0), (5, .aload_n 0, 1, 0, 0, 0, 0, 0), (6, .iload_n 1, 1, 0, 0, 0, 0, 0), (7, .invokevirtual 277, 3, 183, 2, 9, 0, 0), (10, .ifCond .ne 5, 3, 15, 0, 0, 0, 0), (13, .iconst (-1), 1, 0, 0, 0, (-1), 0), (14, .ireturn, 1, 0, 0, 0, 0, 0), (15, .aload_n 0, 1, 0, 0, 0, 0, 0), (16, .aload_n 0, 1, 0, 0, 0, 0, 0), (17, .getfield 28, 3, 8, 3, 0, 0, 0), (20, .iload_n 1, 1, 0, 0, 0, 0, 0), (21, .invokevirtual 268, 3, 198, 3, 9, 0, 0), (24, .aload_n 0, 1, 0, 0, 0, 0, 0), (25, .getfield 168, 3, 8, 13, 0, 0, 0), (28, .istore_n 2, 1, 0, 0, 0, 0, 0), (29, .iconst 0, 1, 0, 0, 0, (0), 0), (30, .istore_n 3, 1, 0, 0, 0, 0, 0), (31, .aload_n 0, 1, 0, 0, 0, 0, 0), (32, .iload_n 3, 1, 0, 0, 0, 0, 0), (33, .iload_n 2, 1, 0, 0, 0, 0, 0), (34, .invokevirtual 387, 3, 269, 3, 9, 0, 0), (37, .ifCond .ne 35, 3, 72, 0, 0, 0, 0), (40, .iinc 3 1, 3, 0, 0, 0, (1), 0), (43, .iload_n 2, 1, 0, 0, 0, 0, 0), (44, .iload_n 3, 1, 0, 0, 0, 0, 0), (45, .aload_n 0, 1, 0, 0, 0, 0, 0), (46, .getfield 168, 3, 8, 13, 0, 0, 0), (49, .if_icmp .ne 7, 3, 56, 0, 0, 0, 0), (52, .iconst 1, 1, 0, 0, 0, (1), 0), (53, .goto 4, 3, 57, 0, 0, 0, 0), (56, .iconst 0, 1, 0, 0, 0, (0), 0), (57, .invokestatic 133, 3, 178, 1, 0, 0, 0), (60, .isub, 1, 0, 0, 0, 0, 0), (61, .istore_n 2, 1, 0, 0, 0, 0, 0), (62, .iload_n 3, 1, 0, 0, 0, 0, 0), (63, .aload_n 0, 1, 0, 0, 0, 0, 0), (64, .getfield 168, 3, 8, 13, 0, 0, 0), (67, .irem, 1, 0, 0, 0, 0, 0), (68, .istore_n 3, 1, 0, 0, 0, 0, 0), (69, .goto (-38), 3, 31, 0, 0, 0, 0), (72, .aload_n 0, 1, 0, 0, 0, 0, 0), (73, .iconst 0, 1, 0, 0, 0, (0), 0), (74, .putfield 15, 3, 8, 1, 0, 0, 0), (77, .aload_n 0, 1, 0, 0, 0, 0, 0), (78, .iload_n 3, 1, 0, 0, 0, 0, 0), (79, .i2l, 1, 0, 0, 0, 0, 0), (80, .invokevirtual 18, 3, 180, 2, 9, 0, 0), (83, .iload_n 2, 1, 0, 0, 0, 0, 0), (84, .ireturn, 1, 0, 0, 0, 0, 0)]
def cm_X11_arc : am_M := fun pc => cd_X11_arc.lookup pc
def cd_X11_power : List (Nat × am_E) := [(0, .iload_n 1, 1, 0, 0, 0, 0, 0), (1, .ifCond .ne 7, 3, 8, 0, 0, 0, 0), (4, .lconst 1, 1, 0, 0, 0, 0, (1)), (5, .goto 13, 3, 18, 0, 0, 0, 0), (8, .iload_n 0, 1, 0, 0, 0, 0, 0), (9, .i2l, 1, 0, 0, 0, 0, 0), (10, .iload_n 0, 1, 0, 0, 0, 0, 0), (11, .iload_n 1, 1, 0, 0, 0, 0, 0), (12, .iconst 1, 1, 0, 0, 0, (1), 0), (13, .isub, 1, 0, 0, 0, 0, 0), (14, .invokestatic 391, 3, 271, 2, 0, 0, 0), (17, .lmul, 1, 0, 0, 0, 0, 0), (18, .lreturn, 1, 0, 0, 0, 0, 0)]
def cm_X11_power : am_M := fun pc => cd_X11_power.lookup pc
def cd_X11_ringsOf : List (Nat × am_E) := [(0, .iload_n 0, 1, 0, 0, 0, 0, 0), (1, .i2l, 1, 0, 0, 0, 0, 0), (2, .iload_n 1, 1, 0, 0, 0, 0, 0), (3, .i2l, 1, 0, 0, 0, 0, 0), (4, .invokestatic 7, 3, 179, 2, 0, 0, 0), (7, .l2i, 1, 0, 0, 0, 0, 0), (8, .ireturn, 1, 0, 0, 0, 0, 0)]
def cm_X11_ringsOf : am_M := fun pc => cd_X11_ringsOf.lookup pc
def cd_X11_many : List (Nat × am_E) := [(0, .aload_n 0, 1, 0, 0, 0, 0, 0), (1, .iconst 0, 1, 0, 0, 0, (0), 0), (2, .putfield 3, 3, 8, 0, 0, 0, 0), (5, .iload_n 1, 1, 0, 0, 0, 0, 0), (6, .i2l, 1, 0, 0, 0, 0, 0), (7, .lconst 1, 1, 0, 0, 0, 0, (1)), (8, .ldc2_w 395, 3, 0, 0, 0, 0, (10)), (11, .invokestatic 111, 3, 176, 3, 0, 0, 0), (14, .ifCond .eq 15, 3, 29, 0, 0, 0, 0), (17, .iload_n 2, 1, 0, 0, 0, 0, 0), (18, .i2l, 1, 0, 0, 0, 0, 0), (19, .lconst 1, 1, 0, 0, 0, 0, (1)), (20, .ldc2_w 397, 3, 0, 0, 0, 0, (4)), (23, .invokestatic 111, 3, 176, 3, 0, 0, 0), (26, .ifCond .ne 5, 3, 31, 0, 0, 0, 0), (29, .iconst (-1), 1, 0, 0, 0, (-1), 0), (30, .ireturn, 1, 0, 0, 0, 0, 0), (31, .lconst 0, 1, 0, 0, 0, 0, (0)), (32, .lstore_n 3, 1, 0, 0, 0, 0, 0), (33, .iload_n 2, 1, 0, 0, 0, 0, 0), (34, .iload_n 1, 1, 0, 0, 0, 0, 0), (35, .invokestatic 391, 3, 271, 2, 0, 0, 0), (38, .lstore 5, 2, 0, 0, 0, 0, 0), (40, .lconst 0, 1, 0, 0, 0, 0, (0)), (41, .lstore 7, 2, 0, 0, 0, 0, 0), (43, .iconst 0, 1, 0, 0, 0, (0), 0), (44, .istore 9, 2, 0, 0, 0, 0, 0), (46, .iload 9, 2, 0, 0, 0, 0, 0), (48, .iload_n 1, 1, 0, 0, 0, 0, 0), (49, .if_icmp .ge 54, 3, 103, 0, 0, 0, 0), (52, .lload_n 3, 1, 0, 0, 0, 0, 0), (53, .iload_n 2, 1, 0, 0, 0, 0, 0), (54, .iload_n 1, 1, 0, 0, 0, 0, 0), (55, .iload 9, 2, 0, 0, 0, 0, 0), (57, .invokestatic 399, 3, 272, 2, 0, 0, 0), (60, .invokestatic 391, 3, 271, 2, 0, 0, 0), (63, .ladd, 1, 0, 0, 0, 0, 0), (64, .lstore_n 3, 1, 0, 0, 0, 0, 0), (65, .lload 7, 2, 0, 0, 0, 0, 0), (67, .iload_n 2, 1, 0, 0, 0, 0, 0), (68, .iload_n 1, 1, 0, 0, 0, 0, 0), (69, .iconst 2, 1, 0, 0, 0, (2), 0), (70, .irem, 1, 0, 0, 0, 0, 0), (71, .iconst 1, 1, 0, 0, 0, (1), 0), (72, .if_icmp .ne 11, 3, 83, 0, 0, 0, 0), (75, .iload_n 1, 1, 0, 0, 0, 0, 0), (76, .iconst 1, 1, 0, 0, 0, (1), 0), (77, .iadd, 1, 0, 0, 0, 0, 0), (78, .iconst 2, 1, 0, 0, 0, (2), 0), (79, .idiv, 1, 0, 0, 0, 0, 0), (80, .goto 11, 3, 91, 0, 0, 0, 0), (83, .iload_n 1, 1, 0, 0, 0, 0, 0), (84, .iconst 2, 1, 0, 0, 0, (2), 0), (85, .idiv, 1, 0, 0, 0, 0, 0), (86, .iload 9, 2, 0, 0, 0, 0, 0), (88, .iconst 2, 1, 0, 0, 0, (2), 0), (89, .irem, 1, 0, 0, 0, 0, 0), (90, .iadd, 1, 0, 0, 0, 0, 0), (91, .invokestatic 391, 3, 271, 2, 0, 0, 0), (94, .ladd, 1, 0, 0, 0, 0, 0), (95, .lstore 7, 2, 0, 0, 0, 0, 0), (97, .iinc 9 1, 3, 0, 0, 0, (1), 0), (100, .goto (-54), 3, 46, 0, 0, 0, 0), (103, .iconst 1, 1, 0, 0, 0, (1), 0), (104, .istore 9, 2, 0, 0, 0, 0, 0), (106, .iload 9, 2, 0, 0, 0, 0, 0), (108, .iload_n 1, 1, 0, 0, 0, 0, 0), (109, .if_icmp .ge 31, 3, 140, 0, 0, 0, 0), (112, .lload 5, 2, 0, 0, 0, 0, 0), (114, .iload_n 1, 1, 0, 0, 0, 0, 0), (115, .iload 9, 2, 0, 0, 0, 0, 0), (117, .irem, 1, 0, 0, 0, 0, 0), (118, .ifCond .ne 12, 3, 130, 0, 0, 0, 0), (121, .iload 9, 2, 0, 0, 0, 0, 0), (123, .iload_n 2, 1, 0, 0, 0, 0, 0), (124, .invokestatic 402, 3, 274, 2, 0, 0, 0), (127, .goto 4, 3, 131, 0, 0, 0, 0), (130, .lconst 0, 1, 0, 0, 0, 0, (0)), (131, .lsub, 1, 0, 0, 0, 0, 0), (132, .lstore 5, 2, 0, 0, 0, 0, 0), (134, .iinc 9 1, 3, 0, 0, 0, (1), 0), (137, .goto (-31), 3, 106, 0, 0, 0, 0), (140, .aload_n 0, 1, 0, 0, 0, 0, 0), (141, .iconst 0, 1, 0, 0, 0, (0), 0), (142, .putfield 15, 3, 8, 1, 0, 0, 0), (145, .aload_n 0, 1, 0, 0, 0, 0, 0), (146, .lload_n 3, 1, 0, 0, 0, 0, 0), (147, .iload_n 1, 1, 0, 0, 0, 0, 0), (148, .i2l, 1, 0, 0, 0, 0, 0), (149, .ldiv, 1, 0, 0, 0, 0, 0), (150, .invokevirtual 18, 3, 180, 2, 9, 0, 0), (153, .aload_n 0, 1, 0, 0, 0, 0, 0), (154, .lload 5, 2, 0, 0, 0, 0, 0), (156, .iload_n 1, 1, 0, 0, 0, 0, 0), (157, .i2l, 1, 0, 0, 0, 0, 0), (158, .ldiv, 1, 0, 0, 0, 0, 0), (159, .invokevirtual 18, 3, 180, 2, 9, 0, 0), (162, .lload_n 3, 1, 0, 0, 0, 0, 0), (163, .lload 7, 2, 0, 0, 0, 0, 0), (165, .ladd, 1, 0, 0, 0, 0, 0), (166, .iconst 2, 1, 0, 0, 0, (2), 0), (167, .iload_n 1, 1, 0, 0, 0, 0, 0), (168, .imul, 1, 0, 0, 0, 0, 0), (169, .i2l, 1, 0, 0, 0, 0, 0), (170, .ldiv, 1, 0, 0, 0, 0, 0), (171, .l2i, 1, 0, 0, 0, 0, 0), (172, .ireturn, 1, 0, 0, 0, 0, 0)]
def cm_X11_many : am_M := fun pc => cd_X11_many.lookup pc
def cd_X11_newRows : List (Nat × am_E) := [(0, .iload_n 1, 1, 0, 0, 0, 0, 0), (1, .iload_n 0, 1, 0, 0, 0, 0, 0), (2, .invokestatic 391, 3, 271, 2, 0, 0, 0), (5, .lstore_n 2, 1, 0, 0, 0, 0, 0), (6, .iconst 1, 1, 0, 0, 0, (1), 0), (7, .istore 4, 2, 0, 0, 0, 0, 0), (9, .iload 4, 2, 0, 0, 0, 0, 0), (11, .iload_n 0, 1, 0, 0, 0, 0, 0), (12, .if_icmp .ge 29, 3, 41, 0, 0, 0, 0), (15, .lload_n 2, 1, 0, 0, 0, 0, 0), (16, .iload_n 0, 1, 0, 0, 0, 0, 0), (17, .iload 4, 2, 0, 0, 0, 0, 0), (19, .irem, 1, 0, 0, 0, 0, 0), (20, .ifCond .ne 12, 3, 32, 0, 0, 0, 0), (23, .iload 4, 2, 0, 0, 0, 0, 0), (25, .iload_n 1, 1, 0, 0, 0, 0, 0), (26, .invokestatic 402, 3, 274, 2, 0, 0, 0), (29, .goto 4, 3, 33, 0, 0, 0, 0), (32, .lconst 0, 1, 0, 0, 0, 0, (0)), (33, .lsub, 1, 0, 0, 0, 0, 0), (34, .lstore_n 2, 1, 0, 0, 0, 0, 0), (35, .iinc 4 1, 3, 0, 0, 0, (1), 0), (38, .goto (-29), 3, 9, 0, 0, 0, 0), (41, .lload_n 2, 1, 0, 0, 0, 0, 0), (42, .lreturn, 1, 0, 0, 0, 0, 0)]
def cm_X11_newRows : am_M := fun pc => cd_X11_newRows.lookup pc
def cd_X11_rowsOf : List (Nat × am_E) := [(0, .lconst 1, 1, 0, 0, 0, 0, (1)), (1, .lstore 4, 2, 0, 0, 0, 0, 0), (3, .iconst 0, 1, 0, 0, 0, (0), 0), (4, .istore 6, 2, 0, 0, 0, 0, 0), (6, .iconst 0, 1, 0, 0, 0, (0), 0), (7, .istore 7, 2, 0, 0, 0, 0, 0), (9, .iload 7, 2, 0, 0, 0, 0, 0), (11, .iconst 4, 1, 0, 0, 0, (4), 0), (12, .if_icmp .ge 81, 3, 93, 0, 0, 0, 0), (15, .aload_n 0, 1, 0, 0, 0, 0, 0), (16, .getfield 74, 3, 8, 28, 0, 0, 0), (19, .iload 7, 2, 0, 0, 0, 0, 0), (21, .iaload, 1, 0, 0, 0, 0, 0), (22, .iload 7, 2, 0, 0, 0, 0, 0), (24, .iload_n 2, 1, 0, 0, 0, 0, 0), (25, .if_icmp .ne 7, 3, 32, 0, 0, 0, 0), (28, .iconst 1, 1, 0, 0, 0, (1), 0), (29, .goto 4, 3, 33, 0, 0, 0, 0), (32, .iconst 0, 1, 0, 0, 0, (0), 0), (33, .invokestatic 133, 3, 178, 1, 0, 0, 0), (36, .isub, 1, 0, 0, 0, 0, 0), (37, .iload 7, 2, 0, 0, 0, 0, 0), (39, .iload_n 3, 1, 0, 0, 0, 0, 0), (40, .if_icmp .ne 7, 3, 47, 0, 0, 0, 0), (43, .iconst 1, 1, 0, 0, 0, (1), 0), (44, .goto 4, 3, 48, 0, 0, 0, 0), (47, .iconst 0, 1, 0, 0, 0, (0), 0), (48, .invokestatic 133, 3, 178, 1, 0, 0, 0), (51, .isub, 1, 0, 0, 0, 0, 0), (52, .iload_n 1, 1, 0, 0, 0, 0, 0), (53, .idiv, 1, 0, 0, 0, 0, 0), (54, .istore 8, 2, 0, 0, 0, 0, 0), (56, .iconst 1, 1, 0, 0, 0, (1), 0), (57, .istore 9, 2, 0, 0, 0, 0, 0), (59, .iload 9, 2, 0, 0, 0, 0, 0), (61, .iload 8, 2, 0, 0, 0, 0, 0), (63, .if_icmp .gt 24, 3, 87, 0, 0, 0, 0), (66, .iinc 6 1, 3, 0, 0, 0, (1), 0), (69, .lload 4, 2, 0, 0, 0, 0, 0), (71, .iload 6, 2, 0, 0, 0, 0, 0), (73, .i2l, 1, 0, 0, 0, 0, 0), (74, .lmul, 1, 0, 0, 0, 0, 0), (75, .iload 9, 2, 0, 0, 0, 0, 0), (77, .i2l, 1, 0, 0, 0, 0, 0), (78, .ldiv, 1, 0, 0, 0, 0, 0), (79, .lstore 4, 2, 0, 0, 0, 0, 0), (81, .iinc 9 1, 3, 0, 0, 0, (1), 0), (84, .goto (-25), 3, 59, 0, 0, 0, 0), (87, .iinc 7 1, 3, 0, 0, 0, (1), 0), (90, .goto (-81), 3, 9, 0, 0, 0, 0), (93, .lload 4, 2, 0, 0, 0, 0, 0), (95, .lreturn, 1, 0, 0, 0, 0, 0)]
def cm_X11_rowsOf : am_M := fun pc => cd_X11_rowsOf.lookup pc
def cd_X11_oddOnes : List (Nat × am_E) := [(0, .iconst 0, 1, 0, 0, 0, (0), 0), (1, .istore_n 1, 1, 0, 0, 0, 0, 0), (2, .iconst 0, 1, 0, 0, 0, (0), 0), (3, .istore_n 2, 1, 0, 0, 0, 0, 0), (4, .iload_n 2, 1, 0, 0, 0, 0, 0), (5, .iconst 4, 1, 0, 0, 0, (4), 0), (6, .if_icmp .ge 20, 3, 26, 0, 0, 0, 0), (9, .iload_n 1, 1, 0, 0, 0, 0, 0), (10, .aload_n 0, 1, 0, 0, 0, 0, 0), (11, .getfield 74, 3, 8, 28, 0, 0, 0), (14, .iload_n 2, 1, 0, 0, 0, 0, 0), (15, .iaload, 1, 0, 0, 0, 0, 0), (16, .iconst 2, 1, 0, 0, 0, (2), 0), (17, .irem, 1, 0, 0, 0, 0, 0), (18, .iadd, 1, 0, 0, 0, 0, 0), (19, .istore_n 1, 1, 0, 0, 0, 0, 0), (20, .iinc 2 1, 3, 0, 0, 0, (1), 0), (23, .goto (-19), 3, 4, 0, 0, 0, 0), (26, .iload_n 1, 1, 0, 0, 0, 0, 0), (27, .ireturn, 1, 0, 0, 0, 0, 0)]
def cm_X11_oddOnes : am_M := fun pc => cd_X11_oddOnes.lookup pc
def cd_X11_goesInto : List (Nat × am_E) := [(0, .iconst 1, 1, 0, 0, 0, (1), 0), (1, .istore_n 2, 1, 0, 0, 0, 0, 0), (2, .iconst 0, 1, 0, 0, 0, (0), 0), (3, .istore_n 3, 1, 0, 0, 0, 0, 0), (4, .iload_n 3, 1, 0, 0, 0, 0, 0), (5, .iconst 4, 1, 0, 0, 0, (4), 0), (6, .if_icmp .ge 30, 3, 36, 0, 0, 0, 0), (9, .iload_n 2, 1, 0, 0, 0, 0, 0), (10, .ifCond .eq 18, 3, 28, 0, 0, 0, 0), (13, .aload_n 0, 1, 0, 0, 0, 0, 0), (14, .getfield 74, 3, 8, 28, 0, 0, 0), (17, .iload_n 3, 1, 0, 0, 0, 0, 0), (18, .iaload, 1, 0, 0, 0, 0, 0), (19, .iload_n 1, 1, 0, 0, 0, 0, 0), (20, .irem, 1, 0, 0, 0, 0, 0), (21, .ifCond .ne 7, 3, 28, 0, 0, 0, 0), (24, .iconst 1, 1, 0, 0, 0, (1), 0), (25, .goto 4, 3, 29, 0, 0, 0, 0), (28, .iconst 0, 1, 0, 0, 0, (0), 0), (29, .istore_n 2, 1, 0, 0, 0, 0, 0), (30, .iinc 3 1, 3, 0, 0, 0, (1), 0), (33, .goto (-29), 3, 4, 0, 0, 0, 0), (36, .iload_n 2, 1, 0, 0, 0, 0, 0), (37, .ireturn, 1, 0, 0, 2, 0, 0)]
def cm_X11_goesInto : am_M := fun pc => cd_X11_goesInto.lookup pc
def cd_X11_flippedRows : List (Nat × am_E) := [(0, .iload_n 1, 1, 0, 0, 0, 0, 0), (1, .iconst 2, 1, 0, 0, 0, (2), 0), (2, .irem, 1, 0, 0, 0, 0, 0), (3, .iconst 1, 1, 0, 0, 0, (1), 0), (4, .if_icmp .ne 23, 3, 27, 0, 0, 0, 0), (7, .aload_n 0, 1, 0, 0, 0, 0, 0), (8, .invokevirtual 405, 3, 276, 1, 9, 0, 0), (11, .iconst 1, 1, 0, 0, 0, (1), 0), (12, .if_icmp .ne 13, 3, 25, 0, 0, 0, 0), (15, .aload_n 0, 1, 0, 0, 0, 0, 0), (16, .iconst 2, 1, 0, 0, 0, (2), 0), (17, .iconst (-1), 1, 0, 0, 0, (-1), 0), (18, .iconst (-1), 1, 0, 0, 0, (-1), 0), (19, .invokevirtual 408, 3, 275, 4, 9, 0, 0), (22, .goto 4, 3, 26, 0, 0, 0, 0), (25, .lconst 0, 1, 0, 0, 0, 0, (0)), (26, .lreturn, 1, 0, 0, 0, 0, 0), (27, .iload_n 2, 1, 0, 0, 0, 0, 0), (28, .ifCond .ne 22, 3, 50, 0, 0, 0, 0), (31, .aload_n 0, 1, 0, 0, 0, 0, 0), (32, .invokevirtual 405, 3, 276, 1, 9, 0, 0), (35, .ifCond .ne 13, 3, 48, 0, 0, 0, 0), (38, .aload_n 0, 1, 0, 0, 0, 0, 0), (39, .iconst 2, 1, 0, 0, 0, (2), 0), (40, .iconst (-1), 1, 0, 0, 0, (-1), 0), (41, .iconst (-1), 1, 0, 0, 0, (-1), 0), (42, .invokevirtual 408, 3, 275, 4, 9, 0, 0), (45, .goto 4, 3, 49, 0, 0, 0, 0), (48, .lconst 0, 1, 0, 0, 0, 0, (0)), (49, .lreturn, 1, 0, 0, 0, 0, 0), (50, .aload_n 0, 1, 0, 0, 0, 0, 0), (51, .invokevirtual 405, 3, 276, 1, 9, 0, 0), (54, .iconst 2, 1, 0, 0, 0, (2), 0), (55, .if_icmp .ne 15, 3, 70, 0, 0, 0, 0), (58, .ldc2_w 412, 3, 0, 0, 0, 0, (2)), (61, .aload_n 0, 1, 0, 0, 0, 0, 0), (62, .iconst 2, 1, 0, 0, 0, (2), 0), (63, .iconst (-1), 1, 0, 0, 0, (-1), 0), (64, .iconst (-1), 1, 0, 0, 0, (-1), 0), (65, .invokevirtual 408, 3, 275, 4, 9, 0, 0), (68, .lmul, 1, 0, 0, 0, 0, 0), (69, .lreturn, 1, 0, 0, 0, 0, 0), (70, .lconst 0, 1, 0, 0, 0, 0, (0)), (71, .lstore_n 3, 1, 0, 0, 0, 0, 0), (72, .iconst 0, 1, 0, 0, 0, (0), 0), (73, .istore 5, 2, 0, 0, 0, 0, 0), (75, .iload 5, 2, 0, 0, 0, 0, 0), (77, .iconst 4, 1, 0, 0, 0, (4), 0), (78, .if_icmp .ge 43, 3, 121, 0, 0, 0, 0), (81, .aload_n 0, 1, 0, 0, 0, 0, 0), (82, .invokevirtual 405, 3, 276, 1, 9, 0, 0), (85, .ifCond .ne 36, 3, 121, 0, 0, 0, 0), (88, .lload_n 3, 1, 0, 0, 0, 0, 0), (89, .aload_n 0, 1, 0, 0, 0, 0, 0), (90, .getfield 74, 3, 8, 28, 0, 0, 0), (93, .iload 5, 2, 0, 0, 0, 0, 0), (95, .iaload, 1, 0, 0, 0, 0, 0), (96, .iconst 1, 1, 0, 0, 0, (1), 0), (97, .if_icmp .le 15, 3, 112, 0, 0, 0, 0), (100, .aload_n 0, 1, 0, 0, 0, 0, 0), (101, .iconst 2, 1, 0, 0, 0, (2), 0), (102, .iload 5, 2, 0, 0, 0, 0, 0), (104, .iload 5, 2, 0, 0, 0, 0, 0), (106, .invokevirtual 408, 3, 275, 4, 9, 0, 0), (109, .goto 4, 3, 113, 0, 0, 0, 0), (112, .lconst 0, 1, 0, 0, 0, 0, (0)), (113, .ladd, 1, 0, 0, 0, 0, 0), (114, .lstore_n 3, 1, 0, 0, 0, 0, 0), (115, .iinc 5 1, 3, 0, 0, 0, (1), 0), (118, .goto (-43), 3, 75, 0, 0, 0, 0), (121, .lload_n 3, 1, 0, 0, 0, 0, 0), (122, .lreturn, 1, 0, 0, 0, 0, 0)]
def cm_X11_flippedRows : am_M := fun pc => cd_X11_flippedRows.lookup pc
def cd_X11_ways : List (Nat × am_E) := [(0, .aload_n 0, 1, 0, 0, 0, 0, 0), (1, .iconst 0, 1, 0, 0, 0, (0), 0), (2, .putfield 3, 3, 8, 0, 0, 0, 0), (5, .aload_n 0, 1, 0, 0, 0, 0, 0), (6, .invokevirtual 318, 3, 196, 1, 9, 0, 0), (9, .istore_n 1, 1, 0, 0, 0, 0, 0), (10, .iload_n 1, 1, 0, 0, 0, 0, 0), (11, .ifCond .ge 5, 3, 16, 0, 0, 0, 0), (14, .iload_n 1, 1, 0, 0, 0, 0, 0), (15, .ireturn, 1, 0, 0, 0, 0, 0), (16, .iconst 0, 1, 0, 0, 0, (0), 0), (17, .istore_n 2, 1, 0, 0, 0, 0, 0), (18, .iload_n 2, 1, 0, 0, 0, 0, 0), (19, .iconst 4, 1, 0, 0, 0, (4), 0), (20, .if_icmp .ge 20, 3, 40, 0, 0, 0, 0), (23, .aload_n 0, 1, 0, 0, 0, 0, 0), (24, .getfield 74, 3, 8, 28, 0, 0, 0), (27, .iload_n 2, 1, 0, 0, 0, 0, 0), (28, .aload_n 0, 1, 0, 0, 0, 0, 0), (29, .iload_n 2, 1, 0, 0, 0, 0, 0), (30, .invokevirtual 321, 3, 197, 2, 9, 0, 0), (33, .iastore, 1, 0, 0, 0, 0, 0), (34, .iinc 2 1, 3, 0, 0, 0, (1), 0), (37, .goto (-19), 3, 18, 0, 0, 0, 0), (40, .aload_n 0, 1, 0, 0, 0, 0, 0), (41, .getfield 159, 3, 8, 11, 0, 0, 0), (44, .istore_n 2, 1, 0, 0, 0, 0, 0), (45, .lconst 0, 1, 0, 0, 0, 0, (0)), (46, .lstore_n 3, 1, 0, 0, 0, 0, 0), (47, .lconst 0, 1, 0, 0, 0, 0, (0)), (48, .lstore 5, 2, 0, 0, 0, 0, 0), (50, .iconst 0, 1, 0, 0, 0, (0), 0), (51, .istore 7, 2, 0, 0, 0, 0, 0), (53, .iload 7, 2, 0, 0, 0, 0, 0), (55, .iload_n 2, 1, 0, 0, 0, 0, 0), (56, .if_icmp .ge 66, 3, 122, 0, 0, 0, 0), (59, .iload_n 2, 1, 0, 0, 0, 0, 0), (60, .iload_n 2, 1, 0, 0, 0, 0, 0), (61, .iload 7, 2, 0, 0, 0, 0, 0), (63, .invokestatic 399, 3, 272, 2, 0, 0, 0), (66, .idiv, 1, 0, 0, 0, 0, 0), (67, .istore 8, 2, 0, 0, 0, 0, 0), (69, .lload_n 3, 1, 0, 0, 0, 0, 0), (70, .aload_n 0, 1, 0, 0, 0, 0, 0), (71, .iload 8, 2, 0, 0, 0, 0, 0), (73, .invokevirtual 414, 3, 277, 2, 9, 0, 0), (76, .ifCond .eq 14, 3, 90, 0, 0, 0, 0), (79, .aload_n 0, 1, 0, 0, 0, 0, 0), (80, .iload 8, 2, 0, 0, 0, 0, 0), (82, .iconst (-1), 1, 0, 0, 0, (-1), 0), (83, .iconst (-1), 1, 0, 0, 0, (-1), 0), (84, .invokevirtual 408, 3, 275, 4, 9, 0, 0), (87, .goto 4, 3, 91, 0, 0, 0, 0), (90, .lconst 0, 1, 0, 0, 0, 0, (0)), (91, .ladd, 1, 0, 0, 0, 0, 0), (92, .lstore_n 3, 1, 0, 0, 0, 0, 0), (93, .lload 5, 2, 0, 0, 0, 0, 0), (95, .aload_n 0, 1, 0, 0, 0, 0, 0), (96, .iload_n 2, 1, 0, 0, 0, 0, 0), (97, .iload 7, 2, 0, 0, 0, 0, 0), (99, .iconst 2, 1, 0, 0, 0, (2), 0), (100, .irem, 1, 0, 0, 0, 0, 0), (101, .iconst 1, 1, 0, 0, 0, (1), 0), (102, .if_icmp .ne 7, 3, 109, 0, 0, 0, 0), (105, .iconst 1, 1, 0, 0, 0, (1), 0), (106, .goto 4, 3, 110, 0, 0, 0, 0), (109, .iconst 0, 1, 0, 0, 0, (0), 0), (110, .invokevirtual 417, 3, 278, 3, 9, 0, 0), (113, .ladd, 1, 0, 0, 0, 0, 0), (114, .lstore 5, 2, 0, 0, 0, 0, 0), (116, .iinc 7 1, 3, 0, 0, 0, (1), 0), (119, .goto (-66), 3, 53, 0, 0, 0, 0), (122, .aload_n 0, 1, 0, 0, 0, 0, 0), (123, .iconst 0, 1, 0, 0, 0, (0), 0), (124, .putfield 15, 3, 8, 1, 0, 0, 0), (127, .aload_n 0, 1, 0, 0, 0, 0, 0), (128, .lload_n 3, 1, 0, 0, 0, 0, 0), (129, .iload_n 2, 1, 0, 0, 0, 0, 0), (130, .i2l, 1, 0, 0, 0, 0, 0), (131, .ldiv, 1, 0, 0, 0, 0, 0), (132, .invokevirtual 18, 3, 180, 2, 9, 0, 0), (135, .aload_n 0, 1, 0, 0, 0, 0, 0), (136, .aload_n 0, 1, 0, 0, 0, 0, 0), (137, .iconst 1, 1, 0, 0, 0, (1), 0), (138, .iconst (-1), 1, 0, 0, 0, (-1), 0), (139, .iconst (-1), 1, 0, 0, 0, (-1), 0), (140, .invokevirtual 408, 3, 275, 4, 9, 0, 0), (143, .invokevirtual 18, 3, 180, 2, 9, 0, 0), (146, .lload_n 3, 1, 0, 0, 0, 0, 0), (147, .lload 5, 2, 0, 0, 0, 0, 0), (149, .ladd, 1, 0, 0, 0, 0, 0), (150, .iconst 2, 1, 0, 0, 0, (2), 0), (151, .iload_n 2, 1, 0, 0, 0, 0, 0), (152, .imul, 1, 0, 0, 0, 0, 0), (153, .i2l, 1, 0, 0, 0, 0, 0), (154, .ldiv, 1, 0, 0, 0, 0, 0), (155, .l2i, 1, 0, 0, 0, 0, 0), (156, .ireturn, 1, 0, 0, 0, 0, 0)]
def cm_X11_ways : am_M := fun pc => cd_X11_ways.lookup pc
def cd_X11_laysLook : List (Nat × am_E) := [(0, .aload_n 0, 1, 0, 0, 0, 0, 0), (1, .iload_n 1, 1, 0, 0, 0, 0, 0), (2, .putfield 168, 3, 8, 13, 0, 0, 0), (5, .iload_n 3, 1, 0, 0, 0, 0, 0), (6, .istore 4, 2, 0, 0, 0, 0, 0), (8, .iload_n 1, 1, 0, 0, 0, 0, 0), (9, .iconst 1, 1, 0, 0, 0, (1), 0), (10, .isub, 1, 0, 0, 0, 0, 0), (11, .istore 5, 2, 0, 0, 0, 0, 0), (13, .iload 5, 2, 0, 0, 0, 0, 0), (15, .ifCond .lt 26, 3, 41, 0, 0, 0, 0), (18, .aload_n 0, 1, 0, 0, 0, 0, 0), (19, .getfield 41, 3, 8, 12, 0, 0, 0), (22, .iload 5, 2, 0, 0, 0, 0, 0), (24, .iload 4, 2, 0, 0, 0, 0, 0), (26, .iload_n 2, 1, 0, 0, 0, 0, 0), (27, .irem, 1, 0, 0, 0, 0, 0), (28, .iastore, 1, 0, 0, 0, 0, 0), (29, .iload 4, 2, 0, 0, 0, 0, 0), (31, .iload_n 2, 1, 0, 0, 0, 0, 0), (32, .idiv, 1, 0, 0, 0, 0, 0), (33, .istore 4, 2, 0, 0, 0, 0, 0), (35, .iinc 5 (-1), 3, 0, 0, 0, (-1), 0), (38, .goto (-25), 3, 13, 0, 0, 0, 0), (41, .return_, 1, 0, 0, 0, 0, 0)]
def cm_X11_laysLook : am_M := fun pc => cd_X11_laysLook.lookup pc
def cd_X11_entersLook : List (Nat × am_E) := [(0, .aload_n 0, 1, 0, 0, 0, 0, 0), (1, .iconst 0, 1, 0, 0, 0, (0), 0), (2, .putfield 15, 3, 8, 1, 0, 0, 0), (5, .iconst 0, 1, 0, 0, 0, (0), 0), (6, .istore_n 1, 1, 0, 0, 0, 0, 0), (7, .iload_n 1, 1, 0, 0, 0, 0, 0), (8, .aload_n 0, 1, 0, 0, 0, 0, 0), (9, .getfield 168, 3, 8, 13, 0, 0, 0), (12, .if_icmp .ge 20, 3, 32, 0, 0, 0, 0), (15, .aload_n 0, 1, 0, 0, 0, 0, 0), (16, .aload_n 0, 1, 0, 0, 0, 0, 0), (17, .getfield 41, 3, 8, 12, 0, 0, 0), (20, .iload_n 1, 1, 0, 0, 0, 0, 0), (21, .iaload, 1, 0, 0, 0, 0, 0), (22, .i2l, 1, 0, 0, 0, 0, 0), (23, .invokevirtual 18, 3, 180, 2, 9, 0, 0), (26, .iinc 1 1, 3, 0, 0, 0, (1), 0), (29, .goto (-22), 3, 7, 0, 0, 0, 0), (32, .return_, 1, 0, 0, 0, 0, 0)]
def cm_X11_entersLook : am_M := fun pc => cd_X11_entersLook.lookup pc
def cd_X11_nth : List (Nat × am_E) := [(0, .aload_n 0, 1, 0, 0, 0, 0, 0), (1, .iconst 0, 1, 0, 0, 0, (0), 0), (2, .putfield 3, 3, 8, 0, 0, 0, 0), (5, .iload_n 1, 1, 0, 0, 0, 0, 0), (6, .i2l, 1, 0, 0, 0, 0, 0), (7, .lconst 1, 1, 0, 0, 0, 0, (1)), (8, .ldc2_w 421, 3, 0, 0, 0, 0, (7)), (11, .invokestatic 111, 3, 176, 3, 0, 0, 0), (14, .ifCond .eq 27, 3, 41, 0, 0, 0, 0), (17, .iload_n 2, 1, 0, 0, 0, 0, 0), (18, .i2l, 1, 0, 0, 0, 0, 0), (19, .lconst 1, 1, 0, 0, 0, 0, (1)), (20, .ldc2_w 397, 3, 0, 0, 0, 0, (4)), (23, .invokestatic 111, 3, 176, 3, 0, 0, 0), (26, .ifCond .eq 15, 3, 41, 0, 0, 0, 0), (29, .iload_n 3, 1, 0, 0, 0, 0, 0), (30, .i2l, 1, 0, 0, 0, 0, 0), (31, .lconst 0, 1, 0, 0, 0, 0, (0)), (32, .ldc2_w 423, 3, 0, 0, 0, 0, (999)), (35, .invokestatic 111, 3, 176, 3, 0, 0, 0), (38, .ifCond .ne 5, 3, 43, 0, 0, 0, 0), (41, .iconst (-1), 1, 0, 0, 0, (-1), 0), (42, .ireturn, 1, 0, 0, 0, 0, 0), (43, .iconst 0, 1, 0, 0, 0, (0), 0), (44, .istore 4, 2, 0, 0, 0, 0, 0), (46, .iconst 0, 1, 0, 0, 0, (0), 0), (47, .istore 5, 2, 0, 0, 0, 0, 0), (49, .iload 5, 2, 0, 0, 0, 0, 0), (51, .i2l, 1, 0, 0, 0, 0, 0), (52, .iload_n 2, 1, 0, 0, 0, 0, 0), (53, .iload_n 1, 1, 0, 0, 0, 0, 0), (54, .invokestatic 391, 3, 271, 2, 0, 0, 0), (57, .lcmp, 1, 0, 0, 0, 0, 0), (58, .ifCond .ge 39, 3, 97, 0, 0, 0, 0), (61, .aload_n 0, 1, 0, 0, 0, 0, 0), (62, .iload_n 1, 1, 0, 0, 0, 0, 0), (63, .iload_n 2, 1, 0, 0, 0, 0, 0), (64, .iload 5, 2, 0, 0, 0, 0, 0), (66, .invokevirtual 425, 3, 280, 4, 9, 0, 0), (69, .aload_n 0, 1, 0, 0, 0, 0, 0), (70, .invokevirtual 429, 3, 203, 1, 9, 0, 0), (73, .ifCond .eq 18, 3, 91, 0, 0, 0, 0), (76, .iload 4, 2, 0, 0, 0, 0, 0), (78, .iload_n 3, 1, 0, 0, 0, 0, 0), (79, .if_icmp .ne 9, 3, 88, 0, 0, 0, 0), (82, .aload_n 0, 1, 0, 0, 0, 0, 0), (83, .invokevirtual 432, 3, 281, 1, 9, 0, 0), (86, .iconst 0, 1, 0, 0, 0, (0), 0), (87, .ireturn, 1, 0, 0, 0, 0, 0), (88, .iinc 4 1, 3, 0, 0, 0, (1), 0), (91, .iinc 5 1, 3, 0, 0, 0, (1), 0), (94, .goto (-45), 3, 49, 0, 0, 0, 0), (97, .bipush (-2), 2, 0, 0, 0, (-2), 0), (99, .ireturn, 1, 0, 0, 0, 0, 0)]
def cm_X11_nth : am_M := fun pc => cd_X11_nth.lookup pc
def cd_X11_laysRank : List (Nat × am_E) := [(0, .aload_n 0, 1, 0, 0, 0, 0, 0), (1, .aload_n 0, 1, 0, 0, 0, 0, 0), (2, .getfield 28, 3, 8, 3, 0, 0, 0), (5, .iload_n 1, 1, 0, 0, 0, 0, 0), (6, .invokevirtual 268, 3, 198, 3, 9, 0, 0), (9, .aload_n 0, 1, 0, 0, 0, 0, 0), (10, .bipush 32, 2, 0, 0, 0, (32), 0), (12, .aload_n 0, 1, 0, 0, 0, 0, 0), (13, .invokevirtual 244, 3, 212, 1, 9, 0, 0), (16, .invokestatic 435, 3, 321, 1, 0, 0, 0), (19, .isub, 1, 0, 0, 0, 0, 0), (20, .putfield 438, 3, 8, 29, 0, 0, 0), (23, .aload_n 0, 1, 0, 0, 0, 0, 0), (24, .invokevirtual 182, 3, 202, 1, 9, 0, 0), (27, .istore_n 2, 1, 0, 0, 0, 0, 0), (28, .aload_n 0, 1, 0, 0, 0, 0, 0), (29, .iconst 0, 1, 0, 0, 0, (0), 0), (30, .putfield 441, 3, 8, 30, 0, 0, 0), (33, .iconst 0, 1, 0, 0, 0, (0), 0), (34, .istore_n 3, 1, 0, 0, 0, 0, 0), (35, .iload_n 3, 1, 0, 0, 0, 0, 0), (36, .aload_n 0, 1, 0, 0, 0, 0, 0), (37, .getfield 168, 3, 8, 13, 0, 0, 0), (40, .if_icmp .ge 36, 3, 76, 0, 0, 0, 0), (43, .aload_n 0, 1, 0, 0, 0, 0, 0), (44, .aload_n 0, 1, 0, 0, 0, 0, 0), (45, .getfield 438, 3, 8, 29, 0, 0, 0), (48, .aload_n 0, 1, 0, 0, 0, 0, 0), (49, .getfield 441, 3, 8, 30, 0, 0, 0), (52, .imul, 1, 0, 0, 0, 0, 0), (53, .aload_n 0, 1, 0, 0, 0, 0, 0), (54, .getfield 41, 3, 8, 12, 0, 0, 0), (57, .aload_n 0, 1, 0, 0, 0, 0, 0), (58, .getfield 168, 3, 8, 13, 0, 0, 0), (61, .iload_n 2, 1, 0, 0, 0, 0, 0), (62, .iload_n 3, 1, 0, 0, 0, 0, 0), (63, .invokestatic 175, 3, 199, 4, 0, 0, 0), (66, .iadd, 1, 0, 0, 0, 0, 0), (67, .putfield 441, 3, 8, 30, 0, 0, 0), (70, .iinc 3 1, 3, 0, 0, 0, (1), 0), (73, .goto (-38), 3, 35, 0, 0, 0, 0), (76, .return_, 1, 0, 0, 0, 0, 0)]
def cm_X11_laysRank : am_M := fun pc => cd_X11_laysRank.lookup pc
def cd_X11_rank : List (Nat × am_E) := [(0, .aload_n 0, 1, 0, 0, 0, 0, 0), (1, .iconst 0, 1, 0, 0, 0, (0), 0), (2, .putfield 3, 3, 8, 0, 0, 0, 0), (5, .aload_n 0, 1, 0, 0, 0, 0, 0), (6, .iload_n 1, 1, 0, 0, 0, 0, 0), (7, .invokevirtual 277, 3, 183, 2, 9, 0, 0), (10, .ifCond .ne 5, 3, 15, 0, 0, 0, 0), (13, .iconst (-1), 1, 0, 0, 0, (-1), 0), (14, .ireturn, 1, 0, 0, 0, 0, 0), (15, .aload_n 0, 1, 0, 0, 0, 0, 0), (16, .getfield 28, 3, 8, 3, 0, 0, 0), (19, .iload_n 1, 1, 0, 0, 0, 0, 0), (20, .iaload, 1, 0, 0, 0, 0, 0), (21, .bipush 7, 2, 0, 0, 0, (7), 0), (23, .if_icmp .le 6, 3, 29, 0, 0, 0, 0), (26, .bipush (-2), 2, 0, 0, 0, (-2), 0), (28, .ireturn, 1, 0, 0, 0, 0, 0), (29, .aload_n 0, 1, 0, 0, 0, 0, 0), (30, .iload_n 1, 1, 0, 0, 0, 0, 0), (31, .invokevirtual 444, 3, 283, 2, 9, 0, 0), (34, .iconst 0, 1, 0, 0, 0, (0), 0), (35, .istore_n 2, 1, 0, 0, 0, 0, 0), (36, .iconst 0, 1, 0, 0, 0, (0), 0), (37, .istore_n 3, 1, 0, 0, 0, 0, 0), (38, .iload_n 3, 1, 0, 0, 0, 0, 0), (39, .aload_n 0, 1, 0, 0, 0, 0, 0), (40, .getfield 441, 3, 8, 30, 0, 0, 0), (43, .if_icmp .ge 34, 3, 77, 0, 0, 0, 0), (46, .aload_n 0, 1, 0, 0, 0, 0, 0), (47, .aload_n 0, 1, 0, 0, 0, 0, 0), (48, .getfield 28, 3, 8, 3, 0, 0, 0), (51, .iload_n 1, 1, 0, 0, 0, 0, 0), (52, .iaload, 1, 0, 0, 0, 0, 0), (53, .aload_n 0, 1, 0, 0, 0, 0, 0), (54, .getfield 438, 3, 8, 29, 0, 0, 0), (57, .iload_n 3, 1, 0, 0, 0, 0, 0), (58, .invokevirtual 425, 3, 280, 4, 9, 0, 0), (61, .iload_n 2, 1, 0, 0, 0, 0, 0), (62, .aload_n 0, 1, 0, 0, 0, 0, 0), (63, .invokevirtual 429, 3, 203, 1, 9, 0, 0), (66, .invokestatic 133, 3, 178, 1, 0, 0, 0), (69, .iadd, 1, 0, 0, 0, 0, 0), (70, .istore_n 2, 1, 0, 0, 0, 0, 0), (71, .iinc 3 1, 3, 0, 0, 0, (1), 0), (74, .goto (-36), 3, 38, 0, 0, 0, 0), (77, .iload_n 2, 1, 0, 0, 0, 0, 0), (78, .ireturn, 1, 0, 0, 0, 0, 0)]
def cm_X11_rank : am_M := fun pc => cd_X11_rank.lookup pc
def cd_X11_next : List (Nat × am_E) := [(0, .aload_n 0, 1, 0, 0, 0, 0, 0), (1, .iconst 0, 1, 0, 0, 0, (0), 0), (2, .putfield 3, 3, 8, 0, 0, 0, 0), (5, .aload_n 0, 1, 0, 0, 0, 0, 0), (6, .iload_n 1, 1, 0, 0, 0, 0, 0), (7, .invokevirtual 277, 3, 183, 2, 9, 0, 0), (10, .ifCond .ne 5, 3, 15, 0, 0, 0, 0), (13, .iconst (-1), 1, 0, 0, 0, (-1), 0), (14, .ireturn, 1, 0, 0, 0, 0, 0), (15, .aload_n 0, 1, 0, 0, 0, 0, 0), (16, .getfield 28, 3, 8, 3, 0, 0, 0), (19, .iload_n 1, 1, 0, 0, 0, 0, 0), (20, .iaload, 1, 0, 0, 0, 0, 0), (21, .bipush 7, 2, 0, 0, 0, (7), 0), (23, .if_icmp .le 6, 3, 29, 0, 0, 0, 0), (26, .bipush (-3), 2, 0, 0, 0, (-3), 0), (28, .ireturn, 1, 0, 0, 0, 0, 0), (29, .aload_n 0, 1, 0, 0, 0, 0, 0), (30, .iload_n 1, 1, 0, 0, 0, 0, 0), (31, .invokevirtual 444, 3, 283, 2, 9, 0, 0), (34, .aload_n 0, 1, 0, 0, 0, 0, 0), (35, .getfield 441, 3, 8, 30, 0, 0, 0), (38, .iconst 1, 1, 0, 0, 0, (1), 0), (39, .iadd, 1, 0, 0, 0, 0, 0), (40, .istore_n 2, 1, 0, 0, 0, 0, 0), (41, .iload_n 2, 1, 0, 0, 0, 0, 0), (42, .i2l, 1, 0, 0, 0, 0, 0), (43, .aload_n 0, 1, 0, 0, 0, 0, 0), (44, .getfield 438, 3, 8, 29, 0, 0, 0), (47, .aload_n 0, 1, 0, 0, 0, 0, 0), (48, .getfield 28, 3, 8, 3, 0, 0, 0), (51, .iload_n 1, 1, 0, 0, 0, 0, 0), (52, .iaload, 1, 0, 0, 0, 0, 0), (53, .invokestatic 391, 3, 271, 2, 0, 0, 0), (56, .lcmp, 1, 0, 0, 0, 0, 0), (57, .ifCond .ge 37, 3, 94, 0, 0, 0, 0), (60, .aload_n 0, 1, 0, 0, 0, 0, 0), (61, .aload_n 0, 1, 0, 0, 0, 0, 0), (62, .getfield 28, 3, 8, 3, 0, 0, 0), (65, .iload_n 1, 1, 0, 0, 0, 0, 0), (66, .iaload, 1, 0, 0, 0, 0, 0), (67, .aload_n 0, 1, 0, 0, 0, 0, 0), (68, .getfield 438, 3, 8, 29, 0, 0, 0), (71, .iload_n 2, 1, 0, 0, 0, 0, 0), (72, .invokevirtual 425, 3, 280, 4, 9, 0, 0), (75, .aload_n 0, 1, 0, 0, 0, 0, 0), (76, .invokevirtual 429, 3, 203, 1, 9, 0, 0), (79, .ifCond .eq 9, 3, 88, 0, 0, 0, 0), (82, .aload_n 0, 1, 0, 0, 0, 0, 0), (83, .invokevirtual 432, 3, 281, 1, 9, 0, 0), (86, .iconst 0, 1, 0, 0, 0, (0), 0), (87, .ireturn, 1, 0, 0, 0, 0, 0), (88, .iinc 2 1, 3, 0, 0, 0, (1), 0), (91, .goto (-50), 3, 41, 0, 0, 0, 0), (94, .bipush (-2), 2, 0, 0, 0, (-2), 0), (96, .ireturn, 1, 0, 0, 0, 0, 0)]
def cm_X11_next : am_M := fun pc => cd_X11_next.lookup pc
def cd_X11_wordAt : List (Nat × am_E) := [(0, .iconst 0, 1, 0, 0, 0, (0), 0), (1, .istore 5, 2, 0, 0, 0, 0, 0), (3, .iconst 0, 1, 0, 0, 0, (0), 0), (4, .istore 6, 2, 0, 0, 0, 0, 0), (6, .iload 6, 2, 0, 0, 0, 0, 0), (8, .iload_n 3, 1, 0, 0, 0, 0, 0), (9, .if_icmp .ge 28, 3, 37, 0, 0, 0, 0), (12, .iload_n 2, 1, 0, 0, 0, 0, 0), (13, .iload 5, 2, 0, 0, 0, 0, 0), (15, .imul, 1, 0, 0, 0, 0, 0), (16, .aload_n 0, 1, 0, 0, 0, 0, 0), (17, .getfield 77, 3, 8, 31, 0, 0, 0), (20, .iload_n 1, 1, 0, 0, 0, 0, 0), (21, .iload 6, 2, 0, 0, 0, 0, 0), (23, .iadd, 1, 0, 0, 0, 0, 0), (24, .iload 4, 2, 0, 0, 0, 0, 0), (26, .irem, 1, 0, 0, 0, 0, 0), (27, .iaload, 1, 0, 0, 0, 0, 0), (28, .iadd, 1, 0, 0, 0, 0, 0), (29, .istore 5, 2, 0, 0, 0, 0, 0), (31, .iinc 6 1, 3, 0, 0, 0, (1), 0), (34, .goto (-28), 3, 6, 0, 0, 0, 0), (37, .iload 5, 2, 0, 0, 0, 0, 0), (39, .ireturn, 1, 0, 0, 0, 0, 0)]
def cm_X11_wordAt : am_M := fun pc => cd_X11_wordAt.lookup pc
def cd_X11_isOnce : List (Nat × am_E) := [(0, .iconst 0, 1, 0, 0, 0, (0), 0), (1, .istore 4, 2, 0, 0, 0, 0, 0), (3, .iload 4, 2, 0, 0, 0, 0, 0), (5, .iload_n 3, 1, 0, 0, 0, 0, 0), (6, .if_icmp .ge 17, 3, 23, 0, 0, 0, 0), (9, .aload_n 0, 1, 0, 0, 0, 0, 0), (10, .getfield 80, 3, 8, 32, 0, 0, 0), (13, .iload 4, 2, 0, 0, 0, 0, 0), (15, .iconst 0, 1, 0, 0, 0, (0), 0), (16, .bastore, 1, 0, 0, 0, 0, 0), (17, .iinc 4 1, 3, 0, 0, 0, (1), 0), (20, .goto (-17), 3, 3, 0, 0, 0, 0), (23, .iconst 1, 1, 0, 0, 0, (1), 0), (24, .istore 4, 2, 0, 0, 0, 0, 0), (26, .iconst 0, 1, 0, 0, 0, (0), 0), (27, .istore 5, 2, 0, 0, 0, 0, 0), (29, .iload 5, 2, 0, 0, 0, 0, 0), (31, .iload_n 3, 1, 0, 0, 0, 0, 0), (32, .if_icmp .ge 50, 3, 82, 0, 0, 0, 0), (35, .aload_n 0, 1, 0, 0, 0, 0, 0), (36, .iload 5, 2, 0, 0, 0, 0, 0), (38, .iload_n 1, 1, 0, 0, 0, 0, 0), (39, .iload_n 2, 1, 0, 0, 0, 0, 0), (40, .iload_n 3, 1, 0, 0, 0, 0, 0), (41, .invokevirtual 447, 3, 286, 5, 9, 0, 0), (44, .istore 6, 2, 0, 0, 0, 0, 0), (46, .iload 4, 2, 0, 0, 0, 0, 0), (48, .ifCond .eq 17, 3, 65, 0, 0, 0, 0), (51, .aload_n 0, 1, 0, 0, 0, 0, 0), (52, .getfield 80, 3, 8, 32, 0, 0, 0), (55, .iload 6, 2, 0, 0, 0, 0, 0), (57, .baload, 1, 0, 0, 0, 0, 0), (58, .ifCond .ne 7, 3, 65, 0, 0, 0, 0), (61, .iconst 1, 1, 0, 0, 0, (1), 0), (62, .goto 4, 3, 66, 0, 0, 0, 0), (65, .iconst 0, 1, 0, 0, 0, (0), 0), (66, .istore 4, 2, 0, 0, 0, 0, 0), (68, .aload_n 0, 1, 0, 0, 0, 0, 0), (69, .getfield 80, 3, 8, 32, 0, 0, 0), (72, .iload 6, 2, 0, 0, 0, 0, 0), (74, .iconst 1, 1, 0, 0, 0, (1), 0), (75, .bastore, 1, 0, 0, 0, 0, 0), (76, .iinc 5 1, 3, 0, 0, 0, (1), 0), (79, .goto (-50), 3, 29, 0, 0, 0, 0), (82, .iload 4, 2, 0, 0, 0, 0, 0), (84, .ireturn, 1, 0, 0, 2, 0, 0)]
def cm_X11_isOnce : am_M := fun pc => cd_X11_isOnce.lookup pc
def cd_X11_wasThere : List (Nat × am_E) := [(0, .iconst 0, 1, 0, 0, 0, (0), 0), (1, .istore 5, 2, 0, 0, 0, 0, 0), (3, .iconst 0, 1, 0, 0, 0, (0), 0), (4, .istore 6, 2, 0, 0, 0, 0, 0), (6, .iload 6, 2, 0, 0, 0, 0, 0), (8, .iload_n 3, 1, 0, 0, 0, 0, 0), (9, .iadd, 1, 0, 0, 0, 0, 0), (10, .iload_n 1, 1, 0, 0, 0, 0, 0), (11, .if_icmp .ge 45, 3, 56, 0, 0, 0, 0), (14, .iload 5, 2, 0, 0, 0, 0, 0), (16, .ifCond .ne 27, 3, 43, 0, 0, 0, 0), (19, .aload_n 0, 1, 0, 0, 0, 0, 0), (20, .iload 6, 2, 0, 0, 0, 0, 0), (22, .iload_n 2, 1, 0, 0, 0, 0, 0), (23, .iload_n 3, 1, 0, 0, 0, 0, 0), (24, .iload 4, 2, 0, 0, 0, 0, 0), (26, .invokevirtual 447, 3, 286, 5, 9, 0, 0), (29, .aload_n 0, 1, 0, 0, 0, 0, 0), (30, .iload_n 1, 1, 0, 0, 0, 0, 0), (31, .iload_n 3, 1, 0, 0, 0, 0, 0), (32, .isub, 1, 0, 0, 0, 0, 0), (33, .iload_n 2, 1, 0, 0, 0, 0, 0), (34, .iload_n 3, 1, 0, 0, 0, 0, 0), (35, .iload 4, 2, 0, 0, 0, 0, 0), (37, .invokevirtual 447, 3, 286, 5, 9, 0, 0), (40, .if_icmp .ne 7, 3, 47, 0, 0, 0, 0), (43, .iconst 1, 1, 0, 0, 0, (1), 0), (44, .goto 4, 3, 48, 0, 0, 0, 0), (47, .iconst 0, 1, 0, 0, 0, (0), 0), (48, .istore 5, 2, 0, 0, 0, 0, 0), (50, .iinc 6 1, 3, 0, 0, 0, (1), 0), (53, .goto (-47), 3, 6, 0, 0, 0, 0), (56, .iload 5, 2, 0, 0, 0, 0, 0), (58, .ireturn, 1, 0, 0, 2, 0, 0)]
def cm_X11_wasThere : am_M := fun pc => cd_X11_wasThere.lookup pc
def cd_X11_laysAround : List (Nat × am_E) := [(0, .iload_n 1, 1, 0, 0, 0, 0, 0), (1, .iload_n 3, 1, 0, 0, 0, 0, 0), (2, .if_icmp .lt 17, 3, 19, 0, 0, 0, 0), (5, .aload_n 0, 1, 0, 0, 0, 0, 0), (6, .iload_n 1, 1, 0, 0, 0, 0, 0), (7, .iload_n 2, 1, 0, 0, 0, 0, 0), (8, .iload_n 3, 1, 0, 0, 0, 0, 0), (9, .iload 4, 2, 0, 0, 0, 0, 0), (11, .invokevirtual 451, 3, 288, 5, 9, 0, 0), (14, .ifCond .eq 5, 3, 19, 0, 0, 0, 0), (17, .iconst 0, 1, 0, 0, 0, (0), 0), (18, .ireturn, 1, 0, 0, 2, 0, 0), (19, .iload_n 1, 1, 0, 0, 0, 0, 0), (20, .iload 4, 2, 0, 0, 0, 0, 0), (22, .if_icmp .ne 12, 3, 34, 0, 0, 0, 0), (25, .aload_n 0, 1, 0, 0, 0, 0, 0), (26, .iload_n 2, 1, 0, 0, 0, 0, 0), (27, .iload_n 3, 1, 0, 0, 0, 0, 0), (28, .iload 4, 2, 0, 0, 0, 0, 0), (30, .invokevirtual 455, 3, 287, 4, 9, 0, 0), (33, .ireturn, 1, 0, 0, 2, 0, 0), (34, .iconst 0, 1, 0, 0, 0, (0), 0), (35, .istore 5, 2, 0, 0, 0, 0, 0), (37, .iload 5, 2, 0, 0, 0, 0, 0), (39, .iload_n 2, 1, 0, 0, 0, 0, 0), (40, .if_icmp .ge 33, 3, 73, 0, 0, 0, 0), (43, .aload_n 0, 1, 0, 0, 0, 0, 0), (44, .getfield 77, 3, 8, 31, 0, 0, 0), (47, .iload_n 1, 1, 0, 0, 0, 0, 0), (48, .iload 5, 2, 0, 0, 0, 0, 0), (50, .iastore, 1, 0, 0, 0, 0, 0), (51, .aload_n 0, 1, 0, 0, 0, 0, 0), (52, .iload_n 1, 1, 0, 0, 0, 0, 0), (53, .iconst 1, 1, 0, 0, 0, (1), 0), (54, .iadd, 1, 0, 0, 0, 0, 0), (55, .iload_n 2, 1, 0, 0, 0, 0, 0), (56, .iload_n 3, 1, 0, 0, 0, 0, 0), (57, .iload 4, 2, 0, 0, 0, 0, 0), (59, .invokevirtual 458, 3, 289, 5, 9, 0, 0), (62, .ifCond .eq 5, 3, 67, 0, 0, 0, 0), (65, .iconst 1, 1, 0, 0, 0, (1), 0), (66, .ireturn, 1, 0, 0, 2, 0, 0), (67, .iinc 5 1, 3, 0, 0, 0, (1), 0), (70, .goto (-33), 3, 37, 0, 0, 0, 0), (73, .iconst 0, 1, 0, 0, 0, (0), 0), (74, .ireturn, 1, 0, 0, 2, 0, 0)]
def cm_X11_laysAround : am_M := fun pc => cd_X11_laysAround.lookup pc
def cd_X11_once : List (Nat × am_E) := [(0, .aload_n 0, 1, 0, 0, 0, 0, 0), (1, .iconst 0, 1, 0, 0, 0, (0), 0), (2, .putfield 3, 3, 8, 0, 0, 0, 0), (5, .iload_n 1, 1, 0, 0, 0, 0, 0), (6, .i2l, 1, 0, 0, 0, 0, 0), (7, .lconst 1, 1, 0, 0, 0, 0, (1)), (8, .ldc2_w 397, 3, 0, 0, 0, 0, (4)), (11, .invokestatic 111, 3, 176, 3, 0, 0, 0), (14, .ifCond .eq 27, 3, 41, 0, 0, 0, 0), (17, .iload_n 2, 1, 0, 0, 0, 0, 0), (18, .i2l, 1, 0, 0, 0, 0, 0), (19, .lconst 1, 1, 0, 0, 0, 0, (1)), (20, .ldc2_w 397, 3, 0, 0, 0, 0, (4)), (23, .invokestatic 111, 3, 176, 3, 0, 0, 0), (26, .ifCond .eq 15, 3, 41, 0, 0, 0, 0), (29, .iload_n 1, 1, 0, 0, 0, 0, 0), (30, .iload_n 2, 1, 0, 0, 0, 0, 0), (31, .invokestatic 391, 3, 271, 2, 0, 0, 0), (34, .ldc2_w 461, 3, 0, 0, 0, 0, (16)), (37, .lcmp, 1, 0, 0, 0, 0, 0), (38, .ifCond .le 5, 3, 43, 0, 0, 0, 0), (41, .iconst (-1), 1, 0, 0, 0, (-1), 0), (42, .ireturn, 1, 0, 0, 0, 0, 0), (43, .iload_n 1, 1, 0, 0, 0, 0, 0), (44, .iload_n 2, 1, 0, 0, 0, 0, 0), (45, .invokestatic 391, 3, 271, 2, 0, 0, 0), (48, .l2i, 1, 0, 0, 0, 0, 0), (49, .istore_n 3, 1, 0, 0, 0, 0, 0), (50, .aload_n 0, 1, 0, 0, 0, 0, 0), (51, .iconst 0, 1, 0, 0, 0, (0), 0), (52, .iload_n 1, 1, 0, 0, 0, 0, 0), (53, .iload_n 2, 1, 0, 0, 0, 0, 0), (54, .iload_n 3, 1, 0, 0, 0, 0, 0), (55, .invokevirtual 458, 3, 289, 5, 9, 0, 0), (58, .pop, 1, 0, 0, 0, 0, 0), (59, .aload_n 0, 1, 0, 0, 0, 0, 0), (60, .iconst 0, 1, 0, 0, 0, (0), 0), (61, .putfield 15, 3, 8, 1, 0, 0, 0), (64, .iconst 0, 1, 0, 0, 0, (0), 0), (65, .istore 4, 2, 0, 0, 0, 0, 0), (67, .iload 4, 2, 0, 0, 0, 0, 0), (69, .iload_n 3, 1, 0, 0, 0, 0, 0), (70, .if_icmp .ge 21, 3, 91, 0, 0, 0, 0), (73, .aload_n 0, 1, 0, 0, 0, 0, 0), (74, .aload_n 0, 1, 0, 0, 0, 0, 0), (75, .getfield 77, 3, 8, 31, 0, 0, 0), (78, .iload 4, 2, 0, 0, 0, 0, 0), (80, .iaload, 1, 0, 0, 0, 0, 0), (81, .i2l, 1, 0, 0, 0, 0, 0), (82, .invokevirtual 18, 3, 180, 2, 9, 0, 0), (85, .iinc 4 1, 3, 0, 0, 0, (1), 0), (88, .goto (-21), 3, 67, 0, 0, 0, 0), (91, .iload_n 3, 1, 0, 0, 0, 0, 0), (92, .ireturn, 1, 0, 0, 0, 0, 0)]
def cm_X11_once : am_M := fun pc => cd_X11_once.lookup pc
def cd_X11_isInStock : List (Nat × am_E) := [(0, .iconst 1, 1, 0, 0, 0, (1), 0), (1, .istore_n 1, 1, 0, 0, 0, 0, 0), (2, .iconst 0, 1, 0, 0, 0, (0), 0), (3, .istore_n 2, 1, 0, 0, 0, 0, 0), (4, .iload_n 2, 1, 0, 0, 0, 0, 0), (5, .iconst 4, 1, 0, 0, 0, (4), 0), (6, .if_icmp .ge 36, 3, 42, 0, 0, 0, 0), (9, .iload_n 1, 1, 0, 0, 0, 0, 0), (10, .ifCond .eq 24, 3, 34, 0, 0, 0, 0), (13, .aload_n 0, 1, 0, 0, 0, 0, 0), (14, .iload_n 2, 1, 0, 0, 0, 0, 0), (15, .invokevirtual 192, 3, 205, 2, 9, 0, 0), (18, .aload_n 0, 1, 0, 0, 0, 0, 0), (19, .getfield 28, 3, 8, 3, 0, 0, 0), (22, .bipush 55, 2, 0, 0, 0, (55), 0), (24, .iload_n 2, 1, 0, 0, 0, 0, 0), (25, .iadd, 1, 0, 0, 0, 0, 0), (26, .iaload, 1, 0, 0, 0, 0, 0), (27, .if_icmp .gt 7, 3, 34, 0, 0, 0, 0), (30, .iconst 1, 1, 0, 0, 0, (1), 0), (31, .goto 4, 3, 35, 0, 0, 0, 0), (34, .iconst 0, 1, 0, 0, 0, (0), 0), (35, .istore_n 1, 1, 0, 0, 0, 0, 0), (36, .iinc 2 1, 3, 0, 0, 0, (1), 0), (39, .goto (-35), 3, 4, 0, 0, 0, 0), (42, .iload_n 1, 1, 0, 0, 0, 0, 0), (43, .ireturn, 1, 0, 0, 2, 0, 0)]
def cm_X11_isInStock : am_M := fun pc => cd_X11_isInStock.lookup pc
def cd_X11_made : List (Nat × am_E) := [(0, .aload_n 0, 1, 0, 0, 0, 0, 0), (1, .iconst 0, 1, 0, 0, 0, (0), 0), (2, .putfield 3, 3, 8, 0, 0, 0, 0), (5, .iload_n 1, 1, 0, 0, 0, 0, 0), (6, .i2l, 1, 0, 0, 0, 0, 0), (7, .lconst 1, 1, 0, 0, 0, 0, (1)), (8, .ldc2_w 421, 3, 0, 0, 0, 0, (7)), (11, .invokestatic 111, 3, 176, 3, 0, 0, 0), (14, .ifCond .ne 5, 3, 19, 0, 0, 0, 0), (17, .iconst (-1), 1, 0, 0, 0, (-1), 0), (18, .ireturn, 1, 0, 0, 0, 0, 0), (19, .iconst 0, 1, 0, 0, 0, (0), 0), (20, .istore_n 2, 1, 0, 0, 0, 0, 0), (21, .aload_n 0, 1, 0, 0, 0, 0, 0), (22, .iconst 0, 1, 0, 0, 0, (0), 0), (23, .putfield 15, 3, 8, 1, 0, 0, 0), (26, .iconst 0, 1, 0, 0, 0, (0), 0), (27, .istore_n 3, 1, 0, 0, 0, 0, 0), (28, .iload_n 3, 1, 0, 0, 0, 0, 0), (29, .i2l, 1, 0, 0, 0, 0, 0), (30, .iconst 4, 1, 0, 0, 0, (4), 0), (31, .iload_n 1, 1, 0, 0, 0, 0, 0), (32, .invokestatic 391, 3, 271, 2, 0, 0, 0), (35, .lcmp, 1, 0, 0, 0, 0, 0), (36, .ifCond .ge 58, 3, 94, 0, 0, 0, 0), (39, .aload_n 0, 1, 0, 0, 0, 0, 0), (40, .iload_n 1, 1, 0, 0, 0, 0, 0), (41, .iconst 4, 1, 0, 0, 0, (4), 0), (42, .iload_n 3, 1, 0, 0, 0, 0, 0), (43, .invokevirtual 425, 3, 280, 4, 9, 0, 0), (46, .aload_n 0, 1, 0, 0, 0, 0, 0), (47, .invokevirtual 463, 3, 291, 1, 9, 0, 0), (50, .ifCond .eq 14, 3, 64, 0, 0, 0, 0), (53, .aload_n 0, 1, 0, 0, 0, 0, 0), (54, .invokevirtual 429, 3, 203, 1, 9, 0, 0), (57, .ifCond .eq 7, 3, 64, 0, 0, 0, 0), (60, .iconst 1, 1, 0, 0, 0, (1), 0), (61, .goto 4, 3, 65, 0, 0, 0, 0), (64, .iconst 0, 1, 0, 0, 0, (0), 0), (65, .istore 4, 2, 0, 0, 0, 0, 0), (67, .iload 4, 2, 0, 0, 0, 0, 0), (69, .ifCond .eq 11, 3, 80, 0, 0, 0, 0), (72, .iload_n 2, 1, 0, 0, 0, 0, 0), (73, .ifCond .ne 7, 3, 80, 0, 0, 0, 0), (76, .aload_n 0, 1, 0, 0, 0, 0, 0), (77, .invokevirtual 432, 3, 281, 1, 9, 0, 0), (80, .iload_n 2, 1, 0, 0, 0, 0, 0), (81, .iload 4, 2, 0, 0, 0, 0, 0), (83, .invokestatic 133, 3, 178, 1, 0, 0, 0), (86, .iadd, 1, 0, 0, 0, 0, 0), (87, .istore_n 2, 1, 0, 0, 0, 0, 0), (88, .iinc 3 1, 3, 0, 0, 0, (1), 0), (91, .goto (-63), 3, 28, 0, 0, 0, 0), (94, .iload_n 2, 1, 0, 0, 0, 0, 0), (95, .ireturn, 1, 0, 0, 0, 0, 0)]
def cm_X11_made : am_M := fun pc => cd_X11_made.lookup pc
def cd_X11_dear : List (Nat × am_E) := [(0, .aload_n 0, 1, 0, 0, 0, 0, 0), (1, .iconst 0, 1, 0, 0, 0, (0), 0), (2, .putfield 3, 3, 8, 0, 0, 0, 0), (5, .iload_n 1, 1, 0, 0, 0, 0, 0), (6, .i2l, 1, 0, 0, 0, 0, 0), (7, .lconst 1, 1, 0, 0, 0, 0, (1)), (8, .ldc2_w 466, 3, 0, 0, 0, 0, (6)), (11, .invokestatic 111, 3, 176, 3, 0, 0, 0), (14, .ifCond .ne 5, 3, 19, 0, 0, 0, 0), (17, .iconst (-1), 1, 0, 0, 0, (-1), 0), (18, .ireturn, 1, 0, 0, 0, 0, 0), (19, .bipush (-2), 2, 0, 0, 0, (-2), 0), (21, .istore_n 2, 1, 0, 0, 0, 0, 0), (22, .iconst 0, 1, 0, 0, 0, (0), 0), (23, .istore_n 3, 1, 0, 0, 0, 0, 0), (24, .iload_n 3, 1, 0, 0, 0, 0, 0), (25, .i2l, 1, 0, 0, 0, 0, 0), (26, .iconst 4, 1, 0, 0, 0, (4), 0), (27, .iload_n 1, 1, 0, 0, 0, 0, 0), (28, .invokestatic 391, 3, 271, 2, 0, 0, 0), (31, .lcmp, 1, 0, 0, 0, 0, 0), (32, .ifCond .ge 54, 3, 86, 0, 0, 0, 0), (35, .aload_n 0, 1, 0, 0, 0, 0, 0), (36, .iload_n 1, 1, 0, 0, 0, 0, 0), (37, .iconst 4, 1, 0, 0, 0, (4), 0), (38, .iload_n 3, 1, 0, 0, 0, 0, 0), (39, .invokevirtual 425, 3, 280, 4, 9, 0, 0), (42, .aload_n 0, 1, 0, 0, 0, 0, 0), (43, .invokevirtual 463, 3, 291, 1, 9, 0, 0), (46, .ifCond .eq 34, 3, 80, 0, 0, 0, 0), (49, .aload_n 0, 1, 0, 0, 0, 0, 0), (50, .invokevirtual 429, 3, 203, 1, 9, 0, 0), (53, .ifCond .eq 27, 3, 80, 0, 0, 0, 0), (56, .aload_n 0, 1, 0, 0, 0, 0, 0), (57, .aload_n 0, 1, 0, 0, 0, 0, 0), (58, .getfield 28, 3, 8, 3, 0, 0, 0), (61, .iconst (-1), 1, 0, 0, 0, (-1), 0), (62, .invokevirtual 271, 3, 221, 3, 9, 0, 0), (65, .istore 4, 2, 0, 0, 0, 0, 0), (67, .iload 4, 2, 0, 0, 0, 0, 0), (69, .iload_n 2, 1, 0, 0, 0, 0, 0), (70, .if_icmp .le 10, 3, 80, 0, 0, 0, 0), (73, .iload 4, 2, 0, 0, 0, 0, 0), (75, .istore_n 2, 1, 0, 0, 0, 0, 0), (76, .aload_n 0, 1, 0, 0, 0, 0, 0), (77, .invokevirtual 432, 3, 281, 1, 9, 0, 0), (80, .iinc 3 1, 3, 0, 0, 0, (1), 0), (83, .goto (-59), 3, 24, 0, 0, 0, 0), (86, .iload_n 2, 1, 0, 0, 0, 0, 0), (87, .ireturn, 1, 0, 0, 0, 0, 0)]
def cm_X11_dear : am_M := fun pc => cd_X11_dear.lookup pc
def cd_X11_odds : List (Nat × am_E) := [(0, .aload_n 0, 1, 0, 0, 0, 0, 0), (1, .iconst 0, 1, 0, 0, 0, (0), 0), (2, .putfield 3, 3, 8, 0, 0, 0, 0), (5, .aload_n 0, 1, 0, 0, 0, 0, 0), (6, .iload_n 1, 1, 0, 0, 0, 0, 0), (7, .invokevirtual 277, 3, 183, 2, 9, 0, 0), (10, .ifCond .ne 5, 3, 15, 0, 0, 0, 0), (13, .iconst (-1), 1, 0, 0, 0, (-1), 0), (14, .ireturn, 1, 0, 0, 0, 0, 0), (15, .aload_n 0, 1, 0, 0, 0, 0, 0), (16, .aload_n 0, 1, 0, 0, 0, 0, 0), (17, .getfield 28, 3, 8, 3, 0, 0, 0), (20, .iload_n 1, 1, 0, 0, 0, 0, 0), (21, .invokevirtual 268, 3, 198, 3, 9, 0, 0), (24, .iconst 0, 1, 0, 0, 0, (0), 0), (25, .istore_n 2, 1, 0, 0, 0, 0, 0), (26, .iconst 0, 1, 0, 0, 0, (0), 0), (27, .istore_n 3, 1, 0, 0, 0, 0, 0), (28, .iload_n 3, 1, 0, 0, 0, 0, 0), (29, .iconst 2, 1, 0, 0, 0, (2), 0), (30, .aload_n 0, 1, 0, 0, 0, 0, 0), (31, .getfield 168, 3, 8, 13, 0, 0, 0), (34, .imul, 1, 0, 0, 0, 0, 0), (35, .if_icmp .ge 29, 3, 64, 0, 0, 0, 0), (38, .iload_n 2, 1, 0, 0, 0, 0, 0), (39, .aload_n 0, 1, 0, 0, 0, 0, 0), (40, .iload_n 3, 1, 0, 0, 0, 0, 0), (41, .iconst 0, 1, 0, 0, 0, (0), 0), (42, .invokevirtual 179, 3, 201, 3, 9, 0, 0), (45, .ifCond .ne 7, 3, 52, 0, 0, 0, 0), (48, .iconst 1, 1, 0, 0, 0, (1), 0), (49, .goto 4, 3, 53, 0, 0, 0, 0), (52, .iconst 0, 1, 0, 0, 0, (0), 0), (53, .invokestatic 133, 3, 178, 1, 0, 0, 0), (56, .iadd, 1, 0, 0, 0, 0, 0), (57, .istore_n 2, 1, 0, 0, 0, 0, 0), (58, .iinc 3 1, 3, 0, 0, 0, (1), 0), (61, .goto (-33), 3, 28, 0, 0, 0, 0), (64, .iconst 0, 1, 0, 0, 0, (0), 0), (65, .istore_n 3, 1, 0, 0, 0, 0, 0), (66, .iload_n 3, 1, 0, 0, 0, 0, 0), (67, .iconst 4, 1, 0, 0, 0, (4), 0), (68, .if_icmp .ge 20, 3, 88, 0, 0, 0, 0), (71, .aload_n 0, 1, 0, 0, 0, 0, 0), (72, .getfield 74, 3, 8, 28, 0, 0, 0), (75, .iload_n 3, 1, 0, 0, 0, 0, 0), (76, .aload_n 0, 1, 0, 0, 0, 0, 0), (77, .iload_n 3, 1, 0, 0, 0, 0, 0), (78, .invokevirtual 192, 3, 205, 2, 9, 0, 0), (81, .iastore, 1, 0, 0, 0, 0, 0), (82, .iinc 3 1, 3, 0, 0, 0, (1), 0), (85, .goto (-19), 3, 66, 0, 0, 0, 0), (88, .aload_n 0, 1, 0, 0, 0, 0, 0), (89, .iconst 2, 1, 0, 0, 0, (2), 0), (90, .aload_n 0, 1, 0, 0, 0, 0, 0), (91, .getfield 168, 3, 8, 13, 0, 0, 0), (94, .imul, 1, 0, 0, 0, 0, 0), (95, .iload_n 2, 1, 0, 0, 0, 0, 0), (96, .idiv, 1, 0, 0, 0, 0, 0), (97, .i2l, 1, 0, 0, 0, 0, 0), (98, .aload_n 0, 1, 0, 0, 0, 0, 0), (99, .iconst 1, 1, 0, 0, 0, (1), 0), (100, .iconst (-1), 1, 0, 0, 0, (-1), 0), (101, .iconst (-1), 1, 0, 0, 0, (-1), 0), (102, .invokevirtual 408, 3, 275, 4, 9, 0, 0), (105, .invokevirtual 468, 3, 181, 3, 9, 0, 0), (108, .ireturn, 1, 0, 0, 0, 0, 0)]
def cm_X11_odds : am_M := fun pc => cd_X11_odds.lookup pc
def cd_X11_felt : List (Nat × am_E) := [(0, .aload_n 0, 1, 0, 0, 0, 0, 0), (1, .iconst 0, 1, 0, 0, 0, (0), 0), (2, .putfield 3, 3, 8, 0, 0, 0, 0), (5, .iload_n 1, 1, 0, 0, 0, 0, 0), (6, .i2l, 1, 0, 0, 0, 0, 0), (7, .lconst 0, 1, 0, 0, 0, 0, (0)), (8, .ldc2_w 316, 3, 0, 0, 0, 0, (9)), (11, .invokestatic 111, 3, 176, 3, 0, 0, 0), (14, .ifCond .eq 24, 3, 38, 0, 0, 0, 0), (17, .iload_n 2, 1, 0, 0, 0, 0, 0), (18, .i2l, 1, 0, 0, 0, 0, 0), (19, .lconst 0, 1, 0, 0, 0, 0, (0)), (20, .ldc2_w 285, 3, 0, 0, 0, 0, (3)), (23, .invokestatic 111, 3, 176, 3, 0, 0, 0), (26, .ifCond .eq 12, 3, 38, 0, 0, 0, 0), (29, .aload_n 0, 1, 0, 0, 0, 0, 0), (30, .getfield 472, 3, 8, 33, 0, 0, 0), (33, .bipush 10, 2, 0, 0, 0, (10), 0), (35, .if_icmp .ne 5, 3, 40, 0, 0, 0, 0), (38, .iconst (-1), 1, 0, 0, 0, (-1), 0), (39, .ireturn, 1, 0, 0, 0, 0, 0), (40, .aload_n 0, 1, 0, 0, 0, 0, 0), (41, .getfield 84, 3, 8, 34, 0, 0, 0), (44, .aload_n 0, 1, 0, 0, 0, 0, 0), (45, .getfield 472, 3, 8, 33, 0, 0, 0), (48, .iload_n 1, 1, 0, 0, 0, 0, 0), (49, .iastore, 1, 0, 0, 0, 0, 0), (50, .aload_n 0, 1, 0, 0, 0, 0, 0), (51, .getfield 87, 3, 8, 35, 0, 0, 0), (54, .aload_n 0, 1, 0, 0, 0, 0, 0), (55, .getfield 472, 3, 8, 33, 0, 0, 0), (58, .iload_n 2, 1, 0, 0, 0, 0, 0), (59, .iastore, 1, 0, 0, 0, 0, 0), (60, .aload_n 0, 1, 0, 0, 0, 0, 0), (61, .dup, 1, 0, 0, 0, 0, 0), (62, .getfield 472, 3, 8, 33, 0, 0, 0), (65, .iconst 1, 1, 0, 0, 0, (1), 0), (66, .iadd, 1, 0, 0, 0, 0, 0), (67, .putfield 472, 3, 8, 33, 0, 0, 0), (70, .aload_n 0, 1, 0, 0, 0, 0, 0), (71, .getfield 472, 3, 8, 33, 0, 0, 0), (74, .ireturn, 1, 0, 0, 0, 0, 0)]
def cm_X11_felt : am_M := fun pc => cd_X11_felt.lookup pc
def cd_X11_forget : List (Nat × am_E) := [(0, .aload_n 0, 1, 0, 0, 0, 0, 0), (1, .iconst 0, 1, 0, 0, 0, (0), 0), (2, .putfield 3, 3, 8, 0, 0, 0, 0), (5, .aload_n 0, 1, 0, 0, 0, 0, 0), (6, .getfield 472, 3, 8, 33, 0, 0, 0), (9, .istore_n 1, 1, 0, 0, 0, 0, 0), (10, .aload_n 0, 1, 0, 0, 0, 0, 0), (11, .iconst 0, 1, 0, 0, 0, (0), 0), (12, .putfield 472, 3, 8, 33, 0, 0, 0), (15, .iload_n 1, 1, 0, 0, 0, 0, 0), (16, .ireturn, 1, 0, 0, 0, 0, 0)]
def cm_X11_forget : am_M := fun pc => cd_X11_forget.lookup pc
def cd_X11_clasps : List (Nat × am_E) := [(0, .iconst 0, 1, 0, 0, 0, (0), 0), (1, .istore_n 1, 1, 0, 0, 0, 0, 0), (2, .iconst 0, 1, 0, 0, 0, (0), 0), (3, .istore_n 2, 1, 0, 0, 0, 0, 0), (4, .iload_n 2, 1, 0, 0, 0, 0, 0), (5, .aload_n 0, 1, 0, 0, 0, 0, 0), (6, .getfield 168, 3, 8, 13, 0, 0, 0), (9, .if_icmp .ge 82, 3, 91, 0, 0, 0, 0), (12, .iconst 1, 1, 0, 0, 0, (1), 0), (13, .istore_n 3, 1, 0, 0, 0, 0, 0), (14, .iconst 0, 1, 0, 0, 0, (0), 0), (15, .istore 4, 2, 0, 0, 0, 0, 0), (17, .iload 4, 2, 0, 0, 0, 0, 0), (19, .aload_n 0, 1, 0, 0, 0, 0, 0), (20, .getfield 472, 3, 8, 33, 0, 0, 0), (23, .if_icmp .ge 48, 3, 71, 0, 0, 0, 0), (26, .iload_n 3, 1, 0, 0, 0, 0, 0), (27, .ifCond .eq 36, 3, 63, 0, 0, 0, 0), (30, .aload_n 0, 1, 0, 0, 0, 0, 0), (31, .getfield 41, 3, 8, 12, 0, 0, 0), (34, .iload_n 2, 1, 0, 0, 0, 0, 0), (35, .aload_n 0, 1, 0, 0, 0, 0, 0), (36, .getfield 84, 3, 8, 34, 0, 0, 0), (39, .iload 4, 2, 0, 0, 0, 0, 0), (41, .iaload, 1, 0, 0, 0, 0, 0), (42, .iadd, 1, 0, 0, 0, 0, 0), (43, .aload_n 0, 1, 0, 0, 0, 0, 0), (44, .getfield 168, 3, 8, 13, 0, 0, 0), (47, .irem, 1, 0, 0, 0, 0, 0), (48, .iaload, 1, 0, 0, 0, 0, 0), (49, .aload_n 0, 1, 0, 0, 0, 0, 0), (50, .getfield 87, 3, 8, 35, 0, 0, 0), (53, .iload 4, 2, 0, 0, 0, 0, 0), (55, .iaload, 1, 0, 0, 0, 0, 0), (56, .if_icmp .ne 7, 3, 63, 0, 0, 0, 0), (59, .iconst 1, 1, 0, 0, 0, (1), 0), (60, .goto 4, 3, 64, 0, 0, 0, 0), (63, .iconst 0, 1, 0, 0, 0, (0), 0), (64, .istore_n 3, 1, 0, 0, 0, 0, 0), (65, .iinc 4 1, 3, 0, 0, 0, (1), 0), (68, .goto (-51), 3, 17, 0, 0, 0, 0), (71, .iload_n 1, 1, 0, 0, 0, 0, 0), (72, .iload_n 3, 1, 0, 0, 0, 0, 0), (73, .ifCond .eq 9, 3, 82, 0, 0, 0, 0), (76, .iconst 1, 1, 0, 0, 0, (1), 0), (77, .iload_n 2, 1, 0, 0, 0, 0, 0), (78, .ishl, 1, 0, 0, 0, 0, 0), (79, .goto 4, 3, 83, 0, 0, 0, 0), (82, .iconst 0, 1, 0, 0, 0, (0), 0), (83, .ior, 1, 0, 0, 0, 0, 0), (84, .istore_n 1, 1, 0, 0, 0, 0, 0), (85, .iinc 2 1, 3, 0, 0, 0, (1), 0), (88, .goto (-84), 3, 4, 0, 0, 0, 0), (91, .iload_n 1, 1, 0, 0, 0, 0, 0), (92, .ireturn, 1, 0, 0, 0, 0, 0)]
def cm_X11_clasps : am_M := fun pc => cd_X11_clasps.lookup pc
def cd_X11_guess : List (Nat × am_E) := [(0, .aload_n 0, 1, 0, 0, 0, 0, 0), (1, .iconst 0, 1, 0, 0, 0, (0), 0), (2, .putfield 3, 3, 8, 0, 0, 0, 0), (5, .aload_n 0, 1, 0, 0, 0, 0, 0), (6, .iload_n 1, 1, 0, 0, 0, 0, 0), (7, .invokevirtual 277, 3, 183, 2, 9, 0, 0), (10, .ifCond .ne 5, 3, 15, 0, 0, 0, 0), (13, .iconst (-1), 1, 0, 0, 0, (-1), 0), (14, .ireturn, 1, 0, 0, 0, 0, 0), (15, .aload_n 0, 1, 0, 0, 0, 0, 0), (16, .aload_n 0, 1, 0, 0, 0, 0, 0), (17, .getfield 28, 3, 8, 3, 0, 0, 0), (20, .iload_n 1, 1, 0, 0, 0, 0, 0), (21, .invokevirtual 268, 3, 198, 3, 9, 0, 0), (24, .aload_n 0, 1, 0, 0, 0, 0, 0), (25, .invokevirtual 475, 3, 297, 1, 9, 0, 0), (28, .istore_n 2, 1, 0, 0, 0, 0, 0), (29, .aload_n 0, 1, 0, 0, 0, 0, 0), (30, .iconst 0, 1, 0, 0, 0, (0), 0), (31, .putfield 15, 3, 8, 1, 0, 0, 0), (34, .aload_n 0, 1, 0, 0, 0, 0, 0), (35, .iload_n 2, 1, 0, 0, 0, 0, 0), (36, .invokestatic 247, 3, 323, 1, 0, 0, 0), (39, .i2l, 1, 0, 0, 0, 0, 0), (40, .invokevirtual 18, 3, 180, 2, 9, 0, 0), (43, .aload_n 0, 1, 0, 0, 0, 0, 0), (44, .iload_n 2, 1, 0, 0, 0, 0, 0), (45, .iconst 1, 1, 0, 0, 0, (1), 0), (46, .iand, 1, 0, 0, 0, 0, 0), (47, .i2l, 1, 0, 0, 0, 0, 0), (48, .invokevirtual 18, 3, 180, 2, 9, 0, 0), (51, .iload_n 2, 1, 0, 0, 0, 0, 0), (52, .ireturn, 1, 0, 0, 0, 0, 0)]
def cm_X11_guess : am_M := fun pc => cd_X11_guess.lookup pc
def cd_X11_feels : List (Nat × am_E) := [(0, .aload_n 0, 1, 0, 0, 0, 0, 0), (1, .iconst 0, 1, 0, 0, 0, (0), 0), (2, .putfield 3, 3, 8, 0, 0, 0, 0), (5, .aload_n 0, 1, 0, 0, 0, 0, 0), (6, .iload_n 1, 1, 0, 0, 0, 0, 0), (7, .invokevirtual 277, 3, 183, 2, 9, 0, 0), (10, .ifCond .ne 5, 3, 15, 0, 0, 0, 0), (13, .iconst (-1), 1, 0, 0, 0, (-1), 0), (14, .ireturn, 1, 0, 0, 0, 0, 0), (15, .aload_n 0, 1, 0, 0, 0, 0, 0), (16, .aload_n 0, 1, 0, 0, 0, 0, 0), (17, .getfield 28, 3, 8, 3, 0, 0, 0), (20, .iload_n 1, 1, 0, 0, 0, 0, 0), (21, .invokevirtual 268, 3, 198, 3, 9, 0, 0), (24, .aload_n 0, 1, 0, 0, 0, 0, 0), (25, .invokevirtual 475, 3, 297, 1, 9, 0, 0), (28, .istore_n 2, 1, 0, 0, 0, 0, 0), (29, .iload_n 2, 1, 0, 0, 0, 0, 0), (30, .ifCond .ne 6, 3, 36, 0, 0, 0, 0), (33, .bipush (-2), 2, 0, 0, 0, (-2), 0), (35, .ireturn, 1, 0, 0, 0, 0, 0), (36, .iconst (-1), 1, 0, 0, 0, (-1), 0), (37, .istore_n 3, 1, 0, 0, 0, 0, 0), (38, .ldc_w 478, 3, 0, 0, 0, (1000000), 0), (41, .istore 4, 2, 0, 0, 0, 0, 0), (43, .iconst 0, 1, 0, 0, 0, (0), 0), (44, .istore 5, 2, 0, 0, 0, 0, 0), (46, .iload 5, 2, 0, 0, 0, 0, 0), (48, .aload_n 0, 1, 0, 0, 0, 0, 0), (49, .getfield 168, 3, 8, 13, 0, 0, 0), (52, .if_icmp .ge 122, 3, 174, 0, 0, 0, 0), (55, .iconst 0, 1, 0, 0, 0, (0), 0), (56, .istore 6, 2, 0, 0, 0, 0, 0), (58, .iconst 0, 1, 0, 0, 0, (0), 0), (59, .istore 7, 2, 0, 0, 0, 0, 0), (61, .iload 7, 2, 0, 0, 0, 0, 0), (63, .iconst 4, 1, 0, 0, 0, (4), 0), (64, .if_icmp .ge 81, 3, 145, 0, 0, 0, 0), (67, .iconst 0, 1, 0, 0, 0, (0), 0), (68, .istore 8, 2, 0, 0, 0, 0, 0), (70, .iconst 0, 1, 0, 0, 0, (0), 0), (71, .istore 9, 2, 0, 0, 0, 0, 0), (73, .iload 9, 2, 0, 0, 0, 0, 0), (75, .aload_n 0, 1, 0, 0, 0, 0, 0), (76, .getfield 168, 3, 8, 13, 0, 0, 0), (79, .if_icmp .ge 51, 3, 130, 0, 0, 0, 0), (82, .iload 8, 2, 0, 0, 0, 0, 0), (84, .iload_n 2, 1, 0, 0, 0, 0, 0), (85, .iload 9, 2, 0, 0, 0, 0, 0), (87, .invokestatic 479, 3, 177, 2, 0, 0, 0), (90, .ifCond .eq 27, 3, 117, 0, 0, 0, 0), (93, .aload_n 0, 1, 0, 0, 0, 0, 0), (94, .getfield 41, 3, 8, 12, 0, 0, 0), (97, .iload 9, 2, 0, 0, 0, 0, 0), (99, .iload 5, 2, 0, 0, 0, 0, 0), (101, .iadd, 1, 0, 0, 0, 0, 0), (102, .aload_n 0, 1, 0, 0, 0, 0, 0), (103, .getfield 168, 3, 8, 13, 0, 0, 0), (106, .irem, 1, 0, 0, 0, 0, 0), (107, .iaload, 1, 0, 0, 0, 0, 0), (108, .iload 7, 2, 0, 0, 0, 0, 0), (110, .if_icmp .ne 7, 3, 117, 0, 0, 0, 0), (113, .iconst 1, 1, 0, 0, 0, (1), 0), (114, .goto 4, 3, 118, 0, 0, 0, 0), (117, .iconst 0, 1, 0, 0, 0, (0), 0), (118, .invokestatic 133, 3, 178, 1, 0, 0, 0), (121, .iadd, 1, 0, 0, 0, 0, 0), (122, .istore 8, 2, 0, 0, 0, 0, 0), (124, .iinc 9 1, 3, 0, 0, 0, (1), 0), (127, .goto (-54), 3, 73, 0, 0, 0, 0), (130, .iload 6, 2, 0, 0, 0, 0, 0), (132, .iload 8, 2, 0, 0, 0, 0, 0), (134, .invokestatic 195, 3, 324, 2, 0, 0, 0), (137, .istore 6, 2, 0, 0, 0, 0, 0), (139, .iinc 7 1, 3, 0, 0, 0, (1), 0), (142, .goto (-81), 3, 61, 0, 0, 0, 0), (145, .iload 6, 2, 0, 0, 0, 0, 0), (147, .iload 4, 2, 0, 0, 0, 0, 0), (149, .if_icmp .ge 8, 3, 157, 0, 0, 0, 0), (152, .iload 5, 2, 0, 0, 0, 0, 0), (154, .goto 4, 3, 158, 0, 0, 0, 0), (157, .iload_n 3, 1, 0, 0, 0, 0, 0), (158, .istore_n 3, 1, 0, 0, 0, 0, 0), (159, .iload 4, 2, 0, 0, 0, 0, 0), (161, .iload 6, 2, 0, 0, 0, 0, 0), (163, .invokestatic 124, 3, 325, 2, 0, 0, 0), (166, .istore 4, 2, 0, 0, 0, 0, 0), (168, .iinc 5 1, 3, 0, 0, 0, (1), 0), (171, .goto (-125), 3, 46, 0, 0, 0, 0), (174, .aload_n 0, 1, 0, 0, 0, 0, 0), (175, .iconst 0, 1, 0, 0, 0, (0), 0), (176, .putfield 15, 3, 8, 1, 0, 0, 0), (179, .aload_n 0, 1, 0, 0, 0, 0, 0), (180, .iload 4, 2, 0, 0, 0, 0, 0), (182, .i2l, 1, 0, 0, 0, 0, 0), (183, .invokevirtual 18, 3, 180, 2, 9, 0, 0), (186, .iload_n 3, 1, 0, 0, 0, 0, 0), (187, .ireturn, 1, 0, 0, 0, 0, 0)]
def cm_X11_feels : am_M := fun pc => cd_X11_feels.lookup pc
def cd_X11_lowest : List (Nat × am_E) := [(0, .iload_n 0, 1, 0, 0, 0, 0, 0), (1, .iconst 1, 1, 0, 0, 0, (1), 0), (2, .if_icmp .eq 7, 3, 9, 0, 0, 0, 0), (5, .iconst 1, 1, 0, 0, 0, (1), 0), (6, .goto 4, 3, 10, 0, 0, 0, 0), (9, .iconst 0, 1, 0, 0, 0, (0), 0), (10, .invokestatic 133, 3, 178, 1, 0, 0, 0), (13, .ireturn, 1, 0, 0, 0, 0, 0)]
def cm_X11_lowest : am_M := fun pc => cd_X11_lowest.lookup pc
def cd_X11_highest : List (Nat × am_E) := [(0, .iload_n 0, 1, 0, 0, 0, 0, 0), (1, .iconst 1, 1, 0, 0, 0, (1), 0), (2, .if_icmp .ne 7, 3, 9, 0, 0, 0, 0), (5, .iconst 3, 1, 0, 0, 0, (3), 0), (6, .goto 5, 3, 11, 0, 0, 0, 0), (9, .bipush 9, 2, 0, 0, 0, (9), 0), (11, .ireturn, 1, 0, 0, 0, 0, 0)]
def cm_X11_highest : am_M := fun pc => cd_X11_highest.lookup pc
def cd_X11_heard : List (Nat × am_E) := [(0, .aload_n 0, 1, 0, 0, 0, 0, 0), (1, .iconst 0, 1, 0, 0, 0, (0), 0), (2, .putfield 3, 3, 8, 0, 0, 0, 0), (5, .iload_n 1, 1, 0, 0, 0, 0, 0), (6, .i2l, 1, 0, 0, 0, 0, 0), (7, .lconst 0, 1, 0, 0, 0, 0, (0)), (8, .ldc2_w 285, 3, 0, 0, 0, 0, (3)), (11, .invokestatic 111, 3, 176, 3, 0, 0, 0), (14, .ifCond .eq 30, 3, 44, 0, 0, 0, 0), (17, .iload_n 2, 1, 0, 0, 0, 0, 0), (18, .i2l, 1, 0, 0, 0, 0, 0), (19, .iload_n 1, 1, 0, 0, 0, 0, 0), (20, .invokestatic 482, 3, 300, 1, 0, 0, 0), (23, .i2l, 1, 0, 0, 0, 0, 0), (24, .iload_n 1, 1, 0, 0, 0, 0, 0), (25, .invokestatic 485, 3, 301, 1, 0, 0, 0), (28, .i2l, 1, 0, 0, 0, 0, 0), (29, .invokestatic 111, 3, 176, 3, 0, 0, 0), (32, .ifCond .eq 12, 3, 44, 0, 0, 0, 0), (35, .aload_n 0, 1, 0, 0, 0, 0, 0), (36, .getfield 488, 3, 8, 36, 0, 0, 0), (39, .bipush 12, 2, 0, 0, 0, (12), 0), (41, .if_icmp .ne 5, 3, 46, 0, 0, 0, 0), (44, .iconst (-1), 1, 0, 0, 0, (-1), 0), (45, .ireturn, 1, 0, 0, 0, 0, 0), (46, .aload_n 0, 1, 0, 0, 0, 0, 0), (47, .getfield 90, 3, 8, 37, 0, 0, 0), (50, .aload_n 0, 1, 0, 0, 0, 0, 0), (51, .getfield 488, 3, 8, 36, 0, 0, 0), (54, .iload_n 1, 1, 0, 0, 0, 0, 0), (55, .iastore, 1, 0, 0, 0, 0, 0), (56, .aload_n 0, 1, 0, 0, 0, 0, 0), (57, .getfield 93, 3, 8, 38, 0, 0, 0), (60, .aload_n 0, 1, 0, 0, 0, 0, 0), (61, .getfield 488, 3, 8, 36, 0, 0, 0), (64, .iload_n 2, 1, 0, 0, 0, 0, 0), (65, .iastore, 1, 0, 0, 0, 0, 0), (66, .aload_n 0, 1, 0, 0, 0, 0, 0), (67, .dup, 1, 0, 0, 0, 0, 0), (68, .getfield 488, 3, 8, 36, 0, 0, 0), (71, .iconst 1, 1, 0, 0, 0, (1), 0), (72, .iadd, 1, 0, 0, 0, 0, 0), (73, .putfield 488, 3, 8, 36, 0, 0, 0), (76, .aload_n 0, 1, 0, 0, 0, 0, 0), (77, .getfield 488, 3, 8, 36, 0, 0, 0), (80, .ireturn, 1, 0, 0, 0, 0, 0)]
def cm_X11_heard : am_M := fun pc => cd_X11_heard.lookup pc
def cd_X11_denies : List (Nat × am_E) := [(0, .aload_n 0, 1, 0, 0, 0, 0, 0), (1, .iconst 0, 1, 0, 0, 0, (0), 0), (2, .putfield 3, 3, 8, 0, 0, 0, 0), (5, .aload_n 0, 1, 0, 0, 0, 0, 0), (6, .getfield 488, 3, 8, 36, 0, 0, 0), (9, .istore_n 1, 1, 0, 0, 0, 0, 0), (10, .aload_n 0, 1, 0, 0, 0, 0, 0), (11, .iconst 0, 1, 0, 0, 0, (0), 0), (12, .putfield 488, 3, 8, 36, 0, 0, 0), (15, .iload_n 1, 1, 0, 0, 0, 0, 0), (16, .ireturn, 1, 0, 0, 0, 0, 0)]
def cm_X11_denies : am_M := fun pc => cd_X11_denies.lookup pc
def cd_X11_isSo : List (Nat × am_E) := [(0, .iload_n 1, 1, 0, 0, 0, 0, 0), (1, .tableswitch 69 0 2 #[27, 41, 55], 27, 0, 0, 0, 0, 0), (28, .aload_n 0, 1, 0, 0, 0, 0, 0), (29, .getfield 168, 3, 8, 13, 0, 0, 0), (32, .iload_n 2, 1, 0, 0, 0, 0, 0), (33, .if_icmp .lt 7, 3, 40, 0, 0, 0, 0), (36, .iconst 1, 1, 0, 0, 0, (1), 0), (37, .goto 4, 3, 41, 0, 0, 0, 0), (40, .iconst 0, 1, 0, 0, 0, (0), 0), (41, .ireturn, 1, 0, 0, 2, 0, 0), (42, .aload_n 0, 1, 0, 0, 0, 0, 0), (43, .iload_n 2, 1, 0, 0, 0, 0, 0), (44, .invokevirtual 192, 3, 205, 2, 9, 0, 0), (47, .ifCond .le 7, 3, 54, 0, 0, 0, 0), (50, .iconst 1, 1, 0, 0, 0, (1), 0), (51, .goto 4, 3, 55, 0, 0, 0, 0), (54, .iconst 0, 1, 0, 0, 0, (0), 0), (55, .ireturn, 1, 0, 0, 2, 0, 0), (56, .aload_n 0, 1, 0, 0, 0, 0, 0), (57, .invokevirtual 252, 3, 209, 1, 9, 0, 0), (60, .iload_n 2, 1, 0, 0, 0, 0, 0), (61, .if_icmp .ne 7, 3, 68, 0, 0, 0, 0), (64, .iconst 1, 1, 0, 0, 0, (1), 0), (65, .goto 4, 3, 69, 0, 0, 0, 0), (68, .iconst 0, 1, 0, 0, 0, (0), 0), (69, .ireturn, 1, 0, 0, 2, 0, 0), (70, .aload_n 0, 1, 0, 0, 0, 0, 0), (71, .invokevirtual 258, 3, 211, 1, 9, 0, 0), (74, .iload_n 2, 1, 0, 0, 0, 0, 0), (75, .if_icmp .lt 7, 3, 82, 0, 0, 0, 0), (78, .iconst 1, 1, 0, 0, 0, (1), 0), (79, .goto 4, 3, 83, 0, 0, 0, 0), (82, .iconst 0, 1, 0, 0, 0, (0), 0), (83, .ireturn, 1, 0, 0, 2, 0, 0)]
def cm_X11_isSo : am_M := fun pc => cd_X11_isSo.lookup pc
def cd_X11_fitting : List (Nat × am_E) := [(0, .iconst 0, 1, 0, 0, 0, (0), 0), (1, .istore_n 1, 1, 0, 0, 0, 0, 0), (2, .iconst 0, 1, 0, 0, 0, (0), 0), (3, .istore_n 2, 1, 0, 0, 0, 0, 0), (4, .iload_n 2, 1, 0, 0, 0, 0, 0), (5, .aload_n 0, 1, 0, 0, 0, 0, 0), (6, .getfield 28, 3, 8, 3, 0, 0, 0), (9, .bipush 60, 2, 0, 0, 0, (60), 0), (11, .iaload, 1, 0, 0, 0, 0, 0), (12, .if_icmp .ge 83, 3, 95, 0, 0, 0, 0), (15, .aload_n 0, 1, 0, 0, 0, 0, 0), (16, .aload_n 0, 1, 0, 0, 0, 0, 0), (17, .getfield 28, 3, 8, 3, 0, 0, 0), (20, .iload_n 2, 1, 0, 0, 0, 0, 0), (21, .invokevirtual 268, 3, 198, 3, 9, 0, 0), (24, .iconst 1, 1, 0, 0, 0, (1), 0), (25, .istore_n 3, 1, 0, 0, 0, 0, 0), (26, .iconst 0, 1, 0, 0, 0, (0), 0), (27, .istore 4, 2, 0, 0, 0, 0, 0), (29, .iload 4, 2, 0, 0, 0, 0, 0), (31, .aload_n 0, 1, 0, 0, 0, 0, 0), (32, .getfield 488, 3, 8, 36, 0, 0, 0), (35, .if_icmp .ge 40, 3, 75, 0, 0, 0, 0), (38, .iload_n 3, 1, 0, 0, 0, 0, 0), (39, .ifCond .eq 28, 3, 67, 0, 0, 0, 0), (42, .aload_n 0, 1, 0, 0, 0, 0, 0), (43, .aload_n 0, 1, 0, 0, 0, 0, 0), (44, .getfield 90, 3, 8, 37, 0, 0, 0), (47, .iload 4, 2, 0, 0, 0, 0, 0), (49, .iaload, 1, 0, 0, 0, 0, 0), (50, .aload_n 0, 1, 0, 0, 0, 0, 0), (51, .getfield 93, 3, 8, 38, 0, 0, 0), (54, .iload 4, 2, 0, 0, 0, 0, 0), (56, .iaload, 1, 0, 0, 0, 0, 0), (57, .invokevirtual 491, 3, 304, 3, 9, 0, 0), (60, .ifCond .eq 7, 3, 67, 0, 0, 0, 0), (63, .iconst 1, 1, 0, 0, 0, (1), 0), (64, .goto 4, 3, 68, 0, 0, 0, 0), (67, .iconst 0, 1, 0, 0, 0, (0), 0), (68, .istore_n 3, 1, 0, 0, 0, 0, 0), (69, .iinc 4 1, 3, 0, 0, 0, (1), 0), (72, .goto (-43), 3, 29, 0, 0, 0, 0), (75, .iload_n 1, 1, 0, 0, 0, 0, 0), (76, .iload_n 3, 1, 0, 0, 0, 0, 0), (77, .ifCond .eq 9, 3, 86, 0, 0, 0, 0), (80, .iconst 1, 1, 0, 0, 0, (1), 0), (81, .iload_n 2, 1, 0, 0, 0, 0, 0), (82, .ishl, 1, 0, 0, 0, 0, 0), (83, .goto 4, 3, 87, 0, 0, 0, 0), (86, .iconst 0, 1, 0, 0, 0, (0), 0), (87, .ior, 1, 0, 0, 0, 0, 0), (88, .istore_n 1, 1, 0, 0, 0, 0, 0), (89, .iinc 2 1, 3, 0, 0, 0, (1), 0), (92, .goto (-88), 3, 4, 0, 0, 0, 0), (95, .iload_n 1, 1, 0, 0, 0, 0, 0), (96, .ireturn, 1, 0, 0, 0, 0, 0)]
def cm_X11_fitting : am_M := fun pc => cd_X11_fitting.lookup pc
def cd_X11_fits : List (Nat × am_E) := [(0, .aload_n 0, 1, 0, 0, 0, 0, 0), (1, .iconst 0, 1, 0, 0, 0, (0), 0), (2, .putfield 3, 3, 8, 0, 0, 0, 0), (5, .aload_n 0, 1, 0, 0, 0, 0, 0), (6, .invokevirtual 494, 3, 305, 1, 9, 0, 0), (9, .istore_n 1, 1, 0, 0, 0, 0, 0), (10, .aload_n 0, 1, 0, 0, 0, 0, 0), (11, .iconst 0, 1, 0, 0, 0, (0), 0), (12, .putfield 15, 3, 8, 1, 0, 0, 0), (15, .aload_n 0, 1, 0, 0, 0, 0, 0), (16, .iload_n 1, 1, 0, 0, 0, 0, 0), (17, .invokestatic 247, 3, 323, 1, 0, 0, 0), (20, .i2l, 1, 0, 0, 0, 0, 0), (21, .invokevirtual 18, 3, 180, 2, 9, 0, 0), (24, .iload_n 1, 1, 0, 0, 0, 0, 0), (25, .ireturn, 1, 0, 0, 0, 0, 0)]
def cm_X11_fits : am_M := fun pc => cd_X11_fits.lookup pc
def cd_X11_asks : List (Nat × am_E) := [(0, .aload_n 0, 1, 0, 0, 0, 0, 0), (1, .iconst 0, 1, 0, 0, 0, (0), 0), (2, .putfield 3, 3, 8, 0, 0, 0, 0), (5, .aload_n 0, 1, 0, 0, 0, 0, 0), (6, .invokevirtual 494, 3, 305, 1, 9, 0, 0), (9, .istore_n 1, 1, 0, 0, 0, 0, 0), (10, .iload_n 1, 1, 0, 0, 0, 0, 0), (11, .ifCond .ne 6, 3, 17, 0, 0, 0, 0), (14, .bipush (-2), 2, 0, 0, 0, (-2), 0), (16, .ireturn, 1, 0, 0, 0, 0, 0), (17, .iconst (-1), 1, 0, 0, 0, (-1), 0), (18, .istore_n 2, 1, 0, 0, 0, 0, 0), (19, .ldc_w 478, 3, 0, 0, 0, (1000000), 0), (22, .istore_n 3, 1, 0, 0, 0, 0, 0), (23, .iconst 0, 1, 0, 0, 0, (0), 0), (24, .istore 4, 2, 0, 0, 0, 0, 0), (26, .iload 4, 2, 0, 0, 0, 0, 0), (28, .iconst 4, 1, 0, 0, 0, (4), 0), (29, .if_icmp .ge 139, 3, 168, 0, 0, 0, 0), (32, .iload 4, 2, 0, 0, 0, 0, 0), (34, .invokestatic 482, 3, 300, 1, 0, 0, 0), (37, .istore 5, 2, 0, 0, 0, 0, 0), (39, .iload 5, 2, 0, 0, 0, 0, 0), (41, .iload 4, 2, 0, 0, 0, 0, 0), (43, .invokestatic 485, 3, 301, 1, 0, 0, 0), (46, .if_icmp .gt 116, 3, 162, 0, 0, 0, 0), (49, .iconst 0, 1, 0, 0, 0, (0), 0), (50, .istore 6, 2, 0, 0, 0, 0, 0), (52, .iconst 0, 1, 0, 0, 0, (0), 0), (53, .istore 7, 2, 0, 0, 0, 0, 0), (55, .iload 7, 2, 0, 0, 0, 0, 0), (57, .aload_n 0, 1, 0, 0, 0, 0, 0), (58, .getfield 28, 3, 8, 3, 0, 0, 0), (61, .bipush 60, 2, 0, 0, 0, (60), 0), (63, .iaload, 1, 0, 0, 0, 0, 0), (64, .if_icmp .ge 52, 3, 116, 0, 0, 0, 0), (67, .aload_n 0, 1, 0, 0, 0, 0, 0), (68, .aload_n 0, 1, 0, 0, 0, 0, 0), (69, .getfield 28, 3, 8, 3, 0, 0, 0), (72, .iload 7, 2, 0, 0, 0, 0, 0), (74, .invokevirtual 268, 3, 198, 3, 9, 0, 0), (77, .iload 6, 2, 0, 0, 0, 0, 0), (79, .iload_n 1, 1, 0, 0, 0, 0, 0), (80, .iload 7, 2, 0, 0, 0, 0, 0), (82, .invokestatic 479, 3, 177, 2, 0, 0, 0), (85, .ifCond .eq 18, 3, 103, 0, 0, 0, 0), (88, .aload_n 0, 1, 0, 0, 0, 0, 0), (89, .iload 4, 2, 0, 0, 0, 0, 0), (91, .iload 5, 2, 0, 0, 0, 0, 0), (93, .invokevirtual 491, 3, 304, 3, 9, 0, 0), (96, .ifCond .eq 7, 3, 103, 0, 0, 0, 0), (99, .iconst 1, 1, 0, 0, 0, (1), 0), (100, .goto 4, 3, 104, 0, 0, 0, 0), (103, .iconst 0, 1, 0, 0, 0, (0), 0), (104, .invokestatic 133, 3, 178, 1, 0, 0, 0), (107, .iadd, 1, 0, 0, 0, 0, 0), (108, .istore 6, 2, 0, 0, 0, 0, 0), (110, .iinc 7 1, 3, 0, 0, 0, (1), 0), (113, .goto (-58), 3, 55, 0, 0, 0, 0), (116, .iload 6, 2, 0, 0, 0, 0, 0), (118, .iload_n 1, 1, 0, 0, 0, 0, 0), (119, .invokestatic 247, 3, 323, 1, 0, 0, 0), (122, .iload 6, 2, 0, 0, 0, 0, 0), (124, .isub, 1, 0, 0, 0, 0, 0), (125, .invokestatic 195, 3, 324, 2, 0, 0, 0), (128, .istore 7, 2, 0, 0, 0, 0, 0), (130, .iload 7, 2, 0, 0, 0, 0, 0), (132, .iload_n 3, 1, 0, 0, 0, 0, 0), (133, .if_icmp .ge 14, 3, 147, 0, 0, 0, 0), (136, .bipush 10, 2, 0, 0, 0, (10), 0), (138, .iload 4, 2, 0, 0, 0, 0, 0), (140, .imul, 1, 0, 0, 0, 0, 0), (141, .iload 5, 2, 0, 0, 0, 0, 0), (143, .iadd, 1, 0, 0, 0, 0, 0), (144, .goto 4, 3, 148, 0, 0, 0, 0), (147, .iload_n 2, 1, 0, 0, 0, 0, 0), (148, .istore_n 2, 1, 0, 0, 0, 0, 0), (149, .iload_n 3, 1, 0, 0, 0, 0, 0), (150, .iload 7, 2, 0, 0, 0, 0, 0), (152, .invokestatic 124, 3, 325, 2, 0, 0, 0), (155, .istore_n 3, 1, 0, 0, 0, 0, 0), (156, .iinc 5 1, 3, 0, 0, 0, (1), 0), (159, .goto (-120), 3, 39, 0, 0, 0, 0), (162, .iinc 4 1, 3, 0, 0, 0, (1), 0), (165, .goto (-139), 3, 26, 0, 0, 0, 0), (168, .aload_n 0, 1, 0, 0, 0, 0, 0), (169, .iconst 0, 1, 0, 0, 0, (0), 0), (170, .putfield 15, 3, 8, 1, 0, 0, 0), (173, .aload_n 0, 1, 0, 0, 0, 0, 0), (174, .iload_n 3, 1, 0, 0, 0, 0, 0), (175, .i2l, 1, 0, 0, 0, 0, 0), (176, .invokevirtual 18, 3, 180, 2, 9, 0, 0), (179, .iload_n 2, 1, 0, 0, 0, 0, 0), (180, .ireturn, 1, 0, 0, 0, 0, 0)]
def cm_X11_asks : am_M := fun pc => cd_X11_asks.lookup pc
def cd_X11_laysWorth : List (Nat × am_E) := [(0, .iconst 0, 1, 0, 0, 0, (0), 0), (1, .istore_n 1, 1, 0, 0, 0, 0, 0), (2, .iload_n 1, 1, 0, 0, 0, 0, 0), (3, .bipush 40, 2, 0, 0, 0, (40), 0), (5, .if_icmp .gt 108, 3, 113, 0, 0, 0, 0), (8, .iconst 0, 1, 0, 0, 0, (0), 0), (9, .istore_n 2, 1, 0, 0, 0, 0, 0), (10, .iload_n 2, 1, 0, 0, 0, 0, 0), (11, .aload_n 0, 1, 0, 0, 0, 0, 0), (12, .getfield 99, 3, 8, 40, 0, 0, 0), (15, .arraylength, 1, 0, 0, 0, 0, 0), (16, .if_icmp .ge 16, 3, 32, 0, 0, 0, 0), (19, .aload_n 0, 1, 0, 0, 0, 0, 0), (20, .getfield 99, 3, 8, 40, 0, 0, 0), (23, .iload_n 2, 1, 0, 0, 0, 0, 0), (24, .iconst 0, 1, 0, 0, 0, (0), 0), (25, .bastore, 1, 0, 0, 0, 0, 0), (26, .iinc 2 1, 3, 0, 0, 0, (1), 0), (29, .goto (-19), 3, 10, 0, 0, 0, 0), (32, .iconst 1, 1, 0, 0, 0, (1), 0), (33, .istore_n 2, 1, 0, 0, 0, 0, 0), (34, .iload_n 2, 1, 0, 0, 0, 0, 0), (35, .iconst 3, 1, 0, 0, 0, (3), 0), (36, .if_icmp .ge 47, 3, 83, 0, 0, 0, 0), (39, .iconst 0, 1, 0, 0, 0, (0), 0), (40, .istore_n 3, 1, 0, 0, 0, 0, 0), (41, .iload_n 3, 1, 0, 0, 0, 0, 0), (42, .iload_n 2, 1, 0, 0, 0, 0, 0), (43, .iadd, 1, 0, 0, 0, 0, 0), (44, .iload_n 1, 1, 0, 0, 0, 0, 0), (45, .if_icmp .gt 32, 3, 77, 0, 0, 0, 0), (48, .aload_n 0, 1, 0, 0, 0, 0, 0), (49, .getfield 99, 3, 8, 40, 0, 0, 0), (52, .aload_n 0, 1, 0, 0, 0, 0, 0), (53, .getfield 96, 3, 8, 39, 0, 0, 0), (56, .iload_n 3, 1, 0, 0, 0, 0, 0), (57, .iaload, 1, 0, 0, 0, 0, 0), (58, .aload_n 0, 1, 0, 0, 0, 0, 0), (59, .getfield 96, 3, 8, 39, 0, 0, 0), (62, .iload_n 1, 1, 0, 0, 0, 0, 0), (63, .iload_n 2, 1, 0, 0, 0, 0, 0), (64, .isub, 1, 0, 0, 0, 0, 0), (65, .iload_n 3, 1, 0, 0, 0, 0, 0), (66, .isub, 1, 0, 0, 0, 0, 0), (67, .iaload, 1, 0, 0, 0, 0, 0), (68, .ixor, 1, 0, 0, 0, 0, 0), (69, .iconst 1, 1, 0, 0, 0, (1), 0), (70, .bastore, 1, 0, 0, 0, 0, 0), (71, .iinc 3 1, 3, 0, 0, 0, (1), 0), (74, .goto (-33), 3, 41, 0, 0, 0, 0), (77, .iinc 2 1, 3, 0, 0, 0, (1), 0), (80, .goto (-46), 3, 34, 0, 0, 0, 0), (83, .iconst 0, 1, 0, 0, 0, (0), 0), (84, .istore_n 2, 1, 0, 0, 0, 0, 0), (85, .aload_n 0, 1, 0, 0, 0, 0, 0), (86, .getfield 99, 3, 8, 40, 0, 0, 0), (89, .iload_n 2, 1, 0, 0, 0, 0, 0), (90, .baload, 1, 0, 0, 0, 0, 0), (91, .ifCond .eq 9, 3, 100, 0, 0, 0, 0), (94, .iinc 2 1, 3, 0, 0, 0, (1), 0), (97, .goto (-12), 3, 85, 0, 0, 0, 0), (100, .aload_n 0, 1, 0, 0, 0, 0, 0), (101, .getfield 96, 3, 8, 39, 0, 0, 0), (104, .iload_n 1, 1, 0, 0, 0, 0, 0), (105, .iload_n 2, 1, 0, 0, 0, 0, 0), (106, .iastore, 1, 0, 0, 0, 0, 0), (107, .iinc 1 1, 3, 0, 0, 0, (1), 0), (110, .goto (-108), 3, 2, 0, 0, 0, 0), (113, .return_, 1, 0, 0, 0, 0, 0)]
def cm_X11_laysWorth : am_M := fun pc => cd_X11_laysWorth.lookup pc
def cd_X11_ring : List (Nat × am_E) := [(0, .aload_n 0, 1, 0, 0, 0, 0, 0), (1, .iconst 0, 1, 0, 0, 0, (0), 0), (2, .putfield 3, 3, 8, 0, 0, 0, 0), (5, .iload_n 1, 1, 0, 0, 0, 0, 0), (6, .i2l, 1, 0, 0, 0, 0, 0), (7, .lconst 0, 1, 0, 0, 0, 0, (0)), (8, .ldc2_w 497, 3, 0, 0, 0, 0, (40)), (11, .invokestatic 111, 3, 176, 3, 0, 0, 0), (14, .ifCond .ne 5, 3, 19, 0, 0, 0, 0), (17, .iconst (-1), 1, 0, 0, 0, (-1), 0), (18, .ireturn, 1, 0, 0, 0, 0, 0), (19, .aload_n 0, 1, 0, 0, 0, 0, 0), (20, .invokevirtual 499, 3, 308, 1, 9, 0, 0), (23, .aload_n 0, 1, 0, 0, 0, 0, 0), (24, .iconst 0, 1, 0, 0, 0, (0), 0), (25, .putfield 15, 3, 8, 1, 0, 0, 0), (28, .iconst 1, 1, 0, 0, 0, (1), 0), (29, .istore_n 2, 1, 0, 0, 0, 0, 0), (30, .iload_n 2, 1, 0, 0, 0, 0, 0), (31, .iconst 3, 1, 0, 0, 0, (3), 0), (32, .if_icmp .ge 33, 3, 65, 0, 0, 0, 0), (35, .iload_n 2, 1, 0, 0, 0, 0, 0), (36, .iload_n 1, 1, 0, 0, 0, 0, 0), (37, .if_icmp .gt 28, 3, 65, 0, 0, 0, 0), (40, .aload_n 0, 1, 0, 0, 0, 0, 0), (41, .getfield 96, 3, 8, 39, 0, 0, 0), (44, .iload_n 1, 1, 0, 0, 0, 0, 0), (45, .iload_n 2, 1, 0, 0, 0, 0, 0), (46, .isub, 1, 0, 0, 0, 0, 0), (47, .iaload, 1, 0, 0, 0, 0, 0), (48, .ifCond .ne 11, 3, 59, 0, 0, 0, 0), (51, .aload_n 0, 1, 0, 0, 0, 0, 0), (52, .iload_n 2, 1, 0, 0, 0, 0, 0), (53, .i2l, 1, 0, 0, 0, 0, 0), (54, .invokevirtual 18, 3, 180, 2, 9, 0, 0), (57, .iconst 1, 1, 0, 0, 0, (1), 0), (58, .ireturn, 1, 0, 0, 0, 0, 0), (59, .iinc 2 1, 3, 0, 0, 0, (1), 0), (62, .goto (-32), 3, 30, 0, 0, 0, 0), (65, .iconst 0, 1, 0, 0, 0, (0), 0), (66, .ireturn, 1, 0, 0, 0, 0, 0)]
def cm_X11_ring : am_M := fun pc => cd_X11_ring.lookup pc
def cd_X11_law : List (Nat × am_E) := [(0, .aload_n 0, 1, 0, 0, 0, 0, 0), (1, .iconst 0, 1, 0, 0, 0, (0), 0), (2, .putfield 3, 3, 8, 0, 0, 0, 0), (5, .aload_n 0, 1, 0, 0, 0, 0, 0), (6, .invokevirtual 233, 3, 216, 1, 9, 0, 0), (9, .istore_n 1, 1, 0, 0, 0, 0, 0), (10, .iload_n 1, 1, 0, 0, 0, 0, 0), (11, .ifCond .ge 11, 3, 22, 0, 0, 0, 0), (14, .iload_n 1, 1, 0, 0, 0, 0, 0), (15, .iconst 1, 1, 0, 0, 0, (1), 0), (16, .iadd, 1, 0, 0, 0, 0, 0), (17, .sipush 10000, 3, 0, 0, 0, (10000), 0), (20, .isub, 1, 0, 0, 0, 0, 0), (21, .ireturn, 1, 0, 0, 0, 0, 0), (22, .aload_n 0, 1, 0, 0, 0, 0, 0), (23, .invokevirtual 502, 3, 223, 1, 9, 0, 0), (26, .istore_n 2, 1, 0, 0, 0, 0, 0), (27, .aload_n 0, 1, 0, 0, 0, 0, 0), (28, .getfield 230, 3, 8, 16, 0, 0, 0), (31, .istore_n 3, 1, 0, 0, 0, 0, 0), (32, .iconst 0, 1, 0, 0, 0, (0), 0), (33, .istore 4, 2, 0, 0, 0, 0, 0), (35, .iload 4, 2, 0, 0, 0, 0, 0), (37, .aload_n 0, 1, 0, 0, 0, 0, 0), (38, .getfield 230, 3, 8, 16, 0, 0, 0), (41, .if_icmp .ge 23, 3, 64, 0, 0, 0, 0), (44, .aload_n 0, 1, 0, 0, 0, 0, 0), (45, .getfield 102, 3, 8, 41, 0, 0, 0), (48, .iload 4, 2, 0, 0, 0, 0, 0), (50, .aload_n 0, 1, 0, 0, 0, 0, 0), (51, .getfield 44, 3, 8, 14, 0, 0, 0), (54, .iload 4, 2, 0, 0, 0, 0, 0), (56, .iaload, 1, 0, 0, 0, 0, 0), (57, .iastore, 1, 0, 0, 0, 0, 0), (58, .iinc 4 1, 3, 0, 0, 0, (1), 0), (61, .goto (-26), 3, 35, 0, 0, 0, 0), (64, .aload_n 0, 1, 0, 0, 0, 0, 0), (65, .aload_n 0, 1, 0, 0, 0, 0, 0), (66, .getfield 47, 3, 8, 15, 0, 0, 0), (69, .aload_n 0, 1, 0, 0, 0, 0, 0), (70, .getfield 198, 3, 8, 17, 0, 0, 0), (73, .invokevirtual 236, 3, 217, 3, 9, 0, 0), (76, .aload_n 0, 1, 0, 0, 0, 0, 0), (77, .invokevirtual 502, 3, 223, 1, 9, 0, 0), (80, .istore 4, 2, 0, 0, 0, 0, 0), (82, .aload_n 0, 1, 0, 0, 0, 0, 0), (83, .aload_n 0, 1, 0, 0, 0, 0, 0), (84, .getfield 102, 3, 8, 41, 0, 0, 0), (87, .iload_n 3, 1, 0, 0, 0, 0, 0), (88, .invokevirtual 236, 3, 217, 3, 9, 0, 0), (91, .aload_n 0, 1, 0, 0, 0, 0, 0), (92, .iconst 0, 1, 0, 0, 0, (0), 0), (93, .putfield 15, 3, 8, 1, 0, 0, 0), (96, .aload_n 0, 1, 0, 0, 0, 0, 0), (97, .iload 4, 2, 0, 0, 0, 0, 0), (99, .i2l, 1, 0, 0, 0, 0, 0), (100, .invokevirtual 18, 3, 180, 2, 9, 0, 0), (103, .aload_n 0, 1, 0, 0, 0, 0, 0), (104, .iload_n 2, 1, 0, 0, 0, 0, 0), (105, .i2l, 1, 0, 0, 0, 0, 0), (106, .invokevirtual 18, 3, 180, 2, 9, 0, 0), (109, .iload 4, 2, 0, 0, 0, 0, 0), (111, .iload_n 2, 1, 0, 0, 0, 0, 0), (112, .isub, 1, 0, 0, 0, 0, 0), (113, .ireturn, 1, 0, 0, 0, 0, 0)]
def cm_X11_law : am_M := fun pc => cd_X11_law.lookup pc
def cd_X11_gets : List (Nat × am_E) := [(0, .iload_n 0, 1, 0, 0, 0, 0, 0), (1, .iload_n 1, 1, 0, 0, 0, 0, 0), (2, .iadd, 1, 0, 0, 0, 0, 0), (3, .iload_n 2, 1, 0, 0, 0, 0, 0), (4, .if_icmp .gt 15, 3, 19, 0, 0, 0, 0), (7, .iload_n 0, 1, 0, 0, 0, 0, 0), (8, .iload_n 2, 1, 0, 0, 0, 0, 0), (9, .iload_n 0, 1, 0, 0, 0, 0, 0), (10, .isub, 1, 0, 0, 0, 0, 0), (11, .iload_n 1, 1, 0, 0, 0, 0, 0), (12, .isub, 1, 0, 0, 0, 0, 0), (13, .iconst 2, 1, 0, 0, 0, (2), 0), (14, .idiv, 1, 0, 0, 0, 0, 0), (15, .iadd, 1, 0, 0, 0, 0, 0), (16, .goto 14, 3, 30, 0, 0, 0, 0), (19, .iload_n 0, 1, 0, 0, 0, 0, 0), (20, .iload_n 1, 1, 0, 0, 0, 0, 0), (21, .if_icmp .le 8, 3, 29, 0, 0, 0, 0), (24, .bipush (-2), 2, 0, 0, 0, (-2), 0), (26, .goto 4, 3, 30, 0, 0, 0, 0), (29, .iconst 0, 1, 0, 0, 0, (0), 0), (30, .ireturn, 1, 0, 0, 0, 0, 0)]
def cm_X11_gets : am_M := fun pc => cd_X11_gets.lookup pc
def cd_X11_isRest : List (Nat × am_E) := [(0, .iconst 1, 1, 0, 0, 0, (1), 0), (1, .istore_n 3, 1, 0, 0, 0, 0, 0), (2, .iconst 0, 1, 0, 0, 0, (0), 0), (3, .istore 4, 2, 0, 0, 0, 0, 0), (5, .iload 4, 2, 0, 0, 0, 0, 0), (7, .bipush 9, 2, 0, 0, 0, (9), 0), (9, .if_icmp .gt 35, 3, 44, 0, 0, 0, 0), (12, .iload_n 3, 1, 0, 0, 0, 0, 0), (13, .ifCond .eq 23, 3, 36, 0, 0, 0, 0), (16, .iload 4, 2, 0, 0, 0, 0, 0), (18, .iload_n 1, 1, 0, 0, 0, 0, 0), (19, .iload_n 2, 1, 0, 0, 0, 0, 0), (20, .invokestatic 505, 3, 311, 3, 0, 0, 0), (23, .iload_n 0, 1, 0, 0, 0, 0, 0), (24, .iload_n 1, 1, 0, 0, 0, 0, 0), (25, .iload_n 2, 1, 0, 0, 0, 0, 0), (26, .invokestatic 505, 3, 311, 3, 0, 0, 0), (29, .if_icmp .gt 7, 3, 36, 0, 0, 0, 0), (32, .iconst 1, 1, 0, 0, 0, (1), 0), (33, .goto 4, 3, 37, 0, 0, 0, 0), (36, .iconst 0, 1, 0, 0, 0, (0), 0), (37, .istore_n 3, 1, 0, 0, 0, 0, 0), (38, .iinc 4 1, 3, 0, 0, 0, (1), 0), (41, .goto (-36), 3, 5, 0, 0, 0, 0), (44, .iload_n 3, 1, 0, 0, 0, 0, 0), (45, .ireturn, 1, 0, 0, 2, 0, 0)]
def cm_X11_isRest : am_M := fun pc => cd_X11_isRest.lookup pc
def cd_X11_bargains : List (Nat × am_E) := [(0, .aload_n 0, 1, 0, 0, 0, 0, 0), (1, .iconst 0, 1, 0, 0, 0, (0), 0), (2, .putfield 3, 3, 8, 0, 0, 0, 0), (5, .iload_n 1, 1, 0, 0, 0, 0, 0), (6, .i2l, 1, 0, 0, 0, 0, 0), (7, .lconst 0, 1, 0, 0, 0, 0, (0)), (8, .ldc2_w 508, 3, 0, 0, 0, 0, (18)), (11, .invokestatic 111, 3, 176, 3, 0, 0, 0), (14, .ifCond .ne 5, 3, 19, 0, 0, 0, 0), (17, .iconst (-1), 1, 0, 0, 0, (-1), 0), (18, .ireturn, 1, 0, 0, 0, 0, 0), (19, .iconst 0, 1, 0, 0, 0, (0), 0), (20, .istore_n 2, 1, 0, 0, 0, 0, 0), (21, .aload_n 0, 1, 0, 0, 0, 0, 0), (22, .iconst 0, 1, 0, 0, 0, (0), 0), (23, .putfield 15, 3, 8, 1, 0, 0, 0), (26, .iconst 0, 1, 0, 0, 0, (0), 0), (27, .istore_n 3, 1, 0, 0, 0, 0, 0), (28, .iload_n 3, 1, 0, 0, 0, 0, 0), (29, .bipush 9, 2, 0, 0, 0, (9), 0), (31, .if_icmp .gt 65, 3, 96, 0, 0, 0, 0), (34, .iconst 0, 1, 0, 0, 0, (0), 0), (35, .istore 4, 2, 0, 0, 0, 0, 0), (37, .iload 4, 2, 0, 0, 0, 0, 0), (39, .bipush 9, 2, 0, 0, 0, (9), 0), (41, .if_icmp .gt 49, 3, 90, 0, 0, 0, 0), (44, .iload_n 3, 1, 0, 0, 0, 0, 0), (45, .iload 4, 2, 0, 0, 0, 0, 0), (47, .iload_n 1, 1, 0, 0, 0, 0, 0), (48, .invokestatic 510, 3, 312, 3, 0, 0, 0), (51, .ifCond .eq 33, 3, 84, 0, 0, 0, 0), (54, .iload 4, 2, 0, 0, 0, 0, 0), (56, .iload_n 3, 1, 0, 0, 0, 0, 0), (57, .iload_n 1, 1, 0, 0, 0, 0, 0), (58, .invokestatic 510, 3, 312, 3, 0, 0, 0), (61, .ifCond .eq 23, 3, 84, 0, 0, 0, 0), (64, .iload_n 2, 1, 0, 0, 0, 0, 0), (65, .ifCond .ne 16, 3, 81, 0, 0, 0, 0), (68, .aload_n 0, 1, 0, 0, 0, 0, 0), (69, .iload_n 3, 1, 0, 0, 0, 0, 0), (70, .i2l, 1, 0, 0, 0, 0, 0), (71, .invokevirtual 18, 3, 180, 2, 9, 0, 0), (74, .aload_n 0, 1, 0, 0, 0, 0, 0), (75, .iload 4, 2, 0, 0, 0, 0, 0), (77, .i2l, 1, 0, 0, 0, 0, 0), (78, .invokevirtual 18, 3, 180, 2, 9, 0, 0), (81, .iinc 2 1, 3, 0, 0, 0, (1), 0), (84, .iinc 4 1, 3, 0, 0, 0, (1), 0), (87, .goto (-50), 3, 37, 0, 0, 0, 0), (90, .iinc 3 1, 3, 0, 0, 0, (1), 0), (93, .goto (-65), 3, 28, 0, 0, 0, 0), (96, .iload_n 2, 1, 0, 0, 0, 0, 0), (97, .ireturn, 1, 0, 0, 0, 0, 0)]
def cm_X11_bargains : am_M := fun pc => cd_X11_bargains.lookup pc
def cd_X11_draws : List (Nat × am_E) := [(0, .aload_n 0, 1, 0, 0, 0, 0, 0), (1, .aload_n 0, 1, 0, 0, 0, 0, 0), (2, .getfield 513, 3, 8, 42, 0, 0, 0), (5, .ldc_w 516, 3, 0, 0, 0, (1103515245), 0), (8, .imul, 1, 0, 0, 0, 0, 0), (9, .sipush 12345, 3, 0, 0, 0, (12345), 0), (12, .iadd, 1, 0, 0, 0, 0, 0), (13, .putfield 513, 3, 8, 42, 0, 0, 0), (16, .aload_n 0, 1, 0, 0, 0, 0, 0), (17, .getfield 513, 3, 8, 42, 0, 0, 0), (20, .bipush 16, 2, 0, 0, 0, (16), 0), (22, .iushr, 1, 0, 0, 0, 0, 0), (23, .iload_n 1, 1, 0, 0, 0, 0, 0), (24, .irem, 1, 0, 0, 0, 0, 0), (25, .ireturn, 1, 0, 0, 0, 0, 0)]
def cm_X11_draws : am_M := fun pc => cd_X11_draws.lookup pc
def cd_X11_drawnDay : List (Nat × am_E) := [(0, .aload_n 0, 1, 0, 0, 0, 0, 0), (1, .aload_n 0, 1, 0, 0, 0, 0, 0), (2, .getfield 32, 3, 8, 4, 0, 0, 0), (5, .bipush 60, 2, 0, 0, 0, (60), 0), (7, .iaload, 1, 0, 0, 0, 0, 0), (8, .invokevirtual 517, 3, 314, 2, 9, 0, 0), (11, .istore_n 2, 1, 0, 0, 0, 0, 0), (12, .aload_n 0, 1, 0, 0, 0, 0, 0), (13, .bipush 10, 2, 0, 0, 0, (10), 0), (15, .invokevirtual 517, 3, 314, 2, 9, 0, 0), (18, .istore_n 3, 1, 0, 0, 0, 0, 0), (19, .iload_n 1, 1, 0, 0, 0, 0, 0), (20, .tableswitch 80 0 2 #[28, 42, 63], 28, 0, 0, 0, 0, 0), (48, .aload_n 0, 1, 0, 0, 0, 0, 0), (49, .aload_n 0, 1, 0, 0, 0, 0, 0), (50, .getfield 32, 3, 8, 4, 0, 0, 0), (53, .iload_n 2, 1, 0, 0, 0, 0, 0), (54, .iload_n 3, 1, 0, 0, 0, 0, 0), (55, .invokevirtual 327, 3, 235, 4, 9, 0, 0), (58, .pop, 1, 0, 0, 0, 0, 0), (59, .goto 59, 3, 118, 0, 0, 0, 0), (62, .aload_n 0, 1, 0, 0, 0, 0, 0), (63, .aload_n 0, 1, 0, 0, 0, 0, 0), (64, .getfield 32, 3, 8, 4, 0, 0, 0), (67, .iload_n 2, 1, 0, 0, 0, 0, 0), (68, .iload_n 3, 1, 0, 0, 0, 0, 0), (69, .aload_n 0, 1, 0, 0, 0, 0, 0), (70, .getfield 32, 3, 8, 4, 0, 0, 0), (73, .iload_n 2, 1, 0, 0, 0, 0, 0), (74, .iaload, 1, 0, 0, 0, 0, 0), (75, .irem, 1, 0, 0, 0, 0, 0), (76, .invokevirtual 336, 3, 237, 4, 9, 0, 0), (79, .pop, 1, 0, 0, 0, 0, 0), (80, .goto 38, 3, 118, 0, 0, 0, 0), (83, .aload_n 0, 1, 0, 0, 0, 0, 0), (84, .aload_n 0, 1, 0, 0, 0, 0, 0), (85, .getfield 32, 3, 8, 4, 0, 0, 0), (88, .iload_n 2, 1, 0, 0, 0, 0, 0), (89, .iconst 0, 1, 0, 0, 0, (0), 0), (90, .iload_n 3, 1, 0, 0, 0, 0, 0), (91, .iconst 4, 1, 0, 0, 0, (4), 0), (92, .irem, 1, 0, 0, 0, 0, 0), (93, .invokevirtual 339, 3, 238, 5, 9, 0, 0), (96, .pop, 1, 0, 0, 0, 0, 0), (97, .goto 21, 3, 118, 0, 0, 0, 0), (100, .aload_n 0, 1, 0, 0, 0, 0, 0), (101, .aload_n 0, 1, 0, 0, 0, 0, 0), (102, .getfield 32, 3, 8, 4, 0, 0, 0), (105, .iload_n 2, 1, 0, 0, 0, 0, 0), (106, .iload_n 3, 1, 0, 0, 0, 0, 0), (107, .aload_n 0, 1, 0, 0, 0, 0, 0), (108, .getfield 32, 3, 8, 4, 0, 0, 0), (111, .iload_n 2, 1, 0, 0, 0, 0, 0), (112, .iaload, 1, 0, 0, 0, 0, 0), (113, .irem, 1, 0, 0, 0, 0, 0), (114, .invokevirtual 342, 3, 240, 4, 9, 0, 0), (117, .pop, 1, 0, 0, 0, 0, 0), (118, .return_, 1, 0, 0, 0, 0, 0)]
def cm_X11_drawnDay : am_M := fun pc => cd_X11_drawnDay.lookup pc
def cd_X11_years : List (Nat × am_E) := [(0, .aload_n 0, 1, 0, 0, 0, 0, 0), (1, .iconst 0, 1, 0, 0, 0, (0), 0), (2, .putfield 3, 3, 8, 0, 0, 0, 0), (5, .iload_n 2, 1, 0, 0, 0, 0, 0), (6, .i2l, 1, 0, 0, 0, 0, 0), (7, .lconst 1, 1, 0, 0, 0, 0, (1)), (8, .ldc2_w 520, 3, 0, 0, 0, 0, (60)), (11, .invokestatic 111, 3, 176, 3, 0, 0, 0), (14, .ifCond .ne 5, 3, 19, 0, 0, 0, 0), (17, .iconst (-1), 1, 0, 0, 0, (-1), 0), (18, .ireturn, 1, 0, 0, 0, 0, 0), (19, .aload_n 0, 1, 0, 0, 0, 0, 0), (20, .iload_n 1, 1, 0, 0, 0, 0, 0), (21, .putfield 513, 3, 8, 42, 0, 0, 0), (24, .iconst 0, 1, 0, 0, 0, (0), 0), (25, .istore_n 3, 1, 0, 0, 0, 0, 0), (26, .iload_n 3, 1, 0, 0, 0, 0, 0), (27, .bipush 61, 2, 0, 0, 0, (61), 0), (29, .if_icmp .ge 21, 3, 50, 0, 0, 0, 0), (32, .aload_n 0, 1, 0, 0, 0, 0, 0), (33, .getfield 32, 3, 8, 4, 0, 0, 0), (36, .iload_n 3, 1, 0, 0, 0, 0, 0), (37, .aload_n 0, 1, 0, 0, 0, 0, 0), (38, .getfield 28, 3, 8, 3, 0, 0, 0), (41, .iload_n 3, 1, 0, 0, 0, 0, 0), (42, .iaload, 1, 0, 0, 0, 0, 0), (43, .iastore, 1, 0, 0, 0, 0, 0), (44, .iinc 3 1, 3, 0, 0, 0, (1), 0), (47, .goto (-21), 3, 26, 0, 0, 0, 0), (50, .iconst 0, 1, 0, 0, 0, (0), 0), (51, .istore_n 3, 1, 0, 0, 0, 0, 0), (52, .iload_n 3, 1, 0, 0, 0, 0, 0), (53, .iload_n 2, 1, 0, 0, 0, 0, 0), (54, .if_icmp .ge 32, 3, 86, 0, 0, 0, 0), (57, .aload_n 0, 1, 0, 0, 0, 0, 0), (58, .iconst 4, 1, 0, 0, 0, (4), 0), (59, .invokevirtual 517, 3, 314, 2, 9, 0, 0), (62, .istore 4, 2, 0, 0, 0, 0, 0), (64, .aload_n 0, 1, 0, 0, 0, 0, 0), (65, .getfield 32, 3, 8, 4, 0, 0, 0), (68, .bipush 60, 2, 0, 0, 0, (60), 0), (70, .iaload, 1, 0, 0, 0, 0, 0), (71, .ifCond .le 9, 3, 80, 0, 0, 0, 0), (74, .aload_n 0, 1, 0, 0, 0, 0, 0), (75, .iload 4, 2, 0, 0, 0, 0, 0), (77, .invokevirtual 522, 3, 315, 2, 9, 0, 0), (80, .iinc 3 1, 3, 0, 0, 0, (1), 0), (83, .goto (-31), 3, 52, 0, 0, 0, 0), (86, .aload_n 0, 1, 0, 0, 0, 0, 0), (87, .iconst 0, 1, 0, 0, 0, (0), 0), (88, .putfield 15, 3, 8, 1, 0, 0, 0), (91, .aload_n 0, 1, 0, 0, 0, 0, 0), (92, .aload_n 0, 1, 0, 0, 0, 0, 0), (93, .aload_n 0, 1, 0, 0, 0, 0, 0), (94, .getfield 32, 3, 8, 4, 0, 0, 0), (97, .invokevirtual 380, 3, 262, 2, 9, 0, 0), (100, .i2l, 1, 0, 0, 0, 0, 0), (101, .invokevirtual 18, 3, 180, 2, 9, 0, 0), (104, .aload_n 0, 1, 0, 0, 0, 0, 0), (105, .aload_n 0, 1, 0, 0, 0, 0, 0), (106, .getfield 32, 3, 8, 4, 0, 0, 0), (109, .invokestatic 287, 3, 185, 1, 0, 0, 0), (112, .i2l, 1, 0, 0, 0, 0, 0), (113, .invokevirtual 18, 3, 180, 2, 9, 0, 0), (116, .aload_n 0, 1, 0, 0, 0, 0, 0), (117, .getfield 32, 3, 8, 4, 0, 0, 0), (120, .invokestatic 525, 3, 186, 1, 0, 0, 0), (123, .ireturn, 1, 0, 0, 0, 0, 0)]
def cm_X11_years : am_M := fun pc => cd_X11_years.lookup pc
def cd_X11_keep : List (Nat × am_E) := [(0, .aload_n 0, 1, 0, 0, 0, 0, 0), (1, .iconst 0, 1, 0, 0, 0, (0), 0), (2, .putfield 3, 3, 8, 0, 0, 0, 0), (5, .iload_n 1, 1, 0, 0, 0, 0, 0), (6, .i2l, 1, 0, 0, 0, 0, 0), (7, .lconst 0, 1, 0, 0, 0, 0, (0)), (8, .ldc2_w 412, 3, 0, 0, 0, 0, (2)), (11, .invokestatic 111, 3, 176, 3, 0, 0, 0), (14, .ifCond .ne 5, 3, 19, 0, 0, 0, 0), (17, .iconst 0, 1, 0, 0, 0, (0), 0), (18, .ireturn, 1, 0, 0, 2, 0, 0), (19, .aload_n 0, 1, 0, 0, 0, 0, 0), (20, .getfield 105, 3, 8, 43, 0, 0, 0), (23, .iload_n 1, 1, 0, 0, 0, 0, 0), (24, .iconst 1, 1, 0, 0, 0, (1), 0), (25, .bastore, 1, 0, 0, 0, 0, 0), (26, .iconst 0, 1, 0, 0, 0, (0), 0), (27, .istore_n 2, 1, 0, 0, 0, 0, 0), (28, .iload_n 2, 1, 0, 0, 0, 0, 0), (29, .bipush 61, 2, 0, 0, 0, (61), 0), (31, .if_icmp .ge 26, 3, 57, 0, 0, 0, 0), (34, .aload_n 0, 1, 0, 0, 0, 0, 0), (35, .getfield 108, 3, 8, 44, 0, 0, 0), (38, .bipush 61, 2, 0, 0, 0, (61), 0), (40, .iload_n 1, 1, 0, 0, 0, 0, 0), (41, .imul, 1, 0, 0, 0, 0, 0), (42, .iload_n 2, 1, 0, 0, 0, 0, 0), (43, .iadd, 1, 0, 0, 0, 0, 0), (44, .aload_n 0, 1, 0, 0, 0, 0, 0), (45, .getfield 28, 3, 8, 3, 0, 0, 0), (48, .iload_n 2, 1, 0, 0, 0, 0, 0), (49, .iaload, 1, 0, 0, 0, 0, 0), (50, .iastore, 1, 0, 0, 0, 0, 0), (51, .iinc 2 1, 3, 0, 0, 0, (1), 0), (54, .goto (-26), 3, 28, 0, 0, 0, 0), (57, .iconst 1, 1, 0, 0, 0, (1), 0), (58, .ireturn, 1, 0, 0, 2, 0, 0)]
def cm_X11_keep : am_M := fun pc => cd_X11_keep.lookup pc
def cd_X11_again : List (Nat × am_E) := [(0, .aload_n 0, 1, 0, 0, 0, 0, 0), (1, .iconst 0, 1, 0, 0, 0, (0), 0), (2, .putfield 3, 3, 8, 0, 0, 0, 0), (5, .iload_n 1, 1, 0, 0, 0, 0, 0), (6, .i2l, 1, 0, 0, 0, 0, 0), (7, .lconst 0, 1, 0, 0, 0, 0, (0)), (8, .ldc2_w 412, 3, 0, 0, 0, 0, (2)), (11, .invokestatic 111, 3, 176, 3, 0, 0, 0), (14, .ifCond .eq 12, 3, 26, 0, 0, 0, 0), (17, .aload_n 0, 1, 0, 0, 0, 0, 0), (18, .getfield 105, 3, 8, 43, 0, 0, 0), (21, .iload_n 1, 1, 0, 0, 0, 0, 0), (22, .baload, 1, 0, 0, 0, 0, 0), (23, .ifCond .ne 5, 3, 28, 0, 0, 0, 0), (26, .iconst 0, 1, 0, 0, 0, (0), 0), (27, .ireturn, 1, 0, 0, 2, 0, 0), (28, .iconst 0, 1, 0, 0, 0, (0), 0), (29, .istore_n 2, 1, 0, 0, 0, 0, 0), (30, .iload_n 2, 1, 0, 0, 0, 0, 0), (31, .bipush 61, 2, 0, 0, 0, (61), 0), (33, .if_icmp .ge 26, 3, 59, 0, 0, 0, 0), (36, .aload_n 0, 1, 0, 0, 0, 0, 0), (37, .getfield 28, 3, 8, 3, 0, 0, 0), (40, .iload_n 2, 1, 0, 0, 0, 0, 0), (41, .aload_n 0, 1, 0, 0, 0, 0, 0), (42, .getfield 108, 3, 8, 44, 0, 0, 0), (45, .bipush 61, 2, 0, 0, 0, (61), 0), (47, .iload_n 1, 1, 0, 0, 0, 0, 0), (48, .imul, 1, 0, 0, 0, 0, 0), (49, .iload_n 2, 1, 0, 0, 0, 0, 0), (50, .iadd, 1, 0, 0, 0, 0, 0), (51, .iaload, 1, 0, 0, 0, 0, 0), (52, .iastore, 1, 0, 0, 0, 0, 0), (53, .iinc 2 1, 3, 0, 0, 0, (1), 0), (56, .goto (-26), 3, 30, 0, 0, 0, 0), (59, .aload_n 0, 1, 0, 0, 0, 0, 0), (60, .iconst 0, 1, 0, 0, 0, (0), 0), (61, .putfield 291, 3, 8, 20, 0, 0, 0), (64, .iconst 1, 1, 0, 0, 0, (1), 0), (65, .ireturn, 1, 0, 0, 2, 0, 0)]
def cm_X11_again : am_M := fun pc => cd_X11_again.lookup pc
def cd_X11_count : List (Nat × am_E) := [(0, .aload_n 0, 1, 0, 0, 0, 0, 0), (1, .iconst 0, 1, 0, 0, 0, (0), 0), (2, .putfield 3, 3, 8, 0, 0, 0, 0), (5, .iload_n 1, 1, 0, 0, 0, 0, 0), (6, .tableswitch 116 0 9 #[54, 62, 70, 78, 86, 91, 96, 101, 106, 111], 54, 0, 0, 0, 0, 0), (60, .aload_n 0, 1, 0, 0, 0, 0, 0), (61, .getfield 28, 3, 8, 3, 0, 0, 0), (64, .bipush 60, 2, 0, 0, 0, (60), 0), (66, .iaload, 1, 0, 0, 0, 0, 0), (67, .ireturn, 1, 0, 0, 0, 0, 0), (68, .aload_n 0, 1, 0, 0, 0, 0, 0), (69, .getfield 28, 3, 8, 3, 0, 0, 0), (72, .invokestatic 525, 3, 186, 1, 0, 0, 0), (75, .ireturn, 1, 0, 0, 0, 0, 0), (76, .aload_n 0, 1, 0, 0, 0, 0, 0), (77, .getfield 28, 3, 8, 3, 0, 0, 0), (80, .invokestatic 287, 3, 185, 1, 0, 0, 0), (83, .ireturn, 1, 0, 0, 0, 0, 0), (84, .aload_n 0, 1, 0, 0, 0, 0, 0), (85, .getfield 28, 3, 8, 3, 0, 0, 0), (88, .bipush 59, 2, 0, 0, 0, (59), 0), (90, .iaload, 1, 0, 0, 0, 0, 0), (91, .ireturn, 1, 0, 0, 0, 0, 0), (92, .aload_n 0, 1, 0, 0, 0, 0, 0), (93, .invokevirtual 502, 3, 223, 1, 9, 0, 0), (96, .ireturn, 1, 0, 0, 0, 0, 0), (97, .aload_n 0, 1, 0, 0, 0, 0, 0), (98, .getfield 472, 3, 8, 33, 0, 0, 0), (101, .ireturn, 1, 0, 0, 0, 0, 0), (102, .aload_n 0, 1, 0, 0, 0, 0, 0), (103, .getfield 488, 3, 8, 36, 0, 0, 0), (106, .ireturn, 1, 0, 0, 0, 0, 0), (107, .aload_n 0, 1, 0, 0, 0, 0, 0), (108, .getfield 291, 3, 8, 20, 0, 0, 0), (111, .ireturn, 1, 0, 0, 0, 0, 0), (112, .aload_n 0, 1, 0, 0, 0, 0, 0), (113, .getfield 15, 3, 8, 1, 0, 0, 0), (116, .ireturn, 1, 0, 0, 0, 0, 0), (117, .aload_n 0, 1, 0, 0, 0, 0, 0), (118, .getfield 115, 3, 8, 6, 0, 0, 0), (121, .ireturn, 1, 0, 0, 0, 0, 0), (122, .bipush (-100), 2, 0, 0, 0, (-100), 0), (124, .ireturn, 1, 0, 0, 0, 0, 0)]
def cm_X11_count : am_M := fun pc => cd_X11_count.lookup pc
def cd_X11_row : List (Nat × am_E) := [(0, .aload_n 0, 1, 0, 0, 0, 0, 0), (1, .iconst 0, 1, 0, 0, 0, (0), 0), (2, .putfield 3, 3, 8, 0, 0, 0, 0), (5, .iload_n 1, 1, 0, 0, 0, 0, 0), (6, .i2l, 1, 0, 0, 0, 0, 0), (7, .lconst 0, 1, 0, 0, 0, 0, (0)), (8, .aload_n 0, 1, 0, 0, 0, 0, 0), (9, .getfield 15, 3, 8, 1, 0, 0, 0), (12, .iconst 1, 1, 0, 0, 0, (1), 0), (13, .isub, 1, 0, 0, 0, 0, 0), (14, .i2l, 1, 0, 0, 0, 0, 0), (15, .invokestatic 111, 3, 176, 3, 0, 0, 0), (18, .ifCond .ne 10, 3, 28, 0, 0, 0, 0), (21, .aload_n 0, 1, 0, 0, 0, 0, 0), (22, .iconst 1, 1, 0, 0, 0, (1), 0), (23, .putfield 3, 3, 8, 0, 0, 0, 0), (26, .lconst 0, 1, 0, 0, 0, 0, (0)), (27, .lreturn, 1, 0, 0, 0, 0, 0), (28, .aload_n 0, 1, 0, 0, 0, 0, 0), (29, .getfield 11, 3, 8, 2, 0, 0, 0), (32, .iload_n 1, 1, 0, 0, 0, 0, 0), (33, .laload, 1, 0, 0, 0, 0, 0), (34, .lreturn, 1, 0, 0, 0, 0, 0)]
def cm_X11_row : am_M := fun pc => cd_X11_row.lookup pc
def cd_J6_numberOfLeadingZeros_0f7a4 : List (Nat × am_E) := [(0, .iload_n 0, 1, 0, 0, 0, 0, 0), (1, .ifCond .gt 14, 3, 15, 0, 0, 0, 0), (4, .iload_n 0, 1, 0, 0, 0, 0, 0), (5, .ifCond .ne 8, 3, 13, 0, 0, 0, 0), (8, .bipush 32, 2, 0, 0, 0, (32), 0), (10, .goto 4, 3, 14, 0, 0, 0, 0), (13, .iconst 0, 1, 0, 0, 0, (0), 0), (14, .ireturn, 1, 0, 0, 0, 0, 0), (15, .bipush 31, 2, 0, 0, 0, (31), 0), (17, .istore_n 1, 1, 0, 0, 0, 0, 0), (18, .iload_n 0, 1, 0, 0, 0, 0, 0), (19, .ldc_w 264, 3, 0, 0, 0, (65536), 0), (22, .if_icmp .lt 11, 3, 33, 0, 0, 0, 0), (25, .iinc 1 (-16), 3, 0, 0, 0, (-16), 0), (28, .iload_n 0, 1, 0, 0, 0, 0, 0), (29, .bipush 16, 2, 0, 0, 0, (16), 0), (31, .iushr, 1, 0, 0, 0, 0, 0), (32, .istore_n 0, 1, 0, 0, 0, 0, 0), (33, .iload_n 0, 1, 0, 0, 0, 0, 0), (34, .sipush 256, 3, 0, 0, 0, (256), 0), (37, .if_icmp .lt 11, 3, 48, 0, 0, 0, 0), (40, .iinc 1 (-8), 3, 0, 0, 0, (-8), 0), (43, .iload_n 0, 1, 0, 0, 0, 0, 0), (44, .bipush 8, 2, 0, 0, 0, (8), 0), (46, .iushr, 1, 0, 0, 0, 0, 0), (47, .istore_n 0, 1, 0, 0, 0, 0, 0), (48, .iload_n 0, 1, 0, 0, 0, 0, 0), (49, .bipush 16, 2, 0, 0, 0, (16), 0), (51, .if_icmp .lt 10, 3, 61, 0, 0, 0, 0), (54, .iinc 1 (-4), 3, 0, 0, 0, (-4), 0), (57, .iload_n 0, 1, 0, 0, 0, 0, 0), (58, .iconst 4, 1, 0, 0, 0, (4), 0), (59, .iushr, 1, 0, 0, 0, 0, 0), (60, .istore_n 0, 1, 0, 0, 0, 0, 0), (61, .iload_n 0, 1, 0, 0, 0, 0, 0), (62, .iconst 4, 1, 0, 0, 0, (4), 0), (63, .if_icmp .lt 10, 3, 73, 0, 0, 0, 0), (66, .iinc 1 (-2), 3, 0, 0, 0, (-2), 0), (69, .iload_n 0, 1, 0, 0, 0, 0, 0), (70, .iconst 2, 1, 0, 0, 0, (2), 0), (71, .iushr, 1, 0, 0, 0, 0, 0), (72, .istore_n 0, 1, 0, 0, 0, 0, 0), (73, .iload_n 1, 1, 0, 0, 0, 0, 0), (74, .iload_n 0, 1, 0, 0, 0, 0, 0), (75, .iconst 1, 1, 0, 0, 0, (1), 0), (76, .iushr, 1, 0, 0, 0, 0, 0), (77, .isub, 1, 0, 0, 0, 0, 0), (78, .ireturn, 1, 0, 0, 0, 0, 0)]
def cm_J6_numberOfLeadingZeros_0f7a4 : am_M := fun pc => cd_J6_numberOfLeadingZeros_0f7a4.lookup pc
def cd_J6_numberOfTrailingZeros_0f7a4 : List (Nat × am_E) := [(0, .iload_n 0, 1, 0, 0, 0, 0, 0), (1, .iconst (-1), 1, 0, 0, 0, (-1), 0), (2, .ixor, 1, 0, 0, 0, 0, 0), (3, .iload_n 0, 1, 0, 0, 0, 0, 0), (4, .iconst 1, 1, 0, 0, 0, (1), 0), (5, .isub, 1, 0, 0, 0, 0, 0), (6, .iand, 1, 0, 0, 0, 0, 0), (7, .istore_n 0, 1, 0, 0, 0, 0, 0), (8, .iload_n 0, 1, 0, 0, 0, 0, 0), (9, .ifCond .gt 8, 3, 17, 0, 0, 0, 0), (12, .iload_n 0, 1, 0, 0, 0, 0, 0), (13, .bipush 32, 2, 0, 0, 0, (32), 0), (15, .iand, 1, 0, 0, 0, 0, 0), (16, .ireturn, 1, 0, 0, 0, 0, 0), (17, .iconst 1, 1, 0, 0, 0, (1), 0), (18, .istore_n 1, 1, 0, 0, 0, 0, 0), (19, .iload_n 0, 1, 0, 0, 0, 0, 0), (20, .ldc_w 264, 3, 0, 0, 0, (65536), 0), (23, .if_icmp .le 11, 3, 34, 0, 0, 0, 0), (26, .iinc 1 16, 3, 0, 0, 0, (16), 0), (29, .iload_n 0, 1, 0, 0, 0, 0, 0), (30, .bipush 16, 2, 0, 0, 0, (16), 0), (32, .iushr, 1, 0, 0, 0, 0, 0), (33, .istore_n 0, 1, 0, 0, 0, 0, 0), (34, .iload_n 0, 1, 0, 0, 0, 0, 0), (35, .sipush 256, 3, 0, 0, 0, (256), 0), (38, .if_icmp .le 11, 3, 49, 0, 0, 0, 0), (41, .iinc 1 8, 3, 0, 0, 0, (8), 0), (44, .iload_n 0, 1, 0, 0, 0, 0, 0), (45, .bipush 8, 2, 0, 0, 0, (8), 0), (47, .iushr, 1, 0, 0, 0, 0, 0), (48, .istore_n 0, 1, 0, 0, 0, 0, 0), (49, .iload_n 0, 1, 0, 0, 0, 0, 0), (50, .bipush 16, 2, 0, 0, 0, (16), 0), (52, .if_icmp .le 10, 3, 62, 0, 0, 0, 0), (55, .iinc 1 4, 3, 0, 0, 0, (4), 0), (58, .iload_n 0, 1, 0, 0, 0, 0, 0), (59, .iconst 4, 1, 0, 0, 0, (4), 0), (60, .iushr, 1, 0, 0, 0, 0, 0), (61, .istore_n 0, 1, 0, 0, 0, 0, 0), (62, .iload_n 0, 1, 0, 0, 0, 0, 0), (63, .iconst 4, 1, 0, 0, 0, (4), 0), (64, .if_icmp .le 10, 3, 74, 0, 0, 0, 0), (67, .iinc 1 2, 3, 0, 0, 0, (2), 0), (70, .iload_n 0, 1, 0, 0, 0, 0, 0), (71, .iconst 2, 1, 0, 0, 0, (2), 0), (72, .iushr, 1, 0, 0, 0, 0, 0), (73, .istore_n 0, 1, 0, 0, 0, 0, 0), (74, .iload_n 1, 1, 0, 0, 0, 0, 0), (75, .iload_n 0, 1, 0, 0, 0, 0, 0), (76, .iconst 1, 1, 0, 0, 0, (1), 0), (77, .iushr, 1, 0, 0, 0, 0, 0), (78, .iadd, 1, 0, 0, 0, 0, 0), (79, .ireturn, 1, 0, 0, 0, 0, 0)]
def cm_J6_numberOfTrailingZeros_0f7a4 : am_M := fun pc => cd_J6_numberOfTrailingZeros_0f7a4.lookup pc
def cd_J6_bitCount_0f7a4 : List (Nat × am_E) := [(0, .iload_n 0, 1, 0, 0, 0, 0, 0), (1, .iload_n 0, 1, 0, 0, 0, 0, 0), (2, .iconst 1, 1, 0, 0, 0, (1), 0), (3, .iushr, 1, 0, 0, 0, 0, 0), (4, .ldc_w 265, 3, 0, 0, 0, (1431655765), 0), (7, .iand, 1, 0, 0, 0, 0, 0), (8, .isub, 1, 0, 0, 0, 0, 0), (9, .istore_n 0, 1, 0, 0, 0, 0, 0), (10, .iload_n 0, 1, 0, 0, 0, 0, 0), (11, .ldc_w 266, 3, 0, 0, 0, (858993459), 0), (14, .iand, 1, 0, 0, 0, 0, 0), (15, .iload_n 0, 1, 0, 0, 0, 0, 0), (16, .iconst 2, 1, 0, 0, 0, (2), 0), (17, .iushr, 1, 0, 0, 0, 0, 0), (18, .ldc_w 266, 3, 0, 0, 0, (858993459), 0), (21, .iand, 1, 0, 0, 0, 0, 0), (22, .iadd, 1, 0, 0, 0, 0, 0), (23, .istore_n 0, 1, 0, 0, 0, 0, 0), (24, .iload_n 0, 1, 0, 0, 0, 0, 0), (25, .iload_n 0, 1, 0, 0, 0, 0, 0), (26, .iconst 4, 1, 0, 0, 0, (4), 0), (27, .iushr, 1, 0, 0, 0, 0, 0), (28, .iadd, 1, 0, 0, 0, 0, 0), (29, .ldc_w 267, 3, 0, 0, 0, (252645135), 0), (32, .iand, 1, 0, 0, 0, 0, 0), (33, .istore_n 0, 1, 0, 0, 0, 0, 0), (34, .iload_n 0, 1, 0, 0, 0, 0, 0), (35, .iload_n 0, 1, 0, 0, 0, 0, 0), (36, .bipush 8, 2, 0, 0, 0, (8), 0), (38, .iushr, 1, 0, 0, 0, 0, 0), (39, .iadd, 1, 0, 0, 0, 0, 0), (40, .istore_n 0, 1, 0, 0, 0, 0, 0), (41, .iload_n 0, 1, 0, 0, 0, 0, 0), (42, .iload_n 0, 1, 0, 0, 0, 0, 0), (43, .bipush 16, 2, 0, 0, 0, (16), 0), (45, .iushr, 1, 0, 0, 0, 0, 0), (46, .iadd, 1, 0, 0, 0, 0, 0), (47, .istore_n 0, 1, 0, 0, 0, 0, 0), (48, .iload_n 0, 1, 0, 0, 0, 0, 0), (49, .bipush 63, 2, 0, 0, 0, (63), 0), (51, .iand, 1, 0, 0, 0, 0, 0), (52, .ireturn, 1, 0, 0, 0, 0, 0)]
def cm_J6_bitCount_0f7a4 : am_M := fun pc => cd_J6_bitCount_0f7a4.lookup pc
def cd_J9_max_7cf53 : List (Nat × am_E) := [(0, .iload_n 0, 1, 0, 0, 0, 0, 0), (1, .iload_n 1, 1, 0, 0, 0, 0, 0), (2, .if_icmp .lt 7, 3, 9, 0, 0, 0, 0), (5, .iload_n 0, 1, 0, 0, 0, 0, 0), (6, .goto 4, 3, 10, 0, 0, 0, 0), (9, .iload_n 1, 1, 0, 0, 0, 0, 0), (10, .ireturn, 1, 0, 0, 0, 0, 0)]
def cm_J9_max_7cf53 : am_M := fun pc => cd_J9_max_7cf53.lookup pc
def cd_J9_min_7cf53 : List (Nat × am_E) := [(0, .iload_n 0, 1, 0, 0, 0, 0, 0), (1, .iload_n 1, 1, 0, 0, 0, 0, 0), (2, .if_icmp .gt 7, 3, 9, 0, 0, 0, 0), (5, .iload_n 0, 1, 0, 0, 0, 0, 0), (6, .goto 4, 3, 10, 0, 0, 0, 0), (9, .iload_n 1, 1, 0, 0, 0, 0, 0), (10, .ireturn, 1, 0, 0, 0, 0, 0)]
def cm_J9_min_7cf53 : am_M := fun pc => cd_J9_min_7cf53.lookup pc
def cd_L_bracelet : List (Nat × am_E) := [(0, .aload_n 3, 1, 0, 0, 0, 0, 0), (1, .iconst 0, 1, 0, 0, 0, (0), 0), (2, .aload_n 0, 1, 0, 0, 0, 0, 0), (3, .iload_n 1, 1, 0, 0, 0, 0, 0), (4, .iload_n 2, 1, 0, 0, 0, 0, 0), (5, .invokevirtual 7, 3, 119, 3, 8, 0, 0), (8, .i2l, 1, 0, 0, 0, 0, 0), (9, .lastore, 1, 0, 0, 0, 0, 0), (10, .goto 7, 3, 17, 0, 0, 0, 0), (13, .astore 4, 2, 0, 0, 0, 0, 0), (15, .iconst 1, 1, 0, 0, 0, (1), 0), (16, .ireturn, 1, 0, 0, 0, 0, 0), (17, .iconst 0, 1, 0, 0, 0, (0), 0), (18, .ireturn, 1, 0, 0, 0, 0, 0)]
def cm_L_bracelet : am_M := fun pc => cd_L_bracelet.lookup pc
def cd_L_bead : List (Nat × am_E) := [(0, .aload_n 3, 1, 0, 0, 0, 0, 0), (1, .iconst 0, 1, 0, 0, 0, (0), 0), (2, .aload_n 0, 1, 0, 0, 0, 0, 0), (3, .iload_n 1, 1, 0, 0, 0, 0, 0), (4, .iload_n 2, 1, 0, 0, 0, 0, 0), (5, .invokevirtual 15, 3, 120, 3, 8, 0, 0), (8, .i2l, 1, 0, 0, 0, 0, 0), (9, .lastore, 1, 0, 0, 0, 0, 0), (10, .goto 7, 3, 17, 0, 0, 0, 0), (13, .astore 4, 2, 0, 0, 0, 0, 0), (15, .iconst 1, 1, 0, 0, 0, (1), 0), (16, .ireturn, 1, 0, 0, 0, 0, 0), (17, .iconst 0, 1, 0, 0, 0, (0), 0), (18, .ireturn, 1, 0, 0, 0, 0, 0)]
def cm_L_bead : am_M := fun pc => cd_L_bead.lookup pc
def cd_L_stock : List (Nat × am_E) := [(0, .aload_n 2, 1, 0, 0, 0, 0, 0), (1, .iconst 0, 1, 0, 0, 0, (0), 0), (2, .aload_n 0, 1, 0, 0, 0, 0, 0), (3, .iload_n 1, 1, 0, 0, 0, 0, 0), (4, .invokevirtual 18, 3, 121, 2, 8, 0, 0), (7, .i2l, 1, 0, 0, 0, 0, 0), (8, .lastore, 1, 0, 0, 0, 0, 0), (9, .goto 6, 3, 15, 0, 0, 0, 0), (12, .astore_n 3, 1, 0, 0, 0, 0, 0), (13, .iconst 1, 1, 0, 0, 0, (1), 0), (14, .ireturn, 1, 0, 0, 0, 0, 0), (15, .iconst 0, 1, 0, 0, 0, (0), 0), (16, .ireturn, 1, 0, 0, 0, 0, 0)]
def cm_L_stock : am_M := fun pc => cd_L_stock.lookup pc
def cd_L_row : List (Nat × am_E) := [(0, .aload_n 2, 1, 0, 0, 0, 0, 0), (1, .iconst 0, 1, 0, 0, 0, (0), 0), (2, .aload_n 0, 1, 0, 0, 0, 0, 0), (3, .iload_n 1, 1, 0, 0, 0, 0, 0), (4, .invokevirtual 22, 3, 166, 2, 8, 0, 0), (7, .lastore, 1, 0, 0, 0, 0, 0), (8, .goto 6, 3, 14, 0, 0, 0, 0), (11, .astore_n 3, 1, 0, 0, 0, 0, 0), (12, .iconst 1, 1, 0, 0, 0, (1), 0), (13, .ireturn, 1, 0, 0, 0, 0, 0), (14, .iconst 0, 1, 0, 0, 0, (0), 0), (15, .ireturn, 1, 0, 0, 0, 0, 0)]
def cm_L_row : am_M := fun pc => cd_L_row.lookup pc
def cd_L_law : List (Nat × am_E) := [(0, .new 8, 3, 7, 0, 0, 0, 0), (3, .dup, 1, 0, 0, 0, 0, 0), (4, .invokespecial 26, 3, 114, 1, 8, 0, 0), (7, .astore_n 1, 1, 0, 0, 0, 0, 0), (8, .new 27, 3, 8, 0, 0, 0, 0), (11, .dup, 1, 0, 0, 0, 0, 0), (12, .invokespecial 29, 3, 182, 1, 9, 0, 0), (15, .astore_n 2, 1, 0, 0, 0, 0, 0), (16, .iconst 1, 1, 0, 0, 0, (1), 0), (17, .newarray .long, 2, 0, 0, 0, 0, 0), (19, .astore_n 3, 1, 0, 0, 0, 0, 0), (20, .iconst 0, 1, 0, 0, 0, (0), 0), (21, .istore 4, 2, 0, 0, 0, 0, 0), (23, .iload 4, 2, 0, 0, 0, 0, 0), (25, .aload_n 0, 1, 0, 0, 0, 0, 0), (26, .arraylength, 1, 0, 0, 0, 0, 0), (27, .iconst 5, 1, 0, 0, 0, (5), 0), (28, .isub, 1, 0, 0, 0, 0, 0), (29, .if_icmp .gt 1792, 3, 1821, 0, 0, 0, 0), (32, .aload_n 0, 1, 0, 0, 0, 0, 0), (33, .iload 4, 2, 0, 0, 0, 0, 0), (35, .iaload, 1, 0, 0, 0, 0, 0), (36, .bipush 63, 2, 0, 0, 0, (63), 0), (38, .iand, 1, 0, 0, 0, 0, 0), (39, .tableswitch 1776 0 51 #[221, 246, 271, 284, 297, 365, 433, 489, 550, 587, 612, 649, 698, 735, 772, 797, 822, 859, 872, 885, 910, 947, 960, 997, 1022, 1059, 1084, 1109, 1146, 1159, 1208, 1233, 1258, 1295, 1320, 1345, 1370, 1407, 1420, 1445, 1470, 1507, 1520, 1533, 1546, 1571, 1584, 1609, 1646, 1671, 1696, 1721], 221, 0, 0, 0, 0, 0), (260, .aload_n 1, 1, 0, 0, 0, 0, 0), (261, .aload_n 0, 1, 0, 0, 0, 0, 0), (262, .iload 4, 2, 0, 0, 0, 0, 0), (264, .iconst 1, 1, 0, 0, 0, (1), 0), (265, .iadd, 1, 0, 0, 0, 0, 0), (266, .iaload, 1, 0, 0, 0, 0, 0), (267, .invokevirtual 30, 3, 115, 2, 8, 0, 0), (270, .aload_n 2, 1, 0, 0, 0, 0, 0), (271, .aload_n 0, 1, 0, 0, 0, 0, 0), (272, .iload 4, 2, 0, 0, 0, 0, 0), (274, .iconst 1, 1, 0, 0, 0, (1), 0), (275, .iadd, 1, 0, 0, 0, 0, 0), (276, .iaload, 1, 0, 0, 0, 0, 0), (277, .invokevirtual 33, 3, 187, 2, 9, 0, 0), (280, .if_icmp .eq 1535, 3, 1815, 0, 0, 0, 0), (283, .iconst 0, 1, 0, 0, 0, (0), 0), (284, .ireturn, 1, 0, 0, 2, 0, 0), (285, .aload_n 1, 1, 0, 0, 0, 0, 0), (286, .aload_n 0, 1, 0, 0, 0, 0, 0), (287, .iload 4, 2, 0, 0, 0, 0, 0), (289, .iconst 1, 1, 0, 0, 0, (1), 0), (290, .iadd, 1, 0, 0, 0, 0, 0), (291, .iaload, 1, 0, 0, 0, 0, 0), (292, .invokevirtual 34, 3, 116, 2, 8, 0, 0), (295, .aload_n 2, 1, 0, 0, 0, 0, 0), (296, .aload_n 0, 1, 0, 0, 0, 0, 0), (297, .iload 4, 2, 0, 0, 0, 0, 0), (299, .iconst 1, 1, 0, 0, 0, (1), 0), (300, .iadd, 1, 0, 0, 0, 0, 0), (301, .iaload, 1, 0, 0, 0, 0, 0), (302, .invokevirtual 38, 3, 188, 2, 9, 0, 0), (305, .if_icmp .eq 1510, 3, 1815, 0, 0, 0, 0), (308, .iconst 0, 1, 0, 0, 0, (0), 0), (309, .ireturn, 1, 0, 0, 2, 0, 0), (310, .aload_n 1, 1, 0, 0, 0, 0, 0), (311, .invokevirtual 39, 3, 117, 1, 8, 0, 0), (314, .aload_n 2, 1, 0, 0, 0, 0, 0), (315, .invokevirtual 43, 3, 246, 1, 9, 0, 0), (318, .if_icmp .eq 1497, 3, 1815, 0, 0, 0, 0), (321, .iconst 0, 1, 0, 0, 0, (0), 0), (322, .ireturn, 1, 0, 0, 2, 0, 0), (323, .aload_n 1, 1, 0, 0, 0, 0, 0), (324, .invokevirtual 44, 3, 118, 1, 8, 0, 0), (327, .aload_n 2, 1, 0, 0, 0, 0, 0), (328, .invokevirtual 47, 3, 218, 1, 9, 0, 0), (331, .if_icmp .eq 1484, 3, 1815, 0, 0, 0, 0), (334, .iconst 0, 1, 0, 0, 0, (0), 0), (335, .ireturn, 1, 0, 0, 2, 0, 0), (336, .aload_n 1, 1, 0, 0, 0, 0, 0), (337, .aload_n 0, 1, 0, 0, 0, 0, 0), (338, .iload 4, 2, 0, 0, 0, 0, 0), (340, .iconst 1, 1, 0, 0, 0, (1), 0), (341, .iadd, 1, 0, 0, 0, 0, 0), (342, .iaload, 1, 0, 0, 0, 0, 0), (343, .aload_n 0, 1, 0, 0, 0, 0, 0), (344, .iload 4, 2, 0, 0, 0, 0, 0), (346, .iconst 2, 1, 0, 0, 0, (2), 0), (347, .iadd, 1, 0, 0, 0, 0, 0), (348, .iaload, 1, 0, 0, 0, 0, 0), (349, .aload_n 3, 1, 0, 0, 0, 0, 0), (350, .invokestatic 48, 3, 600, 4, 0, 0, 0), (353, .istore 5, 2, 0, 0, 0, 0, 0), (355, .aload_n 2, 1, 0, 0, 0, 0, 0), (356, .aload_n 0, 1, 0, 0, 0, 0, 0), (357, .iload 4, 2, 0, 0, 0, 0, 0), (359, .iconst 1, 1, 0, 0, 0, (1), 0), (360, .iadd, 1, 0, 0, 0, 0, 0), (361, .iaload, 1, 0, 0, 0, 0, 0), (362, .aload_n 0, 1, 0, 0, 0, 0, 0), (363, .iload 4, 2, 0, 0, 0, 0, 0), (365, .iconst 2, 1, 0, 0, 0, (2), 0), (366, .iadd, 1, 0, 0, 0, 0, 0), (367, .iaload, 1, 0, 0, 0, 0, 0), (368, .invokevirtual 53, 3, 224, 3, 9, 0, 0), (371, .istore 6, 2, 0, 0, 0, 0, 0), (373, .aload_n 2, 1, 0, 0, 0, 0, 0), (374, .invokevirtual 54, 3, 174, 1, 9, 0, 0), (377, .iload 5, 2, 0, 0, 0, 0, 0), (379, .if_icmp .eq 5, 3, 384, 0, 0, 0, 0), (382, .iconst 0, 1, 0, 0, 0, (0), 0), (383, .ireturn, 1, 0, 0, 2, 0, 0), (384, .iload 5, 2, 0, 0, 0, 0, 0), (386, .ifCond .ne 15, 3, 401, 0, 0, 0, 0), (389, .aload_n 3, 1, 0, 0, 0, 0, 0), (390, .iconst 0, 1, 0, 0, 0, (0), 0), (391, .laload, 1, 0, 0, 0, 0, 0), (392, .iload 6, 2, 0, 0, 0, 0, 0), (394, .i2l, 1, 0, 0, 0, 0, 0), (395, .lcmp, 1, 0, 0, 0, 0, 0), (396, .ifCond .eq 5, 3, 401, 0, 0, 0, 0), (399, .iconst 0, 1, 0, 0, 0, (0), 0), (400, .ireturn, 1, 0, 0, 2, 0, 0), (401, .goto 1414, 3, 1815, 0, 0, 0, 0), (404, .aload_n 1, 1, 0, 0, 0, 0, 0), (405, .aload_n 0, 1, 0, 0, 0, 0, 0), (406, .iload 4, 2, 0, 0, 0, 0, 0), (408, .iconst 1, 1, 0, 0, 0, (1), 0), (409, .iadd, 1, 0, 0, 0, 0, 0), (410, .iaload, 1, 0, 0, 0, 0, 0), (411, .aload_n 0, 1, 0, 0, 0, 0, 0), (412, .iload 4, 2, 0, 0, 0, 0, 0), (414, .iconst 2, 1, 0, 0, 0, (2), 0), (415, .iadd, 1, 0, 0, 0, 0, 0), (416, .iaload, 1, 0, 0, 0, 0, 0), (417, .aload_n 3, 1, 0, 0, 0, 0, 0), (418, .invokestatic 57, 3, 601, 4, 0, 0, 0), (421, .istore 5, 2, 0, 0, 0, 0, 0), (423, .aload_n 2, 1, 0, 0, 0, 0, 0), (424, .aload_n 0, 1, 0, 0, 0, 0, 0), (425, .iload 4, 2, 0, 0, 0, 0, 0), (427, .iconst 1, 1, 0, 0, 0, (1), 0), (428, .iadd, 1, 0, 0, 0, 0, 0), (429, .iaload, 1, 0, 0, 0, 0, 0), (430, .aload_n 0, 1, 0, 0, 0, 0, 0), (431, .iload 4, 2, 0, 0, 0, 0, 0), (433, .iconst 2, 1, 0, 0, 0, (2), 0), (434, .iadd, 1, 0, 0, 0, 0, 0), (435, .iaload, 1, 0, 0, 0, 0, 0), (436, .invokevirtual 59, 3, 225, 3, 9, 0, 0), (439, .istore 6, 2, 0, 0, 0, 0, 0), (441, .aload_n 2, 1, 0, 0, 0, 0, 0), (442, .invokevirtual 54, 3, 174, 1, 9, 0, 0), (445, .iload 5, 2, 0, 0, 0, 0, 0), (447, .if_icmp .eq 5, 3, 452, 0, 0, 0, 0), (450, .iconst 0, 1, 0, 0, 0, (0), 0), (451, .ireturn, 1, 0, 0, 2, 0, 0), (452, .iload 5, 2, 0, 0, 0, 0, 0), (454, .ifCond .ne 15, 3, 469, 0, 0, 0, 0), (457, .aload_n 3, 1, 0, 0, 0, 0, 0), (458, .iconst 0, 1, 0, 0, 0, (0), 0), (459, .laload, 1, 0, 0, 0, 0, 0), (460, .iload 6, 2, 0, 0, 0, 0, 0), (462, .i2l, 1, 0, 0, 0, 0, 0), (463, .lcmp, 1, 0, 0, 0, 0, 0), (464, .ifCond .eq 5, 3, 469, 0, 0, 0, 0), (467, .iconst 0, 1, 0, 0, 0, (0), 0), (468, .ireturn, 1, 0, 0, 2, 0, 0), (469, .goto 1346, 3, 1815, 0, 0, 0, 0), (472, .aload_n 1, 1, 0, 0, 0, 0, 0), (473, .aload_n 0, 1, 0, 0, 0, 0, 0), (474, .iload 4, 2, 0, 0, 0, 0, 0), (476, .iconst 1, 1, 0, 0, 0, (1), 0), (477, .iadd, 1, 0, 0, 0, 0, 0), (478, .iaload, 1, 0, 0, 0, 0, 0), (479, .aload_n 3, 1, 0, 0, 0, 0, 0), (480, .invokestatic 60, 3, 602, 3, 0, 0, 0), (483, .istore 5, 2, 0, 0, 0, 0, 0), (485, .aload_n 2, 1, 0, 0, 0, 0, 0), (486, .aload_n 0, 1, 0, 0, 0, 0, 0), (487, .iload 4, 2, 0, 0, 0, 0, 0), (489, .iconst 1, 1, 0, 0, 0, (1), 0), (490, .iadd, 1, 0, 0, 0, 0, 0), (491, .iaload, 1, 0, 0, 0, 0, 0), (492, .invokevirtual 63, 3, 226, 2, 9, 0, 0), (495, .istore 6, 2, 0, 0, 0, 0, 0), (497, .aload_n 2, 1, 0, 0, 0, 0, 0), (498, .invokevirtual 54, 3, 174, 1, 9, 0, 0), (501, .iload 5, 2, 0, 0, 0, 0, 0), (503, .if_icmp .eq 5, 3, 508, 0, 0, 0, 0), (506, .iconst 0, 1, 0, 0, 0, (0), 0), (507, .ireturn, 1, 0, 0, 2, 0, 0), (508, .iload 5, 2, 0, 0, 0, 0, 0), (510, .ifCond .ne 15, 3, 525, 0, 0, 0, 0), (513, .aload_n 3, 1, 0, 0, 0, 0, 0), (514, .iconst 0, 1, 0, 0, 0, (0), 0), (515, .laload, 1, 0, 0, 0, 0, 0), (516, .iload 6, 2, 0, 0, 0, 0, 0), (518, .i2l, 1, 0, 0, 0, 0, 0), (519, .lcmp, 1, 0, 0, 0, 0, 0), (520, .ifCond .eq 5, 3, 525, 0, 0, 0, 0), (523, .iconst 0, 1, 0, 0, 0, (0), 0), (524, .ireturn, 1, 0, 0, 2, 0, 0), (525, .goto 1290, 3, 1815, 0, 0, 0, 0), (528, .aload_n 1, 1, 0, 0, 0, 0, 0), (529, .aload_n 0, 1, 0, 0, 0, 0, 0), (530, .iload 4, 2, 0, 0, 0, 0, 0), (532, .iconst 1, 1, 0, 0, 0, (1), 0), (533, .iadd, 1, 0, 0, 0, 0, 0), (534, .iaload, 1, 0, 0, 0, 0, 0), (535, .aload_n 0, 1, 0, 0, 0, 0, 0), (536, .iload 4, 2, 0, 0, 0, 0, 0), (538, .iconst 2, 1, 0, 0, 0, (2), 0), (539, .iadd, 1, 0, 0, 0, 0, 0), (540, .iaload, 1, 0, 0, 0, 0, 0), (541, .aload_n 0, 1, 0, 0, 0, 0, 0), (542, .iload 4, 2, 0, 0, 0, 0, 0), (544, .iconst 3, 1, 0, 0, 0, (3), 0), (545, .iadd, 1, 0, 0, 0, 0, 0), (546, .iaload, 1, 0, 0, 0, 0, 0), (547, .aload_n 0, 1, 0, 0, 0, 0, 0), (548, .iload 4, 2, 0, 0, 0, 0, 0), (550, .iconst 4, 1, 0, 0, 0, (4), 0), (551, .iadd, 1, 0, 0, 0, 0, 0), (552, .iaload, 1, 0, 0, 0, 0, 0), (553, .invokevirtual 64, 3, 122, 5, 8, 0, 0), (556, .aload_n 2, 1, 0, 0, 0, 0, 0), (557, .aload_n 0, 1, 0, 0, 0, 0, 0), (558, .iload 4, 2, 0, 0, 0, 0, 0), (560, .iconst 1, 1, 0, 0, 0, (1), 0), (561, .iadd, 1, 0, 0, 0, 0, 0), (562, .iaload, 1, 0, 0, 0, 0, 0), (563, .aload_n 0, 1, 0, 0, 0, 0, 0), (564, .iload 4, 2, 0, 0, 0, 0, 0), (566, .iconst 2, 1, 0, 0, 0, (2), 0), (567, .iadd, 1, 0, 0, 0, 0, 0), (568, .iaload, 1, 0, 0, 0, 0, 0), (569, .aload_n 0, 1, 0, 0, 0, 0, 0), (570, .iload 4, 2, 0, 0, 0, 0, 0), (572, .iconst 3, 1, 0, 0, 0, (3), 0), (573, .iadd, 1, 0, 0, 0, 0, 0), (574, .iaload, 1, 0, 0, 0, 0, 0), (575, .aload_n 0, 1, 0, 0, 0, 0, 0), (576, .iload 4, 2, 0, 0, 0, 0, 0), (578, .iconst 4, 1, 0, 0, 0, (4), 0), (579, .iadd, 1, 0, 0, 0, 0, 0), (580, .iaload, 1, 0, 0, 0, 0, 0), (581, .invokevirtual 68, 3, 227, 5, 9, 0, 0), (584, .if_icmp .eq 1231, 3, 1815, 0, 0, 0, 0), (587, .iconst 0, 1, 0, 0, 0, (0), 0), (588, .ireturn, 1, 0, 0, 2, 0, 0), (589, .aload_n 1, 1, 0, 0, 0, 0, 0), (590, .aload_n 0, 1, 0, 0, 0, 0, 0), (591, .iload 4, 2, 0, 0, 0, 0, 0), (593, .iconst 1, 1, 0, 0, 0, (1), 0), (594, .iadd, 1, 0, 0, 0, 0, 0), (595, .iaload, 1, 0, 0, 0, 0, 0), (596, .aload_n 0, 1, 0, 0, 0, 0, 0), (597, .iload 4, 2, 0, 0, 0, 0, 0), (599, .iconst 2, 1, 0, 0, 0, (2), 0), (600, .iadd, 1, 0, 0, 0, 0, 0), (601, .iaload, 1, 0, 0, 0, 0, 0), (602, .invokevirtual 69, 3, 123, 3, 8, 0, 0), (605, .aload_n 2, 1, 0, 0, 0, 0, 0), (606, .aload_n 0, 1, 0, 0, 0, 0, 0), (607, .iload 4, 2, 0, 0, 0, 0, 0), (609, .iconst 1, 1, 0, 0, 0, (1), 0), (610, .iadd, 1, 0, 0, 0, 0, 0), (611, .iaload, 1, 0, 0, 0, 0, 0), (612, .aload_n 0, 1, 0, 0, 0, 0, 0), (613, .iload 4, 2, 0, 0, 0, 0, 0), (615, .iconst 2, 1, 0, 0, 0, (2), 0), (616, .iadd, 1, 0, 0, 0, 0, 0), (617, .iaload, 1, 0, 0, 0, 0, 0), (618, .invokevirtual 72, 3, 247, 3, 9, 0, 0), (621, .if_icmp .eq 1194, 3, 1815, 0, 0, 0, 0), (624, .iconst 0, 1, 0, 0, 0, (0), 0), (625, .ireturn, 1, 0, 0, 2, 0, 0), (626, .aload_n 1, 1, 0, 0, 0, 0, 0), (627, .aload_n 0, 1, 0, 0, 0, 0, 0), (628, .iload 4, 2, 0, 0, 0, 0, 0), (630, .iconst 1, 1, 0, 0, 0, (1), 0), (631, .iadd, 1, 0, 0, 0, 0, 0), (632, .iaload, 1, 0, 0, 0, 0, 0), (633, .invokevirtual 73, 3, 124, 2, 8, 0, 0), (636, .aload_n 2, 1, 0, 0, 0, 0, 0), (637, .aload_n 0, 1, 0, 0, 0, 0, 0), (638, .iload 4, 2, 0, 0, 0, 0, 0), (640, .iconst 1, 1, 0, 0, 0, (1), 0), (641, .iadd, 1, 0, 0, 0, 0, 0), (642, .iaload, 1, 0, 0, 0, 0, 0), (643, .invokevirtual 76, 3, 248, 2, 9, 0, 0), (646, .if_icmp .eq 1169, 3, 1815, 0, 0, 0, 0), (649, .iconst 0, 1, 0, 0, 0, (0), 0), (650, .ireturn, 1, 0, 0, 2, 0, 0), (651, .aload_n 1, 1, 0, 0, 0, 0, 0), (652, .aload_n 0, 1, 0, 0, 0, 0, 0), (653, .iload 4, 2, 0, 0, 0, 0, 0), (655, .iconst 1, 1, 0, 0, 0, (1), 0), (656, .iadd, 1, 0, 0, 0, 0, 0), (657, .iaload, 1, 0, 0, 0, 0, 0), (658, .aload_n 0, 1, 0, 0, 0, 0, 0), (659, .iload 4, 2, 0, 0, 0, 0, 0), (661, .iconst 2, 1, 0, 0, 0, (2), 0), (662, .iadd, 1, 0, 0, 0, 0, 0), (663, .iaload, 1, 0, 0, 0, 0, 0), (664, .invokevirtual 77, 3, 125, 3, 8, 0, 0), (667, .aload_n 2, 1, 0, 0, 0, 0, 0), (668, .aload_n 0, 1, 0, 0, 0, 0, 0), (669, .iload 4, 2, 0, 0, 0, 0, 0), (671, .iconst 1, 1, 0, 0, 0, (1), 0), (672, .iadd, 1, 0, 0, 0, 0, 0), (673, .iaload, 1, 0, 0, 0, 0, 0), (674, .aload_n 0, 1, 0, 0, 0, 0, 0), (675, .iload 4, 2, 0, 0, 0, 0, 0), (677, .iconst 2, 1, 0, 0, 0, (2), 0), (678, .iadd, 1, 0, 0, 0, 0, 0), (679, .iaload, 1, 0, 0, 0, 0, 0), (680, .invokevirtual 80, 3, 249, 3, 9, 0, 0), (683, .if_icmp .eq 1132, 3, 1815, 0, 0, 0, 0), (686, .iconst 0, 1, 0, 0, 0, (0), 0), (687, .ireturn, 1, 0, 0, 2, 0, 0), (688, .aload_n 1, 1, 0, 0, 0, 0, 0), (689, .aload_n 0, 1, 0, 0, 0, 0, 0), (690, .iload 4, 2, 0, 0, 0, 0, 0), (692, .iconst 1, 1, 0, 0, 0, (1), 0), (693, .iadd, 1, 0, 0, 0, 0, 0), (694, .iaload, 1, 0, 0, 0, 0, 0), (695, .aload_n 0, 1, 0, 0, 0, 0, 0), (696, .iload 4, 2, 0, 0, 0, 0, 0), (698, .iconst 2, 1, 0, 0, 0, (2), 0), (699, .iadd, 1, 0, 0, 0, 0, 0), (700, .iaload, 1, 0, 0, 0, 0, 0), (701, .aload_n 0, 1, 0, 0, 0, 0, 0), (702, .iload 4, 2, 0, 0, 0, 0, 0), (704, .iconst 3, 1, 0, 0, 0, (3), 0), (705, .iadd, 1, 0, 0, 0, 0, 0), (706, .iaload, 1, 0, 0, 0, 0, 0), (707, .invokevirtual 81, 3, 126, 4, 8, 0, 0), (710, .aload_n 2, 1, 0, 0, 0, 0, 0), (711, .aload_n 0, 1, 0, 0, 0, 0, 0), (712, .iload 4, 2, 0, 0, 0, 0, 0), (714, .iconst 1, 1, 0, 0, 0, (1), 0), (715, .iadd, 1, 0, 0, 0, 0, 0), (716, .iaload, 1, 0, 0, 0, 0, 0), (717, .aload_n 0, 1, 0, 0, 0, 0, 0), (718, .iload 4, 2, 0, 0, 0, 0, 0), (720, .iconst 2, 1, 0, 0, 0, (2), 0), (721, .iadd, 1, 0, 0, 0, 0, 0), (722, .iaload, 1, 0, 0, 0, 0, 0), (723, .aload_n 0, 1, 0, 0, 0, 0, 0), (724, .iload 4, 2, 0, 0, 0, 0, 0), (726, .iconst 3, 1, 0, 0, 0, (3), 0), (727, .iadd, 1, 0, 0, 0, 0, 0), (728, .iaload, 1, 0, 0, 0, 0, 0), (729, .invokevirtual 85, 3, 250, 4, 9, 0, 0), (732, .if_icmp .eq 1083, 3, 1815, 0, 0, 0, 0), (735, .iconst 0, 1, 0, 0, 0, (0), 0), (736, .ireturn, 1, 0, 0, 2, 0, 0), (737, .aload_n 1, 1, 0, 0, 0, 0, 0), (738, .aload_n 0, 1, 0, 0, 0, 0, 0), (739, .iload 4, 2, 0, 0, 0, 0, 0), (741, .iconst 1, 1, 0, 0, 0, (1), 0), (742, .iadd, 1, 0, 0, 0, 0, 0), (743, .iaload, 1, 0, 0, 0, 0, 0), (744, .aload_n 0, 1, 0, 0, 0, 0, 0), (745, .iload 4, 2, 0, 0, 0, 0, 0), (747, .iconst 2, 1, 0, 0, 0, (2), 0), (748, .iadd, 1, 0, 0, 0, 0, 0), (749, .iaload, 1, 0, 0, 0, 0, 0), (750, .invokevirtual 86, 3, 127, 3, 8, 0, 0), (753, .aload_n 2, 1, 0, 0, 0, 0, 0), (754, .aload_n 0, 1, 0, 0, 0, 0, 0), (755, .iload 4, 2, 0, 0, 0, 0, 0), (757, .iconst 1, 1, 0, 0, 0, (1), 0), (758, .iadd, 1, 0, 0, 0, 0, 0), (759, .iaload, 1, 0, 0, 0, 0, 0), (760, .aload_n 0, 1, 0, 0, 0, 0, 0), (761, .iload 4, 2, 0, 0, 0, 0, 0), (763, .iconst 2, 1, 0, 0, 0, (2), 0), (764, .iadd, 1, 0, 0, 0, 0, 0), (765, .iaload, 1, 0, 0, 0, 0, 0), (766, .invokevirtual 89, 3, 251, 3, 9, 0, 0), (769, .if_icmp .eq 1046, 3, 1815, 0, 0, 0, 0), (772, .iconst 0, 1, 0, 0, 0, (0), 0), (773, .ireturn, 1, 0, 0, 2, 0, 0), (774, .aload_n 1, 1, 0, 0, 0, 0, 0), (775, .aload_n 0, 1, 0, 0, 0, 0, 0), (776, .iload 4, 2, 0, 0, 0, 0, 0), (778, .iconst 1, 1, 0, 0, 0, (1), 0), (779, .iadd, 1, 0, 0, 0, 0, 0), (780, .iaload, 1, 0, 0, 0, 0, 0), (781, .aload_n 0, 1, 0, 0, 0, 0, 0), (782, .iload 4, 2, 0, 0, 0, 0, 0), (784, .iconst 2, 1, 0, 0, 0, (2), 0), (785, .iadd, 1, 0, 0, 0, 0, 0), (786, .iaload, 1, 0, 0, 0, 0, 0), (787, .invokevirtual 90, 3, 128, 3, 8, 0, 0), (790, .aload_n 2, 1, 0, 0, 0, 0, 0), (791, .aload_n 0, 1, 0, 0, 0, 0, 0), (792, .iload 4, 2, 0, 0, 0, 0, 0), (794, .iconst 1, 1, 0, 0, 0, (1), 0), (795, .iadd, 1, 0, 0, 0, 0, 0), (796, .iaload, 1, 0, 0, 0, 0, 0), (797, .aload_n 0, 1, 0, 0, 0, 0, 0), (798, .iload 4, 2, 0, 0, 0, 0, 0), (800, .iconst 2, 1, 0, 0, 0, (2), 0), (801, .iadd, 1, 0, 0, 0, 0, 0), (802, .iaload, 1, 0, 0, 0, 0, 0), (803, .invokevirtual 93, 3, 252, 3, 9, 0, 0), (806, .if_icmp .eq 1009, 3, 1815, 0, 0, 0, 0), (809, .iconst 0, 1, 0, 0, 0, (0), 0), (810, .ireturn, 1, 0, 0, 2, 0, 0), (811, .aload_n 1, 1, 0, 0, 0, 0, 0), (812, .aload_n 0, 1, 0, 0, 0, 0, 0), (813, .iload 4, 2, 0, 0, 0, 0, 0), (815, .iconst 1, 1, 0, 0, 0, (1), 0), (816, .iadd, 1, 0, 0, 0, 0, 0), (817, .iaload, 1, 0, 0, 0, 0, 0), (818, .invokevirtual 94, 3, 129, 2, 8, 0, 0), (821, .aload_n 2, 1, 0, 0, 0, 0, 0), (822, .aload_n 0, 1, 0, 0, 0, 0, 0), (823, .iload 4, 2, 0, 0, 0, 0, 0), (825, .iconst 1, 1, 0, 0, 0, (1), 0), (826, .iadd, 1, 0, 0, 0, 0, 0), (827, .iaload, 1, 0, 0, 0, 0, 0), (828, .invokevirtual 97, 3, 253, 2, 9, 0, 0), (831, .if_icmp .eq 984, 3, 1815, 0, 0, 0, 0), (834, .iconst 0, 1, 0, 0, 0, (0), 0), (835, .ireturn, 1, 0, 0, 2, 0, 0), (836, .aload_n 1, 1, 0, 0, 0, 0, 0), (837, .aload_n 0, 1, 0, 0, 0, 0, 0), (838, .iload 4, 2, 0, 0, 0, 0, 0), (840, .iconst 1, 1, 0, 0, 0, (1), 0), (841, .iadd, 1, 0, 0, 0, 0, 0), (842, .iaload, 1, 0, 0, 0, 0, 0), (843, .invokevirtual 98, 3, 130, 2, 8, 0, 0), (846, .aload_n 2, 1, 0, 0, 0, 0, 0), (847, .aload_n 0, 1, 0, 0, 0, 0, 0), (848, .iload 4, 2, 0, 0, 0, 0, 0), (850, .iconst 1, 1, 0, 0, 0, (1), 0), (851, .iadd, 1, 0, 0, 0, 0, 0), (852, .iaload, 1, 0, 0, 0, 0, 0), (853, .invokevirtual 101, 3, 254, 2, 9, 0, 0), (856, .if_icmp .eq 959, 3, 1815, 0, 0, 0, 0), (859, .iconst 0, 1, 0, 0, 0, (0), 0), (860, .ireturn, 1, 0, 0, 2, 0, 0), (861, .aload_n 1, 1, 0, 0, 0, 0, 0), (862, .aload_n 0, 1, 0, 0, 0, 0, 0), (863, .iload 4, 2, 0, 0, 0, 0, 0), (865, .iconst 1, 1, 0, 0, 0, (1), 0), (866, .iadd, 1, 0, 0, 0, 0, 0), (867, .iaload, 1, 0, 0, 0, 0, 0), (868, .aload_n 0, 1, 0, 0, 0, 0, 0), (869, .iload 4, 2, 0, 0, 0, 0, 0), (871, .iconst 2, 1, 0, 0, 0, (2), 0), (872, .iadd, 1, 0, 0, 0, 0, 0), (873, .iaload, 1, 0, 0, 0, 0, 0), (874, .invokevirtual 102, 3, 131, 3, 8, 0, 0), (877, .aload_n 2, 1, 0, 0, 0, 0, 0), (878, .aload_n 0, 1, 0, 0, 0, 0, 0), (879, .iload 4, 2, 0, 0, 0, 0, 0), (881, .iconst 1, 1, 0, 0, 0, (1), 0), (882, .iadd, 1, 0, 0, 0, 0, 0), (883, .iaload, 1, 0, 0, 0, 0, 0), (884, .aload_n 0, 1, 0, 0, 0, 0, 0), (885, .iload 4, 2, 0, 0, 0, 0, 0), (887, .iconst 2, 1, 0, 0, 0, (2), 0), (888, .iadd, 1, 0, 0, 0, 0, 0), (889, .iaload, 1, 0, 0, 0, 0, 0), (890, .invokevirtual 105, 3, 255, 3, 9, 0, 0), (893, .if_icmp .eq 922, 3, 1815, 0, 0, 0, 0), (896, .iconst 0, 1, 0, 0, 0, (0), 0), (897, .ireturn, 1, 0, 0, 2, 0, 0), (898, .aload_n 1, 1, 0, 0, 0, 0, 0), (899, .invokevirtual 106, 3, 132, 1, 8, 0, 0), (902, .aload_n 2, 1, 0, 0, 0, 0, 0), (903, .invokevirtual 109, 3, 258, 1, 9, 0, 0), (906, .if_icmp .eq 909, 3, 1815, 0, 0, 0, 0), (909, .iconst 0, 1, 0, 0, 0, (0), 0), (910, .ireturn, 1, 0, 0, 2, 0, 0), (911, .aload_n 1, 1, 0, 0, 0, 0, 0), (912, .invokevirtual 110, 3, 133, 1, 8, 0, 0), (915, .aload_n 2, 1, 0, 0, 0, 0, 0), (916, .invokevirtual 113, 3, 231, 1, 9, 0, 0), (919, .if_icmp .eq 896, 3, 1815, 0, 0, 0, 0), (922, .iconst 0, 1, 0, 0, 0, (0), 0), (923, .ireturn, 1, 0, 0, 2, 0, 0), (924, .aload_n 1, 1, 0, 0, 0, 0, 0), (925, .aload_n 0, 1, 0, 0, 0, 0, 0), (926, .iload 4, 2, 0, 0, 0, 0, 0), (928, .iconst 1, 1, 0, 0, 0, (1), 0), (929, .iadd, 1, 0, 0, 0, 0, 0), (930, .iaload, 1, 0, 0, 0, 0, 0), (931, .invokevirtual 114, 3, 134, 2, 8, 0, 0), (934, .aload_n 2, 1, 0, 0, 0, 0, 0), (935, .aload_n 0, 1, 0, 0, 0, 0, 0), (936, .iload 4, 2, 0, 0, 0, 0, 0), (938, .iconst 1, 1, 0, 0, 0, (1), 0), (939, .iadd, 1, 0, 0, 0, 0, 0), (940, .iaload, 1, 0, 0, 0, 0, 0), (941, .invokevirtual 117, 3, 259, 2, 9, 0, 0), (944, .if_icmp .eq 871, 3, 1815, 0, 0, 0, 0), (947, .iconst 0, 1, 0, 0, 0, (0), 0), (948, .ireturn, 1, 0, 0, 2, 0, 0), (949, .aload_n 1, 1, 0, 0, 0, 0, 0), (950, .aload_n 0, 1, 0, 0, 0, 0, 0), (951, .iload 4, 2, 0, 0, 0, 0, 0), (953, .iconst 1, 1, 0, 0, 0, (1), 0), (954, .iadd, 1, 0, 0, 0, 0, 0), (955, .iaload, 1, 0, 0, 0, 0, 0), (956, .aload_n 0, 1, 0, 0, 0, 0, 0), (957, .iload 4, 2, 0, 0, 0, 0, 0), (959, .iconst 2, 1, 0, 0, 0, (2), 0), (960, .iadd, 1, 0, 0, 0, 0, 0), (961, .iaload, 1, 0, 0, 0, 0, 0), (962, .invokevirtual 118, 3, 135, 3, 8, 0, 0), (965, .aload_n 2, 1, 0, 0, 0, 0, 0), (966, .aload_n 0, 1, 0, 0, 0, 0, 0), (967, .iload 4, 2, 0, 0, 0, 0, 0), (969, .iconst 1, 1, 0, 0, 0, (1), 0), (970, .iadd, 1, 0, 0, 0, 0, 0), (971, .iaload, 1, 0, 0, 0, 0, 0), (972, .aload_n 0, 1, 0, 0, 0, 0, 0), (973, .iload 4, 2, 0, 0, 0, 0, 0), (975, .iconst 2, 1, 0, 0, 0, (2), 0), (976, .iadd, 1, 0, 0, 0, 0, 0), (977, .iaload, 1, 0, 0, 0, 0, 0), (978, .invokevirtual 121, 3, 260, 3, 9, 0, 0), (981, .if_icmp .eq 834, 3, 1815, 0, 0, 0, 0), (984, .iconst 0, 1, 0, 0, 0, (0), 0), (985, .ireturn, 1, 0, 0, 2, 0, 0), (986, .aload_n 1, 1, 0, 0, 0, 0, 0), (987, .invokevirtual 122, 3, 136, 1, 8, 0, 0), (990, .aload_n 2, 1, 0, 0, 0, 0, 0), (991, .invokevirtual 125, 3, 263, 1, 9, 0, 0), (994, .if_icmp .eq 821, 3, 1815, 0, 0, 0, 0), (997, .iconst 0, 1, 0, 0, 0, (0), 0), (998, .ireturn, 1, 0, 0, 2, 0, 0), (999, .aload_n 1, 1, 0, 0, 0, 0, 0), (1000, .aload_n 0, 1, 0, 0, 0, 0, 0), (1001, .iload 4, 2, 0, 0, 0, 0, 0), (1003, .iconst 1, 1, 0, 0, 0, (1), 0), (1004, .iadd, 1, 0, 0, 0, 0, 0), (1005, .iaload, 1, 0, 0, 0, 0, 0), (1006, .aload_n 0, 1, 0, 0, 0, 0, 0), (1007, .iload 4, 2, 0, 0, 0, 0, 0), (1009, .iconst 2, 1, 0, 0, 0, (2), 0), (1010, .iadd, 1, 0, 0, 0, 0, 0), (1011, .iaload, 1, 0, 0, 0, 0, 0), (1012, .invokevirtual 126, 3, 137, 3, 8, 0, 0), (1015, .aload_n 2, 1, 0, 0, 0, 0, 0), (1016, .aload_n 0, 1, 0, 0, 0, 0, 0), (1017, .iload 4, 2, 0, 0, 0, 0, 0), (1019, .iconst 1, 1, 0, 0, 0, (1), 0), (1020, .iadd, 1, 0, 0, 0, 0, 0), (1021, .iaload, 1, 0, 0, 0, 0, 0), (1022, .aload_n 0, 1, 0, 0, 0, 0, 0), (1023, .iload 4, 2, 0, 0, 0, 0, 0), (1025, .iconst 2, 1, 0, 0, 0, (2), 0), (1026, .iadd, 1, 0, 0, 0, 0, 0), (1027, .iaload, 1, 0, 0, 0, 0, 0), (1028, .invokevirtual 129, 3, 264, 3, 9, 0, 0), (1031, .if_icmp .eq 784, 3, 1815, 0, 0, 0, 0), (1034, .iconst 0, 1, 0, 0, 0, (0), 0), (1035, .ireturn, 1, 0, 0, 2, 0, 0), (1036, .aload_n 1, 1, 0, 0, 0, 0, 0), (1037, .aload_n 0, 1, 0, 0, 0, 0, 0), (1038, .iload 4, 2, 0, 0, 0, 0, 0), (1040, .iconst 1, 1, 0, 0, 0, (1), 0), (1041, .iadd, 1, 0, 0, 0, 0, 0), (1042, .iaload, 1, 0, 0, 0, 0, 0), (1043, .invokevirtual 130, 3, 138, 2, 8, 0, 0), (1046, .aload_n 2, 1, 0, 0, 0, 0, 0), (1047, .aload_n 0, 1, 0, 0, 0, 0, 0), (1048, .iload 4, 2, 0, 0, 0, 0, 0), (1050, .iconst 1, 1, 0, 0, 0, (1), 0), (1051, .iadd, 1, 0, 0, 0, 0, 0), (1052, .iaload, 1, 0, 0, 0, 0, 0), (1053, .invokevirtual 133, 3, 265, 2, 9, 0, 0), (1056, .if_icmp .eq 759, 3, 1815, 0, 0, 0, 0), (1059, .iconst 0, 1, 0, 0, 0, (0), 0), (1060, .ireturn, 1, 0, 0, 2, 0, 0), (1061, .aload_n 1, 1, 0, 0, 0, 0, 0), (1062, .aload_n 0, 1, 0, 0, 0, 0, 0), (1063, .iload 4, 2, 0, 0, 0, 0, 0), (1065, .iconst 1, 1, 0, 0, 0, (1), 0), (1066, .iadd, 1, 0, 0, 0, 0, 0), (1067, .iaload, 1, 0, 0, 0, 0, 0), (1068, .aload_n 0, 1, 0, 0, 0, 0, 0), (1069, .iload 4, 2, 0, 0, 0, 0, 0), (1071, .iconst 2, 1, 0, 0, 0, (2), 0), (1072, .iadd, 1, 0, 0, 0, 0, 0), (1073, .iaload, 1, 0, 0, 0, 0, 0), (1074, .invokevirtual 134, 3, 139, 3, 8, 0, 0), (1077, .aload_n 2, 1, 0, 0, 0, 0, 0), (1078, .aload_n 0, 1, 0, 0, 0, 0, 0), (1079, .iload 4, 2, 0, 0, 0, 0, 0), (1081, .iconst 1, 1, 0, 0, 0, (1), 0), (1082, .iadd, 1, 0, 0, 0, 0, 0), (1083, .iaload, 1, 0, 0, 0, 0, 0), (1084, .aload_n 0, 1, 0, 0, 0, 0, 0), (1085, .iload 4, 2, 0, 0, 0, 0, 0), (1087, .iconst 2, 1, 0, 0, 0, (2), 0), (1088, .iadd, 1, 0, 0, 0, 0, 0), (1089, .iaload, 1, 0, 0, 0, 0, 0), (1090, .invokevirtual 137, 3, 267, 3, 9, 0, 0), (1093, .if_icmp .eq 722, 3, 1815, 0, 0, 0, 0), (1096, .iconst 0, 1, 0, 0, 0, (0), 0), (1097, .ireturn, 1, 0, 0, 2, 0, 0), (1098, .aload_n 1, 1, 0, 0, 0, 0, 0), (1099, .aload_n 0, 1, 0, 0, 0, 0, 0), (1100, .iload 4, 2, 0, 0, 0, 0, 0), (1102, .iconst 1, 1, 0, 0, 0, (1), 0), (1103, .iadd, 1, 0, 0, 0, 0, 0), (1104, .iaload, 1, 0, 0, 0, 0, 0), (1105, .invokevirtual 138, 3, 140, 2, 8, 0, 0), (1108, .aload_n 2, 1, 0, 0, 0, 0, 0), (1109, .aload_n 0, 1, 0, 0, 0, 0, 0), (1110, .iload 4, 2, 0, 0, 0, 0, 0), (1112, .iconst 1, 1, 0, 0, 0, (1), 0), (1113, .iadd, 1, 0, 0, 0, 0, 0), (1114, .iaload, 1, 0, 0, 0, 0, 0), (1115, .invokevirtual 141, 3, 268, 2, 9, 0, 0), (1118, .if_icmp .eq 697, 3, 1815, 0, 0, 0, 0), (1121, .iconst 0, 1, 0, 0, 0, (0), 0), (1122, .ireturn, 1, 0, 0, 2, 0, 0), (1123, .aload_n 1, 1, 0, 0, 0, 0, 0), (1124, .aload_n 0, 1, 0, 0, 0, 0, 0), (1125, .iload 4, 2, 0, 0, 0, 0, 0), (1127, .iconst 1, 1, 0, 0, 0, (1), 0), (1128, .iadd, 1, 0, 0, 0, 0, 0), (1129, .iaload, 1, 0, 0, 0, 0, 0), (1130, .invokevirtual 142, 3, 141, 2, 8, 0, 0), (1133, .aload_n 2, 1, 0, 0, 0, 0, 0), (1134, .aload_n 0, 1, 0, 0, 0, 0, 0), (1135, .iload 4, 2, 0, 0, 0, 0, 0), (1137, .iconst 1, 1, 0, 0, 0, (1), 0), (1138, .iadd, 1, 0, 0, 0, 0, 0), (1139, .iaload, 1, 0, 0, 0, 0, 0), (1140, .invokevirtual 145, 3, 270, 2, 9, 0, 0), (1143, .if_icmp .eq 672, 3, 1815, 0, 0, 0, 0), (1146, .iconst 0, 1, 0, 0, 0, (0), 0), (1147, .ireturn, 1, 0, 0, 2, 0, 0), (1148, .aload_n 1, 1, 0, 0, 0, 0, 0), (1149, .aload_n 0, 1, 0, 0, 0, 0, 0), (1150, .iload 4, 2, 0, 0, 0, 0, 0), (1152, .iconst 1, 1, 0, 0, 0, (1), 0), (1153, .iadd, 1, 0, 0, 0, 0, 0), (1154, .iaload, 1, 0, 0, 0, 0, 0), (1155, .aload_n 0, 1, 0, 0, 0, 0, 0), (1156, .iload 4, 2, 0, 0, 0, 0, 0), (1158, .iconst 2, 1, 0, 0, 0, (2), 0), (1159, .iadd, 1, 0, 0, 0, 0, 0), (1160, .iaload, 1, 0, 0, 0, 0, 0), (1161, .invokevirtual 146, 3, 142, 3, 8, 0, 0), (1164, .aload_n 2, 1, 0, 0, 0, 0, 0), (1165, .aload_n 0, 1, 0, 0, 0, 0, 0), (1166, .iload 4, 2, 0, 0, 0, 0, 0), (1168, .iconst 1, 1, 0, 0, 0, (1), 0), (1169, .iadd, 1, 0, 0, 0, 0, 0), (1170, .iaload, 1, 0, 0, 0, 0, 0), (1171, .aload_n 0, 1, 0, 0, 0, 0, 0), (1172, .iload 4, 2, 0, 0, 0, 0, 0), (1174, .iconst 2, 1, 0, 0, 0, (2), 0), (1175, .iadd, 1, 0, 0, 0, 0, 0), (1176, .iaload, 1, 0, 0, 0, 0, 0), (1177, .invokevirtual 149, 3, 273, 3, 9, 0, 0), (1180, .if_icmp .eq 635, 3, 1815, 0, 0, 0, 0), (1183, .iconst 0, 1, 0, 0, 0, (0), 0), (1184, .ireturn, 1, 0, 0, 2, 0, 0), (1185, .aload_n 1, 1, 0, 0, 0, 0, 0), (1186, .invokevirtual 150, 3, 143, 1, 8, 0, 0), (1189, .aload_n 2, 1, 0, 0, 0, 0, 0), (1190, .invokevirtual 153, 3, 279, 1, 9, 0, 0), (1193, .if_icmp .eq 622, 3, 1815, 0, 0, 0, 0), (1196, .iconst 0, 1, 0, 0, 0, (0), 0), (1197, .ireturn, 1, 0, 0, 2, 0, 0), (1198, .aload_n 1, 1, 0, 0, 0, 0, 0), (1199, .aload_n 0, 1, 0, 0, 0, 0, 0), (1200, .iload 4, 2, 0, 0, 0, 0, 0), (1202, .iconst 1, 1, 0, 0, 0, (1), 0), (1203, .iadd, 1, 0, 0, 0, 0, 0), (1204, .iaload, 1, 0, 0, 0, 0, 0), (1205, .aload_n 0, 1, 0, 0, 0, 0, 0), (1206, .iload 4, 2, 0, 0, 0, 0, 0), (1208, .iconst 2, 1, 0, 0, 0, (2), 0), (1209, .iadd, 1, 0, 0, 0, 0, 0), (1210, .iaload, 1, 0, 0, 0, 0, 0), (1211, .aload_n 0, 1, 0, 0, 0, 0, 0), (1212, .iload 4, 2, 0, 0, 0, 0, 0), (1214, .iconst 3, 1, 0, 0, 0, (3), 0), (1215, .iadd, 1, 0, 0, 0, 0, 0), (1216, .iaload, 1, 0, 0, 0, 0, 0), (1217, .invokevirtual 154, 3, 144, 4, 8, 0, 0), (1220, .aload_n 2, 1, 0, 0, 0, 0, 0), (1221, .aload_n 0, 1, 0, 0, 0, 0, 0), (1222, .iload 4, 2, 0, 0, 0, 0, 0), (1224, .iconst 1, 1, 0, 0, 0, (1), 0), (1225, .iadd, 1, 0, 0, 0, 0, 0), (1226, .iaload, 1, 0, 0, 0, 0, 0), (1227, .aload_n 0, 1, 0, 0, 0, 0, 0), (1228, .iload 4, 2, 0, 0, 0, 0, 0), (1230, .iconst 2, 1, 0, 0, 0, (2), 0), (1231, .iadd, 1, 0, 0, 0, 0, 0), (1232, .iaload, 1, 0, 0, 0, 0, 0), (1233, .aload_n 0, 1, 0, 0, 0, 0, 0), (1234, .iload 4, 2, 0, 0, 0, 0, 0), (1236, .iconst 3, 1, 0, 0, 0, (3), 0), (1237, .iadd, 1, 0, 0, 0, 0, 0), (1238, .iaload, 1, 0, 0, 0, 0, 0), (1239, .invokevirtual 157, 3, 282, 4, 9, 0, 0), (1242, .if_icmp .eq 573, 3, 1815, 0, 0, 0, 0), (1245, .iconst 0, 1, 0, 0, 0, (0), 0), (1246, .ireturn, 1, 0, 0, 2, 0, 0), (1247, .aload_n 1, 1, 0, 0, 0, 0, 0), (1248, .aload_n 0, 1, 0, 0, 0, 0, 0), (1249, .iload 4, 2, 0, 0, 0, 0, 0), (1251, .iconst 1, 1, 0, 0, 0, (1), 0), (1252, .iadd, 1, 0, 0, 0, 0, 0), (1253, .iaload, 1, 0, 0, 0, 0, 0), (1254, .invokevirtual 158, 3, 145, 2, 8, 0, 0), (1257, .aload_n 2, 1, 0, 0, 0, 0, 0), (1258, .aload_n 0, 1, 0, 0, 0, 0, 0), (1259, .iload 4, 2, 0, 0, 0, 0, 0), (1261, .iconst 1, 1, 0, 0, 0, (1), 0), (1262, .iadd, 1, 0, 0, 0, 0, 0), (1263, .iaload, 1, 0, 0, 0, 0, 0), (1264, .invokevirtual 161, 3, 284, 2, 9, 0, 0), (1267, .if_icmp .eq 548, 3, 1815, 0, 0, 0, 0), (1270, .iconst 0, 1, 0, 0, 0, (0), 0), (1271, .ireturn, 1, 0, 0, 2, 0, 0), (1272, .aload_n 1, 1, 0, 0, 0, 0, 0), (1273, .aload_n 0, 1, 0, 0, 0, 0, 0), (1274, .iload 4, 2, 0, 0, 0, 0, 0), (1276, .iconst 1, 1, 0, 0, 0, (1), 0), (1277, .iadd, 1, 0, 0, 0, 0, 0), (1278, .iaload, 1, 0, 0, 0, 0, 0), (1279, .invokevirtual 162, 3, 146, 2, 8, 0, 0), (1282, .aload_n 2, 1, 0, 0, 0, 0, 0), (1283, .aload_n 0, 1, 0, 0, 0, 0, 0), (1284, .iload 4, 2, 0, 0, 0, 0, 0), (1286, .iconst 1, 1, 0, 0, 0, (1), 0), (1287, .iadd, 1, 0, 0, 0, 0, 0), (1288, .iaload, 1, 0, 0, 0, 0, 0), (1289, .invokevirtual 165, 3, 285, 2, 9, 0, 0), (1292, .if_icmp .eq 523, 3, 1815, 0, 0, 0, 0), (1295, .iconst 0, 1, 0, 0, 0, (0), 0), (1296, .ireturn, 1, 0, 0, 2, 0, 0), (1297, .aload_n 1, 1, 0, 0, 0, 0, 0), (1298, .aload_n 0, 1, 0, 0, 0, 0, 0), (1299, .iload 4, 2, 0, 0, 0, 0, 0), (1301, .iconst 1, 1, 0, 0, 0, (1), 0), (1302, .iadd, 1, 0, 0, 0, 0, 0), (1303, .iaload, 1, 0, 0, 0, 0, 0), (1304, .aload_n 0, 1, 0, 0, 0, 0, 0), (1305, .iload 4, 2, 0, 0, 0, 0, 0), (1307, .iconst 2, 1, 0, 0, 0, (2), 0), (1308, .iadd, 1, 0, 0, 0, 0, 0), (1309, .iaload, 1, 0, 0, 0, 0, 0), (1310, .invokevirtual 166, 3, 147, 3, 8, 0, 0), (1313, .aload_n 2, 1, 0, 0, 0, 0, 0), (1314, .aload_n 0, 1, 0, 0, 0, 0, 0), (1315, .iload 4, 2, 0, 0, 0, 0, 0), (1317, .iconst 1, 1, 0, 0, 0, (1), 0), (1318, .iadd, 1, 0, 0, 0, 0, 0), (1319, .iaload, 1, 0, 0, 0, 0, 0), (1320, .aload_n 0, 1, 0, 0, 0, 0, 0), (1321, .iload 4, 2, 0, 0, 0, 0, 0), (1323, .iconst 2, 1, 0, 0, 0, (2), 0), (1324, .iadd, 1, 0, 0, 0, 0, 0), (1325, .iaload, 1, 0, 0, 0, 0, 0), (1326, .invokevirtual 169, 3, 290, 3, 9, 0, 0), (1329, .if_icmp .eq 486, 3, 1815, 0, 0, 0, 0), (1332, .iconst 0, 1, 0, 0, 0, (0), 0), (1333, .ireturn, 1, 0, 0, 2, 0, 0), (1334, .aload_n 1, 1, 0, 0, 0, 0, 0), (1335, .aload_n 0, 1, 0, 0, 0, 0, 0), (1336, .iload 4, 2, 0, 0, 0, 0, 0), (1338, .iconst 1, 1, 0, 0, 0, (1), 0), (1339, .iadd, 1, 0, 0, 0, 0, 0), (1340, .iaload, 1, 0, 0, 0, 0, 0), (1341, .invokevirtual 170, 3, 148, 2, 8, 0, 0), (1344, .aload_n 2, 1, 0, 0, 0, 0, 0), (1345, .aload_n 0, 1, 0, 0, 0, 0, 0), (1346, .iload 4, 2, 0, 0, 0, 0, 0), (1348, .iconst 1, 1, 0, 0, 0, (1), 0), (1349, .iadd, 1, 0, 0, 0, 0, 0), (1350, .iaload, 1, 0, 0, 0, 0, 0), (1351, .invokevirtual 173, 3, 292, 2, 9, 0, 0), (1354, .if_icmp .eq 461, 3, 1815, 0, 0, 0, 0), (1357, .iconst 0, 1, 0, 0, 0, (0), 0), (1358, .ireturn, 1, 0, 0, 2, 0, 0), (1359, .aload_n 1, 1, 0, 0, 0, 0, 0), (1360, .aload_n 0, 1, 0, 0, 0, 0, 0), (1361, .iload 4, 2, 0, 0, 0, 0, 0), (1363, .iconst 1, 1, 0, 0, 0, (1), 0), (1364, .iadd, 1, 0, 0, 0, 0, 0), (1365, .iaload, 1, 0, 0, 0, 0, 0), (1366, .invokevirtual 174, 3, 149, 2, 8, 0, 0), (1369, .aload_n 2, 1, 0, 0, 0, 0, 0), (1370, .aload_n 0, 1, 0, 0, 0, 0, 0), (1371, .iload 4, 2, 0, 0, 0, 0, 0), (1373, .iconst 1, 1, 0, 0, 0, (1), 0), (1374, .iadd, 1, 0, 0, 0, 0, 0), (1375, .iaload, 1, 0, 0, 0, 0, 0), (1376, .invokevirtual 177, 3, 293, 2, 9, 0, 0), (1379, .if_icmp .eq 436, 3, 1815, 0, 0, 0, 0), (1382, .iconst 0, 1, 0, 0, 0, (0), 0), (1383, .ireturn, 1, 0, 0, 2, 0, 0), (1384, .aload_n 1, 1, 0, 0, 0, 0, 0), (1385, .aload_n 0, 1, 0, 0, 0, 0, 0), (1386, .iload 4, 2, 0, 0, 0, 0, 0), (1388, .iconst 1, 1, 0, 0, 0, (1), 0), (1389, .iadd, 1, 0, 0, 0, 0, 0), (1390, .iaload, 1, 0, 0, 0, 0, 0), (1391, .invokevirtual 178, 3, 150, 2, 8, 0, 0), (1394, .aload_n 2, 1, 0, 0, 0, 0, 0), (1395, .aload_n 0, 1, 0, 0, 0, 0, 0), (1396, .iload 4, 2, 0, 0, 0, 0, 0), (1398, .iconst 1, 1, 0, 0, 0, (1), 0), (1399, .iadd, 1, 0, 0, 0, 0, 0), (1400, .iaload, 1, 0, 0, 0, 0, 0), (1401, .invokevirtual 181, 3, 294, 2, 9, 0, 0), (1404, .if_icmp .eq 411, 3, 1815, 0, 0, 0, 0), (1407, .iconst 0, 1, 0, 0, 0, (0), 0), (1408, .ireturn, 1, 0, 0, 2, 0, 0), (1409, .aload_n 1, 1, 0, 0, 0, 0, 0), (1410, .aload_n 0, 1, 0, 0, 0, 0, 0), (1411, .iload 4, 2, 0, 0, 0, 0, 0), (1413, .iconst 1, 1, 0, 0, 0, (1), 0), (1414, .iadd, 1, 0, 0, 0, 0, 0), (1415, .iaload, 1, 0, 0, 0, 0, 0), (1416, .aload_n 0, 1, 0, 0, 0, 0, 0), (1417, .iload 4, 2, 0, 0, 0, 0, 0), (1419, .iconst 2, 1, 0, 0, 0, (2), 0), (1420, .iadd, 1, 0, 0, 0, 0, 0), (1421, .iaload, 1, 0, 0, 0, 0, 0), (1422, .invokevirtual 182, 3, 151, 3, 8, 0, 0), (1425, .aload_n 2, 1, 0, 0, 0, 0, 0), (1426, .aload_n 0, 1, 0, 0, 0, 0, 0), (1427, .iload 4, 2, 0, 0, 0, 0, 0), (1429, .iconst 1, 1, 0, 0, 0, (1), 0), (1430, .iadd, 1, 0, 0, 0, 0, 0), (1431, .iaload, 1, 0, 0, 0, 0, 0), (1432, .aload_n 0, 1, 0, 0, 0, 0, 0), (1433, .iload 4, 2, 0, 0, 0, 0, 0), (1435, .iconst 2, 1, 0, 0, 0, (2), 0), (1436, .iadd, 1, 0, 0, 0, 0, 0), (1437, .iaload, 1, 0, 0, 0, 0, 0), (1438, .invokevirtual 185, 3, 295, 3, 9, 0, 0), (1441, .if_icmp .eq 374, 3, 1815, 0, 0, 0, 0), (1444, .iconst 0, 1, 0, 0, 0, (0), 0), (1445, .ireturn, 1, 0, 0, 2, 0, 0), (1446, .aload_n 1, 1, 0, 0, 0, 0, 0), (1447, .invokevirtual 186, 3, 152, 1, 8, 0, 0), (1450, .aload_n 2, 1, 0, 0, 0, 0, 0), (1451, .invokevirtual 189, 3, 296, 1, 9, 0, 0), (1454, .if_icmp .eq 361, 3, 1815, 0, 0, 0, 0), (1457, .iconst 0, 1, 0, 0, 0, (0), 0), (1458, .ireturn, 1, 0, 0, 2, 0, 0), (1459, .aload_n 1, 1, 0, 0, 0, 0, 0), (1460, .aload_n 0, 1, 0, 0, 0, 0, 0), (1461, .iload 4, 2, 0, 0, 0, 0, 0), (1463, .iconst 1, 1, 0, 0, 0, (1), 0), (1464, .iadd, 1, 0, 0, 0, 0, 0), (1465, .iaload, 1, 0, 0, 0, 0, 0), (1466, .invokevirtual 190, 3, 153, 2, 8, 0, 0), (1469, .aload_n 2, 1, 0, 0, 0, 0, 0), (1470, .aload_n 0, 1, 0, 0, 0, 0, 0), (1471, .iload 4, 2, 0, 0, 0, 0, 0), (1473, .iconst 1, 1, 0, 0, 0, (1), 0), (1474, .iadd, 1, 0, 0, 0, 0, 0), (1475, .iaload, 1, 0, 0, 0, 0, 0), (1476, .invokevirtual 193, 3, 298, 2, 9, 0, 0), (1479, .if_icmp .eq 336, 3, 1815, 0, 0, 0, 0), (1482, .iconst 0, 1, 0, 0, 0, (0), 0), (1483, .ireturn, 1, 0, 0, 2, 0, 0), (1484, .aload_n 1, 1, 0, 0, 0, 0, 0), (1485, .aload_n 0, 1, 0, 0, 0, 0, 0), (1486, .iload 4, 2, 0, 0, 0, 0, 0), (1488, .iconst 1, 1, 0, 0, 0, (1), 0), (1489, .iadd, 1, 0, 0, 0, 0, 0), (1490, .iaload, 1, 0, 0, 0, 0, 0), (1491, .invokevirtual 194, 3, 154, 2, 8, 0, 0), (1494, .aload_n 2, 1, 0, 0, 0, 0, 0), (1495, .aload_n 0, 1, 0, 0, 0, 0, 0), (1496, .iload 4, 2, 0, 0, 0, 0, 0), (1498, .iconst 1, 1, 0, 0, 0, (1), 0), (1499, .iadd, 1, 0, 0, 0, 0, 0), (1500, .iaload, 1, 0, 0, 0, 0, 0), (1501, .invokevirtual 197, 3, 299, 2, 9, 0, 0), (1504, .if_icmp .eq 311, 3, 1815, 0, 0, 0, 0), (1507, .iconst 0, 1, 0, 0, 0, (0), 0), (1508, .ireturn, 1, 0, 0, 2, 0, 0), (1509, .aload_n 1, 1, 0, 0, 0, 0, 0), (1510, .aload_n 0, 1, 0, 0, 0, 0, 0), (1511, .iload 4, 2, 0, 0, 0, 0, 0), (1513, .iconst 1, 1, 0, 0, 0, (1), 0), (1514, .iadd, 1, 0, 0, 0, 0, 0), (1515, .iaload, 1, 0, 0, 0, 0, 0), (1516, .aload_n 0, 1, 0, 0, 0, 0, 0), (1517, .iload 4, 2, 0, 0, 0, 0, 0), (1519, .iconst 2, 1, 0, 0, 0, (2), 0), (1520, .iadd, 1, 0, 0, 0, 0, 0), (1521, .iaload, 1, 0, 0, 0, 0, 0), (1522, .invokevirtual 198, 3, 155, 3, 8, 0, 0), (1525, .aload_n 2, 1, 0, 0, 0, 0, 0), (1526, .aload_n 0, 1, 0, 0, 0, 0, 0), (1527, .iload 4, 2, 0, 0, 0, 0, 0), (1529, .iconst 1, 1, 0, 0, 0, (1), 0), (1530, .iadd, 1, 0, 0, 0, 0, 0), (1531, .iaload, 1, 0, 0, 0, 0, 0), (1532, .aload_n 0, 1, 0, 0, 0, 0, 0), (1533, .iload 4, 2, 0, 0, 0, 0, 0), (1535, .iconst 2, 1, 0, 0, 0, (2), 0), (1536, .iadd, 1, 0, 0, 0, 0, 0), (1537, .iaload, 1, 0, 0, 0, 0, 0), (1538, .invokevirtual 201, 3, 302, 3, 9, 0, 0), (1541, .if_icmp .eq 274, 3, 1815, 0, 0, 0, 0), (1544, .iconst 0, 1, 0, 0, 0, (0), 0), (1545, .ireturn, 1, 0, 0, 2, 0, 0), (1546, .aload_n 1, 1, 0, 0, 0, 0, 0), (1547, .invokevirtual 202, 3, 156, 1, 8, 0, 0), (1550, .aload_n 2, 1, 0, 0, 0, 0, 0), (1551, .invokevirtual 205, 3, 303, 1, 9, 0, 0), (1554, .if_icmp .eq 261, 3, 1815, 0, 0, 0, 0), (1557, .iconst 0, 1, 0, 0, 0, (0), 0), (1558, .ireturn, 1, 0, 0, 2, 0, 0), (1559, .aload_n 1, 1, 0, 0, 0, 0, 0), (1560, .invokevirtual 206, 3, 157, 1, 8, 0, 0), (1563, .aload_n 2, 1, 0, 0, 0, 0, 0), (1564, .invokevirtual 209, 3, 306, 1, 9, 0, 0), (1567, .if_icmp .eq 248, 3, 1815, 0, 0, 0, 0), (1570, .iconst 0, 1, 0, 0, 0, (0), 0), (1571, .ireturn, 1, 0, 0, 2, 0, 0), (1572, .aload_n 1, 1, 0, 0, 0, 0, 0), (1573, .invokevirtual 210, 3, 158, 1, 8, 0, 0), (1576, .aload_n 2, 1, 0, 0, 0, 0, 0), (1577, .invokevirtual 213, 3, 307, 1, 9, 0, 0), (1580, .if_icmp .eq 235, 3, 1815, 0, 0, 0, 0), (1583, .iconst 0, 1, 0, 0, 0, (0), 0), (1584, .ireturn, 1, 0, 0, 2, 0, 0), (1585, .aload_n 1, 1, 0, 0, 0, 0, 0), (1586, .aload_n 0, 1, 0, 0, 0, 0, 0), (1587, .iload 4, 2, 0, 0, 0, 0, 0), (1589, .iconst 1, 1, 0, 0, 0, (1), 0), (1590, .iadd, 1, 0, 0, 0, 0, 0), (1591, .iaload, 1, 0, 0, 0, 0, 0), (1592, .invokevirtual 214, 3, 159, 2, 8, 0, 0), (1595, .aload_n 2, 1, 0, 0, 0, 0, 0), (1596, .aload_n 0, 1, 0, 0, 0, 0, 0), (1597, .iload 4, 2, 0, 0, 0, 0, 0), (1599, .iconst 1, 1, 0, 0, 0, (1), 0), (1600, .iadd, 1, 0, 0, 0, 0, 0), (1601, .iaload, 1, 0, 0, 0, 0, 0), (1602, .invokevirtual 217, 3, 309, 2, 9, 0, 0), (1605, .if_icmp .eq 210, 3, 1815, 0, 0, 0, 0), (1608, .iconst 0, 1, 0, 0, 0, (0), 0), (1609, .ireturn, 1, 0, 0, 2, 0, 0), (1610, .aload_n 1, 1, 0, 0, 0, 0, 0), (1611, .invokevirtual 218, 3, 160, 1, 8, 0, 0), (1614, .aload_n 2, 1, 0, 0, 0, 0, 0), (1615, .invokevirtual 221, 3, 310, 1, 9, 0, 0), (1618, .if_icmp .eq 197, 3, 1815, 0, 0, 0, 0), (1621, .iconst 0, 1, 0, 0, 0, (0), 0), (1622, .ireturn, 1, 0, 0, 2, 0, 0), (1623, .aload_n 1, 1, 0, 0, 0, 0, 0), (1624, .aload_n 0, 1, 0, 0, 0, 0, 0), (1625, .iload 4, 2, 0, 0, 0, 0, 0), (1627, .iconst 1, 1, 0, 0, 0, (1), 0), (1628, .iadd, 1, 0, 0, 0, 0, 0), (1629, .iaload, 1, 0, 0, 0, 0, 0), (1630, .invokevirtual 222, 3, 161, 2, 8, 0, 0), (1633, .aload_n 2, 1, 0, 0, 0, 0, 0), (1634, .aload_n 0, 1, 0, 0, 0, 0, 0), (1635, .iload 4, 2, 0, 0, 0, 0, 0), (1637, .iconst 1, 1, 0, 0, 0, (1), 0), (1638, .iadd, 1, 0, 0, 0, 0, 0), (1639, .iaload, 1, 0, 0, 0, 0, 0), (1640, .invokevirtual 225, 3, 313, 2, 9, 0, 0), (1643, .if_icmp .eq 172, 3, 1815, 0, 0, 0, 0), (1646, .iconst 0, 1, 0, 0, 0, (0), 0), (1647, .ireturn, 1, 0, 0, 2, 0, 0), (1648, .aload_n 1, 1, 0, 0, 0, 0, 0), (1649, .aload_n 0, 1, 0, 0, 0, 0, 0), (1650, .iload 4, 2, 0, 0, 0, 0, 0), (1652, .iconst 1, 1, 0, 0, 0, (1), 0), (1653, .iadd, 1, 0, 0, 0, 0, 0), (1654, .iaload, 1, 0, 0, 0, 0, 0), (1655, .aload_n 0, 1, 0, 0, 0, 0, 0), (1656, .iload 4, 2, 0, 0, 0, 0, 0), (1658, .iconst 2, 1, 0, 0, 0, (2), 0), (1659, .iadd, 1, 0, 0, 0, 0, 0), (1660, .iaload, 1, 0, 0, 0, 0, 0), (1661, .invokevirtual 226, 3, 162, 3, 8, 0, 0), (1664, .aload_n 2, 1, 0, 0, 0, 0, 0), (1665, .aload_n 0, 1, 0, 0, 0, 0, 0), (1666, .iload 4, 2, 0, 0, 0, 0, 0), (1668, .iconst 1, 1, 0, 0, 0, (1), 0), (1669, .iadd, 1, 0, 0, 0, 0, 0), (1670, .iaload, 1, 0, 0, 0, 0, 0), (1671, .aload_n 0, 1, 0, 0, 0, 0, 0), (1672, .iload 4, 2, 0, 0, 0, 0, 0), (1674, .iconst 2, 1, 0, 0, 0, (2), 0), (1675, .iadd, 1, 0, 0, 0, 0, 0), (1676, .iaload, 1, 0, 0, 0, 0, 0), (1677, .invokevirtual 229, 3, 316, 3, 9, 0, 0), (1680, .if_icmp .eq 135, 3, 1815, 0, 0, 0, 0), (1683, .iconst 0, 1, 0, 0, 0, (0), 0), (1684, .ireturn, 1, 0, 0, 2, 0, 0), (1685, .aload_n 1, 1, 0, 0, 0, 0, 0), (1686, .aload_n 0, 1, 0, 0, 0, 0, 0), (1687, .iload 4, 2, 0, 0, 0, 0, 0), (1689, .iconst 1, 1, 0, 0, 0, (1), 0), (1690, .iadd, 1, 0, 0, 0, 0, 0), (1691, .iaload, 1, 0, 0, 0, 0, 0), (1692, .invokevirtual 230, 3, 163, 2, 8, 0, 0), (1695, .aload_n 2, 1, 0, 0, 0, 0, 0), (1696, .aload_n 0, 1, 0, 0, 0, 0, 0), (1697, .iload 4, 2, 0, 0, 0, 0, 0), (1699, .iconst 1, 1, 0, 0, 0, (1), 0), (1700, .iadd, 1, 0, 0, 0, 0, 0), (1701, .iaload, 1, 0, 0, 0, 0, 0), (1702, .invokevirtual 233, 3, 317, 2, 9, 0, 0), (1705, .if_icmp .eq 110, 3, 1815, 0, 0, 0, 0), (1708, .iconst 0, 1, 0, 0, 0, (0), 0), (1709, .ireturn, 1, 0, 0, 2, 0, 0), (1710, .aload_n 1, 1, 0, 0, 0, 0, 0), (1711, .aload_n 0, 1, 0, 0, 0, 0, 0), (1712, .iload 4, 2, 0, 0, 0, 0, 0), (1714, .iconst 1, 1, 0, 0, 0, (1), 0), (1715, .iadd, 1, 0, 0, 0, 0, 0), (1716, .iaload, 1, 0, 0, 0, 0, 0), (1717, .invokevirtual 234, 3, 164, 2, 8, 0, 0), (1720, .aload_n 2, 1, 0, 0, 0, 0, 0), (1721, .aload_n 0, 1, 0, 0, 0, 0, 0), (1722, .iload 4, 2, 0, 0, 0, 0, 0), (1724, .iconst 1, 1, 0, 0, 0, (1), 0), (1725, .iadd, 1, 0, 0, 0, 0, 0), (1726, .iaload, 1, 0, 0, 0, 0, 0), (1727, .invokevirtual 237, 3, 318, 2, 9, 0, 0), (1730, .if_icmp .eq 85, 3, 1815, 0, 0, 0, 0), (1733, .iconst 0, 1, 0, 0, 0, (0), 0), (1734, .ireturn, 1, 0, 0, 2, 0, 0), (1735, .aload_n 1, 1, 0, 0, 0, 0, 0), (1736, .aload_n 0, 1, 0, 0, 0, 0, 0), (1737, .iload 4, 2, 0, 0, 0, 0, 0), (1739, .iconst 1, 1, 0, 0, 0, (1), 0), (1740, .iadd, 1, 0, 0, 0, 0, 0), (1741, .iaload, 1, 0, 0, 0, 0, 0), (1742, .invokevirtual 238, 3, 165, 2, 8, 0, 0), (1745, .aload_n 2, 1, 0, 0, 0, 0, 0), (1746, .aload_n 0, 1, 0, 0, 0, 0, 0), (1747, .iload 4, 2, 0, 0, 0, 0, 0), (1749, .iconst 1, 1, 0, 0, 0, (1), 0), (1750, .iadd, 1, 0, 0, 0, 0, 0), (1751, .iaload, 1, 0, 0, 0, 0, 0), (1752, .invokevirtual 241, 3, 319, 2, 9, 0, 0), (1755, .if_icmp .eq 60, 3, 1815, 0, 0, 0, 0), (1758, .iconst 0, 1, 0, 0, 0, (0), 0), (1759, .ireturn, 1, 0, 0, 2, 0, 0), (1760, .aload_n 1, 1, 0, 0, 0, 0, 0), (1761, .aload_n 0, 1, 0, 0, 0, 0, 0), (1762, .iload 4, 2, 0, 0, 0, 0, 0), (1764, .iconst 1, 1, 0, 0, 0, (1), 0), (1765, .iadd, 1, 0, 0, 0, 0, 0), (1766, .iaload, 1, 0, 0, 0, 0, 0), (1767, .aload_n 3, 1, 0, 0, 0, 0, 0), (1768, .invokestatic 242, 3, 603, 3, 0, 0, 0), (1771, .istore 5, 2, 0, 0, 0, 0, 0), (1773, .aload_n 2, 1, 0, 0, 0, 0, 0), (1774, .aload_n 0, 1, 0, 0, 0, 0, 0), (1775, .iload 4, 2, 0, 0, 0, 0, 0), (1777, .iconst 1, 1, 0, 0, 0, (1), 0), (1778, .iadd, 1, 0, 0, 0, 0, 0), (1779, .iaload, 1, 0, 0, 0, 0, 0), (1780, .invokevirtual 244, 3, 320, 2, 9, 0, 0), (1783, .lstore 6, 2, 0, 0, 0, 0, 0), (1785, .aload_n 2, 1, 0, 0, 0, 0, 0), (1786, .invokevirtual 54, 3, 174, 1, 9, 0, 0), (1789, .iload 5, 2, 0, 0, 0, 0, 0), (1791, .if_icmp .eq 5, 3, 1796, 0, 0, 0, 0), (1794, .iconst 0, 1, 0, 0, 0, (0), 0), (1795, .ireturn, 1, 0, 0, 2, 0, 0), (1796, .iload 5, 2, 0, 0, 0, 0, 0), (1798, .ifCond .ne 14, 3, 1812, 0, 0, 0, 0), (1801, .aload_n 3, 1, 0, 0, 0, 0, 0), (1802, .iconst 0, 1, 0, 0, 0, (0), 0), (1803, .laload, 1, 0, 0, 0, 0, 0), (1804, .lload 6, 2, 0, 0, 0, 0, 0), (1806, .lcmp, 1, 0, 0, 0, 0, 0), (1807, .ifCond .eq 5, 3, 1812, 0, 0, 0, 0), (1810, .iconst 0, 1, 0, 0, 0, (0), 0), (1811, .ireturn, 1, 0, 0, 2, 0, 0), (1812, .goto 3, 3, 1815, 0, 0, 0, 0), (1815, .iinc 4 5, 3, 0, 0, 0, (5), 0), (1818, .goto (-1795), 3, 23, 0, 0, 0, 0), (1821, .iconst 1, 1, 0, 0, 0, (1), 0), (1822, .ireturn, 1, 0, 0, 2, 0, 0)]
def cm_L_law : am_M := fun pc => cd_L_law.lookup pc
/-- name, code, locals, answer's type, kind (0 static, 1 of an object, 2 a constructor), parameters -/
abbrev am_R : Type := MethodName × ByteArray × Nat × Option FieldType × Nat × Nat
def am_mt0 : List am_R := [(yX0_isNoColour, cX0_isNoColour, 1, some .boolean, 0, 1), (yX0_mask, cX0_mask, 1, some .int, 0, 1), (yX0_colourAt, cX0_colourAt, 3, some .int, 0, 3), (yX0_withColour, cX0_withColour, 5, some .int, 0, 4), (yX0_rolled, cX0_rolled, 4, some .int, 0, 3), (yX0_flipped, cX0_flipped, 4, some .int, 0, 2), (yX0_turned, cX0_turned, 3, some .int, 0, 3), (yX0_turningName, cX0_turningName, 2, some .int, 0, 2), (yX0_leastRow, cX0_leastRow, 5, some .int, 0, 2), (yX0_isLessFlipped, cX0_isLessFlipped, 4, some .boolean, 0, 2), (yX0_firstTurning, cX0_firstTurning, 4, some .int, 0, 3), (yX0_period, cX0_period, 3, some .int, 0, 2), (yX0_mirrors, cX0_mirrors, 5, some .int, 0, 2), (yX0_stays, cX0_stays, 2, some .int, 0, 2), (yX0_numberOf, cX0_numberOf, 3, some .int, 0, 3), (yX0_colourBits, cX0_colourBits, 4, some .int, 0, 2), (yX0_greatestColour, cX0_greatestColour, 3, some .int, 0, 2), (yX0_tallyInto, cX0_tallyInto, 4, none, 0, 3), (yX0_mostOfOne, cX0_mostOfOne, 4, some .int, 0, 2), (yX0_apart, cX0_apart, 3, some .int, 0, 2), (yX0_wordAt, cX0_wordAt, 4, some .int, 0, 4), (yX0_placesOf, cX0_placesOf, 6, some .int, 0, 4), (yX1_init, cX1_init, 2, none, 2, 1), (yX1_add, cX1_add, 3, some .int, 1, 2), (yX1_empty, cX1_empty, 2, some .int, 1, 0), (yX1_canBeFelt, cX1_canBeFelt, 2, some .boolean, 0, 2), (yX1_rollsLeft, cX1_rollsLeft, 5, some .int, 1, 2), (yX1_isAllFelt, cX1_isAllFelt, 4, some .boolean, 1, 2), (yX1_mostLeft, cX1_mostLeft, 8, some .int, 0, 4), (yX1_canBeHeard, cX1_canBeHeard, 2, some .boolean, 0, 2), (yX1_fitting, cX1_fitting, 4, some .int, 1, 1), (yX1_suiting, cX1_suiting, 5, some .int, 0, 3), (yX1_isSo, cX1_isSo, 4, some .boolean, 0, 4), (yX2_power, cX2_power, 4, some .int, 0, 2), (yX2_commonDivisor, cX2_commonDivisor, 3, some .int, 0, 2), (yX2_beadsThatStay, cX2_beadsThatStay, 2, some .int, 0, 2), (yX2_keptByRolls, cX2_keptByRolls, 4, some .int, 0, 2), (yX2_keptByFlips, cX2_keptByFlips, 5, some .int, 0, 2), (yX2_rowsThatNoRollKeeps, cX2_rowsThatNoRollKeeps, 4, some .int, 0, 2), (yX2_toldKeptByRolls, cX2_toldKeptByRolls, 4, some .int, 0, 2)]
def am_mt1 : List am_R := [(yX2_toldKeptByFlips, cX2_toldKeptByFlips, 4, some .int, 0, 2), (yX2_pairedRows, cX2_pairedRows, 4, some .int, 0, 2), (yX2_rowsOf, cX2_rowsOf, 6, some .int, 0, 2), (yX2_factorial, cX2_factorial, 1, some .int, 0, 1), (yX3_fault, cX3_fault, 6, some .int, 0, 1), (yX3_form, cX3_form, 1, some (.object "java/lang/String"), 0, 1), (yX3_suits, cX3_suits, 2, some .boolean, 0, 2), (yX3_told, cX3_told, 1, some .int, 0, 1), (yX3_act, cX3_act, 6, some .int, 0, 4), (yX4_init, cX4_init, 1, none, 2, 0), (yX4_lacks, cX4_lacks, 1, some .boolean, 0, 1), (yX4_number, cX4_number, 3, some .int, 1, 1), (yX4_kind, cX4_kind, 3, some .int, 1, 2), (yX4_grow, cX4_grow, 7, none, 1, 4), (yX4_kindAt, cX4_kindAt, 8, some .int, 1, 3), (yX4_kindsAhead, cX4_kindsAhead, 8, some .int, 1, 2), (yX4_kindBehind, cX4_kindBehind, 7, some .int, 1, 2), (yX5_init, cX5_init, 2, none, 2, 0), (yX5_mark, cX5_mark, 2, none, 1, 1), (yX5_settle, cX5_settle, 2, some .int, 1, 1), (yX5_bringBack, cX5_bringBack, 2, some .int, 1, 1), (yX5_keepUnder, cX5_keepUnder, 3, some .boolean, 1, 2), (yX5_takeKept, cX5_takeKept, 3, some .boolean, 1, 2), (yX6_init, cX6_init, 1, none, 2, 0), (yX6_read, cX6_read, 4, some .int, 1, 1), (yX6_takes, cX6_takes, 2, some .boolean, 1, 1), (yX6_takesDigit, cX6_takesDigit, 2, some .boolean, 1, 1), (yX6_takesThing, cX6_takesThing, 2, some .boolean, 1, 1), (yX6_takesOperator, cX6_takesOperator, 3, some .boolean, 1, 1), (yX6_settleDownTo, cX6_settleDownTo, 3, none, 1, 1), (yX6_addStep, cX6_addStep, 2, none, 1, 1), (yX6_addWaiting, cX6_addWaiting, 2, none, 1, 1), (yX6_binding, cX6_binding, 1, some .int, 0, 1), (yX6_isTrait, cX6_isTrait, 1, some .boolean, 0, 1), (yX6_price, cX6_price, 7, some .int, 1, 3), (yX6_trait, cX6_trait, 4, some .int, 0, 4), (yX6_joined, cX6_joined, 3, some .int, 0, 3), (yX7_init, cX7_init, 1, none, 2, 0), (yX7_copyFrom, cX7_copyFrom, 2, none, 1, 1), (yX7_lacks, cX7_lacks, 2, some .boolean, 1, 1)]
def am_mt2 : List am_R := [(yX7_lacksBead, cX7_lacksBead, 3, some .boolean, 1, 2), (yX7_hasBeadsFor, cX7_hasBeadsFor, 4, some .boolean, 1, 2), (yX7_putBack, cX7_putBack, 3, none, 1, 2), (yX7_stockFrom, cX7_stockFrom, 7, none, 1, 4), (yX7_string, cX7_string, 4, some .int, 1, 2), (yX7_roll, cX7_roll, 3, some .int, 1, 2), (yX7_flip, cX7_flip, 2, some .int, 1, 1), (yX7_swap, cX7_swap, 7, some .int, 1, 2), (yX7_thread, cX7_thread, 6, some .int, 1, 3), (yX7_cut, cX7_cut, 6, some .int, 1, 2), (yX7_join, cX7_join, 4, some .int, 1, 2), (yX7_part, cX7_part, 4, some .int, 1, 1), (yX7_sell, cX7_sell, 4, some .int, 1, 2), (yX7_buy, cX7_buy, 3, some .int, 1, 2), (yX7_drop, cX7_drop, 3, none, 1, 1), (yX7_leastRow, cX7_leastRow, 2, some .int, 1, 1), (yX7_othersAlike, cX7_othersAlike, 5, some .int, 1, 1), (yX7_firstAlike, cX7_firstAlike, 4, some .int, 1, 1), (yX7_kindNumber, cX7_kindNumber, 3, some .int, 1, 0), (yX7_priceOf, cX7_priceOf, 3, some .int, 1, 2), (yX7_pricesOfAll, cX7_pricesOfAll, 4, some .int, 1, 1), (yX7_beadsOfAll, cX7_beadsOfAll, 3, some .int, 1, 0), (yX7_stockOfAll, cX7_stockOfAll, 3, some .int, 1, 0), (yX8_init, cX8_init, 1, none, 2, 0), (yX8_size, cX8_size, 1, some .int, 1, 0), (yX8_signAt, cX8_signAt, 2, some .char, 1, 1), (yX8_append, cX8_append, 3, some .int, 1, 1), (yX8_shorten, cX8_shorten, 2, some .boolean, 1, 1), (yX8_empty, cX8_empty, 1, none, 1, 0), (yX8_takeWord, cX8_takeWord, 4, some .int, 1, 0), (yX9_init, cX9_init, 1, none, 2, 0), (yX9_begin, cX9_begin, 1, none, 1, 0), (yX9_add, cX9_add, 2, none, 1, 1), (yX9_addRow, cX9_addRow, 4, none, 1, 2), (yX10_init, cX10_init, 2, none, 2, 0), (yX10_sign, cX10_sign, 2, some .int, 1, 1), (yX10_end, cX10_end, 2, some .boolean, 1, 1), (yX10_strings, cX10_strings, 2, some .int, 1, 0), (yX10_rule, cX10_rule, 3, some .int, 1, 0), (yX10_bracelet, cX10_bracelet, 5, some .int, 1, 2)]
def am_mt3 : List am_R := [(yX10_bead, cX10_bead, 3, some .int, 1, 2), (yX10_stock, cX10_stock, 2, some .int, 1, 1), (yX10_sheet, cX10_sheet, 5, some .int, 1, 4), (yX10_rolls, cX10_rolls, 3, some .int, 1, 2), (yX10_flips, cX10_flips, 2, some .int, 1, 1), (yX10_swaps, cX10_swaps, 3, some .int, 1, 2), (yX10_threads, cX10_threads, 4, some .int, 1, 3), (yX10_cuts, cX10_cuts, 3, some .int, 1, 2), (yX10_joins, cX10_joins, 3, some .int, 1, 2), (yX10_parts, cX10_parts, 2, some .int, 1, 1), (yX10_sells, cX10_sells, 2, some .int, 1, 1), (yX10_buys, cX10_buys, 3, some .int, 1, 2), (yX10_day, cX10_day, 5, some .int, 1, 0), (yX10_undo, cX10_undo, 1, some .int, 1, 0), (yX10_least, cX10_least, 5, some .int, 1, 1), (yX10_alike, cX10_alike, 6, some .int, 1, 2), (yX10_kinds, cX10_kinds, 2, some .int, 1, 0), (yX10_far, cX10_far, 8, some .int, 1, 2), (yX10_finds, cX10_finds, 5, some .int, 1, 1), (yX10_words, cX10_words, 11, some .int, 1, 2), (yX10_twice, cX10_twice, 8, some .int, 1, 1), (yX10_arc, cX10_arc, 7, some .int, 1, 1), (yX10_many, cX10_many, 4, some .int, 1, 2), (yX10_ways, cX10_ways, 4, some .int, 1, 0), (yX10_nth, cX10_nth, 5, some .int, 1, 3), (yX10_rank, cX10_rank, 3, some .int, 1, 1), (yX10_next, cX10_next, 4, some .int, 1, 1), (yX10_once, cX10_once, 4, some .int, 1, 2), (yX10_made, cX10_made, 6, some .int, 1, 1), (yX10_dear, cX10_dear, 8, some .int, 1, 1), (yX10_odds, cX10_odds, 7, some .int, 1, 1), (yX10_felt, cX10_felt, 3, some .int, 1, 2), (yX10_forget, cX10_forget, 1, some .int, 1, 0), (yX10_guess, cX10_guess, 3, some .int, 1, 1), (yX10_feels, cX10_feels, 9, some .int, 1, 1), (yX10_heard, cX10_heard, 3, some .int, 1, 2), (yX10_denies, cX10_denies, 1, some .int, 1, 0), (yX10_fits, cX10_fits, 2, some .int, 1, 0), (yX10_asks, cX10_asks, 7, some .int, 1, 0), (yX10_ring, cX10_ring, 2, some .int, 1, 1)]
def am_mt4 : List am_R := [(yX10_law, cX10_law, 4, some .int, 1, 0), (yX10_bargains, cX10_bargains, 5, some .int, 1, 1), (yX10_years, cX10_years, 4, some .int, 1, 2), (yX10_keep, cX10_keep, 2, some .boolean, 1, 1), (yX10_again, cX10_again, 2, some .boolean, 1, 1), (yX10_count, cX10_count, 2, some .int, 1, 1), (yX10_row, cX10_row, 2, some .long, 1, 1), (yX10_addOnce, cX10_addOnce, 8, none, 1, 5), (yX10_noteLeastRows, cX10_noteLeastRows, 3, none, 1, 1), (yX10_numberNoted, cX10_numberNoted, 4, some .int, 1, 1), (yX10_hasNoBetter, cX10_hasNoBetter, 5, some .boolean, 0, 3), (yX10_share, cX10_share, 4, some .int, 0, 3), (yX10_passYear, cX10_passYear, 5, none, 1, 0), (yX10_draw, cX10_draw, 2, some .int, 1, 1), (yX11_thrown, cX11_thrown, 1, some .int, 1, 0), (yX11_refuse, cX11_refuse, 1, some .int, 1, 0), (yX11_in, cX11_in, 6, some .boolean, 0, 3), (yX11_has, cX11_has, 2, some .boolean, 0, 2), (yX11_flag, cX11_flag, 1, some .int, 0, 1), (yX11_common, cX11_common, 4, some .long, 0, 2), (yX11_enters, cX11_enters, 3, none, 1, 1), (yX11_entersFraction, cX11_entersFraction, 7, some .int, 1, 2), (yX11_init, cX11_init, 2, none, 2, 0), (yX11_isRing, cX11_isRing, 2, some .boolean, 1, 1), (yX11_beadAt, cX11_beadAt, 3, some .int, 0, 3), (yX11_stockOf, cX11_stockOf, 3, some .int, 0, 1), (yX11_beadsOf, cX11_beadsOf, 3, some .int, 0, 1), (yX11_sign, cX11_sign, 3, some .int, 1, 1), (yX11_end, cX11_end, 2, some .boolean, 1, 1), (yX11_begins, cX11_begins, 3, some .int, 1, 1), (yX11_takes, cX11_takes, 3, some .boolean, 1, 1), (yX11_isDigit, cX11_isDigit, 1, some .boolean, 1, 0), (yX11_takesOf, cX11_takesOf, 3, some .int, 1, 1), (yX11_number, cX11_number, 4, some .int, 1, 1), (yX11_digitIn, cX11_digitIn, 3, some .int, 1, 2), (yX11_faultOf, cX11_faultOf, 5, some .int, 1, 3), (yX11_readsWord, cX11_readsWord, 2, some .int, 1, 0), (yX11_ofWord, cX11_ofWord, 4, some .int, 1, 1), (yX11_looksAt, cX11_looksAt, 4, none, 1, 2), (yX11_turnedOf, cX11_turnedOf, 5, some .int, 0, 4)]
def am_mt5 : List am_R := [(yX11_tellsTurning, cX11_tellsTurning, 2, some .int, 0, 2), (yX11_compares, cX11_compares, 5, some .int, 1, 2), (yX11_leastTurning, cX11_leastTurning, 3, some .int, 1, 0), (yX11_isLeast, cX11_isLeast, 3, some .boolean, 1, 0), (yX11_entersLeast, cX11_entersLeast, 3, none, 1, 0), (yX11_ofLook, cX11_ofLook, 4, some .int, 1, 1), (yX11_offBy, cX11_offBy, 6, some .int, 1, 3), (yX11_isAlike, cX11_isAlike, 5, some .boolean, 1, 2), (yX11_alikeMany, cX11_alikeMany, 5, some .int, 1, 2), (yX11_period, cX11_period, 2, some .int, 1, 0), (yX11_mirrors, cX11_mirrors, 3, some .int, 1, 0), (yX11_mostOfOne, cX11_mostOfOne, 3, some .int, 1, 0), (yX11_coloursOf, cX11_coloursOf, 3, some .int, 1, 0), (yX11_codes, cX11_codes, 2, none, 1, 1), (yX11_readsThing, cX11_readsThing, 2, some .boolean, 1, 0), (yX11_readsRank, cX11_readsRank, 4, some .boolean, 1, 1), (yX11_readsRule, cX11_readsRule, 3, some .int, 1, 0), (yX11_laysCode, cX11_laysCode, 4, none, 1, 2), (yX11_rule, cX11_rule, 2, some .int, 1, 0), (yX11_worked, cX11_worked, 3, some .int, 0, 3), (yX11_ruled, cX11_ruled, 4, some .int, 1, 0), (yX11_priceOfLook, cX11_priceOfLook, 4, some .int, 1, 2), (yX11_price, cX11_price, 3, some .int, 1, 2), (yX11_prices, cX11_prices, 3, some .int, 1, 0), (yX11_bracelet, cX11_bracelet, 3, some .int, 1, 2), (yX11_bead, cX11_bead, 3, some .int, 1, 2), (yX11_stock, cX11_stock, 2, some .int, 1, 1), (yX11_sheet, cX11_sheet, 8, some .int, 1, 4), (yX11_putsBy, cX11_putsBy, 2, none, 1, 0), (yX11_adds, cX11_adds, 3, some .int, 1, 1), (yX11_counted, cX11_counted, 2, some .int, 1, 1), (yX11_undo, cX11_undo, 2, some .int, 1, 0), (yX11_isOf, cX11_isOf, 2, some .boolean, 0, 2), (yX11_laysBead, cX11_laysBead, 4, none, 0, 4), (yX11_turnsOne, cX11_turnsOne, 6, none, 1, 3), (yX11_rollsOne, cX11_rollsOne, 4, some .int, 1, 3), (yX11_flipsOne, cX11_flipsOne, 3, some .int, 1, 2), (yX11_swapsOne, cX11_swapsOne, 7, some .int, 1, 3), (yX11_threadsOne, cX11_threadsOne, 6, some .int, 1, 4), (yX11_stores, cX11_stores, 2, none, 0, 2)]
def am_mt6 : List am_R := [(yX11_cutsOne, cX11_cutsOne, 6, some .int, 1, 3), (yX11_goes, cX11_goes, 4, none, 0, 2), (yX11_joinsOne, cX11_joinsOne, 6, some .int, 1, 3), (yX11_partsOne, cX11_partsOne, 5, some .int, 1, 2), (yX11_sellsOne, cX11_sellsOne, 4, some .int, 1, 2), (yX11_buysOne, cX11_buysOne, 4, some .int, 1, 3), (yX11_strings, cX11_strings, 4, some .int, 1, 0), (yX11_rolls, cX11_rolls, 3, some .int, 1, 2), (yX11_flips, cX11_flips, 2, some .int, 1, 1), (yX11_swaps, cX11_swaps, 3, some .int, 1, 2), (yX11_threads, cX11_threads, 4, some .int, 1, 3), (yX11_cuts, cX11_cuts, 3, some .int, 1, 2), (yX11_joins, cX11_joins, 3, some .int, 1, 2), (yX11_parts, cX11_parts, 2, some .int, 1, 1), (yX11_sells, cX11_sells, 2, some .int, 1, 1), (yX11_buys, cX11_buys, 3, some .int, 1, 2), (yX11_readsAct, cX11_readsAct, 2, some .boolean, 1, 0), (yX11_does, cX11_does, 3, some .boolean, 1, 1), (yX11_day, cX11_day, 5, some .int, 1, 0), (yX11_least, cX11_least, 2, some .int, 1, 1), (yX11_alike, cX11_alike, 7, some .int, 1, 2), (yX11_firstAlike, cX11_firstAlike, 4, some .int, 1, 2), (yX11_kindsOf, cX11_kindsOf, 4, some .int, 1, 1), (yX11_kinds, cX11_kinds, 3, some .int, 1, 0), (yX11_far, cX11_far, 5, some .int, 1, 2), (yX11_finds, cX11_finds, 7, some .int, 1, 1), (yX11_isWord, cX11_isWord, 6, some .boolean, 1, 3), (yX11_words, cX11_words, 10, some .int, 1, 2), (yX11_twice, cX11_twice, 6, some .int, 1, 1), (yX11_isSame, cX11_isSame, 5, some .boolean, 1, 2), (yX11_arc, cX11_arc, 4, some .int, 1, 1), (yX11_power, cX11_power, 2, some .long, 0, 2), (yX11_ringsOf, cX11_ringsOf, 2, some .int, 0, 2), (yX11_many, cX11_many, 10, some .int, 1, 2), (yX11_newRows, cX11_newRows, 5, some .long, 0, 2), (yX11_rowsOf, cX11_rowsOf, 10, some .long, 1, 3), (yX11_oddOnes, cX11_oddOnes, 3, some .int, 1, 0), (yX11_goesInto, cX11_goesInto, 4, some .boolean, 1, 1), (yX11_flippedRows, cX11_flippedRows, 6, some .long, 1, 2), (yX11_ways, cX11_ways, 9, some .int, 1, 0)]
def am_mt7 : List am_R := [(yX11_laysLook, cX11_laysLook, 6, none, 1, 3), (yX11_entersLook, cX11_entersLook, 2, none, 1, 0), (yX11_nth, cX11_nth, 6, some .int, 1, 3), (yX11_laysRank, cX11_laysRank, 4, none, 1, 1), (yX11_rank, cX11_rank, 4, some .int, 1, 1), (yX11_next, cX11_next, 3, some .int, 1, 1), (yX11_wordAt, cX11_wordAt, 7, some .int, 1, 4), (yX11_isOnce, cX11_isOnce, 7, some .boolean, 1, 3), (yX11_wasThere, cX11_wasThere, 7, some .boolean, 1, 4), (yX11_laysAround, cX11_laysAround, 6, some .boolean, 1, 4), (yX11_once, cX11_once, 5, some .int, 1, 2), (yX11_isInStock, cX11_isInStock, 3, some .boolean, 1, 0), (yX11_made, cX11_made, 5, some .int, 1, 1), (yX11_dear, cX11_dear, 5, some .int, 1, 1), (yX11_odds, cX11_odds, 4, some .int, 1, 1), (yX11_felt, cX11_felt, 3, some .int, 1, 2), (yX11_forget, cX11_forget, 2, some .int, 1, 0), (yX11_clasps, cX11_clasps, 5, some .int, 1, 0), (yX11_guess, cX11_guess, 3, some .int, 1, 1), (yX11_feels, cX11_feels, 10, some .int, 1, 1), (yX11_lowest, cX11_lowest, 1, some .int, 0, 1), (yX11_highest, cX11_highest, 1, some .int, 0, 1), (yX11_heard, cX11_heard, 3, some .int, 1, 2), (yX11_denies, cX11_denies, 2, some .int, 1, 0), (yX11_isSo, cX11_isSo, 3, some .boolean, 1, 2), (yX11_fitting, cX11_fitting, 5, some .int, 1, 0), (yX11_fits, cX11_fits, 2, some .int, 1, 0), (yX11_asks, cX11_asks, 8, some .int, 1, 0), (yX11_laysWorth, cX11_laysWorth, 4, none, 1, 0), (yX11_ring, cX11_ring, 3, some .int, 1, 1), (yX11_law, cX11_law, 5, some .int, 1, 0), (yX11_gets, cX11_gets, 3, some .int, 0, 3), (yX11_isRest, cX11_isRest, 5, some .boolean, 0, 3), (yX11_bargains, cX11_bargains, 5, some .int, 1, 1), (yX11_draws, cX11_draws, 2, some .int, 1, 1), (yX11_drawnDay, cX11_drawnDay, 4, none, 1, 1), (yX11_years, cX11_years, 5, some .int, 1, 2), (yX11_keep, cX11_keep, 3, some .boolean, 1, 1), (yX11_again, cX11_again, 3, some .boolean, 1, 1), (yX11_count, cX11_count, 2, some .int, 1, 1)]
def am_mt8 : List am_R := [(yX11_row, cX11_row, 2, some .long, 1, 1), (yJ6_numberOfLeadingZeros_0f7a4, cJ6_numberOfLeadingZeros_0f7a4, 2, some .int, 0, 1), (yJ6_numberOfTrailingZeros_0f7a4, cJ6_numberOfTrailingZeros_0f7a4, 2, some .int, 0, 1), (yJ6_bitCount_0f7a4, cJ6_bitCount_0f7a4, 1, some .int, 0, 1), (yJ9_max_7cf53, cJ9_max_7cf53, 2, some .int, 0, 2), (yJ9_min_7cf53, cJ9_min_7cf53, 2, some .int, 0, 2)]
def am_mt : List am_R := am_mt0 ++ (am_mt1 ++ (am_mt2 ++ (am_mt3 ++ (am_mt4 ++ (am_mt5 ++ (am_mt6 ++ (am_mt7 ++ (am_mt8))))))))
def am_ct0 : List (List (Nat × am_E)) := [cd_X0_isNoColour, cd_X0_mask, cd_X0_colourAt, cd_X0_withColour, cd_X0_rolled, cd_X0_flipped, cd_X0_turned, cd_X0_turningName, cd_X0_leastRow, cd_X0_isLessFlipped, cd_X0_firstTurning, cd_X0_period, cd_X0_mirrors, cd_X0_stays, cd_X0_numberOf, cd_X0_colourBits, cd_X0_greatestColour, cd_X0_tallyInto, cd_X0_mostOfOne, cd_X0_apart, cd_X0_wordAt, cd_X0_placesOf, cd_X1_init, cd_X1_add, cd_X1_empty, cd_X1_canBeFelt, cd_X1_rollsLeft, cd_X1_isAllFelt, cd_X1_mostLeft, cd_X1_canBeHeard, cd_X1_fitting, cd_X1_suiting, cd_X1_isSo, cd_X2_power, cd_X2_commonDivisor, cd_X2_beadsThatStay, cd_X2_keptByRolls, cd_X2_keptByFlips, cd_X2_rowsThatNoRollKeeps, cd_X2_toldKeptByRolls]
def am_ct1 : List (List (Nat × am_E)) := [cd_X2_toldKeptByFlips, cd_X2_pairedRows, cd_X2_rowsOf, cd_X2_factorial, cd_X3_fault, cd_X3_form, cd_X3_suits, cd_X3_told, cd_X3_act, cd_X4_init, cd_X4_lacks, cd_X4_number, cd_X4_kind, cd_X4_grow, cd_X4_kindAt, cd_X4_kindsAhead, cd_X4_kindBehind, cd_X5_init, cd_X5_mark, cd_X5_settle, cd_X5_bringBack, cd_X5_keepUnder, cd_X5_takeKept, cd_X6_init, cd_X6_read, cd_X6_takes, cd_X6_takesDigit, cd_X6_takesThing, cd_X6_takesOperator, cd_X6_settleDownTo, cd_X6_addStep, cd_X6_addWaiting, cd_X6_binding, cd_X6_isTrait, cd_X6_price, cd_X6_trait, cd_X6_joined, cd_X7_init, cd_X7_copyFrom, cd_X7_lacks]
def am_ct2 : List (List (Nat × am_E)) := [cd_X7_lacksBead, cd_X7_hasBeadsFor, cd_X7_putBack, cd_X7_stockFrom, cd_X7_string, cd_X7_roll, cd_X7_flip, cd_X7_swap, cd_X7_thread, cd_X7_cut, cd_X7_join, cd_X7_part, cd_X7_sell, cd_X7_buy, cd_X7_drop, cd_X7_leastRow, cd_X7_othersAlike, cd_X7_firstAlike, cd_X7_kindNumber, cd_X7_priceOf, cd_X7_pricesOfAll, cd_X7_beadsOfAll, cd_X7_stockOfAll, cd_X8_init, cd_X8_size, cd_X8_signAt, cd_X8_append, cd_X8_shorten, cd_X8_empty, cd_X8_takeWord, cd_X9_init, cd_X9_begin, cd_X9_add, cd_X9_addRow, cd_X10_init, cd_X10_sign, cd_X10_end, cd_X10_strings, cd_X10_rule, cd_X10_bracelet]
def am_ct3 : List (List (Nat × am_E)) := [cd_X10_bead, cd_X10_stock, cd_X10_sheet, cd_X10_rolls, cd_X10_flips, cd_X10_swaps, cd_X10_threads, cd_X10_cuts, cd_X10_joins, cd_X10_parts, cd_X10_sells, cd_X10_buys, cd_X10_day, cd_X10_undo, cd_X10_least, cd_X10_alike, cd_X10_kinds, cd_X10_far, cd_X10_finds, cd_X10_words, cd_X10_twice, cd_X10_arc, cd_X10_many, cd_X10_ways, cd_X10_nth, cd_X10_rank, cd_X10_next, cd_X10_once, cd_X10_made, cd_X10_dear, cd_X10_odds, cd_X10_felt, cd_X10_forget, cd_X10_guess, cd_X10_feels, cd_X10_heard, cd_X10_denies, cd_X10_fits, cd_X10_asks, cd_X10_ring]
def am_ct4 : List (List (Nat × am_E)) := [cd_X10_law, cd_X10_bargains, cd_X10_years, cd_X10_keep, cd_X10_again, cd_X10_count, cd_X10_row, cd_X10_addOnce, cd_X10_noteLeastRows, cd_X10_numberNoted, cd_X10_hasNoBetter, cd_X10_share, cd_X10_passYear, cd_X10_draw, cd_X11_thrown, cd_X11_refuse, cd_X11_in, cd_X11_has, cd_X11_flag, cd_X11_common, cd_X11_enters, cd_X11_entersFraction, cd_X11_init, cd_X11_isRing, cd_X11_beadAt, cd_X11_stockOf, cd_X11_beadsOf, cd_X11_sign, cd_X11_end, cd_X11_begins, cd_X11_takes, cd_X11_isDigit, cd_X11_takesOf, cd_X11_number, cd_X11_digitIn, cd_X11_faultOf, cd_X11_readsWord, cd_X11_ofWord, cd_X11_looksAt, cd_X11_turnedOf]
def am_ct5 : List (List (Nat × am_E)) := [cd_X11_tellsTurning, cd_X11_compares, cd_X11_leastTurning, cd_X11_isLeast, cd_X11_entersLeast, cd_X11_ofLook, cd_X11_offBy, cd_X11_isAlike, cd_X11_alikeMany, cd_X11_period, cd_X11_mirrors, cd_X11_mostOfOne, cd_X11_coloursOf, cd_X11_codes, cd_X11_readsThing, cd_X11_readsRank, cd_X11_readsRule, cd_X11_laysCode, cd_X11_rule, cd_X11_worked, cd_X11_ruled, cd_X11_priceOfLook, cd_X11_price, cd_X11_prices, cd_X11_bracelet, cd_X11_bead, cd_X11_stock, cd_X11_sheet, cd_X11_putsBy, cd_X11_adds, cd_X11_counted, cd_X11_undo, cd_X11_isOf, cd_X11_laysBead, cd_X11_turnsOne, cd_X11_rollsOne, cd_X11_flipsOne, cd_X11_swapsOne, cd_X11_threadsOne, cd_X11_stores]
def am_ct6 : List (List (Nat × am_E)) := [cd_X11_cutsOne, cd_X11_goes, cd_X11_joinsOne, cd_X11_partsOne, cd_X11_sellsOne, cd_X11_buysOne, cd_X11_strings, cd_X11_rolls, cd_X11_flips, cd_X11_swaps, cd_X11_threads, cd_X11_cuts, cd_X11_joins, cd_X11_parts, cd_X11_sells, cd_X11_buys, cd_X11_readsAct, cd_X11_does, cd_X11_day, cd_X11_least, cd_X11_alike, cd_X11_firstAlike, cd_X11_kindsOf, cd_X11_kinds, cd_X11_far, cd_X11_finds, cd_X11_isWord, cd_X11_words, cd_X11_twice, cd_X11_isSame, cd_X11_arc, cd_X11_power, cd_X11_ringsOf, cd_X11_many, cd_X11_newRows, cd_X11_rowsOf, cd_X11_oddOnes, cd_X11_goesInto, cd_X11_flippedRows, cd_X11_ways]
def am_ct7 : List (List (Nat × am_E)) := [cd_X11_laysLook, cd_X11_entersLook, cd_X11_nth, cd_X11_laysRank, cd_X11_rank, cd_X11_next, cd_X11_wordAt, cd_X11_isOnce, cd_X11_wasThere, cd_X11_laysAround, cd_X11_once, cd_X11_isInStock, cd_X11_made, cd_X11_dear, cd_X11_odds, cd_X11_felt, cd_X11_forget, cd_X11_clasps, cd_X11_guess, cd_X11_feels, cd_X11_lowest, cd_X11_highest, cd_X11_heard, cd_X11_denies, cd_X11_isSo, cd_X11_fitting, cd_X11_fits, cd_X11_asks, cd_X11_laysWorth, cd_X11_ring, cd_X11_law, cd_X11_gets, cd_X11_isRest, cd_X11_bargains, cd_X11_draws, cd_X11_drawnDay, cd_X11_years, cd_X11_keep, cd_X11_again, cd_X11_count]
def am_ct8 : List (List (Nat × am_E)) := [cd_X11_row, cd_J6_numberOfLeadingZeros_0f7a4, cd_J6_numberOfTrailingZeros_0f7a4, cd_J6_bitCount_0f7a4, cd_J9_max_7cf53, cd_J9_min_7cf53]
def am_ct : List (List (Nat × am_E)) := am_ct0 ++ (am_ct1 ++ (am_ct2 ++ (am_ct3 ++ (am_ct4 ++ (am_ct5 ++ (am_ct6 ++ (am_ct7 ++ (am_ct8))))))))
end
section
section
variable {st : List Value} {ls : List (Option Value)} {h : am_H} {p i ci : Nat}
theorem am_br_mono {c a b a' b' : Prop} (h1 : a → a') (h2 : b → b') (H : am_br c a b) : am_br c a' b' := ⟨fun z => h1 (H.1 z), fun z => h2 (H.2 z)⟩
theorem am_i1_mono {g g' : Int32 → List Value → Prop} (hg : ∀ x r, g x r → g' x r) : am_i1 st g → am_i1 st g' := by
  unfold am_i1; split <;> first | exact hg _ _ | exact id
theorem am_i2_mono {g g' : Int32 → Int32 → List Value → Prop} (hg : ∀ x y r, g x y r → g' x y r) : am_i2 st g → am_i2 st g' := by
  unfold am_i2; split <;> first | exact hg _ _ _ | exact id
theorem am_l1_mono {g g' : Int64 → List Value → Prop} (hg : ∀ x r, g x r → g' x r) : am_l1 st g → am_l1 st g' := by
  unfold am_l1; split <;> first | exact hg _ _ | exact id
theorem am_l2_mono {g g' : Int64 → Int64 → List Value → Prop} (hg : ∀ x y r, g x y r → g' x y r) : am_l2 st g → am_l2 st g' := by
  unfold am_l2; split <;> first | exact hg _ _ _ | exact id
theorem am_r1_mono {g g' : Nat → List Value → Prop} (hg : ∀ x r, g x r → g' x r) : am_r1 st g → am_r1 st g' := by
  unfold am_r1; split <;> first | exact hg _ _ | exact id
theorem am_ir_mono {g g' : Int32 → Nat → List Value → Prop} (hg : ∀ x y r, g x y r → g' x y r) : am_ir st g → am_ir st g' := by
  unfold am_ir; split <;> first | exact hg _ _ _ | exact id
theorem am_ldi_mono {g g' : Int32 → Prop} (hg : ∀ x, g x → g' x) : am_ldi ls i g → am_ldi ls i g' := by
  unfold am_ldi; split <;> first | exact hg _ | exact id
theorem am_ldl_mono {g g' : Int64 → Prop} (hg : ∀ x, g x → g' x) : am_ldl ls i g → am_ldl ls i g' := by
  unfold am_ldl; split <;> first | exact hg _ | exact id
theorem am_lda_mono {g g' : Nat → Prop} (hg : ∀ x, g x → g' x) : am_lda ls i g → am_lda ls i g' := by
  unfold am_lda; split <;> first | exact hg _ | exact id
theorem am_obj_mono {g g' : List Value → Prop} (hg : ∀ x, g x → g' x) : am_obj h p ci g → am_obj h p ci g' := by
  unfold am_obj; split
  · split <;> first | exact hg _ | exact id
  · exact id
theorem am_fit_mono {t : Nat} {v : Value} {a a' : Prop} (hg : a → a') : am_fit t v a → am_fit t v a' := by
  unfold am_fit; split <;> first | exact hg | exact id | exact fun H => ⟨H.1, hg H.2⟩
theorem am_ari_mono {ty : FieldType} {g g' : Nat → (Nat → Int32) → Prop} (hg : ∀ x y, g x y → g' x y) : am_ari h p ty g → am_ari h p ty g' := by
  unfold am_ari; split
  · split <;> first | exact hg _ _ | exact id
  · exact id
theorem am_rdi_mono {g g' : Nat → (Nat → Int32) → Prop} (hg : ∀ x y, g x y → g' x y) : am_rdi h p g → am_rdi h p g' := by
  unfold am_rdi; split <;> first | exact hg _ _ | exact id
theorem am_arl_mono {g g' : Nat → (Nat → Int64) → Prop} (hg : ∀ x y, g x y → g' x y) : am_arl h p g → am_arl h p g' := by
  unfold am_arl; split <;> first | exact hg _ _ | exact id
theorem am_arr_mono {g g' : String → Nat → (Nat → Option Nat) → Prop} (hg : ∀ x y z, g x y z → g' x y z) : am_arr h p g → am_arr h p g' := by
  unfold am_arr; split <;> first | exact hg _ _ _ | exact id
theorem am_len_mono {g g' : Nat → Prop} (hg : ∀ x, g x → g' x) : am_len h p g → am_len h p g' := by
  unfold am_len; split <;> first | exact hg _ | exact id
end
def am_Kmono (call call' : am_K) : Prop := ∀ m a h Q Q', (∀ v h', Q v h' → Q' v h') → call m a h Q → call' m a h Q'
theorem am_inv_mono {call call' : am_K} (hc : am_Kmono call call') {mno n ci : Nat} {k k' : am_F → am_H → Prop} (hk : ∀ f h, k f h → k' f h) {lim : Nat × Nat} {pc : Nat} {ls : List (Option Value)} {st : List Value} {u : Nat × Nat} {h : am_H} :
    am_inv call mno n ci k lim pc ls st u h → am_inv call' mno n ci k' lim pc ls st u h := by
  unfold am_inv
  intro H
  split at H
  · rename_i hcond
    rw [if_pos hcond]
    split at H
    · split at H
      · exact am_obj_mono (fun _ z => hc _ _ _ _ _ (fun _ _ => hk _ _) z) H
      · exact H
    · exact hc _ _ _ _ _ (fun _ _ => hk _ _) H
  · exact H.elim
set_option maxHeartbeats 4000000 in
theorem am_ins_mono {call call' : am_K} (hc : am_Kmono call call') {lim : Nat × Nat} {e : am_E} {Q Q' : Option Value → am_H → Prop} (hQ : ∀ v h, Q v h → Q' v h) {X X' : am_H → Prop} (hX : ∀ h, X h → X' h) {k k' : am_F → am_H → Prop} (hk : ∀ f h, k f h → k' f h) {pc : Nat} {ls : List (Option Value)} {st : List Value} {u : Nat × Nat} {h : am_H} :
    am_ins call lim e Q X k pc ls st u h → am_ins call' lim e Q' X' k' pc ls st u h := by
  obtain ⟨i, len, a, b, t, c, d⟩ := e
  cases i <;> first
    | exact fun H => H.elim
    | exact hk _ _
    | exact am_ldi_mono (fun _ => hk _ _)
    | exact am_ldl_mono (fun _ => hk _ _)
    | exact am_lda_mono (fun _ => hk _ _)
    | exact am_i1_mono (fun _ _ => hk _ _)
    | exact am_i2_mono (fun _ _ _ => hk _ _)
    | exact am_l1_mono (fun _ _ => hk _ _)
    | exact am_l2_mono (fun _ _ _ => hk _ _)
    | exact am_r1_mono (fun _ _ => hk _ _)
    | exact am_inv_mono hc hk
    | exact am_i2_mono (fun _ _ _ H => ⟨H.1, hk _ _ H.2⟩)
    | exact am_l2_mono (fun _ _ _ H => ⟨H.1, hk _ _ H.2⟩)
    | exact am_i1_mono (fun _ _ => am_br_mono (hk _ _) (hk _ _))
    | exact am_i2_mono (fun _ _ _ => am_br_mono (hk _ _) (hk _ _))
    | exact am_ir_mono (fun _ _ _ => am_rdi_mono (fun _ _ H => ⟨H.1, hk _ _ H.2⟩))
    | exact am_ir_mono (fun _ _ _ => am_ari_mono (fun _ _ H => ⟨H.1, hk _ _ H.2⟩))
    | exact am_ir_mono (fun _ _ _ => am_arl_mono (fun _ _ H => ⟨H.1, hk _ _ H.2⟩))
    | exact am_ir_mono (fun _ _ _ => am_arr_mono (fun _ _ _ H => ⟨H.1, H.2.choose, H.2.choose_spec.1, hk _ _ H.2.choose_spec.2⟩))
    | exact am_i1_mono (fun _ _ => am_ir_mono (fun _ _ _ => am_ari_mono (fun _ _ H => ⟨H.1, hk _ _ H.2⟩)))
    | exact am_l1_mono (fun _ _ => am_ir_mono (fun _ _ _ => am_arl_mono (fun _ _ H => ⟨H.1, hk _ _ H.2⟩)))
    | exact am_r1_mono (fun _ _ => am_ir_mono (fun _ _ _ => am_arr_mono (fun _ _ _ => am_obj_mono (fun _ H => ⟨H.1, H.2.1, hk _ _ H.2.2⟩))))
    | exact am_r1_mono (fun _ _ => am_len_mono (fun _ => hk _ _))
    | exact am_i1_mono (fun _ _ H => ⟨H.1, H.2.1, H.2.2.1, H.2.2.2.1, hk _ _ H.2.2.2.2⟩)
    | (unfold am_ins; dsimp only; split <;> first | exact hk _ _ | exact fun H => H.elim | (split <;> first | exact hk _ _ | exact fun H => H.elim))
    | skip
  case getfield =>
    refine am_r1_mono (fun _ _ => am_obj_mono (fun fs => ?_))
    split
    · exact hk _ _
    · exact id
  case putfield =>
    unfold am_ins; dsimp only
    split
    · refine am_obj_mono (fun fs => ?_)
      split
      · exact am_fit_mono (hk _ _)
      · exact id
    · exact id
  case new =>
    unfold am_ins; dsimp only
    split
    · exact hX _
    · exact fun H => ⟨H.1, H.2.1, hk _ _ H.2.2⟩
  case ireturn =>
    unfold am_ins; dsimp only
    split
    · exact am_fit_mono (hQ _ _)
    · exact id
  case lreturn =>
    unfold am_ins; dsimp only
    split
    · exact hQ _ _
    · exact id
  case areturn =>
    unfold am_ins; dsimp only
    split
    · exact hQ _ _
    · exact id
  case return_ =>
    unfold am_ins; dsimp only
    split
    · exact hQ _ _
    · exact id
theorem am_step_mono {call call' : am_K} (hc : am_Kmono call call') {lim : Nat × Nat} {M : am_M} {Q Q' : Option Value → am_H → Prop} (hQ : ∀ v h, Q v h → Q' v h) {X X' : am_H → Prop} (hX : ∀ h, X h → X' h) {k k' : am_F → am_H → Prop} (hk : ∀ f h, k f h → k' f h) {f : am_F} {h : am_H} :
    am_step call lim M Q X k f h → am_step call' lim M Q' X' k' f h := by
  obtain ⟨pc, ls, st, u⟩ := f
  unfold am_step
  dsimp only
  split
  · exact am_ins_mono hc hQ hX hk
  · exact id
theorem am_wp_in {call : am_K} (hc : am_Kmono call call) {lim : Nat × Nat} {M : am_M} {Q : Option Value → am_H → Prop} {X : am_H → Prop} {f : am_F} {h : am_H} (H : am_step call lim M Q X (am_wp call lim M Q X) f h) : am_wp call lim M Q X f h :=
  fun P hP => hP _ _ (am_step_mono hc (fun _ _ z => z) (fun _ z => z) (fun _ _ z => z P hP) H)
/-- n steps at once -/
theorem am_run {call : am_K} (hc : am_Kmono call call) {lim : Nat × Nat} {M : am_M} {Q : Option Value → am_H → Prop} {X : am_H → Prop} (n : Nat) {f : am_F} {h : am_H} (H : am_steps call lim M Q X (am_wp call lim M Q X) n f h) : am_wp call lim M Q X f h := by
  have key : ∀ n f h, am_steps call lim M Q X (am_wp call lim M Q X) n f h → am_wp call lim M Q X f h := by
    intro n
    induction n with
    | zero => exact fun _ _ z => z
    | succ n ih => exact fun f h z => am_wp_in hc (am_step_mono hc (fun _ _ z => z) (fun _ z => z) ih z)
  exact key n f h H
theorem am_wp_mono {call call' : am_K} (hc : am_Kmono call call') {lim : Nat × Nat} {M : am_M} {Q Q' : Option Value → am_H → Prop} (hQ : ∀ v h, Q v h → Q' v h) {X X' : am_H → Prop} (hX : ∀ h, X h → X' h) {f : am_F} {h : am_H} (H : am_wp call lim M Q X f h) : am_wp call' lim M Q' X' f h :=
  fun P hP => H P (fun f h z => hP f h (am_step_mono hc hQ hX (fun _ _ z => z) z))
end
section
/-! how a heap of numbered cells lies in the machine's heap: ad gives each number its address -/
def am_cv (ad : Nat → Nat) (v : Value) : Value := match v with
  | .ref i => .ref (ad i)
  | .int x => .int x
  | .long x => .long x
  | .float x => .float x
  | .double x => .double x
  | .null => .null
  | .retAddr x => .retAddr x
def am_cx (ad : Nat → Nat) (x : (Nat → Int32) ⊕ (Nat → Int64) ⊕ (Nat → UInt32) ⊕ (Nat → UInt64) ⊕ (Nat → Option Nat)) : (Nat → Int32) ⊕ (Nat → Int64) ⊕ (Nat → UInt32) ⊕ (Nat → UInt64) ⊕ (Nat → Option Nat) := match x with
  | .inr (.inr (.inr (.inr f))) => .inr (.inr (.inr (.inr (fun j => (f j).map ad))))
  | .inr (.inr (.inr (.inl f))) => .inr (.inr (.inr (.inl f)))
  | .inr (.inr (.inl f)) => .inr (.inr (.inl f))
  | .inr (.inl f) => .inr (.inl f)
  | .inl f => .inl f
def am_ca (dA : Nat → ClassId) (ty : FieldType) : ClassId := match ty with
  | .int => dA 0
  | .char => dA 1
  | .boolean => dA 2
  | .long => dA 3
  | _ => dA 4
def am_ce (dA : Nat → ClassId) (ad : Nat → Nat) (c : am_C) : va_E := match c with
  | .inl (ty, n, x) => .inl (am_ca dA ty, n, am_cx ad x)
  | .inr (ci, fs) => .inr (ci, fs.map (am_cv ad))
def am_ws (dA : Nat → ClassId) (ad : Nat → Nat) (h : am_H) : va_W := (List.range (h.1 - 40)).map (fun j => (ad (40 + j), am_ce dA ad (h.2 (40 + j))))
def am_tys (dA : Nat → ClassId) : List (ClassId × FieldType) := [(dA 0, .int), (dA 1, .char), (dA 2, .boolean), (dA 3, .long), (dA 4, .object RX7)]
def am_okv (n : Nat) (v : Value) : Prop := ∀ i, v = .ref i → i < n
def am_okc (n p : Nat) (c : am_C) : Prop := (∀ ty k f, c = .inl (ty, k, .inr (.inr (.inr (.inr f)))) → ∀ j q, f j = some q → q < n) ∧ (∀ ci fs, c = .inr (ci, fs) → ∀ v ∈ fs, am_okv n v) ∧ (40 ≤ p → ∀ k x, ¬ c = .inl (.float, k, x))
def am_okh (ro : Nat → am_C) (h : am_H) : Prop := 40 ≤ h.1 ∧ (∀ p, p < h.1 → am_okc h.1 p (h.2 p)) ∧ ∀ p, p < 40 → h.2 p = ro p
theorem am_up_s {α : Type} {f : Nat → α} {k : Nat} {v : α} : va_up f k v k = v := by simp [va_up]
theorem am_up_n {α : Type} {f : Nat → α} {k j : Nat} {v : α} (h : ¬ j = k) : va_up f k v j = f j := by simp [va_up, h]
theorem am_cv_int {ad : Nat → Nat} {x : Int32} : am_cv ad (.int x) = .int x := rfl
theorem am_cv_ref {ad : Nat → Nat} {x : Nat} : am_cv ad (.ref x) = .ref (ad x) := rfl
theorem am_cv_cat {ad : Nat → Nat} {v : Value} : (am_cv ad v).category = v.category := by cases v <;> rfl
theorem am_cats_cv {ad : Nat → Nat} (st : List Value) : ((st.map (am_cv ad)).map fun v => v.category).sum = am_cats st := by
  unfold am_cats
  rw [List.map_map]
  congr 1
  exact List.map_congr_left (fun v _ => am_cv_cat)
theorem am_cv_same {ad ad' : Nat → Nat} {n : Nat} (h : ∀ i, i < n → ad' i = ad i) {v : Value} (hv : am_okv n v) : am_cv ad' v = am_cv ad v := by
  cases v <;> first | rfl | (rename_i i; show Value.ref (ad' i) = Value.ref (ad i); rw [h i (hv i rfl)])
theorem am_okv_mono {n n' : Nat} (h : n ≤ n') {v : Value} (hv : am_okv n v) : am_okv n' v := fun i e => Nat.lt_of_lt_of_le (hv i e) h
theorem am_okv_int {n : Nat} {x : Int32} : am_okv n (.int x) := fun _ e => by cases e
theorem am_okv_long {n : Nat} {x : Int64} : am_okv n (.long x) := fun _ e => by cases e
theorem am_okv_ref {n i : Nat} (h : i < n) : am_okv n (.ref i) := fun _ e => by cases e; exact h
theorem am_okc_mono {n n' p : Nat} (h : n ≤ n') {c : am_C} (hc : am_okc n p c) : am_okc n' p c := ⟨fun ty k f e j q z => Nat.lt_of_lt_of_le (hc.1 ty k f e j q z) h, fun ci fs e v hv => am_okv_mono h (hc.2.1 ci fs e v hv), hc.2.2⟩
theorem am_ce_same {dA : Nat → ClassId} {ad ad' : Nat → Nat} {n p : Nat} (h : ∀ i, i < n → ad' i = ad i) {c : am_C} (hc : am_okc n p c) : am_ce dA ad' c = am_ce dA ad c := by
  rcases c with ⟨ty, k, x⟩ | ⟨ci, fs⟩
  · show Sum.inl (am_ca dA ty, k, am_cx ad' x) = Sum.inl (am_ca dA ty, k, am_cx ad x)
    rcases x with f | f | f | f | f
    · rfl
    · rfl
    · rfl
    · rfl
    · have e : (fun j => (f j).map ad') = (fun j => (f j).map ad) := by
        funext j
        cases hj : f j with
        | none => rfl
        | some q => show some (ad' q) = some (ad q); rw [h q (hc.1 ty k f rfl j q hj)]
      show Sum.inl (am_ca dA ty, k, Sum.inr (Sum.inr (Sum.inr (Sum.inr (fun j => (f j).map ad'))))) = Sum.inl (am_ca dA ty, k, Sum.inr (Sum.inr (Sum.inr (Sum.inr (fun j => (f j).map ad)))))
      rw [e]
  · show Sum.inr (ci, fs.map (am_cv ad')) = Sum.inr (ci, fs.map (am_cv ad))
    rw [List.map_congr_left (fun v hv => am_cv_same h (hc.2.1 ci fs rfl v hv))]
theorem am_ws_at {dA : Nat → ClassId} {ad : Nat → Nat} {h : am_H} {p : Nat} (h1 : 40 ≤ p) (h2 : p < h.1) : (am_ws dA ad h)[p - 40]? = some (ad p, am_ce dA ad (h.2 p)) := by
  unfold am_ws
  rw [List.getElem?_map, List.getElem?_range (by omega)]
  have e : 40 + (p - 40) = p := by omega
  simp only [Option.map_some, e]
theorem am_ws_len {dA : Nat → ClassId} {ad : Nat → Nat} {h : am_H} : (am_ws dA ad h).length = h.1 - 40 := by simp [am_ws]
theorem am_ws_set {dA : Nat → ClassId} {ad : Nat → Nat} {h : am_H} {p : Nat} (h1 : 40 ≤ p) (h2 : p < h.1) (c : am_C) : am_ws dA ad (am_set h p c) = (am_ws dA ad h).set (p - 40) (ad p, am_ce dA ad c) := by
  apply List.ext_getElem?
  intro i
  by_cases hi : i < h.1 - 40
  · have e1 := am_ws_at (dA := dA) (ad := ad) (h := am_set h p c) (p := 40 + i) (by omega) (by show 40 + i < h.1; omega)
    have e2 := am_ws_at (dA := dA) (ad := ad) (h := h) (p := 40 + i) (by omega) (by omega)
    have e3 : 40 + i - 40 = i := by omega
    rw [e3] at e1 e2
    rw [e1, List.getElem?_set]
    by_cases hip : p - 40 = i
    · have e4 : 40 + i = p := by omega
      rw [if_pos hip, if_pos (by rw [am_ws_len]; omega), e4]
      show some (ad p, am_ce dA ad (va_up h.2 p c p)) = some (ad p, am_ce dA ad c)
      rw [am_up_s]
    · rw [if_neg hip, e2]
      show some (ad (40 + i), am_ce dA ad (va_up h.2 p c (40 + i))) = _
      rw [am_up_n (by omega)]
  · rw [List.getElem?_eq_none (by rw [am_ws_len]; show h.1 - 40 ≤ i; omega), List.getElem?_eq_none (by rw [List.length_set, am_ws_len]; omega)]
theorem am_ws_add {dA : Nat → ClassId} {ad : Nat → Nat} {h : am_H} {q : Nat} {ro : Nat → am_C} (hok : am_okh ro h) (c : am_C) : am_ws dA (va_up ad h.1 q) (am_add h c) = am_ws dA ad h ++ [(q, am_ce dA (va_up ad h.1 q) c)] := by
  apply List.ext_getElem?
  intro i
  have hh := hok.1
  by_cases hi : i < h.1 - 40
  · have e1 := am_ws_at (dA := dA) (ad := va_up ad h.1 q) (h := am_add h c) (p := 40 + i) (by omega) (by show 40 + i < h.1 + 1; omega)
    have e2 := am_ws_at (dA := dA) (ad := ad) (h := h) (p := 40 + i) (by omega) (by omega)
    have e3 : 40 + i - 40 = i := by omega
    rw [e3] at e1 e2
    rw [e1, List.getElem?_append_left (by rw [am_ws_len]; omega), e2]
    show some (va_up ad h.1 q (40 + i), am_ce dA (va_up ad h.1 q) (va_up h.2 h.1 c (40 + i))) = _
    rw [am_up_n (by omega), am_up_n (by omega), am_ce_same (n := h.1) (fun j hj => am_up_n (by omega)) (hok.2.1 (40 + i) (by omega))]
  · by_cases hi2 : i = h.1 - 40
    · subst hi2
      have e1 := am_ws_at (dA := dA) (ad := va_up ad h.1 q) (h := am_add h c) (p := h.1) (by omega) (by show h.1 < h.1 + 1; omega)
      rw [e1, List.getElem?_append_right (by rw [am_ws_len]; omega), am_ws_len, Nat.sub_self]
      show some (va_up ad h.1 q h.1, am_ce dA (va_up ad h.1 q) (va_up h.2 h.1 c h.1)) = some (q, am_ce dA (va_up ad h.1 q) c)
      rw [am_up_s, am_up_s]
    · rw [List.getElem?_eq_none (by rw [am_ws_len]; show h.1 + 1 - 40 ≤ i; omega), List.getElem?_eq_none (by rw [List.length_append, am_ws_len]; simp; omega)]
theorem am_okh_set {ro : Nat → am_C} {h : am_H} {p : Nat} {c : am_C} (hok : am_okh ro h) (h1 : 40 ≤ p) (hc : am_okc h.1 p c) : am_okh ro (am_set h p c) := by
  refine ⟨hok.1, fun q hq => ?_, fun q hq => ?_⟩
  · show am_okc h.1 q (va_up h.2 p c q)
    by_cases e : q = p
    · subst e; rw [am_up_s]; exact hc
    · rw [am_up_n e]; exact hok.2.1 q hq
  · show va_up h.2 p c q = ro q
    rw [am_up_n (by omega)]; exact hok.2.2 q hq
theorem am_okh_add {ro : Nat → am_C} {h : am_H} {c : am_C} (hok : am_okh ro h) (hc : am_okc h.1 h.1 c) : am_okh ro (am_add h c) := by
  have hh := hok.1
  refine ⟨Nat.le_succ_of_le hok.1, fun q hq => ?_, fun q hq => ?_⟩
  · show am_okc (h.1 + 1) q (va_up h.2 h.1 c q)
    by_cases e : q = h.1
    · subst e; rw [am_up_s]; exact am_okc_mono (Nat.le_succ _) hc
    · have hq' : q < h.1 + 1 := hq
      rw [am_up_n e]; exact am_okc_mono (Nat.le_succ _) (hok.2.1 q (by omega))
  · show va_up h.2 h.1 c q = ro q
    rw [am_up_n (by omega)]; exact hok.2.2 q hq
/-! locals -/
def am_pr (L : List (Option Value)) (ad : Nat → Nat) : List (Nat × Value) := (List.range L.length).filterMap (fun i => (L.getD i none).map (fun v => (i, am_cv ad v)))
theorem am_pr_mem {L : List (Option Value)} {ad : Nat → Nat} {i : Nat} {w : Value} : (i, w) ∈ am_pr L ad ↔ ∃ v, L.getD i none = some v ∧ w = am_cv ad v := by
  unfold am_pr
  rw [List.mem_filterMap]
  constructor
  · rintro ⟨j, -, hj⟩
    cases hv : L.getD j none with
    | none => rw [hv] at hj; cases hj
    | some v =>
      rw [hv] at hj
      have e : (j, am_cv ad v) = (i, w) := Option.some.inj hj
      cases e
      exact ⟨v, hv, rfl⟩
  · rintro ⟨v, hv, rfl⟩
    refine ⟨i, List.mem_range.mpr ?_, by rw [hv]; rfl⟩
    by_cases hl : i < L.length
    · exact hl
    · rw [List.getD_eq_getElem?_getD, List.getElem?_eq_none (by omega)] at hv
      cases hv
theorem am_lv_mono {ls : Array Slot} {nL : Nat} {l l' : List (Nat × Value)} (h : lv_has ls nL l) (hs : ∀ q ∈ l', q ∈ l) : lv_has ls nL l' := ⟨h.1, h.2.1, fun q hq => h.2.2 q (hs q hq)⟩
theorem am_pr_at {ls : Array Slot} {nL : Nat} {L : List (Option Value)} {ad : Nat → Nat} (h : lv_has ls nL (am_pr L ad)) {i : Nat} {v : Value} (hv : L.getD i none = some v) : ls[i]? = some (.val (am_cv ad v)) :=
  h.2.2 (i, am_cv ad v) (am_pr_mem.mpr ⟨v, hv, rfl⟩)
theorem am_getD_set {L : List (Option Value)} {i j : Nat} {x : Option Value} : (L.set i x).getD j none = if j = i ∧ i < L.length then x else L.getD j none := by
  rw [List.getD_eq_getElem?_getD, List.getD_eq_getElem?_getD, List.getElem?_set]
  by_cases e : i = j
  · subst e
    by_cases hl : i < L.length
    · simp [hl]
    · simp [hl]
  · have e2 : ¬ j = i := fun z => e z.symm
    simp [e, e2]
theorem am_kill_len {L : List (Option Value)} {i : Nat} : (am_kill L i).length = L.length := by
  unfold am_kill
  split
  · rfl
  · split <;> simp
theorem am_kill_at {L : List (Option Value)} {i j : Nat} {v : Value} (h : (am_kill L i).getD j none = some v) : L.getD j none = some v ∧ ¬ (j + 1 = i ∧ v.category = 2) := by
  unfold am_kill at h
  split at h
  · exact ⟨h, fun z => by omega⟩
  · rename_i k
    split at h
    · rename_i x hx
      rw [am_getD_set] at h
      split at h
      · cases h
      · rename_i hn
        refine ⟨h, fun z => ?_⟩
        have e : j = k := by omega
        subst e
        refine hn ⟨rfl, ?_⟩
        by_cases hl : j < L.length
        · exact hl
        · rw [List.getD_eq_getElem?_getD, List.getElem?_eq_none (by omega)] at hx
          cases hx
    · rename_i x hx
      rw [am_getD_set] at h
      split at h
      · cases h
      · rename_i hn
        refine ⟨h, fun z => ?_⟩
        have e : j = k := by omega
        subst e
        refine hn ⟨rfl, ?_⟩
        by_cases hl : j < L.length
        · exact hl
        · rw [List.getD_eq_getElem?_getD, List.getElem?_eq_none (by omega)] at hx
          cases hx
    · rename_i h1 h2
      refine ⟨h, fun z => ?_⟩
      have e : j = k := by omega
      subst e
      obtain ⟨-, z⟩ := z
      cases v with
      | long x => exact h1 x h
      | double x => exact h2 x h
      | _ => simp [Value.category] at z
theorem am_st1_at {L : List (Option Value)} {i j : Nat} {v w : Value} (h : (am_st1 L i v).getD j none = some w) : (j = i ∧ w = v) ∨ (¬ j = i ∧ L.getD j none = some w ∧ ¬ (j + 1 = i ∧ w.category = 2)) := by
  unfold am_st1 at h
  rw [am_getD_set] at h
  split at h
  · rename_i hz; cases h; exact Or.inl ⟨hz.1, rfl⟩
  · rename_i hz
    obtain ⟨h1, h2⟩ := am_kill_at h
    by_cases e : j = i
    · subst e
      have hl : j < L.length := by
        by_cases hl : j < L.length
        · exact hl
        · rw [List.getD_eq_getElem?_getD, List.getElem?_eq_none (by omega)] at h1
          cases h1
      exact absurd ⟨rfl, by rw [am_kill_len]; exact hl⟩ hz
    · exact Or.inr ⟨e, h1, h2⟩
theorem am_st2_at {L : List (Option Value)} {i j : Nat} {v w : Value} (h : (am_st2 L i v).getD j none = some w) : (j = i ∧ w = v) ∨ (¬ j = i ∧ ¬ j = i + 1 ∧ L.getD j none = some w ∧ ¬ (j + 1 = i ∧ w.category = 2)) := by
  unfold am_st2 at h
  rw [am_getD_set] at h
  split at h
  · cases h
  · rename_i hz
    have h' : (am_st1 L i v).getD j none = some w := h
    rcases am_st1_at h' with h1 | ⟨h1, h2, h3⟩
    · exact Or.inl h1
    · refine Or.inr ⟨h1, fun e => ?_, h2, h3⟩
      subst e
      have hl : i + 1 < L.length := by
        by_cases hl : i + 1 < L.length
        · exact hl
        · rw [List.getD_eq_getElem?_getD, List.getElem?_eq_none (by omega)] at h2
          cases h2
      exact hz ⟨rfl, by rw [List.length_set, am_kill_len]; exact hl⟩
theorem am_st1_len {L : List (Option Value)} {i : Nat} {v : Value} : (am_st1 L i v).length = L.length := by
  unfold am_st1; rw [List.length_set, am_kill_len]
theorem am_st2_len {L : List (Option Value)} {i : Nat} {v : Value} : (am_st2 L i v).length = L.length := by
  unfold am_st2; rw [List.length_set, List.length_set, am_kill_len]
theorem am_lv_st1 {ls : Array Slot} {nL : Nat} {L : List (Option Value)} {ad : Nat → Nat} {i : Nat} {v : Value} (h : lv_has ls nL ((i, am_cv ad v) :: (am_pr L ad).filter (fun q => !(q.1 == i) && !(q.1 + 1 == i && q.2.category == 2)))) : lv_has ls nL (am_pr (am_st1 L i v) ad) := by
  refine am_lv_mono h (fun q hq => ?_)
  obtain ⟨j, w⟩ := q
  obtain ⟨x, hx, rfl⟩ := am_pr_mem.mp hq
  rcases am_st1_at hx with ⟨rfl, rfl⟩ | ⟨h1, h2, h3⟩
  · exact List.mem_cons_self
  · refine List.mem_cons_of_mem _ (List.mem_filter.mpr ⟨am_pr_mem.mpr ⟨x, h2, rfl⟩, ?_⟩)
    simp only [am_cv_cat, Bool.and_eq_true, Bool.not_eq_true', beq_eq_false_iff_ne, ne_eq, Bool.and_eq_false_iff]
    refine ⟨h1, ?_⟩
    by_cases e : j + 1 = i
    · exact Or.inr (fun z => h3 ⟨e, z⟩)
    · exact Or.inl e
theorem am_lv_st2 {ls : Array Slot} {nL : Nat} {L : List (Option Value)} {ad : Nat → Nat} {i : Nat} {v : Value} (h : lv_has ls nL ((i, am_cv ad v) :: (am_pr L ad).filter (fun q => !(q.1 == i) && (!(q.1 == i + 1) && !(q.1 + 1 == i && q.2.category == 2))))) : lv_has ls nL (am_pr (am_st2 L i v) ad) := by
  refine am_lv_mono h (fun q hq => ?_)
  obtain ⟨j, w⟩ := q
  obtain ⟨x, hx, rfl⟩ := am_pr_mem.mp hq
  rcases am_st2_at hx with ⟨rfl, rfl⟩ | ⟨h1, h1', h2, h3⟩
  · exact List.mem_cons_self
  · refine List.mem_cons_of_mem _ (List.mem_filter.mpr ⟨am_pr_mem.mpr ⟨x, h2, rfl⟩, ?_⟩)
    simp only [am_cv_cat, Bool.and_eq_true, Bool.not_eq_true', beq_eq_false_iff_ne, ne_eq, Bool.and_eq_false_iff]
    refine ⟨h1, h1', ?_⟩
    by_cases e : j + 1 = i
    · exact Or.inr (fun z => h3 ⟨e, z⟩)
    · exact Or.inl e
def am_okL (n : Nat) (L : List (Option Value)) : Prop := ∀ i v, L.getD i none = some v → am_okv n v
theorem am_okL_st1 {n : Nat} {L : List (Option Value)} {i : Nat} {v : Value} (h : am_okL n L) (hv : am_okv n v) : am_okL n (am_st1 L i v) := fun j w hw => by
  rcases am_st1_at hw with ⟨-, rfl⟩ | ⟨-, h2, -⟩
  · exact hv
  · exact h j w h2
theorem am_okL_st2 {n : Nat} {L : List (Option Value)} {i : Nat} {v : Value} (h : am_okL n L) (hv : am_okv n v) : am_okL n (am_st2 L i v) := fun j w hw => by
  rcases am_st2_at hw with ⟨-, rfl⟩ | ⟨-, -, h2, -⟩
  · exact hv
  · exact h j w h2
theorem am_okL_mono {n n' : Nat} (h : n ≤ n') {L : List (Option Value)} (hL : am_okL n L) : am_okL n' L := fun i v hv => am_okv_mono h (hL i v hv)
theorem am_pr_same {L : List (Option Value)} {ad ad' : Nat → Nat} {n : Nat} (h : ∀ i, i < n → ad' i = ad i) (hL : am_okL n L) : ∀ q ∈ am_pr L ad', q ∈ am_pr L ad := fun q hq => by
  obtain ⟨j, w⟩ := q
  obtain ⟨x, hx, rfl⟩ := am_pr_mem.mp hq
  exact am_pr_mem.mpr ⟨x, hx, am_cv_same h (hL j x hx)⟩
end
section
/-! what an instruction's meaning gives, taken apart -/
section
variable {st : List Value} {ls : List (Option Value)} {h : am_H} {p i ci : Nat}
theorem am_i1_use {g : Int32 → List Value → Prop} (H : am_i1 st g) : ∃ x r, st = .int x :: r ∧ g x r := by
  unfold am_i1 at H; split at H
  · exact ⟨_, _, rfl, H⟩
  · exact H.elim
theorem am_i2_use {g : Int32 → Int32 → List Value → Prop} (H : am_i2 st g) : ∃ x y r, st = .int y :: .int x :: r ∧ g x y r := by
  unfold am_i2 at H; split at H
  · exact ⟨_, _, _, rfl, H⟩
  · exact H.elim
theorem am_l1_use {g : Int64 → List Value → Prop} (H : am_l1 st g) : ∃ x r, st = .long x :: r ∧ g x r := by
  unfold am_l1 at H; split at H
  · exact ⟨_, _, rfl, H⟩
  · exact H.elim
theorem am_l2_use {g : Int64 → Int64 → List Value → Prop} (H : am_l2 st g) : ∃ x y r, st = .long y :: .long x :: r ∧ g x y r := by
  unfold am_l2 at H; split at H
  · exact ⟨_, _, _, rfl, H⟩
  · exact H.elim
theorem am_r1_use {g : Nat → List Value → Prop} (H : am_r1 st g) : ∃ x r, st = .ref x :: r ∧ g x r := by
  unfold am_r1 at H; split at H
  · exact ⟨_, _, rfl, H⟩
  · exact H.elim
theorem am_ir_use {g : Int32 → Nat → List Value → Prop} (H : am_ir st g) : ∃ x y r, st = .int x :: .ref y :: r ∧ g x y r := by
  unfold am_ir at H; split at H
  · exact ⟨_, _, _, rfl, H⟩
  · exact H.elim
theorem am_ldi_use {g : Int32 → Prop} (H : am_ldi ls i g) : ∃ x, ls.getD i none = some (.int x) ∧ g x := by
  unfold am_ldi at H; split at H
  · rename_i e; exact ⟨_, e, H⟩
  · exact H.elim
theorem am_ldl_use {g : Int64 → Prop} (H : am_ldl ls i g) : ∃ x, ls.getD i none = some (.long x) ∧ g x := by
  unfold am_ldl at H; split at H
  · rename_i e; exact ⟨_, e, H⟩
  · exact H.elim
theorem am_lda_use {g : Nat → Prop} (H : am_lda ls i g) : ∃ x, ls.getD i none = some (.ref x) ∧ g x := by
  unfold am_lda at H; split at H
  · rename_i e; exact ⟨_, e, H⟩
  · exact H.elim
theorem am_obj_use {g : List Value → Prop} (H : am_obj h p ci g) : ∃ fs, h.2 p = .inr (ci, fs) ∧ g fs := by
  unfold am_obj at H; split at H
  · rename_i c fs e
    split at H
    · rename_i hc; subst hc; exact ⟨_, e, H⟩
    · exact H.elim
  · exact H.elim
theorem am_ari_use {ty : FieldType} {g : Nat → (Nat → Int32) → Prop} (H : am_ari h p ty g) : ∃ n f, h.2 p = .inl (ty, n, .inl f) ∧ g n f := by
  unfold am_ari at H; split at H
  · rename_i t n f e
    split at H
    · rename_i hc; subst hc; exact ⟨_, _, e, H⟩
    · exact H.elim
  · exact H.elim
theorem am_rdi_use {g : Nat → (Nat → Int32) → Prop} (H : am_rdi h p g) : ∃ n f, (h.2 p = .inl (.int, n, .inl f) ∨ h.2 p = .inl (.float, n, .inl f)) ∧ g n f := by
  unfold am_rdi at H; split at H
  · rename_i e; exact ⟨_, _, Or.inl e, H⟩
  · rename_i e; exact ⟨_, _, Or.inr e, H⟩
  · exact H.elim
theorem am_arl_use {g : Nat → (Nat → Int64) → Prop} (H : am_arl h p g) : ∃ n f, h.2 p = .inl (.long, n, .inr (.inl f)) ∧ g n f := by
  unfold am_arl at H; split at H
  · rename_i e; exact ⟨_, _, e, H⟩
  · exact H.elim
theorem am_arr_use {g : String → Nat → (Nat → Option Nat) → Prop} (H : am_arr h p g) : ∃ C n f, h.2 p = .inl (.object C, n, .inr (.inr (.inr (.inr f)))) ∧ g C n f := by
  unfold am_arr at H; split at H
  · rename_i e; exact ⟨_, _, _, e, H⟩
  · exact H.elim
theorem am_len_use {g : Nat → Prop} (H : am_len h p g) : ∃ ty n x, h.2 p = .inl (ty, n, x) ∧ g n := by
  unfold am_len at H; split at H
  · rename_i e; exact ⟨_, _, _, e, H⟩
  · exact H.elim
end
/-- the texts: own class, entry, text, number -/
def am_strs : List (String × Nat × String × Nat) := [("BeadRings$Day", 9, "", 0), ("BeadRings$Day", 49, "dd", 1), ("BeadRings$Day", 51, "d", 2), ("BeadRings$Day", 53, "ddl", 3), ("BeadRings$Day", 55, "lp", 4), ("BeadRings", 121, "no such bracelet", 5), ("BeadRings", 150, "no such question", 6), ("BeadRings", 156, "no such bead", 7), ("BeadRings", 165, "no such colour", 8), ("BeadRings", 411, "the row has no such number", 9), ("BeadRingsModel", 215, "nctfmdh", 10), ("BeadRingsModel", 220, "<>=", 11), ("BeadRingsModel", 222, "+-", 12), ("BeadRingsModel", 224, "*/", 13), ("BeadRingsModel", 162, "abcd", 14), ("BeadRingsModel", 360, "fusrxcjtb", 15)]
def am_nst : List (String × Nat × MethodName) := [(RX10, 9, yX7_init), (RX5, 24, yX7_init), (RX10, 28, yX8_init), (RX10, 35, yX9_init), (RX10, 42, yX4_init), (RX10, 68, yX6_init)]
def am_byts : List (List Int32) := (List.range 16).map am_txt
def am_lens : List Nat := am_byts.map List.length
/-- what is only read: the texts (0 .. 15), the static arrays (32, 33), the script (34) -/
def am_RO (ro : Nat → am_C) (ad : Nat → Nat) (A : Nat → Prop) (U : State) (H : Heap) : Prop :=
  (∀ p n f, p < 40 → ro p = .inl (.float, n, .inl f) → va_T .int (ad p) n (fun j => .int (f j)) A U H) ∧
  va_Z RX4 "STARTS" "[I" (.ref (ad 32)) A U H ∧ va_Z RX2 "FACTORIALS" "[I" (.ref (ad 33)) A U H ∧
  (∀ q ∈ am_strs, vk_R q.1 q.2.1 q.2.2.1 (ad q.2.2.2) U) ∧ (∃ adV, vk_S 16 am_lens am_byts ad adV A U H) ∧
  va_Z "java/lang/String" "COMPACT_STRINGS" "Z" (.int 1) A U H ∧ va_Zq "jdk/internal/util/Preconditions" "SIOOBE_FORMATTER" "Ljava/util/function/BiFunction;" A U H ∧
  vx_Zq Bundle.tN "UNASSIGNED_STACK" Bundle.steD A U H ∧ vx_Zq Bundle.tN "SUPPRESSED_SENTINEL" Bundle.listD A U H ∧ (∀ q ∈ am_nst, va_Nw (.methodLinkNest q.1 q.2.1 q.2.2 "BeadRings") U) ∧ va_AO RX7 U
theorem am_strs_lt : ∀ q ∈ am_strs, q.2.2.2 < 16 := by decide
theorem am_RO_go {ro : Nat → am_C} {ad ad0 : Nat → Nat} {A B : Nat → Prop} {s U : State} {H0 H : Heap} (h : am_RO ro ad0 A s H0) (hvm : s.WarmedH U.vm) (hk : ∀ a : Nat, a < H0.size → ¬ A a → H[a]? = H0[a]?) (hAB : ∀ q, B q → A q) (had : ∀ i, i < 40 → ad i = ad0 i) : am_RO ro ad B U H := by
  obtain ⟨h1, h2, h3, h4, ⟨adV, h5⟩, h6, h7, h8, h9, h10, h11⟩ := h
  have hv := hvm.alike
  refine ⟨fun p n f hp e => ?_, ?_, ?_, fun q hq => ?_, ⟨adV, ?_⟩, ((h6.moved hv).kept hk).narrow hAB, ((h7.moved hv).kept hk).narrow hAB, ((h8.moved hv).kept hk).narrow hAB, ((h9.moved hv).kept hk).narrow hAB, fun q hq => va_Nw.warmM hvm (h10 q hq), h11.moved hv⟩
  · rw [had p hp]; exact (((h1 p n f hp e).moved hv).kept hk).narrow hAB
  · rw [had 32 (by omega)]; exact ((h2.moved hv).kept hk).narrow hAB
  · rw [had 33 (by omega)]; exact ((h3.moved hv).kept hk).narrow hAB
  · rw [had q.2.2.2 (by have := am_strs_lt q hq; omega)]; exact (h4 q hq).warm hvm
  · have h5' := ((h5.moved hv).kept hk).narrow hAB
    refine ⟨fun i hi => ?_, fun i j hi hj e => ?_⟩
    · rw [had i (by omega)]; exact h5'.1 i hi
    · rw [had i (by omega), had j (by omega)] at e; exact h5'.2 i j hi hj e
theorem am_RO_same {ro : Nat → am_C} {ad : Nat → Nat} {A : Nat → Prop} {u U : State} {H : Heap} (h : am_RO ro ad A u H) (hvm : U.vm = u.vm) : am_RO ro ad A U H := by
  obtain ⟨h1, h2, h3, h4, ⟨adV, h5⟩, h6, h7, h8, h9, h10, h11⟩ := h
  have hv : u.vm.Alike U.vm := by rw [hvm]; exact Vm.Alike.refl _
  exact ⟨fun p n f hp e => (h1 p n f hp e).moved hv, h2.moved hv, h3.moved hv, fun q hq => (h4 q hq).same hvm, ⟨adV, h5.moved hv⟩, h6.moved hv, h7.moved hv, h8.moved hv, h9.moved hv, fun q hq => va_Nw.same rfl hvm.symm (h10 q hq), h11.moved hv⟩
def am_roS (ro : Nat → am_C) : Prop := ∀ p, p < 40 → ro p = .inr (50, []) ∨ ∃ n f, ro p = .inl (.float, n, .inl f)
section
variable (p : Program) (l : Launch) (e : Env) (R : Room) (s : State) (m : MethodId) (args : Array Value) (below : List Frame) (meth : Method) (c : Code)
variable (D : va_G) (dA : Nat → ClassId) (A : Nat → Prop) (ro : Nat → am_C) (ad0 : Nat → Nat) (n0 nL : Nat) (lim : Nat × Nat) (Qm : State → Prop)
/-- the machine at a frame: wherever heap and locals lie so, it comes to Qm -/
def am_Wp : am_F → am_H → Prop := fun f h => match f with
  | (pc, L, st, u) => ∀ (ad : Nat → Nat) (H : Heap) (locs : List Loc) (ls : Array Slot), (∀ i, i < n0 → ad i = ad0 i) → n0 ≤ h.1 → va_P D vwCl (am_ws dA ad h) H → va_D A (am_ws dA ad h) → va_S A s.heap H locs → am_okh ro h → lv_has ls nL (am_pr L ad) → am_okL h.1 L → (∀ v ∈ st, am_okv h.1 v) → u.1 ≤ lim.1 → u.2 ≤ lim.2 →
    W p l e R s m args below meth c H locs u.1 u.2 Qm (F0 m pc ls (st.map (am_cv ad)))
end
section
variable {p : Program} {l : Launch} {e : Env} {R : Room} {s : State} {m : MethodId} {args : Array Value} {below : List Frame} {meth : Method} {c : Code}
variable {D : va_G} {dA : Nat → ClassId} {A : Nat → Prop} {ro : Nat → am_C} {ad0 : Nat → Nat} {n0 nL : Nat} {lim : Nat × Nat} {Qm : State → Prop}
variable {cc : ByteArray} {pc : Nat} {L : List (Option Value)} {st : List Value} {u : Nat × Nat} {h : am_H}

theorem ams_iadd (hx : p.tables.exec = Jvm.exec) (hb : c.code = cc) (hd : decode cc pc = .ok (.iadd, 1)) (H0 : am_i2 st (fun x y r => am_Wp p l e R s m args below meth c D dA A ro ad0 n0 nL lim Qm (pc + 1, L, .int (x + y) :: r, u) h)) : am_Wp p l e R s m args below meth c D dA A ro ad0 n0 nL lim Qm (pc, L, st, u) h := by
  obtain ⟨x, y, r, rfl, K⟩ := am_i2_use H0
  intro ad H locs ls had hn hP hD hS hok hl hLo hst hu1 hu2
  exact lv_iadd hx hb hd (K ad H locs ls had hn hP hD hS hok hl hLo (List.forall_mem_cons.mpr ⟨am_okv_int, fun v hv => hst v (List.mem_cons_of_mem _ (List.mem_cons_of_mem _ hv))⟩) hu1 hu2)
theorem ams_isub (hx : p.tables.exec = Jvm.exec) (hb : c.code = cc) (hd : decode cc pc = .ok (.isub, 1)) (H0 : am_i2 st (fun x y r => am_Wp p l e R s m args below meth c D dA A ro ad0 n0 nL lim Qm (pc + 1, L, .int (x - y) :: r, u) h)) : am_Wp p l e R s m args below meth c D dA A ro ad0 n0 nL lim Qm (pc, L, st, u) h := by
  obtain ⟨x, y, r, rfl, K⟩ := am_i2_use H0
  intro ad H locs ls had hn hP hD hS hok hl hLo hst hu1 hu2
  exact lv_isub hx hb hd (K ad H locs ls had hn hP hD hS hok hl hLo (List.forall_mem_cons.mpr ⟨am_okv_int, fun v hv => hst v (List.mem_cons_of_mem _ (List.mem_cons_of_mem _ hv))⟩) hu1 hu2)
theorem ams_imul (hx : p.tables.exec = Jvm.exec) (hb : c.code = cc) (hd : decode cc pc = .ok (.imul, 1)) (H0 : am_i2 st (fun x y r => am_Wp p l e R s m args below meth c D dA A ro ad0 n0 nL lim Qm (pc + 1, L, .int (x * y) :: r, u) h)) : am_Wp p l e R s m args below meth c D dA A ro ad0 n0 nL lim Qm (pc, L, st, u) h := by
  obtain ⟨x, y, r, rfl, K⟩ := am_i2_use H0
  intro ad H locs ls had hn hP hD hS hok hl hLo hst hu1 hu2
  exact lv_imul hx hb hd (K ad H locs ls had hn hP hD hS hok hl hLo (List.forall_mem_cons.mpr ⟨am_okv_int, fun v hv => hst v (List.mem_cons_of_mem _ (List.mem_cons_of_mem _ hv))⟩) hu1 hu2)
theorem ams_iand (hx : p.tables.exec = Jvm.exec) (hb : c.code = cc) (hd : decode cc pc = .ok (.iand, 1)) (H0 : am_i2 st (fun x y r => am_Wp p l e R s m args below meth c D dA A ro ad0 n0 nL lim Qm (pc + 1, L, .int (x &&& y) :: r, u) h)) : am_Wp p l e R s m args below meth c D dA A ro ad0 n0 nL lim Qm (pc, L, st, u) h := by
  obtain ⟨x, y, r, rfl, K⟩ := am_i2_use H0
  intro ad H locs ls had hn hP hD hS hok hl hLo hst hu1 hu2
  exact lv_iand hx hb hd (K ad H locs ls had hn hP hD hS hok hl hLo (List.forall_mem_cons.mpr ⟨am_okv_int, fun v hv => hst v (List.mem_cons_of_mem _ (List.mem_cons_of_mem _ hv))⟩) hu1 hu2)
theorem ams_ior (hx : p.tables.exec = Jvm.exec) (hb : c.code = cc) (hd : decode cc pc = .ok (.ior, 1)) (H0 : am_i2 st (fun x y r => am_Wp p l e R s m args below meth c D dA A ro ad0 n0 nL lim Qm (pc + 1, L, .int (x ||| y) :: r, u) h)) : am_Wp p l e R s m args below meth c D dA A ro ad0 n0 nL lim Qm (pc, L, st, u) h := by
  obtain ⟨x, y, r, rfl, K⟩ := am_i2_use H0
  intro ad H locs ls had hn hP hD hS hok hl hLo hst hu1 hu2
  exact lv_ior hx hb hd (K ad H locs ls had hn hP hD hS hok hl hLo (List.forall_mem_cons.mpr ⟨am_okv_int, fun v hv => hst v (List.mem_cons_of_mem _ (List.mem_cons_of_mem _ hv))⟩) hu1 hu2)
theorem ams_ixor (hx : p.tables.exec = Jvm.exec) (hb : c.code = cc) (hd : decode cc pc = .ok (.ixor, 1)) (H0 : am_i2 st (fun x y r => am_Wp p l e R s m args below meth c D dA A ro ad0 n0 nL lim Qm (pc + 1, L, .int (x ^^^ y) :: r, u) h)) : am_Wp p l e R s m args below meth c D dA A ro ad0 n0 nL lim Qm (pc, L, st, u) h := by
  obtain ⟨x, y, r, rfl, K⟩ := am_i2_use H0
  intro ad H locs ls had hn hP hD hS hok hl hLo hst hu1 hu2
  exact lv_ixor hx hb hd (K ad H locs ls had hn hP hD hS hok hl hLo (List.forall_mem_cons.mpr ⟨am_okv_int, fun v hv => hst v (List.mem_cons_of_mem _ (List.mem_cons_of_mem _ hv))⟩) hu1 hu2)
theorem ams_ishl (hx : p.tables.exec = Jvm.exec) (hb : c.code = cc) (hd : decode cc pc = .ok (.ishl, 1)) (H0 : am_i2 st (fun x y r => am_Wp p l e R s m args below meth c D dA A ro ad0 n0 nL lim Qm (pc + 1, L, .int (x <<< (y &&& 31)) :: r, u) h)) : am_Wp p l e R s m args below meth c D dA A ro ad0 n0 nL lim Qm (pc, L, st, u) h := by
  obtain ⟨x, y, r, rfl, K⟩ := am_i2_use H0
  intro ad H locs ls had hn hP hD hS hok hl hLo hst hu1 hu2
  exact lv_ishl hx hb hd (K ad H locs ls had hn hP hD hS hok hl hLo (List.forall_mem_cons.mpr ⟨am_okv_int, fun v hv => hst v (List.mem_cons_of_mem _ (List.mem_cons_of_mem _ hv))⟩) hu1 hu2)
theorem ams_ishr (hx : p.tables.exec = Jvm.exec) (hb : c.code = cc) (hd : decode cc pc = .ok (.ishr, 1)) (H0 : am_i2 st (fun x y r => am_Wp p l e R s m args below meth c D dA A ro ad0 n0 nL lim Qm (pc + 1, L, .int (x >>> (y &&& 31)) :: r, u) h)) : am_Wp p l e R s m args below meth c D dA A ro ad0 n0 nL lim Qm (pc, L, st, u) h := by
  obtain ⟨x, y, r, rfl, K⟩ := am_i2_use H0
  intro ad H locs ls had hn hP hD hS hok hl hLo hst hu1 hu2
  exact lv_ishr hx hb hd (K ad H locs ls had hn hP hD hS hok hl hLo (List.forall_mem_cons.mpr ⟨am_okv_int, fun v hv => hst v (List.mem_cons_of_mem _ (List.mem_cons_of_mem _ hv))⟩) hu1 hu2)
theorem ams_iushr (hx : p.tables.exec = Jvm.exec) (hb : c.code = cc) (hd : decode cc pc = .ok (.iushr, 1)) (H0 : am_i2 st (fun x y r => am_Wp p l e R s m args below meth c D dA A ro ad0 n0 nL lim Qm (pc + 1, L, .int (x.toUInt32 >>> (y.toUInt32 &&& Int32.toUInt32 31)).toInt32 :: r, u) h)) : am_Wp p l e R s m args below meth c D dA A ro ad0 n0 nL lim Qm (pc, L, st, u) h := by
  obtain ⟨x, y, r, rfl, K⟩ := am_i2_use H0
  intro ad H locs ls had hn hP hD hS hok hl hLo hst hu1 hu2
  exact lv_iushr hx hb hd rfl (K ad H locs ls had hn hP hD hS hok hl hLo (List.forall_mem_cons.mpr ⟨am_okv_int, fun v hv => hst v (List.mem_cons_of_mem _ (List.mem_cons_of_mem _ hv))⟩) hu1 hu2)
theorem ams_idiv (hx : p.tables.exec = Jvm.exec) (hb : c.code = cc) (hd : decode cc pc = .ok (.idiv, 1)) (H0 : am_i2 st (fun x y r => ¬ y = 0 ∧ am_Wp p l e R s m args below meth c D dA A ro ad0 n0 nL lim Qm (pc + 1, L, .int (x / y) :: r, u) h)) : am_Wp p l e R s m args below meth c D dA A ro ad0 n0 nL lim Qm (pc, L, st, u) h := by
  obtain ⟨x, y, r, rfl, hne, K⟩ := am_i2_use H0
  intro ad H locs ls had hn hP hD hS hok hl hLo hst hu1 hu2
  exact lv_idiv hx hb hd hne (K ad H locs ls had hn hP hD hS hok hl hLo (List.forall_mem_cons.mpr ⟨am_okv_int, fun v hv => hst v (List.mem_cons_of_mem _ (List.mem_cons_of_mem _ hv))⟩) hu1 hu2)
theorem ams_irem (hx : p.tables.exec = Jvm.exec) (hb : c.code = cc) (hd : decode cc pc = .ok (.irem, 1)) (H0 : am_i2 st (fun x y r => ¬ y = 0 ∧ am_Wp p l e R s m args below meth c D dA A ro ad0 n0 nL lim Qm (pc + 1, L, .int (x - x / y * y) :: r, u) h)) : am_Wp p l e R s m args below meth c D dA A ro ad0 n0 nL lim Qm (pc, L, st, u) h := by
  obtain ⟨x, y, r, rfl, hne, K⟩ := am_i2_use H0
  intro ad H locs ls had hn hP hD hS hok hl hLo hst hu1 hu2
  exact lv_irem hx hb hd hne (K ad H locs ls had hn hP hD hS hok hl hLo (List.forall_mem_cons.mpr ⟨am_okv_int, fun v hv => hst v (List.mem_cons_of_mem _ (List.mem_cons_of_mem _ hv))⟩) hu1 hu2)
theorem ams_ladd (hx : p.tables.exec = Jvm.exec) (hb : c.code = cc) (hd : decode cc pc = .ok (.ladd, 1)) (H0 : am_l2 st (fun x y r => am_Wp p l e R s m args below meth c D dA A ro ad0 n0 nL lim Qm (pc + 1, L, .long (x + y) :: r, u) h)) : am_Wp p l e R s m args below meth c D dA A ro ad0 n0 nL lim Qm (pc, L, st, u) h := by
  obtain ⟨x, y, r, rfl, K⟩ := am_l2_use H0
  intro ad H locs ls had hn hP hD hS hok hl hLo hst hu1 hu2
  exact lv_ladd hx hb hd (K ad H locs ls had hn hP hD hS hok hl hLo (List.forall_mem_cons.mpr ⟨am_okv_long, fun v hv => hst v (List.mem_cons_of_mem _ (List.mem_cons_of_mem _ hv))⟩) hu1 hu2)
theorem ams_lsub (hx : p.tables.exec = Jvm.exec) (hb : c.code = cc) (hd : decode cc pc = .ok (.lsub, 1)) (H0 : am_l2 st (fun x y r => am_Wp p l e R s m args below meth c D dA A ro ad0 n0 nL lim Qm (pc + 1, L, .long (x - y) :: r, u) h)) : am_Wp p l e R s m args below meth c D dA A ro ad0 n0 nL lim Qm (pc, L, st, u) h := by
  obtain ⟨x, y, r, rfl, K⟩ := am_l2_use H0
  intro ad H locs ls had hn hP hD hS hok hl hLo hst hu1 hu2
  exact lv_lsub hx hb hd (K ad H locs ls had hn hP hD hS hok hl hLo (List.forall_mem_cons.mpr ⟨am_okv_long, fun v hv => hst v (List.mem_cons_of_mem _ (List.mem_cons_of_mem _ hv))⟩) hu1 hu2)
theorem ams_lmul (hx : p.tables.exec = Jvm.exec) (hb : c.code = cc) (hd : decode cc pc = .ok (.lmul, 1)) (H0 : am_l2 st (fun x y r => am_Wp p l e R s m args below meth c D dA A ro ad0 n0 nL lim Qm (pc + 1, L, .long (x * y) :: r, u) h)) : am_Wp p l e R s m args below meth c D dA A ro ad0 n0 nL lim Qm (pc, L, st, u) h := by
  obtain ⟨x, y, r, rfl, K⟩ := am_l2_use H0
  intro ad H locs ls had hn hP hD hS hok hl hLo hst hu1 hu2
  exact lv_lmul hx hb hd (K ad H locs ls had hn hP hD hS hok hl hLo (List.forall_mem_cons.mpr ⟨am_okv_long, fun v hv => hst v (List.mem_cons_of_mem _ (List.mem_cons_of_mem _ hv))⟩) hu1 hu2)
theorem ams_ldiv (hx : p.tables.exec = Jvm.exec) (hb : c.code = cc) (hd : decode cc pc = .ok (.ldiv, 1)) (H0 : am_l2 st (fun x y r => ¬ y = 0 ∧ am_Wp p l e R s m args below meth c D dA A ro ad0 n0 nL lim Qm (pc + 1, L, .long (x / y) :: r, u) h)) : am_Wp p l e R s m args below meth c D dA A ro ad0 n0 nL lim Qm (pc, L, st, u) h := by
  obtain ⟨x, y, r, rfl, hne, K⟩ := am_l2_use H0
  intro ad H locs ls had hn hP hD hS hok hl hLo hst hu1 hu2
  exact lv_ldiv hx hb hd hne (K ad H locs ls had hn hP hD hS hok hl hLo (List.forall_mem_cons.mpr ⟨am_okv_long, fun v hv => hst v (List.mem_cons_of_mem _ (List.mem_cons_of_mem _ hv))⟩) hu1 hu2)
theorem ams_lrem (hx : p.tables.exec = Jvm.exec) (hb : c.code = cc) (hd : decode cc pc = .ok (.lrem, 1)) (H0 : am_l2 st (fun x y r => ¬ y = 0 ∧ am_Wp p l e R s m args below meth c D dA A ro ad0 n0 nL lim Qm (pc + 1, L, .long (x - x / y * y) :: r, u) h)) : am_Wp p l e R s m args below meth c D dA A ro ad0 n0 nL lim Qm (pc, L, st, u) h := by
  obtain ⟨x, y, r, rfl, hne, K⟩ := am_l2_use H0
  intro ad H locs ls had hn hP hD hS hok hl hLo hst hu1 hu2
  exact lv_lrem hx hb hd hne (K ad H locs ls had hn hP hD hS hok hl hLo (List.forall_mem_cons.mpr ⟨am_okv_long, fun v hv => hst v (List.mem_cons_of_mem _ (List.mem_cons_of_mem _ hv))⟩) hu1 hu2)
theorem ams_lcmp (hx : p.tables.exec = Jvm.exec) (hb : c.code = cc) (hd : decode cc pc = .ok (.lcmp, 1)) (H0 : am_l2 st (fun x y r => am_Wp p l e R s m args below meth c D dA A ro ad0 n0 nL lim Qm (pc + 1, L, .int (lg_cmp x y) :: r, u) h)) : am_Wp p l e R s m args below meth c D dA A ro ad0 n0 nL lim Qm (pc, L, st, u) h := by
  obtain ⟨x, y, r, rfl, K⟩ := am_l2_use H0
  intro ad H locs ls had hn hP hD hS hok hl hLo hst hu1 hu2
  exact W.lcmp hx hb hd (K ad H locs ls had hn hP hD hS hok hl hLo (List.forall_mem_cons.mpr ⟨am_okv_int, fun v hv => hst v (List.mem_cons_of_mem _ (List.mem_cons_of_mem _ hv))⟩) hu1 hu2)
theorem ams_ineg (hx : p.tables.exec = Jvm.exec) (hb : c.code = cc) (hd : decode cc pc = .ok (.ineg, 1)) (H0 : am_i1 st (fun x r => am_Wp p l e R s m args below meth c D dA A ro ad0 n0 nL lim Qm (pc + 1, L, .int (-x) :: r, u) h)) : am_Wp p l e R s m args below meth c D dA A ro ad0 n0 nL lim Qm (pc, L, st, u) h := by
  obtain ⟨x, r, rfl, K⟩ := am_i1_use H0
  intro ad H locs ls had hn hP hD hS hok hl hLo hst hu1 hu2
  exact lv_ineg hx hb hd (K ad H locs ls had hn hP hD hS hok hl hLo (List.forall_mem_cons.mpr ⟨am_okv_int, fun v hv => hst v (List.mem_cons_of_mem _ hv)⟩) hu1 hu2)
theorem ams_i2l (hx : p.tables.exec = Jvm.exec) (hb : c.code = cc) (hd : decode cc pc = .ok (.i2l, 1)) (H0 : am_i1 st (fun x r => am_Wp p l e R s m args below meth c D dA A ro ad0 n0 nL lim Qm (pc + 1, L, .long x.toInt64 :: r, u) h)) : am_Wp p l e R s m args below meth c D dA A ro ad0 n0 nL lim Qm (pc, L, st, u) h := by
  obtain ⟨x, r, rfl, K⟩ := am_i1_use H0
  intro ad H locs ls had hn hP hD hS hok hl hLo hst hu1 hu2
  exact lv_i2l hx hb hd rfl (K ad H locs ls had hn hP hD hS hok hl hLo (List.forall_mem_cons.mpr ⟨am_okv_long, fun v hv => hst v (List.mem_cons_of_mem _ hv)⟩) hu1 hu2)
theorem ams_i2b (hx : p.tables.exec = Jvm.exec) (hb : c.code = cc) (hd : decode cc pc = .ok (.i2b, 1)) (H0 : am_i1 st (fun x r => am_Wp p l e R s m args below meth c D dA A ro ad0 n0 nL lim Qm (pc + 1, L, .int x.toInt8.toInt32 :: r, u) h)) : am_Wp p l e R s m args below meth c D dA A ro ad0 n0 nL lim Qm (pc, L, st, u) h := by
  obtain ⟨x, r, rfl, K⟩ := am_i1_use H0
  intro ad H locs ls had hn hP hD hS hok hl hLo hst hu1 hu2
  exact lv_i2b hx hb hd rfl (K ad H locs ls had hn hP hD hS hok hl hLo (List.forall_mem_cons.mpr ⟨am_okv_int, fun v hv => hst v (List.mem_cons_of_mem _ hv)⟩) hu1 hu2)
theorem ams_i2s (hx : p.tables.exec = Jvm.exec) (hb : c.code = cc) (hd : decode cc pc = .ok (.i2s, 1)) (H0 : am_i1 st (fun x r => am_Wp p l e R s m args below meth c D dA A ro ad0 n0 nL lim Qm (pc + 1, L, .int x.toInt16.toInt32 :: r, u) h)) : am_Wp p l e R s m args below meth c D dA A ro ad0 n0 nL lim Qm (pc, L, st, u) h := by
  obtain ⟨x, r, rfl, K⟩ := am_i1_use H0
  intro ad H locs ls had hn hP hD hS hok hl hLo hst hu1 hu2
  exact lv_i2s hx hb hd rfl (K ad H locs ls had hn hP hD hS hok hl hLo (List.forall_mem_cons.mpr ⟨am_okv_int, fun v hv => hst v (List.mem_cons_of_mem _ hv)⟩) hu1 hu2)
theorem ams_i2c (hx : p.tables.exec = Jvm.exec) (hb : c.code = cc) (hd : decode cc pc = .ok (.i2c, 1)) (H0 : am_i1 st (fun x r => am_Wp p l e R s m args below meth c D dA A ro ad0 n0 nL lim Qm (pc + 1, L, .int (x.toUInt32 % 65536).toInt32 :: r, u) h)) : am_Wp p l e R s m args below meth c D dA A ro ad0 n0 nL lim Qm (pc, L, st, u) h := by
  obtain ⟨x, r, rfl, K⟩ := am_i1_use H0
  intro ad H locs ls had hn hP hD hS hok hl hLo hst hu1 hu2
  exact lv_i2c hx hb hd rfl (K ad H locs ls had hn hP hD hS hok hl hLo (List.forall_mem_cons.mpr ⟨am_okv_int, fun v hv => hst v (List.mem_cons_of_mem _ hv)⟩) hu1 hu2)
theorem ams_l2i (hx : p.tables.exec = Jvm.exec) (hb : c.code = cc) (hd : decode cc pc = .ok (.l2i, 1)) (H0 : am_l1 st (fun x r => am_Wp p l e R s m args below meth c D dA A ro ad0 n0 nL lim Qm (pc + 1, L, .int x.toInt32 :: r, u) h)) : am_Wp p l e R s m args below meth c D dA A ro ad0 n0 nL lim Qm (pc, L, st, u) h := by
  obtain ⟨x, r, rfl, K⟩ := am_l1_use H0
  intro ad H locs ls had hn hP hD hS hok hl hLo hst hu1 hu2
  exact lv_l2i hx hb hd rfl (K ad H locs ls had hn hP hD hS hok hl hLo (List.forall_mem_cons.mpr ⟨am_okv_int, fun v hv => hst v (List.mem_cons_of_mem _ hv)⟩) hu1 hu2)
theorem ams_iconst (hx : p.tables.exec = Jvm.exec) (hb : c.code = cc) {n : Int} {v : Int32} (hd : decode cc pc = .ok (.iconst n, 1)) (hv : Int32.ofInt n = v) (K : am_Wp p l e R s m args below meth c D dA A ro ad0 n0 nL lim Qm (pc + 1, L, .int v :: st, u) h) : am_Wp p l e R s m args below meth c D dA A ro ad0 n0 nL lim Qm (pc, L, st, u) h := by
  intro ad H locs ls had hn hP hD hS hok hl hLo hst hu1 hu2
  exact lv_iconst hx hb hd hv (K ad H locs ls had hn hP hD hS hok hl hLo (List.forall_mem_cons.mpr ⟨am_okv_int, hst⟩) hu1 hu2)
theorem ams_bipush (hx : p.tables.exec = Jvm.exec) (hb : c.code = cc) {n : Int} {v : Int32} (hd : decode cc pc = .ok (.bipush n, 2)) (hv : (Int8.ofInt n).toInt32 = v) (K : am_Wp p l e R s m args below meth c D dA A ro ad0 n0 nL lim Qm (pc + 2, L, .int v :: st, u) h) : am_Wp p l e R s m args below meth c D dA A ro ad0 n0 nL lim Qm (pc, L, st, u) h := by
  intro ad H locs ls had hn hP hD hS hok hl hLo hst hu1 hu2
  exact lv_bipush hx hb hd hv (K ad H locs ls had hn hP hD hS hok hl hLo (List.forall_mem_cons.mpr ⟨am_okv_int, hst⟩) hu1 hu2)
theorem ams_sipush (hx : p.tables.exec = Jvm.exec) (hb : c.code = cc) {n : Int} {v : Int32} (hd : decode cc pc = .ok (.sipush n, 3)) (hv : (Int16.ofInt n).toInt32 = v) (K : am_Wp p l e R s m args below meth c D dA A ro ad0 n0 nL lim Qm (pc + 3, L, .int v :: st, u) h) : am_Wp p l e R s m args below meth c D dA A ro ad0 n0 nL lim Qm (pc, L, st, u) h := by
  intro ad H locs ls had hn hP hD hS hok hl hLo hst hu1 hu2
  exact lv_sipush hx hb hd hv (K ad H locs ls had hn hP hD hS hok hl hLo (List.forall_mem_cons.mpr ⟨am_okv_int, hst⟩) hu1 hu2)
theorem ams_lconst (hx : p.tables.exec = Jvm.exec) (hb : c.code = cc) {n : Fin 2} {v : Int64} (hd : decode cc pc = .ok (.lconst n, 1)) (hv : Int64.ofNat (n : Nat) = v) (K : am_Wp p l e R s m args below meth c D dA A ro ad0 n0 nL lim Qm (pc + 1, L, .long v :: st, u) h) : am_Wp p l e R s m args below meth c D dA A ro ad0 n0 nL lim Qm (pc, L, st, u) h := by
  intro ad H locs ls had hn hP hD hS hok hl hLo hst hu1 hu2
  exact lv_lconst hx hb hd hv (K ad H locs ls had hn hP hD hS hok hl hLo (List.forall_mem_cons.mpr ⟨am_okv_long, hst⟩) hu1 hu2)
theorem ams_ldc (hx : p.tables.exec = Jvm.exec) (hb : c.code = cc) {own : String} {idx : Nat} {v : Int32} (hown : s.vm.findClass own = some m.cls) (hc : (Jvm.Cond.constant own idx v).before args s = true) (hd : decode cc pc = .ok (.ldc idx, 2)) (K : am_Wp p l e R s m args below meth c D dA A ro ad0 n0 nL lim Qm (pc + 2, L, .int v :: st, u) h) : am_Wp p l e R s m args below meth c D dA A ro ad0 n0 nL lim Qm (pc, L, st, u) h := by
  intro ad H locs ls had hn hP hD hS hok hl hLo hst hu1 hu2
  exact lv_ldc hx hb hown hc hd (K ad H locs ls had hn hP hD hS hok hl hLo (List.forall_mem_cons.mpr ⟨am_okv_int, hst⟩) hu1 hu2)
theorem ams_ldc_w (hx : p.tables.exec = Jvm.exec) (hb : c.code = cc) {own : String} {idx : Nat} {v : Int32} (hown : s.vm.findClass own = some m.cls) (hc : (Jvm.Cond.constant own idx v).before args s = true) (hd : decode cc pc = .ok (.ldc_w idx, 3)) (K : am_Wp p l e R s m args below meth c D dA A ro ad0 n0 nL lim Qm (pc + 3, L, .int v :: st, u) h) : am_Wp p l e R s m args below meth c D dA A ro ad0 n0 nL lim Qm (pc, L, st, u) h := by
  intro ad H locs ls had hn hP hD hS hok hl hLo hst hu1 hu2
  exact lv_ldcw hx hb hown hc hd (K ad H locs ls had hn hP hD hS hok hl hLo (List.forall_mem_cons.mpr ⟨am_okv_int, hst⟩) hu1 hu2)
theorem ams_ldc2_w (hx : p.tables.exec = Jvm.exec) (hb : c.code = cc) {own : String} {idx : Nat} {v : Int64} (hown : s.vm.findClass own = some m.cls) (hc : (Jvm.Cond.constantLong own idx v).before args s = true) (hd : decode cc pc = .ok (.ldc2_w idx, 3)) (K : am_Wp p l e R s m args below meth c D dA A ro ad0 n0 nL lim Qm (pc + 3, L, .long v :: st, u) h) : am_Wp p l e R s m args below meth c D dA A ro ad0 n0 nL lim Qm (pc, L, st, u) h := by
  intro ad H locs ls had hn hP hD hS hok hl hLo hst hu1 hu2
  exact lv_ldc2 hx hb hown hc hd (K ad H locs ls had hn hP hD hS hok hl hLo (List.forall_mem_cons.mpr ⟨am_okv_long, hst⟩) hu1 hu2)
theorem ams_ldcS (hx : p.tables.exec = Jvm.exec) (hb : c.code = cc) {own tx : String} {idx k : Nat} (hown : s.vm.findClass own = some m.cls) (hn0 : 40 ≤ n0) (hk : k < 40) (hR : vk_R own idx tx (ad0 k) s) (hd : decode cc pc = .ok (.ldc idx, 2)) (K : am_Wp p l e R s m args below meth c D dA A ro ad0 n0 nL lim Qm (pc + 2, L, .ref k :: st, u) h) : am_Wp p l e R s m args below meth c D dA A ro ad0 n0 nL lim Qm (pc, L, st, u) h := by
  intro ad H locs ls had hn hP hD hS hok hl hLo hst hu1 hu2
  refine va_ldcS hx hb hown hR hd ?_
  have K' := K ad H locs ls had hn hP hD hS hok hl hLo (List.forall_mem_cons.mpr ⟨am_okv_ref (by omega), hst⟩) hu1 hu2
  rw [List.map_cons, am_cv_ref, had k (by omega)] at K'
  exact K' 
theorem ams_ldcSW (hx : p.tables.exec = Jvm.exec) (hb : c.code = cc) {own tx : String} {idx k : Nat} (hown : s.vm.findClass own = some m.cls) (hn0 : 40 ≤ n0) (hk : k < 40) (hR : vk_R own idx tx (ad0 k) s) (hd : decode cc pc = .ok (.ldc_w idx, 3)) (K : am_Wp p l e R s m args below meth c D dA A ro ad0 n0 nL lim Qm (pc + 3, L, .ref k :: st, u) h) : am_Wp p l e R s m args below meth c D dA A ro ad0 n0 nL lim Qm (pc, L, st, u) h := by
  intro ad H locs ls had hn hP hD hS hok hl hLo hst hu1 hu2
  have K' := K ad H locs ls had hn hP hD hS hok hl hLo (List.forall_mem_cons.mpr ⟨am_okv_ref (by omega), hst⟩) hu1 hu2
  rw [List.map_cons, am_cv_ref, had k (by omega)] at K'
  intro T hT X
  obtain ⟨t, a1, b1⟩ := K' T hT X
  exact ⟨t, X.ldcStringW hx hown (text := tx) (a := ad0 k) hR.1 hR.2 (g := F0 m pc ls (st.map (am_cv ad))) rfl (by rw [hb]; exact hd) t a1, b1⟩
theorem ams_iload_n (hx : p.tables.exec = Jvm.exec) (hb : c.code = cc) {i : Fin 4} (hd : decode cc pc = .ok (.iload_n i, 1)) (H0 : am_ldi L i (fun x => am_Wp p l e R s m args below meth c D dA A ro ad0 n0 nL lim Qm (pc + 1, L, .int x :: st, u) h)) : am_Wp p l e R s m args below meth c D dA A ro ad0 n0 nL lim Qm (pc, L, st, u) h := by
  obtain ⟨x, e1, K⟩ := am_ldi_use H0
  intro ad H locs ls had hn hP hD hS hok hl hLo hst hu1 hu2
  exact lv_iload_n hx hb hd rfl (am_pr_at hl e1) (K ad H locs ls had hn hP hD hS hok hl hLo (List.forall_mem_cons.mpr ⟨am_okv_int, hst⟩) hu1 hu2)
theorem ams_iload (hx : p.tables.exec = Jvm.exec) (hb : c.code = cc) {i : Nat} (hd : decode cc pc = .ok (.iload i, 2)) (H0 : am_ldi L i (fun x => am_Wp p l e R s m args below meth c D dA A ro ad0 n0 nL lim Qm (pc + 2, L, .int x :: st, u) h)) : am_Wp p l e R s m args below meth c D dA A ro ad0 n0 nL lim Qm (pc, L, st, u) h := by
  obtain ⟨x, e1, K⟩ := am_ldi_use H0
  intro ad H locs ls had hn hP hD hS hok hl hLo hst hu1 hu2
  exact lv_iload hx hb hd (am_pr_at hl e1) (K ad H locs ls had hn hP hD hS hok hl hLo (List.forall_mem_cons.mpr ⟨am_okv_int, hst⟩) hu1 hu2)
theorem ams_lload_n (hx : p.tables.exec = Jvm.exec) (hb : c.code = cc) {i : Fin 4} (hd : decode cc pc = .ok (.lload_n i, 1)) (H0 : am_ldl L i (fun x => am_Wp p l e R s m args below meth c D dA A ro ad0 n0 nL lim Qm (pc + 1, L, .long x :: st, u) h)) : am_Wp p l e R s m args below meth c D dA A ro ad0 n0 nL lim Qm (pc, L, st, u) h := by
  obtain ⟨x, e1, K⟩ := am_ldl_use H0
  intro ad H locs ls had hn hP hD hS hok hl hLo hst hu1 hu2
  exact lv_lload_n hx hb hd rfl (am_pr_at hl e1) (K ad H locs ls had hn hP hD hS hok hl hLo (List.forall_mem_cons.mpr ⟨am_okv_long, hst⟩) hu1 hu2)
theorem ams_lload (hx : p.tables.exec = Jvm.exec) (hb : c.code = cc) {i : Nat} (hd : decode cc pc = .ok (.lload i, 2)) (H0 : am_ldl L i (fun x => am_Wp p l e R s m args below meth c D dA A ro ad0 n0 nL lim Qm (pc + 2, L, .long x :: st, u) h)) : am_Wp p l e R s m args below meth c D dA A ro ad0 n0 nL lim Qm (pc, L, st, u) h := by
  obtain ⟨x, e1, K⟩ := am_ldl_use H0
  intro ad H locs ls had hn hP hD hS hok hl hLo hst hu1 hu2
  exact lv_lload hx hb hd (am_pr_at hl e1) (K ad H locs ls had hn hP hD hS hok hl hLo (List.forall_mem_cons.mpr ⟨am_okv_long, hst⟩) hu1 hu2)
theorem ams_aload_n (hx : p.tables.exec = Jvm.exec) (hb : c.code = cc) {i : Fin 4} (hd : decode cc pc = .ok (.aload_n i, 1)) (H0 : am_lda L i (fun x => am_Wp p l e R s m args below meth c D dA A ro ad0 n0 nL lim Qm (pc + 1, L, .ref x :: st, u) h)) : am_Wp p l e R s m args below meth c D dA A ro ad0 n0 nL lim Qm (pc, L, st, u) h := by
  obtain ⟨x, e1, K⟩ := am_lda_use H0
  intro ad H locs ls had hn hP hD hS hok hl hLo hst hu1 hu2
  exact lv_aload_n hx hb hd rfl (am_pr_at hl e1) (K ad H locs ls had hn hP hD hS hok hl hLo (List.forall_mem_cons.mpr ⟨(hLo _ _ e1), hst⟩) hu1 hu2)
theorem ams_aload (hx : p.tables.exec = Jvm.exec) (hb : c.code = cc) {i : Nat} (hd : decode cc pc = .ok (.aload i, 2)) (H0 : am_lda L i (fun x => am_Wp p l e R s m args below meth c D dA A ro ad0 n0 nL lim Qm (pc + 2, L, .ref x :: st, u) h)) : am_Wp p l e R s m args below meth c D dA A ro ad0 n0 nL lim Qm (pc, L, st, u) h := by
  obtain ⟨x, e1, K⟩ := am_lda_use H0
  intro ad H locs ls had hn hP hD hS hok hl hLo hst hu1 hu2
  exact lv_aload hx hb hd (am_pr_at hl e1) (K ad H locs ls had hn hP hD hS hok hl hLo (List.forall_mem_cons.mpr ⟨(hLo _ _ e1), hst⟩) hu1 hu2)
theorem ams_istore_n (hx : p.tables.exec = Jvm.exec) (hb : c.code = cc) {i : Fin 4} (hd : decode cc pc = .ok (.istore_n i, 1)) (hi : (i : Nat) < nL) (H0 : am_i1 st (fun x r => am_Wp p l e R s m args below meth c D dA A ro ad0 n0 nL lim Qm (pc + 1, am_st1 L i (.int x), r, u) h)) : am_Wp p l e R s m args below meth c D dA A ro ad0 n0 nL lim Qm (pc, L, st, u) h := by
  obtain ⟨x, r, rfl, K⟩ := am_i1_use H0
  intro ad H locs ls had hn hP hD hS hok hl hLo hst hu1 hu2
  exact lv_istore_n hx hb hd rfl hl hi rfl (fun ls' hl' => K ad H locs ls' had hn hP hD hS hok (am_lv_st1 hl') (am_okL_st1 hLo am_okv_int) (fun v hv => hst v (List.mem_cons_of_mem _ hv)) hu1 hu2)
theorem ams_istore (hx : p.tables.exec = Jvm.exec) (hb : c.code = cc) {i : Nat} (hd : decode cc pc = .ok (.istore i, 2)) (hi : i < nL) (H0 : am_i1 st (fun x r => am_Wp p l e R s m args below meth c D dA A ro ad0 n0 nL lim Qm (pc + 2, am_st1 L i (.int x), r, u) h)) : am_Wp p l e R s m args below meth c D dA A ro ad0 n0 nL lim Qm (pc, L, st, u) h := by
  obtain ⟨x, r, rfl, K⟩ := am_i1_use H0
  intro ad H locs ls had hn hP hD hS hok hl hLo hst hu1 hu2
  exact lv_istore hx hb hd hl hi rfl (fun ls' hl' => K ad H locs ls' had hn hP hD hS hok (am_lv_st1 hl') (am_okL_st1 hLo am_okv_int) (fun v hv => hst v (List.mem_cons_of_mem _ hv)) hu1 hu2)
theorem ams_lstore_n (hx : p.tables.exec = Jvm.exec) (hb : c.code = cc) {i : Fin 4} (hd : decode cc pc = .ok (.lstore_n i, 1)) (hi : (i : Nat) + 1 < nL) (H0 : am_l1 st (fun x r => am_Wp p l e R s m args below meth c D dA A ro ad0 n0 nL lim Qm (pc + 1, am_st2 L i (.long x), r, u) h)) : am_Wp p l e R s m args below meth c D dA A ro ad0 n0 nL lim Qm (pc, L, st, u) h := by
  obtain ⟨x, r, rfl, K⟩ := am_l1_use H0
  intro ad H locs ls had hn hP hD hS hok hl hLo hst hu1 hu2
  exact lv_lstore_n hx hb hd rfl hl hi rfl (fun ls' hl' => K ad H locs ls' had hn hP hD hS hok (am_lv_st2 hl') (am_okL_st2 hLo am_okv_long) (fun v hv => hst v (List.mem_cons_of_mem _ hv)) hu1 hu2)
theorem ams_lstore (hx : p.tables.exec = Jvm.exec) (hb : c.code = cc) {i : Nat} (hd : decode cc pc = .ok (.lstore i, 2)) (hi : i + 1 < nL) (H0 : am_l1 st (fun x r => am_Wp p l e R s m args below meth c D dA A ro ad0 n0 nL lim Qm (pc + 2, am_st2 L i (.long x), r, u) h)) : am_Wp p l e R s m args below meth c D dA A ro ad0 n0 nL lim Qm (pc, L, st, u) h := by
  obtain ⟨x, r, rfl, K⟩ := am_l1_use H0
  intro ad H locs ls had hn hP hD hS hok hl hLo hst hu1 hu2
  exact lv_lstore hx hb hd hl hi rfl (fun ls' hl' => K ad H locs ls' had hn hP hD hS hok (am_lv_st2 hl') (am_okL_st2 hLo am_okv_long) (fun v hv => hst v (List.mem_cons_of_mem _ hv)) hu1 hu2)
theorem ams_astore_n (hx : p.tables.exec = Jvm.exec) (hb : c.code = cc) {i : Fin 4} (hd : decode cc pc = .ok (.astore_n i, 1)) (hi : (i : Nat) < nL) (H0 : am_r1 st (fun x r => am_Wp p l e R s m args below meth c D dA A ro ad0 n0 nL lim Qm (pc + 1, am_st1 L i (.ref x), r, u) h)) : am_Wp p l e R s m args below meth c D dA A ro ad0 n0 nL lim Qm (pc, L, st, u) h := by
  obtain ⟨x, r, rfl, K⟩ := am_r1_use H0
  intro ad H locs ls had hn hP hD hS hok hl hLo hst hu1 hu2
  exact lv_astore_n hx hb hd rfl hl hi rfl (fun ls' hl' => K ad H locs ls' had hn hP hD hS hok (am_lv_st1 hl') (am_okL_st1 hLo (hst _ List.mem_cons_self)) (fun v hv => hst v (List.mem_cons_of_mem _ hv)) hu1 hu2)
theorem ams_astore (hx : p.tables.exec = Jvm.exec) (hb : c.code = cc) {i : Nat} (hd : decode cc pc = .ok (.astore i, 2)) (hi : i < nL) (H0 : am_r1 st (fun x r => am_Wp p l e R s m args below meth c D dA A ro ad0 n0 nL lim Qm (pc + 2, am_st1 L i (.ref x), r, u) h)) : am_Wp p l e R s m args below meth c D dA A ro ad0 n0 nL lim Qm (pc, L, st, u) h := by
  obtain ⟨x, r, rfl, K⟩ := am_r1_use H0
  intro ad H locs ls had hn hP hD hS hok hl hLo hst hu1 hu2
  exact lv_astore hx hb hd hl hi rfl (fun ls' hl' => K ad H locs ls' had hn hP hD hS hok (am_lv_st1 hl') (am_okL_st1 hLo (hst _ List.mem_cons_self)) (fun v hv => hst v (List.mem_cons_of_mem _ hv)) hu1 hu2)
theorem ams_iinc (hx : p.tables.exec = Jvm.exec) (hb : c.code = cc) {i : Nat} {n : Int} {v : Int32} (hd : decode cc pc = .ok (.iinc i n, 3)) (hi : i < nL) (hv : Int32.ofInt n = v) (H0 : am_ldi L i (fun x => am_Wp p l e R s m args below meth c D dA A ro ad0 n0 nL lim Qm (pc + 3, am_st1 L i (.int (x + v)), st, u) h)) : am_Wp p l e R s m args below meth c D dA A ro ad0 n0 nL lim Qm (pc, L, st, u) h := by
  obtain ⟨x, e1, K⟩ := am_ldi_use H0
  intro ad H locs ls had hn hP hD hS hok hl hLo hst hu1 hu2
  obtain ⟨k, hk⟩ := List.getElem?_of_mem (am_pr_mem.mpr ⟨_, e1, rfl⟩ : (i, am_cv ad (.int x)) ∈ am_pr L ad)
  exact lv_iinc hx hb hd hl (k := k) hk (by rw [hv]) hi rfl (fun ls' hl' => K ad H locs ls' had hn hP hD hS hok (am_lv_st1 (v := .int (x + v)) hl') (am_okL_st1 hLo am_okv_int) hst hu1 hu2)
theorem ams_icmp_eq (hx : p.tables.exec = Jvm.exec) (hb : c.code = cc) {off : Int} {t : Nat} (hd : decode cc pc = .ok (.if_icmp .eq off, 3)) (ht : (pc : Int) + off = (t : Int)) (H0 : am_i2 st (fun x y r => am_br (am_cmp .eq x y) (am_Wp p l e R s m args below meth c D dA A ro ad0 n0 nL lim Qm (t, L, r, u) h) (am_Wp p l e R s m args below meth c D dA A ro ad0 n0 nL lim Qm (pc + 3, L, r, u) h))) : am_Wp p l e R s m args below meth c D dA A ro ad0 n0 nL lim Qm (pc, L, st, u) h := by
  obtain ⟨x, y, r, rfl, K⟩ := am_i2_use H0
  intro ad H locs ls had hn hP hD hS hok hl hLo hst hu1 hu2
  have hst' : ∀ v ∈ r, am_okv h.1 v := fun v hv => hst v (List.mem_cons_of_mem _ (List.mem_cons_of_mem _ hv))
  exact lv_icmp_eq hx hb hd ht (fun z => K.1 z ad H locs ls had hn hP hD hS hok hl hLo hst' hu1 hu2) (fun z => K.2 z ad H locs ls had hn hP hD hS hok hl hLo hst' hu1 hu2)
theorem ams_if_eq (hx : p.tables.exec = Jvm.exec) (hb : c.code = cc) {off : Int} {t : Nat} (hd : decode cc pc = .ok (.ifCond .eq off, 3)) (ht : (pc : Int) + off = (t : Int)) (H0 : am_i1 st (fun x r => am_br (am_cmp .eq x 0) (am_Wp p l e R s m args below meth c D dA A ro ad0 n0 nL lim Qm (t, L, r, u) h) (am_Wp p l e R s m args below meth c D dA A ro ad0 n0 nL lim Qm (pc + 3, L, r, u) h))) : am_Wp p l e R s m args below meth c D dA A ro ad0 n0 nL lim Qm (pc, L, st, u) h := by
  obtain ⟨x, r, rfl, K⟩ := am_i1_use H0
  intro ad H locs ls had hn hP hD hS hok hl hLo hst hu1 hu2
  have hst' : ∀ v ∈ r, am_okv h.1 v := fun v hv => hst v (List.mem_cons_of_mem _ hv)
  exact lv_if_eq hx hb hd ht (fun z => K.1 z ad H locs ls had hn hP hD hS hok hl hLo hst' hu1 hu2) (fun z => K.2 z ad H locs ls had hn hP hD hS hok hl hLo hst' hu1 hu2)
theorem ams_icmp_ne (hx : p.tables.exec = Jvm.exec) (hb : c.code = cc) {off : Int} {t : Nat} (hd : decode cc pc = .ok (.if_icmp .ne off, 3)) (ht : (pc : Int) + off = (t : Int)) (H0 : am_i2 st (fun x y r => am_br (am_cmp .ne x y) (am_Wp p l e R s m args below meth c D dA A ro ad0 n0 nL lim Qm (t, L, r, u) h) (am_Wp p l e R s m args below meth c D dA A ro ad0 n0 nL lim Qm (pc + 3, L, r, u) h))) : am_Wp p l e R s m args below meth c D dA A ro ad0 n0 nL lim Qm (pc, L, st, u) h := by
  obtain ⟨x, y, r, rfl, K⟩ := am_i2_use H0
  intro ad H locs ls had hn hP hD hS hok hl hLo hst hu1 hu2
  have hst' : ∀ v ∈ r, am_okv h.1 v := fun v hv => hst v (List.mem_cons_of_mem _ (List.mem_cons_of_mem _ hv))
  exact lv_icmp_ne hx hb hd ht (fun z => K.1 z ad H locs ls had hn hP hD hS hok hl hLo hst' hu1 hu2) (fun z => (fun z => K.2 (fun w => w z)) z ad H locs ls had hn hP hD hS hok hl hLo hst' hu1 hu2)
theorem ams_if_ne (hx : p.tables.exec = Jvm.exec) (hb : c.code = cc) {off : Int} {t : Nat} (hd : decode cc pc = .ok (.ifCond .ne off, 3)) (ht : (pc : Int) + off = (t : Int)) (H0 : am_i1 st (fun x r => am_br (am_cmp .ne x 0) (am_Wp p l e R s m args below meth c D dA A ro ad0 n0 nL lim Qm (t, L, r, u) h) (am_Wp p l e R s m args below meth c D dA A ro ad0 n0 nL lim Qm (pc + 3, L, r, u) h))) : am_Wp p l e R s m args below meth c D dA A ro ad0 n0 nL lim Qm (pc, L, st, u) h := by
  obtain ⟨x, r, rfl, K⟩ := am_i1_use H0
  intro ad H locs ls had hn hP hD hS hok hl hLo hst hu1 hu2
  have hst' : ∀ v ∈ r, am_okv h.1 v := fun v hv => hst v (List.mem_cons_of_mem _ hv)
  exact lv_if_ne hx hb hd ht (fun z => K.1 z ad H locs ls had hn hP hD hS hok hl hLo hst' hu1 hu2) (fun z => (fun z => K.2 (fun w => w z)) z ad H locs ls had hn hP hD hS hok hl hLo hst' hu1 hu2)
theorem ams_icmp_lt (hx : p.tables.exec = Jvm.exec) (hb : c.code = cc) {off : Int} {t : Nat} (hd : decode cc pc = .ok (.if_icmp .lt off, 3)) (ht : (pc : Int) + off = (t : Int)) (H0 : am_i2 st (fun x y r => am_br (am_cmp .lt x y) (am_Wp p l e R s m args below meth c D dA A ro ad0 n0 nL lim Qm (t, L, r, u) h) (am_Wp p l e R s m args below meth c D dA A ro ad0 n0 nL lim Qm (pc + 3, L, r, u) h))) : am_Wp p l e R s m args below meth c D dA A ro ad0 n0 nL lim Qm (pc, L, st, u) h := by
  obtain ⟨x, y, r, rfl, K⟩ := am_i2_use H0
  intro ad H locs ls had hn hP hD hS hok hl hLo hst hu1 hu2
  have hst' : ∀ v ∈ r, am_okv h.1 v := fun v hv => hst v (List.mem_cons_of_mem _ (List.mem_cons_of_mem _ hv))
  exact lv_icmp_lt hx hb hd ht (fun z => K.1 z ad H locs ls had hn hP hD hS hok hl hLo hst' hu1 hu2) (fun z => K.2 z ad H locs ls had hn hP hD hS hok hl hLo hst' hu1 hu2)
theorem ams_if_lt (hx : p.tables.exec = Jvm.exec) (hb : c.code = cc) {off : Int} {t : Nat} (hd : decode cc pc = .ok (.ifCond .lt off, 3)) (ht : (pc : Int) + off = (t : Int)) (H0 : am_i1 st (fun x r => am_br (am_cmp .lt x 0) (am_Wp p l e R s m args below meth c D dA A ro ad0 n0 nL lim Qm (t, L, r, u) h) (am_Wp p l e R s m args below meth c D dA A ro ad0 n0 nL lim Qm (pc + 3, L, r, u) h))) : am_Wp p l e R s m args below meth c D dA A ro ad0 n0 nL lim Qm (pc, L, st, u) h := by
  obtain ⟨x, r, rfl, K⟩ := am_i1_use H0
  intro ad H locs ls had hn hP hD hS hok hl hLo hst hu1 hu2
  have hst' : ∀ v ∈ r, am_okv h.1 v := fun v hv => hst v (List.mem_cons_of_mem _ hv)
  exact lv_if_lt hx hb hd ht (fun z => K.1 z ad H locs ls had hn hP hD hS hok hl hLo hst' hu1 hu2) (fun z => K.2 z ad H locs ls had hn hP hD hS hok hl hLo hst' hu1 hu2)
theorem ams_icmp_ge (hx : p.tables.exec = Jvm.exec) (hb : c.code = cc) {off : Int} {t : Nat} (hd : decode cc pc = .ok (.if_icmp .ge off, 3)) (ht : (pc : Int) + off = (t : Int)) (H0 : am_i2 st (fun x y r => am_br (am_cmp .ge x y) (am_Wp p l e R s m args below meth c D dA A ro ad0 n0 nL lim Qm (t, L, r, u) h) (am_Wp p l e R s m args below meth c D dA A ro ad0 n0 nL lim Qm (pc + 3, L, r, u) h))) : am_Wp p l e R s m args below meth c D dA A ro ad0 n0 nL lim Qm (pc, L, st, u) h := by
  obtain ⟨x, y, r, rfl, K⟩ := am_i2_use H0
  intro ad H locs ls had hn hP hD hS hok hl hLo hst hu1 hu2
  have hst' : ∀ v ∈ r, am_okv h.1 v := fun v hv => hst v (List.mem_cons_of_mem _ (List.mem_cons_of_mem _ hv))
  exact lv_icmp_ge hx hb hd ht (fun z => K.1 z ad H locs ls had hn hP hD hS hok hl hLo hst' hu1 hu2) (fun z => K.2 z ad H locs ls had hn hP hD hS hok hl hLo hst' hu1 hu2)
theorem ams_if_ge (hx : p.tables.exec = Jvm.exec) (hb : c.code = cc) {off : Int} {t : Nat} (hd : decode cc pc = .ok (.ifCond .ge off, 3)) (ht : (pc : Int) + off = (t : Int)) (H0 : am_i1 st (fun x r => am_br (am_cmp .ge x 0) (am_Wp p l e R s m args below meth c D dA A ro ad0 n0 nL lim Qm (t, L, r, u) h) (am_Wp p l e R s m args below meth c D dA A ro ad0 n0 nL lim Qm (pc + 3, L, r, u) h))) : am_Wp p l e R s m args below meth c D dA A ro ad0 n0 nL lim Qm (pc, L, st, u) h := by
  obtain ⟨x, r, rfl, K⟩ := am_i1_use H0
  intro ad H locs ls had hn hP hD hS hok hl hLo hst hu1 hu2
  have hst' : ∀ v ∈ r, am_okv h.1 v := fun v hv => hst v (List.mem_cons_of_mem _ hv)
  exact lv_if_ge hx hb hd ht (fun z => K.1 z ad H locs ls had hn hP hD hS hok hl hLo hst' hu1 hu2) (fun z => K.2 z ad H locs ls had hn hP hD hS hok hl hLo hst' hu1 hu2)
theorem ams_icmp_gt (hx : p.tables.exec = Jvm.exec) (hb : c.code = cc) {off : Int} {t : Nat} (hd : decode cc pc = .ok (.if_icmp .gt off, 3)) (ht : (pc : Int) + off = (t : Int)) (H0 : am_i2 st (fun x y r => am_br (am_cmp .gt x y) (am_Wp p l e R s m args below meth c D dA A ro ad0 n0 nL lim Qm (t, L, r, u) h) (am_Wp p l e R s m args below meth c D dA A ro ad0 n0 nL lim Qm (pc + 3, L, r, u) h))) : am_Wp p l e R s m args below meth c D dA A ro ad0 n0 nL lim Qm (pc, L, st, u) h := by
  obtain ⟨x, y, r, rfl, K⟩ := am_i2_use H0
  intro ad H locs ls had hn hP hD hS hok hl hLo hst hu1 hu2
  have hst' : ∀ v ∈ r, am_okv h.1 v := fun v hv => hst v (List.mem_cons_of_mem _ (List.mem_cons_of_mem _ hv))
  exact lv_icmp_gt hx hb hd ht (fun z => K.1 z ad H locs ls had hn hP hD hS hok hl hLo hst' hu1 hu2) (fun z => K.2 z ad H locs ls had hn hP hD hS hok hl hLo hst' hu1 hu2)
theorem ams_if_gt (hx : p.tables.exec = Jvm.exec) (hb : c.code = cc) {off : Int} {t : Nat} (hd : decode cc pc = .ok (.ifCond .gt off, 3)) (ht : (pc : Int) + off = (t : Int)) (H0 : am_i1 st (fun x r => am_br (am_cmp .gt x 0) (am_Wp p l e R s m args below meth c D dA A ro ad0 n0 nL lim Qm (t, L, r, u) h) (am_Wp p l e R s m args below meth c D dA A ro ad0 n0 nL lim Qm (pc + 3, L, r, u) h))) : am_Wp p l e R s m args below meth c D dA A ro ad0 n0 nL lim Qm (pc, L, st, u) h := by
  obtain ⟨x, r, rfl, K⟩ := am_i1_use H0
  intro ad H locs ls had hn hP hD hS hok hl hLo hst hu1 hu2
  have hst' : ∀ v ∈ r, am_okv h.1 v := fun v hv => hst v (List.mem_cons_of_mem _ hv)
  exact lv_if_gt hx hb hd ht (fun z => K.1 z ad H locs ls had hn hP hD hS hok hl hLo hst' hu1 hu2) (fun z => K.2 z ad H locs ls had hn hP hD hS hok hl hLo hst' hu1 hu2)
theorem ams_icmp_le (hx : p.tables.exec = Jvm.exec) (hb : c.code = cc) {off : Int} {t : Nat} (hd : decode cc pc = .ok (.if_icmp .le off, 3)) (ht : (pc : Int) + off = (t : Int)) (H0 : am_i2 st (fun x y r => am_br (am_cmp .le x y) (am_Wp p l e R s m args below meth c D dA A ro ad0 n0 nL lim Qm (t, L, r, u) h) (am_Wp p l e R s m args below meth c D dA A ro ad0 n0 nL lim Qm (pc + 3, L, r, u) h))) : am_Wp p l e R s m args below meth c D dA A ro ad0 n0 nL lim Qm (pc, L, st, u) h := by
  obtain ⟨x, y, r, rfl, K⟩ := am_i2_use H0
  intro ad H locs ls had hn hP hD hS hok hl hLo hst hu1 hu2
  have hst' : ∀ v ∈ r, am_okv h.1 v := fun v hv => hst v (List.mem_cons_of_mem _ (List.mem_cons_of_mem _ hv))
  exact lv_icmp_le hx hb hd ht (fun z => K.1 z ad H locs ls had hn hP hD hS hok hl hLo hst' hu1 hu2) (fun z => K.2 z ad H locs ls had hn hP hD hS hok hl hLo hst' hu1 hu2)
theorem ams_if_le (hx : p.tables.exec = Jvm.exec) (hb : c.code = cc) {off : Int} {t : Nat} (hd : decode cc pc = .ok (.ifCond .le off, 3)) (ht : (pc : Int) + off = (t : Int)) (H0 : am_i1 st (fun x r => am_br (am_cmp .le x 0) (am_Wp p l e R s m args below meth c D dA A ro ad0 n0 nL lim Qm (t, L, r, u) h) (am_Wp p l e R s m args below meth c D dA A ro ad0 n0 nL lim Qm (pc + 3, L, r, u) h))) : am_Wp p l e R s m args below meth c D dA A ro ad0 n0 nL lim Qm (pc, L, st, u) h := by
  obtain ⟨x, r, rfl, K⟩ := am_i1_use H0
  intro ad H locs ls had hn hP hD hS hok hl hLo hst hu1 hu2
  have hst' : ∀ v ∈ r, am_okv h.1 v := fun v hv => hst v (List.mem_cons_of_mem _ hv)
  exact lv_if_le hx hb hd ht (fun z => K.1 z ad H locs ls had hn hP hD hS hok hl hLo hst' hu1 hu2) (fun z => K.2 z ad H locs ls had hn hP hD hS hok hl hLo hst' hu1 hu2)
theorem ams_goto (hx : p.tables.exec = Jvm.exec) (hb : c.code = cc) {off : Int} {t : Nat} (hd : decode cc pc = .ok (.goto off, 3)) (ht : (pc : Int) + off = (t : Int)) (K : am_Wp p l e R s m args below meth c D dA A ro ad0 n0 nL lim Qm (t, L, st, u) h) : am_Wp p l e R s m args below meth c D dA A ro ad0 n0 nL lim Qm (pc, L, st, u) h := by
  intro ad H locs ls had hn hP hD hS hok hl hLo hst hu1 hu2
  exact lv_goto hx hb hd ht (K ad H locs ls had hn hP hD hS hok hl hLo hst hu1 hu2)
theorem ams_dup (hx : p.tables.exec = Jvm.exec) (hb : c.code = cc) {v : Value} {r : List Value} (hd : decode cc pc = .ok (.dup, 1)) (hv : v.category = 1) (K : am_Wp p l e R s m args below meth c D dA A ro ad0 n0 nL lim Qm (pc + 1, L, v :: v :: r, u) h) : am_Wp p l e R s m args below meth c D dA A ro ad0 n0 nL lim Qm (pc, L, v :: r, u) h := by
  intro ad H locs ls had hn hP hD hS hok hl hLo hst hu1 hu2
  exact lv_dup hx hb hd (by rw [am_cv_cat]; exact hv) (K ad H locs ls had hn hP hD hS hok hl hLo (List.forall_mem_cons.mpr ⟨hst v List.mem_cons_self, hst⟩) hu1 hu2)
theorem ams_dup2 (hx : p.tables.exec = Jvm.exec) (hb : c.code = cc) {v w : Value} {r : List Value} (hd : decode cc pc = .ok (.dup2, 1)) (hv : v.category = 1) (hw : w.category = 1) (K : am_Wp p l e R s m args below meth c D dA A ro ad0 n0 nL lim Qm (pc + 1, L, v :: w :: v :: w :: r, u) h) : am_Wp p l e R s m args below meth c D dA A ro ad0 n0 nL lim Qm (pc, L, v :: w :: r, u) h := by
  intro ad H locs ls had hn hP hD hS hok hl hLo hst hu1 hu2
  exact lv_dup2_11 hx hb hd (by rw [am_cv_cat]; exact hv) (by rw [am_cv_cat]; exact hw) (K ad H locs ls had hn hP hD hS hok hl hLo (List.forall_mem_cons.mpr ⟨hst v List.mem_cons_self, List.forall_mem_cons.mpr ⟨hst w (List.mem_cons_of_mem _ List.mem_cons_self), hst⟩⟩) hu1 hu2)
theorem ams_pop (hx : p.tables.exec = Jvm.exec) (hb : c.code = cc) {v : Value} {r : List Value} (hd : decode cc pc = .ok (.pop, 1)) (hv : v.category = 1) (K : am_Wp p l e R s m args below meth c D dA A ro ad0 n0 nL lim Qm (pc + 1, L, r, u) h) : am_Wp p l e R s m args below meth c D dA A ro ad0 n0 nL lim Qm (pc, L, v :: r, u) h := by
  intro ad H locs ls had hn hP hD hS hok hl hLo hst hu1 hu2
  exact lv_pop hx hb hd (by rw [am_cv_cat]; exact hv) (K ad H locs ls had hn hP hD hS hok hl hLo (fun w hw => hst w (List.mem_cons_of_mem _ hw)) hu1 hu2)
theorem ams_table (hx : p.tables.exec = Jvm.exec) (hb : c.code = cc) {dflt lo hi : Int} {offs : Array Int} {len : Nat} (hd : decode cc pc = .ok (.tableswitch dflt lo hi offs, len)) (h1 : 0 ≤ (pc : Int) + dflt) (h2 : ∀ o ∈ offs.toList, 0 ≤ (pc : Int) + o) (h3 : (offs.size : Int) = hi - lo + 1) (H0 : am_i1 st (fun x r => am_Wp p l e R s m args below meth c D dA A ro ad0 n0 nL lim Qm (am_tsw pc dflt lo hi offs x, L, r, u) h)) : am_Wp p l e R s m args below meth c D dA A ro ad0 n0 nL lim Qm (pc, L, st, u) h := by
  obtain ⟨x, r, rfl, K⟩ := am_i1_use H0
  intro ad H locs ls had hn hP hD hS hok hl hLo hst hu1 hu2
  have hst' : ∀ v ∈ r, am_okv h.1 v := fun v hv => hst v (List.mem_cons_of_mem _ hv)
  have K' := K ad H locs ls had hn hP hD hS hok hl hLo hst' hu1 hu2
  unfold am_tsw at K'
  by_cases hc : x.toInt < lo ∨ hi < x.toInt
  · rw [if_pos hc] at K'
    exact lv_tableOut hx hb hd hc (Int.toNat_of_nonneg h1).symm K'
  · rw [if_neg hc] at K'
    have hlt : (x.toInt - lo).toNat < offs.toList.length := by rw [Array.length_toList]; omega
    have ho : offs.toList[(x.toInt - lo).toNat]? = some (offs.toList.getD (x.toInt - lo).toNat 0) := by rw [List.getD_eq_getElem?_getD, List.getElem?_eq_getElem hlt]; rfl
    exact lv_tableIn hx hb hd (fun z => hc (Or.inl z)) (fun z => hc (Or.inr z)) (by rw [← Array.getElem?_toList]; exact ho) (Int.toNat_of_nonneg (h2 _ (List.mem_of_getElem? ho))).symm K'
theorem ams_lookup (hx : p.tables.exec = Jvm.exec) (hb : c.code = cc) {dflt : Int} {ps : Array (Int × Int)} {len : Nat} (hd : decode cc pc = .ok (.lookupswitch dflt ps, len)) (hp : (ps.toList.zip (ps.toList.drop 1)).all (fun (a, next) => a.1 < next.1) = true) (h1 : ∀ x : Int32, 0 ≤ (pc : Int) + Op.lookupswitch.offset ps.toList dflt x.toInt) (H0 : am_i1 st (fun x r => am_Wp p l e R s m args below meth c D dA A ro ad0 n0 nL lim Qm (am_lsw pc dflt ps x, L, r, u) h)) : am_Wp p l e R s m args below meth c D dA A ro ad0 n0 nL lim Qm (pc, L, st, u) h := by
  obtain ⟨x, r, rfl, K⟩ := am_i1_use H0
  intro ad H locs ls had hn hP hD hS hok hl hLo hst hu1 hu2
  have hst' : ∀ v ∈ r, am_okv h.1 v := fun v hv => hst v (List.mem_cons_of_mem _ hv)
  exact lv_lookup hx hb hd hp rfl (Int.toNat_of_nonneg (h1 x)).symm (K ad H locs ls had hn hP hD hS hok hl hLo hst' hu1 hu2)
end
end
section
section
variable {p : Program} {l : Launch} {e : Env} {R : Room} {s : State} {m : MethodId} {args : Array Value} {below : List Frame} {meth : Method} {c : Code}
variable {D : va_G} {dA : Nat → ClassId} {A : Nat → Prop} {ro : Nat → am_C} {ad0 : Nat → Nat} {n0 nL : Nat} {lim : Nat × Nat} {Qm : State → Prop}
variable {cc : ByteArray} {pc : Nat} {L : List (Option Value)} {st : List Value} {u : Nat × Nat} {h : am_H}
theorem am_hi_obj {q ci : Nat} {fs : List Value} (hok : am_okh ro h) (hr : am_roS ro) (e : h.2 q = .inr (ci, fs)) (hc : ci < 9) : 40 ≤ q := by
  by_cases hq : q < 40
  · rw [hok.2.2 q hq] at e
    rcases hr q hq with z | ⟨n, f, z⟩
    · rw [z] at e; cases e; omega
    · rw [z] at e; cases e
  · omega
theorem am_hi_arr {q n : Nat} {ty : FieldType} {x : (Nat → Int32) ⊕ (Nat → Int64) ⊕ (Nat → UInt32) ⊕ (Nat → UInt64) ⊕ (Nat → Option Nat)} (hok : am_okh ro h) (hr : am_roS ro) (e : h.2 q = .inl (ty, n, x)) (hc : ty ≠ .float) : 40 ≤ q := by
  by_cases hq : q < 40
  · rw [hok.2.2 q hq] at e
    rcases hr q hq with z | ⟨n, f, z⟩
    · rw [z] at e; cases e
    · rw [z] at e; cases e; exact absurd rfl hc
  · omega
theorem am_ro_at {q n : Nat} {f : Nat → Int32} (hok : am_okh ro h) (e : h.2 q = .inl (.float, n, .inl f)) (hq : q < 40) : ro q = .inl (.float, n, .inl f) := by rw [← hok.2.2 q hq]; exact e
theorem am_lo_arr {q n : Nat} {x : (Nat → Int32) ⊕ (Nat → Int64) ⊕ (Nat → UInt32) ⊕ (Nat → UInt64) ⊕ (Nat → Option Nat)} (hok : am_okh ro h) (e : h.2 q = .inl (.float, n, x)) (hq : q < h.1) : q < 40 := by
  by_cases h1 : q < 40
  · exact h1
  · exact absurd e ((hok.2.1 q hq).2.2 (by omega) n x)

theorem ams_getfield (hx : p.tables.exec = Jvm.exec) (hb : c.code = cc) {own C : String} {T : u_T} {N ci k idx : Nat} {Ts : List Cond} (hts : ∀ w ∈ Ts, w.before args s = true) (hin : ∀ w ∈ u_ws C T N, w ∈ Ts) (hown : s.vm.findClass own = some m.cls) (hK : va_K D vwCl (am_tys dA) s) (hr : am_roS ro) (hci : ci < 9) (hc : vwCl[ci]? = some (C, T, N)) (hk : k < N) (hlink : (Cond.fieldLink own idx (T k).1 (T k).2.1 (T k).2.2.1).before args s = true) (hd : decode cc pc = .ok (.getfield idx, 3))
    (H0 : am_r1 st (fun p1 r => am_obj h p1 ci (fun fs => match fs[k]? with
    | some v => am_Wp p l e R s m args below meth c D dA A ro ad0 n0 nL lim Qm (pc + 3, L, v :: r, u) h
    | none => False))) : am_Wp p l e R s m args below meth c D dA A ro ad0 n0 nL lim Qm (pc, L, st, u) h := by
  obtain ⟨q, r, rfl, H1⟩ := am_r1_use H0
  obtain ⟨fs, hq, H2⟩ := am_obj_use H1
  intro ad H locs ls had hn hP hD hS hok hl hLo hst hu1 hu2
  have h40 := am_hi_obj hok hr hq hci
  have hqn : q < h.1 := hst _ List.mem_cons_self q rfl
  have hw := am_ws_at (dA := dA) (ad := ad) h40 hqn
  rw [hq] at hw
  cases hv : fs[k]? with
  | none => rw [hv] at H2; exact H2.elim
  | some v =>
    rw [hv] at H2
    have hv' : (fs.map (am_cv ad))[k]? = some (am_cv ad v) := by rw [List.getElem?_map, hv]; rfl
    have hov : am_okv h.1 v := (hok.2.1 q hqn).2.1 ci fs hq v (List.mem_of_getElem? hv)
    exact va_get hx hb hts hin hown hK hP (q - 40) hw hc k hk hlink (fun _ z => z) hv' hd (H2 ad H locs ls had hn hP hD hS hok hl hLo (List.forall_mem_cons.mpr ⟨hov, fun v hv => hst v (List.mem_cons_of_mem _ hv)⟩) hu1 hu2)
/-- the type that a field's kind stands for -/
def am_fty (t : Nat) (ty : FieldType) : Prop := match t with
  | 0 => ty = .int
  | 1 => (∃ C, ty = .object C) ∨ ∃ z, ty = .array z
  | 2 => ty = .boolean
  | 3 => ty = .char
  | _ => False
theorem am_fit_use {t : Nat} {v : Value} {ty : FieldType} {g : Prop} (ht : am_fty t ty) (H : am_fit t v g) : g ∧ (∀ ad, narrow ty (am_cv ad v) = am_cv ad v) ∧ (∀ ad, fits ty (am_cv ad v) = true) := by
  unfold am_fit at H
  split at H
  · have e : ty = .int := ht
    subst e
    exact ⟨H, fun ad => rfl, fun ad => rfl⟩
  · rcases (show (∃ C, ty = .object C) ∨ ∃ z, ty = .array z from ht) with ⟨C, rfl⟩ | ⟨z, rfl⟩
    · exact ⟨H, fun ad => rfl, fun ad => rfl⟩
    · exact ⟨H, fun ad => rfl, fun ad => rfl⟩
  · have e : ty = .boolean := ht
    subst e
    rcases H with ⟨rfl | rfl, H⟩
    · exact ⟨H, fun ad => (by show narrow FieldType.boolean (Value.int 0) = Value.int 0; decide), fun ad => (by show fits FieldType.boolean (Value.int 0) = true; decide)⟩
    · exact ⟨H, fun ad => (by show narrow FieldType.boolean (Value.int 1) = Value.int 1; decide), fun ad => (by show fits FieldType.boolean (Value.int 1) = true; decide)⟩
  · have e : ty = .char := ht
    subst e
    obtain ⟨⟨q, hq, rfl⟩, H⟩ := H
    exact ⟨H, fun ad => (pk_charN hq).1, fun ad => (pk_charN hq).2⟩
  · exact H.elim
theorem ams_putfield (hx : p.tables.exec = Jvm.exec) (hb : c.code = cc) {own C : String} {T : u_T} {N ci k t idx : Nat} {Ts : List Cond} (hts : ∀ w ∈ Ts, w.before args s = true) (hin : ∀ w ∈ u_ws C T N, w ∈ Ts) (ty0 : Nat → FieldType) (hty : ∀ k, k < N → parseFieldDescriptor (T k).2.2.1 = some (ty0 k)) (hnm : ∀ a, a < N → ∀ b, b < N → a ≠ b → (T a).2.1 ≠ (T b).2.1) (hown : s.vm.findClass own = some m.cls) (hK : va_K D vwCl (am_tys dA) s) (hr : am_roS ro) (hci : ci < 9) (hc : vwCl[ci]? = some (C, T, N)) (hk : k < N) (hlink : (Cond.fieldLink own idx (T k).1 (T k).2.1 (T k).2.2.1).before args s = true) (hfin : (T k).2.2.2 = false ∨ (meth.name = "<init>" ∧ (T k).1 = own)) (ht : am_fty t (ty0 k)) (hd : decode cc pc = .ok (.putfield idx, 3))
    {v : Value} {q : Nat} {r : List Value} (hst0 : st = v :: .ref q :: r) (H0 : am_obj h q ci (fun fs => if k < fs.length then am_fit t v (am_Wp p l e R s m args below meth c D dA A ro ad0 n0 nL lim Qm (pc + 3, L, r, u) (am_set h q (.inr (ci, fs.set k v)))) else False)) : am_Wp p l e R s m args below meth c D dA A ro ad0 n0 nL lim Qm (pc, L, st, u) h := by
  subst hst0
  obtain ⟨fs, hq, H1⟩ := am_obj_use H0
  split at H1
  · rename_i hlen
    obtain ⟨K, hnar, hfit⟩ := am_fit_use ht H1
    intro ad H locs ls had hn hP hD hS hok hl hLo hst hu1 hu2
    have h40 := am_hi_obj hok hr hq hci
    have hqn : q < h.1 := hst _ (List.mem_cons_of_mem _ List.mem_cons_self) q rfl
    have hw := am_ws_at (dA := dA) (ad := ad) h40 hqn
    rw [hq] at hw
    have hov : am_okv h.1 v := hst v List.mem_cons_self
    have hoc : am_okc h.1 q (.inr (ci, fs.set k v)) := ⟨fun ty k f e => (by cases e), fun ci' fs' e v' hv' => by
      cases e
      rcases List.mem_or_eq_of_mem_set hv' with z | z
      · exact (hok.2.1 q hqn).2.1 ci fs hq v' z
      · rw [z]; exact hov, fun _ n x e => (by cases e)⟩
    have e1 : am_ws dA ad (am_set h q (.inr (ci, fs.set k v))) = (am_ws dA ad h).set (q - 40) (ad q, .inr (ci, (fs.map (am_cv ad)).set k (am_cv ad v))) := by
      rw [am_ws_set h40 hqn]
      show (am_ws dA ad h).set (q - 40) (ad q, Sum.inr (ci, (fs.set k v).map (am_cv ad))) = _
      rw [List.map_set]
    have fin : ∀ (H1 : Heap) (locs1 : List Loc), va_P D vwCl ((am_ws dA ad h).set (q - 40) (ad q, .inr (ci, (fs.map (am_cv ad)).set k (am_cv ad v)))) H1 → va_D A ((am_ws dA ad h).set (q - 40) (ad q, .inr (ci, (fs.map (am_cv ad)).set k (am_cv ad v)))) → va_S A s.heap H1 locs1 → W p l e R s m args below meth c H1 locs1 u.1 u.2 Qm (F0 m (pc + 3) ls (r.map (am_cv ad))) := by
      intro H1 locs1 a1 a2 a3
      rw [← e1] at a1 a2
      exact K ad H1 locs1 ls had hn a1 a2 a3 (am_okh_set hok h40 hoc) hl hLo (fun v hv => hst v (List.mem_cons_of_mem _ (List.mem_cons_of_mem _ hv))) hu1 hu2
    rcases hfin with hfin | ⟨hin2, hdecl⟩
    · exact va_put hx hb hts hin ty0 hty hnm hown hK hP hD hS (q - 40) hw hc k hk hlink (fun _ z => z) hfin (hty k hk) (hnar ad) (hfit ad) (by rw [List.length_map]; exact hlen) hd fin
    · by_cases hf2 : (T k).2.2.2 = false
      · exact va_put hx hb hts hin ty0 hty hnm hown hK hP hD hS (q - 40) hw hc k hk hlink (fun _ z => z) hf2 (hty k hk) (hnar ad) (hfit ad) (by rw [List.length_map]; exact hlen) hd fin
      · exact va_putF hx hb hts hin ty0 hty hnm hown hK hP hD hS (q - 40) hw hc k hk hlink (fun _ z => z) (by cases hz : (T k).2.2.2 with | true => rfl | false => exact absurd hz hf2) hin2 hdecl (hty k hk) (hnar ad) (hfit ad) (by rw [List.length_map]; exact hlen) hd fin
  · exact H1.elim
theorem ams_getstatic (hx : p.tables.exec = Jvm.exec) (hb : c.code = cc) {own C n d : String} {idx k : Nat} (hro : am_RO ro ad0 A s s.heap) (hn0 : 40 ≤ n0) (hZ : va_Z C n d (.ref (ad0 k)) A s s.heap) (hk : k < 40) (hown : s.vm.findClass own = some m.cls) (hlink : (Cond.fieldLink own idx C n d).before args s = true) (hd : decode cc pc = .ok (.getstatic idx, 3)) (K : am_Wp p l e R s m args below meth c D dA A ro ad0 n0 nL lim Qm (pc + 3, L, .ref k :: st, u) h) : am_Wp p l e R s m args below meth c D dA A ro ad0 n0 nL lim Qm (pc, L, st, u) h := by
  intro ad H locs ls had hn hP hD hS hok hl hLo hst hu1 hu2
  refine va_gets hx hb hZ hS hown hlink (fun _ z => z) hd ?_
  have K' := K ad H locs ls had hn hP hD hS hok hl hLo (List.forall_mem_cons.mpr ⟨am_okv_ref (by omega), hst⟩) hu1 hu2
  rw [List.map_cons, am_cv_ref, had k (by omega)] at K'
  exact K'
theorem ams_iaload (hx : p.tables.exec = Jvm.exec) (hb : c.code = cc) (hK : va_K D vwCl (am_tys dA) s) (hr : am_roS ro) (hro : am_RO ro ad0 A s s.heap) (hn0 : 40 ≤ n0) (hd : decode cc pc = .ok (.iaload, 1)) (H0 : am_ir st (fun i q r => am_rdi h q (fun n f => vp_in i n ∧ am_Wp p l e R s m args below meth c D dA A ro ad0 n0 nL lim Qm (pc + 1, L, .int (f i.toNatClampNeg) :: r, u) h))) : am_Wp p l e R s m args below meth c D dA A ro ad0 n0 nL lim Qm (pc, L, st, u) h := by
  obtain ⟨i, q, r, rfl, H1⟩ := am_ir_use H0
  obtain ⟨n, f, hq, hin, K⟩ := am_rdi_use H1
  intro ad H locs ls had hn hP hD hS hok hl hLo hst hu1 hu2
  have K' := K ad H locs ls had hn hP hD hS hok hl hLo (List.forall_mem_cons.mpr ⟨am_okv_int, fun v hv => hst v (List.mem_cons_of_mem _ (List.mem_cons_of_mem _ hv))⟩) hu1 hu2
  rcases hq with hq | hq
  · have h40 := am_hi_arr hok hr hq (by intro z; cases z)
    have hqn : q < h.1 := hst _ (List.mem_cons_of_mem _ List.mem_cons_self) q rfl
    have hw := am_ws_at (dA := dA) (ad := ad) h40 hqn
    rw [hq] at hw
    exact va_iald hx hb hK hP (q - 40) 0 hw rfl hin hd K'
  · have hq40 := am_lo_arr hok hq (hst _ (List.mem_cons_of_mem _ List.mem_cons_self) q rfl)
    have hT := hro.1 q n f hq40 (am_ro_at hok hq hq40)
    show W p l e R s m args below meth c H locs u.1 u.2 Qm (F0 m pc ls (.int i :: .ref (ad q) :: r.map (am_cv ad)))
    rw [had q (by omega)]
    exact va_ti hx hb hT hS hin rfl hd K' 
theorem ams_baload (hx : p.tables.exec = Jvm.exec) (hb : c.code = cc) (hK : va_K D vwCl (am_tys dA) s) (hr : am_roS ro) (hd : decode cc pc = .ok (.baload, 1)) (H0 : am_ir st (fun i q r => am_ari h q .boolean (fun n f => vp_in i n ∧ am_Wp p l e R s m args below meth c D dA A ro ad0 n0 nL lim Qm (pc + 1, L, .int (f i.toNatClampNeg) :: r, u) h))) : am_Wp p l e R s m args below meth c D dA A ro ad0 n0 nL lim Qm (pc, L, st, u) h := by
  obtain ⟨i, q, r, rfl, H1⟩ := am_ir_use H0
  obtain ⟨n, f, hq, hin, K⟩ := am_ari_use H1
  intro ad H locs ls had hn hP hD hS hok hl hLo hst hu1 hu2
  have h40 := am_hi_arr hok hr hq (by intro z; cases z)
  have hqn : q < h.1 := hst _ (List.mem_cons_of_mem _ List.mem_cons_self) q rfl
  have hw := am_ws_at (dA := dA) (ad := ad) h40 hqn
  rw [hq] at hw
  exact va_zald hx hb hK hP (q - 40) 2 hw rfl hin hd (K ad H locs ls had hn hP hD hS hok hl hLo (List.forall_mem_cons.mpr ⟨am_okv_int, fun v hv => hst v (List.mem_cons_of_mem _ (List.mem_cons_of_mem _ hv))⟩) hu1 hu2)
theorem ams_caload (hx : p.tables.exec = Jvm.exec) (hb : c.code = cc) (hK : va_K D vwCl (am_tys dA) s) (hr : am_roS ro) (hd : decode cc pc = .ok (.caload, 1)) (H0 : am_ir st (fun i q r => am_ari h q .char (fun n f => vp_in i n ∧ am_Wp p l e R s m args below meth c D dA A ro ad0 n0 nL lim Qm (pc + 1, L, .int (f i.toNatClampNeg) :: r, u) h))) : am_Wp p l e R s m args below meth c D dA A ro ad0 n0 nL lim Qm (pc, L, st, u) h := by
  obtain ⟨i, q, r, rfl, H1⟩ := am_ir_use H0
  obtain ⟨n, f, hq, hin, K⟩ := am_ari_use H1
  intro ad H locs ls had hn hP hD hS hok hl hLo hst hu1 hu2
  have h40 := am_hi_arr hok hr hq (by intro z; cases z)
  have hqn : q < h.1 := hst _ (List.mem_cons_of_mem _ List.mem_cons_self) q rfl
  have hw := am_ws_at (dA := dA) (ad := ad) h40 hqn
  rw [hq] at hw
  exact va_cald hx hb hK hP (q - 40) 1 hw rfl hin hd (K ad H locs ls had hn hP hD hS hok hl hLo (List.forall_mem_cons.mpr ⟨am_okv_int, fun v hv => hst v (List.mem_cons_of_mem _ (List.mem_cons_of_mem _ hv))⟩) hu1 hu2)
theorem ams_laload (hx : p.tables.exec = Jvm.exec) (hb : c.code = cc) (hK : va_K D vwCl (am_tys dA) s) (hr : am_roS ro) (hd : decode cc pc = .ok (.laload, 1)) (H0 : am_ir st (fun i q r => am_arl h q (fun n f => vp_in i n ∧ am_Wp p l e R s m args below meth c D dA A ro ad0 n0 nL lim Qm (pc + 1, L, .long (f i.toNatClampNeg) :: r, u) h))) : am_Wp p l e R s m args below meth c D dA A ro ad0 n0 nL lim Qm (pc, L, st, u) h := by
  obtain ⟨i, q, r, rfl, H1⟩ := am_ir_use H0
  obtain ⟨n, f, hq, hin, K⟩ := am_arl_use H1
  intro ad H locs ls had hn hP hD hS hok hl hLo hst hu1 hu2
  have h40 := am_hi_arr hok hr hq (by intro z; cases z)
  have hqn : q < h.1 := hst _ (List.mem_cons_of_mem _ List.mem_cons_self) q rfl
  have hw := am_ws_at (dA := dA) (ad := ad) h40 hqn
  rw [hq] at hw
  exact va_lald hx hb hK hP (q - 40) 3 hw rfl hin hd (K ad H locs ls had hn hP hD hS hok hl hLo (List.forall_mem_cons.mpr ⟨am_okv_long, fun v hv => hst v (List.mem_cons_of_mem _ (List.mem_cons_of_mem _ hv))⟩) hu1 hu2)
theorem ams_aaload (hx : p.tables.exec = Jvm.exec) (hb : c.code = cc) (hK : va_K D vwCl (am_tys dA) s) (hr : am_roS ro) (hd : decode cc pc = .ok (.aaload, 1)) (H0 : am_ir st (fun i q r => am_arr h q (fun _ n f => vp_in i n ∧ ∃ q1, f i.toNatClampNeg = some q1 ∧ am_Wp p l e R s m args below meth c D dA A ro ad0 n0 nL lim Qm (pc + 1, L, .ref q1 :: r, u) h))) : am_Wp p l e R s m args below meth c D dA A ro ad0 n0 nL lim Qm (pc, L, st, u) h := by
  obtain ⟨i, q, r, rfl, H1⟩ := am_ir_use H0
  obtain ⟨C, n, f, hq, hin, q1, hq1, K⟩ := am_arr_use H1
  intro ad H locs ls had hn hP hD hS hok hl hLo hst hu1 hu2
  have h40 := am_hi_arr hok hr hq (by intro z; cases z)
  have hqn : q < h.1 := hst _ (List.mem_cons_of_mem _ List.mem_cons_self) q rfl
  have hw := am_ws_at (dA := dA) (ad := ad) h40 hqn
  rw [hq] at hw
  have K' := K ad H locs ls had hn hP hD hS hok hl hLo (List.forall_mem_cons.mpr ⟨am_okv_ref ((hok.2.1 q hqn).1 _ _ f hq _ q1 hq1), fun v hv => hst v (List.mem_cons_of_mem _ (List.mem_cons_of_mem _ hv))⟩) hu1 hu2
  refine va_aldq hx hb hK hP (q - 40) 4 hw rfl hin hd ?_
  have e1 : va_rf (((f i.toNatClampNeg)).map ad) = am_cv ad (.ref q1) := by rw [hq1]; rfl
  show W p l e R s m args below meth c H locs u.1 u.2 Qm (F0 m (pc + 1) ls (va_rf ((f i.toNatClampNeg).map ad) :: r.map (am_cv ad)))
  rw [e1]
  exact K' 
theorem ams_iastore (hx : p.tables.exec = Jvm.exec) (hb : c.code = cc) (hK : va_K D vwCl (am_tys dA) s) (hr : am_roS ro) (hd : decode cc pc = .ok (.iastore, 1)) (H0 : am_i1 st (fun x st' => am_ir st' (fun i q r => am_ari h q .int (fun n f => vp_in i n ∧ am_Wp p l e R s m args below meth c D dA A ro ad0 n0 nL lim Qm (pc + 1, L, r, u) (am_set h q (.inl (.int, n, .inl (upd f i.toNatClampNeg x)))))))) : am_Wp p l e R s m args below meth c D dA A ro ad0 n0 nL lim Qm (pc, L, st, u) h := by
  obtain ⟨x, st', rfl, H1⟩ := am_i1_use H0
  obtain ⟨i, q, r, rfl, H2⟩ := am_ir_use H1
  obtain ⟨n, f, hq, hin, K⟩ := am_ari_use H2
  intro ad H locs ls had hn hP hD hS hok hl hLo hst hu1 hu2
  have h40 := am_hi_arr hok hr hq (by intro z; cases z)
  have hqn : q < h.1 := hst _ (List.mem_cons_of_mem _ (List.mem_cons_of_mem _ List.mem_cons_self)) q rfl
  have hw := am_ws_at (dA := dA) (ad := ad) h40 hqn
  rw [hq] at hw
  refine va_iast hx hb hK hP hD hS (q - 40) 0 hw rfl hin hd (fun H1 locs1 a1 a2 a3 => ?_)
  have e1 : am_ws dA ad (am_set h q (.inl (.int, n, .inl (upd f i.toNatClampNeg x)))) = (am_ws dA ad h).set (q - 40) (ad q, .inl (dA 0, n, .inl (upd f i.toNatClampNeg x))) := am_ws_set h40 hqn _
  exact K ad H1 locs1 ls had hn (by rw [e1]; exact a1) (by rw [e1]; exact a2) a3 (am_okh_set hok h40 ⟨fun ty k f e => (by cases e), fun ci' fs' e => (by cases e), fun _ n x e => (by cases e)⟩) hl hLo (fun v hv => hst v (List.mem_cons_of_mem _ (List.mem_cons_of_mem _ (List.mem_cons_of_mem _ hv)))) hu1 hu2
theorem ams_bastore (hx : p.tables.exec = Jvm.exec) (hb : c.code = cc) (hK : va_K D vwCl (am_tys dA) s) (hr : am_roS ro) (hd : decode cc pc = .ok (.bastore, 1)) (H0 : am_i1 st (fun x st' => am_ir st' (fun i q r => am_ari h q .boolean (fun n f => vp_in i n ∧ am_Wp p l e R s m args below meth c D dA A ro ad0 n0 nL lim Qm (pc + 1, L, r, u) (am_set h q (.inl (.boolean, n, .inl (upd f i.toNatClampNeg (vp_nar .boolean x))))))))) : am_Wp p l e R s m args below meth c D dA A ro ad0 n0 nL lim Qm (pc, L, st, u) h := by
  obtain ⟨x, st', rfl, H1⟩ := am_i1_use H0
  obtain ⟨i, q, r, rfl, H2⟩ := am_ir_use H1
  obtain ⟨n, f, hq, hin, K⟩ := am_ari_use H2
  intro ad H locs ls had hn hP hD hS hok hl hLo hst hu1 hu2
  have h40 := am_hi_arr hok hr hq (by intro z; cases z)
  have hqn : q < h.1 := hst _ (List.mem_cons_of_mem _ (List.mem_cons_of_mem _ List.mem_cons_self)) q rfl
  have hw := am_ws_at (dA := dA) (ad := ad) h40 hqn
  rw [hq] at hw
  refine va_zast hx hb hK hP hD hS (q - 40) 2 hw rfl hin hd (fun H1 locs1 a1 a2 a3 => ?_)
  have e1 : am_ws dA ad (am_set h q (.inl (.boolean, n, .inl (upd f i.toNatClampNeg (vp_nar .boolean x))))) = (am_ws dA ad h).set (q - 40) (ad q, .inl (dA 2, n, .inl (upd f i.toNatClampNeg (vp_nar .boolean x)))) := am_ws_set h40 hqn _
  exact K ad H1 locs1 ls had hn (by rw [e1]; exact a1) (by rw [e1]; exact a2) a3 (am_okh_set hok h40 ⟨fun ty k f e => (by cases e), fun ci' fs' e => (by cases e), fun _ n x e => (by cases e)⟩) hl hLo (fun v hv => hst v (List.mem_cons_of_mem _ (List.mem_cons_of_mem _ (List.mem_cons_of_mem _ hv)))) hu1 hu2
theorem ams_castore (hx : p.tables.exec = Jvm.exec) (hb : c.code = cc) (hK : va_K D vwCl (am_tys dA) s) (hr : am_roS ro) (hd : decode cc pc = .ok (.castore, 1)) (H0 : am_i1 st (fun x st' => am_ir st' (fun i q r => am_ari h q .char (fun n f => vp_in i n ∧ am_Wp p l e R s m args below meth c D dA A ro ad0 n0 nL lim Qm (pc + 1, L, r, u) (am_set h q (.inl (.char, n, .inl (upd f i.toNatClampNeg (vp_nar .char x))))))))) : am_Wp p l e R s m args below meth c D dA A ro ad0 n0 nL lim Qm (pc, L, st, u) h := by
  obtain ⟨x, st', rfl, H1⟩ := am_i1_use H0
  obtain ⟨i, q, r, rfl, H2⟩ := am_ir_use H1
  obtain ⟨n, f, hq, hin, K⟩ := am_ari_use H2
  intro ad H locs ls had hn hP hD hS hok hl hLo hst hu1 hu2
  have h40 := am_hi_arr hok hr hq (by intro z; cases z)
  have hqn : q < h.1 := hst _ (List.mem_cons_of_mem _ (List.mem_cons_of_mem _ List.mem_cons_self)) q rfl
  have hw := am_ws_at (dA := dA) (ad := ad) h40 hqn
  rw [hq] at hw
  refine va_cast hx hb hK hP hD hS (q - 40) 1 hw rfl hin hd (fun H1 locs1 a1 a2 a3 => ?_)
  have e1 : am_ws dA ad (am_set h q (.inl (.char, n, .inl (upd f i.toNatClampNeg (vp_nar .char x))))) = (am_ws dA ad h).set (q - 40) (ad q, .inl (dA 1, n, .inl (upd f i.toNatClampNeg (vp_nar .char x)))) := am_ws_set h40 hqn _
  exact K ad H1 locs1 ls had hn (by rw [e1]; exact a1) (by rw [e1]; exact a2) a3 (am_okh_set hok h40 ⟨fun ty k f e => (by cases e), fun ci' fs' e => (by cases e), fun _ n x e => (by cases e)⟩) hl hLo (fun v hv => hst v (List.mem_cons_of_mem _ (List.mem_cons_of_mem _ (List.mem_cons_of_mem _ hv)))) hu1 hu2
theorem ams_lastore (hx : p.tables.exec = Jvm.exec) (hb : c.code = cc) (hK : va_K D vwCl (am_tys dA) s) (hr : am_roS ro) (hd : decode cc pc = .ok (.lastore, 1)) (H0 : am_l1 st (fun x st' => am_ir st' (fun i q r => am_arl h q (fun n f => vp_in i n ∧ am_Wp p l e R s m args below meth c D dA A ro ad0 n0 nL lim Qm (pc + 1, L, r, u) (am_set h q (.inl (.long, n, .inr (.inl (vp_updL f i.toNatClampNeg x))))))))) : am_Wp p l e R s m args below meth c D dA A ro ad0 n0 nL lim Qm (pc, L, st, u) h := by
  obtain ⟨x, st', rfl, H1⟩ := am_l1_use H0
  obtain ⟨i, q, r, rfl, H2⟩ := am_ir_use H1
  obtain ⟨n, f, hq, hin, K⟩ := am_arl_use H2
  intro ad H locs ls had hn hP hD hS hok hl hLo hst hu1 hu2
  have h40 := am_hi_arr hok hr hq (by intro z; cases z)
  have hqn : q < h.1 := hst _ (List.mem_cons_of_mem _ (List.mem_cons_of_mem _ List.mem_cons_self)) q rfl
  have hw := am_ws_at (dA := dA) (ad := ad) h40 hqn
  rw [hq] at hw
  refine va_last hx hb hK hP hD hS (q - 40) 3 hw rfl hin hd (fun H1 locs1 a1 a2 a3 => ?_)
  have e1 : am_ws dA ad (am_set h q (.inl (.long, n, .inr (.inl (vp_updL f i.toNatClampNeg x))))) = (am_ws dA ad h).set (q - 40) (ad q, .inl (dA 3, n, .inr (.inl (vp_updL f i.toNatClampNeg x)))) := am_ws_set h40 hqn _
  exact K ad H1 locs1 ls had hn (by rw [e1]; exact a1) (by rw [e1]; exact a2) a3 (am_okh_set hok h40 ⟨fun ty k f e => (by cases e), fun ci' fs' e => (by cases e), fun _ n x e => (by cases e)⟩) hl hLo (fun v hv => hst v (List.mem_cons_of_mem _ (List.mem_cons_of_mem _ (List.mem_cons_of_mem _ hv)))) hu1 hu2
theorem ams_aastore (hx : p.tables.exec = Jvm.exec) (hb : c.code = cc) (hK : va_K D vwCl (am_tys dA) s) (hr : am_roS ro) (hd : decode cc pc = .ok (.aastore, 1)) (H0 : am_r1 st (fun v st' => am_ir st' (fun i q r => am_arr h q (fun C n f => am_obj h v 4 (fun _ => C = RX7 ∧ vp_in i n ∧ am_Wp p l e R s m args below meth c D dA A ro ad0 n0 nL lim Qm (pc + 1, L, r, u) (am_set h q (.inl (.object C, n, .inr (.inr (.inr (.inr (va_up f i.toNatClampNeg (some v)))))))))))) ) : am_Wp p l e R s m args below meth c D dA A ro ad0 n0 nL lim Qm (pc, L, st, u) h := by
  obtain ⟨v, st', rfl, H1⟩ := am_r1_use H0
  obtain ⟨i, q, r, rfl, H2⟩ := am_ir_use H1
  obtain ⟨C, n, f, hq, H3⟩ := am_arr_use H2
  obtain ⟨vs, hv, rfl, hin, K⟩ := am_obj_use H3
  intro ad H locs ls had hn hP hD hS hok hl hLo hst hu1 hu2
  have h40 := am_hi_arr hok hr hq (by intro z; cases z)
  have hqn : q < h.1 := hst _ (List.mem_cons_of_mem _ (List.mem_cons_of_mem _ List.mem_cons_self)) q rfl
  have hv40 := am_hi_obj hok hr hv (by decide)
  have hvn : v < h.1 := hst _ List.mem_cons_self v rfl
  have hw := am_ws_at (dA := dA) (ad := ad) h40 hqn
  have hwv := am_ws_at (dA := dA) (ad := ad) hv40 hvn
  rw [hq] at hw
  rw [hv] at hwv
  refine va_astq hx hb hK hP hD hS (q - 40) 4 (v - 40) 4 hw rfl hwv rfl hin hd (fun H1 locs1 a1 a2 a3 => ?_)
  have ef : (fun j => (va_up f i.toNatClampNeg (some v) j).map ad) = va_up (fun j => (f j).map ad) i.toNatClampNeg (some (ad v)) := by
    funext j
    by_cases e : j = i.toNatClampNeg
    · rw [e, am_up_s, am_up_s]; rfl
    · rw [am_up_n e, am_up_n e]
  have e1 : am_ws dA ad (am_set h q (.inl (.object RX7, n, .inr (.inr (.inr (.inr (va_up f i.toNatClampNeg (some v)))))))) = (am_ws dA ad h).set (q - 40) (ad q, .inl (dA 4, n, .inr (.inr (.inr (.inr (va_up (fun j => (f j).map ad) i.toNatClampNeg (some (ad v)))))))) := by
    rw [am_ws_set h40 hqn, ← ef]; rfl
  refine K ad H1 locs1 ls had hn (by rw [e1]; exact a1) (by rw [e1]; exact a2) a3 (am_okh_set hok h40 ⟨fun ty k f' e j q' hj => ?_, fun ci' fs' e => (by cases e), fun _ n x e => (by cases e)⟩) hl hLo (fun v hv => hst v (List.mem_cons_of_mem _ (List.mem_cons_of_mem _ (List.mem_cons_of_mem _ hv)))) hu1 hu2
  cases e
  by_cases ej : j = i.toNatClampNeg
  · rw [ej, am_up_s] at hj; cases hj; exact hvn
  · rw [am_up_n ej] at hj; exact (hok.2.1 q hqn).1 _ _ f hq j q' hj
theorem ams_arraylength (hx : p.tables.exec = Jvm.exec) (hb : c.code = cc) (hK : va_K D vwCl (am_tys dA) s) (hr : am_roS ro) (hro : am_RO ro ad0 A s s.heap) (hn0 : 40 ≤ n0) (hd : decode cc pc = .ok (.arraylength, 1)) (H0 : am_r1 st (fun q r => am_len h q (fun n => am_Wp p l e R s m args below meth c D dA A ro ad0 n0 nL lim Qm (pc + 1, L, .int (Int32.ofNat n) :: r, u) h))) : am_Wp p l e R s m args below meth c D dA A ro ad0 n0 nL lim Qm (pc, L, st, u) h := by
  obtain ⟨q, r, rfl, H1⟩ := am_r1_use H0
  obtain ⟨ty, n, x, hq, K⟩ := am_len_use H1
  intro ad H locs ls had hn hP hD hS hok hl hLo hst hu1 hu2
  have K' := K ad H locs ls had hn hP hD hS hok hl hLo (List.forall_mem_cons.mpr ⟨am_okv_int, fun v hv => hst v (List.mem_cons_of_mem _ hv)⟩) hu1 hu2
  have hqn : q < h.1 := hst _ List.mem_cons_self q rfl
  by_cases hty : ty = .float
  · subst hty
    have hq40 := am_lo_arr hok hq hqn
    have hf : ∃ f, x = .inl f := by
      have e2 := hok.2.2 q hq40
      rw [hq] at e2
      rcases hr q hq40 with z | ⟨n', f, z⟩
      · rw [z] at e2; cases e2
      · rw [z] at e2; cases e2; exact ⟨f, rfl⟩
    obtain ⟨f, rfl⟩ := hf
    have hT := hro.1 q n f hq40 (am_ro_at hok hq hq40)
    show W p l e R s m args below meth c H locs u.1 u.2 Qm (F0 m pc ls (.ref (ad q) :: r.map (am_cv ad)))
    rw [had q (by omega)]
    exact va_tlen hx hb hT hS rfl hd K'
  · have h40 := am_hi_arr hok hr hq hty
    have hw := am_ws_at (dA := dA) (ad := ad) h40 hqn
    rw [hq] at hw
    have ht : ∃ (t0 : Nat) (ty' : FieldType), (am_tys dA)[t0]? = some (am_ca dA ty, ty') := by
      unfold am_ca
      split
      · exact ⟨0, _, rfl⟩
      · exact ⟨1, _, rfl⟩
      · exact ⟨2, _, rfl⟩
      · exact ⟨3, _, rfl⟩
      · exact ⟨4, _, rfl⟩
    obtain ⟨t0, ty', ht⟩ := ht
    exact va_alen hx hb hK hP (q - 40) t0 hw ht rfl hd K' 
end
end
section
section
variable {p : Program} {l : Launch} {e : Env} {R : Room} {s : State} {m : MethodId} {args : Array Value} {below : List Frame} {meth : Method} {c : Code}
variable {D : va_G} {dA : Nat → ClassId} {A : Nat → Prop} {ro : Nat → am_C} {ad0 : Nat → Nat} {n0 nL : Nat} {lim : Nat × Nat} {Qm : State → Prop}
variable {cc : ByteArray} {pc : Nat} {L : List (Option Value)} {st : List Value} {u : Nat × Nat} {h : am_H}
theorem am_map_same {ad ad' : Nat → Nat} {n : Nat} (hs : ∀ i, i < n → ad' i = ad i) {st : List Value} (hst : ∀ v ∈ st, am_okv n v) : st.map (am_cv ad') = st.map (am_cv ad) := List.map_congr_left (fun v hv => am_cv_same hs (hst v hv))
/-- a new cell at q: what was known goes on under the new addresses -/
theorem am_born {k pc' : Nat} {ad : Nat → Nat} {H1 : Heap} {locs : List Loc} {ls : Array Slot} {q : Nat} {r : List Value} {c1 : am_C} {e1 : va_E} (hk : ∀ ad, am_ce dA ad c1 = e1) (had : ∀ i, i < n0 → ad i = ad0 i) (hn : n0 ≤ h.1) (hok : am_okh ro h) (hl : lv_has ls nL (am_pr L ad)) (hLo : am_okL h.1 L) (hst : ∀ v ∈ r, am_okv h.1 v) (hu1 : u.1 + 1 ≤ lim.1) (hu2 : u.2 + k ≤ lim.2)
    (hc1 : am_okc h.1 h.1 c1) (hP1 : va_P D vwCl (am_ws dA ad h ++ [(q, e1)]) H1) (hD1 : va_D A (am_ws dA ad h ++ [(q, e1)])) (hS1 : va_S A s.heap H1 locs)
    (K : am_Wp p l e R s m args below meth c D dA A ro ad0 n0 nL lim Qm (pc', L, .ref h.1 :: r, u.1 + 1, u.2 + k) (am_add h c1)) : W p l e R s m args below meth c H1 locs (u.1 + 1) (u.2 + k) Qm (F0 m pc' ls (.ref q :: r.map (am_cv ad))) := by
  have hs : ∀ i, i < h.1 → va_up ad h.1 q i = ad i := fun i hi => am_up_n (by omega)
  have ew : am_ws dA (va_up ad h.1 q) (am_add h c1) = am_ws dA ad h ++ [(q, e1)] := by rw [am_ws_add hok, hk]
  have K' := K (va_up ad h.1 q) H1 locs ls (fun i hi => by rw [hs i (by omega)]; exact had i hi) (Nat.le_succ_of_le hn) (by rw [ew]; exact hP1) (by rw [ew]; exact hD1) hS1 (am_okh_add hok hc1) (am_lv_mono hl (am_pr_same hs hLo)) (am_okL_mono (Nat.le_succ _) hLo) (List.forall_mem_cons.mpr ⟨am_okv_ref (Nat.lt_succ_self _), fun v hv => am_okv_mono (Nat.le_succ _) (hst v hv)⟩) hu1 hu2
  rw [List.map_cons, am_cv_ref, am_up_s, am_map_same hs hst] at K'
  exact K'
theorem ams_new (hx : p.tables.exec = Jvm.exec) (hb : c.code = cc) {own C : String} {T : u_T} {N ci idx : Nat} {Ts : List Cond} (hts : ∀ w ∈ Ts, w.before args s = true) (hin : ∀ w ∈ u_ws C T N, w ∈ Ts) (ty : Nat → FieldType) (hty : ∀ k, k < N → parseFieldDescriptor (T k).2.2.1 = some (ty k)) (hown : s.vm.findClass own = some m.cls) (hcl : (Cond.classLink own idx C).before args s = true) (hinst : (Cond.instantiable C N).before args s = true) (hini : (Cond.initialized C).before args s = true)
    (hK : va_K D vwCl (am_tys dA) s) (hA : ∀ q, s.heap.size ≤ q → A q) (hc : vwCl[ci]? = some (C, T, N)) (hlen : (am_newf ci).length = N) (hfs : ∀ j, j < N → defaultValue (ty j) = vp_V (am_newf ci) j) (hnr : ∀ v ∈ am_newf ci, v = .null ∨ v = .int 0) (hR : lim.1 ≤ R.cells ∧ lim.2 ≤ R.slots) (hd : decode cc pc = .ok (.new idx, 3))
    (H0 : u.1 + 1 ≤ lim.1 ∧ u.2 + (am_newf ci).length ≤ lim.2 ∧ am_Wp p l e R s m args below meth c D dA A ro ad0 n0 nL lim Qm (pc + 3, L, .ref h.1 :: st, u.1 + 1, u.2 + (am_newf ci).length) (am_add h (.inr (ci, am_newf ci)))) : am_Wp p l e R s m args below meth c D dA A ro ad0 n0 nL lim Qm (pc, L, st, u) h := by
  obtain ⟨h1, h2, K⟩ := H0
  rw [hlen] at h2 K
  intro ad H locs ls had hn hP hD hS hok hl hLo hst hu1 hu2
  have hid : ∀ ad : Nat → Nat, (am_newf ci).map (am_cv ad) = am_newf ci := fun ad => by
    conv => rhs; rw [← List.map_id (am_newf ci)]
    exact List.map_congr_left (fun v hv => by rcases hnr v hv with rfl | rfl <;> rfl)
  refine va_new hx hb hts hin ty hty hown hcl hinst hini hK hP hD hS hA hc hfs (Nat.le_trans h1 hR.1) (Nat.le_trans h2 hR.2) hd (fun q H1 a1 a2 a3 => ?_)
  exact am_born (e1 := .inr (ci, am_newf ci)) (fun ad => by show Sum.inr (ci, (am_newf ci).map (am_cv ad)) = _; rw [hid]) had hn hok hl hLo hst h1 h2 ⟨fun ty k f e => (by cases e), fun ci' fs' e v hv => (by cases e; rcases hnr v hv with rfl | rfl <;> (intro i z; cases z)), fun _ n x e => (by cases e)⟩ a1 a2 a3 K
theorem ams_newarray (hx : p.tables.exec = Jvm.exec) (hb : c.code = cc) {at_ : ArrayType} {ty : FieldType} {t0 : Nat} (hty : newarray.typeOf at_ = ty) (hp : ty = .int ∨ ty = .char ∨ ty = .boolean ∨ ty = .long) (harr : (Cond.arrayClass ty).before args s = true) (hK : va_K D vwCl (am_tys dA) s) (hA : ∀ q, s.heap.size ≤ q → A q) (hR : lim.1 ≤ R.cells ∧ lim.2 ≤ R.slots) (hd : decode cc pc = .ok (.newarray at_, 2))
    (H0 : am_i1 st (fun n r => ¬ n < 0 ∧ n.toNatClampNeg ≤ 10000 ∧ u.1 + 1 ≤ lim.1 ∧ u.2 + n.toNatClampNeg ≤ lim.2 ∧ am_Wp p l e R s m args below meth c D dA A ro ad0 n0 nL lim Qm (pc + 2, L, .ref h.1 :: r, u.1 + 1, u.2 + n.toNatClampNeg) (am_add h (.inl (newarray.typeOf at_, am_new0 (newarray.typeOf at_) n.toNatClampNeg))))) : am_Wp p l e R s m args below meth c D dA A ro ad0 n0 nL lim Qm (pc, L, st, u) h := by
  obtain ⟨n, r, rfl, h0, hmax, h1, h2, K⟩ := am_i1_use H0
  rw [hty] at K
  intro ad H locs ls had hn hP hD hS hok hl hLo hst hu1 hu2
  have hcell : ∀ cA : ClassId, vp_cell cA (am_new0 ty n.toNatClampNeg) = arrV cA n.toNatClampNeg (fun _ => defaultValue ty) := fun cA => by rcases hp with rfl | rfl | rfl | rfl <;> rfl
  have hby : n.toNatClampNeg * componentBytes ty ≤ 536870912 := by rcases hp with rfl | rfl | rfl | rfl <;> (simp only [componentBytes]; omega)
  refine va_newa hx hb (by rw [hty]; exact harr) hty hK hP hD hS hA (a0 := am_new0 ty n.toNatClampNeg) hcell h0 rfl hby (Nat.le_trans h1 hR.1) (Nat.le_trans h2 hR.2) hd (fun q cA H1 a0 a1 a2 a3 => ?_)
  have hcA : cA = am_ca dA ty := by
    have z := (a0.2 5 (cA, ty) rfl).2
    rcases hp with rfl | rfl | rfl | rfl
    · exact Option.some.inj (z.symm.trans (hK.2 0 _ rfl).2)
    · exact Option.some.inj (z.symm.trans (hK.2 1 _ rfl).2)
    · exact Option.some.inj (z.symm.trans (hK.2 2 _ rfl).2)
    · exact Option.some.inj (z.symm.trans (hK.2 3 _ rfl).2)
  subst hcA
  refine am_born (e1 := .inl (am_ca dA ty, am_new0 ty n.toNatClampNeg)) (c1 := .inl (ty, am_new0 ty n.toNatClampNeg)) (fun ad => by rcases hp with rfl | rfl | rfl | rfl <;> rfl) had hn hok hl hLo (fun v hv => hst v (List.mem_cons_of_mem _ hv)) h1 h2 ⟨fun ty' k f e => ?_, fun ci' fs' e => (by cases e), fun _ n x e => ?_⟩ a1 a2 a3 K
  · rcases hp with rfl | rfl | rfl | rfl <;> cases e
  · rcases hp with rfl | rfl | rfl | rfl <;> cases e
theorem ams_anewarray (hx : p.tables.exec = Jvm.exec) (hb : c.code = cc) {own : String} {idx : Nat} (hown : s.vm.findClass own = some m.cls) (hcl : (Cond.classLink own idx RX7).before args s = true) (hov : (Cond.arrayOver (.object RX7)).before args s = true) (hK : va_K D vwCl (am_tys dA) s) (hA : ∀ q, s.heap.size ≤ q → A q) (hR : lim.1 ≤ R.cells ∧ lim.2 ≤ R.slots) (hd : decode cc pc = .ok (.anewarray idx, 3))
    (H0 : am_i1 st (fun n r => ¬ n < 0 ∧ n.toNatClampNeg ≤ 10000 ∧ u.1 + 1 ≤ lim.1 ∧ u.2 + n.toNatClampNeg ≤ lim.2 ∧ am_Wp p l e R s m args below meth c D dA A ro ad0 n0 nL lim Qm (pc + 3, L, .ref h.1 :: r, u.1 + 1, u.2 + n.toNatClampNeg) (am_add h (.inl (.object RX7, n.toNatClampNeg, .inr (.inr (.inr (.inr (fun _ => none))))))))) : am_Wp p l e R s m args below meth c D dA A ro ad0 n0 nL lim Qm (pc, L, st, u) h := by
  obtain ⟨n, r, rfl, h0, hmax, h1, h2, K⟩ := am_i1_use H0
  intro ad H locs ls had hn hP hD hS hok hl hLo hst hu1 hu2
  refine va_newq hx hb hown hcl (va_AO.of hov) hK hP hD hS hA h0 rfl (by omega) (Nat.le_trans h1 hR.1) (Nat.le_trans h2 hR.2) hd (fun q cA H1 a0 a1 a2 a3 => ?_)
  have hcA : cA = dA 4 := by
    obtain ⟨-, -, -, -, -, z⟩ := (a0.2 5 (cA, .object RX7) rfl).2
    obtain ⟨-, -, -, -, -, z'⟩ := (hK.2 4 _ rfl).2
    exact Option.some.inj (z.symm.trans z')
  subst hcA
  exact am_born (e1 := .inl (dA 4, n.toNatClampNeg, .inr (.inr (.inr (.inr (fun _ => none)))))) (c1 := .inl (.object RX7, n.toNatClampNeg, .inr (.inr (.inr (.inr (fun _ => none)))))) (fun ad => rfl) had hn hok hl hLo (fun v hv => hst v (List.mem_cons_of_mem _ hv)) h1 h2 ⟨fun ty' k f e j q hj => (by cases e; cases hj), fun ci' fs' e => (by cases e), fun _ n x e => (by cases e)⟩ a1 a2 a3 K
end
/-! calls -/
def am_Pc (D : va_G) (dA : Nat → ClassId) (ro : Nat → am_C) (ad : Nat → Nat) (h : am_H) (sz : Nat) (as : List Value) : Array Value → State → Prop := fun v U =>
  v = (as.map (am_cv ad)).toArray ∧ U.heap.size = sz ∧ va_P D vwCl (am_ws dA ad h) U.heap ∧ va_K D vwCl (am_tys dA) U ∧ va_D (fun _ => True) (am_ws dA ad h) ∧ am_RO ro ad (va_A (am_ws dA ad h) sz) U U.heap
def am_Qc (D : va_G) (dA : Nat → ClassId) (ro : Nat → am_C) (ad : Nat → Nat) (h : am_H) (sz : Nat) (Q : Option Value → am_H → Prop) : Array Value → State → Outcome → State → Prop := fun _ st oc t =>
  (∃ (v : Option Value) (h' : am_H) (ad' : Nat → Nat), oc = .returned (v.map (am_cv ad')) ∧ Q v h' ∧ va_P D vwCl (am_ws dA ad' h') t.heap ∧ va_D (va_A (am_ws dA ad h) sz) (am_ws dA ad' h') ∧ am_okh ro h' ∧ h.1 ≤ h'.1 ∧ (∀ i, i < h.1 → ad' i = ad i) ∧ ∀ w, v = some w → am_okv h'.1 w) ∧ va_F (va_A (am_ws dA ad h) sz) st t
section
variable {p : Program} {l : Launch} {e : Env} {R : Room} {s : State} {m : MethodId} {args : Array Value} {below : List Frame} {meth : Method} {c : Code}
variable {D : va_G} {dA : Nat → ClassId} {A : Nat → Prop} {ro : Nat → am_C} {ad0 : Nat → Nat} {n0 nL : Nat} {lim : Nat × Nat} {Qm : State → Prop}
variable {cc : ByteArray} {pc : Nat} {L : List (Option Value)} {st : List Value} {u : Nat × Nat} {h : am_H}
/-- behind a call that has run -/
theorem ams_ran {ad : Nat → Nat} {H : Heap} {locs : List Loc} {ls : Array Slot} {mc ms : Nat} {rest st0 : List Value} {a : Array Value} {Q : Option Value → am_H → Prop} (hA : ∀ q, s.heap.size ≤ q → A q) (had : ∀ i, i < n0 → ad i = ad0 i) (hn : n0 ≤ h.1) (hD : va_D A (am_ws dA ad h)) (hS : va_S A s.heap H locs) (hl : lv_has ls nL (am_pr L ad)) (hLo : am_okL h.1 L) (hst : ∀ v ∈ rest, am_okv h.1 v) (hu1 : u.1 + mc ≤ lim.1) (hu2 : u.2 + ms ≤ lim.2)
    (hr : va_Run p l e R s m args below meth c H locs u.1 u.2 mc ms (F0 m pc ls st0) (rest.map (am_cv ad)) (am_Qc D dA ro ad h H.size Q a) (va_A (am_ws dA ad h) H.size))
    (K : ∀ v h', Q v h' → am_Wp p l e R s m args below meth c D dA A ro ad0 n0 nL lim Qm (pc + 3, L, v.toList ++ rest, u.1 + mc, u.2 + ms) h') : W p l e R s m args below meth c H locs u.1 u.2 Qm (F0 m pc ls st0) := by
  have hfree : ∀ q, va_A (am_ws dA ad h) H.size q → A q := by
    intro q hq
    rcases hq with ⟨k, e0, hk⟩ | hq
    · exact hD.2 k _ hk
    · exact hA q (Nat.le_trans hS.1 hq)
  intro T hT X
  obtain ⟨v, st₀, t, T', Lc, h0, X', hL, e1, e2, ⟨⟨v', h', ad', hv, hQ, hP', hD', hok', hle, had', hov⟩, hz, hk⟩, stp⟩ := hr T hT X
  cases hv
  rw [h0] at hz hk
  have K' := K v' h' hQ ad' T'.heap (locs ++ Lc) ls (fun i hi => by rw [had' i (by omega)]; exact had i hi) (by omega) (by rw [e1]; exact hP') (hD'.weaken (fun k q _ z => hfree _ z))
    ⟨Nat.le_trans hS.1 (by rw [e1]; exact hz), fun q h1 h2 => by rw [e1, hk q (Nat.lt_of_lt_of_le h1 hS.1) (fun z => h2 (hfree q z))]; exact hS.2.1 q h1 h2, fun q hq => by
      rcases List.mem_append.mp hq with z | z
      · exact hS.2.2 q z
      · exact hfree _ (hL q z)⟩ hok' (am_lv_mono hl (am_pr_same had' hLo)) (am_okL_mono hle hLo) (by
      intro w hw
      rcases List.mem_append.mp hw with z | z
      · cases v' with
        | none => simp at z
        | some x =>
          simp only [Option.toList, List.mem_singleton] at z
          subst z
          exact hov _ rfl
      · exact am_okv_mono hle (hst w z)) hu1 hu2
  have est : (v'.toList ++ rest).map (am_cv ad') = (v'.map (am_cv ad')).toList ++ rest.map (am_cv ad) := by
    rw [List.map_append, am_map_same had' hst]
    cases v' <;> rfl
  rw [est] at K'
  obtain ⟨t2, a1, b1⟩ := K' T' rfl X'
  exact ⟨t2, stp t2 a1, b1⟩
end
end
section
/-! the program runs: am_call d k: method k, with at most d frames -/
def am_cdOf (k : Nat) : List (Nat × am_E) := (am_ct[k]?).getD []
def am_cm (k : Nat) : am_M := fun pc => (am_cdOf k).lookup pc
def am_ent : List Value → List (Option Value)
  | [] => []
  | v :: vs => some v :: (match v with
    | .long _ => none :: am_ent vs
    | .double _ => none :: am_ent vs
    | _ => am_ent vs)
def am_loc (as : List Value) (n : Nat) : List (Option Value) := am_ent as ++ List.replicate (n - (am_ent as).length) none
def am_prim (d k : Nat) (as : List Value) (h : am_H) (Q : Option Value → am_H → Prop) : Prop := match k, as with
  | 904, [.ref _] => Q none h
  | 900, [.ref a, .int sp, .ref b, .int dp, .int n] => am_ari h a .int (fun n0 f => am_ari h b .int (fun n1 g => ¬ sp < 0 ∧ ¬ dp < 0 ∧ ¬ n < 0 ∧ sp.toNatClampNeg + n.toNatClampNeg ≤ n0 ∧ dp.toNatClampNeg + n.toNatClampNeg ≤ n1 ∧ Q none (am_set h b (.inl (.int, n1, .inl (va_cpy f g sp.toNatClampNeg dp.toNatClampNeg n.toNatClampNeg))))))
  | 901, [.ref i] => i < 16 ∧ 6 ≤ d ∧ Q (some (.int (nI (am_txt i).length))) h
  | 902, [.ref i, .int x] => i < 16 ∧ 6 ≤ d ∧ vp_in x (am_txt i).length ∧ Q (some (.int ((am_txt i).getD x.toNatClampNeg 0))) h
  | 903, [.ref i] => i < 16 ∧ 6 ≤ d ∧ Q (some (.int (if (am_txt i).length = 0 then 1 else 0))) h
  | _, _ => False
def am_call : Nat → am_K
  | 0, _, _, _, _ => False
  | d + 1, k, as, h, Q => if 900 ≤ k then am_prim d k as h Q else match am_mt[k]? with
    | some r => (am_ent as).length ≤ r.2.2.1 ∧ am_wp (am_call d) (am_lim k) (am_cm k) Q (fun _ => False) (0, am_loc as r.2.2.1, [], 0, 0) h
    | none => False
theorem am_prim_mono {d d' k : Nat} (hd : d ≤ d') {as : List Value} {h : am_H} {Q Q' : Option Value → am_H → Prop} (hQ : ∀ v h, Q v h → Q' v h) (H : am_prim d k as h Q) : am_prim d' k as h Q' := by
  unfold am_prim at H ⊢
  split at H
  · exact hQ _ _ H
  · exact am_ari_mono (fun _ _ => am_ari_mono (fun _ _ z => ⟨z.1, z.2.1, z.2.2.1, z.2.2.2.1, z.2.2.2.2.1, hQ _ _ z.2.2.2.2.2⟩)) H
  · exact ⟨H.1, by omega, hQ _ _ H.2.2⟩
  · exact ⟨H.1, by omega, H.2.2.1, hQ _ _ H.2.2.2⟩
  · exact ⟨H.1, by omega, hQ _ _ H.2.2⟩
  · exact H.elim
theorem am_call_mono : ∀ (d d' : Nat), d ≤ d' → am_Kmono (am_call d) (am_call d')
  | 0, _, _ => fun _ _ _ _ _ _ H => H.elim
  | d + 1, 0, h => by omega
  | d + 1, d' + 1, h => by
    intro k as hp Q Q' hQ H
    have ih := am_call_mono d d' (by omega)
    unfold am_call at H ⊢
    split at H
    · rename_i hk
      rw [if_pos hk]
      exact am_prim_mono (by omega) hQ H
    · rename_i hk
      rw [if_neg hk]
      split at H
      · exact ⟨H.1, am_wp_mono ih hQ (fun _ z => z) H.2⟩
      · exact H.elim
theorem am_cK (d : Nat) : am_Kmono (am_call d) (am_call d) := am_call_mono d d (Nat.le_refl d)
/-! what the tables must say of an instruction -/
def am_gt : List Cond := lw_tbl.filter goodWord
def am_inT (w : Cond) : Bool := decide (w ∈ lw_tbl) && goodWord w
theorem am_inT_use {w : Cond} (h : am_inT w = true) : w ∈ am_gt := by
  unfold am_inT at h
  rw [Bool.and_eq_true, decide_eq_true_eq] at h
  exact List.mem_filter.mpr h
def am_tyOf (ci : Nat) : Nat → FieldType := match ci with
  | 0 => tyX1
  | 1 => tyX4
  | 2 => tyX5
  | 3 => tyX6
  | 4 => tyX7
  | 5 => tyX8
  | 6 => tyX9
  | 7 => tyX10
  | _ => tyX11
def am_ftyB (t : Nat) (ty : FieldType) : Bool := match t, ty with
  | 0, .int => true
  | 1, .object _ => true
  | 1, .array _ => true
  | 2, .boolean => true
  | 3, .char => true
  | _, _ => false
theorem am_ftyB_use {t : Nat} {ty : FieldType} (h : am_ftyB t ty = true) : am_fty t ty := by
  unfold am_ftyB at h
  split at h
  · exact rfl
  · exact Or.inl ⟨_, rfl⟩
  · exact Or.inr ⟨_, rfl⟩
  · exact rfl
  · exact rfl
  · cases h
end
section
/-! links, by the number of the class that holds them; the last number is the place of the word in lw_tbl -/
def am_cn (k : Nat) : String := match k with
  | 0 => RX0
  | 1 => RX1
  | 2 => RX2
  | 3 => RX3
  | 4 => RX4
  | 5 => RX5
  | 6 => RX6
  | 7 => RX7
  | 8 => RX8
  | 9 => RX9
  | 10 => RX10
  | 11 => RX11
  | 12 => RJ6
  | _ => RJ9
def am_fls : List (Nat × Nat × Nat × Nat × Nat) := [(7, 9, 4, 0, 126), (10, 126, 4, 0, 127), (1, 54, 4, 0, 128), (7, 15, 4, 1, 129), (10, 129, 4, 1, 130), (1, 57, 4, 1, 131), (7, 18, 4, 2, 132), (10, 76, 4, 2, 133), (7, 27, 4, 3, 134), (1, 45, 4, 3, 135), (10, 232, 4, 3, 136), (7, 31, 4, 4, 137), (10, 406, 4, 4, 138), (5, 11, 2, 0, 160), (5, 17, 2, 1, 161), (5, 20, 2, 2, 162), (5, 25, 2, 3, 163), (5, 33, 2, 4, 164), (10, 410, 2, 4, 165), (8, 9, 5, 0, 184), (8, 15, 5, 1, 185), (10, 95, 5, 2, 186), (8, 19, 5, 2, 187), (10, 99, 5, 3, 188), (8, 22, 5, 3, 189), (9, 9, 6, 0, 206), (10, 413, 6, 0, 207), (9, 15, 6, 1, 208), (10, 329, 6, 1, 209), (4, 15, 1, 0, 223), (4, 18, 1, 1, 224), (4, 26, 1, 2, 225), (1, 15, 0, 0, 242), (1, 21, 0, 1, 243), (1, 24, 0, 2, 244), (10, 409, 0, 2, 245), (6, 9, 3, 0, 259), (6, 15, 3, 1, 260), (6, 18, 3, 2, 261), (6, 22, 3, 3, 262), (6, 26, 3, 4, 263), (6, 29, 3, 5, 264), (6, 32, 3, 6, 265), (6, 35, 3, 7, 266), (6, 38, 3, 8, 267), (10, 10, 7, 0, 287), (10, 16, 7, 1, 288), (10, 22, 7, 2, 289), (10, 29, 7, 3, 290), (10, 36, 7, 4, 291), (10, 43, 7, 5, 292), (10, 52, 7, 6, 293), (10, 56, 7, 7, 294), (10, 59, 7, 8, 295), (10, 63, 7, 9, 296), (10, 69, 7, 10, 297), (10, 73, 7, 11, 298), (10, 390, 7, 12, 299), (11, 3, 8, 0, 1182), (11, 15, 8, 1, 1183), (11, 11, 8, 2, 1184), (11, 28, 8, 3, 1185), (11, 32, 8, 4, 1186), (11, 35, 8, 5, 1187), (11, 115, 8, 6, 1188), (11, 118, 8, 7, 1189), (11, 130, 8, 8, 1190), (11, 121, 8, 9, 1191), (11, 38, 8, 10, 1192), (11, 159, 8, 11, 1193), (11, 41, 8, 12, 1194), (11, 168, 8, 13, 1195), (11, 44, 8, 14, 1196), (11, 47, 8, 15, 1197), (11, 230, 8, 16, 1198), (11, 198, 8, 17, 1199), (11, 50, 8, 18, 1200), (11, 53, 8, 19, 1201), (11, 291, 8, 20, 1202), (11, 56, 8, 21, 1203), (11, 59, 8, 22, 1204), (11, 62, 8, 23, 1205), (11, 65, 8, 24, 1206), (11, 68, 8, 25, 1207), (11, 71, 8, 26, 1208), (11, 357, 8, 27, 1209), (11, 74, 8, 28, 1210), (11, 438, 8, 29, 1211), (11, 441, 8, 30, 1212), (11, 77, 8, 31, 1213), (11, 80, 8, 32, 1214), (11, 472, 8, 33, 1215), (11, 84, 8, 34, 1216), (11, 87, 8, 35, 1217), (11, 488, 8, 36, 1218), (11, 90, 8, 37, 1219), (11, 93, 8, 38, 1220), (11, 96, 8, 39, 1221), (11, 99, 8, 40, 1222), (11, 102, 8, 41, 1223), (11, 513, 8, 42, 1224), (11, 105, 8, 43, 1225), (11, 108, 8, 44, 1226)]
def am_mls : List (Nat × Nat × Nat × Nat) := [(10, 21, 57, 153), (10, 49, 22, 235), (1, 9, 324, 239), (10, 79, 106, 331), (10, 83, 107, 339), (10, 87, 109, 347), (8, 25, 0, 351), (10, 91, 58, 354), (5, 29, 78, 358), (10, 102, 84, 365), (7, 53, 81, 369), (7, 38, 14, 373), (0, 9, 1, 377), (0, 44, 19, 380), (0, 50, 323, 383), (10, 106, 59, 389), (5, 36, 325, 393), (10, 109, 64, 400), (6, 42, 104, 404), (6, 48, 325, 408), (6, 54, 105, 409), (6, 58, 65, 413), (6, 66, 66, 417), (6, 76, 70, 421), (6, 70, 67, 425), (6, 79, 71, 429), (6, 83, 73, 433), (6, 73, 68, 436), (6, 62, 69, 440), (6, 86, 72, 444), (10, 113, 108, 447), (10, 167, 83, 455), (7, 44, 325, 459), (7, 50, 324, 460), (10, 171, 102, 461), (10, 174, 85, 469), (7, 34, 79, 473), (7, 57, 4, 477), (7, 60, 2, 480), (10, 177, 86, 487), (7, 63, 5, 491), (10, 180, 87, 498), (7, 66, 80, 502), (7, 69, 3, 506), (10, 183, 88, 513), (7, 73, 0, 517), (7, 76, 1, 518), (10, 186, 89, 523), (7, 80, 82, 527), (10, 189, 90, 535), (7, 84, 94, 539), (10, 192, 91, 547), (10, 195, 92, 555), (7, 88, 99, 559), (7, 100, 96, 563), (7, 95, 95, 567), (7, 92, 8, 571), (0, 19, 5, 574), (0, 15, 4, 575), (0, 23, 325, 576), (7, 103, 74, 577), (6, 90, 15, 581), (0, 47, 14, 584), (6, 95, 323, 585), (6, 101, 75, 586), (6, 112, 11, 589), (6, 115, 12, 592), (6, 118, 18, 595), (0, 37, 324, 598), (6, 121, 4, 599), (6, 124, 19, 600), (6, 105, 76, 601), (6, 109, 324, 604), (10, 198, 93, 609), (10, 201, 44, 617), (3, 11, 104, 621), (3, 17, 325, 622), (3, 23, 105, 623), (3, 35, 46, 672), (3, 41, 45, 675), (10, 206, 104, 686), (10, 209, 48, 687), (3, 57, 47, 690), (3, 61, 85, 693), (3, 66, 86, 694), (3, 70, 87, 695), (3, 73, 88, 696), (3, 77, 89, 697), (3, 80, 90, 698), (3, 83, 91, 699), (3, 86, 92, 700), (3, 90, 93, 701), (10, 213, 105, 702), (10, 217, 45, 703), (10, 226, 111, 705), (10, 229, 112, 709), (10, 235, 60, 718), (10, 116, 79, 726), (10, 239, 8, 727), (10, 242, 113, 728), (9, 19, 2, 732), (9, 25, 112, 733), (10, 246, 10, 734), (0, 28, 6, 737), (0, 31, 7, 740), (10, 249, 13, 747), (0, 34, 11, 750), (0, 40, 12, 751), (10, 252, 97, 756), (10, 255, 98, 760), (7, 97, 97, 764), (10, 258, 6, 769), (10, 261, 19, 770), (10, 264, 7, 771), (10, 267, 21, 776), (0, 55, 20, 779), (10, 271, 323, 782), (10, 276, 20, 787), (10, 279, 322, 792), (10, 282, 5, 800), (10, 162, 0, 805), (10, 285, 36, 806), (2, 9, 34, 809), (2, 15, 33, 812), (10, 290, 38, 815), (2, 21, 38, 818), (10, 293, 37, 819), (2, 18, 35, 822), (10, 296, 17, 829), (10, 300, 39, 832), (2, 24, 324, 835), (2, 29, 42, 836), (2, 36, 43, 839), (10, 304, 42, 844), (10, 307, 40, 845), (2, 33, 41, 848), (10, 310, 50, 855), (10, 311, 54, 858), (4, 34, 51, 862), (4, 22, 50, 866), (4, 30, 53, 867), (4, 38, 9, 871), (4, 44, 52, 874), (4, 48, 16, 878), (10, 314, 95, 885), (10, 316, 55, 886), (10, 319, 56, 894), (10, 322, 33, 902), (10, 325, 167, 903), (10, 331, 51, 911), (10, 333, 52, 912), (10, 336, 81, 913), (10, 339, 168, 918), (10, 342, 169, 922), (10, 345, 74, 926), (10, 348, 324, 931), (10, 353, 34, 932), (10, 356, 25, 937), (1, 28, 0, 940), (10, 359, 23, 941), (10, 361, 24, 949), (10, 363, 26, 957), (1, 34, 4, 961), (1, 38, 27, 962), (1, 42, 2, 966), (10, 366, 28, 971), (10, 369, 29, 978), (10, 372, 30, 989), (1, 50, 31, 993), (1, 60, 32, 996), (1, 64, 14, 999), (1, 67, 11, 1000), (1, 70, 18, 1001), (10, 375, 31, 1006), (10, 379, 100, 1015), (10, 383, 170, 1023), (10, 416, 171, 1026), (10, 387, 78, 1033), (10, 393, 172, 1034), (10, 419, 173, 1038), (10, 396, 101, 1043), (10, 399, 61, 1051), (10, 403, 62, 1059), (10, 132, 15, 1140), (10, 137, 11, 1141), (10, 140, 12, 1142), (10, 143, 99, 1143), (10, 147, 96, 1144), (10, 152, 80, 1153), (10, 158, 2, 1155), (11, 111, 176, 1327), (11, 233, 216, 1334), (11, 155, 189, 1338), (11, 124, 325, 1342), (11, 217, 215, 1343), (11, 205, 214, 1347), (11, 201, 190, 1351), (11, 133, 178, 1355), (11, 208, 213, 1358), (11, 151, 191, 1362), (11, 212, 193, 1368), (11, 164, 192, 1373), (11, 226, 195, 1382), (11, 236, 217, 1386), (11, 277, 183, 1394), (11, 282, 175, 1399), (11, 268, 198, 1403), (11, 171, 184, 1407), (11, 244, 212, 1410), (11, 192, 205, 1414), (11, 252, 209, 1418), (11, 179, 201, 1422), (11, 175, 199, 1426), (11, 255, 210, 1429), (11, 274, 222, 1433), (11, 271, 221, 1437), (11, 247, 323, 1441), (11, 258, 211, 1442), (11, 195, 324, 1446), (11, 261, 208, 1447), (11, 188, 207, 1451), (11, 185, 206, 1455), (11, 265, 220, 1459), (11, 240, 219, 1463), (11, 287, 185, 1479), (11, 318, 196, 1490), (11, 321, 197, 1495), (11, 324, 228, 1499), (11, 297, 233, 1503), (11, 294, 229, 1506), (11, 327, 235, 1514), (11, 301, 232, 1518), (11, 306, 234, 1522), (11, 330, 230, 1526), (11, 333, 236, 1534), (11, 336, 237, 1542), (11, 339, 238, 1550), (11, 342, 240, 1558), (11, 310, 239, 1562), (11, 345, 242, 1569), (11, 313, 241, 1573), (11, 348, 243, 1580), (11, 351, 244, 1588), (11, 354, 245, 1596), (11, 365, 256, 1605), (11, 362, 194, 1610), (11, 368, 257, 1614), (11, 18, 180, 1618), (11, 371, 204, 1626), (11, 182, 202, 1630), (11, 374, 200, 1634), (11, 380, 262, 1645), (11, 377, 261, 1649), (11, 383, 266, 1665), (11, 387, 269, 1677), (11, 391, 271, 1687), (11, 399, 272, 1690), (11, 7, 179, 1693), (11, 402, 274, 1696), (11, 414, 277, 1703), (11, 408, 275, 1707), (11, 417, 278, 1711), (11, 405, 276, 1715), (11, 425, 280, 1726), (11, 429, 203, 1730), (11, 432, 281, 1734), (11, 444, 283, 1742), (11, 435, 321, 1746), (11, 458, 289, 1758), (11, 451, 288, 1762), (11, 447, 286, 1766), (11, 455, 287, 1770), (11, 463, 291, 1778), (11, 468, 181, 1791), (11, 475, 297, 1807), (11, 479, 177, 1816), (11, 482, 300, 1823), (11, 485, 301, 1826), (11, 494, 305, 1837), (11, 491, 304, 1841), (11, 499, 308, 1854), (11, 502, 223, 1862), (11, 510, 312, 1871), (11, 505, 311, 1874), (11, 517, 314, 1882), (11, 522, 315, 1887), (11, 525, 186, 1891)]
def am_inAt (i : Nat) (c : Cond) : Bool := decide (lw_tbl[i]? = some c) && goodWord c
theorem am_inAt_use {i : Nat} {c : Cond} (h : am_inAt i c = true) : c ∈ am_gt := by
  unfold am_inAt at h
  rw [Bool.and_eq_true, decide_eq_true_eq] at h
  exact List.mem_filter.mpr ⟨List.mem_of_getElem? h.1, h.2⟩
def am_flK (q : Nat × Nat × Nat × Nat × Nat) : Bool := match vwCl[q.2.2.1]? with
  | some (_, T, N) => decide (q.2.2.2.1 < N) && am_inAt q.2.2.2.2 (.fieldLink (am_cn q.1) q.2.1 (T q.2.2.2.1).1 (T q.2.2.2.1).2.1 (T q.2.2.2.1).2.2.1)
  | none => false
def am_mlK (q : Nat × Nat × Nat × Nat) : Bool := match am_mt[q.2.2.1]? with
  | some r => am_inAt q.2.2.2 (.methodLink (am_cn q.1) q.2.1 r.1)
  | none => false
theorem am_fls_ok : am_fls.all am_flK = true := by decide +kernel
theorem am_mls_ok1 : (am_mls.take 150).all am_mlK = true := by decide +kernel
theorem am_mls_ok2 : ((am_mls.drop 150).take 150).all am_mlK = true := by decide +kernel
theorem am_mls_ok3 : (am_mls.drop 300).all am_mlK = true := by decide +kernel
theorem am_mls_ok : am_mls.all am_mlK = true := by
  rw [← List.take_append_drop 150 am_mls, List.all_append, am_mls_ok1, Bool.true_and, ← List.take_append_drop 150 (am_mls.drop 150), List.all_append, am_mls_ok2, Bool.true_and, List.drop_drop]
  exact am_mls_ok3
def am_fl (ow ix ci k : Nat) : Bool := am_fls.any (fun q => q.1 == ow && (q.2.1 == ix && (q.2.2.1 == ci && q.2.2.2.1 == k)))
def am_ml (ow ix mno : Nat) : Bool := am_mls.any (fun q => q.1 == ow && (q.2.1 == ix && q.2.2.1 == mno))
theorem am_fl_use {ow ix ci k : Nat} (h : am_fl ow ix ci k = true) : ∃ C T N, vwCl[ci]? = some (C, T, N) ∧ k < N ∧ Cond.fieldLink (am_cn ow) ix (T k).1 (T k).2.1 (T k).2.2.1 ∈ am_gt := by
  unfold am_fl at h
  obtain ⟨⟨o, x, c, j, z⟩, hm, hq⟩ := List.any_eq_true.mp h
  simp only [Bool.and_eq_true, beq_iff_eq] at hq
  obtain ⟨rfl, rfl, rfl, rfl⟩ := hq
  have h2 := List.all_eq_true.mp am_fls_ok _ hm
  unfold am_flK at h2
  dsimp only at h2
  split at h2
  · rename_i C T N e
    rw [Bool.and_eq_true, decide_eq_true_eq] at h2
    exact ⟨C, T, N, e, h2.1, am_inAt_use h2.2⟩
  · cases h2
theorem am_ml_use {ow ix mno : Nat} (h : am_ml ow ix mno = true) : ∃ r, am_mt[mno]? = some r ∧ Cond.methodLink (am_cn ow) ix r.1 ∈ am_gt := by
  unfold am_ml at h
  obtain ⟨⟨o, x, c, z⟩, hm, hq⟩ := List.any_eq_true.mp h
  simp only [Bool.and_eq_true, beq_iff_eq] at hq
  obtain ⟨rfl, rfl, rfl⟩ := hq
  have h2 := List.all_eq_true.mp am_mls_ok _ hm
  unfold am_mlK at h2
  dsimp only at h2
  split at h2
  · rename_i r e
    exact ⟨r, e, am_inAt_use h2⟩
  · cases h2
end
section
def am_okE (ow : Nat) (own : String) (nL : Nat) (ini : Bool) (rt : Option FieldType) (pc : Nat) (en : am_E) : Bool := match en with
  | (i, len, a, b, t, c, d) => match i with
    | .iconst n => len == 1 && decide (Int32.ofInt n = c)
    | .bipush n => len == 2 && decide ((Int8.ofInt n).toInt32 = c)
    | .sipush n => len == 3 && decide ((Int16.ofInt n).toInt32 = c)
    | .lconst n => len == 1 && decide (Int64.ofNat (n : Nat) = d)
    | .ldc idx => len == 2 && ((b == 0 && am_inT (.constant own idx c)) || (b == 1 && am_strs.any (fun q => q.1 == own && q.2.1 == idx && q.2.2.2 == a)))
    | .ldc_w idx => len == 3 && ((b == 0 && am_inT (.constant own idx c)) || (b == 1 && am_strs.any (fun q => q.1 == own && q.2.1 == idx && q.2.2.2 == a)))
    | .ldc2_w idx => len == 3 && am_inT (.constantLong own idx d)
    | .iload_n _ => len == 1
    | .iload _ => len == 2
    | .lload_n _ => len == 1
    | .lload _ => len == 2
    | .aload_n _ => len == 1
    | .aload _ => len == 2
    | .istore_n k => len == 1 && decide ((k : Nat) < nL)
    | .istore k => len == 2 && decide (k < nL)
    | .lstore_n k => len == 1 && decide ((k : Nat) + 1 < nL)
    | .lstore k => len == 2 && decide (k + 1 < nL)
    | .astore_n k => len == 1 && decide ((k : Nat) < nL)
    | .astore k => len == 2 && decide (k < nL)
    | .iinc k n => len == 3 && decide (k < nL) && decide (Int32.ofInt n = c)
    | .ifCond _ off => len == 3 && decide ((pc : Int) + off = (a : Int))
    | .if_icmp _ off => len == 3 && decide ((pc : Int) + off = (a : Int))
    | .goto off => len == 3 && decide ((pc : Int) + off = (a : Int))
    | .tableswitch df lo hi offs => decide (0 ≤ (pc : Int) + df) && offs.toList.all (fun o => decide (0 ≤ (pc : Int) + o)) && decide ((offs.size : Int) = hi - lo + 1)
    | .lookupswitch df ps => decide (0 ≤ (pc : Int) + df) && ps.toList.all (fun o => decide (0 ≤ (pc : Int) + o.2)) && (ps.toList.zip (ps.toList.drop 1)).all (fun (a, next) => a.1 < next.1)
    | .getfield idx => len == 3 && am_fl ow idx a b
    | .putfield idx => len == 3 && am_fl ow idx a b && am_ftyB t (am_tyOf a b) && (match vwCl[a]? with
      | some (_, T, _) => (T b).2.2.2 == false || (ini && (T b).1 == own)
      | none => false)
    | .getstatic idx => len == 3 && ((a == 32 && am_inT (.fieldLink own idx RX4 "STARTS" "[I")) || (a == 33 && am_inT (.fieldLink own idx RX2 "FACTORIALS" "[I")))
    | .newarray at_ => len == 2 && am_inT (.arrayClass (newarray.typeOf at_)) && (newarray.typeOf at_ == .int || newarray.typeOf at_ == .char || newarray.typeOf at_ == .boolean || newarray.typeOf at_ == .long)
    | .anewarray idx => len == 3 && am_inT (.classLink own idx RX7)
    | .new idx => b == 1 || len == 3 && b == 0 && (match vwCl[a]? with
      | some (C, _, N) => am_inT (.classLink own idx C) && am_inT (.instantiable C N) && am_inT (.initialized C)
      | none => false)
    | .invokestatic idx => len == 3 && t == 0 && (if 900 ≤ a then (a == 900 && b == 5 && am_inT (.methodLink own idx arraycopyName)) else match am_mt[a]? with
      | some (_, _, _, _, kd, np) => kd == 0 && b == np && am_ml ow idx a
      | none => false)
    | .invokevirtual idx => len == 3 && (if 900 ≤ a then t == 0 && ((a == 901 && b == 1 && am_inT (.methodLink own idx yJ0_length_8abf5)) || (a == 902 && b == 2 && am_inT (.methodLink own idx yJ0_charAt_5068e)) || (a == 903 && b == 1 && am_inT (.methodLink own idx yJ0_isEmpty_aae02))) else match am_mt[a]?, vwCl[t - 1]? with
      | some (y, _, _, _, kd, np), some (C, _, _) => kd == 1 && b == np + 1 && t != 0 && C == y.cls && am_ml ow idx a
      | _, _ => false)
    | .invokespecial idx => len == 3 && (if 900 ≤ a then (t == 0 && a == 904 && b == 1 && am_inT (.methodLink own idx Lib.objectInit)) else match am_mt[a]? with
      | some (y, _, _, _, kd, np) => kd == 2 && b == np + 1 && t != 0 && (am_ml ow idx a || am_nst.any (fun q => decide (q.1 = own) && (q.2.1 == idx && decide (q.2.2 = y))))
      | none => false)
    | .ireturn => len == 1 && ((t == 0 && rt == some .int) || (t == 2 && rt == some .boolean) || (t == 3 && rt == some .char))
    | .lreturn => len == 1 && rt == some .long
    | .areturn => len == 1 && rt == some (.object "java/lang/String")
    | .return_ => len == 1 && rt == none
    | _ => len == 1
/-- a method's row, its code, and places of words: code, static or of an object, selects, initialized -/
def am_okM (r : am_R) (cd : List (Nat × am_E)) (ow : Nat) (w0 w1 w2 w3 : Nat) : Bool := match r with
  | (y, bytes, ml, rt, kd, np) => decide (am_cn ow = y.cls) && am_inAt w0 (.code y bytes ml rt) && am_inAt w3 (.initialized y.cls) && (if kd = 0 then am_inAt w1 (.static y) else am_inAt w1 (.instanceMethod y)) && (if kd = 1 then am_inAt w2 (.selects y.cls y y) else true) && (if kd = 2 then decide (y.name = "<init>") && decide (rt = none) else true)
    && decide (y.cls ≠ "java/lang/invoke/MethodHandle") && decide (y.cls ≠ "java/lang/invoke/VarHandle") && decide ((parseMethodDescriptor y.desc).map (fun d => d.parameters.length) = some np) && plainFor y && decide (ml ≤ 20)
    && cd.all (fun q => decide (decode bytes q.1 = .ok (q.2.1, q.2.2.1)) && am_okE ow y.cls ml (decide (y.name = "<init>")) rt q.1 q.2)
end
section
theorem am_lookup_mem {cd : List (Nat × am_E)} {pc : Nat} {en : am_E} (h : cd.lookup pc = some en) : (pc, en) ∈ cd := by
  induction cd with
  | nil => cases h
  | cons q r ih =>
    obtain ⟨k, x⟩ := q
    rw [List.lookup_cons] at h
    split at h
    · rename_i hk
      cases h
      rw [beq_iff_eq.mp hk]
      exact List.mem_cons_self
    · exact List.mem_cons_of_mem _ (ih h)
/-- the class tables of the worlds, among the words that stay -/
theorem am_gin (k : Nat) (hk : k < 9) : ∀ C T N, vwCl[k]? = some (C, T, N) → ∀ w ∈ u_ws C T N, w ∈ am_gt := by
  have go : ∀ {C : String} {T : u_T} {N : Nat}, (∀ w ∈ u_ws C T N, w ∈ lw_tbl) → (u_ws C T N).all goodWord = true → ∀ w ∈ u_ws C T N, w ∈ am_gt := fun h1 h2 w hw => List.mem_filter.mpr ⟨h1 w hw, List.all_eq_true.mp h2 w hw⟩
  intro C T N e
  match k, hk, e with
  | 0, _, e => cases e; exact go inX1 (by decide +kernel)
  | 1, _, e => cases e; exact go inX4 (by decide +kernel)
  | 2, _, e => cases e; exact go inX5 (by decide +kernel)
  | 3, _, e => cases e; exact go inX6 (by decide +kernel)
  | 4, _, e => cases e; exact go inX7 (by decide +kernel)
  | 5, _, e => cases e; exact go inX8 (by decide +kernel)
  | 6, _, e => cases e; exact go inX9 (by decide +kernel)
  | 7, _, e => cases e; exact go inX10 (by decide +kernel)
  | 8, _, e => cases e; exact go inX11 (by decide +kernel)
theorem am_ci9 {k : Nat} {q : vw_C} (h : vwCl[k]? = some q) : k < 9 := (List.getElem?_eq_some_iff.mp h).1
theorem am_tyok (k : Nat) : ∀ C T N, vwCl[k]? = some (C, T, N) → (∀ j, j < N → parseFieldDescriptor (T j).2.2.1 = some (am_tyOf k j)) ∧ (∀ a, a < N → ∀ b, b < N → a ≠ b → (T a).2.1 ≠ (T b).2.1) := by
  intro C T N e
  have hk := am_ci9 e
  match k, hk, e with
  | 0, _, e => cases e; exact ⟨tyX1_ok, nmX1⟩
  | 1, _, e => cases e; exact ⟨tyX4_ok, nmX4⟩
  | 2, _, e => cases e; exact ⟨tyX5_ok, nmX5⟩
  | 3, _, e => cases e; exact ⟨tyX6_ok, nmX6⟩
  | 4, _, e => cases e; exact ⟨tyX7_ok, nmX7⟩
  | 5, _, e => cases e; exact ⟨tyX8_ok, nmX8⟩
  | 6, _, e => cases e; exact ⟨tyX9_ok, nmX9⟩
  | 7, _, e => cases e; exact ⟨tyX10_ok, nmX10⟩
  | 8, _, e => cases e; exact ⟨tyX11_ok, nmX11⟩
theorem am_newok (k : Nat) : ∀ C T N, vwCl[k]? = some (C, T, N) → (am_newf k).length = N ∧ (∀ j, j < N → defaultValue (am_tyOf k j) = vp_V (am_newf k) j) ∧ ∀ v ∈ am_newf k, v = .null ∨ v = .int 0 := by
  intro C T N e
  have hk := am_ci9 e
  match k, hk, e with
  | 0, _, e => cases e; exact ⟨rfl, by decide, by decide⟩
  | 1, _, e => cases e; exact ⟨rfl, by decide, by decide⟩
  | 2, _, e => cases e; exact ⟨rfl, by decide, by decide⟩
  | 3, _, e => cases e; exact ⟨rfl, by decide, by decide⟩
  | 4, _, e => cases e; exact ⟨rfl, by decide, by decide⟩
  | 5, _, e => cases e; exact ⟨rfl, by decide, by decide⟩
  | 6, _, e => cases e; exact ⟨rfl, by decide, by decide⟩
  | 7, _, e => cases e; exact ⟨rfl, by decide, by decide⟩
  | 8, _, e => cases e; exact ⟨rfl, by decide, by decide⟩
theorem am_lsw_ok (ps : List (Int × Int)) (df x pc : Int) (h1 : 0 ≤ pc + df) (h2 : ∀ o ∈ ps, 0 ≤ pc + o.2) : 0 ≤ pc + Op.lookupswitch.offset ps df x := by
  induction ps with
  | nil => exact h1
  | cons q r ih =>
    obtain ⟨a, o⟩ := q
    show 0 ≤ pc + if a = x then o else Op.lookupswitch.offset r df x
    split
    · exact h2 (a, o) List.mem_cons_self
    · exact ih (fun z hz => h2 z (List.mem_cons_of_mem _ hz))
section
variable {p : Program} {l : Launch} {e : Env} {R : Room} {s : State} {m : MethodId} {args : Array Value} {below : List Frame} {meth : Method} {c : Code}
variable {D : va_G} {dA : Nat → ClassId} {A : Nat → Prop} {ro : Nat → am_C} {ad0 : Nat → Nat} {n0 nL : Nat} {lim : Nat × Nat} {Qm : State → Prop}
variable {cc : ByteArray} {pc : Nat} {L : List (Option Value)} {st : List Value} {u : Nat × Nat} {h : am_H}
set_option maxHeartbeats 4000000 in
/-- every instruction but calls and returns -/
theorem am_sound_ins {call : am_K} {own : String} {ow : Nat} {ini : Bool} {rt : Option FieldType} {Q : Option Value → am_H → Prop} {X : am_H → Prop} (hx : p.tables.exec = Jvm.exec) (hb : c.code = cc) (hown : s.vm.findClass own = some m.cls) (how : am_cn ow = own) (hts : ∀ w ∈ am_gt, w.before args s = true) (hK : va_K D vwCl (am_tys dA) s) (hr : am_roS ro) (hA : ∀ q, s.heap.size ≤ q → A q) (hro : am_RO ro ad0 A s s.heap) (hn0 : 40 ≤ n0) (hR : lim.1 ≤ R.cells ∧ lim.2 ≤ R.slots) (hini : ini = true → meth.name = "<init>")
    (hinv : ∀ i len a b t cv dv, (i = .invokestatic cv ∨ i = .invokevirtual cv ∨ i = .invokespecial cv) → decode cc pc = .ok (i, len) → am_okE ow own nL ini rt pc (i, len, a, b, t, dv) = true → am_inv call a b t (am_Wp p l e R s m args below meth c D dA A ro ad0 n0 nL lim Qm) lim pc L st u h → am_Wp p l e R s m args below meth c D dA A ro ad0 n0 nL lim Qm (pc, L, st, u) h)
    (hret : ∀ i len a b t cv, (i = .ireturn ∨ i = .lreturn ∨ i = .areturn ∨ i = .return_) → decode cc pc = .ok (i, len) → am_okE ow own nL ini rt pc (i, len, a, b, t, cv) = true → am_ins call lim (i, len, a, b, t, cv) Q X (am_Wp p l e R s m args below meth c D dA A ro ad0 n0 nL lim Qm) pc L st u h → am_Wp p l e R s m args below meth c D dA A ro ad0 n0 nL lim Qm (pc, L, st, u) h)
    {en : am_E} (hthr : ∀ idx len a t cv, en = (.new idx, len, a, 1, t, cv) → X h → am_Wp p l e R s m args below meth c D dA A ro ad0 n0 nL lim Qm (pc, L, st, u) h) (hdec : decode cc pc = .ok (en.1, en.2.1)) (hok : am_okE ow own nL ini rt pc en = true) (H0 : am_ins call lim en Q X (am_Wp p l e R s m args below meth c D dA A ro ad0 n0 nL lim Qm) pc L st u h) : am_Wp p l e R s m args below meth c D dA A ro ad0 n0 nL lim Qm (pc, L, st, u) h := by
  subst how
  obtain ⟨i, len, a, b, t, cst, dd⟩ := en
  cases i <;> try exact False.elim H0
  case iconst n =>
    simp only [am_okE, Bool.and_eq_true, beq_iff_eq, decide_eq_true_eq] at hok
    obtain ⟨rfl, hv⟩ := hok
    exact ams_iconst hx hb hdec hv H0
  case bipush n =>
    simp only [am_okE, Bool.and_eq_true, beq_iff_eq, decide_eq_true_eq] at hok
    obtain ⟨rfl, hv⟩ := hok
    exact ams_bipush hx hb hdec hv H0
  case sipush n =>
    simp only [am_okE, Bool.and_eq_true, beq_iff_eq, decide_eq_true_eq] at hok
    obtain ⟨rfl, hv⟩ := hok
    exact ams_sipush hx hb hdec hv H0
  case lconst n =>
    simp only [am_okE, Bool.and_eq_true, beq_iff_eq, decide_eq_true_eq] at hok
    obtain ⟨rfl, hv⟩ := hok
    exact ams_lconst hx hb hdec hv H0
  case ldc idx =>
    simp only [am_okE, Bool.and_eq_true, Bool.or_eq_true, beq_iff_eq, decide_eq_true_eq] at hok
    obtain ⟨rfl, ⟨rfl, hv⟩ | ⟨rfl, hv⟩⟩ := hok
    · exact ams_ldc hx hb hown (hts _ (am_inT_use hv)) hdec H0
    · obtain ⟨⟨o, x, tx, k⟩, hm, hq⟩ := List.any_eq_true.mp hv
      simp only [Bool.and_eq_true, beq_iff_eq] at hq
      obtain ⟨⟨rfl, rfl⟩, rfl⟩ := hq
      exact ams_ldcS hx hb hown hn0 (by have := am_strs_lt _ hm; omega) (hro.2.2.2.1 _ hm) hdec H0
  case ldc_w idx =>
    simp only [am_okE, Bool.and_eq_true, Bool.or_eq_true, beq_iff_eq, decide_eq_true_eq] at hok
    obtain ⟨rfl, ⟨rfl, hv⟩ | ⟨rfl, hv⟩⟩ := hok
    · exact ams_ldc_w hx hb hown (hts _ (am_inT_use hv)) hdec H0
    · obtain ⟨⟨o, x, tx, k⟩, hm, hq⟩ := List.any_eq_true.mp hv
      simp only [Bool.and_eq_true, beq_iff_eq] at hq
      obtain ⟨⟨rfl, rfl⟩, rfl⟩ := hq
      exact ams_ldcSW hx hb hown hn0 (by have := am_strs_lt _ hm; omega) (hro.2.2.2.1 _ hm) hdec H0
  case ldc2_w idx =>
    simp only [am_okE, Bool.and_eq_true, beq_iff_eq, decide_eq_true_eq] at hok
    obtain ⟨rfl, hv⟩ := hok
    exact ams_ldc2_w hx hb hown (hts _ (am_inT_use hv)) hdec H0
  case iload_n n =>
    simp only [am_okE, beq_iff_eq] at hok
    subst hok
    exact ams_iload_n hx hb hdec H0
  case iload n =>
    simp only [am_okE, beq_iff_eq] at hok
    subst hok
    exact ams_iload hx hb hdec H0
  case lload_n n =>
    simp only [am_okE, beq_iff_eq] at hok
    subst hok
    exact ams_lload_n hx hb hdec H0
  case lload n =>
    simp only [am_okE, beq_iff_eq] at hok
    subst hok
    exact ams_lload hx hb hdec H0
  case aload_n n =>
    simp only [am_okE, beq_iff_eq] at hok
    subst hok
    exact ams_aload_n hx hb hdec H0
  case aload n =>
    simp only [am_okE, beq_iff_eq] at hok
    subst hok
    exact ams_aload hx hb hdec H0
  case istore_n n =>
    simp only [am_okE, Bool.and_eq_true, beq_iff_eq, decide_eq_true_eq] at hok
    obtain ⟨rfl, hv⟩ := hok
    exact ams_istore_n hx hb hdec hv H0
  case istore n =>
    simp only [am_okE, Bool.and_eq_true, beq_iff_eq, decide_eq_true_eq] at hok
    obtain ⟨rfl, hv⟩ := hok
    exact ams_istore hx hb hdec hv H0
  case lstore_n n =>
    simp only [am_okE, Bool.and_eq_true, beq_iff_eq, decide_eq_true_eq] at hok
    obtain ⟨rfl, hv⟩ := hok
    exact ams_lstore_n hx hb hdec hv H0
  case lstore n =>
    simp only [am_okE, Bool.and_eq_true, beq_iff_eq, decide_eq_true_eq] at hok
    obtain ⟨rfl, hv⟩ := hok
    exact ams_lstore hx hb hdec hv H0
  case astore_n n =>
    simp only [am_okE, Bool.and_eq_true, beq_iff_eq, decide_eq_true_eq] at hok
    obtain ⟨rfl, hv⟩ := hok
    exact ams_astore_n hx hb hdec hv H0
  case astore n =>
    simp only [am_okE, Bool.and_eq_true, beq_iff_eq, decide_eq_true_eq] at hok
    obtain ⟨rfl, hv⟩ := hok
    exact ams_astore hx hb hdec hv H0
  case iinc k n =>
    simp only [am_okE, Bool.and_eq_true, beq_iff_eq, decide_eq_true_eq] at hok
    obtain ⟨⟨rfl, hk⟩, hv⟩ := hok
    exact ams_iinc hx hb hdec hk hv H0
  case iadd =>
    simp only [am_okE, beq_iff_eq] at hok
    subst hok
    exact ams_iadd hx hb hdec H0
  case isub =>
    simp only [am_okE, beq_iff_eq] at hok
    subst hok
    exact ams_isub hx hb hdec H0
  case imul =>
    simp only [am_okE, beq_iff_eq] at hok
    subst hok
    exact ams_imul hx hb hdec H0
  case iand =>
    simp only [am_okE, beq_iff_eq] at hok
    subst hok
    exact ams_iand hx hb hdec H0
  case ior =>
    simp only [am_okE, beq_iff_eq] at hok
    subst hok
    exact ams_ior hx hb hdec H0
  case ixor =>
    simp only [am_okE, beq_iff_eq] at hok
    subst hok
    exact ams_ixor hx hb hdec H0
  case idiv =>
    simp only [am_okE, beq_iff_eq] at hok
    subst hok
    exact ams_idiv hx hb hdec H0
  case irem =>
    simp only [am_okE, beq_iff_eq] at hok
    subst hok
    exact ams_irem hx hb hdec H0
  case ineg =>
    simp only [am_okE, beq_iff_eq] at hok
    subst hok
    exact ams_ineg hx hb hdec H0
  case ishl =>
    simp only [am_okE, beq_iff_eq] at hok
    subst hok
    exact ams_ishl hx hb hdec H0
  case ishr =>
    simp only [am_okE, beq_iff_eq] at hok
    subst hok
    exact ams_ishr hx hb hdec H0
  case iushr =>
    simp only [am_okE, beq_iff_eq] at hok
    subst hok
    exact ams_iushr hx hb hdec H0
  case ladd =>
    simp only [am_okE, beq_iff_eq] at hok
    subst hok
    exact ams_ladd hx hb hdec H0
  case lsub =>
    simp only [am_okE, beq_iff_eq] at hok
    subst hok
    exact ams_lsub hx hb hdec H0
  case lmul =>
    simp only [am_okE, beq_iff_eq] at hok
    subst hok
    exact ams_lmul hx hb hdec H0
  case ldiv =>
    simp only [am_okE, beq_iff_eq] at hok
    subst hok
    exact ams_ldiv hx hb hdec H0
  case lrem =>
    simp only [am_okE, beq_iff_eq] at hok
    subst hok
    exact ams_lrem hx hb hdec H0
  case lcmp =>
    simp only [am_okE, beq_iff_eq] at hok
    subst hok
    exact ams_lcmp hx hb hdec H0
  case i2l =>
    simp only [am_okE, beq_iff_eq] at hok
    subst hok
    exact ams_i2l hx hb hdec H0
  case l2i =>
    simp only [am_okE, beq_iff_eq] at hok
    subst hok
    exact ams_l2i hx hb hdec H0
  case i2b =>
    simp only [am_okE, beq_iff_eq] at hok
    subst hok
    exact ams_i2b hx hb hdec H0
  case i2s =>
    simp only [am_okE, beq_iff_eq] at hok
    subst hok
    exact ams_i2s hx hb hdec H0
  case i2c =>
    simp only [am_okE, beq_iff_eq] at hok
    subst hok
    exact ams_i2c hx hb hdec H0
  case dup =>
    simp only [am_okE, beq_iff_eq] at hok
    subst hok
    cases st with
    | nil => exact False.elim H0
    | cons v r =>
      have H1 : (if v.category = 1 then am_Wp p l e R s m args below meth c D dA A ro ad0 n0 nL lim Qm (pc + 1, L, v :: v :: r, u) h else False) := H0
      split at H1
      · exact ams_dup hx hb hdec (by assumption) H1
      · exact H1.elim
  case dup2 =>
    simp only [am_okE, beq_iff_eq] at hok
    subst hok
    match st, H0 with
    | v :: w :: r, H0 =>
      have H1 : (if v.category = 1 ∧ w.category = 1 then am_Wp p l e R s m args below meth c D dA A ro ad0 n0 nL lim Qm (pc + 1, L, v :: w :: v :: w :: r, u) h else False) := H0
      split at H1
      · rename_i hz; exact ams_dup2 hx hb hdec hz.1 hz.2 H1
      · exact H1.elim
  case pop =>
    simp only [am_okE, beq_iff_eq] at hok
    subst hok
    cases st with
    | nil => exact False.elim H0
    | cons v r =>
      have H1 : (if v.category = 1 then am_Wp p l e R s m args below meth c D dA A ro ad0 n0 nL lim Qm (pc + 1, L, r, u) h else False) := H0
      split at H1
      · exact ams_pop hx hb hdec (by assumption) H1
      · exact H1.elim
  case ifCond cd off =>
    simp only [am_okE, Bool.and_eq_true, beq_iff_eq, decide_eq_true_eq] at hok
    obtain ⟨rfl, hv⟩ := hok
    cases cd
    case eq => exact ams_if_eq hx hb hdec hv H0
    case ne => exact ams_if_ne hx hb hdec hv H0
    case lt => exact ams_if_lt hx hb hdec hv H0
    case ge => exact ams_if_ge hx hb hdec hv H0
    case gt => exact ams_if_gt hx hb hdec hv H0
    case le => exact ams_if_le hx hb hdec hv H0
  case if_icmp cd off =>
    simp only [am_okE, Bool.and_eq_true, beq_iff_eq, decide_eq_true_eq] at hok
    obtain ⟨rfl, hv⟩ := hok
    cases cd
    case eq => exact ams_icmp_eq hx hb hdec hv H0
    case ne => exact ams_icmp_ne hx hb hdec hv H0
    case lt => exact ams_icmp_lt hx hb hdec hv H0
    case ge => exact ams_icmp_ge hx hb hdec hv H0
    case gt => exact ams_icmp_gt hx hb hdec hv H0
    case le => exact ams_icmp_le hx hb hdec hv H0
  case goto off =>
    simp only [am_okE, Bool.and_eq_true, beq_iff_eq, decide_eq_true_eq] at hok
    obtain ⟨rfl, hv⟩ := hok
    exact ams_goto hx hb hdec hv H0
  case tableswitch df lo hi offs =>
    simp only [am_okE, Bool.and_eq_true, decide_eq_true_eq, List.all_eq_true] at hok
    exact ams_table hx hb hdec hok.1.1 (fun o ho => hok.1.2 o ho) hok.2 H0
  case lookupswitch df ps =>
    simp only [am_okE, Bool.and_eq_true, decide_eq_true_eq] at hok
    refine ams_lookup hx hb hdec hok.2 (fun x => ?_) H0
    have h1 := hok.1.1
    have h2 : ∀ o ∈ ps.toList, 0 ≤ (pc : Int) + o.2 := fun o ho => of_decide_eq_true (List.all_eq_true.mp hok.1.2 o ho)
    exact am_lsw_ok ps.toList df x.toInt (pc : Int) h1 h2
  case getfield idx =>
    simp only [am_okE, Bool.and_eq_true, beq_iff_eq] at hok
    obtain ⟨rfl, hv⟩ := hok
    obtain ⟨C, T, N, e1, e2, e3⟩ := am_fl_use hv
    exact ams_getfield hx hb hts (am_gin a (am_ci9 e1) C T N e1) hown hK hr (am_ci9 e1) e1 e2 (hts _ e3) hdec H0
  case putfield idx =>
    simp only [am_okE, Bool.and_eq_true, beq_iff_eq] at hok
    obtain ⟨⟨⟨rfl, hv⟩, hft⟩, hfin⟩ := hok
    obtain ⟨C, T, N, e1, e2, e3⟩ := am_fl_use hv
    rw [e1] at hfin
    simp only [Bool.or_eq_true, Bool.and_eq_true, beq_iff_eq] at hfin
    match st, H0 with
    | v :: .ref q :: r, H0 =>
      exact ams_putfield hx hb hts (am_gin a (am_ci9 e1) C T N e1) (am_tyOf a) (am_tyok a C T N e1).1 (am_tyok a C T N e1).2 hown hK hr (am_ci9 e1) e1 e2 (hts _ e3) (hfin.imp id (fun z => ⟨hini z.1, z.2⟩)) (am_ftyB_use hft) hdec rfl H0
  case getstatic idx =>
    simp only [am_okE, Bool.and_eq_true, Bool.or_eq_true, beq_iff_eq] at hok
    obtain ⟨rfl, ⟨rfl, hv⟩ | ⟨rfl, hv⟩⟩ := hok
    · exact ams_getstatic hx hb hro hn0 hro.2.1 (by omega) hown (hts _ (am_inT_use hv)) hdec H0
    · exact ams_getstatic hx hb hro hn0 hro.2.2.1 (by omega) hown (hts _ (am_inT_use hv)) hdec H0
  case iaload =>
    simp only [am_okE, beq_iff_eq] at hok
    subst hok
    exact ams_iaload hx hb hK hr hro hn0 hdec H0
  case arraylength =>
    simp only [am_okE, beq_iff_eq] at hok
    subst hok
    exact ams_arraylength hx hb hK hr hro hn0 hdec H0
  case baload =>
    simp only [am_okE, beq_iff_eq] at hok
    subst hok
    exact ams_baload hx hb hK hr hdec H0
  case caload =>
    simp only [am_okE, beq_iff_eq] at hok
    subst hok
    exact ams_caload hx hb hK hr hdec H0
  case laload =>
    simp only [am_okE, beq_iff_eq] at hok
    subst hok
    exact ams_laload hx hb hK hr hdec H0
  case aaload =>
    simp only [am_okE, beq_iff_eq] at hok
    subst hok
    exact ams_aaload hx hb hK hr hdec H0
  case iastore =>
    simp only [am_okE, beq_iff_eq] at hok
    subst hok
    exact ams_iastore hx hb hK hr hdec H0
  case bastore =>
    simp only [am_okE, beq_iff_eq] at hok
    subst hok
    exact ams_bastore hx hb hK hr hdec H0
  case castore =>
    simp only [am_okE, beq_iff_eq] at hok
    subst hok
    exact ams_castore hx hb hK hr hdec H0
  case lastore =>
    simp only [am_okE, beq_iff_eq] at hok
    subst hok
    exact ams_lastore hx hb hK hr hdec H0
  case aastore =>
    simp only [am_okE, beq_iff_eq] at hok
    subst hok
    exact ams_aastore hx hb hK hr hdec H0
  case newarray at_ =>
    simp only [am_okE, Bool.and_eq_true, Bool.or_eq_true, beq_iff_eq] at hok
    obtain ⟨⟨rfl, hv⟩, hp⟩ := hok
    have hp' : newarray.typeOf at_ = .int ∨ newarray.typeOf at_ = .char ∨ newarray.typeOf at_ = .boolean ∨ newarray.typeOf at_ = .long := by
      rcases hp with ((z | z) | z) | z
      · exact Or.inl z
      · exact Or.inr (Or.inl z)
      · exact Or.inr (Or.inr (Or.inl z))
      · exact Or.inr (Or.inr (Or.inr z))
    exact ams_newarray (t0 := 0) hx hb rfl hp' (hts _ (am_inT_use hv)) hK hA hR hdec H0
  case anewarray idx =>
    simp only [am_okE, Bool.and_eq_true, beq_iff_eq] at hok
    obtain ⟨rfl, hv⟩ := hok
    exact ams_anewarray hx hb hown (hts _ (am_inT_use hv)) (va_AO.use hro.2.2.2.2.2.2.2.2.2.2) hK hA hR hdec H0
  case new idx =>
    simp only [am_okE, Bool.and_eq_true, Bool.or_eq_true, beq_iff_eq] at hok
    rcases hok with rfl | ⟨⟨rfl, rfl⟩, hv⟩
    · exact hthr _ _ _ _ _ rfl H0
    · split at hv
      · rename_i C T N e1
        simp only [Bool.and_eq_true] at hv
        have e2 := am_newok a C T N e1
        exact ams_new hx hb hts (am_gin a (am_ci9 e1) C T N e1) (am_tyOf a) (am_tyok a C T N e1).1 hown (hts _ (am_inT_use hv.1.1)) (hts _ (am_inT_use hv.1.2)) (hts _ (am_inT_use hv.2)) hK hA e1 e2.1 e2.2.1 e2.2.2 hR hdec H0
      · cases hv
  case invokestatic idx => exact hinv _ _ _ _ _ _ _ (Or.inl rfl) hdec hok H0
  case invokevirtual idx => exact hinv _ _ _ _ _ _ _ (Or.inr (Or.inl rfl)) hdec hok H0
  case invokespecial idx => exact hinv _ _ _ _ _ _ _ (Or.inr (Or.inr rfl)) hdec hok H0
  case ireturn => exact hret _ _ _ _ _ _ (Or.inl rfl) hdec hok H0
  case lreturn => exact hret _ _ _ _ _ _ (Or.inr (Or.inl rfl)) hdec hok H0
  case areturn => exact hret _ _ _ _ _ _ (Or.inr (Or.inr (Or.inl rfl))) hdec hok H0
  case return_ => exact hret _ _ _ _ _ _ (Or.inr (Or.inr (Or.inr rfl))) hdec hok H0
end
end
section
def am_w (r : am_R) : List Cond := .code r.1 r.2.1 r.2.2.1 r.2.2.2.1 :: am_gt
def am_rm (d k : Nat) : Room := { frames := d, cells := (am_lim k).1, slots := (am_lim k).2, locals := 40 * d }
def am_MetOk (l : Launch) (d k : Nat) (as : List Value) (h : am_H) (Q : Option Value → am_H → Prop) : Prop := ∀ r, am_mt[k]? = some r → ∀ (D : va_G) (dA : Nat → ClassId) (ro : Nat → am_C) (ad : Nat → Nat) (sz : Nat), am_okh ro h → am_roS ro → (∀ v ∈ as, am_okv h.1 v) →
  Met l r.1 (am_w r) (am_rm d k) (am_Pc D dA ro ad h sz as) (am_Qc D dA ro ad h sz Q) (am_lim k).1 (am_lim k).2 (va_A (am_ws dA ad h) sz)
def am_OkAll : Prop := ∀ k r, am_mt[k]? = some r → ∃ ow w0 w1 w2 w3, am_okM r (am_cdOf k) ow w0 w1 w2 w3 = true
theorem am_good {w : Cond} (h : w ∈ am_gt) : (w.onTables && w.keeps) = true ∨ ∃ ty, w = .arrayClass ty := good_of_word (List.mem_filter.mp h).2
theorem am_goodIn {r : am_R} (h : Cond.code r.1 r.2.1 r.2.2.1 r.2.2.2.1 ∈ am_gt) : GoodIn am_gt (am_w r) := fun w hw => by
  rcases List.mem_cons.mp hw with e | e
  · rw [e]; exact ⟨h, am_good h⟩
  · exact ⟨e, am_good e⟩
theorem am_okM_use {r : am_R} {cd : List (Nat × am_E)} {ow w0 w1 w2 w3 : Nat} (h : am_okM r cd ow w0 w1 w2 w3 = true) :
    am_cn ow = r.1.cls ∧ Cond.code r.1 r.2.1 r.2.2.1 r.2.2.2.1 ∈ am_gt ∧ Cond.initialized r.1.cls ∈ am_gt ∧ (r.2.2.2.2.1 = 0 → Cond.static r.1 ∈ am_gt) ∧ (¬ r.2.2.2.2.1 = 0 → Cond.instanceMethod r.1 ∈ am_gt) ∧ (r.2.2.2.2.1 = 1 → Cond.selects r.1.cls r.1 r.1 ∈ am_gt) ∧ (r.2.2.2.2.1 = 2 → r.1.name = "<init>" ∧ r.2.2.2.1 = none) ∧
    (r.1.cls ≠ "java/lang/invoke/MethodHandle" ∧ r.1.cls ≠ "java/lang/invoke/VarHandle" ∧ (parseMethodDescriptor r.1.desc).map (fun d => d.parameters.length) = some r.2.2.2.2.2) ∧ plainFor r.1 = true ∧ r.2.2.1 ≤ 20 ∧ ∀ q ∈ cd, decode r.2.1 q.1 = .ok (q.2.1, q.2.2.1) ∧ am_okE ow r.1.cls r.2.2.1 (decide (r.1.name = "<init>")) r.2.2.2.1 q.1 q.2 = true := by
  obtain ⟨y, bytes, ml, rt, kd, np⟩ := r
  unfold am_okM at h
  simp only [Bool.and_eq_true, decide_eq_true_eq] at h
  obtain ⟨⟨⟨⟨⟨⟨⟨⟨⟨⟨⟨h1, h2⟩, h3⟩, h4⟩, h5⟩, h6⟩, h7⟩, h8⟩, h9⟩, h10⟩, h11⟩, h12⟩ := h
  refine ⟨h1, am_inAt_use h2, am_inAt_use h3, fun e => ?_, fun e => ?_, fun e => ?_, fun e => ?_, ⟨h7, h8, h9⟩, h10, h11, fun q hq => ?_⟩
  · have e : kd = 0 := e
    rw [if_pos e] at h4
    exact am_inAt_use h4
  · have e : ¬ kd = 0 := e
    rw [if_neg e] at h4
    exact am_inAt_use h4
  · have e : kd = 1 := e
    rw [if_pos e] at h5
    exact am_inAt_use h5
  · have e : kd = 2 := e
    rw [if_pos e, Bool.and_eq_true, decide_eq_true_eq, decide_eq_true_eq] at h6
    exact h6
  · have z := List.all_eq_true.mp h12 q hq
    rw [Bool.and_eq_true, decide_eq_true_eq] at z
    exact z
theorem am_blind {D : va_G} {dA : Nat → ClassId} {ro : Nat → am_C} {ad : Nat → Nat} {h : am_H} {sz : Nat} {as : List Value} : FrameBlind (am_Pc D dA ro ad h sz as) := fun a U g mk ⟨h1, h2, h3, h4, h5, h6⟩ =>
  ⟨h1, h2, h3, va_K.moved (u := U) (U := U.calling g mk a) (Vm.Alike.refl U.vm) h4, h5, am_RO_same (u := U) (U := U.calling g mk a) h6 rfl⟩
/-! locals at a method's entry -/
theorem am_ent_cv {ad : Nat → Nat} (as : List Value) : (lg_sl (as.map (am_cv ad))).length = (am_ent as).length := by
  induction as with
  | nil => rfl
  | cons v r ih =>
    have e : lg_sl ((v :: r).map (am_cv ad)) = (if (am_cv ad v).category = 2 then [Slot.val (am_cv ad v), .second] else [.val (am_cv ad v)]) ++ lg_sl (r.map (am_cv ad)) := rfl
    rw [e, List.length_append, ih]
    cases v <;> simp [am_cv, Value.category, am_ent] <;> omega
theorem am_ent_at {ad : Nat → Nat} : ∀ (as : List Value) (base j : Nat) (v : Value), (am_ent as).getD j none = some v → (base + j, am_cv ad v) ∈ lv_args base (as.map (am_cv ad))
  | [], _, _, _, h => by simp [am_ent] at h
  | w :: r, base, j, v, h => by
    have ih := am_ent_at (ad := ad) r
    show (base + j, am_cv ad v) ∈ (base, am_cv ad w) :: lv_args (if (am_cv ad w).category = 2 then base + 2 else base + 1) (r.map (am_cv ad))
    rw [am_cv_cat]
    cases j with
    | zero =>
      have e : v = w := by
        unfold am_ent at h
        simp at h
        exact h.symm
      rw [e]
      exact List.mem_cons_self
    | succ j =>
      refine List.mem_cons_of_mem _ ?_
      by_cases hc : w.category = 2
      · rw [if_pos hc]
        have h' : (none :: am_ent r).getD j none = some v := by
          unfold am_ent at h
          cases w <;> first | exact h | simp [Value.category] at hc
        cases j with
        | zero => simp at h'
        | succ j =>
          have z := ih (base + 2) j v (by simpa using h')
          rw [show base + (j + 1 + 1) = base + 2 + j by omega]
          exact z
      · rw [if_neg hc]
        have h' : (am_ent r).getD j none = some v := by
          unfold am_ent at h
          cases w <;> first | exact h | (simp [Value.category] at hc)
        have z := ih (base + 1) j v h'
        rw [show base + (j + 1) = base + 1 + j by omega]
        exact z
theorem am_loc_at {as : List Value} {n j : Nat} {v : Value} (h : (am_loc as n).getD j none = some v) : (am_ent as).getD j none = some v := by
  unfold am_loc at h
  rw [List.getD_eq_getElem?_getD] at h ⊢
  by_cases hj : j < (am_ent as).length
  · rw [List.getElem?_append_left hj] at h
    exact h
  · rw [List.getElem?_append_right (by omega), List.getElem?_replicate] at h
    split at h <;> simp at h
theorem am_ent_mem : ∀ (as : List Value) (j : Nat) (v : Value), (am_ent as).getD j none = some v → v ∈ as
  | [], _, _, h => by simp [am_ent] at h
  | w :: r, j, v, h => by
    cases j with
    | zero =>
      have e : v = w := by
        unfold am_ent at h
        simp at h
        exact h.symm
      rw [e]; exact List.mem_cons_self
    | succ j =>
      refine List.mem_cons_of_mem _ ?_
      by_cases hc : w.category = 2
      · have h' : (none :: am_ent r).getD j none = some v := by
          unfold am_ent at h
          cases w <;> first | exact h | simp [Value.category] at hc
        cases j with
        | zero => simp at h'
        | succ j => exact am_ent_mem r j v (by simpa using h')
      · have h' : (am_ent r).getD j none = some v := by
          unfold am_ent at h
          cases w <;> first | exact h | (simp [Value.category] at hc)
        exact am_ent_mem r j v h'
end
section
/-- the String methods that are called: name, code, locals, answer's type -/
def am_pn (k : Nat) : am_R := match k with
  | 901 => (yJ0_length_8abf5, cJ0_length_8abf5, 1, some .int, 1, 0)
  | 902 => (yJ0_charAt_5068e, cJ0_charAt_5068e, 2, some .char, 1, 1)
  | _ => (yJ0_isEmpty_aae02, cJ0_isEmpty_aae02, 1, some .boolean, 1, 0)
def am_StrOk (l : Launch) : Prop := ∀ d k as h Q, am_prim d k as h Q → 901 ≤ k → k ≤ 903 → ∀ (D : va_G) (dA : Nat → ClassId) (ro : Nat → am_C) (ad : Nat → Nat) (sz : Nat), am_okh ro h → am_roS ro → (∀ v ∈ as, am_okv h.1 v) →
  Met l (am_pn k).1 (am_w (am_pn k)) { frames := d, cells := 0, slots := 0, locals := 40 * d } (am_Pc D dA ro ad h sz as) (am_Qc D dA ro ad h sz Q) 0 0 (va_A (am_ws dA ad h) sz)
theorem am_lib : Cond.instanceMethod Lib.objectInit ∈ am_gt ∧ Cond.code Lib.objectInit ⟨#[0xb1]⟩ 1 none ∈ am_gt ∧ Cond.native arraycopyName ∈ am_gt ∧ Cond.static arraycopyName ∈ am_gt ∧ Cond.initialized "java/lang/System" ∈ am_gt := by
  refine ⟨am_inT_use ?_, am_inT_use ?_, am_inT_use ?_, am_inT_use ?_, am_inT_use ?_⟩ <;> decide +kernel
theorem am_libS : ∀ k, k = 901 ∨ k = 902 ∨ k = 903 → Cond.code (am_pn k).1 (am_pn k).2.1 (am_pn k).2.2.1 (am_pn k).2.2.2.1 ∈ am_gt ∧ Cond.instanceMethod (am_pn k).1 ∈ am_gt ∧ Cond.selects "java/lang/String" (am_pn k).1 (am_pn k).1 ∈ am_gt ∧ Cond.initialized "java/lang/String" ∈ am_gt ∧ (am_pn k).1.cls = "java/lang/String" := by
  intro k hk
  rcases hk with rfl | rfl | rfl
  · refine ⟨am_inT_use ?_, am_inT_use ?_, am_inT_use ?_, am_inT_use ?_, rfl⟩ <;> decide +kernel
  · refine ⟨am_inT_use ?_, am_inT_use ?_, am_inT_use ?_, am_inT_use ?_, rfl⟩ <;> decide +kernel
  · refine ⟨am_inT_use ?_, am_inT_use ?_, am_inT_use ?_, am_inT_use ?_, rfl⟩ <;> decide +kernel
theorem am_prim_rec {d k : Nat} {as : List Value} {h : am_H} {Q : Option Value → am_H → Prop} (hk : k = 901 ∨ k = 902 ∨ k = 903) (H : am_prim d k as h Q) : ∃ j As', as = .ref j :: As' ∧ j < 16 := by
  rcases hk with rfl | rfl | rfl
  · match as, H with
    | [.ref i], H => exact ⟨i, [], rfl, H.1⟩
  · match as, H with
    | [.ref i, .int x], H => exact ⟨i, _, rfl, H.1⟩
  · match as, H with
    | [.ref i], H => exact ⟨i, [], rfl, H.1⟩
section
variable {p : Program} {l : Launch} {e : Env} {R : Room} {s : State} {m : MethodId} {args : Array Value} {below : List Frame} {meth : Method} {c : Code}
variable {D : va_G} {dA : Nat → ClassId} {A : Nat → Prop} {ro : Nat → am_C} {ad0 : Nat → Nat} {n0 nL : Nat} {lim : Nat × Nat} {Qm : State → Prop}
variable {cc : ByteArray} {pc : Nat} {L : List (Option Value)} {st : List Value} {u : Nat × Nat} {h : am_H}
/-- a caller's world meets a callee's start -/
theorem am_pre {ad : Nat → Nat} {H : Heap} {locs : List Loc} {as : List Value} (hK : va_K D vwCl (am_tys dA) s) (hA : ∀ q, s.heap.size ≤ q → A q) (hro : am_RO ro ad0 A s s.heap) (hn0 : 40 ≤ n0) (had : ∀ i, i < n0 → ad i = ad0 i) (hP : va_P D vwCl (am_ws dA ad h) H) (hD : va_D A (am_ws dA ad h)) (hS : va_S A s.heap H locs) : ∀ U : State, U.heap = H → s.WarmedH U.vm → am_Pc D dA ro ad h H.size as (as.map (am_cv ad)).toArray U := by
  intro U hU hW
  have hfree : ∀ q, va_A (am_ws dA ad h) H.size q → A q := by
    intro q hq
    rcases hq with ⟨k, e0, hk⟩ | hq
    · exact hD.2 k _ hk
    · exact hA q (Nat.le_trans hS.1 hq)
  exact ⟨rfl, by rw [hU], by rw [hU]; exact hP, va_K.moved hW.alike hK, hD.weaken (fun _ _ _ _ => trivial), am_RO_go hro hW (fun a h1 h2 => by rw [hU]; exact hS.2.1 a h1 h2) hfree (fun i hi => had i (by omega))⟩
/-- the stack at a call: the arguments on top -/
theorem am_stk {b : Nat} (ad : Nat → Nat) (st : List Value) : st.map (am_cv ad) = (((st.take b).reverse).map (am_cv ad)).reverse ++ (st.drop b).map (am_cv ad) := by
  rw [← List.map_reverse, List.reverse_reverse, ← List.map_append, List.take_append_drop]
theorem am_mon {m : MethodId} {pc : Nat} {ls : Array Slot} {st : List Value} : (F0 m pc ls st).monitorRoom = 0 := rfl
set_option maxHeartbeats 4000000 in
theorem am_hinv {d : Nat} {own : String} {ow : Nat} {ini : Bool} {rt : Option FieldType} (hx : p.tables.exec = Jvm.exec) (hb : c.code = cc) (hml : c.maxLocals = nL) (hown : s.vm.findClass own = some m.cls) (how : am_cn ow = own) (hts : ∀ w ∈ am_gt, w.before args s = true) (hK : va_K D vwCl (am_tys dA) s) (hr : am_roS ro) (hA : ∀ q, s.heap.size ≤ q → A q) (hro : am_RO ro ad0 A s s.heap) (hn0 : 40 ≤ n0) (hR : lim.1 ≤ R.cells ∧ lim.2 ≤ R.slots) (hRf : d + 1 ≤ R.frames) (hRl : 40 * (d + 1) ≤ R.locals)
    (hall : am_OkAll) (hstr : am_StrOk l) (hcall : ∀ k as h Q, am_call d k as h Q → k < 900 → am_MetOk l d k as h Q)
    (i : Instr) (len a b t cv : Nat) (dv : Int32 × Int64) (hi : i = .invokestatic cv ∨ i = .invokevirtual cv ∨ i = .invokespecial cv) (hdec : decode cc pc = .ok (i, len)) (hok : am_okE ow own nL ini rt pc (i, len, a, b, t, dv) = true)
    (H0 : am_inv (am_call d) a b t (am_Wp p l e R s m args below meth c D dA A ro ad0 n0 nL lim Qm) lim pc L st u h) : am_Wp p l e R s m args below meth c D dA A ro ad0 n0 nL lim Qm (pc, L, st, u) h := by
  subst how
  unfold am_inv at H0
  split at H0
  case isFalse => exact H0.elim
  rename_i hcond
  obtain ⟨hcat, hbl, hu1', hu2'⟩ := hcond
  intro ad H locs ls had hn hP hD hS hokh hl hLo hst hu1 hu2
  have hargs : ∀ v ∈ (st.take b).reverse, am_okv h.1 v := fun v hv => hst v (List.mem_of_mem_take (List.mem_reverse.mp hv))
  have hrest : ∀ v ∈ st.drop b, am_okv h.1 v := fun v hv => hst v (List.mem_of_mem_drop hv)
  have hcat' : 2 * (F0 m pc ls (st.map (am_cv ad))).monitorRoom + (((st.drop b).map (am_cv ad)).map fun v => v.category).sum ≤ 8 := by rw [am_mon, am_cats_cv]; omega
  have hpre : ∀ as, ∀ U : State, U.heap = H → s.WarmedH U.vm → am_Pc D dA ro ad h H.size as (as.map (am_cv ad)).toArray U := fun as => am_pre (as := as) hK hA hro hn0 had hP hD hS
  have hlen : (st.take b).length = b := by rw [List.length_take]; omega
  rcases hi with rfl | rfl | rfl
  · -- static
    simp only [am_okE, Bool.and_eq_true, beq_iff_eq] at hok
    obtain ⟨⟨rfl, rfl⟩, hok⟩ := hok
    split at hok
    · simp only [Bool.and_eq_true, beq_iff_eq] at hok
      obtain ⟨⟨rfl, rfl⟩, hlink⟩ := hok
      cases d with
      | zero => exact False.elim H0
      | succ d =>
        have H1 : am_prim d 900 (st.take 5).reverse h (fun v h' => am_Wp p l e R s m args below meth c D dA A ro ad0 n0 nL lim Qm (pc + 3, L, v.toList ++ st.drop 5, u.1 + 0, u.2 + 0) h') := H0
        unfold am_prim at H1
        split at H1
        case h_1 => omega
        case h_3 => omega
        case h_4 => omega
        case h_5 => omega
        case h_6 => exact H1.elim
        case h_2 =>
          rename_i a0 sp b0 dp n _ hq
          obtain ⟨n0', f, hf, H2⟩ := am_ari_use H1
          obtain ⟨n1', g, hg, h1, h2, h3, h4, h5, K⟩ := am_ari_use H2
          have hst5 : st = .int n :: .int dp :: .ref b0 :: .int sp :: .ref a0 :: st.drop 5 := by
            have e1 : st.take 5 = [.int n, .int dp, .ref b0, .int sp, .ref a0] := by rw [← List.reverse_reverse (st.take 5), hq]; rfl
            conv => lhs; rw [← List.take_append_drop 5 st, e1]
            rfl
          have ha40 := am_hi_arr hokh hr hf (by intro z; cases z)
          have hb40 := am_hi_arr hokh hr hg (by intro z; cases z)
          have han : a0 < h.1 := hst (.ref a0) (by rw [hst5]; simp) a0 rfl
          have hbn : b0 < h.1 := hst (.ref b0) (by rw [hst5]; simp) b0 rfl
          have hwa := am_ws_at (dA := dA) (ad := ad) ha40 han
          have hwb := am_ws_at (dA := dA) (ad := ad) hb40 hbn
          rw [hf] at hwa
          rw [hg] at hwb
          have hgoal : W p l e R s m args below meth c H locs u.1 u.2 Qm (F0 m pc ls (.int n :: .int dp :: .ref (ad b0) :: .int sp :: .ref (ad a0) :: (st.drop 5).map (am_cv ad))) := by
            refine va_copyi hx hb (by rw [hml]; exact hl.1.symm) hown (hts _ (am_inT_use hlink)) (hts _ am_lib.2.2.1) (hts _ am_lib.2.2.2.1) (hts _ am_lib.2.2.2.2) hK hP hD hS (a0 - 40) (b0 - 40) 0 0 hwa hwb rfl rfl rfl h1 h2 h3 h4 h5 (fun _ _ => rfl) (by omega) ?_ hdec (fun H1 locs1 a1 a2 a3 => ?_)
            · rw [am_cats_cv]
              have e9 : nativeFrameWords "java/lang/System" "arraycopy" 5 + 11 ≤ 32 := by decide
              omega
            · have e1 : am_ws dA ad (am_set h b0 (.inl (.int, n1', .inl (va_cpy f g sp.toNatClampNeg dp.toNatClampNeg n.toNatClampNeg)))) = (am_ws dA ad h).set (b0 - 40) (ad b0, .inl (dA 0, n1', .inl (va_cpy f g sp.toNatClampNeg dp.toNatClampNeg n.toNatClampNeg))) := am_ws_set hb40 hbn _
              exact K ad H1 locs1 ls had hn (by rw [e1]; exact a1) (by rw [e1]; exact a2) a3 (am_okh_set hokh hb40 ⟨fun ty k f e => (by cases e), fun ci' fs' e => (by cases e), fun _ n x e => (by cases e)⟩) hl hLo hrest hu1 hu2
          rw [hst5]
          exact hgoal
    · rename_i h900
      split at hok
      · rename_i y bytes ml rt' kd np hrow
        simp only [Bool.and_eq_true, beq_iff_eq] at hok
        obtain ⟨⟨rfl, rfl⟩, hlk⟩ := hok
        obtain ⟨r', hr', hlink⟩ := am_ml_use hlk
        cases hrow.symm.trans hr'
        obtain ⟨ow', w0, w1, w2, w3, hM⟩ := hall a _ hrow
        obtain ⟨-, k2, k3, k4, -, -, -, k8, -, k10, -⟩ := am_okM_use hM
        have hMet := hcall a _ h _ H0 (by omega) _ hrow D dA ro ad H.size hokh hr hargs
        have cb := callB_of (R := R) (s := s) (args := args) (own := am_cn ow) (index := cv) _ hts (am_goodIn k2) rfl (rm := am_rm d a) rfl rfl (hts _ k3) (hts _ hlink) k8 ⟨hRf, by simp only [am_rm] at *; omega⟩
        refine ams_ran hA had hn hD hS hl hLo hrest hu1' hu2' (?_ : va_Run p l e R s m args below meth c H locs u.1 u.2 (am_lim a).1 (am_lim a).2 (F0 m pc ls (st.map (am_cv ad))) ((st.drop b).map (am_cv ad)) (am_Qc D dA ro ad h H.size (fun v h' => am_Wp p l e R s m args below meth c D dA A ro ad0 n0 nL lim Qm (pc + 3, L, v.toList ++ st.drop b, u.1 + (am_lim a).1, u.2 + (am_lim a).2) h') (((st.take b).reverse).map (am_cv ad)).toArray) (va_A (am_ws dA ad h) H.size)) (fun v h' z => z)
        exact va_runS (As := ((st.take b).reverse).map (am_cv ad)) ⟨hx, hb, hml, hown, hts⟩ hMet ⟨cb, hts _ (k4 rfl)⟩ ⟨am_blind, hpre _⟩ rfl (by rw [List.length_map, List.length_reverse]; exact hlen) hl.1 (am_stk ad st) hcat' hdec ⟨Nat.le_trans hu1' hR.1, Nat.le_trans hu2' hR.2⟩
      · cases hok
  · -- virtual
    simp only [am_okE, Bool.and_eq_true, beq_iff_eq] at hok
    obtain ⟨rfl, hok⟩ := hok
    split at hok
    · simp only [Bool.and_eq_true, Bool.or_eq_true, beq_iff_eq] at hok
      obtain ⟨rfl, hok⟩ := hok
      have hk : (a = 901 ∧ b = 1 ∨ a = 902 ∧ b = 2 ∨ a = 903 ∧ b = 1) ∧ Cond.methodLink (am_cn ow) cv (am_pn a).1 ∈ am_gt := by
        rcases hok with ((⟨⟨rfl, rfl⟩, z⟩ | ⟨⟨rfl, rfl⟩, z⟩) | ⟨⟨rfl, rfl⟩, z⟩)
        · exact ⟨Or.inl ⟨rfl, rfl⟩, am_inT_use z⟩
        · exact ⟨Or.inr (Or.inl ⟨rfl, rfl⟩), am_inT_use z⟩
        · exact ⟨Or.inr (Or.inr ⟨rfl, rfl⟩), am_inT_use z⟩
      obtain ⟨hk, hlink⟩ := hk
      have hk3 : a = 901 ∨ a = 902 ∨ a = 903 := by omega
      have hlim : am_lim a = (0, 0) := by rcases hk3 with rfl | rfl | rfl <;> rfl
      obtain ⟨g1, g2, g3, g4, g5⟩ := am_libS a hk3
      cases d with
      | zero => exact False.elim H0
      | succ d =>
        have H1 : am_prim d a (st.take b).reverse h (fun v h' => am_Wp p l e R s m args below meth c D dA A ro ad0 n0 nL lim Qm (pc + 3, L, v.toList ++ st.drop b, u.1 + (am_lim a).1, u.2 + (am_lim a).2) h') := by
          have z := H0
          unfold am_call at z
          simp only at z
          rw [if_pos (by omega)] at z
          exact z
        have hMet := hstr d a _ h _ H1 (by omega) (by omega) D dA ro ad H.size hokh hr hargs
        -- the receiver is a text
        have hrec := am_prim_rec hk3 H1
        obtain ⟨j, As', hq, hj⟩ := hrec
        obtain ⟨adV, hV⟩ := hro.2.2.2.2.1
        rw [hlim] at hMet hu1' hu2'
        rw [hq] at hMet
        have hlenA : As'.length + 1 = b := by
          have := congrArg List.length hq
          rw [List.length_reverse, hlen] at this
          simpa using this.symm
        have hdd : (am_pn a).1.cls ≠ "java/lang/invoke/MethodHandle" ∧ (am_pn a).1.cls ≠ "java/lang/invoke/VarHandle" ∧ (parseMethodDescriptor (am_pn a).1.desc).map (fun d => d.parameters.length) = some As'.length := by
          refine ⟨by rw [g5]; decide, by rw [g5]; decide, ?_⟩
          rcases hk with ⟨rfl, rfl⟩ | ⟨rfl, rfl⟩ | ⟨rfl, rfl⟩
          · have : As'.length = 0 := by omega
            rw [this]; decide +kernel
          · have : As'.length = 1 := by omega
            rw [this]; decide +kernel
          · have : As'.length = 0 := by omega
            rw [this]; decide +kernel
        have hml20 : (am_pn a).2.2.1 ≤ 2 := by rcases hk3 with rfl | rfl | rfl <;> decide
        have cb := callB_of (R := R) (s := s) (args := args) (own := am_cn ow) (index := cv) _ hts (am_goodIn g1) rfl (rm := { frames := d, cells := 0, slots := 0, locals := 40 * d }) rfl rfl (by rw [g5]; exact hts _ g4) (hts _ hlink) hdd ⟨by show d + 1 ≤ R.frames; omega, by show 8 + ((am_pn a).2.2.1 + 11) + 40 * d ≤ R.locals; omega⟩
        refine ams_ran (mc := 0) (ms := 0) hA had hn hD hS hl hLo hrest hu1' hu2' (?_ : va_Run p l e R s m args below meth c H locs u.1 u.2 0 0 (F0 m pc ls (st.map (am_cv ad))) ((st.drop b).map (am_cv ad)) (am_Qc D dA ro ad h H.size (fun v h' => am_Wp p l e R s m args below meth c D dA A ro ad0 n0 nL lim Qm (pc + 3, L, v.toList ++ st.drop b, u.1 + 0, u.2 + 0) h') (Value.ref (ad j) :: As'.map (am_cv ad)).toArray) (va_A (am_ws dA ad h) H.size)) (fun v h' z => z)
        refine va_runV (b := ad j) (As := As'.map (am_cv ad)) (C := "java/lang/String") ⟨hx, hb, hml, hown, hts⟩ hMet ⟨cb, hts _ g2, hts _ g3⟩ ⟨am_blind, ?_, fun U hU hW => hpre (.ref j :: As') U hU hW⟩ rfl (by rw [List.length_map]) hl.1 ?_ hcat' hdec ⟨Nat.le_trans hu1 hR.1, Nat.le_trans hu2 hR.2⟩
        · have hj16 : j < 16 := hj
          have h16 : 16 ≤ n0 := Nat.le_trans (by decide) hn0
          rw [had j (Nat.lt_of_lt_of_le hj16 h16)]
          exact vk_recv hV hj hS
        · show st.map (am_cv ad) = _
          rw [am_stk (b := b) ad st, hq]
          simp [am_cv]
    · rename_i h900
      split at hok
      · rename_i y bytes ml rt' kd np C T N hrow hcl
        simp only [Bool.and_eq_true, beq_iff_eq, bne_iff_ne, ne_eq] at hok
        obtain ⟨⟨⟨⟨rfl, rfl⟩, ht⟩, rfl⟩, hlk⟩ := hok
        obtain ⟨r', hr', hlink⟩ := am_ml_use hlk
        cases hrow.symm.trans hr'
        obtain ⟨ow', w0, w1, w2, w3, hM⟩ := hall a _ hrow
        obtain ⟨-, k2, k3, -, k5, k6, -, k8, -, k10, -⟩ := am_okM_use hM
        cases t with
        | zero => exact absurd rfl ht
        | succ ci =>
          simp only at H0
          split at H0
          case h_2 => exact H0.elim
          rename_i q hq
          obtain ⟨fs, hqc, H1⟩ := am_obj_use H0
          have hMet := hcall a _ h _ H1 (by omega) _ hrow D dA ro ad H.size hokh hr hargs
          obtain ⟨As', hAs⟩ : ∃ As', (st.take (np + 1)).reverse = .ref q :: As' := by
            have z : (st.take (np + 1)).reverse.head? = some (.ref q) := by rw [List.head?_reverse]; exact hq
            cases hz : (st.take (np + 1)).reverse with
            | nil => rw [hz] at z; cases z
            | cons x r => rw [hz] at z; simp at z; exact ⟨r, by rw [z]⟩
          have hqn : q < h.1 := hargs (.ref q) (by rw [hAs]; simp) q rfl
          have hci : ci < 9 := am_ci9 hcl
          have h40 := am_hi_obj hokh hr hqc hci
          have hw := am_ws_at (dA := dA) (ad := ad) h40 hqn
          rw [hqc] at hw
          rw [hAs] at hMet
          have hlenA : As'.length = np := by
            have := congrArg List.length hAs
            rw [List.length_reverse, hlen] at this
            simp at this
            omega
          have cb := callB_of (R := R) (s := s) (args := args) (own := am_cn ow) (index := cv) _ hts (am_goodIn k2) rfl (rm := am_rm d a) rfl rfl (hts _ k3) (hts _ hlink) k8 ⟨hRf, by simp only [am_rm] at *; omega⟩
          refine ams_ran hA had hn hD hS hl hLo hrest hu1' hu2' (?_ : va_Run p l e R s m args below meth c H locs u.1 u.2 (am_lim a).1 (am_lim a).2 (F0 m pc ls (st.map (am_cv ad))) ((st.drop (np + 1)).map (am_cv ad)) (am_Qc D dA ro ad h H.size (fun v h' => am_Wp p l e R s m args below meth c D dA A ro ad0 n0 nL lim Qm (pc + 3, L, v.toList ++ st.drop (np + 1), u.1 + (am_lim a).1, u.2 + (am_lim a).2) h') (Value.ref (ad q) :: As'.map (am_cv ad)).toArray) (va_A (am_ws dA ad h) H.size)) (fun v h' z => z)
          refine va_runV (b := ad q) (As := As'.map (am_cv ad)) (C := y.cls) ⟨hx, hb, hml, hown, hts⟩ hMet ⟨cb, hts _ (k5 (show ¬ (1 : Nat) = 0 by decide)), hts _ (k6 rfl)⟩ ⟨am_blind, va_recv hK hP hcl hw, fun U hU hW => hpre (.ref q :: As') U hU hW⟩ rfl (by rw [List.length_map]; exact hlenA) hl.1 ?_ hcat' hdec ⟨Nat.le_trans hu1' hR.1, Nat.le_trans hu2' hR.2⟩
          show st.map (am_cv ad) = _
          rw [am_stk (b := np + 1) ad st, hAs]
          simp [am_cv]
      · cases hok
  · -- special
    simp only [am_okE, Bool.and_eq_true, beq_iff_eq] at hok
    obtain ⟨rfl, hok⟩ := hok
    split at hok
    · simp only [Bool.and_eq_true, beq_iff_eq] at hok
      obtain ⟨⟨⟨rfl, rfl⟩, rfl⟩, hlink⟩ := hok
      cases d with
      | zero => exact False.elim H0
      | succ d =>
        have H1 : am_prim d 904 (st.take 1).reverse h (fun v h' => am_Wp p l e R s m args below meth c D dA A ro ad0 n0 nL lim Qm (pc + 3, L, v.toList ++ st.drop 1, u.1 + 0, u.2 + 0) h') := H0
        unfold am_prim at H1
        split at H1
        case h_2 => omega
        case h_3 => omega
        case h_4 => omega
        case h_5 => omega
        case h_6 => exact H1.elim
        case h_1 =>
          rename_i q _ hq
          have hst1 : st = .ref q :: st.drop 1 := by
            have e1 : st.take 1 = [.ref q] := by rw [← List.reverse_reverse (st.take 1), hq]; rfl
            conv => lhs; rw [← List.take_append_drop 1 st, e1]
            rfl
          have hgoal : W p l e R s m args below meth c H locs u.1 u.2 Qm (F0 m pc ls (.ref (ad q) :: (st.drop 1).map (am_cv ad))) := by
            refine W.objInit hx hb hown (hts _ (am_inT_use hlink)) (hts _ am_lib.1) (hts _ am_lib.2.1) rfl (hl.1.trans hml.symm) rfl hdec (by omega) ?_ (H1 ad H locs ls had hn hP hD hS hokh hl hLo hrest hu1 hu2)
            have := hcat'
            rw [am_mon] at this
            show 2 * 0 + _ + 12 ≤ R.locals
            omega
          rw [hst1]
          exact hgoal
    · rename_i h900
      split at hok
      · rename_i y bytes ml rt' kd np hrow
        simp only [Bool.and_eq_true, beq_iff_eq, bne_iff_ne, ne_eq] at hok
        obtain ⟨⟨⟨rfl, rfl⟩, ht⟩, hlk⟩ := hok
        obtain ⟨ow', w0, w1, w2, w3, hM⟩ := hall a _ hrow
        obtain ⟨-, k2, k3, -, k5, -, k7, k8, -, k10, -⟩ := am_okM_use hM
        obtain ⟨k71, k72⟩ := k7 rfl
        dsimp only at k71 k72
        subst k72
        cases t with
        | zero => exact absurd rfl ht
        | succ ci =>
        simp only at H0
        split at H0
        case h_2 => exact H0.elim
        rename_i q hq
        obtain ⟨fs, hqc, H1⟩ := am_obj_use H0
        have hMet := hcall a _ h _ H1 (by omega) _ hrow D dA ro ad H.size hokh hr hargs
        -- the object that is made
        obtain ⟨As', hAs⟩ : ∃ As', (st.take (np + 1)).reverse = .ref q :: As' := by
          have z : (st.take (np + 1)).reverse.head? = some (.ref q) := by rw [List.head?_reverse]; exact hq
          cases hz : (st.take (np + 1)).reverse with
          | nil => rw [hz] at z; cases z
          | cons x r => rw [hz] at z; simp at z; exact ⟨r, by rw [z]⟩
        rw [hAs] at hMet
        have hlenA : As'.length = np := by
          have := congrArg List.length hAs
          rw [List.length_reverse, hlen] at this
          simp at this
          omega
        refine ams_ran hA had hn hD hS hl hLo hrest hu1' hu2' (?_ : va_Run p l e R s m args below meth c H locs u.1 u.2 (am_lim a).1 (am_lim a).2 (F0 m pc ls (st.map (am_cv ad))) ((st.drop (np + 1)).map (am_cv ad)) (am_Qc D dA ro ad h H.size (fun v h' => am_Wp p l e R s m args below meth c D dA A ro ad0 n0 nL lim Qm (pc + 3, L, v.toList ++ st.drop (np + 1), u.1 + (am_lim a).1, u.2 + (am_lim a).2) h') (Value.ref (ad q) :: As'.map (am_cv ad)).toArray) (va_A (am_ws dA ad h) H.size)) (fun v h' z => z)
        have hstack : st.map (am_cv ad) = (As'.map (am_cv ad)).reverse ++ .ref (ad q) :: (st.drop (np + 1)).map (am_cv ad) := by
          rw [am_stk (b := np + 1) ad st, hAs]
          simp [am_cv]
        simp only [Bool.or_eq_true] at hlk
        rcases hlk with hlk | hlk
        · obtain ⟨r', hr', hlink⟩ := am_ml_use hlk
          cases hrow.symm.trans hr'
          have cb := callB_of (R := R) (s := s) (args := args) (own := am_cn ow) (index := cv) _ hts (am_goodIn k2) rfl (rm := am_rm d a) rfl rfl (hts _ k3) (hts _ hlink) k8 ⟨hRf, by simp only [am_rm] at *; omega⟩
          exact va_runI (b := ad q) (As := As'.map (am_cv ad)) ⟨hx, hb, hml, hown, hts⟩ hMet ⟨cb, k71, hts _ (k5 (show ¬ (2 : Nat) = 0 by decide))⟩ ⟨am_blind, fun U hU hW => hpre (.ref q :: As') U hU hW⟩ rfl (by rw [List.length_map]; exact hlenA) hl.1 hstack hcat' hdec ⟨Nat.le_trans hu1' hR.1, Nat.le_trans hu2' hR.2⟩
        · obtain ⟨⟨o, x, y'⟩, hmem, hq⟩ := List.any_eq_true.mp hlk
          simp only [Bool.and_eq_true, beq_iff_eq, decide_eq_true_eq] at hq
          obtain ⟨rfl, rfl, rfl⟩ := hq
          have hnl := hro.2.2.2.2.2.2.2.2.2.1 _ hmem
          have cb := va_cnB (R := R) (s := s) (args := args) (own := am_cn ow) (index := x) _ hts (am_goodIn k2) rfl (rm := am_rm d a) rfl rfl hnl (hts _ k3) k8 ⟨hRf, by simp only [am_rm] at *; omega⟩
          exact va_runIN (b := ad q) (As := As'.map (am_cv ad)) ⟨hx, hb, hml, hown, hts⟩ hMet ⟨cb, k71, hts _ (k5 (show ¬ (2 : Nat) = 0 by decide))⟩ ⟨am_blind, fun U hU hW => hpre (.ref q :: As') U hU hW⟩ rfl (by rw [List.length_map]; exact hlenA) hl.1 hstack hcat' hdec ⟨Nat.le_trans hu1' hR.1, Nat.le_trans hu2' hR.2⟩
      · cases hok
end
end
section
/-- a method's contract out of its body, also for a class that has natives, if the method is none -/
theorem am_ofWF {l : Launch} {y : MethodName} {ws ws' : List Cond} {rm : Room} {Pc : Array Value → State → Prop} {Qc : Array Value → State → Outcome → State → Prop} {mc ms : Nat} {free : Addr → Prop} {cc : ByteArray} {maxL : Nat} {ret : Option FieldType}
    (hy : plainFor y = true) (hw : ws = Cond.code y cc maxL ret :: ws')
    (body : ∀ p e s m args below meth c s₁, BodyLoose p l y (headSpec ws rm) cc maxL ret e s m args below meth c s₁ → c.maxLocals = maxL → Pc args s →
      W p l e (headSpec ws rm).room s m args below meth c s.heap [] 0 0 (MQ below Qc args s mc ms free) (entryFrame m args maxL)) : Met l y ws rm Pc Qc mc ms free := by
  refine MetFree.of_bodySF (code := cc) (maxLocals := maxL) (ret := ret) hy ?_ ?_
  · intro args s m h hn
    obtain ⟨meth, c, h1, h2, h3, h4, h5, h6, -, -⟩ := Cond.code_spec hn (atoms_spec (ws := ws) h _ (by rw [hw]; exact List.mem_cons_self))
    exact ⟨meth, c, h1, h2, h3, h4, h5, h6⟩
  · intro p e s m args below meth c s₁ B hml hP _
    have hh0 : s₁.heap = s.heap := by rw [B.state]; rfl
    obtain ⟨t, a1, o, b1, b2, b3⟩ := body p e s m args below meth c s₁ B hml hP s₁ hh0 (Stand.of_body B)
    exact ⟨t, o, a1, b1, b2, ⟨b3.1, b3.2⟩⟩
section
variable {p : Program} {l : Launch} {e : Env} {R : Room} {s : State} {m : MethodId} {args : Array Value} {below : List Frame} {meth : Method} {c : Code}
variable {D : va_G} {dA : Nat → ClassId} {A : Nat → Prop} {ro : Nat → am_C} {ad0 : Nat → Nat} {n0 nL : Nat} {lim : Nat × Nat} {Qm : State → Prop}
variable {cc : ByteArray} {pc : Nat} {L : List (Option Value)} {st : List Value} {u : Nat × Nat} {h : am_H}
theorem ams_ret {call : am_K} {own : String} {ow : Nat} {ini : Bool} {rt : Option FieldType} {Q : Option Value → am_H → Prop} {X : am_H → Prop} {h0 : am_H} (hx : p.tables.exec = Jvm.exec) (hb : c.code = cc) (hrt : meth.sig.returnType = rt) (hlocks : meth.locks = false) (hA0 : va_A (am_ws dA ad0 h0) s.heap.size = A) (hn0 : n0 = h0.1)
    (hQm : ∀ {H : Heap} {locs : List Loc} {g : JFrame}, W p l e R s m args below meth c H locs lim.1 lim.2 (MQ below (am_Qc D dA ro ad0 h0 s.heap.size Q) args s lim.1 lim.2 A) g → W p l e R s m args below meth c H locs lim.1 lim.2 Qm g)
    (i : Instr) (len a b t : Nat) (cv : Int32 × Int64) (hi : i = .ireturn ∨ i = .lreturn ∨ i = .areturn ∨ i = .return_) (hdec : decode cc pc = .ok (i, len)) (hok : am_okE ow own nL ini rt pc (i, len, a, b, t, cv) = true)
    (H0 : am_ins call lim (i, len, a, b, t, cv) Q X (am_Wp p l e R s m args below meth c D dA A ro ad0 n0 nL lim Qm) pc L st u h) : am_Wp p l e R s m args below meth c D dA A ro ad0 n0 nL lim Qm (pc, L, st, u) h := by
  subst hA0
  subst hn0
  intro ad H locs ls had hn hP hD hS hokh hl hLo hst hu1 hu2
  have fin : ∀ v : Option Value, Q v h → (∀ w, v = some w → am_okv h.1 w) → ∀ t : State, t.heap = H → s.WarmedH t.vm → am_Qc D dA ro ad0 h0 s.heap.size Q args s (.returned (v.map (am_cv ad))) t := fun v hq hv t ht hW =>
    ⟨⟨v, h, ad, rfl, hq, by rw [ht]; exact hP, hD, hokh, hn, had, hv⟩, hS.F ht⟩
  refine W.widen hu1 hu2 (hQm ?_)
  rcases hi with rfl | rfl | rfl | rfl
  · simp only [am_okE, Bool.and_eq_true, Bool.or_eq_true, beq_iff_eq] at hok
    match st, H0 with
    | [.int x], H0 =>
      obtain ⟨rfl, (⟨rfl, rfl⟩ | ⟨rfl, rfl⟩) | ⟨rfl, rfl⟩⟩ := hok
      · exact W.iret hx hb hrt (fin (some (.int x)) H0 (fun w e => by cases e; exact am_okv_int)) hS.2.2 hdec hlocks
      · have H1 : (x = 0 ∨ x = 1) ∧ Q (some (.int x)) h := H0
        exact W.zret hx hb hrt (by rcases H1.1 with rfl | rfl <;> decide) (fin (some (.int x)) H1.2 (fun w e => by cases e; exact am_okv_int)) hS.2.2 hdec hlocks
      · have H1 : (∃ q : Nat, q < 65536 ∧ x = nI q) ∧ Q (some (.int x)) h := H0
        exact W.zret hx hb hrt (by obtain ⟨⟨q, hq, rfl⟩, -⟩ := H1; exact (pk_charN hq).1) (fin (some (.int x)) H1.2 (fun w e => by cases e; exact am_okv_int)) hS.2.2 hdec hlocks
  · simp only [am_okE, Bool.and_eq_true, beq_iff_eq] at hok
    match st, H0 with
    | [.long x], H0 =>
      obtain ⟨rfl, rfl⟩ := hok
      exact W.lret hx hb hrt (fin (some (.long x)) H0 (fun w e => by cases e; exact am_okv_long)) hS.2.2 hdec hlocks
  · simp only [am_okE, Bool.and_eq_true, beq_iff_eq] at hok
    match st, H0, hst with
    | [.ref x], H0, hst =>
      obtain ⟨rfl, rfl⟩ := hok
      exact W.aret hx hb hrt (Or.inl ⟨_, rfl⟩) (Or.inr ⟨_, rfl⟩) (fin (some (.ref x)) H0 (fun w e => by cases e; exact hst _ List.mem_cons_self)) hS.2.2 hdec hlocks
  · simp only [am_okE, Bool.and_eq_true, beq_iff_eq] at hok
    match st, H0 with
    | [], H0 =>
      obtain ⟨rfl, rfl⟩ := hok
      exact W.vret hx hb hrt (fin none H0 (fun w e => by cases e)) hS.2.2 hdec hlocks
end
set_option maxHeartbeats 4000000 in
/-- THE ABSTRACT MACHINE SPEAKS OF THE MACHINE: what it says of a method is the method's contract -/
theorem am_sound (l : Launch) (hall : am_OkAll) (hstr : am_StrOk l) : ∀ (d k : Nat) (as : List Value) (h : am_H) (Q : Option Value → am_H → Prop), am_call d k as h Q → k < 900 → am_MetOk l d k as h Q := by
  intro d
  induction d with
  | zero => exact fun _ _ _ _ H => H.elim
  | succ d ih =>
    intro k as h Q H hk r hr D dA ro ad sz hokh hros hargs
    unfold am_call at H
    rw [if_neg (by omega), hr] at H
    obtain ⟨hlen, Hwp⟩ := H
    obtain ⟨ow, w0, w1, w2, w3, hM⟩ := hall k r hr
    obtain ⟨k1, k2, k3, k4, k5, k6, k7, k8, k9, k10, k11⟩ := am_okM_use hM
    refine am_ofWF (cc := r.2.1) (maxL := r.2.2.1) (ret := r.2.2.2.1) k9 rfl ?_
    intro p e s m args below meth c s₁ B hml hv
    obtain ⟨rfl, hsz, hP, hK, hD0, hRO⟩ := hv
    have hx := B.exec
    have hb := B.bytes
    have hrt := B.returns
    have hts0 := atoms_spec (ws := am_w r) B.pre
    have hts : ∀ w ∈ am_gt, w.before ((as.map (am_cv ad)).toArray) s = true := fun w hw => hts0 w (List.mem_cons_of_mem _ hw)
    have hown : s.vm.findClass r.1.cls = some m.cls := findClass_of_methodNamed B.named
    have hlocks := B.notSynchronized
    have hname := (name_of_methodNamed B.named B.method).1
    subst hsz
    have hD := hD0.self (sz := s.heap.size)
    have hl := lv_entry (as.map (am_cv ad)) (n := r.2.2.1) (by rw [am_ent_cv]; exact hlen)
    rw [lg_entry_eq]
    generalize (lg_sl (as.map (am_cv ad)) ++ List.replicate (r.2.2.1 - (lg_sl (as.map (am_cv ad))).length) Slot.unset).toArray = ls at hl ⊢
    have hA : ∀ q : Nat, s.heap.size ≤ q → va_A (am_ws dA ad h) s.heap.size q := fun q hq => Or.inr hq
    have hl' : lv_has ls r.2.2.1 (am_pr (am_loc as r.2.2.1) ad) := am_lv_mono hl (fun q hq => by
      obtain ⟨j, x⟩ := q
      obtain ⟨v, hv, rfl⟩ := am_pr_mem.mp hq
      have z := am_ent_at (ad := ad) as 0 j v (am_loc_at hv)
      rw [Nat.zero_add] at z
      exact z)
    have hLo : am_okL h.1 (am_loc as r.2.2.1) := fun j v hv => hargs v (am_ent_mem as j v (am_loc_at hv))
    have main := Hwp (am_Wp p l e (am_rm (d + 1) k) s m (as.map (am_cv ad)).toArray below meth c D dA (va_A (am_ws dA ad h) s.heap.size) ro ad h.1 r.2.2.1 (am_lim k) (MQ below (am_Qc D dA ro ad h s.heap.size Q) (as.map (am_cv ad)).toArray s (am_lim k).1 (am_lim k).2 (va_A (am_ws dA ad h) s.heap.size))) (by
      intro f h1 z
      obtain ⟨pc, L, st, u⟩ := f
      unfold am_step at z
      simp only at z
      split at z
      · rename_i en hen
        obtain ⟨q1, q2⟩ := k11 _ (am_lookup_mem hen)
        refine am_sound_ins hx hb hown k1 hts hK hros hA hRO hokh.1 ⟨Nat.le_refl _, Nat.le_refl _⟩ (fun hini => by rw [hname]; exact of_decide_eq_true hini) ?_ ?_ (fun _ _ _ _ _ _ z => z.elim) q1 q2 z
        · intro i len a b t cv dv hi hdec hok H0
          exact am_hinv hx hb hml hown k1 hts hK hros hA hRO hokh.1 ⟨Nat.le_refl _, Nat.le_refl _⟩ (Nat.le_refl _) (Nat.le_refl _) hall hstr ih i len a b t cv dv hi hdec hok H0
        · intro i len a b t cv hi hdec hok H0
          exact ams_ret hx hb hrt hlocks rfl rfl (fun w => w) i len a b t cv hi hdec hok H0
      · exact z.elim)
    exact main ad s.heap [] ls (fun _ _ => rfl) (Nat.le_refl _) hP hD va_S.rf hokh hl' hLo (fun v hv => by cases hv) (Nat.zero_le _) (Nat.zero_le _)
end
section
/-! instructions that name nothing: for any class's own code -/
def isLk (i : Instr) : Bool := match i with
  | .ldc _ => true
  | .ldc_w _ => true
  | .ldc2_w _ => true
  | .getfield _ => true
  | .putfield _ => true
  | .getstatic _ => true
  | .anewarray _ => true
  | .new _ => true
  | .invokestatic _ => true
  | .invokevirtual _ => true
  | .invokespecial _ => true
  | .ireturn => true
  | .lreturn => true
  | .areturn => true
  | .return_ => true
  | _ => false
section
variable {p : Program} {l : Launch} {e : Env} {R : Room} {s : State} {m : MethodId} {args : Array Value} {below : List Frame} {meth : Method} {c : Code}
variable {D : va_G} {dA : Nat → ClassId} {A : Nat → Prop} {ro : Nat → am_C} {ad0 : Nat → Nat} {n0 nL : Nat} {lim : Nat × Nat} {Qm : State → Prop}
variable {cc : ByteArray} {pc : Nat} {L : List (Option Value)} {st : List Value} {u : Nat × Nat} {h : am_H}
set_option maxHeartbeats 4000000 in
theorem lw_ins {call : am_K} {own : String} {ow : Nat} {ini : Bool} {rt : Option FieldType} {Q : Option Value → am_H → Prop} {X : am_H → Prop} (hx : p.tables.exec = Jvm.exec) (hb : c.code = cc) (hts : ∀ w ∈ am_gt, w.before args s = true) (hK : va_K D vwCl (am_tys dA) s) (hr : am_roS ro) (hA : ∀ q, s.heap.size ≤ q → A q) (hro : am_RO ro ad0 A s s.heap) (hn0 : 40 ≤ n0) (hR : lim.1 ≤ R.cells ∧ lim.2 ≤ R.slots)
    {en : am_E} (hoth : isLk en.1 = true → am_ins call lim en Q X (am_Wp p l e R s m args below meth c D dA A ro ad0 n0 nL lim Qm) pc L st u h → am_Wp p l e R s m args below meth c D dA A ro ad0 n0 nL lim Qm (pc, L, st, u) h)
    (hdec : decode cc pc = .ok (en.1, en.2.1)) (hok : isLk en.1 = false → am_okE ow own nL ini rt pc en = true) (H0 : am_ins call lim en Q X (am_Wp p l e R s m args below meth c D dA A ro ad0 n0 nL lim Qm) pc L st u h) : am_Wp p l e R s m args below meth c D dA A ro ad0 n0 nL lim Qm (pc, L, st, u) h := by
  obtain ⟨i, len, a, b, t, cst, dd⟩ := en
  cases i <;> try exact False.elim H0
  case iconst n =>
    have hok := hok rfl
    simp only [am_okE, Bool.and_eq_true, beq_iff_eq, decide_eq_true_eq] at hok
    obtain ⟨rfl, hv⟩ := hok
    exact ams_iconst hx hb hdec hv H0
  case bipush n =>
    have hok := hok rfl
    simp only [am_okE, Bool.and_eq_true, beq_iff_eq, decide_eq_true_eq] at hok
    obtain ⟨rfl, hv⟩ := hok
    exact ams_bipush hx hb hdec hv H0
  case sipush n =>
    have hok := hok rfl
    simp only [am_okE, Bool.and_eq_true, beq_iff_eq, decide_eq_true_eq] at hok
    obtain ⟨rfl, hv⟩ := hok
    exact ams_sipush hx hb hdec hv H0
  case lconst n =>
    have hok := hok rfl
    simp only [am_okE, Bool.and_eq_true, beq_iff_eq, decide_eq_true_eq] at hok
    obtain ⟨rfl, hv⟩ := hok
    exact ams_lconst hx hb hdec hv H0
  case ldc idx => exact hoth rfl H0
  case ldc_w idx => exact hoth rfl H0
  case ldc2_w idx => exact hoth rfl H0
  case iload_n n =>
    have hok := hok rfl
    simp only [am_okE, beq_iff_eq] at hok
    subst hok
    exact ams_iload_n hx hb hdec H0
  case iload n =>
    have hok := hok rfl
    simp only [am_okE, beq_iff_eq] at hok
    subst hok
    exact ams_iload hx hb hdec H0
  case lload_n n =>
    have hok := hok rfl
    simp only [am_okE, beq_iff_eq] at hok
    subst hok
    exact ams_lload_n hx hb hdec H0
  case lload n =>
    have hok := hok rfl
    simp only [am_okE, beq_iff_eq] at hok
    subst hok
    exact ams_lload hx hb hdec H0
  case aload_n n =>
    have hok := hok rfl
    simp only [am_okE, beq_iff_eq] at hok
    subst hok
    exact ams_aload_n hx hb hdec H0
  case aload n =>
    have hok := hok rfl
    simp only [am_okE, beq_iff_eq] at hok
    subst hok
    exact ams_aload hx hb hdec H0
  case istore_n n =>
    have hok := hok rfl
    simp only [am_okE, Bool.and_eq_true, beq_iff_eq, decide_eq_true_eq] at hok
    obtain ⟨rfl, hv⟩ := hok
    exact ams_istore_n hx hb hdec hv H0
  case istore n =>
    have hok := hok rfl
    simp only [am_okE, Bool.and_eq_true, beq_iff_eq, decide_eq_true_eq] at hok
    obtain ⟨rfl, hv⟩ := hok
    exact ams_istore hx hb hdec hv H0
  case lstore_n n =>
    have hok := hok rfl
    simp only [am_okE, Bool.and_eq_true, beq_iff_eq, decide_eq_true_eq] at hok
    obtain ⟨rfl, hv⟩ := hok
    exact ams_lstore_n hx hb hdec hv H0
  case lstore n =>
    have hok := hok rfl
    simp only [am_okE, Bool.and_eq_true, beq_iff_eq, decide_eq_true_eq] at hok
    obtain ⟨rfl, hv⟩ := hok
    exact ams_lstore hx hb hdec hv H0
  case astore_n n =>
    have hok := hok rfl
    simp only [am_okE, Bool.and_eq_true, beq_iff_eq, decide_eq_true_eq] at hok
    obtain ⟨rfl, hv⟩ := hok
    exact ams_astore_n hx hb hdec hv H0
  case astore n =>
    have hok := hok rfl
    simp only [am_okE, Bool.and_eq_true, beq_iff_eq, decide_eq_true_eq] at hok
    obtain ⟨rfl, hv⟩ := hok
    exact ams_astore hx hb hdec hv H0
  case iinc k n =>
    have hok := hok rfl
    simp only [am_okE, Bool.and_eq_true, beq_iff_eq, decide_eq_true_eq] at hok
    obtain ⟨⟨rfl, hk⟩, hv⟩ := hok
    exact ams_iinc hx hb hdec hk hv H0
  case iadd =>
    have hok := hok rfl
    simp only [am_okE, beq_iff_eq] at hok
    subst hok
    exact ams_iadd hx hb hdec H0
  case isub =>
    have hok := hok rfl
    simp only [am_okE, beq_iff_eq] at hok
    subst hok
    exact ams_isub hx hb hdec H0
  case imul =>
    have hok := hok rfl
    simp only [am_okE, beq_iff_eq] at hok
    subst hok
    exact ams_imul hx hb hdec H0
  case iand =>
    have hok := hok rfl
    simp only [am_okE, beq_iff_eq] at hok
    subst hok
    exact ams_iand hx hb hdec H0
  case ior =>
    have hok := hok rfl
    simp only [am_okE, beq_iff_eq] at hok
    subst hok
    exact ams_ior hx hb hdec H0
  case ixor =>
    have hok := hok rfl
    simp only [am_okE, beq_iff_eq] at hok
    subst hok
    exact ams_ixor hx hb hdec H0
  case idiv =>
    have hok := hok rfl
    simp only [am_okE, beq_iff_eq] at hok
    subst hok
    exact ams_idiv hx hb hdec H0
  case irem =>
    have hok := hok rfl
    simp only [am_okE, beq_iff_eq] at hok
    subst hok
    exact ams_irem hx hb hdec H0
  case ineg =>
    have hok := hok rfl
    simp only [am_okE, beq_iff_eq] at hok
    subst hok
    exact ams_ineg hx hb hdec H0
  case ishl =>
    have hok := hok rfl
    simp only [am_okE, beq_iff_eq] at hok
    subst hok
    exact ams_ishl hx hb hdec H0
  case ishr =>
    have hok := hok rfl
    simp only [am_okE, beq_iff_eq] at hok
    subst hok
    exact ams_ishr hx hb hdec H0
  case iushr =>
    have hok := hok rfl
    simp only [am_okE, beq_iff_eq] at hok
    subst hok
    exact ams_iushr hx hb hdec H0
  case ladd =>
    have hok := hok rfl
    simp only [am_okE, beq_iff_eq] at hok
    subst hok
    exact ams_ladd hx hb hdec H0
  case lsub =>
    have hok := hok rfl
    simp only [am_okE, beq_iff_eq] at hok
    subst hok
    exact ams_lsub hx hb hdec H0
  case lmul =>
    have hok := hok rfl
    simp only [am_okE, beq_iff_eq] at hok
    subst hok
    exact ams_lmul hx hb hdec H0
  case ldiv =>
    have hok := hok rfl
    simp only [am_okE, beq_iff_eq] at hok
    subst hok
    exact ams_ldiv hx hb hdec H0
  case lrem =>
    have hok := hok rfl
    simp only [am_okE, beq_iff_eq] at hok
    subst hok
    exact ams_lrem hx hb hdec H0
  case lcmp =>
    have hok := hok rfl
    simp only [am_okE, beq_iff_eq] at hok
    subst hok
    exact ams_lcmp hx hb hdec H0
  case i2l =>
    have hok := hok rfl
    simp only [am_okE, beq_iff_eq] at hok
    subst hok
    exact ams_i2l hx hb hdec H0
  case l2i =>
    have hok := hok rfl
    simp only [am_okE, beq_iff_eq] at hok
    subst hok
    exact ams_l2i hx hb hdec H0
  case i2b =>
    have hok := hok rfl
    simp only [am_okE, beq_iff_eq] at hok
    subst hok
    exact ams_i2b hx hb hdec H0
  case i2s =>
    have hok := hok rfl
    simp only [am_okE, beq_iff_eq] at hok
    subst hok
    exact ams_i2s hx hb hdec H0
  case i2c =>
    have hok := hok rfl
    simp only [am_okE, beq_iff_eq] at hok
    subst hok
    exact ams_i2c hx hb hdec H0
  case dup =>
    have hok := hok rfl
    simp only [am_okE, beq_iff_eq] at hok
    subst hok
    cases st with
    | nil => exact False.elim H0
    | cons v r =>
      have H1 : (if v.category = 1 then am_Wp p l e R s m args below meth c D dA A ro ad0 n0 nL lim Qm (pc + 1, L, v :: v :: r, u) h else False) := H0
      split at H1
      · exact ams_dup hx hb hdec (by assumption) H1
      · exact H1.elim
  case dup2 =>
    have hok := hok rfl
    simp only [am_okE, beq_iff_eq] at hok
    subst hok
    match st, H0 with
    | v :: w :: r, H0 =>
      have H1 : (if v.category = 1 ∧ w.category = 1 then am_Wp p l e R s m args below meth c D dA A ro ad0 n0 nL lim Qm (pc + 1, L, v :: w :: v :: w :: r, u) h else False) := H0
      split at H1
      · rename_i hz; exact ams_dup2 hx hb hdec hz.1 hz.2 H1
      · exact H1.elim
  case pop =>
    have hok := hok rfl
    simp only [am_okE, beq_iff_eq] at hok
    subst hok
    cases st with
    | nil => exact False.elim H0
    | cons v r =>
      have H1 : (if v.category = 1 then am_Wp p l e R s m args below meth c D dA A ro ad0 n0 nL lim Qm (pc + 1, L, r, u) h else False) := H0
      split at H1
      · exact ams_pop hx hb hdec (by assumption) H1
      · exact H1.elim
  case ifCond cd off =>
    have hok := hok rfl
    simp only [am_okE, Bool.and_eq_true, beq_iff_eq, decide_eq_true_eq] at hok
    obtain ⟨rfl, hv⟩ := hok
    cases cd
    case eq => exact ams_if_eq hx hb hdec hv H0
    case ne => exact ams_if_ne hx hb hdec hv H0
    case lt => exact ams_if_lt hx hb hdec hv H0
    case ge => exact ams_if_ge hx hb hdec hv H0
    case gt => exact ams_if_gt hx hb hdec hv H0
    case le => exact ams_if_le hx hb hdec hv H0
  case if_icmp cd off =>
    have hok := hok rfl
    simp only [am_okE, Bool.and_eq_true, beq_iff_eq, decide_eq_true_eq] at hok
    obtain ⟨rfl, hv⟩ := hok
    cases cd
    case eq => exact ams_icmp_eq hx hb hdec hv H0
    case ne => exact ams_icmp_ne hx hb hdec hv H0
    case lt => exact ams_icmp_lt hx hb hdec hv H0
    case ge => exact ams_icmp_ge hx hb hdec hv H0
    case gt => exact ams_icmp_gt hx hb hdec hv H0
    case le => exact ams_icmp_le hx hb hdec hv H0
  case goto off =>
    have hok := hok rfl
    simp only [am_okE, Bool.and_eq_true, beq_iff_eq, decide_eq_true_eq] at hok
    obtain ⟨rfl, hv⟩ := hok
    exact ams_goto hx hb hdec hv H0
  case tableswitch df lo hi offs =>
    have hok := hok rfl
    simp only [am_okE, Bool.and_eq_true, decide_eq_true_eq, List.all_eq_true] at hok
    exact ams_table hx hb hdec hok.1.1 (fun o ho => hok.1.2 o ho) hok.2 H0
  case lookupswitch df ps =>
    have hok := hok rfl
    simp only [am_okE, Bool.and_eq_true, decide_eq_true_eq] at hok
    refine ams_lookup hx hb hdec hok.2 (fun x => ?_) H0
    have h1 := hok.1.1
    have h2 : ∀ o ∈ ps.toList, 0 ≤ (pc : Int) + o.2 := fun o ho => of_decide_eq_true (List.all_eq_true.mp hok.1.2 o ho)
    exact am_lsw_ok ps.toList df x.toInt (pc : Int) h1 h2
  case getfield idx => exact hoth rfl H0
  case putfield idx => exact hoth rfl H0
  case getstatic idx => exact hoth rfl H0
  case iaload =>
    have hok := hok rfl
    simp only [am_okE, beq_iff_eq] at hok
    subst hok
    exact ams_iaload hx hb hK hr hro hn0 hdec H0
  case arraylength =>
    have hok := hok rfl
    simp only [am_okE, beq_iff_eq] at hok
    subst hok
    exact ams_arraylength hx hb hK hr hro hn0 hdec H0
  case baload =>
    have hok := hok rfl
    simp only [am_okE, beq_iff_eq] at hok
    subst hok
    exact ams_baload hx hb hK hr hdec H0
  case caload =>
    have hok := hok rfl
    simp only [am_okE, beq_iff_eq] at hok
    subst hok
    exact ams_caload hx hb hK hr hdec H0
  case laload =>
    have hok := hok rfl
    simp only [am_okE, beq_iff_eq] at hok
    subst hok
    exact ams_laload hx hb hK hr hdec H0
  case aaload =>
    have hok := hok rfl
    simp only [am_okE, beq_iff_eq] at hok
    subst hok
    exact ams_aaload hx hb hK hr hdec H0
  case iastore =>
    have hok := hok rfl
    simp only [am_okE, beq_iff_eq] at hok
    subst hok
    exact ams_iastore hx hb hK hr hdec H0
  case bastore =>
    have hok := hok rfl
    simp only [am_okE, beq_iff_eq] at hok
    subst hok
    exact ams_bastore hx hb hK hr hdec H0
  case castore =>
    have hok := hok rfl
    simp only [am_okE, beq_iff_eq] at hok
    subst hok
    exact ams_castore hx hb hK hr hdec H0
  case lastore =>
    have hok := hok rfl
    simp only [am_okE, beq_iff_eq] at hok
    subst hok
    exact ams_lastore hx hb hK hr hdec H0
  case aastore =>
    have hok := hok rfl
    simp only [am_okE, beq_iff_eq] at hok
    subst hok
    exact ams_aastore hx hb hK hr hdec H0
  case newarray at_ =>
    have hok := hok rfl
    simp only [am_okE, Bool.and_eq_true, Bool.or_eq_true, beq_iff_eq] at hok
    obtain ⟨⟨rfl, hv⟩, hp⟩ := hok
    have hp' : newarray.typeOf at_ = .int ∨ newarray.typeOf at_ = .char ∨ newarray.typeOf at_ = .boolean ∨ newarray.typeOf at_ = .long := by
      rcases hp with ((z | z) | z) | z
      · exact Or.inl z
      · exact Or.inr (Or.inl z)
      · exact Or.inr (Or.inr (Or.inl z))
      · exact Or.inr (Or.inr (Or.inr z))
    exact ams_newarray (t0 := 0) hx hb rfl hp' (hts _ (am_inT_use hv)) hK hA hR hdec H0
  case anewarray idx => exact hoth rfl H0
  case new idx => exact hoth rfl H0
  case invokestatic idx => exact hoth rfl H0
  case invokevirtual idx => exact hoth rfl H0
  case invokespecial idx => exact hoth rfl H0
  case ireturn => exact hoth rfl H0
  case lreturn => exact hoth rfl H0
  case areturn => exact hoth rfl H0
  case return_ => exact hoth rfl H0
end
end
section
/-! calls out of any class's own code, by their links -/
section
variable {p : Program} {l : Launch} {e : Env} {R : Room} {s : State} {m : MethodId} {args : Array Value} {below : List Frame} {meth : Method} {c : Code}
variable {D : va_G} {dA : Nat → ClassId} {A : Nat → Prop} {ro : Nat → am_C} {ad0 : Nat → Nat} {n0 nL : Nat} {lim : Nat × Nat} {Qm : State → Prop}
variable {cc : ByteArray} {pc : Nat} {L : List (Option Value)} {st : List Value} {u : Nat × Nat} {h : am_H}
set_option maxHeartbeats 4000000 in
theorem lw_hv {d a np ci idx ml N : Nat} {own : String} {y : MethodName} {bytes : ByteArray} {rt' : Option FieldType} {T : u_T} (hx : p.tables.exec = Jvm.exec) (hb : c.code = cc) (hml : c.maxLocals = nL) (hown : s.vm.findClass own = some m.cls) (hts : ∀ w ∈ am_gt, w.before args s = true) (hK : va_K D vwCl (am_tys dA) s) (hr : am_roS ro) (hA : ∀ q, s.heap.size ≤ q → A q) (hro : am_RO ro ad0 A s s.heap) (hn0 : 40 ≤ n0) (hR : lim.1 ≤ R.cells ∧ lim.2 ≤ R.slots) (hRf : d + 1 ≤ R.frames) (hRl : 40 * (d + 1) ≤ R.locals)
    (hall : am_OkAll) (hcall : ∀ k as h Q, am_call d k as h Q → k < 900 → am_MetOk l d k as h Q)
    (hrow : am_mt[a]? = some (y, bytes, ml, rt', 1, np)) (ha : a < 900) (hcl : vwCl[ci]? = some (y.cls, T, N)) (hlink : Cond.methodLink own idx y ∈ am_gt) (hdec : decode cc pc = .ok (.invokevirtual idx, 3))
    (H0 : am_inv (am_call d) a (np + 1) (ci + 1) (am_Wp p l e R s m args below meth c D dA A ro ad0 n0 nL lim Qm) lim pc L st u h) : am_Wp p l e R s m args below meth c D dA A ro ad0 n0 nL lim Qm (pc, L, st, u) h := by
  unfold am_inv at H0
  split at H0
  case isFalse => exact H0.elim
  rename_i hcond
  obtain ⟨hcat, hbl, hu1', hu2'⟩ := hcond
  intro ad H locs ls had hn hP hD hS hokh hl hLo hst hu1 hu2
  have hargs : ∀ v ∈ (st.take (np + 1)).reverse, am_okv h.1 v := fun v hv => hst v (List.mem_of_mem_take (List.mem_reverse.mp hv))
  have hrest : ∀ v ∈ st.drop (np + 1), am_okv h.1 v := fun v hv => hst v (List.mem_of_mem_drop hv)
  have hcat' : 2 * (F0 m pc ls (st.map (am_cv ad))).monitorRoom + (((st.drop (np + 1)).map (am_cv ad)).map fun v => v.category).sum ≤ 8 := by rw [am_mon, am_cats_cv]; omega
  have hpre : ∀ as, ∀ U : State, U.heap = H → s.WarmedH U.vm → am_Pc D dA ro ad h H.size as (as.map (am_cv ad)).toArray U := fun as => am_pre (as := as) hK hA hro hn0 had hP hD hS
  have hlen : (st.take (np + 1)).length = np + 1 := by rw [List.length_take]; omega
  obtain ⟨ow', w0, w1, w2, w3, hM⟩ := hall a _ hrow
  obtain ⟨-, k2, k3, -, k5, k6, -, k8, -, k10, -⟩ := am_okM_use hM
  simp only at H0
  split at H0
  case h_2 => exact H0.elim
  rename_i q hq
  obtain ⟨fs, hqc, H1⟩ := am_obj_use H0
  have hMet := hcall a _ h _ H1 ha _ hrow D dA ro ad H.size hokh hr hargs
  obtain ⟨As', hAs⟩ : ∃ As', (st.take (np + 1)).reverse = .ref q :: As' := by
    have z : (st.take (np + 1)).reverse.head? = some (.ref q) := by rw [List.head?_reverse]; exact hq
    cases hz : (st.take (np + 1)).reverse with
    | nil => rw [hz] at z; cases z
    | cons x r => rw [hz] at z; simp at z; exact ⟨r, by rw [z]⟩
  have hqn : q < h.1 := hargs (.ref q) (by rw [hAs]; simp) q rfl
  have hci : ci < 9 := am_ci9 hcl
  have h40 := am_hi_obj hokh hr hqc hci
  have hw := am_ws_at (dA := dA) (ad := ad) h40 hqn
  rw [hqc] at hw
  rw [hAs] at hMet
  have hlenA : As'.length = np := by
    have := congrArg List.length hAs
    rw [List.length_reverse, hlen] at this
    simp at this
    omega
  have cb := callB_of (R := R) (s := s) (args := args) (own := own) (index := idx) _ hts (am_goodIn k2) rfl (rm := am_rm d a) rfl rfl (hts _ k3) (hts _ hlink) k8 ⟨hRf, by simp only [am_rm] at *; omega⟩
  refine ams_ran hA had hn hD hS hl hLo hrest hu1' hu2' (?_ : va_Run p l e R s m args below meth c H locs u.1 u.2 (am_lim a).1 (am_lim a).2 (F0 m pc ls (st.map (am_cv ad))) ((st.drop (np + 1)).map (am_cv ad)) (am_Qc D dA ro ad h H.size (fun v h' => am_Wp p l e R s m args below meth c D dA A ro ad0 n0 nL lim Qm (pc + 3, L, v.toList ++ st.drop (np + 1), u.1 + (am_lim a).1, u.2 + (am_lim a).2) h') (Value.ref (ad q) :: As'.map (am_cv ad)).toArray) (va_A (am_ws dA ad h) H.size)) (fun v h' z => z)
  refine va_runV (b := ad q) (As := As'.map (am_cv ad)) (C := y.cls) ⟨hx, hb, hml, hown, hts⟩ hMet ⟨cb, hts _ (k5 (show ¬ (1 : Nat) = 0 by decide)), hts _ (k6 rfl)⟩ ⟨am_blind, va_recv hK hP hcl hw, fun U hU hW => hpre (.ref q :: As') U hU hW⟩ rfl (by rw [List.length_map]; exact hlenA) hl.1 ?_ hcat' hdec ⟨by omega, by omega⟩
  show st.map (am_cv ad) = _
  rw [am_stk (b := np + 1) ad st, hAs]
  simp [am_cv]
set_option maxHeartbeats 4000000 in
theorem lw_hi {d a np ci idx ml : Nat} {own : String} {y : MethodName} {bytes : ByteArray} {rt' : Option FieldType} (hx : p.tables.exec = Jvm.exec) (hb : c.code = cc) (hml : c.maxLocals = nL) (hown : s.vm.findClass own = some m.cls) (hts : ∀ w ∈ am_gt, w.before args s = true) (hK : va_K D vwCl (am_tys dA) s) (hr : am_roS ro) (hA : ∀ q, s.heap.size ≤ q → A q) (hro : am_RO ro ad0 A s s.heap) (hn0 : 40 ≤ n0) (hR : lim.1 ≤ R.cells ∧ lim.2 ≤ R.slots) (hRf : d + 1 ≤ R.frames) (hRl : 40 * (d + 1) ≤ R.locals)
    (hall : am_OkAll) (hcall : ∀ k as h Q, am_call d k as h Q → k < 900 → am_MetOk l d k as h Q)
    (hrow : am_mt[a]? = some (y, bytes, ml, rt', 2, np)) (ha : a < 900) (hlink : Cond.methodLink own idx y ∈ am_gt) (hdec : decode cc pc = .ok (.invokespecial idx, 3))
    (H0 : am_inv (am_call d) a (np + 1) (ci + 1) (am_Wp p l e R s m args below meth c D dA A ro ad0 n0 nL lim Qm) lim pc L st u h) : am_Wp p l e R s m args below meth c D dA A ro ad0 n0 nL lim Qm (pc, L, st, u) h := by
  unfold am_inv at H0
  split at H0
  case isFalse => exact H0.elim
  rename_i hcond
  obtain ⟨hcat, hbl, hu1', hu2'⟩ := hcond
  intro ad H locs ls had hn hP hD hS hokh hl hLo hst hu1 hu2
  have hargs : ∀ v ∈ (st.take (np + 1)).reverse, am_okv h.1 v := fun v hv => hst v (List.mem_of_mem_take (List.mem_reverse.mp hv))
  have hrest : ∀ v ∈ st.drop (np + 1), am_okv h.1 v := fun v hv => hst v (List.mem_of_mem_drop hv)
  have hcat' : 2 * (F0 m pc ls (st.map (am_cv ad))).monitorRoom + (((st.drop (np + 1)).map (am_cv ad)).map fun v => v.category).sum ≤ 8 := by rw [am_mon, am_cats_cv]; omega
  have hpre : ∀ as, ∀ U : State, U.heap = H → s.WarmedH U.vm → am_Pc D dA ro ad h H.size as (as.map (am_cv ad)).toArray U := fun as => am_pre (as := as) hK hA hro hn0 had hP hD hS
  have hlen : (st.take (np + 1)).length = np + 1 := by rw [List.length_take]; omega
  obtain ⟨ow', w0, w1, w2, w3, hM⟩ := hall a _ hrow
  obtain ⟨-, k2, k3, -, k5, -, k7, k8, -, k10, -⟩ := am_okM_use hM
  obtain ⟨k71, k72⟩ := k7 rfl
  dsimp only at k71 k72
  subst k72
  simp only at H0
  split at H0
  case h_2 => exact H0.elim
  rename_i q hq
  obtain ⟨fs, hqc, H1⟩ := am_obj_use H0
  have hMet := hcall a _ h _ H1 ha _ hrow D dA ro ad H.size hokh hr hargs
  obtain ⟨As', hAs⟩ : ∃ As', (st.take (np + 1)).reverse = .ref q :: As' := by
    have z : (st.take (np + 1)).reverse.head? = some (.ref q) := by rw [List.head?_reverse]; exact hq
    cases hz : (st.take (np + 1)).reverse with
    | nil => rw [hz] at z; cases z
    | cons x r => rw [hz] at z; simp at z; exact ⟨r, by rw [z]⟩
  rw [hAs] at hMet
  have hlenA : As'.length = np := by
    have := congrArg List.length hAs
    rw [List.length_reverse, hlen] at this
    simp at this
    omega
  refine ams_ran hA had hn hD hS hl hLo hrest hu1' hu2' (?_ : va_Run p l e R s m args below meth c H locs u.1 u.2 (am_lim a).1 (am_lim a).2 (F0 m pc ls (st.map (am_cv ad))) ((st.drop (np + 1)).map (am_cv ad)) (am_Qc D dA ro ad h H.size (fun v h' => am_Wp p l e R s m args below meth c D dA A ro ad0 n0 nL lim Qm (pc + 3, L, v.toList ++ st.drop (np + 1), u.1 + (am_lim a).1, u.2 + (am_lim a).2) h') (Value.ref (ad q) :: As'.map (am_cv ad)).toArray) (va_A (am_ws dA ad h) H.size)) (fun v h' z => z)
  have hstack : st.map (am_cv ad) = (As'.map (am_cv ad)).reverse ++ .ref (ad q) :: (st.drop (np + 1)).map (am_cv ad) := by
    rw [am_stk (b := np + 1) ad st, hAs]
    simp [am_cv]
  have cb := callB_of (R := R) (s := s) (args := args) (own := own) (index := idx) _ hts (am_goodIn k2) rfl (rm := am_rm d a) rfl rfl (hts _ k3) (hts _ hlink) k8 ⟨hRf, by simp only [am_rm] at *; omega⟩
  exact va_runI (b := ad q) (As := As'.map (am_cv ad)) ⟨hx, hb, hml, hown, hts⟩ hMet ⟨cb, k71, hts _ (k5 (show ¬ (2 : Nat) = 0 by decide))⟩ ⟨am_blind, fun U hU hW => hpre (.ref q :: As') U hU hW⟩ rfl (by rw [List.length_map]; exact hlenA) hl.1 hstack hcat' hdec ⟨by omega, by omega⟩
/-- a static method with a table of its own -/
def am_wH (y : MethodName) (bytes : ByteArray) (ml : Nat) (rt : Option FieldType) (hh : List (Nat × Nat × Nat × Nat)) : List Cond := .codeWith y bytes ml rt hh :: am_gt
def am_MetH (l : Launch) (y : MethodName) (bytes : ByteArray) (ml : Nat) (rt : Option FieldType) (hh : List (Nat × Nat × Nat × Nat)) (rm : Room) (as : List Value) (h : am_H) (Q : Option Value → am_H → Prop) : Prop := ∀ (D : va_G) (dA : Nat → ClassId) (ro : Nat → am_C) (ad : Nat → Nat) (sz : Nat), am_okh ro h → am_roS ro → (∀ v ∈ as, am_okv h.1 v) →
  Met l y (am_wH y bytes ml rt hh) rm (am_Pc D dA ro ad h sz as) (am_Qc D dA ro ad h sz Q) rm.cells rm.slots (va_A (am_ws dA ad h) sz)
set_option maxHeartbeats 4000000 in
theorem lw_hs {a np idx ml : Nat} {own : String} {y : MethodName} {bytes : ByteArray} {rt' : Option FieldType} {hh : List (Nat × Nat × Nat × Nat)} {rm : Room} {call : am_K} (hx : p.tables.exec = Jvm.exec) (hb : c.code = cc) (hml : c.maxLocals = nL) (hown : s.vm.findClass own = some m.cls) (hts : ∀ w ∈ am_gt, w.before args s = true) (hK : va_K D vwCl (am_tys dA) s) (hr : am_roS ro) (hA : ∀ q, s.heap.size ≤ q → A q) (hro : am_RO ro ad0 A s s.heap) (hn0 : 40 ≤ n0) (hR : lim.1 ≤ R.cells ∧ lim.2 ≤ R.slots) (hRf : rm.frames + 1 ≤ R.frames) (hRl : 8 + (ml + 11) + rm.locals ≤ R.locals)
    (hrm : (am_lim a).1 = rm.cells ∧ (am_lim a).2 = rm.slots) (hcall : ∀ as h Q, call a as h Q → am_MetH l y bytes ml rt' hh rm as h Q)
    (hlink : Cond.methodLink own idx y ∈ am_gt) (hstat : Cond.static y ∈ am_gt) (hini : Cond.initialized y.cls ∈ am_gt) (hcode : Cond.codeWith y bytes ml rt' hh ∈ am_gt)
    (hd : y.cls ≠ "java/lang/invoke/MethodHandle" ∧ y.cls ≠ "java/lang/invoke/VarHandle" ∧ (parseMethodDescriptor y.desc).map (fun d => d.parameters.length) = some np) (hdec : decode cc pc = .ok (.invokestatic idx, 3))
    (H0 : am_inv call a np 0 (am_Wp p l e R s m args below meth c D dA A ro ad0 n0 nL lim Qm) lim pc L st u h) : am_Wp p l e R s m args below meth c D dA A ro ad0 n0 nL lim Qm (pc, L, st, u) h := by
  unfold am_inv at H0
  split at H0
  case isFalse => exact H0.elim
  rename_i hcond
  obtain ⟨hcat, hbl, hu1', hu2'⟩ := hcond
  simp only at H0
  intro ad H locs ls had hn hP hD hS hokh hl hLo hst hu1 hu2
  have hargs : ∀ v ∈ (st.take np).reverse, am_okv h.1 v := fun v hv => hst v (List.mem_of_mem_take (List.mem_reverse.mp hv))
  have hrest : ∀ v ∈ st.drop np, am_okv h.1 v := fun v hv => hst v (List.mem_of_mem_drop hv)
  have hcat' : 2 * (F0 m pc ls (st.map (am_cv ad))).monitorRoom + (((st.drop np).map (am_cv ad)).map fun v => v.category).sum ≤ 8 := by rw [am_mon, am_cats_cv]; omega
  have hpre : ∀ as, ∀ U : State, U.heap = H → s.WarmedH U.vm → am_Pc D dA ro ad h H.size as (as.map (am_cv ad)).toArray U := fun as => am_pre (as := as) hK hA hro hn0 had hP hD hS
  have hlen : (st.take np).length = np := by rw [List.length_take]; omega
  have hMet := hcall _ h _ H0 D dA ro ad H.size hokh hr hargs
  rw [← hrm.1, ← hrm.2] at hMet
  refine ams_ran hA had hn hD hS hl hLo hrest hu1' hu2' (?_ : va_Run p l e R s m args below meth c H locs u.1 u.2 (am_lim a).1 (am_lim a).2 (F0 m pc ls (st.map (am_cv ad))) ((st.drop np).map (am_cv ad)) (am_Qc D dA ro ad h H.size (fun v h' => am_Wp p l e R s m args below meth c D dA A ro ad0 n0 nL lim Qm (pc + 3, L, v.toList ++ st.drop np, u.1 + (am_lim a).1, u.2 + (am_lim a).2) h') (((st.take np).reverse).map (am_cv ad)).toArray) (va_A (am_ws dA ad h) H.size)) (fun v h' z => z)
  refine vx_runSW (As := ((st.take np).reverse).map (am_cv ad)) ⟨hx, hb, hml, hown, hts⟩ hMet (vx_cwSW np hts (fun w hw => ?_) rfl hrm.1.symm hrm.2.symm hd ⟨hRf, hRl⟩) ⟨am_blind, hpre _⟩ rfl (by rw [List.length_map, List.length_reverse]; exact hlen) hl.1 (am_stk ad st) hcat' hdec ⟨by omega, by omega⟩
  have hw' : w = .methodLink own idx y ∨ w = .static y ∨ w = .initialized y.cls ∨ w = .codeWith y bytes ml rt' hh ∨ w ∈ am_gt := by
    unfold va_wsS am_wH at hw
    simp only [List.cons_append, List.nil_append, List.mem_cons] at hw
    exact hw
  rcases hw' with e | e | e | e | e
  · rw [e]; exact ⟨hlink, am_good hlink⟩
  · rw [e]; exact ⟨hstat, am_good hstat⟩
  · rw [e]; exact ⟨hini, am_good hini⟩
  · rw [e]; exact ⟨hcode, am_good hcode⟩
  · exact ⟨e, am_good e⟩
end
end
section
/-! throwing a new exception whose constructor calls its superclass's by an index of its own, in a launch without stack traces: the walk is the library's (BundleOwnThrow.lean), the chain that of Shelf42/F29a.lean; of the thrown cell only its class is said -/
section
variable {p : Program} {l : Launch} {e : Env} {R : Room} {s : State} {m₀ : MethodId} {args : Array Value} {below : List Frame} {meth : Method} {c : Code} {V : State} {locs : List Loc} {cells slots : Nat}
set_option maxHeartbeats 1000000 in
theorem th_ctor (X : Stand p l e R s m₀ args below meth c V locs cells slots) (hexec : p.tables.exec = Jvm.exec) (htr : e.platform.stackTraces = false) {own cls : String} {names : List String} {ic : Nat}
    {ix : Nat} {rx : ByteArray} (x0 : decode rx 0 = .ok (.aload_n 0, 1)) (x1 : decode rx 1 = .ok (.aload_n 1, 1)) (x2 : decode rx 2 = .ok (.invokespecial ix, 3)) (x5 : decode rx 5 = .ok (.return_, 1))
    (hown : s.vm.findClass own = some m₀.cls) (hcls : Bundle.fit cls = true) (hnames : ∀ n ∈ names, Bundle.fit n = true)
    (h : ∀ a ∈ Bundle.ownAtomsX own ic cls ix rx names, a.before args s = true) (hlocs : ∀ x ∈ locs, ∀ cell, s.heap[x.base]? = some cell → cell.vm.isStatics = false)
    {a : Addr} {cX : ClassId} {kX : Class} (hfoundX : s.vm.findClass cls = some cX) (hkX : s.vm.classes[cX]? = some kX) (hcell : V.heap[a]? = some (freshCell cX kX)) (hnew : s.heap.size ≤ a)
    {msg : Value} (hmsg : msg.isRef = true)
    {g : JFrame} (hg : g.method = m₀) (hsize : g.locals.size = c.maxLocals) (hlocked : g.locked = none) (hentered : g.entered = []) {rest : List Value} (hstack : g.stack = msg :: .ref a :: .ref a :: rest)
    (hd6 : decode c.code g.pc = .ok (.invokespecial ic, 3)) (hd9 : decode c.code (g.pc + 3) = .ok (.athrow, 1)) (hout : ∀ x ∈ c.exceptionTable.toList, covers x (g.pc + 3) = false)
    (hRframes : names.length + 3 < R.frames) (hRlocals : 2 * g.monitorRoom + ((Value.ref a :: rest).map fun v => v.category).sum + (13 * (names.length + 1) + 42) ≤ R.locals) (hlocks : meth.locks = false) :
    ∃ U : State, Steps p.tables e below (V.setTop g) U ∧ U.status = .running ∧ Ended U below (.threw a) ∧ s.WarmedH U.vm ∧ s.sameButNew ({ U with vm := s.vm } : State) locs cells slots ∧
      ∃ ce, U.heap[a]? = some ce ∧ ce.vm = .none ∧ s.vm.findClass cls = some ce.cls := by
  have howns : e.platform.frameOwnsMonitors = true := by rw [X.admits.platform]
  have hfin : e.platform.finalization = false := by rw [X.admits.platform]
  have hpl : e.platform.magicAccessors = ({} : Platform).magicAccessors := by rw [X.admits.platform]
  have a' : ∀ x, x ∈ Bundle.ownAtomsX own ic cls ix rx names → x.holds args s none s [] = true := fun x hx => h x hx
  obtain ⟨T, Z0, L, -, Y⟩ := ThrowableC.of_atoms (args := args) howns hfin hpl (fun x hx => h x (by simp [Bundle.ownAtomsX, hx]))
  obtain ⟨Z, M, LZ, LM, hnZ⟩ := Init0T.ofS_atoms (args := args) hpl L Y (fun x hx => h x (by simp [Bundle.ownAtomsX, hx]))
  obtain ⟨P1, Ps, hlen, L1, hL, hP1m, hlink1, hlink⟩ := Bundle.chainSX (args := args) hpl hnZ x0 x1 x2 x5 names cls hcls hnames (fun x hx => h x (by simp [Bundle.ownAtomsX, hx]))
  have hfound : s.vm.findClass cls = some P1.m.cls := findClass_of_methodNamed hP1m
  cases Option.some.inj (hfoundX.symm.trans hfound)
  obtain ⟨c1, kX', hc1, hk, hord, -, -, hn6⟩ := Cond.instantiable_spec (a' (.instantiable cls 6) (by simp [Bundle.ownAtomsX]))
  cases Option.some.inj (hc1.symm.trans hfound)
  cases Option.some.inj (hkX.symm.trans hk)
  have hselA : ∀ {t : MethodName} {mt : MethodId}, s.methodNamed? t = some mt → (t.cls ≠ "java/lang/invoke/MethodHandle" ∧ t.cls ≠ "java/lang/invoke/VarHandle") → (Cond.selects cls t t).holds args s none s [] = true → selectMethod e.platform s.vm P1.m.cls mt = .method mt := by
    intro t mt hn hy hs
    obtain ⟨c2, r2, m2, q1, q2, q3, q4, -⟩ := Cond.selects_spec hs
    cases Option.some.inj (q1.symm.trans hfound)
    cases Option.some.inj (q2.symm.trans (State.methodFound?_of_named hn hy))
    cases Option.some.inj (q3.symm.trans hn)
    rw [Launch.admits_selectMethod X.admits]; exact q4
  have hsel0 : selectMethod e.platform s.vm P1.m.cls T.fill0 = .method T.fill0 := hselA Y.fill0 (by decide) (a' (.selects cls Bundle.tFill0 Bundle.tFill0) (by simp [Bundle.ownAtomsX]))
  have hselF : selectMethod e.platform s.vm P1.m.cls T.fill = .method T.fill := hselA Y.fill (by decide) (a' (.selects cls Bundle.tFill Bundle.tFill) (by simp [Bundle.ownAtomsX]))
  obtain ⟨cellS0, hcS0, hiss⟩ := Y.statics
  obtain ⟨u0, hu0⟩ := Cond.staticRefV Y.unassigned L.unassignedStatic L.statics hcS0 hiss (a' (.isRef (.static Bundle.tN "UNASSIGNED_STACK" Bundle.steD)) (by simp [Bundle.ownAtomsX]))
  obtain ⟨sen, hsen⟩ := Cond.staticRefV Y.sentinel L.sentinelStatic L.statics hcS0 hiss (a' (.isRef (.static Bundle.tN "SUPPRESSED_SENTINEL" Bundle.listD)) (by simp [Bundle.ownAtomsX]))
  obtain ⟨ci198, i198, fB, hk198, hg198, ha198, hsB, -, hnB, htB, hffB⟩ := Cond.ownField (t := .object "java/lang/Object") Y.found L.cls (by decide +kernel) (a' (.fieldLink Bundle.tN 198 Bundle.tN "backtrace" "Ljava/lang/Object;") (by simp [Bundle.ownAtomsX])) (a' (.lays Bundle.tN Bundle.tN "backtrace" "Ljava/lang/Object;") (by simp [Bundle.ownAtomsX])) e.platform hpl
  obtain ⟨cellS, hcS', heS, -, hkeep⟩ := X.same.2.2.2.2.2 T.aS cellS0 hcS0
  have hcellS : V.heap[T.aS]? = some cellS := hcS'
  have hout' : ∀ i, (⟨T.aS, i⟩ : Loc) ∉ locs := fun i hmem => by
    have := hlocs _ hmem cellS0 hcS0
    rw [hiss] at this; cases this
  have hknownS : cellS.vm ≠ .unknown := by
    rw [heS]; intro hu
    rw [show cellS0.vm = .unknown from hu] at hiss
    cases hiss
  have hneS : T.aS ≠ a := Nat.ne_of_lt (Nat.lt_of_lt_of_le (Array.getElem?_eq_some_iff.mp hcS0).1 hnew)
  obtain ⟨iM, hffM⟩ := Y.msg
  obtain ⟨tyC, dC, hdC, hdnC⟩ := Cond.laysAt hfound hk Y.cause (a' (.lays cls Bundle.tN "cause" "Ljava/lang/Throwable;") (by simp [Bundle.ownAtomsX]))
  obtain ⟨tyS, dS, hdS, hdnS⟩ := Cond.laysAt hfound hk Y.stack (a' (.lays cls Bundle.tN "stackTrace" Bundle.steD) (by simp [Bundle.ownAtomsX]))
  obtain ⟨tyP, dP, hdP, hdnP⟩ := Cond.laysAt hfound hk Y.supp (a' (.lays cls Bundle.tN "suppressedExceptions" Bundle.listD) (by simp [Bundle.ownAtomsX]))
  obtain ⟨tyM, dM, hdM, hdnM⟩ := Cond.laysAt hfound hk hffM (a' (.lays cls Bundle.tN "detailMessage" "Ljava/lang/String;") (by simp [Bundle.ownAtomsX]))
  obtain ⟨tyB, dB, hdB, hdnB⟩ := Cond.laysAt hfound hk hffB (a' (.lays cls Bundle.tN "backtrace" "Ljava/lang/Object;") (by simp [Bundle.ownAtomsX]))
  have bC := Cond.laysApart hdB hdC hdnB hdnC (by rw [hnB, Y.causeName]; decide)
  have bS := Cond.laysApart hdB hdS hdnB hdnS (by rw [hnB, Y.stackName]; decide)
  have bP := Cond.laysApart hdB hdP hdnB hdnP (by rw [hnB, Y.suppName]; decide)
  have hskip : SkipFacts T e.platform s (fun u => u) u0 ((preparedCellV T.toThrowableT (freshCell P1.m.cls kX) a u0 sen).withEntry V.cur) :=
    ⟨{ ci198 := ci198, i198 := i198, fBack := fB }, ⟨hk198, hg198, ha198, hsB⟩, by
      have := fresh_default (c := P1.m.cls) tyB
      rw [htB] at this
      simpa [preparedCellV, Cell.setSlot, Cell.withEntry, Array.getElem?_setIfInBounds, bC, bS, bP, bC.symm, bS.symm, bP.symm, defaultValue] using this, fun _ _ => rfl⟩
  obtain ⟨tm, methC, cdC, kC, vm₁, hnC, -, -, -, -, -, -, -, hW₁, st1⟩ := Steps.initColdS (tb := p.tables) (e := e) (below := below) (s := s) (U := V) X.here hexec X.warmed hpl hown (t := Bundle.initS cls) rfl rfl (Bundle.fit_spec hcls).2
    (a' (.methodLink own ic (Bundle.initS cls)) (by simp [Bundle.ownAtomsX])) (h (.instanceMethod (Bundle.initS cls)) (by cases names <;> simp [Bundle.ownAtomsX, Bundle.chainSAtomsX, Bundle.passSAtoms])) (bytes := rx) (maxL := 2) (h (.code (Bundle.initS cls) rx 2 none) (by cases names <;> simp [Bundle.ownAtomsX, Bundle.chainSAtomsX, Bundle.passSAtoms]))
    (f := g) hg (a := a) (msg := msg) (rest := .ref a :: rest) hstack hd6
  cases Option.some.inj (hnC.symm.trans hP1m)
  have X₁ := X.noted hW₁
  obtain ⟨vm₂, X₂, st2⟩ := X₁.ctorMessageOffV hexec (g := { g with stack := .ref a :: rest }) hg hsize T L Z LZ M LM (P1 :: Ps)
    (fun P hP => by rcases List.mem_cons.mp hP with rfl | hP; exact L1; exact hL P hP) ⟨hlink1, hlink⟩ (u0 := u0) (sen := sen) (self := a) hmsg (cell := freshCell P1.m.cls kX) (cellS := cellS)
    hcell (fun _ => by simp) (by simp) rfl rfl hsel0 hselF hcellS hneS hknownS (by rw [hkeep _ (hout' _)]; exact hu0) (by rw [hkeep _ (hout' _)]; exact hsen)
    (Takes.of_laid hk hord tyC (by rw [Y.causeType]; rfl)) (Takes.of_laid hk hord tyS (by rw [Y.stackType]; exact fits_refV_array _ u0)) (Takes.of_laid hk hord tyP (by rw [Y.suppType]; exact fits_refV_object _ sen))
    (Takes.of_laid hk hord tyM (by rw [Y.msgType]; exact fits_refV_object _ ⟨msg, hmsg⟩)) Y.objLocals hskip htr [] hd6
    (by simp only [List.length_cons, hlen]; omega) (by simp only [List.length_cons, hlen]; exact hRlocals)
  obtain ⟨hwalk, hrun, hended, hWU, hsame⟩ := X₂.athrowLeaves hexec (g := { g with stack := .ref a :: rest, pc := g.pc + 3 }) hg hlocked hentered hout (a := a) (rest := rest) rfl hd9
  have hlt : a < ((V.setVm vm₁).setVm vm₂).heap.size := (Array.getElem?_eq_some_iff.mp hcell).1
  have hU := heapAt_setCell_self (s := (V.setVm vm₁).setVm vm₂) (plainBareV T.toThrowableT (freshCell P1.m.cls kX) a u0 sen msg) hlt
  refine ⟨_, st1 _ (fun acts => ?_), hrun, hended, hWU, hsame.weaken (fun y hy hlt' => ?_) (Nat.le_refl _) (Nat.le_refl _), _, hU, rfl, hfound⟩
  · rw [doInvoke_state]
    exact st2 _ hwalk
  · rcases List.mem_append.mp hy with h1 | h1
    · exact h1
    · exfalso
      have hb : y.base = a := by
        simp only [List.mem_cons, List.not_mem_nil, or_false] at h1
        rcases h1 with rfl | rfl | rfl | rfl | rfl <;> rfl
      rw [hb] at hlt'
      exact Nat.not_lt.mpr hnew hlt'
end
/-- the words of such a throw but the four that speak of the heap -/
def th_at (own : String) (ic : Nat) (X : String) (ix : Nat) (rx : ByteArray) (names : List String) : List Cond := (Bundle.ownAtomsX own ic X ix rx names).filter vx_no
section
variable {p : Program} {l : Launch} {e : Env} {R : Room} {s : State} {m : MethodId} {args : Array Value} {below : List Frame} {meth : Method} {c : Code} {H : Heap} {locs : List Loc} {cells slots : Nat}
variable {free : Addr → Prop} {ls : Array Slot} {rest : List Value}
variable {Qc : Array Value → State → Outcome → State → Prop} {XC : String → State → State → Prop}
set_option maxHeartbeats 1000000 in
/-- 'throw new E("text")', k: the length of the instruction that brings the text -/
theorem th_throw {cc : ByteArray} {pc k : Nat} (hexec : p.tables.exec = Jvm.exec) (hb : c.code = cc) (hl : l.stackTraces = false) {own cls text : String} {names : List String} {ik is ic mc ms sa : Nat} {A : Nat → Prop}
    {ix : Nat} {rx : ByteArray} (x0 : decode rx 0 = .ok (.aload_n 0, 1)) (x1 : decode rx 1 = .ok (.aload_n 1, 1)) (x2 : decode rx 2 = .ok (.invokespecial ix, 3)) (x5 : decode rx 5 = .ok (.return_, 1))
    (hown : s.vm.findClass own = some m.cls) (hcls : Bundle.fit cls = true) (hnames : ∀ n ∈ names, Bundle.fit n = true)
    (hk : (Cond.classLink own ik cls).before args s = true) (hini : (Cond.initialized cls).before args s = true) (hstr : vk_R own is text sa s) (hat : ∀ w ∈ th_at own ic cls ix rx names, w.before args s = true)
    (hgood : ∀ w ∈ Cond.classLink own ik cls :: Cond.initialized cls :: th_at own ic cls ix rx names, vx_ot w = true)
    (hU : vx_Zq Bundle.tN "UNASSIGNED_STACK" Bundle.steD A s s.heap) (hN : vx_Zq Bundle.tN "SUPPRESSED_SENTINEL" Bundle.listD A s s.heap) (hS : va_S A s.heap H locs) (hsize : ls.size = c.maxLocals)
    (d0 : decode cc pc = .ok (.new ik, 3)) (d3 : decode cc (pc + 3) = .ok (.dup, 1)) (d4 : k = 2 ∧ decode cc (pc + 4) = .ok (.ldc is, 2) ∨ k = 3 ∧ decode cc (pc + 4) = .ok (.ldc_w is, 3)) (d6 : decode cc (pc + 4 + k) = .ok (.invokespecial ic, 3)) (d9 : decode cc (pc + 4 + k + 3) = .ok (.athrow, 1))
    (hout : ∀ x ∈ c.exceptionTable.toList, covers x (pc + 4 + k + 3) = false)
    (hRframes : names.length + 3 < R.frames) (hRlocals : (rest.map fun v => v.category).sum + (13 * (names.length + 1) + 43) ≤ R.locals) (hRcells : cells + 1 ≤ R.cells) (hRslots : slots + 6 ≤ R.slots) (hlocks : meth.locks = false)
    (hx : ∀ t : State, s.vm.Alike t.vm → H.size ≤ t.heap.size → (∀ q : Nat, q < H.size → t.heap[q]? = H[q]?) → XC cls s t)
    (hf : ∀ z ∈ locs, free z.base) (hc : cells + 1 ≤ mc) (hs : slots + 6 ≤ ms) :
    W p l e R s m args below meth c H locs cells slots (vx_MQ below Qc XC args s mc ms free) (F0 m pc ls rest) := by
  intro T hT X
  have htr : e.platform.stackTraces = false := (show e.platform.stackTraces = l.stackTraces by rw [X.admits.platform]).trans hl
  have Y := vx_rebase X (R' := { frames := R.frames, locals := R.locals, cells := 1, slots := 6 }) (Nat.le_refl _) (Nat.le_refl _) hRcells hRslots
  obtain ⟨s', hA⟩ : ∃ z, z = (T.setVm s.vm).setFrames (.invoking m args :: below) := ⟨_, rfl⟩
  rw [← hA] at Y
  have hvm : s'.vm = s.vm := by rw [hA]; rfl
  have hhp : s'.heap = H := by rw [hA]; exact hT
  have hW0 : s.WarmedH s'.vm := by rw [hvm]; exact State.WarmedH.refl s
  have hat' : ∀ w ∈ th_at own ic cls ix rx names, w.before args s' = true := fun w hw => vx_ot_at hW0 hvm.symm (hgood w (List.mem_cons_of_mem _ (List.mem_cons_of_mem _ hw))) (hat w hw)
  have hk' : (Cond.classLink own ik cls).before args s' = true := vx_ot_at hW0 hvm.symm (hgood _ List.mem_cons_self) hk
  have hini' : (Cond.initialized cls).before args s' = true := vx_ot_at hW0 hvm.symm (hgood _ (List.mem_cons_of_mem _ List.mem_cons_self)) hini
  have hU' : vx_Zq Bundle.tN "UNASSIGNED_STACK" Bundle.steD A s' s'.heap := by rw [hhp]; exact vx_Zq.moved hW0.alike (hU.kept hS.2.1)
  have hN' : vx_Zq Bundle.tN "SUPPRESSED_SENTINEL" Bundle.listD A s' s'.heap := by rw [hhp]; exact vx_Zq.moved hW0.alike (hN.kept hS.2.1)
  have h : ∀ w ∈ Bundle.ownAtomsX own ic cls ix rx names, w.before args s' = true := vx_own hat' (vx_isRefq hU'.1) (vx_isRefq hN'.1) hU'.2.word hN'.2.word
  have hown' : s'.vm.findClass own = some m.cls := by rw [hvm]; exact hown
  have hins : (Cond.instantiable cls 6).before args s' = true := h _ (by simp [Bundle.ownAtomsX])
  obtain ⟨vm₁, cX, kX, hfX, hkX, -, -, X₁, st1⟩ := Y.newCold hexec (own := own) (C := cls) (index := ik) (n := 6) hown' hk' hins hini'
    (g := F0 m pc ls rest) rfl (by rw [hb]; exact d0) (Nat.le_refl _) (Nat.le_refl _)
  generalize hT1 : (T.setVm vm₁).pushCell { cls := cX, slots := kX.instanceTypes.map defaultValue, vm := .none } = T1 at X₁ st1
  have hcat : (Value.ref T.heap.size).category = 1 := rfl
  have hcellA : T1.heap[T.heap.size]? = some (freshCell cX kX) := by rw [← hT1]; exact State.heap_pushCell_size _ _
  have d3' : decode c.code (pc + 3) = .ok (.dup, 1) := by rw [hb]; exact d3
  have hstr' : vk_R own is text sa s' := vk_R.warm hW0 hstr
  obtain ⟨U, hsteps, hrun, hend, hW, hsame, ce, hce, hcv, hO⟩ := th_ctor X₁ hexec htr (own := own) (cls := cls) (names := names) (ic := ic) x0 x1 x2 x5 hown' hcls hnames h (fun x hx => nomatch hx) hfX hkX hcellA (by rw [hhp, hT]; exact Nat.le_refl _) (msg := .ref sa) rfl
    (g := { method := m, pc := pc + 4 + k, locals := ls, stack := .ref sa :: .ref T.heap.size :: .ref T.heap.size :: rest, locked := none }) rfl hsize rfl rfl (rest := rest) rfl
    (by rw [hb]; exact d6) (by rw [hb]; exact d9) hout hRframes (by simp only [List.map_cons, List.sum_cons, hcat]; omega) hlocks
  obtain ⟨f1, f2⟩ := vx_frame hsame
  rw [hhp] at f1 f2
  have hWs : s.WarmedH U.vm := State.WarmedH.trans hW0 hW
  have hcl : s.vm.findClass cls = some ce.cls := by
    rw [hvm] at hO
    exact hO
  have hall : s.sameButNew ({ U with vm := s.vm } : State) locs mc ms := by
    subst hA
    obtain ⟨e1, e2⟩ := hsame
    rw [State.setFrames_setFrames] at e1
    have h2 : (T.setVm s.vm).sameButNew ({ U with vm := s.vm } : State) [] (0 + 1) (0 + 6) := ⟨e1, e2⟩
    have h3 := X.same.trans h2
    rw [List.append_nil] at h3
    exact h3.mono hc hs
  refine ⟨U, ?_, .threw T.heap.size, hrun, hend, Or.inr ⟨T.heap.size, rfl, cls, ce, locs, hx U hWs.alike f1 (fun q hq => f2 q hq (fun z hz => nomatch hz)), hce, hcv, hcl, hWs, hall, hf⟩⟩
  refine st1 _ ?_
  show Steps p.tables e below (T1.setTop { method := m, pc := pc + 3, locals := ls, stack := .ref T.heap.size :: rest, locked := none }) _
  jvm_step X₁.here [X₁.here.top, hexec, d3', Value.category]
  rcases d4 with ⟨rfl, d4⟩ | ⟨rfl, d4⟩
  · exact X₁.ldcString hexec (own := own) (text := text) (index := is) (a := sa) hown' hstr'.1 hstr'.2
      (g := { method := m, pc := pc + 4, locals := ls, stack := .ref T.heap.size :: .ref T.heap.size :: rest, locked := none }) rfl (by rw [hb]; exact d4) _ hsteps
  · exact X₁.ldcStringW hexec (own := own) (text := text) (index := is) (a := sa) hown' hstr'.1 hstr'.2
      (g := { method := m, pc := pc + 4, locals := ls, stack := .ref T.heap.size :: .ref T.heap.size :: rest, locked := none }) rfl (by rw [hb]; exact d4) _ hsteps
end
end
section
/-! String's own methods: length, charAt, isEmpty, over the texts -/
def rS (k : Nat) : Room := { frames := k, cells := 0, slots := 0, locals := 40 * k }
abbrev aS (sz : Nat) : Nat → Prop := fun q => sz ≤ q
def sW (adK adV : Nat → Nat) (A : Nat → Prop) (U : State) (H : Heap) : Prop := vk_S 16 am_lens am_byts adK adV A U H ∧ va_Z "java/lang/String" "COMPACT_STRINGS" "Z" (.int 1) A U H ∧ va_Zq "jdk/internal/util/Preconditions" "SIOOBE_FORMATTER" "Ljava/util/function/BiFunction;" A U H
theorem sW_go {adK adV : Nat → Nat} {A B : Nat → Prop} {s U : State} {H0 H : Heap} (h : sW adK adV A s H0) (hvm : s.vm.Alike U.vm) (hk : ∀ a : Nat, a < H0.size → ¬ A a → H[a]? = H0[a]?) (hAB : ∀ q, B q → A q) : sW adK adV B U H := ⟨((h.1.moved hvm).kept hk).narrow hAB, ((h.2.1.moved hvm).kept hk).narrow hAB, ((h.2.2.moved hvm).kept hk).narrow hAB⟩
def sPc (adK adV : Nat → Nat) (sz : Nat) (as : List Value) : Array Value → State → Prop := fun a U => a = as.toArray ∧ U.heap.size = sz ∧ sW adK adV (aS sz) U U.heap
theorem sPc_blind {adK adV : Nat → Nat} {sz : Nat} {as : List Value} : FrameBlind (sPc adK adV sz as) := fun a U g mk ⟨h1, h2, h3⟩ => ⟨h1, h2, sW_go (s := U) (U := U.calling g mk a) h3 (Vm.Alike.refl U.vm) (fun _ _ _ => rfl) (fun _ z => z)⟩
/-- what a callee starts from -/
theorem sPc_go {adK adV : Nat → Nat} {A : Nat → Prop} {s : State} {H : Heap} {locs : List Loc} {as : List Value} (h : sW adK adV A s s.heap) (hA : ∀ q, s.heap.size ≤ q → A q) (hS : va_S A s.heap H locs) : ∀ U : State, U.heap = H → s.WarmedH U.vm → sPc adK adV H.size as as.toArray U := fun U hU hW => ⟨rfl, by rw [hU], by rw [hU]; exact sW_go h hW.alike hS.2.1 (fun q hq => hA q (Nat.le_trans hS.1 hq))⟩
abbrev sQ (sz : Nat) (r : Int32) : Array Value → State → Outcome → State → Prop := va_Qi (S := Unit) (fun x _ => x = r) (fun _ _ => True) (aS sz)
abbrev sQv (sz : Nat) : Array Value → State → Outcome → State → Prop := va_Qv (S := Unit) (fun _ => True) (fun _ _ => True) (aS sz)
def sw (y : MethodName) (cc : ByteArray) (ml : Nat) (rt : Option FieldType) : List Cond := .code y cc ml rt :: am_gt
theorem sw_good {y : MethodName} {cc : ByteArray} {ml : Nat} {rt : Option FieldType} (h : Cond.code y cc ml rt ∈ am_gt) : GoodIn am_gt (sw y cc ml rt) := fun w hw => by
  rcases List.mem_cons.mp hw with e | e
  · rw [e]; exact ⟨h, am_good h⟩
  · exact ⟨e, am_good e⟩
def stW : List Cond := [.fieldLink "java/lang/String" 9 "java/lang/String" "value" "[B", .fieldLink "java/lang/String" 15 "java/lang/String" "coder" "B", .fieldLink "java/lang/String" 38 "java/lang/String" "COMPACT_STRINGS" "Z", .methodLink "java/lang/String" 335 yJ0_coder_7d493, .methodLink "java/lang/String" 492 yJ0_isLatin1_aae02, .methodLink "java/lang/String" 495 yJ1_charAt_3b067, .methodLink "java/lang/StringLatin1" 9 yJ0_checkIndex_df160, .methodLink "java/lang/String" 1059 yJ3_checkIndex_8e157, .initialized "java/lang/String", .initialized "java/lang/StringLatin1", .initialized "jdk/internal/util/Preconditions", .instanceMethod yJ0_coder_7d493, .selects "java/lang/String" yJ0_coder_7d493 yJ0_coder_7d493, .instanceMethod yJ0_isLatin1_aae02, .selects "java/lang/String" yJ0_isLatin1_aae02 yJ0_isLatin1_aae02, .static yJ1_charAt_3b067, .static yJ0_checkIndex_df160, .static yJ3_checkIndex_8e157, .code yJ0_coder_7d493 cJ0_coder_7d493 1 (some .byte), .code yJ0_isLatin1_aae02 cJ0_isLatin1_aae02 1 (some .boolean), .code yJ1_charAt_3b067 cJ1_charAt_3b067 2 (some .char), .code yJ0_checkIndex_df160 cJ0_checkIndex_df160 2 none, .code yJ3_checkIndex_8e157 cJ3_checkIndex_8e157 3 (some .int), .fieldLink "java/lang/String" 1053 "jdk/internal/util/Preconditions" "SIOOBE_FORMATTER" "Ljava/util/function/BiFunction;"]
theorem stW_ok : stW.all am_inT = true := by decide +kernel
theorem st_m (k : Nat) {w : Cond} (h : stW[k]? = some w) : w ∈ am_gt := am_inT_use (List.all_eq_true.mp stW_ok w (List.mem_of_getElem? h))
theorem st_len : ∀ i, i < 16 → am_lens.getD i 0 = (am_txt i).length ∧ (am_txt i).length < 64 := by decide +kernel
theorem st_by : ∀ i, i < 16 → ∀ k, k < (am_txt i).length → ((((am_byts.getD i []).getD k 0) &&& 255).toUInt32 % 65536).toInt32 = (am_txt i).getD k 0 ∧ narrow .char (.int ((am_txt i).getD k 0)) = .int ((am_txt i).getD k 0) := by decide +kernel
section
variable {l : Launch} {adK adV : Nat → Nat} {sz i k : Nat}
theorem sc_coder (hi : i < 16) : Met l yJ0_coder_7d493 (sw yJ0_coder_7d493 cJ0_coder_7d493 1 (some .byte)) (rS 0) (sPc adK adV sz [.ref (adK i)]) (sQ sz 0) 0 0 (aS sz) := by
  refine Met.ofW (cc := cJ0_coder_7d493) (maxL := 1) (ret := (some .byte)) (by decide +kernel) rfl ?_
  intro p e s m args below meth c s₁ B hml hv
  obtain ⟨rfl, hsz, hW⟩ := hv
  have hx := B.exec
  have hb := B.bytes
  have hrt := B.returns
  have hts0 := atoms_spec (ws := sw yJ0_coder_7d493 cJ0_coder_7d493 1 (some .byte)) B.pre
  have hts : ∀ w ∈ am_gt, w.before ([.ref (adK i)] : List Value).toArray s = true := fun w hw => hts0 w (List.mem_cons_of_mem _ hw)
  have hown := findClass_of_methodNamed B.named
  have hlocks := B.notSynchronized
  subst hsz
  have hS : va_S (aS s.heap.size) s.heap s.heap [] := va_S.rf
  have hl := lv_entry ([.ref (adK i)]) (n := 1) (Nat.le_of_ble_eq_true rfl)
  rw [lg_entry_eq]
  generalize (lg_sl ([.ref (adK i)]) ++ List.replicate (1 - (lg_sl ([.ref (adK i)])).length) Slot.unset).toArray = ls at hl ⊢
  have hl : lv_has ls 1 [(0, .ref (adK i))] := hl
  refine va_gets hx hb hW.2.1 hS hown (hts _ (st_m 2 rfl)) (fun _ z => z) (by decide +kernel) ?_
  refine lv_if_eq (off := 10) (tgt := 13) hx hb (by decide +kernel) (by decide) (fun z => absurd z (by decide)) (fun _ => ?_)
  refine lv_aload_n (k := 0) hx hb (by decide +kernel) rfl (lv_at hl 0 rfl) ?_
  refine vk_getf hx hb (hW.1.1 i hi).2.1 hS hown (hts _ (st_m 1 rfl)) (fun _ z => z) (by decide +kernel) ?_
  refine lv_goto (off := 4) (tgt := 14) hx hb (by decide +kernel) (by decide) ?_
  exact W.zret hx hb hrt (by decide) (fun t ht hwt => ⟨⟨0, (), rfl, rfl, trivial⟩, hS.F ht⟩) hS.2.2 (by decide +kernel) hlocks
theorem sc_isLatin1 (hi : i < 16) : Met l yJ0_isLatin1_aae02 (sw yJ0_isLatin1_aae02 cJ0_isLatin1_aae02 1 (some .boolean)) (rS 0) (sPc adK adV sz [.ref (adK i)]) (sQ sz 1) 0 0 (aS sz) := by
  refine Met.ofW (cc := cJ0_isLatin1_aae02) (maxL := 1) (ret := (some .boolean)) (by decide +kernel) rfl ?_
  intro p e s m args below meth c s₁ B hml hv
  obtain ⟨rfl, hsz, hW⟩ := hv
  have hx := B.exec
  have hb := B.bytes
  have hrt := B.returns
  have hts0 := atoms_spec (ws := sw yJ0_isLatin1_aae02 cJ0_isLatin1_aae02 1 (some .boolean)) B.pre
  have hts : ∀ w ∈ am_gt, w.before ([.ref (adK i)] : List Value).toArray s = true := fun w hw => hts0 w (List.mem_cons_of_mem _ hw)
  have hown := findClass_of_methodNamed B.named
  have hlocks := B.notSynchronized
  subst hsz
  have hS : va_S (aS s.heap.size) s.heap s.heap [] := va_S.rf
  have hl := lv_entry ([.ref (adK i)]) (n := 1) (Nat.le_of_ble_eq_true rfl)
  rw [lg_entry_eq]
  generalize (lg_sl ([.ref (adK i)]) ++ List.replicate (1 - (lg_sl ([.ref (adK i)])).length) Slot.unset).toArray = ls at hl ⊢
  have hl : lv_has ls 1 [(0, .ref (adK i))] := hl
  refine va_gets hx hb hW.2.1 hS hown (hts _ (st_m 2 rfl)) (fun _ z => z) (by decide +kernel) ?_
  refine lv_if_eq (off := 14) (tgt := 17) hx hb (by decide +kernel) (by decide) (fun z => absurd z (by decide)) (fun _ => ?_)
  refine lv_aload_n (k := 0) hx hb (by decide +kernel) rfl (lv_at hl 0 rfl) ?_
  refine vk_getf hx hb (hW.1.1 i hi).2.1 hS hown (hts _ (st_m 1 rfl)) (fun _ z => z) (by decide +kernel) ?_
  refine lv_if_ne (off := 7) (tgt := 17) hx hb (by decide +kernel) (by decide) (fun z => absurd rfl z) (fun _ => ?_)
  refine lv_iconst (n := 1) (v := 1) hx hb (by decide +kernel) (by decide) ?_
  refine lv_goto (off := 4) (tgt := 18) hx hb (by decide +kernel) (by decide) ?_
  exact W.zret hx hb hrt (by decide) (fun t ht hwt => ⟨⟨1, (), rfl, rfl, trivial⟩, hS.F ht⟩) hS.2.2 (by decide +kernel) hlocks
theorem sc_preN (hk : k < i) (hi : i < 64) : Met l yJ3_checkIndex_8e157 (sw yJ3_checkIndex_8e157 cJ3_checkIndex_8e157 3 (some .int)) (rS 0) (sPc adK adV sz [.int (nI k), .int (nI i), .null]) (sQ sz (nI k)) 0 0 (aS sz) := by
  refine Met.ofW (cc := cJ3_checkIndex_8e157) (maxL := 3) (ret := (some .int)) (by decide +kernel) rfl ?_
  intro p e s m args below meth c s₁ B hml hv
  obtain ⟨rfl, hsz, hW⟩ := hv
  have hx := B.exec
  have hb := B.bytes
  have hrt := B.returns
  have hts0 := atoms_spec (ws := sw yJ3_checkIndex_8e157 cJ3_checkIndex_8e157 3 (some .int)) B.pre
  have hts : ∀ w ∈ am_gt, w.before ([.int (nI k), .int (nI i), .null] : List Value).toArray s = true := fun w hw => hts0 w (List.mem_cons_of_mem _ hw)
  have hown := findClass_of_methodNamed B.named
  have hlocks := B.notSynchronized
  subst hsz
  have hS : va_S (aS s.heap.size) s.heap s.heap [] := va_S.rf
  have hl := lv_entry ([.int (nI k), .int (nI i), .null]) (n := 3) (Nat.le_of_ble_eq_true rfl)
  rw [lg_entry_eq]
  generalize (lg_sl ([.int (nI k), .int (nI i), .null]) ++ List.replicate (3 - (lg_sl ([.int (nI k), .int (nI i), .null])).length) Slot.unset).toArray = ls at hl ⊢
  have hl : lv_has ls 3 [(0, .int (nI k)), (1, .int (nI i)), (2, .null)] := hl
  refine lv_iload_n (k := 0) hx hb (by decide +kernel) rfl (lv_at hl 0 rfl) ?_
  refine lv_if_lt (off := 8) (tgt := 9) hx hb (by decide +kernel) (by decide) (fun z => absurd z (nI_pos (by omega))) (fun _ => ?_)
  refine lv_iload_n (k := 0) hx hb (by decide +kernel) rfl (lv_at hl 0 rfl) ?_
  refine lv_iload_n (k := 1) hx hb (by decide +kernel) rfl (lv_at hl 1 rfl) ?_
  refine lv_icmp_lt (off := 10) (tgt := 16) hx hb (by decide +kernel) (by decide) (fun _ => ?_) (fun z => absurd (nI_lt hk (by omega)) z)
  refine lv_iload_n (k := 0) hx hb (by decide +kernel) rfl (lv_at hl 0 rfl) ?_
  exact W.iret hx hb hrt (fun t ht hwt => ⟨⟨nI k, (), rfl, rfl, trivial⟩, hS.F ht⟩) hS.2.2 (by decide +kernel) hlocks
theorem sc_preR {t0 : Nat} (hk : k < i) (hi : i < 64) : Met l yJ3_checkIndex_8e157 (sw yJ3_checkIndex_8e157 cJ3_checkIndex_8e157 3 (some .int)) (rS 0) (sPc adK adV sz [.int (nI k), .int (nI i), .ref t0]) (sQ sz (nI k)) 0 0 (aS sz) := by
  refine Met.ofW (cc := cJ3_checkIndex_8e157) (maxL := 3) (ret := (some .int)) (by decide +kernel) rfl ?_
  intro p e s m args below meth c s₁ B hml hv
  obtain ⟨rfl, hsz, hW⟩ := hv
  have hx := B.exec
  have hb := B.bytes
  have hrt := B.returns
  have hts0 := atoms_spec (ws := sw yJ3_checkIndex_8e157 cJ3_checkIndex_8e157 3 (some .int)) B.pre
  have hts : ∀ w ∈ am_gt, w.before ([.int (nI k), .int (nI i), .ref t0] : List Value).toArray s = true := fun w hw => hts0 w (List.mem_cons_of_mem _ hw)
  have hown := findClass_of_methodNamed B.named
  have hlocks := B.notSynchronized
  subst hsz
  have hS : va_S (aS s.heap.size) s.heap s.heap [] := va_S.rf
  have hl := lv_entry ([.int (nI k), .int (nI i), .ref t0]) (n := 3) (Nat.le_of_ble_eq_true rfl)
  rw [lg_entry_eq]
  generalize (lg_sl ([.int (nI k), .int (nI i), .ref t0]) ++ List.replicate (3 - (lg_sl ([.int (nI k), .int (nI i), .ref t0])).length) Slot.unset).toArray = ls at hl ⊢
  have hl : lv_has ls 3 [(0, .int (nI k)), (1, .int (nI i)), (2, .ref t0)] := hl
  refine lv_iload_n (k := 0) hx hb (by decide +kernel) rfl (lv_at hl 0 rfl) ?_
  refine lv_if_lt (off := 8) (tgt := 9) hx hb (by decide +kernel) (by decide) (fun z => absurd z (nI_pos (by omega))) (fun _ => ?_)
  refine lv_iload_n (k := 0) hx hb (by decide +kernel) rfl (lv_at hl 0 rfl) ?_
  refine lv_iload_n (k := 1) hx hb (by decide +kernel) rfl (lv_at hl 1 rfl) ?_
  refine lv_icmp_lt (off := 10) (tgt := 16) hx hb (by decide +kernel) (by decide) (fun _ => ?_) (fun z => absurd (nI_lt hk (by omega)) z)
  refine lv_iload_n (k := 0) hx hb (by decide +kernel) rfl (lv_at hl 0 rfl) ?_
  exact W.iret hx hb hrt (fun t ht hwt => ⟨⟨nI k, (), rfl, rfl, trivial⟩, hS.F ht⟩) hS.2.2 (by decide +kernel) hlocks
theorem sc_check (hk : k < i) (hi : i < 64) : Met l yJ0_checkIndex_df160 (sw yJ0_checkIndex_df160 cJ0_checkIndex_df160 2 none) (rS 1) (sPc adK adV sz [.int (nI k), .int (nI i)]) (sQv sz) 0 0 (aS sz) := by
  refine Met.ofW (cc := cJ0_checkIndex_df160) (maxL := 2) (ret := none) (by decide +kernel) rfl ?_
  intro p e s m args below meth c s₁ B hml hv
  obtain ⟨rfl, hsz, hW⟩ := hv
  have hx := B.exec
  have hb := B.bytes
  have hrt := B.returns
  have hts0 := atoms_spec (ws := sw yJ0_checkIndex_df160 cJ0_checkIndex_df160 2 none) B.pre
  have hts : ∀ w ∈ am_gt, w.before ([.int (nI k), .int (nI i)] : List Value).toArray s = true := fun w hw => hts0 w (List.mem_cons_of_mem _ hw)
  have hown := findClass_of_methodNamed B.named
  have hlocks := B.notSynchronized
  subst hsz
  have hS : va_S (aS s.heap.size) s.heap s.heap [] := va_S.rf
  have hl := lv_entry ([.int (nI k), .int (nI i)]) (n := 2) (Nat.le_of_ble_eq_true rfl)
  rw [lg_entry_eq]
  generalize (lg_sl ([.int (nI k), .int (nI i)]) ++ List.replicate (2 - (lg_sl ([.int (nI k), .int (nI i)])).length) Slot.unset).toArray = ls at hl ⊢
  have hl : lv_has ls 2 [(0, .int (nI k)), (1, .int (nI i))] := hl
  refine lv_iload_n (k := 0) hx hb (by decide +kernel) rfl (lv_at hl 0 rfl) ?_
  refine lv_iload_n (k := 1) hx hb (by decide +kernel) rfl (lv_at hl 1 rfl) ?_
  have cb := callB_of (R := (headSpec (sw yJ0_checkIndex_df160 cJ0_checkIndex_df160 2 none) (rS 1)).room) (s := s) (args := ([.int (nI k), .int (nI i)] : List Value).toArray) (own := "java/lang/String") (index := 1059) 3 hts (sw_good (st_m 22 rfl)) rfl (rm := rS 0) rfl rfl (hts _ (st_m 10 rfl)) (hts _ (st_m 7 rfl)) (by decide +kernel) ⟨Nat.le_of_ble_eq_true rfl, Nat.le_of_ble_eq_true rfl⟩
  rcases hW.2.2 with hz | ⟨t0, hz⟩
  · refine va_gets hx hb hz hS hown (hts _ (st_m 23 rfl)) (fun _ z => z) (by decide +kernel) ?_
    refine va_calli (va_runS (As := [.int (nI k), .int (nI i), .null]) (rest := []) ⟨hx, hb, hml, hown, hts⟩ (sc_preN (adK := adK) (adV := adV) (sz := s.heap.size) hk hi) ⟨cb, hts _ (st_m 17 rfl)⟩ ⟨sPc_blind, sPc_go hW (fun _ z => z) hS⟩ rfl rfl hl.1 rfl (Nat.le_of_ble_eq_true rfl) (by dsimp only [F0]; decide +kernel) ⟨Nat.le_of_ble_eq_true rfl, Nat.le_of_ble_eq_true rfl⟩) hS (fun q _ z => z) (fun q z => z) (fun r u t H1 locs1 _ _ _ _ _ _ hS1 => ?_)
    refine lv_pop hx hb (by decide +kernel) rfl ?_
    exact W.vret hx hb hrt (fun t ht hwt => ⟨⟨(), rfl, trivial, trivial⟩, hS1.F ht⟩) hS1.2.2 (by decide +kernel) hlocks
  · refine va_gets hx hb hz hS hown (hts _ (st_m 23 rfl)) (fun _ z => z) (by decide +kernel) ?_
    refine va_calli (va_runS (As := [.int (nI k), .int (nI i), .ref t0]) (rest := []) ⟨hx, hb, hml, hown, hts⟩ (sc_preR (adK := adK) (adV := adV) (sz := s.heap.size) hk hi) ⟨cb, hts _ (st_m 17 rfl)⟩ ⟨sPc_blind, sPc_go hW (fun _ z => z) hS⟩ rfl rfl hl.1 rfl (Nat.le_of_ble_eq_true rfl) (by dsimp only [F0]; decide +kernel) ⟨Nat.le_of_ble_eq_true rfl, Nat.le_of_ble_eq_true rfl⟩) hS (fun q _ z => z) (fun q z => z) (fun r u t H1 locs1 _ _ _ _ _ _ hS1 => ?_)
    refine lv_pop hx hb (by decide +kernel) rfl ?_
    exact W.vret hx hb hrt (fun t ht hwt => ⟨⟨(), rfl, trivial, trivial⟩, hS1.F ht⟩) hS1.2.2 (by decide +kernel) hlocks
theorem sc_charAt1 (hi : i < 16) (hk : k < (am_txt i).length) : Met l yJ1_charAt_3b067 (sw yJ1_charAt_3b067 cJ1_charAt_3b067 2 (some .char)) (rS 2) (sPc adK adV sz [.ref (adV i), .int (nI k)]) (sQ sz ((am_txt i).getD k 0)) 0 0 (aS sz) := by
  obtain ⟨e1, e2⟩ := st_len i hi
  obtain ⟨b1, b2⟩ := st_by i hi k hk
  refine Met.ofW (cc := cJ1_charAt_3b067) (maxL := 2) (ret := (some .char)) (by decide +kernel) rfl ?_
  intro p e s m args below meth c s₁ B hml hv
  obtain ⟨rfl, hsz, hW⟩ := hv
  have hx := B.exec
  have hb := B.bytes
  have hrt := B.returns
  have hts0 := atoms_spec (ws := sw yJ1_charAt_3b067 cJ1_charAt_3b067 2 (some .char)) B.pre
  have hts : ∀ w ∈ am_gt, w.before ([.ref (adV i), .int (nI k)] : List Value).toArray s = true := fun w hw => hts0 w (List.mem_cons_of_mem _ hw)
  have hown := findClass_of_methodNamed B.named
  have hlocks := B.notSynchronized
  subst hsz
  have hS : va_S (aS s.heap.size) s.heap s.heap [] := va_S.rf
  have hl := lv_entry ([.ref (adV i), .int (nI k)]) (n := 2) (Nat.le_of_ble_eq_true rfl)
  rw [lg_entry_eq]
  generalize (lg_sl ([.ref (adV i), .int (nI k)]) ++ List.replicate (2 - (lg_sl ([.ref (adV i), .int (nI k)])).length) Slot.unset).toArray = ls at hl ⊢
  have hl : lv_has ls 2 [(0, .ref (adV i)), (1, .int (nI k))] := hl
  have hT := (hW.1.1 i hi).2.2.2
  rw [e1] at hT
  refine lv_iload_n (k := 1) hx hb (by decide +kernel) rfl (lv_at hl 1 rfl) ?_
  refine lv_aload_n (k := 0) hx hb (by decide +kernel) rfl (lv_at hl 0 rfl) ?_
  refine va_tlen (v := nI (am_txt i).length) hx hb hT hS rfl (by decide +kernel) ?_
  have cb := callB_of (R := (headSpec (sw yJ1_charAt_3b067 cJ1_charAt_3b067 2 (some .char)) (rS 2)).room) (s := s) (args := ([.ref (adV i), .int (nI k)] : List Value).toArray) (own := "java/lang/StringLatin1") (index := 9) 2 hts (sw_good (st_m 21 rfl)) rfl (rm := rS 1) rfl rfl (hts _ (st_m 8 rfl)) (hts _ (st_m 6 rfl)) (by decide +kernel) ⟨Nat.le_of_ble_eq_true rfl, Nat.le_of_ble_eq_true rfl⟩
  refine va_callv (va_runS (As := [.int (nI k), .int (nI (am_txt i).length)]) (rest := []) ⟨hx, hb, hml, hown, hts⟩ (sc_check (adK := adK) (adV := adV) (sz := s.heap.size) hk e2) ⟨cb, hts _ (st_m 16 rfl)⟩ ⟨sPc_blind, sPc_go hW (fun _ z => z) hS⟩ rfl rfl hl.1 rfl (Nat.le_of_ble_eq_true rfl) (by dsimp only [F0]; decide +kernel) ⟨Nat.le_of_ble_eq_true rfl, Nat.le_of_ble_eq_true rfl⟩) hS (fun q _ z => z) (fun q z => z) (fun u t H1 locs1 _ _ _ _ _ _ hS1 => ?_)
  refine lv_aload_n (k := 0) hx hb (by decide +kernel) rfl (lv_at hl 0 rfl) ?_
  refine lv_iload_n (k := 1) hx hb (by decide +kernel) rfl (lv_at hl 1 rfl) ?_
  refine va_tb (v := .int ((am_byts.getD i []).getD k 0)) hx hb hT hS1 (vp_in_nI hk (by omega)) (by rw [nI_clamp (by omega)]) (by decide +kernel) ?_
  refine lv_sipush (n := 255) (v := 255) hx hb (by decide +kernel) (by decide) ?_
  refine lv_iand hx hb (by decide +kernel) ?_
  refine lv_i2c (v := (am_txt i).getD k 0) hx hb (by decide +kernel) b1 ?_
  exact W.zret hx hb hrt b2 (fun t ht hwt => ⟨⟨_, (), rfl, rfl, trivial⟩, hS1.F ht⟩) hS1.2.2 (by decide +kernel) hlocks
end
theorem am_strOk (l : Launch) : am_StrOk l := by
  intro d k as h Q H k1 k2 D dA ro ad sz hokh hr hargs
  rcases (show k = 901 ∨ k = 902 ∨ k = 903 by omega) with rfl | rfl | rfl
  · match as, H with
    | [.ref i], H =>
    obtain ⟨hi, hd6, H⟩ := H
    obtain ⟨e1, e2⟩ := st_len i hi
    refine Met.ofW (cc := cJ0_length_8abf5) (maxL := 1) (ret := (some .int)) (by decide +kernel) rfl ?_
    intro p e s m args below meth c s₁ B hml hv
    obtain ⟨rfl, hsz, hP, hK, hD0, hRO⟩ := hv
    have hx := B.exec
    have hb := B.bytes
    have hrt := B.returns
    have hts0 := atoms_spec (ws := am_w (am_pn 901)) B.pre
    have hts : ∀ w ∈ am_gt, w.before ((([.ref i] : List Value).map (am_cv ad)).toArray) s = true := fun w hw => hts0 w (List.mem_cons_of_mem _ hw)
    have hown := findClass_of_methodNamed B.named
    have hlocks := B.notSynchronized
    subst hsz
    have hD := hD0.self (sz := s.heap.size)
    obtain ⟨adV, hV⟩ := hRO.2.2.2.2.1
    have hW : sW ad adV (va_A (am_ws dA ad h) s.heap.size) s s.heap := ⟨hV, hRO.2.2.2.2.2.1, hRO.2.2.2.2.2.2.1⟩
    have hAA : ∀ q, s.heap.size ≤ q → va_A (am_ws dA ad h) s.heap.size q := fun q hq => Or.inr hq
    have hS : va_S (va_A (am_ws dA ad h) s.heap.size) s.heap s.heap [] := va_S.rf
    have hl := lv_entry ([.ref (ad i)]) (n := 1) (Nat.le_of_ble_eq_true rfl)
    rw [show (([.ref i] : List Value).map (am_cv ad)) = [.ref (ad i)] from rfl, lg_entry_eq]
    generalize (lg_sl ([.ref (ad i)]) ++ List.replicate (1 - (lg_sl ([.ref (ad i)])).length) Slot.unset).toArray = ls at hl ⊢
    have hl : lv_has ls 1 [(0, .ref (ad i))] := hl
    have hT := (hV.1 i hi).2.2.2
    rw [e1] at hT
    refine lv_aload_n (k := 0) hx hb (by decide +kernel) rfl (lv_at hl 0 rfl) ?_
    refine vk_getf hx hb (hV.1 i hi).2.2.1 hS hown (hts _ (st_m 0 rfl)) (fun _ z => z) (by decide +kernel) ?_
    refine va_tlen (v := nI (am_txt i).length) hx hb hT hS rfl (by decide +kernel) ?_
    refine lv_aload_n (k := 0) hx hb (by decide +kernel) rfl (lv_at hl 0 rfl) ?_
    have cb := callB_of (R := (headSpec (am_w (am_pn 901)) { frames := d, cells := 0, slots := 0, locals := 40 * d }).room) (s := s) (args := (([.ref i] : List Value).map (am_cv ad)).toArray) (own := "java/lang/String") (index := 335) 0 hts (sw_good (st_m 18 rfl)) rfl (rm := rS 0) rfl rfl (hts _ (st_m 8 rfl)) (hts _ (st_m 3 rfl)) (by decide +kernel) ⟨show 0 + 1 ≤ d by omega, show 8 + (1 + 11) + 40 * 0 ≤ 40 * d by omega⟩
    refine va_calli (va_runV (b := ad i) (As := []) (rest := [.int (nI (am_txt i).length)]) (C := "java/lang/String") ⟨hx, hb, hml, hown, hts⟩ (sc_coder (adK := ad) (adV := adV) (sz := s.heap.size) hi) ⟨cb, hts _ (st_m 11 rfl), hts _ (st_m 12 rfl)⟩ ⟨sPc_blind, vk_recv hV hi hS, sPc_go hW hAA hS⟩ rfl rfl hl.1 rfl (Nat.le_of_ble_eq_true rfl) (by dsimp only [F0]; decide +kernel) ⟨Nat.le_of_ble_eq_true rfl, Nat.le_of_ble_eq_true rfl⟩) hS (fun q hq z => absurd hq (Nat.not_lt.mpr z)) hAA (fun r u t H1 locs1 _ _ hpr _ _ hk1 hS1 => ?_)
    replace hpr : r = 0 := hpr
    subst hpr
    have hP1 := hP.kept (H1 := H1) (fun k q hk => hk1 _ (vx_lt hP hk) (Nat.not_le.mpr (vx_lt hP hk)))
    refine lv_ishr hx hb (by decide +kernel) ?_
    rw [show nI (am_txt i).length >>> ((0 : Int32) &&& 31) = nI (am_txt i).length by rw [show (0 : Int32) &&& 31 = 0 by decide, Int32.shiftRight_zero]]
    exact W.iret hx hb hrt (fun t ht hwt => ⟨⟨some (.int (nI (am_txt i).length)), h, ad, rfl, H, by rw [ht]; exact hP1, hD, hokh, Nat.le_refl _, fun _ _ => rfl, fun w e => by cases e; exact am_okv_int⟩, hS1.F ht⟩) hS1.2.2 (by decide +kernel) hlocks
  · match as, H with
    | [.ref i, .int x], H =>
    obtain ⟨hi, hd6, hin, H⟩ := H
    obtain ⟨e1, e2⟩ := st_len i hi
    have hx0 : ¬ x < 0 := fun z => hin (Or.inl z)
    obtain ⟨k, hk31, rfl⟩ := nI_of hx0
    have hk : k < (am_txt i).length := by
      have := Nat.not_le.mp (fun z => hin (Or.inr z))
      rw [nI_clamp hk31] at this
      exact this
    rw [nI_clamp hk31] at H
    obtain ⟨b1, b2⟩ := st_by i hi k hk
    refine Met.ofW (cc := cJ0_charAt_5068e) (maxL := 2) (ret := (some .char)) (by decide +kernel) rfl ?_
    intro p e s m args below meth c s₁ B hml hv
    obtain ⟨rfl, hsz, hP, hK, hD0, hRO⟩ := hv
    have hx := B.exec
    have hb := B.bytes
    have hrt := B.returns
    have hts0 := atoms_spec (ws := am_w (am_pn 902)) B.pre
    have hts : ∀ w ∈ am_gt, w.before ((([.ref i, .int (nI k)] : List Value).map (am_cv ad)).toArray) s = true := fun w hw => hts0 w (List.mem_cons_of_mem _ hw)
    have hown := findClass_of_methodNamed B.named
    have hlocks := B.notSynchronized
    subst hsz
    have hD := hD0.self (sz := s.heap.size)
    obtain ⟨adV, hV⟩ := hRO.2.2.2.2.1
    have hW : sW ad adV (va_A (am_ws dA ad h) s.heap.size) s s.heap := ⟨hV, hRO.2.2.2.2.2.1, hRO.2.2.2.2.2.2.1⟩
    have hAA : ∀ q, s.heap.size ≤ q → va_A (am_ws dA ad h) s.heap.size q := fun q hq => Or.inr hq
    have hS : va_S (va_A (am_ws dA ad h) s.heap.size) s.heap s.heap [] := va_S.rf
    have hl := lv_entry ([.ref (ad i), .int (nI k)]) (n := 2) (Nat.le_of_ble_eq_true rfl)
    rw [show (([.ref i, .int (nI k)] : List Value).map (am_cv ad)) = [.ref (ad i), .int (nI k)] from rfl, lg_entry_eq]
    generalize (lg_sl ([.ref (ad i), .int (nI k)]) ++ List.replicate (2 - (lg_sl ([.ref (ad i), .int (nI k)])).length) Slot.unset).toArray = ls at hl ⊢
    have hl : lv_has ls 2 [(0, .ref (ad i)), (1, .int (nI k))] := hl
    have hT := (hV.1 i hi).2.2.2
    rw [e1] at hT
    refine lv_aload_n (k := 0) hx hb (by decide +kernel) rfl (lv_at hl 0 rfl) ?_
    have cb := callB_of (R := (headSpec (am_w (am_pn 902)) { frames := d, cells := 0, slots := 0, locals := 40 * d }).room) (s := s) (args := (([.ref i, .int (nI k)] : List Value).map (am_cv ad)).toArray) (own := "java/lang/String") (index := 492) 0 hts (sw_good (st_m 19 rfl)) rfl (rm := rS 0) rfl rfl (hts _ (st_m 8 rfl)) (hts _ (st_m 4 rfl)) (by decide +kernel) ⟨show 0 + 1 ≤ d by omega, show 8 + (1 + 11) + 40 * 0 ≤ 40 * d by omega⟩
    refine va_calli (va_runV (b := ad i) (As := []) (rest := []) (C := "java/lang/String") ⟨hx, hb, hml, hown, hts⟩ (sc_isLatin1 (adK := ad) (adV := adV) (sz := s.heap.size) hi) ⟨cb, hts _ (st_m 13 rfl), hts _ (st_m 14 rfl)⟩ ⟨sPc_blind, vk_recv hV hi hS, sPc_go hW hAA hS⟩ rfl rfl hl.1 rfl (Nat.le_of_ble_eq_true rfl) (by dsimp only [F0]; decide +kernel) ⟨Nat.le_of_ble_eq_true rfl, Nat.le_of_ble_eq_true rfl⟩) hS (fun q hq z => absurd hq (Nat.not_lt.mpr z)) hAA (fun r u t H1 locs1 _ _ hpr _ _ hk1 hS1 => ?_)
    replace hpr : r = 1 := hpr
    subst hpr
    have hP1 := hP.kept (H1 := H1) (fun k q hk => hk1 _ (vx_lt hP hk) (Nat.not_le.mpr (vx_lt hP hk)))
    refine lv_if_eq (off := 12) (tgt := 16) hx hb (by decide +kernel) (by decide) (fun z => absurd z (show ¬ (1 : Int32) = 0 by decide)) (fun _ => ?_)
    refine lv_aload_n (k := 0) hx hb (by decide +kernel) rfl (lv_at hl 0 rfl) ?_
    refine vk_getf hx hb (hV.1 i hi).2.2.1 hS1 hown (hts _ (st_m 0 rfl)) (fun _ z => z) (by decide +kernel) ?_
    refine lv_iload_n (k := 1) hx hb (by decide +kernel) rfl (lv_at hl 1 rfl) ?_
    have cb2 := callB_of (R := (headSpec (am_w (am_pn 902)) { frames := d, cells := 0, slots := 0, locals := 40 * d }).room) (s := s) (args := (([.ref i, .int (nI k)] : List Value).map (am_cv ad)).toArray) (own := "java/lang/String") (index := 495) 2 hts (sw_good (st_m 20 rfl)) rfl (rm := rS 2) rfl rfl (hts _ (st_m 9 rfl)) (hts _ (st_m 5 rfl)) (by decide +kernel) ⟨show 2 + 1 ≤ d by omega, show 8 + (2 + 11) + 40 * 2 ≤ 40 * d by omega⟩
    refine va_calli (va_runS (As := [.ref (adV i), .int (nI k)]) (rest := []) ⟨hx, hb, hml, hown, hts⟩ (sc_charAt1 (adK := ad) (adV := adV) (sz := H1.size) hi hk) ⟨cb2, hts _ (st_m 15 rfl)⟩ ⟨sPc_blind, sPc_go hW hAA hS1⟩ rfl rfl hl.1 rfl (Nat.le_of_ble_eq_true rfl) (by dsimp only [F0]; decide +kernel) ⟨Nat.le_of_ble_eq_true rfl, Nat.le_of_ble_eq_true rfl⟩) hS1 (fun q hq z => absurd hq (Nat.not_lt.mpr z)) (fun q z => hAA q (Nat.le_trans hS1.1 z)) (fun r u t H2 locs2 _ _ hpr _ _ hk2 hS2 => ?_)
    replace hpr : r = (am_txt i).getD k 0 := hpr
    subst hpr
    have hP2 := hP1.kept (H1 := H2) (fun k q hk => hk2 _ (vx_lt hP1 hk) (Nat.not_le.mpr (vx_lt hP1 hk)))
    exact W.zret hx hb hrt b2 (fun t ht hwt => ⟨⟨some (.int ((am_txt i).getD k 0)), h, ad, rfl, H, by rw [ht]; exact hP2, hD, hokh, Nat.le_refl _, fun _ _ => rfl, fun w e => by cases e; exact am_okv_int⟩, hS2.F ht⟩) hS2.2.2 (by decide +kernel) hlocks
  · match as, H with
    | [.ref i], H =>
    obtain ⟨hi, hd6, H⟩ := H
    obtain ⟨e1, e2⟩ := st_len i hi
    refine Met.ofW (cc := cJ0_isEmpty_aae02) (maxL := 1) (ret := (some .boolean)) (by decide +kernel) rfl ?_
    intro p e s m args below meth c s₁ B hml hv
    obtain ⟨rfl, hsz, hP, hK, hD0, hRO⟩ := hv
    have hx := B.exec
    have hb := B.bytes
    have hrt := B.returns
    have hts0 := atoms_spec (ws := am_w (am_pn 903)) B.pre
    have hts : ∀ w ∈ am_gt, w.before ((([.ref i] : List Value).map (am_cv ad)).toArray) s = true := fun w hw => hts0 w (List.mem_cons_of_mem _ hw)
    have hown := findClass_of_methodNamed B.named
    have hlocks := B.notSynchronized
    subst hsz
    have hD := hD0.self (sz := s.heap.size)
    obtain ⟨adV, hV⟩ := hRO.2.2.2.2.1
    have hW : sW ad adV (va_A (am_ws dA ad h) s.heap.size) s s.heap := ⟨hV, hRO.2.2.2.2.2.1, hRO.2.2.2.2.2.2.1⟩
    have hAA : ∀ q, s.heap.size ≤ q → va_A (am_ws dA ad h) s.heap.size q := fun q hq => Or.inr hq
    have hS : va_S (va_A (am_ws dA ad h) s.heap.size) s.heap s.heap [] := va_S.rf
    have hl := lv_entry ([.ref (ad i)]) (n := 1) (Nat.le_of_ble_eq_true rfl)
    rw [show (([.ref i] : List Value).map (am_cv ad)) = [.ref (ad i)] from rfl, lg_entry_eq]
    generalize (lg_sl ([.ref (ad i)]) ++ List.replicate (1 - (lg_sl ([.ref (ad i)])).length) Slot.unset).toArray = ls at hl ⊢
    have hl : lv_has ls 1 [(0, .ref (ad i))] := hl
    have hT := (hV.1 i hi).2.2.2
    rw [e1] at hT
    refine lv_aload_n (k := 0) hx hb (by decide +kernel) rfl (lv_at hl 0 rfl) ?_
    refine vk_getf hx hb (hV.1 i hi).2.2.1 hS hown (hts _ (st_m 0 rfl)) (fun _ z => z) (by decide +kernel) ?_
    refine va_tlen (v := nI (am_txt i).length) hx hb hT hS rfl (by decide +kernel) ?_
    by_cases c0 : (am_txt i).length = 0
    · rw [if_pos c0] at H
      refine lv_if_ne (off := 7) (tgt := 12) hx hb (by decide +kernel) (by decide) (fun z => absurd (show nI (am_txt i).length = 0 by rw [c0]; rfl) z) (fun _ => ?_)
      refine lv_iconst (n := 1) (v := 1) hx hb (by decide +kernel) (by decide) ?_
      refine lv_goto (off := 4) (tgt := 13) hx hb (by decide +kernel) (by decide) ?_
      exact W.zret hx hb hrt (by decide) (fun t ht hwt => ⟨⟨some (.int (1)), h, ad, rfl, H, by rw [ht]; exact hP, hD, hokh, Nat.le_refl _, fun _ _ => rfl, fun w e => by cases e; exact am_okv_int⟩, hS.F ht⟩) hS.2.2 (by decide +kernel) hlocks
    · rw [if_neg c0] at H
      refine lv_if_ne (off := 7) (tgt := 12) hx hb (by decide +kernel) (by decide) (fun _ => ?_) (fun z => absurd ((nI_eq (b := 0) (by omega) (by omega)).mp z) c0)
      refine lv_iconst (n := 0) (v := 0) hx hb (by decide +kernel) (by decide) ?_
      exact W.zret hx hb hrt (by decide) (fun t ht hwt => ⟨⟨some (.int (0)), h, ad, rfl, H, by rw [ht]; exact hP, hD, hokh, Nat.le_refl _, fun _ _ => rfl, fun w e => by cases e; exact am_okv_int⟩, hS.F ht⟩) hS.2.2 (by decide +kernel) hlocks
end
