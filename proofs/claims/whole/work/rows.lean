section
-- ===== PART A: goes FIRST, ahead of the names: the tables' words, and 'selects' of the private methods out of them =====
/-- a private method of a class that the tables say can be made, by its rows of tables_1 -/
def lw_okq (q : MethodName × Nat) : Prop := (q.1.cls ≠ "java/lang/invoke/MethodHandle" ∧ q.1.cls ≠ "java/lang/invoke/VarHandle") ∧ Cond.instantiable q.1.cls q.2 ∈ tables_1 ∧ Cond.privateMethod q.1 ∈ tables_1 ∧ Cond.instanceMethod q.1 ∈ tables_1
theorem lw_p0 : lw_okq (⟨"java/lang/Throwable", "fillInStackTrace", "(I)Ljava/lang/Throwable;"⟩, 6) := ⟨⟨by decide +kernel, by decide +kernel⟩, List.mem_of_getElem? (i := 572) (by decide +kernel), List.mem_of_getElem? (i := 570) (by decide +kernel), List.mem_of_getElem? (i := 571) (by decide +kernel)⟩
theorem lw_p1 : lw_okq (⟨"CellLoans", "doCommand", "(I)I"⟩, 9) := ⟨⟨by decide +kernel, by decide +kernel⟩, List.mem_of_getElem? (i := 24) (by decide +kernel), List.mem_of_getElem? (i := 841) (by decide +kernel), List.mem_of_getElem? (i := 842) (by decide +kernel)⟩
theorem lw_p2 : lw_okq (⟨"CellLoans", "mayDoBack", "(I)Z"⟩, 9) := ⟨⟨by decide +kernel, by decide +kernel⟩, List.mem_of_getElem? (i := 24) (by decide +kernel), List.mem_of_getElem? (i := 896) (by decide +kernel), List.mem_of_getElem? (i := 897) (by decide +kernel)⟩
theorem lw_p3 : lw_okq (⟨"CellLoans", "needPort", "(I)V"⟩, 9) := ⟨⟨by decide +kernel, by decide +kernel⟩, List.mem_of_getElem? (i := 24) (by decide +kernel), List.mem_of_getElem? (i := 946) (by decide +kernel), List.mem_of_getElem? (i := 947) (by decide +kernel)⟩
theorem lw_p4 : lw_okq (⟨"CellLoansModel", "clears", "()V"⟩, 26) := ⟨⟨by decide +kernel, by decide +kernel⟩, List.mem_of_getElem? (i := 1125) (by decide +kernel), List.mem_of_getElem? (i := 1131) (by decide +kernel), List.mem_of_getElem? (i := 1132) (by decide +kernel)⟩
theorem lw_p5 : lw_okq (⟨"CellLoansModel", "set", "(II)V"⟩, 26) := ⟨⟨by decide +kernel, by decide +kernel⟩, List.mem_of_getElem? (i := 1125) (by decide +kernel), List.mem_of_getElem? (i := 1135) (by decide +kernel), List.mem_of_getElem? (i := 1136) (by decide +kernel)⟩
theorem lw_p6 : lw_okq (⟨"CellLoansModel", "setName", "(IJ)V"⟩, 26) := ⟨⟨by decide +kernel, by decide +kernel⟩, List.mem_of_getElem? (i := 1125) (by decide +kernel), List.mem_of_getElem? (i := 1139) (by decide +kernel), List.mem_of_getElem? (i := 1140) (by decide +kernel)⟩
theorem lw_p7 : lw_okq (⟨"CellLoansModel", "good", "(Z)Z"⟩, 26) := ⟨⟨by decide +kernel, by decide +kernel⟩, List.mem_of_getElem? (i := 1125) (by decide +kernel), List.mem_of_getElem? (i := 1227) (by decide +kernel), List.mem_of_getElem? (i := 1228) (by decide +kernel)⟩
theorem lw_p8 : lw_okq (⟨"CellLoansModel", "four", "(I)V"⟩, 26) := ⟨⟨by decide +kernel, by decide +kernel⟩, List.mem_of_getElem? (i := 1125) (by decide +kernel), List.mem_of_getElem? (i := 1231) (by decide +kernel), List.mem_of_getElem? (i := 1232) (by decide +kernel)⟩
theorem lw_p9 : lw_okq (⟨"CellLoansModel", "starts", "()V"⟩, 26) := ⟨⟨by decide +kernel, by decide +kernel⟩, List.mem_of_getElem? (i := 1125) (by decide +kernel), List.mem_of_getElem? (i := 1246) (by decide +kernel), List.mem_of_getElem? (i := 1247) (by decide +kernel)⟩
theorem lw_p10 : lw_okq (⟨"CellLoansModel", "scans", "()V"⟩, 26) := ⟨⟨by decide +kernel, by decide +kernel⟩, List.mem_of_getElem? (i := 1125) (by decide +kernel), List.mem_of_getElem? (i := 1250) (by decide +kernel), List.mem_of_getElem? (i := 1251) (by decide +kernel)⟩
theorem lw_p11 : lw_okq (⟨"CellLoansModel", "byteAt", "(I)I"⟩, 26) := ⟨⟨by decide +kernel, by decide +kernel⟩, List.mem_of_getElem? (i := 1125) (by decide +kernel), List.mem_of_getElem? (i := 1254) (by decide +kernel), List.mem_of_getElem? (i := 1255) (by decide +kernel)⟩
theorem lw_p12 : lw_okq (⟨"CellLoansModel", "isGood", "()Z"⟩, 26) := ⟨⟨by decide +kernel, by decide +kernel⟩, List.mem_of_getElem? (i := 1125) (by decide +kernel), List.mem_of_getElem? (i := 1264) (by decide +kernel), List.mem_of_getElem? (i := 1265) (by decide +kernel)⟩
theorem lw_p13 : lw_okq (⟨"CellLoansModel", "readsStatement", "()V"⟩, 26) := ⟨⟨by decide +kernel, by decide +kernel⟩, List.mem_of_getElem? (i := 1125) (by decide +kernel), List.mem_of_getElem? (i := 1268) (by decide +kernel), List.mem_of_getElem? (i := 1269) (by decide +kernel)⟩
theorem lw_p14 : lw_okq (⟨"CellLoansModel", "isWord", "(J)Z"⟩, 26) := ⟨⟨by decide +kernel, by decide +kernel⟩, List.mem_of_getElem? (i := 1125) (by decide +kernel), List.mem_of_getElem? (i := 1273) (by decide +kernel), List.mem_of_getElem? (i := 1274) (by decide +kernel)⟩
theorem lw_p15 : lw_okq (⟨"CellLoansModel", "readsPort", "()V"⟩, 26) := ⟨⟨by decide +kernel, by decide +kernel⟩, List.mem_of_getElem? (i := 1125) (by decide +kernel), List.mem_of_getElem? (i := 1277) (by decide +kernel), List.mem_of_getElem? (i := 1278) (by decide +kernel)⟩
def lw_privs_1 : List (MethodName × Nat) := [(⟨"java/lang/Throwable", "fillInStackTrace", "(I)Ljava/lang/Throwable;"⟩, 6), (⟨"CellLoans", "doCommand", "(I)I"⟩, 9), (⟨"CellLoans", "mayDoBack", "(I)Z"⟩, 9), (⟨"CellLoans", "needPort", "(I)V"⟩, 9), (⟨"CellLoansModel", "clears", "()V"⟩, 26), (⟨"CellLoansModel", "set", "(II)V"⟩, 26), (⟨"CellLoansModel", "setName", "(IJ)V"⟩, 26), (⟨"CellLoansModel", "good", "(Z)Z"⟩, 26), (⟨"CellLoansModel", "four", "(I)V"⟩, 26), (⟨"CellLoansModel", "starts", "()V"⟩, 26), (⟨"CellLoansModel", "scans", "()V"⟩, 26), (⟨"CellLoansModel", "byteAt", "(I)I"⟩, 26), (⟨"CellLoansModel", "isGood", "()Z"⟩, 26), (⟨"CellLoansModel", "readsStatement", "()V"⟩, 26), (⟨"CellLoansModel", "isWord", "(J)Z"⟩, 26), (⟨"CellLoansModel", "readsPort", "()V"⟩, 26)]
theorem lw_r1 : ∀ q ∈ lw_privs_1, lw_okq q := List.forall_mem_cons.mpr ⟨lw_p0, List.forall_mem_cons.mpr ⟨lw_p1, List.forall_mem_cons.mpr ⟨lw_p2, List.forall_mem_cons.mpr ⟨lw_p3, List.forall_mem_cons.mpr ⟨lw_p4, List.forall_mem_cons.mpr ⟨lw_p5, List.forall_mem_cons.mpr ⟨lw_p6, List.forall_mem_cons.mpr ⟨lw_p7, List.forall_mem_cons.mpr ⟨lw_p8, List.forall_mem_cons.mpr ⟨lw_p9, List.forall_mem_cons.mpr ⟨lw_p10, List.forall_mem_cons.mpr ⟨lw_p11, List.forall_mem_cons.mpr ⟨lw_p12, List.forall_mem_cons.mpr ⟨lw_p13, List.forall_mem_cons.mpr ⟨lw_p14, List.forall_mem_cons.mpr ⟨lw_p15, fun _ h => absurd h List.not_mem_nil⟩⟩⟩⟩⟩⟩⟩⟩⟩⟩⟩⟩⟩⟩⟩⟩
theorem lw_p16 : lw_okq (⟨"CellLoansModel", "of", "(I)I"⟩, 26) := ⟨⟨by decide +kernel, by decide +kernel⟩, List.mem_of_getElem? (i := 1125) (by decide +kernel), List.mem_of_getElem? (i := 1281) (by decide +kernel), List.mem_of_getElem? (i := 1282) (by decide +kernel)⟩
theorem lw_p17 : lw_okq (⟨"CellLoansModel", "must", "(ZI)V"⟩, 26) := ⟨⟨by decide +kernel, by decide +kernel⟩, List.mem_of_getElem? (i := 1125) (by decide +kernel), List.mem_of_getElem? (i := 1285) (by decide +kernel), List.mem_of_getElem? (i := 1286) (by decide +kernel)⟩
theorem lw_p18 : lw_okq (⟨"CellLoansModel", "named", "()I"⟩, 26) := ⟨⟨by decide +kernel, by decide +kernel⟩, List.mem_of_getElem? (i := 1125) (by decide +kernel), List.mem_of_getElem? (i := 1289) (by decide +kernel), List.mem_of_getElem? (i := 1290) (by decide +kernel)⟩
theorem lw_p19 : lw_okq (⟨"CellLoansModel", "name", "(I)J"⟩, 26) := ⟨⟨by decide +kernel, by decide +kernel⟩, List.mem_of_getElem? (i := 1125) (by decide +kernel), List.mem_of_getElem? (i := 1293) (by decide +kernel), List.mem_of_getElem? (i := 1294) (by decide +kernel)⟩
theorem lw_p20 : lw_okq (⟨"CellLoansModel", "reads", "(II)I"⟩, 26) := ⟨⟨by decide +kernel, by decide +kernel⟩, List.mem_of_getElem? (i := 1125) (by decide +kernel), List.mem_of_getElem? (i := 1297) (by decide +kernel), List.mem_of_getElem? (i := 1298) (by decide +kernel)⟩
theorem lw_p21 : lw_okq (⟨"CellLoansModel", "setP", "(III)V"⟩, 26) := ⟨⟨by decide +kernel, by decide +kernel⟩, List.mem_of_getElem? (i := 1125) (by decide +kernel), List.mem_of_getElem? (i := 1302) (by decide +kernel), List.mem_of_getElem? (i := 1303) (by decide +kernel)⟩
theorem lw_p22 : lw_okq (⟨"CellLoansModel", "sign", "(I)V"⟩, 26) := ⟨⟨by decide +kernel, by decide +kernel⟩, List.mem_of_getElem? (i := 1125) (by decide +kernel), List.mem_of_getElem? (i := 1308) (by decide +kernel), List.mem_of_getElem? (i := 1309) (by decide +kernel)⟩
theorem lw_p23 : lw_okq (⟨"CellLoansModel", "isSign", "(I)Z"⟩, 26) := ⟨⟨by decide +kernel, by decide +kernel⟩, List.mem_of_getElem? (i := 1125) (by decide +kernel), List.mem_of_getElem? (i := 1312) (by decide +kernel), List.mem_of_getElem? (i := 1313) (by decide +kernel)⟩
theorem lw_p24 : lw_okq (⟨"CellLoansModel", "copies", "(II)V"⟩, 26) := ⟨⟨by decide +kernel, by decide +kernel⟩, List.mem_of_getElem? (i := 1125) (by decide +kernel), List.mem_of_getElem? (i := 1316) (by decide +kernel), List.mem_of_getElem? (i := 1317) (by decide +kernel)⟩
theorem lw_p25 : lw_okq (⟨"CellLoansModel", "sumOf", "(I)I"⟩, 26) := ⟨⟨by decide +kernel, by decide +kernel⟩, List.mem_of_getElem? (i := 1125) (by decide +kernel), List.mem_of_getElem? (i := 1337) (by decide +kernel), List.mem_of_getElem? (i := 1338) (by decide +kernel)⟩
theorem lw_p26 : lw_okq (⟨"CellLoansModel", "p", "(II)I"⟩, 26) := ⟨⟨by decide +kernel, by decide +kernel⟩, List.mem_of_getElem? (i := 1125) (by decide +kernel), List.mem_of_getElem? (i := 1341) (by decide +kernel), List.mem_of_getElem? (i := 1342) (by decide +kernel)⟩
theorem lw_p27 : lw_okq (⟨"CellLoansModel", "usedBy", "(I)I"⟩, 26) := ⟨⟨by decide +kernel, by decide +kernel⟩, List.mem_of_getElem? (i := 1125) (by decide +kernel), List.mem_of_getElem? (i := 1345) (by decide +kernel), List.mem_of_getElem? (i := 1346) (by decide +kernel)⟩
theorem lw_p28 : lw_okq (⟨"CellLoansModel", "k", "(II)I"⟩, 26) := ⟨⟨by decide +kernel, by decide +kernel⟩, List.mem_of_getElem? (i := 1125) (by decide +kernel), List.mem_of_getElem? (i := 1349) (by decide +kernel), List.mem_of_getElem? (i := 1350) (by decide +kernel)⟩
theorem lw_p29 : lw_okq (⟨"CellLoansModel", "lentBy", "(I)I"⟩, 26) := ⟨⟨by decide +kernel, by decide +kernel⟩, List.mem_of_getElem? (i := 1125) (by decide +kernel), List.mem_of_getElem? (i := 1353) (by decide +kernel), List.mem_of_getElem? (i := 1354) (by decide +kernel)⟩
theorem lw_p30 : lw_okq (⟨"CellLoansModel", "m", "(II)I"⟩, 26) := ⟨⟨by decide +kernel, by decide +kernel⟩, List.mem_of_getElem? (i := 1125) (by decide +kernel), List.mem_of_getElem? (i := 1357) (by decide +kernel), List.mem_of_getElem? (i := 1358) (by decide +kernel)⟩
theorem lw_p31 : lw_okq (⟨"CellLoansModel", "freeOf", "(I)I"⟩, 26) := ⟨⟨by decide +kernel, by decide +kernel⟩, List.mem_of_getElem? (i := 1125) (by decide +kernel), List.mem_of_getElem? (i := 1361) (by decide +kernel), List.mem_of_getElem? (i := 1362) (by decide +kernel)⟩
def lw_privs_2 : List (MethodName × Nat) := [(⟨"CellLoansModel", "of", "(I)I"⟩, 26), (⟨"CellLoansModel", "must", "(ZI)V"⟩, 26), (⟨"CellLoansModel", "named", "()I"⟩, 26), (⟨"CellLoansModel", "name", "(I)J"⟩, 26), (⟨"CellLoansModel", "reads", "(II)I"⟩, 26), (⟨"CellLoansModel", "setP", "(III)V"⟩, 26), (⟨"CellLoansModel", "sign", "(I)V"⟩, 26), (⟨"CellLoansModel", "isSign", "(I)Z"⟩, 26), (⟨"CellLoansModel", "copies", "(II)V"⟩, 26), (⟨"CellLoansModel", "sumOf", "(I)I"⟩, 26), (⟨"CellLoansModel", "p", "(II)I"⟩, 26), (⟨"CellLoansModel", "usedBy", "(I)I"⟩, 26), (⟨"CellLoansModel", "k", "(II)I"⟩, 26), (⟨"CellLoansModel", "lentBy", "(I)I"⟩, 26), (⟨"CellLoansModel", "m", "(II)I"⟩, 26), (⟨"CellLoansModel", "freeOf", "(I)I"⟩, 26)]
theorem lw_r2 : ∀ q ∈ lw_privs_2, lw_okq q := List.forall_mem_cons.mpr ⟨lw_p16, List.forall_mem_cons.mpr ⟨lw_p17, List.forall_mem_cons.mpr ⟨lw_p18, List.forall_mem_cons.mpr ⟨lw_p19, List.forall_mem_cons.mpr ⟨lw_p20, List.forall_mem_cons.mpr ⟨lw_p21, List.forall_mem_cons.mpr ⟨lw_p22, List.forall_mem_cons.mpr ⟨lw_p23, List.forall_mem_cons.mpr ⟨lw_p24, List.forall_mem_cons.mpr ⟨lw_p25, List.forall_mem_cons.mpr ⟨lw_p26, List.forall_mem_cons.mpr ⟨lw_p27, List.forall_mem_cons.mpr ⟨lw_p28, List.forall_mem_cons.mpr ⟨lw_p29, List.forall_mem_cons.mpr ⟨lw_p30, List.forall_mem_cons.mpr ⟨lw_p31, fun _ h => absurd h List.not_mem_nil⟩⟩⟩⟩⟩⟩⟩⟩⟩⟩⟩⟩⟩⟩⟩⟩
theorem lw_p32 : lw_okq (⟨"CellLoansModel", "roomOf", "(I)I"⟩, 26) := ⟨⟨by decide +kernel, by decide +kernel⟩, List.mem_of_getElem? (i := 1125) (by decide +kernel), List.mem_of_getElem? (i := 1365) (by decide +kernel), List.mem_of_getElem? (i := 1366) (by decide +kernel)⟩
theorem lw_p33 : lw_okq (⟨"CellLoansModel", "borrowedBy", "(I)I"⟩, 26) := ⟨⟨by decide +kernel, by decide +kernel⟩, List.mem_of_getElem? (i := 1125) (by decide +kernel), List.mem_of_getElem? (i := 1369) (by decide +kernel), List.mem_of_getElem? (i := 1370) (by decide +kernel)⟩
theorem lw_p34 : lw_okq (⟨"CellLoansModel", "isPort", "(I)Z"⟩, 26) := ⟨⟨by decide +kernel, by decide +kernel⟩, List.mem_of_getElem? (i := 1125) (by decide +kernel), List.mem_of_getElem? (i := 1377) (by decide +kernel), List.mem_of_getElem? (i := 1378) (by decide +kernel)⟩
theorem lw_p35 : lw_okq (⟨"CellLoansModel", "allGood", "(ZZ)Z"⟩, 26) := ⟨⟨by decide +kernel, by decide +kernel⟩, List.mem_of_getElem? (i := 1125) (by decide +kernel), List.mem_of_getElem? (i := 1382) (by decide +kernel), List.mem_of_getElem? (i := 1383) (by decide +kernel)⟩
theorem lw_p36 : lw_okq (⟨"CellLoansModel", "canLend", "(I)I"⟩, 26) := ⟨⟨by decide +kernel, by decide +kernel⟩, List.mem_of_getElem? (i := 1125) (by decide +kernel), List.mem_of_getElem? (i := 1386) (by decide +kernel), List.mem_of_getElem? (i := 1387) (by decide +kernel)⟩
theorem lw_p37 : lw_okq (⟨"CellLoansModel", "spareOf", "(I)I"⟩, 26) := ⟨⟨by decide +kernel, by decide +kernel⟩, List.mem_of_getElem? (i := 1125) (by decide +kernel), List.mem_of_getElem? (i := 1390) (by decide +kernel), List.mem_of_getElem? (i := 1391) (by decide +kernel)⟩
theorem lw_p38 : lw_okq (⟨"CellLoansModel", "keptBack", "(I)I"⟩, 26) := ⟨⟨by decide +kernel, by decide +kernel⟩, List.mem_of_getElem? (i := 1125) (by decide +kernel), List.mem_of_getElem? (i := 1394) (by decide +kernel), List.mem_of_getElem? (i := 1395) (by decide +kernel)⟩
theorem lw_p39 : lw_okq (⟨"CellLoansModel", "portMore", "(II)I"⟩, 26) := ⟨⟨by decide +kernel, by decide +kernel⟩, List.mem_of_getElem? (i := 1125) (by decide +kernel), List.mem_of_getElem? (i := 1398) (by decide +kernel), List.mem_of_getElem? (i := 1399) (by decide +kernel)⟩
theorem lw_p40 : lw_okq (⟨"CellLoansModel", "waiting", "(I)I"⟩, 26) := ⟨⟨by decide +kernel, by decide +kernel⟩, List.mem_of_getElem? (i := 1125) (by decide +kernel), List.mem_of_getElem? (i := 1402) (by decide +kernel), List.mem_of_getElem? (i := 1403) (by decide +kernel)⟩
theorem lw_p41 : lw_okq (⟨"CellLoansModel", "packetOf", "(II)I"⟩, 26) := ⟨⟨by decide +kernel, by decide +kernel⟩, List.mem_of_getElem? (i := 1125) (by decide +kernel), List.mem_of_getElem? (i := 1410) (by decide +kernel), List.mem_of_getElem? (i := 1411) (by decide +kernel)⟩
theorem lw_p42 : lw_okq (⟨"CellLoansModel", "isPromise", "(I)Z"⟩, 26) := ⟨⟨by decide +kernel, by decide +kernel⟩, List.mem_of_getElem? (i := 1125) (by decide +kernel), List.mem_of_getElem? (i := 1419) (by decide +kernel), List.mem_of_getElem? (i := 1420) (by decide +kernel)⟩
theorem lw_p43 : lw_okq (⟨"CellLoansModel", "owedTo", "(II)I"⟩, 26) := ⟨⟨by decide +kernel, by decide +kernel⟩, List.mem_of_getElem? (i := 1125) (by decide +kernel), List.mem_of_getElem? (i := 1428) (by decide +kernel), List.mem_of_getElem? (i := 1429) (by decide +kernel)⟩
theorem lw_p44 : lw_okq (⟨"CellLoansModel", "wayIn", "(II)I"⟩, 26) := ⟨⟨by decide +kernel, by decide +kernel⟩, List.mem_of_getElem? (i := 1125) (by decide +kernel), List.mem_of_getElem? (i := 1461) (by decide +kernel), List.mem_of_getElem? (i := 1462) (by decide +kernel)⟩
theorem lw_p45 : lw_okq (⟨"CellLoansModel", "othersCanLend", "(I)I"⟩, 26) := ⟨⟨by decide +kernel, by decide +kernel⟩, List.mem_of_getElem? (i := 1125) (by decide +kernel), List.mem_of_getElem? (i := 1465) (by decide +kernel), List.mem_of_getElem? (i := 1466) (by decide +kernel)⟩
theorem lw_p46 : lw_okq (⟨"CellLoansModel", "remembers", "()V"⟩, 26) := ⟨⟨by decide +kernel, by decide +kernel⟩, List.mem_of_getElem? (i := 1125) (by decide +kernel), List.mem_of_getElem? (i := 1477) (by decide +kernel), List.mem_of_getElem? (i := 1478) (by decide +kernel)⟩
theorem lw_p47 : lw_okq (⟨"CellLoansModel", "arrives", "(II)I"⟩, 26) := ⟨⟨by decide +kernel, by decide +kernel⟩, List.mem_of_getElem? (i := 1125) (by decide +kernel), List.mem_of_getElem? (i := 1481) (by decide +kernel), List.mem_of_getElem? (i := 1482) (by decide +kernel)⟩
def lw_privs_3 : List (MethodName × Nat) := [(⟨"CellLoansModel", "roomOf", "(I)I"⟩, 26), (⟨"CellLoansModel", "borrowedBy", "(I)I"⟩, 26), (⟨"CellLoansModel", "isPort", "(I)Z"⟩, 26), (⟨"CellLoansModel", "allGood", "(ZZ)Z"⟩, 26), (⟨"CellLoansModel", "canLend", "(I)I"⟩, 26), (⟨"CellLoansModel", "spareOf", "(I)I"⟩, 26), (⟨"CellLoansModel", "keptBack", "(I)I"⟩, 26), (⟨"CellLoansModel", "portMore", "(II)I"⟩, 26), (⟨"CellLoansModel", "waiting", "(I)I"⟩, 26), (⟨"CellLoansModel", "packetOf", "(II)I"⟩, 26), (⟨"CellLoansModel", "isPromise", "(I)Z"⟩, 26), (⟨"CellLoansModel", "owedTo", "(II)I"⟩, 26), (⟨"CellLoansModel", "wayIn", "(II)I"⟩, 26), (⟨"CellLoansModel", "othersCanLend", "(I)I"⟩, 26), (⟨"CellLoansModel", "remembers", "()V"⟩, 26), (⟨"CellLoansModel", "arrives", "(II)I"⟩, 26)]
theorem lw_r3 : ∀ q ∈ lw_privs_3, lw_okq q := List.forall_mem_cons.mpr ⟨lw_p32, List.forall_mem_cons.mpr ⟨lw_p33, List.forall_mem_cons.mpr ⟨lw_p34, List.forall_mem_cons.mpr ⟨lw_p35, List.forall_mem_cons.mpr ⟨lw_p36, List.forall_mem_cons.mpr ⟨lw_p37, List.forall_mem_cons.mpr ⟨lw_p38, List.forall_mem_cons.mpr ⟨lw_p39, List.forall_mem_cons.mpr ⟨lw_p40, List.forall_mem_cons.mpr ⟨lw_p41, List.forall_mem_cons.mpr ⟨lw_p42, List.forall_mem_cons.mpr ⟨lw_p43, List.forall_mem_cons.mpr ⟨lw_p44, List.forall_mem_cons.mpr ⟨lw_p45, List.forall_mem_cons.mpr ⟨lw_p46, List.forall_mem_cons.mpr ⟨lw_p47, fun _ h => absurd h List.not_mem_nil⟩⟩⟩⟩⟩⟩⟩⟩⟩⟩⟩⟩⟩⟩⟩⟩
theorem lw_p48 : lw_okq (⟨"CellLoansModel", "grows", "(II)V"⟩, 26) := ⟨⟨by decide +kernel, by decide +kernel⟩, List.mem_of_getElem? (i := 1125) (by decide +kernel), List.mem_of_getElem? (i := 1485) (by decide +kernel), List.mem_of_getElem? (i := 1486) (by decide +kernel)⟩
theorem lw_p49 : lw_okq (⟨"CellLoansModel", "growsP", "(III)V"⟩, 26) := ⟨⟨by decide +kernel, by decide +kernel⟩, List.mem_of_getElem? (i := 1125) (by decide +kernel), List.mem_of_getElem? (i := 1489) (by decide +kernel), List.mem_of_getElem? (i := 1490) (by decide +kernel)⟩
theorem lw_p50 : lw_okq (⟨"CellLoansModel", "notes", "(IIII)V"⟩, 26) := ⟨⟨by decide +kernel, by decide +kernel⟩, List.mem_of_getElem? (i := 1125) (by decide +kernel), List.mem_of_getElem? (i := 1493) (by decide +kernel), List.mem_of_getElem? (i := 1494) (by decide +kernel)⟩
theorem lw_p51 : lw_okq (⟨"CellLoansModel", "calls", "(II)V"⟩, 26) := ⟨⟨by decide +kernel, by decide +kernel⟩, List.mem_of_getElem? (i := 1125) (by decide +kernel), List.mem_of_getElem? (i := 1497) (by decide +kernel), List.mem_of_getElem? (i := 1498) (by decide +kernel)⟩
theorem lw_p52 : lw_okq (⟨"CellLoansModel", "lessens", "(II)Z"⟩, 26) := ⟨⟨by decide +kernel, by decide +kernel⟩, List.mem_of_getElem? (i := 1125) (by decide +kernel), List.mem_of_getElem? (i := 1501) (by decide +kernel), List.mem_of_getElem? (i := 1502) (by decide +kernel)⟩
theorem lw_p53 : lw_okq (⟨"CellLoansModel", "removesPromise", "(I)V"⟩, 26) := ⟨⟨by decide +kernel, by decide +kernel⟩, List.mem_of_getElem? (i := 1125) (by decide +kernel), List.mem_of_getElem? (i := 1505) (by decide +kernel), List.mem_of_getElem? (i := 1506) (by decide +kernel)⟩
theorem lw_p54 : lw_okq (⟨"CellLoansModel", "shrinks", "(II)V"⟩, 26) := ⟨⟨by decide +kernel, by decide +kernel⟩, List.mem_of_getElem? (i := 1125) (by decide +kernel), List.mem_of_getElem? (i := 1509) (by decide +kernel), List.mem_of_getElem? (i := 1510) (by decide +kernel)⟩
theorem lw_p55 : lw_okq (⟨"CellLoansModel", "newest", "(I)I"⟩, 26) := ⟨⟨by decide +kernel, by decide +kernel⟩, List.mem_of_getElem? (i := 1125) (by decide +kernel), List.mem_of_getElem? (i := 1513) (by decide +kernel), List.mem_of_getElem? (i := 1514) (by decide +kernel)⟩
theorem lw_p56 : lw_okq (⟨"CellLoansModel", "removesPacket", "(I)V"⟩, 26) := ⟨⟨by decide +kernel, by decide +kernel⟩, List.mem_of_getElem? (i := 1125) (by decide +kernel), List.mem_of_getElem? (i := 1517) (by decide +kernel), List.mem_of_getElem? (i := 1518) (by decide +kernel)⟩
theorem lw_p57 : lw_okq (⟨"CellLoansModel", "borrows", "(II)V"⟩, 26) := ⟨⟨by decide +kernel, by decide +kernel⟩, List.mem_of_getElem? (i := 1125) (by decide +kernel), List.mem_of_getElem? (i := 1521) (by decide +kernel), List.mem_of_getElem? (i := 1522) (by decide +kernel)⟩
theorem lw_p58 : lw_okq (⟨"CellLoansModel", "promises", "(IIII)I"⟩, 26) := ⟨⟨by decide +kernel, by decide +kernel⟩, List.mem_of_getElem? (i := 1125) (by decide +kernel), List.mem_of_getElem? (i := 1525) (by decide +kernel), List.mem_of_getElem? (i := 1526) (by decide +kernel)⟩
theorem lw_p59 : lw_okq (⟨"CellLoansModel", "takes", "(II)V"⟩, 26) := ⟨⟨by decide +kernel, by decide +kernel⟩, List.mem_of_getElem? (i := 1125) (by decide +kernel), List.mem_of_getElem? (i := 1529) (by decide +kernel), List.mem_of_getElem? (i := 1530) (by decide +kernel)⟩
theorem lw_p60 : lw_okq (⟨"CellLoansModel", "ticksOne", "()V"⟩, 26) := ⟨⟨by decide +kernel, by decide +kernel⟩, List.mem_of_getElem? (i := 1125) (by decide +kernel), List.mem_of_getElem? (i := 1542) (by decide +kernel), List.mem_of_getElem? (i := 1543) (by decide +kernel)⟩
theorem lw_p61 : lw_okq (⟨"CellLoansModel", "fallsDue", "()V"⟩, 26) := ⟨⟨by decide +kernel, by decide +kernel⟩, List.mem_of_getElem? (i := 1125) (by decide +kernel), List.mem_of_getElem? (i := 1546) (by decide +kernel), List.mem_of_getElem? (i := 1547) (by decide +kernel)⟩
theorem lw_p62 : lw_okq (⟨"CellLoansModel", "sends", "(I)I"⟩, 26) := ⟨⟨by decide +kernel, by decide +kernel⟩, List.mem_of_getElem? (i := 1125) (by decide +kernel), List.mem_of_getElem? (i := 1550) (by decide +kernel), List.mem_of_getElem? (i := 1551) (by decide +kernel)⟩
theorem lw_p63 : lw_okq (⟨"CellLoansModel", "forecasts", "()V"⟩, 26) := ⟨⟨by decide +kernel, by decide +kernel⟩, List.mem_of_getElem? (i := 1125) (by decide +kernel), List.mem_of_getElem? (i := 1554) (by decide +kernel), List.mem_of_getElem? (i := 1555) (by decide +kernel)⟩
def lw_privs_4 : List (MethodName × Nat) := [(⟨"CellLoansModel", "grows", "(II)V"⟩, 26), (⟨"CellLoansModel", "growsP", "(III)V"⟩, 26), (⟨"CellLoansModel", "notes", "(IIII)V"⟩, 26), (⟨"CellLoansModel", "calls", "(II)V"⟩, 26), (⟨"CellLoansModel", "lessens", "(II)Z"⟩, 26), (⟨"CellLoansModel", "removesPromise", "(I)V"⟩, 26), (⟨"CellLoansModel", "shrinks", "(II)V"⟩, 26), (⟨"CellLoansModel", "newest", "(I)I"⟩, 26), (⟨"CellLoansModel", "removesPacket", "(I)V"⟩, 26), (⟨"CellLoansModel", "borrows", "(II)V"⟩, 26), (⟨"CellLoansModel", "promises", "(IIII)I"⟩, 26), (⟨"CellLoansModel", "takes", "(II)V"⟩, 26), (⟨"CellLoansModel", "ticksOne", "()V"⟩, 26), (⟨"CellLoansModel", "fallsDue", "()V"⟩, 26), (⟨"CellLoansModel", "sends", "(I)I"⟩, 26), (⟨"CellLoansModel", "forecasts", "()V"⟩, 26)]
theorem lw_r4 : ∀ q ∈ lw_privs_4, lw_okq q := List.forall_mem_cons.mpr ⟨lw_p48, List.forall_mem_cons.mpr ⟨lw_p49, List.forall_mem_cons.mpr ⟨lw_p50, List.forall_mem_cons.mpr ⟨lw_p51, List.forall_mem_cons.mpr ⟨lw_p52, List.forall_mem_cons.mpr ⟨lw_p53, List.forall_mem_cons.mpr ⟨lw_p54, List.forall_mem_cons.mpr ⟨lw_p55, List.forall_mem_cons.mpr ⟨lw_p56, List.forall_mem_cons.mpr ⟨lw_p57, List.forall_mem_cons.mpr ⟨lw_p58, List.forall_mem_cons.mpr ⟨lw_p59, List.forall_mem_cons.mpr ⟨lw_p60, List.forall_mem_cons.mpr ⟨lw_p61, List.forall_mem_cons.mpr ⟨lw_p62, List.forall_mem_cons.mpr ⟨lw_p63, fun _ h => absurd h List.not_mem_nil⟩⟩⟩⟩⟩⟩⟩⟩⟩⟩⟩⟩⟩⟩⟩⟩
theorem lw_p64 : lw_okq (⟨"CellLoansModel", "thenSent", "(II)I"⟩, 26) := ⟨⟨by decide +kernel, by decide +kernel⟩, List.mem_of_getElem? (i := 1125) (by decide +kernel), List.mem_of_getElem? (i := 1566) (by decide +kernel), List.mem_of_getElem? (i := 1567) (by decide +kernel)⟩
theorem lw_p65 : lw_okq (⟨"CellLoansModel", "kept", "(I)I"⟩, 26) := ⟨⟨by decide +kernel, by decide +kernel⟩, List.mem_of_getElem? (i := 1125) (by decide +kernel), List.mem_of_getElem? (i := 1574) (by decide +kernel), List.mem_of_getElem? (i := 1575) (by decide +kernel)⟩
theorem lw_p66 : lw_okq (⟨"CellLoansModel", "keeps", "()V"⟩, 26) := ⟨⟨by decide +kernel, by decide +kernel⟩, List.mem_of_getElem? (i := 1125) (by decide +kernel), List.mem_of_getElem? (i := 1578) (by decide +kernel), List.mem_of_getElem? (i := 1579) (by decide +kernel)⟩
theorem lw_p67 : lw_okq (⟨"CellLoansModel", "ticksAll", "(I)I"⟩, 26) := ⟨⟨by decide +kernel, by decide +kernel⟩, List.mem_of_getElem? (i := 1125) (by decide +kernel), List.mem_of_getElem? (i := 1590) (by decide +kernel), List.mem_of_getElem? (i := 1591) (by decide +kernel)⟩
theorem lw_p68 : lw_okq (⟨"CellLoansModel", "canGive", "(III)Z"⟩, 26) := ⟨⟨by decide +kernel, by decide +kernel⟩, List.mem_of_getElem? (i := 1125) (by decide +kernel), List.mem_of_getElem? (i := 1598) (by decide +kernel), List.mem_of_getElem? (i := 1599) (by decide +kernel)⟩
theorem lw_p69 : lw_okq (⟨"CellLoansModel", "gives", "(III)I"⟩, 26) := ⟨⟨by decide +kernel, by decide +kernel⟩, List.mem_of_getElem? (i := 1125) (by decide +kernel), List.mem_of_getElem? (i := 1602) (by decide +kernel), List.mem_of_getElem? (i := 1603) (by decide +kernel)⟩
theorem lw_p70 : lw_okq (⟨"CellLoansModel", "canExtend", "(I)Z"⟩, 26) := ⟨⟨by decide +kernel, by decide +kernel⟩, List.mem_of_getElem? (i := 1125) (by decide +kernel), List.mem_of_getElem? (i := 1610) (by decide +kernel), List.mem_of_getElem? (i := 1611) (by decide +kernel)⟩
theorem lw_p71 : lw_okq (⟨"CellLoansModel", "extends1", "(I)I"⟩, 26) := ⟨⟨by decide +kernel, by decide +kernel⟩, List.mem_of_getElem? (i := 1125) (by decide +kernel), List.mem_of_getElem? (i := 1614) (by decide +kernel), List.mem_of_getElem? (i := 1615) (by decide +kernel)⟩
theorem lw_p72 : lw_okq (⟨"CellLoansModel", "sets", "(II)I"⟩, 26) := ⟨⟨by decide +kernel, by decide +kernel⟩, List.mem_of_getElem? (i := 1125) (by decide +kernel), List.mem_of_getElem? (i := 1622) (by decide +kernel), List.mem_of_getElem? (i := 1623) (by decide +kernel)⟩
theorem lw_p73 : lw_okq (⟨"CellLoansModel", "goes", "(Z)V"⟩, 26) := ⟨⟨by decide +kernel, by decide +kernel⟩, List.mem_of_getElem? (i := 1125) (by decide +kernel), List.mem_of_getElem? (i := 1637) (by decide +kernel), List.mem_of_getElem? (i := 1638) (by decide +kernel)⟩
theorem lw_p74 : lw_okq (⟨"CellLoansModel", "closesRepeat", "()V"⟩, 26) := ⟨⟨by decide +kernel, by decide +kernel⟩, List.mem_of_getElem? (i := 1125) (by decide +kernel), List.mem_of_getElem? (i := 1641) (by decide +kernel), List.mem_of_getElem? (i := 1642) (by decide +kernel)⟩
theorem lw_p75 : lw_okq (⟨"CellLoansModel", "readsCommand", "()V"⟩, 26) := ⟨⟨by decide +kernel, by decide +kernel⟩, List.mem_of_getElem? (i := 1125) (by decide +kernel), List.mem_of_getElem? (i := 1645) (by decide +kernel), List.mem_of_getElem? (i := 1646) (by decide +kernel)⟩
theorem lw_p76 : lw_okq (⟨"CellLoansModel", "opensRepeat", "()V"⟩, 26) := ⟨⟨by decide +kernel, by decide +kernel⟩, List.mem_of_getElem? (i := 1125) (by decide +kernel), List.mem_of_getElem? (i := 1654) (by decide +kernel), List.mem_of_getElem? (i := 1655) (by decide +kernel)⟩
theorem lw_p77 : lw_okq (⟨"CellLoansModel", "readsArrive", "()V"⟩, 26) := ⟨⟨by decide +kernel, by decide +kernel⟩, List.mem_of_getElem? (i := 1125) (by decide +kernel), List.mem_of_getElem? (i := 1658) (by decide +kernel), List.mem_of_getElem? (i := 1659) (by decide +kernel)⟩
theorem lw_p78 : lw_okq (⟨"CellLoansModel", "readsName", "()I"⟩, 26) := ⟨⟨by decide +kernel, by decide +kernel⟩, List.mem_of_getElem? (i := 1125) (by decide +kernel), List.mem_of_getElem? (i := 1662) (by decide +kernel), List.mem_of_getElem? (i := 1663) (by decide +kernel)⟩
theorem lw_p79 : lw_okq (⟨"CellLoansModel", "readsAny", "()I"⟩, 26) := ⟨⟨by decide +kernel, by decide +kernel⟩, List.mem_of_getElem? (i := 1125) (by decide +kernel), List.mem_of_getElem? (i := 1666) (by decide +kernel), List.mem_of_getElem? (i := 1667) (by decide +kernel)⟩
def lw_privs_5 : List (MethodName × Nat) := [(⟨"CellLoansModel", "thenSent", "(II)I"⟩, 26), (⟨"CellLoansModel", "kept", "(I)I"⟩, 26), (⟨"CellLoansModel", "keeps", "()V"⟩, 26), (⟨"CellLoansModel", "ticksAll", "(I)I"⟩, 26), (⟨"CellLoansModel", "canGive", "(III)Z"⟩, 26), (⟨"CellLoansModel", "gives", "(III)I"⟩, 26), (⟨"CellLoansModel", "canExtend", "(I)Z"⟩, 26), (⟨"CellLoansModel", "extends1", "(I)I"⟩, 26), (⟨"CellLoansModel", "sets", "(II)I"⟩, 26), (⟨"CellLoansModel", "goes", "(Z)V"⟩, 26), (⟨"CellLoansModel", "closesRepeat", "()V"⟩, 26), (⟨"CellLoansModel", "readsCommand", "()V"⟩, 26), (⟨"CellLoansModel", "opensRepeat", "()V"⟩, 26), (⟨"CellLoansModel", "readsArrive", "()V"⟩, 26), (⟨"CellLoansModel", "readsName", "()I"⟩, 26), (⟨"CellLoansModel", "readsAny", "()I"⟩, 26)]
theorem lw_r5 : ∀ q ∈ lw_privs_5, lw_okq q := List.forall_mem_cons.mpr ⟨lw_p64, List.forall_mem_cons.mpr ⟨lw_p65, List.forall_mem_cons.mpr ⟨lw_p66, List.forall_mem_cons.mpr ⟨lw_p67, List.forall_mem_cons.mpr ⟨lw_p68, List.forall_mem_cons.mpr ⟨lw_p69, List.forall_mem_cons.mpr ⟨lw_p70, List.forall_mem_cons.mpr ⟨lw_p71, List.forall_mem_cons.mpr ⟨lw_p72, List.forall_mem_cons.mpr ⟨lw_p73, List.forall_mem_cons.mpr ⟨lw_p74, List.forall_mem_cons.mpr ⟨lw_p75, List.forall_mem_cons.mpr ⟨lw_p76, List.forall_mem_cons.mpr ⟨lw_p77, List.forall_mem_cons.mpr ⟨lw_p78, List.forall_mem_cons.mpr ⟨lw_p79, fun _ h => absurd h List.not_mem_nil⟩⟩⟩⟩⟩⟩⟩⟩⟩⟩⟩⟩⟩⟩⟩⟩
theorem lw_p80 : lw_okq (⟨"CellLoansModel", "isDoing", "()Z"⟩, 26) := ⟨⟨by decide +kernel, by decide +kernel⟩, List.mem_of_getElem? (i := 1125) (by decide +kernel), List.mem_of_getElem? (i := 1670) (by decide +kernel), List.mem_of_getElem? (i := 1671) (by decide +kernel)⟩
theorem lw_p81 : lw_okq (⟨"CellLoansModel", "counts", "(Z)V"⟩, 26) := ⟨⟨by decide +kernel, by decide +kernel⟩, List.mem_of_getElem? (i := 1125) (by decide +kernel), List.mem_of_getElem? (i := 1674) (by decide +kernel), List.mem_of_getElem? (i := 1675) (by decide +kernel)⟩
theorem lw_p82 : lw_okq (⟨"CellLoansModel", "readsBack", "()V"⟩, 26) := ⟨⟨by decide +kernel, by decide +kernel⟩, List.mem_of_getElem? (i := 1125) (by decide +kernel), List.mem_of_getElem? (i := 1678) (by decide +kernel), List.mem_of_getElem? (i := 1679) (by decide +kernel)⟩
theorem lw_p83 : lw_okq (⟨"CellLoansModel", "readsNumber", "()V"⟩, 26) := ⟨⟨by decide +kernel, by decide +kernel⟩, List.mem_of_getElem? (i := 1125) (by decide +kernel), List.mem_of_getElem? (i := 1682) (by decide +kernel), List.mem_of_getElem? (i := 1683) (by decide +kernel)⟩
theorem lw_p84 : lw_okq (⟨"CellLoansModel", "writesName", "(J)V"⟩, 26) := ⟨⟨by decide +kernel, by decide +kernel⟩, List.mem_of_getElem? (i := 1125) (by decide +kernel), List.mem_of_getElem? (i := 1690) (by decide +kernel), List.mem_of_getElem? (i := 1691) (by decide +kernel)⟩
theorem lw_p85 : lw_okq (⟨"CellLoansModel", "writes", "(I)V"⟩, 26) := ⟨⟨by decide +kernel, by decide +kernel⟩, List.mem_of_getElem? (i := 1125) (by decide +kernel), List.mem_of_getElem? (i := 1695) (by decide +kernel), List.mem_of_getElem? (i := 1696) (by decide +kernel)⟩
theorem lw_p86 : lw_okq (⟨"CellLoansModel", "writesNumber", "(I)V"⟩, 26) := ⟨⟨by decide +kernel, by decide +kernel⟩, List.mem_of_getElem? (i := 1125) (by decide +kernel), List.mem_of_getElem? (i := 1699) (by decide +kernel), List.mem_of_getElem? (i := 1700) (by decide +kernel)⟩
def lw_privs_6 : List (MethodName × Nat) := [(⟨"CellLoansModel", "isDoing", "()Z"⟩, 26), (⟨"CellLoansModel", "counts", "(Z)V"⟩, 26), (⟨"CellLoansModel", "readsBack", "()V"⟩, 26), (⟨"CellLoansModel", "readsNumber", "()V"⟩, 26), (⟨"CellLoansModel", "writesName", "(J)V"⟩, 26), (⟨"CellLoansModel", "writes", "(I)V"⟩, 26), (⟨"CellLoansModel", "writesNumber", "(I)V"⟩, 26)]
theorem lw_r6 : ∀ q ∈ lw_privs_6, lw_okq q := List.forall_mem_cons.mpr ⟨lw_p80, List.forall_mem_cons.mpr ⟨lw_p81, List.forall_mem_cons.mpr ⟨lw_p82, List.forall_mem_cons.mpr ⟨lw_p83, List.forall_mem_cons.mpr ⟨lw_p84, List.forall_mem_cons.mpr ⟨lw_p85, List.forall_mem_cons.mpr ⟨lw_p86, fun _ h => absurd h List.not_mem_nil⟩⟩⟩⟩⟩⟩⟩
def lw_privs : List (MethodName × Nat) := lw_privs_1 ++ (lw_privs_2 ++ (lw_privs_3 ++ (lw_privs_4 ++ (lw_privs_5 ++ (lw_privs_6)))))
def lw_tbl : List Cond := k2_sels lw_privs ++ tables_1
theorem lw_privs_ok : ∀ q ∈ lw_privs, lw_okq q := by
  show ∀ q ∈ lw_privs_1 ++ (lw_privs_2 ++ (lw_privs_3 ++ (lw_privs_4 ++ (lw_privs_5 ++ (lw_privs_6))))), lw_okq q
  exact List.forall_mem_append.mpr ⟨lw_r1, List.forall_mem_append.mpr ⟨lw_r2, List.forall_mem_append.mpr ⟨lw_r3, List.forall_mem_append.mpr ⟨lw_r4, List.forall_mem_append.mpr ⟨lw_r5, lw_r6⟩⟩⟩⟩⟩
/-- the streams that the claim lets the run draw from -/
abbrev lw_cs : List Choice := [Jvm.Choice.named "NaN.bits"]
theorem lw_bits : nanBits ∈ lw_cs := by first | decide | exact List.mem_cons_self | simp [lw_cs, nanBits]
def RX0 : String := "CellLoans$History"
def TX0 : u_T := fun k => match k with
  | 0 => ("CellLoans$History", "before", "[LCellLoans$Switch;", true)
  | 1 => ("CellLoans$History", "latest", "I", false)
  | _ => ("CellLoans$History", "kept", "I", false)
def tyX0 : Nat → FieldType := fun k => match k with
  | 0 => .array (.object "CellLoans$Switch")
  | 1 => .int
  | _ => .int
abbrev wsX00 : List Cond := u_ws RX0 TX0 3
theorem nmX0 : ∀ a, a < 3 → ∀ b, b < 3 → a ≠ b → (TX0 a).2.1 ≠ (TX0 b).2.1 := by decide +kernel
theorem tyX0_ok : ∀ k, k < 3 → parseFieldDescriptor (TX0 k).2.2.1 = some (tyX0 k) := by decide +kernel
abbrev cX0_init : ByteArray := prog_2_method_1_code
def yX0_init : MethodName := ⟨RX0, "<init>", "()V"⟩
abbrev cX0_forget : ByteArray := prog_2_method_2_code
def yX0_forget : MethodName := ⟨RX0, "forget", "()V"⟩
abbrev cX0_remember : ByteArray := prog_2_method_3_code
def yX0_remember : MethodName := ⟨RX0, "remember", "(LCellLoans$Switch;)V"⟩
abbrev cX0_bringBack : ByteArray := prog_2_method_4_code
def yX0_bringBack : MethodName := ⟨RX0, "bringBack", "(LCellLoans$Switch;)V"⟩
def RX1 : String := "CellLoans$Ledger"
def TX1 : u_T := fun k => match k with
  | 0 => ("CellLoans$Ledger", "port", "[I", true)
  | 1 => ("CellLoans$Ledger", "cells", "[I", true)
  | 2 => ("CellLoans$Ledger", "reason", "[I", true)
  | 3 => ("CellLoans$Ledger", "when", "[I", true)
  | 4 => ("CellLoans$Ledger", "byReason", "[I", true)
  | _ => ("CellLoans$Ledger", "total", "I", false)
def tyX1 : Nat → FieldType := fun k => match k with
  | 0 => .array .int
  | 1 => .array .int
  | 2 => .array .int
  | 3 => .array .int
  | 4 => .array .int
  | _ => .int
abbrev wsX10 : List Cond := u_ws RX1 TX1 6
theorem nmX1 : ∀ a, a < 6 → ∀ b, b < 6 → a ≠ b → (TX1 a).2.1 ≠ (TX1 b).2.1 := by decide +kernel
theorem tyX1_ok : ∀ k, k < 6 → parseFieldDescriptor (TX1 k).2.2.1 = some (tyX1 k) := by decide +kernel
abbrev cX1_init : ByteArray := prog_3_method_1_code
def yX1_init : MethodName := ⟨RX1, "<init>", "()V"⟩
abbrev cX1_clear : ByteArray := prog_3_method_2_code
def yX1_clear : MethodName := ⟨RX1, "clear", "()V"⟩
abbrev cX1_copyFrom : ByteArray := prog_3_method_3_code
def yX1_copyFrom : MethodName := ⟨RX1, "copyFrom", "(LCellLoans$Ledger;)V"⟩
abbrev cX1_add : ByteArray := prog_3_method_4_code
def yX1_add : MethodName := ⟨RX1, "add", "(IIII)V"⟩
abbrev cX1_number : ByteArray := prog_3_method_5_code
def yX1_number : MethodName := ⟨RX1, "number", "(II)I"⟩
def RX2 : String := "CellLoans$Port"
def TX2 : u_T := fun k => match k with
  | 0 => ("CellLoans$Port", "name", "J", false)
  | 1 => ("CellLoans$Port", "share", "I", false)
  | 2 => ("CellLoans$Port", "rate", "I", false)
  | 3 => ("CellLoans$Port", "forecast", "I", false)
  | 4 => ("CellLoans$Port", "burst", "I", false)
  | 5 => ("CellLoans$Port", "cells", "I", false)
  | 6 => ("CellLoans$Port", "lent", "I", false)
  | 7 => ("CellLoans$Port", "borrowed", "I", false)
  | 8 => ("CellLoans$Port", "dropped", "I", false)
  | 9 => ("CellLoans$Port", "charged", "I", false)
  | 10 => ("CellLoans$Port", "sent", "I", false)
  | 11 => ("CellLoans$Port", "waiting", "I", false)
  | 12 => ("CellLoans$Port", "left", "[I", true)
  | 13 => ("CellLoans$Port", "had", "[I", true)
  | _ => ("CellLoans$Port", "came", "[I", true)
def tyX2 : Nat → FieldType := fun k => match k with
  | 0 => .long
  | 1 => .int
  | 2 => .int
  | 3 => .int
  | 4 => .int
  | 5 => .int
  | 6 => .int
  | 7 => .int
  | 8 => .int
  | 9 => .int
  | 10 => .int
  | 11 => .int
  | 12 => .array .int
  | 13 => .array .int
  | _ => .array .int
abbrev wsX20 : List Cond := u_ws RX2 TX2 15
theorem nmX2 : ∀ a, a < 15 → ∀ b, b < 15 → a ≠ b → (TX2 a).2.1 ≠ (TX2 b).2.1 := by decide +kernel
theorem tyX2_ok : ∀ k, k < 15 → parseFieldDescriptor (TX2 k).2.2.1 = some (tyX2 k) := by decide +kernel
abbrev cX2_init : ByteArray := prog_4_method_1_code
def yX2_init : MethodName := ⟨RX2, "<init>", "()V"⟩
abbrev cX2_become : ByteArray := prog_4_method_2_code
def yX2_become : MethodName := ⟨RX2, "become", "(JIII)V"⟩
abbrev cX2_copyFrom : ByteArray := prog_4_method_3_code
def yX2_copyFrom : MethodName := ⟨RX2, "copyFrom", "(LCellLoans$Port;)V"⟩
abbrev cX2_number : ByteArray := prog_4_method_4_code
def yX2_number : MethodName := ⟨RX2, "number", "(II)I"⟩
abbrev cX2_room : ByteArray := prog_4_method_5_code
def yX2_room : MethodName := ⟨RX2, "room", "()I"⟩
abbrev cX2_free : ByteArray := prog_4_method_6_code
def yX2_free : MethodName := ⟨RX2, "free", "()I"⟩
abbrev cX2_keptBack : ByteArray := prog_4_method_7_code
def yX2_keptBack : MethodName := ⟨RX2, "keptBack", "(I)I"⟩
abbrev cX2_ownLeft : ByteArray := prog_4_method_8_code
def yX2_ownLeft : MethodName := ⟨RX2, "ownLeft", "()I"⟩
abbrev cX2_canLend : ByteArray := prog_4_method_9_code
def yX2_canLend : MethodName := ⟨RX2, "canLend", "(I)I"⟩
abbrev cX2_append : ByteArray := prog_4_method_10_code
def yX2_append : MethodName := ⟨RX2, "append", "(II)V"⟩
abbrev cX2_removeNewest : ByteArray := prog_4_method_11_code
def yX2_removeNewest : MethodName := ⟨RX2, "removeNewest", "()I"⟩
abbrev cX2_sendFirst : ByteArray := prog_4_method_12_code
def yX2_sendFirst : MethodName := ⟨RX2, "sendFirst", "()V"⟩
abbrev cX2_removeFirst : ByteArray := prog_4_method_13_code
def yX2_removeFirst : MethodName := ⟨RX2, "removeFirst", "(I)V"⟩
abbrev cX2_learn : ByteArray := prog_4_method_14_code
def yX2_learn : MethodName := ⟨RX2, "learn", "()V"⟩
abbrev cX2_cellsUpTo : ByteArray := prog_4_method_15_code
def yX2_cellsUpTo : MethodName := ⟨RX2, "cellsUpTo", "(I)I"⟩
def RX3 : String := "CellLoans$Promises"
def TX3 : u_T := fun k => match k with
  | 0 => ("CellLoans$Promises", "lender", "[I", true)
  | 1 => ("CellLoans$Promises", "borrower", "[I", true)
  | 2 => ("CellLoans$Promises", "cells", "[I", true)
  | 3 => ("CellLoans$Promises", "due", "[I", true)
  | _ => ("CellLoans$Promises", "count", "I", false)
def tyX3 : Nat → FieldType := fun k => match k with
  | 0 => .array .int
  | 1 => .array .int
  | 2 => .array .int
  | 3 => .array .int
  | _ => .int
abbrev wsX30 : List Cond := u_ws RX3 TX3 5
theorem nmX3 : ∀ a, a < 5 → ∀ b, b < 5 → a ≠ b → (TX3 a).2.1 ≠ (TX3 b).2.1 := by decide +kernel
theorem tyX3_ok : ∀ k, k < 5 → parseFieldDescriptor (TX3 k).2.2.1 = some (tyX3 k) := by decide +kernel
abbrev cX3_init : ByteArray := prog_5_method_1_code
def yX3_init : MethodName := ⟨RX3, "<init>", "()V"⟩
abbrev cX3_copyFrom : ByteArray := prog_5_method_2_code
def yX3_copyFrom : MethodName := ⟨RX3, "copyFrom", "(LCellLoans$Promises;)V"⟩
abbrev cX3_place : ByteArray := prog_5_method_3_code
def yX3_place : MethodName := ⟨RX3, "place", "(ILCellLoans$Promises;I)V"⟩
abbrev cX3_insert : ByteArray := prog_5_method_4_code
def yX3_insert : MethodName := ⟨RX3, "insert", "(IIII)V"⟩
abbrev cX3_remove : ByteArray := prog_5_method_5_code
def yX3_remove : MethodName := ⟨RX3, "remove", "(I)V"⟩
abbrev cX3_isBetween : ByteArray := prog_5_method_6_code
def yX3_isBetween : MethodName := ⟨RX3, "isBetween", "(III)Z"⟩
abbrev cX3_cellsBetween : ByteArray := prog_5_method_7_code
def yX3_cellsBetween : MethodName := ⟨RX3, "cellsBetween", "(II)I"⟩
def RX4 : String := "CellLoans$Report"
def TX4 : u_T := fun k => match k with
  | 0 => ("CellLoans$Report", "bytes", "[I", true)
  | _ => ("CellLoans$Report", "length", "I", false)
def tyX4 : Nat → FieldType := fun k => match k with
  | 0 => .array .int
  | _ => .int
abbrev wsX40 : List Cond := u_ws RX4 TX4 2
theorem nmX4 : ∀ a, a < 2 → ∀ b, b < 2 → a ≠ b → (TX4 a).2.1 ≠ (TX4 b).2.1 := by decide +kernel
theorem tyX4_ok : ∀ k, k < 2 → parseFieldDescriptor (TX4 k).2.2.1 = some (tyX4 k) := by decide +kernel
abbrev cX4_init : ByteArray := prog_6_method_1_code
def yX4_init : MethodName := ⟨RX4, "<init>", "()V"⟩
abbrev cX4_write : ByteArray := prog_6_method_2_code
def yX4_write : MethodName := ⟨RX4, "write", "(LCellLoans$Switch;)V"⟩
abbrev cX4_putPromisesOf : ByteArray := prog_6_method_3_code
def yX4_putPromisesOf : MethodName := ⟨RX4, "putPromisesOf", "(ILCellLoans$Switch;)V"⟩
abbrev cX4_putName : ByteArray := prog_6_method_4_code
def yX4_putName : MethodName := ⟨RX4, "putName", "(J)V"⟩
abbrev cX4_putNumber : ByteArray := prog_6_method_5_code
def yX4_putNumber : MethodName := ⟨RX4, "putNumber", "(I)V"⟩
abbrev cX4_put : ByteArray := prog_6_method_6_code
def yX4_put : MethodName := ⟨RX4, "put", "(I)V"⟩
def RX5 : String := "CellLoans$Script"
def TX5 : u_T := fun k => match k with
  | 0 => ("CellLoans$Script", "verb", "[I", true)
  | 1 => ("CellLoans$Script", "port", "[I", true)
  | 2 => ("CellLoans$Script", "other", "[I", true)
  | 3 => ("CellLoans$Script", "number", "[I", true)
  | 4 => ("CellLoans$Script", "count", "I", false)
  | 5 => ("CellLoans$Script", "written", "I", false)
  | 6 => ("CellLoans$Script", "bodyStart", "[I", true)
  | 7 => ("CellLoans$Script", "times", "[I", true)
  | _ => ("CellLoans$Script", "open", "I", false)
def tyX5 : Nat → FieldType := fun k => match k with
  | 0 => .array .int
  | 1 => .array .int
  | 2 => .array .int
  | 3 => .array .int
  | 4 => .int
  | 5 => .int
  | 6 => .array .int
  | 7 => .array .int
  | _ => .int
abbrev wsX50 : List Cond := u_ws RX5 TX5 9
theorem nmX5 : ∀ a, a < 9 → ∀ b, b < 9 → a ≠ b → (TX5 a).2.1 ≠ (TX5 b).2.1 := by decide +kernel
theorem tyX5_ok : ∀ k, k < 9 → parseFieldDescriptor (TX5 k).2.2.1 = some (tyX5 k) := by decide +kernel
abbrev cX5_init : ByteArray := prog_7_method_1_code
def yX5_init : MethodName := ⟨RX5, "<init>", "()V"⟩
abbrev cX5_readFrom : ByteArray := prog_7_method_2_code
def yX5_readFrom : MethodName := ⟨RX5, "readFrom", "(LCellLoans$Text;LCellLoans$Switch;)Z"⟩
abbrev cX5_readCommand : ByteArray := prog_7_method_3_code
def yX5_readCommand : MethodName := ⟨RX5, "readCommand", "(LCellLoans$Text;LCellLoans$Switch;)Z"⟩
abbrev cX5_verbOf : ByteArray := prog_7_method_4_code
def yX5_verbOf : MethodName := ⟨RX5, "verbOf", "(LCellLoans$Text;)I"⟩
abbrev cX5_readPlain : ByteArray := prog_7_method_5_code
def yX5_readPlain : MethodName := ⟨RX5, "readPlain", "(ILCellLoans$Text;LCellLoans$Switch;)Z"⟩
abbrev cX5_takePort : ByteArray := prog_7_method_6_code
def yX5_takePort : MethodName := ⟨RX5, "takePort", "(LCellLoans$Text;LCellLoans$Switch;)I"⟩
abbrev cX5_openRepeat : ByteArray := prog_7_method_7_code
def yX5_openRepeat : MethodName := ⟨RX5, "openRepeat", "(LCellLoans$Text;)Z"⟩
abbrev cX5_closeRepeat : ByteArray := prog_7_method_8_code
def yX5_closeRepeat : MethodName := ⟨RX5, "closeRepeat", "(LCellLoans$Text;)Z"⟩
abbrev cX5_add : ByteArray := prog_7_method_9_code
def yX5_add : MethodName := ⟨RX5, "add", "(IIII)V"⟩
def RX6 : String := "CellLoans$Switch"
def TX6 : u_T := fun k => match k with
  | 0 => ("CellLoans$Switch", "ports", "[LCellLoans$Port;", true)
  | 1 => ("CellLoans$Switch", "portCount", "I", false)
  | 2 => ("CellLoans$Switch", "term", "I", false)
  | 3 => ("CellLoans$Switch", "keep", "I", false)
  | 4 => ("CellLoans$Switch", "clock", "I", false)
  | 5 => ("CellLoans$Switch", "arrived", "I", false)
  | 6 => ("CellLoans$Switch", "promises", "LCellLoans$Promises;", true)
  | _ => ("CellLoans$Switch", "ledger", "LCellLoans$Ledger;", true)
def tyX6 : Nat → FieldType := fun k => match k with
  | 0 => .array (.object "CellLoans$Port")
  | 1 => .int
  | 2 => .int
  | 3 => .int
  | 4 => .int
  | 5 => .int
  | 6 => .object "CellLoans$Promises"
  | _ => .object "CellLoans$Ledger"
abbrev wsX60 : List Cond := u_ws RX6 TX6 8
theorem nmX6 : ∀ a, a < 8 → ∀ b, b < 8 → a ≠ b → (TX6 a).2.1 ≠ (TX6 b).2.1 := by decide +kernel
theorem tyX6_ok : ∀ k, k < 8 → parseFieldDescriptor (TX6 k).2.2.1 = some (tyX6 k) := by decide +kernel
abbrev cX6_init : ByteArray := prog_8_method_1_code
def yX6_init : MethodName := ⟨RX6, "<init>", "()V"⟩
abbrev cX6_clear : ByteArray := prog_8_method_2_code
def yX6_clear : MethodName := ⟨RX6, "clear", "()V"⟩
abbrev cX6_copyFrom : ByteArray := prog_8_method_3_code
def yX6_copyFrom : MethodName := ⟨RX6, "copyFrom", "(LCellLoans$Switch;)V"⟩
abbrev cX6_addPort : ByteArray := prog_8_method_4_code
def yX6_addPort : MethodName := ⟨RX6, "addPort", "(JIII)V"⟩
abbrev cX6_portNamed : ByteArray := prog_8_method_5_code
def yX6_portNamed : MethodName := ⟨RX6, "portNamed", "(J)I"⟩
abbrev cX6_sumOfPorts : ByteArray := prog_8_method_6_code
def yX6_sumOfPorts : MethodName := ⟨RX6, "sumOfPorts", "(I)I"⟩
abbrev cX6_lendableTo : ByteArray := prog_8_method_7_code
def yX6_lendableTo : MethodName := ⟨RX6, "lendableTo", "(I)I"⟩
abbrev cX6_missing : ByteArray := prog_8_method_8_code
def yX6_missing : MethodName := ⟨RX6, "missing", "(II)I"⟩
abbrev cX6_wayOf : ByteArray := prog_8_method_9_code
def yX6_wayOf : MethodName := ⟨RX6, "wayOf", "(II)I"⟩
abbrev cX6_admit : ByteArray := prog_8_method_10_code
def yX6_admit : MethodName := ⟨RX6, "admit", "(II)I"⟩
abbrev cX6_borrow : ByteArray := prog_8_method_11_code
def yX6_borrow : MethodName := ⟨RX6, "borrow", "(II)V"⟩
abbrev cX6_bestLender : ByteArray := prog_8_method_12_code
def yX6_bestLender : MethodName := ⟨RX6, "bestLender", "(I)I"⟩
abbrev cX6_collect : ByteArray := prog_8_method_13_code
def yX6_collect : MethodName := ⟨RX6, "collect", "(III)V"⟩
abbrev cX6_takeBack : ByteArray := prog_8_method_14_code
def yX6_takeBack : MethodName := ⟨RX6, "takeBack", "(III)V"⟩
abbrev cX6_recordDrop : ByteArray := prog_8_method_15_code
def yX6_recordDrop : MethodName := ⟨RX6, "recordDrop", "(III)V"⟩
abbrev cX6_mayPass : ByteArray := prog_8_method_16_code
def yX6_mayPass : MethodName := ⟨RX6, "mayPass", "(I)Z"⟩
abbrev cX6_passTicks : ByteArray := prog_8_method_17_code
def yX6_passTicks : MethodName := ⟨RX6, "passTicks", "(I)I"⟩
abbrev cX6_passTick : ByteArray := prog_8_method_18_code
def yX6_passTick : MethodName := ⟨RX6, "passTick", "()V"⟩
abbrev cX6_mayReturn : ByteArray := prog_8_method_19_code
def yX6_mayReturn : MethodName := ⟨RX6, "mayReturn", "(III)Z"⟩
abbrev cX6_returnCells : ByteArray := prog_8_method_20_code
def yX6_returnCells : MethodName := ⟨RX6, "returnCells", "(III)I"⟩
abbrev cX6_mayProlong : ByteArray := prog_8_method_21_code
def yX6_mayProlong : MethodName := ⟨RX6, "mayProlong", "(I)Z"⟩
abbrev cX6_prolong : ByteArray := prog_8_method_22_code
def yX6_prolong : MethodName := ⟨RX6, "prolong", "(I)I"⟩
abbrev cX6_changeTerm : ByteArray := prog_8_method_23_code
def yX6_changeTerm : MethodName := ⟨RX6, "changeTerm", "(I)I"⟩
abbrev cX6_changeKeep : ByteArray := prog_8_method_24_code
def yX6_changeKeep : MethodName := ⟨RX6, "changeKeep", "(I)I"⟩
def RX7 : String := "CellLoans$SwitchReader"
def TX7 : u_T := fun k => match k with
  | 0 => ("CellLoans$SwitchReader", "termRead", "Z", false)
  | _ => ("CellLoans$SwitchReader", "keepRead", "Z", false)
def tyX7 : Nat → FieldType := fun k => match k with
  | 0 => .boolean
  | _ => .boolean
abbrev wsX70 : List Cond := u_ws RX7 TX7 2
theorem nmX7 : ∀ a, a < 2 → ∀ b, b < 2 → a ≠ b → (TX7 a).2.1 ≠ (TX7 b).2.1 := by decide +kernel
theorem tyX7_ok : ∀ k, k < 2 → parseFieldDescriptor (TX7 k).2.2.1 = some (tyX7 k) := by decide +kernel
abbrev cX7_init : ByteArray := prog_9_method_1_code
def yX7_init : MethodName := ⟨RX7, "<init>", "()V"⟩
abbrev cX7_readFrom : ByteArray := prog_9_method_2_code
def yX7_readFrom : MethodName := ⟨RX7, "readFrom", "(LCellLoans$Text;LCellLoans$Switch;)Z"⟩
abbrev cX7_readStatement : ByteArray := prog_9_method_3_code
def yX7_readStatement : MethodName := ⟨RX7, "readStatement", "(LCellLoans$Text;LCellLoans$Switch;)Z"⟩
abbrev cX7_readPort : ByteArray := prog_9_method_4_code
def yX7_readPort : MethodName := ⟨RX7, "readPort", "(LCellLoans$Text;LCellLoans$Switch;)Z"⟩
abbrev cX7_readTerm : ByteArray := prog_9_method_5_code
def yX7_readTerm : MethodName := ⟨RX7, "readTerm", "(LCellLoans$Text;LCellLoans$Switch;)Z"⟩
abbrev cX7_readKeep : ByteArray := prog_9_method_6_code
def yX7_readKeep : MethodName := ⟨RX7, "readKeep", "(LCellLoans$Text;LCellLoans$Switch;)Z"⟩
def RX8 : String := "CellLoans$Text"
def TX8 : u_T := fun k => match k with
  | 0 => ("CellLoans$Text", "bytes", "[I", true)
  | 1 => ("CellLoans$Text", "length", "I", false)
  | 2 => ("CellLoans$Text", "errorCode", "I", false)
  | 3 => ("CellLoans$Text", "errorPosition", "I", false)
  | 4 => ("CellLoans$Text", "unread", "I", false)
  | 5 => ("CellLoans$Text", "kind", "I", false)
  | 6 => ("CellLoans$Text", "start", "I", false)
  | 7 => ("CellLoans$Text", "word", "J", false)
  | _ => ("CellLoans$Text", "number", "I", false)
def tyX8 : Nat → FieldType := fun k => match k with
  | 0 => .array .int
  | 1 => .int
  | 2 => .int
  | 3 => .int
  | 4 => .int
  | 5 => .int
  | 6 => .int
  | 7 => .long
  | _ => .int
abbrev wsX80 : List Cond := u_ws RX8 TX8 9
theorem nmX8 : ∀ a, a < 9 → ∀ b, b < 9 → a ≠ b → (TX8 a).2.1 ≠ (TX8 b).2.1 := by decide +kernel
theorem tyX8_ok : ∀ k, k < 9 → parseFieldDescriptor (TX8 k).2.2.1 = some (tyX8 k) := by decide +kernel
abbrev cX8_init : ByteArray := prog_10_method_1_code
def yX8_init : MethodName := ⟨RX8, "<init>", "()V"⟩
abbrev cX8_append : ByteArray := prog_10_method_2_code
def yX8_append : MethodName := ⟨RX8, "append", "(I)V"⟩
abbrev cX8_begin : ByteArray := prog_10_method_3_code
def yX8_begin : MethodName := ⟨RX8, "begin", "()V"⟩
abbrev cX8_fail : ByteArray := prog_10_method_4_code
def yX8_fail : MethodName := ⟨RX8, "fail", "(I)Z"⟩
abbrev cX8_advance : ByteArray := prog_10_method_5_code
def yX8_advance : MethodName := ⟨RX8, "advance", "()V"⟩
abbrev cX8_isTooLong : ByteArray := prog_10_method_6_code
def yX8_isTooLong : MethodName := ⟨RX8, "isTooLong", "()Z"⟩
abbrev cX8_kindOf : ByteArray := prog_10_method_7_code
def yX8_kindOf : MethodName := ⟨RX8, "kindOf", "(I)I"⟩
abbrev cX8_takeName : ByteArray := prog_10_method_8_code
def yX8_takeName : MethodName := ⟨RX8, "takeName", "()Z"⟩
abbrev cX8_takeNumber : ByteArray := prog_10_method_9_code
def yX8_takeNumber : MethodName := ⟨RX8, "takeNumber", "(II)Z"⟩
abbrev cX8_takeSign : ByteArray := prog_10_method_10_code
def yX8_takeSign : MethodName := ⟨RX8, "takeSign", "(C)Z"⟩
abbrev cX8_isSign : ByteArray := prog_10_method_11_code
def yX8_isSign : MethodName := ⟨RX8, "isSign", "(C)Z"⟩
abbrev cX8_isWord : ByteArray := prog_10_method_12_code
def yX8_isWord : MethodName := ⟨RX8, "isWord", "(Ljava/lang/String;)Z"⟩
def RX9 : String := "CellLoans"
def TX9 : u_T := fun k => match k with
  | 0 => ("CellLoans", "text", "LCellLoans$Text;", true)
  | 1 => ("CellLoans", "switchReader", "LCellLoans$SwitchReader;", true)
  | 2 => ("CellLoans", "script", "LCellLoans$Script;", true)
  | 3 => ("CellLoans", "now", "LCellLoans$Switch;", true)
  | 4 => ("CellLoans", "trial", "LCellLoans$Switch;", true)
  | 5 => ("CellLoans", "saved", "LCellLoans$Switch;", true)
  | 6 => ("CellLoans", "somethingSaved", "Z", false)
  | 7 => ("CellLoans", "history", "LCellLoans$History;", true)
  | _ => ("CellLoans", "latestReport", "LCellLoans$Report;", true)
def tyX9 : Nat → FieldType := fun k => match k with
  | 0 => .object "CellLoans$Text"
  | 1 => .object "CellLoans$SwitchReader"
  | 2 => .object "CellLoans$Script"
  | 3 => .object "CellLoans$Switch"
  | 4 => .object "CellLoans$Switch"
  | 5 => .object "CellLoans$Switch"
  | 6 => .boolean
  | 7 => .object "CellLoans$History"
  | _ => .object "CellLoans$Report"
abbrev wsX90 : List Cond := u_ws RX9 TX9 9
theorem nmX9 : ∀ a, a < 9 → ∀ b, b < 9 → a ≠ b → (TX9 a).2.1 ≠ (TX9 b).2.1 := by decide +kernel
theorem tyX9_ok : ∀ k, k < 9 → parseFieldDescriptor (TX9 k).2.2.1 = some (tyX9 k) := by decide +kernel
abbrev cX9_init : ByteArray := prog_1_method_1_code
def yX9_init : MethodName := ⟨RX9, "<init>", "()V"⟩
abbrev cX9_feed : ByteArray := prog_1_method_2_code
def yX9_feed : MethodName := ⟨RX9, "feed", "(IIIII)I"⟩
abbrev cX9_truncate : ByteArray := prog_1_method_3_code
def yX9_truncate : MethodName := ⟨RX9, "truncate", "(I)I"⟩
abbrev cX9_readText : ByteArray := prog_1_method_4_code
def yX9_readText : MethodName := ⟨RX9, "readText", "()I"⟩
abbrev cX9_runScript : ByteArray := prog_1_method_5_code
def yX9_runScript : MethodName := ⟨RX9, "runScript", "()I"⟩
abbrev cX9_errorCode : ByteArray := prog_1_method_6_code
def yX9_errorCode : MethodName := ⟨RX9, "errorCode", "()I"⟩
abbrev cX9_errorPosition : ByteArray := prog_1_method_7_code
def yX9_errorPosition : MethodName := ⟨RX9, "errorPosition", "()I"⟩
abbrev cX9_setting : ByteArray := prog_1_method_8_code
def yX9_setting : MethodName := ⟨RX9, "setting", "(I)I"⟩
abbrev cX9_port : ByteArray := prog_1_method_9_code
def yX9_port : MethodName := ⟨RX9, "port", "(II)I"⟩
abbrev cX9_packet : ByteArray := prog_1_method_10_code
def yX9_packet : MethodName := ⟨RX9, "packet", "(III)I"⟩
abbrev cX9_promise : ByteArray := prog_1_method_11_code
def yX9_promise : MethodName := ⟨RX9, "promise", "(II)I"⟩
abbrev cX9_owed : ByteArray := prog_1_method_12_code
def yX9_owed : MethodName := ⟨RX9, "owed", "(II)I"⟩
abbrev cX9_drop : ByteArray := prog_1_method_13_code
def yX9_drop : MethodName := ⟨RX9, "drop", "(II)I"⟩
abbrev cX9_dropsBy : ByteArray := prog_1_method_14_code
def yX9_dropsBy : MethodName := ⟨RX9, "dropsBy", "(I)I"⟩
abbrev cX9_mostCharged : ByteArray := prog_1_method_15_code
def yX9_mostCharged : MethodName := ⟨RX9, "mostCharged", "()I"⟩
abbrev cX9_lossShare : ByteArray := prog_1_method_16_code
def yX9_lossShare : MethodName := ⟨RX9, "lossShare", "()F"⟩
abbrev cX9_meanForecast : ByteArray := prog_1_method_17_code
def yX9_meanForecast : MethodName := ⟨RX9, "meanForecast", "()D"⟩
abbrev cX9_wouldBorrow : ByteArray := prog_1_method_18_code
def yX9_wouldBorrow : MethodName := ⟨RX9, "wouldBorrow", "(II)I"⟩
abbrev cX9_wouldCall : ByteArray := prog_1_method_19_code
def yX9_wouldCall : MethodName := ⟨RX9, "wouldCall", "(II)I"⟩
abbrev cX9_wouldDrop : ByteArray := prog_1_method_20_code
def yX9_wouldDrop : MethodName := ⟨RX9, "wouldDrop", "(II)I"⟩
abbrev cX9_greatest : ByteArray := prog_1_method_21_code
def yX9_greatest : MethodName := ⟨RX9, "greatest", "(I)I"⟩
abbrev cX9_dropsIn : ByteArray := prog_1_method_22_code
def yX9_dropsIn : MethodName := ⟨RX9, "dropsIn", "(I)I"⟩
abbrev cX9_emptyIn : ByteArray := prog_1_method_23_code
def yX9_emptyIn : MethodName := ⟨RX9, "emptyIn", "()I"⟩
abbrev cX9_sentIn : ByteArray := prog_1_method_24_code
def yX9_sentIn : MethodName := ⟨RX9, "sentIn", "(II)I"⟩
abbrev cX9_arrive : ByteArray := prog_1_method_25_code
def yX9_arrive : MethodName := ⟨RX9, "arrive", "(II)I"⟩
abbrev cX9_tick : ByteArray := prog_1_method_26_code
def yX9_tick : MethodName := ⟨RX9, "tick", "(I)I"⟩
abbrev cX9_giveBack : ByteArray := prog_1_method_27_code
def yX9_giveBack : MethodName := ⟨RX9, "giveBack", "(III)I"⟩
abbrev cX9_extend : ByteArray := prog_1_method_28_code
def yX9_extend : MethodName := ⟨RX9, "extend", "(I)I"⟩
abbrev cX9_setTerm : ByteArray := prog_1_method_29_code
def yX9_setTerm : MethodName := ⟨RX9, "setTerm", "(I)I"⟩
abbrev cX9_setKeep : ByteArray := prog_1_method_30_code
def yX9_setKeep : MethodName := ⟨RX9, "setKeep", "(I)I"⟩
abbrev cX9_undo : ByteArray := prog_1_method_31_code
def yX9_undo : MethodName := ⟨RX9, "undo", "()I"⟩
abbrev cX9_report : ByteArray := prog_1_method_32_code
def yX9_report : MethodName := ⟨RX9, "report", "()I"⟩
abbrev cX9_reportByte : ByteArray := prog_1_method_33_code
def yX9_reportByte : MethodName := ⟨RX9, "reportByte", "(I)I"⟩
abbrev cX9_save : ByteArray := prog_1_method_34_code
def yX9_save : MethodName := ⟨RX9, "save", "()I"⟩
abbrev cX9_restore : ByteArray := prog_1_method_35_code
def yX9_restore : MethodName := ⟨RX9, "restore", "()I"⟩
abbrev cX9_within : ByteArray := prog_1_method_36_code
def yX9_within : MethodName := ⟨RX9, "within", "(III)Z"⟩
abbrev cX9_needWithin : ByteArray := prog_1_method_37_code
def yX9_needWithin : MethodName := ⟨RX9, "needWithin", "(III)V"⟩
abbrev cX9_needIndex : ByteArray := prog_1_method_38_code
def yX9_needIndex : MethodName := ⟨RX9, "needIndex", "(II)V"⟩
abbrev cX9_needPort : ByteArray := prog_1_method_39_code
def yX9_needPort : MethodName := ⟨RX9, "needPort", "(I)V"⟩
abbrev cX9_doCommand : ByteArray := prog_1_method_40_code
def yX9_doCommand : MethodName := ⟨RX9, "doCommand", "(I)I"⟩
abbrev cX9_mayDoBack : ByteArray := prog_1_method_41_code
def yX9_mayDoBack : MethodName := ⟨RX9, "mayDoBack", "(I)Z"⟩
def RX10 : String := "CellLoansModel"
def TX10 : u_T := fun k => match k with
  | 0 => ("CellLoansModel", "thrown", "I", false)
  | 1 => ("CellLoansModel", "s", "[I", true)
  | 2 => ("CellLoansModel", "names", "[J", true)
  | 3 => ("CellLoansModel", "o", "I", false)
  | 4 => ("CellLoansModel", "buffer", "[I", true)
  | 5 => ("CellLoansModel", "length", "I", false)
  | 6 => ("CellLoansModel", "at", "I", false)
  | 7 => ("CellLoansModel", "end", "I", false)
  | 8 => ("CellLoansModel", "token", "I", false)
  | 9 => ("CellLoansModel", "number", "I", false)
  | 10 => ("CellLoansModel", "errorCode", "I", false)
  | 11 => ("CellLoansModel", "errorPosition", "I", false)
  | 12 => ("CellLoansModel", "word", "J", false)
  | 13 => ("CellLoansModel", "hasTerm", "Z", false)
  | 14 => ("CellLoansModel", "hasKeep", "Z", false)
  | 15 => ("CellLoansModel", "undos", "I", false)
  | 16 => ("CellLoansModel", "does", "Z", false)
  | 17 => ("CellLoansModel", "isOver", "Z", false)
  | 18 => ("CellLoansModel", "depth", "I", false)
  | 19 => ("CellLoansModel", "commands", "I", false)
  | 20 => ("CellLoansModel", "done", "I", false)
  | 21 => ("CellLoansModel", "opens", "[I", true)
  | 22 => ("CellLoansModel", "again", "[I", true)
  | 23 => ("CellLoansModel", "report", "[I", true)
  | 24 => ("CellLoansModel", "reportLength", "I", false)
  | _ => ("CellLoansModel", "isSaved", "Z", false)
def tyX10 : Nat → FieldType := fun k => match k with
  | 0 => .int
  | 1 => .array .int
  | 2 => .array .long
  | 3 => .int
  | 4 => .array .int
  | 5 => .int
  | 6 => .int
  | 7 => .int
  | 8 => .int
  | 9 => .int
  | 10 => .int
  | 11 => .int
  | 12 => .long
  | 13 => .boolean
  | 14 => .boolean
  | 15 => .int
  | 16 => .boolean
  | 17 => .boolean
  | 18 => .int
  | 19 => .int
  | 20 => .int
  | 21 => .array .int
  | 22 => .array .int
  | 23 => .array .int
  | 24 => .int
  | _ => .boolean
abbrev wsX100 : List Cond := u_ws RX10 TX10 26
theorem nmX10 : ∀ a, a < 26 → ∀ b, b < 26 → a ≠ b → (TX10 a).2.1 ≠ (TX10 b).2.1 := by decide +kernel
theorem tyX10_ok : ∀ k, k < 26 → parseFieldDescriptor (TX10 k).2.2.1 = some (tyX10 k) := by decide +kernel
abbrev cX10_thrown : ByteArray := prog_12_method_1_code
def yX10_thrown : MethodName := ⟨RX10, "thrown", "()I"⟩
abbrev cX10_init : ByteArray := prog_12_method_2_code
def yX10_init : MethodName := ⟨RX10, "<init>", "()V"⟩
abbrev cX10_in : ByteArray := prog_12_method_3_code
def yX10_in : MethodName := ⟨RX10, "in", "(JJJ)Z"⟩
abbrev cX10_good : ByteArray := prog_12_method_4_code
def yX10_good : MethodName := ⟨RX10, "good", "(Z)Z"⟩
abbrev cX10_allGood : ByteArray := prog_12_method_5_code
def yX10_allGood : MethodName := ⟨RX10, "allGood", "(ZZ)Z"⟩
abbrev cX10_of : ByteArray := prog_12_method_6_code
def yX10_of : MethodName := ⟨RX10, "of", "(I)I"⟩
abbrev cX10_set : ByteArray := prog_12_method_7_code
def yX10_set : MethodName := ⟨RX10, "set", "(II)V"⟩
abbrev cX10_grows : ByteArray := prog_12_method_8_code
def yX10_grows : MethodName := ⟨RX10, "grows", "(II)V"⟩
abbrev cX10_p : ByteArray := prog_12_method_9_code
def yX10_p : MethodName := ⟨RX10, "p", "(II)I"⟩
abbrev cX10_setP : ByteArray := prog_12_method_10_code
def yX10_setP : MethodName := ⟨RX10, "setP", "(III)V"⟩
abbrev cX10_growsP : ByteArray := prog_12_method_11_code
def yX10_growsP : MethodName := ⟨RX10, "growsP", "(III)V"⟩
abbrev cX10_k : ByteArray := prog_12_method_12_code
def yX10_k : MethodName := ⟨RX10, "k", "(II)I"⟩
abbrev cX10_m : ByteArray := prog_12_method_13_code
def yX10_m : MethodName := ⟨RX10, "m", "(II)I"⟩
abbrev cX10_name : ByteArray := prog_12_method_14_code
def yX10_name : MethodName := ⟨RX10, "name", "(I)J"⟩
abbrev cX10_setName : ByteArray := prog_12_method_15_code
def yX10_setName : MethodName := ⟨RX10, "setName", "(IJ)V"⟩
abbrev cX10_clears : ByteArray := prog_12_method_16_code
def yX10_clears : MethodName := ⟨RX10, "clears", "()V"⟩
abbrev cX10_copies : ByteArray := prog_12_method_17_code
def yX10_copies : MethodName := ⟨RX10, "copies", "(II)V"⟩
abbrev cX10_four : ByteArray := prog_12_method_18_code
def yX10_four : MethodName := ⟨RX10, "four", "(I)V"⟩
abbrev cX10_feed : ByteArray := prog_12_method_19_code
def yX10_feed : MethodName := ⟨RX10, "feed", "(IIIII)I"⟩
abbrev cX10_truncate : ByteArray := prog_12_method_20_code
def yX10_truncate : MethodName := ⟨RX10, "truncate", "(I)I"⟩
abbrev cX10_byteAt : ByteArray := prog_12_method_21_code
def yX10_byteAt : MethodName := ⟨RX10, "byteAt", "(I)I"⟩
abbrev cX10_isGood : ByteArray := prog_12_method_22_code
def yX10_isGood : MethodName := ⟨RX10, "isGood", "()Z"⟩
abbrev cX10_must : ByteArray := prog_12_method_23_code
def yX10_must : MethodName := ⟨RX10, "must", "(ZI)V"⟩
abbrev cX10_scans : ByteArray := prog_12_method_24_code
def yX10_scans : MethodName := ⟨RX10, "scans", "()V"⟩
abbrev cX10_isWord : ByteArray := prog_12_method_25_code
def yX10_isWord : MethodName := ⟨RX10, "isWord", "(J)Z"⟩
abbrev cX10_isSign : ByteArray := prog_12_method_26_code
def yX10_isSign : MethodName := ⟨RX10, "isSign", "(I)Z"⟩
abbrev cX10_sign : ByteArray := prog_12_method_27_code
def yX10_sign : MethodName := ⟨RX10, "sign", "(I)V"⟩
abbrev cX10_reads : ByteArray := prog_12_method_28_code
def yX10_reads : MethodName := ⟨RX10, "reads", "(II)I"⟩
abbrev cX10_named : ByteArray := prog_12_method_29_code
def yX10_named : MethodName := ⟨RX10, "named", "()I"⟩
abbrev cX10_starts : ByteArray := prog_12_method_30_code
def yX10_starts : MethodName := ⟨RX10, "starts", "()V"⟩
abbrev cX10_readsPort : ByteArray := prog_12_method_31_code
def yX10_readsPort : MethodName := ⟨RX10, "readsPort", "()V"⟩
abbrev cX10_readsStatement : ByteArray := prog_12_method_32_code
def yX10_readsStatement : MethodName := ⟨RX10, "readsStatement", "()V"⟩
abbrev cX10_readText : ByteArray := prog_12_method_33_code
def yX10_readText : MethodName := ⟨RX10, "readText", "()I"⟩
abbrev cX10_errorCode : ByteArray := prog_12_method_34_code
def yX10_errorCode : MethodName := ⟨RX10, "errorCode", "()I"⟩
abbrev cX10_errorPosition : ByteArray := prog_12_method_35_code
def yX10_errorPosition : MethodName := ⟨RX10, "errorPosition", "()I"⟩
abbrev cX10_keeps : ByteArray := prog_12_method_36_code
def yX10_keeps : MethodName := ⟨RX10, "keeps", "()V"⟩
abbrev cX10_remembers : ByteArray := prog_12_method_37_code
def yX10_remembers : MethodName := ⟨RX10, "remembers", "()V"⟩
abbrev cX10_kept : ByteArray := prog_12_method_38_code
def yX10_kept : MethodName := ⟨RX10, "kept", "(I)I"⟩
abbrev cX10_undo : ByteArray := prog_12_method_39_code
def yX10_undo : MethodName := ⟨RX10, "undo", "()I"⟩
abbrev cX10_usedBy : ByteArray := prog_12_method_40_code
def yX10_usedBy : MethodName := ⟨RX10, "usedBy", "(I)I"⟩
abbrev cX10_lentBy : ByteArray := prog_12_method_41_code
def yX10_lentBy : MethodName := ⟨RX10, "lentBy", "(I)I"⟩
abbrev cX10_borrowedBy : ByteArray := prog_12_method_42_code
def yX10_borrowedBy : MethodName := ⟨RX10, "borrowedBy", "(I)I"⟩
abbrev cX10_roomOf : ByteArray := prog_12_method_43_code
def yX10_roomOf : MethodName := ⟨RX10, "roomOf", "(I)I"⟩
abbrev cX10_freeOf : ByteArray := prog_12_method_44_code
def yX10_freeOf : MethodName := ⟨RX10, "freeOf", "(I)I"⟩
abbrev cX10_keptBack : ByteArray := prog_12_method_45_code
def yX10_keptBack : MethodName := ⟨RX10, "keptBack", "(I)I"⟩
abbrev cX10_spareOf : ByteArray := prog_12_method_46_code
def yX10_spareOf : MethodName := ⟨RX10, "spareOf", "(I)I"⟩
abbrev cX10_canLend : ByteArray := prog_12_method_47_code
def yX10_canLend : MethodName := ⟨RX10, "canLend", "(I)I"⟩
abbrev cX10_othersCanLend : ByteArray := prog_12_method_48_code
def yX10_othersCanLend : MethodName := ⟨RX10, "othersCanLend", "(I)I"⟩
abbrev cX10_notes : ByteArray := prog_12_method_49_code
def yX10_notes : MethodName := ⟨RX10, "notes", "(IIII)V"⟩
abbrev cX10_removesPacket : ByteArray := prog_12_method_50_code
def yX10_removesPacket : MethodName := ⟨RX10, "removesPacket", "(I)V"⟩
abbrev cX10_newest : ByteArray := prog_12_method_51_code
def yX10_newest : MethodName := ⟨RX10, "newest", "(I)I"⟩
abbrev cX10_shrinks : ByteArray := prog_12_method_52_code
def yX10_shrinks : MethodName := ⟨RX10, "shrinks", "(II)V"⟩
abbrev cX10_removesPromise : ByteArray := prog_12_method_53_code
def yX10_removesPromise : MethodName := ⟨RX10, "removesPromise", "(I)V"⟩
abbrev cX10_promises : ByteArray := prog_12_method_54_code
def yX10_promises : MethodName := ⟨RX10, "promises", "(IIII)I"⟩
abbrev cX10_lessens : ByteArray := prog_12_method_55_code
def yX10_lessens : MethodName := ⟨RX10, "lessens", "(II)Z"⟩
abbrev cX10_owedTo : ByteArray := prog_12_method_56_code
def yX10_owedTo : MethodName := ⟨RX10, "owedTo", "(II)I"⟩
abbrev cX10_calls : ByteArray := prog_12_method_57_code
def yX10_calls : MethodName := ⟨RX10, "calls", "(II)V"⟩
abbrev cX10_borrows : ByteArray := prog_12_method_58_code
def yX10_borrows : MethodName := ⟨RX10, "borrows", "(II)V"⟩
abbrev cX10_takes : ByteArray := prog_12_method_59_code
def yX10_takes : MethodName := ⟨RX10, "takes", "(II)V"⟩
abbrev cX10_wayIn : ByteArray := prog_12_method_60_code
def yX10_wayIn : MethodName := ⟨RX10, "wayIn", "(II)I"⟩
abbrev cX10_arrives : ByteArray := prog_12_method_61_code
def yX10_arrives : MethodName := ⟨RX10, "arrives", "(II)I"⟩
abbrev cX10_fallsDue : ByteArray := prog_12_method_62_code
def yX10_fallsDue : MethodName := ⟨RX10, "fallsDue", "()V"⟩
abbrev cX10_sends : ByteArray := prog_12_method_63_code
def yX10_sends : MethodName := ⟨RX10, "sends", "(I)I"⟩
abbrev cX10_forecasts : ByteArray := prog_12_method_64_code
def yX10_forecasts : MethodName := ⟨RX10, "forecasts", "()V"⟩
abbrev cX10_ticksOne : ByteArray := prog_12_method_65_code
def yX10_ticksOne : MethodName := ⟨RX10, "ticksOne", "()V"⟩
abbrev cX10_ticksAll : ByteArray := prog_12_method_66_code
def yX10_ticksAll : MethodName := ⟨RX10, "ticksAll", "(I)I"⟩
abbrev cX10_canGive : ByteArray := prog_12_method_67_code
def yX10_canGive : MethodName := ⟨RX10, "canGive", "(III)Z"⟩
abbrev cX10_gives : ByteArray := prog_12_method_68_code
def yX10_gives : MethodName := ⟨RX10, "gives", "(III)I"⟩
abbrev cX10_isPromise : ByteArray := prog_12_method_69_code
def yX10_isPromise : MethodName := ⟨RX10, "isPromise", "(I)Z"⟩
abbrev cX10_canExtend : ByteArray := prog_12_method_70_code
def yX10_canExtend : MethodName := ⟨RX10, "canExtend", "(I)Z"⟩
abbrev cX10_extends1 : ByteArray := prog_12_method_71_code
def yX10_extends1 : MethodName := ⟨RX10, "extends1", "(I)I"⟩
abbrev cX10_sets : ByteArray := prog_12_method_72_code
def yX10_sets : MethodName := ⟨RX10, "sets", "(II)I"⟩
abbrev cX10_isPort : ByteArray := prog_12_method_73_code
def yX10_isPort : MethodName := ⟨RX10, "isPort", "(I)Z"⟩
abbrev cX10_isCells : ByteArray := prog_12_method_74_code
def yX10_isCells : MethodName := ⟨RX10, "isCells", "(I)Z"⟩
abbrev cX10_setting : ByteArray := prog_12_method_75_code
def yX10_setting : MethodName := ⟨RX10, "setting", "(I)I"⟩
abbrev cX10_sumOf : ByteArray := prog_12_method_76_code
def yX10_sumOf : MethodName := ⟨RX10, "sumOf", "(I)I"⟩
abbrev cX10_waiting : ByteArray := prog_12_method_77_code
def yX10_waiting : MethodName := ⟨RX10, "waiting", "(I)I"⟩
abbrev cX10_port : ByteArray := prog_12_method_78_code
def yX10_port : MethodName := ⟨RX10, "port", "(II)I"⟩
abbrev cX10_portMore : ByteArray := prog_12_method_79_code
def yX10_portMore : MethodName := ⟨RX10, "portMore", "(II)I"⟩
abbrev cX10_packetOf : ByteArray := prog_12_method_80_code
def yX10_packetOf : MethodName := ⟨RX10, "packetOf", "(II)I"⟩
abbrev cX10_packet : ByteArray := prog_12_method_81_code
def yX10_packet : MethodName := ⟨RX10, "packet", "(III)I"⟩
abbrev cX10_promise : ByteArray := prog_12_method_82_code
def yX10_promise : MethodName := ⟨RX10, "promise", "(II)I"⟩
abbrev cX10_owed : ByteArray := prog_12_method_83_code
def yX10_owed : MethodName := ⟨RX10, "owed", "(II)I"⟩
abbrev cX10_drop : ByteArray := prog_12_method_84_code
def yX10_drop : MethodName := ⟨RX10, "drop", "(II)I"⟩
abbrev cX10_dropsBy : ByteArray := prog_12_method_85_code
def yX10_dropsBy : MethodName := ⟨RX10, "dropsBy", "(I)I"⟩
abbrev cX10_mostCharged : ByteArray := prog_12_method_86_code
def yX10_mostCharged : MethodName := ⟨RX10, "mostCharged", "()I"⟩
abbrev cX10_lossShare : ByteArray := prog_12_method_87_code
def yX10_lossShare : MethodName := ⟨RX10, "lossShare", "()F"⟩
abbrev cX10_meanForecast : ByteArray := prog_12_method_88_code
def yX10_meanForecast : MethodName := ⟨RX10, "meanForecast", "()D"⟩
abbrev cX10_wouldBorrow : ByteArray := prog_12_method_89_code
def yX10_wouldBorrow : MethodName := ⟨RX10, "wouldBorrow", "(II)I"⟩
abbrev cX10_wouldCall : ByteArray := prog_12_method_90_code
def yX10_wouldCall : MethodName := ⟨RX10, "wouldCall", "(II)I"⟩
abbrev cX10_wouldDrop : ByteArray := prog_12_method_91_code
def yX10_wouldDrop : MethodName := ⟨RX10, "wouldDrop", "(II)I"⟩
abbrev cX10_greatest : ByteArray := prog_12_method_92_code
def yX10_greatest : MethodName := ⟨RX10, "greatest", "(I)I"⟩
abbrev cX10_dropsIn : ByteArray := prog_12_method_93_code
def yX10_dropsIn : MethodName := ⟨RX10, "dropsIn", "(I)I"⟩
abbrev cX10_emptyIn : ByteArray := prog_12_method_94_code
def yX10_emptyIn : MethodName := ⟨RX10, "emptyIn", "()I"⟩
abbrev cX10_sentIn : ByteArray := prog_12_method_95_code
def yX10_sentIn : MethodName := ⟨RX10, "sentIn", "(II)I"⟩
abbrev cX10_thenSent : ByteArray := prog_12_method_96_code
def yX10_thenSent : MethodName := ⟨RX10, "thenSent", "(II)I"⟩
abbrev cX10_arrive : ByteArray := prog_12_method_97_code
def yX10_arrive : MethodName := ⟨RX10, "arrive", "(II)I"⟩
abbrev cX10_isTicks : ByteArray := prog_12_method_98_code
def yX10_isTicks : MethodName := ⟨RX10, "isTicks", "(I)Z"⟩
abbrev cX10_isKeep : ByteArray := prog_12_method_99_code
def yX10_isKeep : MethodName := ⟨RX10, "isKeep", "(I)Z"⟩
abbrev cX10_tick : ByteArray := prog_12_method_100_code
def yX10_tick : MethodName := ⟨RX10, "tick", "(I)I"⟩
abbrev cX10_giveBack : ByteArray := prog_12_method_101_code
def yX10_giveBack : MethodName := ⟨RX10, "giveBack", "(III)I"⟩
abbrev cX10_extend : ByteArray := prog_12_method_102_code
def yX10_extend : MethodName := ⟨RX10, "extend", "(I)I"⟩
abbrev cX10_setTerm : ByteArray := prog_12_method_103_code
def yX10_setTerm : MethodName := ⟨RX10, "setTerm", "(I)I"⟩
abbrev cX10_setKeep : ByteArray := prog_12_method_104_code
def yX10_setKeep : MethodName := ⟨RX10, "setKeep", "(I)I"⟩
abbrev cX10_isDoing : ByteArray := prog_12_method_105_code
def yX10_isDoing : MethodName := ⟨RX10, "isDoing", "()Z"⟩
abbrev cX10_counts : ByteArray := prog_12_method_106_code
def yX10_counts : MethodName := ⟨RX10, "counts", "(Z)V"⟩
abbrev cX10_readsAny : ByteArray := prog_12_method_107_code
def yX10_readsAny : MethodName := ⟨RX10, "readsAny", "()I"⟩
abbrev cX10_readsName : ByteArray := prog_12_method_108_code
def yX10_readsName : MethodName := ⟨RX10, "readsName", "()I"⟩
abbrev cX10_readsArrive : ByteArray := prog_12_method_109_code
def yX10_readsArrive : MethodName := ⟨RX10, "readsArrive", "()V"⟩
abbrev cX10_readsBack : ByteArray := prog_12_method_110_code
def yX10_readsBack : MethodName := ⟨RX10, "readsBack", "()V"⟩
abbrev cX10_readsNumber : ByteArray := prog_12_method_111_code
def yX10_readsNumber : MethodName := ⟨RX10, "readsNumber", "()V"⟩
abbrev cX10_opensRepeat : ByteArray := prog_12_method_112_code
def yX10_opensRepeat : MethodName := ⟨RX10, "opensRepeat", "()V"⟩
abbrev cX10_closesRepeat : ByteArray := prog_12_method_113_code
def yX10_closesRepeat : MethodName := ⟨RX10, "closesRepeat", "()V"⟩
abbrev cX10_readsCommand : ByteArray := prog_12_method_114_code
def yX10_readsCommand : MethodName := ⟨RX10, "readsCommand", "()V"⟩
abbrev cX10_goes : ByteArray := prog_12_method_115_code
def yX10_goes : MethodName := ⟨RX10, "goes", "(Z)V"⟩
abbrev cX10_runScript : ByteArray := prog_12_method_116_code
def yX10_runScript : MethodName := ⟨RX10, "runScript", "()I"⟩
abbrev cX10_writes : ByteArray := prog_12_method_117_code
def yX10_writes : MethodName := ⟨RX10, "writes", "(I)V"⟩
abbrev cX10_writesNumber : ByteArray := prog_12_method_118_code
def yX10_writesNumber : MethodName := ⟨RX10, "writesNumber", "(I)V"⟩
abbrev cX10_writesName : ByteArray := prog_12_method_119_code
def yX10_writesName : MethodName := ⟨RX10, "writesName", "(J)V"⟩
abbrev cX10_report : ByteArray := prog_12_method_120_code
def yX10_report : MethodName := ⟨RX10, "report", "()I"⟩
abbrev cX10_reportByte : ByteArray := prog_12_method_121_code
def yX10_reportByte : MethodName := ⟨RX10, "reportByte", "(I)I"⟩
abbrev cX10_save : ByteArray := prog_12_method_122_code
def yX10_save : MethodName := ⟨RX10, "save", "()I"⟩
abbrev cX10_restore : ByteArray := prog_12_method_123_code
def yX10_restore : MethodName := ⟨RX10, "restore", "()I"⟩
def RJ9 : String := "java/lang/Math"
def TJ9 : u_T := fun k => match k with
  | _ => ("", "", "", false)
def tyJ9 : Nat → FieldType := fun k => match k with
  | _ => .int
abbrev wsJ90 : List Cond := u_ws RJ9 TJ9 0
theorem nmJ9 : ∀ a, a < 0 → ∀ b, b < 0 → a ≠ b → (TJ9 a).2.1 ≠ (TJ9 b).2.1 := by decide +kernel
theorem tyJ9_ok : ∀ k, k < 0 → parseFieldDescriptor (TJ9 k).2.2.1 = some (tyJ9 k) := by decide +kernel
abbrev cJ9_max_7cf53 : ByteArray := prog_17_method_65_code
def yJ9_max_7cf53 : MethodName := ⟨RJ9, "max", "(II)I"⟩
abbrev cJ9_min_7cf53 : ByteArray := prog_17_method_69_code
def yJ9_min_7cf53 : MethodName := ⟨RJ9, "min", "(II)I"⟩
def RJ0 : String := "java/lang/String"
def TJ0 : u_T := fun k => match k with
  | _ => ("", "", "", false)
def tyJ0 : Nat → FieldType := fun k => match k with
  | _ => .int
abbrev wsJ00 : List Cond := u_ws RJ0 TJ0 0
theorem nmJ0 : ∀ a, a < 0 → ∀ b, b < 0 → a ≠ b → (TJ0 a).2.1 ≠ (TJ0 b).2.1 := by decide +kernel
theorem tyJ0_ok : ∀ k, k < 0 → parseFieldDescriptor (TJ0 k).2.2.1 = some (tyJ0 k) := by decide +kernel
abbrev cJ0_length_8abf5 : ByteArray := prog_19_method_54_code
def yJ0_length_8abf5 : MethodName := ⟨RJ0, "length", "()I"⟩
abbrev cJ0_charAt_5068e : ByteArray := prog_19_method_56_code
def yJ0_charAt_5068e : MethodName := ⟨RJ0, "charAt", "(I)C"⟩
abbrev cJ0_coder_7d493 : ByteArray := prog_19_method_152_code
def yJ0_coder_7d493 : MethodName := ⟨RJ0, "coder", "()B"⟩
abbrev cJ0_isLatin1_aae02 : ByteArray := prog_19_method_154_code
def yJ0_isLatin1_aae02 : MethodName := ⟨RJ0, "isLatin1", "()Z"⟩
abbrev cJ0_checkIndex_df160 : ByteArray := prog_19_method_155_code
def yJ0_checkIndex_df160 : MethodName := ⟨RJ0, "checkIndex", "(II)V"⟩
def RJ1 : String := "java/lang/StringLatin1"
def TJ1 : u_T := fun k => match k with
  | _ => ("", "", "", false)
def tyJ1 : Nat → FieldType := fun k => match k with
  | _ => .int
abbrev wsJ10 : List Cond := u_ws RJ1 TJ1 0
theorem nmJ1 : ∀ a, a < 0 → ∀ b, b < 0 → a ≠ b → (TJ1 a).2.1 ≠ (TJ1 b).2.1 := by decide +kernel
theorem tyJ1_ok : ∀ k, k < 0 → parseFieldDescriptor (TJ1 k).2.2.1 = some (tyJ1 k) := by decide +kernel
abbrev cJ1_charAt_3b067 : ByteArray := prog_20_method_2_code
def yJ1_charAt_3b067 : MethodName := ⟨RJ1, "charAt", "([BI)C"⟩
def RJ2 : String := "java/lang/StringUTF16"
def TJ2 : u_T := fun k => match k with
  | _ => ("", "", "", false)
def tyJ2 : Nat → FieldType := fun k => match k with
  | _ => .int
abbrev wsJ20 : List Cond := u_ws RJ2 TJ2 0
theorem nmJ2 : ∀ a, a < 0 → ∀ b, b < 0 → a ≠ b → (TJ2 a).2.1 ≠ (TJ2 b).2.1 := by decide +kernel
theorem tyJ2_ok : ∀ k, k < 0 → parseFieldDescriptor (TJ2 k).2.2.1 = some (tyJ2 k) := by decide +kernel
abbrev cJ2_getChar_3b067 : ByteArray := prog_21_method_5_code
def yJ2_getChar_3b067 : MethodName := ⟨RJ2, "getChar", "([BI)C"⟩
abbrev cJ2_length_9d52b : ByteArray := prog_21_method_6_code
def yJ2_length_9d52b : MethodName := ⟨RJ2, "length", "([B)I"⟩
abbrev cJ2_charAt_3b067 : ByteArray := prog_21_method_83_code
def yJ2_charAt_3b067 : MethodName := ⟨RJ2, "charAt", "([BI)C"⟩
abbrev cJ2_checkIndex_2214a : ByteArray := prog_21_method_91_code
def yJ2_checkIndex_2214a : MethodName := ⟨RJ2, "checkIndex", "(I[B)V"⟩
def RJ3 : String := "jdk/internal/util/Preconditions"
def TJ3 : u_T := fun k => match k with
  | _ => ("", "", "", false)
def tyJ3 : Nat → FieldType := fun k => match k with
  | _ => .int
abbrev wsJ30 : List Cond := u_ws RJ3 TJ3 0
theorem nmJ3 : ∀ a, a < 0 → ∀ b, b < 0 → a ≠ b → (TJ3 a).2.1 ≠ (TJ3 b).2.1 := by decide +kernel
theorem tyJ3_ok : ∀ k, k < 0 → parseFieldDescriptor (TJ3 k).2.2.1 = some (tyJ3 k) := by decide +kernel
abbrev cJ3_checkIndex_8e157 : ByteArray := prog_23_method_11_code
def yJ3_checkIndex_8e157 : MethodName := ⟨RJ3, "checkIndex", "(IILjava/util/function/BiFunction;)I"⟩
def RL : String := "CellLoansLaw"
abbrev cL_feed : ByteArray := method_3_code
def yL_feed : MethodName := ⟨RL, "feed", "(LCellLoans;IIIII[J)I"⟩
abbrev cL_truncate : ByteArray := method_4_code
def yL_truncate : MethodName := ⟨RL, "truncate", "(LCellLoans;I[J)I"⟩
abbrev cL_readText : ByteArray := method_5_code
def yL_readText : MethodName := ⟨RL, "readText", "(LCellLoans;[J)I"⟩
abbrev cL_runScript : ByteArray := method_6_code
def yL_runScript : MethodName := ⟨RL, "runScript", "(LCellLoans;[J)I"⟩
abbrev cL_setting : ByteArray := method_7_code
def yL_setting : MethodName := ⟨RL, "setting", "(LCellLoans;I[J)I"⟩
abbrev cL_port : ByteArray := method_8_code
def yL_port : MethodName := ⟨RL, "port", "(LCellLoans;II[J)I"⟩
abbrev cL_packet : ByteArray := method_9_code
def yL_packet : MethodName := ⟨RL, "packet", "(LCellLoans;III[J)I"⟩
abbrev cL_promise : ByteArray := method_10_code
def yL_promise : MethodName := ⟨RL, "promise", "(LCellLoans;II[J)I"⟩
abbrev cL_owed : ByteArray := method_11_code
def yL_owed : MethodName := ⟨RL, "owed", "(LCellLoans;II[J)I"⟩
abbrev cL_drop : ByteArray := method_12_code
def yL_drop : MethodName := ⟨RL, "drop", "(LCellLoans;II[J)I"⟩
abbrev cL_dropsBy : ByteArray := method_13_code
def yL_dropsBy : MethodName := ⟨RL, "dropsBy", "(LCellLoans;I[J)I"⟩
abbrev cL_wouldBorrow : ByteArray := method_14_code
def yL_wouldBorrow : MethodName := ⟨RL, "wouldBorrow", "(LCellLoans;II[J)I"⟩
abbrev cL_wouldCall : ByteArray := method_15_code
def yL_wouldCall : MethodName := ⟨RL, "wouldCall", "(LCellLoans;II[J)I"⟩
abbrev cL_wouldDrop : ByteArray := method_16_code
def yL_wouldDrop : MethodName := ⟨RL, "wouldDrop", "(LCellLoans;II[J)I"⟩
abbrev cL_greatest : ByteArray := method_17_code
def yL_greatest : MethodName := ⟨RL, "greatest", "(LCellLoans;I[J)I"⟩
abbrev cL_dropsIn : ByteArray := method_18_code
def yL_dropsIn : MethodName := ⟨RL, "dropsIn", "(LCellLoans;I[J)I"⟩
abbrev cL_sentIn : ByteArray := method_19_code
def yL_sentIn : MethodName := ⟨RL, "sentIn", "(LCellLoans;II[J)I"⟩
abbrev cL_arrive : ByteArray := method_20_code
def yL_arrive : MethodName := ⟨RL, "arrive", "(LCellLoans;II[J)I"⟩
abbrev cL_tick : ByteArray := method_21_code
def yL_tick : MethodName := ⟨RL, "tick", "(LCellLoans;I[J)I"⟩
abbrev cL_giveBack : ByteArray := method_22_code
def yL_giveBack : MethodName := ⟨RL, "giveBack", "(LCellLoans;III[J)I"⟩
abbrev cL_extend : ByteArray := method_23_code
def yL_extend : MethodName := ⟨RL, "extend", "(LCellLoans;I[J)I"⟩
abbrev cL_setTerm : ByteArray := method_24_code
def yL_setTerm : MethodName := ⟨RL, "setTerm", "(LCellLoans;I[J)I"⟩
abbrev cL_setKeep : ByteArray := method_25_code
def yL_setKeep : MethodName := ⟨RL, "setKeep", "(LCellLoans;I[J)I"⟩
abbrev cL_reportByte : ByteArray := method_26_code
def yL_reportByte : MethodName := ⟨RL, "reportByte", "(LCellLoans;I[J)I"⟩
abbrev cL_restore : ByteArray := method_27_code
def yL_restore : MethodName := ⟨RL, "restore", "(LCellLoans;[J)I"⟩
abbrev cL_law : ByteArray := code
def yL_law : MethodName := ⟨RL, "law", "([I)Z"⟩
abbrev vwCl : List vw_C := [(RX0, TX0, 3), (RX1, TX1, 6), (RX2, TX2, 15), (RX3, TX3, 5), (RX4, TX4, 2), (RX5, TX5, 9), (RX6, TX6, 8), (RX7, TX7, 2), (RX8, TX8, 9), (RX9, TX9, 9), (RX10, TX10, 26)]
end
section
/-! ===== BEGIN words of one list among another's, by their places ===== -/
theorem goodIn_r {big : List Cond} (ws : List Cond) (ps : List Nat) (hp : ws = ps.filterMap (fun i => big[i]?)) (h : ws.all goodWord = true) : GoodIn big ws := by
  intro w hw
  have h1 := List.all_eq_true.mp h w hw
  rw [hp] at hw
  obtain ⟨i, -, hi⟩ := List.mem_filterMap.mp hw
  have hm : w ∈ big := by first | exact List.mem_of_getElem? hi | exact List.getElem?_mem hi
  exact ⟨hm, good_of_word h1⟩
theorem goodIn_app {big a b : List Cond} (ha : GoodIn big a) (hb : GoodIn big b) : GoodIn big (a ++ b) := fun w h => (List.mem_append.mp h).elim (ha w) (hb w)
theorem goodIn_ca {big a b : List Cond} {c : Cond} (ha : GoodIn big (c :: a)) (hb : GoodIn big b) : GoodIn big (c :: (a ++ b)) := fun w h => (List.mem_cons.mp h).elim (fun e => ha w (List.mem_cons.mpr (Or.inl e))) (fun h => (List.mem_append.mp h).elim (fun h => ha w (List.mem_cons.mpr (Or.inr h))) (hb w))
theorem goodIn_sub {big ws : List Cond} (hm : ∀ w ∈ ws, w ∈ big) (h : ws.all goodWord = true) : GoodIn big ws := fun w hw => ⟨hm w hw, good_of_word (List.all_eq_true.mp h w hw)⟩
/-! ===== END ===== -/

/-! ===== BEGIN exceptions that leave a method, and their catching by the caller (launches without stack traces) ===== -/
section VXA
/-! The laws vx_back, vx_callV, vx_callS, vx_callSW, vx_throw0, vx_throwS follow proofs of the library, with one case more: JvmDerived/Free/Laws.lean (Back.of_free), Shelf42/LK1.lean (callV, callS), Shelf/KitTraced.lean (throwNew0V, throwNewS). -/
/-- where a method has thrown q: the class by its name, the cell, what was written, the world -/
def vx_T (XC : String → State → State → Prop) (st : State) (q : Addr) (t : State) (mc ms : Nat) (free : Addr → Prop) : Prop :=
  ∃ (E : String) (ce : Cell) (L : List Loc), XC E st t ∧ t.heap[q]? = some ce ∧ ce.vm = .none ∧ st.vm.findClass E = some ce.cls ∧ st.WarmedH t.vm ∧ st.sameButNew ({ t with vm := st.vm } : State) L mc ms ∧ ∀ z ∈ L, free z.base
def vx_Q (Qc : Array Value → State → Outcome → State → Prop) (XC : String → State → State → Prop) (mc ms : Nat) (free : Addr → Prop) : Array Value → State → Outcome → State → Prop := fun a st o t =>
  (Qc a st o t ∧ ∃ L, FrameEnd st o t L mc ms ∧ ∀ q ∈ L, free q.base) ∨ ∃ q, o = .threw q ∧ vx_T XC st q t mc ms free
/-- a callee that returns or throws -/
def vx_Met (l : Launch) (y : MethodName) (ws : List Cond) (rm : Room) (Pc : Array Value → State → Prop) (Qc : Array Value → State → Outcome → State → Prop) (XC : String → State → State → Prop) (mc ms : Nat) (free : Addr → Prop) : Prop :=
  MetFree l y (headSpec ws rm) Pc (fun _ _ _ _ _ => True) (vx_Q Qc XC mc ms free)
def vx_Post (XC : String → State → State → Prop) (mc ms : Nat) (free : Addr → Prop) : Pt → Array Value → Addr → Pt → Prop := fun A a q B =>
  ∃ (g : JFrame) (mk : MethodId) (t : State) (L : List Loc) (E : String) (ce : Cell), B.U.heap = t.heap ∧ B.U.vm = t.vm ∧ XC E (A.U.calling g mk a) t ∧ t.heap[q]? = some ce ∧ ce.vm = .none ∧ A.U.vm.findClass E = some ce.cls ∧ B.locs = A.locs ++ L ∧ (∀ z ∈ L, free z.base) ∧ B.cells = A.cells + mc ∧ B.slots = A.slots + ms
def vx_Back (l : Launch) (R : Room) (p : Program) (e : Env) (below : List Frame) (s : State) (sargs : Array Value) (y : MethodName) (len W9 : Nat)
    (Pre : Pt → Array Value → Prop) (Post : Pt → Array Value → Option Value → Pt → Prop) (PostX : Pt → Array Value → Addr → Pt → Prop) : Prop :=
  ∀ (m : MethodId) (meth : Method) (c : Code) (A : Pt) (g : JFrame) (ig : Instr) (mk : MethodId) (a : Array Value),
    Stand p l e R s m sargs below meth c A.U A.locs A.cells A.slots → g.method = m → g.locals.size = c.maxLocals → decode c.code g.pc = .ok (ig, len) →
    2 * g.monitorRoom + (g.stack.map fun v => v.category).sum ≤ W9 → A.U.methodNamed? y = some mk → Pre A a →
    (∃ (v : Option Value) (B : Pt), Stand p l e R s m sargs below meth c B.U B.locs B.cells B.slots ∧ Post A a v B ∧
      Steps p.tables e below (doInvoke e (A.U.setTop g) [] mk a).1 (B.U.setTop { g with pc := g.pc + len, stack := v.toList ++ g.stack })) ∨
    (∃ (q : Addr) (B : Pt), Stand p l e R s m sargs below meth c B.U B.locs B.cells B.slots ∧ PostX A a q B ∧
      Steps p.tables e below (doInvoke e (A.U.setTop g) [] mk a).1 ((B.U.setTop g).pushFrame (.throwing q)))
section Payer
variable {l : Launch} {R : Room} {p : Program} {e : Env} {below : List Frame} {s : State} {sargs : Array Value} {y : MethodName} {len W9 : Nat}
theorem vx_back {ws : List Cond} {rm : Room} {Pc : Array Value → State → Prop} {Qc : Array Value → State → Outcome → State → Prop} {XC : String → State → State → Prop} {mc ms : Nat} {free : Addr → Prop} {bytes : ByteArray} {maxL : Nat} {ret : Option FieldType}
    (hM : vx_Met l y ws rm Pc Qc XC mc ms free) (hblind : FrameBlind Pc) (hrc : rm.cells = mc) (hrs : rm.slots = ms)
    (hframes : rm.frames + 1 ≤ R.frames) (hlocals : W9 + (maxL + 11) + rm.locals ≤ R.locals)
    (hws : ∀ w ∈ ws, ∀ a' U, s.WarmedH U.vm → w.before a' U = true) (hcode : Cond.code y bytes maxL ret ∈ ws) (hinit : ∀ a' U, s.WarmedH U.vm → (Cond.initialized y.cls).before a' U = true) :
    vx_Back l R p e below s sargs y len W9 (PreOf R mc ms Pc) (PostOf Qc mc ms free) (vx_Post XC mc ms free) := by
  intro m meth c A g ig mk a X hg hsize hdg hW hn hp
  have h1 : (headSpec ws rm).pre.before a A.U = true := atoms_intro fun w hw => hws w hw _ _ X.warmed
  have h2 : (Cond.code y bytes maxL ret).before a A.U = true := hws _ hcode _ _ X.warmed
  have h3 : (Cond.initialized y.cls).before a A.U = true := hinit _ _ X.warmed
  have h4 : A.cells + (headSpec ws rm).room.cells ≤ R.cells := by rw [show (headSpec ws rm).room.cells = mc from hrc]; exact hp.1
  have h5 : A.slots + (headSpec ws rm).room.slots ≤ R.slots := by rw [show (headSpec ws rm).room.slots = ms from hrs]; exact hp.2.1
  have hPc : Pc a (A.U.calling g mk a) := hblind _ _ _ _ hp.2.2
  obtain ⟨U, Ls, c0, s0⟩ := A
  dsimp only [Pt.U, Pt.locs, Pt.cells, Pt.slots] at h1 h2 h3 h4 h5 X hn hPc ⊢
  obtain ⟨methY, cY, hmY, hcY, -, hlY, -, -, -, -⟩ := Cond.code_spec hn h2
  obtain ⟨kY, hkY, -⟩ := className_of_methodNamed hn
  have hinitY : kY.init = .initialized := Cond.initialized_spec (findClass_of_methodNamed hn) hkY h3
  have h : At U g.method c below := by rw [hg]; exact X.here
  have hlocals9 : W9 + (maxL + 11) + (headSpec ws rm).room.locals ≤ R.locals := hlocals
  have happ : (headSpec ws rm).appliesLoose y e.platform (U.calling g mk a) = true :=
    Spec.appliesLoose_calling (g := g) h hdg hn hkY hinitY
      (X.room_calling (g := g) (R' := (headSpec ws rm).room) hsize hmY hcY hframes (by rw [hlY]; omega) h4 h5) h1
  obtain ⟨mid, hmid⟩ := h.above
  have hfr : (U.setTop g).frames = (.java g :: mid) ++ below := by rw [State.frames_setTop' g h.top, hmid]; rfl
  obtain ⟨o, s₂, hsteps, -, hend, hq⟩ := Steps.callFree hM p X.admits X.cas X.clock (acts := []) hfr happ hPc trivial
  have hq' : vx_Q Qc XC mc ms free a (U.calling g mk a) o s₂ := hq
  rw [State.frames_setTop' g h.top] at hend
  obtain ⟨g₀, hg0⟩ := Option.isSome_iff_exists.mp h.top
  obtain ⟨r, hr⟩ := State.topJava?_eq_some.mp hg0
  have hr' : (({ U with heap := s₂.heap, slotsUsed := s₂.slotsUsed } : State).setVm s₂.vm).frames = .java g₀ :: r := hr
  rcases hq' with ⟨hqc, L, hfe, hL⟩ | ⟨q, rfl, E, ce, L, hx, hce, hcv, hcl, hW₂, hsm, hL⟩
  · obtain ⟨⟨v, rfl⟩, hW₂, e2, q2, q3, q4, q5, q6⟩ := id hfe
    have e3 : s₂ = ({ (U.calling g mk a).setFrames s₂.frames with heap := s₂.heap, slotsUsed := s₂.slotsUsed } : State).setVm s₂.vm := by
      have : s₂ = ({ s₂ with vm := (U.calling g mk a).vm } : State).setVm s₂.vm := rfl
      rw [e2] at this
      exact this
    obtain ⟨c₂, i₂, len₂, hc₂, hd₂, hf₂⟩ := hend
    have hW' : U.WarmedH s₂.vm := hW₂
    have hcc : c₂ = c := by
      have h1 : s₂.code? g.method = U.code? g.method := by
        rw [State.code?_eq, State.code?_eq, hW'.alike.method?]
      exact Option.some.inj (hc₂.symm.trans (h1.trans h.code))
    subst hcc
    have hlen : len₂ = len := by rw [hdg] at hd₂; cases hd₂; rfl
    subst hlen
    have hs₂ : s₂ = (({ U with heap := s₂.heap, slotsUsed := s₂.slotsUsed } : State).setVm s₂.vm).setTop { g with pc := g.pc + len₂, stack := v.toList ++ g.stack } := by
      refine e3.trans ?_
      rw [hf₂, State.calling_eq h.top, State.setFrames_setFrames, State.setTop_of_frames _ hr', hr]
      rfl
    have hsame : U.sameButNew ({ U with heap := s₂.heap, slotsUsed := s₂.slotsUsed } : State) L mc ms := by
      refine ⟨?_, q2, q3, q4, q5, q6⟩
      obtain ⟨t, ht, -⟩ := State.frames_cons hr
      show ({ U with heap := s₂.heap, slotsUsed := s₂.slotsUsed } : State) = { U.setFrames U.frames with heap := s₂.heap, slotsUsed := s₂.slotsUsed }
      rw [State.setFrames_self ht]
    subst hg
    refine Or.inl ⟨v, ⟨(({ U with heap := s₂.heap, slotsUsed := s₂.slotsUsed } : State).setVm s₂.vm), Ls ++ L, c0 + mc, s0 + ms⟩,
      ⟨X.admits, X.cas, X.clock, X.frames, X.room, X.hears, X.method, X.code, (X.here.setHeapUsed s₂.heap s₂.slotsUsed).setVm hW'.alike, X.tail, State.WarmedH.trans X.warmed hW', X.limits, X.bytes, X.same.trans (hsame.setVm s.vm)⟩,
      ⟨g, mk, s₂, L, rfl, rfl, hqc, rfl, hL, rfl, rfl⟩, ?_⟩
    show Steps p.tables e below _ ((({ U with heap := s₂.heap, slotsUsed := s₂.slotsUsed } : State).setVm s₂.vm).setTop { g with pc := g.pc + len₂, stack := v.toList ++ g.stack })
    rw [← hs₂]
    exact hsteps
  · obtain ⟨e2, q2, q3, q4, q5, q6⟩ := id hsm
    have e3 : s₂ = ({ (U.calling g mk a).setFrames s₂.frames with heap := s₂.heap, slotsUsed := s₂.slotsUsed } : State).setVm s₂.vm := by
      have : s₂ = ({ s₂ with vm := (U.calling g mk a).vm } : State).setVm s₂.vm := rfl
      rw [e2] at this
      exact this
    have hf₂ : s₂.frames = .throwing q :: .java g :: U.frames.tail := hend
    have hW' : U.WarmedH s₂.vm := hW₂
    have hs₂ : s₂ = ((({ U with heap := s₂.heap, slotsUsed := s₂.slotsUsed } : State).setVm s₂.vm).setTop g).pushFrame (.throwing q) := by
      refine e3.trans ?_
      rw [hf₂, State.calling_eq h.top, State.setFrames_setFrames, State.pushFrame, State.frames_setTop _ hr', State.setTop_of_frames _ hr', State.setFrames_setFrames, hr]
      rfl
    have hsame : U.sameButNew ({ U with heap := s₂.heap, slotsUsed := s₂.slotsUsed } : State) L mc ms := by
      refine ⟨?_, q2, q3, q4, q5, q6⟩
      obtain ⟨t, ht, -⟩ := State.frames_cons hr
      show ({ U with heap := s₂.heap, slotsUsed := s₂.slotsUsed } : State) = { U.setFrames U.frames with heap := s₂.heap, slotsUsed := s₂.slotsUsed }
      rw [State.setFrames_self ht]
    subst hg
    refine Or.inr ⟨q, ⟨(({ U with heap := s₂.heap, slotsUsed := s₂.slotsUsed } : State).setVm s₂.vm), Ls ++ L, c0 + mc, s0 + ms⟩,
      ⟨X.admits, X.cas, X.clock, X.frames, X.room, X.hears, X.method, X.code, (X.here.setHeapUsed s₂.heap s₂.slotsUsed).setVm hW'.alike, X.tail, State.WarmedH.trans X.warmed hW', X.limits, X.bytes, X.same.trans (hsame.setVm s.vm)⟩,
      ⟨g, mk, s₂, L, E, ce, rfl, rfl, hx, hce, hcv, hcl, rfl, hL, rfl, rfl⟩, ?_⟩
    show Steps p.tables e below _ (((({ U with heap := s₂.heap, slotsUsed := s₂.slotsUsed } : State).setVm s₂.vm).setTop g).pushFrame (.throwing q))
    rw [← hs₂]
    exact hsteps
end Payer
section Calls
variable {p : Program} {l : Launch} {e : Env} {R : Room} {s : State} {m : MethodId} {args : Array Value} {below : List Frame} {meth : Method} {c : Code} {T : State} {locs : List Loc} {cells slots : Nat}
theorem vx_callV (X : Stand p l e R s m args below meth c T locs cells slots) (hexec : p.tables.exec = Jvm.exec) {own C : String} {index : Nat} {y : MethodName} {bytes : ByteArray} {maxL : Nat} {ret : Option FieldType}
    (hown : s.vm.findClass own = some m.cls) (hlink : (Cond.methodLink own index y).before args s = true) (hinst : (Cond.instanceMethod y).before args s = true) (hsel : (Cond.selects C y y).before args s = true)
    (hcode : (Cond.code y bytes maxL ret).before args s = true) (hy : y.cls ≠ "java/lang/invoke/MethodHandle" ∧ y.cls ≠ "java/lang/invoke/VarHandle")
    {W9 : Nat} {Pre : Pt → Array Value → Prop} {Post : Pt → Array Value → Option Value → Pt → Prop} {PostX : Pt → Array Value → Addr → Pt → Prop} (hK : vx_Back l R p e below s args y 3 W9 Pre Post PostX)
    {b : Addr} {cellB : Cell} (hcell : T.heap[b]? = some cellB) (hobj : cellB.vm.isStatics = false) (hcls : s.vm.findClass C = some cellB.cls)
    {g : JFrame} (hg : g.method = m) (hsize : g.locals.size = c.maxLocals) {argsL rest : List Value} (hlen : ∀ sig, parseMethodDescriptor y.desc = some sig → argsL.length = sig.parameters.length)
    (hstack : g.stack = argsL.reverse ++ .ref b :: rest) (hW : 2 * g.monitorRoom + (rest.map fun v => v.category).sum ≤ W9) (hdg : decode c.code g.pc = .ok (.invokevirtual index, 3))
    (hpre : ∀ vm₁, s.WarmedH vm₁ → Pre ⟨T.setVm vm₁, locs, cells, slots⟩ (Value.ref b :: argsL).toArray) :
    (∃ (v : Option Value) (vm₁ : Vm) (B : Pt), s.WarmedH vm₁ ∧ Stand p l e R s m args below meth c B.U B.locs B.cells B.slots ∧ Post ⟨T.setVm vm₁, locs, cells, slots⟩ (Value.ref b :: argsL).toArray v B ∧
      ∀ target, Steps p.tables e below (B.U.setTop { g with pc := g.pc + 3, stack := v.toList ++ rest }) target → Steps p.tables e below (T.setTop g) target) ∨
    (∃ (q : Addr) (vm₁ : Vm) (B : Pt), s.WarmedH vm₁ ∧ Stand p l e R s m args below meth c B.U B.locs B.cells B.slots ∧ PostX ⟨T.setVm vm₁, locs, cells, slots⟩ (Value.ref b :: argsL).toArray q B ∧
      Steps p.tables e below (T.setTop g) ((B.U.setTop { g with stack := rest }).pushFrame (.throwing q))) := by
  obtain ⟨mk, methM, hnamed, hmethM, hstM, habM⟩ := Cond.instanceMethod_spec hinst
  obtain ⟨methM', cM, hmethM', -, -, -, -, -, -, hsigM⟩ := Cond.code_spec hnamed hcode
  cases hmethM.symm.trans hmethM'
  obtain ⟨c2, r2, m2, q1, q2, q3, q4, kP, hkP, hkPi⟩ := Cond.selects_spec hsel
  cases hcls.symm.trans q1
  cases (State.methodFound?_of_named hnamed hy).symm.trans q2
  cases hnamed.symm.trans q3
  have hselP : selectMethod e.platform s.vm cellB.cls mk = .method mk := by rw [Launch.admits_selectMethod X.admits]; exact q4
  obtain ⟨vm₁, X₁, hstep₁⟩ := X.invokevirtual hexec hown hlink hnamed hmethM hstM hkP hkPi hy (a := b) (cell := cellB) hcell
    (fun z h => by rw [h] at hobj; cases hobj) hselP hmethM habM hkP hkPi (g := g) hg (argsL := argsL) (rest := rest) (hlen _ hsigM) hstack hdg
  rcases hK m meth c ⟨T.setVm vm₁, locs, cells, slots⟩ { g with stack := rest } (.invokevirtual index) mk (Value.ref b :: argsL).toArray X₁ hg hsize hdg hW (X₁.named hnamed) (hpre vm₁ X₁.warmed) with ⟨v, B, X', hpost, hsteps⟩ | ⟨q, B, X', hpost, hsteps⟩
  · exact Or.inl ⟨v, vm₁, B, X₁.warmed, X', hpost, fun target h => hstep₁ _ fun acts => by rw [doInvoke_state]; exact hsteps.trans h⟩
  · exact Or.inr ⟨q, vm₁, B, X₁.warmed, X', hpost, hstep₁ _ fun acts => by rw [doInvoke_state]; exact hsteps⟩
theorem vx_callS (X : Stand p l e R s m args below meth c T locs cells slots) (hexec : p.tables.exec = Jvm.exec) {own : String} {index : Nat} {y : MethodName} {bytes : ByteArray} {maxL : Nat} {ret : Option FieldType}
    (hown : s.vm.findClass own = some m.cls) (hlink : (Cond.methodLink own index y).before args s = true) (hstat : (Cond.static y).before args s = true) (hinit : (Cond.initialized y.cls).before args s = true)
    (hcode : (Cond.code y bytes maxL ret).before args s = true) (hy : y.cls ≠ "java/lang/invoke/MethodHandle" ∧ y.cls ≠ "java/lang/invoke/VarHandle")
    {W9 : Nat} {Pre : Pt → Array Value → Prop} {Post : Pt → Array Value → Option Value → Pt → Prop} {PostX : Pt → Array Value → Addr → Pt → Prop} (hK : vx_Back l R p e below s args y 3 W9 Pre Post PostX)
    {g : JFrame} (hg : g.method = m) (hsize : g.locals.size = c.maxLocals) {argsL rest : List Value} (hlen : ∀ sig, parseMethodDescriptor y.desc = some sig → argsL.length = sig.parameters.length)
    (hstack : g.stack = argsL.reverse ++ rest) (hW : 2 * g.monitorRoom + (rest.map fun v => v.category).sum ≤ W9) (hdg : decode c.code g.pc = .ok (.invokestatic index, 3))
    (hpre : ∀ vm₁, s.WarmedH vm₁ → Pre ⟨T.setVm vm₁, locs, cells, slots⟩ argsL.toArray) :
    (∃ (v : Option Value) (vm₁ : Vm) (B : Pt), s.WarmedH vm₁ ∧ Stand p l e R s m args below meth c B.U B.locs B.cells B.slots ∧ Post ⟨T.setVm vm₁, locs, cells, slots⟩ argsL.toArray v B ∧
      ∀ target, Steps p.tables e below (B.U.setTop { g with pc := g.pc + 3, stack := v.toList ++ rest }) target → Steps p.tables e below (T.setTop g) target) ∨
    (∃ (q : Addr) (vm₁ : Vm) (B : Pt), s.WarmedH vm₁ ∧ Stand p l e R s m args below meth c B.U B.locs B.cells B.slots ∧ PostX ⟨T.setVm vm₁, locs, cells, slots⟩ argsL.toArray q B ∧
      Steps p.tables e below (T.setTop g) ((B.U.setTop { g with stack := rest }).pushFrame (.throwing q))) := by
  obtain ⟨mk, hnamed⟩ := Cond.code_named hcode
  obtain ⟨methM, cM, hmethM, -, -, -, -, -, -, hsigM⟩ := Cond.code_spec hnamed hcode
  have hstatic : methM.isStatic = true := Cond.static_spec hnamed hmethM hstat
  obtain ⟨kP, hkP, -⟩ := className_of_methodNamed hnamed
  have hinitP : kP.init = .initialized := Cond.initialized_spec (findClass_of_methodNamed hnamed) hkP hinit
  obtain ⟨vm₁, X₁, hstep₁⟩ := X.invokestatic hexec hown hlink hnamed hmethM hstatic hkP hinitP hy (g := g) hg (argsL := argsL) (rest := rest) (hlen _ hsigM) hstack hdg
  rcases hK m meth c ⟨T.setVm vm₁, locs, cells, slots⟩ { g with stack := rest } (.invokestatic index) mk argsL.toArray X₁ hg hsize hdg hW (X₁.named hnamed) (hpre vm₁ X₁.warmed) with ⟨v, B, X', hpost, hsteps⟩ | ⟨q, B, X', hpost, hsteps⟩
  · exact Or.inl ⟨v, vm₁, B, X₁.warmed, X', hpost, fun target h => hstep₁ _ fun acts => by rw [doInvoke_state]; exact hsteps.trans h⟩
  · exact Or.inr ⟨q, vm₁, B, X₁.warmed, X', hpost, hstep₁ _ fun acts => by rw [doInvoke_state]; exact hsteps⟩
end Calls
theorem vx_cls {s : State} {T : State} {vm₁ : Vm} {E : String} {k : ClassId} (hW : s.WarmedH vm₁) (h : (T.setVm vm₁).vm.findClass E = some k) : s.vm.findClass E = some k := by
  have h1 : vm₁.findClass E = some k := h
  rw [hW.alike.findClass] at h1
  exact h1
/-- the method's frame g, with q thrown over it -/
def vx_W (p : Program) (l : Launch) (e : Env) (R : Room) (s : State) (m : MethodId) (args : Array Value) (below : List Frame) (meth : Method) (c : Code) (H : Heap) (locs : List Loc) (cells slots : Nat) (Q : State → Prop) (g : JFrame) (q : Addr) : Prop :=
  ∀ T : State, T.heap = H → Stand p l e R s m args below meth c T locs cells slots → ∃ t, Steps p.tables e below ((T.setTop g).pushFrame (.throwing q)) t ∧ Q t
def vx_Run (p : Program) (l : Launch) (e : Env) (R : Room) (s : State) (m : MethodId) (args : Array Value) (below : List Frame) (meth : Method) (c : Code) (H : Heap) (locs : List Loc) (cells slots mc ms : Nat) (g : JFrame) (rest : List Value) (Qa : State → Outcome → State → Prop) (XC : String → State → State → Prop) (free : Addr → Prop) : Prop :=
  ∀ T : State, T.heap = H → Stand p l e R s m args below meth c T locs cells slots →
    (∃ (v : Option Value) (st₀ t T' : State) (L : List Loc), st₀.heap = H ∧ Stand p l e R s m args below meth c T' (locs ++ L) (cells + mc) (slots + ms) ∧ (∀ q ∈ L, free q.base) ∧ T'.heap = t.heap ∧ T'.vm = t.vm ∧ Qa st₀ (.returned v) t ∧
      Goes p e below T g T' { g with pc := g.pc + 3, stack := v.toList ++ rest }) ∨
    (∃ (q : Addr) (st₀ t T' : State) (L : List Loc) (E : String) (ce : Cell), st₀.heap = H ∧ Stand p l e R s m args below meth c T' (locs ++ L) (cells + mc) (slots + ms) ∧ (∀ z ∈ L, free z.base) ∧ T'.heap = t.heap ∧ T'.vm = t.vm ∧ XC E st₀ t ∧ t.heap[q]? = some ce ∧ ce.vm = .none ∧ s.vm.findClass E = some ce.cls ∧
      Steps p.tables e below (T.setTop g) ((T'.setTop { g with stack := rest }).pushFrame (.throwing q)))
def vx_X {S : Type} (px : S → Prop) (B : String → S → State → Prop) (A : Nat → Prop) : String → State → State → Prop := fun E st t => ∃ u : S, px u ∧ B E u t ∧ va_F A st t
section Runs
variable {p : Program} {l : Launch} {e : Env} {R : Room} {s : State} {m : MethodId} {args : Array Value} {below : List Frame} {meth : Method} {c : Code} {H : Heap} {locs : List Loc} {cells slots : Nat}
variable {y : MethodName} {bytes cc : ByteArray} {maxL nL mc ms n index : Nat} {ret : Option FieldType} {ws : List Cond} {rm : Room} {Pc : Array Value → State → Prop} {Qc : Array Value → State → Outcome → State → Prop} {XC : String → State → State → Prop} {free : Addr → Prop} {Ts : List Cond} {own C : String} {b : Addr} {As rest : List Value} {g : JFrame}
theorem vx_callBack (cb : CallB R s args own index y bytes maxL ret ws rm mc ms n) (hM : vx_Met l y ws rm Pc Qc XC mc ms free) (hbl : FrameBlind Pc) : vx_Back l R p e below s args y 3 8 (PreOf R mc ms Pc) (PostOf Qc mc ms free) (vx_Post XC mc ms free) := by
  obtain ⟨hrc, hrs, hfr, hlo, hws, hcw, -, hini, -⟩ := cb
  exact vx_back (bytes := bytes) (maxL := maxL) (ret := ret) hM hbl hrc hrs hfr hlo hws hcw (fun a' U hW => word_at hW (Or.inl (by first | rfl | simp [Cond.onTables, Cond.keeps, Cond.steady])) hini)
theorem vx_runV (S : CallFix p m c cc nL s args Ts own) (hM : vx_Met l y ws rm Pc Qc XC mc ms free) (cw : CallW R s args own C index y bytes maxL ret ws rm mc ms n) (hp : PreV s H C b Pc As)
    (hg : g.method = m) (hn : As.length = n) (hsize : g.locals.size = nL) (hstack : g.stack = As.reverse ++ .ref b :: rest) (hW : 2 * g.monitorRoom + (rest.map fun v => v.category).sum ≤ 8) (hdg : decode cc g.pc = .ok (.invokevirtual index, 3)) (hf : cells + mc ≤ R.cells ∧ slots + ms ≤ R.slots) :
    vx_Run p l e R s m args below meth c H locs cells slots mc ms g rest (Qc (Value.ref b :: As).toArray) XC free := by
  have hK : vx_Back l R p e below s args y 3 8 (PreOf R mc ms Pc) (PostOf Qc mc ms free) (vx_Post XC mc ms free) := vx_callBack cw.1 hM hp.1
  obtain ⟨⟨-, -, -, -, -, -, hcode, -, hy, hlen, hl⟩, hin, hse⟩ := cw
  obtain ⟨hx, hb, hml, ho, -⟩ := S
  obtain ⟨-, ⟨cellB, hcB, hoB, hclB⟩, hPc⟩ := hp
  intro T hT X
  rcases vx_callV X hx (C := C) (bytes := bytes) (maxL := maxL) (ret := ret) ho hl hin hse hcode hy hK (by rw [hT]; exact hcB) hoB hclB hg (hsize.trans hml.symm) (argsL := As) (rest := rest) (fun sig h => hn.trans (hlen sig h)) hstack hW (by rw [hb]; exact hdg)
    (fun vm₁ hW₁ => ⟨hf.1, hf.2, hPc (T.setVm vm₁) hT hW₁⟩) with ⟨v, vm₁, ⟨U', l2, c2, s2⟩, hW₁, X', ⟨g', mk, t, L, e1, e2, hq, h1, hL, h2, h3⟩, st⟩ | ⟨q, vm₁, ⟨U', l2, c2, s2⟩, hW₁, X', ⟨g', mk, t, L, E, ce, e1, e2, hq, hce, hcv, hcl, h1, hL, h2, h3⟩, st⟩
  · dsimp only [Pt.U, Pt.locs, Pt.cells, Pt.slots] at X' e1 e2 h1 h2 h3 st
    subst h1; subst h2; subst h3
    exact Or.inl ⟨v, (T.setVm vm₁).calling g' mk (Value.ref b :: As).toArray, t, U', L, hT, X', hL, e1, e2, hq, st⟩
  · dsimp only [Pt.U, Pt.locs, Pt.cells, Pt.slots] at X' e1 e2 h1 h2 h3 st hcl
    subst h1; subst h2; subst h3
    exact Or.inr ⟨q, (T.setVm vm₁).calling g' mk (Value.ref b :: As).toArray, t, U', L, E, ce, hT, X', hL, e1, e2, hq, hce, hcv, vx_cls hW₁ hcl, st⟩
theorem vx_runS (S : CallFix p m c cc nL s args Ts own) (hM : vx_Met l y ws rm Pc Qc XC mc ms free) (cw : CallB R s args own index y bytes maxL ret ws rm mc ms n ∧ (Cond.static y).before args s = true) (hp : PreS s H Pc As)
    (hg : g.method = m) (hn : As.length = n) (hsize : g.locals.size = nL) (hstack : g.stack = As.reverse ++ rest) (hW : 2 * g.monitorRoom + (rest.map fun v => v.category).sum ≤ 8) (hdg : decode cc g.pc = .ok (.invokestatic index, 3)) (hf : cells + mc ≤ R.cells ∧ slots + ms ≤ R.slots) :
    vx_Run p l e R s m args below meth c H locs cells slots mc ms g rest (Qc As.toArray) XC free := by
  have hK : vx_Back l R p e below s args y 3 8 (PreOf R mc ms Pc) (PostOf Qc mc ms free) (vx_Post XC mc ms free) := vx_callBack cw.1 hM hp.1
  obtain ⟨⟨-, -, -, -, -, -, hcode, hini, hy, hlen, hl⟩, hstt⟩ := cw
  obtain ⟨hx, hb, hml, ho, -⟩ := S
  intro T hT X
  rcases vx_callS X hx (bytes := bytes) (maxL := maxL) (ret := ret) ho hl hstt hini hcode hy hK hg (hsize.trans hml.symm) (argsL := As) (rest := rest) (fun sig h => hn.trans (hlen sig h)) hstack hW (by rw [hb]; exact hdg)
    (fun vm₁ hW₁ => ⟨hf.1, hf.2, hp.2 (T.setVm vm₁) hT hW₁⟩) with ⟨v, vm₁, ⟨U', l2, c2, s2⟩, hW₁, X', ⟨g', mk, t, L, e1, e2, hq, h1, hL, h2, h3⟩, st⟩ | ⟨q, vm₁, ⟨U', l2, c2, s2⟩, hW₁, X', ⟨g', mk, t, L, E, ce, e1, e2, hq, hce, hcv, hcl, h1, hL, h2, h3⟩, st⟩
  · dsimp only [Pt.U, Pt.locs, Pt.cells, Pt.slots] at X' e1 e2 h1 h2 h3 st
    subst h1; subst h2; subst h3
    exact Or.inl ⟨v, (T.setVm vm₁).calling g' mk As.toArray, t, U', L, hT, X', hL, e1, e2, hq, st⟩
  · dsimp only [Pt.U, Pt.locs, Pt.cells, Pt.slots] at X' e1 e2 h1 h2 h3 st hcl
    subst h1; subst h2; subst h3
    exact Or.inr ⟨q, (T.setVm vm₁).calling g' mk As.toArray, t, U', L, E, ce, hT, X', hL, e1, e2, hq, hce, hcv, vx_cls hW₁ hcl, st⟩
end Runs
section Rows
variable {p : Program} {l : Launch} {e : Env} {R : Room} {s : State} {m : MethodId} {args : Array Value} {below : List Frame} {meth : Method} {c : Code} {H : Heap} {locs : List Loc} {cells slots : Nat} {Q : State → Prop}
variable {mc ms : Nat} {free : Addr → Prop} {A0 A1 : Nat → Prop} {H0 : Heap} {a : Array Value} {pc : Nat} {ls : Array Slot} {st0 rest : List Value}
theorem vx_keep {st₀ t T' : State} {L : List Loc} (h0 : st₀.heap = H) (e1 : T'.heap = t.heap) (hS : va_S A0 H0 H locs) (hA : ∀ q, q < H.size → A1 q → A0 q) (hf : ∀ q, free q → A0 q) (hL : ∀ q ∈ L, free q.base) (hF : va_F A1 st₀ t) :
    H.size ≤ T'.heap.size ∧ (∀ q : Nat, q < H.size → ¬ A1 q → T'.heap[q]? = H[q]?) ∧ va_S A0 H0 T'.heap (locs ++ L) := by
  obtain ⟨hz, hk⟩ := hF
  rw [h0] at hz hk
  exact ⟨by rw [e1]; exact hz, fun q h1 h2 => by rw [e1]; exact hk q h1 h2,
    ⟨Nat.le_trans hS.1 (by rw [e1]; exact hz), fun q h1 h2 => by rw [e1, hk q (Nat.lt_of_lt_of_le h1 hS.1) (fun z => h2 (hA q (Nat.lt_of_lt_of_le h1 hS.1) z))]; exact hS.2.1 q h1 h2, fun q hq => by
      rcases List.mem_append.mp hq with h | h
      · exact hS.2.2 q h
      · exact hf _ (hL q h)⟩⟩
theorem vx_calli {S SX : Type} {post : Int32 → S → Prop} {px : SX → Prop} {B : S → State → Prop} {BX : String → SX → State → Prop} {AX : Nat → Prop} (hr : vx_Run p l e R s m args below meth c H locs cells slots mc ms (F0 m pc ls st0) rest (va_Qi post B A1 a) (vx_X px BX AX) free) (hS : va_S A0 H0 H locs) (hA : ∀ q, q < H.size → A1 q → A0 q) (hf : ∀ q, free q → A0 q) (hAX : ∀ q, q < H.size → AX q → A0 q)
    (kx : ∀ (E : String) (ce : Cell) (q9 : Addr) (u : SX) (t : State) (H1 : Heap) (locs1 : List Loc), t.heap = H1 → s.vm.Alike t.vm → px u → BX E u t → H.size ≤ H1.size → (∀ q : Nat, q < H.size → ¬ AX q → H1[q]? = H[q]?) → va_S A0 H0 H1 locs1 → H1[q9]? = some ce → ce.vm = .none → s.vm.findClass E = some ce.cls → vx_W p l e R s m args below meth c H1 locs1 (cells + mc) (slots + ms) Q (F0 m pc ls rest) q9)
    (kk : ∀ (r : Int32) (u : S) (t : State) (H1 : Heap) (locs1 : List Loc), t.heap = H1 → s.vm.Alike t.vm → post r u → B u t → H.size ≤ H1.size → (∀ q : Nat, q < H.size → ¬ A1 q → H1[q]? = H[q]?) → va_S A0 H0 H1 locs1 → W p l e R s m args below meth c H1 locs1 (cells + mc) (slots + ms) Q (F0 m (pc + 3) ls (.int r :: rest))) : W p l e R s m args below meth c H locs cells slots Q (F0 m pc ls st0) := by
  intro T hT X
  rcases hr T hT X with ⟨v, st₀, t, T', L, h0, X', hL, e1, e2, ⟨⟨r, u, hv, hp, hb⟩, hF⟩, st⟩ | ⟨q, st₀, t, T', L, E, ce, h0, X', hL, e1, e2, ⟨u, hp, hb, hF⟩, hce, hcv, hcl, st⟩
  · cases hv
    obtain ⟨k1, k2, k3⟩ := vx_keep h0 e1 hS hA hf hL hF
    obtain ⟨t2, a1, b1⟩ := kk r u t T'.heap (locs ++ L) e1.symm (by rw [← e2]; exact X'.warmed.alike) hp hb k1 k2 k3 T' rfl X'
    exact ⟨t2, st t2 a1, b1⟩
  · obtain ⟨k1, k2, k3⟩ := vx_keep h0 e1 hS hAX hf hL hF
    obtain ⟨t2, a1, b1⟩ := kx E ce q u t T'.heap (locs ++ L) e1.symm (by rw [← e2]; exact X'.warmed.alike) hp hb k1 k2 k3 (by rw [e1]; exact hce) hcv hcl T' rfl X'
    exact ⟨t2, st.trans a1, b1⟩
theorem vx_calll {S SX : Type} {post : Int64 → S → Prop} {px : SX → Prop} {B : S → State → Prop} {BX : String → SX → State → Prop} {AX : Nat → Prop} (hr : vx_Run p l e R s m args below meth c H locs cells slots mc ms (F0 m pc ls st0) rest (va_Ql post B A1 a) (vx_X px BX AX) free) (hS : va_S A0 H0 H locs) (hA : ∀ q, q < H.size → A1 q → A0 q) (hf : ∀ q, free q → A0 q) (hAX : ∀ q, q < H.size → AX q → A0 q)
    (kx : ∀ (E : String) (ce : Cell) (q9 : Addr) (u : SX) (t : State) (H1 : Heap) (locs1 : List Loc), t.heap = H1 → s.vm.Alike t.vm → px u → BX E u t → H.size ≤ H1.size → (∀ q : Nat, q < H.size → ¬ AX q → H1[q]? = H[q]?) → va_S A0 H0 H1 locs1 → H1[q9]? = some ce → ce.vm = .none → s.vm.findClass E = some ce.cls → vx_W p l e R s m args below meth c H1 locs1 (cells + mc) (slots + ms) Q (F0 m pc ls rest) q9)
    (kk : ∀ (r : Int64) (u : S) (t : State) (H1 : Heap) (locs1 : List Loc), t.heap = H1 → s.vm.Alike t.vm → post r u → B u t → H.size ≤ H1.size → (∀ q : Nat, q < H.size → ¬ A1 q → H1[q]? = H[q]?) → va_S A0 H0 H1 locs1 → W p l e R s m args below meth c H1 locs1 (cells + mc) (slots + ms) Q (F0 m (pc + 3) ls (.long r :: rest))) : W p l e R s m args below meth c H locs cells slots Q (F0 m pc ls st0) := by
  intro T hT X
  rcases hr T hT X with ⟨v, st₀, t, T', L, h0, X', hL, e1, e2, ⟨⟨r, u, hv, hp, hb⟩, hF⟩, st⟩ | ⟨q, st₀, t, T', L, E, ce, h0, X', hL, e1, e2, ⟨u, hp, hb, hF⟩, hce, hcv, hcl, st⟩
  · cases hv
    obtain ⟨k1, k2, k3⟩ := vx_keep h0 e1 hS hA hf hL hF
    obtain ⟨t2, a1, b1⟩ := kk r u t T'.heap (locs ++ L) e1.symm (by rw [← e2]; exact X'.warmed.alike) hp hb k1 k2 k3 T' rfl X'
    exact ⟨t2, st t2 a1, b1⟩
  · obtain ⟨k1, k2, k3⟩ := vx_keep h0 e1 hS hAX hf hL hF
    obtain ⟨t2, a1, b1⟩ := kx E ce q u t T'.heap (locs ++ L) e1.symm (by rw [← e2]; exact X'.warmed.alike) hp hb k1 k2 k3 (by rw [e1]; exact hce) hcv hcl T' rfl X'
    exact ⟨t2, st.trans a1, b1⟩
theorem vx_callf {S SX : Type} {post : UInt32 → S → Prop} {px : SX → Prop} {B : S → State → Prop} {BX : String → SX → State → Prop} {AX : Nat → Prop} (hr : vx_Run p l e R s m args below meth c H locs cells slots mc ms (F0 m pc ls st0) rest (va_Qf post B A1 a) (vx_X px BX AX) free) (hS : va_S A0 H0 H locs) (hA : ∀ q, q < H.size → A1 q → A0 q) (hf : ∀ q, free q → A0 q) (hAX : ∀ q, q < H.size → AX q → A0 q)
    (kx : ∀ (E : String) (ce : Cell) (q9 : Addr) (u : SX) (t : State) (H1 : Heap) (locs1 : List Loc), t.heap = H1 → s.vm.Alike t.vm → px u → BX E u t → H.size ≤ H1.size → (∀ q : Nat, q < H.size → ¬ AX q → H1[q]? = H[q]?) → va_S A0 H0 H1 locs1 → H1[q9]? = some ce → ce.vm = .none → s.vm.findClass E = some ce.cls → vx_W p l e R s m args below meth c H1 locs1 (cells + mc) (slots + ms) Q (F0 m pc ls rest) q9)
    (kk : ∀ (r : UInt32) (u : S) (t : State) (H1 : Heap) (locs1 : List Loc), t.heap = H1 → s.vm.Alike t.vm → post r u → B u t → H.size ≤ H1.size → (∀ q : Nat, q < H.size → ¬ A1 q → H1[q]? = H[q]?) → va_S A0 H0 H1 locs1 → W p l e R s m args below meth c H1 locs1 (cells + mc) (slots + ms) Q (F0 m (pc + 3) ls (.float r :: rest))) : W p l e R s m args below meth c H locs cells slots Q (F0 m pc ls st0) := by
  intro T hT X
  rcases hr T hT X with ⟨v, st₀, t, T', L, h0, X', hL, e1, e2, ⟨⟨r, u, hv, hp, hb⟩, hF⟩, st⟩ | ⟨q, st₀, t, T', L, E, ce, h0, X', hL, e1, e2, ⟨u, hp, hb, hF⟩, hce, hcv, hcl, st⟩
  · cases hv
    obtain ⟨k1, k2, k3⟩ := vx_keep h0 e1 hS hA hf hL hF
    obtain ⟨t2, a1, b1⟩ := kk r u t T'.heap (locs ++ L) e1.symm (by rw [← e2]; exact X'.warmed.alike) hp hb k1 k2 k3 T' rfl X'
    exact ⟨t2, st t2 a1, b1⟩
  · obtain ⟨k1, k2, k3⟩ := vx_keep h0 e1 hS hAX hf hL hF
    obtain ⟨t2, a1, b1⟩ := kx E ce q u t T'.heap (locs ++ L) e1.symm (by rw [← e2]; exact X'.warmed.alike) hp hb k1 k2 k3 (by rw [e1]; exact hce) hcv hcl T' rfl X'
    exact ⟨t2, st.trans a1, b1⟩
theorem vx_calld {S SX : Type} {post : UInt64 → S → Prop} {px : SX → Prop} {B : S → State → Prop} {BX : String → SX → State → Prop} {AX : Nat → Prop} (hr : vx_Run p l e R s m args below meth c H locs cells slots mc ms (F0 m pc ls st0) rest (va_Qd post B A1 a) (vx_X px BX AX) free) (hS : va_S A0 H0 H locs) (hA : ∀ q, q < H.size → A1 q → A0 q) (hf : ∀ q, free q → A0 q) (hAX : ∀ q, q < H.size → AX q → A0 q)
    (kx : ∀ (E : String) (ce : Cell) (q9 : Addr) (u : SX) (t : State) (H1 : Heap) (locs1 : List Loc), t.heap = H1 → s.vm.Alike t.vm → px u → BX E u t → H.size ≤ H1.size → (∀ q : Nat, q < H.size → ¬ AX q → H1[q]? = H[q]?) → va_S A0 H0 H1 locs1 → H1[q9]? = some ce → ce.vm = .none → s.vm.findClass E = some ce.cls → vx_W p l e R s m args below meth c H1 locs1 (cells + mc) (slots + ms) Q (F0 m pc ls rest) q9)
    (kk : ∀ (r : UInt64) (u : S) (t : State) (H1 : Heap) (locs1 : List Loc), t.heap = H1 → s.vm.Alike t.vm → post r u → B u t → H.size ≤ H1.size → (∀ q : Nat, q < H.size → ¬ A1 q → H1[q]? = H[q]?) → va_S A0 H0 H1 locs1 → W p l e R s m args below meth c H1 locs1 (cells + mc) (slots + ms) Q (F0 m (pc + 3) ls (.double r :: rest))) : W p l e R s m args below meth c H locs cells slots Q (F0 m pc ls st0) := by
  intro T hT X
  rcases hr T hT X with ⟨v, st₀, t, T', L, h0, X', hL, e1, e2, ⟨⟨r, u, hv, hp, hb⟩, hF⟩, st⟩ | ⟨q, st₀, t, T', L, E, ce, h0, X', hL, e1, e2, ⟨u, hp, hb, hF⟩, hce, hcv, hcl, st⟩
  · cases hv
    obtain ⟨k1, k2, k3⟩ := vx_keep h0 e1 hS hA hf hL hF
    obtain ⟨t2, a1, b1⟩ := kk r u t T'.heap (locs ++ L) e1.symm (by rw [← e2]; exact X'.warmed.alike) hp hb k1 k2 k3 T' rfl X'
    exact ⟨t2, st t2 a1, b1⟩
  · obtain ⟨k1, k2, k3⟩ := vx_keep h0 e1 hS hAX hf hL hF
    obtain ⟨t2, a1, b1⟩ := kx E ce q u t T'.heap (locs ++ L) e1.symm (by rw [← e2]; exact X'.warmed.alike) hp hb k1 k2 k3 (by rw [e1]; exact hce) hcv hcl T' rfl X'
    exact ⟨t2, st.trans a1, b1⟩
theorem vx_callv {S SX : Type} {post : S → Prop} {px : SX → Prop} {B : S → State → Prop} {BX : String → SX → State → Prop} {AX : Nat → Prop} (hr : vx_Run p l e R s m args below meth c H locs cells slots mc ms (F0 m pc ls st0) rest (va_Qv post B A1 a) (vx_X px BX AX) free) (hS : va_S A0 H0 H locs) (hA : ∀ q, q < H.size → A1 q → A0 q) (hf : ∀ q, free q → A0 q) (hAX : ∀ q, q < H.size → AX q → A0 q)
    (kx : ∀ (E : String) (ce : Cell) (q9 : Addr) (u : SX) (t : State) (H1 : Heap) (locs1 : List Loc), t.heap = H1 → s.vm.Alike t.vm → px u → BX E u t → H.size ≤ H1.size → (∀ q : Nat, q < H.size → ¬ AX q → H1[q]? = H[q]?) → va_S A0 H0 H1 locs1 → H1[q9]? = some ce → ce.vm = .none → s.vm.findClass E = some ce.cls → vx_W p l e R s m args below meth c H1 locs1 (cells + mc) (slots + ms) Q (F0 m pc ls rest) q9)
    (kk : ∀ (u : S) (t : State) (H1 : Heap) (locs1 : List Loc), t.heap = H1 → s.vm.Alike t.vm → post u → B u t → H.size ≤ H1.size → (∀ q : Nat, q < H.size → ¬ A1 q → H1[q]? = H[q]?) → va_S A0 H0 H1 locs1 → W p l e R s m args below meth c H1 locs1 (cells + mc) (slots + ms) Q (F0 m (pc + 3) ls (rest))) : W p l e R s m args below meth c H locs cells slots Q (F0 m pc ls st0) := by
  intro T hT X
  rcases hr T hT X with ⟨v, st₀, t, T', L, h0, X', hL, e1, e2, ⟨⟨u, hv, hp, hb⟩, hF⟩, st⟩ | ⟨q, st₀, t, T', L, E, ce, h0, X', hL, e1, e2, ⟨u, hp, hb, hF⟩, hce, hcv, hcl, st⟩
  · cases hv
    obtain ⟨k1, k2, k3⟩ := vx_keep h0 e1 hS hA hf hL hF
    obtain ⟨t2, a1, b1⟩ := kk u t T'.heap (locs ++ L) e1.symm (by rw [← e2]; exact X'.warmed.alike) hp hb k1 k2 k3 T' rfl X'
    exact ⟨t2, st t2 a1, b1⟩
  · obtain ⟨k1, k2, k3⟩ := vx_keep h0 e1 hS hAX hf hL hF
    obtain ⟨t2, a1, b1⟩ := kx E ce q u t T'.heap (locs ++ L) e1.symm (by rw [← e2]; exact X'.warmed.alike) hp hb k1 k2 k3 (by rw [e1]; exact hce) hcv hcl T' rfl X'
    exact ⟨t2, st.trans a1, b1⟩
/-- caught by the row x of this method's table; the rows ahead don't take it -/
theorem vx_catch {own name : String} {E : String} {ce : Cell} {q : Addr} (hown : s.vm.findClass own = some m.cls) (pre : List ExceptionTableEntry) (x : ExceptionTableEntry) (suf : List ExceptionTableEntry) (hsplit : c.exceptionTable.toList = pre ++ x :: suf)
    (hpass : ∀ z ∈ pre, covers z pc = false ∨ (z.catchType ≠ 0 ∧ ∃ nm : String, (Cond.classLink own z.catchType nm).before args s = true ∧ va_Nc E nm s)) (hx : covers x pc = true) (h0 : x.catchType ≠ 0)
    (hlink : (Cond.classLink own x.catchType name).before args s = true) (hcast : (Cond.castable E name).before args s = true) (hcell : H[q]? = some ce) (hv : ce.vm = .none) (hcl : s.vm.findClass E = some ce.cls)
    (kk : W p l e R s m args below meth c H locs cells slots Q (F0 m x.handlerPc ls [.ref q])) : vx_W p l e R s m args below meth c H locs cells slots Q (F0 m pc ls rest) q := by
  intro T hT X
  have hpl : e.platform.magicAccessors = ({} : Platform).magicAccessors := by rw [X.admits.platform]
  obtain ⟨c3, c4, hc3, hc4, hasg⟩ := Cond.castable_spec hcast
  cases Option.some.inj (hc3.symm.trans hcl)
  obtain ⟨c5, hc5, hcl5⟩ := Cond.classLink_spec hown hlink e.platform hpl
  cases Option.some.inj (hc4.symm.trans hc5)
  obtain ⟨vm', X', st⟩ := X.thenCaughtThrough q (g := F0 m pc ls rest) rfl (Steps.refl _) (by rw [hT]; exact hcell) (by rw [hv]; rfl) (by obtain ⟨k9, h9, -⟩ := Vm.findClass_spec hcl; exact ⟨k9, h9⟩) pre x suf hsplit
    (fun z hz => by
      rcases hpass z hz with h | ⟨hz0, nm, hl1, hn1⟩
      · exact Or.inl h
      · obtain ⟨c6, hc6, hcl6⟩ := Cond.classLink_spec hown hl1 e.platform hpl
        obtain ⟨a8, b8, h1, h2, h3⟩ := hn1
        cases Option.some.inj (h1.symm.trans hcl)
        cases Option.some.inj (h2.symm.trans hc6)
        exact Or.inr ⟨hz0, _, hcl6, h3⟩) hx (Or.inr ⟨h0, c4, hcl5, hasg⟩)
  obtain ⟨t, a1, b1⟩ := kk (T.setVm vm') hT X'
  exact ⟨t, st.trans a1, b1⟩
end Rows
section Ends
variable {p : Program} {l : Launch} {e : Env} {R : Room} {s : State} {m : MethodId} {args : Array Value} {below : List Frame} {meth : Method} {c : Code} {H : Heap} {locs : List Loc} {cells slots : Nat} {Q : State → Prop}
variable {mc ms : Nat} {free : Addr → Prop} {A0 A1 : Nat → Prop} {H0 : Heap} {a : Array Value} {ls : Array Slot} {st0 rest : List Value}
variable {Qc : Array Value → State → Outcome → State → Prop} {XC : String → State → State → Prop}
/-- what a body that may throw owes at its end -/
def vx_MQ (below : List Frame) (Qc : Array Value → State → Outcome → State → Prop) (XC : String → State → State → Prop) (a : Array Value) (s : State) (mc ms : Nat) (free : Addr → Prop) : State → Prop := fun t =>
  ∃ o, t.status = .running ∧ Ended t below o ∧ vx_Q Qc XC mc ms free a s o t
theorem vx_ret {g : JFrame} {mc ms : Nat} (k : W p l e R s m args below meth c H locs cells slots (MQ below Qc args s mc ms free) g) : W p l e R s m args below meth c H locs cells slots (vx_MQ below Qc XC args s mc ms free) g := by
  intro T hT X
  obtain ⟨t, a1, o, b1, b2, b3, b4⟩ := k T hT X
  exact ⟨t, a1, o, b1, b2, Or.inl ⟨b3, b4⟩⟩
/-- not caught here: it goes on to the caller -/
theorem vx_widen {g : JFrame} {q : Addr} {k n : Nat} (h1 : cells ≤ k) (h2 : slots ≤ n) (kk : vx_W p l e R s m args below meth c H locs k n Q g q) : vx_W p l e R s m args below meth c H locs cells slots Q g q := fun T hT X => kk T hT (stand_widen X h1 h2)
theorem vx_out {pc : Nat} {E : String} {ce : Cell} {q : Addr} {mc ms : Nat} (hout : ∀ x ∈ c.exceptionTable.toList, covers x pc = false) (hlocks : meth.locks = false) (hcell : H[q]? = some ce) (hv : ce.vm = .none) (hcl : s.vm.findClass E = some ce.cls)
    (hx : ∀ t : State, t.heap = H → s.vm.Alike t.vm → XC E s t) (hf : ∀ z ∈ locs, free z.base) (hc : cells ≤ mc) (hs : slots ≤ ms) :
    vx_W p l e R s m args below meth c H locs cells slots (vx_MQ below Qc XC args s mc ms free) (F0 m pc ls rest) q := by
  intro T hT X
  obtain ⟨st1, hrun, hend, hW, hsm⟩ := X.leaveThrown q (g := F0 m pc ls rest) rfl rfl rfl hout hlocks
  have hcell9 : (T.setFrames (.throwing q :: below)).heap[q]? = some ce := by
    show T.heap[q]? = some ce
    rw [hT]; exact hcell
  exact ⟨_, st1, .threw q, hrun, hend, Or.inr ⟨q, rfl, E, ce, locs, hx _ hT hW.alike, hcell9, hv, hcl, hW, hsm.mono hc hs, hf⟩⟩
theorem vx_frame {U : State} {k n : Nat} (h : s.sameButNew ({ U with vm := s.vm } : State) locs k n) : s.heap.size ≤ U.heap.size ∧ ∀ q : Nat, q < s.heap.size → (∀ z ∈ locs, z.base ≠ q) → U.heap[q]? = s.heap[q]? := by
  obtain ⟨-, h2, -, -, -, h6⟩ := h
  refine ⟨h2, fun q hq hz => ?_⟩
  obtain ⟨c9, e1, e2, e3, e4⟩ := h6 q _ (Array.getElem?_eq_getElem hq)
  have hs : c9.slots = (s.heap[q]).slots := Array.ext_getElem? fun i => e4 i fun hm => hz _ hm rfl
  have h9 : c9 = s.heap[q] := by
    rw [hs] at e2
    exact e2
  have e5 : U.heap[q]? = some c9 := e1
  rw [e5, h9, Array.getElem?_eq_getElem hq]
/-- the words of a throw but the four that speak of the heap -/
def vx_no (w : Cond) : Bool := decide (w ≠ .isRef (.static Bundle.tN "UNASSIGNED_STACK" Bundle.steD)) && decide (w ≠ .isRef (.static Bundle.tN "SUPPRESSED_SENTINEL" Bundle.listD)) && decide (w ≠ .laysStatic Bundle.tN "UNASSIGNED_STACK" Bundle.steD) && decide (w ≠ .laysStatic Bundle.tN "SUPPRESSED_SENTINEL" Bundle.listD)
def vx_at0 (own : String) (ic : Nat) (X : String) (names : List String) : List Cond := (Bundle.ownAtoms0 own ic X names).filter vx_no
def vx_atS (own : String) (ic : Nat) (X : String) (names : List String) : List Cond := (Bundle.ownAtoms own ic X names).filter vx_no
/-- a word that the tables alone decide, or a good one -/
def vx_ot (w : Cond) : Bool := w.onTables || goodWord w
theorem vx_ot_at {args a' : Array Value} {s U : State} {w : Cond} (hW : s.WarmedH U.vm) (hvm : s.vm = U.vm) (hg : vx_ot w = true) (h : w.before args s = true) : w.before a' U = true := by
  simp only [vx_ot, Bool.or_eq_true] at hg
  rcases hg with hg | hg
  · exact va_tabs hg hvm h
  · exact word_at hW (good_of_word hg) h
/-- a list's words: the good ones out of the method's own list, the others by premises of their own -/
theorem vx_hat {args : Array Value} {s : State} {L B : List Cond} (h1 : ∀ w ∈ L.filter goodWord, w.before args s = true) (h2 : ∀ w ∈ L.filter (fun w => !goodWord w), w ∈ B) (h3 : ∀ w ∈ B, w.before args s = true) : ∀ w ∈ L, w.before args s = true := by
  intro w hw
  by_cases g : goodWord w = true
  · exact h1 w (List.mem_filter.mpr ⟨hw, g⟩)
  · refine h3 w (h2 w (List.mem_filter.mpr ⟨hw, ?_⟩))
    show (!goodWord w) = true
    cases hgw : goodWord w
    · rfl
    · exact absurd hgw g
theorem vx_c {args : Array Value} {s : State} {w : Cond} {B : List Cond} (h : w.before args s = true) (t : ∀ w ∈ B, w.before args s = true) : ∀ w' ∈ w :: B, w'.before args s = true := fun w' h' => (List.mem_cons.mp h').elim (fun e => by rw [e]; exact h) (t w')
theorem vx_n {args : Array Value} {s : State} : ∀ w ∈ ([] : List Cond), w.before args s = true := fun _ h => nomatch h
theorem vx_own {args : Array Value} {s : State} {L : List Cond} (h1 : ∀ w ∈ L.filter vx_no, w.before args s = true)
    (hU : (Cond.isRef (.static Bundle.tN "UNASSIGNED_STACK" Bundle.steD)).before args s = true) (hN : (Cond.isRef (.static Bundle.tN "SUPPRESSED_SENTINEL" Bundle.listD)).before args s = true)
    (lU : (Cond.laysStatic Bundle.tN "UNASSIGNED_STACK" Bundle.steD).before args s = true) (lN : (Cond.laysStatic Bundle.tN "SUPPRESSED_SENTINEL" Bundle.listD).before args s = true) : ∀ w ∈ L, w.before args s = true := by
  intro w hw
  by_cases e1 : w = .isRef (.static Bundle.tN "UNASSIGNED_STACK" Bundle.steD)
  · rw [e1]; exact hU
  · by_cases e2 : w = .isRef (.static Bundle.tN "SUPPRESSED_SENTINEL" Bundle.listD)
    · rw [e2]; exact hN
    · by_cases e3 : w = .laysStatic Bundle.tN "UNASSIGNED_STACK" Bundle.steD
      · rw [e3]; exact lU
      · by_cases e4 : w = .laysStatic Bundle.tN "SUPPRESSED_SENTINEL" Bundle.listD
        · rw [e4]; exact lN
        · exact h1 w (List.mem_filter.mpr ⟨hw, by unfold vx_no; rw [decide_eq_true e1, decide_eq_true e2, decide_eq_true e3, decide_eq_true e4]; rfl⟩)
/-- where a static field lies, its class's statics cell in H -/
def vx_L (C n d : String) (A : Nat → Prop) (U : State) (H : Heap) : Prop := ∃ (c : ClassId) (k : Class) (i : Nat) (f : Field) (a : Nat) (cell : Cell), U.vm.findClass C = some c ∧ U.fieldFound? C n d = some (c, k, i, f) ∧ f.isStatic = true ∧ k.statics = some a ∧ H[a]? = some cell ∧ cell.vm.isStatics = true ∧ cell.cls = c ∧ f.slot < cell.slots.size ∧ k.staticTypes[f.slot]? = some f.type ∧ ¬ A a
theorem vx_L.moved {C n d : String} {A : Nat → Prop} {u U : State} {H : Heap} (hvm : u.vm.Alike U.vm) (h : vx_L C n d A u H) : vx_L C n d A U H := by
  obtain ⟨c, k, i, f, a, cell, h1, h2, h3, h4, h5, h6, h7, h8, h9, h10⟩ := h
  obtain ⟨k', hi', he⟩ := State.fieldFound?_setVm hvm h2
  exact ⟨c, k', i, f, a, cell, by rw [hvm.findClass]; exact h1, hi', h3, by rw [he]; exact h4, h5, h6, h7, h8, by rw [he]; exact h9, h10⟩
theorem vx_L.kept {C n d : String} {A : Nat → Prop} {U : State} {H H1 : Heap} (h : vx_L C n d A U H) (hq : ∀ a : Nat, a < H.size → ¬ A a → H1[a]? = H[a]?) : vx_L C n d A U H1 := by
  obtain ⟨c, k, i, f, a, cell, h1, h2, h3, h4, h5, h6, h7, h8, h9, h10⟩ := h
  exact ⟨c, k, i, f, a, cell, h1, h2, h3, h4, by rw [hq a (Array.getElem?_eq_some_iff.mp h5).1 h10]; exact h5, h6, h7, h8, h9, h10⟩
theorem vx_L.narrow {C n d : String} {A B : Nat → Prop} {U : State} {H : Heap} (h : vx_L C n d A U H) (hAB : ∀ q, B q → A q) : vx_L C n d B U H := by
  obtain ⟨c, k, i, f, a, cell, h1, h2, h3, h4, h5, h6, h7, h8, h9, h10⟩ := h
  exact ⟨c, k, i, f, a, cell, h1, h2, h3, h4, h5, h6, h7, h8, h9, fun z => h10 (hAB _ z)⟩
theorem vx_L.word {C n d : String} {A : Nat → Prop} {s : State} {args : Array Value} (h : vx_L C n d A s s.heap) : (Cond.laysStatic C n d).before args s = true := by
  obtain ⟨c, k, i, f, a, cell, h1, h2, h3, h4, h5, h6, h7, h8, h9, -⟩ := h
  show (Cond.laysStatic C n d).holds args s none s [] = true
  exact Cond.laysStatic_of h1 h2 h3 h4 h5 h6 h7 h8 h9
/-- .. and what it holds: null or some reference -/
def vx_Zq (C n d : String) (A : Nat → Prop) (U : State) (H : Heap) : Prop := va_Zq C n d A U H ∧ vx_L C n d A U H
theorem vx_Zq.moved {C n d : String} {A : Nat → Prop} {u U : State} {H : Heap} (hvm : u.vm.Alike U.vm) (h : vx_Zq C n d A u H) : vx_Zq C n d A U H := ⟨va_Zq.moved hvm h.1, vx_L.moved hvm h.2⟩
theorem vx_Zq.kept {C n d : String} {A : Nat → Prop} {U : State} {H H1 : Heap} (h : vx_Zq C n d A U H) (hq : ∀ a : Nat, a < H.size → ¬ A a → H1[a]? = H[a]?) : vx_Zq C n d A U H1 := ⟨va_Zq.kept h.1 hq, vx_L.kept h.2 hq⟩
theorem vx_Zq.narrow {C n d : String} {A B : Nat → Prop} {U : State} {H : Heap} (h : vx_Zq C n d A U H) (hAB : ∀ q, B q → A q) : vx_Zq C n d B U H := ⟨va_Zq.narrow h.1 hAB, vx_L.narrow h.2 hAB⟩
theorem vx_Zqof {args : Array Value} {s : State} {C n d : String} {A : Nat → Prop} (hl : (Cond.laysStatic C n d).before args s = true) (hini : (Cond.initialized C).before args s = true) (h : (Cond.isRef (.static C n d)).before args s = true) (hA : ∀ a : Nat, a < s.heap.size → ¬ A a) : vx_Zq C n d A s s.heap := by
  refine ⟨va_Zqof hl hini h hA, ?_⟩
  obtain ⟨c, k, i, f, a, cell, h1, h2, h3, h4, h5, h6, h7, h8, h9⟩ := Cond.laysStatic_spec hl
  exact ⟨c, k, i, f, a, cell, h1, h2, h3, h4, h5, h6, h7, h8, h9, hA a (Array.getElem?_eq_some_iff.mp h5).1⟩
theorem vx_isRef {C n d : String} {v : Value} {A : Nat → Prop} {s : State} {args : Array Value} (h : va_Z C n d v A s s.heap) (hv : v.isRef = true) : (Cond.isRef (.static C n d)).before args s = true := by
  obtain ⟨cf, kf, fi, f, a, cell, h1, h2, h3, h4, h5, h6, h7, -⟩ := h
  have he : (Term.static C n d).eval args s none [] s = some v := by
    simp [Term.eval, State.fieldNamed?, h1, h2, h4, h5, h6, h7]
  simp only [Cond.before, Cond.holds, Cond.value, he]
  cases v <;> simp_all [Value.isRef]
theorem vx_isRefq {C n d : String} {A : Nat → Prop} {s : State} {args : Array Value} (h : va_Zq C n d A s s.heap) : (Cond.isRef (.static C n d)).before args s = true := by
  rcases h with h | ⟨t, h⟩
  · exact vx_isRef h rfl
  · exact vx_isRef h rfl
/-- the same frame, seen from here: as if the method were called anew in this heap -/
theorem vx_rebase {T : State} (X : Stand p l e R s m args below meth c T locs cells slots) {R' : Room} (hf : R'.frames ≤ R.frames) (hl : R'.locals ≤ R.locals) (hc : cells + R'.cells ≤ R.cells) (hs : slots + R'.slots ≤ R.slots) :
    Stand p l e R' ((T.setVm s.vm).setFrames (.invoking m args :: below)) m args below meth c T [] 0 0 := by
  have htop : (T.setVm s.vm).topJava?.isSome := X.here.top
  have hF : ((T.setVm s.vm).setFrames (.invoking m args :: below)).frames = .invoking m args :: below := State.frames_setFrames _ (State.cur_lt_of_top htop)
  obtain ⟨g₀, hg0⟩ := Option.isSome_iff_exists.mp htop
  obtain ⟨r, hr⟩ := State.topJava?_eq_some.mp hg0
  have hl9 : e.platform.stackLimits (T.setVm s.vm).me = e.platform.stackLimits s.me := X.limits
  have hb9 : (T.setVm s.vm).me.stackBytes = s.me.stackBytes := X.bytes
  refine ⟨X.admits, X.cas, X.clock, hF, ?_, X.hears, X.method, X.code, X.here, X.tail, X.warmed, ?_, ?_, ?_⟩
  · have h := X.room
    have hU : ((T.setVm s.vm).setFrames (.invoking m args :: below)).localsInUse = s.localsInUse := by
      rw [State.localsInUse_invoking hF (meth := meth) (c := c) X.method X.code, State.localsInUse_invoking X.frames X.method X.code]
    simp only [State.hasRoom, Bool.and_eq_true, decide_eq_true_eq] at h ⊢
    obtain ⟨⟨⟨⟨h1, h2, h3, h4, h5, h6⟩, h7⟩, h8⟩, h9⟩ := h
    rw [X.frames, List.length_cons] at h2 h3
    have q1 := X.heapSize
    have q2 := X.used
    simp only [hF, hU, List.length_cons, State.stackLimits_setFrames, State.stackBytes_setFrames, hl9, hb9]
    refine ⟨⟨⟨⟨by omega, by omega, by omega, by omega, by omega, h6⟩, ?_⟩, ?_⟩, X.book⟩
    · show T.heap.size + R'.cells ≤ e.platform.maxCells
      omega
    · show T.slotsUsed + R'.slots ≤ e.platform.maxSlots
      omega
  · rw [State.stackLimits_setFrames]; rfl
  · rw [State.stackBytes_setFrames]; rfl
  · refine ⟨?_, Nat.le_refl _, Nat.le_refl _, ?_, ?_, fun a c9 h9 => ⟨c9, h9, rfl, rfl, fun _ _ => rfl⟩⟩
    · obtain ⟨t, ht, -⟩ := State.frames_cons hr
      show T.setVm s.vm = { ((T.setVm s.vm).setFrames (.invoking m args :: below)).setFrames (T.setVm s.vm).frames with heap := T.heap, slotsUsed := T.slotsUsed }
      rw [State.setFrames_setFrames, State.setFrames_self ht]
      rfl
    · show T.slotsUsed = T.slotsUsed + ((T.heap.toList.drop T.heap.size).map (·.slots.size)).sum
      rw [List.drop_eq_nil_of_le (Nat.le_of_eq Array.length_toList)]
      rfl
    · show ((T.heap.toList.drop T.heap.size).map (·.slots.size)).sum ≤ 0
      rw [List.drop_eq_nil_of_le (Nat.le_of_eq Array.length_toList)]
      exact Nat.le_refl _
/-- 'throw new E()': new; dup; invokespecial; athrow -/
theorem vx_throw0 {cc : ByteArray} {pc : Nat} (hexec : p.tables.exec = Jvm.exec) (hb : c.code = cc) (hl : l.stackTraces = false) {own cls : String} {names : List String} {ik ic mc ms : Nat} {A : Nat → Prop}
    (hown : s.vm.findClass own = some m.cls) (hcls : Bundle.fit cls = true) (hnames : ∀ n ∈ names, Bundle.fit n = true)
    (hk : (Cond.classLink own ik cls).before args s = true) (hini : (Cond.initialized cls).before args s = true) (hat : ∀ w ∈ vx_at0 own ic cls names, w.before args s = true)
    (hgood : ∀ w ∈ Cond.classLink own ik cls :: Cond.initialized cls :: vx_at0 own ic cls names, vx_ot w = true)
    (hU : vx_Zq Bundle.tN "UNASSIGNED_STACK" Bundle.steD A s s.heap) (hN : vx_Zq Bundle.tN "SUPPRESSED_SENTINEL" Bundle.listD A s s.heap) (hS : va_S A s.heap H locs) (hsize : ls.size = c.maxLocals)
    (d0 : decode cc pc = .ok (.new ik, 3)) (d3 : decode cc (pc + 3) = .ok (.dup, 1)) (d4 : decode cc (pc + 4) = .ok (.invokespecial ic, 3)) (d7 : decode cc (pc + 7) = .ok (.athrow, 1))
    (hout : ∀ x ∈ c.exceptionTable.toList, covers x (pc + 7) = false)
    (hRframes : names.length + 3 < R.frames) (hRlocals : (rest.map fun v => v.category).sum + (13 * (names.length + 1) + 42) ≤ R.locals) (hRcells : cells + 1 ≤ R.cells) (hRslots : slots + 6 ≤ R.slots) (hlocks : meth.locks = false)
    (hx : ∀ t : State, s.vm.Alike t.vm → H.size ≤ t.heap.size → (∀ q : Nat, q < H.size → t.heap[q]? = H[q]?) → XC cls s t)
    (hf : ∀ z ∈ locs, free z.base) (hc : cells + 1 ≤ mc) (hs : slots + 6 ≤ ms) :
    W p l e R s m args below meth c H locs cells slots (vx_MQ below Qc XC args s mc ms free) (F0 m pc ls rest) := by
  intro T hT X
  have htr : e.platform.stackTraces = false := (show e.platform.stackTraces = l.stackTraces by rw [X.admits.platform]).trans hl
  have Y := vx_rebase X (R' := { frames := R.frames, locals := R.locals, cells := 1, slots := 6 }) (Nat.le_refl _) (Nat.le_refl _) hRcells hRslots
  obtain ⟨s', hA⟩ : ∃ z, z = (T.setVm s.vm).setFrames (.invoking m args :: below) := ⟨_, rfl⟩
  rw [← hA] at Y
  have hvm : s'.vm = s.vm := by rw [hA]; rfl
  have hhp : s'.heap = H := by rw [hA]; exact hT
  have hW0 : s.WarmedH s'.vm := by rw [hvm]; exact State.WarmedH.refl s
  have hat' : ∀ w ∈ vx_at0 own ic cls names, w.before args s' = true := fun w hw => vx_ot_at hW0 hvm.symm (hgood w (List.mem_cons_of_mem _ (List.mem_cons_of_mem _ hw))) (hat w hw)
  have hk' : (Cond.classLink own ik cls).before args s' = true := vx_ot_at hW0 hvm.symm (hgood _ List.mem_cons_self) hk
  have hini' : (Cond.initialized cls).before args s' = true := vx_ot_at hW0 hvm.symm (hgood _ (List.mem_cons_of_mem _ List.mem_cons_self)) hini
  have hU' : vx_Zq Bundle.tN "UNASSIGNED_STACK" Bundle.steD A s' s'.heap := by rw [hhp]; exact vx_Zq.moved hW0.alike (hU.kept hS.2.1)
  have hN' : vx_Zq Bundle.tN "SUPPRESSED_SENTINEL" Bundle.listD A s' s'.heap := by rw [hhp]; exact vx_Zq.moved hW0.alike (hN.kept hS.2.1)
  have h : ∀ w ∈ Bundle.ownAtoms0 own ic cls names, w.before args s' = true := vx_own hat' (vx_isRefq hU'.1) (vx_isRefq hN'.1) hU'.2.word hN'.2.word
  have hown' : s'.vm.findClass own = some m.cls := by rw [hvm]; exact hown
  have hins : (Cond.instantiable cls 6).before args s' = true := h _ (by simp [Bundle.ownAtoms0])
  obtain ⟨vm₁, cX, kX, hfX, hkX, -, -, X₁, st1⟩ := Y.newCold hexec (own := own) (C := cls) (index := ik) (n := 6) hown' hk' hins hini'
    (g := F0 m pc ls rest) rfl (by rw [hb]; exact d0) (Nat.le_refl _) (Nat.le_refl _)
  generalize hT1 : (T.setVm vm₁).pushCell { cls := cX, slots := kX.instanceTypes.map defaultValue, vm := .none } = T1 at X₁ st1
  have hcat : (Value.ref T.heap.size).category = 1 := rfl
  have hcellA : T1.heap[T.heap.size]? = some (freshCell cX kX) := by rw [← hT1]; exact State.heap_pushCell_size _ _
  have d3' : decode c.code (pc + 3) = .ok (.dup, 1) := by rw [hb]; exact d3
  obtain ⟨U, hsteps, hrun, hend, hW, hsame, ce, hce, hO⟩ := X₁.ctorThrow0 hexec htr (own := own) (cls := cls) (names := names) (ic := ic) hown' hcls hnames h (fun x hx => nomatch hx) hfX hkX hcellA (by rw [hhp, hT]; exact Nat.le_refl _)
    (g := { method := m, pc := pc + 4, locals := ls, stack := .ref T.heap.size :: .ref T.heap.size :: rest, locked := none }) rfl hsize rfl rfl (rest := rest) rfl
    (by rw [hb]; exact d4) (by rw [hb]; exact d7) hout hRframes (by simp only [List.map_cons, List.sum_cons, hcat]; omega) hlocks
  obtain ⟨f1, f2⟩ := vx_frame hsame
  rw [hhp] at f1 f2
  have hWs : s.WarmedH U.vm := State.WarmedH.trans hW0 hW
  have hcl : s.vm.findClass cls = some ce.cls := by
    have h9 := hO.cls
    rw [hvm] at h9
    exact h9
  have hall : s.sameButNew ({ U with vm := s.vm } : State) locs mc ms := by
    subst hA
    obtain ⟨e1, e2⟩ := hsame
    rw [State.setFrames_setFrames] at e1
    have h2 : (T.setVm s.vm).sameButNew ({ U with vm := s.vm } : State) [] (0 + 1) (0 + 6) := ⟨e1, e2⟩
    have h3 := X.same.trans h2
    rw [List.append_nil] at h3
    exact h3.mono hc hs
  refine ⟨U, ?_, .threw T.heap.size, hrun, hend, Or.inr ⟨T.heap.size, rfl, cls, ce, locs, hx U hWs.alike f1 (fun q hq => f2 q hq (fun z hz => nomatch hz)), hce, hO.vm, hcl, hWs, hall, hf⟩⟩
  refine st1 _ ?_
  show Steps p.tables e below (T1.setTop { method := m, pc := pc + 3, locals := ls, stack := .ref T.heap.size :: rest, locked := none }) _
  jvm_step X₁.here [X₁.here.top, hexec, d3', Value.category]
  exact hsteps
/-- 'throw new E("text")': new; dup; ldc; invokespecial; athrow -/
theorem vx_throwS {cc : ByteArray} {pc : Nat} (hexec : p.tables.exec = Jvm.exec) (hb : c.code = cc) (hl : l.stackTraces = false) {own cls text : String} {names : List String} {ik is ic mc ms sa : Nat} {A : Nat → Prop}
    (hown : s.vm.findClass own = some m.cls) (hcls : Bundle.fit cls = true) (hnames : ∀ n ∈ names, Bundle.fit n = true)
    (hk : (Cond.classLink own ik cls).before args s = true) (hini : (Cond.initialized cls).before args s = true) (hstr : vk_R own is text sa s) (hat : ∀ w ∈ vx_atS own ic cls names, w.before args s = true)
    (hgood : ∀ w ∈ Cond.classLink own ik cls :: Cond.initialized cls :: vx_atS own ic cls names, vx_ot w = true)
    (hU : vx_Zq Bundle.tN "UNASSIGNED_STACK" Bundle.steD A s s.heap) (hN : vx_Zq Bundle.tN "SUPPRESSED_SENTINEL" Bundle.listD A s s.heap) (hS : va_S A s.heap H locs) (hsize : ls.size = c.maxLocals)
    (d0 : decode cc pc = .ok (.new ik, 3)) (d3 : decode cc (pc + 3) = .ok (.dup, 1)) (d4 : decode cc (pc + 4) = .ok (.ldc is, 2)) (d6 : decode cc (pc + 6) = .ok (.invokespecial ic, 3)) (d9 : decode cc (pc + 9) = .ok (.athrow, 1))
    (hout : ∀ x ∈ c.exceptionTable.toList, covers x (pc + 9) = false)
    (hRframes : names.length + 3 < R.frames) (hRlocals : (rest.map fun v => v.category).sum + (13 * (names.length + 1) + 43) ≤ R.locals) (hRcells : cells + 1 ≤ R.cells) (hRslots : slots + 6 ≤ R.slots) (hlocks : meth.locks = false)
    (hx : ∀ t : State, s.vm.Alike t.vm → H.size ≤ t.heap.size → (∀ q : Nat, q < H.size → t.heap[q]? = H[q]?) → XC cls s t)
    (hf : ∀ z ∈ locs, free z.base) (hc : cells + 1 ≤ mc) (hs : slots + 6 ≤ ms) :
    W p l e R s m args below meth c H locs cells slots (vx_MQ below Qc XC args s mc ms free) (F0 m pc ls rest) := by
  intro T hT X
  have htr : e.platform.stackTraces = false := (show e.platform.stackTraces = l.stackTraces by rw [X.admits.platform]).trans hl
  have Y := vx_rebase X (R' := { frames := R.frames, locals := R.locals, cells := 1, slots := 6 }) (Nat.le_refl _) (Nat.le_refl _) hRcells hRslots
  obtain ⟨s', hA⟩ : ∃ z, z = (T.setVm s.vm).setFrames (.invoking m args :: below) := ⟨_, rfl⟩
  rw [← hA] at Y
  have hvm : s'.vm = s.vm := by rw [hA]; rfl
  have hhp : s'.heap = H := by rw [hA]; exact hT
  have hW0 : s.WarmedH s'.vm := by rw [hvm]; exact State.WarmedH.refl s
  have hat' : ∀ w ∈ vx_atS own ic cls names, w.before args s' = true := fun w hw => vx_ot_at hW0 hvm.symm (hgood w (List.mem_cons_of_mem _ (List.mem_cons_of_mem _ hw))) (hat w hw)
  have hk' : (Cond.classLink own ik cls).before args s' = true := vx_ot_at hW0 hvm.symm (hgood _ List.mem_cons_self) hk
  have hini' : (Cond.initialized cls).before args s' = true := vx_ot_at hW0 hvm.symm (hgood _ (List.mem_cons_of_mem _ List.mem_cons_self)) hini
  have hU' : vx_Zq Bundle.tN "UNASSIGNED_STACK" Bundle.steD A s' s'.heap := by rw [hhp]; exact vx_Zq.moved hW0.alike (hU.kept hS.2.1)
  have hN' : vx_Zq Bundle.tN "SUPPRESSED_SENTINEL" Bundle.listD A s' s'.heap := by rw [hhp]; exact vx_Zq.moved hW0.alike (hN.kept hS.2.1)
  have h : ∀ w ∈ Bundle.ownAtoms own ic cls names, w.before args s' = true := vx_own hat' (vx_isRefq hU'.1) (vx_isRefq hN'.1) hU'.2.word hN'.2.word
  have hown' : s'.vm.findClass own = some m.cls := by rw [hvm]; exact hown
  have hins : (Cond.instantiable cls 6).before args s' = true := h _ (by simp [Bundle.ownAtoms])
  obtain ⟨vm₁, cX, kX, hfX, hkX, -, -, X₁, st1⟩ := Y.newCold hexec (own := own) (C := cls) (index := ik) (n := 6) hown' hk' hins hini'
    (g := F0 m pc ls rest) rfl (by rw [hb]; exact d0) (Nat.le_refl _) (Nat.le_refl _)
  generalize hT1 : (T.setVm vm₁).pushCell { cls := cX, slots := kX.instanceTypes.map defaultValue, vm := .none } = T1 at X₁ st1
  have hcat : (Value.ref T.heap.size).category = 1 := rfl
  have hcellA : T1.heap[T.heap.size]? = some (freshCell cX kX) := by rw [← hT1]; exact State.heap_pushCell_size _ _
  have d3' : decode c.code (pc + 3) = .ok (.dup, 1) := by rw [hb]; exact d3
  have d4' : decode c.code (pc + 4) = .ok (.ldc is, 2) := by rw [hb]; exact d4
  have hstr' : vk_R own is text sa s' := vk_R.warm hW0 hstr
  obtain ⟨U, hsteps, hrun, hend, hW, hsame, ce, hce, hO⟩ := X₁.ctorThrowS hexec htr (own := own) (cls := cls) (names := names) (ic := ic) hown' hcls hnames h (fun x hx => nomatch hx) hfX hkX hcellA (by rw [hhp, hT]; exact Nat.le_refl _) (msg := .ref sa) rfl
    (g := { method := m, pc := pc + 6, locals := ls, stack := .ref sa :: .ref T.heap.size :: .ref T.heap.size :: rest, locked := none }) rfl hsize rfl rfl (rest := rest) rfl
    (by rw [hb]; exact d6) (by rw [hb]; exact d9) hout hRframes (by simp only [List.map_cons, List.sum_cons, hcat]; omega) hlocks
  obtain ⟨f1, f2⟩ := vx_frame hsame
  rw [hhp] at f1 f2
  have hWs : s.WarmedH U.vm := State.WarmedH.trans hW0 hW
  have hcl : s.vm.findClass cls = some ce.cls := by
    have h9 := hO.cls
    rw [hvm] at h9
    exact h9
  have hall : s.sameButNew ({ U with vm := s.vm } : State) locs mc ms := by
    subst hA
    obtain ⟨e1, e2⟩ := hsame
    rw [State.setFrames_setFrames] at e1
    have h2 : (T.setVm s.vm).sameButNew ({ U with vm := s.vm } : State) [] (0 + 1) (0 + 6) := ⟨e1, e2⟩
    have h3 := X.same.trans h2
    rw [List.append_nil] at h3
    exact h3.mono hc hs
  refine ⟨U, ?_, .threw T.heap.size, hrun, hend, Or.inr ⟨T.heap.size, rfl, cls, ce, locs, hx U hWs.alike f1 (fun q hq => f2 q hq (fun z hz => nomatch hz)), hce, hO.vm, hcl, hWs, hall, hf⟩⟩
  refine st1 _ ?_
  show Steps p.tables e below (T1.setTop { method := m, pc := pc + 3, locals := ls, stack := .ref T.heap.size :: rest, locked := none }) _
  jvm_step X₁.here [X₁.here.top, hexec, d3', Value.category]
  exact X₁.ldcString hexec (own := own) (text := text) (index := is) (a := sa) hown' hstr'.1 hstr'.2
    (g := { method := m, pc := pc + 4, locals := ls, stack := .ref T.heap.size :: .ref T.heap.size :: rest, locked := none }) rfl d4' _ hsteps
/-- 'throw new E("text")', the text by a wide index -/
theorem vx_throwSW {cc : ByteArray} {pc : Nat} (hexec : p.tables.exec = Jvm.exec) (hb : c.code = cc) (hl : l.stackTraces = false) {own cls text : String} {names : List String} {ik is ic mc ms sa : Nat} {A : Nat → Prop}
    (hown : s.vm.findClass own = some m.cls) (hcls : Bundle.fit cls = true) (hnames : ∀ n ∈ names, Bundle.fit n = true)
    (hk : (Cond.classLink own ik cls).before args s = true) (hini : (Cond.initialized cls).before args s = true) (hstr : vk_R own is text sa s) (hat : ∀ w ∈ vx_atS own ic cls names, w.before args s = true)
    (hgood : ∀ w ∈ Cond.classLink own ik cls :: Cond.initialized cls :: vx_atS own ic cls names, vx_ot w = true)
    (hU : vx_Zq Bundle.tN "UNASSIGNED_STACK" Bundle.steD A s s.heap) (hN : vx_Zq Bundle.tN "SUPPRESSED_SENTINEL" Bundle.listD A s s.heap) (hS : va_S A s.heap H locs) (hsize : ls.size = c.maxLocals)
    (d0 : decode cc pc = .ok (.new ik, 3)) (d3 : decode cc (pc + 3) = .ok (.dup, 1)) (d4 : decode cc (pc + 4) = .ok (.ldc_w is, 3)) (d7 : decode cc (pc + 7) = .ok (.invokespecial ic, 3)) (d10 : decode cc (pc + 10) = .ok (.athrow, 1))
    (hout : ∀ x ∈ c.exceptionTable.toList, covers x (pc + 10) = false)
    (hRframes : names.length + 3 < R.frames) (hRlocals : (rest.map fun v => v.category).sum + (13 * (names.length + 1) + 43) ≤ R.locals) (hRcells : cells + 1 ≤ R.cells) (hRslots : slots + 6 ≤ R.slots) (hlocks : meth.locks = false)
    (hx : ∀ t : State, s.vm.Alike t.vm → H.size ≤ t.heap.size → (∀ q : Nat, q < H.size → t.heap[q]? = H[q]?) → XC cls s t)
    (hf : ∀ z ∈ locs, free z.base) (hc : cells + 1 ≤ mc) (hs : slots + 6 ≤ ms) :
    W p l e R s m args below meth c H locs cells slots (vx_MQ below Qc XC args s mc ms free) (F0 m pc ls rest) := by
  intro T hT X
  have htr : e.platform.stackTraces = false := (show e.platform.stackTraces = l.stackTraces by rw [X.admits.platform]).trans hl
  have Y := vx_rebase X (R' := { frames := R.frames, locals := R.locals, cells := 1, slots := 6 }) (Nat.le_refl _) (Nat.le_refl _) hRcells hRslots
  obtain ⟨s', hA⟩ : ∃ z, z = (T.setVm s.vm).setFrames (.invoking m args :: below) := ⟨_, rfl⟩
  rw [← hA] at Y
  have hvm : s'.vm = s.vm := by rw [hA]; rfl
  have hhp : s'.heap = H := by rw [hA]; exact hT
  have hW0 : s.WarmedH s'.vm := by rw [hvm]; exact State.WarmedH.refl s
  have hat' : ∀ w ∈ vx_atS own ic cls names, w.before args s' = true := fun w hw => vx_ot_at hW0 hvm.symm (hgood w (List.mem_cons_of_mem _ (List.mem_cons_of_mem _ hw))) (hat w hw)
  have hk' : (Cond.classLink own ik cls).before args s' = true := vx_ot_at hW0 hvm.symm (hgood _ List.mem_cons_self) hk
  have hini' : (Cond.initialized cls).before args s' = true := vx_ot_at hW0 hvm.symm (hgood _ (List.mem_cons_of_mem _ List.mem_cons_self)) hini
  have hU' : vx_Zq Bundle.tN "UNASSIGNED_STACK" Bundle.steD A s' s'.heap := by rw [hhp]; exact vx_Zq.moved hW0.alike (hU.kept hS.2.1)
  have hN' : vx_Zq Bundle.tN "SUPPRESSED_SENTINEL" Bundle.listD A s' s'.heap := by rw [hhp]; exact vx_Zq.moved hW0.alike (hN.kept hS.2.1)
  have h : ∀ w ∈ Bundle.ownAtoms own ic cls names, w.before args s' = true := vx_own hat' (vx_isRefq hU'.1) (vx_isRefq hN'.1) hU'.2.word hN'.2.word
  have hown' : s'.vm.findClass own = some m.cls := by rw [hvm]; exact hown
  have hins : (Cond.instantiable cls 6).before args s' = true := h _ (by simp [Bundle.ownAtoms])
  obtain ⟨vm₁, cX, kX, hfX, hkX, -, -, X₁, st1⟩ := Y.newCold hexec (own := own) (C := cls) (index := ik) (n := 6) hown' hk' hins hini'
    (g := F0 m pc ls rest) rfl (by rw [hb]; exact d0) (Nat.le_refl _) (Nat.le_refl _)
  generalize hT1 : (T.setVm vm₁).pushCell { cls := cX, slots := kX.instanceTypes.map defaultValue, vm := .none } = T1 at X₁ st1
  have hcat : (Value.ref T.heap.size).category = 1 := rfl
  have hcellA : T1.heap[T.heap.size]? = some (freshCell cX kX) := by rw [← hT1]; exact State.heap_pushCell_size _ _
  have d3' : decode c.code (pc + 3) = .ok (.dup, 1) := by rw [hb]; exact d3
  have d4' : decode c.code (pc + 4) = .ok (.ldc_w is, 3) := by rw [hb]; exact d4
  have hstr' : vk_R own is text sa s' := vk_R.warm hW0 hstr
  obtain ⟨U, hsteps, hrun, hend, hW, hsame, ce, hce, hO⟩ := X₁.ctorThrowS hexec htr (own := own) (cls := cls) (names := names) (ic := ic) hown' hcls hnames h (fun x hx => nomatch hx) hfX hkX hcellA (by rw [hhp, hT]; exact Nat.le_refl _) (msg := .ref sa) rfl
    (g := { method := m, pc := pc + 7, locals := ls, stack := .ref sa :: .ref T.heap.size :: .ref T.heap.size :: rest, locked := none }) rfl hsize rfl rfl (rest := rest) rfl
    (by rw [hb]; exact d7) (by rw [hb]; exact d10) hout hRframes (by simp only [List.map_cons, List.sum_cons, hcat]; omega) hlocks
  obtain ⟨f1, f2⟩ := vx_frame hsame
  rw [hhp] at f1 f2
  have hWs : s.WarmedH U.vm := State.WarmedH.trans hW0 hW
  have hcl : s.vm.findClass cls = some ce.cls := by
    have h9 := hO.cls
    rw [hvm] at h9
    exact h9
  have hall : s.sameButNew ({ U with vm := s.vm } : State) locs mc ms := by
    subst hA
    obtain ⟨e1, e2⟩ := hsame
    rw [State.setFrames_setFrames] at e1
    have h2 : (T.setVm s.vm).sameButNew ({ U with vm := s.vm } : State) [] (0 + 1) (0 + 6) := ⟨e1, e2⟩
    have h3 := X.same.trans h2
    rw [List.append_nil] at h3
    exact h3.mono hc hs
  refine ⟨U, ?_, .threw T.heap.size, hrun, hend, Or.inr ⟨T.heap.size, rfl, cls, ce, locs, hx U hWs.alike f1 (fun q hq => f2 q hq (fun z hz => nomatch hz)), hce, hO.vm, hcl, hWs, hall, hf⟩⟩
  refine st1 _ ?_
  show Steps p.tables e below (T1.setTop { method := m, pc := pc + 3, locals := ls, stack := .ref T.heap.size :: rest, locked := none }) _
  jvm_step X₁.here [X₁.here.top, hexec, d3', Value.category]
  exact X₁.ldcStringW hexec (own := own) (text := text) (index := is) (a := sa) hown' hstr'.1 hstr'.2
    (g := { method := m, pc := pc + 4, locals := ls, stack := .ref T.heap.size :: .ref T.heap.size :: rest, locked := none }) rfl d4' _ hsteps
end Ends
section Bodies
variable {l : Launch}
theorem vx_ofW {y : MethodName} {ws ws' : List Cond} {rm : Room} {Pc : Array Value → State → Prop} {Qc : Array Value → State → Outcome → State → Prop} {XC : String → State → State → Prop} {mc ms : Nat} {free : Addr → Prop} {cc : ByteArray} {maxL : Nat} {ret : Option FieldType}
    (hy : plainName y.cls = true) (hw : ws = Cond.code y cc maxL ret :: ws')
    (body : ∀ p e s m args below meth c s₁, BodyLoose p l y (headSpec ws rm) cc maxL ret e s m args below meth c s₁ → c.maxLocals = maxL → (∀ x ∈ c.exceptionTable.toList, False) → Pc args s →
      W p l e (headSpec ws rm).room s m args below meth c s.heap [] 0 0 (vx_MQ below Qc XC args s mc ms free) (entryFrame m args maxL)) : vx_Met l y ws rm Pc Qc XC mc ms free := by
  refine MetFree.of_bodyS (code := cc) (maxLocals := maxL) (ret := ret) hy ?_ ?_
  · intro args s m h hn
    obtain ⟨meth, c, h1, h2, h3, h4, h5, h6, -, -⟩ := Cond.code_spec hn (atoms_spec (ws := ws) h _ (by rw [hw]; exact List.mem_cons_self))
    exact ⟨meth, c, h1, h2, h3, h4, h5, h6⟩
  · intro p e s m args below meth c s₁ B hml hP _
    have hh0 : s₁.heap = s.heap := by rw [B.state]; rfl
    have ht : ∀ x ∈ c.exceptionTable.toList, False := by
      obtain ⟨meth9, c9, h1, h2, -, -, -, -, h7, -⟩ := Cond.code_spec B.named (atoms_spec (ws := ws) B.pre _ (by rw [hw]; exact List.mem_cons_self))
      cases Option.some.inj (h1.symm.trans B.method)
      cases Option.some.inj (h2.symm.trans (Stand.of_body B).code)
      intro x hx
      rw [Array.isEmpty_iff.mp h7] at hx
      cases hx
    obtain ⟨t, a1, o, b1, b2, b3⟩ := body p e s m args below meth c s₁ B hml ht hP s₁ hh0 (Stand.of_body B)
    exact ⟨t, o, a1, b1, b2, b3⟩
/-- the table of a body with handlers -/
theorem vx_table {p : Program} {x y : MethodName} {S : Spec} {cc bytes : ByteArray} {maxL maxL' : Nat} {ret ret' : Option FieldType} {e : Env} {s s₁ : State} {m : MethodId} {args : Array Value} {below : List Frame} {meth : Method} {c : Code} {hh : List (Nat × Nat × Nat × Nat)}
    (B : BodyLoose p l y S cc maxL ret e s m args below meth c s₁) (h : (Cond.codeWith y bytes maxL' ret' hh).before args s = true) : c.exceptionTable.toList = tableOf hh := by
  obtain ⟨m9, meth9, c9, hn9, h1, h2, -, -, h6, -⟩ := Cond.codeWith_spec h
  cases Option.some.inj (hn9.symm.trans B.named)
  cases Option.some.inj (h1.symm.trans B.method)
  cases Option.some.inj (h2.symm.trans (Stand.of_body B).code)
  rw [← h6, table_eq]
end Bodies
end VXA
/-! ===== END ===== -/
/-! ===== BEGIN a static call of a method with an exception table ===== -/
section VXS
variable {p : Program} {l : Launch} {e : Env} {R : Room} {s : State} {m : MethodId} {args : Array Value} {below : List Frame} {meth : Method} {c : Code} {T : State} {H : Heap} {locs : List Loc} {cells slots : Nat}
abbrev vx_CSW (R : Room) (s : State) (args : Array Value) (own : String) (index : Nat) (y : MethodName) (bytes : ByteArray) (maxL : Nat) (ret : Option FieldType) (hh : List (Nat × Nat × Nat × Nat)) (ws : List Cond) (rm : Room) (mc ms n : Nat) : Prop :=
  (rm.cells = mc ∧ rm.slots = ms ∧ rm.frames + 1 ≤ R.frames ∧ 8 + (maxL + 11) + rm.locals ≤ R.locals ∧ (∀ w ∈ ws, ∀ (a' : Array Value) (U : State), s.WarmedH U.vm → w.before a' U = true) ∧ Cond.codeWith y bytes maxL ret hh ∈ ws) ∧
  (Cond.codeWith y bytes maxL ret hh).before args s = true ∧ (Cond.initialized y.cls).before args s = true ∧ (y.cls ≠ "java/lang/invoke/MethodHandle" ∧ y.cls ≠ "java/lang/invoke/VarHandle") ∧
  (∀ sig, parseMethodDescriptor y.desc = some sig → n = sig.parameters.length) ∧ (Cond.methodLink own index y).before args s = true ∧ (Cond.static y).before args s = true
theorem vx_cwSW {own : String} {index maxL mc ms : Nat} {y : MethodName} {bytes : ByteArray} {ret : Option FieldType} {hh : List (Nat × Nat × Nat × Nat)} {Ts ws ws' : List Cond} {rm : Room} (n : Nat) (ht : ∀ w ∈ Ts, w.before args s = true) (hT : GoodIn Ts (va_wsS own index y ws)) (hw : ws = Cond.codeWith y bytes maxL ret hh :: ws') (hrc : rm.cells = mc) (hrs : rm.slots = ms)
    (hd : y.cls ≠ "java/lang/invoke/MethodHandle" ∧ y.cls ≠ "java/lang/invoke/VarHandle" ∧ (parseMethodDescriptor y.desc).map (fun d => d.parameters.length) = some n) (hR : rm.frames + 1 ≤ R.frames ∧ 8 + (maxL + 11) + rm.locals ≤ R.locals) :
    vx_CSW R s args own index y bytes maxL ret hh ws rm mc ms n := by
  have ok : ∀ w ∈ va_wsS own index y ws, w.before args s = true := fun w h => ht w (hT w h).1
  have hG : GoodIn Ts ws := fun w h => hT w (by unfold va_wsS; exact List.mem_append_right _ h)
  have hc : Cond.codeWith y bytes maxL ret hh ∈ ws := by rw [hw]; exact List.mem_cons_self
  refine ⟨⟨hrc, hrs, hR.1, hR.2, pay_in ht hG, hc⟩, ht _ (hG _ hc).1, ok _ (by simp [va_wsS]), ⟨hd.1, hd.2.1⟩, fun sig h => ?_, ok _ (by simp [va_wsS]), ok _ (by simp [va_wsS])⟩
  have h2 := hd.2.2
  rw [h] at h2
  exact (Option.some.inj h2).symm
theorem vx_callSW (X : Stand p l e R s m args below meth c T locs cells slots) (hexec : p.tables.exec = Jvm.exec) {own : String} {index : Nat} {y : MethodName} {bytes : ByteArray} {maxL : Nat} {ret : Option FieldType} {hh : List (Nat × Nat × Nat × Nat)}
    (hown : s.vm.findClass own = some m.cls) (hlink : (Cond.methodLink own index y).before args s = true) (hstat : (Cond.static y).before args s = true) (hinit : (Cond.initialized y.cls).before args s = true)
    (hcode : (Cond.codeWith y bytes maxL ret hh).before args s = true) (hy : y.cls ≠ "java/lang/invoke/MethodHandle" ∧ y.cls ≠ "java/lang/invoke/VarHandle")
    {W9 : Nat} {Pre : Pt → Array Value → Prop} {Post : Pt → Array Value → Option Value → Pt → Prop} (hK : Back l R p e below s args y 3 W9 Pre Post)
    {g : JFrame} (hg : g.method = m) (hsize : g.locals.size = c.maxLocals) {argsL rest : List Value} (hlen : ∀ sig, parseMethodDescriptor y.desc = some sig → argsL.length = sig.parameters.length)
    (hstack : g.stack = argsL.reverse ++ rest) (hW : 2 * g.monitorRoom + (rest.map fun v => v.category).sum ≤ W9) (hdg : decode c.code g.pc = .ok (.invokestatic index, 3))
    (hpre : ∀ vm₁, s.WarmedH vm₁ → Pre ⟨T.setVm vm₁, locs, cells, slots⟩ argsL.toArray) :
    ∃ (v : Option Value) (vm₁ : Vm) (B : Pt), s.WarmedH vm₁ ∧ Stand p l e R s m args below meth c B.U B.locs B.cells B.slots ∧ Post ⟨T.setVm vm₁, locs, cells, slots⟩ argsL.toArray v B ∧
      ∀ target, Steps p.tables e below (B.U.setTop { g with pc := g.pc + 3, stack := v.toList ++ rest }) target → Steps p.tables e below (T.setTop g) target := by
  obtain ⟨mk, methM, cM, hnamed, hmethM, -, -, -, -, -, -, hsigM⟩ := Cond.codeWith_spec hcode
  have hstatic : methM.isStatic = true := Cond.static_spec hnamed hmethM hstat
  obtain ⟨kP, hkP, -⟩ := className_of_methodNamed hnamed
  have hinitP : kP.init = .initialized := Cond.initialized_spec (findClass_of_methodNamed hnamed) hkP hinit
  obtain ⟨vm₁, X₁, hstep₁⟩ := X.invokestatic hexec hown hlink hnamed hmethM hstatic hkP hinitP hy (g := g) hg (argsL := argsL) (rest := rest) (hlen _ hsigM) hstack hdg
  obtain ⟨v, B, X', hpost, hsteps⟩ := hK m meth c ⟨T.setVm vm₁, locs, cells, slots⟩ { g with stack := rest } (.invokestatic index) mk argsL.toArray X₁ hg hsize hdg hW (X₁.named hnamed) (hpre vm₁ X₁.warmed)
  exact ⟨v, vm₁, B, X₁.warmed, X', hpost, fun target h => hstep₁ _ fun acts => by rw [doInvoke_state]; exact hsteps.trans h⟩
theorem vx_runSW {y : MethodName} {bytes cc : ByteArray} {maxL nL mc ms n index : Nat} {ret : Option FieldType} {hh : List (Nat × Nat × Nat × Nat)} {ws : List Cond} {rm : Room} {Pc : Array Value → State → Prop} {Qc : Array Value → State → Outcome → State → Prop} {free : Addr → Prop} {Ts : List Cond} {own : String} {As rest : List Value} {g : JFrame}
    (S : CallFix p m c cc nL s args Ts own) (hM : Met l y ws rm Pc Qc mc ms free) (cw : vx_CSW R s args own index y bytes maxL ret hh ws rm mc ms n) (hp : PreS s H Pc As)
    (hg : g.method = m) (hn : As.length = n) (hsize : g.locals.size = nL) (hstack : g.stack = As.reverse ++ rest) (hW : 2 * g.monitorRoom + (rest.map fun v => v.category).sum ≤ 8) (hdg : decode cc g.pc = .ok (.invokestatic index, 3)) (hf : cells + mc ≤ R.cells ∧ slots + ms ≤ R.slots) :
    va_Run p l e R s m args below meth c H locs cells slots mc ms g rest (Qc As.toArray) (free) := by
  obtain ⟨⟨hrc, hrs, hfr, hlo, hws, hcw⟩, hcode, hini, hy, hlen, hl, hstt⟩ := cw
  have hK : Back l R p e below s args y 3 8 (PreOf R mc ms Pc) (PostOf Qc mc ms free) := va_backW (hh := hh) (bytes := bytes) (maxL := maxL) (ret := ret) hM hp.1 hrc hrs hfr hlo hws hcw (fun a' U hW => word_at hW (Or.inl (by first | rfl | simp [Cond.onTables, Cond.keeps, Cond.steady])) hini)
  obtain ⟨hx, hb, hml, ho, -⟩ := S
  intro T hT X
  obtain ⟨v, vm₁, ⟨U', l2, c2, s2⟩, hW₁, X', ⟨g', mk, t, L, e1, e2, hq, h1, hL, h2, h3⟩, st⟩ := vx_callSW X hx (hh := hh) (bytes := bytes) (maxL := maxL) (ret := ret) ho hl hstt hini hcode hy hK hg (hsize.trans hml.symm) (argsL := As) (rest := rest) (fun sig h => hn.trans (hlen sig h)) hstack hW (by rw [hb]; exact hdg)
    (fun vm₁ hW₁ => ⟨hf.1, hf.2, hp.2 (T.setVm vm₁) hT hW₁⟩)
  dsimp only [Pt.U, Pt.locs, Pt.cells, Pt.slots] at X' e1 e2 h1 h2 h3 st
  subst h1; subst h2; subst h3
  exact ⟨v, (T.setVm vm₁).calling g' mk As.toArray, t, U', L, hT, X', hL, e1, e2, hq, st⟩
/-- not caught here, past rows that name other classes: it goes on to the caller -/
theorem vx_outP {p : Program} {l : Launch} {e : Env} {R : Room} {s : State} {m : MethodId} {args : Array Value} {below : List Frame} {meth : Method} {c : Code} {H : Heap} {locs : List Loc} {cells slots : Nat} {free : Addr → Prop} {ls : Array Slot} {rest : List Value} {Qc : Array Value → State → Outcome → State → Prop} {XC : String → State → State → Prop}
    {pc : Nat} {own E : String} {ce : Cell} {q : Addr} {mc ms : Nat} (hown : s.vm.findClass own = some m.cls) (hlocks : meth.locks = false)
    (hpass : ∀ z ∈ c.exceptionTable.toList, covers z pc = false ∨ (z.catchType ≠ 0 ∧ ∃ nm : String, (Cond.classLink own z.catchType nm).before args s = true ∧ va_Nc E nm s)) (hcell : H[q]? = some ce) (hv : ce.vm = .none) (hcl : s.vm.findClass E = some ce.cls)
    (hx : ∀ t : State, t.heap = H → s.vm.Alike t.vm → XC E s t) (hf : ∀ z ∈ locs, free z.base) (hc : cells ≤ mc) (hs : slots ≤ ms) :
    vx_W p l e R s m args below meth c H locs cells slots (vx_MQ below Qc XC args s mc ms free) (F0 m pc ls rest) q := by
  intro T hT X
  have hpl : e.platform.magicAccessors = ({} : Platform).magicAccessors := by rw [X.admits.platform]
  obtain ⟨vm', hW', X', st⟩ := X.outThrough hlocks q (g := F0 m pc ls rest) rfl rfl rfl (cell := ce) (by rw [hT]; exact hcell) (by rw [hv]; rfl)
    (by obtain ⟨k9, h9, -⟩ := Vm.findClass_spec hcl; exact ⟨k9, h9⟩) (fun z hz => by
      rcases hpass z hz with h | ⟨hz0, nm, hl1, hn1⟩
      · exact Or.inl h
      · obtain ⟨c6, hc6, hcl6⟩ := Cond.classLink_spec hown hl1 e.platform hpl
        obtain ⟨a8, b8, h1, h2, h3⟩ := hn1
        cases Option.some.inj (h1.symm.trans hcl)
        cases Option.some.inj (h2.symm.trans hc6)
        exact Or.inr ⟨hz0, _, hcl6, h3⟩)
  obtain ⟨g₀, hfr⟩ := X'.frames_eq
  have hcell9 : ((T.setVm vm').setFrames (.throwing q :: below)).heap[q]? = some ce := by
    show T.heap[q]? = some ce
    rw [hT]; exact hcell
  have hend : Ended ((T.setVm vm').setFrames (.throwing q :: below)) below (.threw q) := State.frames_setFrames _ (State.cur_lt_of_frames hfr)
  refine ⟨(T.setVm vm').setFrames (.throwing q :: below), ?_, .threw q, X'.here.running, hend, Or.inr ⟨q, rfl, E, ce, locs, hx _ hT (X'.ends _).1.alike, hcell9, hv, hcl, (X'.ends _).1, (X'.ends _).2.mono hc hs, hf⟩⟩
  rw [X.pushThrowing_eq]
  exact st
/-- a thing of a world lies in the heap -/
theorem vx_lt {D : va_G} {cl : List vw_C} {ws : va_W} {H1 : Heap} (h : va_P D cl ws H1) {k : Nat} {q : Nat × va_E} (hk : ws[k]? = some q) : q.1 < H1.size := (h k q hk).lt
end VXS
/-! ===== END ===== -/
/-! ===== BEGIN methods with a table of their own: called by a name, returning or throwing ===== -/
section VXH
/-! vx_backW, vx_callVX, vx_callSX, vx_callVW, vx_runVW, vx_runVX, vx_runSX, vx_ofWH follow the same proofs as their sisters above (Free/Laws.lean, Shelf42/LK1.lean); vx_outP calls Shelf42/NT130.lean (outThrough). -/
section
variable {l : Launch} {R : Room} {p : Program} {e : Env} {below : List Frame} {s : State} {sargs : Array Value} {y : MethodName} {len W9 : Nat}
theorem vx_backW {ws : List Cond} {rm : Room} {Pc : Array Value → State → Prop} {Qc : Array Value → State → Outcome → State → Prop} {XC : String → State → State → Prop} {mc ms : Nat} {free : Addr → Prop} {bytes : ByteArray} {maxL : Nat} {ret : Option FieldType} {hh : List (Nat × Nat × Nat × Nat)}
    (hM : vx_Met l y ws rm Pc Qc XC mc ms free) (hblind : FrameBlind Pc) (hrc : rm.cells = mc) (hrs : rm.slots = ms)
    (hframes : rm.frames + 1 ≤ R.frames) (hlocals : W9 + (maxL + 11) + rm.locals ≤ R.locals)
    (hws : ∀ w ∈ ws, ∀ a' U, s.WarmedH U.vm → w.before a' U = true) (hcode : Cond.codeWith y bytes maxL ret hh ∈ ws) (hinit : ∀ a' U, s.WarmedH U.vm → (Cond.initialized y.cls).before a' U = true) :
    vx_Back l R p e below s sargs y len W9 (PreOf R mc ms Pc) (PostOf Qc mc ms free) (vx_Post XC mc ms free) := by
  intro m meth c A g ig mk a X hg hsize hdg hW hn hp
  have h1 : (headSpec ws rm).pre.before a A.U = true := atoms_intro fun w hw => hws w hw _ _ X.warmed
  have h2 : (Cond.codeWith y bytes maxL ret hh).before a A.U = true := hws _ hcode _ _ X.warmed
  have h3 : (Cond.initialized y.cls).before a A.U = true := hinit _ _ X.warmed
  have h4 : A.cells + (headSpec ws rm).room.cells ≤ R.cells := by rw [show (headSpec ws rm).room.cells = mc from hrc]; exact hp.1
  have h5 : A.slots + (headSpec ws rm).room.slots ≤ R.slots := by rw [show (headSpec ws rm).room.slots = ms from hrs]; exact hp.2.1
  have hPc : Pc a (A.U.calling g mk a) := hblind _ _ _ _ hp.2.2
  obtain ⟨U, Ls, c0, s0⟩ := A
  dsimp only [Pt.U, Pt.locs, Pt.cells, Pt.slots] at h1 h2 h3 h4 h5 X hn hPc ⊢
  obtain ⟨m9, methY, cY, hn9, hmY, hcY, -, hlY, -⟩ := Cond.codeWith_spec h2
  cases Option.some.inj (hn9.symm.trans hn)
  obtain ⟨kY, hkY, -⟩ := className_of_methodNamed hn
  have hinitY : kY.init = .initialized := Cond.initialized_spec (findClass_of_methodNamed hn) hkY h3
  have h : At U g.method c below := by rw [hg]; exact X.here
  have hlocals9 : W9 + (maxL + 11) + (headSpec ws rm).room.locals ≤ R.locals := hlocals
  have happ : (headSpec ws rm).appliesLoose y e.platform (U.calling g mk a) = true :=
    Spec.appliesLoose_calling (g := g) h hdg hn hkY hinitY
      (X.room_calling (g := g) (R' := (headSpec ws rm).room) hsize hmY hcY hframes (by rw [hlY]; omega) h4 h5) h1
  obtain ⟨mid, hmid⟩ := h.above
  have hfr : (U.setTop g).frames = (.java g :: mid) ++ below := by rw [State.frames_setTop' g h.top, hmid]; rfl
  obtain ⟨o, s₂, hsteps, -, hend, hq⟩ := Steps.callFree hM p X.admits X.cas X.clock (acts := []) hfr happ hPc trivial
  have hq' : vx_Q Qc XC mc ms free a (U.calling g mk a) o s₂ := hq
  rw [State.frames_setTop' g h.top] at hend
  obtain ⟨g₀, hg0⟩ := Option.isSome_iff_exists.mp h.top
  obtain ⟨r, hr⟩ := State.topJava?_eq_some.mp hg0
  have hr' : (({ U with heap := s₂.heap, slotsUsed := s₂.slotsUsed } : State).setVm s₂.vm).frames = .java g₀ :: r := hr
  rcases hq' with ⟨hqc, L, hfe, hL⟩ | ⟨q, rfl, E, ce, L, hx, hce, hcv, hcl, hW₂, hsm, hL⟩
  · obtain ⟨⟨v, rfl⟩, hW₂, e2, q2, q3, q4, q5, q6⟩ := id hfe
    have e3 : s₂ = ({ (U.calling g mk a).setFrames s₂.frames with heap := s₂.heap, slotsUsed := s₂.slotsUsed } : State).setVm s₂.vm := by
      have : s₂ = ({ s₂ with vm := (U.calling g mk a).vm } : State).setVm s₂.vm := rfl
      rw [e2] at this
      exact this
    obtain ⟨c₂, i₂, len₂, hc₂, hd₂, hf₂⟩ := hend
    have hW' : U.WarmedH s₂.vm := hW₂
    have hcc : c₂ = c := by
      have h1 : s₂.code? g.method = U.code? g.method := by
        rw [State.code?_eq, State.code?_eq, hW'.alike.method?]
      exact Option.some.inj (hc₂.symm.trans (h1.trans h.code))
    subst hcc
    have hlen : len₂ = len := by rw [hdg] at hd₂; cases hd₂; rfl
    subst hlen
    have hs₂ : s₂ = (({ U with heap := s₂.heap, slotsUsed := s₂.slotsUsed } : State).setVm s₂.vm).setTop { g with pc := g.pc + len₂, stack := v.toList ++ g.stack } := by
      refine e3.trans ?_
      rw [hf₂, State.calling_eq h.top, State.setFrames_setFrames, State.setTop_of_frames _ hr', hr]
      rfl
    have hsame : U.sameButNew ({ U with heap := s₂.heap, slotsUsed := s₂.slotsUsed } : State) L mc ms := by
      refine ⟨?_, q2, q3, q4, q5, q6⟩
      obtain ⟨t, ht, -⟩ := State.frames_cons hr
      show ({ U with heap := s₂.heap, slotsUsed := s₂.slotsUsed } : State) = { U.setFrames U.frames with heap := s₂.heap, slotsUsed := s₂.slotsUsed }
      rw [State.setFrames_self ht]
    subst hg
    refine Or.inl ⟨v, ⟨(({ U with heap := s₂.heap, slotsUsed := s₂.slotsUsed } : State).setVm s₂.vm), Ls ++ L, c0 + mc, s0 + ms⟩,
      ⟨X.admits, X.cas, X.clock, X.frames, X.room, X.hears, X.method, X.code, (X.here.setHeapUsed s₂.heap s₂.slotsUsed).setVm hW'.alike, X.tail, State.WarmedH.trans X.warmed hW', X.limits, X.bytes, X.same.trans (hsame.setVm s.vm)⟩,
      ⟨g, mk, s₂, L, rfl, rfl, hqc, rfl, hL, rfl, rfl⟩, ?_⟩
    show Steps p.tables e below _ ((({ U with heap := s₂.heap, slotsUsed := s₂.slotsUsed } : State).setVm s₂.vm).setTop { g with pc := g.pc + len₂, stack := v.toList ++ g.stack })
    rw [← hs₂]
    exact hsteps
  · obtain ⟨e2, q2, q3, q4, q5, q6⟩ := id hsm
    have e3 : s₂ = ({ (U.calling g mk a).setFrames s₂.frames with heap := s₂.heap, slotsUsed := s₂.slotsUsed } : State).setVm s₂.vm := by
      have : s₂ = ({ s₂ with vm := (U.calling g mk a).vm } : State).setVm s₂.vm := rfl
      rw [e2] at this
      exact this
    have hf₂ : s₂.frames = .throwing q :: .java g :: U.frames.tail := hend
    have hW' : U.WarmedH s₂.vm := hW₂
    have hs₂ : s₂ = ((({ U with heap := s₂.heap, slotsUsed := s₂.slotsUsed } : State).setVm s₂.vm).setTop g).pushFrame (.throwing q) := by
      refine e3.trans ?_
      rw [hf₂, State.calling_eq h.top, State.setFrames_setFrames, State.pushFrame, State.frames_setTop _ hr', State.setTop_of_frames _ hr', State.setFrames_setFrames, hr]
      rfl
    have hsame : U.sameButNew ({ U with heap := s₂.heap, slotsUsed := s₂.slotsUsed } : State) L mc ms := by
      refine ⟨?_, q2, q3, q4, q5, q6⟩
      obtain ⟨t, ht, -⟩ := State.frames_cons hr
      show ({ U with heap := s₂.heap, slotsUsed := s₂.slotsUsed } : State) = { U.setFrames U.frames with heap := s₂.heap, slotsUsed := s₂.slotsUsed }
      rw [State.setFrames_self ht]
    subst hg
    refine Or.inr ⟨q, ⟨(({ U with heap := s₂.heap, slotsUsed := s₂.slotsUsed } : State).setVm s₂.vm), Ls ++ L, c0 + mc, s0 + ms⟩,
      ⟨X.admits, X.cas, X.clock, X.frames, X.room, X.hears, X.method, X.code, (X.here.setHeapUsed s₂.heap s₂.slotsUsed).setVm hW'.alike, X.tail, State.WarmedH.trans X.warmed hW', X.limits, X.bytes, X.same.trans (hsame.setVm s.vm)⟩,
      ⟨g, mk, s₂, L, E, ce, rfl, rfl, hx, hce, hcv, hcl, rfl, hL, rfl, rfl⟩, ?_⟩
    show Steps p.tables e below _ (((({ U with heap := s₂.heap, slotsUsed := s₂.slotsUsed } : State).setVm s₂.vm).setTop g).pushFrame (.throwing q))
    rw [← hs₂]
    exact hsteps
end
variable {p : Program} {l : Launch} {e : Env} {R : Room} {s : State} {m : MethodId} {args : Array Value} {below : List Frame} {meth : Method} {c : Code} {T : State} {H : Heap} {locs : List Loc} {cells slots : Nat}
theorem vx_callVX (X : Stand p l e R s m args below meth c T locs cells slots) (hexec : p.tables.exec = Jvm.exec) {own C : String} {index : Nat} {y : MethodName} {bytes : ByteArray} {maxL : Nat} {ret : Option FieldType} {hh : List (Nat × Nat × Nat × Nat)}
    (hown : s.vm.findClass own = some m.cls) (hlink : (Cond.methodLink own index y).before args s = true) (hinst : (Cond.instanceMethod y).before args s = true) (hsel : (Cond.selects C y y).before args s = true)
    (hcode : (Cond.codeWith y bytes maxL ret hh).before args s = true) (hy : y.cls ≠ "java/lang/invoke/MethodHandle" ∧ y.cls ≠ "java/lang/invoke/VarHandle")
    {W9 : Nat} {Pre : Pt → Array Value → Prop} {Post : Pt → Array Value → Option Value → Pt → Prop} {PostX : Pt → Array Value → Addr → Pt → Prop} (hK : vx_Back l R p e below s args y 3 W9 Pre Post PostX)
    {b : Addr} {cellB : Cell} (hcell : T.heap[b]? = some cellB) (hobj : cellB.vm.isStatics = false) (hcls : s.vm.findClass C = some cellB.cls)
    {g : JFrame} (hg : g.method = m) (hsize : g.locals.size = c.maxLocals) {argsL rest : List Value} (hlen : ∀ sig, parseMethodDescriptor y.desc = some sig → argsL.length = sig.parameters.length)
    (hstack : g.stack = argsL.reverse ++ .ref b :: rest) (hW : 2 * g.monitorRoom + (rest.map fun v => v.category).sum ≤ W9) (hdg : decode c.code g.pc = .ok (.invokevirtual index, 3))
    (hpre : ∀ vm₁, s.WarmedH vm₁ → Pre ⟨T.setVm vm₁, locs, cells, slots⟩ (Value.ref b :: argsL).toArray) :
    (∃ (v : Option Value) (vm₁ : Vm) (B : Pt), s.WarmedH vm₁ ∧ Stand p l e R s m args below meth c B.U B.locs B.cells B.slots ∧ Post ⟨T.setVm vm₁, locs, cells, slots⟩ (Value.ref b :: argsL).toArray v B ∧
      ∀ target, Steps p.tables e below (B.U.setTop { g with pc := g.pc + 3, stack := v.toList ++ rest }) target → Steps p.tables e below (T.setTop g) target) ∨
    (∃ (q : Addr) (vm₁ : Vm) (B : Pt), s.WarmedH vm₁ ∧ Stand p l e R s m args below meth c B.U B.locs B.cells B.slots ∧ PostX ⟨T.setVm vm₁, locs, cells, slots⟩ (Value.ref b :: argsL).toArray q B ∧
      Steps p.tables e below (T.setTop g) ((B.U.setTop { g with stack := rest }).pushFrame (.throwing q))) := by
  obtain ⟨mk, methM, hnamed, hmethM, hstM, habM⟩ := Cond.instanceMethod_spec hinst
  obtain ⟨m8, methM', cM, hn8, hmethM', -, -, -, -, -, -, hsigM⟩ := Cond.codeWith_spec hcode
  cases Option.some.inj (hn8.symm.trans hnamed)
  cases hmethM.symm.trans hmethM'
  obtain ⟨c2, r2, m2, q1, q2, q3, q4, kP, hkP, hkPi⟩ := Cond.selects_spec hsel
  cases hcls.symm.trans q1
  cases (State.methodFound?_of_named hnamed hy).symm.trans q2
  cases hnamed.symm.trans q3
  have hselP : selectMethod e.platform s.vm cellB.cls mk = .method mk := by rw [Launch.admits_selectMethod X.admits]; exact q4
  obtain ⟨vm₁, X₁, hstep₁⟩ := X.invokevirtual hexec hown hlink hnamed hmethM hstM hkP hkPi hy (a := b) (cell := cellB) hcell
    (fun z h => by rw [h] at hobj; cases hobj) hselP hmethM habM hkP hkPi (g := g) hg (argsL := argsL) (rest := rest) (hlen _ hsigM) hstack hdg
  rcases hK m meth c ⟨T.setVm vm₁, locs, cells, slots⟩ { g with stack := rest } (.invokevirtual index) mk (Value.ref b :: argsL).toArray X₁ hg hsize hdg hW (X₁.named hnamed) (hpre vm₁ X₁.warmed) with ⟨v, B, X', hpost, hsteps⟩ | ⟨q, B, X', hpost, hsteps⟩
  · exact Or.inl ⟨v, vm₁, B, X₁.warmed, X', hpost, fun target h => hstep₁ _ fun acts => by rw [doInvoke_state]; exact hsteps.trans h⟩
  · exact Or.inr ⟨q, vm₁, B, X₁.warmed, X', hpost, hstep₁ _ fun acts => by rw [doInvoke_state]; exact hsteps⟩
theorem vx_callSX (X : Stand p l e R s m args below meth c T locs cells slots) (hexec : p.tables.exec = Jvm.exec) {own : String} {index : Nat} {y : MethodName} {bytes : ByteArray} {maxL : Nat} {ret : Option FieldType} {hh : List (Nat × Nat × Nat × Nat)}
    (hown : s.vm.findClass own = some m.cls) (hlink : (Cond.methodLink own index y).before args s = true) (hstat : (Cond.static y).before args s = true) (hinit : (Cond.initialized y.cls).before args s = true)
    (hcode : (Cond.codeWith y bytes maxL ret hh).before args s = true) (hy : y.cls ≠ "java/lang/invoke/MethodHandle" ∧ y.cls ≠ "java/lang/invoke/VarHandle")
    {W9 : Nat} {Pre : Pt → Array Value → Prop} {Post : Pt → Array Value → Option Value → Pt → Prop} {PostX : Pt → Array Value → Addr → Pt → Prop} (hK : vx_Back l R p e below s args y 3 W9 Pre Post PostX)
    {g : JFrame} (hg : g.method = m) (hsize : g.locals.size = c.maxLocals) {argsL rest : List Value} (hlen : ∀ sig, parseMethodDescriptor y.desc = some sig → argsL.length = sig.parameters.length)
    (hstack : g.stack = argsL.reverse ++ rest) (hW : 2 * g.monitorRoom + (rest.map fun v => v.category).sum ≤ W9) (hdg : decode c.code g.pc = .ok (.invokestatic index, 3))
    (hpre : ∀ vm₁, s.WarmedH vm₁ → Pre ⟨T.setVm vm₁, locs, cells, slots⟩ argsL.toArray) :
    (∃ (v : Option Value) (vm₁ : Vm) (B : Pt), s.WarmedH vm₁ ∧ Stand p l e R s m args below meth c B.U B.locs B.cells B.slots ∧ Post ⟨T.setVm vm₁, locs, cells, slots⟩ argsL.toArray v B ∧
      ∀ target, Steps p.tables e below (B.U.setTop { g with pc := g.pc + 3, stack := v.toList ++ rest }) target → Steps p.tables e below (T.setTop g) target) ∨
    (∃ (q : Addr) (vm₁ : Vm) (B : Pt), s.WarmedH vm₁ ∧ Stand p l e R s m args below meth c B.U B.locs B.cells B.slots ∧ PostX ⟨T.setVm vm₁, locs, cells, slots⟩ argsL.toArray q B ∧
      Steps p.tables e below (T.setTop g) ((B.U.setTop { g with stack := rest }).pushFrame (.throwing q))) := by
  obtain ⟨mk, methM, cM, hnamed, hmethM, -, -, -, -, -, -, hsigM⟩ := Cond.codeWith_spec hcode
  have hstatic : methM.isStatic = true := Cond.static_spec hnamed hmethM hstat
  obtain ⟨kP, hkP, -⟩ := className_of_methodNamed hnamed
  have hinitP : kP.init = .initialized := Cond.initialized_spec (findClass_of_methodNamed hnamed) hkP hinit
  obtain ⟨vm₁, X₁, hstep₁⟩ := X.invokestatic hexec hown hlink hnamed hmethM hstatic hkP hinitP hy (g := g) hg (argsL := argsL) (rest := rest) (hlen _ hsigM) hstack hdg
  rcases hK m meth c ⟨T.setVm vm₁, locs, cells, slots⟩ { g with stack := rest } (.invokestatic index) mk argsL.toArray X₁ hg hsize hdg hW (X₁.named hnamed) (hpre vm₁ X₁.warmed) with ⟨v, B, X', hpost, hsteps⟩ | ⟨q, B, X', hpost, hsteps⟩
  · exact Or.inl ⟨v, vm₁, B, X₁.warmed, X', hpost, fun target h => hstep₁ _ fun acts => by rw [doInvoke_state]; exact hsteps.trans h⟩
  · exact Or.inr ⟨q, vm₁, B, X₁.warmed, X', hpost, hstep₁ _ fun acts => by rw [doInvoke_state]; exact hsteps⟩
theorem vx_callVW (X : Stand p l e R s m args below meth c T locs cells slots) (hexec : p.tables.exec = Jvm.exec) {own C : String} {index : Nat} {y : MethodName} {bytes : ByteArray} {maxL : Nat} {ret : Option FieldType} {hh : List (Nat × Nat × Nat × Nat)}
    (hown : s.vm.findClass own = some m.cls) (hlink : (Cond.methodLink own index y).before args s = true) (hinst : (Cond.instanceMethod y).before args s = true) (hsel : (Cond.selects C y y).before args s = true)
    (hcode : (Cond.codeWith y bytes maxL ret hh).before args s = true) (hy : y.cls ≠ "java/lang/invoke/MethodHandle" ∧ y.cls ≠ "java/lang/invoke/VarHandle")
    {W9 : Nat} {Pre : Pt → Array Value → Prop} {Post : Pt → Array Value → Option Value → Pt → Prop} (hK : Back l R p e below s args y 3 W9 Pre Post)
    {b : Addr} {cellB : Cell} (hcell : T.heap[b]? = some cellB) (hobj : cellB.vm.isStatics = false) (hcls : s.vm.findClass C = some cellB.cls)
    {g : JFrame} (hg : g.method = m) (hsize : g.locals.size = c.maxLocals) {argsL rest : List Value} (hlen : ∀ sig, parseMethodDescriptor y.desc = some sig → argsL.length = sig.parameters.length)
    (hstack : g.stack = argsL.reverse ++ .ref b :: rest) (hW : 2 * g.monitorRoom + (rest.map fun v => v.category).sum ≤ W9) (hdg : decode c.code g.pc = .ok (.invokevirtual index, 3))
    (hpre : ∀ vm₁, s.WarmedH vm₁ → Pre ⟨T.setVm vm₁, locs, cells, slots⟩ (Value.ref b :: argsL).toArray) :
    ∃ (v : Option Value) (vm₁ : Vm) (B : Pt), s.WarmedH vm₁ ∧ Stand p l e R s m args below meth c B.U B.locs B.cells B.slots ∧ Post ⟨T.setVm vm₁, locs, cells, slots⟩ (Value.ref b :: argsL).toArray v B ∧
      ∀ target, Steps p.tables e below (B.U.setTop { g with pc := g.pc + 3, stack := v.toList ++ rest }) target → Steps p.tables e below (T.setTop g) target := by
  obtain ⟨mk, methM, hnamed, hmethM, hstM, habM⟩ := Cond.instanceMethod_spec hinst
  obtain ⟨m8, methM', cM, hn8, hmethM', -, -, -, -, -, -, hsigM⟩ := Cond.codeWith_spec hcode
  cases Option.some.inj (hn8.symm.trans hnamed)
  cases hmethM.symm.trans hmethM'
  obtain ⟨c2, r2, m2, q1, q2, q3, q4, kP, hkP, hkPi⟩ := Cond.selects_spec hsel
  cases hcls.symm.trans q1
  cases (State.methodFound?_of_named hnamed hy).symm.trans q2
  cases hnamed.symm.trans q3
  have hselP : selectMethod e.platform s.vm cellB.cls mk = .method mk := by rw [Launch.admits_selectMethod X.admits]; exact q4
  obtain ⟨vm₁, X₁, hstep₁⟩ := X.invokevirtual hexec hown hlink hnamed hmethM hstM hkP hkPi hy (a := b) (cell := cellB) hcell
    (fun z h => by rw [h] at hobj; cases hobj) hselP hmethM habM hkP hkPi (g := g) hg (argsL := argsL) (rest := rest) (hlen _ hsigM) hstack hdg
  obtain ⟨v, B, X', hpost, hsteps⟩ := hK m meth c ⟨T.setVm vm₁, locs, cells, slots⟩ { g with stack := rest } (.invokevirtual index) mk (Value.ref b :: argsL).toArray X₁ hg hsize hdg hW (X₁.named hnamed) (hpre vm₁ X₁.warmed)
  exact ⟨v, vm₁, B, X₁.warmed, X', hpost, fun target h => hstep₁ _ fun acts => by rw [doInvoke_state]; exact hsteps.trans h⟩
abbrev vx_CVW (R : Room) (s : State) (args : Array Value) (own C : String) (index : Nat) (y : MethodName) (bytes : ByteArray) (maxL : Nat) (ret : Option FieldType) (hh : List (Nat × Nat × Nat × Nat)) (ws : List Cond) (rm : Room) (mc ms n : Nat) : Prop :=
  (rm.cells = mc ∧ rm.slots = ms ∧ rm.frames + 1 ≤ R.frames ∧ 8 + (maxL + 11) + rm.locals ≤ R.locals ∧ (∀ w ∈ ws, ∀ (a' : Array Value) (U : State), s.WarmedH U.vm → w.before a' U = true) ∧ Cond.codeWith y bytes maxL ret hh ∈ ws) ∧
  (Cond.codeWith y bytes maxL ret hh).before args s = true ∧ (Cond.initialized y.cls).before args s = true ∧ (y.cls ≠ "java/lang/invoke/MethodHandle" ∧ y.cls ≠ "java/lang/invoke/VarHandle") ∧
  (∀ sig, parseMethodDescriptor y.desc = some sig → n = sig.parameters.length) ∧ (Cond.methodLink own index y).before args s = true ∧ (Cond.instanceMethod y).before args s = true ∧ (Cond.selects C y y).before args s = true
theorem vx_cwVW {own C : String} {index maxL mc ms : Nat} {y : MethodName} {bytes : ByteArray} {ret : Option FieldType} {hh : List (Nat × Nat × Nat × Nat)} {Ts ws ws' : List Cond} {rm : Room} (n : Nat) (ht : ∀ w ∈ Ts, w.before args s = true) (hT : GoodIn Ts (wsV own index C y ws)) (hw : ws = Cond.codeWith y bytes maxL ret hh :: ws') (hrc : rm.cells = mc) (hrs : rm.slots = ms)
    (hd : y.cls = C ∧ y.cls ≠ "java/lang/invoke/MethodHandle" ∧ y.cls ≠ "java/lang/invoke/VarHandle" ∧ (parseMethodDescriptor y.desc).map (fun d => d.parameters.length) = some n) (hR : rm.frames + 1 ≤ R.frames ∧ 8 + (maxL + 11) + rm.locals ≤ R.locals) :
    vx_CVW R s args own C index y bytes maxL ret hh ws rm mc ms n := by
  obtain ⟨hC, hd⟩ := hd
  subst hC
  have ok : ∀ w ∈ wsV own index y.cls y ws, w.before args s = true := fun w h => ht w (hT w h).1
  have hG : GoodIn Ts ws := fun w h => hT w (by unfold wsV; exact List.mem_append_right _ h)
  have hc : Cond.codeWith y bytes maxL ret hh ∈ ws := by rw [hw]; exact List.mem_cons_self
  refine ⟨⟨hrc, hrs, hR.1, hR.2, pay_in ht hG, hc⟩, ht _ (hG _ hc).1, ok _ (by simp [wsV]), ⟨hd.1, hd.2.1⟩, fun sig h => ?_, ok _ (by simp [wsV]), ok _ (by simp [wsV]), ok _ (by simp [wsV])⟩
  have h2 := hd.2.2
  rw [h] at h2
  exact (Option.some.inj h2).symm
theorem vx_runVW {y : MethodName} {bytes cc : ByteArray} {maxL nL mc ms n index : Nat} {ret : Option FieldType} {hh : List (Nat × Nat × Nat × Nat)} {ws : List Cond} {rm : Room} {Pc : Array Value → State → Prop} {Qc : Array Value → State → Outcome → State → Prop} {free : Addr → Prop} {Ts : List Cond} {own C : String} {b : Addr} {As rest : List Value} {g : JFrame}
    (S : CallFix p m c cc nL s args Ts own) (hM : Met l y ws rm Pc Qc mc ms free) (cw : vx_CVW R s args own C index y bytes maxL ret hh ws rm mc ms n) (hp : PreV s H C b Pc As)
    (hg : g.method = m) (hn : As.length = n) (hsize : g.locals.size = nL) (hstack : g.stack = As.reverse ++ .ref b :: rest) (hW : 2 * g.monitorRoom + (rest.map fun v => v.category).sum ≤ 8) (hdg : decode cc g.pc = .ok (.invokevirtual index, 3)) (hf : cells + mc ≤ R.cells ∧ slots + ms ≤ R.slots) :
    va_Run p l e R s m args below meth c H locs cells slots mc ms g rest (Qc (Value.ref b :: As).toArray) free := by
  obtain ⟨⟨hrc, hrs, hfr, hlo, hws, hcw⟩, hcode, hini, hy, hlen, hl, hin, hse⟩ := cw
  have hK : Back l R p e below s args y 3 8 (PreOf R mc ms Pc) (PostOf Qc mc ms free) := va_backW (hh := hh) (bytes := bytes) (maxL := maxL) (ret := ret) hM hp.1 hrc hrs hfr hlo hws hcw (fun a' U hW => word_at hW (Or.inl (by first | rfl | simp [Cond.onTables, Cond.keeps, Cond.steady])) hini)
  obtain ⟨hx, hb, hml, ho, -⟩ := S
  obtain ⟨-, ⟨cellB, hcB, hoB, hclB⟩, hPc⟩ := hp
  intro T hT X
  obtain ⟨v, vm₁, ⟨U', l2, c2, s2⟩, hW₁, X', ⟨g', mk, t, L, e1, e2, hq, h1, hL, h2, h3⟩, st⟩ := vx_callVW X hx (C := C) (hh := hh) (bytes := bytes) (maxL := maxL) (ret := ret) ho hl hin hse hcode hy hK (by rw [hT]; exact hcB) hoB hclB hg (hsize.trans hml.symm) (argsL := As) (rest := rest) (fun sig h => hn.trans (hlen sig h)) hstack hW (by rw [hb]; exact hdg)
    (fun vm₁ hW₁ => ⟨hf.1, hf.2, hPc (T.setVm vm₁) hT hW₁⟩)
  dsimp only [Pt.U, Pt.locs, Pt.cells, Pt.slots] at X' e1 e2 h1 h2 h3 st
  subst h1; subst h2; subst h3
  exact ⟨v, (T.setVm vm₁).calling g' mk (Value.ref b :: As).toArray, t, U', L, hT, X', hL, e1, e2, hq, st⟩
section
variable {y : MethodName} {bytes cc : ByteArray} {maxL nL mc ms n index : Nat} {ret : Option FieldType} {ws : List Cond} {rm : Room} {Pc : Array Value → State → Prop} {Qc : Array Value → State → Outcome → State → Prop} {XC : String → State → State → Prop} {free : Addr → Prop} {Ts : List Cond} {own C : String} {b : Addr} {As rest : List Value} {g : JFrame}
theorem vx_runVX {hh : List (Nat × Nat × Nat × Nat)} (S : CallFix p m c cc nL s args Ts own) (hM : vx_Met l y ws rm Pc Qc XC mc ms free) (cw : vx_CVW R s args own C index y bytes maxL ret hh ws rm mc ms n) (hp : PreV s H C b Pc As)
    (hg : g.method = m) (hn : As.length = n) (hsize : g.locals.size = nL) (hstack : g.stack = As.reverse ++ .ref b :: rest) (hW : 2 * g.monitorRoom + (rest.map fun v => v.category).sum ≤ 8) (hdg : decode cc g.pc = .ok (.invokevirtual index, 3)) (hf : cells + mc ≤ R.cells ∧ slots + ms ≤ R.slots) :
    vx_Run p l e R s m args below meth c H locs cells slots mc ms g rest (Qc (Value.ref b :: As).toArray) XC free := by
  obtain ⟨⟨hrc, hrs, hfr, hlo, hws, hcw⟩, hcode, hini, hy, hlen, hl, hin, hse⟩ := cw
  have hK : vx_Back l R p e below s args y 3 8 (PreOf R mc ms Pc) (PostOf Qc mc ms free) (vx_Post XC mc ms free) := vx_backW (hh := hh) (bytes := bytes) (maxL := maxL) (ret := ret) hM hp.1 hrc hrs hfr hlo hws hcw (fun a' U hW => word_at hW (Or.inl (by first | rfl | simp [Cond.onTables, Cond.keeps, Cond.steady])) hini)
  obtain ⟨hx, hb, hml, ho, -⟩ := S
  obtain ⟨-, ⟨cellB, hcB, hoB, hclB⟩, hPc⟩ := hp
  intro T hT X
  rcases vx_callVX X hx (C := C) (hh := hh) (bytes := bytes) (maxL := maxL) (ret := ret) ho hl hin hse hcode hy hK (by rw [hT]; exact hcB) hoB hclB hg (hsize.trans hml.symm) (argsL := As) (rest := rest) (fun sig h => hn.trans (hlen sig h)) hstack hW (by rw [hb]; exact hdg)
    (fun vm₁ hW₁ => ⟨hf.1, hf.2, hPc (T.setVm vm₁) hT hW₁⟩) with ⟨v, vm₁, ⟨U', l2, c2, s2⟩, hW₁, X', ⟨g', mk, t, L, e1, e2, hq, h1, hL, h2, h3⟩, st⟩ | ⟨q, vm₁, ⟨U', l2, c2, s2⟩, hW₁, X', ⟨g', mk, t, L, E, ce, e1, e2, hq, hce, hcv, hcl, h1, hL, h2, h3⟩, st⟩
  · dsimp only [Pt.U, Pt.locs, Pt.cells, Pt.slots] at X' e1 e2 h1 h2 h3 st
    subst h1; subst h2; subst h3
    exact Or.inl ⟨v, (T.setVm vm₁).calling g' mk (Value.ref b :: As).toArray, t, U', L, hT, X', hL, e1, e2, hq, st⟩
  · dsimp only [Pt.U, Pt.locs, Pt.cells, Pt.slots] at X' e1 e2 h1 h2 h3 st hcl
    subst h1; subst h2; subst h3
    exact Or.inr ⟨q, (T.setVm vm₁).calling g' mk (Value.ref b :: As).toArray, t, U', L, E, ce, hT, X', hL, e1, e2, hq, hce, hcv, vx_cls hW₁ hcl, st⟩
theorem vx_runSX {hh : List (Nat × Nat × Nat × Nat)} (S : CallFix p m c cc nL s args Ts own) (hM : vx_Met l y ws rm Pc Qc XC mc ms free) (cw : vx_CSW R s args own index y bytes maxL ret hh ws rm mc ms n) (hp : PreS s H Pc As)
    (hg : g.method = m) (hn : As.length = n) (hsize : g.locals.size = nL) (hstack : g.stack = As.reverse ++ rest) (hW : 2 * g.monitorRoom + (rest.map fun v => v.category).sum ≤ 8) (hdg : decode cc g.pc = .ok (.invokestatic index, 3)) (hf : cells + mc ≤ R.cells ∧ slots + ms ≤ R.slots) :
    vx_Run p l e R s m args below meth c H locs cells slots mc ms g rest (Qc As.toArray) XC free := by
  obtain ⟨⟨hrc, hrs, hfr, hlo, hws, hcw⟩, hcode, hini, hy, hlen, hl, hstt⟩ := cw
  have hK : vx_Back l R p e below s args y 3 8 (PreOf R mc ms Pc) (PostOf Qc mc ms free) (vx_Post XC mc ms free) := vx_backW (hh := hh) (bytes := bytes) (maxL := maxL) (ret := ret) hM hp.1 hrc hrs hfr hlo hws hcw (fun a' U hW => word_at hW (Or.inl (by first | rfl | simp [Cond.onTables, Cond.keeps, Cond.steady])) hini)
  obtain ⟨hx, hb, hml, ho, -⟩ := S
  intro T hT X
  rcases vx_callSX X hx (hh := hh) (bytes := bytes) (maxL := maxL) (ret := ret) ho hl hstt hini hcode hy hK hg (hsize.trans hml.symm) (argsL := As) (rest := rest) (fun sig h => hn.trans (hlen sig h)) hstack hW (by rw [hb]; exact hdg)
    (fun vm₁ hW₁ => ⟨hf.1, hf.2, hp.2 (T.setVm vm₁) hT hW₁⟩) with ⟨v, vm₁, ⟨U', l2, c2, s2⟩, hW₁, X', ⟨g', mk, t, L, e1, e2, hq, h1, hL, h2, h3⟩, st⟩ | ⟨q, vm₁, ⟨U', l2, c2, s2⟩, hW₁, X', ⟨g', mk, t, L, E, ce, e1, e2, hq, hce, hcv, hcl, h1, hL, h2, h3⟩, st⟩
  · dsimp only [Pt.U, Pt.locs, Pt.cells, Pt.slots] at X' e1 e2 h1 h2 h3 st
    subst h1; subst h2; subst h3
    exact Or.inl ⟨v, (T.setVm vm₁).calling g' mk As.toArray, t, U', L, hT, X', hL, e1, e2, hq, st⟩
  · dsimp only [Pt.U, Pt.locs, Pt.cells, Pt.slots] at X' e1 e2 h1 h2 h3 st hcl
    subst h1; subst h2; subst h3
    exact Or.inr ⟨q, (T.setVm vm₁).calling g' mk As.toArray, t, U', L, E, ce, hT, X', hL, e1, e2, hq, hce, hcv, vx_cls hW₁ hcl, st⟩
end
end VXH
theorem vx_ofWH {l : Launch} {y : MethodName} {ws ws' : List Cond} {rm : Room} {Pc : Array Value → State → Prop} {Qc : Array Value → State → Outcome → State → Prop} {XC : String → State → State → Prop} {mc ms : Nat} {free : Addr → Prop} {cc : ByteArray} {maxL : Nat} {ret : Option FieldType} {hh : List (Nat × Nat × Nat × Nat)}
    (hy : plainName y.cls = true) (hw : ws = Cond.codeWith y cc maxL ret hh :: ws')
    (body : ∀ p e s m args below meth c s₁, BodyLoose p l y (headSpec ws rm) cc maxL ret e s m args below meth c s₁ → c.maxLocals = maxL → Pc args s →
      W p l e (headSpec ws rm).room s m args below meth c s.heap [] 0 0 (vx_MQ below Qc XC args s mc ms free) (entryFrame m args maxL)) : vx_Met l y ws rm Pc Qc XC mc ms free := by
  refine MetFree.of_bodyS (code := cc) (maxLocals := maxL) (ret := ret) hy ?_ ?_
  · intro args s m h hn
    obtain ⟨m9, meth, c, hn9, h1, h2, h3, h4, -, h5, h6, -⟩ := Cond.codeWith_spec (atoms_spec (ws := ws) h _ (by rw [hw]; exact List.mem_cons_self))
    cases hn.symm.trans hn9
    exact ⟨meth, c, h1, h2, h3, h4, h5, h6⟩
  · intro p e s m args below meth c s₁ B hml hP _
    have hh0 : s₁.heap = s.heap := by rw [B.state]; rfl
    obtain ⟨t, a1, o, b1, b2, b3⟩ := body p e s m args below meth c s₁ B hml hP s₁ hh0 (Stand.of_body B)
    exact ⟨t, o, a1, b1, b2, b3⟩
/-! ===== END ===== -/
end
section
/-! CORE: memory as two tables of whole numbers (entity, place), the fixed shape of all objects, and predicate transformers of bytecode ('PT') that the machine keeps ('Snd'). -/
abbrev AV : Type := Int ⊕ (Int ⊕ Nat)
abbrev Mi : Type := Nat → Nat → Int
abbrev MM : Type := Mi × Mi
def jI (x : Int) : Int32 := Int32.ofInt x
def jL (x : Int) : Int64 := Int64.ofInt x
/-- an abstract value at the machine; entities lie one behind another from b0 on -/
def tv (b0 : Nat) (v : AV) : Value := match v with
  | .inl x => .int (jI x)
  | .inr (.inl x) => .long (jL x)
  | .inr (.inr e) => .ref (b0 + e)
abbrev R32 (x : Int) : Prop := -2147483648 ≤ x ∧ x < 2147483648
abbrev R64 (x : Int) : Prop := -9223372036854775808 ≤ x ∧ x < 9223372036854775808
theorem jI_add (x y : Int) : jI x + jI y = jI (x + y) := (Int32.ofInt_add x y).symm
theorem jI_sub (x y : Int) : jI x - jI y = jI (x - y) := (Int32.ofInt_sub x y).symm
theorem jI_mul (x y : Int) : jI x * jI y = jI (x * y) := (Int32.ofInt_mul x y).symm
theorem jI_neg (x : Int) : - jI x = jI (-x) := (Int32.ofInt_neg x).symm
theorem jL_add (x y : Int) : jL x + jL y = jL (x + y) := (Int64.ofInt_add x y).symm
theorem jL_sub (x y : Int) : jL x - jL y = jL (x - y) := (Int64.ofInt_sub x y).symm
theorem jL_mul (x y : Int) : jL x * jL y = jL (x * y) := (Int64.ofInt_mul x y).symm
theorem jI_toInt {x : Int} (h : R32 x) : (jI x).toInt = x := Int32.toInt_ofInt_of_le h.1 h.2
theorem jL_toInt {x : Int} (h : R64 x) : (jL x).toInt = x := Int64.toInt_ofInt_of_le h.1 h.2
theorem jI_lt {x y : Int} (hx : R32 x) (hy : R32 y) : jI x < jI y ↔ x < y := by rw [Int32.lt_iff_toInt_lt, jI_toInt hx, jI_toInt hy]
theorem jI_le {x y : Int} (hx : R32 x) (hy : R32 y) : jI x ≤ jI y ↔ x ≤ y := by rw [Int32.le_iff_toInt_le, jI_toInt hx, jI_toInt hy]
theorem jI_eq {x y : Int} (hx : R32 x) (hy : R32 y) : jI x = jI y ↔ x = y := by rw [← Int32.toInt_inj, jI_toInt hx, jI_toInt hy]
theorem jL_lt {x y : Int} (hx : R64 x) (hy : R64 y) : jL x < jL y ↔ x < y := by rw [Int64.lt_iff_toInt_lt, jL_toInt hx, jL_toInt hy]
theorem jL_le {x y : Int} (hx : R64 x) (hy : R64 y) : jL x ≤ jL y ↔ x ≤ y := by rw [Int64.le_iff_toInt_le, jL_toInt hx, jL_toInt hy]
theorem jL_eq {x y : Int} (hx : R64 x) (hy : R64 y) : jL x = jL y ↔ x = y := by rw [← Int64.toInt_inj, jL_toInt hx, jL_toInt hy]
theorem jI_cl {x : Int} (h : R32 x) : (jI x).toNatClampNeg = x.toNat := Int32.toNatClampNeg_ofInt_of_le h.1 h.2
theorem jI_0 : jI 0 = 0 := rfl
theorem R32_0 : R32 0 := ⟨by decide, by decide⟩
theorem jI_wide {x : Int} (h : R32 x) : (jI x).toInt64 = jL x := Int32.toInt64_ofInt h.1 (by have := h.2; show x ≤ 2147483647; omega)
theorem jL_nar (x : Int) : (jL x).toInt32 = jI x := Int64.toInt32_ofInt
theorem jI_in {x : Int} {n : Nat} (h0 : 0 ≤ x) (h1 : x < n) (hn : n < 2147483648) : vp_in (jI x) n := by
  have hr : R32 x := ⟨by omega, by omega⟩
  rintro (h | h)
  · rw [← jI_0, jI_lt hr R32_0] at h; omega
  · rw [jI_cl hr] at h; omega
theorem jI_bool {x : Int} (h : x = 0 ∨ x = 1) : narrow .boolean (.int (jI x)) = .int (jI x) ∧ fits .boolean (.int (jI x)) = true := by
  rcases h with rfl | rfl <;> exact ⟨rfl, rfl⟩
/-- the kinds of the 356 entities, in the order in which they are made: 0 History, 1 Ledger, 2 Port, 3 Promises, 4 Report, 5 Script, 6 Switch, 7 SwitchReader, 8 Text, 9 CellLoans, 10 CellLoansModel, 11 int[], 12 long[], 13 Port[], 14 Switch[] -/
def kdSw : List Nat := [6, 13, 3, 11, 11, 11, 11, 1, 11, 11, 11, 11, 11, 2, 11, 11, 11, 2, 11, 11, 11, 2, 11, 11, 11, 2, 11, 11, 11, 2, 11, 11, 11, 2, 11, 11, 11]
def lnSw : List Nat := [0, 6, 0, 240, 240, 240, 240, 0, 20, 20, 20, 20, 4, 0, 240, 240, 240, 0, 240, 240, 240, 0, 240, 240, 240, 0, 240, 240, 240, 0, 240, 240, 240, 0, 240, 240, 240]
def kdL : List Nat := [9, 8, 11, 7, 5, 11, 11, 11, 11, 11, 11] ++ (kdSw ++ (kdSw ++ (kdSw ++ ([0, 14] ++ (kdSw ++ (kdSw ++ (kdSw ++ (kdSw ++ (kdSw ++ (kdSw ++ [4, 11, 10, 11, 12, 11, 11, 11, 11, 12]))))))))))
def lnL : List Nat := [0, 0, 600, 0, 0, 40, 40, 40, 40, 2, 2] ++ (lnSw ++ (lnSw ++ (lnSw ++ ([0, 6] ++ (lnSw ++ (lnSw ++ (lnSw ++ (lnSw ++ (lnSw ++ (lnSw ++ [0, 2742, 0, 20800, 60, 600, 4, 4, 3500, 1]))))))))))
def kd (e : Nat) : Nat := kdL.getD e 99
def ln (e : Nat) : Nat := lnL.getD e 0
abbrev isK (e ci : Nat) : Prop := e < 356 ∧ kd e = ci
/-- fields: 0 int, 1 long, 2 reference, 3 boolean -/
def fkL : List (List Nat) := [[2, 0, 0], [2, 2, 2, 2, 2, 0], [1, 0, 0, 0, 0, 0, 0, 0, 0, 0, 0, 0, 2, 2, 2], [2, 2, 2, 2, 0], [2, 0], [2, 2, 2, 2, 0, 0, 2, 2, 0], [2, 0, 0, 0, 0, 0, 2, 2], [3, 3], [2, 0, 0, 0, 0, 0, 0, 1, 0], [2, 2, 2, 2, 2, 2, 3, 2, 2], [0, 2, 2, 0, 2, 0, 0, 0, 0, 0, 0, 0, 1, 3, 3, 0, 3, 3, 0, 0, 0, 2, 2, 2, 0, 3]]
/-- how far behind its object the entity of a reference lies -/
def roL : List (List Nat) := [[1, 0, 0], [1, 2, 3, 4, 5, 0], [0, 0, 0, 0, 0, 0, 0, 0, 0, 0, 0, 0, 1, 2, 3], [1, 2, 3, 4, 0], [1, 0], [1, 2, 3, 4, 0, 0, 5, 6, 0], [1, 0, 0, 0, 0, 0, 2, 7], [0, 0], [1, 0, 0, 0, 0, 0, 0, 0, 0], [1, 3, 4, 11, 48, 85, 0, 122, 346], [0, 1, 2, 0, 3, 0, 0, 0, 0, 0, 0, 0, 0, 0, 0, 0, 0, 0, 0, 0, 0, 4, 5, 6, 0, 0]]

def nfL : List Nat := [3, 6, 15, 5, 2, 9, 8, 2, 9, 9, 26]
def fk (ci k : Nat) : Nat := (fkL.getD ci []).getD k 99
def ro (ci k : Nat) : Nat := (roL.getD ci []).getD k 0
def nf (ci : Nat) : Nat := nfL.getD ci 0
/-- the references, once all is made -/
def RS (e k : Nat) : Option Nat := if kd e = 13 then (if k < 6 then some (e + 12 + 4 * k) else none) else if kd e = 14 then (if k < 6 then some (e + 1 + 37 * k) else none) else if fk (kd e) k = 2 then some (e + ro (kd e) k) else none
def fv (I J : Mi) (b0 e k : Nat) : Value := if fk (kd e) k = 2 then va_rf ((RS e k).map (b0 + ·)) else if fk (kd e) k = 1 then .long (jL (J e k)) else .int (jI (I e k))
/-- what an entity holds -/
def en (cA : Nat → ClassId) (I J : Mi) (b0 e : Nat) : va_E :=
  if kd e < 11 then .inr (kd e, (List.range (nf (kd e))).map (fv I J b0 e))
  else .inl (cA (kd e), (ln e, if kd e = 11 then .inl (fun j => jI (I e j)) else if kd e = 12 then .inr (.inl (fun j => jL (J e j))) else .inr (.inr (.inr (.inr (fun j => (RS e j).map (b0 + ·)))))))
def PW (cA : Nat → ClassId) (I J : Mi) (b0 : Nat) : va_W := (List.range 356).map (fun e => (b0 + e, en cA I J b0 e))
def uM (I : Mi) (e k : Nat) (v : Int) : Mi := fun e' k' => if e' = e ∧ k' = k then v else I e' k'
theorem uM_s {I : Mi} {e k : Nat} {v : Int} : uM I e k v e k = v := if_pos ⟨rfl, rfl⟩
theorem uM_e {I : Mi} {e k e' k' : Nat} {v : Int} (h : e' ≠ e) : uM I e k v e' k' = I e' k' := if_neg (fun q => h q.1)
theorem uM_k {I : Mi} {e k e' k' : Nat} {v : Int} (h : k' ≠ k) : uM I e k v e' k' = I e' k' := if_neg (fun q => h q.2)
theorem uM_r {I : Mi} {e k e' : Nat} {v : Int} (h : e' ≠ e) : uM I e k v e' = I e' := funext fun _ => uM_e h
def tysA (cA : Nat → ClassId) : List (ClassId × FieldType) := [(cA 11, .int), (cA 12, .long), (cA 13, .object "CellLoans$Port"), (cA 14, .object "CellLoans$Switch")]
/-- the words of the tables that hold at every call -/
def AW : List Cond := lw_tbl.filter goodWord
theorem AW_good : GoodIn AW AW := fun w h => ⟨h, good_of_word (List.mem_filter.mp h).2⟩
theorem AW_in {w : Cond} (h : w ∈ lw_tbl) (hg : goodWord w = true) : w ∈ AW := List.mem_filter.mpr ⟨h, hg⟩
abbrev AWm (y : MethodName) (cc : ByteArray) (maxL : Nat) (ret : Option FieldType) : List Cond := Cond.code y cc maxL ret :: AW
theorem AWm_good {y : MethodName} {cc : ByteArray} {maxL : Nat} {ret : Option FieldType} (h : Cond.code y cc maxL ret ∈ lw_tbl) : GoodIn AW (AWm y cc maxL ret) := by
  have hm : Cond.code y cc maxL ret ∈ AW := AW_in h rfl
  intro w hw
  rcases List.mem_cons.mp hw with rfl | hw
  · exact AW_good _ hm
  · exact AW_good w hw
theorem PW_at {cA : Nat → ClassId} {I J : Mi} {b0 e : Nat} (h : e < 356) : (PW cA I J b0)[e]? = some (b0 + e, en cA I J b0 e) := by
  unfold PW
  rw [List.getElem?_map, List.getElem?_range h]
  rfl
theorem en_ob {cA : Nat → ClassId} {I J : Mi} {b0 e ci : Nat} (h : kd e = ci) (hc : ci < 11) : en cA I J b0 e = .inr (ci, (List.range (nf ci)).map (fv I J b0 e)) := by
  unfold en
  rw [h, if_pos hc]
theorem PW_ob {cA : Nat → ClassId} {I J : Mi} {b0 e ci : Nat} (h : isK e ci) (hc : ci < 11) : (PW cA I J b0)[e]? = some (b0 + e, .inr (ci, (List.range (nf ci)).map (fv I J b0 e))) := by
  rw [PW_at h.1, en_ob h.2 hc]
theorem fv_at {I J : Mi} {b0 e n k : Nat} (h : k < n) : ((List.range n).map (fv I J b0 e))[k]? = some (fv I J b0 e k) := by
  rw [List.getElem?_map, List.getElem?_range h]
  rfl
theorem fv_i {I J : Mi} {b0 e ci k : Nat} (h : kd e = ci) (hf : fk ci k = 0 ∨ fk ci k = 3) : fv I J b0 e k = .int (jI (I e k)) := by
  unfold fv
  rw [h, if_neg (by omega), if_neg (by omega)]
theorem fv_l {I J : Mi} {b0 e ci k : Nat} (h : kd e = ci) (hf : fk ci k = 1) : fv I J b0 e k = .long (jL (J e k)) := by
  unfold fv
  rw [h, if_neg (by omega), if_pos hf]
theorem fv_r {I J : Mi} {b0 e ci k : Nat} (h : kd e = ci) (hc : ci < 11) (hf : fk ci k = 2) : fv I J b0 e k = .ref (b0 + (e + ro ci k)) := by
  unfold fv RS
  rw [h, if_pos hf, if_neg (by omega), if_neg (by omega), if_pos hf]
  rfl
/-- other entities don't see it; the entity sees it in one place -/
theorem en_other {cA : Nat → ClassId} {I J I' J' : Mi} {b0 e : Nat} (h1 : I' e = I e) (h2 : J' e = J e) : en cA I' J' b0 e = en cA I J b0 e := by
  have hf : fv I' J' b0 e = fv I J b0 e := by
    funext k
    unfold fv
    rw [h1, h2]
  unfold en
  rw [hf, h1, h2]
theorem PW_set {cA : Nat → ClassId} {I J I' J' : Mi} {b0 e : Nat} {x : va_E} (he : e < 356) (h1 : ∀ e', e' ≠ e → I' e' = I e') (h2 : ∀ e', e' ≠ e → J' e' = J e') (hx : x = en cA I' J' b0 e) : (PW cA I J b0).set e (b0 + e, x) = PW cA I' J' b0 := by
  apply List.ext_getElem?
  intro i
  rw [List.getElem?_set]
  have hlen : (PW cA I J b0).length = 356 := by unfold PW; rw [List.length_map, List.length_range]
  by_cases hi : e = i
  · subst hi
    rw [if_pos rfl, if_pos (by rw [hlen]; exact he), PW_at he, hx]
  · rw [if_neg hi]
    by_cases hl : i < 356
    · rw [PW_at hl, PW_at hl, en_other (h1 i (fun q => hi q.symm)) (h2 i (fun q => hi q.symm))]
    · have e1 : (PW cA I J b0)[i]? = none := List.getElem?_eq_none (by rw [hlen]; omega)
      have e2 : (PW cA I' J' b0)[i]? = none := List.getElem?_eq_none (by unfold PW; rw [List.length_map, List.length_range]; omega)
      rw [e1, e2]
theorem map_set {α : Type} {f g : Nat → α} {n k : Nat} {v : α} (hk : k < n) (h1 : g k = v) (h2 : ∀ j, j ≠ k → g j = f j) : ((List.range n).map f).set k v = (List.range n).map g := by
  apply List.ext_getElem?
  intro i
  rw [List.getElem?_set, List.length_map, List.length_range, List.getElem?_map, List.getElem?_map]
  by_cases hi : k = i
  · subst hi
    rw [if_pos rfl, if_pos hk, List.getElem?_range hk, ← h1]
    rfl
  · rw [if_neg hi]
    by_cases hl : i < n
    · rw [List.getElem?_range hl]
      show some (f i) = some (g i)
      rw [h2 i (fun q => hi q.symm)]
    · rw [List.getElem?_eq_none (by rw [List.length_range]; omega)]
      rfl
theorem PW_putI {cA : Nat → ClassId} {I J : Mi} {b0 e ci k : Nat} {v : Int} (h : isK e ci) (hc : ci < 11) (hk : k < nf ci) (hf : fk ci k = 0 ∨ fk ci k = 3) : (PW cA I J b0).set e (b0 + e, .inr (ci, ((List.range (nf ci)).map (fv I J b0 e)).set k (.int (jI v)))) = PW cA (uM I e k v) J b0 := by
  refine PW_set h.1 (fun e' h' => uM_r h') (fun _ _ => rfl) ?_
  rw [en_ob h.2 hc]
  rw [map_set hk (g := fv (uM I e k v) J b0 e) ?_ ?_]
  · rw [fv_i h.2 hf, uM_s]
  · intro j hj
    unfold fv
    rw [uM_k hj]
theorem PW_putL {cA : Nat → ClassId} {I J : Mi} {b0 e ci k : Nat} {v : Int} (h : isK e ci) (hc : ci < 11) (hk : k < nf ci) (hf : fk ci k = 1) : (PW cA I J b0).set e (b0 + e, .inr (ci, ((List.range (nf ci)).map (fv I J b0 e)).set k (.long (jL v)))) = PW cA I (uM J e k v) b0 := by
  refine PW_set h.1 (fun _ _ => rfl) (fun e' h' => uM_r h') ?_
  rw [en_ob h.2 hc]
  rw [map_set hk (g := fv I (uM J e k v) b0 e) ?_ ?_]
  · rw [fv_l h.2 hf, uM_s]
  · intro j hj
    unfold fv
    rw [uM_k hj]
theorem PW_ai {cA : Nat → ClassId} {I J : Mi} {b0 e : Nat} (h : isK e 11) : (PW cA I J b0)[e]? = some (b0 + e, .inl (cA 11, ln e, .inl (fun j => jI (I e j)))) := by
  rw [PW_at h.1]
  unfold en
  rw [h.2, if_neg (by omega), if_pos rfl]
theorem PW_al {cA : Nat → ClassId} {I J : Mi} {b0 e : Nat} (h : isK e 12) : (PW cA I J b0)[e]? = some (b0 + e, .inl (cA 12, ln e, .inr (.inl (fun j => jL (J e j))))) := by
  rw [PW_at h.1]
  unfold en
  rw [h.2, if_neg (by omega), if_neg (by omega), if_pos rfl]
theorem PW_ar {cA : Nat → ClassId} {I J : Mi} {b0 e kk : Nat} (h : isK e kk) (hk : kk = 13 ∨ kk = 14) : (PW cA I J b0)[e]? = some (b0 + e, .inl (cA kk, ln e, .inr (.inr (.inr (.inr (fun j => (RS e j).map (b0 + ·))))))) := by
  rw [PW_at h.1]
  unfold en
  rcases hk with rfl | rfl <;> rw [h.2, if_neg (by omega), if_neg (by omega), if_neg (by omega)]
theorem PW_stI {cA : Nat → ClassId} {I J : Mi} {b0 e j : Nat} {v : Int} (h : isK e 11) : (PW cA I J b0).set e (b0 + e, .inl (cA 11, ln e, .inl (upd (fun j => jI (I e j)) j (jI v)))) = PW cA (uM I e j v) J b0 := by
  refine PW_set h.1 (fun e' h' => uM_r h') (fun _ _ => rfl) ?_
  unfold en
  rw [h.2, if_neg (by omega), if_pos rfl]
  congr 4
  funext i
  unfold upd
  by_cases hi : i = j
  · subst hi; rw [if_pos rfl, uM_s]
  · rw [if_neg hi, uM_k hi]
theorem PW_stL {cA : Nat → ClassId} {I J : Mi} {b0 e j : Nat} {v : Int} (h : isK e 12) : (PW cA I J b0).set e (b0 + e, .inl (cA 12, ln e, .inr (.inl (vp_updL (fun j => jL (J e j)) j (jL v))))) = PW cA I (uM J e j v) b0 := by
  refine PW_set h.1 (fun _ _ => rfl) (fun e' h' => uM_r h') ?_
  unfold en
  rw [h.2, if_neg (by omega), if_neg (by omega), if_pos rfl]
  congr 5
  funext i
  unfold vp_updL
  by_cases hi : i = j
  · subst hi; rw [if_pos rfl, uM_s]
  · rw [if_neg hi, uM_k hi]
theorem PW_D {cA : Nat → ClassId} {I J : Mi} {b0 : Nat} : va_D (fun q => b0 ≤ q) (PW cA I J b0) := by
  have key : ∀ (i : Nat) (p : Nat × va_E), (PW cA I J b0)[i]? = some p → p.1 = b0 + i := by
    intro i p hp
    unfold PW at hp
    rw [List.getElem?_map] at hp
    by_cases hl : i < 356
    · rw [List.getElem?_range hl] at hp
      cases hp
      rfl
    · rw [List.getElem?_eq_none (by rw [List.length_range]; omega)] at hp
      cases hp
  refine ⟨fun i j p q hp hq h => ?_, fun k q hq => ?_⟩
  · have h1 := key i p hp
    have h2 := key j q hq
    omega
  · have h1 := key k q hq
    show b0 ≤ q.1
    omega
/-! the world of a call: the pool from b0 on, and what lies below it as Hs has it -/
def Wo (cA : Nat → ClassId) (D : va_G) (b0 : Nat) (Hs : Heap) (μ : MM) (H : Heap) : Prop := b0 + 356 ≤ H.size ∧ va_P D vwCl (PW cA μ.1 μ.2 b0) H ∧ ∀ q, q < b0 → H[q]? = Hs[q]?
/-- the locals: known ones are held -/
def LH (b0 nL : Nat) (ls : Array Slot) (L : List (Option AV)) : Prop := ls.size = nL ∧ lv_wf ls ∧ ∀ (i : Nat) (v : AV), L[i]? = some (some v) → ls[i]? = some (.val (tv b0 v))
def clr (L : List (Option AV)) (i : Nat) : List (Option AV) := match i with
  | 0 => L
  | j + 1 => match L[j]? with
    | some (some (.inr (.inl _))) => L.set j none
    | _ => L
def stI (L : List (Option AV)) (i : Nat) (v : AV) : List (Option AV) := (clr L i).set i (some v)
def stL (L : List (Option AV)) (i : Nat) (v : AV) : List (Option AV) := ((clr L i).set (i + 1) none).set i (some v)
def lvs (b0 : Nat) (L : List (Option AV)) : List (Nat × Value) := (List.range L.length).filterMap (fun i => match L[i]? with
  | some (some v) => some (i, tv b0 v)
  | _ => none)
theorem lvs_in {b0 : Nat} {L : List (Option AV)} {i : Nat} {v : AV} (h : L[i]? = some (some v)) : (i, tv b0 v) ∈ lvs b0 L := by
  unfold lvs
  refine List.mem_filterMap.mpr ⟨i, List.mem_range.mpr (List.getElem?_eq_some_iff.mp h).1, ?_⟩
  rw [h]
theorem lvs_of {b0 : Nat} {L : List (Option AV)} {q : Nat × Value} (h : q ∈ lvs b0 L) : ∃ v, L[q.1]? = some (some v) ∧ q.2 = tv b0 v := by
  unfold lvs at h
  obtain ⟨i, -, hi⟩ := List.mem_filterMap.mp h
  split at hi
  · rename_i v hv
    cases hi
    exact ⟨v, hv, rfl⟩
  · cases hi
theorem LH_has {b0 nL : Nat} {ls : Array Slot} {L : List (Option AV)} (h : LH b0 nL ls L) : lv_has ls nL (lvs b0 L) := ⟨h.1, h.2.1, fun q hq => by
  obtain ⟨v, h1, h2⟩ := lvs_of hq
  rw [h2]
  exact h.2.2 _ _ h1⟩
theorem clr_get {L : List (Option AV)} {i j : Nat} {v : AV} (h : (clr L i)[j]? = some (some v)) : L[j]? = some (some v) ∧ ¬ (j + 1 = i ∧ ∃ x, v = .inr (.inl x)) := by
  unfold clr at h
  cases i with
  | zero => exact ⟨h, fun q => by omega⟩
  | succ i =>
    dsimp only at h
    split at h
    · rename_i x hx
      rw [List.getElem?_set] at h
      by_cases hj : i = j
      · subst hj
        rw [if_pos rfl] at h
        split at h <;> cases h
      · rw [if_neg hj] at h
        exact ⟨h, fun q => hj (by omega)⟩
    · rename_i hx
      refine ⟨h, ?_⟩
      rintro ⟨q, x, rfl⟩
      have : j = i := by omega
      subst this
      exact hx x h
theorem tv_cat {b0 : Nat} {v : AV} (h : (tv b0 v).category = 2) : ∃ x, v = .inr (.inl x) := by
  rcases v with x | x | x
  · cases h
  · exact ⟨x, rfl⟩
  · cases h
theorem LH_st {b0 nL : Nat} {ls' : Array Slot} {L : List (Option AV)} {i : Nat} {v : AV}
    (h : lv_has ls' nL ((i, tv b0 v) :: (lvs b0 L).filter (fun q => !(q.1 == i) && !(q.1 + 1 == i && q.2.category == 2)))) : LH b0 nL ls' (stI L i v) := by
  refine ⟨h.1, h.2.1, fun j w hj => ?_⟩
  unfold stI at hj
  rw [List.getElem?_set] at hj
  by_cases hi : i = j
  · subst hi
    rw [if_pos rfl] at hj
    split at hj
    · cases hj
      exact h.2.2 _ List.mem_cons_self
    · cases hj
  · rw [if_neg hi] at hj
    obtain ⟨h1, h2⟩ := clr_get hj
    refine h.2.2 (j, tv b0 w) (List.mem_cons_of_mem _ (List.mem_filter.mpr ⟨lvs_in h1, ?_⟩))
    have c1 : (j == i) = false := beq_eq_false_iff_ne.mpr (fun q => hi q.symm)
    show (!(j == i) && !(j + 1 == i && (tv b0 w).category == 2)) = true
    rw [c1]
    by_cases c2 : j + 1 = i
    · by_cases c3 : (tv b0 w).category = 2
      · exact absurd ⟨c2, tv_cat c3⟩ h2
      · simp [c3]
    · simp [c2]
theorem LH_st2 {b0 nL : Nat} {ls' : Array Slot} {L : List (Option AV)} {i : Nat} {v : AV}
    (h : lv_has ls' nL ((i, tv b0 v) :: (lvs b0 L).filter (fun q => !(q.1 == i) && (!(q.1 == i + 1) && !(q.1 + 1 == i && q.2.category == 2))))) : LH b0 nL ls' (stL L i v) := by
  refine ⟨h.1, h.2.1, fun j w hj => ?_⟩
  unfold stL at hj
  rw [List.getElem?_set] at hj
  by_cases hi : i = j
  · subst hi
    rw [if_pos rfl] at hj
    split at hj
    · cases hj
      exact h.2.2 _ List.mem_cons_self
    · cases hj
  · rw [if_neg hi, List.getElem?_set] at hj
    by_cases hi2 : i + 1 = j
    · rw [if_pos hi2] at hj
      split at hj <;> cases hj
    · rw [if_neg hi2] at hj
      obtain ⟨h1, h2⟩ := clr_get hj
      refine h.2.2 (j, tv b0 w) (List.mem_cons_of_mem _ (List.mem_filter.mpr ⟨lvs_in h1, ?_⟩))
      have c1 : (j == i) = false := beq_eq_false_iff_ne.mpr (fun q => hi q.symm)
      have c0 : (j == i + 1) = false := beq_eq_false_iff_ne.mpr (fun q => hi2 q.symm)
      show (!(j == i) && (!(j == i + 1) && !(j + 1 == i && (tv b0 w).category == 2))) = true
      rw [c1, c0]
      by_cases c2 : j + 1 = i
      · by_cases c3 : (tv b0 w).category = 2
        · exact absurd ⟨c2, tv_cat c3⟩ h2
        · simp [c3]
      · simp [c2]
/-- some locals are forgotten -/
def kil (L : List (Option AV)) (ks : List Nat) : List (Option AV) := ks.foldl (fun l k => l.set k none) L
theorem LH_kil {b0 nL : Nat} {ls : Array Slot} {L : List (Option AV)} (h : LH b0 nL ls L) (ks : List Nat) : LH b0 nL ls (kil L ks) := by
  induction ks generalizing L with
  | nil => exact h
  | cons k ks ih =>
    refine ih ⟨h.1, h.2.1, fun i v hv => ?_⟩
    rw [List.getElem?_set] at hv
    by_cases hk : k = i
    · rw [if_pos hk] at hv
      split at hv <;> cases hv
    · rw [if_neg hk] at hv
      exact h.2.2 i v hv
end
section
/-! OPS: a predicate transformer an instruction (o_..), and that the machine keeps it (s_..) -/
abbrev PT : Type := List (Option AV) → List AV → MM → Prop
abbrev Kap : Type := Program × Launch × Env × Room × State × MethodId × Array Value × List Frame × Method × Code × Nat × Nat × (State → Prop) × (Nat → ClassId) × va_G × Nat × Heap
/-- where B holds of locals, stack and memory, the machine, at pc, comes to its end -/
def Snd (κ : Kap) (pc : Nat) (B : PT) : Prop := match κ with
  | (p, l, e, R, s, m, args, below, meth, c, cells, slots, Q, cA, D, b0, Hs) => ∀ (L : List (Option AV)) (st : List AV) (μ : MM) (H : Heap) (locs : List Loc) (ls : Array Slot), B L st μ → LH b0 c.maxLocals ls L → Wo cA D b0 Hs μ H → va_S (fun q => b0 ≤ q) s.heap H locs → W p l e R s m args below meth c H locs cells slots Q (F0 m pc ls (st.map (tv b0)))
/-- what holds all along a method's body -/
def Amb (κ : Kap) (own : String) (cc : ByteArray) (nL lev : Nat) : Prop := match κ with
  | (p, _, _, R, s, m, args, _, meth, c, cells, slots, _, cA, D, b0, _) => p.tables.exec = Jvm.exec ∧ c.code = cc ∧ c.maxLocals = nL ∧ s.vm.findClass own = some m.cls ∧ (∀ w ∈ AW, w.before args s = true) ∧ meth.locks = false ∧ va_K D vwCl (tysA cA) s ∧ b0 ≤ s.heap.size ∧ R.frames = lev ∧ R.locals = 40 * lev ∧ cells ≤ R.cells ∧ slots ≤ R.slots

def o_ci (v : Int) (k : PT) : PT := fun L st μ => k L (.inl v :: st) μ
def o_cl (v : Int) (k : PT) : PT := fun L st μ => k L (.inr (.inl v) :: st) μ
theorem s_iconst {κ : Kap} {own : String} {cc : ByteArray} {nL lev : Nat} (h : Amb κ own cc nL lev) {pc : Nat} {n : Int} {k : PT} (d : decode cc pc = .ok (.iconst n, 1)) (hk : Snd κ (pc + 1) k) : Snd κ pc (o_ci n k) := by
  obtain ⟨p, l, e, R, s, m, args, below, meth, c, cells, slots, Q, cA, D, b0, Hs⟩ := κ
  obtain ⟨hx, hb, hml, hown, hts, hlk, hK, hb0, hfr, hlo, hc1, hs1⟩ := h
  intro L st μ H locs ls hB hL hW hS
  exact lv_iconst (v := jI n) hx hb d rfl (hk L _ μ H locs ls hB hL hW hS)
theorem bip_ok {n : Int} (h : -128 ≤ n ∧ n < 128) : (Int8.ofInt n).toInt32 = jI n := by
  rw [← Int32.ofInt_int8ToInt, Int8.toInt_ofInt_of_le h.1 h.2]
  rfl
theorem sip_ok {n : Int} (h : -32768 ≤ n ∧ n < 32768) : (Int16.ofInt n).toInt32 = jI n := by
  rw [← Int32.ofInt_int16ToInt, Int16.toInt_ofInt_of_le h.1 h.2]
  rfl
theorem s_bipush {κ : Kap} {own : String} {cc : ByteArray} {nL lev : Nat} (h : Amb κ own cc nL lev) {pc : Nat} {n : Int} {k : PT} (d : decode cc pc = .ok (.bipush n, 2)) (hn : -128 ≤ n ∧ n < 128) (hk : Snd κ (pc + 2) k) : Snd κ pc (o_ci n k) := by
  obtain ⟨p, l, e, R, s, m, args, below, meth, c, cells, slots, Q, cA, D, b0, Hs⟩ := κ
  obtain ⟨hx, hb, hml, hown, hts, hlk, hK, hb0, hfr, hlo, hc1, hs1⟩ := h
  intro L st μ H locs ls hB hL hW hS
  exact lv_bipush (v := jI n) hx hb d (bip_ok hn) (hk L _ μ H locs ls hB hL hW hS)
theorem s_sipush {κ : Kap} {own : String} {cc : ByteArray} {nL lev : Nat} (h : Amb κ own cc nL lev) {pc : Nat} {n : Int} {k : PT} (d : decode cc pc = .ok (.sipush n, 3)) (hn : -32768 ≤ n ∧ n < 32768) (hk : Snd κ (pc + 3) k) : Snd κ pc (o_ci n k) := by
  obtain ⟨p, l, e, R, s, m, args, below, meth, c, cells, slots, Q, cA, D, b0, Hs⟩ := κ
  obtain ⟨hx, hb, hml, hown, hts, hlk, hK, hb0, hfr, hlo, hc1, hs1⟩ := h
  intro L st μ H locs ls hB hL hW hS
  exact lv_sipush (v := jI n) hx hb d (sip_ok hn) (hk L _ μ H locs ls hB hL hW hS)
theorem s_lconst {κ : Kap} {own : String} {cc : ByteArray} {nL lev : Nat} (h : Amb κ own cc nL lev) {pc : Nat} {n : Fin 2} {v : Int} {k : PT} (d : decode cc pc = .ok (.lconst n, 1)) (hv : Int64.ofNat (n : Nat) = jL v) (hk : Snd κ (pc + 1) k) : Snd κ pc (o_cl v k) := by
  obtain ⟨p, l, e, R, s, m, args, below, meth, c, cells, slots, Q, cA, D, b0, Hs⟩ := κ
  obtain ⟨hx, hb, hml, hown, hts, hlk, hK, hb0, hfr, hlo, hc1, hs1⟩ := h
  intro L st μ H locs ls hB hL hW hS
  exact lv_lconst (v := jL v) hx hb d hv (hk L _ μ H locs ls hB hL hW hS)
theorem s_ldc2 {κ : Kap} {own : String} {cc : ByteArray} {nL lev : Nat} (h : Amb κ own cc nL lev) {pc : Nat} {ix : Nat} {v : Int} {z : Int64} {k : PT} (d : decode cc pc = .ok (.ldc2_w ix, 3)) (hw : Cond.constantLong own ix z ∈ AW) (hv : z = jL v) (hk : Snd κ (pc + 3) k) : Snd κ pc (o_cl v k) := by
  obtain ⟨p, l, e, R, s, m, args, below, meth, c, cells, slots, Q, cA, D, b0, Hs⟩ := κ
  obtain ⟨hx, hb, hml, hown, hts, hlk, hK, hb0, hfr, hlo, hc1, hs1⟩ := h
  intro L st μ H locs ls hB hL hW hS
  subst hv
  exact lv_ldc2 hx hb hown (hts _ hw) d (hk L _ μ H locs ls hB hL hW hS)
def o_iload (i : Nat) (k : PT) : PT := fun L st μ => match L[i]? with
  | some (some (.inl x)) => k L (.inl x :: st) μ
  | _ => False
theorem s_iload_n {κ : Kap} {own : String} {cc : ByteArray} {nL lev : Nat} (h : Amb κ own cc nL lev) {pc : Nat} {i : Nat} {kk : Fin 4} {k : PT} (d : decode cc pc = .ok (.iload_n kk, 1)) (hi : (kk : Nat) = i) (hk : Snd κ (pc + 1) k) : Snd κ pc (o_iload i k) := by
  obtain ⟨p, l, e, R, s, m, args, below, meth, c, cells, slots, Q, cA, D, b0, Hs⟩ := κ
  obtain ⟨hx, hb, hml, hown, hts, hlk, hK, hb0, hfr, hlo, hc1, hs1⟩ := h
  intro L st μ H locs ls hB hL hW hS
  unfold o_iload at hB
  split at hB
  · rename_i x hx1
    exact lv_iload_n hx hb d hi (hL.2.2 i _ hx1) (hk L _ μ H locs ls hB hL hW hS)
  · exact hB.elim
theorem s_iload {κ : Kap} {own : String} {cc : ByteArray} {nL lev : Nat} (h : Amb κ own cc nL lev) {pc : Nat} {i : Nat} {k : PT} (d : decode cc pc = .ok (.iload i, 2)) (hk : Snd κ (pc + 2) k) : Snd κ pc (o_iload i k) := by
  obtain ⟨p, l, e, R, s, m, args, below, meth, c, cells, slots, Q, cA, D, b0, Hs⟩ := κ
  obtain ⟨hx, hb, hml, hown, hts, hlk, hK, hb0, hfr, hlo, hc1, hs1⟩ := h
  intro L st μ H locs ls hB hL hW hS
  unfold o_iload at hB
  split at hB
  · rename_i x hx1
    exact lv_iload hx hb d (hL.2.2 i _ hx1) (hk L _ μ H locs ls hB hL hW hS)
  · exact hB.elim
def o_lload (i : Nat) (k : PT) : PT := fun L st μ => match L[i]? with
  | some (some (.inr (.inl x))) => k L (.inr (.inl x) :: st) μ
  | _ => False
theorem s_lload_n {κ : Kap} {own : String} {cc : ByteArray} {nL lev : Nat} (h : Amb κ own cc nL lev) {pc : Nat} {i : Nat} {kk : Fin 4} {k : PT} (d : decode cc pc = .ok (.lload_n kk, 1)) (hi : (kk : Nat) = i) (hk : Snd κ (pc + 1) k) : Snd κ pc (o_lload i k) := by
  obtain ⟨p, l, e, R, s, m, args, below, meth, c, cells, slots, Q, cA, D, b0, Hs⟩ := κ
  obtain ⟨hx, hb, hml, hown, hts, hlk, hK, hb0, hfr, hlo, hc1, hs1⟩ := h
  intro L st μ H locs ls hB hL hW hS
  unfold o_lload at hB
  split at hB
  · rename_i x hx1
    exact lv_lload_n hx hb d hi (hL.2.2 i _ hx1) (hk L _ μ H locs ls hB hL hW hS)
  · exact hB.elim
theorem s_lload {κ : Kap} {own : String} {cc : ByteArray} {nL lev : Nat} (h : Amb κ own cc nL lev) {pc : Nat} {i : Nat} {k : PT} (d : decode cc pc = .ok (.lload i, 2)) (hk : Snd κ (pc + 2) k) : Snd κ pc (o_lload i k) := by
  obtain ⟨p, l, e, R, s, m, args, below, meth, c, cells, slots, Q, cA, D, b0, Hs⟩ := κ
  obtain ⟨hx, hb, hml, hown, hts, hlk, hK, hb0, hfr, hlo, hc1, hs1⟩ := h
  intro L st μ H locs ls hB hL hW hS
  unfold o_lload at hB
  split at hB
  · rename_i x hx1
    exact lv_lload hx hb d (hL.2.2 i _ hx1) (hk L _ μ H locs ls hB hL hW hS)
  · exact hB.elim
def o_aload (i : Nat) (k : PT) : PT := fun L st μ => match L[i]? with
  | some (some (.inr (.inr x))) => k L (.inr (.inr x) :: st) μ
  | _ => False
theorem s_aload_n {κ : Kap} {own : String} {cc : ByteArray} {nL lev : Nat} (h : Amb κ own cc nL lev) {pc : Nat} {i : Nat} {kk : Fin 4} {k : PT} (d : decode cc pc = .ok (.aload_n kk, 1)) (hi : (kk : Nat) = i) (hk : Snd κ (pc + 1) k) : Snd κ pc (o_aload i k) := by
  obtain ⟨p, l, e, R, s, m, args, below, meth, c, cells, slots, Q, cA, D, b0, Hs⟩ := κ
  obtain ⟨hx, hb, hml, hown, hts, hlk, hK, hb0, hfr, hlo, hc1, hs1⟩ := h
  intro L st μ H locs ls hB hL hW hS
  unfold o_aload at hB
  split at hB
  · rename_i x hx1
    exact lv_aload_n hx hb d hi (hL.2.2 i _ hx1) (hk L _ μ H locs ls hB hL hW hS)
  · exact hB.elim
theorem s_aload {κ : Kap} {own : String} {cc : ByteArray} {nL lev : Nat} (h : Amb κ own cc nL lev) {pc : Nat} {i : Nat} {k : PT} (d : decode cc pc = .ok (.aload i, 2)) (hk : Snd κ (pc + 2) k) : Snd κ pc (o_aload i k) := by
  obtain ⟨p, l, e, R, s, m, args, below, meth, c, cells, slots, Q, cA, D, b0, Hs⟩ := κ
  obtain ⟨hx, hb, hml, hown, hts, hlk, hK, hb0, hfr, hlo, hc1, hs1⟩ := h
  intro L st μ H locs ls hB hL hW hS
  unfold o_aload at hB
  split at hB
  · rename_i x hx1
    exact lv_aload hx hb d (hL.2.2 i _ hx1) (hk L _ μ H locs ls hB hL hW hS)
  · exact hB.elim
def o_istore (i : Nat) (k : PT) : PT := fun L st μ => match st with
  | .inl x :: r => k (stI L i (.inl x)) r μ
  | _ => False
theorem s_istore_n {κ : Kap} {own : String} {cc : ByteArray} {nL lev : Nat} (h : Amb κ own cc nL lev) {pc : Nat} {i : Nat} {kk : Fin 4} {k : PT} (d : decode cc pc = .ok (.istore_n kk, 1)) (hi : (kk : Nat) = i) (hn : i < nL) (hk : Snd κ (pc + 1) k) : Snd κ pc (o_istore i k) := by
  obtain ⟨p, l, e, R, s, m, args, below, meth, c, cells, slots, Q, cA, D, b0, Hs⟩ := κ
  obtain ⟨hx, hb, hml, hown, hts, hlk, hK, hb0, hfr, hlo, hc1, hs1⟩ := h
  intro L st μ H locs ls hB hL hW hS
  unfold o_istore at hB
  split at hB
  · rename_i x r
    exact lv_istore_n hx hb d hi (LH_has hL) (by rw [hml]; exact hn) rfl (fun ls' hl' => hk _ r μ H locs ls' hB (LH_st (v := .inl x) hl') hW hS)
  · exact hB.elim
theorem s_istore {κ : Kap} {own : String} {cc : ByteArray} {nL lev : Nat} (h : Amb κ own cc nL lev) {pc : Nat} {i : Nat} {k : PT} (d : decode cc pc = .ok (.istore i, 2)) (hn : i < nL) (hk : Snd κ (pc + 2) k) : Snd κ pc (o_istore i k) := by
  obtain ⟨p, l, e, R, s, m, args, below, meth, c, cells, slots, Q, cA, D, b0, Hs⟩ := κ
  obtain ⟨hx, hb, hml, hown, hts, hlk, hK, hb0, hfr, hlo, hc1, hs1⟩ := h
  intro L st μ H locs ls hB hL hW hS
  unfold o_istore at hB
  split at hB
  · rename_i x r
    exact lv_istore hx hb d (LH_has hL) (by rw [hml]; exact hn) rfl (fun ls' hl' => hk _ r μ H locs ls' hB (LH_st (v := .inl x) hl') hW hS)
  · exact hB.elim
def o_astore (i : Nat) (k : PT) : PT := fun L st μ => match st with
  | .inr (.inr x) :: r => k (stI L i (.inr (.inr x))) r μ
  | _ => False
theorem s_astore_n {κ : Kap} {own : String} {cc : ByteArray} {nL lev : Nat} (h : Amb κ own cc nL lev) {pc : Nat} {i : Nat} {kk : Fin 4} {k : PT} (d : decode cc pc = .ok (.astore_n kk, 1)) (hi : (kk : Nat) = i) (hn : i < nL) (hk : Snd κ (pc + 1) k) : Snd κ pc (o_astore i k) := by
  obtain ⟨p, l, e, R, s, m, args, below, meth, c, cells, slots, Q, cA, D, b0, Hs⟩ := κ
  obtain ⟨hx, hb, hml, hown, hts, hlk, hK, hb0, hfr, hlo, hc1, hs1⟩ := h
  intro L st μ H locs ls hB hL hW hS
  unfold o_astore at hB
  split at hB
  · rename_i x r
    exact lv_astore_n hx hb d hi (LH_has hL) (by rw [hml]; exact hn) rfl (fun ls' hl' => hk _ r μ H locs ls' hB (LH_st (v := .inr (.inr x)) hl') hW hS)
  · exact hB.elim
theorem s_astore {κ : Kap} {own : String} {cc : ByteArray} {nL lev : Nat} (h : Amb κ own cc nL lev) {pc : Nat} {i : Nat} {k : PT} (d : decode cc pc = .ok (.astore i, 2)) (hn : i < nL) (hk : Snd κ (pc + 2) k) : Snd κ pc (o_astore i k) := by
  obtain ⟨p, l, e, R, s, m, args, below, meth, c, cells, slots, Q, cA, D, b0, Hs⟩ := κ
  obtain ⟨hx, hb, hml, hown, hts, hlk, hK, hb0, hfr, hlo, hc1, hs1⟩ := h
  intro L st μ H locs ls hB hL hW hS
  unfold o_astore at hB
  split at hB
  · rename_i x r
    exact lv_astore hx hb d (LH_has hL) (by rw [hml]; exact hn) rfl (fun ls' hl' => hk _ r μ H locs ls' hB (LH_st (v := .inr (.inr x)) hl') hW hS)
  · exact hB.elim
def o_lstore (i : Nat) (k : PT) : PT := fun L st μ => match st with
  | .inr (.inl x) :: r => k (stL L i (.inr (.inl x))) r μ
  | _ => False
theorem s_lstore_n {κ : Kap} {own : String} {cc : ByteArray} {nL lev : Nat} (h : Amb κ own cc nL lev) {pc : Nat} {i : Nat} {kk : Fin 4} {k : PT} (d : decode cc pc = .ok (.lstore_n kk, 1)) (hi : (kk : Nat) = i) (hn : i + 1 < nL) (hk : Snd κ (pc + 1) k) : Snd κ pc (o_lstore i k) := by
  obtain ⟨p, l, e, R, s, m, args, below, meth, c, cells, slots, Q, cA, D, b0, Hs⟩ := κ
  obtain ⟨hx, hb, hml, hown, hts, hlk, hK, hb0, hfr, hlo, hc1, hs1⟩ := h
  intro L st μ H locs ls hB hL hW hS
  unfold o_lstore at hB
  split at hB
  · rename_i x r
    exact lv_lstore_n hx hb d hi (LH_has hL) (by rw [hml]; exact hn) rfl (fun ls' hl' => hk _ r μ H locs ls' hB (LH_st2 (v := .inr (.inl x)) hl') hW hS)
  · exact hB.elim
theorem s_lstore {κ : Kap} {own : String} {cc : ByteArray} {nL lev : Nat} (h : Amb κ own cc nL lev) {pc : Nat} {i : Nat} {k : PT} (d : decode cc pc = .ok (.lstore i, 2)) (hn : i + 1 < nL) (hk : Snd κ (pc + 2) k) : Snd κ pc (o_lstore i k) := by
  obtain ⟨p, l, e, R, s, m, args, below, meth, c, cells, slots, Q, cA, D, b0, Hs⟩ := κ
  obtain ⟨hx, hb, hml, hown, hts, hlk, hK, hb0, hfr, hlo, hc1, hs1⟩ := h
  intro L st μ H locs ls hB hL hW hS
  unfold o_lstore at hB
  split at hB
  · rename_i x r
    exact lv_lstore hx hb d (LH_has hL) (by rw [hml]; exact hn) rfl (fun ls' hl' => hk _ r μ H locs ls' hB (LH_st2 (v := .inr (.inl x)) hl') hW hS)
  · exact hB.elim
def o_iinc (i : Nat) (n : Int) (k : PT) : PT := fun L st μ => match L[i]? with
  | some (some (.inl x)) => k (stI L i (.inl (x + n))) st μ
  | _ => False
theorem s_iinc {κ : Kap} {own : String} {cc : ByteArray} {nL lev : Nat} (h : Amb κ own cc nL lev) {pc : Nat} {i : Nat} {n : Int} {k : PT} (d : decode cc pc = .ok (.iinc i n, 3)) (hn : i < nL) (hk : Snd κ (pc + 3) k) : Snd κ pc (o_iinc i n k) := by
  obtain ⟨p, l, e, R, s, m, args, below, meth, c, cells, slots, Q, cA, D, b0, Hs⟩ := κ
  obtain ⟨hx, hb, hml, hown, hts, hlk, hK, hb0, hfr, hlo, hc1, hs1⟩ := h
  intro L st μ H locs ls hB hL hW hS
  unfold o_iinc at hB
  split at hB
  · rename_i x hx1
    obtain ⟨q, hq⟩ := List.getElem?_of_mem (lvs_in (b0 := b0) hx1)
    exact lv_iinc (v := jI (x + n)) hx hb d (LH_has hL) hq (jI_add x n) (by rw [hml]; exact hn) rfl (fun ls' hl' => hk _ st μ H locs ls' hB (LH_st (v := .inl (x + n)) hl') hW hS)
  · exact hB.elim
def o_kil (ks : List Nat) (k : PT) : PT := fun L st μ => k (kil L ks) st μ
theorem s_kil {κ : Kap} {own : String} {cc : ByteArray} {nL lev : Nat} (h : Amb κ own cc nL lev) {pc : Nat} {ks : List Nat} {k : PT} (hk : Snd κ pc k) : Snd κ pc (o_kil ks k) := by
  obtain ⟨p, l, e, R, s, m, args, below, meth, c, cells, slots, Q, cA, D, b0, Hs⟩ := κ
  obtain ⟨hx, hb, hml, hown, hts, hlk, hK, hb0, hfr, hlo, hc1, hs1⟩ := h
  intro L st μ H locs ls hB hL hW hS
  exact hk _ _ μ H locs ls hB (LH_kil hL ks) hW hS
def o_iadd (k : PT) : PT := fun L st μ => match st with
  | .inl y :: .inl x :: r => k L (.inl (x + y) :: r) μ
  | _ => False
theorem s_iadd {κ : Kap} {own : String} {cc : ByteArray} {nL lev : Nat} (h : Amb κ own cc nL lev) {pc : Nat} {k : PT} (d : decode cc pc = .ok (.iadd, 1)) (hk : Snd κ (pc + 1) k) : Snd κ pc (o_iadd k) := by
  obtain ⟨p, l, e, R, s, m, args, below, meth, c, cells, slots, Q, cA, D, b0, Hs⟩ := κ
  obtain ⟨hx, hb, hml, hown, hts, hlk, hK, hb0, hfr, hlo, hc1, hs1⟩ := h
  intro L st μ H locs ls hB hL hW hS
  unfold o_iadd at hB
  split at hB
  · rename_i y x r
    refine lv_iadd (x := jI x) (y := jI y) (rest := r.map (tv b0)) hx hb d ?_
    rw [jI_add]
    exact hk L _ μ H locs ls hB hL hW hS
  · exact hB.elim
def o_isub (k : PT) : PT := fun L st μ => match st with
  | .inl y :: .inl x :: r => k L (.inl (x - y) :: r) μ
  | _ => False
theorem s_isub {κ : Kap} {own : String} {cc : ByteArray} {nL lev : Nat} (h : Amb κ own cc nL lev) {pc : Nat} {k : PT} (d : decode cc pc = .ok (.isub, 1)) (hk : Snd κ (pc + 1) k) : Snd κ pc (o_isub k) := by
  obtain ⟨p, l, e, R, s, m, args, below, meth, c, cells, slots, Q, cA, D, b0, Hs⟩ := κ
  obtain ⟨hx, hb, hml, hown, hts, hlk, hK, hb0, hfr, hlo, hc1, hs1⟩ := h
  intro L st μ H locs ls hB hL hW hS
  unfold o_isub at hB
  split at hB
  · rename_i y x r
    refine lv_isub (x := jI x) (y := jI y) (rest := r.map (tv b0)) hx hb d ?_
    rw [jI_sub]
    exact hk L _ μ H locs ls hB hL hW hS
  · exact hB.elim
def o_imul (k : PT) : PT := fun L st μ => match st with
  | .inl y :: .inl x :: r => k L (.inl (x * y) :: r) μ
  | _ => False
theorem s_imul {κ : Kap} {own : String} {cc : ByteArray} {nL lev : Nat} (h : Amb κ own cc nL lev) {pc : Nat} {k : PT} (d : decode cc pc = .ok (.imul, 1)) (hk : Snd κ (pc + 1) k) : Snd κ pc (o_imul k) := by
  obtain ⟨p, l, e, R, s, m, args, below, meth, c, cells, slots, Q, cA, D, b0, Hs⟩ := κ
  obtain ⟨hx, hb, hml, hown, hts, hlk, hK, hb0, hfr, hlo, hc1, hs1⟩ := h
  intro L st μ H locs ls hB hL hW hS
  unfold o_imul at hB
  split at hB
  · rename_i y x r
    refine lv_imul (x := jI x) (y := jI y) (rest := r.map (tv b0)) hx hb d ?_
    rw [jI_mul]
    exact hk L _ μ H locs ls hB hL hW hS
  · exact hB.elim
def o_ladd (k : PT) : PT := fun L st μ => match st with
  | .inr (.inl y) :: .inr (.inl x) :: r => k L (.inr (.inl (x + y)) :: r) μ
  | _ => False
theorem s_ladd {κ : Kap} {own : String} {cc : ByteArray} {nL lev : Nat} (h : Amb κ own cc nL lev) {pc : Nat} {k : PT} (d : decode cc pc = .ok (.ladd, 1)) (hk : Snd κ (pc + 1) k) : Snd κ pc (o_ladd k) := by
  obtain ⟨p, l, e, R, s, m, args, below, meth, c, cells, slots, Q, cA, D, b0, Hs⟩ := κ
  obtain ⟨hx, hb, hml, hown, hts, hlk, hK, hb0, hfr, hlo, hc1, hs1⟩ := h
  intro L st μ H locs ls hB hL hW hS
  unfold o_ladd at hB
  split at hB
  · rename_i y x r
    refine lv_ladd (x := jL x) (y := jL y) (rest := r.map (tv b0)) hx hb d ?_
    rw [jL_add]
    exact hk L _ μ H locs ls hB hL hW hS
  · exact hB.elim
def o_lsub (k : PT) : PT := fun L st μ => match st with
  | .inr (.inl y) :: .inr (.inl x) :: r => k L (.inr (.inl (x - y)) :: r) μ
  | _ => False
theorem s_lsub {κ : Kap} {own : String} {cc : ByteArray} {nL lev : Nat} (h : Amb κ own cc nL lev) {pc : Nat} {k : PT} (d : decode cc pc = .ok (.lsub, 1)) (hk : Snd κ (pc + 1) k) : Snd κ pc (o_lsub k) := by
  obtain ⟨p, l, e, R, s, m, args, below, meth, c, cells, slots, Q, cA, D, b0, Hs⟩ := κ
  obtain ⟨hx, hb, hml, hown, hts, hlk, hK, hb0, hfr, hlo, hc1, hs1⟩ := h
  intro L st μ H locs ls hB hL hW hS
  unfold o_lsub at hB
  split at hB
  · rename_i y x r
    refine lv_lsub (x := jL x) (y := jL y) (rest := r.map (tv b0)) hx hb d ?_
    rw [jL_sub]
    exact hk L _ μ H locs ls hB hL hW hS
  · exact hB.elim
def o_lmul (k : PT) : PT := fun L st μ => match st with
  | .inr (.inl y) :: .inr (.inl x) :: r => k L (.inr (.inl (x * y)) :: r) μ
  | _ => False
theorem s_lmul {κ : Kap} {own : String} {cc : ByteArray} {nL lev : Nat} (h : Amb κ own cc nL lev) {pc : Nat} {k : PT} (d : decode cc pc = .ok (.lmul, 1)) (hk : Snd κ (pc + 1) k) : Snd κ pc (o_lmul k) := by
  obtain ⟨p, l, e, R, s, m, args, below, meth, c, cells, slots, Q, cA, D, b0, Hs⟩ := κ
  obtain ⟨hx, hb, hml, hown, hts, hlk, hK, hb0, hfr, hlo, hc1, hs1⟩ := h
  intro L st μ H locs ls hB hL hW hS
  unfold o_lmul at hB
  split at hB
  · rename_i y x r
    refine lv_lmul (x := jL x) (y := jL y) (rest := r.map (tv b0)) hx hb d ?_
    rw [jL_mul]
    exact hk L _ μ H locs ls hB hL hW hS
  · exact hB.elim
def o_ineg (k : PT) : PT := fun L st μ => match st with
  | .inl x :: r => k L (.inl (-x) :: r) μ
  | _ => False
theorem s_ineg {κ : Kap} {own : String} {cc : ByteArray} {nL lev : Nat} (h : Amb κ own cc nL lev) {pc : Nat} {k : PT} (d : decode cc pc = .ok (.ineg, 1)) (hk : Snd κ (pc + 1) k) : Snd κ pc (o_ineg k) := by
  obtain ⟨p, l, e, R, s, m, args, below, meth, c, cells, slots, Q, cA, D, b0, Hs⟩ := κ
  obtain ⟨hx, hb, hml, hown, hts, hlk, hK, hb0, hfr, hlo, hc1, hs1⟩ := h
  intro L st μ H locs ls hB hL hW hS
  unfold o_ineg at hB
  split at hB
  · rename_i x r
    refine lv_ineg (x := jI x) (rest := r.map (tv b0)) hx hb d ?_
    rw [jI_neg]
    exact hk L _ μ H locs ls hB hL hW hS
  · exact hB.elim
theorem jI_div {x y : Int} (hx : R32 x) (hy : R32 y) : jI x / jI y = jI (x.tdiv y) := (Int32.ofInt_tdiv hx.1 (by have := hx.2; show x ≤ 2147483647; omega) hy.1 (by have := hy.2; show y ≤ 2147483647; omega)).symm
theorem jL_div {x y : Int} (hx : R64 x) (hy : R64 y) : jL x / jL y = jL (x.tdiv y) := (Int64.ofInt_tdiv hx.1 (by have := hx.2; show x ≤ 9223372036854775807; omega) hy.1 (by have := hy.2; show y ≤ 9223372036854775807; omega)).symm
theorem jI_ne0 {y : Int} (hy : R32 y) (h0 : y ≠ 0) : ¬ jI y = 0 := fun q => h0 ((jI_eq hy R32_0).mp q)
theorem jL_ne0 {y : Int} (hy : R64 y) (h0 : y ≠ 0) : ¬ jL y = 0 := fun q => h0 ((jL_eq hy ⟨by decide, by decide⟩).mp q)
def o_idiv (k : PT) : PT := fun L st μ => match st with
  | .inl y :: .inl x :: r => R32 x ∧ R32 y ∧ y ≠ 0 ∧ k L (.inl (x.tdiv y) :: r) μ
  | _ => False
theorem s_idiv {κ : Kap} {own : String} {cc : ByteArray} {nL lev : Nat} (h : Amb κ own cc nL lev) {pc : Nat} {k : PT} (d : decode cc pc = .ok (.idiv, 1)) (hk : Snd κ (pc + 1) k) : Snd κ pc (o_idiv k) := by
  obtain ⟨p, l, e, R, s, m, args, below, meth, c, cells, slots, Q, cA, D, b0, Hs⟩ := κ
  obtain ⟨hx, hb, hml, hown, hts, hlk, hK, hb0, hfr, hlo, hc1, hs1⟩ := h
  intro L st μ H locs ls hB hL hW hS
  unfold o_idiv at hB
  split at hB
  · rename_i y x r
    obtain ⟨h1, h2, h3, hB⟩ := hB
    refine lv_idiv (x := jI x) (y := jI y) (rest := r.map (tv b0)) hx hb d (jI_ne0 h2 h3) ?_
    rw [jI_div h1 h2]
    exact hk L _ μ H locs ls hB hL hW hS
  · exact hB.elim
def o_irem (k : PT) : PT := fun L st μ => match st with
  | .inl y :: .inl x :: r => R32 x ∧ R32 y ∧ y ≠ 0 ∧ k L (.inl (x.tmod y) :: r) μ
  | _ => False
theorem s_irem {κ : Kap} {own : String} {cc : ByteArray} {nL lev : Nat} (h : Amb κ own cc nL lev) {pc : Nat} {k : PT} (d : decode cc pc = .ok (.irem, 1)) (hk : Snd κ (pc + 1) k) : Snd κ pc (o_irem k) := by
  obtain ⟨p, l, e, R, s, m, args, below, meth, c, cells, slots, Q, cA, D, b0, Hs⟩ := κ
  obtain ⟨hx, hb, hml, hown, hts, hlk, hK, hb0, hfr, hlo, hc1, hs1⟩ := h
  intro L st μ H locs ls hB hL hW hS
  unfold o_irem at hB
  split at hB
  · rename_i y x r
    obtain ⟨h1, h2, h3, hB⟩ := hB
    refine lv_irem (x := jI x) (y := jI y) (rest := r.map (tv b0)) hx hb d (jI_ne0 h2 h3) ?_
    rw [jI_div h1 h2, jI_mul, jI_sub, show x - x.tdiv y * y = x.tmod y from by have := Int.mul_tdiv_add_tmod x y; rw [Int.mul_comm] at this; omega]
    exact hk L _ μ H locs ls hB hL hW hS
  · exact hB.elim
def o_ldiv (k : PT) : PT := fun L st μ => match st with
  | .inr (.inl y) :: .inr (.inl x) :: r => R64 x ∧ R64 y ∧ y ≠ 0 ∧ k L (.inr (.inl (x.tdiv y)) :: r) μ
  | _ => False
theorem s_ldiv {κ : Kap} {own : String} {cc : ByteArray} {nL lev : Nat} (h : Amb κ own cc nL lev) {pc : Nat} {k : PT} (d : decode cc pc = .ok (.ldiv, 1)) (hk : Snd κ (pc + 1) k) : Snd κ pc (o_ldiv k) := by
  obtain ⟨p, l, e, R, s, m, args, below, meth, c, cells, slots, Q, cA, D, b0, Hs⟩ := κ
  obtain ⟨hx, hb, hml, hown, hts, hlk, hK, hb0, hfr, hlo, hc1, hs1⟩ := h
  intro L st μ H locs ls hB hL hW hS
  unfold o_ldiv at hB
  split at hB
  · rename_i y x r
    obtain ⟨h1, h2, h3, hB⟩ := hB
    refine lv_ldiv (x := jL x) (y := jL y) (rest := r.map (tv b0)) hx hb d (jL_ne0 h2 h3) ?_
    rw [jL_div h1 h2]
    exact hk L _ μ H locs ls hB hL hW hS
  · exact hB.elim
def o_i2l (k : PT) : PT := fun L st μ => match st with
  | .inl x :: r => R32 x ∧ k L (.inr (.inl x) :: r) μ
  | _ => False
theorem s_i2l {κ : Kap} {own : String} {cc : ByteArray} {nL lev : Nat} (h : Amb κ own cc nL lev) {pc : Nat} {k : PT} (d : decode cc pc = .ok (.i2l, 1)) (hk : Snd κ (pc + 1) k) : Snd κ pc (o_i2l k) := by
  obtain ⟨p, l, e, R, s, m, args, below, meth, c, cells, slots, Q, cA, D, b0, Hs⟩ := κ
  obtain ⟨hx, hb, hml, hown, hts, hlk, hK, hb0, hfr, hlo, hc1, hs1⟩ := h
  intro L st μ H locs ls hB hL hW hS
  unfold o_i2l at hB
  split at hB
  · rename_i x r
    obtain ⟨h1, hB⟩ := hB
    exact lv_i2l (x := jI x) (v := jL x) (rest := r.map (tv b0)) hx hb d (jI_wide h1) (hk L _ μ H locs ls hB hL hW hS)
  · exact hB.elim
def o_l2i (k : PT) : PT := fun L st μ => match st with
  | .inr (.inl x) :: r => k L (.inl x :: r) μ
  | _ => False
theorem s_l2i {κ : Kap} {own : String} {cc : ByteArray} {nL lev : Nat} (h : Amb κ own cc nL lev) {pc : Nat} {k : PT} (d : decode cc pc = .ok (.l2i, 1)) (hk : Snd κ (pc + 1) k) : Snd κ pc (o_l2i k) := by
  obtain ⟨p, l, e, R, s, m, args, below, meth, c, cells, slots, Q, cA, D, b0, Hs⟩ := κ
  obtain ⟨hx, hb, hml, hown, hts, hlk, hK, hb0, hfr, hlo, hc1, hs1⟩ := h
  intro L st μ H locs ls hB hL hW hS
  unfold o_l2i at hB
  split at hB
  · rename_i x r
    exact lv_l2i (x := jL x) (v := jI x) (rest := r.map (tv b0)) hx hb d (jL_nar x) (hk L _ μ H locs ls hB hL hW hS)
  · exact hB.elim
def cmpL (x y : Int) : Int := if y < x then 1 else if x = y then 0 else -1
theorem jL_cmp {x y : Int} (hx : R64 x) (hy : R64 y) : lg_cmp (jL x) (jL y) = jI (cmpL x y) := by
  unfold lg_cmp cmpL
  by_cases h1 : y < x
  · rw [if_pos h1, if_pos ((jL_lt hy hx).mpr h1)]; rfl
  · rw [if_neg h1, if_neg (fun q => h1 ((jL_lt hy hx).mp q))]
    by_cases h2 : x = y
    · rw [if_pos h2, if_pos (by rw [h2])]; rfl
    · rw [if_neg h2, if_neg (fun q => h2 ((jL_eq hx hy).mp q))]; rfl
def o_lcmp (k : PT) : PT := fun L st μ => match st with
  | .inr (.inl y) :: .inr (.inl x) :: r => R64 x ∧ R64 y ∧ k L (.inl (cmpL x y) :: r) μ
  | _ => False
theorem s_lcmp {κ : Kap} {own : String} {cc : ByteArray} {nL lev : Nat} (h : Amb κ own cc nL lev) {pc : Nat} {k : PT} (d : decode cc pc = .ok (.lcmp, 1)) (hk : Snd κ (pc + 1) k) : Snd κ pc (o_lcmp k) := by
  obtain ⟨p, l, e, R, s, m, args, below, meth, c, cells, slots, Q, cA, D, b0, Hs⟩ := κ
  obtain ⟨hx, hb, hml, hown, hts, hlk, hK, hb0, hfr, hlo, hc1, hs1⟩ := h
  intro L st μ H locs ls hB hL hW hS
  unfold o_lcmp at hB
  split at hB
  · rename_i y x r
    obtain ⟨h1, h2, hB⟩ := hB
    refine W.lcmp (x := jL x) (y := jL y) (rest := r.map (tv b0)) hx hb d ?_
    rw [jL_cmp h1 h2]
    exact hk L _ μ H locs ls hB hL hW hS
  · exact hB.elim
def o_dup (k : PT) : PT := fun L st μ => match st with
  | .inl x :: r => k L (.inl x :: .inl x :: r) μ
  | .inr (.inr x) :: r => k L (.inr (.inr x) :: .inr (.inr x) :: r) μ
  | _ => False
theorem s_dup {κ : Kap} {own : String} {cc : ByteArray} {nL lev : Nat} (h : Amb κ own cc nL lev) {pc : Nat} {k : PT} (d : decode cc pc = .ok (.dup, 1)) (hk : Snd κ (pc + 1) k) : Snd κ pc (o_dup k) := by
  obtain ⟨p, l, e, R, s, m, args, below, meth, c, cells, slots, Q, cA, D, b0, Hs⟩ := κ
  obtain ⟨hx, hb, hml, hown, hts, hlk, hK, hb0, hfr, hlo, hc1, hs1⟩ := h
  intro L st μ H locs ls hB hL hW hS
  unfold o_dup at hB
  split at hB
  · rename_i x r
    exact lv_dup (va := .int (jI x)) (rest := r.map (tv b0)) hx hb d rfl (hk L _ μ H locs ls hB hL hW hS)
  · rename_i x r
    exact lv_dup (va := .ref (b0 + x)) (rest := r.map (tv b0)) hx hb d rfl (hk L _ μ H locs ls hB hL hW hS)
  · exact hB.elim
def o_dup2 (k : PT) : PT := fun L st μ => match st with
  | .inl x :: .inr (.inr a) :: r => k L (.inl x :: .inr (.inr a) :: .inl x :: .inr (.inr a) :: r) μ
  | _ => False
theorem s_dup2 {κ : Kap} {own : String} {cc : ByteArray} {nL lev : Nat} (h : Amb κ own cc nL lev) {pc : Nat} {k : PT} (d : decode cc pc = .ok (.dup2, 1)) (hk : Snd κ (pc + 1) k) : Snd κ pc (o_dup2 k) := by
  obtain ⟨p, l, e, R, s, m, args, below, meth, c, cells, slots, Q, cA, D, b0, Hs⟩ := κ
  obtain ⟨hx, hb, hml, hown, hts, hlk, hK, hb0, hfr, hlo, hc1, hs1⟩ := h
  intro L st μ H locs ls hB hL hW hS
  unfold o_dup2 at hB
  split at hB
  · rename_i x a r
    exact lv_dup2_11 (va := .int (jI x)) (vb := .ref (b0 + a)) (rest := r.map (tv b0)) hx hb d rfl rfl (hk L _ μ H locs ls hB hL hW hS)
  · exact hB.elim
def o_pop (k : PT) : PT := fun L st μ => match st with
  | .inl _ :: r => k L r μ
  | .inr (.inr _) :: r => k L r μ
  | _ => False
theorem s_pop {κ : Kap} {own : String} {cc : ByteArray} {nL lev : Nat} (h : Amb κ own cc nL lev) {pc : Nat} {k : PT} (d : decode cc pc = .ok (.pop, 1)) (hk : Snd κ (pc + 1) k) : Snd κ pc (o_pop k) := by
  obtain ⟨p, l, e, R, s, m, args, below, meth, c, cells, slots, Q, cA, D, b0, Hs⟩ := κ
  obtain ⟨hx, hb, hml, hown, hts, hlk, hK, hb0, hfr, hlo, hc1, hs1⟩ := h
  intro L st μ H locs ls hB hL hW hS
  unfold o_pop at hB
  split at hB
  · rename_i x r
    exact lv_pop (va := .int (jI x)) (rest := r.map (tv b0)) hx hb d rfl (hk L _ μ H locs ls hB hL hW hS)
  · rename_i x r
    exact lv_pop (va := .ref (b0 + x)) (rest := r.map (tv b0)) hx hb d rfl (hk L _ μ H locs ls hB hL hW hS)
  · exact hB.elim
theorem s_goto {κ : Kap} {own : String} {cc : ByteArray} {nL lev : Nat} (h : Amb κ own cc nL lev) {pc : Nat} {off : Int} {tgt : Nat} {k : PT} (d : decode cc pc = .ok (.goto off, 3)) (ht : (pc : Int) + off = (tgt : Int)) (hk : Snd κ tgt k) : Snd κ pc (k) := by
  obtain ⟨p, l, e, R, s, m, args, below, meth, c, cells, slots, Q, cA, D, b0, Hs⟩ := κ
  obtain ⟨hx, hb, hml, hown, hts, hlk, hK, hb0, hfr, hlo, hc1, hs1⟩ := h
  intro L st μ H locs ls hB hL hW hS
  exact lv_goto hx hb d ht (hk L _ μ H locs ls hB hL hW hS)
def o_icmp_eq (kt kf : PT) : PT := fun L st μ => match st with
  | .inl y :: .inl x :: r => R32 x ∧ R32 y ∧ (x = y → kt L r μ) ∧ (¬ x = y → kf L r μ)
  | _ => False
theorem s_icmp_eq {κ : Kap} {own : String} {cc : ByteArray} {nL lev : Nat} (h : Amb κ own cc nL lev) {pc : Nat} {off : Int} {tgt : Nat} {kt kf : PT} (d : decode cc pc = .ok (.if_icmp .eq off, 3)) (ht : (pc : Int) + off = (tgt : Int)) (hkt : Snd κ tgt kt) (hkf : Snd κ (pc + 3) kf) : Snd κ pc (o_icmp_eq kt kf) := by
  obtain ⟨p, l, e, R, s, m, args, below, meth, c, cells, slots, Q, cA, D, b0, Hs⟩ := κ
  obtain ⟨hx, hb, hml, hown, hts, hlk, hK, hb0, hfr, hlo, hc1, hs1⟩ := h
  intro L st μ H locs ls hB hL hW hS
  unfold o_icmp_eq at hB
  split at hB
  · rename_i y x r
    obtain ⟨h1, h2, h3, h4⟩ := hB
    have hi := jI_eq h1 h2
    exact lv_icmp_eq (x := jI x) (y := jI y) (rest := r.map (tv b0)) hx hb d ht (fun q => hkt L _ μ H locs ls (h3 (hi.mp q)) hL hW hS) (fun q => hkf L _ μ H locs ls (h4 (fun z => q (hi.mpr z))) hL hW hS)
  · exact hB.elim
def o_if_eq (kt kf : PT) : PT := fun L st μ => match st with
  | .inl x :: r => R32 x ∧ (x = 0 → kt L r μ) ∧ (¬ x = 0 → kf L r μ)
  | _ => False
theorem s_if_eq {κ : Kap} {own : String} {cc : ByteArray} {nL lev : Nat} (h : Amb κ own cc nL lev) {pc : Nat} {off : Int} {tgt : Nat} {kt kf : PT} (d : decode cc pc = .ok (.ifCond .eq off, 3)) (ht : (pc : Int) + off = (tgt : Int)) (hkt : Snd κ tgt kt) (hkf : Snd κ (pc + 3) kf) : Snd κ pc (o_if_eq kt kf) := by
  obtain ⟨p, l, e, R, s, m, args, below, meth, c, cells, slots, Q, cA, D, b0, Hs⟩ := κ
  obtain ⟨hx, hb, hml, hown, hts, hlk, hK, hb0, hfr, hlo, hc1, hs1⟩ := h
  intro L st μ H locs ls hB hL hW hS
  unfold o_if_eq at hB
  split at hB
  · rename_i x r
    obtain ⟨h1, h3, h4⟩ := hB
    have h2 := R32_0
    have hi := jI_eq h1 h2
    exact lv_if_eq (x := jI x) (rest := r.map (tv b0)) hx hb d ht (fun q => hkt L _ μ H locs ls (h3 (hi.mp q)) hL hW hS) (fun q => hkf L _ μ H locs ls (h4 (fun z => q (hi.mpr z))) hL hW hS)
  · exact hB.elim
def o_icmp_ne (kt kf : PT) : PT := fun L st μ => match st with
  | .inl y :: .inl x :: r => R32 x ∧ R32 y ∧ (¬ x = y → kt L r μ) ∧ (x = y → kf L r μ)
  | _ => False
theorem s_icmp_ne {κ : Kap} {own : String} {cc : ByteArray} {nL lev : Nat} (h : Amb κ own cc nL lev) {pc : Nat} {off : Int} {tgt : Nat} {kt kf : PT} (d : decode cc pc = .ok (.if_icmp .ne off, 3)) (ht : (pc : Int) + off = (tgt : Int)) (hkt : Snd κ tgt kt) (hkf : Snd κ (pc + 3) kf) : Snd κ pc (o_icmp_ne kt kf) := by
  obtain ⟨p, l, e, R, s, m, args, below, meth, c, cells, slots, Q, cA, D, b0, Hs⟩ := κ
  obtain ⟨hx, hb, hml, hown, hts, hlk, hK, hb0, hfr, hlo, hc1, hs1⟩ := h
  intro L st μ H locs ls hB hL hW hS
  unfold o_icmp_ne at hB
  split at hB
  · rename_i y x r
    obtain ⟨h1, h2, h3, h4⟩ := hB
    have hi := jI_eq h1 h2
    exact lv_icmp_ne (x := jI x) (y := jI y) (rest := r.map (tv b0)) hx hb d ht (fun q => hkt L _ μ H locs ls (h3 (fun z => q (hi.mpr z))) hL hW hS) (fun q => hkf L _ μ H locs ls (h4 (hi.mp q)) hL hW hS)
  · exact hB.elim
def o_if_ne (kt kf : PT) : PT := fun L st μ => match st with
  | .inl x :: r => R32 x ∧ (¬ x = 0 → kt L r μ) ∧ (x = 0 → kf L r μ)
  | _ => False
theorem s_if_ne {κ : Kap} {own : String} {cc : ByteArray} {nL lev : Nat} (h : Amb κ own cc nL lev) {pc : Nat} {off : Int} {tgt : Nat} {kt kf : PT} (d : decode cc pc = .ok (.ifCond .ne off, 3)) (ht : (pc : Int) + off = (tgt : Int)) (hkt : Snd κ tgt kt) (hkf : Snd κ (pc + 3) kf) : Snd κ pc (o_if_ne kt kf) := by
  obtain ⟨p, l, e, R, s, m, args, below, meth, c, cells, slots, Q, cA, D, b0, Hs⟩ := κ
  obtain ⟨hx, hb, hml, hown, hts, hlk, hK, hb0, hfr, hlo, hc1, hs1⟩ := h
  intro L st μ H locs ls hB hL hW hS
  unfold o_if_ne at hB
  split at hB
  · rename_i x r
    obtain ⟨h1, h3, h4⟩ := hB
    have h2 := R32_0
    have hi := jI_eq h1 h2
    exact lv_if_ne (x := jI x) (rest := r.map (tv b0)) hx hb d ht (fun q => hkt L _ μ H locs ls (h3 (fun z => q (hi.mpr z))) hL hW hS) (fun q => hkf L _ μ H locs ls (h4 (hi.mp q)) hL hW hS)
  · exact hB.elim
def o_icmp_lt (kt kf : PT) : PT := fun L st μ => match st with
  | .inl y :: .inl x :: r => R32 x ∧ R32 y ∧ (x < y → kt L r μ) ∧ (¬ x < y → kf L r μ)
  | _ => False
theorem s_icmp_lt {κ : Kap} {own : String} {cc : ByteArray} {nL lev : Nat} (h : Amb κ own cc nL lev) {pc : Nat} {off : Int} {tgt : Nat} {kt kf : PT} (d : decode cc pc = .ok (.if_icmp .lt off, 3)) (ht : (pc : Int) + off = (tgt : Int)) (hkt : Snd κ tgt kt) (hkf : Snd κ (pc + 3) kf) : Snd κ pc (o_icmp_lt kt kf) := by
  obtain ⟨p, l, e, R, s, m, args, below, meth, c, cells, slots, Q, cA, D, b0, Hs⟩ := κ
  obtain ⟨hx, hb, hml, hown, hts, hlk, hK, hb0, hfr, hlo, hc1, hs1⟩ := h
  intro L st μ H locs ls hB hL hW hS
  unfold o_icmp_lt at hB
  split at hB
  · rename_i y x r
    obtain ⟨h1, h2, h3, h4⟩ := hB
    have hi := jI_lt h1 h2
    exact lv_icmp_lt (x := jI x) (y := jI y) (rest := r.map (tv b0)) hx hb d ht (fun q => hkt L _ μ H locs ls (h3 (hi.mp q)) hL hW hS) (fun q => hkf L _ μ H locs ls (h4 (fun z => q (hi.mpr z))) hL hW hS)
  · exact hB.elim
def o_if_lt (kt kf : PT) : PT := fun L st μ => match st with
  | .inl x :: r => R32 x ∧ (x < 0 → kt L r μ) ∧ (¬ x < 0 → kf L r μ)
  | _ => False
theorem s_if_lt {κ : Kap} {own : String} {cc : ByteArray} {nL lev : Nat} (h : Amb κ own cc nL lev) {pc : Nat} {off : Int} {tgt : Nat} {kt kf : PT} (d : decode cc pc = .ok (.ifCond .lt off, 3)) (ht : (pc : Int) + off = (tgt : Int)) (hkt : Snd κ tgt kt) (hkf : Snd κ (pc + 3) kf) : Snd κ pc (o_if_lt kt kf) := by
  obtain ⟨p, l, e, R, s, m, args, below, meth, c, cells, slots, Q, cA, D, b0, Hs⟩ := κ
  obtain ⟨hx, hb, hml, hown, hts, hlk, hK, hb0, hfr, hlo, hc1, hs1⟩ := h
  intro L st μ H locs ls hB hL hW hS
  unfold o_if_lt at hB
  split at hB
  · rename_i x r
    obtain ⟨h1, h3, h4⟩ := hB
    have h2 := R32_0
    have hi := jI_lt h1 h2
    exact lv_if_lt (x := jI x) (rest := r.map (tv b0)) hx hb d ht (fun q => hkt L _ μ H locs ls (h3 (hi.mp q)) hL hW hS) (fun q => hkf L _ μ H locs ls (h4 (fun z => q (hi.mpr z))) hL hW hS)
  · exact hB.elim
def o_icmp_ge (kt kf : PT) : PT := fun L st μ => match st with
  | .inl y :: .inl x :: r => R32 x ∧ R32 y ∧ (y ≤ x → kt L r μ) ∧ (¬ y ≤ x → kf L r μ)
  | _ => False
theorem s_icmp_ge {κ : Kap} {own : String} {cc : ByteArray} {nL lev : Nat} (h : Amb κ own cc nL lev) {pc : Nat} {off : Int} {tgt : Nat} {kt kf : PT} (d : decode cc pc = .ok (.if_icmp .ge off, 3)) (ht : (pc : Int) + off = (tgt : Int)) (hkt : Snd κ tgt kt) (hkf : Snd κ (pc + 3) kf) : Snd κ pc (o_icmp_ge kt kf) := by
  obtain ⟨p, l, e, R, s, m, args, below, meth, c, cells, slots, Q, cA, D, b0, Hs⟩ := κ
  obtain ⟨hx, hb, hml, hown, hts, hlk, hK, hb0, hfr, hlo, hc1, hs1⟩ := h
  intro L st μ H locs ls hB hL hW hS
  unfold o_icmp_ge at hB
  split at hB
  · rename_i y x r
    obtain ⟨h1, h2, h3, h4⟩ := hB
    have hi := jI_le h2 h1
    exact lv_icmp_ge (x := jI x) (y := jI y) (rest := r.map (tv b0)) hx hb d ht (fun q => hkt L _ μ H locs ls (h3 (hi.mp q)) hL hW hS) (fun q => hkf L _ μ H locs ls (h4 (fun z => q (hi.mpr z))) hL hW hS)
  · exact hB.elim
def o_if_ge (kt kf : PT) : PT := fun L st μ => match st with
  | .inl x :: r => R32 x ∧ (0 ≤ x → kt L r μ) ∧ (¬ 0 ≤ x → kf L r μ)
  | _ => False
theorem s_if_ge {κ : Kap} {own : String} {cc : ByteArray} {nL lev : Nat} (h : Amb κ own cc nL lev) {pc : Nat} {off : Int} {tgt : Nat} {kt kf : PT} (d : decode cc pc = .ok (.ifCond .ge off, 3)) (ht : (pc : Int) + off = (tgt : Int)) (hkt : Snd κ tgt kt) (hkf : Snd κ (pc + 3) kf) : Snd κ pc (o_if_ge kt kf) := by
  obtain ⟨p, l, e, R, s, m, args, below, meth, c, cells, slots, Q, cA, D, b0, Hs⟩ := κ
  obtain ⟨hx, hb, hml, hown, hts, hlk, hK, hb0, hfr, hlo, hc1, hs1⟩ := h
  intro L st μ H locs ls hB hL hW hS
  unfold o_if_ge at hB
  split at hB
  · rename_i x r
    obtain ⟨h1, h3, h4⟩ := hB
    have h2 := R32_0
    have hi := jI_le h2 h1
    exact lv_if_ge (x := jI x) (rest := r.map (tv b0)) hx hb d ht (fun q => hkt L _ μ H locs ls (h3 (hi.mp q)) hL hW hS) (fun q => hkf L _ μ H locs ls (h4 (fun z => q (hi.mpr z))) hL hW hS)
  · exact hB.elim
def o_icmp_gt (kt kf : PT) : PT := fun L st μ => match st with
  | .inl y :: .inl x :: r => R32 x ∧ R32 y ∧ (y < x → kt L r μ) ∧ (¬ y < x → kf L r μ)
  | _ => False
theorem s_icmp_gt {κ : Kap} {own : String} {cc : ByteArray} {nL lev : Nat} (h : Amb κ own cc nL lev) {pc : Nat} {off : Int} {tgt : Nat} {kt kf : PT} (d : decode cc pc = .ok (.if_icmp .gt off, 3)) (ht : (pc : Int) + off = (tgt : Int)) (hkt : Snd κ tgt kt) (hkf : Snd κ (pc + 3) kf) : Snd κ pc (o_icmp_gt kt kf) := by
  obtain ⟨p, l, e, R, s, m, args, below, meth, c, cells, slots, Q, cA, D, b0, Hs⟩ := κ
  obtain ⟨hx, hb, hml, hown, hts, hlk, hK, hb0, hfr, hlo, hc1, hs1⟩ := h
  intro L st μ H locs ls hB hL hW hS
  unfold o_icmp_gt at hB
  split at hB
  · rename_i y x r
    obtain ⟨h1, h2, h3, h4⟩ := hB
    have hi := jI_lt h2 h1
    exact lv_icmp_gt (x := jI x) (y := jI y) (rest := r.map (tv b0)) hx hb d ht (fun q => hkt L _ μ H locs ls (h3 (hi.mp q)) hL hW hS) (fun q => hkf L _ μ H locs ls (h4 (fun z => q (hi.mpr z))) hL hW hS)
  · exact hB.elim
def o_if_gt (kt kf : PT) : PT := fun L st μ => match st with
  | .inl x :: r => R32 x ∧ (0 < x → kt L r μ) ∧ (¬ 0 < x → kf L r μ)
  | _ => False
theorem s_if_gt {κ : Kap} {own : String} {cc : ByteArray} {nL lev : Nat} (h : Amb κ own cc nL lev) {pc : Nat} {off : Int} {tgt : Nat} {kt kf : PT} (d : decode cc pc = .ok (.ifCond .gt off, 3)) (ht : (pc : Int) + off = (tgt : Int)) (hkt : Snd κ tgt kt) (hkf : Snd κ (pc + 3) kf) : Snd κ pc (o_if_gt kt kf) := by
  obtain ⟨p, l, e, R, s, m, args, below, meth, c, cells, slots, Q, cA, D, b0, Hs⟩ := κ
  obtain ⟨hx, hb, hml, hown, hts, hlk, hK, hb0, hfr, hlo, hc1, hs1⟩ := h
  intro L st μ H locs ls hB hL hW hS
  unfold o_if_gt at hB
  split at hB
  · rename_i x r
    obtain ⟨h1, h3, h4⟩ := hB
    have h2 := R32_0
    have hi := jI_lt h2 h1
    exact lv_if_gt (x := jI x) (rest := r.map (tv b0)) hx hb d ht (fun q => hkt L _ μ H locs ls (h3 (hi.mp q)) hL hW hS) (fun q => hkf L _ μ H locs ls (h4 (fun z => q (hi.mpr z))) hL hW hS)
  · exact hB.elim
def o_icmp_le (kt kf : PT) : PT := fun L st μ => match st with
  | .inl y :: .inl x :: r => R32 x ∧ R32 y ∧ (x ≤ y → kt L r μ) ∧ (¬ x ≤ y → kf L r μ)
  | _ => False
theorem s_icmp_le {κ : Kap} {own : String} {cc : ByteArray} {nL lev : Nat} (h : Amb κ own cc nL lev) {pc : Nat} {off : Int} {tgt : Nat} {kt kf : PT} (d : decode cc pc = .ok (.if_icmp .le off, 3)) (ht : (pc : Int) + off = (tgt : Int)) (hkt : Snd κ tgt kt) (hkf : Snd κ (pc + 3) kf) : Snd κ pc (o_icmp_le kt kf) := by
  obtain ⟨p, l, e, R, s, m, args, below, meth, c, cells, slots, Q, cA, D, b0, Hs⟩ := κ
  obtain ⟨hx, hb, hml, hown, hts, hlk, hK, hb0, hfr, hlo, hc1, hs1⟩ := h
  intro L st μ H locs ls hB hL hW hS
  unfold o_icmp_le at hB
  split at hB
  · rename_i y x r
    obtain ⟨h1, h2, h3, h4⟩ := hB
    have hi := jI_le h1 h2
    exact lv_icmp_le (x := jI x) (y := jI y) (rest := r.map (tv b0)) hx hb d ht (fun q => hkt L _ μ H locs ls (h3 (hi.mp q)) hL hW hS) (fun q => hkf L _ μ H locs ls (h4 (fun z => q (hi.mpr z))) hL hW hS)
  · exact hB.elim
def o_if_le (kt kf : PT) : PT := fun L st μ => match st with
  | .inl x :: r => R32 x ∧ (x ≤ 0 → kt L r μ) ∧ (¬ x ≤ 0 → kf L r μ)
  | _ => False
theorem s_if_le {κ : Kap} {own : String} {cc : ByteArray} {nL lev : Nat} (h : Amb κ own cc nL lev) {pc : Nat} {off : Int} {tgt : Nat} {kt kf : PT} (d : decode cc pc = .ok (.ifCond .le off, 3)) (ht : (pc : Int) + off = (tgt : Int)) (hkt : Snd κ tgt kt) (hkf : Snd κ (pc + 3) kf) : Snd κ pc (o_if_le kt kf) := by
  obtain ⟨p, l, e, R, s, m, args, below, meth, c, cells, slots, Q, cA, D, b0, Hs⟩ := κ
  obtain ⟨hx, hb, hml, hown, hts, hlk, hK, hb0, hfr, hlo, hc1, hs1⟩ := h
  intro L st μ H locs ls hB hL hW hS
  unfold o_if_le at hB
  split at hB
  · rename_i x r
    obtain ⟨h1, h3, h4⟩ := hB
    have h2 := R32_0
    have hi := jI_le h1 h2
    exact lv_if_le (x := jI x) (rest := r.map (tv b0)) hx hb d ht (fun q => hkt L _ μ H locs ls (h3 (hi.mp q)) hL hW hS) (fun q => hkf L _ μ H locs ls (h4 (fun z => q (hi.mpr z))) hL hW hS)
  · exact hB.elim
def o_sw (cs : List (Int × PT)) (kd : PT) : PT := fun L st μ => match st with
  | .inl x :: r => R32 x ∧ (∀ q ∈ cs, x = q.1 → q.2 L r μ) ∧ ((∀ q ∈ cs, x ≠ q.1) → kd L r μ)
  | _ => False
theorem s_tsw {κ : Kap} {own : String} {cc : ByteArray} {nL lev : Nat} (h : Amb κ own cc nL lev) {pc : Nat} {dflt lo hi : Int} {offs : Array Int} {len dt : Nat} {cs : List (Int × PT)} {kd : PT} (d : decode cc pc = .ok (.tableswitch dflt lo hi offs, len)) (h1 : ∀ q ∈ cs, lo ≤ q.1 ∧ q.1 ≤ hi ∧ ∃ (off : Int) (tgt : Nat), offs[(q.1 - lo).toNat]? = some off ∧ (pc : Int) + off = (tgt : Int) ∧ Snd κ tgt q.2) (h2 : ∀ x, lo ≤ x → x ≤ hi → ∃ q ∈ cs, x = q.1) (hd : (pc : Int) + dflt = (dt : Int)) (hkd : Snd κ dt kd) : Snd κ pc (o_sw cs kd) := by
  obtain ⟨p, l, e, R, s, m, args, below, meth, c, cells, slots, Q, cA, D, b0, Hs⟩ := κ
  obtain ⟨hx, hb, hml, hown, hts, hlk, hK, hb0, hfr, hlo, hc1, hs1⟩ := h
  intro L st μ H locs ls hB hL hW hS
  unfold o_sw at hB
  split at hB
  · rename_i x r
    obtain ⟨g1, g2, g3⟩ := hB
    by_cases hin : lo ≤ x ∧ x ≤ hi
    · obtain ⟨q, hq, hxq⟩ := h2 x hin.1 hin.2
      obtain ⟨a1, a2, off, tgt, a3, a4, a5⟩ := h1 q hq
      refine lv_tableIn (x := jI x) (rest := r.map (tv b0)) hx hb d (by rw [jI_toInt g1]; omega) (by rw [jI_toInt g1]; omega) (off := off) (by rw [jI_toInt g1, hxq]; exact a3) a4 (a5 L _ μ H locs ls (g2 q hq hxq) hL hW hS)
    · refine lv_tableOut (x := jI x) (rest := r.map (tv b0)) hx hb d (by rw [jI_toInt g1]; omega) hd (hkd L _ μ H locs ls (g3 (fun q hq hxq => ?_)) hL hW hS)
      obtain ⟨a1, a2, -⟩ := h1 q hq
      omega
  · exact hB.elim
theorem s_lsw {κ : Kap} {own : String} {cc : ByteArray} {nL lev : Nat} (h : Amb κ own cc nL lev) {pc : Nat} {dflt : Int} {ps : Array (Int × Int)} {len dt : Nat} {cs : List (Int × PT)} {kd : PT} (d : decode cc pc = .ok (.lookupswitch dflt ps, len)) (hp : (ps.toList.zip (ps.toList.drop 1)).all (fun (a, next) => a.1 < next.1) = true) (h1 : ∀ q ∈ cs, ∃ (off : Int) (tgt : Nat), Op.lookupswitch.offset ps.toList dflt q.1 = off ∧ (pc : Int) + off = (tgt : Int) ∧ Snd κ tgt q.2) (h2 : ∀ x, (∀ q ∈ cs, x ≠ q.1) → Op.lookupswitch.offset ps.toList dflt x = dflt) (hd : (pc : Int) + dflt = (dt : Int)) (hkd : Snd κ dt kd) : Snd κ pc (o_sw cs kd) := by
  obtain ⟨p, l, e, R, s, m, args, below, meth, c, cells, slots, Q, cA, D, b0, Hs⟩ := κ
  obtain ⟨hx, hb, hml, hown, hts, hlk, hK, hb0, hfr, hlo, hc1, hs1⟩ := h
  intro L st μ H locs ls hB hL hW hS
  unfold o_sw at hB
  split at hB
  · rename_i x r
    obtain ⟨g1, g2, g3⟩ := hB
    by_cases hin : ∃ q ∈ cs, x = q.1
    · obtain ⟨q, hq, hxq⟩ := hin
      obtain ⟨off, tgt, a3, a4, a5⟩ := h1 q hq
      exact lv_lookup (x := jI x) (rest := r.map (tv b0)) hx hb d hp (off := off) (by rw [jI_toInt g1, hxq]; exact a3) a4 (a5 L _ μ H locs ls (g2 q hq hxq) hL hW hS)
    · have hall : ∀ q ∈ cs, x ≠ q.1 := fun q hq e => hin ⟨q, hq, e⟩
      exact lv_lookup (x := jI x) (rest := r.map (tv b0)) hx hb d hp (off := dflt) (by rw [jI_toInt g1]; exact h2 x hall) hd (hkd L _ μ H locs ls (g3 hall) hL hW hS)
  · exact hB.elim
theorem Wo_I {cA : Nat → ClassId} {D : va_G} {b0 : Nat} {Hs : Heap} {μ : MM} {H : Heap} (h : Wo cA D b0 Hs μ H) : va_P D vwCl (PW cA μ.1 μ.2 b0) H := h.2.1
theorem Wo_put {cA : Nat → ClassId} {D : va_G} {b0 : Nat} {Hs : Heap} {μ μ' : MM} {s : State} {H H1 : Heap} {locs locs1 : List Loc} (hb0 : b0 ≤ s.heap.size) (h : Wo cA D b0 Hs μ H) (hS : va_S (fun q => b0 ≤ q) s.heap H locs) (hP : va_P D vwCl (PW cA μ'.1 μ'.2 b0) H1) (hS1 : va_S (fun q => b0 ≤ q) s.heap H1 locs1) : Wo cA D b0 Hs μ' H1 := by
  have hlt := (hP 355 _ (PW_at (by decide))).lt
  refine ⟨?_, hP, fun q hq => ?_⟩
  · have : b0 + 355 < H1.size := hlt
    omega
  · rw [hS1.2.1 q (by omega) (by show ¬ b0 ≤ q; omega), ← hS.2.1 q (by omega) (by show ¬ b0 ≤ q; omega)]
    exact h.2.2 q hq
def o_getI (ci k : Nat) (kk : PT) : PT := fun L st μ => match st with
  | .inr (.inr a) :: r => isK a ci ∧ kk L (.inl (μ.1 a k) :: r) μ
  | _ => False
theorem s_getI {κ : Kap} {own : String} {cc : ByteArray} {nL lev : Nat} (h : Amb κ own cc nL lev) {pc : Nat} {ci k ix : Nat} {C ref : String} {T : u_T} {kk : PT} (d : decode cc pc = .ok (.getfield ix, 3)) (hc : ci < 11) (hcl : vwCl[ci]? = some (C, T, nf ci)) (hk9 : k < nf ci) (hf : fk ci k = 0 ∨ fk ci k = 3) (hin : ∀ w ∈ u_ws C T (nf ci), w ∈ AW) (href : (T k).1 = ref) (hw : Cond.fieldLink own ix ref (T k).2.1 (T k).2.2.1 ∈ AW) (hk : Snd κ (pc + 3) kk) : Snd κ pc (o_getI ci k kk) := by
  obtain ⟨p, l, e, R, s, m, args, below, meth, c, cells, slots, Q, cA, D, b0, Hs⟩ := κ
  obtain ⟨hx, hb, hml, hown, hts, hlk, hK, hb0, hfr, hlo, hc1, hs1⟩ := h
  intro L st μ H locs ls hB hL hW hS
  unfold o_getI at hB
  split at hB
  · rename_i a r
    obtain ⟨hB1, hB⟩ := hB
    have hres := fv_i hB1.2 hf (I := μ.1) (J := μ.2) (b0 := b0) (k := k)
    refine va_get (v := fv μ.1 μ.2 b0 a k) (rest := r.map (tv b0)) hx hb hts hin hown hK hW.2.1 a (PW_ob hB1 hc) hcl k hk9 (ref := ref) (hts _ hw) (fun z hz => by rw [← href]; exact hz) (fv_at hk9) d ?_
    rw [hres]
    exact hk L _ μ H locs ls hB hL hW hS
  · exact hB.elim
def o_getL (ci k : Nat) (kk : PT) : PT := fun L st μ => match st with
  | .inr (.inr a) :: r => isK a ci ∧ kk L (.inr (.inl (μ.2 a k)) :: r) μ
  | _ => False
theorem s_getL {κ : Kap} {own : String} {cc : ByteArray} {nL lev : Nat} (h : Amb κ own cc nL lev) {pc : Nat} {ci k ix : Nat} {C ref : String} {T : u_T} {kk : PT} (d : decode cc pc = .ok (.getfield ix, 3)) (hc : ci < 11) (hcl : vwCl[ci]? = some (C, T, nf ci)) (hk9 : k < nf ci) (hf : fk ci k = 1) (hin : ∀ w ∈ u_ws C T (nf ci), w ∈ AW) (href : (T k).1 = ref) (hw : Cond.fieldLink own ix ref (T k).2.1 (T k).2.2.1 ∈ AW) (hk : Snd κ (pc + 3) kk) : Snd κ pc (o_getL ci k kk) := by
  obtain ⟨p, l, e, R, s, m, args, below, meth, c, cells, slots, Q, cA, D, b0, Hs⟩ := κ
  obtain ⟨hx, hb, hml, hown, hts, hlk, hK, hb0, hfr, hlo, hc1, hs1⟩ := h
  intro L st μ H locs ls hB hL hW hS
  unfold o_getL at hB
  split at hB
  · rename_i a r
    obtain ⟨hB1, hB⟩ := hB
    have hres := fv_l hB1.2 hf (I := μ.1) (J := μ.2) (b0 := b0) (k := k)
    refine va_get (v := fv μ.1 μ.2 b0 a k) (rest := r.map (tv b0)) hx hb hts hin hown hK hW.2.1 a (PW_ob hB1 hc) hcl k hk9 (ref := ref) (hts _ hw) (fun z hz => by rw [← href]; exact hz) (fv_at hk9) d ?_
    rw [hres]
    exact hk L _ μ H locs ls hB hL hW hS
  · exact hB.elim
def o_getR (ci k : Nat) (kk : PT) : PT := fun L st μ => match st with
  | .inr (.inr a) :: r => isK a ci ∧ kk L (.inr (.inr (a + ro ci k)) :: r) μ
  | _ => False
theorem s_getR {κ : Kap} {own : String} {cc : ByteArray} {nL lev : Nat} (h : Amb κ own cc nL lev) {pc : Nat} {ci k ix : Nat} {C ref : String} {T : u_T} {kk : PT} (d : decode cc pc = .ok (.getfield ix, 3)) (hc : ci < 11) (hcl : vwCl[ci]? = some (C, T, nf ci)) (hk9 : k < nf ci) (hf : fk ci k = 2) (hin : ∀ w ∈ u_ws C T (nf ci), w ∈ AW) (href : (T k).1 = ref) (hw : Cond.fieldLink own ix ref (T k).2.1 (T k).2.2.1 ∈ AW) (hk : Snd κ (pc + 3) kk) : Snd κ pc (o_getR ci k kk) := by
  obtain ⟨p, l, e, R, s, m, args, below, meth, c, cells, slots, Q, cA, D, b0, Hs⟩ := κ
  obtain ⟨hx, hb, hml, hown, hts, hlk, hK, hb0, hfr, hlo, hc1, hs1⟩ := h
  intro L st μ H locs ls hB hL hW hS
  unfold o_getR at hB
  split at hB
  · rename_i a r
    obtain ⟨hB1, hB⟩ := hB
    have hres := fv_r hB1.2 hc hf (I := μ.1) (J := μ.2) (b0 := b0) (k := k)
    refine va_get (v := fv μ.1 μ.2 b0 a k) (rest := r.map (tv b0)) hx hb hts hin hown hK hW.2.1 a (PW_ob hB1 hc) hcl k hk9 (ref := ref) (hts _ hw) (fun z hz => by rw [← href]; exact hz) (fv_at hk9) d ?_
    rw [hres]
    exact hk L _ μ H locs ls hB hL hW hS
  · exact hB.elim
def o_putI (ci k : Nat) (kk : PT) : PT := fun L st μ => match st with
  | .inl v :: .inr (.inr a) :: r => isK a ci ∧ kk L r (uM μ.1 a k v, μ.2)
  | _ => False
theorem s_putI {κ : Kap} {own : String} {cc : ByteArray} {nL lev : Nat} (h : Amb κ own cc nL lev) {pc : Nat} {ci k ix : Nat} {C ref : String} {T : u_T} {kk : PT} {ty0 : Nat → FieldType} (d : decode cc pc = .ok (.putfield ix, 3)) (hc : ci < 11) (hcl : vwCl[ci]? = some (C, T, nf ci)) (hk9 : k < nf ci) (hf : fk ci k = 0) (hin : ∀ w ∈ u_ws C T (nf ci), w ∈ AW) (href : (T k).1 = ref) (hw : Cond.fieldLink own ix ref (T k).2.1 (T k).2.2.1 ∈ AW) (hty : ∀ k, k < nf ci → parseFieldDescriptor (T k).2.2.1 = some (ty0 k)) (hnm : ∀ a, a < nf ci → ∀ b, b < nf ci → a ≠ b → (T a).2.1 ≠ (T b).2.1) (hfin : (T k).2.2.2 = false) (hd : ty0 k = .int) (hk : Snd κ (pc + 3) kk) : Snd κ pc (o_putI ci k kk) := by
  obtain ⟨p, l, e, R, s, m, args, below, meth, c, cells, slots, Q, cA, D, b0, Hs⟩ := κ
  obtain ⟨hx, hb, hml, hown, hts, hlk, hK, hb0, hfr, hlo, hc1, hs1⟩ := h
  intro L st μ H locs ls hB hL hW hS
  unfold o_putI at hB
  split at hB
  · rename_i v a r
    obtain ⟨hB1, hB⟩ := hB
    refine va_put (v := .int (jI v)) (ty := .int) (rest := r.map (tv b0)) hx hb hts hin ty0 hty hnm hown hK hW.2.1 PW_D hS a (PW_ob hB1 hc) hcl k hk9 (ref := ref) (hts _ hw) (fun z hz => by rw [← href]; exact hz) hfin (by rw [hty k hk9, hd]) rfl rfl (by rw [List.length_map, List.length_range]; exact hk9) d (fun H1 locs1 hP1 _ hS1 => ?_)
    rw [PW_putI hB1 hc hk9 (Or.inl hf)] at hP1
    exact hk L r (uM μ.1 a k v, μ.2) H1 locs1 ls hB hL (Wo_put hb0 hW hS hP1 hS1) hS1
  · exact hB.elim
def o_putZ (ci k : Nat) (kk : PT) : PT := fun L st μ => match st with
  | .inl v :: .inr (.inr a) :: r => isK a ci ∧ (v = 0 ∨ v = 1) ∧ kk L r (uM μ.1 a k v, μ.2)
  | _ => False
theorem s_putZ {κ : Kap} {own : String} {cc : ByteArray} {nL lev : Nat} (h : Amb κ own cc nL lev) {pc : Nat} {ci k ix : Nat} {C ref : String} {T : u_T} {kk : PT} {ty0 : Nat → FieldType} (d : decode cc pc = .ok (.putfield ix, 3)) (hc : ci < 11) (hcl : vwCl[ci]? = some (C, T, nf ci)) (hk9 : k < nf ci) (hf : fk ci k = 3) (hin : ∀ w ∈ u_ws C T (nf ci), w ∈ AW) (href : (T k).1 = ref) (hw : Cond.fieldLink own ix ref (T k).2.1 (T k).2.2.1 ∈ AW) (hty : ∀ k, k < nf ci → parseFieldDescriptor (T k).2.2.1 = some (ty0 k)) (hnm : ∀ a, a < nf ci → ∀ b, b < nf ci → a ≠ b → (T a).2.1 ≠ (T b).2.1) (hfin : (T k).2.2.2 = false) (hd : ty0 k = .boolean) (hk : Snd κ (pc + 3) kk) : Snd κ pc (o_putZ ci k kk) := by
  obtain ⟨p, l, e, R, s, m, args, below, meth, c, cells, slots, Q, cA, D, b0, Hs⟩ := κ
  obtain ⟨hx, hb, hml, hown, hts, hlk, hK, hb0, hfr, hlo, hc1, hs1⟩ := h
  intro L st μ H locs ls hB hL hW hS
  unfold o_putZ at hB
  split at hB
  · rename_i v a r
    obtain ⟨hB1, hv, hB⟩ := hB
    refine va_put (v := .int (jI v)) (ty := .boolean) (rest := r.map (tv b0)) hx hb hts hin ty0 hty hnm hown hK hW.2.1 PW_D hS a (PW_ob hB1 hc) hcl k hk9 (ref := ref) (hts _ hw) (fun z hz => by rw [← href]; exact hz) hfin (by rw [hty k hk9, hd]) (jI_bool hv).1 (jI_bool hv).2 (by rw [List.length_map, List.length_range]; exact hk9) d (fun H1 locs1 hP1 _ hS1 => ?_)
    rw [PW_putI hB1 hc hk9 (Or.inr hf)] at hP1
    exact hk L r (uM μ.1 a k v, μ.2) H1 locs1 ls hB hL (Wo_put hb0 hW hS hP1 hS1) hS1
  · exact hB.elim
def o_putL (ci k : Nat) (kk : PT) : PT := fun L st μ => match st with
  | .inr (.inl v) :: .inr (.inr a) :: r => isK a ci ∧ kk L r (μ.1, uM μ.2 a k v)
  | _ => False
theorem s_putL {κ : Kap} {own : String} {cc : ByteArray} {nL lev : Nat} (h : Amb κ own cc nL lev) {pc : Nat} {ci k ix : Nat} {C ref : String} {T : u_T} {kk : PT} {ty0 : Nat → FieldType} (d : decode cc pc = .ok (.putfield ix, 3)) (hc : ci < 11) (hcl : vwCl[ci]? = some (C, T, nf ci)) (hk9 : k < nf ci) (hf : fk ci k = 1) (hin : ∀ w ∈ u_ws C T (nf ci), w ∈ AW) (href : (T k).1 = ref) (hw : Cond.fieldLink own ix ref (T k).2.1 (T k).2.2.1 ∈ AW) (hty : ∀ k, k < nf ci → parseFieldDescriptor (T k).2.2.1 = some (ty0 k)) (hnm : ∀ a, a < nf ci → ∀ b, b < nf ci → a ≠ b → (T a).2.1 ≠ (T b).2.1) (hfin : (T k).2.2.2 = false) (hd : ty0 k = .long) (hk : Snd κ (pc + 3) kk) : Snd κ pc (o_putL ci k kk) := by
  obtain ⟨p, l, e, R, s, m, args, below, meth, c, cells, slots, Q, cA, D, b0, Hs⟩ := κ
  obtain ⟨hx, hb, hml, hown, hts, hlk, hK, hb0, hfr, hlo, hc1, hs1⟩ := h
  intro L st μ H locs ls hB hL hW hS
  unfold o_putL at hB
  split at hB
  · rename_i v a r
    obtain ⟨hB1, hB⟩ := hB
    refine va_put (v := .long (jL v)) (ty := .long) (rest := r.map (tv b0)) hx hb hts hin ty0 hty hnm hown hK hW.2.1 PW_D hS a (PW_ob hB1 hc) hcl k hk9 (ref := ref) (hts _ hw) (fun z hz => by rw [← href]; exact hz) hfin (by rw [hty k hk9, hd]) rfl rfl (by rw [List.length_map, List.length_range]; exact hk9) d (fun H1 locs1 hP1 _ hS1 => ?_)
    rw [PW_putL hB1 hc hk9 hf] at hP1
    exact hk L r (μ.1, uM μ.2 a k v) H1 locs1 ls hB hL (Wo_put hb0 hW hS hP1 hS1) hS1
  · exact hB.elim
def o_iald (kk : PT) : PT := fun L st μ => match st with
  | .inl i :: .inr (.inr a) :: r => isK a 11 ∧ 0 ≤ i ∧ i < ln a ∧ kk L (.inl (μ.1 a i.toNat) :: r) μ
  | _ => False
theorem ln_lt (a : Nat) : ln a < 2147483648 := by
  by_cases h : a < lnL.length
  · have : ∀ i, i < lnL.length → lnL.getD i 0 < 2147483648 := by decide +kernel
    exact this a h
  · unfold ln
    rw [List.getD_eq_getElem?_getD, List.getElem?_eq_none (by omega)]
    decide
theorem s_iald {κ : Kap} {own : String} {cc : ByteArray} {nL lev : Nat} (h : Amb κ own cc nL lev) {pc : Nat} {kk : PT} (d : decode cc pc = .ok (.iaload, 1)) (hk : Snd κ (pc + 1) kk) : Snd κ pc (o_iald kk) := by
  obtain ⟨p, l, e, R, s, m, args, below, meth, c, cells, slots, Q, cA, D, b0, Hs⟩ := κ
  obtain ⟨hx, hb, hml, hown, hts, hlk, hK, hb0, hfr, hlo, hc1, hs1⟩ := h
  intro L st μ H locs ls hB hL hW hS
  unfold o_iald at hB
  split at hB
  · rename_i i a r
    obtain ⟨h1, h2, h3, hB⟩ := hB
    have hn := ln_lt a
    have hcl := jI_cl (x := i) ⟨by omega, by omega⟩
    refine va_iald (rest := r.map (tv b0)) hx hb hK hW.2.1 a 0 (PW_ai h1) rfl (i := jI i) (jI_in h2 h3 hn) d ?_
    rw [hcl]
    exact hk L _ μ H locs ls hB hL hW hS
  · exact hB.elim
def o_lald (kk : PT) : PT := fun L st μ => match st with
  | .inl i :: .inr (.inr a) :: r => isK a 12 ∧ 0 ≤ i ∧ i < ln a ∧ kk L (.inr (.inl (μ.2 a i.toNat)) :: r) μ
  | _ => False
theorem s_lald {κ : Kap} {own : String} {cc : ByteArray} {nL lev : Nat} (h : Amb κ own cc nL lev) {pc : Nat} {kk : PT} (d : decode cc pc = .ok (.laload, 1)) (hk : Snd κ (pc + 1) kk) : Snd κ pc (o_lald kk) := by
  obtain ⟨p, l, e, R, s, m, args, below, meth, c, cells, slots, Q, cA, D, b0, Hs⟩ := κ
  obtain ⟨hx, hb, hml, hown, hts, hlk, hK, hb0, hfr, hlo, hc1, hs1⟩ := h
  intro L st μ H locs ls hB hL hW hS
  unfold o_lald at hB
  split at hB
  · rename_i i a r
    obtain ⟨h1, h2, h3, hB⟩ := hB
    have hn := ln_lt a
    have hcl := jI_cl (x := i) ⟨by omega, by omega⟩
    refine va_lald (rest := r.map (tv b0)) hx hb hK hW.2.1 a 1 (PW_al h1) rfl (i := jI i) (jI_in h2 h3 hn) d ?_
    rw [hcl]
    exact hk L _ μ H locs ls hB hL hW hS
  · exact hB.elim
def o_iast (kk : PT) : PT := fun L st μ => match st with
  | .inl v :: .inl i :: .inr (.inr a) :: r => isK a 11 ∧ 0 ≤ i ∧ i < ln a ∧ kk L r (uM μ.1 a i.toNat v, μ.2)
  | _ => False
def o_last (kk : PT) : PT := fun L st μ => match st with
  | .inr (.inl v) :: .inl i :: .inr (.inr a) :: r => isK a 12 ∧ 0 ≤ i ∧ i < ln a ∧ kk L r (μ.1, uM μ.2 a i.toNat v)
  | _ => False
theorem s_iast {κ : Kap} {own : String} {cc : ByteArray} {nL lev : Nat} (h : Amb κ own cc nL lev) {pc : Nat} {kk : PT} (d : decode cc pc = .ok (.iastore, 1)) (hk : Snd κ (pc + 1) kk) : Snd κ pc (o_iast kk) := by
  obtain ⟨p, l, e, R, s, m, args, below, meth, c, cells, slots, Q, cA, D, b0, Hs⟩ := κ
  obtain ⟨hx, hb, hml, hown, hts, hlk, hK, hb0, hfr, hlo, hc1, hs1⟩ := h
  intro L st μ H locs ls hB hL hW hS
  unfold o_iast at hB
  split at hB
  · rename_i v i a r
    obtain ⟨h1, h2, h3, hB⟩ := hB
    have hn := ln_lt a
    have hcl := jI_cl (x := i) ⟨by omega, by omega⟩
    refine va_iast (x := jI v) (rest := r.map (tv b0)) hx hb hK hW.2.1 PW_D hS a 0 (PW_ai h1) rfl (i := jI i) (jI_in h2 h3 hn) d (fun H1 locs1 hP1 _ hS1 => ?_)
    rw [hcl, PW_stI h1] at hP1
    exact hk L r (uM μ.1 a i.toNat v, μ.2) H1 locs1 ls hB hL (Wo_put hb0 hW hS hP1 hS1) hS1
  · exact hB.elim
theorem s_last {κ : Kap} {own : String} {cc : ByteArray} {nL lev : Nat} (h : Amb κ own cc nL lev) {pc : Nat} {kk : PT} (d : decode cc pc = .ok (.lastore, 1)) (hk : Snd κ (pc + 1) kk) : Snd κ pc (o_last kk) := by
  obtain ⟨p, l, e, R, s, m, args, below, meth, c, cells, slots, Q, cA, D, b0, Hs⟩ := κ
  obtain ⟨hx, hb, hml, hown, hts, hlk, hK, hb0, hfr, hlo, hc1, hs1⟩ := h
  intro L st μ H locs ls hB hL hW hS
  unfold o_last at hB
  split at hB
  · rename_i v i a r
    obtain ⟨h1, h2, h3, hB⟩ := hB
    have hn := ln_lt a
    have hcl := jI_cl (x := i) ⟨by omega, by omega⟩
    refine va_last (x := jL v) (rest := r.map (tv b0)) hx hb hK hW.2.1 PW_D hS a 1 (PW_al h1) rfl (i := jI i) (jI_in h2 h3 hn) d (fun H1 locs1 hP1 _ hS1 => ?_)
    rw [hcl, PW_stL h1] at hP1
    exact hk L r (μ.1, uM μ.2 a i.toNat v) H1 locs1 ls hB hL (Wo_put hb0 hW hS hP1 hS1) hS1
  · exact hB.elim
def o_aald (kk : PT) : PT := fun L st μ => match st with
  | .inl i :: .inr (.inr a) :: r => 0 ≤ i ∧ i < 6 ∧ ((isK a 13 ∧ kk L (.inr (.inr (a + 12 + 4 * i.toNat)) :: r) μ) ∨ (isK a 14 ∧ kk L (.inr (.inr (a + 1 + 37 * i.toNat)) :: r) μ))
  | _ => False
theorem ln_6 {a : Nat} (h : isK a 13 ∨ isK a 14) : ln a = 6 := by
  have : ∀ i, i < 356 → (kd i = 13 ∨ kd i = 14) → ln i = 6 := by decide +kernel
  rcases h with h | h
  · exact this a h.1 (Or.inl h.2)
  · exact this a h.1 (Or.inr h.2)
theorem s_aald {κ : Kap} {own : String} {cc : ByteArray} {nL lev : Nat} (h : Amb κ own cc nL lev) {pc : Nat} {kk : PT} (d : decode cc pc = .ok (.aaload, 1)) (hk : Snd κ (pc + 1) kk) : Snd κ pc (o_aald kk) := by
  obtain ⟨p, l, e, R, s, m, args, below, meth, c, cells, slots, Q, cA, D, b0, Hs⟩ := κ
  obtain ⟨hx, hb, hml, hown, hts, hlk, hK, hb0, hfr, hlo, hc1, hs1⟩ := h
  intro L st μ H locs ls hB hL hW hS
  unfold o_aald at hB
  split at hB
  · rename_i i a r
    obtain ⟨h2, h3, hB⟩ := hB
    have hcl := jI_cl (x := i) ⟨by omega, by omega⟩
    rcases hB with ⟨h1, hB⟩ | ⟨h1, hB⟩
    · have hl6 := ln_6 (Or.inl h1)
      refine va_aldq (C := "CellLoans$Port") (rest := r.map (tv b0)) hx hb hK hW.2.1 a 2 (PW_ar h1 (Or.inl rfl)) rfl (i := jI i) (jI_in h2 (by rw [hl6]; omega) (ln_lt a)) d ?_
      rw [hcl, show RS a i.toNat = some (a + 12 + 4 * i.toNat) from by unfold RS; rw [if_pos h1.2, if_pos (by omega)]]
      exact hk L _ μ H locs ls hB hL hW hS
    · have hl6 := ln_6 (Or.inr h1)
      refine va_aldq (C := "CellLoans$Switch") (rest := r.map (tv b0)) hx hb hK hW.2.1 a 3 (PW_ar h1 (Or.inr rfl)) rfl (i := jI i) (jI_in h2 (by rw [hl6]; omega) (ln_lt a)) d ?_
      rw [hcl, show RS a i.toNat = some (a + 1 + 37 * i.toNat) from by unfold RS; rw [if_neg (by rw [h1.2]; decide), if_pos h1.2, if_pos (by omega)]]
      exact hk L _ μ H locs ls hB hL hW hS
  · exact hB.elim
def o_alen (kk : PT) : PT := fun L st μ => match st with
  | .inr (.inr a) :: r => (isK a 11 ∨ isK a 12 ∨ isK a 13 ∨ isK a 14) ∧ kk L (.inl (ln a) :: r) μ
  | _ => False
end
section
/-! CALLS: what lies below b0 and stays; contracts; calls, returns, loops -/
def nwL : List (String × Nat × MethodName) := [(RX9, 11, yX8_init), (RX9, 18, yX7_init), (RX9, 25, yX5_init), (RX6, 26, yX3_init), (RX6, 33, yX1_init), (RX6, 38, yX2_init), (RX9, 52, yX4_init), (RX8, 56, yX9_within)]
def strT : List String := ["port", "first", "term", "keep", "arrive", "tick", "back", "extend", "repeat", "the buffer would hold more than 600 bytes", "a number is out of its range", "the text has an error", "the script has an error", "there is none of this number", "the port owes fewer cells or has fewer free ones", "the lender has less than it keeps back", "nothing was saved"]
def strL : List (String × Nat × Nat) := [(RX9, 63, 9), (RX9, 288, 10), (RX7, 39, 0), (RX7, 84, 1), (RX7, 48, 2), (RX7, 53, 3), (RX9, 82, 11), (RX5, 78, 4), (RX5, 84, 5), (RX5, 86, 6), (RX5, 88, 7), (RX5, 90, 2), (RX5, 92, 3), (RX5, 94, 8), (RX9, 96, 12), (RX9, 292, 13), (RX9, 246, 14), (RX9, 255, 15), (RX9, 283, 16)]
def strN : List Nat := [4, 5, 4, 4, 6, 4, 4, 6, 6]
def strB : List (List Int32) := [[112, 111, 114, 116], [102, 105, 114, 115, 116], [116, 101, 114, 109], [107, 101, 101, 112], [97, 114, 114, 105, 118, 101], [116, 105, 99, 107], [98, 97, 99, 107], [101, 120, 116, 101, 110, 100], [114, 101, 112, 101, 97, 116]]
/-- what stays all along, below b0 -/
def ZZ (cA : Nat → ClassId) (D : va_G) (b0 : Nat) (Hs : Heap) (U : State) : Prop :=
  va_K D vwCl (tysA cA) U ∧ (∀ q ∈ nwL, va_Nw (.methodLinkNest q.1 q.2.1 q.2.2 "CellLoans") U) ∧ vx_Zq Bundle.tN "UNASSIGNED_STACK" Bundle.steD (fun q => b0 ≤ q) U Hs ∧ vx_Zq Bundle.tN "SUPPRESSED_SENTINEL" Bundle.listD (fun q => b0 ≤ q) U Hs ∧
  ∃ sa sv : Nat → Nat, (∀ q ∈ strL, vk_R q.1 q.2.1 (strT.getD q.2.2 "") (sa q.2.2) U) ∧ vk_S 9 strN strB sa sv (fun q => b0 ≤ q) U Hs
theorem ZZ.warm {cA : Nat → ClassId} {D : va_G} {b0 : Nat} {Hs : Heap} {s U : State} (hW : s.WarmedH U.vm) (h : ZZ cA D b0 Hs s) : ZZ cA D b0 Hs U := by
  obtain ⟨h1, h2, h3, h4, sa, sv, h5, h6⟩ := h
  exact ⟨h1.moved hW.alike, fun q hq => (h2 q hq).warmM hW, h3.moved hW.alike, h4.moved hW.alike, sa, sv, fun q hq => (h5 q hq).warm hW, h6.moved hW.alike⟩
theorem ZZ.same {cA : Nat → ClassId} {D : va_G} {b0 : Nat} {Hs : Heap} {s U : State} (hv : U.vm = s.vm) (h : ZZ cA D b0 Hs s) : ZZ cA D b0 Hs U := by
  obtain ⟨h1, h2, h3, h4, sa, sv, h5, h6⟩ := h
  have hal : s.vm.Alike U.vm := by rw [hv]; exact Vm.Alike.refl _
  exact ⟨h1.moved hal, fun q hq => va_Nw.same rfl hv.symm (h2 q hq), h3.moved hal, h4.moved hal, sa, sv, fun q hq => (h5 q hq).same hv, h6.moved hal⟩
/-- a body's surroundings: Amb, and what stays -/
def Env1 (κ : Kap) (own : String) (cc : ByteArray) (nL lev : Nat) : Prop := Amb κ own cc nL lev ∧ match κ with
  | (_, l, _, _, s, _, _, _, _, _, _, _, _, cA, D, b0, Hs) => l.stackTraces = false ∧ ZZ cA D b0 Hs s
abbrev PcM (cA : Nat → ClassId) (D : va_G) (b0 : Nat) (Hs : Heap) (vs : List Value) (μ : MM) : Array Value → State → Prop := fun v U => v = vs.toArray ∧ Wo cA D b0 Hs μ U.heap ∧ ZZ cA D b0 Hs U
abbrev QcM (cA : Nat → ClassId) (D : va_G) (b0 : Nat) (Hs : Heap) (K : Option AV → MM → Prop) : Array Value → State → Outcome → State → Prop := fun _ st oc t =>
  (∃ (r : Option AV) (μ : MM), oc = .returned (r.map (tv b0)) ∧ K r μ ∧ Wo cA D b0 Hs μ t.heap) ∧ va_F (fun q => b0 ≤ q) st t
abbrev rmL (lev : Nat) : Room := { frames := lev, cells := 0, slots := 0, locals := 40 * lev }
/-- a method's contract: whatever K its predicate gives of arguments and memory holds of answer and memory -/
def MetM (l : Launch) (y : MethodName) (cc : ByteArray) (maxL : Nat) (ret : Option FieldType) (lev : Nat) (wp : List AV → MM → (Option AV → MM → Prop) → Prop) : Prop :=
  ∀ (cA : Nat → ClassId) (D : va_G) (b0 : Nat) (Hs : Heap) (av : List AV) (μ : MM) (K : Option AV → MM → Prop), wp av μ K → Met l y (AWm y cc maxL ret) (rmL lev) (PcM cA D b0 Hs (av.map (tv b0)) μ) (QcM cA D b0 Hs K) 0 0 (fun q => b0 ≤ q)
theorem PcM_blind {cA : Nat → ClassId} {D : va_G} {b0 : Nat} {Hs : Heap} {vs : List Value} {μ : MM} : FrameBlind (PcM cA D b0 Hs vs μ) := fun a U g mk h => ⟨h.1, h.2.1, ZZ.same (s := U) (U := U.calling g mk a) rfl h.2.2⟩
section
variable {p : Program} {l : Launch} {e : Env} {R : Room} {s : State} {m : MethodId} {args : Array Value} {below : List Frame} {meth : Method} {c : Code} {H : Heap} {locs : List Loc} {cells slots : Nat} {Q : State → Prop} {cA : Nat → ClassId} {D : va_G} {b0 : Nat} {Hs : Heap}
theorem bind_call {pc : Nat} {ls : Array Slot} {st0 rest : List Value} {a : Array Value} {K : Option AV → MM → Prop} (hb0 : b0 ≤ s.heap.size) (hr : va_Run p l e R s m args below meth c H locs cells slots 0 0 (F0 m pc ls st0) rest (QcM cA D b0 Hs K a) (fun q => b0 ≤ q)) (hS : va_S (fun q => b0 ≤ q) s.heap H locs)
    (kk : ∀ (r : Option AV) (μ : MM) (H1 : Heap) (locs1 : List Loc), K r μ → Wo cA D b0 Hs μ H1 → va_S (fun q => b0 ≤ q) s.heap H1 locs1 → W p l e R s m args below meth c H1 locs1 cells slots Q (F0 m (pc + 3) ls ((r.map (tv b0)).toList ++ rest))) : W p l e R s m args below meth c H locs cells slots Q (F0 m pc ls st0) := by
  intro T hT X
  obtain ⟨v, st₀, t, T', L, h0, X', hL, e1, e2, ⟨⟨r, μ, hv, hp, hb⟩, hz, hk⟩, st⟩ := hr T hT X
  cases hv
  rw [h0] at hz hk
  obtain ⟨t2, a1, b1⟩ := kk r μ T'.heap (locs ++ L) hp (by rw [e1]; exact hb)
    ⟨Nat.le_trans hS.1 (by rw [e1]; exact hz), fun q h1 h2 => by rw [e1, hk q (Nat.lt_of_lt_of_le h1 hS.1) h2]; exact hS.2.1 q h1 h2, fun q hq => by
      rcases List.mem_append.mp hq with h | h
      · exact hS.2.2 q h
      · exact hL q h⟩ T' rfl X'
  exact ⟨t2, st t2 a1, b1⟩
end
def catS : List AV → Nat
  | [] => 0
  | .inl _ :: r => 1 + catS r
  | .inr (.inl _) :: r => 2 + catS r
  | .inr (.inr _) :: r => 1 + catS r
theorem catS_ok (b0 : Nat) : ∀ r : List AV, ((r.map (tv b0)).map fun v => v.category).sum = catS r
  | [] => rfl
  | .inl x :: r => by
    show 1 + ((r.map (tv b0)).map fun v => v.category).sum = 1 + catS r
    rw [catS_ok b0 r]
  | .inr (.inl x) :: r => by
    show 2 + ((r.map (tv b0)).map fun v => v.category).sum = 2 + catS r
    rw [catS_ok b0 r]
  | .inr (.inr x) :: r => by
    show 1 + ((r.map (tv b0)).map fun v => v.category).sum = 1 + catS r
    rw [catS_ok b0 r]
/-- a method's words among the tables': na parameters (a receiver doesn't count) -/
def MOK (y : MethodName) (bytes : ByteArray) (maxL : Nat) (ret : Option FieldType) (na : Nat) : Prop :=
  Cond.code y bytes maxL ret ∈ lw_tbl ∧ Cond.initialized y.cls ∈ AW ∧ (y.cls ≠ "java/lang/invoke/MethodHandle" ∧ y.cls ≠ "java/lang/invoke/VarHandle" ∧ (parseMethodDescriptor y.desc).map (fun d => d.parameters.length) = some na) ∧ maxL ≤ 20 ∧ plainName y.cls = true
def VOK (y : MethodName) : Prop := Cond.instanceMethod y ∈ AW ∧ Cond.selects y.cls y y ∈ AW
/-- a call of a method of an object of class ci with na arguments -/
def o_callV (na ci : Nat) (wp : List AV → MM → (Option AV → MM → Prop) → Prop) (kk : PT) : PT := fun L st μ => match st.drop na with
  | .inr (.inr a) :: r => isK a ci ∧ catS r ≤ 8 ∧ wp (.inr (.inr a) :: (st.take na).reverse) μ (fun v μ' => kk L (v.toList ++ r) μ')
  | _ => False
theorem take_drop_eq {st : List AV} {na : Nat} {a : AV} {r : List AV} (h : st.drop na = a :: r) : st = st.take na ++ a :: r ∧ (st.take na).length = na := by
  refine ⟨by rw [← h, List.take_append_drop], ?_⟩
  have : na < st.length := by
    have h1 := congrArg List.length h
    rw [List.length_drop, List.length_cons] at h1
    omega
  rw [List.length_take]
  omega
theorem ha_wsV {own : String} {ix : Nat} {y : MethodName} (hl : Cond.methodLink own ix y ∈ AW) (hv : VOK y) (hi : Cond.initialized y.cls ∈ AW) : GoodIn AW ([.methodLink own ix y, .instanceMethod y, .selects y.cls y y, .initialized y.cls] : List Cond) := by
  intro w hw
  have : w ∈ AW := by
    rcases List.mem_cons.mp hw with rfl | hw
    · exact hl
    rcases List.mem_cons.mp hw with rfl | hw
    · exact hv.1
    rcases List.mem_cons.mp hw with rfl | hw
    · exact hv.2
    rcases List.mem_cons.mp hw with rfl | hw
    · exact hi
    cases hw
  exact AW_good w this
theorem ha_wsS {own : String} {ix : Nat} {y : MethodName} (hl : Cond.methodLink own ix y ∈ AW) (hv : Cond.static y ∈ AW) (hi : Cond.initialized y.cls ∈ AW) : GoodIn AW ([.methodLink own ix y, .static y, .initialized y.cls] : List Cond) := by
  intro w hw
  have : w ∈ AW := by
    rcases List.mem_cons.mp hw with rfl | hw
    · exact hl
    rcases List.mem_cons.mp hw with rfl | hw
    · exact hv
    rcases List.mem_cons.mp hw with rfl | hw
    · exact hi
    cases hw
  exact AW_good w this
theorem goodIn_ap2 {big a b : List Cond} (ha : GoodIn big a) (hb : GoodIn big b) : GoodIn big (a ++ b) := fun w h => (List.mem_append.mp h).elim (ha w) (hb w)
theorem s_callV {κ : Kap} {own : String} {cc : ByteArray} {nL lev : Nat} (h : Env1 κ own cc nL lev) {pc ix na ci maxL lev' : Nat} {y : MethodName} {T : u_T} {N : Nat} {bytes : ByteArray} {ret : Option FieldType} {wp : List AV → MM → (Option AV → MM → Prop) → Prop} {kk : PT} (d : decode cc pc = .ok (.invokevirtual ix, 3)) (hM : ∀ l : Launch, l.stackTraces = false → MetM l y bytes maxL ret lev' wp) (hlev : lev' + 1 ≤ lev) (hy : MOK y bytes maxL ret na) (hv : VOK y) (hlink : Cond.methodLink own ix y ∈ AW) (hc : ci < 11) (hcl : vwCl[ci]? = some (y.cls, T, N)) (hk : Snd κ (pc + 3) kk) : Snd κ pc (o_callV na ci wp kk) := by
  obtain ⟨p, l, e, R, s, m, args, below, meth, c, cells, slots, Q, cA, D, b0, Hs⟩ := κ
  obtain ⟨⟨hx, hb, hml, hown, hts, hlk, hK, hb0, hfr, hlo, hc1, hs1⟩, htr, hZ⟩ := h
  obtain ⟨y1, y2, y3, y4, y5⟩ := hy
  intro L st μ H locs ls hB hL hW hS
  unfold o_callV at hB
  split at hB
  · rename_i a r hst
    obtain ⟨g1, g2, g3⟩ := hB
    obtain ⟨t1, t2⟩ := take_drop_eq hst
    refine bind_call hb0 (va_runV (As := (st.take na).reverse.map (tv b0)) (rest := r.map (tv b0)) (b := b0 + a) (own := own) (Ts := AW) (C := y.cls) (n := na) ⟨hx, hb, rfl, hown, hts⟩ (hM l htr cA D b0 Hs _ μ _ g3)
      (cwV (ws' := AW) na hts (goodIn_ap2 (ha_wsV hlink hv y2) (AWm_good y1)) rfl rfl rfl ⟨rfl, y3⟩ ⟨by rw [hfr]; exact hlev, by rw [hlo]; show 8 + (maxL + 11) + 40 * lev' ≤ 40 * lev; omega⟩)
      ⟨PcM_blind, va_recv hK hW.2.1 hcl (PW_ob g1 hc), fun U hU hWm => ⟨rfl, by rw [hU]; exact hW, hZ.warm hWm⟩⟩ rfl (by rw [List.length_map, List.length_reverse, t2]) (hL.1.trans rfl) (by rw [← List.map_reverse, List.reverse_reverse]; exact (congrArg (List.map (tv b0)) t1).trans List.map_append) (lv_room (by rw [catS_ok]; exact g2)) d ⟨hc1, hs1⟩) hS (fun v μ' H1 locs1 hk1 hW1 hS1 => ?_)
    have e1 : (v.map (tv b0)).toList ++ r.map (tv b0) = (v.toList ++ r).map (tv b0) := by cases v <;> rfl
    rw [e1]
    exact hk L _ μ' H1 locs1 ls hk1 hL hW1 hS1
  · exact hB.elim

/-- a static call with na arguments -/
def o_callS (na : Nat) (wp : List AV → MM → (Option AV → MM → Prop) → Prop) (kk : PT) : PT := fun L st μ => na ≤ st.length ∧ catS (st.drop na) ≤ 8 ∧ wp (st.take na).reverse μ (fun v μ' => kk L (v.toList ++ st.drop na) μ')
theorem s_callS {κ : Kap} {own : String} {cc : ByteArray} {nL lev : Nat} (h : Env1 κ own cc nL lev) {pc ix na maxL lev' : Nat} {y : MethodName} {bytes : ByteArray} {ret : Option FieldType} {wp : List AV → MM → (Option AV → MM → Prop) → Prop} {kk : PT} (d : decode cc pc = .ok (.invokestatic ix, 3)) (hM : ∀ l : Launch, l.stackTraces = false → MetM l y bytes maxL ret lev' wp) (hlev : lev' + 1 ≤ lev) (hy : MOK y bytes maxL ret na) (hv : Cond.static y ∈ AW) (hlink : Cond.methodLink own ix y ∈ AW) (hk : Snd κ (pc + 3) kk) : Snd κ pc (o_callS na wp kk) := by
  obtain ⟨p, l, e, R, s, m, args, below, meth, c, cells, slots, Q, cA, D, b0, Hs⟩ := κ
  obtain ⟨⟨hx, hb, hml, hown, hts, hlk, hK, hb0, hfr, hlo, hc1, hs1⟩, htr, hZ⟩ := h
  obtain ⟨y1, y2, y3, y4, y5⟩ := hy
  intro L st μ H locs ls hB hL hW hS
  obtain ⟨g1, g2, g3⟩ := hB
  have t2 : (st.take na).length = na := by rw [List.length_take]; omega
  refine bind_call hb0 (va_runS (As := (st.take na).reverse.map (tv b0)) (rest := (st.drop na).map (tv b0)) (own := own) (Ts := AW) (n := na) ⟨hx, hb, rfl, hown, hts⟩ (hM l htr cA D b0 Hs _ μ _ g3)
      (va_cwS (ws' := AW) na hts (goodIn_ap2 (ha_wsS hlink hv y2) (AWm_good y1)) rfl rfl rfl y3 ⟨by rw [hfr]; exact hlev, by rw [hlo]; show 8 + (maxL + 11) + 40 * lev' ≤ 40 * lev; omega⟩)
      ⟨PcM_blind, fun U hU hWm => ⟨rfl, by rw [hU]; exact hW, hZ.warm hWm⟩⟩ rfl (by rw [List.length_map, List.length_reverse, t2]) (hL.1.trans rfl) (by rw [← List.map_reverse, List.reverse_reverse, ← List.map_append, List.take_append_drop]) (lv_room (by rw [catS_ok]; exact g2)) d ⟨hc1, hs1⟩) hS (fun v μ' H1 locs1 hk1 hW1 hS1 => ?_)
  have e1 : (v.map (tv b0)).toList ++ (st.drop na).map (tv b0) = (v.toList ++ st.drop na).map (tv b0) := by cases v <;> rfl
  rw [e1]
  exact hk L _ μ' H1 locs1 ls hk1 hL hW1 hS1
/-- the same of a nest mate's private static method -/
theorem s_callSN {κ : Kap} {own : String} {cc : ByteArray} {nL lev : Nat} (h : Env1 κ own cc nL lev) {pc ix na maxL lev' : Nat} {y : MethodName} {bytes : ByteArray} {ret : Option FieldType} {wp : List AV → MM → (Option AV → MM → Prop) → Prop} {kk : PT} (d : decode cc pc = .ok (.invokestatic ix, 3)) (hM : ∀ l : Launch, l.stackTraces = false → MetM l y bytes maxL ret lev' wp) (hlev : lev' + 1 ≤ lev) (hy : MOK y bytes maxL ret na) (hv : Cond.static y ∈ AW) (hlink : (own, ix, y) ∈ nwL) (hk : Snd κ (pc + 3) kk) : Snd κ pc (o_callS na wp kk) := by
  obtain ⟨p, l, e, R, s, m, args, below, meth, c, cells, slots, Q, cA, D, b0, Hs⟩ := κ
  obtain ⟨⟨hx, hb, hml, hown, hts, hlk, hK, hb0, hfr, hlo, hc1, hs1⟩, htr, hZ⟩ := h
  obtain ⟨y1, y2, y3, y4, y5⟩ := hy
  intro L st μ H locs ls hB hL hW hS
  obtain ⟨g1, g2, g3⟩ := hB
  have t2 : (st.take na).length = na := by rw [List.length_take]; omega
  refine bind_call hb0 (va_runSN (As := (st.take na).reverse.map (tv b0)) (rest := (st.drop na).map (tv b0)) (own := own) (host := "CellLoans") (Ts := AW) (n := na) ⟨hx, hb, rfl, hown, hts⟩ (hM l htr cA D b0 Hs _ μ _ g3)
      ⟨va_cnB (ws' := AW) na hts (AWm_good y1) rfl rfl rfl (hZ.2.1 _ hlink) (hts _ y2) y3 ⟨by rw [hfr]; exact hlev, by rw [hlo]; show 8 + (maxL + 11) + 40 * lev' ≤ 40 * lev; omega⟩, hts _ hv, trivial⟩
      ⟨PcM_blind, fun U hU hWm => ⟨rfl, by rw [hU]; exact hW, hZ.warm hWm⟩⟩ rfl (by rw [List.length_map, List.length_reverse, t2]) (hL.1.trans rfl) (by rw [← List.map_reverse, List.reverse_reverse, ← List.map_append, List.take_append_drop]) (lv_room (by rw [catS_ok]; exact g2)) d ⟨hc1, hs1⟩) hS (fun v μ' H1 locs1 hk1 hW1 hS1 => ?_)
  have e1 : (v.map (tv b0)).toList ++ (st.drop na).map (tv b0) = (v.toList ++ st.drop na).map (tv b0) := by cases v <;> rfl
  rw [e1]
  exact hk L _ μ' H1 locs1 ls hk1 hL hW1 hS1
/-! returns -/
def RetOK (κ : Kap) (ret : Option FieldType) (post : Option AV → MM → Prop) : Prop := match κ with
  | (p, l, e, R, s, m, args, below, meth, c, cells, slots, Q, cA, D, b0, Hs) => meth.sig.returnType = ret ∧ ∀ (H : Heap) (locs : List Loc) (g : JFrame), W p l e R s m args below meth c H locs cells slots (MQ below (QcM cA D b0 Hs post) args s cells slots (fun q => b0 ≤ q)) g → W p l e R s m args below meth c H locs cells slots Q g
def o_iret (post : Option AV → MM → Prop) : PT := fun _ st μ => match st with
  | [.inl x] => post (some (.inl x)) μ
  | _ => False
def o_zret (post : Option AV → MM → Prop) : PT := fun _ st μ => match st with
  | [.inl x] => (x = 0 ∨ x = 1) ∧ post (some (.inl x)) μ
  | _ => False
def o_lret (post : Option AV → MM → Prop) : PT := fun _ st μ => match st with
  | [.inr (.inl x)] => post (some (.inr (.inl x))) μ
  | _ => False
def o_vret (post : Option AV → MM → Prop) : PT := fun _ st μ => match st with
  | [] => post none μ
  | _ => False
theorem s_iret {κ : Kap} {own : String} {cc : ByteArray} {nL lev : Nat} (h : Env1 κ own cc nL lev) {pc : Nat} {post : Option AV → MM → Prop} (hr : RetOK κ (some .int) post) (d : decode cc pc = .ok (.ireturn, 1)) : Snd κ pc (o_iret post) := by
  obtain ⟨p, l, e, R, s, m, args, below, meth, c, cells, slots, Q, cA, D, b0, Hs⟩ := κ
  obtain ⟨⟨hx, hb, hml, hown, hts, hlk, hK, hb0, hfr, hlo, hc1, hs1⟩, htr, hZ⟩ := h
  intro L st μ H locs ls hB hL hW hS
  unfold o_iret at hB
  split at hB
  · rename_i x
    exact hr.2 _ _ _ (W.iret (v := jI x) hx hb hr.1 (fun t ht hWm => ⟨⟨some (.inl x), μ, rfl, hB, by rw [ht]; exact hW⟩, hS.F ht⟩) hS.2.2 d hlk)
  · exact hB.elim
theorem s_zret {κ : Kap} {own : String} {cc : ByteArray} {nL lev : Nat} (h : Env1 κ own cc nL lev) {pc : Nat} {post : Option AV → MM → Prop} (hr : RetOK κ (some .boolean) post) (d : decode cc pc = .ok (.ireturn, 1)) : Snd κ pc (o_zret post) := by
  obtain ⟨p, l, e, R, s, m, args, below, meth, c, cells, slots, Q, cA, D, b0, Hs⟩ := κ
  obtain ⟨⟨hx, hb, hml, hown, hts, hlk, hK, hb0, hfr, hlo, hc1, hs1⟩, htr, hZ⟩ := h
  intro L st μ H locs ls hB hL hW hS
  unfold o_zret at hB
  split at hB
  · rename_i x
    exact hr.2 _ _ _ (W.zret (v := jI x) hx hb hr.1 (jI_bool hB.1).1 (fun t ht hWm => ⟨⟨some (.inl x), μ, rfl, hB.2, by rw [ht]; exact hW⟩, hS.F ht⟩) hS.2.2 d hlk)
  · exact hB.elim
theorem s_lret {κ : Kap} {own : String} {cc : ByteArray} {nL lev : Nat} (h : Env1 κ own cc nL lev) {pc : Nat} {post : Option AV → MM → Prop} (hr : RetOK κ (some .long) post) (d : decode cc pc = .ok (.lreturn, 1)) : Snd κ pc (o_lret post) := by
  obtain ⟨p, l, e, R, s, m, args, below, meth, c, cells, slots, Q, cA, D, b0, Hs⟩ := κ
  obtain ⟨⟨hx, hb, hml, hown, hts, hlk, hK, hb0, hfr, hlo, hc1, hs1⟩, htr, hZ⟩ := h
  intro L st μ H locs ls hB hL hW hS
  unfold o_lret at hB
  split at hB
  · rename_i x
    exact hr.2 _ _ _ (W.lret (v := jL x) hx hb hr.1 (fun t ht hWm => ⟨⟨some (.inr (.inl x)), μ, rfl, hB, by rw [ht]; exact hW⟩, hS.F ht⟩) hS.2.2 d hlk)
  · exact hB.elim
theorem s_vret {κ : Kap} {own : String} {cc : ByteArray} {nL lev : Nat} (h : Env1 κ own cc nL lev) {pc : Nat} {post : Option AV → MM → Prop} (hr : RetOK κ none post) (d : decode cc pc = .ok (.return_, 1)) : Snd κ pc (o_vret post) := by
  obtain ⟨p, l, e, R, s, m, args, below, meth, c, cells, slots, Q, cA, D, b0, Hs⟩ := κ
  obtain ⟨⟨hx, hb, hml, hown, hts, hlk, hK, hb0, hfr, hlo, hc1, hs1⟩, htr, hZ⟩ := h
  intro L st μ H locs ls hB hL hW hS
  unfold o_vret at hB
  split at hB
  · exact hr.2 _ _ _ (W.vret hx hb hr.1 (fun t ht hWm => ⟨⟨none, μ, rfl, hB, by rw [ht]; exact hW⟩, hS.F ht⟩) hS.2.2 d hlk)
  · exact hB.elim
/-! loops: the least predicate that a body of bytecode, run from the head back to the head, goes on from -/
def LFP (F : PT → PT) : PT := fun L st μ => ∀ P : PT, (∀ Z : PT, (∀ L st μ, Z L st μ → P L st μ) → ∀ L st μ, F Z L st μ → P L st μ) → P L st μ
theorem lfp_in {F : PT → PT} {L : List (Option AV)} {st : List AV} {μ : MM} (h : F (LFP F) L st μ) : LFP F L st μ := fun P hP => hP (LFP F) (fun _ _ _ q => q P hP) L st μ h
theorem s_lfp {κ : Kap} {pc : Nat} {F : PT → PT} (h : ∀ K : PT, Snd κ pc K → Snd κ pc (F K)) : Snd κ pc (LFP F) := by
  obtain ⟨p, l, e, R, s, m, args, below, meth, c, cells, slots, Q, cA, D, b0, Hs⟩ := κ
  intro L st μ H locs ls hB hL hW hS
  refine hB (fun L st μ => ∀ (H : Heap) (locs : List Loc) (ls : Array Slot), LH b0 c.maxLocals ls L → Wo cA D b0 Hs μ H → va_S (fun q => b0 ≤ q) s.heap H locs → W p l e R s m args below meth c H locs cells slots Q (F0 m pc ls (st.map (tv b0)))) ?_ H locs ls hL hW hS
  intro Z hZ L st μ hF H locs ls hL hW hS
  exact h Z (fun L st μ H locs ls hB hL hW hS => hZ L st μ hB H locs ls hL hW hS) L st μ H locs ls hF hL hW hS
/-! a contract out of a walk -/
def eL : List AV → List (Option AV)
  | [] => []
  | .inl x :: r => some (.inl x) :: eL r
  | .inr (.inl x) :: r => some (.inr (.inl x)) :: none :: eL r
  | .inr (.inr x) :: r => some (.inr (.inr x)) :: eL r
theorem eL_len (b0 : Nat) : ∀ av : List AV, (lg_sl (av.map (tv b0))).length = (eL av).length
  | [] => rfl
  | .inl x :: r => by
    have h := eL_len b0 r
    show (lg_sl (Value.int (jI x) :: r.map (tv b0))).length = _
    simp only [lg_sl, List.flatMap_cons, eL, List.length_append, List.length_cons] at h ⊢
    rw [h]
    simp [Value.category]
    omega
  | .inr (.inl x) :: r => by
    have h := eL_len b0 r
    show (lg_sl (Value.long (jL x) :: r.map (tv b0))).length = _
    simp only [lg_sl, List.flatMap_cons, eL, List.length_append, List.length_cons] at h ⊢
    rw [h]
    simp [Value.category]
    omega
  | .inr (.inr x) :: r => by
    have h := eL_len b0 r
    show (lg_sl (Value.ref (b0 + x) :: r.map (tv b0))).length = _
    simp only [lg_sl, List.flatMap_cons, eL, List.length_append, List.length_cons] at h ⊢
    rw [h]
    simp [Value.category]
    omega
theorem eL_args (b0 k : Nat) : ∀ (av : List AV) (i j : Nat) (v : AV), (eL av ++ List.replicate k none)[i]? = some (some v) → (j + i, tv b0 v) ∈ lv_args j (av.map (tv b0))
  | [], i, j, v, h => by
    exfalso
    have h1 : (List.replicate k (none : Option AV))[i]? = some (some v) := h
    rw [List.getElem?_replicate] at h1
    split at h1 <;> cases h1
  | .inl x :: r, i, j, v, h => by
    show (j + i, tv b0 v) ∈ (j, Value.int (jI x)) :: lv_args (j + 1) (r.map (tv b0))
    cases i with
    | zero =>
      have h1 : some (some (Sum.inl x : AV)) = some (some v) := h
      cases h1
      exact List.mem_cons_self
    | succ i =>
      have h2 := eL_args b0 k r i (j + 1) v h
      rw [show j + 1 + i = j + (i + 1) by omega] at h2
      exact List.mem_cons_of_mem _ h2
  | .inr (.inl x) :: r, i, j, v, h => by
    show (j + i, tv b0 v) ∈ (j, Value.long (jL x)) :: lv_args (j + 2) (r.map (tv b0))
    cases i with
    | zero =>
      have h1 : some (some (Sum.inr (Sum.inl x) : AV)) = some (some v) := h
      cases h1
      exact List.mem_cons_self
    | succ i =>
      cases i with
      | zero =>
        have h1 : some (none : Option AV) = some (some v) := h
        cases h1
      | succ i =>
        have h2 := eL_args b0 k r i (j + 2) v h
        rw [show j + 2 + i = j + (i + 1 + 1) by omega] at h2
        exact List.mem_cons_of_mem _ h2
  | .inr (.inr x) :: r, i, j, v, h => by
    show (j + i, tv b0 v) ∈ (j, Value.ref (b0 + x)) :: lv_args (j + 1) (r.map (tv b0))
    cases i with
    | zero =>
      have h1 : some (some (Sum.inr (Sum.inr x) : AV)) = some (some v) := h
      cases h1
      exact List.mem_cons_self
    | succ i =>
      have h2 := eL_args b0 k r i (j + 1) v h
      rw [show j + 1 + i = j + (i + 1) by omega] at h2
      exact List.mem_cons_of_mem _ h2
theorem entry_LH {b0 nL : Nat} {av : List AV} (h : (eL av).length ≤ nL) : LH b0 nL ((lg_sl (av.map (tv b0)) ++ List.replicate (nL - (lg_sl (av.map (tv b0))).length) Slot.unset).toArray) (eL av ++ List.replicate (nL - (eL av).length) none) := by
  have h1 := lv_entry (av.map (tv b0)) (n := nL) (by rw [eL_len]; exact h)
  refine ⟨h1.1, h1.2.1, fun i v hv => ?_⟩
  have h2 := eL_args b0 _ av i 0 v hv
  rw [Nat.zero_add] at h2
  exact h1.2.2 _ h2
def wpB (nL : Nat) (B : (Option AV → MM → Prop) → PT) : List AV → MM → (Option AV → MM → Prop) → Prop := fun av μ K => (eL av).length ≤ nL ∧ B K (eL av ++ List.replicate (nL - (eL av).length) none) [] μ
theorem met_of {y : MethodName} {cc : ByteArray} {maxL lev : Nat} {ret : Option FieldType} {B : (Option AV → MM → Prop) → PT} (hy : plainName y.cls = true) (hB : ∀ (κ : Kap) (post : Option AV → MM → Prop), Env1 κ y.cls cc maxL lev → RetOK κ ret post → Snd κ 0 (B post)) : ∀ l : Launch, l.stackTraces = false → MetM l y cc maxL ret lev (wpB maxL B) := by
  intro l htr cA D b0 Hs av μ K hwp
  refine Met.ofW (cc := cc) (maxL := maxL) (ret := ret) (ws' := AW) hy rfl ?_
  intro p e s m args below meth c s₁ Bd hml hv
  obtain ⟨rfl, hW, hZ⟩ := hv
  have hts := atoms_spec (ws := AWm y cc maxL ret) Bd.pre
  have hown : s.vm.findClass y.cls = some m.cls := findClass_of_methodNamed Bd.named
  rw [lg_entry_eq]
  have hE := entry_LH (b0 := b0) hwp.1
  have key := hB (p, l, e, (headSpec (AWm y cc maxL ret) (rmL lev)).room, s, m, (av.map (tv b0)).toArray, below, meth, c, 0, 0, MQ below (QcM cA D b0 Hs K) (av.map (tv b0)).toArray s 0 0 (fun q => b0 ≤ q), cA, D, b0, Hs) K
    ⟨⟨Bd.exec, Bd.bytes, hml, hown, fun w hw => hts w (List.mem_cons_of_mem _ hw), Bd.notSynchronized, hZ.1, by have := hW.1; omega, rfl, rfl, Nat.zero_le _, Nat.zero_le _⟩, htr, hZ⟩ ⟨Bd.returns, fun _ _ _ h => h⟩
  exact key _ [] μ s.heap [] _ hwp.2 (by rw [hml]; exact hE) hW va_S.rf
end
section
/-! BITS, lengths, Math.min and Math.max -/
theorem nI_jI (n : Nat) : nI n = jI (n : Int) := (Int32.ofInt_eq_ofNat (n := n)).symm
theorem lN_jL (n : Nat) : lN n = jL (n : Int) := (Int64.ofInt_eq_ofNat (n := n)).symm
theorem jI_nat (x : Int) : (jI x).toBitVec.toNat = (x % 4294967296).toNat := by
  show (BitVec.ofInt 32 x).toNat = _
  rw [BitVec.toNat_ofInt]
  rfl
theorem jL_nat (x : Int) : (jL x).toBitVec.toNat = (x % 18446744073709551616).toNat := by
  show (BitVec.ofInt 64 x).toNat = _
  rw [BitVec.toNat_ofInt]
  rfl
theorem jI_mod (x : Int) : jI (x % 4294967296) = jI x := by
  apply Int32.toBitVec.inj
  apply BitVec.eq_of_toNat_eq
  rw [jI_nat, jI_nat, Int.emod_emod_of_dvd x (Int.dvd_refl _)]
theorem jL_mod (x : Int) : jL (x % 18446744073709551616) = jL x := by
  apply Int64.toBitVec.inj
  apply BitVec.eq_of_toNat_eq
  rw [jL_nat, jL_nat, Int.emod_emod_of_dvd x (Int.dvd_refl _)]
theorem jI_ofnat {z : Int32} {n : Nat} (h : z.toBitVec.toNat = n) : z = jI (n : Int) := by
  apply Int32.toBitVec.inj
  apply BitVec.eq_of_toNat_eq
  have h2 := z.toBitVec.isLt
  rw [jI_nat, h]
  omega
theorem jL_ofnat {z : Int64} {n : Nat} (h : z.toBitVec.toNat = n) : z = jL (n : Int) := by
  apply Int64.toBitVec.inj
  apply BitVec.eq_of_toNat_eq
  have h2 := z.toBitVec.isLt
  rw [jL_nat, h]
  omega
theorem jI_mask (x : Int) {y : Int} {n : Nat} (hn : n ≤ 32) (hm : (jI y).toBitVec.toNat = 2 ^ n - 1) : jI x &&& jI y = jI (x % (2 ^ n : Nat)) := by
  have h1 : (jI x &&& jI y).toBitVec.toNat = (x % (2 ^ n : Nat)).toNat := by
    show ((jI x).toBitVec &&& (jI y).toBitVec).toNat = _
    rw [BitVec.toNat_and, hm, Nat.and_two_pow_sub_one_eq_mod, jI_nat]
    have hd : ((2 ^ n : Nat) : Int) ∣ 4294967296 := by
      rw [show (4294967296 : Int) = ((2 ^ 32 : Nat) : Int) from rfl]
      exact Int.natCast_dvd_natCast.mpr (Nat.pow_dvd_pow 2 hn)
    have h0 := Int.emod_nonneg x (show (4294967296 : Int) ≠ 0 by decide)
    have e1 : (((x % 4294967296).toNat % 2 ^ n : Nat) : Int) = x % (2 ^ n : Nat) := by
      rw [Int.natCast_emod, Int.toNat_of_nonneg h0, Int.emod_emod_of_dvd x hd]
    omega
  rw [jI_ofnat h1]
  have h0 := Int.emod_nonneg x (show ((2 ^ n : Nat) : Int) ≠ 0 by have := Nat.two_pow_pos n; omega)
  rw [Int.toNat_of_nonneg h0]
theorem jL_mask (x : Int) {y : Int} {n : Nat} (hn : n ≤ 64) (hm : (jL y).toBitVec.toNat = 2 ^ n - 1) : jL x &&& jL y = jL (x % (2 ^ n : Nat)) := by
  have h1 : (jL x &&& jL y).toBitVec.toNat = (x % (2 ^ n : Nat)).toNat := by
    show ((jL x).toBitVec &&& (jL y).toBitVec).toNat = _
    rw [BitVec.toNat_and, hm, Nat.and_two_pow_sub_one_eq_mod, jL_nat]
    have hd : ((2 ^ n : Nat) : Int) ∣ 18446744073709551616 := by
      rw [show (18446744073709551616 : Int) = ((2 ^ 64 : Nat) : Int) from rfl]
      exact Int.natCast_dvd_natCast.mpr (Nat.pow_dvd_pow 2 hn)
    have h0 := Int.emod_nonneg x (show (18446744073709551616 : Int) ≠ 0 by decide)
    have e1 : (((x % 18446744073709551616).toNat % 2 ^ n : Nat) : Int) = x % (2 ^ n : Nat) := by
      rw [Int.natCast_emod, Int.toNat_of_nonneg h0, Int.emod_emod_of_dvd x hd]
    omega
  rw [jL_ofnat h1]
  have h0 := Int.emod_nonneg x (show ((2 ^ n : Nat) : Int) ≠ 0 by have := Nat.two_pow_pos n; omega)
  rw [Int.toNat_of_nonneg h0]
theorem sh5 : ∀ k : Nat, k < 32 → ((jI (k : Int)).toUInt32 &&& Int32.toUInt32 31).toBitVec.toNat = k ∧ (jI (k : Int) &&& 31).toBitVec.smod 32 = BitVec.ofNat 32 k := by decide +kernel
theorem sh6 : ∀ k : Nat, k < 64 → ((jI (k : Int)).toInt64.toUInt64 &&& Int64.toUInt64 63).toBitVec.toNat = k ∧ ((jI (k : Int)).toInt64 &&& 63).toBitVec.smod 64 = BitVec.ofNat 64 k := by decide +kernel
theorem jI_ushr (x : Int) {y : Int} (h0 : 0 ≤ y) (h1 : y < 32) : ((jI x).toUInt32 >>> ((jI y).toUInt32 &&& Int32.toUInt32 31)).toInt32 = jI ((x % 4294967296) / (2 ^ y.toNat : Nat)) := by
  obtain ⟨k, rfl⟩ := Int.eq_ofNat_of_zero_le h0
  have hk : k < 32 := by omega
  have h2 := (sh5 k hk).1
  have e1 : (((jI x).toUInt32 >>> ((jI (k : Int)).toUInt32 &&& Int32.toUInt32 31)).toInt32).toBitVec.toNat = ((x % 4294967296) / (2 ^ k : Nat)).toNat := by
    have := pk_ushr (jI x) (jI (k : Int)) k (by
      show (((jI (k : Int)).toUInt32 &&& Int32.toUInt32 31).toBitVec % 32).toNat = k
      rw [BitVec.toNat_umod, h2]
      exact Nat.mod_eq_of_lt hk)
    rw [this, jI_nat]
    have h0 := Int.emod_nonneg x (show (4294967296 : Int) ≠ 0 by decide)
    have e2 : (((x % 4294967296).toNat / 2 ^ k : Nat) : Int) = (x % 4294967296) / (2 ^ k : Nat) := by
      rw [Int.natCast_ediv, Int.toNat_of_nonneg h0]
    rw [← e2, Int.toNat_natCast]
  rw [jI_ofnat e1]
  have h0 := Int.emod_nonneg x (show (4294967296 : Int) ≠ 0 by decide)
  rw [Int.toNat_of_nonneg (Int.ediv_nonneg h0 (Int.natCast_nonneg _))]
  rfl
theorem jI_shr {x y : Int} (hx : R32 x) (h0 : 0 ≤ y) (h1 : y < 32) : jI x >>> (jI y &&& 31) = jI (x / (2 ^ y.toNat : Nat)) := by
  obtain ⟨k, rfl⟩ := Int.eq_ofNat_of_zero_le h0
  have hk : k < 32 := by omega
  have h2 := (sh5 k hk).2
  have e1 := pk_shr (jI x) (jI (k : Int) &&& 31) k (by rw [h2, BitVec.toNat_ofNat]; exact Nat.mod_eq_of_lt (by omega))
  rw [jI_toInt hx, Int.shiftRight_eq_div_pow] at e1
  rw [← Int32.ofInt_toInt (jI x >>> (jI (k : Int) &&& 31)), e1]
  rfl
theorem jL_ushr (x : Int) {y : Int} (h0 : 0 ≤ y) (h1 : y < 64) : ((jL x).toUInt64 >>> ((jI y).toInt64.toUInt64 &&& Int64.toUInt64 63)).toInt64 = jL ((x % 18446744073709551616) / (2 ^ y.toNat : Nat)) := by
  obtain ⟨k, rfl⟩ := Int.eq_ofNat_of_zero_le h0
  have hk : k < 64 := by omega
  have h2 := (sh6 k hk).1
  have e1 : (((jL x).toUInt64 >>> ((jI (k : Int)).toInt64.toUInt64 &&& Int64.toUInt64 63)).toInt64).toBitVec.toNat = ((x % 18446744073709551616) / (2 ^ k : Nat)).toNat := by
    show ((jL x).toBitVec >>> (((jI (k : Int)).toInt64.toUInt64 &&& Int64.toUInt64 63).toBitVec % 64).toNat).toNat = _
    rw [BitVec.toNat_ushiftRight, BitVec.toNat_umod, h2, jL_nat]
    rw [show k % BitVec.toNat (64 : BitVec 64) = k from Nat.mod_eq_of_lt hk, Nat.shiftRight_eq_div_pow]
    have h0 := Int.emod_nonneg x (show (18446744073709551616 : Int) ≠ 0 by decide)
    have e2 : (((x % 18446744073709551616).toNat / 2 ^ k : Nat) : Int) = (x % 18446744073709551616) / (2 ^ k : Nat) := by
      rw [Int.natCast_ediv, Int.toNat_of_nonneg h0]
    rw [← e2, Int.toNat_natCast]
  rw [jL_ofnat e1]
  have h0 := Int.emod_nonneg x (show (18446744073709551616 : Int) ≠ 0 by decide)
  rw [Int.toNat_of_nonneg (Int.ediv_nonneg h0 (Int.natCast_nonneg _))]
  rfl
theorem jL_shr {x y : Int} (hx : R64 x) (h0 : 0 ≤ y) (h1 : y < 64) : jL x >>> ((jI y).toInt64 &&& 63) = jL (x / (2 ^ y.toNat : Nat)) := by
  obtain ⟨k, rfl⟩ := Int.eq_ofNat_of_zero_le h0
  have hk : k < 64 := by omega
  have h2 := (sh6 k hk).2
  have e1 : (jL x >>> ((jI (k : Int)).toInt64 &&& 63)).toInt = x >>> k := by
    show ((jL x).toBitVec.sshiftRight' (((jI (k : Int)).toInt64 &&& 63).toBitVec.smod 64)).toInt = _
    rw [h2]
    show ((jL x).toBitVec.sshiftRight (BitVec.ofNat 64 k).toNat).toInt = _
    rw [BitVec.toInt_sshiftRight, BitVec.toNat_ofNat, Nat.mod_eq_of_lt (by omega)]
    show (jL x).toInt >>> k = _
    rw [jL_toInt hx]
  rw [Int.shiftRight_eq_div_pow] at e1
  rw [← Int64.ofInt_toInt (jL x >>> ((jI (k : Int)).toInt64 &&& 63)), e1]
  rfl
theorem jL_shl (x : Int) {y : Int} (h0 : 0 ≤ y) (h1 : y < 64) : jL x <<< ((jI y).toInt64 &&& 63) = jL (x * (2 ^ y.toNat : Nat)) := by
  obtain ⟨k, rfl⟩ := Int.eq_ofNat_of_zero_le h0
  have hk : k < 64 := by omega
  have h2 := (sh6 k hk).2
  apply Int64.toBitVec.inj
  apply BitVec.eq_of_toNat_eq
  show ((jL x).toBitVec <<< (((jI (k : Int)).toInt64 &&& 63).toBitVec.smod 64)).toNat = _
  rw [h2]
  show ((jL x).toBitVec <<< (BitVec.ofNat 64 k).toNat).toNat = _
  rw [BitVec.toNat_shiftLeft, BitVec.toNat_ofNat, Nat.mod_eq_of_lt (show k < 2 ^ 64 by omega), jL_nat, jL_nat, Nat.shiftLeft_eq]
  have h0 := Int.emod_nonneg x (show (18446744073709551616 : Int) ≠ 0 by decide)
  have e1 : ((((x % 18446744073709551616).toNat * 2 ^ k) % 2 ^ 64 : Nat) : Int) = (x * (2 ^ k : Nat)) % 18446744073709551616 := by
    rw [Int.natCast_emod, Int.natCast_mul, Int.toNat_of_nonneg h0]
    show (x % 18446744073709551616 * (2 ^ k : Nat)) % 18446744073709551616 = _
    rw [Int.mul_emod, Int.emod_emod_of_dvd _ (Int.dvd_refl _), ← Int.mul_emod]
  show _ = ((x * (2 ^ k : Nat)) % 18446744073709551616).toNat
  omega
theorem jL_or8 {x y : Int} (hx : x % 256 = 0) (h0 : 0 ≤ y) (h1 : y < 256) : jL x ||| jL y = jL (x + y) := by
  apply Int64.toBitVec.inj
  apply BitVec.eq_of_toNat_eq
  show ((jL x).toBitVec ||| (jL y).toBitVec).toNat = _
  rw [BitVec.toNat_or, jL_nat, jL_nat, jL_nat]
  obtain ⟨q, hq⟩ : ∃ q : Nat, (x % 18446744073709551616).toNat = 2 ^ 8 * q := ⟨((x % 18446744073709551616).toNat) / 256, by omega⟩
  have hy : (y % 18446744073709551616).toNat < 2 ^ 8 := by omega
  rw [hq, ← Nat.two_pow_add_eq_or_of_lt hy q]
  omega

def o_iandM (n : Nat) (k : PT) : PT := fun L st μ => match st with
  | .inl y :: .inl x :: r => y = (2 ^ n - 1 : Nat) ∧ k L (.inl (x % (2 ^ n : Nat)) :: r) μ
  | _ => False
theorem s_iandM {κ : Kap} {own : String} {cc : ByteArray} {nL lev : Nat} (h : Amb κ own cc nL lev) {pc : Nat} {n : Nat} {k : PT} (d : decode cc pc = .ok (.iand, 1)) (hn : n ≤ 32) (hm : (jI (2 ^ n - 1 : Nat)).toBitVec.toNat = 2 ^ n - 1) (hk : Snd κ (pc + 1) k) : Snd κ pc (o_iandM n k) := by
  obtain ⟨p, l, e, R, s, m, args, below, meth, c, cells, slots, Q, cA, D, b0, Hs⟩ := κ
  obtain ⟨hx, hb, hml, hown, hts, hlk, hK, hb0, hfr, hlo, hc1, hs1⟩ := h
  intro L st μ H locs ls hB hL hW hS
  unfold o_iandM at hB
  split at hB
  · rename_i y x r
    obtain ⟨h1, hB⟩ := hB
    subst h1
    refine lv_iand (x := jI x) (y := jI (2 ^ n - 1 : Nat)) (rest := r.map (tv b0)) hx hb d ?_
    rw [jI_mask x hn hm]
    exact hk L _ μ H locs ls hB hL hW hS
  · exact hB.elim
def o_landM (n : Nat) (k : PT) : PT := fun L st μ => match st with
  | .inr (.inl y) :: .inr (.inl x) :: r => y = (2 ^ n - 1 : Nat) ∧ k L (.inr (.inl (x % (2 ^ n : Nat))) :: r) μ
  | _ => False
theorem s_landM {κ : Kap} {own : String} {cc : ByteArray} {nL lev : Nat} (h : Amb κ own cc nL lev) {pc : Nat} {n : Nat} {k : PT} (d : decode cc pc = .ok (.land, 1)) (hn : n ≤ 64) (hm : (jL (2 ^ n - 1 : Nat)).toBitVec.toNat = 2 ^ n - 1) (hk : Snd κ (pc + 1) k) : Snd κ pc (o_landM n k) := by
  obtain ⟨p, l, e, R, s, m, args, below, meth, c, cells, slots, Q, cA, D, b0, Hs⟩ := κ
  obtain ⟨hx, hb, hml, hown, hts, hlk, hK, hb0, hfr, hlo, hc1, hs1⟩ := h
  intro L st μ H locs ls hB hL hW hS
  unfold o_landM at hB
  split at hB
  · rename_i y x r
    obtain ⟨h1, hB⟩ := hB
    subst h1
    refine lv_land (x := jL x) (y := jL (2 ^ n - 1 : Nat)) (rest := r.map (tv b0)) hx hb d ?_
    rw [jL_mask x hn hm]
    exact hk L _ μ H locs ls hB hL hW hS
  · exact hB.elim
def o_iushr (k : PT) : PT := fun L st μ => match st with
  | .inl y :: .inl x :: r => 0 ≤ y ∧ y < 32 ∧ k L (.inl ((x % 4294967296) / (2 ^ y.toNat : Nat)) :: r) μ
  | _ => False
theorem s_iushr {κ : Kap} {own : String} {cc : ByteArray} {nL lev : Nat} (h : Amb κ own cc nL lev) {pc : Nat} {k : PT} (d : decode cc pc = .ok (.iushr, 1)) (hk : Snd κ (pc + 1) k) : Snd κ pc (o_iushr k) := by
  obtain ⟨p, l, e, R, s, m, args, below, meth, c, cells, slots, Q, cA, D, b0, Hs⟩ := κ
  obtain ⟨hx, hb, hml, hown, hts, hlk, hK, hb0, hfr, hlo, hc1, hs1⟩ := h
  intro L st μ H locs ls hB hL hW hS
  unfold o_iushr at hB
  split at hB
  · rename_i y x r
    obtain ⟨h1, h2, hB⟩ := hB
    exact lv_iushr (x := jI x) (y := jI y) (rest := r.map (tv b0)) hx hb d (jI_ushr x h1 h2) (hk L _ μ H locs ls hB hL hW hS)
  · exact hB.elim
def o_ishr (k : PT) : PT := fun L st μ => match st with
  | .inl y :: .inl x :: r => R32 x ∧ 0 ≤ y ∧ y < 32 ∧ k L (.inl (x / (2 ^ y.toNat : Nat)) :: r) μ
  | _ => False
theorem s_ishr {κ : Kap} {own : String} {cc : ByteArray} {nL lev : Nat} (h : Amb κ own cc nL lev) {pc : Nat} {k : PT} (d : decode cc pc = .ok (.ishr, 1)) (hk : Snd κ (pc + 1) k) : Snd κ pc (o_ishr k) := by
  obtain ⟨p, l, e, R, s, m, args, below, meth, c, cells, slots, Q, cA, D, b0, Hs⟩ := κ
  obtain ⟨hx, hb, hml, hown, hts, hlk, hK, hb0, hfr, hlo, hc1, hs1⟩ := h
  intro L st μ H locs ls hB hL hW hS
  unfold o_ishr at hB
  split at hB
  · rename_i y x r
    obtain ⟨h0, h1, h2, hB⟩ := hB
    refine lv_ishr (x := jI x) (y := jI y) (rest := r.map (tv b0)) hx hb d ?_
    rw [jI_shr h0 h1 h2]
    exact hk L _ μ H locs ls hB hL hW hS
  · exact hB.elim
def o_lushr (k : PT) : PT := fun L st μ => match st with
  | .inl y :: .inr (.inl x) :: r => 0 ≤ y ∧ y < 64 ∧ k L (.inr (.inl ((x % 18446744073709551616) / (2 ^ y.toNat : Nat))) :: r) μ
  | _ => False
theorem s_lushr {κ : Kap} {own : String} {cc : ByteArray} {nL lev : Nat} (h : Amb κ own cc nL lev) {pc : Nat} {k : PT} (d : decode cc pc = .ok (.lushr, 1)) (hk : Snd κ (pc + 1) k) : Snd κ pc (o_lushr k) := by
  obtain ⟨p, l, e, R, s, m, args, below, meth, c, cells, slots, Q, cA, D, b0, Hs⟩ := κ
  obtain ⟨hx, hb, hml, hown, hts, hlk, hK, hb0, hfr, hlo, hc1, hs1⟩ := h
  intro L st μ H locs ls hB hL hW hS
  unfold o_lushr at hB
  split at hB
  · rename_i y x r
    obtain ⟨h1, h2, hB⟩ := hB
    exact lv_lushr (x := jL x) (y := jI y) (rest := r.map (tv b0)) hx hb d (jL_ushr x h1 h2) (hk L _ μ H locs ls hB hL hW hS)
  · exact hB.elim
def o_lshr (k : PT) : PT := fun L st μ => match st with
  | .inl y :: .inr (.inl x) :: r => R64 x ∧ 0 ≤ y ∧ y < 64 ∧ k L (.inr (.inl (x / (2 ^ y.toNat : Nat))) :: r) μ
  | _ => False
theorem s_lshr {κ : Kap} {own : String} {cc : ByteArray} {nL lev : Nat} (h : Amb κ own cc nL lev) {pc : Nat} {k : PT} (d : decode cc pc = .ok (.lshr, 1)) (hk : Snd κ (pc + 1) k) : Snd κ pc (o_lshr k) := by
  obtain ⟨p, l, e, R, s, m, args, below, meth, c, cells, slots, Q, cA, D, b0, Hs⟩ := κ
  obtain ⟨hx, hb, hml, hown, hts, hlk, hK, hb0, hfr, hlo, hc1, hs1⟩ := h
  intro L st μ H locs ls hB hL hW hS
  unfold o_lshr at hB
  split at hB
  · rename_i y x r
    obtain ⟨h0, h1, h2, hB⟩ := hB
    exact lv_lshr (x := jL x) (y := jI y) (rest := r.map (tv b0)) hx hb d (jL_shr h0 h1 h2) (hk L _ μ H locs ls hB hL hW hS)
  · exact hB.elim
def o_lshl (k : PT) : PT := fun L st μ => match st with
  | .inl y :: .inr (.inl x) :: r => 0 ≤ y ∧ y < 64 ∧ k L (.inr (.inl (x * (2 ^ y.toNat : Nat))) :: r) μ
  | _ => False
theorem s_lshl {κ : Kap} {own : String} {cc : ByteArray} {nL lev : Nat} (h : Amb κ own cc nL lev) {pc : Nat} {k : PT} (d : decode cc pc = .ok (.lshl, 1)) (hk : Snd κ (pc + 1) k) : Snd κ pc (o_lshl k) := by
  obtain ⟨p, l, e, R, s, m, args, below, meth, c, cells, slots, Q, cA, D, b0, Hs⟩ := κ
  obtain ⟨hx, hb, hml, hown, hts, hlk, hK, hb0, hfr, hlo, hc1, hs1⟩ := h
  intro L st μ H locs ls hB hL hW hS
  unfold o_lshl at hB
  split at hB
  · rename_i y x r
    obtain ⟨h1, h2, hB⟩ := hB
    exact lv_lshl (x := jL x) (y := jI y) (rest := r.map (tv b0)) hx hb d (jL_shl x h1 h2) (hk L _ μ H locs ls hB hL hW hS)
  · exact hB.elim
def o_lor8 (k : PT) : PT := fun L st μ => match st with
  | .inr (.inl y) :: .inr (.inl x) :: r => x % 256 = 0 ∧ 0 ≤ y ∧ y < 256 ∧ k L (.inr (.inl (x + y)) :: r) μ
  | _ => False
theorem s_lor8 {κ : Kap} {own : String} {cc : ByteArray} {nL lev : Nat} (h : Amb κ own cc nL lev) {pc : Nat} {k : PT} (d : decode cc pc = .ok (.lor, 1)) (hk : Snd κ (pc + 1) k) : Snd κ pc (o_lor8 k) := by
  obtain ⟨p, l, e, R, s, m, args, below, meth, c, cells, slots, Q, cA, D, b0, Hs⟩ := κ
  obtain ⟨hx, hb, hml, hown, hts, hlk, hK, hb0, hfr, hlo, hc1, hs1⟩ := h
  intro L st μ H locs ls hB hL hW hS
  unfold o_lor8 at hB
  split at hB
  · rename_i y x r
    obtain ⟨h0, h1, h2, hB⟩ := hB
    refine lv_lor (x := jL x) (y := jL y) (rest := r.map (tv b0)) hx hb d ?_
    rw [jL_or8 h0 h1 h2]
    exact hk L _ μ H locs ls hB hL hW hS
  · exact hB.elim
def o_mmax (k : PT) : PT := fun L st μ => match st with
  | .inl y :: .inl x :: r => R32 x ∧ R32 y ∧ catS r ≤ 8 ∧ k L (.inl (max x y) :: r) μ
  | _ => False
theorem s_mmax {κ : Kap} {own : String} {cc : ByteArray} {nL lev : Nat} (h : Amb κ own cc nL lev) {pc : Nat} {ix : Nat} {k : PT} (d : decode cc pc = .ok (.invokestatic ix, 3)) (hlink : Cond.methodLink own ix Lib.Math.max.name ∈ AW) (hstat : Cond.static Lib.Math.max.name ∈ AW) (hini : Cond.initialized "java/lang/Math" ∈ AW) (hcode : Cond.code Lib.Math.max.name Lib.Math.max.code 2 (some .int) ∈ AW) (hlev : 1 ≤ lev) (hk : Snd κ (pc + 3) k) : Snd κ pc (o_mmax k) := by
  obtain ⟨p, l, e, R, s, m, args, below, meth, c, cells, slots, Q, cA, D, b0, Hs⟩ := κ
  obtain ⟨hx, hb, hml, hown, hts, hlk, hK, hb0, hfr, hlo, hc1, hs1⟩ := h
  intro L st μ H locs ls hB hL hW hS
  unfold o_mmax at hB
  split at hB
  · rename_i y x r
    obtain ⟨h1, h2, h3, hB⟩ := hB
    refine va_mmax (x := jI x) (y := jI y) (rest := r.map (tv b0)) hx hb hL.1.symm hown (hts _ hlink) (hts _ hstat) (hts _ hini) (hts _ hcode) (by rw [hfr]; exact hlev) (by rw [catS_ok, hlo]; omega) hc1 hs1 d ?_
    rw [show (if jI x < jI y then jI y else jI x) = jI (max x y) from by
      by_cases q : x < y
      · rw [if_pos ((jI_lt h1 h2).mpr q)]; congr 1; omega
      · rw [if_neg (fun z => q ((jI_lt h1 h2).mp z))]; congr 1; omega]
    exact hk L _ μ H locs ls hB hL hW hS
  · exact hB.elim
def o_mmin (k : PT) : PT := fun L st μ => match st with
  | .inl y :: .inl x :: r => R32 x ∧ R32 y ∧ catS r ≤ 8 ∧ k L (.inl (min x y) :: r) μ
  | _ => False
theorem s_mmin {κ : Kap} {own : String} {cc : ByteArray} {nL lev : Nat} (h : Amb κ own cc nL lev) {pc : Nat} {ix : Nat} {k : PT} (d : decode cc pc = .ok (.invokestatic ix, 3)) (hlink : Cond.methodLink own ix Lib.Math.min.name ∈ AW) (hstat : Cond.static Lib.Math.min.name ∈ AW) (hini : Cond.initialized "java/lang/Math" ∈ AW) (hcode : Cond.code Lib.Math.min.name Lib.Math.min.code 2 (some .int) ∈ AW) (hlev : 1 ≤ lev) (hk : Snd κ (pc + 3) k) : Snd κ pc (o_mmin k) := by
  obtain ⟨p, l, e, R, s, m, args, below, meth, c, cells, slots, Q, cA, D, b0, Hs⟩ := κ
  obtain ⟨hx, hb, hml, hown, hts, hlk, hK, hb0, hfr, hlo, hc1, hs1⟩ := h
  intro L st μ H locs ls hB hL hW hS
  unfold o_mmin at hB
  split at hB
  · rename_i y x r
    obtain ⟨h1, h2, h3, hB⟩ := hB
    refine va_mmin (x := jI x) (y := jI y) (rest := r.map (tv b0)) hx hb hL.1.symm hown (hts _ hlink) (hts _ hstat) (hts _ hini) (hts _ hcode) (by rw [hfr]; exact hlev) (by rw [catS_ok, hlo]; omega) hc1 hs1 d ?_
    rw [show (if jI y < jI x then jI y else jI x) = jI (min x y) from by
      by_cases q : y < x
      · rw [if_pos ((jI_lt h2 h1).mpr q)]; congr 1; omega
      · rw [if_neg (fun z => q ((jI_lt h2 h1).mp z))]; congr 1; omega]
    exact hk L _ μ H locs ls hB hL hW hS
  · exact hB.elim
end
section
/-! WORDS of the tables by their places (printed by a program) -/
theorem lw_at (i : Nat) {w : Cond} (h : tables_1[i]? = some w) : w ∈ lw_tbl := List.mem_append_right _ (List.mem_of_getElem? h)
theorem lw_pv (i : Nat) {q : MethodName × Nat} (h : lw_privs[i]? = some q) : Cond.selects q.1.cls q.1 q.1 ∈ lw_tbl := List.mem_append_left _ (List.mem_map.mpr ⟨q, List.mem_of_getElem? h, rfl⟩)
theorem dk {T : List (Nat × Instr × Nat)} {c : ByteArray} (h : ∀ q ∈ T, decode c q.1 = .ok q.2) (i : Nat) {pc : Nat} {x : Instr} {len : Nat} (hm : T[i]? = some (pc, x, len)) : decode c pc = .ok (x, len) := h (pc, x, len) (List.mem_of_getElem? hm)
theorem in_X0 : ∀ w ∈ u_ws RX0 TX0 (nf 0), w ∈ AW := by decide +kernel
theorem ini_X0 : Cond.initialized RX0 ∈ AW := AW_in (lw_at 9 (by decide +kernel : tables_1[9]? = some (Cond.initialized RX0))) rfl
theorem ck_X0 : 0 < 11 := by decide
theorem fk_X0_0 : 0 < nf 0 := by decide
theorem fk_X0_1 : 1 < nf 0 := by decide
theorem fk_X0_2 : 2 < nf 0 := by decide
theorem in_X1 : ∀ w ∈ u_ws RX1 TX1 (nf 1), w ∈ AW := by decide +kernel
theorem ini_X1 : Cond.initialized RX1 ∈ AW := AW_in (lw_at 7 (by decide +kernel : tables_1[7]? = some (Cond.initialized RX1))) rfl
theorem ck_X1 : 1 < 11 := by decide
theorem fk_X1_0 : 0 < nf 1 := by decide
theorem fk_X1_1 : 1 < nf 1 := by decide
theorem fk_X1_2 : 2 < nf 1 := by decide
theorem fk_X1_3 : 3 < nf 1 := by decide
theorem fk_X1_4 : 4 < nf 1 := by decide
theorem fk_X1_5 : 5 < nf 1 := by decide
theorem in_X2 : ∀ w ∈ u_ws RX2 TX2 (nf 2), w ∈ AW := by decide +kernel
theorem ini_X2 : Cond.initialized RX2 ∈ AW := AW_in (lw_at 8 (by decide +kernel : tables_1[8]? = some (Cond.initialized RX2))) rfl
theorem ck_X2 : 2 < 11 := by decide
theorem fk_X2_0 : 0 < nf 2 := by decide
theorem fk_X2_1 : 1 < nf 2 := by decide
theorem fk_X2_2 : 2 < nf 2 := by decide
theorem fk_X2_3 : 3 < nf 2 := by decide
theorem fk_X2_4 : 4 < nf 2 := by decide
theorem fk_X2_5 : 5 < nf 2 := by decide
theorem fk_X2_6 : 6 < nf 2 := by decide
theorem fk_X2_7 : 7 < nf 2 := by decide
theorem fk_X2_8 : 8 < nf 2 := by decide
theorem fk_X2_9 : 9 < nf 2 := by decide
theorem fk_X2_10 : 10 < nf 2 := by decide
theorem fk_X2_11 : 11 < nf 2 := by decide
theorem fk_X2_12 : 12 < nf 2 := by decide
theorem fk_X2_13 : 13 < nf 2 := by decide
theorem fk_X2_14 : 14 < nf 2 := by decide
theorem in_X3 : ∀ w ∈ u_ws RX3 TX3 (nf 3), w ∈ AW := by decide +kernel
theorem ini_X3 : Cond.initialized RX3 ∈ AW := AW_in (lw_at 6 (by decide +kernel : tables_1[6]? = some (Cond.initialized RX3))) rfl
theorem ck_X3 : 3 < 11 := by decide
theorem fk_X3_0 : 0 < nf 3 := by decide
theorem fk_X3_1 : 1 < nf 3 := by decide
theorem fk_X3_2 : 2 < nf 3 := by decide
theorem fk_X3_3 : 3 < nf 3 := by decide
theorem fk_X3_4 : 4 < nf 3 := by decide
theorem in_X4 : ∀ w ∈ u_ws RX4 TX4 (nf 4), w ∈ AW := by decide +kernel
theorem ini_X4 : Cond.initialized RX4 ∈ AW := AW_in (lw_at 10 (by decide +kernel : tables_1[10]? = some (Cond.initialized RX4))) rfl
theorem ck_X4 : 4 < 11 := by decide
theorem fk_X4_0 : 0 < nf 4 := by decide
theorem fk_X4_1 : 1 < nf 4 := by decide
theorem in_X5 : ∀ w ∈ u_ws RX5 TX5 (nf 5), w ∈ AW := by decide +kernel
theorem ini_X5 : Cond.initialized RX5 ∈ AW := AW_in (lw_at 4 (by decide +kernel : tables_1[4]? = some (Cond.initialized RX5))) rfl
theorem ck_X5 : 5 < 11 := by decide
theorem fk_X5_0 : 0 < nf 5 := by decide
theorem fk_X5_1 : 1 < nf 5 := by decide
theorem fk_X5_2 : 2 < nf 5 := by decide
theorem fk_X5_3 : 3 < nf 5 := by decide
theorem fk_X5_4 : 4 < nf 5 := by decide
theorem fk_X5_5 : 5 < nf 5 := by decide
theorem fk_X5_6 : 6 < nf 5 := by decide
theorem fk_X5_7 : 7 < nf 5 := by decide
theorem fk_X5_8 : 8 < nf 5 := by decide
theorem in_X6 : ∀ w ∈ u_ws RX6 TX6 (nf 6), w ∈ AW := by decide +kernel
theorem ini_X6 : Cond.initialized RX6 ∈ AW := AW_in (lw_at 5 (by decide +kernel : tables_1[5]? = some (Cond.initialized RX6))) rfl
theorem ck_X6 : 6 < 11 := by decide
theorem fk_X6_0 : 0 < nf 6 := by decide
theorem fk_X6_1 : 1 < nf 6 := by decide
theorem fk_X6_2 : 2 < nf 6 := by decide
theorem fk_X6_3 : 3 < nf 6 := by decide
theorem fk_X6_4 : 4 < nf 6 := by decide
theorem fk_X6_5 : 5 < nf 6 := by decide
theorem fk_X6_6 : 6 < nf 6 := by decide
theorem fk_X6_7 : 7 < nf 6 := by decide
theorem in_X7 : ∀ w ∈ u_ws RX7 TX7 (nf 7), w ∈ AW := by decide +kernel
theorem ini_X7 : Cond.initialized RX7 ∈ AW := AW_in (lw_at 3 (by decide +kernel : tables_1[3]? = some (Cond.initialized RX7))) rfl
theorem ck_X7 : 7 < 11 := by decide
theorem fk_X7_0 : 0 < nf 7 := by decide
theorem fk_X7_1 : 1 < nf 7 := by decide
theorem in_X8 : ∀ w ∈ u_ws RX8 TX8 (nf 8), w ∈ AW := by decide +kernel
theorem ini_X8 : Cond.initialized RX8 ∈ AW := AW_in (lw_at 2 (by decide +kernel : tables_1[2]? = some (Cond.initialized RX8))) rfl
theorem ck_X8 : 8 < 11 := by decide
theorem fk_X8_0 : 0 < nf 8 := by decide
theorem fk_X8_1 : 1 < nf 8 := by decide
theorem fk_X8_2 : 2 < nf 8 := by decide
theorem fk_X8_3 : 3 < nf 8 := by decide
theorem fk_X8_4 : 4 < nf 8 := by decide
theorem fk_X8_5 : 5 < nf 8 := by decide
theorem fk_X8_6 : 6 < nf 8 := by decide
theorem fk_X8_7 : 7 < nf 8 := by decide
theorem fk_X8_8 : 8 < nf 8 := by decide
theorem in_X9 : ∀ w ∈ u_ws RX9 TX9 (nf 9), w ∈ AW := by decide +kernel
theorem ini_X9 : Cond.initialized RX9 ∈ AW := AW_in (lw_at 1 (by decide +kernel : tables_1[1]? = some (Cond.initialized RX9))) rfl
theorem ck_X9 : 9 < 11 := by decide
theorem fk_X9_0 : 0 < nf 9 := by decide
theorem fk_X9_1 : 1 < nf 9 := by decide
theorem fk_X9_2 : 2 < nf 9 := by decide
theorem fk_X9_3 : 3 < nf 9 := by decide
theorem fk_X9_4 : 4 < nf 9 := by decide
theorem fk_X9_5 : 5 < nf 9 := by decide
theorem fk_X9_6 : 6 < nf 9 := by decide
theorem fk_X9_7 : 7 < nf 9 := by decide
theorem fk_X9_8 : 8 < nf 9 := by decide
theorem in_X10 : ∀ w ∈ u_ws RX10 TX10 (nf 10), w ∈ AW := by decide +kernel
theorem ini_X10 : Cond.initialized RX10 ∈ AW := AW_in (lw_at 11 (by decide +kernel : tables_1[11]? = some (Cond.initialized RX10))) rfl
theorem ck_X10 : 10 < 11 := by decide
theorem fk_X10_0 : 0 < nf 10 := by decide
theorem fk_X10_1 : 1 < nf 10 := by decide
theorem fk_X10_2 : 2 < nf 10 := by decide
theorem fk_X10_3 : 3 < nf 10 := by decide
theorem fk_X10_4 : 4 < nf 10 := by decide
theorem fk_X10_5 : 5 < nf 10 := by decide
theorem fk_X10_6 : 6 < nf 10 := by decide
theorem fk_X10_7 : 7 < nf 10 := by decide
theorem fk_X10_8 : 8 < nf 10 := by decide
theorem fk_X10_9 : 9 < nf 10 := by decide
theorem fk_X10_10 : 10 < nf 10 := by decide
theorem fk_X10_11 : 11 < nf 10 := by decide
theorem fk_X10_12 : 12 < nf 10 := by decide
theorem fk_X10_13 : 13 < nf 10 := by decide
theorem fk_X10_14 : 14 < nf 10 := by decide
theorem fk_X10_15 : 15 < nf 10 := by decide
theorem fk_X10_16 : 16 < nf 10 := by decide
theorem fk_X10_17 : 17 < nf 10 := by decide
theorem fk_X10_18 : 18 < nf 10 := by decide
theorem fk_X10_19 : 19 < nf 10 := by decide
theorem fk_X10_20 : 20 < nf 10 := by decide
theorem fk_X10_21 : 21 < nf 10 := by decide
theorem fk_X10_22 : 22 < nf 10 := by decide
theorem fk_X10_23 : 23 < nf 10 := by decide
theorem fk_X10_24 : 24 < nf 10 := by decide
theorem fk_X10_25 : 25 < nf 10 := by decide
theorem ini_Math : Cond.initialized "java/lang/Math" ∈ AW := AW_in (lw_at 21 (by decide +kernel : tables_1[21]? = some (Cond.initialized "java/lang/Math"))) rfl
theorem mst_min : Cond.static Lib.Math.min.name ∈ AW := AW_in (lw_at 476 (by decide +kernel : tables_1[476]? = some (Cond.static Lib.Math.min.name))) rfl
theorem mco_min : Cond.code Lib.Math.min.name Lib.Math.min.code 2 (some .int) ∈ AW := AW_in (lw_at 477 (by decide +kernel : tables_1[477]? = some (Cond.code Lib.Math.min.name Lib.Math.min.code 2 (some .int)))) rfl
theorem mst_max : Cond.static Lib.Math.max.name ∈ AW := AW_in (lw_at 420 (by decide +kernel : tables_1[420]? = some (Cond.static Lib.Math.max.name))) rfl
theorem mco_max : Cond.code Lib.Math.max.name Lib.Math.max.code 2 (some .int) ∈ AW := AW_in (lw_at 421 (by decide +kernel : tables_1[421]? = some (Cond.code Lib.Math.max.name Lib.Math.max.code 2 (some .int)))) rfl
theorem m_X0_init : MOK yX0_init cX0_init 2 none 0 := ⟨lw_at 311 (by decide +kernel), ini_X0, ⟨by decide, by decide, by decide +kernel⟩, by decide, by decide +kernel⟩
theorem iw_X0_init : Cond.instanceMethod yX0_init ∈ AW := AW_in (lw_at 310 (by decide +kernel : tables_1[310]? = some (Cond.instanceMethod yX0_init))) rfl
theorem m_X0_forget : MOK yX0_forget cX0_forget 1 none 0 := ⟨lw_at 781 (by decide +kernel), ini_X0, ⟨by decide, by decide, by decide +kernel⟩, by decide, by decide +kernel⟩
theorem v_X0_forget : VOK yX0_forget := ⟨AW_in (lw_at 779 (by decide +kernel : tables_1[779]? = some (Cond.instanceMethod yX0_forget))) rfl, AW_in (lw_at 780 (by decide +kernel)) rfl⟩
theorem m_X0_remember : MOK yX0_remember cX0_remember 2 none 1 := ⟨lw_at 838 (by decide +kernel), ini_X0, ⟨by decide, by decide, by decide +kernel⟩, by decide, by decide +kernel⟩
theorem v_X0_remember : VOK yX0_remember := ⟨AW_in (lw_at 836 (by decide +kernel : tables_1[836]? = some (Cond.instanceMethod yX0_remember))) rfl, AW_in (lw_at 837 (by decide +kernel)) rfl⟩
theorem m_X0_bringBack : MOK yX0_bringBack cX0_bringBack 2 none 1 := ⟨lw_at 493 (by decide +kernel), ini_X0, ⟨by decide, by decide, by decide +kernel⟩, by decide, by decide +kernel⟩
theorem v_X0_bringBack : VOK yX0_bringBack := ⟨AW_in (lw_at 491 (by decide +kernel : tables_1[491]? = some (Cond.instanceMethod yX0_bringBack))) rfl, AW_in (lw_at 492 (by decide +kernel)) rfl⟩
theorem m_X1_init : MOK yX1_init cX1_init 1 none 0 := ⟨lw_at 175 (by decide +kernel), ini_X1, ⟨by decide, by decide, by decide +kernel⟩, by decide, by decide +kernel⟩
theorem iw_X1_init : Cond.instanceMethod yX1_init ∈ AW := AW_in (lw_at 174 (by decide +kernel : tables_1[174]? = some (Cond.instanceMethod yX1_init))) rfl
theorem m_X1_clear : MOK yX1_clear cX1_clear 2 none 0 := ⟨lw_at 653 (by decide +kernel), ini_X1, ⟨by decide, by decide, by decide +kernel⟩, by decide, by decide +kernel⟩
theorem v_X1_clear : VOK yX1_clear := ⟨AW_in (lw_at 651 (by decide +kernel : tables_1[651]? = some (Cond.instanceMethod yX1_clear))) rfl, AW_in (lw_at 652 (by decide +kernel)) rfl⟩
theorem m_X1_copyFrom : MOK yX1_copyFrom cX1_copyFrom 3 none 1 := ⟨lw_at 445 (by decide +kernel), ini_X1, ⟨by decide, by decide, by decide +kernel⟩, by decide, by decide +kernel⟩
theorem v_X1_copyFrom : VOK yX1_copyFrom := ⟨AW_in (lw_at 443 (by decide +kernel : tables_1[443]? = some (Cond.instanceMethod yX1_copyFrom))) rfl, AW_in (lw_at 444 (by decide +kernel)) rfl⟩
theorem m_X1_add : MOK yX1_add cX1_add 6 none 4 := ⟨lw_at 470 (by decide +kernel), ini_X1, ⟨by decide, by decide, by decide +kernel⟩, by decide, by decide +kernel⟩
theorem v_X1_add : VOK yX1_add := ⟨AW_in (lw_at 468 (by decide +kernel : tables_1[468]? = some (Cond.instanceMethod yX1_add))) rfl, AW_in (lw_at 469 (by decide +kernel)) rfl⟩
theorem m_X1_number : MOK yX1_number cX1_number 4 (some .int) 2 := ⟨lw_at 1001 (by decide +kernel), ini_X1, ⟨by decide, by decide, by decide +kernel⟩, by decide, by decide +kernel⟩
theorem v_X1_number : VOK yX1_number := ⟨AW_in (lw_at 999 (by decide +kernel : tables_1[999]? = some (Cond.instanceMethod yX1_number))) rfl, AW_in (lw_at 1000 (by decide +kernel)) rfl⟩
theorem m_X2_init : MOK yX2_init cX2_init 1 none 0 := ⟨lw_at 201 (by decide +kernel), ini_X2, ⟨by decide, by decide, by decide +kernel⟩, by decide, by decide +kernel⟩
theorem iw_X2_init : Cond.instanceMethod yX2_init ∈ AW := AW_in (lw_at 200 (by decide +kernel : tables_1[200]? = some (Cond.instanceMethod yX2_init))) rfl
theorem m_X2_become : MOK yX2_become cX2_become 6 none 4 := ⟨lw_at 757 (by decide +kernel), ini_X2, ⟨by decide, by decide, by decide +kernel⟩, by decide, by decide +kernel⟩
theorem v_X2_become : VOK yX2_become := ⟨AW_in (lw_at 755 (by decide +kernel : tables_1[755]? = some (Cond.instanceMethod yX2_become))) rfl, AW_in (lw_at 756 (by decide +kernel)) rfl⟩
theorem m_X2_copyFrom : MOK yX2_copyFrom cX2_copyFrom 3 none 1 := ⟨lw_at 433 (by decide +kernel), ini_X2, ⟨by decide, by decide, by decide +kernel⟩, by decide, by decide +kernel⟩
theorem v_X2_copyFrom : VOK yX2_copyFrom := ⟨AW_in (lw_at 431 (by decide +kernel : tables_1[431]? = some (Cond.instanceMethod yX2_copyFrom))) rfl, AW_in (lw_at 432 (by decide +kernel)) rfl⟩
theorem m_X2_number : MOK yX2_number cX2_number 3 (some .int) 2 := ⟨lw_at 397 (by decide +kernel), ini_X2, ⟨by decide, by decide, by decide +kernel⟩, by decide, by decide +kernel⟩
theorem v_X2_number : VOK yX2_number := ⟨AW_in (lw_at 395 (by decide +kernel : tables_1[395]? = some (Cond.instanceMethod yX2_number))) rfl, AW_in (lw_at 396 (by decide +kernel)) rfl⟩
theorem m_X2_room : MOK yX2_room cX2_room 1 (some .int) 0 := ⟨lw_at 405 (by decide +kernel), ini_X2, ⟨by decide, by decide, by decide +kernel⟩, by decide, by decide +kernel⟩
theorem v_X2_room : VOK yX2_room := ⟨AW_in (lw_at 403 (by decide +kernel : tables_1[403]? = some (Cond.instanceMethod yX2_room))) rfl, AW_in (lw_at 404 (by decide +kernel)) rfl⟩
theorem m_X2_free : MOK yX2_free cX2_free 1 (some .int) 0 := ⟨lw_at 401 (by decide +kernel), ini_X2, ⟨by decide, by decide, by decide +kernel⟩, by decide, by decide +kernel⟩
theorem v_X2_free : VOK yX2_free := ⟨AW_in (lw_at 399 (by decide +kernel : tables_1[399]? = some (Cond.instanceMethod yX2_free))) rfl, AW_in (lw_at 400 (by decide +kernel)) rfl⟩
theorem m_X2_keptBack : MOK yX2_keptBack cX2_keptBack 2 (some .int) 1 := ⟨lw_at 417 (by decide +kernel), ini_X2, ⟨by decide, by decide, by decide +kernel⟩, by decide, by decide +kernel⟩
theorem v_X2_keptBack : VOK yX2_keptBack := ⟨AW_in (lw_at 415 (by decide +kernel : tables_1[415]? = some (Cond.instanceMethod yX2_keptBack))) rfl, AW_in (lw_at 416 (by decide +kernel)) rfl⟩
theorem m_X2_ownLeft : MOK yX2_ownLeft cX2_ownLeft 1 (some .int) 0 := ⟨lw_at 413 (by decide +kernel), ini_X2, ⟨by decide, by decide, by decide +kernel⟩, by decide, by decide +kernel⟩
theorem v_X2_ownLeft : VOK yX2_ownLeft := ⟨AW_in (lw_at 411 (by decide +kernel : tables_1[411]? = some (Cond.instanceMethod yX2_ownLeft))) rfl, AW_in (lw_at 412 (by decide +kernel)) rfl⟩
theorem m_X2_canLend : MOK yX2_canLend cX2_canLend 2 (some .int) 1 := ⟨lw_at 409 (by decide +kernel), ini_X2, ⟨by decide, by decide, by decide +kernel⟩, by decide, by decide +kernel⟩
theorem v_X2_canLend : VOK yX2_canLend := ⟨AW_in (lw_at 407 (by decide +kernel : tables_1[407]? = some (Cond.instanceMethod yX2_canLend))) rfl, AW_in (lw_at 408 (by decide +kernel)) rfl⟩
theorem m_X2_append : MOK yX2_append cX2_append 3 none 2 := ⟨lw_at 885 (by decide +kernel), ini_X2, ⟨by decide, by decide, by decide +kernel⟩, by decide, by decide +kernel⟩
theorem v_X2_append : VOK yX2_append := ⟨AW_in (lw_at 883 (by decide +kernel : tables_1[883]? = some (Cond.instanceMethod yX2_append))) rfl, AW_in (lw_at 884 (by decide +kernel)) rfl⟩
theorem m_X2_removeNewest : MOK yX2_removeNewest cX2_removeNewest 1 (some .int) 0 := ⟨lw_at 462 (by decide +kernel), ini_X2, ⟨by decide, by decide, by decide +kernel⟩, by decide, by decide +kernel⟩
theorem v_X2_removeNewest : VOK yX2_removeNewest := ⟨AW_in (lw_at 460 (by decide +kernel : tables_1[460]? = some (Cond.instanceMethod yX2_removeNewest))) rfl, AW_in (lw_at 461 (by decide +kernel)) rfl⟩
theorem m_X2_sendFirst : MOK yX2_sendFirst cX2_sendFirst 5 none 0 := ⟨lw_at 474 (by decide +kernel), ini_X2, ⟨by decide, by decide, by decide +kernel⟩, by decide, by decide +kernel⟩
theorem v_X2_sendFirst : VOK yX2_sendFirst := ⟨AW_in (lw_at 472 (by decide +kernel : tables_1[472]? = some (Cond.instanceMethod yX2_sendFirst))) rfl, AW_in (lw_at 473 (by decide +kernel)) rfl⟩
theorem m_X2_removeFirst : MOK yX2_removeFirst cX2_removeFirst 3 none 1 := ⟨lw_at 481 (by decide +kernel), ini_X2, ⟨by decide, by decide, by decide +kernel⟩, by decide, by decide +kernel⟩
theorem v_X2_removeFirst : VOK yX2_removeFirst := ⟨AW_in (lw_at 479 (by decide +kernel : tables_1[479]? = some (Cond.instanceMethod yX2_removeFirst))) rfl, AW_in (lw_at 480 (by decide +kernel)) rfl⟩
theorem m_X2_learn : MOK yX2_learn cX2_learn 1 none 0 := ⟨lw_at 485 (by decide +kernel), ini_X2, ⟨by decide, by decide, by decide +kernel⟩, by decide, by decide +kernel⟩
theorem v_X2_learn : VOK yX2_learn := ⟨AW_in (lw_at 483 (by decide +kernel : tables_1[483]? = some (Cond.instanceMethod yX2_learn))) rfl, AW_in (lw_at 484 (by decide +kernel)) rfl⟩
theorem m_X2_cellsUpTo : MOK yX2_cellsUpTo cX2_cellsUpTo 4 (some .int) 1 := ⟨lw_at 1060 (by decide +kernel), ini_X2, ⟨by decide, by decide, by decide +kernel⟩, by decide, by decide +kernel⟩
theorem v_X2_cellsUpTo : VOK yX2_cellsUpTo := ⟨AW_in (lw_at 1058 (by decide +kernel : tables_1[1058]? = some (Cond.instanceMethod yX2_cellsUpTo))) rfl, AW_in (lw_at 1059 (by decide +kernel)) rfl⟩
theorem m_X3_init : MOK yX3_init cX3_init 1 none 0 := ⟨lw_at 139 (by decide +kernel), ini_X3, ⟨by decide, by decide, by decide +kernel⟩, by decide, by decide +kernel⟩
theorem iw_X3_init : Cond.instanceMethod yX3_init ∈ AW := AW_in (lw_at 138 (by decide +kernel : tables_1[138]? = some (Cond.instanceMethod yX3_init))) rfl
theorem m_X3_copyFrom : MOK yX3_copyFrom cX3_copyFrom 3 none 1 := ⟨lw_at 437 (by decide +kernel), ini_X3, ⟨by decide, by decide, by decide +kernel⟩, by decide, by decide +kernel⟩
theorem v_X3_copyFrom : VOK yX3_copyFrom := ⟨AW_in (lw_at 435 (by decide +kernel : tables_1[435]? = some (Cond.instanceMethod yX3_copyFrom))) rfl, AW_in (lw_at 436 (by decide +kernel)) rfl⟩
theorem m_X3_place : MOK yX3_place cX3_place 4 none 3 := ⟨lw_at 441 (by decide +kernel), ini_X3, ⟨by decide, by decide, by decide +kernel⟩, by decide, by decide +kernel⟩
theorem v_X3_place : VOK yX3_place := ⟨AW_in (lw_at 439 (by decide +kernel : tables_1[439]? = some (Cond.instanceMethod yX3_place))) rfl, AW_in (lw_at 440 (by decide +kernel)) rfl⟩
theorem m_X3_insert : MOK yX3_insert cX3_insert 6 none 4 := ⟨lw_at 881 (by decide +kernel), ini_X3, ⟨by decide, by decide, by decide +kernel⟩, by decide, by decide +kernel⟩
theorem v_X3_insert : VOK yX3_insert := ⟨AW_in (lw_at 879 (by decide +kernel : tables_1[879]? = some (Cond.instanceMethod yX3_insert))) rfl, AW_in (lw_at 880 (by decide +kernel)) rfl⟩
theorem m_X3_remove : MOK yX3_remove cX3_remove 3 none 1 := ⟨lw_at 457 (by decide +kernel), ini_X3, ⟨by decide, by decide, by decide +kernel⟩, by decide, by decide +kernel⟩
theorem v_X3_remove : VOK yX3_remove := ⟨AW_in (lw_at 455 (by decide +kernel : tables_1[455]? = some (Cond.instanceMethod yX3_remove))) rfl, AW_in (lw_at 456 (by decide +kernel)) rfl⟩
theorem m_X3_isBetween : MOK yX3_isBetween cX3_isBetween 4 (some .boolean) 3 := ⟨lw_at 868 (by decide +kernel), ini_X3, ⟨by decide, by decide, by decide +kernel⟩, by decide, by decide +kernel⟩
theorem v_X3_isBetween : VOK yX3_isBetween := ⟨AW_in (lw_at 866 (by decide +kernel : tables_1[866]? = some (Cond.instanceMethod yX3_isBetween))) rfl, AW_in (lw_at 867 (by decide +kernel)) rfl⟩
theorem m_X3_cellsBetween : MOK yX3_cellsBetween cX3_cellsBetween 5 (some .int) 2 := ⟨lw_at 906 (by decide +kernel), ini_X3, ⟨by decide, by decide, by decide +kernel⟩, by decide, by decide +kernel⟩
theorem v_X3_cellsBetween : VOK yX3_cellsBetween := ⟨AW_in (lw_at 904 (by decide +kernel : tables_1[904]? = some (Cond.instanceMethod yX3_cellsBetween))) rfl, AW_in (lw_at 905 (by decide +kernel)) rfl⟩
theorem m_X4_init : MOK yX4_init cX4_init 1 none 0 := ⟨lw_at 331 (by decide +kernel), ini_X4, ⟨by decide, by decide, by decide +kernel⟩, by decide, by decide +kernel⟩
theorem iw_X4_init : Cond.instanceMethod yX4_init ∈ AW := AW_in (lw_at 330 (by decide +kernel : tables_1[330]? = some (Cond.instanceMethod yX4_init))) rfl
theorem m_X4_write : MOK yX4_write cX4_write 3 none 1 := ⟨lw_at 502 (by decide +kernel), ini_X4, ⟨by decide, by decide, by decide +kernel⟩, by decide, by decide +kernel⟩
theorem v_X4_write : VOK yX4_write := ⟨AW_in (lw_at 500 (by decide +kernel : tables_1[500]? = some (Cond.instanceMethod yX4_write))) rfl, AW_in (lw_at 501 (by decide +kernel)) rfl⟩
theorem m_X4_putPromisesOf : MOK yX4_putPromisesOf cX4_putPromisesOf 4 none 2 := ⟨lw_at 520 (by decide +kernel), ini_X4, ⟨by decide, by decide, by decide +kernel⟩, by decide, by decide +kernel⟩
theorem v_X4_putPromisesOf : VOK yX4_putPromisesOf := ⟨AW_in (lw_at 518 (by decide +kernel : tables_1[518]? = some (Cond.instanceMethod yX4_putPromisesOf))) rfl, AW_in (lw_at 519 (by decide +kernel)) rfl⟩
theorem m_X4_putName : MOK yX4_putName cX4_putName 5 none 1 := ⟨lw_at 506 (by decide +kernel), ini_X4, ⟨by decide, by decide, by decide +kernel⟩, by decide, by decide +kernel⟩
theorem v_X4_putName : VOK yX4_putName := ⟨AW_in (lw_at 504 (by decide +kernel : tables_1[504]? = some (Cond.instanceMethod yX4_putName))) rfl, AW_in (lw_at 505 (by decide +kernel)) rfl⟩
theorem m_X4_putNumber : MOK yX4_putNumber cX4_putNumber 2 none 1 := ⟨lw_at 515 (by decide +kernel), ini_X4, ⟨by decide, by decide, by decide +kernel⟩, by decide, by decide +kernel⟩
theorem v_X4_putNumber : VOK yX4_putNumber := ⟨AW_in (lw_at 513 (by decide +kernel : tables_1[513]? = some (Cond.instanceMethod yX4_putNumber))) rfl, AW_in (lw_at 514 (by decide +kernel)) rfl⟩
theorem m_X4_put : MOK yX4_put cX4_put 2 none 1 := ⟨lw_at 511 (by decide +kernel), ini_X4, ⟨by decide, by decide, by decide +kernel⟩, by decide, by decide +kernel⟩
theorem v_X4_put : VOK yX4_put := ⟨AW_in (lw_at 509 (by decide +kernel : tables_1[509]? = some (Cond.instanceMethod yX4_put))) rfl, AW_in (lw_at 510 (by decide +kernel)) rfl⟩
theorem m_X5_init : MOK yX5_init cX5_init 1 none 0 := ⟨lw_at 92 (by decide +kernel), ini_X5, ⟨by decide, by decide, by decide +kernel⟩, by decide, by decide +kernel⟩
theorem iw_X5_init : Cond.instanceMethod yX5_init ∈ AW := AW_in (lw_at 91 (by decide +kernel : tables_1[91]? = some (Cond.instanceMethod yX5_init))) rfl
theorem m_X5_readFrom : MOK yX5_readFrom cX5_readFrom 5 (some .boolean) 2 := ⟨lw_at 792 (by decide +kernel), ini_X5, ⟨by decide, by decide, by decide +kernel⟩, by decide, by decide +kernel⟩
theorem v_X5_readFrom : VOK yX5_readFrom := ⟨AW_in (lw_at 790 (by decide +kernel : tables_1[790]? = some (Cond.instanceMethod yX5_readFrom))) rfl, AW_in (lw_at 791 (by decide +kernel)) rfl⟩
theorem m_X5_readCommand : MOK yX5_readCommand cX5_readCommand 4 (some .boolean) 2 := ⟨lw_at 808 (by decide +kernel), ini_X5, ⟨by decide, by decide, by decide +kernel⟩, by decide, by decide +kernel⟩
theorem v_X5_readCommand : VOK yX5_readCommand := ⟨AW_in (lw_at 806 (by decide +kernel : tables_1[806]? = some (Cond.instanceMethod yX5_readCommand))) rfl, AW_in (lw_at 807 (by decide +kernel)) rfl⟩
theorem m_X5_verbOf : MOK yX5_verbOf cX5_verbOf 1 (some .int) 1 := ⟨lw_at 811 (by decide +kernel), ini_X5, ⟨by decide, by decide, by decide +kernel⟩, by decide, by decide +kernel⟩
theorem st_X5_verbOf : Cond.static yX5_verbOf ∈ AW := AW_in (lw_at 810 (by decide +kernel : tables_1[810]? = some (Cond.static yX5_verbOf))) rfl
theorem m_X5_readPlain : MOK yX5_readPlain cX5_readPlain 6 (some .boolean) 3 := ⟨lw_at 829 (by decide +kernel), ini_X5, ⟨by decide, by decide, by decide +kernel⟩, by decide, by decide +kernel⟩
theorem v_X5_readPlain : VOK yX5_readPlain := ⟨AW_in (lw_at 827 (by decide +kernel : tables_1[827]? = some (Cond.instanceMethod yX5_readPlain))) rfl, AW_in (lw_at 828 (by decide +kernel)) rfl⟩
theorem m_X5_takePort : MOK yX5_takePort cX5_takePort 3 (some .int) 2 := ⟨lw_at 832 (by decide +kernel), ini_X5, ⟨by decide, by decide, by decide +kernel⟩, by decide, by decide +kernel⟩
theorem st_X5_takePort : Cond.static yX5_takePort ∈ AW := AW_in (lw_at 831 (by decide +kernel : tables_1[831]? = some (Cond.static yX5_takePort))) rfl
theorem m_X5_openRepeat : MOK yX5_openRepeat cX5_openRepeat 2 (some .boolean) 1 := ⟨lw_at 824 (by decide +kernel), ini_X5, ⟨by decide, by decide, by decide +kernel⟩, by decide, by decide +kernel⟩
theorem v_X5_openRepeat : VOK yX5_openRepeat := ⟨AW_in (lw_at 822 (by decide +kernel : tables_1[822]? = some (Cond.instanceMethod yX5_openRepeat))) rfl, AW_in (lw_at 823 (by decide +kernel)) rfl⟩
theorem m_X5_closeRepeat : MOK yX5_closeRepeat cX5_closeRepeat 6 (some .boolean) 1 := ⟨lw_at 799 (by decide +kernel), ini_X5, ⟨by decide, by decide, by decide +kernel⟩, by decide, by decide +kernel⟩
theorem v_X5_closeRepeat : VOK yX5_closeRepeat := ⟨AW_in (lw_at 797 (by decide +kernel : tables_1[797]? = some (Cond.instanceMethod yX5_closeRepeat))) rfl, AW_in (lw_at 798 (by decide +kernel)) rfl⟩
theorem m_X5_add : MOK yX5_add cX5_add 5 none 4 := ⟨lw_at 803 (by decide +kernel), ini_X5, ⟨by decide, by decide, by decide +kernel⟩, by decide, by decide +kernel⟩
theorem v_X5_add : VOK yX5_add := ⟨AW_in (lw_at 801 (by decide +kernel : tables_1[801]? = some (Cond.instanceMethod yX5_add))) rfl, AW_in (lw_at 802 (by decide +kernel)) rfl⟩
theorem m_X6_init : MOK yX6_init cX6_init 2 none 0 := ⟨lw_at 131 (by decide +kernel), ini_X6, ⟨by decide, by decide, by decide +kernel⟩, by decide, by decide +kernel⟩
theorem iw_X6_init : Cond.instanceMethod yX6_init ∈ AW := AW_in (lw_at 130 (by decide +kernel : tables_1[130]? = some (Cond.instanceMethod yX6_init))) rfl
theorem m_X6_clear : MOK yX6_clear cX6_clear 1 none 0 := ⟨lw_at 649 (by decide +kernel), ini_X6, ⟨by decide, by decide, by decide +kernel⟩, by decide, by decide +kernel⟩
theorem v_X6_clear : VOK yX6_clear := ⟨AW_in (lw_at 647 (by decide +kernel : tables_1[647]? = some (Cond.instanceMethod yX6_clear))) rfl, AW_in (lw_at 648 (by decide +kernel)) rfl⟩
theorem m_X6_copyFrom : MOK yX6_copyFrom cX6_copyFrom 3 none 1 := ⟨lw_at 429 (by decide +kernel), ini_X6, ⟨by decide, by decide, by decide +kernel⟩, by decide, by decide +kernel⟩
theorem v_X6_copyFrom : VOK yX6_copyFrom := ⟨AW_in (lw_at 427 (by decide +kernel : tables_1[427]? = some (Cond.instanceMethod yX6_copyFrom))) rfl, AW_in (lw_at 428 (by decide +kernel)) rfl⟩
theorem m_X6_addPort : MOK yX6_addPort cX6_addPort 6 none 4 := ⟨lw_at 753 (by decide +kernel), ini_X6, ⟨by decide, by decide, by decide +kernel⟩, by decide, by decide +kernel⟩
theorem v_X6_addPort : VOK yX6_addPort := ⟨AW_in (lw_at 751 (by decide +kernel : tables_1[751]? = some (Cond.instanceMethod yX6_addPort))) rfl, AW_in (lw_at 752 (by decide +kernel)) rfl⟩
theorem m_X6_portNamed : MOK yX6_portNamed cX6_portNamed 4 (some .int) 1 := ⟨lw_at 743 (by decide +kernel), ini_X6, ⟨by decide, by decide, by decide +kernel⟩, by decide, by decide +kernel⟩
theorem v_X6_portNamed : VOK yX6_portNamed := ⟨AW_in (lw_at 741 (by decide +kernel : tables_1[741]? = some (Cond.instanceMethod yX6_portNamed))) rfl, AW_in (lw_at 742 (by decide +kernel)) rfl⟩
theorem m_X6_sumOfPorts : MOK yX6_sumOfPorts cX6_sumOfPorts 4 (some .int) 1 := ⟨lw_at 393 (by decide +kernel), ini_X6, ⟨by decide, by decide, by decide +kernel⟩, by decide, by decide +kernel⟩
theorem v_X6_sumOfPorts : VOK yX6_sumOfPorts := ⟨AW_in (lw_at 391 (by decide +kernel : tables_1[391]? = some (Cond.instanceMethod yX6_sumOfPorts))) rfl, AW_in (lw_at 392 (by decide +kernel)) rfl⟩
theorem m_X6_lendableTo : MOK yX6_lendableTo cX6_lendableTo 4 (some .int) 1 := ⟨lw_at 859 (by decide +kernel), ini_X6, ⟨by decide, by decide, by decide +kernel⟩, by decide, by decide +kernel⟩
theorem v_X6_lendableTo : VOK yX6_lendableTo := ⟨AW_in (lw_at 857 (by decide +kernel : tables_1[857]? = some (Cond.instanceMethod yX6_lendableTo))) rfl, AW_in (lw_at 858 (by decide +kernel)) rfl⟩
theorem m_X6_missing : MOK yX6_missing cX6_missing 3 (some .int) 2 := ⟨lw_at 855 (by decide +kernel), ini_X6, ⟨by decide, by decide, by decide +kernel⟩, by decide, by decide +kernel⟩
theorem v_X6_missing : VOK yX6_missing := ⟨AW_in (lw_at 853 (by decide +kernel : tables_1[853]? = some (Cond.instanceMethod yX6_missing))) rfl, AW_in (lw_at 854 (by decide +kernel)) rfl⟩
theorem m_X6_wayOf : MOK yX6_wayOf cX6_wayOf 4 (some .int) 2 := ⟨lw_at 851 (by decide +kernel), ini_X6, ⟨by decide, by decide, by decide +kernel⟩, by decide, by decide +kernel⟩
theorem v_X6_wayOf : VOK yX6_wayOf := ⟨AW_in (lw_at 849 (by decide +kernel : tables_1[849]? = some (Cond.instanceMethod yX6_wayOf))) rfl, AW_in (lw_at 850 (by decide +kernel)) rfl⟩
theorem m_X6_admit : MOK yX6_admit cX6_admit 5 (some .int) 2 := ⟨lw_at 847 (by decide +kernel), ini_X6, ⟨by decide, by decide, by decide +kernel⟩, by decide, by decide +kernel⟩
theorem v_X6_admit : VOK yX6_admit := ⟨AW_in (lw_at 845 (by decide +kernel : tables_1[845]? = some (Cond.instanceMethod yX6_admit))) rfl, AW_in (lw_at 846 (by decide +kernel)) rfl⟩
theorem m_X6_borrow : MOK yX6_borrow cX6_borrow 7 none 2 := ⟨lw_at 873 (by decide +kernel), ini_X6, ⟨by decide, by decide, by decide +kernel⟩, by decide, by decide +kernel⟩
theorem v_X6_borrow : VOK yX6_borrow := ⟨AW_in (lw_at 871 (by decide +kernel : tables_1[871]? = some (Cond.instanceMethod yX6_borrow))) rfl, AW_in (lw_at 872 (by decide +kernel)) rfl⟩
theorem m_X6_bestLender : MOK yX6_bestLender cX6_bestLender 5 (some .int) 1 := ⟨lw_at 877 (by decide +kernel), ini_X6, ⟨by decide, by decide, by decide +kernel⟩, by decide, by decide +kernel⟩
theorem v_X6_bestLender : VOK yX6_bestLender := ⟨AW_in (lw_at 875 (by decide +kernel : tables_1[875]? = some (Cond.instanceMethod yX6_bestLender))) rfl, AW_in (lw_at 876 (by decide +kernel)) rfl⟩
theorem m_X6_collect : MOK yX6_collect cX6_collect 8 none 3 := ⟨lw_at 864 (by decide +kernel), ini_X6, ⟨by decide, by decide, by decide +kernel⟩, by decide, by decide +kernel⟩
theorem v_X6_collect : VOK yX6_collect := ⟨AW_in (lw_at 862 (by decide +kernel : tables_1[862]? = some (Cond.instanceMethod yX6_collect))) rfl, AW_in (lw_at 863 (by decide +kernel)) rfl⟩
theorem m_X6_takeBack : MOK yX6_takeBack cX6_takeBack 8 none 3 := ⟨lw_at 453 (by decide +kernel), ini_X6, ⟨by decide, by decide, by decide +kernel⟩, by decide, by decide +kernel⟩
theorem v_X6_takeBack : VOK yX6_takeBack := ⟨AW_in (lw_at 451 (by decide +kernel : tables_1[451]? = some (Cond.instanceMethod yX6_takeBack))) rfl, AW_in (lw_at 452 (by decide +kernel)) rfl⟩
theorem m_X6_recordDrop : MOK yX6_recordDrop cX6_recordDrop 4 none 3 := ⟨lw_at 466 (by decide +kernel), ini_X6, ⟨by decide, by decide, by decide +kernel⟩, by decide, by decide +kernel⟩
theorem v_X6_recordDrop : VOK yX6_recordDrop := ⟨AW_in (lw_at 464 (by decide +kernel : tables_1[464]? = some (Cond.instanceMethod yX6_recordDrop))) rfl, AW_in (lw_at 465 (by decide +kernel)) rfl⟩
theorem m_X6_mayPass : MOK yX6_mayPass cX6_mayPass 2 (some .boolean) 1 := ⟨lw_at 889 (by decide +kernel), ini_X6, ⟨by decide, by decide, by decide +kernel⟩, by decide, by decide +kernel⟩
theorem v_X6_mayPass : VOK yX6_mayPass := ⟨AW_in (lw_at 887 (by decide +kernel : tables_1[887]? = some (Cond.instanceMethod yX6_mayPass))) rfl, AW_in (lw_at 888 (by decide +kernel)) rfl⟩
theorem m_X6_passTicks : MOK yX6_passTicks cX6_passTicks 3 (some .int) 1 := ⟨lw_at 893 (by decide +kernel), ini_X6, ⟨by decide, by decide, by decide +kernel⟩, by decide, by decide +kernel⟩
theorem v_X6_passTicks : VOK yX6_passTicks := ⟨AW_in (lw_at 891 (by decide +kernel : tables_1[891]? = some (Cond.instanceMethod yX6_passTicks))) rfl, AW_in (lw_at 892 (by decide +kernel)) rfl⟩
theorem m_X6_passTick : MOK yX6_passTick cX6_passTick 2 none 0 := ⟨lw_at 449 (by decide +kernel), ini_X6, ⟨by decide, by decide, by decide +kernel⟩, by decide, by decide +kernel⟩
theorem v_X6_passTick : VOK yX6_passTick := ⟨AW_in (lw_at 447 (by decide +kernel : tables_1[447]? = some (Cond.instanceMethod yX6_passTick))) rfl, AW_in (lw_at 448 (by decide +kernel)) rfl⟩
theorem m_X6_mayReturn : MOK yX6_mayReturn cX6_mayReturn 4 (some .boolean) 3 := ⟨lw_at 902 (by decide +kernel), ini_X6, ⟨by decide, by decide, by decide +kernel⟩, by decide, by decide +kernel⟩
theorem v_X6_mayReturn : VOK yX6_mayReturn := ⟨AW_in (lw_at 900 (by decide +kernel : tables_1[900]? = some (Cond.instanceMethod yX6_mayReturn))) rfl, AW_in (lw_at 901 (by decide +kernel)) rfl⟩
theorem m_X6_returnCells : MOK yX6_returnCells cX6_returnCells 4 (some .int) 3 := ⟨lw_at 911 (by decide +kernel), ini_X6, ⟨by decide, by decide, by decide +kernel⟩, by decide, by decide +kernel⟩
theorem v_X6_returnCells : VOK yX6_returnCells := ⟨AW_in (lw_at 909 (by decide +kernel : tables_1[909]? = some (Cond.instanceMethod yX6_returnCells))) rfl, AW_in (lw_at 910 (by decide +kernel)) rfl⟩
theorem m_X6_mayProlong : MOK yX6_mayProlong cX6_mayProlong 3 (some .boolean) 1 := ⟨lw_at 915 (by decide +kernel), ini_X6, ⟨by decide, by decide, by decide +kernel⟩, by decide, by decide +kernel⟩
theorem v_X6_mayProlong : VOK yX6_mayProlong := ⟨AW_in (lw_at 913 (by decide +kernel : tables_1[913]? = some (Cond.instanceMethod yX6_mayProlong))) rfl, AW_in (lw_at 914 (by decide +kernel)) rfl⟩
theorem m_X6_prolong : MOK yX6_prolong cX6_prolong 6 (some .int) 1 := ⟨lw_at 921 (by decide +kernel), ini_X6, ⟨by decide, by decide, by decide +kernel⟩, by decide, by decide +kernel⟩
theorem v_X6_prolong : VOK yX6_prolong := ⟨AW_in (lw_at 919 (by decide +kernel : tables_1[919]? = some (Cond.instanceMethod yX6_prolong))) rfl, AW_in (lw_at 920 (by decide +kernel)) rfl⟩
theorem m_X6_changeTerm : MOK yX6_changeTerm cX6_changeTerm 3 (some .int) 1 := ⟨lw_at 925 (by decide +kernel), ini_X6, ⟨by decide, by decide, by decide +kernel⟩, by decide, by decide +kernel⟩
theorem v_X6_changeTerm : VOK yX6_changeTerm := ⟨AW_in (lw_at 923 (by decide +kernel : tables_1[923]? = some (Cond.instanceMethod yX6_changeTerm))) rfl, AW_in (lw_at 924 (by decide +kernel)) rfl⟩
theorem m_X6_changeKeep : MOK yX6_changeKeep cX6_changeKeep 3 (some .int) 1 := ⟨lw_at 929 (by decide +kernel), ini_X6, ⟨by decide, by decide, by decide +kernel⟩, by decide, by decide +kernel⟩
theorem v_X6_changeKeep : VOK yX6_changeKeep := ⟨AW_in (lw_at 927 (by decide +kernel : tables_1[927]? = some (Cond.instanceMethod yX6_changeKeep))) rfl, AW_in (lw_at 928 (by decide +kernel)) rfl⟩
theorem m_X7_init : MOK yX7_init cX7_init 1 none 0 := ⟨lw_at 79 (by decide +kernel), ini_X7, ⟨by decide, by decide, by decide +kernel⟩, by decide, by decide +kernel⟩
theorem iw_X7_init : Cond.instanceMethod yX7_init ∈ AW := AW_in (lw_at 78 (by decide +kernel : tables_1[78]? = some (Cond.instanceMethod yX7_init))) rfl
theorem m_X7_readFrom : MOK yX7_readFrom cX7_readFrom 4 (some .boolean) 2 := ⟨lw_at 645 (by decide +kernel), ini_X7, ⟨by decide, by decide, by decide +kernel⟩, by decide, by decide +kernel⟩
theorem v_X7_readFrom : VOK yX7_readFrom := ⟨AW_in (lw_at 643 (by decide +kernel : tables_1[643]? = some (Cond.instanceMethod yX7_readFrom))) rfl, AW_in (lw_at 644 (by decide +kernel)) rfl⟩
theorem m_X7_readStatement : MOK yX7_readStatement cX7_readStatement 3 (some .boolean) 2 := ⟨lw_at 672 (by decide +kernel), ini_X7, ⟨by decide, by decide, by decide +kernel⟩, by decide, by decide +kernel⟩
theorem v_X7_readStatement : VOK yX7_readStatement := ⟨AW_in (lw_at 670 (by decide +kernel : tables_1[670]? = some (Cond.instanceMethod yX7_readStatement))) rfl, AW_in (lw_at 671 (by decide +kernel)) rfl⟩
theorem m_X7_readPort : MOK yX7_readPort cX7_readPort 8 (some .boolean) 2 := ⟨lw_at 729 (by decide +kernel), ini_X7, ⟨by decide, by decide, by decide +kernel⟩, by decide, by decide +kernel⟩
theorem v_X7_readPort : VOK yX7_readPort := ⟨AW_in (lw_at 727 (by decide +kernel : tables_1[727]? = some (Cond.instanceMethod yX7_readPort))) rfl, AW_in (lw_at 728 (by decide +kernel)) rfl⟩
theorem m_X7_readTerm : MOK yX7_readTerm cX7_readTerm 3 (some .boolean) 2 := ⟨lw_at 766 (by decide +kernel), ini_X7, ⟨by decide, by decide, by decide +kernel⟩, by decide, by decide +kernel⟩
theorem v_X7_readTerm : VOK yX7_readTerm := ⟨AW_in (lw_at 764 (by decide +kernel : tables_1[764]? = some (Cond.instanceMethod yX7_readTerm))) rfl, AW_in (lw_at 765 (by decide +kernel)) rfl⟩
theorem m_X7_readKeep : MOK yX7_readKeep cX7_readKeep 3 (some .boolean) 2 := ⟨lw_at 776 (by decide +kernel), ini_X7, ⟨by decide, by decide, by decide +kernel⟩, by decide, by decide +kernel⟩
theorem v_X7_readKeep : VOK yX7_readKeep := ⟨AW_in (lw_at 774 (by decide +kernel : tables_1[774]? = some (Cond.instanceMethod yX7_readKeep))) rfl, AW_in (lw_at 775 (by decide +kernel)) rfl⟩
theorem m_X8_init : MOK yX8_init cX8_init 1 none 0 := ⟨lw_at 35 (by decide +kernel), ini_X8, ⟨by decide, by decide, by decide +kernel⟩, by decide, by decide +kernel⟩
theorem iw_X8_init : Cond.instanceMethod yX8_init ∈ AW := AW_in (lw_at 34 (by decide +kernel : tables_1[34]? = some (Cond.instanceMethod yX8_init))) rfl
theorem m_X8_append : MOK yX8_append cX8_append 3 none 1 := ⟨lw_at 604 (by decide +kernel), ini_X8, ⟨by decide, by decide, by decide +kernel⟩, by decide, by decide +kernel⟩
theorem v_X8_append : VOK yX8_append := ⟨AW_in (lw_at 602 (by decide +kernel : tables_1[602]? = some (Cond.instanceMethod yX8_append))) rfl, AW_in (lw_at 603 (by decide +kernel)) rfl⟩
theorem m_X8_begin : MOK yX8_begin cX8_begin 1 none 0 := ⟨lw_at 657 (by decide +kernel), ini_X8, ⟨by decide, by decide, by decide +kernel⟩, by decide, by decide +kernel⟩
theorem v_X8_begin : VOK yX8_begin := ⟨AW_in (lw_at 655 (by decide +kernel : tables_1[655]? = some (Cond.instanceMethod yX8_begin))) rfl, AW_in (lw_at 656 (by decide +kernel)) rfl⟩
theorem m_X8_fail : MOK yX8_fail cX8_fail 2 (some .boolean) 1 := ⟨lw_at 733 (by decide +kernel), ini_X8, ⟨by decide, by decide, by decide +kernel⟩, by decide, by decide +kernel⟩
theorem v_X8_fail : VOK yX8_fail := ⟨AW_in (lw_at 731 (by decide +kernel : tables_1[731]? = some (Cond.instanceMethod yX8_fail))) rfl, AW_in (lw_at 732 (by decide +kernel)) rfl⟩
theorem m_X8_advance : MOK yX8_advance cX8_advance 2 none 0 := ⟨lw_at 661 (by decide +kernel), ini_X8, ⟨by decide, by decide, by decide +kernel⟩, by decide, by decide +kernel⟩
theorem v_X8_advance : VOK yX8_advance := ⟨AW_in (lw_at 659 (by decide +kernel : tables_1[659]? = some (Cond.instanceMethod yX8_advance))) rfl, AW_in (lw_at 660 (by decide +kernel)) rfl⟩
theorem m_X8_isTooLong : MOK yX8_isTooLong cX8_isTooLong 2 (some .boolean) 0 := ⟨lw_at 668 (by decide +kernel), ini_X8, ⟨by decide, by decide, by decide +kernel⟩, by decide, by decide +kernel⟩
theorem v_X8_isTooLong : VOK yX8_isTooLong := ⟨AW_in (lw_at 666 (by decide +kernel : tables_1[666]? = some (Cond.instanceMethod yX8_isTooLong))) rfl, AW_in (lw_at 667 (by decide +kernel)) rfl⟩
theorem m_X8_kindOf : MOK yX8_kindOf cX8_kindOf 1 (some .int) 1 := ⟨lw_at 664 (by decide +kernel), ini_X8, ⟨by decide, by decide, by decide +kernel⟩, by decide, by decide +kernel⟩
theorem st_X8_kindOf : Cond.static yX8_kindOf ∈ AW := AW_in (lw_at 663 (by decide +kernel : tables_1[663]? = some (Cond.static yX8_kindOf))) rfl
theorem m_X8_takeName : MOK yX8_takeName cX8_takeName 1 (some .boolean) 0 := ⟨lw_at 737 (by decide +kernel), ini_X8, ⟨by decide, by decide, by decide +kernel⟩, by decide, by decide +kernel⟩
theorem v_X8_takeName : VOK yX8_takeName := ⟨AW_in (lw_at 735 (by decide +kernel : tables_1[735]? = some (Cond.instanceMethod yX8_takeName))) rfl, AW_in (lw_at 736 (by decide +kernel)) rfl⟩
theorem m_X8_takeNumber : MOK yX8_takeNumber cX8_takeNumber 3 (some .boolean) 2 := ⟨lw_at 747 (by decide +kernel), ini_X8, ⟨by decide, by decide, by decide +kernel⟩, by decide, by decide +kernel⟩
theorem v_X8_takeNumber : VOK yX8_takeNumber := ⟨AW_in (lw_at 745 (by decide +kernel : tables_1[745]? = some (Cond.instanceMethod yX8_takeNumber))) rfl, AW_in (lw_at 746 (by decide +kernel)) rfl⟩
theorem m_X8_takeSign : MOK yX8_takeSign cX8_takeSign 2 (some .boolean) 1 := ⟨lw_at 770 (by decide +kernel), ini_X8, ⟨by decide, by decide, by decide +kernel⟩, by decide, by decide +kernel⟩
theorem v_X8_takeSign : VOK yX8_takeSign := ⟨AW_in (lw_at 768 (by decide +kernel : tables_1[768]? = some (Cond.instanceMethod yX8_takeSign))) rfl, AW_in (lw_at 769 (by decide +kernel)) rfl⟩
theorem m_X8_isSign : MOK yX8_isSign cX8_isSign 2 (some .boolean) 1 := ⟨lw_at 761 (by decide +kernel), ini_X8, ⟨by decide, by decide, by decide +kernel⟩, by decide, by decide +kernel⟩
theorem v_X8_isSign : VOK yX8_isSign := ⟨AW_in (lw_at 759 (by decide +kernel : tables_1[759]? = some (Cond.instanceMethod yX8_isSign))) rfl, AW_in (lw_at 760 (by decide +kernel)) rfl⟩
theorem m_X8_isWord : MOK yX8_isWord cX8_isWord 5 (some .boolean) 1 := ⟨lw_at 677 (by decide +kernel), ini_X8, ⟨by decide, by decide, by decide +kernel⟩, by decide, by decide +kernel⟩
theorem v_X8_isWord : VOK yX8_isWord := ⟨AW_in (lw_at 675 (by decide +kernel : tables_1[675]? = some (Cond.instanceMethod yX8_isWord))) rfl, AW_in (lw_at 676 (by decide +kernel)) rfl⟩
theorem m_X9_init : MOK yX9_init cX9_init 1 none 0 := ⟨lw_at 27 (by decide +kernel), ini_X9, ⟨by decide, by decide, by decide +kernel⟩, by decide, by decide +kernel⟩
theorem iw_X9_init : Cond.instanceMethod yX9_init ∈ AW := AW_in (lw_at 26 (by decide +kernel : tables_1[26]? = some (Cond.instanceMethod yX9_init))) rfl
theorem m_X9_feed : MOK yX9_feed cX9_feed 6 (some .int) 5 := ⟨lw_at 532 (by decide +kernel), ini_X9, ⟨by decide, by decide, by decide +kernel⟩, by decide, by decide +kernel⟩
theorem v_X9_feed : VOK yX9_feed := ⟨AW_in (lw_at 530 (by decide +kernel : tables_1[530]? = some (Cond.instanceMethod yX9_feed))) rfl, AW_in (lw_at 531 (by decide +kernel)) rfl⟩
theorem m_X9_truncate : MOK yX9_truncate cX9_truncate 2 (some .int) 1 := ⟨lw_at 612 (by decide +kernel), ini_X9, ⟨by decide, by decide, by decide +kernel⟩, by decide, by decide +kernel⟩
theorem v_X9_truncate : VOK yX9_truncate := ⟨AW_in (lw_at 610 (by decide +kernel : tables_1[610]? = some (Cond.instanceMethod yX9_truncate))) rfl, AW_in (lw_at 611 (by decide +kernel)) rfl⟩
theorem m_X9_readText : MOK yX9_readText cX9_readText 2 (some .int) 0 := ⟨lw_at 641 (by decide +kernel), ini_X9, ⟨by decide, by decide, by decide +kernel⟩, by decide, by decide +kernel⟩
theorem v_X9_readText : VOK yX9_readText := ⟨AW_in (lw_at 639 (by decide +kernel : tables_1[639]? = some (Cond.instanceMethod yX9_readText))) rfl, AW_in (lw_at 640 (by decide +kernel)) rfl⟩
theorem m_X9_runScript : MOK yX9_runScript cX9_runScript 3 (some .int) 0 := ⟨lw_at 788 (by decide +kernel), ini_X9, ⟨by decide, by decide, by decide +kernel⟩, by decide, by decide +kernel⟩
theorem v_X9_runScript : VOK yX9_runScript := ⟨AW_in (lw_at 786 (by decide +kernel : tables_1[786]? = some (Cond.instanceMethod yX9_runScript))) rfl, AW_in (lw_at 787 (by decide +kernel)) rfl⟩
theorem m_X9_errorCode : MOK yX9_errorCode cX9_errorCode 1 (some .int) 0 := ⟨lw_at 373 (by decide +kernel), ini_X9, ⟨by decide, by decide, by decide +kernel⟩, by decide, by decide +kernel⟩
theorem v_X9_errorCode : VOK yX9_errorCode := ⟨AW_in (lw_at 371 (by decide +kernel : tables_1[371]? = some (Cond.instanceMethod yX9_errorCode))) rfl, AW_in (lw_at 372 (by decide +kernel)) rfl⟩
theorem m_X9_errorPosition : MOK yX9_errorPosition cX9_errorPosition 1 (some .int) 0 := ⟨lw_at 377 (by decide +kernel), ini_X9, ⟨by decide, by decide, by decide +kernel⟩, by decide, by decide +kernel⟩
theorem v_X9_errorPosition : VOK yX9_errorPosition := ⟨AW_in (lw_at 375 (by decide +kernel : tables_1[375]? = some (Cond.instanceMethod yX9_errorPosition))) rfl, AW_in (lw_at 376 (by decide +kernel)) rfl⟩
theorem m_X9_setting : MOK yX9_setting cX9_setting 2 (some .int) 1 := ⟨lw_at 936 (by decide +kernel), ini_X9, ⟨by decide, by decide, by decide +kernel⟩, by decide, by decide +kernel⟩
theorem v_X9_setting : VOK yX9_setting := ⟨AW_in (lw_at 934 (by decide +kernel : tables_1[934]? = some (Cond.instanceMethod yX9_setting))) rfl, AW_in (lw_at 935 (by decide +kernel)) rfl⟩
theorem m_X9_port : MOK yX9_port cX9_port 3 (some .int) 2 := ⟨lw_at 944 (by decide +kernel), ini_X9, ⟨by decide, by decide, by decide +kernel⟩, by decide, by decide +kernel⟩
theorem v_X9_port : VOK yX9_port := ⟨AW_in (lw_at 942 (by decide +kernel : tables_1[942]? = some (Cond.instanceMethod yX9_port))) rfl, AW_in (lw_at 943 (by decide +kernel)) rfl⟩
theorem m_X9_packet : MOK yX9_packet cX9_packet 5 (some .int) 3 := ⟨lw_at 975 (by decide +kernel), ini_X9, ⟨by decide, by decide, by decide +kernel⟩, by decide, by decide +kernel⟩
theorem v_X9_packet : VOK yX9_packet := ⟨AW_in (lw_at 973 (by decide +kernel : tables_1[973]? = some (Cond.instanceMethod yX9_packet))) rfl, AW_in (lw_at 974 (by decide +kernel)) rfl⟩
theorem m_X9_promise : MOK yX9_promise cX9_promise 3 (some .int) 2 := ⟨lw_at 982 (by decide +kernel), ini_X9, ⟨by decide, by decide, by decide +kernel⟩, by decide, by decide +kernel⟩
theorem v_X9_promise : VOK yX9_promise := ⟨AW_in (lw_at 980 (by decide +kernel : tables_1[980]? = some (Cond.instanceMethod yX9_promise))) rfl, AW_in (lw_at 981 (by decide +kernel)) rfl⟩
theorem m_X9_owed : MOK yX9_owed cX9_owed 3 (some .int) 2 := ⟨lw_at 989 (by decide +kernel), ini_X9, ⟨by decide, by decide, by decide +kernel⟩, by decide, by decide +kernel⟩
theorem v_X9_owed : VOK yX9_owed := ⟨AW_in (lw_at 987 (by decide +kernel : tables_1[987]? = some (Cond.instanceMethod yX9_owed))) rfl, AW_in (lw_at 988 (by decide +kernel)) rfl⟩
theorem m_X9_drop : MOK yX9_drop cX9_drop 3 (some .int) 2 := ⟨lw_at 997 (by decide +kernel), ini_X9, ⟨by decide, by decide, by decide +kernel⟩, by decide, by decide +kernel⟩
theorem v_X9_drop : VOK yX9_drop := ⟨AW_in (lw_at 995 (by decide +kernel : tables_1[995]? = some (Cond.instanceMethod yX9_drop))) rfl, AW_in (lw_at 996 (by decide +kernel)) rfl⟩
theorem m_X9_dropsBy : MOK yX9_dropsBy cX9_dropsBy 2 (some .int) 1 := ⟨lw_at 1008 (by decide +kernel), ini_X9, ⟨by decide, by decide, by decide +kernel⟩, by decide, by decide +kernel⟩
theorem v_X9_dropsBy : VOK yX9_dropsBy := ⟨AW_in (lw_at 1006 (by decide +kernel : tables_1[1006]? = some (Cond.instanceMethod yX9_dropsBy))) rfl, AW_in (lw_at 1007 (by decide +kernel)) rfl⟩
theorem m_X9_mostCharged : MOK yX9_mostCharged cX9_mostCharged 3 (some .int) 0 := ⟨lw_at 381 (by decide +kernel), ini_X9, ⟨by decide, by decide, by decide +kernel⟩, by decide, by decide +kernel⟩
theorem v_X9_mostCharged : VOK yX9_mostCharged := ⟨AW_in (lw_at 379 (by decide +kernel : tables_1[379]? = some (Cond.instanceMethod yX9_mostCharged))) rfl, AW_in (lw_at 380 (by decide +kernel)) rfl⟩
theorem m_X9_lossShare : MOK yX9_lossShare cX9_lossShare 1 (some .float) 0 := ⟨lw_at 385 (by decide +kernel), ini_X9, ⟨by decide, by decide, by decide +kernel⟩, by decide, by decide +kernel⟩
theorem v_X9_lossShare : VOK yX9_lossShare := ⟨AW_in (lw_at 383 (by decide +kernel : tables_1[383]? = some (Cond.instanceMethod yX9_lossShare))) rfl, AW_in (lw_at 384 (by decide +kernel)) rfl⟩
theorem m_X9_meanForecast : MOK yX9_meanForecast cX9_meanForecast 1 (some .double) 0 := ⟨lw_at 389 (by decide +kernel), ini_X9, ⟨by decide, by decide, by decide +kernel⟩, by decide, by decide +kernel⟩
theorem v_X9_meanForecast : VOK yX9_meanForecast := ⟨AW_in (lw_at 387 (by decide +kernel : tables_1[387]? = some (Cond.instanceMethod yX9_meanForecast))) rfl, AW_in (lw_at 388 (by decide +kernel)) rfl⟩
theorem m_X9_wouldBorrow : MOK yX9_wouldBorrow cX9_wouldBorrow 4 (some .int) 2 := ⟨lw_at 1015 (by decide +kernel), ini_X9, ⟨by decide, by decide, by decide +kernel⟩, by decide, by decide +kernel⟩
theorem v_X9_wouldBorrow : VOK yX9_wouldBorrow := ⟨AW_in (lw_at 1013 (by decide +kernel : tables_1[1013]? = some (Cond.instanceMethod yX9_wouldBorrow))) rfl, AW_in (lw_at 1014 (by decide +kernel)) rfl⟩
theorem m_X9_wouldCall : MOK yX9_wouldCall cX9_wouldCall 3 (some .int) 2 := ⟨lw_at 1024 (by decide +kernel), ini_X9, ⟨by decide, by decide, by decide +kernel⟩, by decide, by decide +kernel⟩
theorem v_X9_wouldCall : VOK yX9_wouldCall := ⟨AW_in (lw_at 1022 (by decide +kernel : tables_1[1022]? = some (Cond.instanceMethod yX9_wouldCall))) rfl, AW_in (lw_at 1023 (by decide +kernel)) rfl⟩
theorem m_X9_wouldDrop : MOK yX9_wouldDrop cX9_wouldDrop 3 (some .int) 2 := ⟨lw_at 1031 (by decide +kernel), ini_X9, ⟨by decide, by decide, by decide +kernel⟩, by decide, by decide +kernel⟩
theorem v_X9_wouldDrop : VOK yX9_wouldDrop := ⟨AW_in (lw_at 1029 (by decide +kernel : tables_1[1029]? = some (Cond.instanceMethod yX9_wouldDrop))) rfl, AW_in (lw_at 1030 (by decide +kernel)) rfl⟩
theorem m_X9_greatest : MOK yX9_greatest cX9_greatest 5 (some .int) 1 := ⟨lw_at 1038 (by decide +kernel), ini_X9, ⟨by decide, by decide, by decide +kernel⟩, by decide, by decide +kernel⟩
theorem v_X9_greatest : VOK yX9_greatest := ⟨AW_in (lw_at 1036 (by decide +kernel : tables_1[1036]? = some (Cond.instanceMethod yX9_greatest))) rfl, AW_in (lw_at 1037 (by decide +kernel)) rfl⟩
theorem m_X9_dropsIn : MOK yX9_dropsIn cX9_dropsIn 3 (some .int) 1 := ⟨lw_at 1049 (by decide +kernel), ini_X9, ⟨by decide, by decide, by decide +kernel⟩, by decide, by decide +kernel⟩
theorem v_X9_dropsIn : VOK yX9_dropsIn := ⟨AW_in (lw_at 1047 (by decide +kernel : tables_1[1047]? = some (Cond.instanceMethod yX9_dropsIn))) rfl, AW_in (lw_at 1048 (by decide +kernel)) rfl⟩
theorem m_X9_emptyIn : MOK yX9_emptyIn cX9_emptyIn 2 (some .int) 0 := ⟨lw_at 425 (by decide +kernel), ini_X9, ⟨by decide, by decide, by decide +kernel⟩, by decide, by decide +kernel⟩
theorem v_X9_emptyIn : VOK yX9_emptyIn := ⟨AW_in (lw_at 423 (by decide +kernel : tables_1[423]? = some (Cond.instanceMethod yX9_emptyIn))) rfl, AW_in (lw_at 424 (by decide +kernel)) rfl⟩
theorem m_X9_sentIn : MOK yX9_sentIn cX9_sentIn 6 (some .int) 2 := ⟨lw_at 1056 (by decide +kernel), ini_X9, ⟨by decide, by decide, by decide +kernel⟩, by decide, by decide +kernel⟩
theorem v_X9_sentIn : VOK yX9_sentIn := ⟨AW_in (lw_at 1054 (by decide +kernel : tables_1[1054]? = some (Cond.instanceMethod yX9_sentIn))) rfl, AW_in (lw_at 1055 (by decide +kernel)) rfl⟩
theorem m_X9_arrive : MOK yX9_arrive cX9_arrive 3 (some .int) 2 := ⟨lw_at 1067 (by decide +kernel), ini_X9, ⟨by decide, by decide, by decide +kernel⟩, by decide, by decide +kernel⟩
theorem v_X9_arrive : VOK yX9_arrive := ⟨AW_in (lw_at 1065 (by decide +kernel : tables_1[1065]? = some (Cond.instanceMethod yX9_arrive))) rfl, AW_in (lw_at 1066 (by decide +kernel)) rfl⟩
theorem m_X9_tick : MOK yX9_tick cX9_tick 2 (some .int) 1 := ⟨lw_at 1074 (by decide +kernel), ini_X9, ⟨by decide, by decide, by decide +kernel⟩, by decide, by decide +kernel⟩
theorem v_X9_tick : VOK yX9_tick := ⟨AW_in (lw_at 1072 (by decide +kernel : tables_1[1072]? = some (Cond.instanceMethod yX9_tick))) rfl, AW_in (lw_at 1073 (by decide +kernel)) rfl⟩
theorem m_X9_giveBack : MOK yX9_giveBack cX9_giveBack 4 (some .int) 3 := ⟨lw_at 1081 (by decide +kernel), ini_X9, ⟨by decide, by decide, by decide +kernel⟩, by decide, by decide +kernel⟩
theorem v_X9_giveBack : VOK yX9_giveBack := ⟨AW_in (lw_at 1079 (by decide +kernel : tables_1[1079]? = some (Cond.instanceMethod yX9_giveBack))) rfl, AW_in (lw_at 1080 (by decide +kernel)) rfl⟩
theorem m_X9_extend : MOK yX9_extend cX9_extend 2 (some .int) 1 := ⟨lw_at 1089 (by decide +kernel), ini_X9, ⟨by decide, by decide, by decide +kernel⟩, by decide, by decide +kernel⟩
theorem v_X9_extend : VOK yX9_extend := ⟨AW_in (lw_at 1087 (by decide +kernel : tables_1[1087]? = some (Cond.instanceMethod yX9_extend))) rfl, AW_in (lw_at 1088 (by decide +kernel)) rfl⟩
theorem m_X9_setTerm : MOK yX9_setTerm cX9_setTerm 2 (some .int) 1 := ⟨lw_at 1097 (by decide +kernel), ini_X9, ⟨by decide, by decide, by decide +kernel⟩, by decide, by decide +kernel⟩
theorem v_X9_setTerm : VOK yX9_setTerm := ⟨AW_in (lw_at 1095 (by decide +kernel : tables_1[1095]? = some (Cond.instanceMethod yX9_setTerm))) rfl, AW_in (lw_at 1096 (by decide +kernel)) rfl⟩
theorem m_X9_setKeep : MOK yX9_setKeep cX9_setKeep 2 (some .int) 1 := ⟨lw_at 1104 (by decide +kernel), ini_X9, ⟨by decide, by decide, by decide +kernel⟩, by decide, by decide +kernel⟩
theorem v_X9_setKeep : VOK yX9_setKeep := ⟨AW_in (lw_at 1102 (by decide +kernel : tables_1[1102]? = some (Cond.instanceMethod yX9_setKeep))) rfl, AW_in (lw_at 1103 (by decide +kernel)) rfl⟩
theorem m_X9_undo : MOK yX9_undo cX9_undo 1 (some .int) 0 := ⟨lw_at 489 (by decide +kernel), ini_X9, ⟨by decide, by decide, by decide +kernel⟩, by decide, by decide +kernel⟩
theorem v_X9_undo : VOK yX9_undo := ⟨AW_in (lw_at 487 (by decide +kernel : tables_1[487]? = some (Cond.instanceMethod yX9_undo))) rfl, AW_in (lw_at 488 (by decide +kernel)) rfl⟩
theorem m_X9_report : MOK yX9_report cX9_report 1 (some .int) 0 := ⟨lw_at 498 (by decide +kernel), ini_X9, ⟨by decide, by decide, by decide +kernel⟩, by decide, by decide +kernel⟩
theorem v_X9_report : VOK yX9_report := ⟨AW_in (lw_at 496 (by decide +kernel : tables_1[496]? = some (Cond.instanceMethod yX9_report))) rfl, AW_in (lw_at 497 (by decide +kernel)) rfl⟩
theorem m_X9_reportByte : MOK yX9_reportByte cX9_reportByte 2 (some .int) 1 := ⟨lw_at 1111 (by decide +kernel), ini_X9, ⟨by decide, by decide, by decide +kernel⟩, by decide, by decide +kernel⟩
theorem v_X9_reportByte : VOK yX9_reportByte := ⟨AW_in (lw_at 1109 (by decide +kernel : tables_1[1109]? = some (Cond.instanceMethod yX9_reportByte))) rfl, AW_in (lw_at 1110 (by decide +kernel)) rfl⟩
theorem m_X9_save : MOK yX9_save cX9_save 1 (some .int) 0 := ⟨lw_at 524 (by decide +kernel), ini_X9, ⟨by decide, by decide, by decide +kernel⟩, by decide, by decide +kernel⟩
theorem v_X9_save : VOK yX9_save := ⟨AW_in (lw_at 522 (by decide +kernel : tables_1[522]? = some (Cond.instanceMethod yX9_save))) rfl, AW_in (lw_at 523 (by decide +kernel)) rfl⟩
theorem m_X9_restore : MOK yX9_restore cX9_restore 1 (some .int) 0 := ⟨lw_at 1118 (by decide +kernel), ini_X9, ⟨by decide, by decide, by decide +kernel⟩, by decide, by decide +kernel⟩
theorem v_X9_restore : VOK yX9_restore := ⟨AW_in (lw_at 1116 (by decide +kernel : tables_1[1116]? = some (Cond.instanceMethod yX9_restore))) rfl, AW_in (lw_at 1117 (by decide +kernel)) rfl⟩
theorem m_X9_within : MOK yX9_within cX9_within 3 (some .boolean) 3 := ⟨lw_at 618 (by decide +kernel), ini_X9, ⟨by decide, by decide, by decide +kernel⟩, by decide, by decide +kernel⟩
theorem st_X9_within : Cond.static yX9_within ∈ AW := AW_in (lw_at 617 (by decide +kernel : tables_1[617]? = some (Cond.static yX9_within))) rfl
theorem m_X9_needWithin : MOK yX9_needWithin cX9_needWithin 3 none 3 := ⟨lw_at 615 (by decide +kernel), ini_X9, ⟨by decide, by decide, by decide +kernel⟩, by decide, by decide +kernel⟩
theorem st_X9_needWithin : Cond.static yX9_needWithin ∈ AW := AW_in (lw_at 614 (by decide +kernel : tables_1[614]? = some (Cond.static yX9_needWithin))) rfl
theorem m_X9_needIndex : MOK yX9_needIndex cX9_needIndex 2 none 2 := ⟨lw_at 951 (by decide +kernel), ini_X9, ⟨by decide, by decide, by decide +kernel⟩, by decide, by decide +kernel⟩
theorem st_X9_needIndex : Cond.static yX9_needIndex ∈ AW := AW_in (lw_at 950 (by decide +kernel : tables_1[950]? = some (Cond.static yX9_needIndex))) rfl
theorem m_X9_needPort : MOK yX9_needPort cX9_needPort 2 none 1 := ⟨lw_at 948 (by decide +kernel), ini_X9, ⟨by decide, by decide, by decide +kernel⟩, by decide, by decide +kernel⟩
theorem v_X9_needPort : VOK yX9_needPort := ⟨AW_in (lw_at 947 (by decide +kernel : tables_1[947]? = some (Cond.instanceMethod yX9_needPort))) rfl, AW_in (lw_pv 3 (by decide +kernel : lw_privs[3]? = some (yX9_needPort, 9))) rfl⟩
theorem m_X9_doCommand : MOK yX9_doCommand cX9_doCommand 3 (some .int) 1 := ⟨lw_at 843 (by decide +kernel), ini_X9, ⟨by decide, by decide, by decide +kernel⟩, by decide, by decide +kernel⟩
theorem v_X9_doCommand : VOK yX9_doCommand := ⟨AW_in (lw_at 842 (by decide +kernel : tables_1[842]? = some (Cond.instanceMethod yX9_doCommand))) rfl, AW_in (lw_pv 1 (by decide +kernel : lw_privs[1]? = some (yX9_doCommand, 9))) rfl⟩
theorem m_X9_mayDoBack : MOK yX9_mayDoBack cX9_mayDoBack 2 (some .boolean) 1 := ⟨lw_at 898 (by decide +kernel), ini_X9, ⟨by decide, by decide, by decide +kernel⟩, by decide, by decide +kernel⟩
theorem v_X9_mayDoBack : VOK yX9_mayDoBack := ⟨AW_in (lw_at 897 (by decide +kernel : tables_1[897]? = some (Cond.instanceMethod yX9_mayDoBack))) rfl, AW_in (lw_pv 2 (by decide +kernel : lw_privs[2]? = some (yX9_mayDoBack, 9))) rfl⟩
theorem m_X10_thrown : MOK yX10_thrown cX10_thrown 1 (some .int) 0 := ⟨lw_at 1123 (by decide +kernel), ini_X10, ⟨by decide, by decide, by decide +kernel⟩, by decide, by decide +kernel⟩
theorem v_X10_thrown : VOK yX10_thrown := ⟨AW_in (lw_at 1121 (by decide +kernel : tables_1[1121]? = some (Cond.instanceMethod yX10_thrown))) rfl, AW_in (lw_at 1122 (by decide +kernel)) rfl⟩
theorem m_X10_init : MOK yX10_init cX10_init 1 none 0 := ⟨lw_at 1128 (by decide +kernel), ini_X10, ⟨by decide, by decide, by decide +kernel⟩, by decide, by decide +kernel⟩
theorem iw_X10_init : Cond.instanceMethod yX10_init ∈ AW := AW_in (lw_at 1127 (by decide +kernel : tables_1[1127]? = some (Cond.instanceMethod yX10_init))) rfl
theorem m_X10_in : MOK yX10_in cX10_in 6 (some .boolean) 3 := ⟨lw_at 1240 (by decide +kernel), ini_X10, ⟨by decide, by decide, by decide +kernel⟩, by decide, by decide +kernel⟩
theorem st_X10_in : Cond.static yX10_in ∈ AW := AW_in (lw_at 1239 (by decide +kernel : tables_1[1239]? = some (Cond.static yX10_in))) rfl
theorem m_X10_good : MOK yX10_good cX10_good 2 (some .boolean) 1 := ⟨lw_at 1229 (by decide +kernel), ini_X10, ⟨by decide, by decide, by decide +kernel⟩, by decide, by decide +kernel⟩
theorem v_X10_good : VOK yX10_good := ⟨AW_in (lw_at 1228 (by decide +kernel : tables_1[1228]? = some (Cond.instanceMethod yX10_good))) rfl, AW_in (lw_pv 7 (by decide +kernel : lw_privs[7]? = some (yX10_good, 26))) rfl⟩
theorem m_X10_allGood : MOK yX10_allGood cX10_allGood 3 (some .boolean) 2 := ⟨lw_at 1384 (by decide +kernel), ini_X10, ⟨by decide, by decide, by decide +kernel⟩, by decide, by decide +kernel⟩
theorem v_X10_allGood : VOK yX10_allGood := ⟨AW_in (lw_at 1383 (by decide +kernel : tables_1[1383]? = some (Cond.instanceMethod yX10_allGood))) rfl, AW_in (lw_pv 35 (by decide +kernel : lw_privs[35]? = some (yX10_allGood, 26))) rfl⟩
theorem m_X10_of : MOK yX10_of cX10_of 2 (some .int) 1 := ⟨lw_at 1283 (by decide +kernel), ini_X10, ⟨by decide, by decide, by decide +kernel⟩, by decide, by decide +kernel⟩
theorem v_X10_of : VOK yX10_of := ⟨AW_in (lw_at 1282 (by decide +kernel : tables_1[1282]? = some (Cond.instanceMethod yX10_of))) rfl, AW_in (lw_pv 16 (by decide +kernel : lw_privs[16]? = some (yX10_of, 26))) rfl⟩
theorem m_X10_set : MOK yX10_set cX10_set 3 none 2 := ⟨lw_at 1137 (by decide +kernel), ini_X10, ⟨by decide, by decide, by decide +kernel⟩, by decide, by decide +kernel⟩
theorem v_X10_set : VOK yX10_set := ⟨AW_in (lw_at 1136 (by decide +kernel : tables_1[1136]? = some (Cond.instanceMethod yX10_set))) rfl, AW_in (lw_pv 5 (by decide +kernel : lw_privs[5]? = some (yX10_set, 26))) rfl⟩
theorem m_X10_grows : MOK yX10_grows cX10_grows 3 none 2 := ⟨lw_at 1487 (by decide +kernel), ini_X10, ⟨by decide, by decide, by decide +kernel⟩, by decide, by decide +kernel⟩
theorem v_X10_grows : VOK yX10_grows := ⟨AW_in (lw_at 1486 (by decide +kernel : tables_1[1486]? = some (Cond.instanceMethod yX10_grows))) rfl, AW_in (lw_pv 48 (by decide +kernel : lw_privs[48]? = some (yX10_grows, 26))) rfl⟩
theorem m_X10_p : MOK yX10_p cX10_p 3 (some .int) 2 := ⟨lw_at 1343 (by decide +kernel), ini_X10, ⟨by decide, by decide, by decide +kernel⟩, by decide, by decide +kernel⟩
theorem v_X10_p : VOK yX10_p := ⟨AW_in (lw_at 1342 (by decide +kernel : tables_1[1342]? = some (Cond.instanceMethod yX10_p))) rfl, AW_in (lw_pv 26 (by decide +kernel : lw_privs[26]? = some (yX10_p, 26))) rfl⟩
theorem m_X10_setP : MOK yX10_setP cX10_setP 4 none 3 := ⟨lw_at 1304 (by decide +kernel), ini_X10, ⟨by decide, by decide, by decide +kernel⟩, by decide, by decide +kernel⟩
theorem v_X10_setP : VOK yX10_setP := ⟨AW_in (lw_at 1303 (by decide +kernel : tables_1[1303]? = some (Cond.instanceMethod yX10_setP))) rfl, AW_in (lw_pv 21 (by decide +kernel : lw_privs[21]? = some (yX10_setP, 26))) rfl⟩
theorem m_X10_growsP : MOK yX10_growsP cX10_growsP 4 none 3 := ⟨lw_at 1491 (by decide +kernel), ini_X10, ⟨by decide, by decide, by decide +kernel⟩, by decide, by decide +kernel⟩
theorem v_X10_growsP : VOK yX10_growsP := ⟨AW_in (lw_at 1490 (by decide +kernel : tables_1[1490]? = some (Cond.instanceMethod yX10_growsP))) rfl, AW_in (lw_pv 49 (by decide +kernel : lw_privs[49]? = some (yX10_growsP, 26))) rfl⟩
theorem m_X10_k : MOK yX10_k cX10_k 3 (some .int) 2 := ⟨lw_at 1351 (by decide +kernel), ini_X10, ⟨by decide, by decide, by decide +kernel⟩, by decide, by decide +kernel⟩
theorem v_X10_k : VOK yX10_k := ⟨AW_in (lw_at 1350 (by decide +kernel : tables_1[1350]? = some (Cond.instanceMethod yX10_k))) rfl, AW_in (lw_pv 28 (by decide +kernel : lw_privs[28]? = some (yX10_k, 26))) rfl⟩
theorem m_X10_m : MOK yX10_m cX10_m 3 (some .int) 2 := ⟨lw_at 1359 (by decide +kernel), ini_X10, ⟨by decide, by decide, by decide +kernel⟩, by decide, by decide +kernel⟩
theorem v_X10_m : VOK yX10_m := ⟨AW_in (lw_at 1358 (by decide +kernel : tables_1[1358]? = some (Cond.instanceMethod yX10_m))) rfl, AW_in (lw_pv 30 (by decide +kernel : lw_privs[30]? = some (yX10_m, 26))) rfl⟩
theorem m_X10_name : MOK yX10_name cX10_name 2 (some .long) 1 := ⟨lw_at 1295 (by decide +kernel), ini_X10, ⟨by decide, by decide, by decide +kernel⟩, by decide, by decide +kernel⟩
theorem v_X10_name : VOK yX10_name := ⟨AW_in (lw_at 1294 (by decide +kernel : tables_1[1294]? = some (Cond.instanceMethod yX10_name))) rfl, AW_in (lw_pv 19 (by decide +kernel : lw_privs[19]? = some (yX10_name, 26))) rfl⟩
theorem m_X10_setName : MOK yX10_setName cX10_setName 4 none 2 := ⟨lw_at 1141 (by decide +kernel), ini_X10, ⟨by decide, by decide, by decide +kernel⟩, by decide, by decide +kernel⟩
theorem v_X10_setName : VOK yX10_setName := ⟨AW_in (lw_at 1140 (by decide +kernel : tables_1[1140]? = some (Cond.instanceMethod yX10_setName))) rfl, AW_in (lw_pv 6 (by decide +kernel : lw_privs[6]? = some (yX10_setName, 26))) rfl⟩
theorem m_X10_clears : MOK yX10_clears cX10_clears 2 none 0 := ⟨lw_at 1133 (by decide +kernel), ini_X10, ⟨by decide, by decide, by decide +kernel⟩, by decide, by decide +kernel⟩
theorem v_X10_clears : VOK yX10_clears := ⟨AW_in (lw_at 1132 (by decide +kernel : tables_1[1132]? = some (Cond.instanceMethod yX10_clears))) rfl, AW_in (lw_pv 4 (by decide +kernel : lw_privs[4]? = some (yX10_clears, 26))) rfl⟩
theorem m_X10_copies : MOK yX10_copies cX10_copies 4 none 2 := ⟨lw_at 1318 (by decide +kernel), ini_X10, ⟨by decide, by decide, by decide +kernel⟩, by decide, by decide +kernel⟩
theorem v_X10_copies : VOK yX10_copies := ⟨AW_in (lw_at 1317 (by decide +kernel : tables_1[1317]? = some (Cond.instanceMethod yX10_copies))) rfl, AW_in (lw_pv 24 (by decide +kernel : lw_privs[24]? = some (yX10_copies, 26))) rfl⟩
theorem m_X10_four : MOK yX10_four cX10_four 3 none 1 := ⟨lw_at 1233 (by decide +kernel), ini_X10, ⟨by decide, by decide, by decide +kernel⟩, by decide, by decide +kernel⟩
theorem v_X10_four : VOK yX10_four := ⟨AW_in (lw_at 1232 (by decide +kernel : tables_1[1232]? = some (Cond.instanceMethod yX10_four))) rfl, AW_in (lw_pv 8 (by decide +kernel : lw_privs[8]? = some (yX10_four, 26))) rfl⟩
theorem m_X10_feed : MOK yX10_feed cX10_feed 6 (some .int) 5 := ⟨lw_at 1225 (by decide +kernel), ini_X10, ⟨by decide, by decide, by decide +kernel⟩, by decide, by decide +kernel⟩
theorem v_X10_feed : VOK yX10_feed := ⟨AW_in (lw_at 1223 (by decide +kernel : tables_1[1223]? = some (Cond.instanceMethod yX10_feed))) rfl, AW_in (lw_at 1224 (by decide +kernel)) rfl⟩
theorem m_X10_truncate : MOK yX10_truncate cX10_truncate 2 (some .int) 1 := ⟨lw_at 1237 (by decide +kernel), ini_X10, ⟨by decide, by decide, by decide +kernel⟩, by decide, by decide +kernel⟩
theorem v_X10_truncate : VOK yX10_truncate := ⟨AW_in (lw_at 1235 (by decide +kernel : tables_1[1235]? = some (Cond.instanceMethod yX10_truncate))) rfl, AW_in (lw_at 1236 (by decide +kernel)) rfl⟩
theorem m_X10_byteAt : MOK yX10_byteAt cX10_byteAt 2 (some .int) 1 := ⟨lw_at 1256 (by decide +kernel), ini_X10, ⟨by decide, by decide, by decide +kernel⟩, by decide, by decide +kernel⟩
theorem v_X10_byteAt : VOK yX10_byteAt := ⟨AW_in (lw_at 1255 (by decide +kernel : tables_1[1255]? = some (Cond.instanceMethod yX10_byteAt))) rfl, AW_in (lw_pv 11 (by decide +kernel : lw_privs[11]? = some (yX10_byteAt, 26))) rfl⟩
theorem m_X10_isGood : MOK yX10_isGood cX10_isGood 1 (some .boolean) 0 := ⟨lw_at 1266 (by decide +kernel), ini_X10, ⟨by decide, by decide, by decide +kernel⟩, by decide, by decide +kernel⟩
theorem v_X10_isGood : VOK yX10_isGood := ⟨AW_in (lw_at 1265 (by decide +kernel : tables_1[1265]? = some (Cond.instanceMethod yX10_isGood))) rfl, AW_in (lw_pv 12 (by decide +kernel : lw_privs[12]? = some (yX10_isGood, 26))) rfl⟩
theorem m_X10_must : MOK yX10_must cX10_must 3 none 2 := ⟨lw_at 1287 (by decide +kernel), ini_X10, ⟨by decide, by decide, by decide +kernel⟩, by decide, by decide +kernel⟩
theorem v_X10_must : VOK yX10_must := ⟨AW_in (lw_at 1286 (by decide +kernel : tables_1[1286]? = some (Cond.instanceMethod yX10_must))) rfl, AW_in (lw_pv 17 (by decide +kernel : lw_privs[17]? = some (yX10_must, 26))) rfl⟩
theorem m_X10_scans : MOK yX10_scans cX10_scans 2 none 0 := ⟨lw_at 1252 (by decide +kernel), ini_X10, ⟨by decide, by decide, by decide +kernel⟩, by decide, by decide +kernel⟩
theorem v_X10_scans : VOK yX10_scans := ⟨AW_in (lw_at 1251 (by decide +kernel : tables_1[1251]? = some (Cond.instanceMethod yX10_scans))) rfl, AW_in (lw_pv 10 (by decide +kernel : lw_privs[10]? = some (yX10_scans, 26))) rfl⟩
theorem m_X10_isWord : MOK yX10_isWord cX10_isWord 3 (some .boolean) 1 := ⟨lw_at 1275 (by decide +kernel), ini_X10, ⟨by decide, by decide, by decide +kernel⟩, by decide, by decide +kernel⟩
theorem v_X10_isWord : VOK yX10_isWord := ⟨AW_in (lw_at 1274 (by decide +kernel : tables_1[1274]? = some (Cond.instanceMethod yX10_isWord))) rfl, AW_in (lw_pv 14 (by decide +kernel : lw_privs[14]? = some (yX10_isWord, 26))) rfl⟩
theorem m_X10_isSign : MOK yX10_isSign cX10_isSign 2 (some .boolean) 1 := ⟨lw_at 1314 (by decide +kernel), ini_X10, ⟨by decide, by decide, by decide +kernel⟩, by decide, by decide +kernel⟩
theorem v_X10_isSign : VOK yX10_isSign := ⟨AW_in (lw_at 1313 (by decide +kernel : tables_1[1313]? = some (Cond.instanceMethod yX10_isSign))) rfl, AW_in (lw_pv 23 (by decide +kernel : lw_privs[23]? = some (yX10_isSign, 26))) rfl⟩
theorem m_X10_sign : MOK yX10_sign cX10_sign 2 none 1 := ⟨lw_at 1310 (by decide +kernel), ini_X10, ⟨by decide, by decide, by decide +kernel⟩, by decide, by decide +kernel⟩
theorem v_X10_sign : VOK yX10_sign := ⟨AW_in (lw_at 1309 (by decide +kernel : tables_1[1309]? = some (Cond.instanceMethod yX10_sign))) rfl, AW_in (lw_pv 22 (by decide +kernel : lw_privs[22]? = some (yX10_sign, 26))) rfl⟩
theorem m_X10_reads : MOK yX10_reads cX10_reads 4 (some .int) 2 := ⟨lw_at 1299 (by decide +kernel), ini_X10, ⟨by decide, by decide, by decide +kernel⟩, by decide, by decide +kernel⟩
theorem v_X10_reads : VOK yX10_reads := ⟨AW_in (lw_at 1298 (by decide +kernel : tables_1[1298]? = some (Cond.instanceMethod yX10_reads))) rfl, AW_in (lw_pv 20 (by decide +kernel : lw_privs[20]? = some (yX10_reads, 26))) rfl⟩
theorem m_X10_named : MOK yX10_named cX10_named 2 (some .int) 0 := ⟨lw_at 1291 (by decide +kernel), ini_X10, ⟨by decide, by decide, by decide +kernel⟩, by decide, by decide +kernel⟩
theorem v_X10_named : VOK yX10_named := ⟨AW_in (lw_at 1290 (by decide +kernel : tables_1[1290]? = some (Cond.instanceMethod yX10_named))) rfl, AW_in (lw_pv 18 (by decide +kernel : lw_privs[18]? = some (yX10_named, 26))) rfl⟩
theorem m_X10_starts : MOK yX10_starts cX10_starts 1 none 0 := ⟨lw_at 1248 (by decide +kernel), ini_X10, ⟨by decide, by decide, by decide +kernel⟩, by decide, by decide +kernel⟩
theorem v_X10_starts : VOK yX10_starts := ⟨AW_in (lw_at 1247 (by decide +kernel : tables_1[1247]? = some (Cond.instanceMethod yX10_starts))) rfl, AW_in (lw_pv 9 (by decide +kernel : lw_privs[9]? = some (yX10_starts, 26))) rfl⟩
theorem m_X10_readsPort : MOK yX10_readsPort cX10_readsPort 5 none 0 := ⟨lw_at 1279 (by decide +kernel), ini_X10, ⟨by decide, by decide, by decide +kernel⟩, by decide, by decide +kernel⟩
theorem v_X10_readsPort : VOK yX10_readsPort := ⟨AW_in (lw_at 1278 (by decide +kernel : tables_1[1278]? = some (Cond.instanceMethod yX10_readsPort))) rfl, AW_in (lw_pv 15 (by decide +kernel : lw_privs[15]? = some (yX10_readsPort, 26))) rfl⟩
theorem m_X10_readsStatement : MOK yX10_readsStatement cX10_readsStatement 1 none 0 := ⟨lw_at 1270 (by decide +kernel), ini_X10, ⟨by decide, by decide, by decide +kernel⟩, by decide, by decide +kernel⟩
theorem v_X10_readsStatement : VOK yX10_readsStatement := ⟨AW_in (lw_at 1269 (by decide +kernel : tables_1[1269]? = some (Cond.instanceMethod yX10_readsStatement))) rfl, AW_in (lw_pv 13 (by decide +kernel : lw_privs[13]? = some (yX10_readsStatement, 26))) rfl⟩
theorem m_X10_readText : MOK yX10_readText cX10_readText 1 (some .int) 0 := ⟨lw_at 1244 (by decide +kernel), ini_X10, ⟨by decide, by decide, by decide +kernel⟩, by decide, by decide +kernel⟩
theorem v_X10_readText : VOK yX10_readText := ⟨AW_in (lw_at 1242 (by decide +kernel : tables_1[1242]? = some (Cond.instanceMethod yX10_readText))) rfl, AW_in (lw_at 1243 (by decide +kernel)) rfl⟩
theorem m_X10_errorCode : MOK yX10_errorCode cX10_errorCode 1 (some .int) 0 := ⟨lw_at 1322 (by decide +kernel), ini_X10, ⟨by decide, by decide, by decide +kernel⟩, by decide, by decide +kernel⟩
theorem v_X10_errorCode : VOK yX10_errorCode := ⟨AW_in (lw_at 1320 (by decide +kernel : tables_1[1320]? = some (Cond.instanceMethod yX10_errorCode))) rfl, AW_in (lw_at 1321 (by decide +kernel)) rfl⟩
theorem m_X10_errorPosition : MOK yX10_errorPosition cX10_errorPosition 1 (some .int) 0 := ⟨lw_at 1326 (by decide +kernel), ini_X10, ⟨by decide, by decide, by decide +kernel⟩, by decide, by decide +kernel⟩
theorem v_X10_errorPosition : VOK yX10_errorPosition := ⟨AW_in (lw_at 1324 (by decide +kernel : tables_1[1324]? = some (Cond.instanceMethod yX10_errorPosition))) rfl, AW_in (lw_at 1325 (by decide +kernel)) rfl⟩
theorem m_X10_keeps : MOK yX10_keeps cX10_keeps 2 none 0 := ⟨lw_at 1580 (by decide +kernel), ini_X10, ⟨by decide, by decide, by decide +kernel⟩, by decide, by decide +kernel⟩
theorem v_X10_keeps : VOK yX10_keeps := ⟨AW_in (lw_at 1579 (by decide +kernel : tables_1[1579]? = some (Cond.instanceMethod yX10_keeps))) rfl, AW_in (lw_pv 66 (by decide +kernel : lw_privs[66]? = some (yX10_keeps, 26))) rfl⟩
theorem m_X10_remembers : MOK yX10_remembers cX10_remembers 1 none 0 := ⟨lw_at 1479 (by decide +kernel), ini_X10, ⟨by decide, by decide, by decide +kernel⟩, by decide, by decide +kernel⟩
theorem v_X10_remembers : VOK yX10_remembers := ⟨AW_in (lw_at 1478 (by decide +kernel : tables_1[1478]? = some (Cond.instanceMethod yX10_remembers))) rfl, AW_in (lw_pv 46 (by decide +kernel : lw_privs[46]? = some (yX10_remembers, 26))) rfl⟩
theorem m_X10_kept : MOK yX10_kept cX10_kept 2 (some .int) 1 := ⟨lw_at 1576 (by decide +kernel), ini_X10, ⟨by decide, by decide, by decide +kernel⟩, by decide, by decide +kernel⟩
theorem v_X10_kept : VOK yX10_kept := ⟨AW_in (lw_at 1575 (by decide +kernel : tables_1[1575]? = some (Cond.instanceMethod yX10_kept))) rfl, AW_in (lw_pv 65 (by decide +kernel : lw_privs[65]? = some (yX10_kept, 26))) rfl⟩
theorem m_X10_undo : MOK yX10_undo cX10_undo 1 (some .int) 0 := ⟨lw_at 1330 (by decide +kernel), ini_X10, ⟨by decide, by decide, by decide +kernel⟩, by decide, by decide +kernel⟩
theorem v_X10_undo : VOK yX10_undo := ⟨AW_in (lw_at 1328 (by decide +kernel : tables_1[1328]? = some (Cond.instanceMethod yX10_undo))) rfl, AW_in (lw_at 1329 (by decide +kernel)) rfl⟩
theorem m_X10_usedBy : MOK yX10_usedBy cX10_usedBy 4 (some .int) 1 := ⟨lw_at 1347 (by decide +kernel), ini_X10, ⟨by decide, by decide, by decide +kernel⟩, by decide, by decide +kernel⟩
theorem v_X10_usedBy : VOK yX10_usedBy := ⟨AW_in (lw_at 1346 (by decide +kernel : tables_1[1346]? = some (Cond.instanceMethod yX10_usedBy))) rfl, AW_in (lw_pv 27 (by decide +kernel : lw_privs[27]? = some (yX10_usedBy, 26))) rfl⟩
theorem m_X10_lentBy : MOK yX10_lentBy cX10_lentBy 4 (some .int) 1 := ⟨lw_at 1355 (by decide +kernel), ini_X10, ⟨by decide, by decide, by decide +kernel⟩, by decide, by decide +kernel⟩
theorem v_X10_lentBy : VOK yX10_lentBy := ⟨AW_in (lw_at 1354 (by decide +kernel : tables_1[1354]? = some (Cond.instanceMethod yX10_lentBy))) rfl, AW_in (lw_pv 29 (by decide +kernel : lw_privs[29]? = some (yX10_lentBy, 26))) rfl⟩
theorem m_X10_borrowedBy : MOK yX10_borrowedBy cX10_borrowedBy 4 (some .int) 1 := ⟨lw_at 1371 (by decide +kernel), ini_X10, ⟨by decide, by decide, by decide +kernel⟩, by decide, by decide +kernel⟩
theorem v_X10_borrowedBy : VOK yX10_borrowedBy := ⟨AW_in (lw_at 1370 (by decide +kernel : tables_1[1370]? = some (Cond.instanceMethod yX10_borrowedBy))) rfl, AW_in (lw_pv 33 (by decide +kernel : lw_privs[33]? = some (yX10_borrowedBy, 26))) rfl⟩
theorem m_X10_roomOf : MOK yX10_roomOf cX10_roomOf 2 (some .int) 1 := ⟨lw_at 1367 (by decide +kernel), ini_X10, ⟨by decide, by decide, by decide +kernel⟩, by decide, by decide +kernel⟩
theorem v_X10_roomOf : VOK yX10_roomOf := ⟨AW_in (lw_at 1366 (by decide +kernel : tables_1[1366]? = some (Cond.instanceMethod yX10_roomOf))) rfl, AW_in (lw_pv 32 (by decide +kernel : lw_privs[32]? = some (yX10_roomOf, 26))) rfl⟩
theorem m_X10_freeOf : MOK yX10_freeOf cX10_freeOf 2 (some .int) 1 := ⟨lw_at 1363 (by decide +kernel), ini_X10, ⟨by decide, by decide, by decide +kernel⟩, by decide, by decide +kernel⟩
theorem v_X10_freeOf : VOK yX10_freeOf := ⟨AW_in (lw_at 1362 (by decide +kernel : tables_1[1362]? = some (Cond.instanceMethod yX10_freeOf))) rfl, AW_in (lw_pv 31 (by decide +kernel : lw_privs[31]? = some (yX10_freeOf, 26))) rfl⟩
theorem m_X10_keptBack : MOK yX10_keptBack cX10_keptBack 2 (some .int) 1 := ⟨lw_at 1396 (by decide +kernel), ini_X10, ⟨by decide, by decide, by decide +kernel⟩, by decide, by decide +kernel⟩
theorem v_X10_keptBack : VOK yX10_keptBack := ⟨AW_in (lw_at 1395 (by decide +kernel : tables_1[1395]? = some (Cond.instanceMethod yX10_keptBack))) rfl, AW_in (lw_pv 38 (by decide +kernel : lw_privs[38]? = some (yX10_keptBack, 26))) rfl⟩
theorem m_X10_spareOf : MOK yX10_spareOf cX10_spareOf 2 (some .int) 1 := ⟨lw_at 1392 (by decide +kernel), ini_X10, ⟨by decide, by decide, by decide +kernel⟩, by decide, by decide +kernel⟩
theorem v_X10_spareOf : VOK yX10_spareOf := ⟨AW_in (lw_at 1391 (by decide +kernel : tables_1[1391]? = some (Cond.instanceMethod yX10_spareOf))) rfl, AW_in (lw_pv 37 (by decide +kernel : lw_privs[37]? = some (yX10_spareOf, 26))) rfl⟩
theorem m_X10_canLend : MOK yX10_canLend cX10_canLend 3 (some .int) 1 := ⟨lw_at 1388 (by decide +kernel), ini_X10, ⟨by decide, by decide, by decide +kernel⟩, by decide, by decide +kernel⟩
theorem v_X10_canLend : VOK yX10_canLend := ⟨AW_in (lw_at 1387 (by decide +kernel : tables_1[1387]? = some (Cond.instanceMethod yX10_canLend))) rfl, AW_in (lw_pv 36 (by decide +kernel : lw_privs[36]? = some (yX10_canLend, 26))) rfl⟩
theorem m_X10_othersCanLend : MOK yX10_othersCanLend cX10_othersCanLend 4 (some .int) 1 := ⟨lw_at 1467 (by decide +kernel), ini_X10, ⟨by decide, by decide, by decide +kernel⟩, by decide, by decide +kernel⟩
theorem v_X10_othersCanLend : VOK yX10_othersCanLend := ⟨AW_in (lw_at 1466 (by decide +kernel : tables_1[1466]? = some (Cond.instanceMethod yX10_othersCanLend))) rfl, AW_in (lw_pv 45 (by decide +kernel : lw_privs[45]? = some (yX10_othersCanLend, 26))) rfl⟩
theorem m_X10_notes : MOK yX10_notes cX10_notes 6 none 4 := ⟨lw_at 1495 (by decide +kernel), ini_X10, ⟨by decide, by decide, by decide +kernel⟩, by decide, by decide +kernel⟩
theorem v_X10_notes : VOK yX10_notes := ⟨AW_in (lw_at 1494 (by decide +kernel : tables_1[1494]? = some (Cond.instanceMethod yX10_notes))) rfl, AW_in (lw_pv 50 (by decide +kernel : lw_privs[50]? = some (yX10_notes, 26))) rfl⟩
theorem m_X10_removesPacket : MOK yX10_removesPacket cX10_removesPacket 3 none 1 := ⟨lw_at 1519 (by decide +kernel), ini_X10, ⟨by decide, by decide, by decide +kernel⟩, by decide, by decide +kernel⟩
theorem v_X10_removesPacket : VOK yX10_removesPacket := ⟨AW_in (lw_at 1518 (by decide +kernel : tables_1[1518]? = some (Cond.instanceMethod yX10_removesPacket))) rfl, AW_in (lw_pv 56 (by decide +kernel : lw_privs[56]? = some (yX10_removesPacket, 26))) rfl⟩
theorem m_X10_newest : MOK yX10_newest cX10_newest 4 (some .int) 1 := ⟨lw_at 1515 (by decide +kernel), ini_X10, ⟨by decide, by decide, by decide +kernel⟩, by decide, by decide +kernel⟩
theorem v_X10_newest : VOK yX10_newest := ⟨AW_in (lw_at 1514 (by decide +kernel : tables_1[1514]? = some (Cond.instanceMethod yX10_newest))) rfl, AW_in (lw_pv 55 (by decide +kernel : lw_privs[55]? = some (yX10_newest, 26))) rfl⟩
theorem m_X10_shrinks : MOK yX10_shrinks cX10_shrinks 5 none 2 := ⟨lw_at 1511 (by decide +kernel), ini_X10, ⟨by decide, by decide, by decide +kernel⟩, by decide, by decide +kernel⟩
theorem v_X10_shrinks : VOK yX10_shrinks := ⟨AW_in (lw_at 1510 (by decide +kernel : tables_1[1510]? = some (Cond.instanceMethod yX10_shrinks))) rfl, AW_in (lw_pv 54 (by decide +kernel : lw_privs[54]? = some (yX10_shrinks, 26))) rfl⟩
theorem m_X10_removesPromise : MOK yX10_removesPromise cX10_removesPromise 3 none 1 := ⟨lw_at 1507 (by decide +kernel), ini_X10, ⟨by decide, by decide, by decide +kernel⟩, by decide, by decide +kernel⟩
theorem v_X10_removesPromise : VOK yX10_removesPromise := ⟨AW_in (lw_at 1506 (by decide +kernel : tables_1[1506]? = some (Cond.instanceMethod yX10_removesPromise))) rfl, AW_in (lw_pv 53 (by decide +kernel : lw_privs[53]? = some (yX10_removesPromise, 26))) rfl⟩
theorem m_X10_promises : MOK yX10_promises cX10_promises 7 (some .int) 4 := ⟨lw_at 1527 (by decide +kernel), ini_X10, ⟨by decide, by decide, by decide +kernel⟩, by decide, by decide +kernel⟩
theorem v_X10_promises : VOK yX10_promises := ⟨AW_in (lw_at 1526 (by decide +kernel : tables_1[1526]? = some (Cond.instanceMethod yX10_promises))) rfl, AW_in (lw_pv 58 (by decide +kernel : lw_privs[58]? = some (yX10_promises, 26))) rfl⟩
theorem m_X10_lessens : MOK yX10_lessens cX10_lessens 4 (some .boolean) 2 := ⟨lw_at 1503 (by decide +kernel), ini_X10, ⟨by decide, by decide, by decide +kernel⟩, by decide, by decide +kernel⟩
theorem v_X10_lessens : VOK yX10_lessens := ⟨AW_in (lw_at 1502 (by decide +kernel : tables_1[1502]? = some (Cond.instanceMethod yX10_lessens))) rfl, AW_in (lw_pv 52 (by decide +kernel : lw_privs[52]? = some (yX10_lessens, 26))) rfl⟩
theorem m_X10_owedTo : MOK yX10_owedTo cX10_owedTo 5 (some .int) 2 := ⟨lw_at 1430 (by decide +kernel), ini_X10, ⟨by decide, by decide, by decide +kernel⟩, by decide, by decide +kernel⟩
theorem v_X10_owedTo : VOK yX10_owedTo := ⟨AW_in (lw_at 1429 (by decide +kernel : tables_1[1429]? = some (Cond.instanceMethod yX10_owedTo))) rfl, AW_in (lw_pv 43 (by decide +kernel : lw_privs[43]? = some (yX10_owedTo, 26))) rfl⟩
theorem m_X10_calls : MOK yX10_calls cX10_calls 7 none 2 := ⟨lw_at 1499 (by decide +kernel), ini_X10, ⟨by decide, by decide, by decide +kernel⟩, by decide, by decide +kernel⟩
theorem v_X10_calls : VOK yX10_calls := ⟨AW_in (lw_at 1498 (by decide +kernel : tables_1[1498]? = some (Cond.instanceMethod yX10_calls))) rfl, AW_in (lw_pv 51 (by decide +kernel : lw_privs[51]? = some (yX10_calls, 26))) rfl⟩
theorem m_X10_borrows : MOK yX10_borrows cX10_borrows 7 none 2 := ⟨lw_at 1523 (by decide +kernel), ini_X10, ⟨by decide, by decide, by decide +kernel⟩, by decide, by decide +kernel⟩
theorem v_X10_borrows : VOK yX10_borrows := ⟨AW_in (lw_at 1522 (by decide +kernel : tables_1[1522]? = some (Cond.instanceMethod yX10_borrows))) rfl, AW_in (lw_pv 57 (by decide +kernel : lw_privs[57]? = some (yX10_borrows, 26))) rfl⟩
theorem m_X10_takes : MOK yX10_takes cX10_takes 4 none 2 := ⟨lw_at 1531 (by decide +kernel), ini_X10, ⟨by decide, by decide, by decide +kernel⟩, by decide, by decide +kernel⟩
theorem v_X10_takes : VOK yX10_takes := ⟨AW_in (lw_at 1530 (by decide +kernel : tables_1[1530]? = some (Cond.instanceMethod yX10_takes))) rfl, AW_in (lw_pv 59 (by decide +kernel : lw_privs[59]? = some (yX10_takes, 26))) rfl⟩
theorem m_X10_wayIn : MOK yX10_wayIn cX10_wayIn 3 (some .int) 2 := ⟨lw_at 1463 (by decide +kernel), ini_X10, ⟨by decide, by decide, by decide +kernel⟩, by decide, by decide +kernel⟩
theorem v_X10_wayIn : VOK yX10_wayIn := ⟨AW_in (lw_at 1462 (by decide +kernel : tables_1[1462]? = some (Cond.instanceMethod yX10_wayIn))) rfl, AW_in (lw_pv 44 (by decide +kernel : lw_privs[44]? = some (yX10_wayIn, 26))) rfl⟩
theorem m_X10_arrives : MOK yX10_arrives cX10_arrives 5 (some .int) 2 := ⟨lw_at 1483 (by decide +kernel), ini_X10, ⟨by decide, by decide, by decide +kernel⟩, by decide, by decide +kernel⟩
theorem v_X10_arrives : VOK yX10_arrives := ⟨AW_in (lw_at 1482 (by decide +kernel : tables_1[1482]? = some (Cond.instanceMethod yX10_arrives))) rfl, AW_in (lw_pv 47 (by decide +kernel : lw_privs[47]? = some (yX10_arrives, 26))) rfl⟩
theorem m_X10_fallsDue : MOK yX10_fallsDue cX10_fallsDue 2 none 0 := ⟨lw_at 1548 (by decide +kernel), ini_X10, ⟨by decide, by decide, by decide +kernel⟩, by decide, by decide +kernel⟩
theorem v_X10_fallsDue : VOK yX10_fallsDue := ⟨AW_in (lw_at 1547 (by decide +kernel : tables_1[1547]? = some (Cond.instanceMethod yX10_fallsDue))) rfl, AW_in (lw_pv 61 (by decide +kernel : lw_privs[61]? = some (yX10_fallsDue, 26))) rfl⟩
theorem m_X10_sends : MOK yX10_sends cX10_sends 6 (some .int) 1 := ⟨lw_at 1552 (by decide +kernel), ini_X10, ⟨by decide, by decide, by decide +kernel⟩, by decide, by decide +kernel⟩
theorem v_X10_sends : VOK yX10_sends := ⟨AW_in (lw_at 1551 (by decide +kernel : tables_1[1551]? = some (Cond.instanceMethod yX10_sends))) rfl, AW_in (lw_pv 62 (by decide +kernel : lw_privs[62]? = some (yX10_sends, 26))) rfl⟩
theorem m_X10_forecasts : MOK yX10_forecasts cX10_forecasts 2 none 0 := ⟨lw_at 1556 (by decide +kernel), ini_X10, ⟨by decide, by decide, by decide +kernel⟩, by decide, by decide +kernel⟩
theorem v_X10_forecasts : VOK yX10_forecasts := ⟨AW_in (lw_at 1555 (by decide +kernel : tables_1[1555]? = some (Cond.instanceMethod yX10_forecasts))) rfl, AW_in (lw_pv 63 (by decide +kernel : lw_privs[63]? = some (yX10_forecasts, 26))) rfl⟩
theorem m_X10_ticksOne : MOK yX10_ticksOne cX10_ticksOne 3 none 0 := ⟨lw_at 1544 (by decide +kernel), ini_X10, ⟨by decide, by decide, by decide +kernel⟩, by decide, by decide +kernel⟩
theorem v_X10_ticksOne : VOK yX10_ticksOne := ⟨AW_in (lw_at 1543 (by decide +kernel : tables_1[1543]? = some (Cond.instanceMethod yX10_ticksOne))) rfl, AW_in (lw_pv 60 (by decide +kernel : lw_privs[60]? = some (yX10_ticksOne, 26))) rfl⟩
theorem m_X10_ticksAll : MOK yX10_ticksAll cX10_ticksAll 3 (some .int) 1 := ⟨lw_at 1592 (by decide +kernel), ini_X10, ⟨by decide, by decide, by decide +kernel⟩, by decide, by decide +kernel⟩
theorem v_X10_ticksAll : VOK yX10_ticksAll := ⟨AW_in (lw_at 1591 (by decide +kernel : tables_1[1591]? = some (Cond.instanceMethod yX10_ticksAll))) rfl, AW_in (lw_pv 67 (by decide +kernel : lw_privs[67]? = some (yX10_ticksAll, 26))) rfl⟩
theorem m_X10_canGive : MOK yX10_canGive cX10_canGive 4 (some .boolean) 3 := ⟨lw_at 1600 (by decide +kernel), ini_X10, ⟨by decide, by decide, by decide +kernel⟩, by decide, by decide +kernel⟩
theorem v_X10_canGive : VOK yX10_canGive := ⟨AW_in (lw_at 1599 (by decide +kernel : tables_1[1599]? = some (Cond.instanceMethod yX10_canGive))) rfl, AW_in (lw_pv 68 (by decide +kernel : lw_privs[68]? = some (yX10_canGive, 26))) rfl⟩
theorem m_X10_gives : MOK yX10_gives cX10_gives 7 (some .int) 3 := ⟨lw_at 1604 (by decide +kernel), ini_X10, ⟨by decide, by decide, by decide +kernel⟩, by decide, by decide +kernel⟩
theorem v_X10_gives : VOK yX10_gives := ⟨AW_in (lw_at 1603 (by decide +kernel : tables_1[1603]? = some (Cond.instanceMethod yX10_gives))) rfl, AW_in (lw_pv 69 (by decide +kernel : lw_privs[69]? = some (yX10_gives, 26))) rfl⟩
theorem m_X10_isPromise : MOK yX10_isPromise cX10_isPromise 2 (some .boolean) 1 := ⟨lw_at 1421 (by decide +kernel), ini_X10, ⟨by decide, by decide, by decide +kernel⟩, by decide, by decide +kernel⟩
theorem v_X10_isPromise : VOK yX10_isPromise := ⟨AW_in (lw_at 1420 (by decide +kernel : tables_1[1420]? = some (Cond.instanceMethod yX10_isPromise))) rfl, AW_in (lw_pv 42 (by decide +kernel : lw_privs[42]? = some (yX10_isPromise, 26))) rfl⟩
theorem m_X10_canExtend : MOK yX10_canExtend cX10_canExtend 2 (some .boolean) 1 := ⟨lw_at 1612 (by decide +kernel), ini_X10, ⟨by decide, by decide, by decide +kernel⟩, by decide, by decide +kernel⟩
theorem v_X10_canExtend : VOK yX10_canExtend := ⟨AW_in (lw_at 1611 (by decide +kernel : tables_1[1611]? = some (Cond.instanceMethod yX10_canExtend))) rfl, AW_in (lw_pv 70 (by decide +kernel : lw_privs[70]? = some (yX10_canExtend, 26))) rfl⟩
theorem m_X10_extends1 : MOK yX10_extends1 cX10_extends1 7 (some .int) 1 := ⟨lw_at 1616 (by decide +kernel), ini_X10, ⟨by decide, by decide, by decide +kernel⟩, by decide, by decide +kernel⟩
theorem v_X10_extends1 : VOK yX10_extends1 := ⟨AW_in (lw_at 1615 (by decide +kernel : tables_1[1615]? = some (Cond.instanceMethod yX10_extends1))) rfl, AW_in (lw_pv 71 (by decide +kernel : lw_privs[71]? = some (yX10_extends1, 26))) rfl⟩
theorem m_X10_sets : MOK yX10_sets cX10_sets 4 (some .int) 2 := ⟨lw_at 1624 (by decide +kernel), ini_X10, ⟨by decide, by decide, by decide +kernel⟩, by decide, by decide +kernel⟩
theorem v_X10_sets : VOK yX10_sets := ⟨AW_in (lw_at 1623 (by decide +kernel : tables_1[1623]? = some (Cond.instanceMethod yX10_sets))) rfl, AW_in (lw_pv 72 (by decide +kernel : lw_privs[72]? = some (yX10_sets, 26))) rfl⟩
theorem m_X10_isPort : MOK yX10_isPort cX10_isPort 2 (some .boolean) 1 := ⟨lw_at 1379 (by decide +kernel), ini_X10, ⟨by decide, by decide, by decide +kernel⟩, by decide, by decide +kernel⟩
theorem v_X10_isPort : VOK yX10_isPort := ⟨AW_in (lw_at 1378 (by decide +kernel : tables_1[1378]? = some (Cond.instanceMethod yX10_isPort))) rfl, AW_in (lw_pv 34 (by decide +kernel : lw_privs[34]? = some (yX10_isPort, 26))) rfl⟩
theorem m_X10_isCells : MOK yX10_isCells cX10_isCells 1 (some .boolean) 1 := ⟨lw_at 1458 (by decide +kernel), ini_X10, ⟨by decide, by decide, by decide +kernel⟩, by decide, by decide +kernel⟩
theorem st_X10_isCells : Cond.static yX10_isCells ∈ AW := AW_in (lw_at 1457 (by decide +kernel : tables_1[1457]? = some (Cond.static yX10_isCells))) rfl
theorem m_X10_setting : MOK yX10_setting cX10_setting 2 (some .int) 1 := ⟨lw_at 1334 (by decide +kernel), ini_X10, ⟨by decide, by decide, by decide +kernel⟩, by decide, by decide +kernel⟩
theorem v_X10_setting : VOK yX10_setting := ⟨AW_in (lw_at 1332 (by decide +kernel : tables_1[1332]? = some (Cond.instanceMethod yX10_setting))) rfl, AW_in (lw_at 1333 (by decide +kernel)) rfl⟩
theorem m_X10_sumOf : MOK yX10_sumOf cX10_sumOf 4 (some .int) 1 := ⟨lw_at 1339 (by decide +kernel), ini_X10, ⟨by decide, by decide, by decide +kernel⟩, by decide, by decide +kernel⟩
theorem v_X10_sumOf : VOK yX10_sumOf := ⟨AW_in (lw_at 1338 (by decide +kernel : tables_1[1338]? = some (Cond.instanceMethod yX10_sumOf))) rfl, AW_in (lw_pv 25 (by decide +kernel : lw_privs[25]? = some (yX10_sumOf, 26))) rfl⟩
theorem m_X10_waiting : MOK yX10_waiting cX10_waiting 4 (some .int) 1 := ⟨lw_at 1404 (by decide +kernel), ini_X10, ⟨by decide, by decide, by decide +kernel⟩, by decide, by decide +kernel⟩
theorem v_X10_waiting : VOK yX10_waiting := ⟨AW_in (lw_at 1403 (by decide +kernel : tables_1[1403]? = some (Cond.instanceMethod yX10_waiting))) rfl, AW_in (lw_pv 40 (by decide +kernel : lw_privs[40]? = some (yX10_waiting, 26))) rfl⟩
theorem m_X10_port : MOK yX10_port cX10_port 3 (some .int) 2 := ⟨lw_at 1375 (by decide +kernel), ini_X10, ⟨by decide, by decide, by decide +kernel⟩, by decide, by decide +kernel⟩
theorem v_X10_port : VOK yX10_port := ⟨AW_in (lw_at 1373 (by decide +kernel : tables_1[1373]? = some (Cond.instanceMethod yX10_port))) rfl, AW_in (lw_at 1374 (by decide +kernel)) rfl⟩
theorem m_X10_portMore : MOK yX10_portMore cX10_portMore 3 (some .int) 2 := ⟨lw_at 1400 (by decide +kernel), ini_X10, ⟨by decide, by decide, by decide +kernel⟩, by decide, by decide +kernel⟩
theorem v_X10_portMore : VOK yX10_portMore := ⟨AW_in (lw_at 1399 (by decide +kernel : tables_1[1399]? = some (Cond.instanceMethod yX10_portMore))) rfl, AW_in (lw_pv 39 (by decide +kernel : lw_privs[39]? = some (yX10_portMore, 26))) rfl⟩
theorem m_X10_packetOf : MOK yX10_packetOf cX10_packetOf 5 (some .int) 2 := ⟨lw_at 1412 (by decide +kernel), ini_X10, ⟨by decide, by decide, by decide +kernel⟩, by decide, by decide +kernel⟩
theorem v_X10_packetOf : VOK yX10_packetOf := ⟨AW_in (lw_at 1411 (by decide +kernel : tables_1[1411]? = some (Cond.instanceMethod yX10_packetOf))) rfl, AW_in (lw_pv 41 (by decide +kernel : lw_privs[41]? = some (yX10_packetOf, 26))) rfl⟩
theorem m_X10_packet : MOK yX10_packet cX10_packet 5 (some .int) 3 := ⟨lw_at 1408 (by decide +kernel), ini_X10, ⟨by decide, by decide, by decide +kernel⟩, by decide, by decide +kernel⟩
theorem v_X10_packet : VOK yX10_packet := ⟨AW_in (lw_at 1406 (by decide +kernel : tables_1[1406]? = some (Cond.instanceMethod yX10_packet))) rfl, AW_in (lw_at 1407 (by decide +kernel)) rfl⟩
theorem m_X10_promise : MOK yX10_promise cX10_promise 3 (some .int) 2 := ⟨lw_at 1417 (by decide +kernel), ini_X10, ⟨by decide, by decide, by decide +kernel⟩, by decide, by decide +kernel⟩
theorem v_X10_promise : VOK yX10_promise := ⟨AW_in (lw_at 1415 (by decide +kernel : tables_1[1415]? = some (Cond.instanceMethod yX10_promise))) rfl, AW_in (lw_at 1416 (by decide +kernel)) rfl⟩
theorem m_X10_owed : MOK yX10_owed cX10_owed 3 (some .int) 2 := ⟨lw_at 1426 (by decide +kernel), ini_X10, ⟨by decide, by decide, by decide +kernel⟩, by decide, by decide +kernel⟩
theorem v_X10_owed : VOK yX10_owed := ⟨AW_in (lw_at 1424 (by decide +kernel : tables_1[1424]? = some (Cond.instanceMethod yX10_owed))) rfl, AW_in (lw_at 1425 (by decide +kernel)) rfl⟩
theorem m_X10_drop : MOK yX10_drop cX10_drop 3 (some .int) 2 := ⟨lw_at 1434 (by decide +kernel), ini_X10, ⟨by decide, by decide, by decide +kernel⟩, by decide, by decide +kernel⟩
theorem v_X10_drop : VOK yX10_drop := ⟨AW_in (lw_at 1432 (by decide +kernel : tables_1[1432]? = some (Cond.instanceMethod yX10_drop))) rfl, AW_in (lw_at 1433 (by decide +kernel)) rfl⟩
theorem m_X10_dropsBy : MOK yX10_dropsBy cX10_dropsBy 2 (some .int) 1 := ⟨lw_at 1439 (by decide +kernel), ini_X10, ⟨by decide, by decide, by decide +kernel⟩, by decide, by decide +kernel⟩
theorem v_X10_dropsBy : VOK yX10_dropsBy := ⟨AW_in (lw_at 1437 (by decide +kernel : tables_1[1437]? = some (Cond.instanceMethod yX10_dropsBy))) rfl, AW_in (lw_at 1438 (by decide +kernel)) rfl⟩
theorem m_X10_mostCharged : MOK yX10_mostCharged cX10_mostCharged 3 (some .int) 0 := ⟨lw_at 1443 (by decide +kernel), ini_X10, ⟨by decide, by decide, by decide +kernel⟩, by decide, by decide +kernel⟩
theorem v_X10_mostCharged : VOK yX10_mostCharged := ⟨AW_in (lw_at 1441 (by decide +kernel : tables_1[1441]? = some (Cond.instanceMethod yX10_mostCharged))) rfl, AW_in (lw_at 1442 (by decide +kernel)) rfl⟩
theorem m_X10_lossShare : MOK yX10_lossShare cX10_lossShare 1 (some .float) 0 := ⟨lw_at 1447 (by decide +kernel), ini_X10, ⟨by decide, by decide, by decide +kernel⟩, by decide, by decide +kernel⟩
theorem v_X10_lossShare : VOK yX10_lossShare := ⟨AW_in (lw_at 1445 (by decide +kernel : tables_1[1445]? = some (Cond.instanceMethod yX10_lossShare))) rfl, AW_in (lw_at 1446 (by decide +kernel)) rfl⟩
theorem m_X10_meanForecast : MOK yX10_meanForecast cX10_meanForecast 3 (some .double) 0 := ⟨lw_at 1451 (by decide +kernel), ini_X10, ⟨by decide, by decide, by decide +kernel⟩, by decide, by decide +kernel⟩
theorem v_X10_meanForecast : VOK yX10_meanForecast := ⟨AW_in (lw_at 1449 (by decide +kernel : tables_1[1449]? = some (Cond.instanceMethod yX10_meanForecast))) rfl, AW_in (lw_at 1450 (by decide +kernel)) rfl⟩
theorem m_X10_wouldBorrow : MOK yX10_wouldBorrow cX10_wouldBorrow 4 (some .int) 2 := ⟨lw_at 1455 (by decide +kernel), ini_X10, ⟨by decide, by decide, by decide +kernel⟩, by decide, by decide +kernel⟩
theorem v_X10_wouldBorrow : VOK yX10_wouldBorrow := ⟨AW_in (lw_at 1453 (by decide +kernel : tables_1[1453]? = some (Cond.instanceMethod yX10_wouldBorrow))) rfl, AW_in (lw_at 1454 (by decide +kernel)) rfl⟩
theorem m_X10_wouldCall : MOK yX10_wouldCall cX10_wouldCall 3 (some .int) 2 := ⟨lw_at 1471 (by decide +kernel), ini_X10, ⟨by decide, by decide, by decide +kernel⟩, by decide, by decide +kernel⟩
theorem v_X10_wouldCall : VOK yX10_wouldCall := ⟨AW_in (lw_at 1469 (by decide +kernel : tables_1[1469]? = some (Cond.instanceMethod yX10_wouldCall))) rfl, AW_in (lw_at 1470 (by decide +kernel)) rfl⟩
theorem m_X10_wouldDrop : MOK yX10_wouldDrop cX10_wouldDrop 6 (some .int) 2 := ⟨lw_at 1475 (by decide +kernel), ini_X10, ⟨by decide, by decide, by decide +kernel⟩, by decide, by decide +kernel⟩
theorem v_X10_wouldDrop : VOK yX10_wouldDrop := ⟨AW_in (lw_at 1473 (by decide +kernel : tables_1[1473]? = some (Cond.instanceMethod yX10_wouldDrop))) rfl, AW_in (lw_at 1474 (by decide +kernel)) rfl⟩
theorem m_X10_greatest : MOK yX10_greatest cX10_greatest 3 (some .int) 1 := ⟨lw_at 1535 (by decide +kernel), ini_X10, ⟨by decide, by decide, by decide +kernel⟩, by decide, by decide +kernel⟩
theorem v_X10_greatest : VOK yX10_greatest := ⟨AW_in (lw_at 1533 (by decide +kernel : tables_1[1533]? = some (Cond.instanceMethod yX10_greatest))) rfl, AW_in (lw_at 1534 (by decide +kernel)) rfl⟩
theorem m_X10_dropsIn : MOK yX10_dropsIn cX10_dropsIn 4 (some .int) 1 := ⟨lw_at 1539 (by decide +kernel), ini_X10, ⟨by decide, by decide, by decide +kernel⟩, by decide, by decide +kernel⟩
theorem v_X10_dropsIn : VOK yX10_dropsIn := ⟨AW_in (lw_at 1537 (by decide +kernel : tables_1[1537]? = some (Cond.instanceMethod yX10_dropsIn))) rfl, AW_in (lw_at 1538 (by decide +kernel)) rfl⟩
theorem m_X10_emptyIn : MOK yX10_emptyIn cX10_emptyIn 3 (some .int) 0 := ⟨lw_at 1560 (by decide +kernel), ini_X10, ⟨by decide, by decide, by decide +kernel⟩, by decide, by decide +kernel⟩
theorem v_X10_emptyIn : VOK yX10_emptyIn := ⟨AW_in (lw_at 1558 (by decide +kernel : tables_1[1558]? = some (Cond.instanceMethod yX10_emptyIn))) rfl, AW_in (lw_at 1559 (by decide +kernel)) rfl⟩
theorem m_X10_sentIn : MOK yX10_sentIn cX10_sentIn 5 (some .int) 2 := ⟨lw_at 1564 (by decide +kernel), ini_X10, ⟨by decide, by decide, by decide +kernel⟩, by decide, by decide +kernel⟩
theorem v_X10_sentIn : VOK yX10_sentIn := ⟨AW_in (lw_at 1562 (by decide +kernel : tables_1[1562]? = some (Cond.instanceMethod yX10_sentIn))) rfl, AW_in (lw_at 1563 (by decide +kernel)) rfl⟩
theorem m_X10_thenSent : MOK yX10_thenSent cX10_thenSent 7 (some .int) 2 := ⟨lw_at 1568 (by decide +kernel), ini_X10, ⟨by decide, by decide, by decide +kernel⟩, by decide, by decide +kernel⟩
theorem v_X10_thenSent : VOK yX10_thenSent := ⟨AW_in (lw_at 1567 (by decide +kernel : tables_1[1567]? = some (Cond.instanceMethod yX10_thenSent))) rfl, AW_in (lw_pv 64 (by decide +kernel : lw_privs[64]? = some (yX10_thenSent, 26))) rfl⟩
theorem m_X10_arrive : MOK yX10_arrive cX10_arrive 3 (some .int) 2 := ⟨lw_at 1572 (by decide +kernel), ini_X10, ⟨by decide, by decide, by decide +kernel⟩, by decide, by decide +kernel⟩
theorem v_X10_arrive : VOK yX10_arrive := ⟨AW_in (lw_at 1570 (by decide +kernel : tables_1[1570]? = some (Cond.instanceMethod yX10_arrive))) rfl, AW_in (lw_at 1571 (by decide +kernel)) rfl⟩
theorem m_X10_isTicks : MOK yX10_isTicks cX10_isTicks 1 (some .boolean) 1 := ⟨lw_at 1587 (by decide +kernel), ini_X10, ⟨by decide, by decide, by decide +kernel⟩, by decide, by decide +kernel⟩
theorem st_X10_isTicks : Cond.static yX10_isTicks ∈ AW := AW_in (lw_at 1586 (by decide +kernel : tables_1[1586]? = some (Cond.static yX10_isTicks))) rfl
theorem m_X10_isKeep : MOK yX10_isKeep cX10_isKeep 1 (some .boolean) 1 := ⟨lw_at 1631 (by decide +kernel), ini_X10, ⟨by decide, by decide, by decide +kernel⟩, by decide, by decide +kernel⟩
theorem st_X10_isKeep : Cond.static yX10_isKeep ∈ AW := AW_in (lw_at 1630 (by decide +kernel : tables_1[1630]? = some (Cond.static yX10_isKeep))) rfl
theorem m_X10_tick : MOK yX10_tick cX10_tick 2 (some .int) 1 := ⟨lw_at 1584 (by decide +kernel), ini_X10, ⟨by decide, by decide, by decide +kernel⟩, by decide, by decide +kernel⟩
theorem v_X10_tick : VOK yX10_tick := ⟨AW_in (lw_at 1582 (by decide +kernel : tables_1[1582]? = some (Cond.instanceMethod yX10_tick))) rfl, AW_in (lw_at 1583 (by decide +kernel)) rfl⟩
theorem m_X10_giveBack : MOK yX10_giveBack cX10_giveBack 4 (some .int) 3 := ⟨lw_at 1596 (by decide +kernel), ini_X10, ⟨by decide, by decide, by decide +kernel⟩, by decide, by decide +kernel⟩
theorem v_X10_giveBack : VOK yX10_giveBack := ⟨AW_in (lw_at 1594 (by decide +kernel : tables_1[1594]? = some (Cond.instanceMethod yX10_giveBack))) rfl, AW_in (lw_at 1595 (by decide +kernel)) rfl⟩
theorem m_X10_extend : MOK yX10_extend cX10_extend 2 (some .int) 1 := ⟨lw_at 1608 (by decide +kernel), ini_X10, ⟨by decide, by decide, by decide +kernel⟩, by decide, by decide +kernel⟩
theorem v_X10_extend : VOK yX10_extend := ⟨AW_in (lw_at 1606 (by decide +kernel : tables_1[1606]? = some (Cond.instanceMethod yX10_extend))) rfl, AW_in (lw_at 1607 (by decide +kernel)) rfl⟩
theorem m_X10_setTerm : MOK yX10_setTerm cX10_setTerm 2 (some .int) 1 := ⟨lw_at 1620 (by decide +kernel), ini_X10, ⟨by decide, by decide, by decide +kernel⟩, by decide, by decide +kernel⟩
theorem v_X10_setTerm : VOK yX10_setTerm := ⟨AW_in (lw_at 1618 (by decide +kernel : tables_1[1618]? = some (Cond.instanceMethod yX10_setTerm))) rfl, AW_in (lw_at 1619 (by decide +kernel)) rfl⟩
theorem m_X10_setKeep : MOK yX10_setKeep cX10_setKeep 2 (some .int) 1 := ⟨lw_at 1628 (by decide +kernel), ini_X10, ⟨by decide, by decide, by decide +kernel⟩, by decide, by decide +kernel⟩
theorem v_X10_setKeep : VOK yX10_setKeep := ⟨AW_in (lw_at 1626 (by decide +kernel : tables_1[1626]? = some (Cond.instanceMethod yX10_setKeep))) rfl, AW_in (lw_at 1627 (by decide +kernel)) rfl⟩
theorem m_X10_isDoing : MOK yX10_isDoing cX10_isDoing 1 (some .boolean) 0 := ⟨lw_at 1672 (by decide +kernel), ini_X10, ⟨by decide, by decide, by decide +kernel⟩, by decide, by decide +kernel⟩
theorem v_X10_isDoing : VOK yX10_isDoing := ⟨AW_in (lw_at 1671 (by decide +kernel : tables_1[1671]? = some (Cond.instanceMethod yX10_isDoing))) rfl, AW_in (lw_pv 80 (by decide +kernel : lw_privs[80]? = some (yX10_isDoing, 26))) rfl⟩
theorem m_X10_counts : MOK yX10_counts cX10_counts 2 none 1 := ⟨lw_at 1676 (by decide +kernel), ini_X10, ⟨by decide, by decide, by decide +kernel⟩, by decide, by decide +kernel⟩
theorem v_X10_counts : VOK yX10_counts := ⟨AW_in (lw_at 1675 (by decide +kernel : tables_1[1675]? = some (Cond.instanceMethod yX10_counts))) rfl, AW_in (lw_pv 81 (by decide +kernel : lw_privs[81]? = some (yX10_counts, 26))) rfl⟩
theorem m_X10_readsAny : MOK yX10_readsAny cX10_readsAny 1 (some .int) 0 := ⟨lw_at 1668 (by decide +kernel), ini_X10, ⟨by decide, by decide, by decide +kernel⟩, by decide, by decide +kernel⟩
theorem v_X10_readsAny : VOK yX10_readsAny := ⟨AW_in (lw_at 1667 (by decide +kernel : tables_1[1667]? = some (Cond.instanceMethod yX10_readsAny))) rfl, AW_in (lw_pv 79 (by decide +kernel : lw_privs[79]? = some (yX10_readsAny, 26))) rfl⟩
theorem m_X10_readsName : MOK yX10_readsName cX10_readsName 2 (some .int) 0 := ⟨lw_at 1664 (by decide +kernel), ini_X10, ⟨by decide, by decide, by decide +kernel⟩, by decide, by decide +kernel⟩
theorem v_X10_readsName : VOK yX10_readsName := ⟨AW_in (lw_at 1663 (by decide +kernel : tables_1[1663]? = some (Cond.instanceMethod yX10_readsName))) rfl, AW_in (lw_pv 78 (by decide +kernel : lw_privs[78]? = some (yX10_readsName, 26))) rfl⟩
theorem m_X10_readsArrive : MOK yX10_readsArrive cX10_readsArrive 3 none 0 := ⟨lw_at 1660 (by decide +kernel), ini_X10, ⟨by decide, by decide, by decide +kernel⟩, by decide, by decide +kernel⟩
theorem v_X10_readsArrive : VOK yX10_readsArrive := ⟨AW_in (lw_at 1659 (by decide +kernel : tables_1[1659]? = some (Cond.instanceMethod yX10_readsArrive))) rfl, AW_in (lw_pv 77 (by decide +kernel : lw_privs[77]? = some (yX10_readsArrive, 26))) rfl⟩
theorem m_X10_readsBack : MOK yX10_readsBack cX10_readsBack 6 none 0 := ⟨lw_at 1680 (by decide +kernel), ini_X10, ⟨by decide, by decide, by decide +kernel⟩, by decide, by decide +kernel⟩
theorem v_X10_readsBack : VOK yX10_readsBack := ⟨AW_in (lw_at 1679 (by decide +kernel : tables_1[1679]? = some (Cond.instanceMethod yX10_readsBack))) rfl, AW_in (lw_pv 82 (by decide +kernel : lw_privs[82]? = some (yX10_readsBack, 26))) rfl⟩
theorem m_X10_readsNumber : MOK yX10_readsNumber cX10_readsNumber 5 none 0 := ⟨lw_at 1684 (by decide +kernel), ini_X10, ⟨by decide, by decide, by decide +kernel⟩, by decide, by decide +kernel⟩
theorem v_X10_readsNumber : VOK yX10_readsNumber := ⟨AW_in (lw_at 1683 (by decide +kernel : tables_1[1683]? = some (Cond.instanceMethod yX10_readsNumber))) rfl, AW_in (lw_pv 83 (by decide +kernel : lw_privs[83]? = some (yX10_readsNumber, 26))) rfl⟩
theorem m_X10_opensRepeat : MOK yX10_opensRepeat cX10_opensRepeat 2 none 0 := ⟨lw_at 1656 (by decide +kernel), ini_X10, ⟨by decide, by decide, by decide +kernel⟩, by decide, by decide +kernel⟩
theorem v_X10_opensRepeat : VOK yX10_opensRepeat := ⟨AW_in (lw_at 1655 (by decide +kernel : tables_1[1655]? = some (Cond.instanceMethod yX10_opensRepeat))) rfl, AW_in (lw_pv 76 (by decide +kernel : lw_privs[76]? = some (yX10_opensRepeat, 26))) rfl⟩
theorem m_X10_closesRepeat : MOK yX10_closesRepeat cX10_closesRepeat 1 none 0 := ⟨lw_at 1643 (by decide +kernel), ini_X10, ⟨by decide, by decide, by decide +kernel⟩, by decide, by decide +kernel⟩
theorem v_X10_closesRepeat : VOK yX10_closesRepeat := ⟨AW_in (lw_at 1642 (by decide +kernel : tables_1[1642]? = some (Cond.instanceMethod yX10_closesRepeat))) rfl, AW_in (lw_pv 74 (by decide +kernel : lw_privs[74]? = some (yX10_closesRepeat, 26))) rfl⟩
theorem m_X10_readsCommand : MOK yX10_readsCommand cX10_readsCommand 4 none 0 := ⟨lw_at 1647 (by decide +kernel), ini_X10, ⟨by decide, by decide, by decide +kernel⟩, by decide, by decide +kernel⟩
theorem v_X10_readsCommand : VOK yX10_readsCommand := ⟨AW_in (lw_at 1646 (by decide +kernel : tables_1[1646]? = some (Cond.instanceMethod yX10_readsCommand))) rfl, AW_in (lw_pv 75 (by decide +kernel : lw_privs[75]? = some (yX10_readsCommand, 26))) rfl⟩
theorem m_X10_goes : MOK yX10_goes cX10_goes 2 none 1 := ⟨lw_at 1639 (by decide +kernel), ini_X10, ⟨by decide, by decide, by decide +kernel⟩, by decide, by decide +kernel⟩
theorem v_X10_goes : VOK yX10_goes := ⟨AW_in (lw_at 1638 (by decide +kernel : tables_1[1638]? = some (Cond.instanceMethod yX10_goes))) rfl, AW_in (lw_pv 73 (by decide +kernel : lw_privs[73]? = some (yX10_goes, 26))) rfl⟩
theorem m_X10_runScript : MOK yX10_runScript cX10_runScript 2 (some .int) 0 := ⟨lw_at 1635 (by decide +kernel), ini_X10, ⟨by decide, by decide, by decide +kernel⟩, by decide, by decide +kernel⟩
theorem v_X10_runScript : VOK yX10_runScript := ⟨AW_in (lw_at 1633 (by decide +kernel : tables_1[1633]? = some (Cond.instanceMethod yX10_runScript))) rfl, AW_in (lw_at 1634 (by decide +kernel)) rfl⟩
theorem m_X10_writes : MOK yX10_writes cX10_writes 2 none 1 := ⟨lw_at 1697 (by decide +kernel), ini_X10, ⟨by decide, by decide, by decide +kernel⟩, by decide, by decide +kernel⟩
theorem v_X10_writes : VOK yX10_writes := ⟨AW_in (lw_at 1696 (by decide +kernel : tables_1[1696]? = some (Cond.instanceMethod yX10_writes))) rfl, AW_in (lw_pv 85 (by decide +kernel : lw_privs[85]? = some (yX10_writes, 26))) rfl⟩
theorem m_X10_writesNumber : MOK yX10_writesNumber cX10_writesNumber 3 none 1 := ⟨lw_at 1701 (by decide +kernel), ini_X10, ⟨by decide, by decide, by decide +kernel⟩, by decide, by decide +kernel⟩
theorem v_X10_writesNumber : VOK yX10_writesNumber := ⟨AW_in (lw_at 1700 (by decide +kernel : tables_1[1700]? = some (Cond.instanceMethod yX10_writesNumber))) rfl, AW_in (lw_pv 86 (by decide +kernel : lw_privs[86]? = some (yX10_writesNumber, 26))) rfl⟩
theorem m_X10_writesName : MOK yX10_writesName cX10_writesName 5 none 1 := ⟨lw_at 1692 (by decide +kernel), ini_X10, ⟨by decide, by decide, by decide +kernel⟩, by decide, by decide +kernel⟩
theorem v_X10_writesName : VOK yX10_writesName := ⟨AW_in (lw_at 1691 (by decide +kernel : tables_1[1691]? = some (Cond.instanceMethod yX10_writesName))) rfl, AW_in (lw_pv 84 (by decide +kernel : lw_privs[84]? = some (yX10_writesName, 26))) rfl⟩
theorem m_X10_report : MOK yX10_report cX10_report 3 (some .int) 0 := ⟨lw_at 1688 (by decide +kernel), ini_X10, ⟨by decide, by decide, by decide +kernel⟩, by decide, by decide +kernel⟩
theorem v_X10_report : VOK yX10_report := ⟨AW_in (lw_at 1686 (by decide +kernel : tables_1[1686]? = some (Cond.instanceMethod yX10_report))) rfl, AW_in (lw_at 1687 (by decide +kernel)) rfl⟩
theorem m_X10_reportByte : MOK yX10_reportByte cX10_reportByte 2 (some .int) 1 := ⟨lw_at 1705 (by decide +kernel), ini_X10, ⟨by decide, by decide, by decide +kernel⟩, by decide, by decide +kernel⟩
theorem v_X10_reportByte : VOK yX10_reportByte := ⟨AW_in (lw_at 1703 (by decide +kernel : tables_1[1703]? = some (Cond.instanceMethod yX10_reportByte))) rfl, AW_in (lw_at 1704 (by decide +kernel)) rfl⟩
theorem m_X10_save : MOK yX10_save cX10_save 1 (some .int) 0 := ⟨lw_at 1709 (by decide +kernel), ini_X10, ⟨by decide, by decide, by decide +kernel⟩, by decide, by decide +kernel⟩
theorem v_X10_save : VOK yX10_save := ⟨AW_in (lw_at 1707 (by decide +kernel : tables_1[1707]? = some (Cond.instanceMethod yX10_save))) rfl, AW_in (lw_at 1708 (by decide +kernel)) rfl⟩
theorem m_X10_restore : MOK yX10_restore cX10_restore 1 (some .int) 0 := ⟨lw_at 1713 (by decide +kernel), ini_X10, ⟨by decide, by decide, by decide +kernel⟩, by decide, by decide +kernel⟩
theorem v_X10_restore : VOK yX10_restore := ⟨AW_in (lw_at 1711 (by decide +kernel : tables_1[1711]? = some (Cond.instanceMethod yX10_restore))) rfl, AW_in (lw_at 1712 (by decide +kernel)) rfl⟩
theorem f_X8_11 : Cond.fieldLink RX8 11 "CellLoans$Text" "bytes" "[I" ∈ AW := AW_in (lw_at 37 (by decide +kernel : tables_1[37]? = some (Cond.fieldLink RX8 11 "CellLoans$Text" "bytes" "[I"))) rfl
theorem f_X9_57 : Cond.fieldLink RX9 57 "CellLoans$Text" "length" "I" ∈ AW := AW_in (lw_at 38 (by decide +kernel : tables_1[38]? = some (Cond.fieldLink RX9 57 "CellLoans$Text" "length" "I"))) rfl
theorem f_X8_19 : Cond.fieldLink RX8 19 "CellLoans$Text" "length" "I" ∈ AW := AW_in (lw_at 39 (by decide +kernel : tables_1[39]? = some (Cond.fieldLink RX8 19 "CellLoans$Text" "length" "I"))) rfl
theorem f_X8_25 : Cond.fieldLink RX8 25 "CellLoans$Text" "errorCode" "I" ∈ AW := AW_in (lw_at 40 (by decide +kernel : tables_1[40]? = some (Cond.fieldLink RX8 25 "CellLoans$Text" "errorCode" "I"))) rfl
theorem f_X9_108 : Cond.fieldLink RX9 108 "CellLoans$Text" "errorCode" "I" ∈ AW := AW_in (lw_at 41 (by decide +kernel : tables_1[41]? = some (Cond.fieldLink RX9 108 "CellLoans$Text" "errorCode" "I"))) rfl
theorem f_X8_15 : Cond.fieldLink RX8 15 "CellLoans$Text" "errorPosition" "I" ∈ AW := AW_in (lw_at 42 (by decide +kernel : tables_1[42]? = some (Cond.fieldLink RX8 15 "CellLoans$Text" "errorPosition" "I"))) rfl
theorem f_X9_111 : Cond.fieldLink RX9 111 "CellLoans$Text" "errorPosition" "I" ∈ AW := AW_in (lw_at 43 (by decide +kernel : tables_1[43]? = some (Cond.fieldLink RX9 111 "CellLoans$Text" "errorPosition" "I"))) rfl
theorem f_X8_22 : Cond.fieldLink RX8 22 "CellLoans$Text" "unread" "I" ∈ AW := AW_in (lw_at 44 (by decide +kernel : tables_1[44]? = some (Cond.fieldLink RX8 22 "CellLoans$Text" "unread" "I"))) rfl
theorem f_X7_31 : Cond.fieldLink RX7 31 "CellLoans$Text" "kind" "I" ∈ AW := AW_in (lw_at 45 (by decide +kernel : tables_1[45]? = some (Cond.fieldLink RX7 31 "CellLoans$Text" "kind" "I"))) rfl
theorem f_X5_48 : Cond.fieldLink RX5 48 "CellLoans$Text" "kind" "I" ∈ AW := AW_in (lw_at 46 (by decide +kernel : tables_1[46]? = some (Cond.fieldLink RX5 48 "CellLoans$Text" "kind" "I"))) rfl
theorem f_X8_35 : Cond.fieldLink RX8 35 "CellLoans$Text" "kind" "I" ∈ AW := AW_in (lw_at 47 (by decide +kernel : tables_1[47]? = some (Cond.fieldLink RX8 35 "CellLoans$Text" "kind" "I"))) rfl
theorem f_X8_28 : Cond.fieldLink RX8 28 "CellLoans$Text" "start" "I" ∈ AW := AW_in (lw_at 48 (by decide +kernel : tables_1[48]? = some (Cond.fieldLink RX8 28 "CellLoans$Text" "start" "I"))) rfl
theorem f_X7_69 : Cond.fieldLink RX7 69 "CellLoans$Text" "word" "J" ∈ AW := AW_in (lw_at 49 (by decide +kernel : tables_1[49]? = some (Cond.fieldLink RX7 69 "CellLoans$Text" "word" "J"))) rfl
theorem f_X8_38 : Cond.fieldLink RX8 38 "CellLoans$Text" "word" "J" ∈ AW := AW_in (lw_at 50 (by decide +kernel : tables_1[50]? = some (Cond.fieldLink RX8 38 "CellLoans$Text" "word" "J"))) rfl
theorem f_X5_113 : Cond.fieldLink RX5 113 "CellLoans$Text" "word" "J" ∈ AW := AW_in (lw_at 51 (by decide +kernel : tables_1[51]? = some (Cond.fieldLink RX5 113 "CellLoans$Text" "word" "J"))) rfl
theorem f_X7_81 : Cond.fieldLink RX7 81 "CellLoans$Text" "number" "I" ∈ AW := AW_in (lw_at 52 (by decide +kernel : tables_1[52]? = some (Cond.fieldLink RX7 81 "CellLoans$Text" "number" "I"))) rfl
theorem f_X5_104 : Cond.fieldLink RX5 104 "CellLoans$Text" "number" "I" ∈ AW := AW_in (lw_at 53 (by decide +kernel : tables_1[53]? = some (Cond.fieldLink RX5 104 "CellLoans$Text" "number" "I"))) rfl
theorem f_X8_42 : Cond.fieldLink RX8 42 "CellLoans$Text" "number" "I" ∈ AW := AW_in (lw_at 54 (by decide +kernel : tables_1[54]? = some (Cond.fieldLink RX8 42 "CellLoans$Text" "number" "I"))) rfl
theorem f_X7_9 : Cond.fieldLink RX7 9 "CellLoans$SwitchReader" "termRead" "Z" ∈ AW := AW_in (lw_at 81 (by decide +kernel : tables_1[81]? = some (Cond.fieldLink RX7 9 "CellLoans$SwitchReader" "termRead" "Z"))) rfl
theorem f_X7_15 : Cond.fieldLink RX7 15 "CellLoans$SwitchReader" "keepRead" "Z" ∈ AW := AW_in (lw_at 82 (by decide +kernel : tables_1[82]? = some (Cond.fieldLink RX7 15 "CellLoans$SwitchReader" "keepRead" "Z"))) rfl
theorem f_X5_11 : Cond.fieldLink RX5 11 "CellLoans$Script" "verb" "[I" ∈ AW := AW_in (lw_at 94 (by decide +kernel : tables_1[94]? = some (Cond.fieldLink RX5 11 "CellLoans$Script" "verb" "[I"))) rfl
theorem f_X9_297 : Cond.fieldLink RX9 297 "CellLoans$Script" "verb" "[I" ∈ AW := AW_in (lw_at 95 (by decide +kernel : tables_1[95]? = some (Cond.fieldLink RX9 297 "CellLoans$Script" "verb" "[I"))) rfl
theorem f_X5_15 : Cond.fieldLink RX5 15 "CellLoans$Script" "port" "[I" ∈ AW := AW_in (lw_at 96 (by decide +kernel : tables_1[96]? = some (Cond.fieldLink RX5 15 "CellLoans$Script" "port" "[I"))) rfl
theorem f_X9_300 : Cond.fieldLink RX9 300 "CellLoans$Script" "port" "[I" ∈ AW := AW_in (lw_at 97 (by decide +kernel : tables_1[97]? = some (Cond.fieldLink RX9 300 "CellLoans$Script" "port" "[I"))) rfl
theorem f_X5_18 : Cond.fieldLink RX5 18 "CellLoans$Script" "other" "[I" ∈ AW := AW_in (lw_at 98 (by decide +kernel : tables_1[98]? = some (Cond.fieldLink RX5 18 "CellLoans$Script" "other" "[I"))) rfl
theorem f_X9_306 : Cond.fieldLink RX9 306 "CellLoans$Script" "other" "[I" ∈ AW := AW_in (lw_at 99 (by decide +kernel : tables_1[99]? = some (Cond.fieldLink RX9 306 "CellLoans$Script" "other" "[I"))) rfl
theorem f_X5_21 : Cond.fieldLink RX5 21 "CellLoans$Script" "number" "[I" ∈ AW := AW_in (lw_at 100 (by decide +kernel : tables_1[100]? = some (Cond.fieldLink RX5 21 "CellLoans$Script" "number" "[I"))) rfl
theorem f_X9_295 : Cond.fieldLink RX9 295 "CellLoans$Script" "number" "[I" ∈ AW := AW_in (lw_at 101 (by decide +kernel : tables_1[101]? = some (Cond.fieldLink RX9 295 "CellLoans$Script" "number" "[I"))) rfl
theorem f_X5_30 : Cond.fieldLink RX5 30 "CellLoans$Script" "count" "I" ∈ AW := AW_in (lw_at 102 (by decide +kernel : tables_1[102]? = some (Cond.fieldLink RX5 30 "CellLoans$Script" "count" "I"))) rfl
theorem f_X9_101 : Cond.fieldLink RX9 101 "CellLoans$Script" "count" "I" ∈ AW := AW_in (lw_at 103 (by decide +kernel : tables_1[103]? = some (Cond.fieldLink RX9 101 "CellLoans$Script" "count" "I"))) rfl
theorem f_X5_34 : Cond.fieldLink RX5 34 "CellLoans$Script" "written" "I" ∈ AW := AW_in (lw_at 104 (by decide +kernel : tables_1[104]? = some (Cond.fieldLink RX5 34 "CellLoans$Script" "written" "I"))) rfl
theorem f_X5_24 : Cond.fieldLink RX5 24 "CellLoans$Script" "bodyStart" "[I" ∈ AW := AW_in (lw_at 105 (by decide +kernel : tables_1[105]? = some (Cond.fieldLink RX5 24 "CellLoans$Script" "bodyStart" "[I"))) rfl
theorem f_X5_27 : Cond.fieldLink RX5 27 "CellLoans$Script" "times" "[I" ∈ AW := AW_in (lw_at 106 (by decide +kernel : tables_1[106]? = some (Cond.fieldLink RX5 27 "CellLoans$Script" "times" "[I"))) rfl
theorem f_X5_37 : Cond.fieldLink RX5 37 "CellLoans$Script" "open" "I" ∈ AW := AW_in (lw_at 107 (by decide +kernel : tables_1[107]? = some (Cond.fieldLink RX5 37 "CellLoans$Script" "open" "I"))) rfl
theorem f_X3_9 : Cond.fieldLink RX3 9 "CellLoans$Promises" "lender" "[I" ∈ AW := AW_in (lw_at 141 (by decide +kernel : tables_1[141]? = some (Cond.fieldLink RX3 9 "CellLoans$Promises" "lender" "[I"))) rfl
theorem f_X4_63 : Cond.fieldLink RX4 63 "CellLoans$Promises" "lender" "[I" ∈ AW := AW_in (lw_at 142 (by decide +kernel : tables_1[142]? = some (Cond.fieldLink RX4 63 "CellLoans$Promises" "lender" "[I"))) rfl
theorem f_X9_175 : Cond.fieldLink RX9 175 "CellLoans$Promises" "lender" "[I" ∈ AW := AW_in (lw_at 143 (by decide +kernel : tables_1[143]? = some (Cond.fieldLink RX9 175 "CellLoans$Promises" "lender" "[I"))) rfl
theorem f_X6_144 : Cond.fieldLink RX6 144 "CellLoans$Promises" "lender" "[I" ∈ AW := AW_in (lw_at 144 (by decide +kernel : tables_1[144]? = some (Cond.fieldLink RX6 144 "CellLoans$Promises" "lender" "[I"))) rfl
theorem f_X3_15 : Cond.fieldLink RX3 15 "CellLoans$Promises" "borrower" "[I" ∈ AW := AW_in (lw_at 145 (by decide +kernel : tables_1[145]? = some (Cond.fieldLink RX3 15 "CellLoans$Promises" "borrower" "[I"))) rfl
theorem f_X4_66 : Cond.fieldLink RX4 66 "CellLoans$Promises" "borrower" "[I" ∈ AW := AW_in (lw_at 146 (by decide +kernel : tables_1[146]? = some (Cond.fieldLink RX4 66 "CellLoans$Promises" "borrower" "[I"))) rfl
theorem f_X9_178 : Cond.fieldLink RX9 178 "CellLoans$Promises" "borrower" "[I" ∈ AW := AW_in (lw_at 147 (by decide +kernel : tables_1[147]? = some (Cond.fieldLink RX9 178 "CellLoans$Promises" "borrower" "[I"))) rfl
theorem f_X6_147 : Cond.fieldLink RX6 147 "CellLoans$Promises" "borrower" "[I" ∈ AW := AW_in (lw_at 148 (by decide +kernel : tables_1[148]? = some (Cond.fieldLink RX6 147 "CellLoans$Promises" "borrower" "[I"))) rfl
theorem f_X3_18 : Cond.fieldLink RX3 18 "CellLoans$Promises" "cells" "[I" ∈ AW := AW_in (lw_at 149 (by decide +kernel : tables_1[149]? = some (Cond.fieldLink RX3 18 "CellLoans$Promises" "cells" "[I"))) rfl
theorem f_X4_69 : Cond.fieldLink RX4 69 "CellLoans$Promises" "cells" "[I" ∈ AW := AW_in (lw_at 150 (by decide +kernel : tables_1[150]? = some (Cond.fieldLink RX4 69 "CellLoans$Promises" "cells" "[I"))) rfl
theorem f_X9_181 : Cond.fieldLink RX9 181 "CellLoans$Promises" "cells" "[I" ∈ AW := AW_in (lw_at 151 (by decide +kernel : tables_1[151]? = some (Cond.fieldLink RX9 181 "CellLoans$Promises" "cells" "[I"))) rfl
theorem f_X6_138 : Cond.fieldLink RX6 138 "CellLoans$Promises" "cells" "[I" ∈ AW := AW_in (lw_at 152 (by decide +kernel : tables_1[152]? = some (Cond.fieldLink RX6 138 "CellLoans$Promises" "cells" "[I"))) rfl
theorem f_X3_21 : Cond.fieldLink RX3 21 "CellLoans$Promises" "due" "[I" ∈ AW := AW_in (lw_at 153 (by decide +kernel : tables_1[153]? = some (Cond.fieldLink RX3 21 "CellLoans$Promises" "due" "[I"))) rfl
theorem f_X9_184 : Cond.fieldLink RX9 184 "CellLoans$Promises" "due" "[I" ∈ AW := AW_in (lw_at 154 (by decide +kernel : tables_1[154]? = some (Cond.fieldLink RX9 184 "CellLoans$Promises" "due" "[I"))) rfl
theorem f_X6_172 : Cond.fieldLink RX6 172 "CellLoans$Promises" "due" "[I" ∈ AW := AW_in (lw_at 155 (by decide +kernel : tables_1[155]? = some (Cond.fieldLink RX6 172 "CellLoans$Promises" "due" "[I"))) rfl
theorem f_X3_24 : Cond.fieldLink RX3 24 "CellLoans$Promises" "count" "I" ∈ AW := AW_in (lw_at 156 (by decide +kernel : tables_1[156]? = some (Cond.fieldLink RX3 24 "CellLoans$Promises" "count" "I"))) rfl
theorem f_X6_48 : Cond.fieldLink RX6 48 "CellLoans$Promises" "count" "I" ∈ AW := AW_in (lw_at 157 (by decide +kernel : tables_1[157]? = some (Cond.fieldLink RX6 48 "CellLoans$Promises" "count" "I"))) rfl
theorem f_X4_58 : Cond.fieldLink RX4 58 "CellLoans$Promises" "count" "I" ∈ AW := AW_in (lw_at 158 (by decide +kernel : tables_1[158]? = some (Cond.fieldLink RX4 58 "CellLoans$Promises" "count" "I"))) rfl
theorem f_X9_132 : Cond.fieldLink RX9 132 "CellLoans$Promises" "count" "I" ∈ AW := AW_in (lw_at 159 (by decide +kernel : tables_1[159]? = some (Cond.fieldLink RX9 132 "CellLoans$Promises" "count" "I"))) rfl
theorem f_X1_11 : Cond.fieldLink RX1 11 "CellLoans$Ledger" "port" "[I" ∈ AW := AW_in (lw_at 177 (by decide +kernel : tables_1[177]? = some (Cond.fieldLink RX1 11 "CellLoans$Ledger" "port" "[I"))) rfl
theorem f_X1_15 : Cond.fieldLink RX1 15 "CellLoans$Ledger" "cells" "[I" ∈ AW := AW_in (lw_at 178 (by decide +kernel : tables_1[178]? = some (Cond.fieldLink RX1 15 "CellLoans$Ledger" "cells" "[I"))) rfl
theorem f_X1_18 : Cond.fieldLink RX1 18 "CellLoans$Ledger" "reason" "[I" ∈ AW := AW_in (lw_at 179 (by decide +kernel : tables_1[179]? = some (Cond.fieldLink RX1 18 "CellLoans$Ledger" "reason" "[I"))) rfl
theorem f_X1_21 : Cond.fieldLink RX1 21 "CellLoans$Ledger" "when" "[I" ∈ AW := AW_in (lw_at 180 (by decide +kernel : tables_1[180]? = some (Cond.fieldLink RX1 21 "CellLoans$Ledger" "when" "[I"))) rfl
theorem f_X1_24 : Cond.fieldLink RX1 24 "CellLoans$Ledger" "byReason" "[I" ∈ AW := AW_in (lw_at 181 (by decide +kernel : tables_1[181]? = some (Cond.fieldLink RX1 24 "CellLoans$Ledger" "byReason" "[I"))) rfl
theorem f_X9_191 : Cond.fieldLink RX9 191 "CellLoans$Ledger" "byReason" "[I" ∈ AW := AW_in (lw_at 182 (by decide +kernel : tables_1[182]? = some (Cond.fieldLink RX9 191 "CellLoans$Ledger" "byReason" "[I"))) rfl
theorem f_X1_27 : Cond.fieldLink RX1 27 "CellLoans$Ledger" "total" "I" ∈ AW := AW_in (lw_at 183 (by decide +kernel : tables_1[183]? = some (Cond.fieldLink RX1 27 "CellLoans$Ledger" "total" "I"))) rfl
theorem f_X9_139 : Cond.fieldLink RX9 139 "CellLoans$Ledger" "total" "I" ∈ AW := AW_in (lw_at 184 (by decide +kernel : tables_1[184]? = some (Cond.fieldLink RX9 139 "CellLoans$Ledger" "total" "I"))) rfl
theorem f_X2_21 : Cond.fieldLink RX2 21 "CellLoans$Port" "name" "J" ∈ AW := AW_in (lw_at 203 (by decide +kernel : tables_1[203]? = some (Cond.fieldLink RX2 21 "CellLoans$Port" "name" "J"))) rfl
theorem f_X4_26 : Cond.fieldLink RX4 26 "CellLoans$Port" "name" "J" ∈ AW := AW_in (lw_at 204 (by decide +kernel : tables_1[204]? = some (Cond.fieldLink RX4 26 "CellLoans$Port" "name" "J"))) rfl
theorem f_X6_68 : Cond.fieldLink RX6 68 "CellLoans$Port" "name" "J" ∈ AW := AW_in (lw_at 205 (by decide +kernel : tables_1[205]? = some (Cond.fieldLink RX6 68 "CellLoans$Port" "name" "J"))) rfl
theorem f_X2_25 : Cond.fieldLink RX2 25 "CellLoans$Port" "share" "I" ∈ AW := AW_in (lw_at 206 (by decide +kernel : tables_1[206]? = some (Cond.fieldLink RX2 25 "CellLoans$Port" "share" "I"))) rfl
theorem f_X6_90 : Cond.fieldLink RX6 90 "CellLoans$Port" "share" "I" ∈ AW := AW_in (lw_at 207 (by decide +kernel : tables_1[207]? = some (Cond.fieldLink RX6 90 "CellLoans$Port" "share" "I"))) rfl
theorem f_X9_206 : Cond.fieldLink RX9 206 "CellLoans$Port" "share" "I" ∈ AW := AW_in (lw_at 208 (by decide +kernel : tables_1[208]? = some (Cond.fieldLink RX9 206 "CellLoans$Port" "share" "I"))) rfl
theorem f_X2_29 : Cond.fieldLink RX2 29 "CellLoans$Port" "rate" "I" ∈ AW := AW_in (lw_at 209 (by decide +kernel : tables_1[209]? = some (Cond.fieldLink RX2 29 "CellLoans$Port" "rate" "I"))) rfl
theorem f_X2_32 : Cond.fieldLink RX2 32 "CellLoans$Port" "forecast" "I" ∈ AW := AW_in (lw_at 210 (by decide +kernel : tables_1[210]? = some (Cond.fieldLink RX2 32 "CellLoans$Port" "forecast" "I"))) rfl
theorem f_X2_35 : Cond.fieldLink RX2 35 "CellLoans$Port" "burst" "I" ∈ AW := AW_in (lw_at 211 (by decide +kernel : tables_1[211]? = some (Cond.fieldLink RX2 35 "CellLoans$Port" "burst" "I"))) rfl
theorem f_X6_99 : Cond.fieldLink RX6 99 "CellLoans$Port" "burst" "I" ∈ AW := AW_in (lw_at 212 (by decide +kernel : tables_1[212]? = some (Cond.fieldLink RX6 99 "CellLoans$Port" "burst" "I"))) rfl
theorem f_X2_38 : Cond.fieldLink RX2 38 "CellLoans$Port" "cells" "I" ∈ AW := AW_in (lw_at 213 (by decide +kernel : tables_1[213]? = some (Cond.fieldLink RX2 38 "CellLoans$Port" "cells" "I"))) rfl
theorem f_X4_40 : Cond.fieldLink RX4 40 "CellLoans$Port" "cells" "I" ∈ AW := AW_in (lw_at 214 (by decide +kernel : tables_1[214]? = some (Cond.fieldLink RX4 40 "CellLoans$Port" "cells" "I"))) rfl
theorem f_X6_87 : Cond.fieldLink RX6 87 "CellLoans$Port" "cells" "I" ∈ AW := AW_in (lw_at 215 (by decide +kernel : tables_1[215]? = some (Cond.fieldLink RX6 87 "CellLoans$Port" "cells" "I"))) rfl
theorem f_X9_209 : Cond.fieldLink RX9 209 "CellLoans$Port" "cells" "I" ∈ AW := AW_in (lw_at 216 (by decide +kernel : tables_1[216]? = some (Cond.fieldLink RX9 209 "CellLoans$Port" "cells" "I"))) rfl
theorem f_X2_41 : Cond.fieldLink RX2 41 "CellLoans$Port" "lent" "I" ∈ AW := AW_in (lw_at 217 (by decide +kernel : tables_1[217]? = some (Cond.fieldLink RX2 41 "CellLoans$Port" "lent" "I"))) rfl
theorem f_X6_124 : Cond.fieldLink RX6 124 "CellLoans$Port" "lent" "I" ∈ AW := AW_in (lw_at 218 (by decide +kernel : tables_1[218]? = some (Cond.fieldLink RX6 124 "CellLoans$Port" "lent" "I"))) rfl
theorem f_X2_44 : Cond.fieldLink RX2 44 "CellLoans$Port" "borrowed" "I" ∈ AW := AW_in (lw_at 219 (by decide +kernel : tables_1[219]? = some (Cond.fieldLink RX2 44 "CellLoans$Port" "borrowed" "I"))) rfl
theorem f_X6_127 : Cond.fieldLink RX6 127 "CellLoans$Port" "borrowed" "I" ∈ AW := AW_in (lw_at 220 (by decide +kernel : tables_1[220]? = some (Cond.fieldLink RX6 127 "CellLoans$Port" "borrowed" "I"))) rfl
theorem f_X2_47 : Cond.fieldLink RX2 47 "CellLoans$Port" "dropped" "I" ∈ AW := AW_in (lw_at 221 (by decide +kernel : tables_1[221]? = some (Cond.fieldLink RX2 47 "CellLoans$Port" "dropped" "I"))) rfl
theorem f_X6_160 : Cond.fieldLink RX6 160 "CellLoans$Port" "dropped" "I" ∈ AW := AW_in (lw_at 222 (by decide +kernel : tables_1[222]? = some (Cond.fieldLink RX6 160 "CellLoans$Port" "dropped" "I"))) rfl
theorem f_X2_50 : Cond.fieldLink RX2 50 "CellLoans$Port" "charged" "I" ∈ AW := AW_in (lw_at 223 (by decide +kernel : tables_1[223]? = some (Cond.fieldLink RX2 50 "CellLoans$Port" "charged" "I"))) rfl
theorem f_X6_163 : Cond.fieldLink RX6 163 "CellLoans$Port" "charged" "I" ∈ AW := AW_in (lw_at 224 (by decide +kernel : tables_1[224]? = some (Cond.fieldLink RX6 163 "CellLoans$Port" "charged" "I"))) rfl
theorem f_X9_194 : Cond.fieldLink RX9 194 "CellLoans$Port" "charged" "I" ∈ AW := AW_in (lw_at 225 (by decide +kernel : tables_1[225]? = some (Cond.fieldLink RX9 194 "CellLoans$Port" "charged" "I"))) rfl
theorem f_X2_53 : Cond.fieldLink RX2 53 "CellLoans$Port" "sent" "I" ∈ AW := AW_in (lw_at 226 (by decide +kernel : tables_1[226]? = some (Cond.fieldLink RX2 53 "CellLoans$Port" "sent" "I"))) rfl
theorem f_X9_229 : Cond.fieldLink RX9 229 "CellLoans$Port" "sent" "I" ∈ AW := AW_in (lw_at 227 (by decide +kernel : tables_1[227]? = some (Cond.fieldLink RX9 229 "CellLoans$Port" "sent" "I"))) rfl
theorem f_X2_56 : Cond.fieldLink RX2 56 "CellLoans$Port" "waiting" "I" ∈ AW := AW_in (lw_at 228 (by decide +kernel : tables_1[228]? = some (Cond.fieldLink RX2 56 "CellLoans$Port" "waiting" "I"))) rfl
theorem f_X9_158 : Cond.fieldLink RX9 158 "CellLoans$Port" "waiting" "I" ∈ AW := AW_in (lw_at 229 (by decide +kernel : tables_1[229]? = some (Cond.fieldLink RX9 158 "CellLoans$Port" "waiting" "I"))) rfl
theorem f_X6_154 : Cond.fieldLink RX6 154 "CellLoans$Port" "waiting" "I" ∈ AW := AW_in (lw_at 230 (by decide +kernel : tables_1[230]? = some (Cond.fieldLink RX6 154 "CellLoans$Port" "waiting" "I"))) rfl
theorem f_X2_9 : Cond.fieldLink RX2 9 "CellLoans$Port" "left" "[I" ∈ AW := AW_in (lw_at 231 (by decide +kernel : tables_1[231]? = some (Cond.fieldLink RX2 9 "CellLoans$Port" "left" "[I"))) rfl
theorem f_X9_165 : Cond.fieldLink RX9 165 "CellLoans$Port" "left" "[I" ∈ AW := AW_in (lw_at 232 (by decide +kernel : tables_1[232]? = some (Cond.fieldLink RX9 165 "CellLoans$Port" "left" "[I"))) rfl
theorem f_X2_15 : Cond.fieldLink RX2 15 "CellLoans$Port" "had" "[I" ∈ AW := AW_in (lw_at 233 (by decide +kernel : tables_1[233]? = some (Cond.fieldLink RX2 15 "CellLoans$Port" "had" "[I"))) rfl
theorem f_X9_169 : Cond.fieldLink RX9 169 "CellLoans$Port" "had" "[I" ∈ AW := AW_in (lw_at 234 (by decide +kernel : tables_1[234]? = some (Cond.fieldLink RX9 169 "CellLoans$Port" "had" "[I"))) rfl
theorem f_X2_18 : Cond.fieldLink RX2 18 "CellLoans$Port" "came" "[I" ∈ AW := AW_in (lw_at 235 (by decide +kernel : tables_1[235]? = some (Cond.fieldLink RX2 18 "CellLoans$Port" "came" "[I"))) rfl
theorem f_X9_172 : Cond.fieldLink RX9 172 "CellLoans$Port" "came" "[I" ∈ AW := AW_in (lw_at 236 (by decide +kernel : tables_1[236]? = some (Cond.fieldLink RX9 172 "CellLoans$Port" "came" "[I"))) rfl
theorem f_X6_11 : Cond.fieldLink RX6 11 "CellLoans$Switch" "ports" "[LCellLoans$Port;" ∈ AW := AW_in (lw_at 268 (by decide +kernel : tables_1[268]? = some (Cond.fieldLink RX6 11 "CellLoans$Switch" "ports" "[LCellLoans$Port;"))) rfl
theorem f_X4_22 : Cond.fieldLink RX4 22 "CellLoans$Switch" "ports" "[LCellLoans$Port;" ∈ AW := AW_in (lw_at 269 (by decide +kernel : tables_1[269]? = some (Cond.fieldLink RX4 22 "CellLoans$Switch" "ports" "[LCellLoans$Port;"))) rfl
theorem f_X9_150 : Cond.fieldLink RX9 150 "CellLoans$Switch" "ports" "[LCellLoans$Port;" ∈ AW := AW_in (lw_at 270 (by decide +kernel : tables_1[270]? = some (Cond.fieldLink RX9 150 "CellLoans$Switch" "ports" "[LCellLoans$Port;"))) rfl
theorem f_X6_39 : Cond.fieldLink RX6 39 "CellLoans$Switch" "portCount" "I" ∈ AW := AW_in (lw_at 271 (by decide +kernel : tables_1[271]? = some (Cond.fieldLink RX6 39 "CellLoans$Switch" "portCount" "I"))) rfl
theorem f_X4_17 : Cond.fieldLink RX4 17 "CellLoans$Switch" "portCount" "I" ∈ AW := AW_in (lw_at 272 (by decide +kernel : tables_1[272]? = some (Cond.fieldLink RX4 17 "CellLoans$Switch" "portCount" "I"))) rfl
theorem f_X7_62 : Cond.fieldLink RX7 62 "CellLoans$Switch" "portCount" "I" ∈ AW := AW_in (lw_at 273 (by decide +kernel : tables_1[273]? = some (Cond.fieldLink RX7 62 "CellLoans$Switch" "portCount" "I"))) rfl
theorem f_X9_92 : Cond.fieldLink RX9 92 "CellLoans$Switch" "portCount" "I" ∈ AW := AW_in (lw_at 274 (by decide +kernel : tables_1[274]? = some (Cond.fieldLink RX9 92 "CellLoans$Switch" "portCount" "I"))) rfl
theorem f_X6_17 : Cond.fieldLink RX6 17 "CellLoans$Switch" "term" "I" ∈ AW := AW_in (lw_at 275 (by decide +kernel : tables_1[275]? = some (Cond.fieldLink RX6 17 "CellLoans$Switch" "term" "I"))) rfl
theorem f_X7_94 : Cond.fieldLink RX7 94 "CellLoans$Switch" "term" "I" ∈ AW := AW_in (lw_at 276 (by decide +kernel : tables_1[276]? = some (Cond.fieldLink RX7 94 "CellLoans$Switch" "term" "I"))) rfl
theorem f_X9_114 : Cond.fieldLink RX9 114 "CellLoans$Switch" "term" "I" ∈ AW := AW_in (lw_at 277 (by decide +kernel : tables_1[277]? = some (Cond.fieldLink RX9 114 "CellLoans$Switch" "term" "I"))) rfl
theorem f_X6_21 : Cond.fieldLink RX6 21 "CellLoans$Switch" "keep" "I" ∈ AW := AW_in (lw_at 278 (by decide +kernel : tables_1[278]? = some (Cond.fieldLink RX6 21 "CellLoans$Switch" "keep" "I"))) rfl
theorem f_X7_99 : Cond.fieldLink RX7 99 "CellLoans$Switch" "keep" "I" ∈ AW := AW_in (lw_at 279 (by decide +kernel : tables_1[279]? = some (Cond.fieldLink RX7 99 "CellLoans$Switch" "keep" "I"))) rfl
theorem f_X9_117 : Cond.fieldLink RX9 117 "CellLoans$Switch" "keep" "I" ∈ AW := AW_in (lw_at 280 (by decide +kernel : tables_1[280]? = some (Cond.fieldLink RX9 117 "CellLoans$Switch" "keep" "I"))) rfl
theorem f_X6_42 : Cond.fieldLink RX6 42 "CellLoans$Switch" "clock" "I" ∈ AW := AW_in (lw_at 281 (by decide +kernel : tables_1[281]? = some (Cond.fieldLink RX6 42 "CellLoans$Switch" "clock" "I"))) rfl
theorem f_X9_120 : Cond.fieldLink RX9 120 "CellLoans$Switch" "clock" "I" ∈ AW := AW_in (lw_at 282 (by decide +kernel : tables_1[282]? = some (Cond.fieldLink RX9 120 "CellLoans$Switch" "clock" "I"))) rfl
theorem f_X6_45 : Cond.fieldLink RX6 45 "CellLoans$Switch" "arrived" "I" ∈ AW := AW_in (lw_at 283 (by decide +kernel : tables_1[283]? = some (Cond.fieldLink RX6 45 "CellLoans$Switch" "arrived" "I"))) rfl
theorem f_X9_144 : Cond.fieldLink RX9 144 "CellLoans$Switch" "arrived" "I" ∈ AW := AW_in (lw_at 284 (by decide +kernel : tables_1[284]? = some (Cond.fieldLink RX9 144 "CellLoans$Switch" "arrived" "I"))) rfl
theorem f_X6_27 : Cond.fieldLink RX6 27 "CellLoans$Switch" "promises" "LCellLoans$Promises;" ∈ AW := AW_in (lw_at 285 (by decide +kernel : tables_1[285]? = some (Cond.fieldLink RX6 27 "CellLoans$Switch" "promises" "LCellLoans$Promises;"))) rfl
theorem f_X4_54 : Cond.fieldLink RX4 54 "CellLoans$Switch" "promises" "LCellLoans$Promises;" ∈ AW := AW_in (lw_at 286 (by decide +kernel : tables_1[286]? = some (Cond.fieldLink RX4 54 "CellLoans$Switch" "promises" "LCellLoans$Promises;"))) rfl
theorem f_X9_128 : Cond.fieldLink RX9 128 "CellLoans$Switch" "promises" "LCellLoans$Promises;" ∈ AW := AW_in (lw_at 287 (by decide +kernel : tables_1[287]? = some (Cond.fieldLink RX9 128 "CellLoans$Switch" "promises" "LCellLoans$Promises;"))) rfl
theorem f_X6_34 : Cond.fieldLink RX6 34 "CellLoans$Switch" "ledger" "LCellLoans$Ledger;" ∈ AW := AW_in (lw_at 288 (by decide +kernel : tables_1[288]? = some (Cond.fieldLink RX6 34 "CellLoans$Switch" "ledger" "LCellLoans$Ledger;"))) rfl
theorem f_X9_135 : Cond.fieldLink RX9 135 "CellLoans$Switch" "ledger" "LCellLoans$Ledger;" ∈ AW := AW_in (lw_at 289 (by decide +kernel : tables_1[289]? = some (Cond.fieldLink RX9 135 "CellLoans$Switch" "ledger" "LCellLoans$Ledger;"))) rfl
theorem f_X0_11 : Cond.fieldLink RX0 11 "CellLoans$History" "before" "[LCellLoans$Switch;" ∈ AW := AW_in (lw_at 316 (by decide +kernel : tables_1[316]? = some (Cond.fieldLink RX0 11 "CellLoans$History" "before" "[LCellLoans$Switch;"))) rfl
theorem f_X0_20 : Cond.fieldLink RX0 20 "CellLoans$History" "latest" "I" ∈ AW := AW_in (lw_at 317 (by decide +kernel : tables_1[317]? = some (Cond.fieldLink RX0 20 "CellLoans$History" "latest" "I"))) rfl
theorem f_X0_16 : Cond.fieldLink RX0 16 "CellLoans$History" "kept" "I" ∈ AW := AW_in (lw_at 318 (by decide +kernel : tables_1[318]? = some (Cond.fieldLink RX0 16 "CellLoans$History" "kept" "I"))) rfl
theorem f_X9_266 : Cond.fieldLink RX9 266 "CellLoans$History" "kept" "I" ∈ AW := AW_in (lw_at 319 (by decide +kernel : tables_1[319]? = some (Cond.fieldLink RX9 266 "CellLoans$History" "kept" "I"))) rfl
theorem f_X4_9 : Cond.fieldLink RX4 9 "CellLoans$Report" "bytes" "[I" ∈ AW := AW_in (lw_at 333 (by decide +kernel : tables_1[333]? = some (Cond.fieldLink RX4 9 "CellLoans$Report" "bytes" "[I"))) rfl
theorem f_X9_276 : Cond.fieldLink RX9 276 "CellLoans$Report" "bytes" "[I" ∈ AW := AW_in (lw_at 334 (by decide +kernel : tables_1[334]? = some (Cond.fieldLink RX9 276 "CellLoans$Report" "bytes" "[I"))) rfl
theorem f_X4_13 : Cond.fieldLink RX4 13 "CellLoans$Report" "length" "I" ∈ AW := AW_in (lw_at 335 (by decide +kernel : tables_1[335]? = some (Cond.fieldLink RX4 13 "CellLoans$Report" "length" "I"))) rfl
theorem f_X9_275 : Cond.fieldLink RX9 275 "CellLoans$Report" "length" "I" ∈ AW := AW_in (lw_at 336 (by decide +kernel : tables_1[336]? = some (Cond.fieldLink RX9 275 "CellLoans$Report" "length" "I"))) rfl
theorem f_X9_12 : Cond.fieldLink RX9 12 "CellLoans" "text" "LCellLoans$Text;" ∈ AW := AW_in (lw_at 342 (by decide +kernel : tables_1[342]? = some (Cond.fieldLink RX9 12 "CellLoans" "text" "LCellLoans$Text;"))) rfl
theorem f_X9_19 : Cond.fieldLink RX9 19 "CellLoans" "switchReader" "LCellLoans$SwitchReader;" ∈ AW := AW_in (lw_at 343 (by decide +kernel : tables_1[343]? = some (Cond.fieldLink RX9 19 "CellLoans" "switchReader" "LCellLoans$SwitchReader;"))) rfl
theorem f_X9_26 : Cond.fieldLink RX9 26 "CellLoans" "script" "LCellLoans$Script;" ∈ AW := AW_in (lw_at 344 (by decide +kernel : tables_1[344]? = some (Cond.fieldLink RX9 26 "CellLoans" "script" "LCellLoans$Script;"))) rfl
theorem f_X9_33 : Cond.fieldLink RX9 33 "CellLoans" "now" "LCellLoans$Switch;" ∈ AW := AW_in (lw_at 345 (by decide +kernel : tables_1[345]? = some (Cond.fieldLink RX9 33 "CellLoans" "now" "LCellLoans$Switch;"))) rfl
theorem f_X9_37 : Cond.fieldLink RX9 37 "CellLoans" "trial" "LCellLoans$Switch;" ∈ AW := AW_in (lw_at 346 (by decide +kernel : tables_1[346]? = some (Cond.fieldLink RX9 37 "CellLoans" "trial" "LCellLoans$Switch;"))) rfl
theorem f_X9_40 : Cond.fieldLink RX9 40 "CellLoans" "saved" "LCellLoans$Switch;" ∈ AW := AW_in (lw_at 347 (by decide +kernel : tables_1[347]? = some (Cond.fieldLink RX9 40 "CellLoans" "saved" "LCellLoans$Switch;"))) rfl
theorem f_X9_279 : Cond.fieldLink RX9 279 "CellLoans" "somethingSaved" "Z" ∈ AW := AW_in (lw_at 348 (by decide +kernel : tables_1[348]? = some (Cond.fieldLink RX9 279 "CellLoans" "somethingSaved" "Z"))) rfl
theorem f_X9_46 : Cond.fieldLink RX9 46 "CellLoans" "history" "LCellLoans$History;" ∈ AW := AW_in (lw_at 349 (by decide +kernel : tables_1[349]? = some (Cond.fieldLink RX9 46 "CellLoans" "history" "LCellLoans$History;"))) rfl
theorem f_X9_53 : Cond.fieldLink RX9 53 "CellLoans" "latestReport" "LCellLoans$Report;" ∈ AW := AW_in (lw_at 350 (by decide +kernel : tables_1[350]? = some (Cond.fieldLink RX9 53 "CellLoans" "latestReport" "LCellLoans$Report;"))) rfl
theorem f_X10_1 : Cond.fieldLink RX10 1 "CellLoansModel" "thrown" "I" ∈ AW := AW_in (lw_at 1142 (by decide +kernel : tables_1[1142]? = some (Cond.fieldLink RX10 1 "CellLoansModel" "thrown" "I"))) rfl
theorem f_X10_13 : Cond.fieldLink RX10 13 "CellLoansModel" "s" "[I" ∈ AW := AW_in (lw_at 1143 (by decide +kernel : tables_1[1143]? = some (Cond.fieldLink RX10 13 "CellLoansModel" "s" "[I"))) rfl
theorem f_X10_17 : Cond.fieldLink RX10 17 "CellLoansModel" "names" "[J" ∈ AW := AW_in (lw_at 1144 (by decide +kernel : tables_1[1144]? = some (Cond.fieldLink RX10 17 "CellLoansModel" "names" "[J"))) rfl
theorem f_X10_39 : Cond.fieldLink RX10 39 "CellLoansModel" "o" "I" ∈ AW := AW_in (lw_at 1145 (by decide +kernel : tables_1[1145]? = some (Cond.fieldLink RX10 39 "CellLoansModel" "o" "I"))) rfl
theorem f_X10_21 : Cond.fieldLink RX10 21 "CellLoansModel" "buffer" "[I" ∈ AW := AW_in (lw_at 1146 (by decide +kernel : tables_1[1146]? = some (Cond.fieldLink RX10 21 "CellLoansModel" "buffer" "[I"))) rfl
theorem f_X10_57 : Cond.fieldLink RX10 57 "CellLoansModel" "length" "I" ∈ AW := AW_in (lw_at 1147 (by decide +kernel : tables_1[1147]? = some (Cond.fieldLink RX10 57 "CellLoansModel" "length" "I"))) rfl
theorem f_X10_82 : Cond.fieldLink RX10 82 "CellLoansModel" "at" "I" ∈ AW := AW_in (lw_at 1148 (by decide +kernel : tables_1[1148]? = some (Cond.fieldLink RX10 82 "CellLoansModel" "at" "I"))) rfl
theorem f_X10_85 : Cond.fieldLink RX10 85 "CellLoansModel" "end" "I" ∈ AW := AW_in (lw_at 1149 (by decide +kernel : tables_1[1149]? = some (Cond.fieldLink RX10 85 "CellLoansModel" "end" "I"))) rfl
theorem f_X10_79 : Cond.fieldLink RX10 79 "CellLoansModel" "token" "I" ∈ AW := AW_in (lw_at 1150 (by decide +kernel : tables_1[1150]? = some (Cond.fieldLink RX10 79 "CellLoansModel" "token" "I"))) rfl
theorem f_X10_107 : Cond.fieldLink RX10 107 "CellLoansModel" "number" "I" ∈ AW := AW_in (lw_at 1151 (by decide +kernel : tables_1[1151]? = some (Cond.fieldLink RX10 107 "CellLoansModel" "number" "I"))) rfl
theorem f_X10_72 : Cond.fieldLink RX10 72 "CellLoansModel" "errorCode" "I" ∈ AW := AW_in (lw_at 1152 (by decide +kernel : tables_1[1152]? = some (Cond.fieldLink RX10 72 "CellLoansModel" "errorCode" "I"))) rfl
theorem f_X10_24 : Cond.fieldLink RX10 24 "CellLoansModel" "errorPosition" "I" ∈ AW := AW_in (lw_at 1153 (by decide +kernel : tables_1[1153]? = some (Cond.fieldLink RX10 24 "CellLoansModel" "errorPosition" "I"))) rfl
theorem f_X10_95 : Cond.fieldLink RX10 95 "CellLoansModel" "word" "J" ∈ AW := AW_in (lw_at 1154 (by decide +kernel : tables_1[1154]? = some (Cond.fieldLink RX10 95 "CellLoansModel" "word" "J"))) rfl
theorem f_X10_150 : Cond.fieldLink RX10 150 "CellLoansModel" "hasTerm" "Z" ∈ AW := AW_in (lw_at 1155 (by decide +kernel : tables_1[1155]? = some (Cond.fieldLink RX10 150 "CellLoansModel" "hasTerm" "Z"))) rfl
theorem f_X10_156 : Cond.fieldLink RX10 156 "CellLoansModel" "hasKeep" "Z" ∈ AW := AW_in (lw_at 1156 (by decide +kernel : tables_1[1156]? = some (Cond.fieldLink RX10 156 "CellLoansModel" "hasKeep" "Z"))) rfl
theorem f_X10_171 : Cond.fieldLink RX10 171 "CellLoansModel" "undos" "I" ∈ AW := AW_in (lw_at 1157 (by decide +kernel : tables_1[1157]? = some (Cond.fieldLink RX10 171 "CellLoansModel" "undos" "I"))) rfl
theorem f_X10_346 : Cond.fieldLink RX10 346 "CellLoansModel" "does" "Z" ∈ AW := AW_in (lw_at 1158 (by decide +kernel : tables_1[1158]? = some (Cond.fieldLink RX10 346 "CellLoansModel" "does" "Z"))) rfl
theorem f_X10_349 : Cond.fieldLink RX10 349 "CellLoansModel" "isOver" "Z" ∈ AW := AW_in (lw_at 1159 (by decide +kernel : tables_1[1159]? = some (Cond.fieldLink RX10 349 "CellLoansModel" "isOver" "Z"))) rfl
theorem f_X10_372 : Cond.fieldLink RX10 372 "CellLoansModel" "depth" "I" ∈ AW := AW_in (lw_at 1160 (by decide +kernel : tables_1[1160]? = some (Cond.fieldLink RX10 372 "CellLoansModel" "depth" "I"))) rfl
theorem f_X10_381 : Cond.fieldLink RX10 381 "CellLoansModel" "commands" "I" ∈ AW := AW_in (lw_at 1161 (by decide +kernel : tables_1[1161]? = some (Cond.fieldLink RX10 381 "CellLoansModel" "commands" "I"))) rfl
theorem f_X10_352 : Cond.fieldLink RX10 352 "CellLoansModel" "done" "I" ∈ AW := AW_in (lw_at 1162 (by decide +kernel : tables_1[1162]? = some (Cond.fieldLink RX10 352 "CellLoansModel" "done" "I"))) rfl
theorem f_X10_27 : Cond.fieldLink RX10 27 "CellLoansModel" "opens" "[I" ∈ AW := AW_in (lw_at 1163 (by decide +kernel : tables_1[1163]? = some (Cond.fieldLink RX10 27 "CellLoansModel" "opens" "[I"))) rfl
theorem f_X10_30 : Cond.fieldLink RX10 30 "CellLoansModel" "again" "[I" ∈ AW := AW_in (lw_at 1164 (by decide +kernel : tables_1[1164]? = some (Cond.fieldLink RX10 30 "CellLoansModel" "again" "[I"))) rfl
theorem f_X10_33 : Cond.fieldLink RX10 33 "CellLoansModel" "report" "[I" ∈ AW := AW_in (lw_at 1165 (by decide +kernel : tables_1[1165]? = some (Cond.fieldLink RX10 33 "CellLoansModel" "report" "[I"))) rfl
theorem f_X10_405 : Cond.fieldLink RX10 405 "CellLoansModel" "reportLength" "I" ∈ AW := AW_in (lw_at 1166 (by decide +kernel : tables_1[1166]? = some (Cond.fieldLink RX10 405 "CellLoansModel" "reportLength" "I"))) rfl
theorem f_X10_420 : Cond.fieldLink RX10 420 "CellLoansModel" "isSaved" "Z" ∈ AW := AW_in (lw_at 1167 (by decide +kernel : tables_1[1167]? = some (Cond.fieldLink RX10 420 "CellLoansModel" "isSaved" "Z"))) rfl
theorem k_L_95 : Cond.methodLink RL 95 yX9_init ∈ AW := AW_in (lw_at 25 (by decide +kernel : tables_1[25]? = some (Cond.methodLink RL 95 yX9_init))) rfl
theorem k_X9_32 : Cond.methodLink RX9 32 yX6_init ∈ AW := AW_in (lw_at 129 (by decide +kernel : tables_1[129]? = some (Cond.methodLink RX9 32 yX6_init))) rfl
theorem k_X9_45 : Cond.methodLink RX9 45 yX0_init ∈ AW := AW_in (lw_at 309 (by decide +kernel : tables_1[309]? = some (Cond.methodLink RX9 45 yX0_init))) rfl
theorem k_X0_15 : Cond.methodLink RX0 15 yX6_init ∈ AW := AW_in (lw_at 315 (by decide +kernel : tables_1[315]? = some (Cond.methodLink RX0 15 yX6_init))) rfl
theorem k_L_119 : Cond.methodLink RL 119 yX9_errorCode ∈ AW := AW_in (lw_at 370 (by decide +kernel : tables_1[370]? = some (Cond.methodLink RL 119 yX9_errorCode))) rfl
theorem k_L_123 : Cond.methodLink RL 123 yX9_errorPosition ∈ AW := AW_in (lw_at 374 (by decide +kernel : tables_1[374]? = some (Cond.methodLink RL 123 yX9_errorPosition))) rfl
theorem k_L_150 : Cond.methodLink RL 150 yX9_mostCharged ∈ AW := AW_in (lw_at 378 (by decide +kernel : tables_1[378]? = some (Cond.methodLink RL 150 yX9_mostCharged))) rfl
theorem k_L_154 : Cond.methodLink RL 154 yX9_lossShare ∈ AW := AW_in (lw_at 382 (by decide +kernel : tables_1[382]? = some (Cond.methodLink RL 154 yX9_lossShare))) rfl
theorem k_L_159 : Cond.methodLink RL 159 yX9_meanForecast ∈ AW := AW_in (lw_at 386 (by decide +kernel : tables_1[386]? = some (Cond.methodLink RL 159 yX9_meanForecast))) rfl
theorem k_X9_125 : Cond.methodLink RX9 125 yX6_sumOfPorts ∈ AW := AW_in (lw_at 390 (by decide +kernel : tables_1[390]? = some (Cond.methodLink RX9 125 yX6_sumOfPorts))) rfl
theorem k_X6_72 : Cond.methodLink RX6 72 yX2_number ∈ AW := AW_in (lw_at 394 (by decide +kernel : tables_1[394]? = some (Cond.methodLink RX6 72 yX2_number))) rfl
theorem k_X2_59 : Cond.methodLink RX2 59 yX2_free ∈ AW := AW_in (lw_at 398 (by decide +kernel : tables_1[398]? = some (Cond.methodLink RX2 59 yX2_free))) rfl
theorem k_X2_70 : Cond.methodLink RX2 70 yX2_room ∈ AW := AW_in (lw_at 402 (by decide +kernel : tables_1[402]? = some (Cond.methodLink RX2 70 yX2_room))) rfl
theorem k_X2_63 : Cond.methodLink RX2 63 yX2_canLend ∈ AW := AW_in (lw_at 406 (by decide +kernel : tables_1[406]? = some (Cond.methodLink RX2 63 yX2_canLend))) rfl
theorem k_X2_75 : Cond.methodLink RX2 75 yX2_ownLeft ∈ AW := AW_in (lw_at 410 (by decide +kernel : tables_1[410]? = some (Cond.methodLink RX2 75 yX2_ownLeft))) rfl
theorem k_X2_67 : Cond.methodLink RX2 67 yX2_keptBack ∈ AW := AW_in (lw_at 414 (by decide +kernel : tables_1[414]? = some (Cond.methodLink RX2 67 yX2_keptBack))) rfl
theorem k_X2_78 : Cond.methodLink RX2 78 Lib.Math.max.name ∈ AW := AW_in (lw_at 419 (by decide +kernel : tables_1[419]? = some (Cond.methodLink RX2 78 Lib.Math.max.name))) rfl
theorem k_L_179 : Cond.methodLink RL 179 yX9_emptyIn ∈ AW := AW_in (lw_at 422 (by decide +kernel : tables_1[422]? = some (Cond.methodLink RL 179 yX9_emptyIn))) rfl
theorem k_X9_85 : Cond.methodLink RX9 85 yX6_copyFrom ∈ AW := AW_in (lw_at 426 (by decide +kernel : tables_1[426]? = some (Cond.methodLink RX9 85 yX6_copyFrom))) rfl
theorem k_X6_54 : Cond.methodLink RX6 54 yX2_copyFrom ∈ AW := AW_in (lw_at 430 (by decide +kernel : tables_1[430]? = some (Cond.methodLink RX6 54 yX2_copyFrom))) rfl
theorem k_X6_58 : Cond.methodLink RX6 58 yX3_copyFrom ∈ AW := AW_in (lw_at 434 (by decide +kernel : tables_1[434]? = some (Cond.methodLink RX6 58 yX3_copyFrom))) rfl
theorem k_X3_28 : Cond.methodLink RX3 28 yX3_place ∈ AW := AW_in (lw_at 438 (by decide +kernel : tables_1[438]? = some (Cond.methodLink RX3 28 yX3_place))) rfl
theorem k_X6_61 : Cond.methodLink RX6 61 yX1_copyFrom ∈ AW := AW_in (lw_at 442 (by decide +kernel : tables_1[442]? = some (Cond.methodLink RX6 61 yX1_copyFrom))) rfl
theorem k_X9_226 : Cond.methodLink RX9 226 yX6_passTick ∈ AW := AW_in (lw_at 446 (by decide +kernel : tables_1[446]? = some (Cond.methodLink RX9 226 yX6_passTick))) rfl
theorem k_X6_141 : Cond.methodLink RX6 141 yX6_takeBack ∈ AW := AW_in (lw_at 450 (by decide +kernel : tables_1[450]? = some (Cond.methodLink RX6 141 yX6_takeBack))) rfl
theorem k_X6_150 : Cond.methodLink RX6 150 yX3_remove ∈ AW := AW_in (lw_at 454 (by decide +kernel : tables_1[454]? = some (Cond.methodLink RX6 150 yX3_remove))) rfl
theorem k_X6_80 : Cond.methodLink RX6 80 yX2_free ∈ AW := AW_in (lw_at 458 (by decide +kernel : tables_1[458]? = some (Cond.methodLink RX6 80 yX2_free))) rfl
theorem k_X6_157 : Cond.methodLink RX6 157 yX2_removeNewest ∈ AW := AW_in (lw_at 459 (by decide +kernel : tables_1[459]? = some (Cond.methodLink RX6 157 yX2_removeNewest))) rfl
theorem k_X6_102 : Cond.methodLink RX6 102 yX6_recordDrop ∈ AW := AW_in (lw_at 463 (by decide +kernel : tables_1[463]? = some (Cond.methodLink RX6 102 yX6_recordDrop))) rfl
theorem k_X6_166 : Cond.methodLink RX6 166 yX1_add ∈ AW := AW_in (lw_at 467 (by decide +kernel : tables_1[467]? = some (Cond.methodLink RX6 166 yX1_add))) rfl
theorem k_X6_175 : Cond.methodLink RX6 175 yX2_sendFirst ∈ AW := AW_in (lw_at 471 (by decide +kernel : tables_1[471]? = some (Cond.methodLink RX6 175 yX2_sendFirst))) rfl
theorem k_X2_84 : Cond.methodLink RX2 84 Lib.Math.min.name ∈ AW := AW_in (lw_at 475 (by decide +kernel : tables_1[475]? = some (Cond.methodLink RX2 84 Lib.Math.min.name))) rfl
theorem k_X2_87 : Cond.methodLink RX2 87 yX2_removeFirst ∈ AW := AW_in (lw_at 478 (by decide +kernel : tables_1[478]? = some (Cond.methodLink RX2 87 yX2_removeFirst))) rfl
theorem k_X6_178 : Cond.methodLink RX6 178 yX2_learn ∈ AW := AW_in (lw_at 482 (by decide +kernel : tables_1[482]? = some (Cond.methodLink RX6 178 yX2_learn))) rfl
theorem k_L_204 : Cond.methodLink RL 204 yX9_undo ∈ AW := AW_in (lw_at 486 (by decide +kernel : tables_1[486]? = some (Cond.methodLink RL 204 yX9_undo))) rfl
theorem k_X9_269 : Cond.methodLink RX9 269 yX0_bringBack ∈ AW := AW_in (lw_at 490 (by decide +kernel : tables_1[490]? = some (Cond.methodLink RX9 269 yX0_bringBack))) rfl
theorem k_X0_23 : Cond.methodLink RX0 23 yX6_copyFrom ∈ AW := AW_in (lw_at 494 (by decide +kernel : tables_1[494]? = some (Cond.methodLink RX0 23 yX6_copyFrom))) rfl
theorem k_L_208 : Cond.methodLink RL 208 yX9_report ∈ AW := AW_in (lw_at 495 (by decide +kernel : tables_1[495]? = some (Cond.methodLink RL 208 yX9_report))) rfl
theorem k_X9_272 : Cond.methodLink RX9 272 yX4_write ∈ AW := AW_in (lw_at 499 (by decide +kernel : tables_1[499]? = some (Cond.methodLink RX9 272 yX4_write))) rfl
theorem k_X4_32 : Cond.methodLink RX4 32 yX4_putName ∈ AW := AW_in (lw_at 503 (by decide +kernel : tables_1[503]? = some (Cond.methodLink RX4 32 yX4_putName))) rfl
theorem k_X4_36 : Cond.methodLink RX4 36 yX4_put ∈ AW := AW_in (lw_at 508 (by decide +kernel : tables_1[508]? = some (Cond.methodLink RX4 36 yX4_put))) rfl
theorem k_X4_43 : Cond.methodLink RX4 43 yX4_putNumber ∈ AW := AW_in (lw_at 512 (by decide +kernel : tables_1[512]? = some (Cond.methodLink RX4 43 yX4_putNumber))) rfl
theorem k_X4_46 : Cond.methodLink RX4 46 yX2_room ∈ AW := AW_in (lw_at 516 (by decide +kernel : tables_1[516]? = some (Cond.methodLink RX4 46 yX2_room))) rfl
theorem k_X4_50 : Cond.methodLink RX4 50 yX4_putPromisesOf ∈ AW := AW_in (lw_at 517 (by decide +kernel : tables_1[517]? = some (Cond.methodLink RX4 50 yX4_putPromisesOf))) rfl
theorem k_L_215 : Cond.methodLink RL 215 yX9_save ∈ AW := AW_in (lw_at 521 (by decide +kernel : tables_1[521]? = some (Cond.methodLink RL 215 yX9_save))) rfl
theorem k_L_7 : Cond.methodLink RL 7 yX9_feed ∈ AW := AW_in (lw_at 529 (by decide +kernel : tables_1[529]? = some (Cond.methodLink RL 7 yX9_feed))) rfl
theorem k_X9_68 : Cond.methodLink RX9 68 yX8_append ∈ AW := AW_in (lw_at 601 (by decide +kernel : tables_1[601]? = some (Cond.methodLink RX9 68 yX8_append))) rfl
theorem k_L_15 : Cond.methodLink RL 15 yX9_truncate ∈ AW := AW_in (lw_at 609 (by decide +kernel : tables_1[609]? = some (Cond.methodLink RL 15 yX9_truncate))) rfl
theorem k_X9_72 : Cond.methodLink RX9 72 yX9_needWithin ∈ AW := AW_in (lw_at 613 (by decide +kernel : tables_1[613]? = some (Cond.methodLink RX9 72 yX9_needWithin))) rfl
theorem k_X9_285 : Cond.methodLink RX9 285 yX9_within ∈ AW := AW_in (lw_at 616 (by decide +kernel : tables_1[616]? = some (Cond.methodLink RX9 285 yX9_within))) rfl
theorem k_L_21 : Cond.methodLink RL 21 yX9_readText ∈ AW := AW_in (lw_at 638 (by decide +kernel : tables_1[638]? = some (Cond.methodLink RL 21 yX9_readText))) rfl
theorem k_X9_76 : Cond.methodLink RX9 76 yX7_readFrom ∈ AW := AW_in (lw_at 642 (by decide +kernel : tables_1[642]? = some (Cond.methodLink RX9 76 yX7_readFrom))) rfl
theorem k_X7_18 : Cond.methodLink RX7 18 yX6_clear ∈ AW := AW_in (lw_at 646 (by decide +kernel : tables_1[646]? = some (Cond.methodLink RX7 18 yX6_clear))) rfl
theorem k_X6_51 : Cond.methodLink RX6 51 yX1_clear ∈ AW := AW_in (lw_at 650 (by decide +kernel : tables_1[650]? = some (Cond.methodLink RX6 51 yX1_clear))) rfl
theorem k_X7_23 : Cond.methodLink RX7 23 yX8_begin ∈ AW := AW_in (lw_at 654 (by decide +kernel : tables_1[654]? = some (Cond.methodLink RX7 23 yX8_begin))) rfl
theorem k_X7_28 : Cond.methodLink RX7 28 yX8_advance ∈ AW := AW_in (lw_at 658 (by decide +kernel : tables_1[658]? = some (Cond.methodLink RX7 28 yX8_advance))) rfl
theorem k_X8_31 : Cond.methodLink RX8 31 yX8_kindOf ∈ AW := AW_in (lw_at 662 (by decide +kernel : tables_1[662]? = some (Cond.methodLink RX8 31 yX8_kindOf))) rfl
theorem k_X8_45 : Cond.methodLink RX8 45 yX8_isTooLong ∈ AW := AW_in (lw_at 665 (by decide +kernel : tables_1[665]? = some (Cond.methodLink RX8 45 yX8_isTooLong))) rfl
theorem k_X7_35 : Cond.methodLink RX7 35 yX7_readStatement ∈ AW := AW_in (lw_at 669 (by decide +kernel : tables_1[669]? = some (Cond.methodLink RX7 35 yX7_readStatement))) rfl
theorem k_X7_41 : Cond.methodLink RX7 41 yX8_isWord ∈ AW := AW_in (lw_at 674 (by decide +kernel : tables_1[674]? = some (Cond.methodLink RX7 41 yX8_isWord))) rfl
theorem k_X7_45 : Cond.methodLink RX7 45 yX7_readPort ∈ AW := AW_in (lw_at 726 (by decide +kernel : tables_1[726]? = some (Cond.methodLink RX7 45 yX7_readPort))) rfl
theorem k_X7_58 : Cond.methodLink RX7 58 yX8_fail ∈ AW := AW_in (lw_at 730 (by decide +kernel : tables_1[730]? = some (Cond.methodLink RX7 58 yX8_fail))) rfl
theorem k_X7_65 : Cond.methodLink RX7 65 yX8_takeName ∈ AW := AW_in (lw_at 734 (by decide +kernel : tables_1[734]? = some (Cond.methodLink RX7 65 yX8_takeName))) rfl
theorem k_X8_49 : Cond.methodLink RX8 49 yX8_advance ∈ AW := AW_in (lw_at 738 (by decide +kernel : tables_1[738]? = some (Cond.methodLink RX8 49 yX8_advance))) rfl
theorem k_X8_52 : Cond.methodLink RX8 52 yX8_fail ∈ AW := AW_in (lw_at 739 (by decide +kernel : tables_1[739]? = some (Cond.methodLink RX8 52 yX8_fail))) rfl
theorem k_X7_73 : Cond.methodLink RX7 73 yX6_portNamed ∈ AW := AW_in (lw_at 740 (by decide +kernel : tables_1[740]? = some (Cond.methodLink RX7 73 yX6_portNamed))) rfl
theorem k_X7_77 : Cond.methodLink RX7 77 yX8_takeNumber ∈ AW := AW_in (lw_at 744 (by decide +kernel : tables_1[744]? = some (Cond.methodLink RX7 77 yX8_takeNumber))) rfl
theorem k_X7_86 : Cond.methodLink RX7 86 yX6_addPort ∈ AW := AW_in (lw_at 750 (by decide +kernel : tables_1[750]? = some (Cond.methodLink RX7 86 yX6_addPort))) rfl
theorem k_X6_64 : Cond.methodLink RX6 64 yX2_become ∈ AW := AW_in (lw_at 754 (by decide +kernel : tables_1[754]? = some (Cond.methodLink RX6 64 yX2_become))) rfl
theorem k_X7_90 : Cond.methodLink RX7 90 yX8_isSign ∈ AW := AW_in (lw_at 758 (by decide +kernel : tables_1[758]? = some (Cond.methodLink RX7 90 yX8_isSign))) rfl
theorem k_X7_50 : Cond.methodLink RX7 50 yX7_readTerm ∈ AW := AW_in (lw_at 763 (by decide +kernel : tables_1[763]? = some (Cond.methodLink RX7 50 yX7_readTerm))) rfl
theorem k_X7_96 : Cond.methodLink RX7 96 yX8_takeSign ∈ AW := AW_in (lw_at 767 (by decide +kernel : tables_1[767]? = some (Cond.methodLink RX7 96 yX8_takeSign))) rfl
theorem k_X8_60 : Cond.methodLink RX8 60 yX8_isSign ∈ AW := AW_in (lw_at 771 (by decide +kernel : tables_1[771]? = some (Cond.methodLink RX8 60 yX8_isSign))) rfl
theorem k_X7_55 : Cond.methodLink RX7 55 yX7_readKeep ∈ AW := AW_in (lw_at 773 (by decide +kernel : tables_1[773]? = some (Cond.methodLink RX7 55 yX7_readKeep))) rfl
theorem k_X9_89 : Cond.methodLink RX9 89 yX0_forget ∈ AW := AW_in (lw_at 778 (by decide +kernel : tables_1[778]? = some (Cond.methodLink RX9 89 yX0_forget))) rfl
theorem k_L_25 : Cond.methodLink RL 25 yX9_runScript ∈ AW := AW_in (lw_at 785 (by decide +kernel : tables_1[785]? = some (Cond.methodLink RL 25 yX9_runScript))) rfl
theorem k_X9_95 : Cond.methodLink RX9 95 yX5_readFrom ∈ AW := AW_in (lw_at 789 (by decide +kernel : tables_1[789]? = some (Cond.methodLink RX9 95 yX5_readFrom))) rfl
theorem k_X5_40 : Cond.methodLink RX5 40 yX8_begin ∈ AW := AW_in (lw_at 793 (by decide +kernel : tables_1[793]? = some (Cond.methodLink RX5 40 yX8_begin))) rfl
theorem k_X5_45 : Cond.methodLink RX5 45 yX8_advance ∈ AW := AW_in (lw_at 794 (by decide +kernel : tables_1[794]? = some (Cond.methodLink RX5 45 yX8_advance))) rfl
theorem k_X5_51 : Cond.methodLink RX5 51 yX8_isSign ∈ AW := AW_in (lw_at 795 (by decide +kernel : tables_1[795]? = some (Cond.methodLink RX5 51 yX8_isSign))) rfl
theorem k_X5_55 : Cond.methodLink RX5 55 yX5_closeRepeat ∈ AW := AW_in (lw_at 796 (by decide +kernel : tables_1[796]? = some (Cond.methodLink RX5 55 yX5_closeRepeat))) rfl
theorem k_X5_106 : Cond.methodLink RX5 106 yX5_add ∈ AW := AW_in (lw_at 800 (by decide +kernel : tables_1[800]? = some (Cond.methodLink RX5 106 yX5_add))) rfl
theorem k_X5_110 : Cond.methodLink RX5 110 yX8_takeSign ∈ AW := AW_in (lw_at 804 (by decide +kernel : tables_1[804]? = some (Cond.methodLink RX5 110 yX8_takeSign))) rfl
theorem k_X5_59 : Cond.methodLink RX5 59 yX5_readCommand ∈ AW := AW_in (lw_at 805 (by decide +kernel : tables_1[805]? = some (Cond.methodLink RX5 59 yX5_readCommand))) rfl
theorem k_X5_63 : Cond.methodLink RX5 63 yX5_verbOf ∈ AW := AW_in (lw_at 809 (by decide +kernel : tables_1[809]? = some (Cond.methodLink RX5 63 yX5_verbOf))) rfl
theorem k_X5_80 : Cond.methodLink RX5 80 yX8_isWord ∈ AW := AW_in (lw_at 813 (by decide +kernel : tables_1[813]? = some (Cond.methodLink RX5 80 yX8_isWord))) rfl
theorem k_X5_67 : Cond.methodLink RX5 67 yX8_fail ∈ AW := AW_in (lw_at 820 (by decide +kernel : tables_1[820]? = some (Cond.methodLink RX5 67 yX8_fail))) rfl
theorem k_X5_71 : Cond.methodLink RX5 71 yX5_openRepeat ∈ AW := AW_in (lw_at 821 (by decide +kernel : tables_1[821]? = some (Cond.methodLink RX5 71 yX5_openRepeat))) rfl
theorem k_X5_100 : Cond.methodLink RX5 100 yX8_takeNumber ∈ AW := AW_in (lw_at 825 (by decide +kernel : tables_1[825]? = some (Cond.methodLink RX5 100 yX8_takeNumber))) rfl
theorem k_X5_74 : Cond.methodLink RX5 74 yX5_readPlain ∈ AW := AW_in (lw_at 826 (by decide +kernel : tables_1[826]? = some (Cond.methodLink RX5 74 yX5_readPlain))) rfl
theorem k_X5_96 : Cond.methodLink RX5 96 yX5_takePort ∈ AW := AW_in (lw_at 830 (by decide +kernel : tables_1[830]? = some (Cond.methodLink RX5 96 yX5_takePort))) rfl
theorem k_X5_117 : Cond.methodLink RX5 117 yX6_portNamed ∈ AW := AW_in (lw_at 833 (by decide +kernel : tables_1[833]? = some (Cond.methodLink RX5 117 yX6_portNamed))) rfl
theorem k_X9_98 : Cond.methodLink RX9 98 yX0_remember ∈ AW := AW_in (lw_at 835 (by decide +kernel : tables_1[835]? = some (Cond.methodLink RX9 98 yX0_remember))) rfl
theorem k_X0_27 : Cond.methodLink RX0 27 Lib.Math.min.name ∈ AW := AW_in (lw_at 839 (by decide +kernel : tables_1[839]? = some (Cond.methodLink RX0 27 Lib.Math.min.name))) rfl
theorem k_X9_104 : Cond.methodLink RX9 104 yX9_doCommand ∈ AW := AW_in (lw_at 840 (by decide +kernel : tables_1[840]? = some (Cond.methodLink RX9 104 yX9_doCommand))) rfl
theorem k_X9_203 : Cond.methodLink RX9 203 yX6_admit ∈ AW := AW_in (lw_at 844 (by decide +kernel : tables_1[844]? = some (Cond.methodLink RX9 203 yX6_admit))) rfl
theorem k_X6_96 : Cond.methodLink RX6 96 yX6_wayOf ∈ AW := AW_in (lw_at 848 (by decide +kernel : tables_1[848]? = some (Cond.methodLink RX6 96 yX6_wayOf))) rfl
theorem k_X6_84 : Cond.methodLink RX6 84 yX6_missing ∈ AW := AW_in (lw_at 852 (by decide +kernel : tables_1[852]? = some (Cond.methodLink RX6 84 yX6_missing))) rfl
theorem k_X6_93 : Cond.methodLink RX6 93 yX6_lendableTo ∈ AW := AW_in (lw_at 856 (by decide +kernel : tables_1[856]? = some (Cond.methodLink RX6 93 yX6_lendableTo))) rfl
theorem k_X6_76 : Cond.methodLink RX6 76 yX2_canLend ∈ AW := AW_in (lw_at 860 (by decide +kernel : tables_1[860]? = some (Cond.methodLink RX6 76 yX2_canLend))) rfl
theorem k_X6_106 : Cond.methodLink RX6 106 yX6_collect ∈ AW := AW_in (lw_at 861 (by decide +kernel : tables_1[861]? = some (Cond.methodLink RX6 106 yX6_collect))) rfl
theorem k_X6_134 : Cond.methodLink RX6 134 yX3_isBetween ∈ AW := AW_in (lw_at 865 (by decide +kernel : tables_1[865]? = some (Cond.methodLink RX6 134 yX3_isBetween))) rfl
theorem k_X6_119 : Cond.methodLink RX6 119 Lib.Math.min.name ∈ AW := AW_in (lw_at 869 (by decide +kernel : tables_1[869]? = some (Cond.methodLink RX6 119 Lib.Math.min.name))) rfl
theorem k_X6_109 : Cond.methodLink RX6 109 yX6_borrow ∈ AW := AW_in (lw_at 870 (by decide +kernel : tables_1[870]? = some (Cond.methodLink RX6 109 yX6_borrow))) rfl
theorem k_X6_116 : Cond.methodLink RX6 116 yX6_bestLender ∈ AW := AW_in (lw_at 874 (by decide +kernel : tables_1[874]? = some (Cond.methodLink RX6 116 yX6_bestLender))) rfl
theorem k_X6_130 : Cond.methodLink RX6 130 yX3_insert ∈ AW := AW_in (lw_at 878 (by decide +kernel : tables_1[878]? = some (Cond.methodLink RX6 130 yX3_insert))) rfl
theorem k_X6_113 : Cond.methodLink RX6 113 yX2_append ∈ AW := AW_in (lw_at 882 (by decide +kernel : tables_1[882]? = some (Cond.methodLink RX6 113 yX2_append))) rfl
theorem k_X9_235 : Cond.methodLink RX9 235 yX6_mayPass ∈ AW := AW_in (lw_at 886 (by decide +kernel : tables_1[886]? = some (Cond.methodLink RX9 235 yX6_mayPass))) rfl
theorem k_X9_239 : Cond.methodLink RX9 239 yX6_passTicks ∈ AW := AW_in (lw_at 890 (by decide +kernel : tables_1[890]? = some (Cond.methodLink RX9 239 yX6_passTicks))) rfl
theorem k_X6_169 : Cond.methodLink RX6 169 yX6_passTick ∈ AW := AW_in (lw_at 894 (by decide +kernel : tables_1[894]? = some (Cond.methodLink RX6 169 yX6_passTick))) rfl
theorem k_X9_303 : Cond.methodLink RX9 303 yX9_mayDoBack ∈ AW := AW_in (lw_at 895 (by decide +kernel : tables_1[895]? = some (Cond.methodLink RX9 303 yX9_mayDoBack))) rfl
theorem k_X9_242 : Cond.methodLink RX9 242 yX6_mayReturn ∈ AW := AW_in (lw_at 899 (by decide +kernel : tables_1[899]? = some (Cond.methodLink RX9 242 yX6_mayReturn))) rfl
theorem k_X6_181 : Cond.methodLink RX6 181 yX3_cellsBetween ∈ AW := AW_in (lw_at 903 (by decide +kernel : tables_1[903]? = some (Cond.methodLink RX6 181 yX3_cellsBetween))) rfl
theorem k_X3_34 : Cond.methodLink RX3 34 yX3_isBetween ∈ AW := AW_in (lw_at 907 (by decide +kernel : tables_1[907]? = some (Cond.methodLink RX3 34 yX3_isBetween))) rfl
theorem k_X9_248 : Cond.methodLink RX9 248 yX6_returnCells ∈ AW := AW_in (lw_at 908 (by decide +kernel : tables_1[908]? = some (Cond.methodLink RX9 248 yX6_returnCells))) rfl
theorem k_X9_252 : Cond.methodLink RX9 252 yX6_mayProlong ∈ AW := AW_in (lw_at 912 (by decide +kernel : tables_1[912]? = some (Cond.methodLink RX9 252 yX6_mayProlong))) rfl
theorem k_X6_184 : Cond.methodLink RX6 184 yX2_ownLeft ∈ AW := AW_in (lw_at 916 (by decide +kernel : tables_1[916]? = some (Cond.methodLink RX6 184 yX2_ownLeft))) rfl
theorem k_X6_187 : Cond.methodLink RX6 187 yX2_keptBack ∈ AW := AW_in (lw_at 917 (by decide +kernel : tables_1[917]? = some (Cond.methodLink RX6 187 yX2_keptBack))) rfl
theorem k_X9_257 : Cond.methodLink RX9 257 yX6_prolong ∈ AW := AW_in (lw_at 918 (by decide +kernel : tables_1[918]? = some (Cond.methodLink RX9 257 yX6_prolong))) rfl
theorem k_X9_260 : Cond.methodLink RX9 260 yX6_changeTerm ∈ AW := AW_in (lw_at 922 (by decide +kernel : tables_1[922]? = some (Cond.methodLink RX9 260 yX6_changeTerm))) rfl
theorem k_X9_263 : Cond.methodLink RX9 263 yX6_changeKeep ∈ AW := AW_in (lw_at 926 (by decide +kernel : tables_1[926]? = some (Cond.methodLink RX9 263 yX6_changeKeep))) rfl
theorem k_L_28 : Cond.methodLink RL 28 yX9_setting ∈ AW := AW_in (lw_at 933 (by decide +kernel : tables_1[933]? = some (Cond.methodLink RL 28 yX9_setting))) rfl
theorem k_L_31 : Cond.methodLink RL 31 yX9_port ∈ AW := AW_in (lw_at 941 (by decide +kernel : tables_1[941]? = some (Cond.methodLink RL 31 yX9_port))) rfl
theorem k_X9_147 : Cond.methodLink RX9 147 yX9_needPort ∈ AW := AW_in (lw_at 945 (by decide +kernel : tables_1[945]? = some (Cond.methodLink RX9 147 yX9_needPort))) rfl
theorem k_X9_161 : Cond.methodLink RX9 161 yX9_needIndex ∈ AW := AW_in (lw_at 949 (by decide +kernel : tables_1[949]? = some (Cond.methodLink RX9 161 yX9_needIndex))) rfl
theorem k_X9_154 : Cond.methodLink RX9 154 yX2_number ∈ AW := AW_in (lw_at 968 (by decide +kernel : tables_1[968]? = some (Cond.methodLink RX9 154 yX2_number))) rfl
theorem k_L_37 : Cond.methodLink RL 37 yX9_packet ∈ AW := AW_in (lw_at 972 (by decide +kernel : tables_1[972]? = some (Cond.methodLink RL 37 yX9_packet))) rfl
theorem k_L_41 : Cond.methodLink RL 41 yX9_promise ∈ AW := AW_in (lw_at 979 (by decide +kernel : tables_1[979]? = some (Cond.methodLink RL 41 yX9_promise))) rfl
theorem k_L_44 : Cond.methodLink RL 44 yX9_owed ∈ AW := AW_in (lw_at 986 (by decide +kernel : tables_1[986]? = some (Cond.methodLink RL 44 yX9_owed))) rfl
theorem k_X9_187 : Cond.methodLink RX9 187 yX3_cellsBetween ∈ AW := AW_in (lw_at 990 (by decide +kernel : tables_1[990]? = some (Cond.methodLink RX9 187 yX3_cellsBetween))) rfl
theorem k_L_47 : Cond.methodLink RL 47 yX9_drop ∈ AW := AW_in (lw_at 994 (by decide +kernel : tables_1[994]? = some (Cond.methodLink RL 47 yX9_drop))) rfl
theorem k_X9_190 : Cond.methodLink RX9 190 yX1_number ∈ AW := AW_in (lw_at 998 (by decide +kernel : tables_1[998]? = some (Cond.methodLink RX9 190 yX1_number))) rfl
theorem k_L_50 : Cond.methodLink RL 50 yX9_dropsBy ∈ AW := AW_in (lw_at 1005 (by decide +kernel : tables_1[1005]? = some (Cond.methodLink RL 50 yX9_dropsBy))) rfl
theorem k_L_53 : Cond.methodLink RL 53 yX9_wouldBorrow ∈ AW := AW_in (lw_at 1012 (by decide +kernel : tables_1[1012]? = some (Cond.methodLink RL 53 yX9_wouldBorrow))) rfl
theorem k_X9_197 : Cond.methodLink RX9 197 yX6_wayOf ∈ AW := AW_in (lw_at 1016 (by decide +kernel : tables_1[1016]? = some (Cond.methodLink RX9 197 yX6_wayOf))) rfl
theorem k_X9_200 : Cond.methodLink RX9 200 yX6_missing ∈ AW := AW_in (lw_at 1017 (by decide +kernel : tables_1[1017]? = some (Cond.methodLink RX9 200 yX6_missing))) rfl
theorem k_L_56 : Cond.methodLink RL 56 yX9_wouldCall ∈ AW := AW_in (lw_at 1021 (by decide +kernel : tables_1[1021]? = some (Cond.methodLink RL 56 yX9_wouldCall))) rfl
theorem k_L_59 : Cond.methodLink RL 59 yX9_wouldDrop ∈ AW := AW_in (lw_at 1028 (by decide +kernel : tables_1[1028]? = some (Cond.methodLink RL 59 yX9_wouldDrop))) rfl
theorem k_L_62 : Cond.methodLink RL 62 yX9_greatest ∈ AW := AW_in (lw_at 1035 (by decide +kernel : tables_1[1035]? = some (Cond.methodLink RL 62 yX9_greatest))) rfl
theorem k_X9_211 : Cond.methodLink RX9 211 yX2_free ∈ AW := AW_in (lw_at 1039 (by decide +kernel : tables_1[1039]? = some (Cond.methodLink RX9 211 yX2_free))) rfl
theorem k_X9_215 : Cond.methodLink RX9 215 yX6_lendableTo ∈ AW := AW_in (lw_at 1040 (by decide +kernel : tables_1[1040]? = some (Cond.methodLink RX9 215 yX6_lendableTo))) rfl
theorem k_X9_218 : Cond.methodLink RX9 218 Lib.Math.max.name ∈ AW := AW_in (lw_at 1041 (by decide +kernel : tables_1[1041]? = some (Cond.methodLink RX9 218 Lib.Math.max.name))) rfl
theorem k_X9_223 : Cond.methodLink RX9 223 Lib.Math.min.name ∈ AW := AW_in (lw_at 1042 (by decide +kernel : tables_1[1042]? = some (Cond.methodLink RX9 223 Lib.Math.min.name))) rfl
theorem k_L_65 : Cond.methodLink RL 65 yX9_dropsIn ∈ AW := AW_in (lw_at 1046 (by decide +kernel : tables_1[1046]? = some (Cond.methodLink RL 65 yX9_dropsIn))) rfl
theorem k_L_68 : Cond.methodLink RL 68 yX9_sentIn ∈ AW := AW_in (lw_at 1053 (by decide +kernel : tables_1[1053]? = some (Cond.methodLink RL 68 yX9_sentIn))) rfl
theorem k_X9_232 : Cond.methodLink RX9 232 yX2_cellsUpTo ∈ AW := AW_in (lw_at 1057 (by decide +kernel : tables_1[1057]? = some (Cond.methodLink RX9 232 yX2_cellsUpTo))) rfl
theorem k_L_71 : Cond.methodLink RL 71 yX9_arrive ∈ AW := AW_in (lw_at 1064 (by decide +kernel : tables_1[1064]? = some (Cond.methodLink RL 71 yX9_arrive))) rfl
theorem k_L_74 : Cond.methodLink RL 74 yX9_tick ∈ AW := AW_in (lw_at 1071 (by decide +kernel : tables_1[1071]? = some (Cond.methodLink RL 74 yX9_tick))) rfl
theorem k_L_77 : Cond.methodLink RL 77 yX9_giveBack ∈ AW := AW_in (lw_at 1078 (by decide +kernel : tables_1[1078]? = some (Cond.methodLink RL 77 yX9_giveBack))) rfl
theorem k_L_80 : Cond.methodLink RL 80 yX9_extend ∈ AW := AW_in (lw_at 1086 (by decide +kernel : tables_1[1086]? = some (Cond.methodLink RL 80 yX9_extend))) rfl
theorem k_L_83 : Cond.methodLink RL 83 yX9_setTerm ∈ AW := AW_in (lw_at 1094 (by decide +kernel : tables_1[1094]? = some (Cond.methodLink RL 83 yX9_setTerm))) rfl
theorem k_L_86 : Cond.methodLink RL 86 yX9_setKeep ∈ AW := AW_in (lw_at 1101 (by decide +kernel : tables_1[1101]? = some (Cond.methodLink RL 86 yX9_setKeep))) rfl
theorem k_L_89 : Cond.methodLink RL 89 yX9_reportByte ∈ AW := AW_in (lw_at 1108 (by decide +kernel : tables_1[1108]? = some (Cond.methodLink RL 89 yX9_reportByte))) rfl
theorem k_L_92 : Cond.methodLink RL 92 yX9_restore ∈ AW := AW_in (lw_at 1115 (by decide +kernel : tables_1[1115]? = some (Cond.methodLink RL 92 yX9_restore))) rfl
theorem k_L_105 : Cond.methodLink RL 105 yX10_thrown ∈ AW := AW_in (lw_at 1120 (by decide +kernel : tables_1[1120]? = some (Cond.methodLink RL 105 yX10_thrown))) rfl
theorem k_L_98 : Cond.methodLink RL 98 yX10_init ∈ AW := AW_in (lw_at 1126 (by decide +kernel : tables_1[1126]? = some (Cond.methodLink RL 98 yX10_init))) rfl
theorem k_X10_36 : Cond.methodLink RX10 36 yX10_clears ∈ AW := AW_in (lw_at 1130 (by decide +kernel : tables_1[1130]? = some (Cond.methodLink RX10 36 yX10_clears))) rfl
theorem k_X10_46 : Cond.methodLink RX10 46 yX10_set ∈ AW := AW_in (lw_at 1134 (by decide +kernel : tables_1[1134]? = some (Cond.methodLink RX10 46 yX10_set))) rfl
theorem k_X10_53 : Cond.methodLink RX10 53 yX10_setName ∈ AW := AW_in (lw_at 1138 (by decide +kernel : tables_1[1138]? = some (Cond.methodLink RX10 53 yX10_setName))) rfl
theorem k_L_104 : Cond.methodLink RL 104 yX10_feed ∈ AW := AW_in (lw_at 1222 (by decide +kernel : tables_1[1222]? = some (Cond.methodLink RL 104 yX10_feed))) rfl
theorem k_X10_60 : Cond.methodLink RX10 60 yX10_good ∈ AW := AW_in (lw_at 1226 (by decide +kernel : tables_1[1226]? = some (Cond.methodLink RX10 60 yX10_good))) rfl
theorem k_X10_64 : Cond.methodLink RX10 64 yX10_four ∈ AW := AW_in (lw_at 1230 (by decide +kernel : tables_1[1230]? = some (Cond.methodLink RX10 64 yX10_four))) rfl
theorem k_L_111 : Cond.methodLink RL 111 yX10_truncate ∈ AW := AW_in (lw_at 1234 (by decide +kernel : tables_1[1234]? = some (Cond.methodLink RL 111 yX10_truncate))) rfl
theorem k_X10_68 : Cond.methodLink RX10 68 yX10_in ∈ AW := AW_in (lw_at 1238 (by decide +kernel : tables_1[1238]? = some (Cond.methodLink RX10 68 yX10_in))) rfl
theorem k_L_115 : Cond.methodLink RL 115 yX10_readText ∈ AW := AW_in (lw_at 1241 (by decide +kernel : tables_1[1241]? = some (Cond.methodLink RL 115 yX10_readText))) rfl
theorem k_X10_159 : Cond.methodLink RX10 159 yX10_starts ∈ AW := AW_in (lw_at 1245 (by decide +kernel : tables_1[1245]? = some (Cond.methodLink RX10 159 yX10_starts))) rfl
theorem k_X10_118 : Cond.methodLink RX10 118 yX10_scans ∈ AW := AW_in (lw_at 1249 (by decide +kernel : tables_1[1249]? = some (Cond.methodLink RX10 118 yX10_scans))) rfl
theorem k_X10_88 : Cond.methodLink RX10 88 yX10_byteAt ∈ AW := AW_in (lw_at 1253 (by decide +kernel : tables_1[1253]? = some (Cond.methodLink RX10 88 yX10_byteAt))) rfl
theorem k_X10_75 : Cond.methodLink RX10 75 yX10_isGood ∈ AW := AW_in (lw_at 1263 (by decide +kernel : tables_1[1263]? = some (Cond.methodLink RX10 75 yX10_isGood))) rfl
theorem k_X10_162 : Cond.methodLink RX10 162 yX10_readsStatement ∈ AW := AW_in (lw_at 1267 (by decide +kernel : tables_1[1267]? = some (Cond.methodLink RX10 162 yX10_readsStatement))) rfl
theorem k_X10_135 : Cond.methodLink RX10 135 yX10_isWord ∈ AW := AW_in (lw_at 1272 (by decide +kernel : tables_1[1272]? = some (Cond.methodLink RX10 135 yX10_isWord))) rfl
theorem k_X10_145 : Cond.methodLink RX10 145 yX10_readsPort ∈ AW := AW_in (lw_at 1276 (by decide +kernel : tables_1[1276]? = some (Cond.methodLink RX10 145 yX10_readsPort))) rfl
theorem k_X10_42 : Cond.methodLink RX10 42 yX10_of ∈ AW := AW_in (lw_at 1280 (by decide +kernel : tables_1[1280]? = some (Cond.methodLink RX10 42 yX10_of))) rfl
theorem k_X10_114 : Cond.methodLink RX10 114 yX10_must ∈ AW := AW_in (lw_at 1284 (by decide +kernel : tables_1[1284]? = some (Cond.methodLink RX10 114 yX10_must))) rfl
theorem k_X10_125 : Cond.methodLink RX10 125 yX10_named ∈ AW := AW_in (lw_at 1288 (by decide +kernel : tables_1[1288]? = some (Cond.methodLink RX10 125 yX10_named))) rfl
theorem k_X10_121 : Cond.methodLink RX10 121 yX10_name ∈ AW := AW_in (lw_at 1292 (by decide +kernel : tables_1[1292]? = some (Cond.methodLink RX10 121 yX10_name))) rfl
theorem k_X10_129 : Cond.methodLink RX10 129 yX10_reads ∈ AW := AW_in (lw_at 1296 (by decide +kernel : tables_1[1296]? = some (Cond.methodLink RX10 129 yX10_reads))) rfl
theorem k_X10_139 : Cond.methodLink RX10 139 yX10_setP ∈ AW := AW_in (lw_at 1301 (by decide +kernel : tables_1[1301]? = some (Cond.methodLink RX10 139 yX10_setP))) rfl
theorem k_X10_165 : Cond.methodLink RX10 165 yX10_sign ∈ AW := AW_in (lw_at 1307 (by decide +kernel : tables_1[1307]? = some (Cond.methodLink RX10 165 yX10_sign))) rfl
theorem k_X10_110 : Cond.methodLink RX10 110 yX10_isSign ∈ AW := AW_in (lw_at 1311 (by decide +kernel : tables_1[1311]? = some (Cond.methodLink RX10 110 yX10_isSign))) rfl
theorem k_X10_168 : Cond.methodLink RX10 168 yX10_copies ∈ AW := AW_in (lw_at 1315 (by decide +kernel : tables_1[1315]? = some (Cond.methodLink RX10 168 yX10_copies))) rfl
theorem k_L_122 : Cond.methodLink RL 122 yX10_errorCode ∈ AW := AW_in (lw_at 1319 (by decide +kernel : tables_1[1319]? = some (Cond.methodLink RL 122 yX10_errorCode))) rfl
theorem k_L_126 : Cond.methodLink RL 126 yX10_errorPosition ∈ AW := AW_in (lw_at 1323 (by decide +kernel : tables_1[1323]? = some (Cond.methodLink RL 126 yX10_errorPosition))) rfl
theorem k_L_207 : Cond.methodLink RL 207 yX10_undo ∈ AW := AW_in (lw_at 1327 (by decide +kernel : tables_1[1327]? = some (Cond.methodLink RL 207 yX10_undo))) rfl
theorem k_L_129 : Cond.methodLink RL 129 yX10_setting ∈ AW := AW_in (lw_at 1331 (by decide +kernel : tables_1[1331]? = some (Cond.methodLink RL 129 yX10_setting))) rfl
theorem k_X10_271 : Cond.methodLink RX10 271 yX10_sumOf ∈ AW := AW_in (lw_at 1336 (by decide +kernel : tables_1[1336]? = some (Cond.methodLink RX10 271 yX10_sumOf))) rfl
theorem k_X10_183 : Cond.methodLink RX10 183 yX10_p ∈ AW := AW_in (lw_at 1340 (by decide +kernel : tables_1[1340]? = some (Cond.methodLink RX10 183 yX10_p))) rfl
theorem k_X10_195 : Cond.methodLink RX10 195 yX10_usedBy ∈ AW := AW_in (lw_at 1344 (by decide +kernel : tables_1[1344]? = some (Cond.methodLink RX10 195 yX10_usedBy))) rfl
theorem k_X10_177 : Cond.methodLink RX10 177 yX10_k ∈ AW := AW_in (lw_at 1348 (by decide +kernel : tables_1[1348]? = some (Cond.methodLink RX10 177 yX10_k))) rfl
theorem k_X10_186 : Cond.methodLink RX10 186 yX10_lentBy ∈ AW := AW_in (lw_at 1352 (by decide +kernel : tables_1[1352]? = some (Cond.methodLink RX10 186 yX10_lentBy))) rfl
theorem k_X10_180 : Cond.methodLink RX10 180 yX10_m ∈ AW := AW_in (lw_at 1356 (by decide +kernel : tables_1[1356]? = some (Cond.methodLink RX10 180 yX10_m))) rfl
theorem k_X10_234 : Cond.methodLink RX10 234 yX10_freeOf ∈ AW := AW_in (lw_at 1360 (by decide +kernel : tables_1[1360]? = some (Cond.methodLink RX10 234 yX10_freeOf))) rfl
theorem k_X10_192 : Cond.methodLink RX10 192 yX10_roomOf ∈ AW := AW_in (lw_at 1364 (by decide +kernel : tables_1[1364]? = some (Cond.methodLink RX10 192 yX10_roomOf))) rfl
theorem k_X10_189 : Cond.methodLink RX10 189 yX10_borrowedBy ∈ AW := AW_in (lw_at 1368 (by decide +kernel : tables_1[1368]? = some (Cond.methodLink RX10 189 yX10_borrowedBy))) rfl
theorem k_L_133 : Cond.methodLink RL 133 yX10_port ∈ AW := AW_in (lw_at 1372 (by decide +kernel : tables_1[1372]? = some (Cond.methodLink RL 133 yX10_port))) rfl
theorem k_X10_274 : Cond.methodLink RX10 274 yX10_isPort ∈ AW := AW_in (lw_at 1376 (by decide +kernel : tables_1[1376]? = some (Cond.methodLink RX10 274 yX10_isPort))) rfl
theorem k_X10_279 : Cond.methodLink RX10 279 yX10_allGood ∈ AW := AW_in (lw_at 1381 (by decide +kernel : tables_1[1381]? = some (Cond.methodLink RX10 279 yX10_allGood))) rfl
theorem k_X10_204 : Cond.methodLink RX10 204 yX10_canLend ∈ AW := AW_in (lw_at 1385 (by decide +kernel : tables_1[1385]? = some (Cond.methodLink RX10 204 yX10_canLend))) rfl
theorem k_X10_201 : Cond.methodLink RX10 201 yX10_spareOf ∈ AW := AW_in (lw_at 1389 (by decide +kernel : tables_1[1389]? = some (Cond.methodLink RX10 201 yX10_spareOf))) rfl
theorem k_X10_198 : Cond.methodLink RX10 198 yX10_keptBack ∈ AW := AW_in (lw_at 1393 (by decide +kernel : tables_1[1393]? = some (Cond.methodLink RX10 198 yX10_keptBack))) rfl
theorem k_X10_283 : Cond.methodLink RX10 283 yX10_portMore ∈ AW := AW_in (lw_at 1397 (by decide +kernel : tables_1[1397]? = some (Cond.methodLink RX10 283 yX10_portMore))) rfl
theorem k_X10_286 : Cond.methodLink RX10 286 yX10_waiting ∈ AW := AW_in (lw_at 1401 (by decide +kernel : tables_1[1401]? = some (Cond.methodLink RX10 286 yX10_waiting))) rfl
theorem k_L_137 : Cond.methodLink RL 137 yX10_packet ∈ AW := AW_in (lw_at 1405 (by decide +kernel : tables_1[1405]? = some (Cond.methodLink RL 137 yX10_packet))) rfl
theorem k_X10_289 : Cond.methodLink RX10 289 yX10_packetOf ∈ AW := AW_in (lw_at 1409 (by decide +kernel : tables_1[1409]? = some (Cond.methodLink RX10 289 yX10_packetOf))) rfl
theorem k_L_140 : Cond.methodLink RL 140 yX10_promise ∈ AW := AW_in (lw_at 1414 (by decide +kernel : tables_1[1414]? = some (Cond.methodLink RL 140 yX10_promise))) rfl
theorem k_X10_294 : Cond.methodLink RX10 294 yX10_isPromise ∈ AW := AW_in (lw_at 1418 (by decide +kernel : tables_1[1418]? = some (Cond.methodLink RX10 294 yX10_isPromise))) rfl
theorem k_L_143 : Cond.methodLink RL 143 yX10_owed ∈ AW := AW_in (lw_at 1423 (by decide +kernel : tables_1[1423]? = some (Cond.methodLink RL 143 yX10_owed))) rfl
theorem k_X10_264 : Cond.methodLink RX10 264 yX10_owedTo ∈ AW := AW_in (lw_at 1427 (by decide +kernel : tables_1[1427]? = some (Cond.methodLink RX10 264 yX10_owedTo))) rfl
theorem k_L_146 : Cond.methodLink RL 146 yX10_drop ∈ AW := AW_in (lw_at 1431 (by decide +kernel : tables_1[1431]? = some (Cond.methodLink RL 146 yX10_drop))) rfl
theorem k_L_149 : Cond.methodLink RL 149 yX10_dropsBy ∈ AW := AW_in (lw_at 1436 (by decide +kernel : tables_1[1436]? = some (Cond.methodLink RL 149 yX10_dropsBy))) rfl
theorem k_L_153 : Cond.methodLink RL 153 yX10_mostCharged ∈ AW := AW_in (lw_at 1440 (by decide +kernel : tables_1[1440]? = some (Cond.methodLink RL 153 yX10_mostCharged))) rfl
theorem k_L_158 : Cond.methodLink RL 158 yX10_lossShare ∈ AW := AW_in (lw_at 1444 (by decide +kernel : tables_1[1444]? = some (Cond.methodLink RL 158 yX10_lossShare))) rfl
theorem k_L_163 : Cond.methodLink RL 163 yX10_meanForecast ∈ AW := AW_in (lw_at 1448 (by decide +kernel : tables_1[1448]? = some (Cond.methodLink RL 163 yX10_meanForecast))) rfl
theorem k_L_166 : Cond.methodLink RL 166 yX10_wouldBorrow ∈ AW := AW_in (lw_at 1452 (by decide +kernel : tables_1[1452]? = some (Cond.methodLink RL 166 yX10_wouldBorrow))) rfl
theorem k_X10_301 : Cond.methodLink RX10 301 yX10_isCells ∈ AW := AW_in (lw_at 1456 (by decide +kernel : tables_1[1456]? = some (Cond.methodLink RX10 301 yX10_isCells))) rfl
theorem k_X10_240 : Cond.methodLink RX10 240 yX10_wayIn ∈ AW := AW_in (lw_at 1460 (by decide +kernel : tables_1[1460]? = some (Cond.methodLink RX10 240 yX10_wayIn))) rfl
theorem k_X10_237 : Cond.methodLink RX10 237 yX10_othersCanLend ∈ AW := AW_in (lw_at 1464 (by decide +kernel : tables_1[1464]? = some (Cond.methodLink RX10 237 yX10_othersCanLend))) rfl
theorem k_L_169 : Cond.methodLink RL 169 yX10_wouldCall ∈ AW := AW_in (lw_at 1468 (by decide +kernel : tables_1[1468]? = some (Cond.methodLink RL 169 yX10_wouldCall))) rfl
theorem k_L_172 : Cond.methodLink RL 172 yX10_wouldDrop ∈ AW := AW_in (lw_at 1472 (by decide +kernel : tables_1[1472]? = some (Cond.methodLink RL 172 yX10_wouldDrop))) rfl
theorem k_X10_304 : Cond.methodLink RX10 304 yX10_remembers ∈ AW := AW_in (lw_at 1476 (by decide +kernel : tables_1[1476]? = some (Cond.methodLink RX10 304 yX10_remembers))) rfl
theorem k_X10_307 : Cond.methodLink RX10 307 yX10_arrives ∈ AW := AW_in (lw_at 1480 (by decide +kernel : tables_1[1480]? = some (Cond.methodLink RX10 307 yX10_arrives))) rfl
theorem k_X10_50 : Cond.methodLink RX10 50 yX10_grows ∈ AW := AW_in (lw_at 1484 (by decide +kernel : tables_1[1484]? = some (Cond.methodLink RX10 50 yX10_grows))) rfl
theorem k_X10_207 : Cond.methodLink RX10 207 yX10_growsP ∈ AW := AW_in (lw_at 1488 (by decide +kernel : tables_1[1488]? = some (Cond.methodLink RX10 207 yX10_growsP))) rfl
theorem k_X10_216 : Cond.methodLink RX10 216 yX10_notes ∈ AW := AW_in (lw_at 1492 (by decide +kernel : tables_1[1492]? = some (Cond.methodLink RX10 216 yX10_notes))) rfl
theorem k_X10_243 : Cond.methodLink RX10 243 yX10_calls ∈ AW := AW_in (lw_at 1496 (by decide +kernel : tables_1[1496]? = some (Cond.methodLink RX10 243 yX10_calls))) rfl
theorem k_X10_223 : Cond.methodLink RX10 223 yX10_lessens ∈ AW := AW_in (lw_at 1500 (by decide +kernel : tables_1[1500]? = some (Cond.methodLink RX10 223 yX10_lessens))) rfl
theorem k_X10_220 : Cond.methodLink RX10 220 yX10_removesPromise ∈ AW := AW_in (lw_at 1504 (by decide +kernel : tables_1[1504]? = some (Cond.methodLink RX10 220 yX10_removesPromise))) rfl
theorem k_X10_227 : Cond.methodLink RX10 227 yX10_shrinks ∈ AW := AW_in (lw_at 1508 (by decide +kernel : tables_1[1508]? = some (Cond.methodLink RX10 227 yX10_shrinks))) rfl
theorem k_X10_210 : Cond.methodLink RX10 210 yX10_newest ∈ AW := AW_in (lw_at 1512 (by decide +kernel : tables_1[1512]? = some (Cond.methodLink RX10 210 yX10_newest))) rfl
theorem k_X10_213 : Cond.methodLink RX10 213 yX10_removesPacket ∈ AW := AW_in (lw_at 1516 (by decide +kernel : tables_1[1516]? = some (Cond.methodLink RX10 213 yX10_removesPacket))) rfl
theorem k_X10_246 : Cond.methodLink RX10 246 yX10_borrows ∈ AW := AW_in (lw_at 1520 (by decide +kernel : tables_1[1520]? = some (Cond.methodLink RX10 246 yX10_borrows))) rfl
theorem k_X10_230 : Cond.methodLink RX10 230 yX10_promises ∈ AW := AW_in (lw_at 1524 (by decide +kernel : tables_1[1524]? = some (Cond.methodLink RX10 230 yX10_promises))) rfl
theorem k_X10_249 : Cond.methodLink RX10 249 yX10_takes ∈ AW := AW_in (lw_at 1528 (by decide +kernel : tables_1[1528]? = some (Cond.methodLink RX10 249 yX10_takes))) rfl
theorem k_L_175 : Cond.methodLink RL 175 yX10_greatest ∈ AW := AW_in (lw_at 1532 (by decide +kernel : tables_1[1532]? = some (Cond.methodLink RL 175 yX10_greatest))) rfl
theorem k_L_178 : Cond.methodLink RL 178 yX10_dropsIn ∈ AW := AW_in (lw_at 1536 (by decide +kernel : tables_1[1536]? = some (Cond.methodLink RL 178 yX10_dropsIn))) rfl
theorem k_X10_261 : Cond.methodLink RX10 261 yX10_ticksOne ∈ AW := AW_in (lw_at 1541 (by decide +kernel : tables_1[1541]? = some (Cond.methodLink RX10 261 yX10_ticksOne))) rfl
theorem k_X10_252 : Cond.methodLink RX10 252 yX10_fallsDue ∈ AW := AW_in (lw_at 1545 (by decide +kernel : tables_1[1545]? = some (Cond.methodLink RX10 252 yX10_fallsDue))) rfl
theorem k_X10_255 : Cond.methodLink RX10 255 yX10_sends ∈ AW := AW_in (lw_at 1549 (by decide +kernel : tables_1[1549]? = some (Cond.methodLink RX10 255 yX10_sends))) rfl
theorem k_X10_258 : Cond.methodLink RX10 258 yX10_forecasts ∈ AW := AW_in (lw_at 1553 (by decide +kernel : tables_1[1553]? = some (Cond.methodLink RX10 258 yX10_forecasts))) rfl
theorem k_L_182 : Cond.methodLink RL 182 yX10_emptyIn ∈ AW := AW_in (lw_at 1557 (by decide +kernel : tables_1[1557]? = some (Cond.methodLink RL 182 yX10_emptyIn))) rfl
theorem k_L_185 : Cond.methodLink RL 185 yX10_sentIn ∈ AW := AW_in (lw_at 1561 (by decide +kernel : tables_1[1561]? = some (Cond.methodLink RL 185 yX10_sentIn))) rfl
theorem k_X10_312 : Cond.methodLink RX10 312 yX10_thenSent ∈ AW := AW_in (lw_at 1565 (by decide +kernel : tables_1[1565]? = some (Cond.methodLink RX10 312 yX10_thenSent))) rfl
theorem k_L_188 : Cond.methodLink RL 188 yX10_arrive ∈ AW := AW_in (lw_at 1569 (by decide +kernel : tables_1[1569]? = some (Cond.methodLink RL 188 yX10_arrive))) rfl
theorem k_X10_315 : Cond.methodLink RX10 315 yX10_kept ∈ AW := AW_in (lw_at 1573 (by decide +kernel : tables_1[1573]? = some (Cond.methodLink RX10 315 yX10_kept))) rfl
theorem k_X10_174 : Cond.methodLink RX10 174 yX10_keeps ∈ AW := AW_in (lw_at 1577 (by decide +kernel : tables_1[1577]? = some (Cond.methodLink RX10 174 yX10_keeps))) rfl
theorem k_L_191 : Cond.methodLink RL 191 yX10_tick ∈ AW := AW_in (lw_at 1581 (by decide +kernel : tables_1[1581]? = some (Cond.methodLink RL 191 yX10_tick))) rfl
theorem k_X10_320 : Cond.methodLink RX10 320 yX10_isTicks ∈ AW := AW_in (lw_at 1585 (by decide +kernel : tables_1[1585]? = some (Cond.methodLink RX10 320 yX10_isTicks))) rfl
theorem k_X10_323 : Cond.methodLink RX10 323 yX10_ticksAll ∈ AW := AW_in (lw_at 1589 (by decide +kernel : tables_1[1589]? = some (Cond.methodLink RX10 323 yX10_ticksAll))) rfl
theorem k_L_194 : Cond.methodLink RL 194 yX10_giveBack ∈ AW := AW_in (lw_at 1593 (by decide +kernel : tables_1[1593]? = some (Cond.methodLink RL 194 yX10_giveBack))) rfl
theorem k_X10_326 : Cond.methodLink RX10 326 yX10_canGive ∈ AW := AW_in (lw_at 1597 (by decide +kernel : tables_1[1597]? = some (Cond.methodLink RX10 326 yX10_canGive))) rfl
theorem k_X10_330 : Cond.methodLink RX10 330 yX10_gives ∈ AW := AW_in (lw_at 1601 (by decide +kernel : tables_1[1601]? = some (Cond.methodLink RX10 330 yX10_gives))) rfl
theorem k_L_197 : Cond.methodLink RL 197 yX10_extend ∈ AW := AW_in (lw_at 1605 (by decide +kernel : tables_1[1605]? = some (Cond.methodLink RL 197 yX10_extend))) rfl
theorem k_X10_334 : Cond.methodLink RX10 334 yX10_canExtend ∈ AW := AW_in (lw_at 1609 (by decide +kernel : tables_1[1609]? = some (Cond.methodLink RX10 334 yX10_canExtend))) rfl
theorem k_X10_337 : Cond.methodLink RX10 337 yX10_extends1 ∈ AW := AW_in (lw_at 1613 (by decide +kernel : tables_1[1613]? = some (Cond.methodLink RX10 337 yX10_extends1))) rfl
theorem k_L_200 : Cond.methodLink RL 200 yX10_setTerm ∈ AW := AW_in (lw_at 1617 (by decide +kernel : tables_1[1617]? = some (Cond.methodLink RL 200 yX10_setTerm))) rfl
theorem k_X10_340 : Cond.methodLink RX10 340 yX10_sets ∈ AW := AW_in (lw_at 1621 (by decide +kernel : tables_1[1621]? = some (Cond.methodLink RX10 340 yX10_sets))) rfl
theorem k_L_203 : Cond.methodLink RL 203 yX10_setKeep ∈ AW := AW_in (lw_at 1625 (by decide +kernel : tables_1[1625]? = some (Cond.methodLink RL 203 yX10_setKeep))) rfl
theorem k_X10_343 : Cond.methodLink RX10 343 yX10_isKeep ∈ AW := AW_in (lw_at 1629 (by decide +kernel : tables_1[1629]? = some (Cond.methodLink RX10 343 yX10_isKeep))) rfl
theorem k_L_118 : Cond.methodLink RL 118 yX10_runScript ∈ AW := AW_in (lw_at 1632 (by decide +kernel : tables_1[1632]? = some (Cond.methodLink RL 118 yX10_runScript))) rfl
theorem k_X10_402 : Cond.methodLink RX10 402 yX10_goes ∈ AW := AW_in (lw_at 1636 (by decide +kernel : tables_1[1636]? = some (Cond.methodLink RX10 402 yX10_goes))) rfl
theorem k_X10_396 : Cond.methodLink RX10 396 yX10_closesRepeat ∈ AW := AW_in (lw_at 1640 (by decide +kernel : tables_1[1640]? = some (Cond.methodLink RX10 396 yX10_closesRepeat))) rfl
theorem k_X10_399 : Cond.methodLink RX10 399 yX10_readsCommand ∈ AW := AW_in (lw_at 1644 (by decide +kernel : tables_1[1644]? = some (Cond.methodLink RX10 399 yX10_readsCommand))) rfl
theorem k_X10_384 : Cond.methodLink RX10 384 yX10_opensRepeat ∈ AW := AW_in (lw_at 1653 (by decide +kernel : tables_1[1653]? = some (Cond.methodLink RX10 384 yX10_opensRepeat))) rfl
theorem k_X10_387 : Cond.methodLink RX10 387 yX10_readsArrive ∈ AW := AW_in (lw_at 1657 (by decide +kernel : tables_1[1657]? = some (Cond.methodLink RX10 387 yX10_readsArrive))) rfl
theorem k_X10_355 : Cond.methodLink RX10 355 yX10_readsName ∈ AW := AW_in (lw_at 1661 (by decide +kernel : tables_1[1661]? = some (Cond.methodLink RX10 355 yX10_readsName))) rfl
theorem k_X10_358 : Cond.methodLink RX10 358 yX10_readsAny ∈ AW := AW_in (lw_at 1665 (by decide +kernel : tables_1[1665]? = some (Cond.methodLink RX10 358 yX10_readsAny))) rfl
theorem k_X10_361 : Cond.methodLink RX10 361 yX10_isDoing ∈ AW := AW_in (lw_at 1669 (by decide +kernel : tables_1[1669]? = some (Cond.methodLink RX10 361 yX10_isDoing))) rfl
theorem k_X10_364 : Cond.methodLink RX10 364 yX10_counts ∈ AW := AW_in (lw_at 1673 (by decide +kernel : tables_1[1673]? = some (Cond.methodLink RX10 364 yX10_counts))) rfl
theorem k_X10_390 : Cond.methodLink RX10 390 yX10_readsBack ∈ AW := AW_in (lw_at 1677 (by decide +kernel : tables_1[1677]? = some (Cond.methodLink RX10 390 yX10_readsBack))) rfl
theorem k_X10_393 : Cond.methodLink RX10 393 yX10_readsNumber ∈ AW := AW_in (lw_at 1681 (by decide +kernel : tables_1[1681]? = some (Cond.methodLink RX10 393 yX10_readsNumber))) rfl
theorem k_L_211 : Cond.methodLink RL 211 yX10_report ∈ AW := AW_in (lw_at 1685 (by decide +kernel : tables_1[1685]? = some (Cond.methodLink RL 211 yX10_report))) rfl
theorem k_X10_413 : Cond.methodLink RX10 413 yX10_writesName ∈ AW := AW_in (lw_at 1689 (by decide +kernel : tables_1[1689]? = some (Cond.methodLink RX10 413 yX10_writesName))) rfl
theorem k_X10_408 : Cond.methodLink RX10 408 yX10_writes ∈ AW := AW_in (lw_at 1694 (by decide +kernel : tables_1[1694]? = some (Cond.methodLink RX10 408 yX10_writes))) rfl
theorem k_X10_417 : Cond.methodLink RX10 417 yX10_writesNumber ∈ AW := AW_in (lw_at 1698 (by decide +kernel : tables_1[1698]? = some (Cond.methodLink RX10 417 yX10_writesNumber))) rfl
theorem k_L_214 : Cond.methodLink RL 214 yX10_reportByte ∈ AW := AW_in (lw_at 1702 (by decide +kernel : tables_1[1702]? = some (Cond.methodLink RL 214 yX10_reportByte))) rfl
theorem k_L_218 : Cond.methodLink RL 218 yX10_save ∈ AW := AW_in (lw_at 1706 (by decide +kernel : tables_1[1706]? = some (Cond.methodLink RL 218 yX10_save))) rfl
theorem k_L_221 : Cond.methodLink RL 221 yX10_restore ∈ AW := AW_in (lw_at 1710 (by decide +kernel : tables_1[1710]? = some (Cond.methodLink RL 221 yX10_restore))) rfl
theorem l_X2_73 : Cond.constantLong RX2 73 (1600) ∈ AW := AW_in (lw_at 418 (by decide +kernel : tables_1[418]? = some (Cond.constantLong RX2 73 (1600)))) rfl
theorem l_X4_71 : Cond.constantLong RX4 71 (255) ∈ AW := AW_in (lw_at 507 (by decide +kernel : tables_1[507]? = some (Cond.constantLong RX4 71 (255)))) rfl
theorem l_X10_91 : Cond.constantLong RX10 91 (97) ∈ AW := AW_in (lw_at 1257 (by decide +kernel : tables_1[1257]? = some (Cond.constantLong RX10 91 (97)))) rfl
theorem l_X10_93 : Cond.constantLong RX10 93 (122) ∈ AW := AW_in (lw_at 1258 (by decide +kernel : tables_1[1258]? = some (Cond.constantLong RX10 93 (122)))) rfl
theorem l_X10_99 : Cond.constantLong RX10 99 (32) ∈ AW := AW_in (lw_at 1259 (by decide +kernel : tables_1[1259]? = some (Cond.constantLong RX10 99 (32)))) rfl
theorem l_X10_101 : Cond.constantLong RX10 101 (96) ∈ AW := AW_in (lw_at 1260 (by decide +kernel : tables_1[1260]? = some (Cond.constantLong RX10 101 (96)))) rfl
theorem l_X10_103 : Cond.constantLong RX10 103 (48) ∈ AW := AW_in (lw_at 1261 (by decide +kernel : tables_1[1261]? = some (Cond.constantLong RX10 103 (48)))) rfl
theorem l_X10_105 : Cond.constantLong RX10 105 (57) ∈ AW := AW_in (lw_at 1262 (by decide +kernel : tables_1[1262]? = some (Cond.constantLong RX10 105 (57)))) rfl
theorem l_X10_143 : Cond.constantLong RX10 143 (540244) ∈ AW := AW_in (lw_at 1271 (by decide +kernel : tables_1[1271]? = some (Cond.constantLong RX10 143 (540244)))) rfl
theorem l_X10_133 : Cond.constantLong RX10 133 (6605428) ∈ AW := AW_in (lw_at 1300 (by decide +kernel : tables_1[1300]? = some (Cond.constantLong RX10 133 (6605428)))) rfl
theorem l_X10_148 : Cond.constantLong RX10 148 (661069) ∈ AW := AW_in (lw_at 1305 (by decide +kernel : tables_1[1305]? = some (Cond.constantLong RX10 148 (661069)))) rfl
theorem l_X10_154 : Cond.constantLong RX10 154 (365744) ∈ AW := AW_in (lw_at 1306 (by decide +kernel : tables_1[1306]? = some (Cond.constantLong RX10 154 (365744)))) rfl
theorem l_X10_269 : Cond.constantLong RX10 269 (11) ∈ AW := AW_in (lw_at 1335 (by decide +kernel : tables_1[1335]? = some (Cond.constantLong RX10 269 (11)))) rfl
theorem l_X10_277 : Cond.constantLong RX10 277 (12) ∈ AW := AW_in (lw_at 1380 (by decide +kernel : tables_1[1380]? = some (Cond.constantLong RX10 277 (12)))) rfl
theorem l_X10_292 : Cond.constantLong RX10 292 (2) ∈ AW := AW_in (lw_at 1413 (by decide +kernel : tables_1[1413]? = some (Cond.constantLong RX10 292 (2)))) rfl
theorem l_X10_297 : Cond.constantLong RX10 297 (3) ∈ AW := AW_in (lw_at 1422 (by decide +kernel : tables_1[1422]? = some (Cond.constantLong RX10 297 (3)))) rfl
theorem l_X10_299 : Cond.constantLong RX10 299 (4) ∈ AW := AW_in (lw_at 1435 (by decide +kernel : tables_1[1435]? = some (Cond.constantLong RX10 299 (4)))) rfl
theorem l_X10_267 : Cond.constantLong RX10 267 (40) ∈ AW := AW_in (lw_at 1459 (by decide +kernel : tables_1[1459]? = some (Cond.constantLong RX10 267 (40)))) rfl
theorem l_X10_310 : Cond.constantLong RX10 310 (200) ∈ AW := AW_in (lw_at 1540 (by decide +kernel : tables_1[1540]? = some (Cond.constantLong RX10 310 (200)))) rfl
theorem l_X10_318 : Cond.constantLong RX10 318 (99) ∈ AW := AW_in (lw_at 1588 (by decide +kernel : tables_1[1588]? = some (Cond.constantLong RX10 318 (99)))) rfl
theorem l_X10_375 : Cond.constantLong RX10 375 (609752116) ∈ AW := AW_in (lw_at 1648 (by decide +kernel : tables_1[1648]? = some (Cond.constantLong RX10 375 (609752116)))) rfl
theorem l_X10_377 : Cond.constantLong RX10 377 (53028549) ∈ AW := AW_in (lw_at 1649 (by decide +kernel : tables_1[1649]? = some (Cond.constantLong RX10 377 (53028549)))) rfl
theorem l_X10_379 : Cond.constantLong RX10 379 (66667) ∈ AW := AW_in (lw_at 1650 (by decide +kernel : tables_1[1650]? = some (Cond.constantLong RX10 379 (66667)))) rfl
theorem l_X10_368 : Cond.constantLong RX10 368 (664683) ∈ AW := AW_in (lw_at 1651 (by decide +kernel : tables_1[1651]? = some (Cond.constantLong RX10 368 (664683)))) rfl
theorem l_X10_370 : Cond.constantLong RX10 370 (193598916) ∈ AW := AW_in (lw_at 1652 (by decide +kernel : tables_1[1652]? = some (Cond.constantLong RX10 370 (193598916)))) rfl
theorem l_X10_411 : Cond.constantLong RX10 411 (31) ∈ AW := AW_in (lw_at 1693 (by decide +kernel : tables_1[1693]? = some (Cond.constantLong RX10 411 (31)))) rfl
end
