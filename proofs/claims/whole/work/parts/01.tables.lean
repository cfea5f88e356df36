-- ===== PART A: goes FIRST, ahead of the names: the tables' words, and 'selects' of the private methods out of them =====
/-- a private method of a class that the tables say can be made, by its rows of tables_1 -/
def lw_okq (q : MethodName × Nat) : Prop := (q.1.cls ≠ "java/lang/invoke/MethodHandle" ∧ q.1.cls ≠ "java/lang/invoke/VarHandle") ∧ Cond.instantiable q.1.cls q.2 ∈ tables_1 ∧ Cond.privateMethod q.1 ∈ tables_1 ∧ Cond.instanceMethod q.1 ∈ tables_1
theorem lw_p0 : lw_okq (⟨"java/lang/Throwable", "fillInStackTrace", "(I)Ljava/lang/Throwable;"⟩, 6) := ⟨⟨by decide +kernel, by decide +kernel⟩, List.mem_of_getElem? (i := 572) (by decide +kernel), List.mem_of_getElem? (i := 570) (by decide +kernel), List.mem_of_getElem? (i := 571) (by decide +kernel)⟩
theorem lw_p1 : lw_okq (⟨"CellLoans", "doCommand", "(I)I"⟩, 9) := ⟨⟨by decide +kernel, by decide +kernel⟩, List.mem_of_getElem? (i := 24) (by decide +kernel), List.mem_of_getElem? (i := 841) (by decide +kernel), List.mem_of_getElem? (i := 842) (by decide +kernel)⟩
theorem lw_p2 : lw_okq (⟨"CellLoans", "mayDoBack", "(I)Z"⟩, 9) := ⟨⟨by decide +kernel, by decide +kernel⟩, List.mem_of_getElem? (i := 24) (by decide +kernel), List.mem_of_getElem? (i := 896) (by decide +kernel), List.mem_of_getElem? (i := 897) (by decide +kernel)⟩
theorem lw_p3 : lw_okq (⟨"CellLoans", "needPort", "(I)V"⟩, 9) := ⟨⟨by decide +kernel, by decide +kernel⟩, List.mem_of_getElem? (i := 24) (by decide +kernel), List.mem_of_getElem? (i := 946) (by decide +kernel), List.mem_of_getElem? (i := 947) (by decide +kernel)⟩
theorem lw_p4 : lw_okq (⟨"CellLoansModel", "clears", "()V"⟩, 26) := ⟨⟨by decide +kernel, by decide +kernel⟩, List.mem_of_getElem? (i := 1125) (by decide +kernel), List.mem_of_getElem? (i := 1131) (by decide +kernel), List.mem_of_getElem? (i := 1132) (by decide +kernel)⟩
theorem lw_p5 : lw_okq (⟨"CellLoansModel", "set", "(II)V"⟩, 26) := ⟨⟨by decide +kernel, by decide +kernel⟩, List.mem_of_getElem? (i := 1125) (by decide +kernel), List.mem_of_getElem? (i := 1135) (by decide +kernel), List.mem_of_getElem? (i := 1136) (by decide +kernel)⟩
theorem lw_p6 : lw_okq (⟨"CellLoansModel", "setName", "(IJ)V"⟩, 26) := ⟨⟨by decide +kernel, by decide +kernel⟩, List.mem_of_getElem? (i := 1125) (by decide +kernel), List.mem_of_getElem? (i := 1139) (by decide +kernel), List.mem_of_getElem? (i := 1140) (by decide +kernel)⟩
theorem lw_p7 : lw_okq (⟨"CellLoansModel", "good", "(Z)Z"⟩, 26) := ⟨⟨by decide +kernel, by decide +kernel⟩, List.mem_of_getElem? (i := 1125) (by decide +kernel), List.mem_of_getElem? (i := 1227) (by decide +kernel), List.mem_of_getElem? (i := 1228) (by decide +kernel)⟩
theorem lw_p8 : lw_okq (⟨"CellLoansModel", "four", "(I)V"⟩, 26) := ⟨⟨by decide +kernel, by decide +kernel⟩, List.mem_of_getElem? (i := 1125) (by decide +kernel), List.mem_of_getElem? (i := 1231) (by decide +kernel), List.mem_of_getElem? (i := 1232) (by decide +kernel)⟩
theorem lw_p9 : lw_okq (⟨"CellLoansModel", "starts", "()V"⟩, 26) := ⟨⟨by decide +kernel, by decide +kernel⟩, List.mem_of_getElem? (i := 1125) (by decide +kernel), List.mem_of_getElem? (i := 1246) (by decide +kernel), List.mem_of_getElem? (i := 1247) (by decide +kernel)⟩
theorem lw_p10 : lw_okq (⟨"CellLoansModel", "scans", "()V"⟩, 26) := ⟨⟨by decide +kernel, by decide +kernel⟩, List.mem_of_getElem? (i := 1125) (by decide +kernel), List.mem_of_getElem? (i := 1250) (by decide +kernel), List.mem_of_getElem? (i := 1251) (by decide +kernel)⟩
theorem lw_p11 : lw_okq (⟨"CellLoansModel", "byteAt", "(I)I"⟩, 26) := ⟨⟨by decide +kernel, by decide +kernel⟩, List.mem_of_getElem? (i := 1125) (by decide +kernel), List.mem_of_getElem? (i := 1254) (by decide +kernel), List.mem_of_getElem? (i := 1255) (by decide +kernel)⟩
theorem lw_p12 : lw_okq (⟨"CellLoansModel", "isGood", "()Z"⟩, 26) := ⟨⟨by decide +kernel, by decide +kernel⟩, List.mem_of_getElem? (i := 1125) (by decide +kernel), List.mem_of_getElem? (i := 1264) (by decide +kernel), List.mem_of_getElem? (i := 1265) (by decide +kernel)⟩
theorem lw_p13 : lw_okq (⟨"CellLoansModel", "readsStatement", "()V"⟩, 26) := ⟨⟨by decide +kernel, by decide +kernel⟩, List.mem_of_getElem? (i := 1125) (by decide +kernel), List.mem_of_getElem? (i := 1268) (by decide +kernel), List.mem_of_getElem? (i := 1269) (by decide +kernel)⟩
theorem lw_p14 : lw_okq (⟨"CellLoansModel", "isWord", "(J)Z"⟩, 26) := ⟨⟨by decide +kernel, by decide +kernel⟩, List.mem_of_getElem? (i := 1125) (by decide +kernel), List.mem_of_getElem? (i := 1273) (by decide +kernel), List.mem_of_getElem? (i := 1274) (by decide +kernel)⟩
theorem lw_p15 : lw_okq (⟨"CellLoansModel", "readsPort", "()V"⟩, 26) := ⟨⟨by decide +kernel, by decide +kernel⟩, List.mem_of_getElem? (i := 1125) (by decide +kernel), List.mem_of_getElem? (i := 1277) (by decide +kernel), List.mem_of_getElem? (i := 1278) (by decide +kernel)⟩
def lw_privs_1 : List (MethodName × Nat) := [(⟨"java/lang/Throwable", "fillInStackTrace", "(I)Ljava/lang/Throwable;"⟩, 6), (⟨"CellLoans", "doCommand", "(I)I"⟩, 9), (⟨"CellLoans", "mayDoBack", "(I)Z"⟩, 9), (⟨"CellLoans", "needPort", "(I)V"⟩, 9), (⟨"CellLoansModel", "clears", "()V"⟩, 26), (⟨"CellLoansModel", "set", "(II)V"⟩, 26), (⟨"CellLoansModel", "setName", "(IJ)V"⟩, 26), (⟨"CellLoansModel", "good", "(Z)Z"⟩, 26), (⟨"CellLoansModel", "four", "(I)V"⟩, 26), (⟨"CellLoansModel", "starts", "()V"⟩, 26), (⟨"CellLoansModel", "scans", "()V"⟩, 26), (⟨"CellLoansModel", "byteAt", "(I)I"⟩, 26), (⟨"CellLoansModel", "isGood", "()Z"⟩, 26), (⟨"CellLoansModel", "readsStatement", "()V"⟩, 26), (⟨"CellLoansModel", "isWord", "(J)Z"⟩, 26), (⟨"CellLoansModel", "readsPort", "()V"⟩, 26)]
theorem lw_r1 : ∀ q ∈ lw_privs_1, lw_okq q := List.forall_mem_cons.mpr ⟨lw_p0, List.forall_mem_cons.mpr ⟨lw_p1, List.forall_mem_cons.mpr ⟨lw_p2, List.forall_mem_cons.mpr ⟨lw_p3, List.forall_mem_cons.mpr ⟨lw_p4, List.forall_mem_cons.mpr ⟨lw_p5, List.forall_mem_cons.mpr ⟨lw_p6, List.forall_mem_cons.mpr ⟨lw_p7, List.forall_mem_cons.mpr ⟨lw_p8, List.forall_mem_cons.mpr ⟨lw_p9, List.forall_mem_cons.mpr ⟨lw_p10, List.forall_mem_cons.mpr ⟨lw_p11, List.forall_mem_cons.mpr ⟨lw_p12, List.forall_mem_cons.mpr ⟨lw_p13, List.forall_mem_cons.mpr ⟨lw_p14, List.forall_mem_cons.mpr ⟨lw_p15, fun _ h => absurd h List.not_mem_nil⟩⟩⟩⟩⟩⟩⟩⟩⟩⟩⟩⟩⟩⟩⟩⟩
theorem lw_p16 : lw_okq (⟨"CellLoansModel", "of", "(I)I"⟩, 26) := ⟨⟨by decide +kernel, by decide +kernel⟩, List.mem_of_getElem? (i := 1125) (by decide +kernel), List.mem_of_getElem? (i := 1281) (by decide +kernel), List.mem_of_getElem? (i := 1282) (by decide +kernel)⟩
theorem lw_p17 : lw_okq (⟨"CellLoansModel", "must", "(ZI)V"⟩, 26) := ⟨⟨by decide +kernel, by decide +kernel⟩, List.mem_of_getElem? (i := 1125) (by decide +kernel), List.mem_of_getElem? (i := 1285) (by decide +kernel), List.mem_of_getElem? (i := 1286) (by decide +kernel)⟩
theorem lw_p18 : lw_okq (⟨"CellLoansModel", "named", "()I"⟩, 26) := ⟨⟨by decide +kernel, by decide +kernel⟩, List.mem_of_getElem? (i := 1125) (by decide +kernel), List.mem_of_getElem? (i := 1289) (by decide +kernel), List.mem_of_getElem? (i := 1290) (by decide +kernel)⟩
theorem lw_p19 : lw_okq (⟨"CellLoansModel", "name", "(I)J"⟩, 26) := ⟨⟨by decide +kernel, by decide +kernel⟩, List.mem_of_getElem? (i := 1125) (by decide +kernel), List.mem_of_getElem? (i := 1293) (by decide +kernel), List.mem_of_getElem? (i := 1294) (by decide +kernel)⟩
theorem lw_p20 : lw_okq (⟨"CellLoansModel", "reads", "(II)I"⟩, 26) := ⟨⟨by decide +kernel, by decide +kernel⟩, List.mem_of_getElem? (i := 1125) (by decide +kernel), List.mem_of_getElem? (i := 1297) (by decide +kernel), List.mem_of_getElem? (i := 1298) (by decide +kernel)⟩
theorem lw_p21 : lw_okq (⟨"CellLoansModel", "setP", "(III)V"⟩, 26) := ⟨⟨by decide +kernel, by decide +kernel⟩, List.mem_of_getElem? (i := 1125) (by decide +kernel), List.mem_of_getElem? (i := 1302) (by decide +kernel), List.mem_of_getElem? (i := 1303) (by decide +kernel)⟩
theorem lw_p22 : lw_okq (⟨"CellLoansModel", "sign", "(I)V"⟩, 26) := ⟨⟨by decide +kernel, by decide +kernel⟩, List.mem_of_getElem? (i := 1125) (by decide +kernel), List.mem_of_getElem? (i := 1308) (by decide +kernel), List.mem_of_getElem? (i := 1309) (by decide +kernel)⟩
theorem lw_p23 : lw_okq (⟨"CellLoansModel", "isSign", "(I)Z"⟩, 26) := ⟨⟨by decide +kernel, by decide +kernel⟩, List.mem_of_getElem? (i := 1125) (by decide +kernel), List.mem_of_getElem? (i := 1312) (by decide +kernel), List.mem_of_getElem? (i := 1313) (by decide +kernel)⟩
theorem lw_p24 : lw_okq (⟨"CellLoansModel", "copies", "(II)V"⟩, 26) := ⟨⟨by decide +kernel, by decide +kernel⟩, List.mem_of_getElem? (i := 1125) (by decide +kernel), List.mem_of_getElem? (i := 1316) (by decide +kernel), List.mem_of_getElem? (i := 1317) (by decide +kernel)⟩
theorem lw_p25 : lw_okq (⟨"CellLoansModel", "sumOf", "(I)I"⟩, 26) := ⟨⟨by decide +kernel, by decide +kernel⟩, List.mem_of_getElem? (i := 1125) (by decide +kernel), List.mem_of_getElem? (i := 1337) (by decide +kernel), List.mem_of_getElem? (i := 1338) (by decide +kernel)⟩
theorem lw_p26 : lw_okq (⟨"CellLoansModel", "p", "(II)I"⟩, 26) := ⟨⟨by decide +kernel, by decide +kernel⟩, List.mem_of_getElem? (i := 1125) (by decide +kernel), List.mem_of_getElem? (i := 1341) (by decide +kernel), List.mem_of_getElem? (i := 1342) (by decide +kernel)⟩
theorem lw_p27 : lw_okq (⟨"CellLoansModel", "usedBy", "(I)I"⟩, 26) := ⟨⟨by decide +kernel, by decide +kernel⟩, List.mem_of_getElem? (i := 1125) (by decide +kernel), List.mem_of_getElem? (i := 1345) (by decide +kernel), List.mem_of_getElem? (i := 1346) (by decide +kernel)⟩
theorem lw_p28 : lw_okq (⟨"CellLoansModel", "k", "(II)I"⟩, 26) := ⟨⟨by decide +kernel, by decide +kernel⟩, List.mem_of_getElem? (i := 1125) (by decide +kernel), List.mem_of_getElem? (i := 1349) (by decide +kernel), List.mem_of_getElem? (i := 1350) (by decide +kernel)⟩
theorem lw_p29 : lw_okq (⟨"CellLoansModel", "lentBy", "(I)I"⟩, 26) := ⟨⟨by decide +kernel, by decide +kernel⟩, List.mem_of_getElem? (i := 1125) (by decide +kernel), List.mem_of_getElem? (i := 1353) (by decide +kernel), List.mem_of_getElem? (i := 1354) (by decide +kernel)⟩
theorem lw_p30 : lw_okq (⟨"CellLoansModel", "m", "(II)I"⟩, 26) := ⟨⟨by decide +kernel, by decide +kernel⟩, List.mem_of_getElem? (i := 1125) (by decide +kernel), List.mem_of_getElem? (i := 1357) (by decide +kernel), List.mem_of_getElem? (i := 1358) (by decide +kernel)⟩
theorem lw_p31 : lw_okq (⟨"CellLoansModel", "freeOf", "(I)I"⟩, 26) := ⟨⟨by decide +kernel, by decide +kernel⟩, List.mem_of_getElem? (i := 1125) (by decide +kernel), List.mem_of_getElem? (i := 1361) (by decide +kernel), List.mem_of_getElem? (i := 1362) (by decide +kernel)⟩
def lw_privs_2 : List (MethodName × Nat) := [(⟨"CellLoansModel", "of", "(I)I"⟩, 26), (⟨"CellLoansModel", "must", "(ZI)V"⟩, 26), (⟨"CellLoansModel", "named", "()I"⟩, 26), (⟨"CellLoansModel", "name", "(I)J"⟩, 26), (⟨"CellLoansModel", "reads", "(II)I"⟩, 26), (⟨"CellLoansModel", "setP", "(III)V"⟩, 26), (⟨"CellLoansModel", "sign", "(I)V"⟩, 26), (⟨"CellLoansModel", "isSign", "(I)Z"⟩, 26), (⟨"CellLoansModel", "copies", "(II)V"⟩, 26), (⟨"CellLoansModel", "sumOf", "(I)I"⟩, 26), (⟨"CellLoansModel", "p", "(II)I"⟩, 26), (⟨"CellLoansModel", "usedBy", "(I)I"⟩, 26), (⟨"CellLoansModel", "k", "(II)I"⟩, 26), (⟨"CellLoansModel", "lentBy", "(I)I"⟩, 26), (⟨"CellLoansModel", "m", "(II)I"⟩, 26), (⟨"CellLoansModel", "freeOf", "(I)I"⟩, 26)]
theorem lw_r2 : ∀ q ∈ lw_privs_2, lw_okq q := List.forall_mem_cons.mpr ⟨lw_p16, List.forall_mem_cons.mpr ⟨lw_p17, List.forall_mem_cons.mpr ⟨lw_p18, List.forall_mem_cons.mpr ⟨lw_p19, List.forall_mem_cons.mpr ⟨lw_p20, List.forall_mem_cons.mpr ⟨lw_p21, List.forall_mem_cons.mpr ⟨lw_p22, List.forall_mem_cons.mpr ⟨lw_p23, List.forall_mem_cons.mpr ⟨lw_p24, List.forall_mem_cons.mpr ⟨lw_p25, List.forall_mem_cons.mpr ⟨lw_p26, List.forall_mem_cons.mpr ⟨lw_p27, List.forall_mem_cons.mpr ⟨lw_p28, List.forall_mem_cons.mpr ⟨lw_p29, List.forall_mem_cons.mpr ⟨lw_p30, List.forall_mem_cons.mpr ⟨lw_p31, fun _ h => absurd h List.not_mem_nil⟩⟩⟩⟩⟩⟩⟩⟩⟩⟩⟩⟩⟩⟩⟩⟩
theorem lw_p32 : lw_okq (⟨"CellLoansModel", "roomOf", "(I)I"⟩, 26) := ⟨⟨by decide +kernel, by decide +kernel⟩, List.mem_of_getElem? (i := 1125) (by decide +kernel), List.mem_of_getElem? (i := 1365) (by decide +kernel), List.mem_of_getElem? (i := 1366) (by decide +kernel)⟩
theorem lw_p33 : lw_okq (⟨"CellLoansModel", "borrowedBy", "(I)I"⟩, 26) := ⟨⟨by decide +kernel, by decide +kernel⟩, List.mem_of_getElem? (i := 1125) (by decide +kernel), List.mem_of_getElem? (i := 1369) (by decide +kernel), List.mem_of_getElem? (i := 1370) (by decide +kernel)⟩
theorem lw_p34 : lw_okq (⟨"CellLoansModel", "isPort", "(I)Z"⟩, 26) := ⟨⟨by decide +kernel, by decide +kernel⟩, List.mem_of_getElem? (i := 1125) (by decide +kernel), List.mem_of_getElem? (i := 1377) (by decide +kernel), List.mem_of_getElem? (i := 1378) (by decide +kernel)⟩
theorem lw_p35 : lw_okq (⟨"CellLoansModel", "allGood", "(ZZ)Z"⟩, 26) := ⟨⟨by decide +kernel, by decide +kernel⟩, List.mem_of_getElem? (i := 1125) (by decide +kernel), List.mem_of_getElem? (i := 1382) (by decide +kernel), List.mem_of_getElem? (i := 1383) (by decide +kernel)⟩
theorem lw_p36 : lw_okq (⟨"CellLoansModel", "canLend", "(I)I"⟩, 26) := ⟨⟨by decide +kernel, by decide +kernel⟩, List.mem_of_getElem? (i := 1125) (by decide +kernel), List.mem_of_getElem? (i := 1386) (by decide +kernel), List.mem_of_getElem? (i := 1387) (by decide +kernel)⟩
theorem lw_p37 : lw_okq (⟨"CellLoansModel", "spareOf", "(I)I"⟩, 26) := ⟨⟨by decide +kernel, by decide +kernel⟩, List.mem_of_getElem? (i := 1125) (by decide +kernel), List.mem_of_getElem? (i := 1390) (by decide +kernel), List.mem_of_getElem? (i := 1391) (by decide +kernel)⟩
theorem lw_p38 : lw_okq (⟨"CellLoansModel", "keptBack", "(I)I"⟩, 26) := ⟨⟨by decide +kernel, by decide +kernel⟩, List.mem_of_getElem? (i := 1125) (by decide +kernel), List.mem_of_getElem? (i := 1394) (by decide +kernel), List.mem_of_getElem? (i := 1395) (by decide +kernel)⟩
theorem lw_p39 : lw_okq (⟨"CellLoansModel", "portMore", "(II)I"⟩, 26) := ⟨⟨by decide +kernel, by decide +kernel⟩, List.mem_of_getElem? (i := 1125) (by decide +kernel), List.mem_of_getElem? (i := 1398) (by decide +kernel), List.mem_of_getElem? (i := 1399) (by decide +kernel)⟩
theorem lw_p40 : lw_okq (⟨"CellLoansModel", "waiting", "(I)I"⟩, 26) := ⟨⟨by decide +kernel, by decide +kernel⟩, List.mem_of_getElem? (i := 1125) (by decide +kernel), List.mem_of_getElem? (i := 1402) (by decide +kernel), List.mem_of_getElem? (i := 1403) (by decide +kernel)⟩
theorem lw_p41 : lw_okq (⟨"CellLoansModel", "packetOf", "(II)I"⟩, 26) := ⟨⟨by decide +kernel, by decide +kernel⟩, List.mem_of_getElem? (i := 1125) (by decide +kernel), List.mem_of_getElem? (i := 1410) (by decide +kernel), List.mem_of_getElem? (i := 1411) (by decide +kernel)⟩
theorem lw_p42 : lw_okq (⟨"CellLoansModel", "isPromise", "(I)Z"⟩, 26) := ⟨⟨by decide +kernel, by decide +kernel⟩, List.mem_of_getElem? (i := 1125) (by decide +kernel), List.mem_of_getElem? (i := 1419) (by decide +kernel), List.mem_of_getElem? (i := 1420) (by decide +kernel)⟩
theorem lw_p43 : lw_okq (⟨"CellLoansModel", "owedTo", "(II)I"⟩, 26) := ⟨⟨by decide +kernel, by decide +kernel⟩, List.mem_of_getElem? (i := 1125) (by decide +kernel), List.mem_of_getElem? (i := 1428) (by decide +kernel), List.mem_of_getElem? (i := 1429) (by decide +kernel)⟩
theorem lw_p44 : lw_okq (⟨"CellLoansModel", "wayIn", "(II)I"⟩, 26) := ⟨⟨by decide +kernel, by decide +kernel⟩, List.mem_of_getElem? (i := 1125) (by decide +kernel), List.mem_of_getElem? (i := 1461) (by decide +kernel), List.mem_of_getElem? (i := 1462) (by decide +kernel)⟩
theorem lw_p45 : lw_okq (⟨"CellLoansModel", "othersCanLend", "(I)I"⟩, 26) := ⟨⟨by decide +kernel, by decide +kernel⟩, List.mem_of_getElem? (i := 1125) (by decide +kernel), List.mem_of_getElem? (i := 1465) (by decide +kernel), List.mem_of_getElem? (i := 1466) (by decide +kernel)⟩
theorem lw_p46 : lw_okq (⟨"CellLoansModel", "remembers", "()V"⟩, 26) := ⟨⟨by decide +kernel, by decide +kernel⟩, List.mem_of_getElem? (i := 1125) (by decide +kernel), List.mem_of_getElem? (i := 1477) (by decide +kernel), List.mem_of_getElem? (i := 1478) (by decide +kernel)⟩
theorem lw_p47 : lw_okq (⟨"CellLoansModel", "arrives", "(II)I"⟩, 26) := ⟨⟨by decide +kernel, by decide +kernel⟩, List.mem_of_getElem? (i := 1125) (by decide +kernel), List.mem_of_getElem? (i := 1481) (by decide +kernel), List.mem_of_getElem? (i := 1482) (by decide +kernel)⟩
def lw_privs_3 : List (MethodName × Nat) := [(⟨"CellLoansModel", "roomOf", "(I)I"⟩, 26), (⟨"CellLoansModel", "borrowedBy", "(I)I"⟩, 26), (⟨"CellLoansModel", "isPort", "(I)Z"⟩, 26), (⟨"CellLoansModel", "allGood", "(ZZ)Z"⟩, 26), (⟨"CellLoansModel", "canLend", "(I)I"⟩, 26), (⟨"CellLoansModel", "spareOf", "(I)I"⟩, 26), (⟨"CellLoansModel", "keptBack", "(I)I"⟩, 26), (⟨"CellLoansModel", "portMore", "(II)I"⟩, 26), (⟨"CellLoansModel", "waiting", "(I)I"⟩, 26), (⟨"CellLoansModel", "packetOf", "(II)I"⟩, 26), (⟨"CellLoansModel", "isPromise", "(I)Z"⟩, 26), (⟨"CellLoansModel", "owedTo", "(II)I"⟩, 26), (⟨"CellLoansModel", "wayIn", "(II)I"⟩, 26), (⟨"CellLoansModel", "othersCanLend", "(I)I"⟩, 26), (⟨"CellLoansModel", "remembers", "()V"⟩, 26), (⟨"CellLoansModel", "arrives", "(II)I"⟩, 26)]
theorem lw_r3 : ∀ q ∈ lw_privs_3, lw_okq q := List.forall_mem_cons.mpr ⟨lw_p32, List.forall_mem_cons.mpr ⟨lw_p33, List.forall_mem_cons.mpr ⟨lw_p34, List.forall_mem_cons.mpr ⟨lw_p35, List.forall_mem_cons.mpr ⟨lw_p36, List.forall_mem_cons.mpr ⟨lw_p37, List.forall_mem_cons.mpr ⟨lw_p38, List.forall_mem_cons.mpr ⟨lw_p39, List.forall_mem_cons.mpr ⟨lw_p40, List.forall_mem_cons.mpr ⟨lw_p41, List.forall_mem_cons.mpr ⟨lw_p42, List.forall_mem_cons.mpr ⟨lw_p43, List.forall_mem_cons.mpr ⟨lw_p44, List.forall_mem_cons.mpr ⟨lw_p45, List.forall_mem_cons.mpr ⟨lw_p46, List.forall_mem_cons.mpr ⟨lw_p47, fun _ h => absurd h List.not_mem_nil⟩⟩⟩⟩⟩⟩⟩⟩⟩⟩⟩⟩⟩⟩⟩⟩
theorem lw_p48 : lw_okq (⟨"CellLoansModel", "grows", "(II)V"⟩, 26) := ⟨⟨by decide +kernel, by decide +kernel⟩, List.mem_of_getElem? (i := 1125) (by decide +kernel), List.mem_of_getElem? (i := 1485) (by decide +kernel), List.mem_of_getElem? (i := 1486) (by decide +kernel)⟩
theorem lw_p49 : lw_okq (⟨"CellLoansModel", "growsP", "(III)V"⟩, 26) := ⟨⟨by decide +kernel, by decide +kernel⟩, List.mem_of_getElem? (i := 1125) (by decide +kernel), List.mem_of_getElem? (i := 1489) (by decide +kernel), List.mem_of_getElem? (i := 1490) (by decide +kernel)⟩
theorem lw_p50 : lw_okq (⟨"CellLoansModel", "notes", "(IIII)V"⟩, 26) := ⟨⟨by decide +kernel, by decide +kernel⟩, List.mem_of_getElem? (i := 1125) (by decide +kernel), List.mem_of_getElem? (i := 1493) (by decide +kernel), List.mem_of_getElem? (i := 1494) (by decide +kernel)⟩
theorem lw_p51 : lw_okq (⟨"CellLoansModel", "calls", "(II)V"⟩, 26) := ⟨⟨by decide +kernel, by decide +kernel⟩, List.mem_of_getElem? (i := 1125) (by decide +kernel), List.mem_of_getElem? (i := 1497) (by decide +kernel), List.mem_of_getElem? (i := 1498) (by decide +kernel)⟩
theorem lw_p52 : lw_okq (⟨"CellLoansModel", "lessens", "(II)Z"⟩, 26) := ⟨⟨by decide +kernel, by decide +kernel⟩, List.mem_of_getElem? (i := 1125) (by decide +kernel), List.mem_of_getElem? (i := 1501) (by decide +kernel), List.mem_of_getElem? (i := 1502) (by decide +kernel)⟩
theorem lw_p53 : lw_okq (⟨"CellLoansModel", "removesPromise", "(I)V"⟩, 26) := ⟨⟨by decide +kernel, by decide +kernel⟩, List.mem_of_getElem? (i := 1125) (by decide +kernel), List.mem_of_getElem? (i := 1505) (by decide +kernel), List.mem_of_getElem? (i := 1506) (by decide +kernel)⟩
theorem lw_p54 : lw_okq (⟨"CellLoansModel", "shrinks", "(II)V"⟩, 26) := ⟨⟨by decide +kernel, by decide +kernel⟩, List.mem_of_getElem? (i := 1125) (by decide +kernel), List.mem_of_getElem? (i := 1509) (by decide +kernel), List.mem_of_getElem? (i := 1510) (by decide +kernel)⟩
theorem lw_p55 : lw_okq (⟨"CellLoansModel", "newest", "(I)I"⟩, 26) := ⟨⟨by decide +kernel, by decide +kernel⟩, List.mem_of_getElem? (i := 1125) (by decide +kernel), List.mem_of_getElem? (i := 1513) (by decide +kernel), List.mem_of_getElem? (i := 1514) (by decide +kernel)⟩
theorem lw_p56 : lw_okq (⟨"CellLoansModel", "removesPacket", "(I)V"⟩, 26) := ⟨⟨by decide +kernel, by decide +kernel⟩, List.mem_of_getElem? (i := 1125) (by decide +kernel), List.mem_of_getElem? (i := 1517) (by decide +kernel), List.mem_of_getElem? (i := 1518) (by decide +kernel)⟩
theorem lw_p57 : lw_okq (⟨"CellLoansModel", "borrows", "(II)V"⟩, 26) := ⟨⟨by decide +kernel, by decide +kernel⟩, List.mem_of_getElem? (i := 1125) (by decide +kernel), List.mem_of_getElem? (i := 1521) (by decide +kernel), List.mem_of_getElem? (i := 1522) (by decide +kernel)⟩
theorem lw_p58 : lw_okq (⟨"CellLoansModel", "promises", "(IIII)I"⟩, 26) := ⟨⟨by decide +kernel, by decide +kernel⟩, List.mem_of_getElem? (i := 1125) (by decide +kernel), List.mem_of_getElem? (i := 1525) (by decide +kernel), List.mem_of_getElem? (i := 1526) (by decide +kernel)⟩
theorem lw_p59 : lw_okq (⟨"CellLoansModel", "takes", "(II)V"⟩, 26) := ⟨⟨by decide +kernel, by decide +kernel⟩, List.mem_of_getElem? (i := 1125) (by decide +kernel), List.mem_of_getElem? (i := 1529) (by decide +kernel), List.mem_of_getElem? (i := 1530) (by decide +kernel)⟩
theorem lw_p60 : lw_okq (⟨"CellLoansModel", "ticksOne", "()V"⟩, 26) := ⟨⟨by decide +kernel, by decide +kernel⟩, List.mem_of_getElem? (i := 1125) (by decide +kernel), List.mem_of_getElem? (i := 1542) (by decide +kernel), List.mem_of_getElem? (i := 1543) (by decide +kernel)⟩
theorem lw_p61 : lw_okq (⟨"CellLoansModel", "fallsDue", "()V"⟩, 26) := ⟨⟨by decide +kernel, by decide +kernel⟩, List.mem_of_getElem? (i := 1125) (by decide +kernel), List.mem_of_getElem? (i := 1546) (by decide +kernel), List.mem_of_getElem? (i := 1547) (by decide +kernel)⟩
theorem lw_p62 : lw_okq (⟨"CellLoansModel", "sends", "(I)I"⟩, 26) := ⟨⟨by decide +kernel, by decide +kernel⟩, List.mem_of_getElem? (i := 1125) (by decide +kernel), List.mem_of_getElem? (i := 1550) (by decide +kernel), List.mem_of_getElem? (i := 1551) (by decide +kernel)⟩
theorem lw_p63 : lw_okq (⟨"CellLoansModel", "forecasts", "()V"⟩, 26) := ⟨⟨by decide +kernel, by decide +kernel⟩, List.mem_of_getElem? (i := 1125) (by decide +kernel), List.mem_of_getElem? (i := 1554) (by decide +kernel), List.mem_of_getElem? (i := 1555) (by decide +kernel)⟩
def lw_privs_4 : List (MethodName × Nat) := [(⟨"CellLoansModel", "grows", "(II)V"⟩, 26), (⟨"CellLoansModel", "growsP", "(III)V"⟩, 26), (⟨"CellLoansModel", "notes", "(IIII)V"⟩, 26), (⟨"CellLoansModel", "calls", "(II)V"⟩, 26), (⟨"CellLoansModel", "lessens", "(II)Z"⟩, 26), (⟨"CellLoansModel", "removesPromise", "(I)V"⟩, 26), (⟨"CellLoansModel", "shrinks", "(II)V"⟩, 26), (⟨"CellLoansModel", "newest", "(I)I"⟩, 26), (⟨"CellLoansModel", "removesPacket", "(I)V"⟩, 26), (⟨"CellLoansModel", "borrows", "(II)V"⟩, 26), (⟨"CellLoansModel", "promises", "(IIII)I"⟩, 26), (⟨"CellLoansModel", "takes", "(II)V"⟩, 26), (⟨"CellLoansModel", "ticksOne", "()V"⟩, 26), (⟨"CellLoansModel", "fallsDue", "()V"⟩, 26), (⟨"CellLoansModel", "sends", "(I)I"⟩, 26), (⟨"CellLoansModel", "forecasts", "()V"⟩, 26)]
theorem lw_r4 : ∀ q ∈ lw_privs_4, lw_okq q := List.forall_mem_cons.mpr ⟨lw_p48, List.forall_mem_cons.mpr ⟨lw_p49, List.forall_mem_cons.mpr ⟨lw_p50, List.forall_mem_cons.mpr ⟨lw_p51, List.forall_mem_cons.mpr ⟨lw_p52, List.forall_mem_cons.mpr ⟨lw_p53, List.forall_mem_cons.mpr ⟨lw_p54, List.forall_mem_cons.mpr ⟨lw_p55, List.forall_mem_cons.mpr ⟨lw_p56, List.forall_mem_cons.mpr ⟨lw_p57, List.forall_mem_cons.mpr ⟨lw_p58, List.forall_mem_cons.mpr ⟨lw_p59, List.forall_mem_cons.mpr ⟨lw_p60, List.forall_mem_cons.mpr ⟨lw_p61, List.forall_mem_cons.mpr ⟨lw_p62, List.forall_mem_cons.mpr ⟨lw_p63, fun _ h => absurd h List.not_mem_nil⟩⟩⟩⟩⟩⟩⟩⟩⟩⟩⟩⟩⟩⟩⟩⟩
theorem lw_p64 : lw_okq (⟨"CellLoansModel", "thenSent", "(II)I"⟩, 26) := ⟨⟨by decide +kernel, by decide +kernel⟩, List.mem_of_getElem? (i := 1125) (by decide +kernel), List.mem_of_getElem? (i := 1566) (by decide +kernel), List.mem_of_getElem? (i := 1567) (by decide +kernel)⟩
theorem lw_p65 : lw_okq (⟨"CellLoansModel", "kept", "(I)I"⟩, 26) := ⟨⟨by decide +kernel, by decide +kernel⟩, List.mem_of_getElem? (i := 1125) (by decide +kernel), List.mem_of_getElem? (i := 1574) (by decide +kernel), List.mem_of_getElem? (i := 1575) (by decide +kernel)⟩
theorem lw_p66 : lw_okq (⟨"CellLoansModel", "keeps", "()V"⟩, 26) := ⟨⟨by decide +kernel, by decide +kernel⟩, List.mem_of_getElem? (i := 1125) (by decide +kernel), List.mem_of_getElem? (i := 1578) (by decide +kernel), List.mem_of_getElem? (i := 1579) (by decide +kernel)⟩
theorem lw_p67 : lw_okq (⟨"CellLoansModel", "ticksAll", "(I)I"⟩, 26) := ⟨⟨by decide +kernel, by decide +kernel⟩, List.mem_of_getElem? (i := 1125) (by decide +kernel), List.mem_of_getElem? (i := 1590) (by decide +kernel), List.mem_of_getElem? (i := 1591) (by decide +kernel)⟩
theorem lw_p68 : lw_okq (⟨"CellLoansModel", "canGive", "(III)Z"⟩, 26) := ⟨⟨by decide +kernel, by decide +kernel⟩, List.mem_of_getElem? (i := 1125) (by decide +kernel), List.mem_of_getElem? (i := 1598) (by decide +kernel), List.mem_of_getElem? (i := 1599) (by decide +kernel)⟩
theorem lw_p69 : lw_okq (⟨"CellLoansModel", "gives", "(III)I"⟩, 26) := ⟨⟨by decide +kernel, by decide +kernel⟩, List.mem_of_getElem? (i := 1125) (by decide +kernel), List.mem_of_getElem? (i := 1602) (by decide +kernel), List.mem_of_getElem? (i := 1603) (by decide +kernel)⟩
theorem lw_p70 : lw_okq (⟨"CellLoansModel", "canExtend", "(I)Z"⟩, 26) := ⟨⟨by decide +kernel, by decide +kernel⟩, List.mem_of_getElem? (i := 1125) (by decide +kernel), List.mem_of_getElem? (i := 1610) (by decide +kernel), List.mem_of_getElem? (i := 1611) (by decide +kernel)⟩
theorem lw_p71 : lw_okq (⟨"CellLoansModel", "extends1", "(I)I"⟩, 26) := ⟨⟨by decide +kernel, by decide +kernel⟩, List.mem_of_getElem? (i := 1125) (by decide +kernel), List.mem_of_getElem? (i := 1614) (by decide +kernel), List.mem_of_getElem? (i := 1615) (by decide +kernel)⟩
theorem lw_p72 : lw_okq (⟨"CellLoansModel", "sets", "(II)I"⟩, 26) := ⟨⟨by decide +kernel, by decide +kernel⟩, List.mem_of_getElem? (i := 1125) (by decide +kernel), List.mem_of_getElem? (i := 1622) (by decide +kernel), List.mem_of_getElem? (i := 1623) (by decide +kernel)⟩
theorem lw_p73 : lw_okq (⟨"CellLoansModel", "goes", "(Z)V"⟩, 26) := ⟨⟨by decide +kernel, by decide +kernel⟩, List.mem_of_getElem? (i := 1125) (by decide +kernel), List.mem_of_getElem? (i := 1637) (by decide +kernel), List.mem_of_getElem? (i := 1638) (by decide +kernel)⟩
theorem lw_p74 : lw_okq (⟨"CellLoansModel", "closesRepeat", "()V"⟩, 26) := ⟨⟨by decide +kernel, by decide +kernel⟩, List.mem_of_getElem? (i := 1125) (by decide +kernel), List.mem_of_getElem? (i := 1641) (by decide +kernel), List.mem_of_getElem? (i := 1642) (by decide +kernel)⟩
theorem lw_p75 : lw_okq (⟨"CellLoansModel", "readsCommand", "()V"⟩, 26) := ⟨⟨by decide +kernel, by decide +kernel⟩, List.mem_of_getElem? (i := 1125) (by decide +kernel), List.mem_of_getElem? (i := 1645) (by decide +kernel), List.mem_of_getElem? (i := 1646) (by decide +kernel)⟩
theorem lw_p76 : lw_okq (⟨"CellLoansModel", "opensRepeat", "()V"⟩, 26) := ⟨⟨by decide +kernel, by decide +kernel⟩, List.mem_of_getElem? (i := 1125) (by decide +kernel), List.mem_of_getElem? (i := 1654) (by decide +kernel), List.mem_of_getElem? (i := 1655) (by decide +kernel)⟩
theorem lw_p77 : lw_okq (⟨"CellLoansModel", "readsArrive", "()V"⟩, 26) := ⟨⟨by decide +kernel, by decide +kernel⟩, List.mem_of_getElem? (i := 1125) (by decide +kernel), List.mem_of_getElem? (i := 1658) (by decide +kernel), List.mem_of_getElem? (i := 1659) (by decide +kernel)⟩
theorem lw_p78 : lw_okq (⟨"CellLoansModel", "readsName", "()I"⟩, 26) := ⟨⟨by decide +kernel, by decide +kernel⟩, List.mem_of_getElem? (i := 1125) (by decide +kernel), List.mem_of_getElem? (i := 1662) (by decide +kernel), List.mem_of_getElem? (i := 1663) (by decide +kernel)⟩
theorem lw_p79 : lw_okq (⟨"CellLoansModel", "readsAny", "()I"⟩, 26) := ⟨⟨by decide +kernel, by decide +kernel⟩, List.mem_of_getElem? (i := 1125) (by decide +kernel), List.mem_of_getElem? (i := 1666) (by decide +kernel), List.mem_of_getElem? (i := 1667) (by decide +kernel)⟩
def lw_privs_5 : List (MethodName × Nat) := [(⟨"CellLoansModel", "thenSent", "(II)I"⟩, 26), (⟨"CellLoansModel", "kept", "(I)I"⟩, 26), (⟨"CellLoansModel", "keeps", "()V"⟩, 26), (⟨"CellLoansModel", "ticksAll", "(I)I"⟩, 26), (⟨"CellLoansModel", "canGive", "(III)Z"⟩, 26), (⟨"CellLoansModel", "gives", "(III)I"⟩, 26), (⟨"CellLoansModel", "canExtend", "(I)Z"⟩, 26), (⟨"CellLoansModel", "extends1", "(I)I"⟩, 26), (⟨"CellLoansModel", "sets", "(II)I"⟩, 26), (⟨"CellLoansModel", "goes", "(Z)V"⟩, 26), (⟨"CellLoansModel", "closesRepeat", "()V"⟩, 26), (⟨"CellLoansModel", "readsCommand", "()V"⟩, 26), (⟨"CellLoansModel", "opensRepeat", "()V"⟩, 26), (⟨"CellLoansModel", "readsArrive", "()V"⟩, 26), (⟨"CellLoansModel", "readsName", "()I"⟩, 26), (⟨"CellLoansModel", "readsAny", "()I"⟩, 26)]
theorem lw_r5 : ∀ q ∈ lw_privs_5, lw_okq q := List.forall_mem_cons.mpr ⟨lw_p64, List.forall_mem_cons.mpr ⟨lw_p65, List.forall_mem_cons.mpr ⟨lw_p66, List.forall_mem_cons.mpr ⟨lw_p67, List.forall_mem_cons.mpr ⟨lw_p68, List.forall_mem_cons.mpr ⟨lw_p69, List.forall_mem_cons.mpr ⟨lw_p70, List.forall_mem_cons.mpr ⟨lw_p71, List.forall_mem_cons.mpr ⟨lw_p72, List.forall_mem_cons.mpr ⟨lw_p73, List.forall_mem_cons.mpr ⟨lw_p74, List.forall_mem_cons.mpr ⟨lw_p75, List.forall_mem_cons.mpr ⟨lw_p76, List.forall_mem_cons.mpr ⟨lw_p77, List.forall_mem_cons.mpr ⟨lw_p78, List.forall_mem_cons.mpr ⟨lw_p79, fun _ h => absurd h List.not_mem_nil⟩⟩⟩⟩⟩⟩⟩⟩⟩⟩⟩⟩⟩⟩⟩⟩
theorem lw_p80 : lw_okq (⟨"CellLoansModel", "isDoing", "()Z"⟩, 26) := ⟨⟨by decide +kernel, by decide +kernel⟩, List.mem_of_getElem? (i := 1125) (by decide +kernel), List.mem_of_getElem? (i := 1670) (by decide +kernel), List.mem_of_getElem? (i := 1671) (by decide +kernel)⟩
theorem lw_p81 : lw_okq (⟨"CellLoansModel", "counts", "(Z)V"⟩, 26) := ⟨⟨by decide +kernel, by decide +kernel⟩, List.mem_of_getElem? (i := 1125) (by decide +kernel), List.mem_of_getElem? (i := 1674) (by decide +kernel), List.mem_of_getElem? (i := 1675) (by decide +kernel)⟩
theorem lw_p82 : lw_okq (⟨"CellLoansModel", "readsBack", "()V"⟩, 26) := ⟨⟨by decide +kernel, by decide +kernel⟩, List.mem_of_getElem? (i := 1125) (by decide +kernel), List.mem_of_getElem? (i := 1678) (by decide +kernel), List.mem_of_getElem? (i := 1679) (by decide +kernel)⟩
theorem lw_p83 : lw_okq (⟨"CellLoansModel", "readsNumber", "()V"⟩, 26) := ⟨⟨by decide +kernel, by decide +kernel⟩, List.mem_of_getElem? (i := 1125) (by decide +kernel), List.mem_of_getElem? (i := 1682) (by decide +kernel), List.mem_of_getElem? (i := 1683) (by decide +kernel)⟩
theorem lw_p84 : lw_okq (⟨"CellLoansModel", "writesName", "(J)V"⟩, 26) := ⟨⟨by decide +kernel, by decide +kernel⟩, List.mem_of_getElem? (i := 1125) (by decide +kernel), List.mem_of_getElem? (i := 1690) (by decide +kernel), List.mem_of_getElem? (i := 1691) (by decide +kernel)⟩
theorem lw_p85 : lw_okq (⟨"CellLoansModel", "writes", "(I)V"⟩, 26) := ⟨⟨by decide +kernel, by decide +kernel⟩, List.mem_of_getElem? (i := 1125) (by decide +kernel), List.mem_of_getElem? (i := 1695) (by decide +kernel), List.mem_of_getElem? (i := 1696) (by decide +kernel)⟩
theorem lw_p86 : lw_okq (⟨"CellLoansModel", "writesNumber", "(I)V"⟩, 26) := ⟨⟨by decide +kernel, by decide +kernel⟩, List.mem_of_getElem? (i := 1125) (by decide +kernel), List.mem_of_getElem? (i := 1699) (by decide +kernel), List.mem_of_getElem? (i := 1700) (by decide +kernel)⟩
def lw_privs_6 : List (MethodName × Nat) := [(⟨"CellLoansModel", "isDoing", "()Z"⟩, 26), (⟨"CellLoansModel", "counts", "(Z)V"⟩, 26), (⟨"CellLoansModel", "readsBack", "()V"⟩, 26), (⟨"CellLoansModel", "readsNumber", "()V"⟩, 26), (⟨"CellLoansModel", "writesName", "(J)V"⟩, 26), (⟨"CellLoansModel", "writes", "(I)V"⟩, 26), (⟨"CellLoansModel", "writesNumber", "(I)V"⟩, 26)]
theorem lw_r6 : ∀ q ∈ lw_privs_6, lw_okq q := List.forall_mem_cons.mpr ⟨lw_p80, List.forall_mem_cons.mpr ⟨lw_p81, List.forall_mem_cons.mpr ⟨lw_p82, List.forall_mem_cons.mpr ⟨lw_p83, List.forall_mem_cons.mpr ⟨lw_p84, List.forall_mem_cons.mpr ⟨lw_p85, List.forall_mem_cons.mpr ⟨lw_p86, fun _ h => absurd h List.not_mem_nil⟩⟩⟩⟩⟩⟩⟩
def lw_privs : List (MethodName × Nat) := lw_privs_1 ++ (lw_privs_2 ++ (lw_privs_3 ++ (lw_privs_4 ++ (lw_privs_5 ++ (lw_privs_6)))))
def lw_tbl : List Cond := k2_sels lw_privs ++ tables_1
theorem lw_privs_ok : ∀ q ∈ lw_privs, lw_okq q := by
  show ∀ q ∈ lw_privs_1 ++ (lw_privs_2 ++ (lw_privs_3 ++ (lw_privs_4 ++ (lw_privs_5 ++ (lw_privs_6))))), lw_okq q
  exact List.forall_mem_append.mpr ⟨lw_r1, List.forall_mem_append.mpr ⟨lw_r2, List.forall_mem_append.mpr ⟨lw_r3, List.forall_mem_append.mpr ⟨lw_r4, List.forall_mem_append.mpr ⟨lw_r5, lw_r6⟩⟩⟩⟩⟩
/-- the streams that the claim lets the run draw from -/
abbrev lw_cs : List Choice := [Jvm.Choice.named "NaN.bits"]
theorem lw_bits : nanBits ∈ lw_cs := by first | decide | exact List.mem_cons_self | simp [lw_cs, nanBits]
def RX0 : String := "CellLoans$History"
def TX0 : u_T := fun k => match k with
  | 0 => ("CellLoans$History", "before", "[LCellLoans$Switch;", true)
  | 1 => ("CellLoans$History", "latest", "I", false)
  | _ => ("CellLoans$History", "kept", "I", false)
def tyX0 : Nat → FieldType := fun k => match k with
  | 0 => .array (.object "CellLoans$Switch")
  | 1 => .int
  | _ => .int
abbrev wsX00 : List Cond := u_ws RX0 TX0 3
theorem nmX0 : ∀ a, a < 3 → ∀ b, b < 3 → a ≠ b → (TX0 a).2.1 ≠ (TX0 b).2.1 := by decide +kernel
theorem tyX0_ok : ∀ k, k < 3 → parseFieldDescriptor (TX0 k).2.2.1 = some (tyX0 k) := by decide +kernel
abbrev cX0_init : ByteArray := prog_2_method_1_code
def yX0_init : MethodName := ⟨RX0, "<init>", "()V"⟩
abbrev cX0_forget : ByteArray := prog_2_method_2_code
def yX0_forget : MethodName := ⟨RX0, "forget", "()V"⟩
abbrev cX0_remember : ByteArray := prog_2_method_3_code
def yX0_remember : MethodName := ⟨RX0, "remember", "(LCellLoans$Switch;)V"⟩
abbrev cX0_bringBack : ByteArray := prog_2_method_4_code
def yX0_bringBack : MethodName := ⟨RX0, "bringBack", "(LCellLoans$Switch;)V"⟩
def RX1 : String := "CellLoans$Ledger"
def TX1 : u_T := fun k => match k with
  | 0 => ("CellLoans$Ledger", "port", "[I", true)
  | 1 => ("CellLoans$Ledger", "cells", "[I", true)
  | 2 => ("CellLoans$Ledger", "reason", "[I", true)
  | 3 => ("CellLoans$Ledger", "when", "[I", true)
  | 4 => ("CellLoans$Ledger", "byReason", "[I", true)
  | _ => ("CellLoans$Ledger", "total", "I", false)
def tyX1 : Nat → FieldType := fun k => match k with
  | 0 => .array .int
  | 1 => .array .int
  | 2 => .array .int
  | 3 => .array .int
  | 4 => .array .int
  | _ => .int
abbrev wsX10 : List Cond := u_ws RX1 TX1 6
theorem nmX1 : ∀ a, a < 6 → ∀ b, b < 6 → a ≠ b → (TX1 a).2.1 ≠ (TX1 b).2.1 := by decide +kernel
theorem tyX1_ok : ∀ k, k < 6 → parseFieldDescriptor (TX1 k).2.2.1 = some (tyX1 k) := by decide +kernel
abbrev cX1_init : ByteArray := prog_3_method_1_code
def yX1_init : MethodName := ⟨RX1, "<init>", "()V"⟩
abbrev cX1_clear : ByteArray := prog_3_method_2_code
def yX1_clear : MethodName := ⟨RX1, "clear", "()V"⟩
abbrev cX1_copyFrom : ByteArray := prog_3_method_3_code
def yX1_copyFrom : MethodName := ⟨RX1, "copyFrom", "(LCellLoans$Ledger;)V"⟩
abbrev cX1_add : ByteArray := prog_3_method_4_code
def yX1_add : MethodName := ⟨RX1, "add", "(IIII)V"⟩
abbrev cX1_number : ByteArray := prog_3_method_5_code
def yX1_number : MethodName := ⟨RX1, "number", "(II)I"⟩
def RX2 : String := "CellLoans$Port"
def TX2 : u_T := fun k => match k with
  | 0 => ("CellLoans$Port", "name", "J", false)
  | 1 => ("CellLoans$Port", "share", "I", false)
  | 2 => ("CellLoans$Port", "rate", "I", false)
  | 3 => ("CellLoans$Port", "forecast", "I", false)
  | 4 => ("CellLoans$Port", "burst", "I", false)
  | 5 => ("CellLoans$Port", "cells", "I", false)
  | 6 => ("CellLoans$Port", "lent", "I", false)
  | 7 => ("CellLoans$Port", "borrowed", "I", false)
  | 8 => ("CellLoans$Port", "dropped", "I", false)
  | 9 => ("CellLoans$Port", "charged", "I", false)
  | 10 => ("CellLoans$Port", "sent", "I", false)
  | 11 => ("CellLoans$Port", "waiting", "I", false)
  | 12 => ("CellLoans$Port", "left", "[I", true)
  | 13 => ("CellLoans$Port", "had", "[I", true)
  | _ => ("CellLoans$Port", "came", "[I", true)
def tyX2 : Nat → FieldType := fun k => match k with
  | 0 => .long
  | 1 => .int
  | 2 => .int
  | 3 => .int
  | 4 => .int
  | 5 => .int
  | 6 => .int
  | 7 => .int
  | 8 => .int
  | 9 => .int
  | 10 => .int
  | 11 => .int
  | 12 => .array .int
  | 13 => .array .int
  | _ => .array .int
abbrev wsX20 : List Cond := u_ws RX2 TX2 15
theorem nmX2 : ∀ a, a < 15 → ∀ b, b < 15 → a ≠ b → (TX2 a).2.1 ≠ (TX2 b).2.1 := by decide +kernel
theorem tyX2_ok : ∀ k, k < 15 → parseFieldDescriptor (TX2 k).2.2.1 = some (tyX2 k) := by decide +kernel
abbrev cX2_init : ByteArray := prog_4_method_1_code
def yX2_init : MethodName := ⟨RX2, "<init>", "()V"⟩
abbrev cX2_become : ByteArray := prog_4_method_2_code
def yX2_become : MethodName := ⟨RX2, "become", "(JIII)V"⟩
abbrev cX2_copyFrom : ByteArray := prog_4_method_3_code
def yX2_copyFrom : MethodName := ⟨RX2, "copyFrom", "(LCellLoans$Port;)V"⟩
abbrev cX2_number : ByteArray := prog_4_method_4_code
def yX2_number : MethodName := ⟨RX2, "number", "(II)I"⟩
abbrev cX2_room : ByteArray := prog_4_method_5_code
def yX2_room : MethodName := ⟨RX2, "room", "()I"⟩
abbrev cX2_free : ByteArray := prog_4_method_6_code
def yX2_free : MethodName := ⟨RX2, "free", "()I"⟩
abbrev cX2_keptBack : ByteArray := prog_4_method_7_code
def yX2_keptBack : MethodName := ⟨RX2, "keptBack", "(I)I"⟩
abbrev cX2_ownLeft : ByteArray := prog_4_method_8_code
def yX2_ownLeft : MethodName := ⟨RX2, "ownLeft", "()I"⟩
abbrev cX2_canLend : ByteArray := prog_4_method_9_code
def yX2_canLend : MethodName := ⟨RX2, "canLend", "(I)I"⟩
abbrev cX2_append : ByteArray := prog_4_method_10_code
def yX2_append : MethodName := ⟨RX2, "append", "(II)V"⟩
abbrev cX2_removeNewest : ByteArray := prog_4_method_11_code
def yX2_removeNewest : MethodName := ⟨RX2, "removeNewest", "()I"⟩
abbrev cX2_sendFirst : ByteArray := prog_4_method_12_code
def yX2_sendFirst : MethodName := ⟨RX2, "sendFirst", "()V"⟩
abbrev cX2_removeFirst : ByteArray := prog_4_method_13_code
def yX2_removeFirst : MethodName := ⟨RX2, "removeFirst", "(I)V"⟩
abbrev cX2_learn : ByteArray := prog_4_method_14_code
def yX2_learn : MethodName := ⟨RX2, "learn", "()V"⟩
abbrev cX2_cellsUpTo : ByteArray := prog_4_method_15_code
def yX2_cellsUpTo : MethodName := ⟨RX2, "cellsUpTo", "(I)I"⟩
def RX3 : String := "CellLoans$Promises"
def TX3 : u_T := fun k => match k with
  | 0 => ("CellLoans$Promises", "lender", "[I", true)
  | 1 => ("CellLoans$Promises", "borrower", "[I", true)
  | 2 => ("CellLoans$Promises", "cells", "[I", true)
  | 3 => ("CellLoans$Promises", "due", "[I", true)
  | _ => ("CellLoans$Promises", "count", "I", false)
def tyX3 : Nat → FieldType := fun k => match k with
  | 0 => .array .int
  | 1 => .array .int
  | 2 => .array .int
  | 3 => .array .int
  | _ => .int
abbrev wsX30 : List Cond := u_ws RX3 TX3 5
theorem nmX3 : ∀ a, a < 5 → ∀ b, b < 5 → a ≠ b → (TX3 a).2.1 ≠ (TX3 b).2.1 := by decide +kernel
theorem tyX3_ok : ∀ k, k < 5 → parseFieldDescriptor (TX3 k).2.2.1 = some (tyX3 k) := by decide +kernel
abbrev cX3_init : ByteArray := prog_5_method_1_code
def yX3_init : MethodName := ⟨RX3, "<init>", "()V"⟩
abbrev cX3_copyFrom : ByteArray := prog_5_method_2_code
def yX3_copyFrom : MethodName := ⟨RX3, "copyFrom", "(LCellLoans$Promises;)V"⟩
abbrev cX3_place : ByteArray := prog_5_method_3_code
def yX3_place : MethodName := ⟨RX3, "place", "(ILCellLoans$Promises;I)V"⟩
abbrev cX3_insert : ByteArray := prog_5_method_4_code
def yX3_insert : MethodName := ⟨RX3, "insert", "(IIII)V"⟩
abbrev cX3_remove : ByteArray := prog_5_method_5_code
def yX3_remove : MethodName := ⟨RX3, "remove", "(I)V"⟩
abbrev cX3_isBetween : ByteArray := prog_5_method_6_code
def yX3_isBetween : MethodName := ⟨RX3, "isBetween", "(III)Z"⟩
abbrev cX3_cellsBetween : ByteArray := prog_5_method_7_code
def yX3_cellsBetween : MethodName := ⟨RX3, "cellsBetween", "(II)I"⟩
def RX4 : String := "CellLoans$Report"
def TX4 : u_T := fun k => match k with
  | 0 => ("CellLoans$Report", "bytes", "[I", true)
  | _ => ("CellLoans$Report", "length", "I", false)
def tyX4 : Nat → FieldType := fun k => match k with
  | 0 => .array .int
  | _ => .int
abbrev wsX40 : List Cond := u_ws RX4 TX4 2
theorem nmX4 : ∀ a, a < 2 → ∀ b, b < 2 → a ≠ b → (TX4 a).2.1 ≠ (TX4 b).2.1 := by decide +kernel
theorem tyX4_ok : ∀ k, k < 2 → parseFieldDescriptor (TX4 k).2.2.1 = some (tyX4 k) := by decide +kernel
abbrev cX4_init : ByteArray := prog_6_method_1_code
def yX4_init : MethodName := ⟨RX4, "<init>", "()V"⟩
abbrev cX4_write : ByteArray := prog_6_method_2_code
def yX4_write : MethodName := ⟨RX4, "write", "(LCellLoans$Switch;)V"⟩
abbrev cX4_putPromisesOf : ByteArray := prog_6_method_3_code
def yX4_putPromisesOf : MethodName := ⟨RX4, "putPromisesOf", "(ILCellLoans$Switch;)V"⟩
abbrev cX4_putName : ByteArray := prog_6_method_4_code
def yX4_putName : MethodName := ⟨RX4, "putName", "(J)V"⟩
abbrev cX4_putNumber : ByteArray := prog_6_method_5_code
def yX4_putNumber : MethodName := ⟨RX4, "putNumber", "(I)V"⟩
abbrev cX4_put : ByteArray := prog_6_method_6_code
def yX4_put : MethodName := ⟨RX4, "put", "(I)V"⟩
def RX5 : String := "CellLoans$Script"
def TX5 : u_T := fun k => match k with
  | 0 => ("CellLoans$Script", "verb", "[I", true)
  | 1 => ("CellLoans$Script", "port", "[I", true)
  | 2 => ("CellLoans$Script", "other", "[I", true)
  | 3 => ("CellLoans$Script", "number", "[I", true)
  | 4 => ("CellLoans$Script", "count", "I", false)
  | 5 => ("CellLoans$Script", "written", "I", false)
  | 6 => ("CellLoans$Script", "bodyStart", "[I", true)
  | 7 => ("CellLoans$Script", "times", "[I", true)
  | _ => ("CellLoans$Script", "open", "I", false)
def tyX5 : Nat → FieldType := fun k => match k with
  | 0 => .array .int
  | 1 => .array .int
  | 2 => .array .int
  | 3 => .array .int
  | 4 => .int
  | 5 => .int
  | 6 => .array .int
  | 7 => .array .int
  | _ => .int
abbrev wsX50 : List Cond := u_ws RX5 TX5 9
theorem nmX5 : ∀ a, a < 9 → ∀ b, b < 9 → a ≠ b → (TX5 a).2.1 ≠ (TX5 b).2.1 := by decide +kernel
theorem tyX5_ok : ∀ k, k < 9 → parseFieldDescriptor (TX5 k).2.2.1 = some (tyX5 k) := by decide +kernel
abbrev cX5_init : ByteArray := prog_7_method_1_code
def yX5_init : MethodName := ⟨RX5, "<init>", "()V"⟩
abbrev cX5_readFrom : ByteArray := prog_7_method_2_code
def yX5_readFrom : MethodName := ⟨RX5, "readFrom", "(LCellLoans$Text;LCellLoans$Switch;)Z"⟩
abbrev cX5_readCommand : ByteArray := prog_7_method_3_code
def yX5_readCommand : MethodName := ⟨RX5, "readCommand", "(LCellLoans$Text;LCellLoans$Switch;)Z"⟩
abbrev cX5_verbOf : ByteArray := prog_7_method_4_code
def yX5_verbOf : MethodName := ⟨RX5, "verbOf", "(LCellLoans$Text;)I"⟩
abbrev cX5_readPlain : ByteArray := prog_7_method_5_code
def yX5_readPlain : MethodName := ⟨RX5, "readPlain", "(ILCellLoans$Text;LCellLoans$Switch;)Z"⟩
abbrev cX5_takePort : ByteArray := prog_7_method_6_code
def yX5_takePort : MethodName := ⟨RX5, "takePort", "(LCellLoans$Text;LCellLoans$Switch;)I"⟩
abbrev cX5_openRepeat : ByteArray := prog_7_method_7_code
def yX5_openRepeat : MethodName := ⟨RX5, "openRepeat", "(LCellLoans$Text;)Z"⟩
abbrev cX5_closeRepeat : ByteArray := prog_7_method_8_code
def yX5_closeRepeat : MethodName := ⟨RX5, "closeRepeat", "(LCellLoans$Text;)Z"⟩
abbrev cX5_add : ByteArray := prog_7_method_9_code
def yX5_add : MethodName := ⟨RX5, "add", "(IIII)V"⟩
def RX6 : String := "CellLoans$Switch"
def TX6 : u_T := fun k => match k with
  | 0 => ("CellLoans$Switch", "ports", "[LCellLoans$Port;", true)
  | 1 => ("CellLoans$Switch", "portCount", "I", false)
  | 2 => ("CellLoans$Switch", "term", "I", false)
  | 3 => ("CellLoans$Switch", "keep", "I", false)
  | 4 => ("CellLoans$Switch", "clock", "I", false)
  | 5 => ("CellLoans$Switch", "arrived", "I", false)
  | 6 => ("CellLoans$Switch", "promises", "LCellLoans$Promises;", true)
  | _ => ("CellLoans$Switch", "ledger", "LCellLoans$Ledger;", true)
def tyX6 : Nat → FieldType := fun k => match k with
  | 0 => .array (.object "CellLoans$Port")
  | 1 => .int
  | 2 => .int
  | 3 => .int
  | 4 => .int
  | 5 => .int
  | 6 => .object "CellLoans$Promises"
  | _ => .object "CellLoans$Ledger"
abbrev wsX60 : List Cond := u_ws RX6 TX6 8
theorem nmX6 : ∀ a, a < 8 → ∀ b, b < 8 → a ≠ b → (TX6 a).2.1 ≠ (TX6 b).2.1 := by decide +kernel
theorem tyX6_ok : ∀ k, k < 8 → parseFieldDescriptor (TX6 k).2.2.1 = some (tyX6 k) := by decide +kernel
abbrev cX6_init : ByteArray := prog_8_method_1_code
def yX6_init : MethodName := ⟨RX6, "<init>", "()V"⟩
abbrev cX6_clear : ByteArray := prog_8_method_2_code
def yX6_clear : MethodName := ⟨RX6, "clear", "()V"⟩
abbrev cX6_copyFrom : ByteArray := prog_8_method_3_code
def yX6_copyFrom : MethodName := ⟨RX6, "copyFrom", "(LCellLoans$Switch;)V"⟩
abbrev cX6_addPort : ByteArray := prog_8_method_4_code
def yX6_addPort : MethodName := ⟨RX6, "addPort", "(JIII)V"⟩
abbrev cX6_portNamed : ByteArray := prog_8_method_5_code
def yX6_portNamed : MethodName := ⟨RX6, "portNamed", "(J)I"⟩
abbrev cX6_sumOfPorts : ByteArray := prog_8_method_6_code
def yX6_sumOfPorts : MethodName := ⟨RX6, "sumOfPorts", "(I)I"⟩
abbrev cX6_lendableTo : ByteArray := prog_8_method_7_code
def yX6_lendableTo : MethodName := ⟨RX6, "lendableTo", "(I)I"⟩
abbrev cX6_missing : ByteArray := prog_8_method_8_code
def yX6_missing : MethodName := ⟨RX6, "missing", "(II)I"⟩
abbrev cX6_wayOf : ByteArray := prog_8_method_9_code
def yX6_wayOf : MethodName := ⟨RX6, "wayOf", "(II)I"⟩
abbrev cX6_admit : ByteArray := prog_8_method_10_code
def yX6_admit : MethodName := ⟨RX6, "\x61dmit", "(II)I"⟩
abbrev cX6_borrow : ByteArray := prog_8_method_11_code
def yX6_borrow : MethodName := ⟨RX6, "borrow", "(II)V"⟩
abbrev cX6_bestLender : ByteArray := prog_8_method_12_code
def yX6_bestLender : MethodName := ⟨RX6, "bestLender", "(I)I"⟩
abbrev cX6_collect : ByteArray := prog_8_method_13_code
def yX6_collect : MethodName := ⟨RX6, "collect", "(III)V"⟩
abbrev cX6_takeBack : ByteArray := prog_8_method_14_code
def yX6_takeBack : MethodName := ⟨RX6, "takeBack", "(III)V"⟩
abbrev cX6_recordDrop : ByteArray := prog_8_method_15_code
def yX6_recordDrop : MethodName := ⟨RX6, "recordDrop", "(III)V"⟩
abbrev cX6_mayPass : ByteArray := prog_8_method_16_code
def yX6_mayPass : MethodName := ⟨RX6, "mayPass", "(I)Z"⟩
abbrev cX6_passTicks : ByteArray := prog_8_method_17_code
def yX6_passTicks : MethodName := ⟨RX6, "passTicks", "(I)I"⟩
abbrev cX6_passTick : ByteArray := prog_8_method_18_code
def yX6_passTick : MethodName := ⟨RX6, "passTick", "()V"⟩
abbrev cX6_mayReturn : ByteArray := prog_8_method_19_code
def yX6_mayReturn : MethodName := ⟨RX6, "mayReturn", "(III)Z"⟩
abbrev cX6_returnCells : ByteArray := prog_8_method_20_code
def yX6_returnCells : MethodName := ⟨RX6, "returnCells", "(III)I"⟩
abbrev cX6_mayProlong : ByteArray := prog_8_method_21_code
def yX6_mayProlong : MethodName := ⟨RX6, "mayProlong", "(I)Z"⟩
abbrev cX6_prolong : ByteArray := prog_8_method_22_code
def yX6_prolong : MethodName := ⟨RX6, "prolong", "(I)I"⟩
abbrev cX6_changeTerm : ByteArray := prog_8_method_23_code
def yX6_changeTerm : MethodName := ⟨RX6, "changeTerm", "(I)I"⟩
abbrev cX6_changeKeep : ByteArray := prog_8_method_24_code
def yX6_changeKeep : MethodName := ⟨RX6, "changeKeep", "(I)I"⟩
def RX7 : String := "CellLoans$SwitchReader"
def TX7 : u_T := fun k => match k with
  | 0 => ("CellLoans$SwitchReader", "termRead", "Z", false)
  | _ => ("CellLoans$SwitchReader", "keepRead", "Z", false)
def tyX7 : Nat → FieldType := fun k => match k with
  | 0 => .boolean
  | _ => .boolean
abbrev wsX70 : List Cond := u_ws RX7 TX7 2
theorem nmX7 : ∀ a, a < 2 → ∀ b, b < 2 → a ≠ b → (TX7 a).2.1 ≠ (TX7 b).2.1 := by decide +kernel
theorem tyX7_ok : ∀ k, k < 2 → parseFieldDescriptor (TX7 k).2.2.1 = some (tyX7 k) := by decide +kernel
abbrev cX7_init : ByteArray := prog_9_method_1_code
def yX7_init : MethodName := ⟨RX7, "<init>", "()V"⟩
abbrev cX7_readFrom : ByteArray := prog_9_method_2_code
def yX7_readFrom : MethodName := ⟨RX7, "readFrom", "(LCellLoans$Text;LCellLoans$Switch;)Z"⟩
abbrev cX7_readStatement : ByteArray := prog_9_method_3_code
def yX7_readStatement : MethodName := ⟨RX7, "readStatement", "(LCellLoans$Text;LCellLoans$Switch;)Z"⟩
abbrev cX7_readPort : ByteArray := prog_9_method_4_code
def yX7_readPort : MethodName := ⟨RX7, "readPort", "(LCellLoans$Text;LCellLoans$Switch;)Z"⟩
abbrev cX7_readTerm : ByteArray := prog_9_method_5_code
def yX7_readTerm : MethodName := ⟨RX7, "readTerm", "(LCellLoans$Text;LCellLoans$Switch;)Z"⟩
abbrev cX7_readKeep : ByteArray := prog_9_method_6_code
def yX7_readKeep : MethodName := ⟨RX7, "readKeep", "(LCellLoans$Text;LCellLoans$Switch;)Z"⟩
def RX8 : String := "CellLoans$Text"
def TX8 : u_T := fun k => match k with
  | 0 => ("CellLoans$Text", "bytes", "[I", true)
  | 1 => ("CellLoans$Text", "length", "I", false)
  | 2 => ("CellLoans$Text", "errorCode", "I", false)
  | 3 => ("CellLoans$Text", "errorPosition", "I", false)
  | 4 => ("CellLoans$Text", "unread", "I", false)
  | 5 => ("CellLoans$Text", "kind", "I", false)
  | 6 => ("CellLoans$Text", "start", "I", false)
  | 7 => ("CellLoans$Text", "word", "J", false)
  | _ => ("CellLoans$Text", "number", "I", false)
def tyX8 : Nat → FieldType := fun k => match k with
  | 0 => .array .int
  | 1 => .int
  | 2 => .int
  | 3 => .int
  | 4 => .int
  | 5 => .int
  | 6 => .int
  | 7 => .long
  | _ => .int
abbrev wsX80 : List Cond := u_ws RX8 TX8 9
theorem nmX8 : ∀ a, a < 9 → ∀ b, b < 9 → a ≠ b → (TX8 a).2.1 ≠ (TX8 b).2.1 := by decide +kernel
theorem tyX8_ok : ∀ k, k < 9 → parseFieldDescriptor (TX8 k).2.2.1 = some (tyX8 k) := by decide +kernel
abbrev cX8_init : ByteArray := prog_10_method_1_code
def yX8_init : MethodName := ⟨RX8, "<init>", "()V"⟩
abbrev cX8_append : ByteArray := prog_10_method_2_code
def yX8_append : MethodName := ⟨RX8, "append", "(I)V"⟩
abbrev cX8_begin : ByteArray := prog_10_method_3_code
def yX8_begin : MethodName := ⟨RX8, "begin", "()V"⟩
abbrev cX8_fail : ByteArray := prog_10_method_4_code
def yX8_fail : MethodName := ⟨RX8, "fail", "(I)Z"⟩
abbrev cX8_advance : ByteArray := prog_10_method_5_code
def yX8_advance : MethodName := ⟨RX8, "advance", "()V"⟩
abbrev cX8_isTooLong : ByteArray := prog_10_method_6_code
def yX8_isTooLong : MethodName := ⟨RX8, "isTooLong", "()Z"⟩
abbrev cX8_kindOf : ByteArray := prog_10_method_7_code
def yX8_kindOf : MethodName := ⟨RX8, "kindOf", "(I)I"⟩
abbrev cX8_takeName : ByteArray := prog_10_method_8_code
def yX8_takeName : MethodName := ⟨RX8, "takeName", "()Z"⟩
abbrev cX8_takeNumber : ByteArray := prog_10_method_9_code
def yX8_takeNumber : MethodName := ⟨RX8, "takeNumber", "(II)Z"⟩
abbrev cX8_takeSign : ByteArray := prog_10_method_10_code
def yX8_takeSign : MethodName := ⟨RX8, "takeSign", "(C)Z"⟩
abbrev cX8_isSign : ByteArray := prog_10_method_11_code
def yX8_isSign : MethodName := ⟨RX8, "isSign", "(C)Z"⟩
abbrev cX8_isWord : ByteArray := prog_10_method_12_code
def yX8_isWord : MethodName := ⟨RX8, "isWord", "(Ljava/lang/String;)Z"⟩
def RX9 : String := "CellLoans"
def TX9 : u_T := fun k => match k with
  | 0 => ("CellLoans", "text", "LCellLoans$Text;", true)
  | 1 => ("CellLoans", "switchReader", "LCellLoans$SwitchReader;", true)
  | 2 => ("CellLoans", "script", "LCellLoans$Script;", true)
  | 3 => ("CellLoans", "now", "LCellLoans$Switch;", true)
  | 4 => ("CellLoans", "trial", "LCellLoans$Switch;", true)
  | 5 => ("CellLoans", "saved", "LCellLoans$Switch;", true)
  | 6 => ("CellLoans", "somethingSaved", "Z", false)
  | 7 => ("CellLoans", "history", "LCellLoans$History;", true)
  | _ => ("CellLoans", "latestReport", "LCellLoans$Report;", true)
def tyX9 : Nat → FieldType := fun k => match k with
  | 0 => .object "CellLoans$Text"
  | 1 => .object "CellLoans$SwitchReader"
  | 2 => .object "CellLoans$Script"
  | 3 => .object "CellLoans$Switch"
  | 4 => .object "CellLoans$Switch"
  | 5 => .object "CellLoans$Switch"
  | 6 => .boolean
  | 7 => .object "CellLoans$History"
  | _ => .object "CellLoans$Report"
abbrev wsX90 : List Cond := u_ws RX9 TX9 9
theorem nmX9 : ∀ a, a < 9 → ∀ b, b < 9 → a ≠ b → (TX9 a).2.1 ≠ (TX9 b).2.1 := by decide +kernel
theorem tyX9_ok : ∀ k, k < 9 → parseFieldDescriptor (TX9 k).2.2.1 = some (tyX9 k) := by decide +kernel
abbrev cX9_init : ByteArray := prog_1_method_1_code
def yX9_init : MethodName := ⟨RX9, "<init>", "()V"⟩
abbrev cX9_feed : ByteArray := prog_1_method_2_code
def yX9_feed : MethodName := ⟨RX9, "feed", "(IIIII)I"⟩
abbrev cX9_truncate : ByteArray := prog_1_method_3_code
def yX9_truncate : MethodName := ⟨RX9, "truncate", "(I)I"⟩
abbrev cX9_readText : ByteArray := prog_1_method_4_code
def yX9_readText : MethodName := ⟨RX9, "readText", "()I"⟩
abbrev cX9_runScript : ByteArray := prog_1_method_5_code
def yX9_runScript : MethodName := ⟨RX9, "runScript", "()I"⟩
abbrev cX9_errorCode : ByteArray := prog_1_method_6_code
def yX9_errorCode : MethodName := ⟨RX9, "errorCode", "()I"⟩
abbrev cX9_errorPosition : ByteArray := prog_1_method_7_code
def yX9_errorPosition : MethodName := ⟨RX9, "errorPosition", "()I"⟩
abbrev cX9_setting : ByteArray := prog_1_method_8_code
def yX9_setting : MethodName := ⟨RX9, "setting", "(I)I"⟩
abbrev cX9_port : ByteArray := prog_1_method_9_code
def yX9_port : MethodName := ⟨RX9, "port", "(II)I"⟩
abbrev cX9_packet : ByteArray := prog_1_method_10_code
def yX9_packet : MethodName := ⟨RX9, "packet", "(III)I"⟩
abbrev cX9_promise : ByteArray := prog_1_method_11_code
def yX9_promise : MethodName := ⟨RX9, "promise", "(II)I"⟩
abbrev cX9_owed : ByteArray := prog_1_method_12_code
def yX9_owed : MethodName := ⟨RX9, "owed", "(II)I"⟩
abbrev cX9_drop : ByteArray := prog_1_method_13_code
def yX9_drop : MethodName := ⟨RX9, "drop", "(II)I"⟩
abbrev cX9_dropsBy : ByteArray := prog_1_method_14_code
def yX9_dropsBy : MethodName := ⟨RX9, "dropsBy", "(I)I"⟩
abbrev cX9_mostCharged : ByteArray := prog_1_method_15_code
def yX9_mostCharged : MethodName := ⟨RX9, "mostCharged", "()I"⟩
abbrev cX9_lossShare : ByteArray := prog_1_method_16_code
def yX9_lossShare : MethodName := ⟨RX9, "lossShare", "()F"⟩
abbrev cX9_meanForecast : ByteArray := prog_1_method_17_code
def yX9_meanForecast : MethodName := ⟨RX9, "meanForecast", "()D"⟩
abbrev cX9_wouldBorrow : ByteArray := prog_1_method_18_code
def yX9_wouldBorrow : MethodName := ⟨RX9, "wouldBorrow", "(II)I"⟩
abbrev cX9_wouldCall : ByteArray := prog_1_method_19_code
def yX9_wouldCall : MethodName := ⟨RX9, "wouldCall", "(II)I"⟩
abbrev cX9_wouldDrop : ByteArray := prog_1_method_20_code
def yX9_wouldDrop : MethodName := ⟨RX9, "wouldDrop", "(II)I"⟩
abbrev cX9_greatest : ByteArray := prog_1_method_21_code
def yX9_greatest : MethodName := ⟨RX9, "greatest", "(I)I"⟩
abbrev cX9_dropsIn : ByteArray := prog_1_method_22_code
def yX9_dropsIn : MethodName := ⟨RX9, "dropsIn", "(I)I"⟩
abbrev cX9_emptyIn : ByteArray := prog_1_method_23_code
def yX9_emptyIn : MethodName := ⟨RX9, "emptyIn", "()I"⟩
abbrev cX9_sentIn : ByteArray := prog_1_method_24_code
def yX9_sentIn : MethodName := ⟨RX9, "sentIn", "(II)I"⟩
abbrev cX9_arrive : ByteArray := prog_1_method_25_code
def yX9_arrive : MethodName := ⟨RX9, "arrive", "(II)I"⟩
abbrev cX9_tick : ByteArray := prog_1_method_26_code
def yX9_tick : MethodName := ⟨RX9, "tick", "(I)I"⟩
abbrev cX9_giveBack : ByteArray := prog_1_method_27_code
def yX9_giveBack : MethodName := ⟨RX9, "giveBack", "(III)I"⟩
abbrev cX9_extend : ByteArray := prog_1_method_28_code
def yX9_extend : MethodName := ⟨RX9, "extend", "(I)I"⟩
abbrev cX9_setTerm : ByteArray := prog_1_method_29_code
def yX9_setTerm : MethodName := ⟨RX9, "setTerm", "(I)I"⟩
abbrev cX9_setKeep : ByteArray := prog_1_method_30_code
def yX9_setKeep : MethodName := ⟨RX9, "setKeep", "(I)I"⟩
abbrev cX9_undo : ByteArray := prog_1_method_31_code
def yX9_undo : MethodName := ⟨RX9, "undo", "()I"⟩
abbrev cX9_report : ByteArray := prog_1_method_32_code
def yX9_report : MethodName := ⟨RX9, "report", "()I"⟩
abbrev cX9_reportByte : ByteArray := prog_1_method_33_code
def yX9_reportByte : MethodName := ⟨RX9, "reportByte", "(I)I"⟩
abbrev cX9_save : ByteArray := prog_1_method_34_code
def yX9_save : MethodName := ⟨RX9, "save", "()I"⟩
abbrev cX9_restore : ByteArray := prog_1_method_35_code
def yX9_restore : MethodName := ⟨RX9, "restore", "()I"⟩
abbrev cX9_within : ByteArray := prog_1_method_36_code
def yX9_within : MethodName := ⟨RX9, "within", "(III)Z"⟩
abbrev cX9_needWithin : ByteArray := prog_1_method_37_code
def yX9_needWithin : MethodName := ⟨RX9, "needWithin", "(III)V"⟩
abbrev cX9_needIndex : ByteArray := prog_1_method_38_code
def yX9_needIndex : MethodName := ⟨RX9, "needIndex", "(II)V"⟩
abbrev cX9_needPort : ByteArray := prog_1_method_39_code
def yX9_needPort : MethodName := ⟨RX9, "needPort", "(I)V"⟩
abbrev cX9_doCommand : ByteArray := prog_1_method_40_code
def yX9_doCommand : MethodName := ⟨RX9, "doCommand", "(I)I"⟩
abbrev cX9_mayDoBack : ByteArray := prog_1_method_41_code
def yX9_mayDoBack : MethodName := ⟨RX9, "mayDoBack", "(I)Z"⟩
def RX10 : String := "CellLoansModel"
def TX10 : u_T := fun k => match k with
  | 0 => ("CellLoansModel", "thrown", "I", false)
  | 1 => ("CellLoansModel", "s", "[I", true)
  | 2 => ("CellLoansModel", "names", "[J", true)
  | 3 => ("CellLoansModel", "o", "I", false)
  | 4 => ("CellLoansModel", "buffer", "[I", true)
  | 5 => ("CellLoansModel", "length", "I", false)
  | 6 => ("CellLoansModel", "at", "I", false)
  | 7 => ("CellLoansModel", "end", "I", false)
  | 8 => ("CellLoansModel", "token", "I", false)
  | 9 => ("CellLoansModel", "number", "I", false)
  | 10 => ("CellLoansModel", "errorCode", "I", false)
  | 11 => ("CellLoansModel", "errorPosition", "I", false)
  | 12 => ("CellLoansModel", "word", "J", false)
  | 13 => ("CellLoansModel", "hasTerm", "Z", false)
  | 14 => ("CellLoansModel", "hasKeep", "Z", false)
  | 15 => ("CellLoansModel", "undos", "I", false)
  | 16 => ("CellLoansModel", "does", "Z", false)
  | 17 => ("CellLoansModel", "isOver", "Z", false)
  | 18 => ("CellLoansModel", "depth", "I", false)
  | 19 => ("CellLoansModel", "commands", "I", false)
  | 20 => ("CellLoansModel", "done", "I", false)
  | 21 => ("CellLoansModel", "opens", "[I", true)
  | 22 => ("CellLoansModel", "again", "[I", true)
  | 23 => ("CellLoansModel", "report", "[I", true)
  | 24 => ("CellLoansModel", "reportLength", "I", false)
  | _ => ("CellLoansModel", "isSaved", "Z", false)
def tyX10 : Nat → FieldType := fun k => match k with
  | 0 => .int
  | 1 => .array .int
  | 2 => .array .long
  | 3 => .int
  | 4 => .array .int
  | 5 => .int
  | 6 => .int
  | 7 => .int
  | 8 => .int
  | 9 => .int
  | 10 => .int
  | 11 => .int
  | 12 => .long
  | 13 => .boolean
  | 14 => .boolean
  | 15 => .int
  | 16 => .boolean
  | 17 => .boolean
  | 18 => .int
  | 19 => .int
  | 20 => .int
  | 21 => .array .int
  | 22 => .array .int
  | 23 => .array .int
  | 24 => .int
  | _ => .boolean
abbrev wsX100 : List Cond := u_ws RX10 TX10 26
theorem nmX10 : ∀ a, a < 26 → ∀ b, b < 26 → a ≠ b → (TX10 a).2.1 ≠ (TX10 b).2.1 := by decide +kernel
theorem tyX10_ok : ∀ k, k < 26 → parseFieldDescriptor (TX10 k).2.2.1 = some (tyX10 k) := by decide +kernel
abbrev cX10_thrown : ByteArray := prog_12_method_1_code
def yX10_thrown : MethodName := ⟨RX10, "thrown", "()I"⟩
abbrev cX10_init : ByteArray := prog_12_method_2_code
def yX10_init : MethodName := ⟨RX10, "<init>", "()V"⟩
abbrev cX10_in : ByteArray := prog_12_method_3_code
def yX10_in : MethodName := ⟨RX10, "in", "(JJJ)Z"⟩
abbrev cX10_good : ByteArray := prog_12_method_4_code
def yX10_good : MethodName := ⟨RX10, "good", "(Z)Z"⟩
abbrev cX10_allGood : ByteArray := prog_12_method_5_code
def yX10_allGood : MethodName := ⟨RX10, "allGood", "(ZZ)Z"⟩
abbrev cX10_of : ByteArray := prog_12_method_6_code
def yX10_of : MethodName := ⟨RX10, "of", "(I)I"⟩
abbrev cX10_set : ByteArray := prog_12_method_7_code
def yX10_set : MethodName := ⟨RX10, "set", "(II)V"⟩
abbrev cX10_grows : ByteArray := prog_12_method_8_code
def yX10_grows : MethodName := ⟨RX10, "grows", "(II)V"⟩
abbrev cX10_p : ByteArray := prog_12_method_9_code
def yX10_p : MethodName := ⟨RX10, "p", "(II)I"⟩
abbrev cX10_setP : ByteArray := prog_12_method_10_code
def yX10_setP : MethodName := ⟨RX10, "setP", "(III)V"⟩
abbrev cX10_growsP : ByteArray := prog_12_method_11_code
def yX10_growsP : MethodName := ⟨RX10, "growsP", "(III)V"⟩
abbrev cX10_k : ByteArray := prog_12_method_12_code
def yX10_k : MethodName := ⟨RX10, "k", "(II)I"⟩
abbrev cX10_m : ByteArray := prog_12_method_13_code
def yX10_m : MethodName := ⟨RX10, "m", "(II)I"⟩
abbrev cX10_name : ByteArray := prog_12_method_14_code
def yX10_name : MethodName := ⟨RX10, "name", "(I)J"⟩
abbrev cX10_setName : ByteArray := prog_12_method_15_code
def yX10_setName : MethodName := ⟨RX10, "setName", "(IJ)V"⟩
abbrev cX10_clears : ByteArray := prog_12_method_16_code
def yX10_clears : MethodName := ⟨RX10, "clears", "()V"⟩
abbrev cX10_copies : ByteArray := prog_12_method_17_code
def yX10_copies : MethodName := ⟨RX10, "copies", "(II)V"⟩
abbrev cX10_four : ByteArray := prog_12_method_18_code
def yX10_four : MethodName := ⟨RX10, "four", "(I)V"⟩
abbrev cX10_feed : ByteArray := prog_12_method_19_code
def yX10_feed : MethodName := ⟨RX10, "feed", "(IIIII)I"⟩
abbrev cX10_truncate : ByteArray := prog_12_method_20_code
def yX10_truncate : MethodName := ⟨RX10, "truncate", "(I)I"⟩
abbrev cX10_byteAt : ByteArray := prog_12_method_21_code
def yX10_byteAt : MethodName := ⟨RX10, "byteAt", "(I)I"⟩
abbrev cX10_isGood : ByteArray := prog_12_method_22_code
def yX10_isGood : MethodName := ⟨RX10, "isGood", "()Z"⟩
abbrev cX10_must : ByteArray := prog_12_method_23_code
def yX10_must : MethodName := ⟨RX10, "must", "(ZI)V"⟩
abbrev cX10_scans : ByteArray := prog_12_method_24_code
def yX10_scans : MethodName := ⟨RX10, "scans", "()V"⟩
abbrev cX10_isWord : ByteArray := prog_12_method_25_code
def yX10_isWord : MethodName := ⟨RX10, "isWord", "(J)Z"⟩
abbrev cX10_isSign : ByteArray := prog_12_method_26_code
def yX10_isSign : MethodName := ⟨RX10, "isSign", "(I)Z"⟩
abbrev cX10_sign : ByteArray := prog_12_method_27_code
def yX10_sign : MethodName := ⟨RX10, "sign", "(I)V"⟩
abbrev cX10_reads : ByteArray := prog_12_method_28_code
def yX10_reads : MethodName := ⟨RX10, "reads", "(II)I"⟩
abbrev cX10_named : ByteArray := prog_12_method_29_code
def yX10_named : MethodName := ⟨RX10, "named", "()I"⟩
abbrev cX10_starts : ByteArray := prog_12_method_30_code
def yX10_starts : MethodName := ⟨RX10, "starts", "()V"⟩
abbrev cX10_readsPort : ByteArray := prog_12_method_31_code
def yX10_readsPort : MethodName := ⟨RX10, "readsPort", "()V"⟩
abbrev cX10_readsStatement : ByteArray := prog_12_method_32_code
def yX10_readsStatement : MethodName := ⟨RX10, "readsStatement", "()V"⟩
abbrev cX10_readText : ByteArray := prog_12_method_33_code
def yX10_readText : MethodName := ⟨RX10, "readText", "()I"⟩
abbrev cX10_errorCode : ByteArray := prog_12_method_34_code
def yX10_errorCode : MethodName := ⟨RX10, "errorCode", "()I"⟩
abbrev cX10_errorPosition : ByteArray := prog_12_method_35_code
def yX10_errorPosition : MethodName := ⟨RX10, "errorPosition", "()I"⟩
abbrev cX10_keeps : ByteArray := prog_12_method_36_code
def yX10_keeps : MethodName := ⟨RX10, "keeps", "()V"⟩
abbrev cX10_remembers : ByteArray := prog_12_method_37_code
def yX10_remembers : MethodName := ⟨RX10, "remembers", "()V"⟩
abbrev cX10_kept : ByteArray := prog_12_method_38_code
def yX10_kept : MethodName := ⟨RX10, "kept", "(I)I"⟩
abbrev cX10_undo : ByteArray := prog_12_method_39_code
def yX10_undo : MethodName := ⟨RX10, "undo", "()I"⟩
abbrev cX10_usedBy : ByteArray := prog_12_method_40_code
def yX10_usedBy : MethodName := ⟨RX10, "usedBy", "(I)I"⟩
abbrev cX10_lentBy : ByteArray := prog_12_method_41_code
def yX10_lentBy : MethodName := ⟨RX10, "lentBy", "(I)I"⟩
abbrev cX10_borrowedBy : ByteArray := prog_12_method_42_code
def yX10_borrowedBy : MethodName := ⟨RX10, "borrowedBy", "(I)I"⟩
abbrev cX10_roomOf : ByteArray := prog_12_method_43_code
def yX10_roomOf : MethodName := ⟨RX10, "roomOf", "(I)I"⟩
abbrev cX10_freeOf : ByteArray := prog_12_method_44_code
def yX10_freeOf : MethodName := ⟨RX10, "freeOf", "(I)I"⟩
abbrev cX10_keptBack : ByteArray := prog_12_method_45_code
def yX10_keptBack : MethodName := ⟨RX10, "keptBack", "(I)I"⟩
abbrev cX10_spareOf : ByteArray := prog_12_method_46_code
def yX10_spareOf : MethodName := ⟨RX10, "spareOf", "(I)I"⟩
abbrev cX10_canLend : ByteArray := prog_12_method_47_code
def yX10_canLend : MethodName := ⟨RX10, "canLend", "(I)I"⟩
abbrev cX10_othersCanLend : ByteArray := prog_12_method_48_code
def yX10_othersCanLend : MethodName := ⟨RX10, "othersCanLend", "(I)I"⟩
abbrev cX10_notes : ByteArray := prog_12_method_49_code
def yX10_notes : MethodName := ⟨RX10, "notes", "(IIII)V"⟩
abbrev cX10_removesPacket : ByteArray := prog_12_method_50_code
def yX10_removesPacket : MethodName := ⟨RX10, "removesPacket", "(I)V"⟩
abbrev cX10_newest : ByteArray := prog_12_method_51_code
def yX10_newest : MethodName := ⟨RX10, "newest", "(I)I"⟩
abbrev cX10_shrinks : ByteArray := prog_12_method_52_code
def yX10_shrinks : MethodName := ⟨RX10, "shrinks", "(II)V"⟩
abbrev cX10_removesPromise : ByteArray := prog_12_method_53_code
def yX10_removesPromise : MethodName := ⟨RX10, "removesPromise", "(I)V"⟩
abbrev cX10_promises : ByteArray := prog_12_method_54_code
def yX10_promises : MethodName := ⟨RX10, "promises", "(IIII)I"⟩
abbrev cX10_lessens : ByteArray := prog_12_method_55_code
def yX10_lessens : MethodName := ⟨RX10, "lessens", "(II)Z"⟩
abbrev cX10_owedTo : ByteArray := prog_12_method_56_code
def yX10_owedTo : MethodName := ⟨RX10, "owedTo", "(II)I"⟩
abbrev cX10_calls : ByteArray := prog_12_method_57_code
def yX10_calls : MethodName := ⟨RX10, "calls", "(II)V"⟩
abbrev cX10_borrows : ByteArray := prog_12_method_58_code
def yX10_borrows : MethodName := ⟨RX10, "borrows", "(II)V"⟩
abbrev cX10_takes : ByteArray := prog_12_method_59_code
def yX10_takes : MethodName := ⟨RX10, "takes", "(II)V"⟩
abbrev cX10_wayIn : ByteArray := prog_12_method_60_code
def yX10_wayIn : MethodName := ⟨RX10, "wayIn", "(II)I"⟩
abbrev cX10_arrives : ByteArray := prog_12_method_61_code
def yX10_arrives : MethodName := ⟨RX10, "arrives", "(II)I"⟩
abbrev cX10_fallsDue : ByteArray := prog_12_method_62_code
def yX10_fallsDue : MethodName := ⟨RX10, "fallsDue", "()V"⟩
abbrev cX10_sends : ByteArray := prog_12_method_63_code
def yX10_sends : MethodName := ⟨RX10, "sends", "(I)I"⟩
abbrev cX10_forecasts : ByteArray := prog_12_method_64_code
def yX10_forecasts : MethodName := ⟨RX10, "forecasts", "()V"⟩
abbrev cX10_ticksOne : ByteArray := prog_12_method_65_code
def yX10_ticksOne : MethodName := ⟨RX10, "ticksOne", "()V"⟩
abbrev cX10_ticksAll : ByteArray := prog_12_method_66_code
def yX10_ticksAll : MethodName := ⟨RX10, "ticksAll", "(I)I"⟩
abbrev cX10_canGive : ByteArray := prog_12_method_67_code
def yX10_canGive : MethodName := ⟨RX10, "canGive", "(III)Z"⟩
abbrev cX10_gives : ByteArray := prog_12_method_68_code
def yX10_gives : MethodName := ⟨RX10, "gives", "(III)I"⟩
abbrev cX10_isPromise : ByteArray := prog_12_method_69_code
def yX10_isPromise : MethodName := ⟨RX10, "isPromise", "(I)Z"⟩
abbrev cX10_canExtend : ByteArray := prog_12_method_70_code
def yX10_canExtend : MethodName := ⟨RX10, "canExtend", "(I)Z"⟩
abbrev cX10_extends1 : ByteArray := prog_12_method_71_code
def yX10_extends1 : MethodName := ⟨RX10, "extends1", "(I)I"⟩
abbrev cX10_sets : ByteArray := prog_12_method_72_code
def yX10_sets : MethodName := ⟨RX10, "sets", "(II)I"⟩
abbrev cX10_isPort : ByteArray := prog_12_method_73_code
def yX10_isPort : MethodName := ⟨RX10, "isPort", "(I)Z"⟩
abbrev cX10_isCells : ByteArray := prog_12_method_74_code
def yX10_isCells : MethodName := ⟨RX10, "isCells", "(I)Z"⟩
abbrev cX10_setting : ByteArray := prog_12_method_75_code
def yX10_setting : MethodName := ⟨RX10, "setting", "(I)I"⟩
abbrev cX10_sumOf : ByteArray := prog_12_method_76_code
def yX10_sumOf : MethodName := ⟨RX10, "sumOf", "(I)I"⟩
abbrev cX10_waiting : ByteArray := prog_12_method_77_code
def yX10_waiting : MethodName := ⟨RX10, "waiting", "(I)I"⟩
abbrev cX10_port : ByteArray := prog_12_method_78_code
def yX10_port : MethodName := ⟨RX10, "port", "(II)I"⟩
abbrev cX10_portMore : ByteArray := prog_12_method_79_code
def yX10_portMore : MethodName := ⟨RX10, "portMore", "(II)I"⟩
abbrev cX10_packetOf : ByteArray := prog_12_method_80_code
def yX10_packetOf : MethodName := ⟨RX10, "packetOf", "(II)I"⟩
abbrev cX10_packet : ByteArray := prog_12_method_81_code
def yX10_packet : MethodName := ⟨RX10, "packet", "(III)I"⟩
abbrev cX10_promise : ByteArray := prog_12_method_82_code
def yX10_promise : MethodName := ⟨RX10, "promise", "(II)I"⟩
abbrev cX10_owed : ByteArray := prog_12_method_83_code
def yX10_owed : MethodName := ⟨RX10, "owed", "(II)I"⟩
abbrev cX10_drop : ByteArray := prog_12_method_84_code
def yX10_drop : MethodName := ⟨RX10, "drop", "(II)I"⟩
abbrev cX10_dropsBy : ByteArray := prog_12_method_85_code
def yX10_dropsBy : MethodName := ⟨RX10, "dropsBy", "(I)I"⟩
abbrev cX10_mostCharged : ByteArray := prog_12_method_86_code
def yX10_mostCharged : MethodName := ⟨RX10, "mostCharged", "()I"⟩
abbrev cX10_lossShare : ByteArray := prog_12_method_87_code
def yX10_lossShare : MethodName := ⟨RX10, "lossShare", "()F"⟩
abbrev cX10_meanForecast : ByteArray := prog_12_method_88_code
def yX10_meanForecast : MethodName := ⟨RX10, "meanForecast", "()D"⟩
abbrev cX10_wouldBorrow : ByteArray := prog_12_method_89_code
def yX10_wouldBorrow : MethodName := ⟨RX10, "wouldBorrow", "(II)I"⟩
abbrev cX10_wouldCall : ByteArray := prog_12_method_90_code
def yX10_wouldCall : MethodName := ⟨RX10, "wouldCall", "(II)I"⟩
abbrev cX10_wouldDrop : ByteArray := prog_12_method_91_code
def yX10_wouldDrop : MethodName := ⟨RX10, "wouldDrop", "(II)I"⟩
abbrev cX10_greatest : ByteArray := prog_12_method_92_code
def yX10_greatest : MethodName := ⟨RX10, "greatest", "(I)I"⟩
abbrev cX10_dropsIn : ByteArray := prog_12_method_93_code
def yX10_dropsIn : MethodName := ⟨RX10, "dropsIn", "(I)I"⟩
abbrev cX10_emptyIn : ByteArray := prog_12_method_94_code
def yX10_emptyIn : MethodName := ⟨RX10, "emptyIn", "()I"⟩
abbrev cX10_sentIn : ByteArray := prog_12_method_95_code
def yX10_sentIn : MethodName := ⟨RX10, "sentIn", "(II)I"⟩
abbrev cX10_thenSent : ByteArray := prog_12_method_96_code
def yX10_thenSent : MethodName := ⟨RX10, "thenSent", "(II)I"⟩
abbrev cX10_arrive : ByteArray := prog_12_method_97_code
def yX10_arrive : MethodName := ⟨RX10, "arrive", "(II)I"⟩
abbrev cX10_isTicks : ByteArray := prog_12_method_98_code
def yX10_isTicks : MethodName := ⟨RX10, "isTicks", "(I)Z"⟩
abbrev cX10_isKeep : ByteArray := prog_12_method_99_code
def yX10_isKeep : MethodName := ⟨RX10, "isKeep", "(I)Z"⟩
abbrev cX10_tick : ByteArray := prog_12_method_100_code
def yX10_tick : MethodName := ⟨RX10, "tick", "(I)I"⟩
abbrev cX10_giveBack : ByteArray := prog_12_method_101_code
def yX10_giveBack : MethodName := ⟨RX10, "giveBack", "(III)I"⟩
abbrev cX10_extend : ByteArray := prog_12_method_102_code
def yX10_extend : MethodName := ⟨RX10, "extend", "(I)I"⟩
abbrev cX10_setTerm : ByteArray := prog_12_method_103_code
def yX10_setTerm : MethodName := ⟨RX10, "setTerm", "(I)I"⟩
abbrev cX10_setKeep : ByteArray := prog_12_method_104_code
def yX10_setKeep : MethodName := ⟨RX10, "setKeep", "(I)I"⟩
abbrev cX10_isDoing : ByteArray := prog_12_method_105_code
def yX10_isDoing : MethodName := ⟨RX10, "isDoing", "()Z"⟩
abbrev cX10_counts : ByteArray := prog_12_method_106_code
def yX10_counts : MethodName := ⟨RX10, "counts", "(Z)V"⟩
abbrev cX10_readsAny : ByteArray := prog_12_method_107_code
def yX10_readsAny : MethodName := ⟨RX10, "readsAny", "()I"⟩
abbrev cX10_readsName : ByteArray := prog_12_method_108_code
def yX10_readsName : MethodName := ⟨RX10, "readsName", "()I"⟩
abbrev cX10_readsArrive : ByteArray := prog_12_method_109_code
def yX10_readsArrive : MethodName := ⟨RX10, "readsArrive", "()V"⟩
abbrev cX10_readsBack : ByteArray := prog_12_method_110_code
def yX10_readsBack : MethodName := ⟨RX10, "readsBack", "()V"⟩
abbrev cX10_readsNumber : ByteArray := prog_12_method_111_code
def yX10_readsNumber : MethodName := ⟨RX10, "readsNumber", "()V"⟩
abbrev cX10_opensRepeat : ByteArray := prog_12_method_112_code
def yX10_opensRepeat : MethodName := ⟨RX10, "opensRepeat", "()V"⟩
abbrev cX10_closesRepeat : ByteArray := prog_12_method_113_code
def yX10_closesRepeat : MethodName := ⟨RX10, "closesRepeat", "()V"⟩
abbrev cX10_readsCommand : ByteArray := prog_12_method_114_code
def yX10_readsCommand : MethodName := ⟨RX10, "readsCommand", "()V"⟩
abbrev cX10_goes : ByteArray := prog_12_method_115_code
def yX10_goes : MethodName := ⟨RX10, "goes", "(Z)V"⟩
abbrev cX10_runScript : ByteArray := prog_12_method_116_code
def yX10_runScript : MethodName := ⟨RX10, "runScript", "()I"⟩
abbrev cX10_writes : ByteArray := prog_12_method_117_code
def yX10_writes : MethodName := ⟨RX10, "writes", "(I)V"⟩
abbrev cX10_writesNumber : ByteArray := prog_12_method_118_code
def yX10_writesNumber : MethodName := ⟨RX10, "writesNumber", "(I)V"⟩
abbrev cX10_writesName : ByteArray := prog_12_method_119_code
def yX10_writesName : MethodName := ⟨RX10, "writesName", "(J)V"⟩
abbrev cX10_report : ByteArray := prog_12_method_120_code
def yX10_report : MethodName := ⟨RX10, "report", "()I"⟩
abbrev cX10_reportByte : ByteArray := prog_12_method_121_code
def yX10_reportByte : MethodName := ⟨RX10, "reportByte", "(I)I"⟩
abbrev cX10_save : ByteArray := prog_12_method_122_code
def yX10_save : MethodName := ⟨RX10, "save", "()I"⟩
abbrev cX10_restore : ByteArray := prog_12_method_123_code
def yX10_restore : MethodName := ⟨RX10, "restore", "()I"⟩
def RJ9 : String := "java/lang/Math"
def TJ9 : u_T := fun k => match k with
  | _ => ("", "", "", false)
def tyJ9 : Nat → FieldType := fun k => match k with
  | _ => .int
abbrev wsJ90 : List Cond := u_ws RJ9 TJ9 0
theorem nmJ9 : ∀ a, a < 0 → ∀ b, b < 0 → a ≠ b → (TJ9 a).2.1 ≠ (TJ9 b).2.1 := by decide +kernel
theorem tyJ9_ok : ∀ k, k < 0 → parseFieldDescriptor (TJ9 k).2.2.1 = some (tyJ9 k) := by decide +kernel
abbrev cJ9_max_7cf53 : ByteArray := prog_17_method_65_code
def yJ9_max_7cf53 : MethodName := ⟨RJ9, "max", "(II)I"⟩
abbrev cJ9_min_7cf53 : ByteArray := prog_17_method_69_code
def yJ9_min_7cf53 : MethodName := ⟨RJ9, "min", "(II)I"⟩
def RJ0 : String := "java/lang/String"
def TJ0 : u_T := fun k => match k with
  | _ => ("", "", "", false)
def tyJ0 : Nat → FieldType := fun k => match k with
  | _ => .int
abbrev wsJ00 : List Cond := u_ws RJ0 TJ0 0
theorem nmJ0 : ∀ a, a < 0 → ∀ b, b < 0 → a ≠ b → (TJ0 a).2.1 ≠ (TJ0 b).2.1 := by decide +kernel
theorem tyJ0_ok : ∀ k, k < 0 → parseFieldDescriptor (TJ0 k).2.2.1 = some (tyJ0 k) := by decide +kernel
abbrev cJ0_length_8abf5 : ByteArray := prog_19_method_54_code
def yJ0_length_8abf5 : MethodName := ⟨RJ0, "length", "()I"⟩
abbrev cJ0_charAt_5068e : ByteArray := prog_19_method_56_code
def yJ0_charAt_5068e : MethodName := ⟨RJ0, "charAt", "(I)C"⟩
abbrev cJ0_coder_7d493 : ByteArray := prog_19_method_152_code
def yJ0_coder_7d493 : MethodName := ⟨RJ0, "coder", "()B"⟩
abbrev cJ0_isLatin1_aae02 : ByteArray := prog_19_method_154_code
def yJ0_isLatin1_aae02 : MethodName := ⟨RJ0, "isLatin1", "()Z"⟩
abbrev cJ0_checkIndex_df160 : ByteArray := prog_19_method_155_code
def yJ0_checkIndex_df160 : MethodName := ⟨RJ0, "checkIndex", "(II)V"⟩
def RJ1 : String := "java/lang/StringLatin1"
def TJ1 : u_T := fun k => match k with
  | _ => ("", "", "", false)
def tyJ1 : Nat → FieldType := fun k => match k with
  | _ => .int
abbrev wsJ10 : List Cond := u_ws RJ1 TJ1 0
theorem nmJ1 : ∀ a, a < 0 → ∀ b, b < 0 → a ≠ b → (TJ1 a).2.1 ≠ (TJ1 b).2.1 := by decide +kernel
theorem tyJ1_ok : ∀ k, k < 0 → parseFieldDescriptor (TJ1 k).2.2.1 = some (tyJ1 k) := by decide +kernel
abbrev cJ1_charAt_3b067 : ByteArray := prog_20_method_2_code
def yJ1_charAt_3b067 : MethodName := ⟨RJ1, "charAt", "([BI)C"⟩
def RJ2 : String := "java/lang/StringUTF16"
def TJ2 : u_T := fun k => match k with
  | _ => ("", "", "", false)
def tyJ2 : Nat → FieldType := fun k => match k with
  | _ => .int
abbrev wsJ20 : List Cond := u_ws RJ2 TJ2 0
theorem nmJ2 : ∀ a, a < 0 → ∀ b, b < 0 → a ≠ b → (TJ2 a).2.1 ≠ (TJ2 b).2.1 := by decide +kernel
theorem tyJ2_ok : ∀ k, k < 0 → parseFieldDescriptor (TJ2 k).2.2.1 = some (tyJ2 k) := by decide +kernel
abbrev cJ2_getChar_3b067 : ByteArray := prog_21_method_5_code
def yJ2_getChar_3b067 : MethodName := ⟨RJ2, "getChar", "([BI)C"⟩
abbrev cJ2_length_9d52b : ByteArray := prog_21_method_6_code
def yJ2_length_9d52b : MethodName := ⟨RJ2, "length", "([B)I"⟩
abbrev cJ2_charAt_3b067 : ByteArray := prog_21_method_83_code
def yJ2_charAt_3b067 : MethodName := ⟨RJ2, "charAt", "([BI)C"⟩
abbrev cJ2_checkIndex_2214a : ByteArray := prog_21_method_91_code
def yJ2_checkIndex_2214a : MethodName := ⟨RJ2, "checkIndex", "(I[B)V"⟩
def RJ3 : String := "jdk/internal/util/Preconditions"
def TJ3 : u_T := fun k => match k with
  | _ => ("", "", "", false)
def tyJ3 : Nat → FieldType := fun k => match k with
  | _ => .int
abbrev wsJ30 : List Cond := u_ws RJ3 TJ3 0
theorem nmJ3 : ∀ a, a < 0 → ∀ b, b < 0 → a ≠ b → (TJ3 a).2.1 ≠ (TJ3 b).2.1 := by decide +kernel
theorem tyJ3_ok : ∀ k, k < 0 → parseFieldDescriptor (TJ3 k).2.2.1 = some (tyJ3 k) := by decide +kernel
abbrev cJ3_checkIndex_8e157 : ByteArray := prog_23_method_11_code
def yJ3_checkIndex_8e157 : MethodName := ⟨RJ3, "checkIndex", "(IILjava/util/function/BiFunction;)I"⟩
def RL : String := "CellLoansLaw"
abbrev cL_feed : ByteArray := method_3_code
def yL_feed : MethodName := ⟨RL, "feed", "(LCellLoans;IIIII[J)I"⟩
abbrev cL_truncate : ByteArray := method_4_code
def yL_truncate : MethodName := ⟨RL, "truncate", "(LCellLoans;I[J)I"⟩
abbrev cL_readText : ByteArray := method_5_code
def yL_readText : MethodName := ⟨RL, "readText", "(LCellLoans;[J)I"⟩
abbrev cL_runScript : ByteArray := method_6_code
def yL_runScript : MethodName := ⟨RL, "runScript", "(LCellLoans;[J)I"⟩
abbrev cL_setting : ByteArray := method_7_code
def yL_setting : MethodName := ⟨RL, "setting", "(LCellLoans;I[J)I"⟩
abbrev cL_port : ByteArray := method_8_code
def yL_port : MethodName := ⟨RL, "port", "(LCellLoans;II[J)I"⟩
abbrev cL_packet : ByteArray := method_9_code
def yL_packet : MethodName := ⟨RL, "packet", "(LCellLoans;III[J)I"⟩
abbrev cL_promise : ByteArray := method_10_code
def yL_promise : MethodName := ⟨RL, "promise", "(LCellLoans;II[J)I"⟩
abbrev cL_owed : ByteArray := method_11_code
def yL_owed : MethodName := ⟨RL, "owed", "(LCellLoans;II[J)I"⟩
abbrev cL_drop : ByteArray := method_12_code
def yL_drop : MethodName := ⟨RL, "drop", "(LCellLoans;II[J)I"⟩
abbrev cL_dropsBy : ByteArray := method_13_code
def yL_dropsBy : MethodName := ⟨RL, "dropsBy", "(LCellLoans;I[J)I"⟩
abbrev cL_wouldBorrow : ByteArray := method_14_code
def yL_wouldBorrow : MethodName := ⟨RL, "wouldBorrow", "(LCellLoans;II[J)I"⟩
abbrev cL_wouldCall : ByteArray := method_15_code
def yL_wouldCall : MethodName := ⟨RL, "wouldCall", "(LCellLoans;II[J)I"⟩
abbrev cL_wouldDrop : ByteArray := method_16_code
def yL_wouldDrop : MethodName := ⟨RL, "wouldDrop", "(LCellLoans;II[J)I"⟩
abbrev cL_greatest : ByteArray := method_17_code
def yL_greatest : MethodName := ⟨RL, "greatest", "(LCellLoans;I[J)I"⟩
abbrev cL_dropsIn : ByteArray := method_18_code
def yL_dropsIn : MethodName := ⟨RL, "dropsIn", "(LCellLoans;I[J)I"⟩
abbrev cL_sentIn : ByteArray := method_19_code
def yL_sentIn : MethodName := ⟨RL, "sentIn", "(LCellLoans;II[J)I"⟩
abbrev cL_arrive : ByteArray := method_20_code
def yL_arrive : MethodName := ⟨RL, "arrive", "(LCellLoans;II[J)I"⟩
abbrev cL_tick : ByteArray := method_21_code
def yL_tick : MethodName := ⟨RL, "tick", "(LCellLoans;I[J)I"⟩
abbrev cL_giveBack : ByteArray := method_22_code
def yL_giveBack : MethodName := ⟨RL, "giveBack", "(LCellLoans;III[J)I"⟩
abbrev cL_extend : ByteArray := method_23_code
def yL_extend : MethodName := ⟨RL, "extend", "(LCellLoans;I[J)I"⟩
abbrev cL_setTerm : ByteArray := method_24_code
def yL_setTerm : MethodName := ⟨RL, "setTerm", "(LCellLoans;I[J)I"⟩
abbrev cL_setKeep : ByteArray := method_25_code
def yL_setKeep : MethodName := ⟨RL, "setKeep", "(LCellLoans;I[J)I"⟩
abbrev cL_reportByte : ByteArray := method_26_code
def yL_reportByte : MethodName := ⟨RL, "reportByte", "(LCellLoans;I[J)I"⟩
abbrev cL_restore : ByteArray := method_27_code
def yL_restore : MethodName := ⟨RL, "restore", "(LCellLoans;[J)I"⟩
abbrev cL_law : ByteArray := code
def yL_law : MethodName := ⟨RL, "law", "([I)Z"⟩
abbrev vwCl : List vw_C := [(RX0, TX0, 3), (RX1, TX1, 6), (RX2, TX2, 15), (RX3, TX3, 5), (RX4, TX4, 2), (RX5, TX5, 9), (RX6, TX6, 8), (RX7, TX7, 2), (RX8, TX8, 9), (RX9, TX9, 9), (RX10, TX10, 26)]
