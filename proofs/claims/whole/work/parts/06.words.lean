/-! WORDS of the tables by their places (printed by a program) -/
theorem lw_at (i : Nat) {w : Cond} (h : tables_1[i]? = some w) : w ∈ lw_tbl := List.mem_append_right _ (List.mem_of_getElem? h)
theorem lw_pv (i : Nat) {q : MethodName × Nat} (h : lw_privs[i]? = some q) : Cond.selects q.1.cls q.1 q.1 ∈ lw_tbl := List.mem_append_left _ (List.mem_map.mpr ⟨q, List.mem_of_getElem? h, rfl⟩)
theorem dk {T : List (Nat × Instr × Nat)} {c : ByteArray} (h : ∀ q ∈ T, decode c q.1 = .ok q.2) (i : Nat) {pc : Nat} {x : Instr} {len : Nat} (hm : T[i]? = some (pc, x, len)) : decode c pc = .ok (x, len) := h (pc, x, len) (List.mem_of_getElem? hm)
theorem in_X0 : ∀ w ∈ u_ws RX0 TX0 (nf 0), w ∈ AW := by decide +kernel
theorem ini_X0 : Cond.initialized RX0 ∈ AW := AW_in (lw_at 9 (by decide +kernel : tables_1[9]? = some (Cond.initialized RX0))) rfl
theorem ck_X0 : 0 < 11 := by decide
theorem fk_X0_0 : 0 < nf 0 := by decide
theorem fk_X0_1 : 1 < nf 0 := by decide
theorem fk_X0_2 : 2 < nf 0 := by decide
theorem in_X1 : ∀ w ∈ u_ws RX1 TX1 (nf 1), w ∈ AW := by decide +kernel
theorem ini_X1 : Cond.initialized RX1 ∈ AW := AW_in (lw_at 7 (by decide +kernel : tables_1[7]? = some (Cond.initialized RX1))) rfl
theorem ck_X1 : 1 < 11 := by decide
theorem fk_X1_0 : 0 < nf 1 := by decide
theorem fk_X1_1 : 1 < nf 1 := by decide
theorem fk_X1_2 : 2 < nf 1 := by decide
theorem fk_X1_3 : 3 < nf 1 := by decide
theorem fk_X1_4 : 4 < nf 1 := by decide
theorem fk_X1_5 : 5 < nf 1 := by decide
theorem in_X2 : ∀ w ∈ u_ws RX2 TX2 (nf 2), w ∈ AW := by decide +kernel
theorem ini_X2 : Cond.initialized RX2 ∈ AW := AW_in (lw_at 8 (by decide +kernel : tables_1[8]? = some (Cond.initialized RX2))) rfl
theorem ck_X2 : 2 < 11 := by decide
theorem fk_X2_0 : 0 < nf 2 := by decide
theorem fk_X2_1 : 1 < nf 2 := by decide
theorem fk_X2_2 : 2 < nf 2 := by decide
theorem fk_X2_3 : 3 < nf 2 := by decide
theorem fk_X2_4 : 4 < nf 2 := by decide
theorem fk_X2_5 : 5 < nf 2 := by decide
theorem fk_X2_6 : 6 < nf 2 := by decide
theorem fk_X2_7 : 7 < nf 2 := by decide
theorem fk_X2_8 : 8 < nf 2 := by decide
theorem fk_X2_9 : 9 < nf 2 := by decide
theorem fk_X2_10 : 10 < nf 2 := by decide
theorem fk_X2_11 : 11 < nf 2 := by decide
theorem fk_X2_12 : 12 < nf 2 := by decide
theorem fk_X2_13 : 13 < nf 2 := by decide
theorem fk_X2_14 : 14 < nf 2 := by decide
theorem in_X3 : ∀ w ∈ u_ws RX3 TX3 (nf 3), w ∈ AW := by decide +kernel
theorem ini_X3 : Cond.initialized RX3 ∈ AW := AW_in (lw_at 6 (by decide +kernel : tables_1[6]? = some (Cond.initialized RX3))) rfl
theorem ck_X3 : 3 < 11 := by decide
theorem fk_X3_0 : 0 < nf 3 := by decide
theorem fk_X3_1 : 1 < nf 3 := by decide
theorem fk_X3_2 : 2 < nf 3 := by decide
theorem fk_X3_3 : 3 < nf 3 := by decide
theorem fk_X3_4 : 4 < nf 3 := by decide
theorem in_X4 : ∀ w ∈ u_ws RX4 TX4 (nf 4), w ∈ AW := by decide +kernel
theorem ini_X4 : Cond.initialized RX4 ∈ AW := AW_in (lw_at 10 (by decide +kernel : tables_1[10]? = some (Cond.initialized RX4))) rfl
theorem ck_X4 : 4 < 11 := by decide
theorem fk_X4_0 : 0 < nf 4 := by decide
theorem fk_X4_1 : 1 < nf 4 := by decide
theorem in_X5 : ∀ w ∈ u_ws RX5 TX5 (nf 5), w ∈ AW := by decide +kernel
theorem ini_X5 : Cond.initialized RX5 ∈ AW := AW_in (lw_at 4 (by decide +kernel : tables_1[4]? = some (Cond.initialized RX5))) rfl
theorem ck_X5 : 5 < 11 := by decide
theorem fk_X5_0 : 0 < nf 5 := by decide
theorem fk_X5_1 : 1 < nf 5 := by decide
theorem fk_X5_2 : 2 < nf 5 := by decide
theorem fk_X5_3 : 3 < nf 5 := by decide
theorem fk_X5_4 : 4 < nf 5 := by decide
theorem fk_X5_5 : 5 < nf 5 := by decide
theorem fk_X5_6 : 6 < nf 5 := by decide
theorem fk_X5_7 : 7 < nf 5 := by decide
theorem fk_X5_8 : 8 < nf 5 := by decide
theorem in_X6 : ∀ w ∈ u_ws RX6 TX6 (nf 6), w ∈ AW := by decide +kernel
theorem ini_X6 : Cond.initialized RX6 ∈ AW := AW_in (lw_at 5 (by decide +kernel : tables_1[5]? = some (Cond.initialized RX6))) rfl
theorem ck_X6 : 6 < 11 := by decide
theorem fk_X6_0 : 0 < nf 6 := by decide
theorem fk_X6_1 : 1 < nf 6 := by decide
theorem fk_X6_2 : 2 < nf 6 := by decide
theorem fk_X6_3 : 3 < nf 6 := by decide
theorem fk_X6_4 : 4 < nf 6 := by decide
theorem fk_X6_5 : 5 < nf 6 := by decide
theorem fk_X6_6 : 6 < nf 6 := by decide
theorem fk_X6_7 : 7 < nf 6 := by decide
theorem in_X7 : ∀ w ∈ u_ws RX7 TX7 (nf 7), w ∈ AW := by decide +kernel
theorem ini_X7 : Cond.initialized RX7 ∈ AW := AW_in (lw_at 3 (by decide +kernel : tables_1[3]? = some (Cond.initialized RX7))) rfl
theorem ck_X7 : 7 < 11 := by decide
theorem fk_X7_0 : 0 < nf 7 := by decide
theorem fk_X7_1 : 1 < nf 7 := by decide
theorem in_X8 : ∀ w ∈ u_ws RX8 TX8 (nf 8), w ∈ AW := by decide +kernel
theorem ini_X8 : Cond.initialized RX8 ∈ AW := AW_in (lw_at 2 (by decide +kernel : tables_1[2]? = some (Cond.initialized RX8))) rfl
theorem ck_X8 : 8 < 11 := by decide
theorem fk_X8_0 : 0 < nf 8 := by decide
theorem fk_X8_1 : 1 < nf 8 := by decide
theorem fk_X8_2 : 2 < nf 8 := by decide
theorem fk_X8_3 : 3 < nf 8 := by decide
theorem fk_X8_4 : 4 < nf 8 := by decide
theorem fk_X8_5 : 5 < nf 8 := by decide
theorem fk_X8_6 : 6 < nf 8 := by decide
theorem fk_X8_7 : 7 < nf 8 := by decide
theorem fk_X8_8 : 8 < nf 8 := by decide
theorem in_X9 : ∀ w ∈ u_ws RX9 TX9 (nf 9), w ∈ AW := by decide +kernel
theorem ini_X9 : Cond.initialized RX9 ∈ AW := AW_in (lw_at 1 (by decide +kernel : tables_1[1]? = some (Cond.initialized RX9))) rfl
theorem ck_X9 : 9 < 11 := by decide
theorem fk_X9_0 : 0 < nf 9 := by decide
theorem fk_X9_1 : 1 < nf 9 := by decide
theorem fk_X9_2 : 2 < nf 9 := by decide
theorem fk_X9_3 : 3 < nf 9 := by decide
theorem fk_X9_4 : 4 < nf 9 := by decide
theorem fk_X9_5 : 5 < nf 9 := by decide
theorem fk_X9_6 : 6 < nf 9 := by decide
theorem fk_X9_7 : 7 < nf 9 := by decide
theorem fk_X9_8 : 8 < nf 9 := by decide
theorem in_X10 : ∀ w ∈ u_ws RX10 TX10 (nf 10), w ∈ AW := by decide +kernel
theorem ini_X10 : Cond.initialized RX10 ∈ AW := AW_in (lw_at 11 (by decide +kernel : tables_1[11]? = some (Cond.initialized RX10))) rfl
theorem ck_X10 : 10 < 11 := by decide
theorem fk_X10_0 : 0 < nf 10 := by decide
theorem fk_X10_1 : 1 < nf 10 := by decide
theorem fk_X10_2 : 2 < nf 10 := by decide
theorem fk_X10_3 : 3 < nf 10 := by decide
theorem fk_X10_4 : 4 < nf 10 := by decide
theorem fk_X10_5 : 5 < nf 10 := by decide
theorem fk_X10_6 : 6 < nf 10 := by decide
theorem fk_X10_7 : 7 < nf 10 := by decide
theorem fk_X10_8 : 8 < nf 10 := by decide
theorem fk_X10_9 : 9 < nf 10 := by decide
theorem fk_X10_10 : 10 < nf 10 := by decide
theorem fk_X10_11 : 11 < nf 10 := by decide
theorem fk_X10_12 : 12 < nf 10 := by decide
theorem fk_X10_13 : 13 < nf 10 := by decide
theorem fk_X10_14 : 14 < nf 10 := by decide
theorem fk_X10_15 : 15 < nf 10 := by decide
theorem fk_X10_16 : 16 < nf 10 := by decide
theorem fk_X10_17 : 17 < nf 10 := by decide
theorem fk_X10_18 : 18 < nf 10 := by decide
theorem fk_X10_19 : 19 < nf 10 := by decide
theorem fk_X10_20 : 20 < nf 10 := by decide
theorem fk_X10_21 : 21 < nf 10 := by decide
theorem fk_X10_22 : 22 < nf 10 := by decide
theorem fk_X10_23 : 23 < nf 10 := by decide
theorem fk_X10_24 : 24 < nf 10 := by decide
theorem fk_X10_25 : 25 < nf 10 := by decide
theorem ini_Math : Cond.initialized "java/lang/Math" ∈ AW := AW_in (lw_at 21 (by decide +kernel : tables_1[21]? = some (Cond.initialized "java/lang/Math"))) rfl
theorem mst_min : Cond.static Lib.Math.min.name ∈ AW := AW_in (lw_at 476 (by decide +kernel : tables_1[476]? = some (Cond.static Lib.Math.min.name))) rfl
theorem mco_min : Cond.code Lib.Math.min.name Lib.Math.min.code 2 (some .int) ∈ AW := AW_in (lw_at 477 (by decide +kernel : tables_1[477]? = some (Cond.code Lib.Math.min.name Lib.Math.min.code 2 (some .int)))) rfl
theorem mst_max : Cond.static Lib.Math.max.name ∈ AW := AW_in (lw_at 420 (by decide +kernel : tables_1[420]? = some (Cond.static Lib.Math.max.name))) rfl
theorem mco_max : Cond.code Lib.Math.max.name Lib.Math.max.code 2 (some .int) ∈ AW := AW_in (lw_at 421 (by decide +kernel : tables_1[421]? = some (Cond.code Lib.Math.max.name Lib.Math.max.code 2 (some .int)))) rfl
theorem m_X0_init : MOK yX0_init cX0_init 2 none 0 := ⟨lw_at 311 (by decide +kernel), ini_X0, ⟨by decide, by decide, by decide +kernel⟩, by decide, by decide +kernel⟩
theorem iw_X0_init : Cond.instanceMethod yX0_init ∈ AW := AW_in (lw_at 310 (by decide +kernel : tables_1[310]? = some (Cond.instanceMethod yX0_init))) rfl
theorem m_X0_forget : MOK yX0_forget cX0_forget 1 none 0 := ⟨lw_at 781 (by decide +kernel), ini_X0, ⟨by decide, by decide, by decide +kernel⟩, by decide, by decide +kernel⟩
theorem v_X0_forget : VOK yX0_forget := ⟨AW_in (lw_at 779 (by decide +kernel : tables_1[779]? = some (Cond.instanceMethod yX0_forget))) rfl, AW_in (lw_at 780 (by decide +kernel)) rfl⟩
theorem m_X0_remember : MOK yX0_remember cX0_remember 2 none 1 := ⟨lw_at 838 (by decide +kernel), ini_X0, ⟨by decide, by decide, by decide +kernel⟩, by decide, by decide +kernel⟩
theorem v_X0_remember : VOK yX0_remember := ⟨AW_in (lw_at 836 (by decide +kernel : tables_1[836]? = some (Cond.instanceMethod yX0_remember))) rfl, AW_in (lw_at 837 (by decide +kernel)) rfl⟩
theorem m_X0_bringBack : MOK yX0_bringBack cX0_bringBack 2 none 1 := ⟨lw_at 493 (by decide +kernel), ini_X0, ⟨by decide, by decide, by decide +kernel⟩, by decide, by decide +kernel⟩
theorem v_X0_bringBack : VOK yX0_bringBack := ⟨AW_in (lw_at 491 (by decide +kernel : tables_1[491]? = some (Cond.instanceMethod yX0_bringBack))) rfl, AW_in (lw_at 492 (by decide +kernel)) rfl⟩
theorem m_X1_init : MOK yX1_init cX1_init 1 none 0 := ⟨lw_at 175 (by decide +kernel), ini_X1, ⟨by decide, by decide, by decide +kernel⟩, by decide, by decide +kernel⟩
theorem iw_X1_init : Cond.instanceMethod yX1_init ∈ AW := AW_in (lw_at 174 (by decide +kernel : tables_1[174]? = some (Cond.instanceMethod yX1_init))) rfl
theorem m_X1_clear : MOK yX1_clear cX1_clear 2 none 0 := ⟨lw_at 653 (by decide +kernel), ini_X1, ⟨by decide, by decide, by decide +kernel⟩, by decide, by decide +kernel⟩
theorem v_X1_clear : VOK yX1_clear := ⟨AW_in (lw_at 651 (by decide +kernel : tables_1[651]? = some (Cond.instanceMethod yX1_clear))) rfl, AW_in (lw_at 652 (by decide +kernel)) rfl⟩
theorem m_X1_copyFrom : MOK yX1_copyFrom cX1_copyFrom 3 none 1 := ⟨lw_at 445 (by decide +kernel), ini_X1, ⟨by decide, by decide, by decide +kernel⟩, by decide, by decide +kernel⟩
theorem v_X1_copyFrom : VOK yX1_copyFrom := ⟨AW_in (lw_at 443 (by decide +kernel : tables_1[443]? = some (Cond.instanceMethod yX1_copyFrom))) rfl, AW_in (lw_at 444 (by decide +kernel)) rfl⟩
theorem m_X1_add : MOK yX1_add cX1_add 6 none 4 := ⟨lw_at 470 (by decide +kernel), ini_X1, ⟨by decide, by decide, by decide +kernel⟩, by decide, by decide +kernel⟩
theorem v_X1_add : VOK yX1_add := ⟨AW_in (lw_at 468 (by decide +kernel : tables_1[468]? = some (Cond.instanceMethod yX1_add))) rfl, AW_in (lw_at 469 (by decide +kernel)) rfl⟩
theorem m_X1_number : MOK yX1_number cX1_number 4 (some .int) 2 := ⟨lw_at 1001 (by decide +kernel), ini_X1, ⟨by decide, by decide, by decide +kernel⟩, by decide, by decide +kernel⟩
theorem v_X1_number : VOK yX1_number := ⟨AW_in (lw_at 999 (by decide +kernel : tables_1[999]? = some (Cond.instanceMethod yX1_number))) rfl, AW_in (lw_at 1000 (by decide +kernel)) rfl⟩
theorem m_X2_init : MOK yX2_init cX2_init 1 none 0 := ⟨lw_at 201 (by decide +kernel), ini_X2, ⟨by decide, by decide, by decide +kernel⟩, by decide, by decide +kernel⟩
theorem iw_X2_init : Cond.instanceMethod yX2_init ∈ AW := AW_in (lw_at 200 (by decide +kernel : tables_1[200]? = some (Cond.instanceMethod yX2_init))) rfl
theorem m_X2_become : MOK yX2_become cX2_become 6 none 4 := ⟨lw_at 757 (by decide +kernel), ini_X2, ⟨by decide, by decide, by decide +kernel⟩, by decide, by decide +kernel⟩
theorem v_X2_become : VOK yX2_become := ⟨AW_in (lw_at 755 (by decide +kernel : tables_1[755]? = some (Cond.instanceMethod yX2_become))) rfl, AW_in (lw_at 756 (by decide +kernel)) rfl⟩
theorem m_X2_copyFrom : MOK yX2_copyFrom cX2_copyFrom 3 none 1 := ⟨lw_at 433 (by decide +kernel), ini_X2, ⟨by decide, by decide, by decide +kernel⟩, by decide, by decide +kernel⟩
theorem v_X2_copyFrom : VOK yX2_copyFrom := ⟨AW_in (lw_at 431 (by decide +kernel : tables_1[431]? = some (Cond.instanceMethod yX2_copyFrom))) rfl, AW_in (lw_at 432 (by decide +kernel)) rfl⟩
theorem m_X2_number : MOK yX2_number cX2_number 3 (some .int) 2 := ⟨lw_at 397 (by decide +kernel), ini_X2, ⟨by decide, by decide, by decide +kernel⟩, by decide, by decide +kernel⟩
theorem v_X2_number : VOK yX2_number := ⟨AW_in (lw_at 395 (by decide +kernel : tables_1[395]? = some (Cond.instanceMethod yX2_number))) rfl, AW_in (lw_at 396 (by decide +kernel)) rfl⟩
theorem m_X2_room : MOK yX2_room cX2_room 1 (some .int) 0 := ⟨lw_at 405 (by decide +kernel), ini_X2, ⟨by decide, by decide, by decide +kernel⟩, by decide, by decide +kernel⟩
theorem v_X2_room : VOK yX2_room := ⟨AW_in (lw_at 403 (by decide +kernel : tables_1[403]? = some (Cond.instanceMethod yX2_room))) rfl, AW_in (lw_at 404 (by decide +kernel)) rfl⟩
theorem m_X2_free : MOK yX2_free cX2_free 1 (some .int) 0 := ⟨lw_at 401 (by decide +kernel), ini_X2, ⟨by decide, by decide, by decide +kernel⟩, by decide, by decide +kernel⟩
theorem v_X2_free : VOK yX2_free := ⟨AW_in (lw_at 399 (by decide +kernel : tables_1[399]? = some (Cond.instanceMethod yX2_free))) rfl, AW_in (lw_at 400 (by decide +kernel)) rfl⟩
theorem m_X2_keptBack : MOK yX2_keptBack cX2_keptBack 2 (some .int) 1 := ⟨lw_at 417 (by decide +kernel), ini_X2, ⟨by decide, by decide, by decide +kernel⟩, by decide, by decide +kernel⟩
theorem v_X2_keptBack : VOK yX2_keptBack := ⟨AW_in (lw_at 415 (by decide +kernel : tables_1[415]? = some (Cond.instanceMethod yX2_keptBack))) rfl, AW_in (lw_at 416 (by decide +kernel)) rfl⟩
theorem m_X2_ownLeft : MOK yX2_ownLeft cX2_ownLeft 1 (some .int) 0 := ⟨lw_at 413 (by decide +kernel), ini_X2, ⟨by decide, by decide, by decide +kernel⟩, by decide, by decide +kernel⟩
theorem v_X2_ownLeft : VOK yX2_ownLeft := ⟨AW_in (lw_at 411 (by decide +kernel : tables_1[411]? = some (Cond.instanceMethod yX2_ownLeft))) rfl, AW_in (lw_at 412 (by decide +kernel)) rfl⟩
theorem m_X2_canLend : MOK yX2_canLend cX2_canLend 2 (some .int) 1 := ⟨lw_at 409 (by decide +kernel), ini_X2, ⟨by decide, by decide, by decide +kernel⟩, by decide, by decide +kernel⟩
theorem v_X2_canLend : VOK yX2_canLend := ⟨AW_in (lw_at 407 (by decide +kernel : tables_1[407]? = some (Cond.instanceMethod yX2_canLend))) rfl, AW_in (lw_at 408 (by decide +kernel)) rfl⟩
theorem m_X2_append : MOK yX2_append cX2_append 3 none 2 := ⟨lw_at 885 (by decide +kernel), ini_X2, ⟨by decide, by decide, by decide +kernel⟩, by decide, by decide +kernel⟩
theorem v_X2_append : VOK yX2_append := ⟨AW_in (lw_at 883 (by decide +kernel : tables_1[883]? = some (Cond.instanceMethod yX2_append))) rfl, AW_in (lw_at 884 (by decide +kernel)) rfl⟩
theorem m_X2_removeNewest : MOK yX2_removeNewest cX2_removeNewest 1 (some .int) 0 := ⟨lw_at 462 (by decide +kernel), ini_X2, ⟨by decide, by decide, by decide +kernel⟩, by decide, by decide +kernel⟩
theorem v_X2_removeNewest : VOK yX2_removeNewest := ⟨AW_in (lw_at 460 (by decide +kernel : tables_1[460]? = some (Cond.instanceMethod yX2_removeNewest))) rfl, AW_in (lw_at 461 (by decide +kernel)) rfl⟩
theorem m_X2_sendFirst : MOK yX2_sendFirst cX2_sendFirst 5 none 0 := ⟨lw_at 474 (by decide +kernel), ini_X2, ⟨by decide, by decide, by decide +kernel⟩, by decide, by decide +kernel⟩
theorem v_X2_sendFirst : VOK yX2_sendFirst := ⟨AW_in (lw_at 472 (by decide +kernel : tables_1[472]? = some (Cond.instanceMethod yX2_sendFirst))) rfl, AW_in (lw_at 473 (by decide +kernel)) rfl⟩
theorem m_X2_removeFirst : MOK yX2_removeFirst cX2_removeFirst 3 none 1 := ⟨lw_at 481 (by decide +kernel), ini_X2, ⟨by decide, by decide, by decide +kernel⟩, by decide, by decide +kernel⟩
theorem v_X2_removeFirst : VOK yX2_removeFirst := ⟨AW_in (lw_at 479 (by decide +kernel : tables_1[479]? = some (Cond.instanceMethod yX2_removeFirst))) rfl, AW_in (lw_at 480 (by decide +kernel)) rfl⟩
theorem m_X2_learn : MOK yX2_learn cX2_learn 1 none 0 := ⟨lw_at 485 (by decide +kernel), ini_X2, ⟨by decide, by decide, by decide +kernel⟩, by decide, by decide +kernel⟩
theorem v_X2_learn : VOK yX2_learn := ⟨AW_in (lw_at 483 (by decide +kernel : tables_1[483]? = some (Cond.instanceMethod yX2_learn))) rfl, AW_in (lw_at 484 (by decide +kernel)) rfl⟩
theorem m_X2_cellsUpTo : MOK yX2_cellsUpTo cX2_cellsUpTo 4 (some .int) 1 := ⟨lw_at 1060 (by decide +kernel), ini_X2, ⟨by decide, by decide, by decide +kernel⟩, by decide, by decide +kernel⟩
theorem v_X2_cellsUpTo : VOK yX2_cellsUpTo := ⟨AW_in (lw_at 1058 (by decide +kernel : tables_1[1058]? = some (Cond.instanceMethod yX2_cellsUpTo))) rfl, AW_in (lw_at 1059 (by decide +kernel)) rfl⟩
theorem m_X3_init : MOK yX3_init cX3_init 1 none 0 := ⟨lw_at 139 (by decide +kernel), ini_X3, ⟨by decide, by decide, by decide +kernel⟩, by decide, by decide +kernel⟩
theorem iw_X3_init : Cond.instanceMethod yX3_init ∈ AW := AW_in (lw_at 138 (by decide +kernel : tables_1[138]? = some (Cond.instanceMethod yX3_init))) rfl
theorem m_X3_copyFrom : MOK yX3_copyFrom cX3_copyFrom 3 none 1 := ⟨lw_at 437 (by decide +kernel), ini_X3, ⟨by decide, by decide, by decide +kernel⟩, by decide, by decide +kernel⟩
theorem v_X3_copyFrom : VOK yX3_copyFrom := ⟨AW_in (lw_at 435 (by decide +kernel : tables_1[435]? = some (Cond.instanceMethod yX3_copyFrom))) rfl, AW_in (lw_at 436 (by decide +kernel)) rfl⟩
theorem m_X3_place : MOK yX3_place cX3_place 4 none 3 := ⟨lw_at 441 (by decide +kernel), ini_X3, ⟨by decide, by decide, by decide +kernel⟩, by decide, by decide +kernel⟩
theorem v_X3_place : VOK yX3_place := ⟨AW_in (lw_at 439 (by decide +kernel : tables_1[439]? = some (Cond.instanceMethod yX3_place))) rfl, AW_in (lw_at 440 (by decide +kernel)) rfl⟩
theorem m_X3_insert : MOK yX3_insert cX3_insert 6 none 4 := ⟨lw_at 881 (by decide +kernel), ini_X3, ⟨by decide, by decide, by decide +kernel⟩, by decide, by decide +kernel⟩
theorem v_X3_insert : VOK yX3_insert := ⟨AW_in (lw_at 879 (by decide +kernel : tables_1[879]? = some (Cond.instanceMethod yX3_insert))) rfl, AW_in (lw_at 880 (by decide +kernel)) rfl⟩
theorem m_X3_remove : MOK yX3_remove cX3_remove 3 none 1 := ⟨lw_at 457 (by decide +kernel), ini_X3, ⟨by decide, by decide, by decide +kernel⟩, by decide, by decide +kernel⟩
theorem v_X3_remove : VOK yX3_remove := ⟨AW_in (lw_at 455 (by decide +kernel : tables_1[455]? = some (Cond.instanceMethod yX3_remove))) rfl, AW_in (lw_at 456 (by decide +kernel)) rfl⟩
theorem m_X3_isBetween : MOK yX3_isBetween cX3_isBetween 4 (some .boolean) 3 := ⟨lw_at 868 (by decide +kernel), ini_X3, ⟨by decide, by decide, by decide +kernel⟩, by decide, by decide +kernel⟩
theorem v_X3_isBetween : VOK yX3_isBetween := ⟨AW_in (lw_at 866 (by decide +kernel : tables_1[866]? = some (Cond.instanceMethod yX3_isBetween))) rfl, AW_in (lw_at 867 (by decide +kernel)) rfl⟩
theorem m_X3_cellsBetween : MOK yX3_cellsBetween cX3_cellsBetween 5 (some .int) 2 := ⟨lw_at 906 (by decide +kernel), ini_X3, ⟨by decide, by decide, by decide +kernel⟩, by decide, by decide +kernel⟩
theorem v_X3_cellsBetween : VOK yX3_cellsBetween := ⟨AW_in (lw_at 904 (by decide +kernel : tables_1[904]? = some (Cond.instanceMethod yX3_cellsBetween))) rfl, AW_in (lw_at 905 (by decide +kernel)) rfl⟩
theorem m_X4_init : MOK yX4_init cX4_init 1 none 0 := ⟨lw_at 331 (by decide +kernel), ini_X4, ⟨by decide, by decide, by decide +kernel⟩, by decide, by decide +kernel⟩
theorem iw_X4_init : Cond.instanceMethod yX4_init ∈ AW := AW_in (lw_at 330 (by decide +kernel : tables_1[330]? = some (Cond.instanceMethod yX4_init))) rfl
theorem m_X4_write : MOK yX4_write cX4_write 3 none 1 := ⟨lw_at 502 (by decide +kernel), ini_X4, ⟨by decide, by decide, by decide +kernel⟩, by decide, by decide +kernel⟩
theorem v_X4_write : VOK yX4_write := ⟨AW_in (lw_at 500 (by decide +kernel : tables_1[500]? = some (Cond.instanceMethod yX4_write))) rfl, AW_in (lw_at 501 (by decide +kernel)) rfl⟩
theorem m_X4_putPromisesOf : MOK yX4_putPromisesOf cX4_putPromisesOf 4 none 2 := ⟨lw_at 520 (by decide +kernel), ini_X4, ⟨by decide, by decide, by decide +kernel⟩, by decide, by decide +kernel⟩
theorem v_X4_putPromisesOf : VOK yX4_putPromisesOf := ⟨AW_in (lw_at 518 (by decide +kernel : tables_1[518]? = some (Cond.instanceMethod yX4_putPromisesOf))) rfl, AW_in (lw_at 519 (by decide +kernel)) rfl⟩
theorem m_X4_putName : MOK yX4_putName cX4_putName 5 none 1 := ⟨lw_at 506 (by decide +kernel), ini_X4, ⟨by decide, by decide, by decide +kernel⟩, by decide, by decide +kernel⟩
theorem v_X4_putName : VOK yX4_putName := ⟨AW_in (lw_at 504 (by decide +kernel : tables_1[504]? = some (Cond.instanceMethod yX4_putName))) rfl, AW_in (lw_at 505 (by decide +kernel)) rfl⟩
theorem m_X4_putNumber : MOK yX4_putNumber cX4_putNumber 2 none 1 := ⟨lw_at 515 (by decide +kernel), ini_X4, ⟨by decide, by decide, by decide +kernel⟩, by decide, by decide +kernel⟩
theorem v_X4_putNumber : VOK yX4_putNumber := ⟨AW_in (lw_at 513 (by decide +kernel : tables_1[513]? = some (Cond.instanceMethod yX4_putNumber))) rfl, AW_in (lw_at 514 (by decide +kernel)) rfl⟩
theorem m_X4_put : MOK yX4_put cX4_put 2 none 1 := ⟨lw_at 511 (by decide +kernel), ini_X4, ⟨by decide, by decide, by decide +kernel⟩, by decide, by decide +kernel⟩
theorem v_X4_put : VOK yX4_put := ⟨AW_in (lw_at 509 (by decide +kernel : tables_1[509]? = some (Cond.instanceMethod yX4_put))) rfl, AW_in (lw_at 510 (by decide +kernel)) rfl⟩
theorem m_X5_init : MOK yX5_init cX5_init 1 none 0 := ⟨lw_at 92 (by decide +kernel), ini_X5, ⟨by decide, by decide, by decide +kernel⟩, by decide, by decide +kernel⟩
theorem iw_X5_init : Cond.instanceMethod yX5_init ∈ AW := AW_in (lw_at 91 (by decide +kernel : tables_1[91]? = some (Cond.instanceMethod yX5_init))) rfl
theorem m_X5_readFrom : MOK yX5_readFrom cX5_readFrom 5 (some .boolean) 2 := ⟨lw_at 792 (by decide +kernel), ini_X5, ⟨by decide, by decide, by decide +kernel⟩, by decide, by decide +kernel⟩
theorem v_X5_readFrom : VOK yX5_readFrom := ⟨AW_in (lw_at 790 (by decide +kernel : tables_1[790]? = some (Cond.instanceMethod yX5_readFrom))) rfl, AW_in (lw_at 791 (by decide +kernel)) rfl⟩
theorem m_X5_readCommand : MOK yX5_readCommand cX5_readCommand 4 (some .boolean) 2 := ⟨lw_at 808 (by decide +kernel), ini_X5, ⟨by decide, by decide, by decide +kernel⟩, by decide, by decide +kernel⟩
theorem v_X5_readCommand : VOK yX5_readCommand := ⟨AW_in (lw_at 806 (by decide +kernel : tables_1[806]? = some (Cond.instanceMethod yX5_readCommand))) rfl, AW_in (lw_at 807 (by decide +kernel)) rfl⟩
theorem m_X5_verbOf : MOK yX5_verbOf cX5_verbOf 1 (some .int) 1 := ⟨lw_at 811 (by decide +kernel), ini_X5, ⟨by decide, by decide, by decide +kernel⟩, by decide, by decide +kernel⟩
theorem st_X5_verbOf : Cond.static yX5_verbOf ∈ AW := AW_in (lw_at 810 (by decide +kernel : tables_1[810]? = some (Cond.static yX5_verbOf))) rfl
theorem m_X5_readPlain : MOK yX5_readPlain cX5_readPlain 6 (some .boolean) 3 := ⟨lw_at 829 (by decide +kernel), ini_X5, ⟨by decide, by decide, by decide +kernel⟩, by decide, by decide +kernel⟩
theorem v_X5_readPlain : VOK yX5_readPlain := ⟨AW_in (lw_at 827 (by decide +kernel : tables_1[827]? = some (Cond.instanceMethod yX5_readPlain))) rfl, AW_in (lw_at 828 (by decide +kernel)) rfl⟩
theorem m_X5_takePort : MOK yX5_takePort cX5_takePort 3 (some .int) 2 := ⟨lw_at 832 (by decide +kernel), ini_X5, ⟨by decide, by decide, by decide +kernel⟩, by decide, by decide +kernel⟩
theorem st_X5_takePort : Cond.static yX5_takePort ∈ AW := AW_in (lw_at 831 (by decide +kernel : tables_1[831]? = some (Cond.static yX5_takePort))) rfl
theorem m_X5_openRepeat : MOK yX5_openRepeat cX5_openRepeat 2 (some .boolean) 1 := ⟨lw_at 824 (by decide +kernel), ini_X5, ⟨by decide, by decide, by decide +kernel⟩, by decide, by decide +kernel⟩
theorem v_X5_openRepeat : VOK yX5_openRepeat := ⟨AW_in (lw_at 822 (by decide +kernel : tables_1[822]? = some (Cond.instanceMethod yX5_openRepeat))) rfl, AW_in (lw_at 823 (by decide +kernel)) rfl⟩
theorem m_X5_closeRepeat : MOK yX5_closeRepeat cX5_closeRepeat 6 (some .boolean) 1 := ⟨lw_at 799 (by decide +kernel), ini_X5, ⟨by decide, by decide, by decide +kernel⟩, by decide, by decide +kernel⟩
theorem v_X5_closeRepeat : VOK yX5_closeRepeat := ⟨AW_in (lw_at 797 (by decide +kernel : tables_1[797]? = some (Cond.instanceMethod yX5_closeRepeat))) rfl, AW_in (lw_at 798 (by decide +kernel)) rfl⟩
theorem m_X5_add : MOK yX5_add cX5_add 5 none 4 := ⟨lw_at 803 (by decide +kernel), ini_X5, ⟨by decide, by decide, by decide +kernel⟩, by decide, by decide +kernel⟩
theorem v_X5_add : VOK yX5_add := ⟨AW_in (lw_at 801 (by decide +kernel : tables_1[801]? = some (Cond.instanceMethod yX5_add))) rfl, AW_in (lw_at 802 (by decide +kernel)) rfl⟩
theorem m_X6_init : MOK yX6_init cX6_init 2 none 0 := ⟨lw_at 131 (by decide +kernel), ini_X6, ⟨by decide, by decide, by decide +kernel⟩, by decide, by decide +kernel⟩
theorem iw_X6_init : Cond.instanceMethod yX6_init ∈ AW := AW_in (lw_at 130 (by decide +kernel : tables_1[130]? = some (Cond.instanceMethod yX6_init))) rfl
theorem m_X6_clear : MOK yX6_clear cX6_clear 1 none 0 := ⟨lw_at 649 (by decide +kernel), ini_X6, ⟨by decide, by decide, by decide +kernel⟩, by decide, by decide +kernel⟩
theorem v_X6_clear : VOK yX6_clear := ⟨AW_in (lw_at 647 (by decide +kernel : tables_1[647]? = some (Cond.instanceMethod yX6_clear))) rfl, AW_in (lw_at 648 (by decide +kernel)) rfl⟩
theorem m_X6_copyFrom : MOK yX6_copyFrom cX6_copyFrom 3 none 1 := ⟨lw_at 429 (by decide +kernel), ini_X6, ⟨by decide, by decide, by decide +kernel⟩, by decide, by decide +kernel⟩
theorem v_X6_copyFrom : VOK yX6_copyFrom := ⟨AW_in (lw_at 427 (by decide +kernel : tables_1[427]? = some (Cond.instanceMethod yX6_copyFrom))) rfl, AW_in (lw_at 428 (by decide +kernel)) rfl⟩
theorem m_X6_addPort : MOK yX6_addPort cX6_addPort 6 none 4 := ⟨lw_at 753 (by decide +kernel), ini_X6, ⟨by decide, by decide, by decide +kernel⟩, by decide, by decide +kernel⟩
theorem v_X6_addPort : VOK yX6_addPort := ⟨AW_in (lw_at 751 (by decide +kernel : tables_1[751]? = some (Cond.instanceMethod yX6_addPort))) rfl, AW_in (lw_at 752 (by decide +kernel)) rfl⟩
theorem m_X6_portNamed : MOK yX6_portNamed cX6_portNamed 4 (some .int) 1 := ⟨lw_at 743 (by decide +kernel), ini_X6, ⟨by decide, by decide, by decide +kernel⟩, by decide, by decide +kernel⟩
theorem v_X6_portNamed : VOK yX6_portNamed := ⟨AW_in (lw_at 741 (by decide +kernel : tables_1[741]? = some (Cond.instanceMethod yX6_portNamed))) rfl, AW_in (lw_at 742 (by decide +kernel)) rfl⟩
theorem m_X6_sumOfPorts : MOK yX6_sumOfPorts cX6_sumOfPorts 4 (some .int) 1 := ⟨lw_at 393 (by decide +kernel), ini_X6, ⟨by decide, by decide, by decide +kernel⟩, by decide, by decide +kernel⟩
theorem v_X6_sumOfPorts : VOK yX6_sumOfPorts := ⟨AW_in (lw_at 391 (by decide +kernel : tables_1[391]? = some (Cond.instanceMethod yX6_sumOfPorts))) rfl, AW_in (lw_at 392 (by decide +kernel)) rfl⟩
theorem m_X6_lendableTo : MOK yX6_lendableTo cX6_lendableTo 4 (some .int) 1 := ⟨lw_at 859 (by decide +kernel), ini_X6, ⟨by decide, by decide, by decide +kernel⟩, by decide, by decide +kernel⟩
theorem v_X6_lendableTo : VOK yX6_lendableTo := ⟨AW_in (lw_at 857 (by decide +kernel : tables_1[857]? = some (Cond.instanceMethod yX6_lendableTo))) rfl, AW_in (lw_at 858 (by decide +kernel)) rfl⟩
theorem m_X6_missing : MOK yX6_missing cX6_missing 3 (some .int) 2 := ⟨lw_at 855 (by decide +kernel), ini_X6, ⟨by decide, by decide, by decide +kernel⟩, by decide, by decide +kernel⟩
theorem v_X6_missing : VOK yX6_missing := ⟨AW_in (lw_at 853 (by decide +kernel : tables_1[853]? = some (Cond.instanceMethod yX6_missing))) rfl, AW_in (lw_at 854 (by decide +kernel)) rfl⟩
theorem m_X6_wayOf : MOK yX6_wayOf cX6_wayOf 4 (some .int) 2 := ⟨lw_at 851 (by decide +kernel), ini_X6, ⟨by decide, by decide, by decide +kernel⟩, by decide, by decide +kernel⟩
theorem v_X6_wayOf : VOK yX6_wayOf := ⟨AW_in (lw_at 849 (by decide +kernel : tables_1[849]? = some (Cond.instanceMethod yX6_wayOf))) rfl, AW_in (lw_at 850 (by decide +kernel)) rfl⟩
theorem m_X6_admit : MOK yX6_admit cX6_admit 5 (some .int) 2 := ⟨lw_at 847 (by decide +kernel), ini_X6, ⟨by decide, by decide, by decide +kernel⟩, by decide, by decide +kernel⟩
theorem v_X6_admit : VOK yX6_admit := ⟨AW_in (lw_at 845 (by decide +kernel : tables_1[845]? = some (Cond.instanceMethod yX6_admit))) rfl, AW_in (lw_at 846 (by decide +kernel)) rfl⟩
theorem m_X6_borrow : MOK yX6_borrow cX6_borrow 7 none 2 := ⟨lw_at 873 (by decide +kernel), ini_X6, ⟨by decide, by decide, by decide +kernel⟩, by decide, by decide +kernel⟩
theorem v_X6_borrow : VOK yX6_borrow := ⟨AW_in (lw_at 871 (by decide +kernel : tables_1[871]? = some (Cond.instanceMethod yX6_borrow))) rfl, AW_in (lw_at 872 (by decide +kernel)) rfl⟩
theorem m_X6_bestLender : MOK yX6_bestLender cX6_bestLender 5 (some .int) 1 := ⟨lw_at 877 (by decide +kernel), ini_X6, ⟨by decide, by decide, by decide +kernel⟩, by decide, by decide +kernel⟩
theorem v_X6_bestLender : VOK yX6_bestLender := ⟨AW_in (lw_at 875 (by decide +kernel : tables_1[875]? = some (Cond.instanceMethod yX6_bestLender))) rfl, AW_in (lw_at 876 (by decide +kernel)) rfl⟩
theorem m_X6_collect : MOK yX6_collect cX6_collect 8 none 3 := ⟨lw_at 864 (by decide +kernel), ini_X6, ⟨by decide, by decide, by decide +kernel⟩, by decide, by decide +kernel⟩
theorem v_X6_collect : VOK yX6_collect := ⟨AW_in (lw_at 862 (by decide +kernel : tables_1[862]? = some (Cond.instanceMethod yX6_collect))) rfl, AW_in (lw_at 863 (by decide +kernel)) rfl⟩
theorem m_X6_takeBack : MOK yX6_takeBack cX6_takeBack 8 none 3 := ⟨lw_at 453 (by decide +kernel), ini_X6, ⟨by decide, by decide, by decide +kernel⟩, by decide, by decide +kernel⟩
theorem v_X6_takeBack : VOK yX6_takeBack := ⟨AW_in (lw_at 451 (by decide +kernel : tables_1[451]? = some (Cond.instanceMethod yX6_takeBack))) rfl, AW_in (lw_at 452 (by decide +kernel)) rfl⟩
theorem m_X6_recordDrop : MOK yX6_recordDrop cX6_recordDrop 4 none 3 := ⟨lw_at 466 (by decide +kernel), ini_X6, ⟨by decide, by decide, by decide +kernel⟩, by decide, by decide +kernel⟩
theorem v_X6_recordDrop : VOK yX6_recordDrop := ⟨AW_in (lw_at 464 (by decide +kernel : tables_1[464]? = some (Cond.instanceMethod yX6_recordDrop))) rfl, AW_in (lw_at 465 (by decide +kernel)) rfl⟩
theorem m_X6_mayPass : MOK yX6_mayPass cX6_mayPass 2 (some .boolean) 1 := ⟨lw_at 889 (by decide +kernel), ini_X6, ⟨by decide, by decide, by decide +kernel⟩, by decide, by decide +kernel⟩
theorem v_X6_mayPass : VOK yX6_mayPass := ⟨AW_in (lw_at 887 (by decide +kernel : tables_1[887]? = some (Cond.instanceMethod yX6_mayPass))) rfl, AW_in (lw_at 888 (by decide +kernel)) rfl⟩
theorem m_X6_passTicks : MOK yX6_passTicks cX6_passTicks 3 (some .int) 1 := ⟨lw_at 893 (by decide +kernel), ini_X6, ⟨by decide, by decide, by decide +kernel⟩, by decide, by decide +kernel⟩
theorem v_X6_passTicks : VOK yX6_passTicks := ⟨AW_in (lw_at 891 (by decide +kernel : tables_1[891]? = some (Cond.instanceMethod yX6_passTicks))) rfl, AW_in (lw_at 892 (by decide +kernel)) rfl⟩
theorem m_X6_passTick : MOK yX6_passTick cX6_passTick 2 none 0 := ⟨lw_at 449 (by decide +kernel), ini_X6, ⟨by decide, by decide, by decide +kernel⟩, by decide, by decide +kernel⟩
theorem v_X6_passTick : VOK yX6_passTick := ⟨AW_in (lw_at 447 (by decide +kernel : tables_1[447]? = some (Cond.instanceMethod yX6_passTick))) rfl, AW_in (lw_at 448 (by decide +kernel)) rfl⟩
theorem m_X6_mayReturn : MOK yX6_mayReturn cX6_mayReturn 4 (some .boolean) 3 := ⟨lw_at 902 (by decide +kernel), ini_X6, ⟨by decide, by decide, by decide +kernel⟩, by decide, by decide +kernel⟩
theorem v_X6_mayReturn : VOK yX6_mayReturn := ⟨AW_in (lw_at 900 (by decide +kernel : tables_1[900]? = some (Cond.instanceMethod yX6_mayReturn))) rfl, AW_in (lw_at 901 (by decide +kernel)) rfl⟩
theorem m_X6_returnCells : MOK yX6_returnCells cX6_returnCells 4 (some .int) 3 := ⟨lw_at 911 (by decide +kernel), ini_X6, ⟨by decide, by decide, by decide +kernel⟩, by decide, by decide +kernel⟩
theorem v_X6_returnCells : VOK yX6_returnCells := ⟨AW_in (lw_at 909 (by decide +kernel : tables_1[909]? = some (Cond.instanceMethod yX6_returnCells))) rfl, AW_in (lw_at 910 (by decide +kernel)) rfl⟩
theorem m_X6_mayProlong : MOK yX6_mayProlong cX6_mayProlong 3 (some .boolean) 1 := ⟨lw_at 915 (by decide +kernel), ini_X6, ⟨by decide, by decide, by decide +kernel⟩, by decide, by decide +kernel⟩
theorem v_X6_mayProlong : VOK yX6_mayProlong := ⟨AW_in (lw_at 913 (by decide +kernel : tables_1[913]? = some (Cond.instanceMethod yX6_mayProlong))) rfl, AW_in (lw_at 914 (by decide +kernel)) rfl⟩
theorem m_X6_prolong : MOK yX6_prolong cX6_prolong 6 (some .int) 1 := ⟨lw_at 921 (by decide +kernel), ini_X6, ⟨by decide, by decide, by decide +kernel⟩, by decide, by decide +kernel⟩
theorem v_X6_prolong : VOK yX6_prolong := ⟨AW_in (lw_at 919 (by decide +kernel : tables_1[919]? = some (Cond.instanceMethod yX6_prolong))) rfl, AW_in (lw_at 920 (by decide +kernel)) rfl⟩
theorem m_X6_changeTerm : MOK yX6_changeTerm cX6_changeTerm 3 (some .int) 1 := ⟨lw_at 925 (by decide +kernel), ini_X6, ⟨by decide, by decide, by decide +kernel⟩, by decide, by decide +kernel⟩
theorem v_X6_changeTerm : VOK yX6_changeTerm := ⟨AW_in (lw_at 923 (by decide +kernel : tables_1[923]? = some (Cond.instanceMethod yX6_changeTerm))) rfl, AW_in (lw_at 924 (by decide +kernel)) rfl⟩
theorem m_X6_changeKeep : MOK yX6_changeKeep cX6_changeKeep 3 (some .int) 1 := ⟨lw_at 929 (by decide +kernel), ini_X6, ⟨by decide, by decide, by decide +kernel⟩, by decide, by decide +kernel⟩
theorem v_X6_changeKeep : VOK yX6_changeKeep := ⟨AW_in (lw_at 927 (by decide +kernel : tables_1[927]? = some (Cond.instanceMethod yX6_changeKeep))) rfl, AW_in (lw_at 928 (by decide +kernel)) rfl⟩
theorem m_X7_init : MOK yX7_init cX7_init 1 none 0 := ⟨lw_at 79 (by decide +kernel), ini_X7, ⟨by decide, by decide, by decide +kernel⟩, by decide, by decide +kernel⟩
theorem iw_X7_init : Cond.instanceMethod yX7_init ∈ AW := AW_in (lw_at 78 (by decide +kernel : tables_1[78]? = some (Cond.instanceMethod yX7_init))) rfl
theorem m_X7_readFrom : MOK yX7_readFrom cX7_readFrom 4 (some .boolean) 2 := ⟨lw_at 645 (by decide +kernel), ini_X7, ⟨by decide, by decide, by decide +kernel⟩, by decide, by decide +kernel⟩
theorem v_X7_readFrom : VOK yX7_readFrom := ⟨AW_in (lw_at 643 (by decide +kernel : tables_1[643]? = some (Cond.instanceMethod yX7_readFrom))) rfl, AW_in (lw_at 644 (by decide +kernel)) rfl⟩
theorem m_X7_readStatement : MOK yX7_readStatement cX7_readStatement 3 (some .boolean) 2 := ⟨lw_at 672 (by decide +kernel), ini_X7, ⟨by decide, by decide, by decide +kernel⟩, by decide, by decide +kernel⟩
theorem v_X7_readStatement : VOK yX7_readStatement := ⟨AW_in (lw_at 670 (by decide +kernel : tables_1[670]? = some (Cond.instanceMethod yX7_readStatement))) rfl, AW_in (lw_at 671 (by decide +kernel)) rfl⟩
theorem m_X7_readPort : MOK yX7_readPort cX7_readPort 8 (some .boolean) 2 := ⟨lw_at 729 (by decide +kernel), ini_X7, ⟨by decide, by decide, by decide +kernel⟩, by decide, by decide +kernel⟩
theorem v_X7_readPort : VOK yX7_readPort := ⟨AW_in (lw_at 727 (by decide +kernel : tables_1[727]? = some (Cond.instanceMethod yX7_readPort))) rfl, AW_in (lw_at 728 (by decide +kernel)) rfl⟩
theorem m_X7_readTerm : MOK yX7_readTerm cX7_readTerm 3 (some .boolean) 2 := ⟨lw_at 766 (by decide +kernel), ini_X7, ⟨by decide, by decide, by decide +kernel⟩, by decide, by decide +kernel⟩
theorem v_X7_readTerm : VOK yX7_readTerm := ⟨AW_in (lw_at 764 (by decide +kernel : tables_1[764]? = some (Cond.instanceMethod yX7_readTerm))) rfl, AW_in (lw_at 765 (by decide +kernel)) rfl⟩
theorem m_X7_readKeep : MOK yX7_readKeep cX7_readKeep 3 (some .boolean) 2 := ⟨lw_at 776 (by decide +kernel), ini_X7, ⟨by decide, by decide, by decide +kernel⟩, by decide, by decide +kernel⟩
theorem v_X7_readKeep : VOK yX7_readKeep := ⟨AW_in (lw_at 774 (by decide +kernel : tables_1[774]? = some (Cond.instanceMethod yX7_readKeep))) rfl, AW_in (lw_at 775 (by decide +kernel)) rfl⟩
theorem m_X8_init : MOK yX8_init cX8_init 1 none 0 := ⟨lw_at 35 (by decide +kernel), ini_X8, ⟨by decide, by decide, by decide +kernel⟩, by decide, by decide +kernel⟩
theorem iw_X8_init : Cond.instanceMethod yX8_init ∈ AW := AW_in (lw_at 34 (by decide +kernel : tables_1[34]? = some (Cond.instanceMethod yX8_init))) rfl
theorem m_X8_append : MOK yX8_append cX8_append 3 none 1 := ⟨lw_at 604 (by decide +kernel), ini_X8, ⟨by decide, by decide, by decide +kernel⟩, by decide, by decide +kernel⟩
theorem v_X8_append : VOK yX8_append := ⟨AW_in (lw_at 602 (by decide +kernel : tables_1[602]? = some (Cond.instanceMethod yX8_append))) rfl, AW_in (lw_at 603 (by decide +kernel)) rfl⟩
theorem m_X8_begin : MOK yX8_begin cX8_begin 1 none 0 := ⟨lw_at 657 (by decide +kernel), ini_X8, ⟨by decide, by decide, by decide +kernel⟩, by decide, by decide +kernel⟩
theorem v_X8_begin : VOK yX8_begin := ⟨AW_in (lw_at 655 (by decide +kernel : tables_1[655]? = some (Cond.instanceMethod yX8_begin))) rfl, AW_in (lw_at 656 (by decide +kernel)) rfl⟩
theorem m_X8_fail : MOK yX8_fail cX8_fail 2 (some .boolean) 1 := ⟨lw_at 733 (by decide +kernel), ini_X8, ⟨by decide, by decide, by decide +kernel⟩, by decide, by decide +kernel⟩
theorem v_X8_fail : VOK yX8_fail := ⟨AW_in (lw_at 731 (by decide +kernel : tables_1[731]? = some (Cond.instanceMethod yX8_fail))) rfl, AW_in (lw_at 732 (by decide +kernel)) rfl⟩
theorem m_X8_advance : MOK yX8_advance cX8_advance 2 none 0 := ⟨lw_at 661 (by decide +kernel), ini_X8, ⟨by decide, by decide, by decide +kernel⟩, by decide, by decide +kernel⟩
theorem v_X8_advance : VOK yX8_advance := ⟨AW_in (lw_at 659 (by decide +kernel : tables_1[659]? = some (Cond.instanceMethod yX8_advance))) rfl, AW_in (lw_at 660 (by decide +kernel)) rfl⟩
theorem m_X8_isTooLong : MOK yX8_isTooLong cX8_isTooLong 2 (some .boolean) 0 := ⟨lw_at 668 (by decide +kernel), ini_X8, ⟨by decide, by decide, by decide +kernel⟩, by decide, by decide +kernel⟩
theorem v_X8_isTooLong : VOK yX8_isTooLong := ⟨AW_in (lw_at 666 (by decide +kernel : tables_1[666]? = some (Cond.instanceMethod yX8_isTooLong))) rfl, AW_in (lw_at 667 (by decide +kernel)) rfl⟩
theorem m_X8_kindOf : MOK yX8_kindOf cX8_kindOf 1 (some .int) 1 := ⟨lw_at 664 (by decide +kernel), ini_X8, ⟨by decide, by decide, by decide +kernel⟩, by decide, by decide +kernel⟩
theorem st_X8_kindOf : Cond.static yX8_kindOf ∈ AW := AW_in (lw_at 663 (by decide +kernel : tables_1[663]? = some (Cond.static yX8_kindOf))) rfl
theorem m_X8_takeName : MOK yX8_takeName cX8_takeName 1 (some .boolean) 0 := ⟨lw_at 737 (by decide +kernel), ini_X8, ⟨by decide, by decide, by decide +kernel⟩, by decide, by decide +kernel⟩
theorem v_X8_takeName : VOK yX8_takeName := ⟨AW_in (lw_at 735 (by decide +kernel : tables_1[735]? = some (Cond.instanceMethod yX8_takeName))) rfl, AW_in (lw_at 736 (by decide +kernel)) rfl⟩
theorem m_X8_takeNumber : MOK yX8_takeNumber cX8_takeNumber 3 (some .boolean) 2 := ⟨lw_at 747 (by decide +kernel), ini_X8, ⟨by decide, by decide, by decide +kernel⟩, by decide, by decide +kernel⟩
theorem v_X8_takeNumber : VOK yX8_takeNumber := ⟨AW_in (lw_at 745 (by decide +kernel : tables_1[745]? = some (Cond.instanceMethod yX8_takeNumber))) rfl, AW_in (lw_at 746 (by decide +kernel)) rfl⟩
theorem m_X8_takeSign : MOK yX8_takeSign cX8_takeSign 2 (some .boolean) 1 := ⟨lw_at 770 (by decide +kernel), ini_X8, ⟨by decide, by decide, by decide +kernel⟩, by decide, by decide +kernel⟩
theorem v_X8_takeSign : VOK yX8_takeSign := ⟨AW_in (lw_at 768 (by decide +kernel : tables_1[768]? = some (Cond.instanceMethod yX8_takeSign))) rfl, AW_in (lw_at 769 (by decide +kernel)) rfl⟩
theorem m_X8_isSign : MOK yX8_isSign cX8_isSign 2 (some .boolean) 1 := ⟨lw_at 761 (by decide +kernel), ini_X8, ⟨by decide, by decide, by decide +kernel⟩, by decide, by decide +kernel⟩
theorem v_X8_isSign : VOK yX8_isSign := ⟨AW_in (lw_at 759 (by decide +kernel : tables_1[759]? = some (Cond.instanceMethod yX8_isSign))) rfl, AW_in (lw_at 760 (by decide +kernel)) rfl⟩
theorem m_X8_isWord : MOK yX8_isWord cX8_isWord 5 (some .boolean) 1 := ⟨lw_at 677 (by decide +kernel), ini_X8, ⟨by decide, by decide, by decide +kernel⟩, by decide, by decide +kernel⟩
theorem v_X8_isWord : VOK yX8_isWord := ⟨AW_in (lw_at 675 (by decide +kernel : tables_1[675]? = some (Cond.instanceMethod yX8_isWord))) rfl, AW_in (lw_at 676 (by decide +kernel)) rfl⟩
theorem m_X9_init : MOK yX9_init cX9_init 1 none 0 := ⟨lw_at 27 (by decide +kernel), ini_X9, ⟨by decide, by decide, by decide +kernel⟩, by decide, by decide +kernel⟩
theorem iw_X9_init : Cond.instanceMethod yX9_init ∈ AW := AW_in (lw_at 26 (by decide +kernel : tables_1[26]? = some (Cond.instanceMethod yX9_init))) rfl
theorem m_X9_feed : MOK yX9_feed cX9_feed 6 (some .int) 5 := ⟨lw_at 532 (by decide +kernel), ini_X9, ⟨by decide, by decide, by decide +kernel⟩, by decide, by decide +kernel⟩
theorem v_X9_feed : VOK yX9_feed := ⟨AW_in (lw_at 530 (by decide +kernel : tables_1[530]? = some (Cond.instanceMethod yX9_feed))) rfl, AW_in (lw_at 531 (by decide +kernel)) rfl⟩
theorem m_X9_truncate : MOK yX9_truncate cX9_truncate 2 (some .int) 1 := ⟨lw_at 612 (by decide +kernel), ini_X9, ⟨by decide, by decide, by decide +kernel⟩, by decide, by decide +kernel⟩
theorem v_X9_truncate : VOK yX9_truncate := ⟨AW_in (lw_at 610 (by decide +kernel : tables_1[610]? = some (Cond.instanceMethod yX9_truncate))) rfl, AW_in (lw_at 611 (by decide +kernel)) rfl⟩
theorem m_X9_readText : MOK yX9_readText cX9_readText 2 (some .int) 0 := ⟨lw_at 641 (by decide +kernel), ini_X9, ⟨by decide, by decide, by decide +kernel⟩, by decide, by decide +kernel⟩
theorem v_X9_readText : VOK yX9_readText := ⟨AW_in (lw_at 639 (by decide +kernel : tables_1[639]? = some (Cond.instanceMethod yX9_readText))) rfl, AW_in (lw_at 640 (by decide +kernel)) rfl⟩
theorem m_X9_runScript : MOK yX9_runScript cX9_runScript 3 (some .int) 0 := ⟨lw_at 788 (by decide +kernel), ini_X9, ⟨by decide, by decide, by decide +kernel⟩, by decide, by decide +kernel⟩
theorem v_X9_runScript : VOK yX9_runScript := ⟨AW_in (lw_at 786 (by decide +kernel : tables_1[786]? = some (Cond.instanceMethod yX9_runScript))) rfl, AW_in (lw_at 787 (by decide +kernel)) rfl⟩
theorem m_X9_errorCode : MOK yX9_errorCode cX9_errorCode 1 (some .int) 0 := ⟨lw_at 373 (by decide +kernel), ini_X9, ⟨by decide, by decide, by decide +kernel⟩, by decide, by decide +kernel⟩
theorem v_X9_errorCode : VOK yX9_errorCode := ⟨AW_in (lw_at 371 (by decide +kernel : tables_1[371]? = some (Cond.instanceMethod yX9_errorCode))) rfl, AW_in (lw_at 372 (by decide +kernel)) rfl⟩
theorem m_X9_errorPosition : MOK yX9_errorPosition cX9_errorPosition 1 (some .int) 0 := ⟨lw_at 377 (by decide +kernel), ini_X9, ⟨by decide, by decide, by decide +kernel⟩, by decide, by decide +kernel⟩
theorem v_X9_errorPosition : VOK yX9_errorPosition := ⟨AW_in (lw_at 375 (by decide +kernel : tables_1[375]? = some (Cond.instanceMethod yX9_errorPosition))) rfl, AW_in (lw_at 376 (by decide +kernel)) rfl⟩
theorem m_X9_setting : MOK yX9_setting cX9_setting 2 (some .int) 1 := ⟨lw_at 936 (by decide +kernel), ini_X9, ⟨by decide, by decide, by decide +kernel⟩, by decide, by decide +kernel⟩
theorem v_X9_setting : VOK yX9_setting := ⟨AW_in (lw_at 934 (by decide +kernel : tables_1[934]? = some (Cond.instanceMethod yX9_setting))) rfl, AW_in (lw_at 935 (by decide +kernel)) rfl⟩
theorem m_X9_port : MOK yX9_port cX9_port 3 (some .int) 2 := ⟨lw_at 944 (by decide +kernel), ini_X9, ⟨by decide, by decide, by decide +kernel⟩, by decide, by decide +kernel⟩
theorem v_X9_port : VOK yX9_port := ⟨AW_in (lw_at 942 (by decide +kernel : tables_1[942]? = some (Cond.instanceMethod yX9_port))) rfl, AW_in (lw_at 943 (by decide +kernel)) rfl⟩
theorem m_X9_packet : MOK yX9_packet cX9_packet 5 (some .int) 3 := ⟨lw_at 975 (by decide +kernel), ini_X9, ⟨by decide, by decide, by decide +kernel⟩, by decide, by decide +kernel⟩
theorem v_X9_packet : VOK yX9_packet := ⟨AW_in (lw_at 973 (by decide +kernel : tables_1[973]? = some (Cond.instanceMethod yX9_packet))) rfl, AW_in (lw_at 974 (by decide +kernel)) rfl⟩
theorem m_X9_promise : MOK yX9_promise cX9_promise 3 (some .int) 2 := ⟨lw_at 982 (by decide +kernel), ini_X9, ⟨by decide, by decide, by decide +kernel⟩, by decide, by decide +kernel⟩
theorem v_X9_promise : VOK yX9_promise := ⟨AW_in (lw_at 980 (by decide +kernel : tables_1[980]? = some (Cond.instanceMethod yX9_promise))) rfl, AW_in (lw_at 981 (by decide +kernel)) rfl⟩
theorem m_X9_owed : MOK yX9_owed cX9_owed 3 (some .int) 2 := ⟨lw_at 989 (by decide +kernel), ini_X9, ⟨by decide, by decide, by decide +kernel⟩, by decide, by decide +kernel⟩
theorem v_X9_owed : VOK yX9_owed := ⟨AW_in (lw_at 987 (by decide +kernel : tables_1[987]? = some (Cond.instanceMethod yX9_owed))) rfl, AW_in (lw_at 988 (by decide +kernel)) rfl⟩
theorem m_X9_drop : MOK yX9_drop cX9_drop 3 (some .int) 2 := ⟨lw_at 997 (by decide +kernel), ini_X9, ⟨by decide, by decide, by decide +kernel⟩, by decide, by decide +kernel⟩
theorem v_X9_drop : VOK yX9_drop := ⟨AW_in (lw_at 995 (by decide +kernel : tables_1[995]? = some (Cond.instanceMethod yX9_drop))) rfl, AW_in (lw_at 996 (by decide +kernel)) rfl⟩
theorem m_X9_dropsBy : MOK yX9_dropsBy cX9_dropsBy 2 (some .int) 1 := ⟨lw_at 1008 (by decide +kernel), ini_X9, ⟨by decide, by decide, by decide +kernel⟩, by decide, by decide +kernel⟩
theorem v_X9_dropsBy : VOK yX9_dropsBy := ⟨AW_in (lw_at 1006 (by decide +kernel : tables_1[1006]? = some (Cond.instanceMethod yX9_dropsBy))) rfl, AW_in (lw_at 1007 (by decide +kernel)) rfl⟩
theorem m_X9_mostCharged : MOK yX9_mostCharged cX9_mostCharged 3 (some .int) 0 := ⟨lw_at 381 (by decide +kernel), ini_X9, ⟨by decide, by decide, by decide +kernel⟩, by decide, by decide +kernel⟩
theorem v_X9_mostCharged : VOK yX9_mostCharged := ⟨AW_in (lw_at 379 (by decide +kernel : tables_1[379]? = some (Cond.instanceMethod yX9_mostCharged))) rfl, AW_in (lw_at 380 (by decide +kernel)) rfl⟩
theorem m_X9_lossShare : MOK yX9_lossShare cX9_lossShare 1 (some .float) 0 := ⟨lw_at 385 (by decide +kernel), ini_X9, ⟨by decide, by decide, by decide +kernel⟩, by decide, by decide +kernel⟩
theorem v_X9_lossShare : VOK yX9_lossShare := ⟨AW_in (lw_at 383 (by decide +kernel : tables_1[383]? = some (Cond.instanceMethod yX9_lossShare))) rfl, AW_in (lw_at 384 (by decide +kernel)) rfl⟩
theorem m_X9_meanForecast : MOK yX9_meanForecast cX9_meanForecast 1 (some .double) 0 := ⟨lw_at 389 (by decide +kernel), ini_X9, ⟨by decide, by decide, by decide +kernel⟩, by decide, by decide +kernel⟩
theorem v_X9_meanForecast : VOK yX9_meanForecast := ⟨AW_in (lw_at 387 (by decide +kernel : tables_1[387]? = some (Cond.instanceMethod yX9_meanForecast))) rfl, AW_in (lw_at 388 (by decide +kernel)) rfl⟩
theorem m_X9_wouldBorrow : MOK yX9_wouldBorrow cX9_wouldBorrow 4 (some .int) 2 := ⟨lw_at 1015 (by decide +kernel), ini_X9, ⟨by decide, by decide, by decide +kernel⟩, by decide, by decide +kernel⟩
theorem v_X9_wouldBorrow : VOK yX9_wouldBorrow := ⟨AW_in (lw_at 1013 (by decide +kernel : tables_1[1013]? = some (Cond.instanceMethod yX9_wouldBorrow))) rfl, AW_in (lw_at 1014 (by decide +kernel)) rfl⟩
theorem m_X9_wouldCall : MOK yX9_wouldCall cX9_wouldCall 3 (some .int) 2 := ⟨lw_at 1024 (by decide +kernel), ini_X9, ⟨by decide, by decide, by decide +kernel⟩, by decide, by decide +kernel⟩
theorem v_X9_wouldCall : VOK yX9_wouldCall := ⟨AW_in (lw_at 1022 (by decide +kernel : tables_1[1022]? = some (Cond.instanceMethod yX9_wouldCall))) rfl, AW_in (lw_at 1023 (by decide +kernel)) rfl⟩
theorem m_X9_wouldDrop : MOK yX9_wouldDrop cX9_wouldDrop 3 (some .int) 2 := ⟨lw_at 1031 (by decide +kernel), ini_X9, ⟨by decide, by decide, by decide +kernel⟩, by decide, by decide +kernel⟩
theorem v_X9_wouldDrop : VOK yX9_wouldDrop := ⟨AW_in (lw_at 1029 (by decide +kernel : tables_1[1029]? = some (Cond.instanceMethod yX9_wouldDrop))) rfl, AW_in (lw_at 1030 (by decide +kernel)) rfl⟩
theorem m_X9_greatest : MOK yX9_greatest cX9_greatest 5 (some .int) 1 := ⟨lw_at 1038 (by decide +kernel), ini_X9, ⟨by decide, by decide, by decide +kernel⟩, by decide, by decide +kernel⟩
theorem v_X9_greatest : VOK yX9_greatest := ⟨AW_in (lw_at 1036 (by decide +kernel : tables_1[1036]? = some (Cond.instanceMethod yX9_greatest))) rfl, AW_in (lw_at 1037 (by decide +kernel)) rfl⟩
theorem m_X9_dropsIn : MOK yX9_dropsIn cX9_dropsIn 3 (some .int) 1 := ⟨lw_at 1049 (by decide +kernel), ini_X9, ⟨by decide, by decide, by decide +kernel⟩, by decide, by decide +kernel⟩
theorem v_X9_dropsIn : VOK yX9_dropsIn := ⟨AW_in (lw_at 1047 (by decide +kernel : tables_1[1047]? = some (Cond.instanceMethod yX9_dropsIn))) rfl, AW_in (lw_at 1048 (by decide +kernel)) rfl⟩
theorem m_X9_emptyIn : MOK yX9_emptyIn cX9_emptyIn 2 (some .int) 0 := ⟨lw_at 425 (by decide +kernel), ini_X9, ⟨by decide, by decide, by decide +kernel⟩, by decide, by decide +kernel⟩
theorem v_X9_emptyIn : VOK yX9_emptyIn := ⟨AW_in (lw_at 423 (by decide +kernel : tables_1[423]? = some (Cond.instanceMethod yX9_emptyIn))) rfl, AW_in (lw_at 424 (by decide +kernel)) rfl⟩
theorem m_X9_sentIn : MOK yX9_sentIn cX9_sentIn 6 (some .int) 2 := ⟨lw_at 1056 (by decide +kernel), ini_X9, ⟨by decide, by decide, by decide +kernel⟩, by decide, by decide +kernel⟩
theorem v_X9_sentIn : VOK yX9_sentIn := ⟨AW_in (lw_at 1054 (by decide +kernel : tables_1[1054]? = some (Cond.instanceMethod yX9_sentIn))) rfl, AW_in (lw_at 1055 (by decide +kernel)) rfl⟩
theorem m_X9_arrive : MOK yX9_arrive cX9_arrive 3 (some .int) 2 := ⟨lw_at 1067 (by decide +kernel), ini_X9, ⟨by decide, by decide, by decide +kernel⟩, by decide, by decide +kernel⟩
theorem v_X9_arrive : VOK yX9_arrive := ⟨AW_in (lw_at 1065 (by decide +kernel : tables_1[1065]? = some (Cond.instanceMethod yX9_arrive))) rfl, AW_in (lw_at 1066 (by decide +kernel)) rfl⟩
theorem m_X9_tick : MOK yX9_tick cX9_tick 2 (some .int) 1 := ⟨lw_at 1074 (by decide +kernel), ini_X9, ⟨by decide, by decide, by decide +kernel⟩, by decide, by decide +kernel⟩
theorem v_X9_tick : VOK yX9_tick := ⟨AW_in (lw_at 1072 (by decide +kernel : tables_1[1072]? = some (Cond.instanceMethod yX9_tick))) rfl, AW_in (lw_at 1073 (by decide +kernel)) rfl⟩
theorem m_X9_giveBack : MOK yX9_giveBack cX9_giveBack 4 (some .int) 3 := ⟨lw_at 1081 (by decide +kernel), ini_X9, ⟨by decide, by decide, by decide +kernel⟩, by decide, by decide +kernel⟩
theorem v_X9_giveBack : VOK yX9_giveBack := ⟨AW_in (lw_at 1079 (by decide +kernel : tables_1[1079]? = some (Cond.instanceMethod yX9_giveBack))) rfl, AW_in (lw_at 1080 (by decide +kernel)) rfl⟩
theorem m_X9_extend : MOK yX9_extend cX9_extend 2 (some .int) 1 := ⟨lw_at 1089 (by decide +kernel), ini_X9, ⟨by decide, by decide, by decide +kernel⟩, by decide, by decide +kernel⟩
theorem v_X9_extend : VOK yX9_extend := ⟨AW_in (lw_at 1087 (by decide +kernel : tables_1[1087]? = some (Cond.instanceMethod yX9_extend))) rfl, AW_in (lw_at 1088 (by decide +kernel)) rfl⟩
theorem m_X9_setTerm : MOK yX9_setTerm cX9_setTerm 2 (some .int) 1 := ⟨lw_at 1097 (by decide +kernel), ini_X9, ⟨by decide, by decide, by decide +kernel⟩, by decide, by decide +kernel⟩
theorem v_X9_setTerm : VOK yX9_setTerm := ⟨AW_in (lw_at 1095 (by decide +kernel : tables_1[1095]? = some (Cond.instanceMethod yX9_setTerm))) rfl, AW_in (lw_at 1096 (by decide +kernel)) rfl⟩
theorem m_X9_setKeep : MOK yX9_setKeep cX9_setKeep 2 (some .int) 1 := ⟨lw_at 1104 (by decide +kernel), ini_X9, ⟨by decide, by decide, by decide +kernel⟩, by decide, by decide +kernel⟩
theorem v_X9_setKeep : VOK yX9_setKeep := ⟨AW_in (lw_at 1102 (by decide +kernel : tables_1[1102]? = some (Cond.instanceMethod yX9_setKeep))) rfl, AW_in (lw_at 1103 (by decide +kernel)) rfl⟩
theorem m_X9_undo : MOK yX9_undo cX9_undo 1 (some .int) 0 := ⟨lw_at 489 (by decide +kernel), ini_X9, ⟨by decide, by decide, by decide +kernel⟩, by decide, by decide +kernel⟩
theorem v_X9_undo : VOK yX9_undo := ⟨AW_in (lw_at 487 (by decide +kernel : tables_1[487]? = some (Cond.instanceMethod yX9_undo))) rfl, AW_in (lw_at 488 (by decide +kernel)) rfl⟩
theorem m_X9_report : MOK yX9_report cX9_report 1 (some .int) 0 := ⟨lw_at 498 (by decide +kernel), ini_X9, ⟨by decide, by decide, by decide +kernel⟩, by decide, by decide +kernel⟩
theorem v_X9_report : VOK yX9_report := ⟨AW_in (lw_at 496 (by decide +kernel : tables_1[496]? = some (Cond.instanceMethod yX9_report))) rfl, AW_in (lw_at 497 (by decide +kernel)) rfl⟩
theorem m_X9_reportByte : MOK yX9_reportByte cX9_reportByte 2 (some .int) 1 := ⟨lw_at 1111 (by decide +kernel), ini_X9, ⟨by decide, by decide, by decide +kernel⟩, by decide, by decide +kernel⟩
theorem v_X9_reportByte : VOK yX9_reportByte := ⟨AW_in (lw_at 1109 (by decide +kernel : tables_1[1109]? = some (Cond.instanceMethod yX9_reportByte))) rfl, AW_in (lw_at 1110 (by decide +kernel)) rfl⟩
theorem m_X9_save : MOK yX9_save cX9_save 1 (some .int) 0 := ⟨lw_at 524 (by decide +kernel), ini_X9, ⟨by decide, by decide, by decide +kernel⟩, by decide, by decide +kernel⟩
theorem v_X9_save : VOK yX9_save := ⟨AW_in (lw_at 522 (by decide +kernel : tables_1[522]? = some (Cond.instanceMethod yX9_save))) rfl, AW_in (lw_at 523 (by decide +kernel)) rfl⟩
theorem m_X9_restore : MOK yX9_restore cX9_restore 1 (some .int) 0 := ⟨lw_at 1118 (by decide +kernel), ini_X9, ⟨by decide, by decide, by decide +kernel⟩, by decide, by decide +kernel⟩
theorem v_X9_restore : VOK yX9_restore := ⟨AW_in (lw_at 1116 (by decide +kernel : tables_1[1116]? = some (Cond.instanceMethod yX9_restore))) rfl, AW_in (lw_at 1117 (by decide +kernel)) rfl⟩
theorem m_X9_within : MOK yX9_within cX9_within 3 (some .boolean) 3 := ⟨lw_at 618 (by decide +kernel), ini_X9, ⟨by decide, by decide, by decide +kernel⟩, by decide, by decide +kernel⟩
theorem st_X9_within : Cond.static yX9_within ∈ AW := AW_in (lw_at 617 (by decide +kernel : tables_1[617]? = some (Cond.static yX9_within))) rfl
theorem m_X9_needWithin : MOK yX9_needWithin cX9_needWithin 3 none 3 := ⟨lw_at 615 (by decide +kernel), ini_X9, ⟨by decide, by decide, by decide +kernel⟩, by decide, by decide +kernel⟩
theorem st_X9_needWithin : Cond.static yX9_needWithin ∈ AW := AW_in (lw_at 614 (by decide +kernel : tables_1[614]? = some (Cond.static yX9_needWithin))) rfl
theorem m_X9_needIndex : MOK yX9_needIndex cX9_needIndex 2 none 2 := ⟨lw_at 951 (by decide +kernel), ini_X9, ⟨by decide, by decide, by decide +kernel⟩, by decide, by decide +kernel⟩
theorem st_X9_needIndex : Cond.static yX9_needIndex ∈ AW := AW_in (lw_at 950 (by decide +kernel : tables_1[950]? = some (Cond.static yX9_needIndex))) rfl
theorem m_X9_needPort : MOK yX9_needPort cX9_needPort 2 none 1 := ⟨lw_at 948 (by decide +kernel), ini_X9, ⟨by decide, by decide, by decide +kernel⟩, by decide, by decide +kernel⟩
theorem v_X9_needPort : VOK yX9_needPort := ⟨AW_in (lw_at 947 (by decide +kernel : tables_1[947]? = some (Cond.instanceMethod yX9_needPort))) rfl, AW_in (lw_pv 3 (by decide +kernel : lw_privs[3]? = some (yX9_needPort, 9))) rfl⟩
theorem m_X9_doCommand : MOK yX9_doCommand cX9_doCommand 3 (some .int) 1 := ⟨lw_at 843 (by decide +kernel), ini_X9, ⟨by decide, by decide, by decide +kernel⟩, by decide, by decide +kernel⟩
theorem v_X9_doCommand : VOK yX9_doCommand := ⟨AW_in (lw_at 842 (by decide +kernel : tables_1[842]? = some (Cond.instanceMethod yX9_doCommand))) rfl, AW_in (lw_pv 1 (by decide +kernel : lw_privs[1]? = some (yX9_doCommand, 9))) rfl⟩
theorem m_X9_mayDoBack : MOK yX9_mayDoBack cX9_mayDoBack 2 (some .boolean) 1 := ⟨lw_at 898 (by decide +kernel), ini_X9, ⟨by decide, by decide, by decide +kernel⟩, by decide, by decide +kernel⟩
theorem v_X9_mayDoBack : VOK yX9_mayDoBack := ⟨AW_in (lw_at 897 (by decide +kernel : tables_1[897]? = some (Cond.instanceMethod yX9_mayDoBack))) rfl, AW_in (lw_pv 2 (by decide +kernel : lw_privs[2]? = some (yX9_mayDoBack, 9))) rfl⟩
theorem m_X10_thrown : MOK yX10_thrown cX10_thrown 1 (some .int) 0 := ⟨lw_at 1123 (by decide +kernel), ini_X10, ⟨by decide, by decide, by decide +kernel⟩, by decide, by decide +kernel⟩
theorem v_X10_thrown : VOK yX10_thrown := ⟨AW_in (lw_at 1121 (by decide +kernel : tables_1[1121]? = some (Cond.instanceMethod yX10_thrown))) rfl, AW_in (lw_at 1122 (by decide +kernel)) rfl⟩
theorem m_X10_init : MOK yX10_init cX10_init 1 none 0 := ⟨lw_at 1128 (by decide +kernel), ini_X10, ⟨by decide, by decide, by decide +kernel⟩, by decide, by decide +kernel⟩
theorem iw_X10_init : Cond.instanceMethod yX10_init ∈ AW := AW_in (lw_at 1127 (by decide +kernel : tables_1[1127]? = some (Cond.instanceMethod yX10_init))) rfl
theorem m_X10_in : MOK yX10_in cX10_in 6 (some .boolean) 3 := ⟨lw_at 1240 (by decide +kernel), ini_X10, ⟨by decide, by decide, by decide +kernel⟩, by decide, by decide +kernel⟩
theorem st_X10_in : Cond.static yX10_in ∈ AW := AW_in (lw_at 1239 (by decide +kernel : tables_1[1239]? = some (Cond.static yX10_in))) rfl
theorem m_X10_good : MOK yX10_good cX10_good 2 (some .boolean) 1 := ⟨lw_at 1229 (by decide +kernel), ini_X10, ⟨by decide, by decide, by decide +kernel⟩, by decide, by decide +kernel⟩
theorem v_X10_good : VOK yX10_good := ⟨AW_in (lw_at 1228 (by decide +kernel : tables_1[1228]? = some (Cond.instanceMethod yX10_good))) rfl, AW_in (lw_pv 7 (by decide +kernel : lw_privs[7]? = some (yX10_good, 26))) rfl⟩
theorem m_X10_allGood : MOK yX10_allGood cX10_allGood 3 (some .boolean) 2 := ⟨lw_at 1384 (by decide +kernel), ini_X10, ⟨by decide, by decide, by decide +kernel⟩, by decide, by decide +kernel⟩
theorem v_X10_allGood : VOK yX10_allGood := ⟨AW_in (lw_at 1383 (by decide +kernel : tables_1[1383]? = some (Cond.instanceMethod yX10_allGood))) rfl, AW_in (lw_pv 35 (by decide +kernel : lw_privs[35]? = some (yX10_allGood, 26))) rfl⟩
theorem m_X10_of : MOK yX10_of cX10_of 2 (some .int) 1 := ⟨lw_at 1283 (by decide +kernel), ini_X10, ⟨by decide, by decide, by decide +kernel⟩, by decide, by decide +kernel⟩
theorem v_X10_of : VOK yX10_of := ⟨AW_in (lw_at 1282 (by decide +kernel : tables_1[1282]? = some (Cond.instanceMethod yX10_of))) rfl, AW_in (lw_pv 16 (by decide +kernel : lw_privs[16]? = some (yX10_of, 26))) rfl⟩
theorem m_X10_set : MOK yX10_set cX10_set 3 none 2 := ⟨lw_at 1137 (by decide +kernel), ini_X10, ⟨by decide, by decide, by decide +kernel⟩, by decide, by decide +kernel⟩
theorem v_X10_set : VOK yX10_set := ⟨AW_in (lw_at 1136 (by decide +kernel : tables_1[1136]? = some (Cond.instanceMethod yX10_set))) rfl, AW_in (lw_pv 5 (by decide +kernel : lw_privs[5]? = some (yX10_set, 26))) rfl⟩
theorem m_X10_grows : MOK yX10_grows cX10_grows 3 none 2 := ⟨lw_at 1487 (by decide +kernel), ini_X10, ⟨by decide, by decide, by decide +kernel⟩, by decide, by decide +kernel⟩
theorem v_X10_grows : VOK yX10_grows := ⟨AW_in (lw_at 1486 (by decide +kernel : tables_1[1486]? = some (Cond.instanceMethod yX10_grows))) rfl, AW_in (lw_pv 48 (by decide +kernel : lw_privs[48]? = some (yX10_grows, 26))) rfl⟩
theorem m_X10_p : MOK yX10_p cX10_p 3 (some .int) 2 := ⟨lw_at 1343 (by decide +kernel), ini_X10, ⟨by decide, by decide, by decide +kernel⟩, by decide, by decide +kernel⟩
theorem v_X10_p : VOK yX10_p := ⟨AW_in (lw_at 1342 (by decide +kernel : tables_1[1342]? = some (Cond.instanceMethod yX10_p))) rfl, AW_in (lw_pv 26 (by decide +kernel : lw_privs[26]? = some (yX10_p, 26))) rfl⟩
theorem m_X10_setP : MOK yX10_setP cX10_setP 4 none 3 := ⟨lw_at 1304 (by decide +kernel), ini_X10, ⟨by decide, by decide, by decide +kernel⟩, by decide, by decide +kernel⟩
theorem v_X10_setP : VOK yX10_setP := ⟨AW_in (lw_at 1303 (by decide +kernel : tables_1[1303]? = some (Cond.instanceMethod yX10_setP))) rfl, AW_in (lw_pv 21 (by decide +kernel : lw_privs[21]? = some (yX10_setP, 26))) rfl⟩
theorem m_X10_growsP : MOK yX10_growsP cX10_growsP 4 none 3 := ⟨lw_at 1491 (by decide +kernel), ini_X10, ⟨by decide, by decide, by decide +kernel⟩, by decide, by decide +kernel⟩
theorem v_X10_growsP : VOK yX10_growsP := ⟨AW_in (lw_at 1490 (by decide +kernel : tables_1[1490]? = some (Cond.instanceMethod yX10_growsP))) rfl, AW_in (lw_pv 49 (by decide +kernel : lw_privs[49]? = some (yX10_growsP, 26))) rfl⟩
theorem m_X10_k : MOK yX10_k cX10_k 3 (some .int) 2 := ⟨lw_at 1351 (by decide +kernel), ini_X10, ⟨by decide, by decide, by decide +kernel⟩, by decide, by decide +kernel⟩
theorem v_X10_k : VOK yX10_k := ⟨AW_in (lw_at 1350 (by decide +kernel : tables_1[1350]? = some (Cond.instanceMethod yX10_k))) rfl, AW_in (lw_pv 28 (by decide +kernel : lw_privs[28]? = some (yX10_k, 26))) rfl⟩
theorem m_X10_m : MOK yX10_m cX10_m 3 (some .int) 2 := ⟨lw_at 1359 (by decide +kernel), ini_X10, ⟨by decide, by decide, by decide +kernel⟩, by decide, by decide +kernel⟩
theorem v_X10_m : VOK yX10_m := ⟨AW_in (lw_at 1358 (by decide +kernel : tables_1[1358]? = some (Cond.instanceMethod yX10_m))) rfl, AW_in (lw_pv 30 (by decide +kernel : lw_privs[30]? = some (yX10_m, 26))) rfl⟩
theorem m_X10_name : MOK yX10_name cX10_name 2 (some .long) 1 := ⟨lw_at 1295 (by decide +kernel), ini_X10, ⟨by decide, by decide, by decide +kernel⟩, by decide, by decide +kernel⟩
theorem v_X10_name : VOK yX10_name := ⟨AW_in (lw_at 1294 (by decide +kernel : tables_1[1294]? = some (Cond.instanceMethod yX10_name))) rfl, AW_in (lw_pv 19 (by decide +kernel : lw_privs[19]? = some (yX10_name, 26))) rfl⟩
theorem m_X10_setName : MOK yX10_setName cX10_setName 4 none 2 := ⟨lw_at 1141 (by decide +kernel), ini_X10, ⟨by decide, by decide, by decide +kernel⟩, by decide, by decide +kernel⟩
theorem v_X10_setName : VOK yX10_setName := ⟨AW_in (lw_at 1140 (by decide +kernel : tables_1[1140]? = some (Cond.instanceMethod yX10_setName))) rfl, AW_in (lw_pv 6 (by decide +kernel : lw_privs[6]? = some (yX10_setName, 26))) rfl⟩
theorem m_X10_clears : MOK yX10_clears cX10_clears 2 none 0 := ⟨lw_at 1133 (by decide +kernel), ini_X10, ⟨by decide, by decide, by decide +kernel⟩, by decide, by decide +kernel⟩
theorem v_X10_clears : VOK yX10_clears := ⟨AW_in (lw_at 1132 (by decide +kernel : tables_1[1132]? = some (Cond.instanceMethod yX10_clears))) rfl, AW_in (lw_pv 4 (by decide +kernel : lw_privs[4]? = some (yX10_clears, 26))) rfl⟩
theorem m_X10_copies : MOK yX10_copies cX10_copies 4 none 2 := ⟨lw_at 1318 (by decide +kernel), ini_X10, ⟨by decide, by decide, by decide +kernel⟩, by decide, by decide +kernel⟩
theorem v_X10_copies : VOK yX10_copies := ⟨AW_in (lw_at 1317 (by decide +kernel : tables_1[1317]? = some (Cond.instanceMethod yX10_copies))) rfl, AW_in (lw_pv 24 (by decide +kernel : lw_privs[24]? = some (yX10_copies, 26))) rfl⟩
theorem m_X10_four : MOK yX10_four cX10_four 3 none 1 := ⟨lw_at 1233 (by decide +kernel), ini_X10, ⟨by decide, by decide, by decide +kernel⟩, by decide, by decide +kernel⟩
theorem v_X10_four : VOK yX10_four := ⟨AW_in (lw_at 1232 (by decide +kernel : tables_1[1232]? = some (Cond.instanceMethod yX10_four))) rfl, AW_in (lw_pv 8 (by decide +kernel : lw_privs[8]? = some (yX10_four, 26))) rfl⟩
theorem m_X10_feed : MOK yX10_feed cX10_feed 6 (some .int) 5 := ⟨lw_at 1225 (by decide +kernel), ini_X10, ⟨by decide, by decide, by decide +kernel⟩, by decide, by decide +kernel⟩
theorem v_X10_feed : VOK yX10_feed := ⟨AW_in (lw_at 1223 (by decide +kernel : tables_1[1223]? = some (Cond.instanceMethod yX10_feed))) rfl, AW_in (lw_at 1224 (by decide +kernel)) rfl⟩
theorem m_X10_truncate : MOK yX10_truncate cX10_truncate 2 (some .int) 1 := ⟨lw_at 1237 (by decide +kernel), ini_X10, ⟨by decide, by decide, by decide +kernel⟩, by decide, by decide +kernel⟩
theorem v_X10_truncate : VOK yX10_truncate := ⟨AW_in (lw_at 1235 (by decide +kernel : tables_1[1235]? = some (Cond.instanceMethod yX10_truncate))) rfl, AW_in (lw_at 1236 (by decide +kernel)) rfl⟩
theorem m_X10_byteAt : MOK yX10_byteAt cX10_byteAt 2 (some .int) 1 := ⟨lw_at 1256 (by decide +kernel), ini_X10, ⟨by decide, by decide, by decide +kernel⟩, by decide, by decide +kernel⟩
theorem v_X10_byteAt : VOK yX10_byteAt := ⟨AW_in (lw_at 1255 (by decide +kernel : tables_1[1255]? = some (Cond.instanceMethod yX10_byteAt))) rfl, AW_in (lw_pv 11 (by decide +kernel : lw_privs[11]? = some (yX10_byteAt, 26))) rfl⟩
theorem m_X10_isGood : MOK yX10_isGood cX10_isGood 1 (some .boolean) 0 := ⟨lw_at 1266 (by decide +kernel), ini_X10, ⟨by decide, by decide, by decide +kernel⟩, by decide, by decide +kernel⟩
theorem v_X10_isGood : VOK yX10_isGood := ⟨AW_in (lw_at 1265 (by decide +kernel : tables_1[1265]? = some (Cond.instanceMethod yX10_isGood))) rfl, AW_in (lw_pv 12 (by decide +kernel : lw_privs[12]? = some (yX10_isGood, 26))) rfl⟩
theorem m_X10_must : MOK yX10_must cX10_must 3 none 2 := ⟨lw_at 1287 (by decide +kernel), ini_X10, ⟨by decide, by decide, by decide +kernel⟩, by decide, by decide +kernel⟩
theorem v_X10_must : VOK yX10_must := ⟨AW_in (lw_at 1286 (by decide +kernel : tables_1[1286]? = some (Cond.instanceMethod yX10_must))) rfl, AW_in (lw_pv 17 (by decide +kernel : lw_privs[17]? = some (yX10_must, 26))) rfl⟩
theorem m_X10_scans : MOK yX10_scans cX10_scans 2 none 0 := ⟨lw_at 1252 (by decide +kernel), ini_X10, ⟨by decide, by decide, by decide +kernel⟩, by decide, by decide +kernel⟩
theorem v_X10_scans : VOK yX10_scans := ⟨AW_in (lw_at 1251 (by decide +kernel : tables_1[1251]? = some (Cond.instanceMethod yX10_scans))) rfl, AW_in (lw_pv 10 (by decide +kernel : lw_privs[10]? = some (yX10_scans, 26))) rfl⟩
theorem m_X10_isWord : MOK yX10_isWord cX10_isWord 3 (some .boolean) 1 := ⟨lw_at 1275 (by decide +kernel), ini_X10, ⟨by decide, by decide, by decide +kernel⟩, by decide, by decide +kernel⟩
theorem v_X10_isWord : VOK yX10_isWord := ⟨AW_in (lw_at 1274 (by decide +kernel : tables_1[1274]? = some (Cond.instanceMethod yX10_isWord))) rfl, AW_in (lw_pv 14 (by decide +kernel : lw_privs[14]? = some (yX10_isWord, 26))) rfl⟩
theorem m_X10_isSign : MOK yX10_isSign cX10_isSign 2 (some .boolean) 1 := ⟨lw_at 1314 (by decide +kernel), ini_X10, ⟨by decide, by decide, by decide +kernel⟩, by decide, by decide +kernel⟩
theorem v_X10_isSign : VOK yX10_isSign := ⟨AW_in (lw_at 1313 (by decide +kernel : tables_1[1313]? = some (Cond.instanceMethod yX10_isSign))) rfl, AW_in (lw_pv 23 (by decide +kernel : lw_privs[23]? = some (yX10_isSign, 26))) rfl⟩
theorem m_X10_sign : MOK yX10_sign cX10_sign 2 none 1 := ⟨lw_at 1310 (by decide +kernel), ini_X10, ⟨by decide, by decide, by decide +kernel⟩, by decide, by decide +kernel⟩
theorem v_X10_sign : VOK yX10_sign := ⟨AW_in (lw_at 1309 (by decide +kernel : tables_1[1309]? = some (Cond.instanceMethod yX10_sign))) rfl, AW_in (lw_pv 22 (by decide +kernel : lw_privs[22]? = some (yX10_sign, 26))) rfl⟩
theorem m_X10_reads : MOK yX10_reads cX10_reads 4 (some .int) 2 := ⟨lw_at 1299 (by decide +kernel), ini_X10, ⟨by decide, by decide, by decide +kernel⟩, by decide, by decide +kernel⟩
theorem v_X10_reads : VOK yX10_reads := ⟨AW_in (lw_at 1298 (by decide +kernel : tables_1[1298]? = some (Cond.instanceMethod yX10_reads))) rfl, AW_in (lw_pv 20 (by decide +kernel : lw_privs[20]? = some (yX10_reads, 26))) rfl⟩
theorem m_X10_named : MOK yX10_named cX10_named 2 (some .int) 0 := ⟨lw_at 1291 (by decide +kernel), ini_X10, ⟨by decide, by decide, by decide +kernel⟩, by decide, by decide +kernel⟩
theorem v_X10_named : VOK yX10_named := ⟨AW_in (lw_at 1290 (by decide +kernel : tables_1[1290]? = some (Cond.instanceMethod yX10_named))) rfl, AW_in (lw_pv 18 (by decide +kernel : lw_privs[18]? = some (yX10_named, 26))) rfl⟩
theorem m_X10_starts : MOK yX10_starts cX10_starts 1 none 0 := ⟨lw_at 1248 (by decide +kernel), ini_X10, ⟨by decide, by decide, by decide +kernel⟩, by decide, by decide +kernel⟩
theorem v_X10_starts : VOK yX10_starts := ⟨AW_in (lw_at 1247 (by decide +kernel : tables_1[1247]? = some (Cond.instanceMethod yX10_starts))) rfl, AW_in (lw_pv 9 (by decide +kernel : lw_privs[9]? = some (yX10_starts, 26))) rfl⟩
theorem m_X10_readsPort : MOK yX10_readsPort cX10_readsPort 5 none 0 := ⟨lw_at 1279 (by decide +kernel), ini_X10, ⟨by decide, by decide, by decide +kernel⟩, by decide, by decide +kernel⟩
theorem v_X10_readsPort : VOK yX10_readsPort := ⟨AW_in (lw_at 1278 (by decide +kernel : tables_1[1278]? = some (Cond.instanceMethod yX10_readsPort))) rfl, AW_in (lw_pv 15 (by decide +kernel : lw_privs[15]? = some (yX10_readsPort, 26))) rfl⟩
theorem m_X10_readsStatement : MOK yX10_readsStatement cX10_readsStatement 1 none 0 := ⟨lw_at 1270 (by decide +kernel), ini_X10, ⟨by decide, by decide, by decide +kernel⟩, by decide, by decide +kernel⟩
theorem v_X10_readsStatement : VOK yX10_readsStatement := ⟨AW_in (lw_at 1269 (by decide +kernel : tables_1[1269]? = some (Cond.instanceMethod yX10_readsStatement))) rfl, AW_in (lw_pv 13 (by decide +kernel : lw_privs[13]? = some (yX10_readsStatement, 26))) rfl⟩
theorem m_X10_readText : MOK yX10_readText cX10_readText 1 (some .int) 0 := ⟨lw_at 1244 (by decide +kernel), ini_X10, ⟨by decide, by decide, by decide +kernel⟩, by decide, by decide +kernel⟩
theorem v_X10_readText : VOK yX10_readText := ⟨AW_in (lw_at 1242 (by decide +kernel : tables_1[1242]? = some (Cond.instanceMethod yX10_readText))) rfl, AW_in (lw_at 1243 (by decide +kernel)) rfl⟩
theorem m_X10_errorCode : MOK yX10_errorCode cX10_errorCode 1 (some .int) 0 := ⟨lw_at 1322 (by decide +kernel), ini_X10, ⟨by decide, by decide, by decide +kernel⟩, by decide, by decide +kernel⟩
theorem v_X10_errorCode : VOK yX10_errorCode := ⟨AW_in (lw_at 1320 (by decide +kernel : tables_1[1320]? = some (Cond.instanceMethod yX10_errorCode))) rfl, AW_in (lw_at 1321 (by decide +kernel)) rfl⟩
theorem m_X10_errorPosition : MOK yX10_errorPosition cX10_errorPosition 1 (some .int) 0 := ⟨lw_at 1326 (by decide +kernel), ini_X10, ⟨by decide, by decide, by decide +kernel⟩, by decide, by decide +kernel⟩
theorem v_X10_errorPosition : VOK yX10_errorPosition := ⟨AW_in (lw_at 1324 (by decide +kernel : tables_1[1324]? = some (Cond.instanceMethod yX10_errorPosition))) rfl, AW_in (lw_at 1325 (by decide +kernel)) rfl⟩
theorem m_X10_keeps : MOK yX10_keeps cX10_keeps 2 none 0 := ⟨lw_at 1580 (by decide +kernel), ini_X10, ⟨by decide, by decide, by decide +kernel⟩, by decide, by decide +kernel⟩
theorem v_X10_keeps : VOK yX10_keeps := ⟨AW_in (lw_at 1579 (by decide +kernel : tables_1[1579]? = some (Cond.instanceMethod yX10_keeps))) rfl, AW_in (lw_pv 66 (by decide +kernel : lw_privs[66]? = some (yX10_keeps, 26))) rfl⟩
theorem m_X10_remembers : MOK yX10_remembers cX10_remembers 1 none 0 := ⟨lw_at 1479 (by decide +kernel), ini_X10, ⟨by decide, by decide, by decide +kernel⟩, by decide, by decide +kernel⟩
theorem v_X10_remembers : VOK yX10_remembers := ⟨AW_in (lw_at 1478 (by decide +kernel : tables_1[1478]? = some (Cond.instanceMethod yX10_remembers))) rfl, AW_in (lw_pv 46 (by decide +kernel : lw_privs[46]? = some (yX10_remembers, 26))) rfl⟩
theorem m_X10_kept : MOK yX10_kept cX10_kept 2 (some .int) 1 := ⟨lw_at 1576 (by decide +kernel), ini_X10, ⟨by decide, by decide, by decide +kernel⟩, by decide, by decide +kernel⟩
theorem v_X10_kept : VOK yX10_kept := ⟨AW_in (lw_at 1575 (by decide +kernel : tables_1[1575]? = some (Cond.instanceMethod yX10_kept))) rfl, AW_in (lw_pv 65 (by decide +kernel : lw_privs[65]? = some (yX10_kept, 26))) rfl⟩
theorem m_X10_undo : MOK yX10_undo cX10_undo 1 (some .int) 0 := ⟨lw_at 1330 (by decide +kernel), ini_X10, ⟨by decide, by decide, by decide +kernel⟩, by decide, by decide +kernel⟩
theorem v_X10_undo : VOK yX10_undo := ⟨AW_in (lw_at 1328 (by decide +kernel : tables_1[1328]? = some (Cond.instanceMethod yX10_undo))) rfl, AW_in (lw_at 1329 (by decide +kernel)) rfl⟩
theorem m_X10_usedBy : MOK yX10_usedBy cX10_usedBy 4 (some .int) 1 := ⟨lw_at 1347 (by decide +kernel), ini_X10, ⟨by decide, by decide, by decide +kernel⟩, by decide, by decide +kernel⟩
theorem v_X10_usedBy : VOK yX10_usedBy := ⟨AW_in (lw_at 1346 (by decide +kernel : tables_1[1346]? = some (Cond.instanceMethod yX10_usedBy))) rfl, AW_in (lw_pv 27 (by decide +kernel : lw_privs[27]? = some (yX10_usedBy, 26))) rfl⟩
theorem m_X10_lentBy : MOK yX10_lentBy cX10_lentBy 4 (some .int) 1 := ⟨lw_at 1355 (by decide +kernel), ini_X10, ⟨by decide, by decide, by decide +kernel⟩, by decide, by decide +kernel⟩
theorem v_X10_lentBy : VOK yX10_lentBy := ⟨AW_in (lw_at 1354 (by decide +kernel : tables_1[1354]? = some (Cond.instanceMethod yX10_lentBy))) rfl, AW_in (lw_pv 29 (by decide +kernel : lw_privs[29]? = some (yX10_lentBy, 26))) rfl⟩
theorem m_X10_borrowedBy : MOK yX10_borrowedBy cX10_borrowedBy 4 (some .int) 1 := ⟨lw_at 1371 (by decide +kernel), ini_X10, ⟨by decide, by decide, by decide +kernel⟩, by decide, by decide +kernel⟩
theorem v_X10_borrowedBy : VOK yX10_borrowedBy := ⟨AW_in (lw_at 1370 (by decide +kernel : tables_1[1370]? = some (Cond.instanceMethod yX10_borrowedBy))) rfl, AW_in (lw_pv 33 (by decide +kernel : lw_privs[33]? = some (yX10_borrowedBy, 26))) rfl⟩
theorem m_X10_roomOf : MOK yX10_roomOf cX10_roomOf 2 (some .int) 1 := ⟨lw_at 1367 (by decide +kernel), ini_X10, ⟨by decide, by decide, by decide +kernel⟩, by decide, by decide +kernel⟩
theorem v_X10_roomOf : VOK yX10_roomOf := ⟨AW_in (lw_at 1366 (by decide +kernel : tables_1[1366]? = some (Cond.instanceMethod yX10_roomOf))) rfl, AW_in (lw_pv 32 (by decide +kernel : lw_privs[32]? = some (yX10_roomOf, 26))) rfl⟩
theorem m_X10_freeOf : MOK yX10_freeOf cX10_freeOf 2 (some .int) 1 := ⟨lw_at 1363 (by decide +kernel), ini_X10, ⟨by decide, by decide, by decide +kernel⟩, by decide, by decide +kernel⟩
theorem v_X10_freeOf : VOK yX10_freeOf := ⟨AW_in (lw_at 1362 (by decide +kernel : tables_1[1362]? = some (Cond.instanceMethod yX10_freeOf))) rfl, AW_in (lw_pv 31 (by decide +kernel : lw_privs[31]? = some (yX10_freeOf, 26))) rfl⟩
theorem m_X10_keptBack : MOK yX10_keptBack cX10_keptBack 2 (some .int) 1 := ⟨lw_at 1396 (by decide +kernel), ini_X10, ⟨by decide, by decide, by decide +kernel⟩, by decide, by decide +kernel⟩
theorem v_X10_keptBack : VOK yX10_keptBack := ⟨AW_in (lw_at 1395 (by decide +kernel : tables_1[1395]? = some (Cond.instanceMethod yX10_keptBack))) rfl, AW_in (lw_pv 38 (by decide +kernel : lw_privs[38]? = some (yX10_keptBack, 26))) rfl⟩
theorem m_X10_spareOf : MOK yX10_spareOf cX10_spareOf 2 (some .int) 1 := ⟨lw_at 1392 (by decide +kernel), ini_X10, ⟨by decide, by decide, by decide +kernel⟩, by decide, by decide +kernel⟩
theorem v_X10_spareOf : VOK yX10_spareOf := ⟨AW_in (lw_at 1391 (by decide +kernel : tables_1[1391]? = some (Cond.instanceMethod yX10_spareOf))) rfl, AW_in (lw_pv 37 (by decide +kernel : lw_privs[37]? = some (yX10_spareOf, 26))) rfl⟩
theorem m_X10_canLend : MOK yX10_canLend cX10_canLend 3 (some .int) 1 := ⟨lw_at 1388 (by decide +kernel), ini_X10, ⟨by decide, by decide, by decide +kernel⟩, by decide, by decide +kernel⟩
theorem v_X10_canLend : VOK yX10_canLend := ⟨AW_in (lw_at 1387 (by decide +kernel : tables_1[1387]? = some (Cond.instanceMethod yX10_canLend))) rfl, AW_in (lw_pv 36 (by decide +kernel : lw_privs[36]? = some (yX10_canLend, 26))) rfl⟩
theorem m_X10_othersCanLend : MOK yX10_othersCanLend cX10_othersCanLend 4 (some .int) 1 := ⟨lw_at 1467 (by decide +kernel), ini_X10, ⟨by decide, by decide, by decide +kernel⟩, by decide, by decide +kernel⟩
theorem v_X10_othersCanLend : VOK yX10_othersCanLend := ⟨AW_in (lw_at 1466 (by decide +kernel : tables_1[1466]? = some (Cond.instanceMethod yX10_othersCanLend))) rfl, AW_in (lw_pv 45 (by decide +kernel : lw_privs[45]? = some (yX10_othersCanLend, 26))) rfl⟩
theorem m_X10_notes : MOK yX10_notes cX10_notes 6 none 4 := ⟨lw_at 1495 (by decide +kernel), ini_X10, ⟨by decide, by decide, by decide +kernel⟩, by decide, by decide +kernel⟩
theorem v_X10_notes : VOK yX10_notes := ⟨AW_in (lw_at 1494 (by decide +kernel : tables_1[1494]? = some (Cond.instanceMethod yX10_notes))) rfl, AW_in (lw_pv 50 (by decide +kernel : lw_privs[50]? = some (yX10_notes, 26))) rfl⟩
theorem m_X10_removesPacket : MOK yX10_removesPacket cX10_removesPacket 3 none 1 := ⟨lw_at 1519 (by decide +kernel), ini_X10, ⟨by decide, by decide, by decide +kernel⟩, by decide, by decide +kernel⟩
theorem v_X10_removesPacket : VOK yX10_removesPacket := ⟨AW_in (lw_at 1518 (by decide +kernel : tables_1[1518]? = some (Cond.instanceMethod yX10_removesPacket))) rfl, AW_in (lw_pv 56 (by decide +kernel : lw_privs[56]? = some (yX10_removesPacket, 26))) rfl⟩
theorem m_X10_newest : MOK yX10_newest cX10_newest 4 (some .int) 1 := ⟨lw_at 1515 (by decide +kernel), ini_X10, ⟨by decide, by decide, by decide +kernel⟩, by decide, by decide +kernel⟩
theorem v_X10_newest : VOK yX10_newest := ⟨AW_in (lw_at 1514 (by decide +kernel : tables_1[1514]? = some (Cond.instanceMethod yX10_newest))) rfl, AW_in (lw_pv 55 (by decide +kernel : lw_privs[55]? = some (yX10_newest, 26))) rfl⟩
theorem m_X10_shrinks : MOK yX10_shrinks cX10_shrinks 5 none 2 := ⟨lw_at 1511 (by decide +kernel), ini_X10, ⟨by decide, by decide, by decide +kernel⟩, by decide, by decide +kernel⟩
theorem v_X10_shrinks : VOK yX10_shrinks := ⟨AW_in (lw_at 1510 (by decide +kernel : tables_1[1510]? = some (Cond.instanceMethod yX10_shrinks))) rfl, AW_in (lw_pv 54 (by decide +kernel : lw_privs[54]? = some (yX10_shrinks, 26))) rfl⟩
theorem m_X10_removesPromise : MOK yX10_removesPromise cX10_removesPromise 3 none 1 := ⟨lw_at 1507 (by decide +kernel), ini_X10, ⟨by decide, by decide, by decide +kernel⟩, by decide, by decide +kernel⟩
theorem v_X10_removesPromise : VOK yX10_removesPromise := ⟨AW_in (lw_at 1506 (by decide +kernel : tables_1[1506]? = some (Cond.instanceMethod yX10_removesPromise))) rfl, AW_in (lw_pv 53 (by decide +kernel : lw_privs[53]? = some (yX10_removesPromise, 26))) rfl⟩
theorem m_X10_promises : MOK yX10_promises cX10_promises 7 (some .int) 4 := ⟨lw_at 1527 (by decide +kernel), ini_X10, ⟨by decide, by decide, by decide +kernel⟩, by decide, by decide +kernel⟩
theorem v_X10_promises : VOK yX10_promises := ⟨AW_in (lw_at 1526 (by decide +kernel : tables_1[1526]? = some (Cond.instanceMethod yX10_promises))) rfl, AW_in (lw_pv 58 (by decide +kernel : lw_privs[58]? = some (yX10_promises, 26))) rfl⟩
theorem m_X10_lessens : MOK yX10_lessens cX10_lessens 4 (some .boolean) 2 := ⟨lw_at 1503 (by decide +kernel), ini_X10, ⟨by decide, by decide, by decide +kernel⟩, by decide, by decide +kernel⟩
theorem v_X10_lessens : VOK yX10_lessens := ⟨AW_in (lw_at 1502 (by decide +kernel : tables_1[1502]? = some (Cond.instanceMethod yX10_lessens))) rfl, AW_in (lw_pv 52 (by decide +kernel : lw_privs[52]? = some (yX10_lessens, 26))) rfl⟩
theorem m_X10_owedTo : MOK yX10_owedTo cX10_owedTo 5 (some .int) 2 := ⟨lw_at 1430 (by decide +kernel), ini_X10, ⟨by decide, by decide, by decide +kernel⟩, by decide, by decide +kernel⟩
theorem v_X10_owedTo : VOK yX10_owedTo := ⟨AW_in (lw_at 1429 (by decide +kernel : tables_1[1429]? = some (Cond.instanceMethod yX10_owedTo))) rfl, AW_in (lw_pv 43 (by decide +kernel : lw_privs[43]? = some (yX10_owedTo, 26))) rfl⟩
theorem m_X10_calls : MOK yX10_calls cX10_calls 7 none 2 := ⟨lw_at 1499 (by decide +kernel), ini_X10, ⟨by decide, by decide, by decide +kernel⟩, by decide, by decide +kernel⟩
theorem v_X10_calls : VOK yX10_calls := ⟨AW_in (lw_at 1498 (by decide +kernel : tables_1[1498]? = some (Cond.instanceMethod yX10_calls))) rfl, AW_in (lw_pv 51 (by decide +kernel : lw_privs[51]? = some (yX10_calls, 26))) rfl⟩
theorem m_X10_borrows : MOK yX10_borrows cX10_borrows 7 none 2 := ⟨lw_at 1523 (by decide +kernel), ini_X10, ⟨by decide, by decide, by decide +kernel⟩, by decide, by decide +kernel⟩
theorem v_X10_borrows : VOK yX10_borrows := ⟨AW_in (lw_at 1522 (by decide +kernel : tables_1[1522]? = some (Cond.instanceMethod yX10_borrows))) rfl, AW_in (lw_pv 57 (by decide +kernel : lw_privs[57]? = some (yX10_borrows, 26))) rfl⟩
theorem m_X10_takes : MOK yX10_takes cX10_takes 4 none 2 := ⟨lw_at 1531 (by decide +kernel), ini_X10, ⟨by decide, by decide, by decide +kernel⟩, by decide, by decide +kernel⟩
theorem v_X10_takes : VOK yX10_takes := ⟨AW_in (lw_at 1530 (by decide +kernel : tables_1[1530]? = some (Cond.instanceMethod yX10_takes))) rfl, AW_in (lw_pv 59 (by decide +kernel : lw_privs[59]? = some (yX10_takes, 26))) rfl⟩
theorem m_X10_wayIn : MOK yX10_wayIn cX10_wayIn 3 (some .int) 2 := ⟨lw_at 1463 (by decide +kernel), ini_X10, ⟨by decide, by decide, by decide +kernel⟩, by decide, by decide +kernel⟩
theorem v_X10_wayIn : VOK yX10_wayIn := ⟨AW_in (lw_at 1462 (by decide +kernel : tables_1[1462]? = some (Cond.instanceMethod yX10_wayIn))) rfl, AW_in (lw_pv 44 (by decide +kernel : lw_privs[44]? = some (yX10_wayIn, 26))) rfl⟩
theorem m_X10_arrives : MOK yX10_arrives cX10_arrives 5 (some .int) 2 := ⟨lw_at 1483 (by decide +kernel), ini_X10, ⟨by decide, by decide, by decide +kernel⟩, by decide, by decide +kernel⟩
theorem v_X10_arrives : VOK yX10_arrives := ⟨AW_in (lw_at 1482 (by decide +kernel : tables_1[1482]? = some (Cond.instanceMethod yX10_arrives))) rfl, AW_in (lw_pv 47 (by decide +kernel : lw_privs[47]? = some (yX10_arrives, 26))) rfl⟩
theorem m_X10_fallsDue : MOK yX10_fallsDue cX10_fallsDue 2 none 0 := ⟨lw_at 1548 (by decide +kernel), ini_X10, ⟨by decide, by decide, by decide +kernel⟩, by decide, by decide +kernel⟩
theorem v_X10_fallsDue : VOK yX10_fallsDue := ⟨AW_in (lw_at 1547 (by decide +kernel : tables_1[1547]? = some (Cond.instanceMethod yX10_fallsDue))) rfl, AW_in (lw_pv 61 (by decide +kernel : lw_privs[61]? = some (yX10_fallsDue, 26))) rfl⟩
theorem m_X10_sends : MOK yX10_sends cX10_sends 6 (some .int) 1 := ⟨lw_at 1552 (by decide +kernel), ini_X10, ⟨by decide, by decide, by decide +kernel⟩, by decide, by decide +kernel⟩
theorem v_X10_sends : VOK yX10_sends := ⟨AW_in (lw_at 1551 (by decide +kernel : tables_1[1551]? = some (Cond.instanceMethod yX10_sends))) rfl, AW_in (lw_pv 62 (by decide +kernel : lw_privs[62]? = some (yX10_sends, 26))) rfl⟩
theorem m_X10_forecasts : MOK yX10_forecasts cX10_forecasts 2 none 0 := ⟨lw_at 1556 (by decide +kernel), ini_X10, ⟨by decide, by decide, by decide +kernel⟩, by decide, by decide +kernel⟩
theorem v_X10_forecasts : VOK yX10_forecasts := ⟨AW_in (lw_at 1555 (by decide +kernel : tables_1[1555]? = some (Cond.instanceMethod yX10_forecasts))) rfl, AW_in (lw_pv 63 (by decide +kernel : lw_privs[63]? = some (yX10_forecasts, 26))) rfl⟩
theorem m_X10_ticksOne : MOK yX10_ticksOne cX10_ticksOne 3 none 0 := ⟨lw_at 1544 (by decide +kernel), ini_X10, ⟨by decide, by decide, by decide +kernel⟩, by decide, by decide +kernel⟩
theorem v_X10_ticksOne : VOK yX10_ticksOne := ⟨AW_in (lw_at 1543 (by decide +kernel : tables_1[1543]? = some (Cond.instanceMethod yX10_ticksOne))) rfl, AW_in (lw_pv 60 (by decide +kernel : lw_privs[60]? = some (yX10_ticksOne, 26))) rfl⟩
theorem m_X10_ticksAll : MOK yX10_ticksAll cX10_ticksAll 3 (some .int) 1 := ⟨lw_at 1592 (by decide +kernel), ini_X10, ⟨by decide, by decide, by decide +kernel⟩, by decide, by decide +kernel⟩
theorem v_X10_ticksAll : VOK yX10_ticksAll := ⟨AW_in (lw_at 1591 (by decide +kernel : tables_1[1591]? = some (Cond.instanceMethod yX10_ticksAll))) rfl, AW_in (lw_pv 67 (by decide +kernel : lw_privs[67]? = some (yX10_ticksAll, 26))) rfl⟩
theorem m_X10_canGive : MOK yX10_canGive cX10_canGive 4 (some .boolean) 3 := ⟨lw_at 1600 (by decide +kernel), ini_X10, ⟨by decide, by decide, by decide +kernel⟩, by decide, by decide +kernel⟩
theorem v_X10_canGive : VOK yX10_canGive := ⟨AW_in (lw_at 1599 (by decide +kernel : tables_1[1599]? = some (Cond.instanceMethod yX10_canGive))) rfl, AW_in (lw_pv 68 (by decide +kernel : lw_privs[68]? = some (yX10_canGive, 26))) rfl⟩
theorem m_X10_gives : MOK yX10_gives cX10_gives 7 (some .int) 3 := ⟨lw_at 1604 (by decide +kernel), ini_X10, ⟨by decide, by decide, by decide +kernel⟩, by decide, by decide +kernel⟩
theorem v_X10_gives : VOK yX10_gives := ⟨AW_in (lw_at 1603 (by decide +kernel : tables_1[1603]? = some (Cond.instanceMethod yX10_gives))) rfl, AW_in (lw_pv 69 (by decide +kernel : lw_privs[69]? = some (yX10_gives, 26))) rfl⟩
theorem m_X10_isPromise : MOK yX10_isPromise cX10_isPromise 2 (some .boolean) 1 := ⟨lw_at 1421 (by decide +kernel), ini_X10, ⟨by decide, by decide, by decide +kernel⟩, by decide, by decide +kernel⟩
theorem v_X10_isPromise : VOK yX10_isPromise := ⟨AW_in (lw_at 1420 (by decide +kernel : tables_1[1420]? = some (Cond.instanceMethod yX10_isPromise))) rfl, AW_in (lw_pv 42 (by decide +kernel : lw_privs[42]? = some (yX10_isPromise, 26))) rfl⟩
theorem m_X10_canExtend : MOK yX10_canExtend cX10_canExtend 2 (some .boolean) 1 := ⟨lw_at 1612 (by decide +kernel), ini_X10, ⟨by decide, by decide, by decide +kernel⟩, by decide, by decide +kernel⟩
theorem v_X10_canExtend : VOK yX10_canExtend := ⟨AW_in (lw_at 1611 (by decide +kernel : tables_1[1611]? = some (Cond.instanceMethod yX10_canExtend))) rfl, AW_in (lw_pv 70 (by decide +kernel : lw_privs[70]? = some (yX10_canExtend, 26))) rfl⟩
theorem m_X10_extends1 : MOK yX10_extends1 cX10_extends1 7 (some .int) 1 := ⟨lw_at 1616 (by decide +kernel), ini_X10, ⟨by decide, by decide, by decide +kernel⟩, by decide, by decide +kernel⟩
theorem v_X10_extends1 : VOK yX10_extends1 := ⟨AW_in (lw_at 1615 (by decide +kernel : tables_1[1615]? = some (Cond.instanceMethod yX10_extends1))) rfl, AW_in (lw_pv 71 (by decide +kernel : lw_privs[71]? = some (yX10_extends1, 26))) rfl⟩
theorem m_X10_sets : MOK yX10_sets cX10_sets 4 (some .int) 2 := ⟨lw_at 1624 (by decide +kernel), ini_X10, ⟨by decide, by decide, by decide +kernel⟩, by decide, by decide +kernel⟩
theorem v_X10_sets : VOK yX10_sets := ⟨AW_in (lw_at 1623 (by decide +kernel : tables_1[1623]? = some (Cond.instanceMethod yX10_sets))) rfl, AW_in (lw_pv 72 (by decide +kernel : lw_privs[72]? = some (yX10_sets, 26))) rfl⟩
theorem m_X10_isPort : MOK yX10_isPort cX10_isPort 2 (some .boolean) 1 := ⟨lw_at 1379 (by decide +kernel), ini_X10, ⟨by decide, by decide, by decide +kernel⟩, by decide, by decide +kernel⟩
theorem v_X10_isPort : VOK yX10_isPort := ⟨AW_in (lw_at 1378 (by decide +kernel : tables_1[1378]? = some (Cond.instanceMethod yX10_isPort))) rfl, AW_in (lw_pv 34 (by decide +kernel : lw_privs[34]? = some (yX10_isPort, 26))) rfl⟩
theorem m_X10_isCells : MOK yX10_isCells cX10_isCells 1 (some .boolean) 1 := ⟨lw_at 1458 (by decide +kernel), ini_X10, ⟨by decide, by decide, by decide +kernel⟩, by decide, by decide +kernel⟩
theorem st_X10_isCells : Cond.static yX10_isCells ∈ AW := AW_in (lw_at 1457 (by decide +kernel : tables_1[1457]? = some (Cond.static yX10_isCells))) rfl
theorem m_X10_setting : MOK yX10_setting cX10_setting 2 (some .int) 1 := ⟨lw_at 1334 (by decide +kernel), ini_X10, ⟨by decide, by decide, by decide +kernel⟩, by decide, by decide +kernel⟩
theorem v_X10_setting : VOK yX10_setting := ⟨AW_in (lw_at 1332 (by decide +kernel : tables_1[1332]? = some (Cond.instanceMethod yX10_setting))) rfl, AW_in (lw_at 1333 (by decide +kernel)) rfl⟩
theorem m_X10_sumOf : MOK yX10_sumOf cX10_sumOf 4 (some .int) 1 := ⟨lw_at 1339 (by decide +kernel), ini_X10, ⟨by decide, by decide, by decide +kernel⟩, by decide, by decide +kernel⟩
theorem v_X10_sumOf : VOK yX10_sumOf := ⟨AW_in (lw_at 1338 (by decide +kernel : tables_1[1338]? = some (Cond.instanceMethod yX10_sumOf))) rfl, AW_in (lw_pv 25 (by decide +kernel : lw_privs[25]? = some (yX10_sumOf, 26))) rfl⟩
theorem m_X10_waiting : MOK yX10_waiting cX10_waiting 4 (some .int) 1 := ⟨lw_at 1404 (by decide +kernel), ini_X10, ⟨by decide, by decide, by decide +kernel⟩, by decide, by decide +kernel⟩
theorem v_X10_waiting : VOK yX10_waiting := ⟨AW_in (lw_at 1403 (by decide +kernel : tables_1[1403]? = some (Cond.instanceMethod yX10_waiting))) rfl, AW_in (lw_pv 40 (by decide +kernel : lw_privs[40]? = some (yX10_waiting, 26))) rfl⟩
theorem m_X10_port : MOK yX10_port cX10_port 3 (some .int) 2 := ⟨lw_at 1375 (by decide +kernel), ini_X10, ⟨by decide, by decide, by decide +kernel⟩, by decide, by decide +kernel⟩
theorem v_X10_port : VOK yX10_port := ⟨AW_in (lw_at 1373 (by decide +kernel : tables_1[1373]? = some (Cond.instanceMethod yX10_port))) rfl, AW_in (lw_at 1374 (by decide +kernel)) rfl⟩
theorem m_X10_portMore : MOK yX10_portMore cX10_portMore 3 (some .int) 2 := ⟨lw_at 1400 (by decide +kernel), ini_X10, ⟨by decide, by decide, by decide +kernel⟩, by decide, by decide +kernel⟩
theorem v_X10_portMore : VOK yX10_portMore := ⟨AW_in (lw_at 1399 (by decide +kernel : tables_1[1399]? = some (Cond.instanceMethod yX10_portMore))) rfl, AW_in (lw_pv 39 (by decide +kernel : lw_privs[39]? = some (yX10_portMore, 26))) rfl⟩
theorem m_X10_packetOf : MOK yX10_packetOf cX10_packetOf 5 (some .int) 2 := ⟨lw_at 1412 (by decide +kernel), ini_X10, ⟨by decide, by decide, by decide +kernel⟩, by decide, by decide +kernel⟩
theorem v_X10_packetOf : VOK yX10_packetOf := ⟨AW_in (lw_at 1411 (by decide +kernel : tables_1[1411]? = some (Cond.instanceMethod yX10_packetOf))) rfl, AW_in (lw_pv 41 (by decide +kernel : lw_privs[41]? = some (yX10_packetOf, 26))) rfl⟩
theorem m_X10_packet : MOK yX10_packet cX10_packet 5 (some .int) 3 := ⟨lw_at 1408 (by decide +kernel), ini_X10, ⟨by decide, by decide, by decide +kernel⟩, by decide, by decide +kernel⟩
theorem v_X10_packet : VOK yX10_packet := ⟨AW_in (lw_at 1406 (by decide +kernel : tables_1[1406]? = some (Cond.instanceMethod yX10_packet))) rfl, AW_in (lw_at 1407 (by decide +kernel)) rfl⟩
theorem m_X10_promise : MOK yX10_promise cX10_promise 3 (some .int) 2 := ⟨lw_at 1417 (by decide +kernel), ini_X10, ⟨by decide, by decide, by decide +kernel⟩, by decide, by decide +kernel⟩
theorem v_X10_promise : VOK yX10_promise := ⟨AW_in (lw_at 1415 (by decide +kernel : tables_1[1415]? = some (Cond.instanceMethod yX10_promise))) rfl, AW_in (lw_at 1416 (by decide +kernel)) rfl⟩
theorem m_X10_owed : MOK yX10_owed cX10_owed 3 (some .int) 2 := ⟨lw_at 1426 (by decide +kernel), ini_X10, ⟨by decide, by decide, by decide +kernel⟩, by decide, by decide +kernel⟩
theorem v_X10_owed : VOK yX10_owed := ⟨AW_in (lw_at 1424 (by decide +kernel : tables_1[1424]? = some (Cond.instanceMethod yX10_owed))) rfl, AW_in (lw_at 1425 (by decide +kernel)) rfl⟩
theorem m_X10_drop : MOK yX10_drop cX10_drop 3 (some .int) 2 := ⟨lw_at 1434 (by decide +kernel), ini_X10, ⟨by decide, by decide, by decide +kernel⟩, by decide, by decide +kernel⟩
theorem v_X10_drop : VOK yX10_drop := ⟨AW_in (lw_at 1432 (by decide +kernel : tables_1[1432]? = some (Cond.instanceMethod yX10_drop))) rfl, AW_in (lw_at 1433 (by decide +kernel)) rfl⟩
theorem m_X10_dropsBy : MOK yX10_dropsBy cX10_dropsBy 2 (some .int) 1 := ⟨lw_at 1439 (by decide +kernel), ini_X10, ⟨by decide, by decide, by decide +kernel⟩, by decide, by decide +kernel⟩
theorem v_X10_dropsBy : VOK yX10_dropsBy := ⟨AW_in (lw_at 1437 (by decide +kernel : tables_1[1437]? = some (Cond.instanceMethod yX10_dropsBy))) rfl, AW_in (lw_at 1438 (by decide +kernel)) rfl⟩
theorem m_X10_mostCharged : MOK yX10_mostCharged cX10_mostCharged 3 (some .int) 0 := ⟨lw_at 1443 (by decide +kernel), ini_X10, ⟨by decide, by decide, by decide +kernel⟩, by decide, by decide +kernel⟩
theorem v_X10_mostCharged : VOK yX10_mostCharged := ⟨AW_in (lw_at 1441 (by decide +kernel : tables_1[1441]? = some (Cond.instanceMethod yX10_mostCharged))) rfl, AW_in (lw_at 1442 (by decide +kernel)) rfl⟩
theorem m_X10_lossShare : MOK yX10_lossShare cX10_lossShare 1 (some .float) 0 := ⟨lw_at 1447 (by decide +kernel), ini_X10, ⟨by decide, by decide, by decide +kernel⟩, by decide, by decide +kernel⟩
theorem v_X10_lossShare : VOK yX10_lossShare := ⟨AW_in (lw_at 1445 (by decide +kernel : tables_1[1445]? = some (Cond.instanceMethod yX10_lossShare))) rfl, AW_in (lw_at 1446 (by decide +kernel)) rfl⟩
theorem m_X10_meanForecast : MOK yX10_meanForecast cX10_meanForecast 3 (some .double) 0 := ⟨lw_at 1451 (by decide +kernel), ini_X10, ⟨by decide, by decide, by decide +kernel⟩, by decide, by decide +kernel⟩
theorem v_X10_meanForecast : VOK yX10_meanForecast := ⟨AW_in (lw_at 1449 (by decide +kernel : tables_1[1449]? = some (Cond.instanceMethod yX10_meanForecast))) rfl, AW_in (lw_at 1450 (by decide +kernel)) rfl⟩
theorem m_X10_wouldBorrow : MOK yX10_wouldBorrow cX10_wouldBorrow 4 (some .int) 2 := ⟨lw_at 1455 (by decide +kernel), ini_X10, ⟨by decide, by decide, by decide +kernel⟩, by decide, by decide +kernel⟩
theorem v_X10_wouldBorrow : VOK yX10_wouldBorrow := ⟨AW_in (lw_at 1453 (by decide +kernel : tables_1[1453]? = some (Cond.instanceMethod yX10_wouldBorrow))) rfl, AW_in (lw_at 1454 (by decide +kernel)) rfl⟩
theorem m_X10_wouldCall : MOK yX10_wouldCall cX10_wouldCall 3 (some .int) 2 := ⟨lw_at 1471 (by decide +kernel), ini_X10, ⟨by decide, by decide, by decide +kernel⟩, by decide, by decide +kernel⟩
theorem v_X10_wouldCall : VOK yX10_wouldCall := ⟨AW_in (lw_at 1469 (by decide +kernel : tables_1[1469]? = some (Cond.instanceMethod yX10_wouldCall))) rfl, AW_in (lw_at 1470 (by decide +kernel)) rfl⟩
theorem m_X10_wouldDrop : MOK yX10_wouldDrop cX10_wouldDrop 6 (some .int) 2 := ⟨lw_at 1475 (by decide +kernel), ini_X10, ⟨by decide, by decide, by decide +kernel⟩, by decide, by decide +kernel⟩
theorem v_X10_wouldDrop : VOK yX10_wouldDrop := ⟨AW_in (lw_at 1473 (by decide +kernel : tables_1[1473]? = some (Cond.instanceMethod yX10_wouldDrop))) rfl, AW_in (lw_at 1474 (by decide +kernel)) rfl⟩
theorem m_X10_greatest : MOK yX10_greatest cX10_greatest 3 (some .int) 1 := ⟨lw_at 1535 (by decide +kernel), ini_X10, ⟨by decide, by decide, by decide +kernel⟩, by decide, by decide +kernel⟩
theorem v_X10_greatest : VOK yX10_greatest := ⟨AW_in (lw_at 1533 (by decide +kernel : tables_1[1533]? = some (Cond.instanceMethod yX10_greatest))) rfl, AW_in (lw_at 1534 (by decide +kernel)) rfl⟩
theorem m_X10_dropsIn : MOK yX10_dropsIn cX10_dropsIn 4 (some .int) 1 := ⟨lw_at 1539 (by decide +kernel), ini_X10, ⟨by decide, by decide, by decide +kernel⟩, by decide, by decide +kernel⟩
theorem v_X10_dropsIn : VOK yX10_dropsIn := ⟨AW_in (lw_at 1537 (by decide +kernel : tables_1[1537]? = some (Cond.instanceMethod yX10_dropsIn))) rfl, AW_in (lw_at 1538 (by decide +kernel)) rfl⟩
theorem m_X10_emptyIn : MOK yX10_emptyIn cX10_emptyIn 3 (some .int) 0 := ⟨lw_at 1560 (by decide +kernel), ini_X10, ⟨by decide, by decide, by decide +kernel⟩, by decide, by decide +kernel⟩
theorem v_X10_emptyIn : VOK yX10_emptyIn := ⟨AW_in (lw_at 1558 (by decide +kernel : tables_1[1558]? = some (Cond.instanceMethod yX10_emptyIn))) rfl, AW_in (lw_at 1559 (by decide +kernel)) rfl⟩
theorem m_X10_sentIn : MOK yX10_sentIn cX10_sentIn 5 (some .int) 2 := ⟨lw_at 1564 (by decide +kernel), ini_X10, ⟨by decide, by decide, by decide +kernel⟩, by decide, by decide +kernel⟩
theorem v_X10_sentIn : VOK yX10_sentIn := ⟨AW_in (lw_at 1562 (by decide +kernel : tables_1[1562]? = some (Cond.instanceMethod yX10_sentIn))) rfl, AW_in (lw_at 1563 (by decide +kernel)) rfl⟩
theorem m_X10_thenSent : MOK yX10_thenSent cX10_thenSent 7 (some .int) 2 := ⟨lw_at 1568 (by decide +kernel), ini_X10, ⟨by decide, by decide, by decide +kernel⟩, by decide, by decide +kernel⟩
theorem v_X10_thenSent : VOK yX10_thenSent := ⟨AW_in (lw_at 1567 (by decide +kernel : tables_1[1567]? = some (Cond.instanceMethod yX10_thenSent))) rfl, AW_in (lw_pv 64 (by decide +kernel : lw_privs[64]? = some (yX10_thenSent, 26))) rfl⟩
theorem m_X10_arrive : MOK yX10_arrive cX10_arrive 3 (some .int) 2 := ⟨lw_at 1572 (by decide +kernel), ini_X10, ⟨by decide, by decide, by decide +kernel⟩, by decide, by decide +kernel⟩
theorem v_X10_arrive : VOK yX10_arrive := ⟨AW_in (lw_at 1570 (by decide +kernel : tables_1[1570]? = some (Cond.instanceMethod yX10_arrive))) rfl, AW_in (lw_at 1571 (by decide +kernel)) rfl⟩
theorem m_X10_isTicks : MOK yX10_isTicks cX10_isTicks 1 (some .boolean) 1 := ⟨lw_at 1587 (by decide +kernel), ini_X10, ⟨by decide, by decide, by decide +kernel⟩, by decide, by decide +kernel⟩
theorem st_X10_isTicks : Cond.static yX10_isTicks ∈ AW := AW_in (lw_at 1586 (by decide +kernel : tables_1[1586]? = some (Cond.static yX10_isTicks))) rfl
theorem m_X10_isKeep : MOK yX10_isKeep cX10_isKeep 1 (some .boolean) 1 := ⟨lw_at 1631 (by decide +kernel), ini_X10, ⟨by decide, by decide, by decide +kernel⟩, by decide, by decide +kernel⟩
theorem st_X10_isKeep : Cond.static yX10_isKeep ∈ AW := AW_in (lw_at 1630 (by decide +kernel : tables_1[1630]? = some (Cond.static yX10_isKeep))) rfl
theorem m_X10_tick : MOK yX10_tick cX10_tick 2 (some .int) 1 := ⟨lw_at 1584 (by decide +kernel), ini_X10, ⟨by decide, by decide, by decide +kernel⟩, by decide, by decide +kernel⟩
theorem v_X10_tick : VOK yX10_tick := ⟨AW_in (lw_at 1582 (by decide +kernel : tables_1[1582]? = some (Cond.instanceMethod yX10_tick))) rfl, AW_in (lw_at 1583 (by decide +kernel)) rfl⟩
theorem m_X10_giveBack : MOK yX10_giveBack cX10_giveBack 4 (some .int) 3 := ⟨lw_at 1596 (by decide +kernel), ini_X10, ⟨by decide, by decide, by decide +kernel⟩, by decide, by decide +kernel⟩
theorem v_X10_giveBack : VOK yX10_giveBack := ⟨AW_in (lw_at 1594 (by decide +kernel : tables_1[1594]? = some (Cond.instanceMethod yX10_giveBack))) rfl, AW_in (lw_at 1595 (by decide +kernel)) rfl⟩
theorem m_X10_extend : MOK yX10_extend cX10_extend 2 (some .int) 1 := ⟨lw_at 1608 (by decide +kernel), ini_X10, ⟨by decide, by decide, by decide +kernel⟩, by decide, by decide +kernel⟩
theorem v_X10_extend : VOK yX10_extend := ⟨AW_in (lw_at 1606 (by decide +kernel : tables_1[1606]? = some (Cond.instanceMethod yX10_extend))) rfl, AW_in (lw_at 1607 (by decide +kernel)) rfl⟩
theorem m_X10_setTerm : MOK yX10_setTerm cX10_setTerm 2 (some .int) 1 := ⟨lw_at 1620 (by decide +kernel), ini_X10, ⟨by decide, by decide, by decide +kernel⟩, by decide, by decide +kernel⟩
theorem v_X10_setTerm : VOK yX10_setTerm := ⟨AW_in (lw_at 1618 (by decide +kernel : tables_1[1618]? = some (Cond.instanceMethod yX10_setTerm))) rfl, AW_in (lw_at 1619 (by decide +kernel)) rfl⟩
theorem m_X10_setKeep : MOK yX10_setKeep cX10_setKeep 2 (some .int) 1 := ⟨lw_at 1628 (by decide +kernel), ini_X10, ⟨by decide, by decide, by decide +kernel⟩, by decide, by decide +kernel⟩
theorem v_X10_setKeep : VOK yX10_setKeep := ⟨AW_in (lw_at 1626 (by decide +kernel : tables_1[1626]? = some (Cond.instanceMethod yX10_setKeep))) rfl, AW_in (lw_at 1627 (by decide +kernel)) rfl⟩
theorem m_X10_isDoing : MOK yX10_isDoing cX10_isDoing 1 (some .boolean) 0 := ⟨lw_at 1672 (by decide +kernel), ini_X10, ⟨by decide, by decide, by decide +kernel⟩, by decide, by decide +kernel⟩
theorem v_X10_isDoing : VOK yX10_isDoing := ⟨AW_in (lw_at 1671 (by decide +kernel : tables_1[1671]? = some (Cond.instanceMethod yX10_isDoing))) rfl, AW_in (lw_pv 80 (by decide +kernel : lw_privs[80]? = some (yX10_isDoing, 26))) rfl⟩
theorem m_X10_counts : MOK yX10_counts cX10_counts 2 none 1 := ⟨lw_at 1676 (by decide +kernel), ini_X10, ⟨by decide, by decide, by decide +kernel⟩, by decide, by decide +kernel⟩
theorem v_X10_counts : VOK yX10_counts := ⟨AW_in (lw_at 1675 (by decide +kernel : tables_1[1675]? = some (Cond.instanceMethod yX10_counts))) rfl, AW_in (lw_pv 81 (by decide +kernel : lw_privs[81]? = some (yX10_counts, 26))) rfl⟩
theorem m_X10_readsAny : MOK yX10_readsAny cX10_readsAny 1 (some .int) 0 := ⟨lw_at 1668 (by decide +kernel), ini_X10, ⟨by decide, by decide, by decide +kernel⟩, by decide, by decide +kernel⟩
theorem v_X10_readsAny : VOK yX10_readsAny := ⟨AW_in (lw_at 1667 (by decide +kernel : tables_1[1667]? = some (Cond.instanceMethod yX10_readsAny))) rfl, AW_in (lw_pv 79 (by decide +kernel : lw_privs[79]? = some (yX10_readsAny, 26))) rfl⟩
theorem m_X10_readsName : MOK yX10_readsName cX10_readsName 2 (some .int) 0 := ⟨lw_at 1664 (by decide +kernel), ini_X10, ⟨by decide, by decide, by decide +kernel⟩, by decide, by decide +kernel⟩
theorem v_X10_readsName : VOK yX10_readsName := ⟨AW_in (lw_at 1663 (by decide +kernel : tables_1[1663]? = some (Cond.instanceMethod yX10_readsName))) rfl, AW_in (lw_pv 78 (by decide +kernel : lw_privs[78]? = some (yX10_readsName, 26))) rfl⟩
theorem m_X10_readsArrive : MOK yX10_readsArrive cX10_readsArrive 3 none 0 := ⟨lw_at 1660 (by decide +kernel), ini_X10, ⟨by decide, by decide, by decide +kernel⟩, by decide, by decide +kernel⟩
theorem v_X10_readsArrive : VOK yX10_readsArrive := ⟨AW_in (lw_at 1659 (by decide +kernel : tables_1[1659]? = some (Cond.instanceMethod yX10_readsArrive))) rfl, AW_in (lw_pv 77 (by decide +kernel : lw_privs[77]? = some (yX10_readsArrive, 26))) rfl⟩
theorem m_X10_readsBack : MOK yX10_readsBack cX10_readsBack 6 none 0 := ⟨lw_at 1680 (by decide +kernel), ini_X10, ⟨by decide, by decide, by decide +kernel⟩, by decide, by decide +kernel⟩
theorem v_X10_readsBack : VOK yX10_readsBack := ⟨AW_in (lw_at 1679 (by decide +kernel : tables_1[1679]? = some (Cond.instanceMethod yX10_readsBack))) rfl, AW_in (lw_pv 82 (by decide +kernel : lw_privs[82]? = some (yX10_readsBack, 26))) rfl⟩
theorem m_X10_readsNumber : MOK yX10_readsNumber cX10_readsNumber 5 none 0 := ⟨lw_at 1684 (by decide +kernel), ini_X10, ⟨by decide, by decide, by decide +kernel⟩, by decide, by decide +kernel⟩
theorem v_X10_readsNumber : VOK yX10_readsNumber := ⟨AW_in (lw_at 1683 (by decide +kernel : tables_1[1683]? = some (Cond.instanceMethod yX10_readsNumber))) rfl, AW_in (lw_pv 83 (by decide +kernel : lw_privs[83]? = some (yX10_readsNumber, 26))) rfl⟩
theorem m_X10_opensRepeat : MOK yX10_opensRepeat cX10_opensRepeat 2 none 0 := ⟨lw_at 1656 (by decide +kernel), ini_X10, ⟨by decide, by decide, by decide +kernel⟩, by decide, by decide +kernel⟩
theorem v_X10_opensRepeat : VOK yX10_opensRepeat := ⟨AW_in (lw_at 1655 (by decide +kernel : tables_1[1655]? = some (Cond.instanceMethod yX10_opensRepeat))) rfl, AW_in (lw_pv 76 (by decide +kernel : lw_privs[76]? = some (yX10_opensRepeat, 26))) rfl⟩
theorem m_X10_closesRepeat : MOK yX10_closesRepeat cX10_closesRepeat 1 none 0 := ⟨lw_at 1643 (by decide +kernel), ini_X10, ⟨by decide, by decide, by decide +kernel⟩, by decide, by decide +kernel⟩
theorem v_X10_closesRepeat : VOK yX10_closesRepeat := ⟨AW_in (lw_at 1642 (by decide +kernel : tables_1[1642]? = some (Cond.instanceMethod yX10_closesRepeat))) rfl, AW_in (lw_pv 74 (by decide +kernel : lw_privs[74]? = some (yX10_closesRepeat, 26))) rfl⟩
theorem m_X10_readsCommand : MOK yX10_readsCommand cX10_readsCommand 4 none 0 := ⟨lw_at 1647 (by decide +kernel), ini_X10, ⟨by decide, by decide, by decide +kernel⟩, by decide, by decide +kernel⟩
theorem v_X10_readsCommand : VOK yX10_readsCommand := ⟨AW_in (lw_at 1646 (by decide +kernel : tables_1[1646]? = some (Cond.instanceMethod yX10_readsCommand))) rfl, AW_in (lw_pv 75 (by decide +kernel : lw_privs[75]? = some (yX10_readsCommand, 26))) rfl⟩
theorem m_X10_goes : MOK yX10_goes cX10_goes 2 none 1 := ⟨lw_at 1639 (by decide +kernel), ini_X10, ⟨by decide, by decide, by decide +kernel⟩, by decide, by decide +kernel⟩
theorem v_X10_goes : VOK yX10_goes := ⟨AW_in (lw_at 1638 (by decide +kernel : tables_1[1638]? = some (Cond.instanceMethod yX10_goes))) rfl, AW_in (lw_pv 73 (by decide +kernel : lw_privs[73]? = some (yX10_goes, 26))) rfl⟩
theorem m_X10_runScript : MOK yX10_runScript cX10_runScript 2 (some .int) 0 := ⟨lw_at 1635 (by decide +kernel), ini_X10, ⟨by decide, by decide, by decide +kernel⟩, by decide, by decide +kernel⟩
theorem v_X10_runScript : VOK yX10_runScript := ⟨AW_in (lw_at 1633 (by decide +kernel : tables_1[1633]? = some (Cond.instanceMethod yX10_runScript))) rfl, AW_in (lw_at 1634 (by decide +kernel)) rfl⟩
theorem m_X10_writes : MOK yX10_writes cX10_writes 2 none 1 := ⟨lw_at 1697 (by decide +kernel), ini_X10, ⟨by decide, by decide, by decide +kernel⟩, by decide, by decide +kernel⟩
theorem v_X10_writes : VOK yX10_writes := ⟨AW_in (lw_at 1696 (by decide +kernel : tables_1[1696]? = some (Cond.instanceMethod yX10_writes))) rfl, AW_in (lw_pv 85 (by decide +kernel : lw_privs[85]? = some (yX10_writes, 26))) rfl⟩
theorem m_X10_writesNumber : MOK yX10_writesNumber cX10_writesNumber 3 none 1 := ⟨lw_at 1701 (by decide +kernel), ini_X10, ⟨by decide, by decide, by decide +kernel⟩, by decide, by decide +kernel⟩
theorem v_X10_writesNumber : VOK yX10_writesNumber := ⟨AW_in (lw_at 1700 (by decide +kernel : tables_1[1700]? = some (Cond.instanceMethod yX10_writesNumber))) rfl, AW_in (lw_pv 86 (by decide +kernel : lw_privs[86]? = some (yX10_writesNumber, 26))) rfl⟩
theorem m_X10_writesName : MOK yX10_writesName cX10_writesName 5 none 1 := ⟨lw_at 1692 (by decide +kernel), ini_X10, ⟨by decide, by decide, by decide +kernel⟩, by decide, by decide +kernel⟩
theorem v_X10_writesName : VOK yX10_writesName := ⟨AW_in (lw_at 1691 (by decide +kernel : tables_1[1691]? = some (Cond.instanceMethod yX10_writesName))) rfl, AW_in (lw_pv 84 (by decide +kernel : lw_privs[84]? = some (yX10_writesName, 26))) rfl⟩
theorem m_X10_report : MOK yX10_report cX10_report 3 (some .int) 0 := ⟨lw_at 1688 (by decide +kernel), ini_X10, ⟨by decide, by decide, by decide +kernel⟩, by decide, by decide +kernel⟩
theorem v_X10_report : VOK yX10_report := ⟨AW_in (lw_at 1686 (by decide +kernel : tables_1[1686]? = some (Cond.instanceMethod yX10_report))) rfl, AW_in (lw_at 1687 (by decide +kernel)) rfl⟩
theorem m_X10_reportByte : MOK yX10_reportByte cX10_reportByte 2 (some .int) 1 := ⟨lw_at 1705 (by decide +kernel), ini_X10, ⟨by decide, by decide, by decide +kernel⟩, by decide, by decide +kernel⟩
theorem v_X10_reportByte : VOK yX10_reportByte := ⟨AW_in (lw_at 1703 (by decide +kernel : tables_1[1703]? = some (Cond.instanceMethod yX10_reportByte))) rfl, AW_in (lw_at 1704 (by decide +kernel)) rfl⟩
theorem m_X10_save : MOK yX10_save cX10_save 1 (some .int) 0 := ⟨lw_at 1709 (by decide +kernel), ini_X10, ⟨by decide, by decide, by decide +kernel⟩, by decide, by decide +kernel⟩
theorem v_X10_save : VOK yX10_save := ⟨AW_in (lw_at 1707 (by decide +kernel : tables_1[1707]? = some (Cond.instanceMethod yX10_save))) rfl, AW_in (lw_at 1708 (by decide +kernel)) rfl⟩
theorem m_X10_restore : MOK yX10_restore cX10_restore 1 (some .int) 0 := ⟨lw_at 1713 (by decide +kernel), ini_X10, ⟨by decide, by decide, by decide +kernel⟩, by decide, by decide +kernel⟩
theorem v_X10_restore : VOK yX10_restore := ⟨AW_in (lw_at 1711 (by decide +kernel : tables_1[1711]? = some (Cond.instanceMethod yX10_restore))) rfl, AW_in (lw_at 1712 (by decide +kernel)) rfl⟩
theorem f_X8_11 : Cond.fieldLink RX8 11 "CellLoans$Text" "bytes" "[I" ∈ AW := AW_in (lw_at 37 (by decide +kernel : tables_1[37]? = some (Cond.fieldLink RX8 11 "CellLoans$Text" "bytes" "[I"))) rfl
theorem f_X9_57 : Cond.fieldLink RX9 57 "CellLoans$Text" "length" "I" ∈ AW := AW_in (lw_at 38 (by decide +kernel : tables_1[38]? = some (Cond.fieldLink RX9 57 "CellLoans$Text" "length" "I"))) rfl
theorem f_X8_19 : Cond.fieldLink RX8 19 "CellLoans$Text" "length" "I" ∈ AW := AW_in (lw_at 39 (by decide +kernel : tables_1[39]? = some (Cond.fieldLink RX8 19 "CellLoans$Text" "length" "I"))) rfl
theorem f_X8_25 : Cond.fieldLink RX8 25 "CellLoans$Text" "errorCode" "I" ∈ AW := AW_in (lw_at 40 (by decide +kernel : tables_1[40]? = some (Cond.fieldLink RX8 25 "CellLoans$Text" "errorCode" "I"))) rfl
theorem f_X9_108 : Cond.fieldLink RX9 108 "CellLoans$Text" "errorCode" "I" ∈ AW := AW_in (lw_at 41 (by decide +kernel : tables_1[41]? = some (Cond.fieldLink RX9 108 "CellLoans$Text" "errorCode" "I"))) rfl
theorem f_X8_15 : Cond.fieldLink RX8 15 "CellLoans$Text" "errorPosition" "I" ∈ AW := AW_in (lw_at 42 (by decide +kernel : tables_1[42]? = some (Cond.fieldLink RX8 15 "CellLoans$Text" "errorPosition" "I"))) rfl
theorem f_X9_111 : Cond.fieldLink RX9 111 "CellLoans$Text" "errorPosition" "I" ∈ AW := AW_in (lw_at 43 (by decide +kernel : tables_1[43]? = some (Cond.fieldLink RX9 111 "CellLoans$Text" "errorPosition" "I"))) rfl
theorem f_X8_22 : Cond.fieldLink RX8 22 "CellLoans$Text" "unread" "I" ∈ AW := AW_in (lw_at 44 (by decide +kernel : tables_1[44]? = some (Cond.fieldLink RX8 22 "CellLoans$Text" "unread" "I"))) rfl
theorem f_X7_31 : Cond.fieldLink RX7 31 "CellLoans$Text" "kind" "I" ∈ AW := AW_in (lw_at 45 (by decide +kernel : tables_1[45]? = some (Cond.fieldLink RX7 31 "CellLoans$Text" "kind" "I"))) rfl
theorem f_X5_48 : Cond.fieldLink RX5 48 "CellLoans$Text" "kind" "I" ∈ AW := AW_in (lw_at 46 (by decide +kernel : tables_1[46]? = some (Cond.fieldLink RX5 48 "CellLoans$Text" "kind" "I"))) rfl
theorem f_X8_35 : Cond.fieldLink RX8 35 "CellLoans$Text" "kind" "I" ∈ AW := AW_in (lw_at 47 (by decide +kernel : tables_1[47]? = some (Cond.fieldLink RX8 35 "CellLoans$Text" "kind" "I"))) rfl
theorem f_X8_28 : Cond.fieldLink RX8 28 "CellLoans$Text" "start" "I" ∈ AW := AW_in (lw_at 48 (by decide +kernel : tables_1[48]? = some (Cond.fieldLink RX8 28 "CellLoans$Text" "start" "I"))) rfl
theorem f_X7_69 : Cond.fieldLink RX7 69 "CellLoans$Text" "word" "J" ∈ AW := AW_in (lw_at 49 (by decide +kernel : tables_1[49]? = some (Cond.fieldLink RX7 69 "CellLoans$Text" "word" "J"))) rfl
theorem f_X8_38 : Cond.fieldLink RX8 38 "CellLoans$Text" "word" "J" ∈ AW := AW_in (lw_at 50 (by decide +kernel : tables_1[50]? = some (Cond.fieldLink RX8 38 "CellLoans$Text" "word" "J"))) rfl
theorem f_X5_113 : Cond.fieldLink RX5 113 "CellLoans$Text" "word" "J" ∈ AW := AW_in (lw_at 51 (by decide +kernel : tables_1[51]? = some (Cond.fieldLink RX5 113 "CellLoans$Text" "word" "J"))) rfl
theorem f_X7_81 : Cond.fieldLink RX7 81 "CellLoans$Text" "number" "I" ∈ AW := AW_in (lw_at 52 (by decide +kernel : tables_1[52]? = some (Cond.fieldLink RX7 81 "CellLoans$Text" "number" "I"))) rfl
theorem f_X5_104 : Cond.fieldLink RX5 104 "CellLoans$Text" "number" "I" ∈ AW := AW_in (lw_at 53 (by decide +kernel : tables_1[53]? = some (Cond.fieldLink RX5 104 "CellLoans$Text" "number" "I"))) rfl
theorem f_X8_42 : Cond.fieldLink RX8 42 "CellLoans$Text" "number" "I" ∈ AW := AW_in (lw_at 54 (by decide +kernel : tables_1[54]? = some (Cond.fieldLink RX8 42 "CellLoans$Text" "number" "I"))) rfl
theorem f_X7_9 : Cond.fieldLink RX7 9 "CellLoans$SwitchReader" "termRead" "Z" ∈ AW := AW_in (lw_at 81 (by decide +kernel : tables_1[81]? = some (Cond.fieldLink RX7 9 "CellLoans$SwitchReader" "termRead" "Z"))) rfl
theorem f_X7_15 : Cond.fieldLink RX7 15 "CellLoans$SwitchReader" "keepRead" "Z" ∈ AW := AW_in (lw_at 82 (by decide +kernel : tables_1[82]? = some (Cond.fieldLink RX7 15 "CellLoans$SwitchReader" "keepRead" "Z"))) rfl
theorem f_X5_11 : Cond.fieldLink RX5 11 "CellLoans$Script" "verb" "[I" ∈ AW := AW_in (lw_at 94 (by decide +kernel : tables_1[94]? = some (Cond.fieldLink RX5 11 "CellLoans$Script" "verb" "[I"))) rfl
theorem f_X9_297 : Cond.fieldLink RX9 297 "CellLoans$Script" "verb" "[I" ∈ AW := AW_in (lw_at 95 (by decide +kernel : tables_1[95]? = some (Cond.fieldLink RX9 297 "CellLoans$Script" "verb" "[I"))) rfl
theorem f_X5_15 : Cond.fieldLink RX5 15 "CellLoans$Script" "port" "[I" ∈ AW := AW_in (lw_at 96 (by decide +kernel : tables_1[96]? = some (Cond.fieldLink RX5 15 "CellLoans$Script" "port" "[I"))) rfl
theorem f_X9_300 : Cond.fieldLink RX9 300 "CellLoans$Script" "port" "[I" ∈ AW := AW_in (lw_at 97 (by decide +kernel : tables_1[97]? = some (Cond.fieldLink RX9 300 "CellLoans$Script" "port" "[I"))) rfl
theorem f_X5_18 : Cond.fieldLink RX5 18 "CellLoans$Script" "other" "[I" ∈ AW := AW_in (lw_at 98 (by decide +kernel : tables_1[98]? = some (Cond.fieldLink RX5 18 "CellLoans$Script" "other" "[I"))) rfl
theorem f_X9_306 : Cond.fieldLink RX9 306 "CellLoans$Script" "other" "[I" ∈ AW := AW_in (lw_at 99 (by decide +kernel : tables_1[99]? = some (Cond.fieldLink RX9 306 "CellLoans$Script" "other" "[I"))) rfl
theorem f_X5_21 : Cond.fieldLink RX5 21 "CellLoans$Script" "number" "[I" ∈ AW := AW_in (lw_at 100 (by decide +kernel : tables_1[100]? = some (Cond.fieldLink RX5 21 "CellLoans$Script" "number" "[I"))) rfl
theorem f_X9_295 : Cond.fieldLink RX9 295 "CellLoans$Script" "number" "[I" ∈ AW := AW_in (lw_at 101 (by decide +kernel : tables_1[101]? = some (Cond.fieldLink RX9 295 "CellLoans$Script" "number" "[I"))) rfl
theorem f_X5_30 : Cond.fieldLink RX5 30 "CellLoans$Script" "count" "I" ∈ AW := AW_in (lw_at 102 (by decide +kernel : tables_1[102]? = some (Cond.fieldLink RX5 30 "CellLoans$Script" "count" "I"))) rfl
theorem f_X9_101 : Cond.fieldLink RX9 101 "CellLoans$Script" "count" "I" ∈ AW := AW_in (lw_at 103 (by decide +kernel : tables_1[103]? = some (Cond.fieldLink RX9 101 "CellLoans$Script" "count" "I"))) rfl
theorem f_X5_34 : Cond.fieldLink RX5 34 "CellLoans$Script" "written" "I" ∈ AW := AW_in (lw_at 104 (by decide +kernel : tables_1[104]? = some (Cond.fieldLink RX5 34 "CellLoans$Script" "written" "I"))) rfl
theorem f_X5_24 : Cond.fieldLink RX5 24 "CellLoans$Script" "bodyStart" "[I" ∈ AW := AW_in (lw_at 105 (by decide +kernel : tables_1[105]? = some (Cond.fieldLink RX5 24 "CellLoans$Script" "bodyStart" "[I"))) rfl
theorem f_X5_27 : Cond.fieldLink RX5 27 "CellLoans$Script" "times" "[I" ∈ AW := AW_in (lw_at 106 (by decide +kernel : tables_1[106]? = some (Cond.fieldLink RX5 27 "CellLoans$Script" "times" "[I"))) rfl
theorem f_X5_37 : Cond.fieldLink RX5 37 "CellLoans$Script" "open" "I" ∈ AW := AW_in (lw_at 107 (by decide +kernel : tables_1[107]? = some (Cond.fieldLink RX5 37 "CellLoans$Script" "open" "I"))) rfl
theorem f_X3_9 : Cond.fieldLink RX3 9 "CellLoans$Promises" "lender" "[I" ∈ AW := AW_in (lw_at 141 (by decide +kernel : tables_1[141]? = some (Cond.fieldLink RX3 9 "CellLoans$Promises" "lender" "[I"))) rfl
theorem f_X4_63 : Cond.fieldLink RX4 63 "CellLoans$Promises" "lender" "[I" ∈ AW := AW_in (lw_at 142 (by decide +kernel : tables_1[142]? = some (Cond.fieldLink RX4 63 "CellLoans$Promises" "lender" "[I"))) rfl
theorem f_X9_175 : Cond.fieldLink RX9 175 "CellLoans$Promises" "lender" "[I" ∈ AW := AW_in (lw_at 143 (by decide +kernel : tables_1[143]? = some (Cond.fieldLink RX9 175 "CellLoans$Promises" "lender" "[I"))) rfl
theorem f_X6_144 : Cond.fieldLink RX6 144 "CellLoans$Promises" "lender" "[I" ∈ AW := AW_in (lw_at 144 (by decide +kernel : tables_1[144]? = some (Cond.fieldLink RX6 144 "CellLoans$Promises" "lender" "[I"))) rfl
theorem f_X3_15 : Cond.fieldLink RX3 15 "CellLoans$Promises" "borrower" "[I" ∈ AW := AW_in (lw_at 145 (by decide +kernel : tables_1[145]? = some (Cond.fieldLink RX3 15 "CellLoans$Promises" "borrower" "[I"))) rfl
theorem f_X4_66 : Cond.fieldLink RX4 66 "CellLoans$Promises" "borrower" "[I" ∈ AW := AW_in (lw_at 146 (by decide +kernel : tables_1[146]? = some (Cond.fieldLink RX4 66 "CellLoans$Promises" "borrower" "[I"))) rfl
theorem f_X9_178 : Cond.fieldLink RX9 178 "CellLoans$Promises" "borrower" "[I" ∈ AW := AW_in (lw_at 147 (by decide +kernel : tables_1[147]? = some (Cond.fieldLink RX9 178 "CellLoans$Promises" "borrower" "[I"))) rfl
theorem f_X6_147 : Cond.fieldLink RX6 147 "CellLoans$Promises" "borrower" "[I" ∈ AW := AW_in (lw_at 148 (by decide +kernel : tables_1[148]? = some (Cond.fieldLink RX6 147 "CellLoans$Promises" "borrower" "[I"))) rfl
theorem f_X3_18 : Cond.fieldLink RX3 18 "CellLoans$Promises" "cells" "[I" ∈ AW := AW_in (lw_at 149 (by decide +kernel : tables_1[149]? = some (Cond.fieldLink RX3 18 "CellLoans$Promises" "cells" "[I"))) rfl
theorem f_X4_69 : Cond.fieldLink RX4 69 "CellLoans$Promises" "cells" "[I" ∈ AW := AW_in (lw_at 150 (by decide +kernel : tables_1[150]? = some (Cond.fieldLink RX4 69 "CellLoans$Promises" "cells" "[I"))) rfl
theorem f_X9_181 : Cond.fieldLink RX9 181 "CellLoans$Promises" "cells" "[I" ∈ AW := AW_in (lw_at 151 (by decide +kernel : tables_1[151]? = some (Cond.fieldLink RX9 181 "CellLoans$Promises" "cells" "[I"))) rfl
theorem f_X6_138 : Cond.fieldLink RX6 138 "CellLoans$Promises" "cells" "[I" ∈ AW := AW_in (lw_at 152 (by decide +kernel : tables_1[152]? = some (Cond.fieldLink RX6 138 "CellLoans$Promises" "cells" "[I"))) rfl
theorem f_X3_21 : Cond.fieldLink RX3 21 "CellLoans$Promises" "due" "[I" ∈ AW := AW_in (lw_at 153 (by decide +kernel : tables_1[153]? = some (Cond.fieldLink RX3 21 "CellLoans$Promises" "due" "[I"))) rfl
theorem f_X9_184 : Cond.fieldLink RX9 184 "CellLoans$Promises" "due" "[I" ∈ AW := AW_in (lw_at 154 (by decide +kernel : tables_1[154]? = some (Cond.fieldLink RX9 184 "CellLoans$Promises" "due" "[I"))) rfl
theorem f_X6_172 : Cond.fieldLink RX6 172 "CellLoans$Promises" "due" "[I" ∈ AW := AW_in (lw_at 155 (by decide +kernel : tables_1[155]? = some (Cond.fieldLink RX6 172 "CellLoans$Promises" "due" "[I"))) rfl
theorem f_X3_24 : Cond.fieldLink RX3 24 "CellLoans$Promises" "count" "I" ∈ AW := AW_in (lw_at 156 (by decide +kernel : tables_1[156]? = some (Cond.fieldLink RX3 24 "CellLoans$Promises" "count" "I"))) rfl
theorem f_X6_48 : Cond.fieldLink RX6 48 "CellLoans$Promises" "count" "I" ∈ AW := AW_in (lw_at 157 (by decide +kernel : tables_1[157]? = some (Cond.fieldLink RX6 48 "CellLoans$Promises" "count" "I"))) rfl
theorem f_X4_58 : Cond.fieldLink RX4 58 "CellLoans$Promises" "count" "I" ∈ AW := AW_in (lw_at 158 (by decide +kernel : tables_1[158]? = some (Cond.fieldLink RX4 58 "CellLoans$Promises" "count" "I"))) rfl
theorem f_X9_132 : Cond.fieldLink RX9 132 "CellLoans$Promises" "count" "I" ∈ AW := AW_in (lw_at 159 (by decide +kernel : tables_1[159]? = some (Cond.fieldLink RX9 132 "CellLoans$Promises" "count" "I"))) rfl
theorem f_X1_11 : Cond.fieldLink RX1 11 "CellLoans$Ledger" "port" "[I" ∈ AW := AW_in (lw_at 177 (by decide +kernel : tables_1[177]? = some (Cond.fieldLink RX1 11 "CellLoans$Ledger" "port" "[I"))) rfl
theorem f_X1_15 : Cond.fieldLink RX1 15 "CellLoans$Ledger" "cells" "[I" ∈ AW := AW_in (lw_at 178 (by decide +kernel : tables_1[178]? = some (Cond.fieldLink RX1 15 "CellLoans$Ledger" "cells" "[I"))) rfl
theorem f_X1_18 : Cond.fieldLink RX1 18 "CellLoans$Ledger" "reason" "[I" ∈ AW := AW_in (lw_at 179 (by decide +kernel : tables_1[179]? = some (Cond.fieldLink RX1 18 "CellLoans$Ledger" "reason" "[I"))) rfl
theorem f_X1_21 : Cond.fieldLink RX1 21 "CellLoans$Ledger" "when" "[I" ∈ AW := AW_in (lw_at 180 (by decide +kernel : tables_1[180]? = some (Cond.fieldLink RX1 21 "CellLoans$Ledger" "when" "[I"))) rfl
theorem f_X1_24 : Cond.fieldLink RX1 24 "CellLoans$Ledger" "byReason" "[I" ∈ AW := AW_in (lw_at 181 (by decide +kernel : tables_1[181]? = some (Cond.fieldLink RX1 24 "CellLoans$Ledger" "byReason" "[I"))) rfl
theorem f_X9_191 : Cond.fieldLink RX9 191 "CellLoans$Ledger" "byReason" "[I" ∈ AW := AW_in (lw_at 182 (by decide +kernel : tables_1[182]? = some (Cond.fieldLink RX9 191 "CellLoans$Ledger" "byReason" "[I"))) rfl
theorem f_X1_27 : Cond.fieldLink RX1 27 "CellLoans$Ledger" "total" "I" ∈ AW := AW_in (lw_at 183 (by decide +kernel : tables_1[183]? = some (Cond.fieldLink RX1 27 "CellLoans$Ledger" "total" "I"))) rfl
theorem f_X9_139 : Cond.fieldLink RX9 139 "CellLoans$Ledger" "total" "I" ∈ AW := AW_in (lw_at 184 (by decide +kernel : tables_1[184]? = some (Cond.fieldLink RX9 139 "CellLoans$Ledger" "total" "I"))) rfl
theorem f_X2_21 : Cond.fieldLink RX2 21 "CellLoans$Port" "name" "J" ∈ AW := AW_in (lw_at 203 (by decide +kernel : tables_1[203]? = some (Cond.fieldLink RX2 21 "CellLoans$Port" "name" "J"))) rfl
theorem f_X4_26 : Cond.fieldLink RX4 26 "CellLoans$Port" "name" "J" ∈ AW := AW_in (lw_at 204 (by decide +kernel : tables_1[204]? = some (Cond.fieldLink RX4 26 "CellLoans$Port" "name" "J"))) rfl
theorem f_X6_68 : Cond.fieldLink RX6 68 "CellLoans$Port" "name" "J" ∈ AW := AW_in (lw_at 205 (by decide +kernel : tables_1[205]? = some (Cond.fieldLink RX6 68 "CellLoans$Port" "name" "J"))) rfl
theorem f_X2_25 : Cond.fieldLink RX2 25 "CellLoans$Port" "share" "I" ∈ AW := AW_in (lw_at 206 (by decide +kernel : tables_1[206]? = some (Cond.fieldLink RX2 25 "CellLoans$Port" "share" "I"))) rfl
theorem f_X6_90 : Cond.fieldLink RX6 90 "CellLoans$Port" "share" "I" ∈ AW := AW_in (lw_at 207 (by decide +kernel : tables_1[207]? = some (Cond.fieldLink RX6 90 "CellLoans$Port" "share" "I"))) rfl
theorem f_X9_206 : Cond.fieldLink RX9 206 "CellLoans$Port" "share" "I" ∈ AW := AW_in (lw_at 208 (by decide +kernel : tables_1[208]? = some (Cond.fieldLink RX9 206 "CellLoans$Port" "share" "I"))) rfl
theorem f_X2_29 : Cond.fieldLink RX2 29 "CellLoans$Port" "rate" "I" ∈ AW := AW_in (lw_at 209 (by decide +kernel : tables_1[209]? = some (Cond.fieldLink RX2 29 "CellLoans$Port" "rate" "I"))) rfl
theorem f_X2_32 : Cond.fieldLink RX2 32 "CellLoans$Port" "forecast" "I" ∈ AW := AW_in (lw_at 210 (by decide +kernel : tables_1[210]? = some (Cond.fieldLink RX2 32 "CellLoans$Port" "forecast" "I"))) rfl
theorem f_X2_35 : Cond.fieldLink RX2 35 "CellLoans$Port" "burst" "I" ∈ AW := AW_in (lw_at 211 (by decide +kernel : tables_1[211]? = some (Cond.fieldLink RX2 35 "CellLoans$Port" "burst" "I"))) rfl
theorem f_X6_99 : Cond.fieldLink RX6 99 "CellLoans$Port" "burst" "I" ∈ AW := AW_in (lw_at 212 (by decide +kernel : tables_1[212]? = some (Cond.fieldLink RX6 99 "CellLoans$Port" "burst" "I"))) rfl
theorem f_X2_38 : Cond.fieldLink RX2 38 "CellLoans$Port" "cells" "I" ∈ AW := AW_in (lw_at 213 (by decide +kernel : tables_1[213]? = some (Cond.fieldLink RX2 38 "CellLoans$Port" "cells" "I"))) rfl
theorem f_X4_40 : Cond.fieldLink RX4 40 "CellLoans$Port" "cells" "I" ∈ AW := AW_in (lw_at 214 (by decide +kernel : tables_1[214]? = some (Cond.fieldLink RX4 40 "CellLoans$Port" "cells" "I"))) rfl
theorem f_X6_87 : Cond.fieldLink RX6 87 "CellLoans$Port" "cells" "I" ∈ AW := AW_in (lw_at 215 (by decide +kernel : tables_1[215]? = some (Cond.fieldLink RX6 87 "CellLoans$Port" "cells" "I"))) rfl
theorem f_X9_209 : Cond.fieldLink RX9 209 "CellLoans$Port" "cells" "I" ∈ AW := AW_in (lw_at 216 (by decide +kernel : tables_1[216]? = some (Cond.fieldLink RX9 209 "CellLoans$Port" "cells" "I"))) rfl
theorem f_X2_41 : Cond.fieldLink RX2 41 "CellLoans$Port" "lent" "I" ∈ AW := AW_in (lw_at 217 (by decide +kernel : tables_1[217]? = some (Cond.fieldLink RX2 41 "CellLoans$Port" "lent" "I"))) rfl
theorem f_X6_124 : Cond.fieldLink RX6 124 "CellLoans$Port" "lent" "I" ∈ AW := AW_in (lw_at 218 (by decide +kernel : tables_1[218]? = some (Cond.fieldLink RX6 124 "CellLoans$Port" "lent" "I"))) rfl
theorem f_X2_44 : Cond.fieldLink RX2 44 "CellLoans$Port" "borrowed" "I" ∈ AW := AW_in (lw_at 219 (by decide +kernel : tables_1[219]? = some (Cond.fieldLink RX2 44 "CellLoans$Port" "borrowed" "I"))) rfl
theorem f_X6_127 : Cond.fieldLink RX6 127 "CellLoans$Port" "borrowed" "I" ∈ AW := AW_in (lw_at 220 (by decide +kernel : tables_1[220]? = some (Cond.fieldLink RX6 127 "CellLoans$Port" "borrowed" "I"))) rfl
theorem f_X2_47 : Cond.fieldLink RX2 47 "CellLoans$Port" "dropped" "I" ∈ AW := AW_in (lw_at 221 (by decide +kernel : tables_1[221]? = some (Cond.fieldLink RX2 47 "CellLoans$Port" "dropped" "I"))) rfl
theorem f_X6_160 : Cond.fieldLink RX6 160 "CellLoans$Port" "dropped" "I" ∈ AW := AW_in (lw_at 222 (by decide +kernel : tables_1[222]? = some (Cond.fieldLink RX6 160 "CellLoans$Port" "dropped" "I"))) rfl
theorem f_X2_50 : Cond.fieldLink RX2 50 "CellLoans$Port" "charged" "I" ∈ AW := AW_in (lw_at 223 (by decide +kernel : tables_1[223]? = some (Cond.fieldLink RX2 50 "CellLoans$Port" "charged" "I"))) rfl
theorem f_X6_163 : Cond.fieldLink RX6 163 "CellLoans$Port" "charged" "I" ∈ AW := AW_in (lw_at 224 (by decide +kernel : tables_1[224]? = some (Cond.fieldLink RX6 163 "CellLoans$Port" "charged" "I"))) rfl
theorem f_X9_194 : Cond.fieldLink RX9 194 "CellLoans$Port" "charged" "I" ∈ AW := AW_in (lw_at 225 (by decide +kernel : tables_1[225]? = some (Cond.fieldLink RX9 194 "CellLoans$Port" "charged" "I"))) rfl
theorem f_X2_53 : Cond.fieldLink RX2 53 "CellLoans$Port" "sent" "I" ∈ AW := AW_in (lw_at 226 (by decide +kernel : tables_1[226]? = some (Cond.fieldLink RX2 53 "CellLoans$Port" "sent" "I"))) rfl
theorem f_X9_229 : Cond.fieldLink RX9 229 "CellLoans$Port" "sent" "I" ∈ AW := AW_in (lw_at 227 (by decide +kernel : tables_1[227]? = some (Cond.fieldLink RX9 229 "CellLoans$Port" "sent" "I"))) rfl
theorem f_X2_56 : Cond.fieldLink RX2 56 "CellLoans$Port" "waiting" "I" ∈ AW := AW_in (lw_at 228 (by decide +kernel : tables_1[228]? = some (Cond.fieldLink RX2 56 "CellLoans$Port" "waiting" "I"))) rfl
theorem f_X9_158 : Cond.fieldLink RX9 158 "CellLoans$Port" "waiting" "I" ∈ AW := AW_in (lw_at 229 (by decide +kernel : tables_1[229]? = some (Cond.fieldLink RX9 158 "CellLoans$Port" "waiting" "I"))) rfl
theorem f_X6_154 : Cond.fieldLink RX6 154 "CellLoans$Port" "waiting" "I" ∈ AW := AW_in (lw_at 230 (by decide +kernel : tables_1[230]? = some (Cond.fieldLink RX6 154 "CellLoans$Port" "waiting" "I"))) rfl
theorem f_X2_9 : Cond.fieldLink RX2 9 "CellLoans$Port" "left" "[I" ∈ AW := AW_in (lw_at 231 (by decide +kernel : tables_1[231]? = some (Cond.fieldLink RX2 9 "CellLoans$Port" "left" "[I"))) rfl
theorem f_X9_165 : Cond.fieldLink RX9 165 "CellLoans$Port" "left" "[I" ∈ AW := AW_in (lw_at 232 (by decide +kernel : tables_1[232]? = some (Cond.fieldLink RX9 165 "CellLoans$Port" "left" "[I"))) rfl
theorem f_X2_15 : Cond.fieldLink RX2 15 "CellLoans$Port" "had" "[I" ∈ AW := AW_in (lw_at 233 (by decide +kernel : tables_1[233]? = some (Cond.fieldLink RX2 15 "CellLoans$Port" "had" "[I"))) rfl
theorem f_X9_169 : Cond.fieldLink RX9 169 "CellLoans$Port" "had" "[I" ∈ AW := AW_in (lw_at 234 (by decide +kernel : tables_1[234]? = some (Cond.fieldLink RX9 169 "CellLoans$Port" "had" "[I"))) rfl
theorem f_X2_18 : Cond.fieldLink RX2 18 "CellLoans$Port" "came" "[I" ∈ AW := AW_in (lw_at 235 (by decide +kernel : tables_1[235]? = some (Cond.fieldLink RX2 18 "CellLoans$Port" "came" "[I"))) rfl
theorem f_X9_172 : Cond.fieldLink RX9 172 "CellLoans$Port" "came" "[I" ∈ AW := AW_in (lw_at 236 (by decide +kernel : tables_1[236]? = some (Cond.fieldLink RX9 172 "CellLoans$Port" "came" "[I"))) rfl
theorem f_X6_11 : Cond.fieldLink RX6 11 "CellLoans$Switch" "ports" "[LCellLoans$Port;" ∈ AW := AW_in (lw_at 268 (by decide +kernel : tables_1[268]? = some (Cond.fieldLink RX6 11 "CellLoans$Switch" "ports" "[LCellLoans$Port;"))) rfl
theorem f_X4_22 : Cond.fieldLink RX4 22 "CellLoans$Switch" "ports" "[LCellLoans$Port;" ∈ AW := AW_in (lw_at 269 (by decide +kernel : tables_1[269]? = some (Cond.fieldLink RX4 22 "CellLoans$Switch" "ports" "[LCellLoans$Port;"))) rfl
theorem f_X9_150 : Cond.fieldLink RX9 150 "CellLoans$Switch" "ports" "[LCellLoans$Port;" ∈ AW := AW_in (lw_at 270 (by decide +kernel : tables_1[270]? = some (Cond.fieldLink RX9 150 "CellLoans$Switch" "ports" "[LCellLoans$Port;"))) rfl
theorem f_X6_39 : Cond.fieldLink RX6 39 "CellLoans$Switch" "portCount" "I" ∈ AW := AW_in (lw_at 271 (by decide +kernel : tables_1[271]? = some (Cond.fieldLink RX6 39 "CellLoans$Switch" "portCount" "I"))) rfl
theorem f_X4_17 : Cond.fieldLink RX4 17 "CellLoans$Switch" "portCount" "I" ∈ AW := AW_in (lw_at 272 (by decide +kernel : tables_1[272]? = some (Cond.fieldLink RX4 17 "CellLoans$Switch" "portCount" "I"))) rfl
theorem f_X7_62 : Cond.fieldLink RX7 62 "CellLoans$Switch" "portCount" "I" ∈ AW := AW_in (lw_at 273 (by decide +kernel : tables_1[273]? = some (Cond.fieldLink RX7 62 "CellLoans$Switch" "portCount" "I"))) rfl
theorem f_X9_92 : Cond.fieldLink RX9 92 "CellLoans$Switch" "portCount" "I" ∈ AW := AW_in (lw_at 274 (by decide +kernel : tables_1[274]? = some (Cond.fieldLink RX9 92 "CellLoans$Switch" "portCount" "I"))) rfl
theorem f_X6_17 : Cond.fieldLink RX6 17 "CellLoans$Switch" "term" "I" ∈ AW := AW_in (lw_at 275 (by decide +kernel : tables_1[275]? = some (Cond.fieldLink RX6 17 "CellLoans$Switch" "term" "I"))) rfl
theorem f_X7_94 : Cond.fieldLink RX7 94 "CellLoans$Switch" "term" "I" ∈ AW := AW_in (lw_at 276 (by decide +kernel : tables_1[276]? = some (Cond.fieldLink RX7 94 "CellLoans$Switch" "term" "I"))) rfl
theorem f_X9_114 : Cond.fieldLink RX9 114 "CellLoans$Switch" "term" "I" ∈ AW := AW_in (lw_at 277 (by decide +kernel : tables_1[277]? = some (Cond.fieldLink RX9 114 "CellLoans$Switch" "term" "I"))) rfl
theorem f_X6_21 : Cond.fieldLink RX6 21 "CellLoans$Switch" "keep" "I" ∈ AW := AW_in (lw_at 278 (by decide +kernel : tables_1[278]? = some (Cond.fieldLink RX6 21 "CellLoans$Switch" "keep" "I"))) rfl
theorem f_X7_99 : Cond.fieldLink RX7 99 "CellLoans$Switch" "keep" "I" ∈ AW := AW_in (lw_at 279 (by decide +kernel : tables_1[279]? = some (Cond.fieldLink RX7 99 "CellLoans$Switch" "keep" "I"))) rfl
theorem f_X9_117 : Cond.fieldLink RX9 117 "CellLoans$Switch" "keep" "I" ∈ AW := AW_in (lw_at 280 (by decide +kernel : tables_1[280]? = some (Cond.fieldLink RX9 117 "CellLoans$Switch" "keep" "I"))) rfl
theorem f_X6_42 : Cond.fieldLink RX6 42 "CellLoans$Switch" "clock" "I" ∈ AW := AW_in (lw_at 281 (by decide +kernel : tables_1[281]? = some (Cond.fieldLink RX6 42 "CellLoans$Switch" "clock" "I"))) rfl
theorem f_X9_120 : Cond.fieldLink RX9 120 "CellLoans$Switch" "clock" "I" ∈ AW := AW_in (lw_at 282 (by decide +kernel : tables_1[282]? = some (Cond.fieldLink RX9 120 "CellLoans$Switch" "clock" "I"))) rfl
theorem f_X6_45 : Cond.fieldLink RX6 45 "CellLoans$Switch" "arrived" "I" ∈ AW := AW_in (lw_at 283 (by decide +kernel : tables_1[283]? = some (Cond.fieldLink RX6 45 "CellLoans$Switch" "arrived" "I"))) rfl
theorem f_X9_144 : Cond.fieldLink RX9 144 "CellLoans$Switch" "arrived" "I" ∈ AW := AW_in (lw_at 284 (by decide +kernel : tables_1[284]? = some (Cond.fieldLink RX9 144 "CellLoans$Switch" "arrived" "I"))) rfl
theorem f_X6_27 : Cond.fieldLink RX6 27 "CellLoans$Switch" "promises" "LCellLoans$Promises;" ∈ AW := AW_in (lw_at 285 (by decide +kernel : tables_1[285]? = some (Cond.fieldLink RX6 27 "CellLoans$Switch" "promises" "LCellLoans$Promises;"))) rfl
theorem f_X4_54 : Cond.fieldLink RX4 54 "CellLoans$Switch" "promises" "LCellLoans$Promises;" ∈ AW := AW_in (lw_at 286 (by decide +kernel : tables_1[286]? = some (Cond.fieldLink RX4 54 "CellLoans$Switch" "promises" "LCellLoans$Promises;"))) rfl
theorem f_X9_128 : Cond.fieldLink RX9 128 "CellLoans$Switch" "promises" "LCellLoans$Promises;" ∈ AW := AW_in (lw_at 287 (by decide +kernel : tables_1[287]? = some (Cond.fieldLink RX9 128 "CellLoans$Switch" "promises" "LCellLoans$Promises;"))) rfl
theorem f_X6_34 : Cond.fieldLink RX6 34 "CellLoans$Switch" "ledger" "LCellLoans$Ledger;" ∈ AW := AW_in (lw_at 288 (by decide +kernel : tables_1[288]? = some (Cond.fieldLink RX6 34 "CellLoans$Switch" "ledger" "LCellLoans$Ledger;"))) rfl
theorem f_X9_135 : Cond.fieldLink RX9 135 "CellLoans$Switch" "ledger" "LCellLoans$Ledger;" ∈ AW := AW_in (lw_at 289 (by decide +kernel : tables_1[289]? = some (Cond.fieldLink RX9 135 "CellLoans$Switch" "ledger" "LCellLoans$Ledger;"))) rfl
theorem f_X0_11 : Cond.fieldLink RX0 11 "CellLoans$History" "before" "[LCellLoans$Switch;" ∈ AW := AW_in (lw_at 316 (by decide +kernel : tables_1[316]? = some (Cond.fieldLink RX0 11 "CellLoans$History" "before" "[LCellLoans$Switch;"))) rfl
theorem f_X0_20 : Cond.fieldLink RX0 20 "CellLoans$History" "latest" "I" ∈ AW := AW_in (lw_at 317 (by decide +kernel : tables_1[317]? = some (Cond.fieldLink RX0 20 "CellLoans$History" "latest" "I"))) rfl
theorem f_X0_16 : Cond.fieldLink RX0 16 "CellLoans$History" "kept" "I" ∈ AW := AW_in (lw_at 318 (by decide +kernel : tables_1[318]? = some (Cond.fieldLink RX0 16 "CellLoans$History" "kept" "I"))) rfl
theorem f_X9_266 : Cond.fieldLink RX9 266 "CellLoans$History" "kept" "I" ∈ AW := AW_in (lw_at 319 (by decide +kernel : tables_1[319]? = some (Cond.fieldLink RX9 266 "CellLoans$History" "kept" "I"))) rfl
theorem f_X4_9 : Cond.fieldLink RX4 9 "CellLoans$Report" "bytes" "[I" ∈ AW := AW_in (lw_at 333 (by decide +kernel : tables_1[333]? = some (Cond.fieldLink RX4 9 "CellLoans$Report" "bytes" "[I"))) rfl
theorem f_X9_276 : Cond.fieldLink RX9 276 "CellLoans$Report" "bytes" "[I" ∈ AW := AW_in (lw_at 334 (by decide +kernel : tables_1[334]? = some (Cond.fieldLink RX9 276 "CellLoans$Report" "bytes" "[I"))) rfl
theorem f_X4_13 : Cond.fieldLink RX4 13 "CellLoans$Report" "length" "I" ∈ AW := AW_in (lw_at 335 (by decide +kernel : tables_1[335]? = some (Cond.fieldLink RX4 13 "CellLoans$Report" "length" "I"))) rfl
theorem f_X9_275 : Cond.fieldLink RX9 275 "CellLoans$Report" "length" "I" ∈ AW := AW_in (lw_at 336 (by decide +kernel : tables_1[336]? = some (Cond.fieldLink RX9 275 "CellLoans$Report" "length" "I"))) rfl
theorem f_X9_12 : Cond.fieldLink RX9 12 "CellLoans" "text" "LCellLoans$Text;" ∈ AW := AW_in (lw_at 342 (by decide +kernel : tables_1[342]? = some (Cond.fieldLink RX9 12 "CellLoans" "text" "LCellLoans$Text;"))) rfl
theorem f_X9_19 : Cond.fieldLink RX9 19 "CellLoans" "switchReader" "LCellLoans$SwitchReader;" ∈ AW := AW_in (lw_at 343 (by decide +kernel : tables_1[343]? = some (Cond.fieldLink RX9 19 "CellLoans" "switchReader" "LCellLoans$SwitchReader;"))) rfl
theorem f_X9_26 : Cond.fieldLink RX9 26 "CellLoans" "script" "LCellLoans$Script;" ∈ AW := AW_in (lw_at 344 (by decide +kernel : tables_1[344]? = some (Cond.fieldLink RX9 26 "CellLoans" "script" "LCellLoans$Script;"))) rfl
theorem f_X9_33 : Cond.fieldLink RX9 33 "CellLoans" "now" "LCellLoans$Switch;" ∈ AW := AW_in (lw_at 345 (by decide +kernel : tables_1[345]? = some (Cond.fieldLink RX9 33 "CellLoans" "now" "LCellLoans$Switch;"))) rfl
theorem f_X9_37 : Cond.fieldLink RX9 37 "CellLoans" "trial" "LCellLoans$Switch;" ∈ AW := AW_in (lw_at 346 (by decide +kernel : tables_1[346]? = some (Cond.fieldLink RX9 37 "CellLoans" "trial" "LCellLoans$Switch;"))) rfl
theorem f_X9_40 : Cond.fieldLink RX9 40 "CellLoans" "saved" "LCellLoans$Switch;" ∈ AW := AW_in (lw_at 347 (by decide +kernel : tables_1[347]? = some (Cond.fieldLink RX9 40 "CellLoans" "saved" "LCellLoans$Switch;"))) rfl
theorem f_X9_279 : Cond.fieldLink RX9 279 "CellLoans" "somethingSaved" "Z" ∈ AW := AW_in (lw_at 348 (by decide +kernel : tables_1[348]? = some (Cond.fieldLink RX9 279 "CellLoans" "somethingSaved" "Z"))) rfl
theorem f_X9_46 : Cond.fieldLink RX9 46 "CellLoans" "history" "LCellLoans$History;" ∈ AW := AW_in (lw_at 349 (by decide +kernel : tables_1[349]? = some (Cond.fieldLink RX9 46 "CellLoans" "history" "LCellLoans$History;"))) rfl
theorem f_X9_53 : Cond.fieldLink RX9 53 "CellLoans" "latestReport" "LCellLoans$Report;" ∈ AW := AW_in (lw_at 350 (by decide +kernel : tables_1[350]? = some (Cond.fieldLink RX9 53 "CellLoans" "latestReport" "LCellLoans$Report;"))) rfl
theorem f_X10_1 : Cond.fieldLink RX10 1 "CellLoansModel" "thrown" "I" ∈ AW := AW_in (lw_at 1142 (by decide +kernel : tables_1[1142]? = some (Cond.fieldLink RX10 1 "CellLoansModel" "thrown" "I"))) rfl
theorem f_X10_13 : Cond.fieldLink RX10 13 "CellLoansModel" "s" "[I" ∈ AW := AW_in (lw_at 1143 (by decide +kernel : tables_1[1143]? = some (Cond.fieldLink RX10 13 "CellLoansModel" "s" "[I"))) rfl
theorem f_X10_17 : Cond.fieldLink RX10 17 "CellLoansModel" "names" "[J" ∈ AW := AW_in (lw_at 1144 (by decide +kernel : tables_1[1144]? = some (Cond.fieldLink RX10 17 "CellLoansModel" "names" "[J"))) rfl
theorem f_X10_39 : Cond.fieldLink RX10 39 "CellLoansModel" "o" "I" ∈ AW := AW_in (lw_at 1145 (by decide +kernel : tables_1[1145]? = some (Cond.fieldLink RX10 39 "CellLoansModel" "o" "I"))) rfl
theorem f_X10_21 : Cond.fieldLink RX10 21 "CellLoansModel" "buffer" "[I" ∈ AW := AW_in (lw_at 1146 (by decide +kernel : tables_1[1146]? = some (Cond.fieldLink RX10 21 "CellLoansModel" "buffer" "[I"))) rfl
theorem f_X10_57 : Cond.fieldLink RX10 57 "CellLoansModel" "length" "I" ∈ AW := AW_in (lw_at 1147 (by decide +kernel : tables_1[1147]? = some (Cond.fieldLink RX10 57 "CellLoansModel" "length" "I"))) rfl
theorem f_X10_82 : Cond.fieldLink RX10 82 "CellLoansModel" "at" "I" ∈ AW := AW_in (lw_at 1148 (by decide +kernel : tables_1[1148]? = some (Cond.fieldLink RX10 82 "CellLoansModel" "at" "I"))) rfl
theorem f_X10_85 : Cond.fieldLink RX10 85 "CellLoansModel" "end" "I" ∈ AW := AW_in (lw_at 1149 (by decide +kernel : tables_1[1149]? = some (Cond.fieldLink RX10 85 "CellLoansModel" "end" "I"))) rfl
theorem f_X10_79 : Cond.fieldLink RX10 79 "CellLoansModel" "token" "I" ∈ AW := AW_in (lw_at 1150 (by decide +kernel : tables_1[1150]? = some (Cond.fieldLink RX10 79 "CellLoansModel" "token" "I"))) rfl
theorem f_X10_107 : Cond.fieldLink RX10 107 "CellLoansModel" "number" "I" ∈ AW := AW_in (lw_at 1151 (by decide +kernel : tables_1[1151]? = some (Cond.fieldLink RX10 107 "CellLoansModel" "number" "I"))) rfl
theorem f_X10_72 : Cond.fieldLink RX10 72 "CellLoansModel" "errorCode" "I" ∈ AW := AW_in (lw_at 1152 (by decide +kernel : tables_1[1152]? = some (Cond.fieldLink RX10 72 "CellLoansModel" "errorCode" "I"))) rfl
theorem f_X10_24 : Cond.fieldLink RX10 24 "CellLoansModel" "errorPosition" "I" ∈ AW := AW_in (lw_at 1153 (by decide +kernel : tables_1[1153]? = some (Cond.fieldLink RX10 24 "CellLoansModel" "errorPosition" "I"))) rfl
theorem f_X10_95 : Cond.fieldLink RX10 95 "CellLoansModel" "word" "J" ∈ AW := AW_in (lw_at 1154 (by decide +kernel : tables_1[1154]? = some (Cond.fieldLink RX10 95 "CellLoansModel" "word" "J"))) rfl
theorem f_X10_150 : Cond.fieldLink RX10 150 "CellLoansModel" "hasTerm" "Z" ∈ AW := AW_in (lw_at 1155 (by decide +kernel : tables_1[1155]? = some (Cond.fieldLink RX10 150 "CellLoansModel" "hasTerm" "Z"))) rfl
theorem f_X10_156 : Cond.fieldLink RX10 156 "CellLoansModel" "hasKeep" "Z" ∈ AW := AW_in (lw_at 1156 (by decide +kernel : tables_1[1156]? = some (Cond.fieldLink RX10 156 "CellLoansModel" "hasKeep" "Z"))) rfl
theorem f_X10_171 : Cond.fieldLink RX10 171 "CellLoansModel" "undos" "I" ∈ AW := AW_in (lw_at 1157 (by decide +kernel : tables_1[1157]? = some (Cond.fieldLink RX10 171 "CellLoansModel" "undos" "I"))) rfl
theorem f_X10_346 : Cond.fieldLink RX10 346 "CellLoansModel" "does" "Z" ∈ AW := AW_in (lw_at 1158 (by decide +kernel : tables_1[1158]? = some (Cond.fieldLink RX10 346 "CellLoansModel" "does" "Z"))) rfl
theorem f_X10_349 : Cond.fieldLink RX10 349 "CellLoansModel" "isOver" "Z" ∈ AW := AW_in (lw_at 1159 (by decide +kernel : tables_1[1159]? = some (Cond.fieldLink RX10 349 "CellLoansModel" "isOver" "Z"))) rfl
theorem f_X10_372 : Cond.fieldLink RX10 372 "CellLoansModel" "depth" "I" ∈ AW := AW_in (lw_at 1160 (by decide +kernel : tables_1[1160]? = some (Cond.fieldLink RX10 372 "CellLoansModel" "depth" "I"))) rfl
theorem f_X10_381 : Cond.fieldLink RX10 381 "CellLoansModel" "commands" "I" ∈ AW := AW_in (lw_at 1161 (by decide +kernel : tables_1[1161]? = some (Cond.fieldLink RX10 381 "CellLoansModel" "commands" "I"))) rfl
theorem f_X10_352 : Cond.fieldLink RX10 352 "CellLoansModel" "done" "I" ∈ AW := AW_in (lw_at 1162 (by decide +kernel : tables_1[1162]? = some (Cond.fieldLink RX10 352 "CellLoansModel" "done" "I"))) rfl
theorem f_X10_27 : Cond.fieldLink RX10 27 "CellLoansModel" "opens" "[I" ∈ AW := AW_in (lw_at 1163 (by decide +kernel : tables_1[1163]? = some (Cond.fieldLink RX10 27 "CellLoansModel" "opens" "[I"))) rfl
theorem f_X10_30 : Cond.fieldLink RX10 30 "CellLoansModel" "again" "[I" ∈ AW := AW_in (lw_at 1164 (by decide +kernel : tables_1[1164]? = some (Cond.fieldLink RX10 30 "CellLoansModel" "again" "[I"))) rfl
theorem f_X10_33 : Cond.fieldLink RX10 33 "CellLoansModel" "report" "[I" ∈ AW := AW_in (lw_at 1165 (by decide +kernel : tables_1[1165]? = some (Cond.fieldLink RX10 33 "CellLoansModel" "report" "[I"))) rfl
theorem f_X10_405 : Cond.fieldLink RX10 405 "CellLoansModel" "reportLength" "I" ∈ AW := AW_in (lw_at 1166 (by decide +kernel : tables_1[1166]? = some (Cond.fieldLink RX10 405 "CellLoansModel" "reportLength" "I"))) rfl
theorem f_X10_420 : Cond.fieldLink RX10 420 "CellLoansModel" "isSaved" "Z" ∈ AW := AW_in (lw_at 1167 (by decide +kernel : tables_1[1167]? = some (Cond.fieldLink RX10 420 "CellLoansModel" "isSaved" "Z"))) rfl
theorem k_L_95 : Cond.methodLink RL 95 yX9_init ∈ AW := AW_in (lw_at 25 (by decide +kernel : tables_1[25]? = some (Cond.methodLink RL 95 yX9_init))) rfl
theorem k_X9_32 : Cond.methodLink RX9 32 yX6_init ∈ AW := AW_in (lw_at 129 (by decide +kernel : tables_1[129]? = some (Cond.methodLink RX9 32 yX6_init))) rfl
theorem k_X9_45 : Cond.methodLink RX9 45 yX0_init ∈ AW := AW_in (lw_at 309 (by decide +kernel : tables_1[309]? = some (Cond.methodLink RX9 45 yX0_init))) rfl
theorem k_X0_15 : Cond.methodLink RX0 15 yX6_init ∈ AW := AW_in (lw_at 315 (by decide +kernel : tables_1[315]? = some (Cond.methodLink RX0 15 yX6_init))) rfl
theorem k_L_119 : Cond.methodLink RL 119 yX9_errorCode ∈ AW := AW_in (lw_at 370 (by decide +kernel : tables_1[370]? = some (Cond.methodLink RL 119 yX9_errorCode))) rfl
theorem k_L_123 : Cond.methodLink RL 123 yX9_errorPosition ∈ AW := AW_in (lw_at 374 (by decide +kernel : tables_1[374]? = some (Cond.methodLink RL 123 yX9_errorPosition))) rfl
theorem k_L_150 : Cond.methodLink RL 150 yX9_mostCharged ∈ AW := AW_in (lw_at 378 (by decide +kernel : tables_1[378]? = some (Cond.methodLink RL 150 yX9_mostCharged))) rfl
theorem k_L_154 : Cond.methodLink RL 154 yX9_lossShare ∈ AW := AW_in (lw_at 382 (by decide +kernel : tables_1[382]? = some (Cond.methodLink RL 154 yX9_lossShare))) rfl
theorem k_L_159 : Cond.methodLink RL 159 yX9_meanForecast ∈ AW := AW_in (lw_at 386 (by decide +kernel : tables_1[386]? = some (Cond.methodLink RL 159 yX9_meanForecast))) rfl
theorem k_X9_125 : Cond.methodLink RX9 125 yX6_sumOfPorts ∈ AW := AW_in (lw_at 390 (by decide +kernel : tables_1[390]? = some (Cond.methodLink RX9 125 yX6_sumOfPorts))) rfl
theorem k_X6_72 : Cond.methodLink RX6 72 yX2_number ∈ AW := AW_in (lw_at 394 (by decide +kernel : tables_1[394]? = some (Cond.methodLink RX6 72 yX2_number))) rfl
theorem k_X2_59 : Cond.methodLink RX2 59 yX2_free ∈ AW := AW_in (lw_at 398 (by decide +kernel : tables_1[398]? = some (Cond.methodLink RX2 59 yX2_free))) rfl
theorem k_X2_70 : Cond.methodLink RX2 70 yX2_room ∈ AW := AW_in (lw_at 402 (by decide +kernel : tables_1[402]? = some (Cond.methodLink RX2 70 yX2_room))) rfl
theorem k_X2_63 : Cond.methodLink RX2 63 yX2_canLend ∈ AW := AW_in (lw_at 406 (by decide +kernel : tables_1[406]? = some (Cond.methodLink RX2 63 yX2_canLend))) rfl
theorem k_X2_75 : Cond.methodLink RX2 75 yX2_ownLeft ∈ AW := AW_in (lw_at 410 (by decide +kernel : tables_1[410]? = some (Cond.methodLink RX2 75 yX2_ownLeft))) rfl
theorem k_X2_67 : Cond.methodLink RX2 67 yX2_keptBack ∈ AW := AW_in (lw_at 414 (by decide +kernel : tables_1[414]? = some (Cond.methodLink RX2 67 yX2_keptBack))) rfl
theorem k_X2_78 : Cond.methodLink RX2 78 Lib.Math.max.name ∈ AW := AW_in (lw_at 419 (by decide +kernel : tables_1[419]? = some (Cond.methodLink RX2 78 Lib.Math.max.name))) rfl
theorem k_L_179 : Cond.methodLink RL 179 yX9_emptyIn ∈ AW := AW_in (lw_at 422 (by decide +kernel : tables_1[422]? = some (Cond.methodLink RL 179 yX9_emptyIn))) rfl
theorem k_X9_85 : Cond.methodLink RX9 85 yX6_copyFrom ∈ AW := AW_in (lw_at 426 (by decide +kernel : tables_1[426]? = some (Cond.methodLink RX9 85 yX6_copyFrom))) rfl
theorem k_X6_54 : Cond.methodLink RX6 54 yX2_copyFrom ∈ AW := AW_in (lw_at 430 (by decide +kernel : tables_1[430]? = some (Cond.methodLink RX6 54 yX2_copyFrom))) rfl
theorem k_X6_58 : Cond.methodLink RX6 58 yX3_copyFrom ∈ AW := AW_in (lw_at 434 (by decide +kernel : tables_1[434]? = some (Cond.methodLink RX6 58 yX3_copyFrom))) rfl
theorem k_X3_28 : Cond.methodLink RX3 28 yX3_place ∈ AW := AW_in (lw_at 438 (by decide +kernel : tables_1[438]? = some (Cond.methodLink RX3 28 yX3_place))) rfl
theorem k_X6_61 : Cond.methodLink RX6 61 yX1_copyFrom ∈ AW := AW_in (lw_at 442 (by decide +kernel : tables_1[442]? = some (Cond.methodLink RX6 61 yX1_copyFrom))) rfl
theorem k_X9_226 : Cond.methodLink RX9 226 yX6_passTick ∈ AW := AW_in (lw_at 446 (by decide +kernel : tables_1[446]? = some (Cond.methodLink RX9 226 yX6_passTick))) rfl
theorem k_X6_141 : Cond.methodLink RX6 141 yX6_takeBack ∈ AW := AW_in (lw_at 450 (by decide +kernel : tables_1[450]? = some (Cond.methodLink RX6 141 yX6_takeBack))) rfl
theorem k_X6_150 : Cond.methodLink RX6 150 yX3_remove ∈ AW := AW_in (lw_at 454 (by decide +kernel : tables_1[454]? = some (Cond.methodLink RX6 150 yX3_remove))) rfl
theorem k_X6_80 : Cond.methodLink RX6 80 yX2_free ∈ AW := AW_in (lw_at 458 (by decide +kernel : tables_1[458]? = some (Cond.methodLink RX6 80 yX2_free))) rfl
theorem k_X6_157 : Cond.methodLink RX6 157 yX2_removeNewest ∈ AW := AW_in (lw_at 459 (by decide +kernel : tables_1[459]? = some (Cond.methodLink RX6 157 yX2_removeNewest))) rfl
theorem k_X6_102 : Cond.methodLink RX6 102 yX6_recordDrop ∈ AW := AW_in (lw_at 463 (by decide +kernel : tables_1[463]? = some (Cond.methodLink RX6 102 yX6_recordDrop))) rfl
theorem k_X6_166 : Cond.methodLink RX6 166 yX1_add ∈ AW := AW_in (lw_at 467 (by decide +kernel : tables_1[467]? = some (Cond.methodLink RX6 166 yX1_add))) rfl
theorem k_X6_175 : Cond.methodLink RX6 175 yX2_sendFirst ∈ AW := AW_in (lw_at 471 (by decide +kernel : tables_1[471]? = some (Cond.methodLink RX6 175 yX2_sendFirst))) rfl
theorem k_X2_84 : Cond.methodLink RX2 84 Lib.Math.min.name ∈ AW := AW_in (lw_at 475 (by decide +kernel : tables_1[475]? = some (Cond.methodLink RX2 84 Lib.Math.min.name))) rfl
theorem k_X2_87 : Cond.methodLink RX2 87 yX2_removeFirst ∈ AW := AW_in (lw_at 478 (by decide +kernel : tables_1[478]? = some (Cond.methodLink RX2 87 yX2_removeFirst))) rfl
theorem k_X6_178 : Cond.methodLink RX6 178 yX2_learn ∈ AW := AW_in (lw_at 482 (by decide +kernel : tables_1[482]? = some (Cond.methodLink RX6 178 yX2_learn))) rfl
theorem k_L_204 : Cond.methodLink RL 204 yX9_undo ∈ AW := AW_in (lw_at 486 (by decide +kernel : tables_1[486]? = some (Cond.methodLink RL 204 yX9_undo))) rfl
theorem k_X9_269 : Cond.methodLink RX9 269 yX0_bringBack ∈ AW := AW_in (lw_at 490 (by decide +kernel : tables_1[490]? = some (Cond.methodLink RX9 269 yX0_bringBack))) rfl
theorem k_X0_23 : Cond.methodLink RX0 23 yX6_copyFrom ∈ AW := AW_in (lw_at 494 (by decide +kernel : tables_1[494]? = some (Cond.methodLink RX0 23 yX6_copyFrom))) rfl
theorem k_L_208 : Cond.methodLink RL 208 yX9_report ∈ AW := AW_in (lw_at 495 (by decide +kernel : tables_1[495]? = some (Cond.methodLink RL 208 yX9_report))) rfl
theorem k_X9_272 : Cond.methodLink RX9 272 yX4_write ∈ AW := AW_in (lw_at 499 (by decide +kernel : tables_1[499]? = some (Cond.methodLink RX9 272 yX4_write))) rfl
theorem k_X4_32 : Cond.methodLink RX4 32 yX4_putName ∈ AW := AW_in (lw_at 503 (by decide +kernel : tables_1[503]? = some (Cond.methodLink RX4 32 yX4_putName))) rfl
theorem k_X4_36 : Cond.methodLink RX4 36 yX4_put ∈ AW := AW_in (lw_at 508 (by decide +kernel : tables_1[508]? = some (Cond.methodLink RX4 36 yX4_put))) rfl
theorem k_X4_43 : Cond.methodLink RX4 43 yX4_putNumber ∈ AW := AW_in (lw_at 512 (by decide +kernel : tables_1[512]? = some (Cond.methodLink RX4 43 yX4_putNumber))) rfl
theorem k_X4_46 : Cond.methodLink RX4 46 yX2_room ∈ AW := AW_in (lw_at 516 (by decide +kernel : tables_1[516]? = some (Cond.methodLink RX4 46 yX2_room))) rfl
theorem k_X4_50 : Cond.methodLink RX4 50 yX4_putPromisesOf ∈ AW := AW_in (lw_at 517 (by decide +kernel : tables_1[517]? = some (Cond.methodLink RX4 50 yX4_putPromisesOf))) rfl
theorem k_L_215 : Cond.methodLink RL 215 yX9_save ∈ AW := AW_in (lw_at 521 (by decide +kernel : tables_1[521]? = some (Cond.methodLink RL 215 yX9_save))) rfl
theorem k_L_7 : Cond.methodLink RL 7 yX9_feed ∈ AW := AW_in (lw_at 529 (by decide +kernel : tables_1[529]? = some (Cond.methodLink RL 7 yX9_feed))) rfl
theorem k_X9_68 : Cond.methodLink RX9 68 yX8_append ∈ AW := AW_in (lw_at 601 (by decide +kernel : tables_1[601]? = some (Cond.methodLink RX9 68 yX8_append))) rfl
theorem k_L_15 : Cond.methodLink RL 15 yX9_truncate ∈ AW := AW_in (lw_at 609 (by decide +kernel : tables_1[609]? = some (Cond.methodLink RL 15 yX9_truncate))) rfl
theorem k_X9_72 : Cond.methodLink RX9 72 yX9_needWithin ∈ AW := AW_in (lw_at 613 (by decide +kernel : tables_1[613]? = some (Cond.methodLink RX9 72 yX9_needWithin))) rfl
theorem k_X9_285 : Cond.methodLink RX9 285 yX9_within ∈ AW := AW_in (lw_at 616 (by decide +kernel : tables_1[616]? = some (Cond.methodLink RX9 285 yX9_within))) rfl
theorem k_L_21 : Cond.methodLink RL 21 yX9_readText ∈ AW := AW_in (lw_at 638 (by decide +kernel : tables_1[638]? = some (Cond.methodLink RL 21 yX9_readText))) rfl
theorem k_X9_76 : Cond.methodLink RX9 76 yX7_readFrom ∈ AW := AW_in (lw_at 642 (by decide +kernel : tables_1[642]? = some (Cond.methodLink RX9 76 yX7_readFrom))) rfl
theorem k_X7_18 : Cond.methodLink RX7 18 yX6_clear ∈ AW := AW_in (lw_at 646 (by decide +kernel : tables_1[646]? = some (Cond.methodLink RX7 18 yX6_clear))) rfl
theorem k_X6_51 : Cond.methodLink RX6 51 yX1_clear ∈ AW := AW_in (lw_at 650 (by decide +kernel : tables_1[650]? = some (Cond.methodLink RX6 51 yX1_clear))) rfl
theorem k_X7_23 : Cond.methodLink RX7 23 yX8_begin ∈ AW := AW_in (lw_at 654 (by decide +kernel : tables_1[654]? = some (Cond.methodLink RX7 23 yX8_begin))) rfl
theorem k_X7_28 : Cond.methodLink RX7 28 yX8_advance ∈ AW := AW_in (lw_at 658 (by decide +kernel : tables_1[658]? = some (Cond.methodLink RX7 28 yX8_advance))) rfl
theorem k_X8_31 : Cond.methodLink RX8 31 yX8_kindOf ∈ AW := AW_in (lw_at 662 (by decide +kernel : tables_1[662]? = some (Cond.methodLink RX8 31 yX8_kindOf))) rfl
theorem k_X8_45 : Cond.methodLink RX8 45 yX8_isTooLong ∈ AW := AW_in (lw_at 665 (by decide +kernel : tables_1[665]? = some (Cond.methodLink RX8 45 yX8_isTooLong))) rfl
theorem k_X7_35 : Cond.methodLink RX7 35 yX7_readStatement ∈ AW := AW_in (lw_at 669 (by decide +kernel : tables_1[669]? = some (Cond.methodLink RX7 35 yX7_readStatement))) rfl
theorem k_X7_41 : Cond.methodLink RX7 41 yX8_isWord ∈ AW := AW_in (lw_at 674 (by decide +kernel : tables_1[674]? = some (Cond.methodLink RX7 41 yX8_isWord))) rfl
theorem k_X7_45 : Cond.methodLink RX7 45 yX7_readPort ∈ AW := AW_in (lw_at 726 (by decide +kernel : tables_1[726]? = some (Cond.methodLink RX7 45 yX7_readPort))) rfl
theorem k_X7_58 : Cond.methodLink RX7 58 yX8_fail ∈ AW := AW_in (lw_at 730 (by decide +kernel : tables_1[730]? = some (Cond.methodLink RX7 58 yX8_fail))) rfl
theorem k_X7_65 : Cond.methodLink RX7 65 yX8_takeName ∈ AW := AW_in (lw_at 734 (by decide +kernel : tables_1[734]? = some (Cond.methodLink RX7 65 yX8_takeName))) rfl
theorem k_X8_49 : Cond.methodLink RX8 49 yX8_advance ∈ AW := AW_in (lw_at 738 (by decide +kernel : tables_1[738]? = some (Cond.methodLink RX8 49 yX8_advance))) rfl
theorem k_X8_52 : Cond.methodLink RX8 52 yX8_fail ∈ AW := AW_in (lw_at 739 (by decide +kernel : tables_1[739]? = some (Cond.methodLink RX8 52 yX8_fail))) rfl
theorem k_X7_73 : Cond.methodLink RX7 73 yX6_portNamed ∈ AW := AW_in (lw_at 740 (by decide +kernel : tables_1[740]? = some (Cond.methodLink RX7 73 yX6_portNamed))) rfl
theorem k_X7_77 : Cond.methodLink RX7 77 yX8_takeNumber ∈ AW := AW_in (lw_at 744 (by decide +kernel : tables_1[744]? = some (Cond.methodLink RX7 77 yX8_takeNumber))) rfl
theorem k_X7_86 : Cond.methodLink RX7 86 yX6_addPort ∈ AW := AW_in (lw_at 750 (by decide +kernel : tables_1[750]? = some (Cond.methodLink RX7 86 yX6_addPort))) rfl
theorem k_X6_64 : Cond.methodLink RX6 64 yX2_become ∈ AW := AW_in (lw_at 754 (by decide +kernel : tables_1[754]? = some (Cond.methodLink RX6 64 yX2_become))) rfl
theorem k_X7_90 : Cond.methodLink RX7 90 yX8_isSign ∈ AW := AW_in (lw_at 758 (by decide +kernel : tables_1[758]? = some (Cond.methodLink RX7 90 yX8_isSign))) rfl
theorem k_X7_50 : Cond.methodLink RX7 50 yX7_readTerm ∈ AW := AW_in (lw_at 763 (by decide +kernel : tables_1[763]? = some (Cond.methodLink RX7 50 yX7_readTerm))) rfl
theorem k_X7_96 : Cond.methodLink RX7 96 yX8_takeSign ∈ AW := AW_in (lw_at 767 (by decide +kernel : tables_1[767]? = some (Cond.methodLink RX7 96 yX8_takeSign))) rfl
theorem k_X8_60 : Cond.methodLink RX8 60 yX8_isSign ∈ AW := AW_in (lw_at 771 (by decide +kernel : tables_1[771]? = some (Cond.methodLink RX8 60 yX8_isSign))) rfl
theorem k_X7_55 : Cond.methodLink RX7 55 yX7_readKeep ∈ AW := AW_in (lw_at 773 (by decide +kernel : tables_1[773]? = some (Cond.methodLink RX7 55 yX7_readKeep))) rfl
theorem k_X9_89 : Cond.methodLink RX9 89 yX0_forget ∈ AW := AW_in (lw_at 778 (by decide +kernel : tables_1[778]? = some (Cond.methodLink RX9 89 yX0_forget))) rfl
theorem k_L_25 : Cond.methodLink RL 25 yX9_runScript ∈ AW := AW_in (lw_at 785 (by decide +kernel : tables_1[785]? = some (Cond.methodLink RL 25 yX9_runScript))) rfl
theorem k_X9_95 : Cond.methodLink RX9 95 yX5_readFrom ∈ AW := AW_in (lw_at 789 (by decide +kernel : tables_1[789]? = some (Cond.methodLink RX9 95 yX5_readFrom))) rfl
theorem k_X5_40 : Cond.methodLink RX5 40 yX8_begin ∈ AW := AW_in (lw_at 793 (by decide +kernel : tables_1[793]? = some (Cond.methodLink RX5 40 yX8_begin))) rfl
theorem k_X5_45 : Cond.methodLink RX5 45 yX8_advance ∈ AW := AW_in (lw_at 794 (by decide +kernel : tables_1[794]? = some (Cond.methodLink RX5 45 yX8_advance))) rfl
theorem k_X5_51 : Cond.methodLink RX5 51 yX8_isSign ∈ AW := AW_in (lw_at 795 (by decide +kernel : tables_1[795]? = some (Cond.methodLink RX5 51 yX8_isSign))) rfl
theorem k_X5_55 : Cond.methodLink RX5 55 yX5_closeRepeat ∈ AW := AW_in (lw_at 796 (by decide +kernel : tables_1[796]? = some (Cond.methodLink RX5 55 yX5_closeRepeat))) rfl
theorem k_X5_106 : Cond.methodLink RX5 106 yX5_add ∈ AW := AW_in (lw_at 800 (by decide +kernel : tables_1[800]? = some (Cond.methodLink RX5 106 yX5_add))) rfl
theorem k_X5_110 : Cond.methodLink RX5 110 yX8_takeSign ∈ AW := AW_in (lw_at 804 (by decide +kernel : tables_1[804]? = some (Cond.methodLink RX5 110 yX8_takeSign))) rfl
theorem k_X5_59 : Cond.methodLink RX5 59 yX5_readCommand ∈ AW := AW_in (lw_at 805 (by decide +kernel : tables_1[805]? = some (Cond.methodLink RX5 59 yX5_readCommand))) rfl
theorem k_X5_63 : Cond.methodLink RX5 63 yX5_verbOf ∈ AW := AW_in (lw_at 809 (by decide +kernel : tables_1[809]? = some (Cond.methodLink RX5 63 yX5_verbOf))) rfl
theorem k_X5_80 : Cond.methodLink RX5 80 yX8_isWord ∈ AW := AW_in (lw_at 813 (by decide +kernel : tables_1[813]? = some (Cond.methodLink RX5 80 yX8_isWord))) rfl
theorem k_X5_67 : Cond.methodLink RX5 67 yX8_fail ∈ AW := AW_in (lw_at 820 (by decide +kernel : tables_1[820]? = some (Cond.methodLink RX5 67 yX8_fail))) rfl
theorem k_X5_71 : Cond.methodLink RX5 71 yX5_openRepeat ∈ AW := AW_in (lw_at 821 (by decide +kernel : tables_1[821]? = some (Cond.methodLink RX5 71 yX5_openRepeat))) rfl
theorem k_X5_100 : Cond.methodLink RX5 100 yX8_takeNumber ∈ AW := AW_in (lw_at 825 (by decide +kernel : tables_1[825]? = some (Cond.methodLink RX5 100 yX8_takeNumber))) rfl
theorem k_X5_74 : Cond.methodLink RX5 74 yX5_readPlain ∈ AW := AW_in (lw_at 826 (by decide +kernel : tables_1[826]? = some (Cond.methodLink RX5 74 yX5_readPlain))) rfl
theorem k_X5_96 : Cond.methodLink RX5 96 yX5_takePort ∈ AW := AW_in (lw_at 830 (by decide +kernel : tables_1[830]? = some (Cond.methodLink RX5 96 yX5_takePort))) rfl
theorem k_X5_117 : Cond.methodLink RX5 117 yX6_portNamed ∈ AW := AW_in (lw_at 833 (by decide +kernel : tables_1[833]? = some (Cond.methodLink RX5 117 yX6_portNamed))) rfl
theorem k_X9_98 : Cond.methodLink RX9 98 yX0_remember ∈ AW := AW_in (lw_at 835 (by decide +kernel : tables_1[835]? = some (Cond.methodLink RX9 98 yX0_remember))) rfl
theorem k_X0_27 : Cond.methodLink RX0 27 Lib.Math.min.name ∈ AW := AW_in (lw_at 839 (by decide +kernel : tables_1[839]? = some (Cond.methodLink RX0 27 Lib.Math.min.name))) rfl
theorem k_X9_104 : Cond.methodLink RX9 104 yX9_doCommand ∈ AW := AW_in (lw_at 840 (by decide +kernel : tables_1[840]? = some (Cond.methodLink RX9 104 yX9_doCommand))) rfl
theorem k_X9_203 : Cond.methodLink RX9 203 yX6_admit ∈ AW := AW_in (lw_at 844 (by decide +kernel : tables_1[844]? = some (Cond.methodLink RX9 203 yX6_admit))) rfl
theorem k_X6_96 : Cond.methodLink RX6 96 yX6_wayOf ∈ AW := AW_in (lw_at 848 (by decide +kernel : tables_1[848]? = some (Cond.methodLink RX6 96 yX6_wayOf))) rfl
theorem k_X6_84 : Cond.methodLink RX6 84 yX6_missing ∈ AW := AW_in (lw_at 852 (by decide +kernel : tables_1[852]? = some (Cond.methodLink RX6 84 yX6_missing))) rfl
theorem k_X6_93 : Cond.methodLink RX6 93 yX6_lendableTo ∈ AW := AW_in (lw_at 856 (by decide +kernel : tables_1[856]? = some (Cond.methodLink RX6 93 yX6_lendableTo))) rfl
theorem k_X6_76 : Cond.methodLink RX6 76 yX2_canLend ∈ AW := AW_in (lw_at 860 (by decide +kernel : tables_1[860]? = some (Cond.methodLink RX6 76 yX2_canLend))) rfl
theorem k_X6_106 : Cond.methodLink RX6 106 yX6_collect ∈ AW := AW_in (lw_at 861 (by decide +kernel : tables_1[861]? = some (Cond.methodLink RX6 106 yX6_collect))) rfl
theorem k_X6_134 : Cond.methodLink RX6 134 yX3_isBetween ∈ AW := AW_in (lw_at 865 (by decide +kernel : tables_1[865]? = some (Cond.methodLink RX6 134 yX3_isBetween))) rfl
theorem k_X6_119 : Cond.methodLink RX6 119 Lib.Math.min.name ∈ AW := AW_in (lw_at 869 (by decide +kernel : tables_1[869]? = some (Cond.methodLink RX6 119 Lib.Math.min.name))) rfl
theorem k_X6_109 : Cond.methodLink RX6 109 yX6_borrow ∈ AW := AW_in (lw_at 870 (by decide +kernel : tables_1[870]? = some (Cond.methodLink RX6 109 yX6_borrow))) rfl
theorem k_X6_116 : Cond.methodLink RX6 116 yX6_bestLender ∈ AW := AW_in (lw_at 874 (by decide +kernel : tables_1[874]? = some (Cond.methodLink RX6 116 yX6_bestLender))) rfl
theorem k_X6_130 : Cond.methodLink RX6 130 yX3_insert ∈ AW := AW_in (lw_at 878 (by decide +kernel : tables_1[878]? = some (Cond.methodLink RX6 130 yX3_insert))) rfl
theorem k_X6_113 : Cond.methodLink RX6 113 yX2_append ∈ AW := AW_in (lw_at 882 (by decide +kernel : tables_1[882]? = some (Cond.methodLink RX6 113 yX2_append))) rfl
theorem k_X9_235 : Cond.methodLink RX9 235 yX6_mayPass ∈ AW := AW_in (lw_at 886 (by decide +kernel : tables_1[886]? = some (Cond.methodLink RX9 235 yX6_mayPass))) rfl
theorem k_X9_239 : Cond.methodLink RX9 239 yX6_passTicks ∈ AW := AW_in (lw_at 890 (by decide +kernel : tables_1[890]? = some (Cond.methodLink RX9 239 yX6_passTicks))) rfl
theorem k_X6_169 : Cond.methodLink RX6 169 yX6_passTick ∈ AW := AW_in (lw_at 894 (by decide +kernel : tables_1[894]? = some (Cond.methodLink RX6 169 yX6_passTick))) rfl
theorem k_X9_303 : Cond.methodLink RX9 303 yX9_mayDoBack ∈ AW := AW_in (lw_at 895 (by decide +kernel : tables_1[895]? = some (Cond.methodLink RX9 303 yX9_mayDoBack))) rfl
theorem k_X9_242 : Cond.methodLink RX9 242 yX6_mayReturn ∈ AW := AW_in (lw_at 899 (by decide +kernel : tables_1[899]? = some (Cond.methodLink RX9 242 yX6_mayReturn))) rfl
theorem k_X6_181 : Cond.methodLink RX6 181 yX3_cellsBetween ∈ AW := AW_in (lw_at 903 (by decide +kernel : tables_1[903]? = some (Cond.methodLink RX6 181 yX3_cellsBetween))) rfl
theorem k_X3_34 : Cond.methodLink RX3 34 yX3_isBetween ∈ AW := AW_in (lw_at 907 (by decide +kernel : tables_1[907]? = some (Cond.methodLink RX3 34 yX3_isBetween))) rfl
theorem k_X9_248 : Cond.methodLink RX9 248 yX6_returnCells ∈ AW := AW_in (lw_at 908 (by decide +kernel : tables_1[908]? = some (Cond.methodLink RX9 248 yX6_returnCells))) rfl
theorem k_X9_252 : Cond.methodLink RX9 252 yX6_mayProlong ∈ AW := AW_in (lw_at 912 (by decide +kernel : tables_1[912]? = some (Cond.methodLink RX9 252 yX6_mayProlong))) rfl
theorem k_X6_184 : Cond.methodLink RX6 184 yX2_ownLeft ∈ AW := AW_in (lw_at 916 (by decide +kernel : tables_1[916]? = some (Cond.methodLink RX6 184 yX2_ownLeft))) rfl
theorem k_X6_187 : Cond.methodLink RX6 187 yX2_keptBack ∈ AW := AW_in (lw_at 917 (by decide +kernel : tables_1[917]? = some (Cond.methodLink RX6 187 yX2_keptBack))) rfl
theorem k_X9_257 : Cond.methodLink RX9 257 yX6_prolong ∈ AW := AW_in (lw_at 918 (by decide +kernel : tables_1[918]? = some (Cond.methodLink RX9 257 yX6_prolong))) rfl
theorem k_X9_260 : Cond.methodLink RX9 260 yX6_changeTerm ∈ AW := AW_in (lw_at 922 (by decide +kernel : tables_1[922]? = some (Cond.methodLink RX9 260 yX6_changeTerm))) rfl
theorem k_X9_263 : Cond.methodLink RX9 263 yX6_changeKeep ∈ AW := AW_in (lw_at 926 (by decide +kernel : tables_1[926]? = some (Cond.methodLink RX9 263 yX6_changeKeep))) rfl
theorem k_L_28 : Cond.methodLink RL 28 yX9_setting ∈ AW := AW_in (lw_at 933 (by decide +kernel : tables_1[933]? = some (Cond.methodLink RL 28 yX9_setting))) rfl
theorem k_L_31 : Cond.methodLink RL 31 yX9_port ∈ AW := AW_in (lw_at 941 (by decide +kernel : tables_1[941]? = some (Cond.methodLink RL 31 yX9_port))) rfl
theorem k_X9_147 : Cond.methodLink RX9 147 yX9_needPort ∈ AW := AW_in (lw_at 945 (by decide +kernel : tables_1[945]? = some (Cond.methodLink RX9 147 yX9_needPort))) rfl
theorem k_X9_161 : Cond.methodLink RX9 161 yX9_needIndex ∈ AW := AW_in (lw_at 949 (by decide +kernel : tables_1[949]? = some (Cond.methodLink RX9 161 yX9_needIndex))) rfl
theorem k_X9_154 : Cond.methodLink RX9 154 yX2_number ∈ AW := AW_in (lw_at 968 (by decide +kernel : tables_1[968]? = some (Cond.methodLink RX9 154 yX2_number))) rfl
theorem k_L_37 : Cond.methodLink RL 37 yX9_packet ∈ AW := AW_in (lw_at 972 (by decide +kernel : tables_1[972]? = some (Cond.methodLink RL 37 yX9_packet))) rfl
theorem k_L_41 : Cond.methodLink RL 41 yX9_promise ∈ AW := AW_in (lw_at 979 (by decide +kernel : tables_1[979]? = some (Cond.methodLink RL 41 yX9_promise))) rfl
theorem k_L_44 : Cond.methodLink RL 44 yX9_owed ∈ AW := AW_in (lw_at 986 (by decide +kernel : tables_1[986]? = some (Cond.methodLink RL 44 yX9_owed))) rfl
theorem k_X9_187 : Cond.methodLink RX9 187 yX3_cellsBetween ∈ AW := AW_in (lw_at 990 (by decide +kernel : tables_1[990]? = some (Cond.methodLink RX9 187 yX3_cellsBetween))) rfl
theorem k_L_47 : Cond.methodLink RL 47 yX9_drop ∈ AW := AW_in (lw_at 994 (by decide +kernel : tables_1[994]? = some (Cond.methodLink RL 47 yX9_drop))) rfl
theorem k_X9_190 : Cond.methodLink RX9 190 yX1_number ∈ AW := AW_in (lw_at 998 (by decide +kernel : tables_1[998]? = some (Cond.methodLink RX9 190 yX1_number))) rfl
theorem k_L_50 : Cond.methodLink RL 50 yX9_dropsBy ∈ AW := AW_in (lw_at 1005 (by decide +kernel : tables_1[1005]? = some (Cond.methodLink RL 50 yX9_dropsBy))) rfl
theorem k_L_53 : Cond.methodLink RL 53 yX9_wouldBorrow ∈ AW := AW_in (lw_at 1012 (by decide +kernel : tables_1[1012]? = some (Cond.methodLink RL 53 yX9_wouldBorrow))) rfl
theorem k_X9_197 : Cond.methodLink RX9 197 yX6_wayOf ∈ AW := AW_in (lw_at 1016 (by decide +kernel : tables_1[1016]? = some (Cond.methodLink RX9 197 yX6_wayOf))) rfl
theorem k_X9_200 : Cond.methodLink RX9 200 yX6_missing ∈ AW := AW_in (lw_at 1017 (by decide +kernel : tables_1[1017]? = some (Cond.methodLink RX9 200 yX6_missing))) rfl
theorem k_L_56 : Cond.methodLink RL 56 yX9_wouldCall ∈ AW := AW_in (lw_at 1021 (by decide +kernel : tables_1[1021]? = some (Cond.methodLink RL 56 yX9_wouldCall))) rfl
theorem k_L_59 : Cond.methodLink RL 59 yX9_wouldDrop ∈ AW := AW_in (lw_at 1028 (by decide +kernel : tables_1[1028]? = some (Cond.methodLink RL 59 yX9_wouldDrop))) rfl
theorem k_L_62 : Cond.methodLink RL 62 yX9_greatest ∈ AW := AW_in (lw_at 1035 (by decide +kernel : tables_1[1035]? = some (Cond.methodLink RL 62 yX9_greatest))) rfl
theorem k_X9_211 : Cond.methodLink RX9 211 yX2_free ∈ AW := AW_in (lw_at 1039 (by decide +kernel : tables_1[1039]? = some (Cond.methodLink RX9 211 yX2_free))) rfl
theorem k_X9_215 : Cond.methodLink RX9 215 yX6_lendableTo ∈ AW := AW_in (lw_at 1040 (by decide +kernel : tables_1[1040]? = some (Cond.methodLink RX9 215 yX6_lendableTo))) rfl
theorem k_X9_218 : Cond.methodLink RX9 218 Lib.Math.max.name ∈ AW := AW_in (lw_at 1041 (by decide +kernel : tables_1[1041]? = some (Cond.methodLink RX9 218 Lib.Math.max.name))) rfl
theorem k_X9_223 : Cond.methodLink RX9 223 Lib.Math.min.name ∈ AW := AW_in (lw_at 1042 (by decide +kernel : tables_1[1042]? = some (Cond.methodLink RX9 223 Lib.Math.min.name))) rfl
theorem k_L_65 : Cond.methodLink RL 65 yX9_dropsIn ∈ AW := AW_in (lw_at 1046 (by decide +kernel : tables_1[1046]? = some (Cond.methodLink RL 65 yX9_dropsIn))) rfl
theorem k_L_68 : Cond.methodLink RL 68 yX9_sentIn ∈ AW := AW_in (lw_at 1053 (by decide +kernel : tables_1[1053]? = some (Cond.methodLink RL 68 yX9_sentIn))) rfl
theorem k_X9_232 : Cond.methodLink RX9 232 yX2_cellsUpTo ∈ AW := AW_in (lw_at 1057 (by decide +kernel : tables_1[1057]? = some (Cond.methodLink RX9 232 yX2_cellsUpTo))) rfl
theorem k_L_71 : Cond.methodLink RL 71 yX9_arrive ∈ AW := AW_in (lw_at 1064 (by decide +kernel : tables_1[1064]? = some (Cond.methodLink RL 71 yX9_arrive))) rfl
theorem k_L_74 : Cond.methodLink RL 74 yX9_tick ∈ AW := AW_in (lw_at 1071 (by decide +kernel : tables_1[1071]? = some (Cond.methodLink RL 74 yX9_tick))) rfl
theorem k_L_77 : Cond.methodLink RL 77 yX9_giveBack ∈ AW := AW_in (lw_at 1078 (by decide +kernel : tables_1[1078]? = some (Cond.methodLink RL 77 yX9_giveBack))) rfl
theorem k_L_80 : Cond.methodLink RL 80 yX9_extend ∈ AW := AW_in (lw_at 1086 (by decide +kernel : tables_1[1086]? = some (Cond.methodLink RL 80 yX9_extend))) rfl
theorem k_L_83 : Cond.methodLink RL 83 yX9_setTerm ∈ AW := AW_in (lw_at 1094 (by decide +kernel : tables_1[1094]? = some (Cond.methodLink RL 83 yX9_setTerm))) rfl
theorem k_L_86 : Cond.methodLink RL 86 yX9_setKeep ∈ AW := AW_in (lw_at 1101 (by decide +kernel : tables_1[1101]? = some (Cond.methodLink RL 86 yX9_setKeep))) rfl
theorem k_L_89 : Cond.methodLink RL 89 yX9_reportByte ∈ AW := AW_in (lw_at 1108 (by decide +kernel : tables_1[1108]? = some (Cond.methodLink RL 89 yX9_reportByte))) rfl
theorem k_L_92 : Cond.methodLink RL 92 yX9_restore ∈ AW := AW_in (lw_at 1115 (by decide +kernel : tables_1[1115]? = some (Cond.methodLink RL 92 yX9_restore))) rfl
theorem k_L_105 : Cond.methodLink RL 105 yX10_thrown ∈ AW := AW_in (lw_at 1120 (by decide +kernel : tables_1[1120]? = some (Cond.methodLink RL 105 yX10_thrown))) rfl
theorem k_L_98 : Cond.methodLink RL 98 yX10_init ∈ AW := AW_in (lw_at 1126 (by decide +kernel : tables_1[1126]? = some (Cond.methodLink RL 98 yX10_init))) rfl
theorem k_X10_36 : Cond.methodLink RX10 36 yX10_clears ∈ AW := AW_in (lw_at 1130 (by decide +kernel : tables_1[1130]? = some (Cond.methodLink RX10 36 yX10_clears))) rfl
theorem k_X10_46 : Cond.methodLink RX10 46 yX10_set ∈ AW := AW_in (lw_at 1134 (by decide +kernel : tables_1[1134]? = some (Cond.methodLink RX10 46 yX10_set))) rfl
theorem k_X10_53 : Cond.methodLink RX10 53 yX10_setName ∈ AW := AW_in (lw_at 1138 (by decide +kernel : tables_1[1138]? = some (Cond.methodLink RX10 53 yX10_setName))) rfl
theorem k_L_104 : Cond.methodLink RL 104 yX10_feed ∈ AW := AW_in (lw_at 1222 (by decide +kernel : tables_1[1222]? = some (Cond.methodLink RL 104 yX10_feed))) rfl
theorem k_X10_60 : Cond.methodLink RX10 60 yX10_good ∈ AW := AW_in (lw_at 1226 (by decide +kernel : tables_1[1226]? = some (Cond.methodLink RX10 60 yX10_good))) rfl
theorem k_X10_64 : Cond.methodLink RX10 64 yX10_four ∈ AW := AW_in (lw_at 1230 (by decide +kernel : tables_1[1230]? = some (Cond.methodLink RX10 64 yX10_four))) rfl
theorem k_L_111 : Cond.methodLink RL 111 yX10_truncate ∈ AW := AW_in (lw_at 1234 (by decide +kernel : tables_1[1234]? = some (Cond.methodLink RL 111 yX10_truncate))) rfl
theorem k_X10_68 : Cond.methodLink RX10 68 yX10_in ∈ AW := AW_in (lw_at 1238 (by decide +kernel : tables_1[1238]? = some (Cond.methodLink RX10 68 yX10_in))) rfl
theorem k_L_115 : Cond.methodLink RL 115 yX10_readText ∈ AW := AW_in (lw_at 1241 (by decide +kernel : tables_1[1241]? = some (Cond.methodLink RL 115 yX10_readText))) rfl
theorem k_X10_159 : Cond.methodLink RX10 159 yX10_starts ∈ AW := AW_in (lw_at 1245 (by decide +kernel : tables_1[1245]? = some (Cond.methodLink RX10 159 yX10_starts))) rfl
theorem k_X10_118 : Cond.methodLink RX10 118 yX10_scans ∈ AW := AW_in (lw_at 1249 (by decide +kernel : tables_1[1249]? = some (Cond.methodLink RX10 118 yX10_scans))) rfl
theorem k_X10_88 : Cond.methodLink RX10 88 yX10_byteAt ∈ AW := AW_in (lw_at 1253 (by decide +kernel : tables_1[1253]? = some (Cond.methodLink RX10 88 yX10_byteAt))) rfl
theorem k_X10_75 : Cond.methodLink RX10 75 yX10_isGood ∈ AW := AW_in (lw_at 1263 (by decide +kernel : tables_1[1263]? = some (Cond.methodLink RX10 75 yX10_isGood))) rfl
theorem k_X10_162 : Cond.methodLink RX10 162 yX10_readsStatement ∈ AW := AW_in (lw_at 1267 (by decide +kernel : tables_1[1267]? = some (Cond.methodLink RX10 162 yX10_readsStatement))) rfl
theorem k_X10_135 : Cond.methodLink RX10 135 yX10_isWord ∈ AW := AW_in (lw_at 1272 (by decide +kernel : tables_1[1272]? = some (Cond.methodLink RX10 135 yX10_isWord))) rfl
theorem k_X10_145 : Cond.methodLink RX10 145 yX10_readsPort ∈ AW := AW_in (lw_at 1276 (by decide +kernel : tables_1[1276]? = some (Cond.methodLink RX10 145 yX10_readsPort))) rfl
theorem k_X10_42 : Cond.methodLink RX10 42 yX10_of ∈ AW := AW_in (lw_at 1280 (by decide +kernel : tables_1[1280]? = some (Cond.methodLink RX10 42 yX10_of))) rfl
theorem k_X10_114 : Cond.methodLink RX10 114 yX10_must ∈ AW := AW_in (lw_at 1284 (by decide +kernel : tables_1[1284]? = some (Cond.methodLink RX10 114 yX10_must))) rfl
theorem k_X10_125 : Cond.methodLink RX10 125 yX10_named ∈ AW := AW_in (lw_at 1288 (by decide +kernel : tables_1[1288]? = some (Cond.methodLink RX10 125 yX10_named))) rfl
theorem k_X10_121 : Cond.methodLink RX10 121 yX10_name ∈ AW := AW_in (lw_at 1292 (by decide +kernel : tables_1[1292]? = some (Cond.methodLink RX10 121 yX10_name))) rfl
theorem k_X10_129 : Cond.methodLink RX10 129 yX10_reads ∈ AW := AW_in (lw_at 1296 (by decide +kernel : tables_1[1296]? = some (Cond.methodLink RX10 129 yX10_reads))) rfl
theorem k_X10_139 : Cond.methodLink RX10 139 yX10_setP ∈ AW := AW_in (lw_at 1301 (by decide +kernel : tables_1[1301]? = some (Cond.methodLink RX10 139 yX10_setP))) rfl
theorem k_X10_165 : Cond.methodLink RX10 165 yX10_sign ∈ AW := AW_in (lw_at 1307 (by decide +kernel : tables_1[1307]? = some (Cond.methodLink RX10 165 yX10_sign))) rfl
theorem k_X10_110 : Cond.methodLink RX10 110 yX10_isSign ∈ AW := AW_in (lw_at 1311 (by decide +kernel : tables_1[1311]? = some (Cond.methodLink RX10 110 yX10_isSign))) rfl
theorem k_X10_168 : Cond.methodLink RX10 168 yX10_copies ∈ AW := AW_in (lw_at 1315 (by decide +kernel : tables_1[1315]? = some (Cond.methodLink RX10 168 yX10_copies))) rfl
theorem k_L_122 : Cond.methodLink RL 122 yX10_errorCode ∈ AW := AW_in (lw_at 1319 (by decide +kernel : tables_1[1319]? = some (Cond.methodLink RL 122 yX10_errorCode))) rfl
theorem k_L_126 : Cond.methodLink RL 126 yX10_errorPosition ∈ AW := AW_in (lw_at 1323 (by decide +kernel : tables_1[1323]? = some (Cond.methodLink RL 126 yX10_errorPosition))) rfl
theorem k_L_207 : Cond.methodLink RL 207 yX10_undo ∈ AW := AW_in (lw_at 1327 (by decide +kernel : tables_1[1327]? = some (Cond.methodLink RL 207 yX10_undo))) rfl
theorem k_L_129 : Cond.methodLink RL 129 yX10_setting ∈ AW := AW_in (lw_at 1331 (by decide +kernel : tables_1[1331]? = some (Cond.methodLink RL 129 yX10_setting))) rfl
theorem k_X10_271 : Cond.methodLink RX10 271 yX10_sumOf ∈ AW := AW_in (lw_at 1336 (by decide +kernel : tables_1[1336]? = some (Cond.methodLink RX10 271 yX10_sumOf))) rfl
theorem k_X10_183 : Cond.methodLink RX10 183 yX10_p ∈ AW := AW_in (lw_at 1340 (by decide +kernel : tables_1[1340]? = some (Cond.methodLink RX10 183 yX10_p))) rfl
theorem k_X10_195 : Cond.methodLink RX10 195 yX10_usedBy ∈ AW := AW_in (lw_at 1344 (by decide +kernel : tables_1[1344]? = some (Cond.methodLink RX10 195 yX10_usedBy))) rfl
theorem k_X10_177 : Cond.methodLink RX10 177 yX10_k ∈ AW := AW_in (lw_at 1348 (by decide +kernel : tables_1[1348]? = some (Cond.methodLink RX10 177 yX10_k))) rfl
theorem k_X10_186 : Cond.methodLink RX10 186 yX10_lentBy ∈ AW := AW_in (lw_at 1352 (by decide +kernel : tables_1[1352]? = some (Cond.methodLink RX10 186 yX10_lentBy))) rfl
theorem k_X10_180 : Cond.methodLink RX10 180 yX10_m ∈ AW := AW_in (lw_at 1356 (by decide +kernel : tables_1[1356]? = some (Cond.methodLink RX10 180 yX10_m))) rfl
theorem k_X10_234 : Cond.methodLink RX10 234 yX10_freeOf ∈ AW := AW_in (lw_at 1360 (by decide +kernel : tables_1[1360]? = some (Cond.methodLink RX10 234 yX10_freeOf))) rfl
theorem k_X10_192 : Cond.methodLink RX10 192 yX10_roomOf ∈ AW := AW_in (lw_at 1364 (by decide +kernel : tables_1[1364]? = some (Cond.methodLink RX10 192 yX10_roomOf))) rfl
theorem k_X10_189 : Cond.methodLink RX10 189 yX10_borrowedBy ∈ AW := AW_in (lw_at 1368 (by decide +kernel : tables_1[1368]? = some (Cond.methodLink RX10 189 yX10_borrowedBy))) rfl
theorem k_L_133 : Cond.methodLink RL 133 yX10_port ∈ AW := AW_in (lw_at 1372 (by decide +kernel : tables_1[1372]? = some (Cond.methodLink RL 133 yX10_port))) rfl
theorem k_X10_274 : Cond.methodLink RX10 274 yX10_isPort ∈ AW := AW_in (lw_at 1376 (by decide +kernel : tables_1[1376]? = some (Cond.methodLink RX10 274 yX10_isPort))) rfl
theorem k_X10_279 : Cond.methodLink RX10 279 yX10_allGood ∈ AW := AW_in (lw_at 1381 (by decide +kernel : tables_1[1381]? = some (Cond.methodLink RX10 279 yX10_allGood))) rfl
theorem k_X10_204 : Cond.methodLink RX10 204 yX10_canLend ∈ AW := AW_in (lw_at 1385 (by decide +kernel : tables_1[1385]? = some (Cond.methodLink RX10 204 yX10_canLend))) rfl
theorem k_X10_201 : Cond.methodLink RX10 201 yX10_spareOf ∈ AW := AW_in (lw_at 1389 (by decide +kernel : tables_1[1389]? = some (Cond.methodLink RX10 201 yX10_spareOf))) rfl
theorem k_X10_198 : Cond.methodLink RX10 198 yX10_keptBack ∈ AW := AW_in (lw_at 1393 (by decide +kernel : tables_1[1393]? = some (Cond.methodLink RX10 198 yX10_keptBack))) rfl
theorem k_X10_283 : Cond.methodLink RX10 283 yX10_portMore ∈ AW := AW_in (lw_at 1397 (by decide +kernel : tables_1[1397]? = some (Cond.methodLink RX10 283 yX10_portMore))) rfl
theorem k_X10_286 : Cond.methodLink RX10 286 yX10_waiting ∈ AW := AW_in (lw_at 1401 (by decide +kernel : tables_1[1401]? = some (Cond.methodLink RX10 286 yX10_waiting))) rfl
theorem k_L_137 : Cond.methodLink RL 137 yX10_packet ∈ AW := AW_in (lw_at 1405 (by decide +kernel : tables_1[1405]? = some (Cond.methodLink RL 137 yX10_packet))) rfl
theorem k_X10_289 : Cond.methodLink RX10 289 yX10_packetOf ∈ AW := AW_in (lw_at 1409 (by decide +kernel : tables_1[1409]? = some (Cond.methodLink RX10 289 yX10_packetOf))) rfl
theorem k_L_140 : Cond.methodLink RL 140 yX10_promise ∈ AW := AW_in (lw_at 1414 (by decide +kernel : tables_1[1414]? = some (Cond.methodLink RL 140 yX10_promise))) rfl
theorem k_X10_294 : Cond.methodLink RX10 294 yX10_isPromise ∈ AW := AW_in (lw_at 1418 (by decide +kernel : tables_1[1418]? = some (Cond.methodLink RX10 294 yX10_isPromise))) rfl
theorem k_L_143 : Cond.methodLink RL 143 yX10_owed ∈ AW := AW_in (lw_at 1423 (by decide +kernel : tables_1[1423]? = some (Cond.methodLink RL 143 yX10_owed))) rfl
theorem k_X10_264 : Cond.methodLink RX10 264 yX10_owedTo ∈ AW := AW_in (lw_at 1427 (by decide +kernel : tables_1[1427]? = some (Cond.methodLink RX10 264 yX10_owedTo))) rfl
theorem k_L_146 : Cond.methodLink RL 146 yX10_drop ∈ AW := AW_in (lw_at 1431 (by decide +kernel : tables_1[1431]? = some (Cond.methodLink RL 146 yX10_drop))) rfl
theorem k_L_149 : Cond.methodLink RL 149 yX10_dropsBy ∈ AW := AW_in (lw_at 1436 (by decide +kernel : tables_1[1436]? = some (Cond.methodLink RL 149 yX10_dropsBy))) rfl
theorem k_L_153 : Cond.methodLink RL 153 yX10_mostCharged ∈ AW := AW_in (lw_at 1440 (by decide +kernel : tables_1[1440]? = some (Cond.methodLink RL 153 yX10_mostCharged))) rfl
theorem k_L_158 : Cond.methodLink RL 158 yX10_lossShare ∈ AW := AW_in (lw_at 1444 (by decide +kernel : tables_1[1444]? = some (Cond.methodLink RL 158 yX10_lossShare))) rfl
theorem k_L_163 : Cond.methodLink RL 163 yX10_meanForecast ∈ AW := AW_in (lw_at 1448 (by decide +kernel : tables_1[1448]? = some (Cond.methodLink RL 163 yX10_meanForecast))) rfl
theorem k_L_166 : Cond.methodLink RL 166 yX10_wouldBorrow ∈ AW := AW_in (lw_at 1452 (by decide +kernel : tables_1[1452]? = some (Cond.methodLink RL 166 yX10_wouldBorrow))) rfl
theorem k_X10_301 : Cond.methodLink RX10 301 yX10_isCells ∈ AW := AW_in (lw_at 1456 (by decide +kernel : tables_1[1456]? = some (Cond.methodLink RX10 301 yX10_isCells))) rfl
theorem k_X10_240 : Cond.methodLink RX10 240 yX10_wayIn ∈ AW := AW_in (lw_at 1460 (by decide +kernel : tables_1[1460]? = some (Cond.methodLink RX10 240 yX10_wayIn))) rfl
theorem k_X10_237 : Cond.methodLink RX10 237 yX10_othersCanLend ∈ AW := AW_in (lw_at 1464 (by decide +kernel : tables_1[1464]? = some (Cond.methodLink RX10 237 yX10_othersCanLend))) rfl
theorem k_L_169 : Cond.methodLink RL 169 yX10_wouldCall ∈ AW := AW_in (lw_at 1468 (by decide +kernel : tables_1[1468]? = some (Cond.methodLink RL 169 yX10_wouldCall))) rfl
theorem k_L_172 : Cond.methodLink RL 172 yX10_wouldDrop ∈ AW := AW_in (lw_at 1472 (by decide +kernel : tables_1[1472]? = some (Cond.methodLink RL 172 yX10_wouldDrop))) rfl
theorem k_X10_304 : Cond.methodLink RX10 304 yX10_remembers ∈ AW := AW_in (lw_at 1476 (by decide +kernel : tables_1[1476]? = some (Cond.methodLink RX10 304 yX10_remembers))) rfl
theorem k_X10_307 : Cond.methodLink RX10 307 yX10_arrives ∈ AW := AW_in (lw_at 1480 (by decide +kernel : tables_1[1480]? = some (Cond.methodLink RX10 307 yX10_arrives))) rfl
theorem k_X10_50 : Cond.methodLink RX10 50 yX10_grows ∈ AW := AW_in (lw_at 1484 (by decide +kernel : tables_1[1484]? = some (Cond.methodLink RX10 50 yX10_grows))) rfl
theorem k_X10_207 : Cond.methodLink RX10 207 yX10_growsP ∈ AW := AW_in (lw_at 1488 (by decide +kernel : tables_1[1488]? = some (Cond.methodLink RX10 207 yX10_growsP))) rfl
theorem k_X10_216 : Cond.methodLink RX10 216 yX10_notes ∈ AW := AW_in (lw_at 1492 (by decide +kernel : tables_1[1492]? = some (Cond.methodLink RX10 216 yX10_notes))) rfl
theorem k_X10_243 : Cond.methodLink RX10 243 yX10_calls ∈ AW := AW_in (lw_at 1496 (by decide +kernel : tables_1[1496]? = some (Cond.methodLink RX10 243 yX10_calls))) rfl
theorem k_X10_223 : Cond.methodLink RX10 223 yX10_lessens ∈ AW := AW_in (lw_at 1500 (by decide +kernel : tables_1[1500]? = some (Cond.methodLink RX10 223 yX10_lessens))) rfl
theorem k_X10_220 : Cond.methodLink RX10 220 yX10_removesPromise ∈ AW := AW_in (lw_at 1504 (by decide +kernel : tables_1[1504]? = some (Cond.methodLink RX10 220 yX10_removesPromise))) rfl
theorem k_X10_227 : Cond.methodLink RX10 227 yX10_shrinks ∈ AW := AW_in (lw_at 1508 (by decide +kernel : tables_1[1508]? = some (Cond.methodLink RX10 227 yX10_shrinks))) rfl
theorem k_X10_210 : Cond.methodLink RX10 210 yX10_newest ∈ AW := AW_in (lw_at 1512 (by decide +kernel : tables_1[1512]? = some (Cond.methodLink RX10 210 yX10_newest))) rfl
theorem k_X10_213 : Cond.methodLink RX10 213 yX10_removesPacket ∈ AW := AW_in (lw_at 1516 (by decide +kernel : tables_1[1516]? = some (Cond.methodLink RX10 213 yX10_removesPacket))) rfl
theorem k_X10_246 : Cond.methodLink RX10 246 yX10_borrows ∈ AW := AW_in (lw_at 1520 (by decide +kernel : tables_1[1520]? = some (Cond.methodLink RX10 246 yX10_borrows))) rfl
theorem k_X10_230 : Cond.methodLink RX10 230 yX10_promises ∈ AW := AW_in (lw_at 1524 (by decide +kernel : tables_1[1524]? = some (Cond.methodLink RX10 230 yX10_promises))) rfl
theorem k_X10_249 : Cond.methodLink RX10 249 yX10_takes ∈ AW := AW_in (lw_at 1528 (by decide +kernel : tables_1[1528]? = some (Cond.methodLink RX10 249 yX10_takes))) rfl
theorem k_L_175 : Cond.methodLink RL 175 yX10_greatest ∈ AW := AW_in (lw_at 1532 (by decide +kernel : tables_1[1532]? = some (Cond.methodLink RL 175 yX10_greatest))) rfl
theorem k_L_178 : Cond.methodLink RL 178 yX10_dropsIn ∈ AW := AW_in (lw_at 1536 (by decide +kernel : tables_1[1536]? = some (Cond.methodLink RL 178 yX10_dropsIn))) rfl
theorem k_X10_261 : Cond.methodLink RX10 261 yX10_ticksOne ∈ AW := AW_in (lw_at 1541 (by decide +kernel : tables_1[1541]? = some (Cond.methodLink RX10 261 yX10_ticksOne))) rfl
theorem k_X10_252 : Cond.methodLink RX10 252 yX10_fallsDue ∈ AW := AW_in (lw_at 1545 (by decide +kernel : tables_1[1545]? = some (Cond.methodLink RX10 252 yX10_fallsDue))) rfl
theorem k_X10_255 : Cond.methodLink RX10 255 yX10_sends ∈ AW := AW_in (lw_at 1549 (by decide +kernel : tables_1[1549]? = some (Cond.methodLink RX10 255 yX10_sends))) rfl
theorem k_X10_258 : Cond.methodLink RX10 258 yX10_forecasts ∈ AW := AW_in (lw_at 1553 (by decide +kernel : tables_1[1553]? = some (Cond.methodLink RX10 258 yX10_forecasts))) rfl
theorem k_L_182 : Cond.methodLink RL 182 yX10_emptyIn ∈ AW := AW_in (lw_at 1557 (by decide +kernel : tables_1[1557]? = some (Cond.methodLink RL 182 yX10_emptyIn))) rfl
theorem k_L_185 : Cond.methodLink RL 185 yX10_sentIn ∈ AW := AW_in (lw_at 1561 (by decide +kernel : tables_1[1561]? = some (Cond.methodLink RL 185 yX10_sentIn))) rfl
theorem k_X10_312 : Cond.methodLink RX10 312 yX10_thenSent ∈ AW := AW_in (lw_at 1565 (by decide +kernel : tables_1[1565]? = some (Cond.methodLink RX10 312 yX10_thenSent))) rfl
theorem k_L_188 : Cond.methodLink RL 188 yX10_arrive ∈ AW := AW_in (lw_at 1569 (by decide +kernel : tables_1[1569]? = some (Cond.methodLink RL 188 yX10_arrive))) rfl
theorem k_X10_315 : Cond.methodLink RX10 315 yX10_kept ∈ AW := AW_in (lw_at 1573 (by decide +kernel : tables_1[1573]? = some (Cond.methodLink RX10 315 yX10_kept))) rfl
theorem k_X10_174 : Cond.methodLink RX10 174 yX10_keeps ∈ AW := AW_in (lw_at 1577 (by decide +kernel : tables_1[1577]? = some (Cond.methodLink RX10 174 yX10_keeps))) rfl
theorem k_L_191 : Cond.methodLink RL 191 yX10_tick ∈ AW := AW_in (lw_at 1581 (by decide +kernel : tables_1[1581]? = some (Cond.methodLink RL 191 yX10_tick))) rfl
theorem k_X10_320 : Cond.methodLink RX10 320 yX10_isTicks ∈ AW := AW_in (lw_at 1585 (by decide +kernel : tables_1[1585]? = some (Cond.methodLink RX10 320 yX10_isTicks))) rfl
theorem k_X10_323 : Cond.methodLink RX10 323 yX10_ticksAll ∈ AW := AW_in (lw_at 1589 (by decide +kernel : tables_1[1589]? = some (Cond.methodLink RX10 323 yX10_ticksAll))) rfl
theorem k_L_194 : Cond.methodLink RL 194 yX10_giveBack ∈ AW := AW_in (lw_at 1593 (by decide +kernel : tables_1[1593]? = some (Cond.methodLink RL 194 yX10_giveBack))) rfl
theorem k_X10_326 : Cond.methodLink RX10 326 yX10_canGive ∈ AW := AW_in (lw_at 1597 (by decide +kernel : tables_1[1597]? = some (Cond.methodLink RX10 326 yX10_canGive))) rfl
theorem k_X10_330 : Cond.methodLink RX10 330 yX10_gives ∈ AW := AW_in (lw_at 1601 (by decide +kernel : tables_1[1601]? = some (Cond.methodLink RX10 330 yX10_gives))) rfl
theorem k_L_197 : Cond.methodLink RL 197 yX10_extend ∈ AW := AW_in (lw_at 1605 (by decide +kernel : tables_1[1605]? = some (Cond.methodLink RL 197 yX10_extend))) rfl
theorem k_X10_334 : Cond.methodLink RX10 334 yX10_canExtend ∈ AW := AW_in (lw_at 1609 (by decide +kernel : tables_1[1609]? = some (Cond.methodLink RX10 334 yX10_canExtend))) rfl
theorem k_X10_337 : Cond.methodLink RX10 337 yX10_extends1 ∈ AW := AW_in (lw_at 1613 (by decide +kernel : tables_1[1613]? = some (Cond.methodLink RX10 337 yX10_extends1))) rfl
theorem k_L_200 : Cond.methodLink RL 200 yX10_setTerm ∈ AW := AW_in (lw_at 1617 (by decide +kernel : tables_1[1617]? = some (Cond.methodLink RL 200 yX10_setTerm))) rfl
theorem k_X10_340 : Cond.methodLink RX10 340 yX10_sets ∈ AW := AW_in (lw_at 1621 (by decide +kernel : tables_1[1621]? = some (Cond.methodLink RX10 340 yX10_sets))) rfl
theorem k_L_203 : Cond.methodLink RL 203 yX10_setKeep ∈ AW := AW_in (lw_at 1625 (by decide +kernel : tables_1[1625]? = some (Cond.methodLink RL 203 yX10_setKeep))) rfl
theorem k_X10_343 : Cond.methodLink RX10 343 yX10_isKeep ∈ AW := AW_in (lw_at 1629 (by decide +kernel : tables_1[1629]? = some (Cond.methodLink RX10 343 yX10_isKeep))) rfl
theorem k_L_118 : Cond.methodLink RL 118 yX10_runScript ∈ AW := AW_in (lw_at 1632 (by decide +kernel : tables_1[1632]? = some (Cond.methodLink RL 118 yX10_runScript))) rfl
theorem k_X10_402 : Cond.methodLink RX10 402 yX10_goes ∈ AW := AW_in (lw_at 1636 (by decide +kernel : tables_1[1636]? = some (Cond.methodLink RX10 402 yX10_goes))) rfl
theorem k_X10_396 : Cond.methodLink RX10 396 yX10_closesRepeat ∈ AW := AW_in (lw_at 1640 (by decide +kernel : tables_1[1640]? = some (Cond.methodLink RX10 396 yX10_closesRepeat))) rfl
theorem k_X10_399 : Cond.methodLink RX10 399 yX10_readsCommand ∈ AW := AW_in (lw_at 1644 (by decide +kernel : tables_1[1644]? = some (Cond.methodLink RX10 399 yX10_readsCommand))) rfl
theorem k_X10_384 : Cond.methodLink RX10 384 yX10_opensRepeat ∈ AW := AW_in (lw_at 1653 (by decide +kernel : tables_1[1653]? = some (Cond.methodLink RX10 384 yX10_opensRepeat))) rfl
theorem k_X10_387 : Cond.methodLink RX10 387 yX10_readsArrive ∈ AW := AW_in (lw_at 1657 (by decide +kernel : tables_1[1657]? = some (Cond.methodLink RX10 387 yX10_readsArrive))) rfl
theorem k_X10_355 : Cond.methodLink RX10 355 yX10_readsName ∈ AW := AW_in (lw_at 1661 (by decide +kernel : tables_1[1661]? = some (Cond.methodLink RX10 355 yX10_readsName))) rfl
theorem k_X10_358 : Cond.methodLink RX10 358 yX10_readsAny ∈ AW := AW_in (lw_at 1665 (by decide +kernel : tables_1[1665]? = some (Cond.methodLink RX10 358 yX10_readsAny))) rfl
theorem k_X10_361 : Cond.methodLink RX10 361 yX10_isDoing ∈ AW := AW_in (lw_at 1669 (by decide +kernel : tables_1[1669]? = some (Cond.methodLink RX10 361 yX10_isDoing))) rfl
theorem k_X10_364 : Cond.methodLink RX10 364 yX10_counts ∈ AW := AW_in (lw_at 1673 (by decide +kernel : tables_1[1673]? = some (Cond.methodLink RX10 364 yX10_counts))) rfl
theorem k_X10_390 : Cond.methodLink RX10 390 yX10_readsBack ∈ AW := AW_in (lw_at 1677 (by decide +kernel : tables_1[1677]? = some (Cond.methodLink RX10 390 yX10_readsBack))) rfl
theorem k_X10_393 : Cond.methodLink RX10 393 yX10_readsNumber ∈ AW := AW_in (lw_at 1681 (by decide +kernel : tables_1[1681]? = some (Cond.methodLink RX10 393 yX10_readsNumber))) rfl
theorem k_L_211 : Cond.methodLink RL 211 yX10_report ∈ AW := AW_in (lw_at 1685 (by decide +kernel : tables_1[1685]? = some (Cond.methodLink RL 211 yX10_report))) rfl
theorem k_X10_413 : Cond.methodLink RX10 413 yX10_writesName ∈ AW := AW_in (lw_at 1689 (by decide +kernel : tables_1[1689]? = some (Cond.methodLink RX10 413 yX10_writesName))) rfl
theorem k_X10_408 : Cond.methodLink RX10 408 yX10_writes ∈ AW := AW_in (lw_at 1694 (by decide +kernel : tables_1[1694]? = some (Cond.methodLink RX10 408 yX10_writes))) rfl
theorem k_X10_417 : Cond.methodLink RX10 417 yX10_writesNumber ∈ AW := AW_in (lw_at 1698 (by decide +kernel : tables_1[1698]? = some (Cond.methodLink RX10 417 yX10_writesNumber))) rfl
theorem k_L_214 : Cond.methodLink RL 214 yX10_reportByte ∈ AW := AW_in (lw_at 1702 (by decide +kernel : tables_1[1702]? = some (Cond.methodLink RL 214 yX10_reportByte))) rfl
theorem k_L_218 : Cond.methodLink RL 218 yX10_save ∈ AW := AW_in (lw_at 1706 (by decide +kernel : tables_1[1706]? = some (Cond.methodLink RL 218 yX10_save))) rfl
theorem k_L_221 : Cond.methodLink RL 221 yX10_restore ∈ AW := AW_in (lw_at 1710 (by decide +kernel : tables_1[1710]? = some (Cond.methodLink RL 221 yX10_restore))) rfl
theorem l_X2_73 : Cond.constantLong RX2 73 (1600) ∈ AW := AW_in (lw_at 418 (by decide +kernel : tables_1[418]? = some (Cond.constantLong RX2 73 (1600)))) rfl
theorem l_X4_71 : Cond.constantLong RX4 71 (255) ∈ AW := AW_in (lw_at 507 (by decide +kernel : tables_1[507]? = some (Cond.constantLong RX4 71 (255)))) rfl
theorem l_X10_91 : Cond.constantLong RX10 91 (97) ∈ AW := AW_in (lw_at 1257 (by decide +kernel : tables_1[1257]? = some (Cond.constantLong RX10 91 (97)))) rfl
theorem l_X10_93 : Cond.constantLong RX10 93 (122) ∈ AW := AW_in (lw_at 1258 (by decide +kernel : tables_1[1258]? = some (Cond.constantLong RX10 93 (122)))) rfl
theorem l_X10_99 : Cond.constantLong RX10 99 (32) ∈ AW := AW_in (lw_at 1259 (by decide +kernel : tables_1[1259]? = some (Cond.constantLong RX10 99 (32)))) rfl
theorem l_X10_101 : Cond.constantLong RX10 101 (96) ∈ AW := AW_in (lw_at 1260 (by decide +kernel : tables_1[1260]? = some (Cond.constantLong RX10 101 (96)))) rfl
theorem l_X10_103 : Cond.constantLong RX10 103 (48) ∈ AW := AW_in (lw_at 1261 (by decide +kernel : tables_1[1261]? = some (Cond.constantLong RX10 103 (48)))) rfl
theorem l_X10_105 : Cond.constantLong RX10 105 (57) ∈ AW := AW_in (lw_at 1262 (by decide +kernel : tables_1[1262]? = some (Cond.constantLong RX10 105 (57)))) rfl
theorem l_X10_143 : Cond.constantLong RX10 143 (540244) ∈ AW := AW_in (lw_at 1271 (by decide +kernel : tables_1[1271]? = some (Cond.constantLong RX10 143 (540244)))) rfl
theorem l_X10_133 : Cond.constantLong RX10 133 (6605428) ∈ AW := AW_in (lw_at 1300 (by decide +kernel : tables_1[1300]? = some (Cond.constantLong RX10 133 (6605428)))) rfl
theorem l_X10_148 : Cond.constantLong RX10 148 (661069) ∈ AW := AW_in (lw_at 1305 (by decide +kernel : tables_1[1305]? = some (Cond.constantLong RX10 148 (661069)))) rfl
theorem l_X10_154 : Cond.constantLong RX10 154 (365744) ∈ AW := AW_in (lw_at 1306 (by decide +kernel : tables_1[1306]? = some (Cond.constantLong RX10 154 (365744)))) rfl
theorem l_X10_269 : Cond.constantLong RX10 269 (11) ∈ AW := AW_in (lw_at 1335 (by decide +kernel : tables_1[1335]? = some (Cond.constantLong RX10 269 (11)))) rfl
theorem l_X10_277 : Cond.constantLong RX10 277 (12) ∈ AW := AW_in (lw_at 1380 (by decide +kernel : tables_1[1380]? = some (Cond.constantLong RX10 277 (12)))) rfl
theorem l_X10_292 : Cond.constantLong RX10 292 (2) ∈ AW := AW_in (lw_at 1413 (by decide +kernel : tables_1[1413]? = some (Cond.constantLong RX10 292 (2)))) rfl
theorem l_X10_297 : Cond.constantLong RX10 297 (3) ∈ AW := AW_in (lw_at 1422 (by decide +kernel : tables_1[1422]? = some (Cond.constantLong RX10 297 (3)))) rfl
theorem l_X10_299 : Cond.constantLong RX10 299 (4) ∈ AW := AW_in (lw_at 1435 (by decide +kernel : tables_1[1435]? = some (Cond.constantLong RX10 299 (4)))) rfl
theorem l_X10_267 : Cond.constantLong RX10 267 (40) ∈ AW := AW_in (lw_at 1459 (by decide +kernel : tables_1[1459]? = some (Cond.constantLong RX10 267 (40)))) rfl
theorem l_X10_310 : Cond.constantLong RX10 310 (200) ∈ AW := AW_in (lw_at 1540 (by decide +kernel : tables_1[1540]? = some (Cond.constantLong RX10 310 (200)))) rfl
theorem l_X10_318 : Cond.constantLong RX10 318 (99) ∈ AW := AW_in (lw_at 1588 (by decide +kernel : tables_1[1588]? = some (Cond.constantLong RX10 318 (99)))) rfl
theorem l_X10_375 : Cond.constantLong RX10 375 (609752116) ∈ AW := AW_in (lw_at 1648 (by decide +kernel : tables_1[1648]? = some (Cond.constantLong RX10 375 (609752116)))) rfl
theorem l_X10_377 : Cond.constantLong RX10 377 (53028549) ∈ AW := AW_in (lw_at 1649 (by decide +kernel : tables_1[1649]? = some (Cond.constantLong RX10 377 (53028549)))) rfl
theorem l_X10_379 : Cond.constantLong RX10 379 (66667) ∈ AW := AW_in (lw_at 1650 (by decide +kernel : tables_1[1650]? = some (Cond.constantLong RX10 379 (66667)))) rfl
theorem l_X10_368 : Cond.constantLong RX10 368 (664683) ∈ AW := AW_in (lw_at 1651 (by decide +kernel : tables_1[1651]? = some (Cond.constantLong RX10 368 (664683)))) rfl
theorem l_X10_370 : Cond.constantLong RX10 370 (193598916) ∈ AW := AW_in (lw_at 1652 (by decide +kernel : tables_1[1652]? = some (Cond.constantLong RX10 370 (193598916)))) rfl
theorem l_X10_411 : Cond.constantLong RX10 411 (31) ∈ AW := AW_in (lw_at 1693 (by decide +kernel : tables_1[1693]? = some (Cond.constantLong RX10 411 (31)))) rfl
