/-! GROWTH 6: the words for what is born (printed by a program) -/
theorem kn_L_8 : Cond.classLink RL 8 RX9 ∈ AW := AW_in (lw_at 23 (by decide +kernel : tables_1[23]? = some (Cond.classLink RL 8 RX9))) rfl
theorem kn_X9_9 : Cond.classLink RX9 9 RX8 ∈ AW := AW_in (lw_at 31 (by decide +kernel : tables_1[31]? = some (Cond.classLink RX9 9 RX8))) rfl
theorem kn_X9_16 : Cond.classLink RX9 16 RX7 ∈ AW := AW_in (lw_at 75 (by decide +kernel : tables_1[75]? = some (Cond.classLink RX9 16 RX7))) rfl
theorem kn_X9_23 : Cond.classLink RX9 23 RX5 ∈ AW := AW_in (lw_at 88 (by decide +kernel : tables_1[88]? = some (Cond.classLink RX9 23 RX5))) rfl
theorem kn_X9_30 : Cond.classLink RX9 30 RX6 ∈ AW := AW_in (lw_at 127 (by decide +kernel : tables_1[127]? = some (Cond.classLink RX9 30 RX6))) rfl
theorem kn_X6_9 : Cond.classLink RX6 9 RX2 ∈ AW := AW_in (lw_at 133 (by decide +kernel : tables_1[133]? = some (Cond.classLink RX6 9 RX2))) rfl
theorem kn_X6_24 : Cond.classLink RX6 24 RX3 ∈ AW := AW_in (lw_at 135 (by decide +kernel : tables_1[135]? = some (Cond.classLink RX6 24 RX3))) rfl
theorem kn_X6_31 : Cond.classLink RX6 31 RX1 ∈ AW := AW_in (lw_at 171 (by decide +kernel : tables_1[171]? = some (Cond.classLink RX6 31 RX1))) rfl
theorem kn_X9_43 : Cond.classLink RX9 43 RX0 ∈ AW := AW_in (lw_at 307 (by decide +kernel : tables_1[307]? = some (Cond.classLink RX9 43 RX0))) rfl
theorem kn_X0_9 : Cond.classLink RX0 9 RX6 ∈ AW := AW_in (lw_at 313 (by decide +kernel : tables_1[313]? = some (Cond.classLink RX0 9 RX6))) rfl
theorem kn_X9_50 : Cond.classLink RX9 50 RX4 ∈ AW := AW_in (lw_at 327 (by decide +kernel : tables_1[327]? = some (Cond.classLink RX9 50 RX4))) rfl
theorem kn_L_96 : Cond.classLink RL 96 RX10 ∈ AW := AW_in (lw_at 1124 (by decide +kernel : tables_1[1124]? = some (Cond.classLink RL 96 RX10))) rfl
theorem ic_X0 : Cond.instantiable RX0 (nf 0) ∈ AW := AW_in (lw_at 308 (by decide +kernel : tables_1[308]? = some (Cond.instantiable RX0 (nf 0)))) rfl
theorem ko_X0 : Cond.methodLink RX0 1 Lib.objectInit ∈ AW := AW_in (lw_at 312 (by decide +kernel : tables_1[312]? = some (Cond.methodLink RX0 1 Lib.objectInit))) rfl
theorem ic_X1 : Cond.instantiable RX1 (nf 1) ∈ AW := AW_in (lw_at 172 (by decide +kernel : tables_1[172]? = some (Cond.instantiable RX1 (nf 1)))) rfl
theorem ko_X1 : Cond.methodLink RX1 3 Lib.objectInit ∈ AW := AW_in (lw_at 176 (by decide +kernel : tables_1[176]? = some (Cond.methodLink RX1 3 Lib.objectInit))) rfl
theorem ic_X2 : Cond.instantiable RX2 (nf 2) ∈ AW := AW_in (lw_at 198 (by decide +kernel : tables_1[198]? = some (Cond.instantiable RX2 (nf 2)))) rfl
theorem ko_X2 : Cond.methodLink RX2 3 Lib.objectInit ∈ AW := AW_in (lw_at 202 (by decide +kernel : tables_1[202]? = some (Cond.methodLink RX2 3 Lib.objectInit))) rfl
theorem ic_X3 : Cond.instantiable RX3 (nf 3) ∈ AW := AW_in (lw_at 136 (by decide +kernel : tables_1[136]? = some (Cond.instantiable RX3 (nf 3)))) rfl
theorem ko_X3 : Cond.methodLink RX3 3 Lib.objectInit ∈ AW := AW_in (lw_at 140 (by decide +kernel : tables_1[140]? = some (Cond.methodLink RX3 3 Lib.objectInit))) rfl
theorem ic_X4 : Cond.instantiable RX4 (nf 4) ∈ AW := AW_in (lw_at 328 (by decide +kernel : tables_1[328]? = some (Cond.instantiable RX4 (nf 4)))) rfl
theorem ko_X4 : Cond.methodLink RX4 1 Lib.objectInit ∈ AW := AW_in (lw_at 332 (by decide +kernel : tables_1[332]? = some (Cond.methodLink RX4 1 Lib.objectInit))) rfl
theorem ic_X5 : Cond.instantiable RX5 (nf 5) ∈ AW := AW_in (lw_at 89 (by decide +kernel : tables_1[89]? = some (Cond.instantiable RX5 (nf 5)))) rfl
theorem ko_X5 : Cond.methodLink RX5 3 Lib.objectInit ∈ AW := AW_in (lw_at 93 (by decide +kernel : tables_1[93]? = some (Cond.methodLink RX5 3 Lib.objectInit))) rfl
theorem ic_X6 : Cond.instantiable RX6 (nf 6) ∈ AW := AW_in (lw_at 128 (by decide +kernel : tables_1[128]? = some (Cond.instantiable RX6 (nf 6)))) rfl
theorem ko_X6 : Cond.methodLink RX6 3 Lib.objectInit ∈ AW := AW_in (lw_at 132 (by decide +kernel : tables_1[132]? = some (Cond.methodLink RX6 3 Lib.objectInit))) rfl
theorem ic_X7 : Cond.instantiable RX7 (nf 7) ∈ AW := AW_in (lw_at 76 (by decide +kernel : tables_1[76]? = some (Cond.instantiable RX7 (nf 7)))) rfl
theorem ko_X7 : Cond.methodLink RX7 3 Lib.objectInit ∈ AW := AW_in (lw_at 80 (by decide +kernel : tables_1[80]? = some (Cond.methodLink RX7 3 Lib.objectInit))) rfl
theorem ic_X8 : Cond.instantiable RX8 (nf 8) ∈ AW := AW_in (lw_at 32 (by decide +kernel : tables_1[32]? = some (Cond.instantiable RX8 (nf 8)))) rfl
theorem ko_X8 : Cond.methodLink RX8 3 Lib.objectInit ∈ AW := AW_in (lw_at 36 (by decide +kernel : tables_1[36]? = some (Cond.methodLink RX8 3 Lib.objectInit))) rfl
theorem ic_X9 : Cond.instantiable RX9 (nf 9) ∈ AW := AW_in (lw_at 24 (by decide +kernel : tables_1[24]? = some (Cond.instantiable RX9 (nf 9)))) rfl
theorem ko_X9 : Cond.methodLink RX9 3 Lib.objectInit ∈ AW := AW_in (lw_at 28 (by decide +kernel : tables_1[28]? = some (Cond.methodLink RX9 3 Lib.objectInit))) rfl
theorem ic_X10 : Cond.instantiable RX10 (nf 10) ∈ AW := AW_in (lw_at 1125 (by decide +kernel : tables_1[1125]? = some (Cond.instantiable RX10 (nf 10)))) rfl
theorem ko_X10 : Cond.methodLink RX10 7 Lib.objectInit ∈ AW := AW_in (lw_at 1129 (by decide +kernel : tables_1[1129]? = some (Cond.methodLink RX10 7 Lib.objectInit))) rfl
theorem oi_i : Cond.instanceMethod Lib.objectInit ∈ AW := AW_in (lw_at 29 (by decide +kernel : tables_1[29]? = some (Cond.instanceMethod Lib.objectInit))) rfl
theorem oi_c : Cond.code Lib.objectInit ⟨#[0xb1]⟩ 1 none ∈ AW := AW_in (lw_at 30 (by decide +kernel : tables_1[30]? = some (Cond.code Lib.objectInit ⟨#[0xb1]⟩ 1 none))) rfl
theorem ac_int : Cond.arrayClass .int ∈ AW := AW_in (lw_at 74 (by decide +kernel : tables_1[74]? = some (Cond.arrayClass .int))) rfl
theorem ac_long : Cond.arrayClass .long ∈ AW := AW_in (lw_at 1221 (by decide +kernel : tables_1[1221]? = some (Cond.arrayClass .long))) rfl
theorem df_X0 : ∀ j, j < nf 0 → defaultValue (tyX0 j) = if fk 0 j = 2 then .null else if fk 0 j = 1 then .long 0 else .int 0 := by decide
theorem df_X1 : ∀ j, j < nf 1 → defaultValue (tyX1 j) = if fk 1 j = 2 then .null else if fk 1 j = 1 then .long 0 else .int 0 := by decide
theorem df_X2 : ∀ j, j < nf 2 → defaultValue (tyX2 j) = if fk 2 j = 2 then .null else if fk 2 j = 1 then .long 0 else .int 0 := by decide
theorem df_X3 : ∀ j, j < nf 3 → defaultValue (tyX3 j) = if fk 3 j = 2 then .null else if fk 3 j = 1 then .long 0 else .int 0 := by decide
theorem df_X4 : ∀ j, j < nf 4 → defaultValue (tyX4 j) = if fk 4 j = 2 then .null else if fk 4 j = 1 then .long 0 else .int 0 := by decide
theorem df_X5 : ∀ j, j < nf 5 → defaultValue (tyX5 j) = if fk 5 j = 2 then .null else if fk 5 j = 1 then .long 0 else .int 0 := by decide
theorem df_X6 : ∀ j, j < nf 6 → defaultValue (tyX6 j) = if fk 6 j = 2 then .null else if fk 6 j = 1 then .long 0 else .int 0 := by decide
theorem df_X7 : ∀ j, j < nf 7 → defaultValue (tyX7 j) = if fk 7 j = 2 then .null else if fk 7 j = 1 then .long 0 else .int 0 := by decide
theorem df_X8 : ∀ j, j < nf 8 → defaultValue (tyX8 j) = if fk 8 j = 2 then .null else if fk 8 j = 1 then .long 0 else .int 0 := by decide
theorem df_X9 : ∀ j, j < nf 9 → defaultValue (tyX9 j) = if fk 9 j = 2 then .null else if fk 9 j = 1 then .long 0 else .int 0 := by decide
theorem df_X10 : ∀ j, j < nf 10 → defaultValue (tyX10 j) = if fk 10 j = 2 then .null else if fk 10 j = 1 then .long 0 else .int 0 := by decide
