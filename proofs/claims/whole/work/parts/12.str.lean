/-! STRINGS: the JDK's length and charAt over the claim's words; isWord (words and decode tables printed by a program) -/
def T_J0_coder_7d493 : List (Nat × Instr × Nat) := [(0, .getstatic 38, 3), (3, .ifCond .eq 10, 3), (6, .aload_n 0, 1), (7, .getfield 15, 3), (10, .goto 4, 3), (13, .iconst 1, 1), (14, .ireturn, 1)]
set_option maxRecDepth 20000 in
theorem D_J0_coder_7d493 : ∀ q ∈ T_J0_coder_7d493, decode cJ0_coder_7d493 q.1 = .ok q.2 := by decide +kernel
theorem m_J0_coder_7d493 : MOK yJ0_coder_7d493 cJ0_coder_7d493 1 (some .byte) 0 := ⟨lw_at 685 (by decide +kernel), AW_in (lw_at 17 (by decide +kernel : tables_1[17]? = some (Cond.initialized RJ0))) rfl, ⟨by decide, by decide, by decide +kernel⟩, by decide, by decide +kernel⟩
theorem v_J0_coder_7d493 : VOK yJ0_coder_7d493 := ⟨AW_in (lw_at 683 (by decide +kernel : tables_1[683]? = some (Cond.instanceMethod yJ0_coder_7d493))) rfl, AW_in (lw_at 684 (by decide +kernel)) rfl⟩
def T_J0_length_8abf5 : List (Nat × Instr × Nat) := [(0, .aload_n 0, 1), (1, .getfield 9, 3), (4, .arraylength, 1), (5, .aload_n 0, 1), (6, .invokevirtual 335, 3), (9, .ishr, 1), (10, .ireturn, 1)]
set_option maxRecDepth 20000 in
theorem D_J0_length_8abf5 : ∀ q ∈ T_J0_length_8abf5, decode cJ0_length_8abf5 q.1 = .ok q.2 := by decide +kernel
theorem m_J0_length_8abf5 : MOK yJ0_length_8abf5 cJ0_length_8abf5 1 (some .int) 0 := ⟨lw_at 681 (by decide +kernel), AW_in (lw_at 17 (by decide +kernel : tables_1[17]? = some (Cond.initialized RJ0))) rfl, ⟨by decide, by decide, by decide +kernel⟩, by decide, by decide +kernel⟩
theorem v_J0_length_8abf5 : VOK yJ0_length_8abf5 := ⟨AW_in (lw_at 679 (by decide +kernel : tables_1[679]? = some (Cond.instanceMethod yJ0_length_8abf5))) rfl, AW_in (lw_at 680 (by decide +kernel)) rfl⟩
def T_J0_isLatin1_aae02 : List (Nat × Instr × Nat) := [(0, .getstatic 38, 3), (3, .ifCond .eq 14, 3), (6, .aload_n 0, 1), (7, .getfield 15, 3), (10, .ifCond .ne 7, 3), (13, .iconst 1, 1), (14, .goto 4, 3), (17, .iconst 0, 1), (18, .ireturn, 1)]
set_option maxRecDepth 20000 in
theorem D_J0_isLatin1_aae02 : ∀ q ∈ T_J0_isLatin1_aae02, decode cJ0_isLatin1_aae02 q.1 = .ok q.2 := by decide +kernel
theorem m_J0_isLatin1_aae02 : MOK yJ0_isLatin1_aae02 cJ0_isLatin1_aae02 1 (some .boolean) 0 := ⟨lw_at 695 (by decide +kernel), AW_in (lw_at 17 (by decide +kernel : tables_1[17]? = some (Cond.initialized RJ0))) rfl, ⟨by decide, by decide, by decide +kernel⟩, by decide, by decide +kernel⟩
theorem v_J0_isLatin1_aae02 : VOK yJ0_isLatin1_aae02 := ⟨AW_in (lw_at 693 (by decide +kernel : tables_1[693]? = some (Cond.instanceMethod yJ0_isLatin1_aae02))) rfl, AW_in (lw_at 694 (by decide +kernel)) rfl⟩
def T_J3_checkIndex_8e157 : List (Nat × Instr × Nat) := [(0, .iload_n 0, 1), (1, .ifCond .lt 8, 3), (4, .iload_n 0, 1), (5, .iload_n 1, 1), (6, .if_icmp .lt 10, 3), (9, .aload_n 2, 1), (10, .iload_n 0, 1), (11, .iload_n 1, 1), (12, .invokestatic 95, 3), (15, .athrow, 1), (16, .iload_n 0, 1), (17, .ireturn, 1)]
set_option maxRecDepth 20000 in
theorem D_J3_checkIndex_8e157 : ∀ q ∈ T_J3_checkIndex_8e157, decode cJ3_checkIndex_8e157 q.1 = .ok q.2 := by decide +kernel
theorem m_J3_checkIndex_8e157 : MOK yJ3_checkIndex_8e157 cJ3_checkIndex_8e157 3 (some .int) 3 := ⟨lw_at 706 (by decide +kernel), AW_in (lw_at 19 (by decide +kernel : tables_1[19]? = some (Cond.initialized RJ3))) rfl, ⟨by decide, by decide, by decide +kernel⟩, by decide, by decide +kernel⟩
theorem st_J3_checkIndex_8e157 : Cond.static yJ3_checkIndex_8e157 ∈ AW := AW_in (lw_at 705 (by decide +kernel : tables_1[705]? = some (Cond.static yJ3_checkIndex_8e157))) rfl
def T_J0_checkIndex_df160 : List (Nat × Instr × Nat) := [(0, .iload_n 0, 1), (1, .iload_n 1, 1), (2, .getstatic 1053, 3), (5, .invokestatic 1059, 3), (8, .pop, 1), (9, .return_, 1)]
set_option maxRecDepth 20000 in
theorem D_J0_checkIndex_df160 : ∀ q ∈ T_J0_checkIndex_df160, decode cJ0_checkIndex_df160 q.1 = .ok q.2 := by decide +kernel
theorem m_J0_checkIndex_df160 : MOK yJ0_checkIndex_df160 cJ0_checkIndex_df160 2 none 2 := ⟨lw_at 701 (by decide +kernel), AW_in (lw_at 17 (by decide +kernel : tables_1[17]? = some (Cond.initialized RJ0))) rfl, ⟨by decide, by decide, by decide +kernel⟩, by decide, by decide +kernel⟩
theorem st_J0_checkIndex_df160 : Cond.static yJ0_checkIndex_df160 ∈ AW := AW_in (lw_at 700 (by decide +kernel : tables_1[700]? = some (Cond.static yJ0_checkIndex_df160))) rfl
def T_J1_charAt_3b067 : List (Nat × Instr × Nat) := [(0, .iload_n 1, 1), (1, .aload_n 0, 1), (2, .arraylength, 1), (3, .invokestatic 9, 3), (6, .aload_n 0, 1), (7, .iload_n 1, 1), (8, .baload, 1), (9, .sipush 255, 3), (12, .iand, 1), (13, .i2c, 1), (14, .ireturn, 1)]
set_option maxRecDepth 20000 in
theorem D_J1_charAt_3b067 : ∀ q ∈ T_J1_charAt_3b067, decode cJ1_charAt_3b067 q.1 = .ok q.2 := by decide +kernel
theorem m_J1_charAt_3b067 : MOK yJ1_charAt_3b067 cJ1_charAt_3b067 2 (some .char) 2 := ⟨lw_at 698 (by decide +kernel), AW_in (lw_at 18 (by decide +kernel : tables_1[18]? = some (Cond.initialized RJ1))) rfl, ⟨by decide, by decide, by decide +kernel⟩, by decide, by decide +kernel⟩
theorem st_J1_charAt_3b067 : Cond.static yJ1_charAt_3b067 ∈ AW := AW_in (lw_at 697 (by decide +kernel : tables_1[697]? = some (Cond.static yJ1_charAt_3b067))) rfl
def T_J0_charAt_5068e : List (Nat × Instr × Nat) := [(0, .aload_n 0, 1), (1, .invokevirtual 492, 3), (4, .ifCond .eq 12, 3), (7, .aload_n 0, 1), (8, .getfield 9, 3), (11, .iload_n 1, 1), (12, .invokestatic 495, 3), (15, .ireturn, 1), (16, .aload_n 0, 1), (17, .getfield 9, 3), (20, .iload_n 1, 1), (21, .invokestatic 498, 3), (24, .ireturn, 1)]
set_option maxRecDepth 20000 in
theorem D_J0_charAt_5068e : ∀ q ∈ T_J0_charAt_5068e, decode cJ0_charAt_5068e q.1 = .ok q.2 := by decide +kernel
theorem m_J0_charAt_5068e : MOK yJ0_charAt_5068e cJ0_charAt_5068e 2 (some .char) 1 := ⟨lw_at 691 (by decide +kernel), AW_in (lw_at 17 (by decide +kernel : tables_1[17]? = some (Cond.initialized RJ0))) rfl, ⟨by decide, by decide, by decide +kernel⟩, by decide, by decide +kernel⟩
theorem v_J0_charAt_5068e : VOK yJ0_charAt_5068e := ⟨AW_in (lw_at 689 (by decide +kernel : tables_1[689]? = some (Cond.instanceMethod yJ0_charAt_5068e))) rfl, AW_in (lw_at 690 (by decide +kernel)) rfl⟩
def T_X8_isWord : List (Nat × Instr × Nat) := [(0, .lconst 0, 1), (1, .lstore_n 2, 1), (2, .iconst 0, 1), (3, .istore 4, 2), (5, .iload 4, 2), (7, .aload_n 1, 1), (8, .invokevirtual 64, 3), (11, .if_icmp .ge 22, 3), (14, .lload_n 2, 1), (15, .bipush 8, 2), (17, .lshl, 1), (18, .aload_n 1, 1), (19, .iload 4, 2), (21, .invokevirtual 69, 3), (24, .i2l, 1), (25, .lor, 1), (26, .lstore_n 2, 1), (27, .iinc 4 1, 3), (30, .goto (-25), 3), (33, .aload_n 0, 1), (34, .getfield 35, 3), (37, .iconst 1, 1), (38, .if_icmp .ne 16, 3), (41, .aload_n 0, 1), (42, .getfield 38, 3), (45, .lload_n 2, 1), (46, .lcmp, 1), (47, .ifCond .ne 7, 3), (50, .iconst 1, 1), (51, .goto 4, 3), (54, .iconst 0, 1), (55, .ireturn, 1)]
set_option maxRecDepth 20000 in
theorem D_X8_isWord : ∀ q ∈ T_X8_isWord, decode cX8_isWord q.1 = .ok q.2 := by decide +kernel
theorem k_J0_335 : Cond.methodLink RJ0 335 yJ0_coder_7d493 ∈ AW := AW_in (lw_at 682 (by decide +kernel : tables_1[682]? = some (Cond.methodLink RJ0 335 yJ0_coder_7d493))) rfl
theorem k_J0_492 : Cond.methodLink RJ0 492 yJ0_isLatin1_aae02 ∈ AW := AW_in (lw_at 692 (by decide +kernel : tables_1[692]? = some (Cond.methodLink RJ0 492 yJ0_isLatin1_aae02))) rfl
theorem k_J0_495 : Cond.methodLink RJ0 495 yJ1_charAt_3b067 ∈ AW := AW_in (lw_at 696 (by decide +kernel : tables_1[696]? = some (Cond.methodLink RJ0 495 yJ1_charAt_3b067))) rfl
theorem k_J1_9 : Cond.methodLink RJ1 9 yJ0_checkIndex_df160 ∈ AW := AW_in (lw_at 699 (by decide +kernel : tables_1[699]? = some (Cond.methodLink RJ1 9 yJ0_checkIndex_df160))) rfl
theorem k_J0_1059 : Cond.methodLink RJ0 1059 yJ3_checkIndex_8e157 ∈ AW := AW_in (lw_at 704 (by decide +kernel : tables_1[704]? = some (Cond.methodLink RJ0 1059 yJ3_checkIndex_8e157))) rfl
theorem k_X8_64 : Cond.methodLink RX8 64 yJ0_length_8abf5 ∈ AW := AW_in (lw_at 678 (by decide +kernel : tables_1[678]? = some (Cond.methodLink RX8 64 yJ0_length_8abf5))) rfl
theorem k_X8_69 : Cond.methodLink RX8 69 yJ0_charAt_5068e ∈ AW := AW_in (lw_at 688 (by decide +kernel : tables_1[688]? = some (Cond.methodLink RX8 69 yJ0_charAt_5068e))) rfl
theorem f_J0_38 : Cond.fieldLink RJ0 38 "java/lang/String" "COMPACT_STRINGS" "Z" ∈ AW := AW_in (lw_at 686 (by decide +kernel : tables_1[686]? = some (Cond.fieldLink RJ0 38 "java/lang/String" "COMPACT_STRINGS" "Z"))) rfl
theorem f_J0_15 : Cond.fieldLink RJ0 15 "java/lang/String" "coder" "B" ∈ AW := AW_in (lw_at 1716 (by decide +kernel : tables_1[1716]? = some (Cond.fieldLink RJ0 15 "java/lang/String" "coder" "B"))) rfl
theorem f_J0_9 : Cond.fieldLink RJ0 9 "java/lang/String" "value" "[B" ∈ AW := AW_in (lw_at 1715 (by decide +kernel : tables_1[1715]? = some (Cond.fieldLink RJ0 9 "java/lang/String" "value" "[B"))) rfl
theorem f_J0_1053 : Cond.fieldLink RJ0 1053 "jdk/internal/util/Preconditions" "SIOOBE_FORMATTER" "Ljava/util/function/BiFunction;" ∈ AW := AW_in (lw_at 702 (by decide +kernel : tables_1[702]? = some (Cond.fieldLink RJ0 1053 "jdk/internal/util/Preconditions" "SIOOBE_FORMATTER" "Ljava/util/function/BiFunction;"))) rfl
abbrev PcJ (cA : Nat → ClassId) (D : va_G) (b0 : Nat) (Hs : Heap) (sa sv : Nat → Nat) (vs : List Value) (μ : MM) : Array Value → State → Prop := fun v U => v = vs.toArray ∧ Wo cA D b0 Hs μ U.heap ∧ ZZ cA D b0 Hs U ∧ vk_S 9 strN strB sa sv (fun q => b0 ≤ q) U Hs
theorem PcJ_blind {cA : Nat → ClassId} {D : va_G} {b0 : Nat} {Hs : Heap} {sa sv : Nat → Nat} {vs : List Value} {μ : MM} : FrameBlind (PcJ cA D b0 Hs sa sv vs μ) := fun a U g mk h => ⟨h.1, h.2.1, ZZ.same (s := U) (U := U.calling g mk a) rfl h.2.2.1, h.2.2.2.moved (Vm.Alike.refl _)⟩
/-- a JDK method's contract over one of the claim's words -/
def MetJ (l : Launch) (y : MethodName) (cc : ByteArray) (maxL : Nat) (ret : Option FieldType) (lev : Nat) (vs : (Nat → Nat) → (Nat → Nat) → List Value) (r : Option AV) : Prop :=
  ∀ (cA : Nat → ClassId) (D : va_G) (b0 : Nat) (Hs : Heap) (sa sv : Nat → Nat) (μ : MM) (K : Option AV → MM → Prop), K r μ → Met l y (AWm y cc maxL ret) (rmL lev) (PcJ cA D b0 Hs sa sv (vs sa sv) μ) (QcM cA D b0 Hs K) 0 0 (fun q => b0 ≤ q)
def EnvJ (κ : Kap) (own : String) (cc : ByteArray) (nL lev : Nat) (sa sv : Nat → Nat) : Prop := Env1 κ own cc nL lev ∧ match κ with
  | (_, _, _, _, s, _, _, _, _, _, _, _, _, _, _, b0, Hs) => vk_S 9 strN strB sa sv (fun q => b0 ≤ q) s Hs
/-- the machine at pc, with raw locals and stack -/
def Wj (κ : Kap) (μ : MM) (pc : Nat) (lv : List (Nat × Value)) (st : List Value) : Prop := match κ with
  | (p, l, e, R, s, m, args, below, meth, c, cells, slots, Q, cA, D, b0, Hs) => ∀ (H : Heap) (locs : List Loc) (ls : Array Slot), lv_has ls c.maxLocals lv → Wo cA D b0 Hs μ H → va_S (fun q => b0 ≤ q) s.heap H locs → W p l e R s m args below meth c H locs cells slots Q (F0 m pc ls st)
def bK (κ : Kap) : Nat := match κ with
  | (_, _, _, _, _, _, _, _, _, _, _, _, _, _, _, b0, _) => b0
theorem metj_raw {y : MethodName} {cc : ByteArray} {maxL lev : Nat} {ret : Option FieldType} {vs : List Value} (hy : plainName y.cls = true) (hln : (lg_sl vs).length ≤ maxL) (cA : Nat → ClassId) (D : va_G) (b0 : Nat) (Hs : Heap) (sa sv : Nat → Nat) (μ : MM) (K : Option AV → MM → Prop) (hB : ∀ (κ : Kap), EnvJ κ y.cls cc maxL lev sa sv → RetOK κ ret K → bK κ = b0 → Wj κ μ 0 (lv_args 0 vs) []) (l : Launch) (htr : l.stackTraces = false) : Met l y (AWm y cc maxL ret) (rmL lev) (PcJ cA D b0 Hs sa sv vs μ) (QcM cA D b0 Hs K) 0 0 (fun q => b0 ≤ q) := by
  refine Met.ofW (cc := cc) (maxL := maxL) (ret := ret) (ws' := AW) hy rfl ?_
  intro p e s m args below meth c s₁ Bd hml hv
  obtain ⟨rfl, hW, hZ, hJ⟩ := hv
  have hts := atoms_spec (ws := AWm y cc maxL ret) Bd.pre
  have hown : s.vm.findClass y.cls = some m.cls := findClass_of_methodNamed Bd.named
  rw [lg_entry_eq]
  have hE := lv_entry vs hln
  have key := hB (p, l, e, (headSpec (AWm y cc maxL ret) (rmL lev)).room, s, m, vs.toArray, below, meth, c, 0, 0, MQ below (QcM cA D b0 Hs K) vs.toArray s 0 0 (fun q => b0 ≤ q), cA, D, b0, Hs)
    ⟨⟨⟨Bd.exec, Bd.bytes, hml, hown, fun w hw => hts w (List.mem_cons_of_mem _ hw), Bd.notSynchronized, hZ.1, by have := hW.1; omega, rfl, rfl, Nat.zero_le _, Nat.zero_le _⟩, htr, hZ⟩, hJ⟩ ⟨Bd.returns, fun _ _ _ h => h⟩ rfl
  exact key s.heap [] _ (by rw [hml]; exact hE) hW va_S.rf
theorem metj_of {y : MethodName} {cc : ByteArray} {maxL lev : Nat} {ret : Option FieldType} {vs : (Nat → Nat) → (Nat → Nat) → List Value} {r : Option AV} (hy : plainName y.cls = true) (hln : ∀ sa sv, (lg_sl (vs sa sv)).length ≤ maxL) (hB : ∀ (κ : Kap) (sa sv : Nat → Nat) (μ : MM) (post : Option AV → MM → Prop), EnvJ κ y.cls cc maxL lev sa sv → RetOK κ ret post → post r μ → Wj κ μ 0 (lv_args 0 (vs sa sv)) []) : ∀ l : Launch, l.stackTraces = false → MetJ l y cc maxL ret lev vs r := by
  intro l htr cA D b0 Hs sa sv μ K hK0
  exact metj_raw hy (hln sa sv) cA D b0 Hs sa sv μ K (fun κ h hr _ => hB κ sa sv μ K h hr hK0) l htr
section
variable {κ : Kap} {own : String} {cc : ByteArray} {nL lev : Nat} {sa sv : Nat → Nat} {μ : MM} {pc : Nat} {lv : List (Nat × Value)} {st : List Value}
theorem j_aload_n (h : EnvJ κ own cc nL lev sa sv) {kk : Fin 4} {i k x : Nat} (d : decode cc pc = .ok (.aload_n kk, 1)) (hi : (kk : Nat) = i) (q : lv[k]? = some (i, .ref x)) (hk : Wj κ μ (pc + 1) lv (.ref x :: st)) : Wj κ μ pc lv st := by
  obtain ⟨p, l, e, R, s, m, args, below, meth, c, cells, slots, Q, cA, D, b0, Hs⟩ := κ
  obtain ⟨⟨⟨hx, hb, hml, hown, hts, hlk, hK, hb0, hfr, hlo, hc1, hs1⟩, htr, hZ⟩, hJ⟩ := h
  intro H locs ls hL hW hS
  exact lv_aload_n hx hb d hi (lv_at hL k q) (hk H locs ls hL hW hS)
theorem j_iload_n (h : EnvJ κ own cc nL lev sa sv) {kk : Fin 4} {i k : Nat} {x : Int32} (d : decode cc pc = .ok (.iload_n kk, 1)) (hi : (kk : Nat) = i) (q : lv[k]? = some (i, .int x)) (hk : Wj κ μ (pc + 1) lv (.int x :: st)) : Wj κ μ pc lv st := by
  obtain ⟨p, l, e, R, s, m, args, below, meth, c, cells, slots, Q, cA, D, b0, Hs⟩ := κ
  obtain ⟨⟨⟨hx, hb, hml, hown, hts, hlk, hK, hb0, hfr, hlo, hc1, hs1⟩, htr, hZ⟩, hJ⟩ := h
  intro H locs ls hL hW hS
  exact lv_iload_n hx hb d hi (lv_at hL k q) (hk H locs ls hL hW hS)
theorem j_iload (h : EnvJ κ own cc nL lev sa sv) {i k : Nat} {x : Int32} (d : decode cc pc = .ok (.iload i, 2)) (q : lv[k]? = some (i, .int x)) (hk : Wj κ μ (pc + 2) lv (.int x :: st)) : Wj κ μ pc lv st := by
  obtain ⟨p, l, e, R, s, m, args, below, meth, c, cells, slots, Q, cA, D, b0, Hs⟩ := κ
  obtain ⟨⟨⟨hx, hb, hml, hown, hts, hlk, hK, hb0, hfr, hlo, hc1, hs1⟩, htr, hZ⟩, hJ⟩ := h
  intro H locs ls hL hW hS
  exact lv_iload hx hb d (lv_at hL k q) (hk H locs ls hL hW hS)
theorem j_lload_n (h : EnvJ κ own cc nL lev sa sv) {kk : Fin 4} {i k : Nat} {x : Int64} (d : decode cc pc = .ok (.lload_n kk, 1)) (hi : (kk : Nat) = i) (q : lv[k]? = some (i, .long x)) (hk : Wj κ μ (pc + 1) lv (.long x :: st)) : Wj κ μ pc lv st := by
  obtain ⟨p, l, e, R, s, m, args, below, meth, c, cells, slots, Q, cA, D, b0, Hs⟩ := κ
  obtain ⟨⟨⟨hx, hb, hml, hown, hts, hlk, hK, hb0, hfr, hlo, hc1, hs1⟩, htr, hZ⟩, hJ⟩ := h
  intro H locs ls hL hW hS
  exact lv_lload_n hx hb d hi (lv_at hL k q) (hk H locs ls hL hW hS)
theorem j_iconst (h : EnvJ κ own cc nL lev sa sv) {n : Int} {v : Int32} (d : decode cc pc = .ok (.iconst n, 1)) (hv : Int32.ofInt n = v) (hk : Wj κ μ (pc + 1) lv (.int v :: st)) : Wj κ μ pc lv st := by
  obtain ⟨p, l, e, R, s, m, args, below, meth, c, cells, slots, Q, cA, D, b0, Hs⟩ := κ
  obtain ⟨⟨⟨hx, hb, hml, hown, hts, hlk, hK, hb0, hfr, hlo, hc1, hs1⟩, htr, hZ⟩, hJ⟩ := h
  intro H locs ls hL hW hS
  exact lv_iconst hx hb d hv (hk H locs ls hL hW hS)
theorem j_bipush (h : EnvJ κ own cc nL lev sa sv) {n : Int} {v : Int32} (d : decode cc pc = .ok (.bipush n, 2)) (hv : (Int8.ofInt n).toInt32 = v) (hk : Wj κ μ (pc + 2) lv (.int v :: st)) : Wj κ μ pc lv st := by
  obtain ⟨p, l, e, R, s, m, args, below, meth, c, cells, slots, Q, cA, D, b0, Hs⟩ := κ
  obtain ⟨⟨⟨hx, hb, hml, hown, hts, hlk, hK, hb0, hfr, hlo, hc1, hs1⟩, htr, hZ⟩, hJ⟩ := h
  intro H locs ls hL hW hS
  exact lv_bipush hx hb d hv (hk H locs ls hL hW hS)
theorem j_sipush (h : EnvJ κ own cc nL lev sa sv) {n : Int} {v : Int32} (d : decode cc pc = .ok (.sipush n, 3)) (hv : (Int16.ofInt n).toInt32 = v) (hk : Wj κ μ (pc + 3) lv (.int v :: st)) : Wj κ μ pc lv st := by
  obtain ⟨p, l, e, R, s, m, args, below, meth, c, cells, slots, Q, cA, D, b0, Hs⟩ := κ
  obtain ⟨⟨⟨hx, hb, hml, hown, hts, hlk, hK, hb0, hfr, hlo, hc1, hs1⟩, htr, hZ⟩, hJ⟩ := h
  intro H locs ls hL hW hS
  exact lv_sipush hx hb d hv (hk H locs ls hL hW hS)
theorem j_lconst (h : EnvJ κ own cc nL lev sa sv) {n : Fin 2} {v : Int64} (d : decode cc pc = .ok (.lconst n, 1)) (hv : Int64.ofNat (n : Nat) = v) (hk : Wj κ μ (pc + 1) lv (.long v :: st)) : Wj κ μ pc lv st := by
  obtain ⟨p, l, e, R, s, m, args, below, meth, c, cells, slots, Q, cA, D, b0, Hs⟩ := κ
  obtain ⟨⟨⟨hx, hb, hml, hown, hts, hlk, hK, hb0, hfr, hlo, hc1, hs1⟩, htr, hZ⟩, hJ⟩ := h
  intro H locs ls hL hW hS
  exact lv_lconst hx hb d hv (hk H locs ls hL hW hS)
theorem j_istore (h : EnvJ κ own cc nL lev sa sv) {i : Nat} {x : Int32} {lv' : List (Nat × Value)} (d : decode cc pc = .ok (.istore i, 2)) (hn : i < nL) (hl : (i, Value.int x) :: lv.filter (fun q => !(q.1 == i) && !(q.1 + 1 == i && q.2.category == 2)) = lv') (hk : Wj κ μ (pc + 2) lv' st) : Wj κ μ pc lv (.int x :: st) := by
  obtain ⟨p, l, e, R, s, m, args, below, meth, c, cells, slots, Q, cA, D, b0, Hs⟩ := κ
  obtain ⟨⟨⟨hx, hb, hml, hown, hts, hlk, hK, hb0, hfr, hlo, hc1, hs1⟩, htr, hZ⟩, hJ⟩ := h
  intro H locs ls hL hW hS
  exact lv_istore hx hb d hL (by rw [hml]; exact hn) hl (fun ls' hl' => hk H locs ls' hl' hW hS)
theorem j_lstore_n (h : EnvJ κ own cc nL lev sa sv) {kk : Fin 4} {i : Nat} {x : Int64} {lv' : List (Nat × Value)} (d : decode cc pc = .ok (.lstore_n kk, 1)) (hi : (kk : Nat) = i) (hn : i + 1 < nL) (hl : (i, Value.long x) :: lv.filter (fun q => !(q.1 == i) && (!(q.1 == i + 1) && !(q.1 + 1 == i && q.2.category == 2))) = lv') (hk : Wj κ μ (pc + 1) lv' st) : Wj κ μ pc lv (.long x :: st) := by
  obtain ⟨p, l, e, R, s, m, args, below, meth, c, cells, slots, Q, cA, D, b0, Hs⟩ := κ
  obtain ⟨⟨⟨hx, hb, hml, hown, hts, hlk, hK, hb0, hfr, hlo, hc1, hs1⟩, htr, hZ⟩, hJ⟩ := h
  intro H locs ls hL hW hS
  exact lv_lstore_n hx hb d hi hL (by rw [hml]; exact hn) hl (fun ls' hl' => hk H locs ls' hl' hW hS)
theorem j_iinc (h : EnvJ κ own cc nL lev sa sv) {i k : Nat} {n : Int} {x v : Int32} {lv' : List (Nat × Value)} (d : decode cc pc = .ok (.iinc i n, 3)) (q : lv[k]? = some (i, .int x)) (hv : x + Int32.ofInt n = v) (hn : i < nL) (hl : (i, Value.int v) :: lv.filter (fun q => !(q.1 == i) && !(q.1 + 1 == i && q.2.category == 2)) = lv') (hk : Wj κ μ (pc + 3) lv' st) : Wj κ μ pc lv st := by
  obtain ⟨p, l, e, R, s, m, args, below, meth, c, cells, slots, Q, cA, D, b0, Hs⟩ := κ
  obtain ⟨⟨⟨hx, hb, hml, hown, hts, hlk, hK, hb0, hfr, hlo, hc1, hs1⟩, htr, hZ⟩, hJ⟩ := h
  intro H locs ls hL hW hS
  exact lv_iinc hx hb d hL q hv (by rw [hml]; exact hn) hl (fun ls' hl' => hk H locs ls' hl' hW hS)
theorem j_goto (h : EnvJ κ own cc nL lev sa sv) {off : Int} {tgt : Nat} (d : decode cc pc = .ok (.goto off, 3)) (ht : (pc : Int) + off = (tgt : Int)) (hk : Wj κ μ tgt lv st) : Wj κ μ pc lv st := by
  obtain ⟨p, l, e, R, s, m, args, below, meth, c, cells, slots, Q, cA, D, b0, Hs⟩ := κ
  obtain ⟨⟨⟨hx, hb, hml, hown, hts, hlk, hK, hb0, hfr, hlo, hc1, hs1⟩, htr, hZ⟩, hJ⟩ := h
  intro H locs ls hL hW hS
  exact lv_goto hx hb d ht (hk H locs ls hL hW hS)
theorem j_if_eq (h : EnvJ κ own cc nL lev sa sv) {x : Int32} {off : Int} {tgt : Nat} (d : decode cc pc = .ok (.ifCond .eq off, 3)) (ht : (pc : Int) + off = (tgt : Int)) (kt : x = 0 → Wj κ μ tgt lv st) (kf : ¬ x = 0 → Wj κ μ (pc + 3) lv st) : Wj κ μ pc lv (.int x :: st) := by
  obtain ⟨p, l, e, R, s, m, args, below, meth, c, cells, slots, Q, cA, D, b0, Hs⟩ := κ
  obtain ⟨⟨⟨hx, hb, hml, hown, hts, hlk, hK, hb0, hfr, hlo, hc1, hs1⟩, htr, hZ⟩, hJ⟩ := h
  intro H locs ls hL hW hS
  exact lv_if_eq hx hb d ht (fun z => kt z H locs ls hL hW hS) (fun z => kf z H locs ls hL hW hS)
theorem j_if_ne (h : EnvJ κ own cc nL lev sa sv) {x : Int32} {off : Int} {tgt : Nat} (d : decode cc pc = .ok (.ifCond .ne off, 3)) (ht : (pc : Int) + off = (tgt : Int)) (kt : ¬ x = 0 → Wj κ μ tgt lv st) (kf : x = 0 → Wj κ μ (pc + 3) lv st) : Wj κ μ pc lv (.int x :: st) := by
  obtain ⟨p, l, e, R, s, m, args, below, meth, c, cells, slots, Q, cA, D, b0, Hs⟩ := κ
  obtain ⟨⟨⟨hx, hb, hml, hown, hts, hlk, hK, hb0, hfr, hlo, hc1, hs1⟩, htr, hZ⟩, hJ⟩ := h
  intro H locs ls hL hW hS
  exact lv_if_ne hx hb d ht (fun z => kt z H locs ls hL hW hS) (fun z => kf z H locs ls hL hW hS)
theorem j_if_lt (h : EnvJ κ own cc nL lev sa sv) {x : Int32} {off : Int} {tgt : Nat} (d : decode cc pc = .ok (.ifCond .lt off, 3)) (ht : (pc : Int) + off = (tgt : Int)) (kt : x < 0 → Wj κ μ tgt lv st) (kf : ¬ x < 0 → Wj κ μ (pc + 3) lv st) : Wj κ μ pc lv (.int x :: st) := by
  obtain ⟨p, l, e, R, s, m, args, below, meth, c, cells, slots, Q, cA, D, b0, Hs⟩ := κ
  obtain ⟨⟨⟨hx, hb, hml, hown, hts, hlk, hK, hb0, hfr, hlo, hc1, hs1⟩, htr, hZ⟩, hJ⟩ := h
  intro H locs ls hL hW hS
  exact lv_if_lt hx hb d ht (fun z => kt z H locs ls hL hW hS) (fun z => kf z H locs ls hL hW hS)
theorem j_icmp_lt (h : EnvJ κ own cc nL lev sa sv) {x y : Int32} {off : Int} {tgt : Nat} (d : decode cc pc = .ok (.if_icmp .lt off, 3)) (ht : (pc : Int) + off = (tgt : Int)) (kt : x < y → Wj κ μ tgt lv st) (kf : ¬ x < y → Wj κ μ (pc + 3) lv st) : Wj κ μ pc lv (.int y :: .int x :: st) := by
  obtain ⟨p, l, e, R, s, m, args, below, meth, c, cells, slots, Q, cA, D, b0, Hs⟩ := κ
  obtain ⟨⟨⟨hx, hb, hml, hown, hts, hlk, hK, hb0, hfr, hlo, hc1, hs1⟩, htr, hZ⟩, hJ⟩ := h
  intro H locs ls hL hW hS
  exact lv_icmp_lt hx hb d ht (fun z => kt z H locs ls hL hW hS) (fun z => kf z H locs ls hL hW hS)
theorem j_icmp_ge (h : EnvJ κ own cc nL lev sa sv) {x y : Int32} {off : Int} {tgt : Nat} (d : decode cc pc = .ok (.if_icmp .ge off, 3)) (ht : (pc : Int) + off = (tgt : Int)) (kt : y ≤ x → Wj κ μ tgt lv st) (kf : ¬ y ≤ x → Wj κ μ (pc + 3) lv st) : Wj κ μ pc lv (.int y :: .int x :: st) := by
  obtain ⟨p, l, e, R, s, m, args, below, meth, c, cells, slots, Q, cA, D, b0, Hs⟩ := κ
  obtain ⟨⟨⟨hx, hb, hml, hown, hts, hlk, hK, hb0, hfr, hlo, hc1, hs1⟩, htr, hZ⟩, hJ⟩ := h
  intro H locs ls hL hW hS
  exact lv_icmp_ge hx hb d ht (fun z => kt z H locs ls hL hW hS) (fun z => kf z H locs ls hL hW hS)
theorem j_icmp_ne (h : EnvJ κ own cc nL lev sa sv) {x y : Int32} {off : Int} {tgt : Nat} (d : decode cc pc = .ok (.if_icmp .ne off, 3)) (ht : (pc : Int) + off = (tgt : Int)) (kt : ¬ x = y → Wj κ μ tgt lv st) (kf : x = y → Wj κ μ (pc + 3) lv st) : Wj κ μ pc lv (.int y :: .int x :: st) := by
  obtain ⟨p, l, e, R, s, m, args, below, meth, c, cells, slots, Q, cA, D, b0, Hs⟩ := κ
  obtain ⟨⟨⟨hx, hb, hml, hown, hts, hlk, hK, hb0, hfr, hlo, hc1, hs1⟩, htr, hZ⟩, hJ⟩ := h
  intro H locs ls hL hW hS
  exact lv_icmp_ne hx hb d ht (fun z => kt z H locs ls hL hW hS) (fun z => kf z H locs ls hL hW hS)
theorem j_pop (h : EnvJ κ own cc nL lev sa sv) {x : Int32} (d : decode cc pc = .ok (.pop, 1)) (hk : Wj κ μ (pc + 1) lv st) : Wj κ μ pc lv (.int x :: st) := by
  obtain ⟨p, l, e, R, s, m, args, below, meth, c, cells, slots, Q, cA, D, b0, Hs⟩ := κ
  obtain ⟨⟨⟨hx, hb, hml, hown, hts, hlk, hK, hb0, hfr, hlo, hc1, hs1⟩, htr, hZ⟩, hJ⟩ := h
  intro H locs ls hL hW hS
  exact lv_pop hx hb d rfl (hk H locs ls hL hW hS)
theorem j_ishr (h : EnvJ κ own cc nL lev sa sv) {x y v : Int32} (d : decode cc pc = .ok (.ishr, 1)) (hv : x >>> (y &&& 31) = v) (hk : Wj κ μ (pc + 1) lv (.int v :: st)) : Wj κ μ pc lv (.int y :: .int x :: st) := by
  subst hv
  obtain ⟨p, l, e, R, s, m, args, below, meth, c, cells, slots, Q, cA, D, b0, Hs⟩ := κ
  obtain ⟨⟨⟨hx, hb, hml, hown, hts, hlk, hK, hb0, hfr, hlo, hc1, hs1⟩, htr, hZ⟩, hJ⟩ := h
  intro H locs ls hL hW hS
  exact lv_ishr hx hb d (hk H locs ls hL hW hS)
theorem j_iand (h : EnvJ κ own cc nL lev sa sv) {x y v : Int32} (d : decode cc pc = .ok (.iand, 1)) (hv : x &&& y = v) (hk : Wj κ μ (pc + 1) lv (.int v :: st)) : Wj κ μ pc lv (.int y :: .int x :: st) := by
  subst hv
  obtain ⟨p, l, e, R, s, m, args, below, meth, c, cells, slots, Q, cA, D, b0, Hs⟩ := κ
  obtain ⟨⟨⟨hx, hb, hml, hown, hts, hlk, hK, hb0, hfr, hlo, hc1, hs1⟩, htr, hZ⟩, hJ⟩ := h
  intro H locs ls hL hW hS
  exact lv_iand hx hb d (hk H locs ls hL hW hS)
theorem j_i2c (h : EnvJ κ own cc nL lev sa sv) {x v : Int32} (d : decode cc pc = .ok (.i2c, 1)) (hv : (x.toUInt32 % 65536).toInt32 = v) (hk : Wj κ μ (pc + 1) lv (.int v :: st)) : Wj κ μ pc lv (.int x :: st) := by
  obtain ⟨p, l, e, R, s, m, args, below, meth, c, cells, slots, Q, cA, D, b0, Hs⟩ := κ
  obtain ⟨⟨⟨hx, hb, hml, hown, hts, hlk, hK, hb0, hfr, hlo, hc1, hs1⟩, htr, hZ⟩, hJ⟩ := h
  intro H locs ls hL hW hS
  exact lv_i2c hx hb d hv (hk H locs ls hL hW hS)
theorem j_i2l (h : EnvJ κ own cc nL lev sa sv) {x : Int32} {v : Int64} (d : decode cc pc = .ok (.i2l, 1)) (hv : x.toInt64 = v) (hk : Wj κ μ (pc + 1) lv (.long v :: st)) : Wj κ μ pc lv (.int x :: st) := by
  obtain ⟨p, l, e, R, s, m, args, below, meth, c, cells, slots, Q, cA, D, b0, Hs⟩ := κ
  obtain ⟨⟨⟨hx, hb, hml, hown, hts, hlk, hK, hb0, hfr, hlo, hc1, hs1⟩, htr, hZ⟩, hJ⟩ := h
  intro H locs ls hL hW hS
  exact lv_i2l hx hb d hv (hk H locs ls hL hW hS)
theorem j_lshl (h : EnvJ κ own cc nL lev sa sv) {x v : Int64} {y : Int32} (d : decode cc pc = .ok (.lshl, 1)) (hv : x <<< (y.toInt64 &&& 63) = v) (hk : Wj κ μ (pc + 1) lv (.long v :: st)) : Wj κ μ pc lv (.int y :: .long x :: st) := by
  obtain ⟨p, l, e, R, s, m, args, below, meth, c, cells, slots, Q, cA, D, b0, Hs⟩ := κ
  obtain ⟨⟨⟨hx, hb, hml, hown, hts, hlk, hK, hb0, hfr, hlo, hc1, hs1⟩, htr, hZ⟩, hJ⟩ := h
  intro H locs ls hL hW hS
  exact lv_lshl hx hb d hv (hk H locs ls hL hW hS)
theorem j_lor (h : EnvJ κ own cc nL lev sa sv) {x y v : Int64} (d : decode cc pc = .ok (.lor, 1)) (hv : x ||| y = v) (hk : Wj κ μ (pc + 1) lv (.long v :: st)) : Wj κ μ pc lv (.long y :: .long x :: st) := by
  subst hv
  obtain ⟨p, l, e, R, s, m, args, below, meth, c, cells, slots, Q, cA, D, b0, Hs⟩ := κ
  obtain ⟨⟨⟨hx, hb, hml, hown, hts, hlk, hK, hb0, hfr, hlo, hc1, hs1⟩, htr, hZ⟩, hJ⟩ := h
  intro H locs ls hL hW hS
  exact lv_lor hx hb d (hk H locs ls hL hW hS)
theorem j_lcmp (h : EnvJ κ own cc nL lev sa sv) {x y : Int64} (d : decode cc pc = .ok (.lcmp, 1)) (hk : Wj κ μ (pc + 1) lv (.int (lg_cmp x y) :: st)) : Wj κ μ pc lv (.long y :: .long x :: st) := by
  obtain ⟨p, l, e, R, s, m, args, below, meth, c, cells, slots, Q, cA, D, b0, Hs⟩ := κ
  obtain ⟨⟨⟨hx, hb, hml, hown, hts, hlk, hK, hb0, hfr, hlo, hc1, hs1⟩, htr, hZ⟩, hJ⟩ := h
  intro H locs ls hL hW hS
  exact W.lcmp hx hb d (hk H locs ls hL hW hS)
theorem j_ret (h : EnvJ κ own cc nL lev sa sv) {ty : FieldType} {post : Option AV → MM → Prop} {x : Int} {v : Int32} (hr : RetOK κ (some ty) post) (hp : post (some (.inl x)) μ) (hv : v = jI x) (hn : narrow ty (.int v) = .int v) (d : decode cc pc = .ok (.ireturn, 1)) : Wj κ μ pc lv [.int v] := by
  subst hv
  obtain ⟨p, l, e, R, s, m, args, below, meth, c, cells, slots, Q, cA, D, b0, Hs⟩ := κ
  obtain ⟨⟨⟨hx, hb, hml, hown, hts, hlk, hK, hb0, hfr, hlo, hc1, hs1⟩, htr, hZ⟩, hJ⟩ := h
  intro H locs ls hL hW hS
  exact hr.2 _ _ _ (W.zret (v := jI x) hx hb hr.1 hn (fun t ht hWm => ⟨⟨some (.inl x), μ, rfl, hp, by rw [ht]; exact hW⟩, hS.F ht⟩) hS.2.2 d hlk)
theorem j_vret (h : EnvJ κ own cc nL lev sa sv) {post : Option AV → MM → Prop} (hr : RetOK κ none post) (hp : post none μ) (d : decode cc pc = .ok (.return_, 1)) : Wj κ μ pc lv [] := by
  obtain ⟨p, l, e, R, s, m, args, below, meth, c, cells, slots, Q, cA, D, b0, Hs⟩ := κ
  obtain ⟨⟨⟨hx, hb, hml, hown, hts, hlk, hK, hb0, hfr, hlo, hc1, hs1⟩, htr, hZ⟩, hJ⟩ := h
  intro H locs ls hL hW hS
  exact hr.2 _ _ _ (W.vret hx hb hr.1 (fun t ht hWm => ⟨⟨none, μ, rfl, hp, by rw [ht]; exact hW⟩, hS.F ht⟩) hS.2.2 d hlk)
/-- String.COMPACT_STRINGS -/
theorem j_compact (h : EnvJ κ own cc nL lev sa sv) {ix : Nat} (d : decode cc pc = .ok (.getstatic ix, 3)) (hl : Cond.fieldLink own ix "java/lang/String" "COMPACT_STRINGS" "Z" ∈ AW) (hk : Wj κ μ (pc + 3) lv (.int 1 :: st)) : Wj κ μ pc lv st := by
  obtain ⟨p, l, e, R, s, m, args, below, meth, c, cells, slots, Q, cA, D, b0, Hs⟩ := κ
  obtain ⟨⟨⟨hx, hb, hml, hown, hts, hlk, hK, hb0, hfr, hlo, hc1, hs1⟩, htr, hZ⟩, hJ⟩ := h
  intro H locs ls hL hW hS
  have hq : ∀ a : Nat, a < Hs.size → ¬ b0 ≤ a → s.heap[a]? = Hs[a]? := fun a _ ha => by rw [← hS.2.1 a (by omega) ha]; exact hW.2.2 a (by omega)
  obtain ⟨hZ1, hZ2, hZ3, hZ4, hZ5, hZ7, hZ8, hZ9, hZ10, hZ11⟩ := hZ
  exact va_gets hx hb (va_Z.kept hZ10 hq) hS hown (hts _ hl) (fun _ z => z) d (hk H locs ls hL hW hS)
/-- Preconditions.SIOOBE_FORMATTER: whatever it is -/
theorem j_form (h : EnvJ κ own cc nL lev sa sv) {ix : Nat} (d : decode cc pc = .ok (.getstatic ix, 3)) (hl : Cond.fieldLink own ix "jdk/internal/util/Preconditions" "SIOOBE_FORMATTER" "Ljava/util/function/BiFunction;" ∈ AW) (hk : ∀ v : Value, v.category = 1 → Wj κ μ (pc + 3) lv (v :: st)) : Wj κ μ pc lv st := by
  obtain ⟨p, l, e, R, s, m, args, below, meth, c, cells, slots, Q, cA, D, b0, Hs⟩ := κ
  obtain ⟨⟨⟨hx, hb, hml, hown, hts, hlk, hK, hb0, hfr, hlo, hc1, hs1⟩, htr, hZ⟩, hJ⟩ := h
  intro H locs ls hL hW hS
  have hq : ∀ a : Nat, a < Hs.size → ¬ b0 ≤ a → s.heap[a]? = Hs[a]? := fun a _ ha => by rw [← hS.2.1 a (by omega) ha]; exact hW.2.2 a (by omega)
  obtain ⟨hZ1, hZ2, hZ3, hZ4, hZ5, hZ7, hZ8, hZ9, hZ10, hZ11⟩ := hZ
  rcases hZ11 with h | ⟨t, h⟩
  · exact va_gets hx hb (va_Z.kept h hq) hS hown (hts _ hl) (fun _ z => z) d (hk .null rfl H locs ls hL hW hS)
  · exact va_gets hx hb (va_Z.kept h hq) hS hown (hts _ hl) (fun _ z => z) d (hk (.ref t) rfl H locs ls hL hW hS)
theorem j_coderF (h : EnvJ κ own cc nL lev sa sv) {ix i : Nat} (hi : i < 9) (d : decode cc pc = .ok (.getfield ix, 3)) (hl : Cond.fieldLink own ix "java/lang/String" "coder" "B" ∈ AW) (hk : Wj κ μ (pc + 3) lv (.int 0 :: st)) : Wj κ μ pc lv (.ref (sa i) :: st) := by
  obtain ⟨p, l, e, R, s, m, args, below, meth, c, cells, slots, Q, cA, D, b0, Hs⟩ := κ
  obtain ⟨⟨⟨hx, hb, hml, hown, hts, hlk, hK, hb0, hfr, hlo, hc1, hs1⟩, htr, hZ⟩, hJ⟩ := h
  intro H locs ls hL hW hS
  have hq : ∀ a : Nat, a < Hs.size → ¬ b0 ≤ a → s.heap[a]? = Hs[a]? := fun a _ ha => by rw [← hS.2.1 a (by omega) ha]; exact hW.2.2 a (by omega)
  exact vk_getf hx hb ((hJ.kept hq).1 i hi).2.1 hS hown (hts _ hl) (fun _ z => z) d (hk H locs ls hL hW hS)
theorem j_valueF (h : EnvJ κ own cc nL lev sa sv) {ix i : Nat} (hi : i < 9) (d : decode cc pc = .ok (.getfield ix, 3)) (hl : Cond.fieldLink own ix "java/lang/String" "value" "[B" ∈ AW) (hk : Wj κ μ (pc + 3) lv (.ref (sv i) :: st)) : Wj κ μ pc lv (.ref (sa i) :: st) := by
  obtain ⟨p, l, e, R, s, m, args, below, meth, c, cells, slots, Q, cA, D, b0, Hs⟩ := κ
  obtain ⟨⟨⟨hx, hb, hml, hown, hts, hlk, hK, hb0, hfr, hlo, hc1, hs1⟩, htr, hZ⟩, hJ⟩ := h
  intro H locs ls hL hW hS
  have hq : ∀ a : Nat, a < Hs.size → ¬ b0 ≤ a → s.heap[a]? = Hs[a]? := fun a _ ha => by rw [← hS.2.1 a (by omega) ha]; exact hW.2.2 a (by omega)
  exact vk_getf hx hb ((hJ.kept hq).1 i hi).2.2.1 hS hown (hts _ hl) (fun _ z => z) d (hk H locs ls hL hW hS)
theorem j_tlen (h : EnvJ κ own cc nL lev sa sv) {i : Nat} {v : Int32} (hi : i < 9) (hv : Int32.ofNat (strN.getD i 0) = v) (d : decode cc pc = .ok (.arraylength, 1)) (hk : Wj κ μ (pc + 1) lv (.int v :: st)) : Wj κ μ pc lv (.ref (sv i) :: st) := by
  obtain ⟨p, l, e, R, s, m, args, below, meth, c, cells, slots, Q, cA, D, b0, Hs⟩ := κ
  obtain ⟨⟨⟨hx, hb, hml, hown, hts, hlk, hK, hb0, hfr, hlo, hc1, hs1⟩, htr, hZ⟩, hJ⟩ := h
  intro H locs ls hL hW hS
  have hq : ∀ a : Nat, a < Hs.size → ¬ b0 ≤ a → s.heap[a]? = Hs[a]? := fun a _ ha => by rw [← hS.2.1 a (by omega) ha]; exact hW.2.2 a (by omega)
  exact va_tlen hx hb ((hJ.kept hq).1 i hi).2.2.2 hS hv d (hk H locs ls hL hW hS)
theorem j_tb (h : EnvJ κ own cc nL lev sa sv) {i : Nat} {j v : Int32} (hi : i < 9) (hin : vp_in j (strN.getD i 0)) (hv : (strB.getD i []).getD j.toNatClampNeg 0 = v) (d : decode cc pc = .ok (.baload, 1)) (hk : Wj κ μ (pc + 1) lv (.int v :: st)) : Wj κ μ pc lv (.int j :: .ref (sv i) :: st) := by
  obtain ⟨p, l, e, R, s, m, args, below, meth, c, cells, slots, Q, cA, D, b0, Hs⟩ := κ
  obtain ⟨⟨⟨hx, hb, hml, hown, hts, hlk, hK, hb0, hfr, hlo, hc1, hs1⟩, htr, hZ⟩, hJ⟩ := h
  intro H locs ls hL hW hS
  have hq : ∀ a : Nat, a < Hs.size → ¬ b0 ≤ a → s.heap[a]? = Hs[a]? := fun a _ ha => by rw [← hS.2.1 a (by omega) ha]; exact hW.2.2 a (by omega)
  exact va_tb hx hb ((hJ.kept hq).1 i hi).2.2.2 hS hin (by rw [hv]) d (hk H locs ls hL hW hS)
/-- a call of a method of one of the claim's words -/
theorem j_callV (h : EnvJ κ own cc nL lev sa sv) {ix na i maxL lev' : Nat} {y : MethodName} {bytes : ByteArray} {ret : Option FieldType} {vs : (Nat → Nat) → (Nat → Nat) → List Value} {r : Option AV} {A st' : List Value} (d : decode cc pc = .ok (.invokevirtual ix, 3)) (hM : ∀ l : Launch, l.stackTraces = false → MetJ l y bytes maxL ret lev' vs r) (hlev : lev' + 1 ≤ lev) (hy : MOK y bytes maxL ret na) (hv : VOK y) (hlink : Cond.methodLink own ix y ∈ AW) (hc : y.cls = "java/lang/String") (hi : i < 9) (hvs : vs sa sv = .ref (sa i) :: A) (hst : st' = A.reverse ++ .ref (sa i) :: st) (hna : A.length = na) (hcat : (st.map fun v => v.category).sum ≤ 8)
    (hk : ∀ b0 : Nat, Wj κ μ (pc + 3) lv ((r.map (tv b0)).toList ++ st)) : Wj κ μ pc lv st' := by
  subst hst
  obtain ⟨p, l, e, R, s, m, args, below, meth, c, cells, slots, Q, cA, D, b0, Hs⟩ := κ
  obtain ⟨⟨⟨hx, hb, hml, hown, hts, hlk, hK, hb0, hfr, hlo, hc1, hs1⟩, htr, hZ⟩, hJ⟩ := h
  obtain ⟨y1, y2, y3, y4, y5⟩ := hy
  intro H locs ls hL hW hS
  have hq : ∀ a : Nat, a < Hs.size → ¬ b0 ≤ a → s.heap[a]? = Hs[a]? := fun a _ ha => by rw [← hS.2.1 a (by omega) ha]; exact hW.2.2 a (by omega)
  refine bind_call (K := fun r' μ' => r' = r ∧ μ' = μ) hb0 (va_runV (As := A) (rest := st) (b := sa i) (own := own) (Ts := AW) (C := y.cls) (n := na) ⟨hx, hb, rfl, hown, hts⟩ (hM l htr cA D b0 Hs sa sv μ _ ⟨rfl, rfl⟩)
      (cwV (ws' := AW) na hts (goodIn_ap2 (ha_wsV hlink hv y2) (AWm_good y1)) rfl rfl rfl ⟨rfl, y3⟩ ⟨by rw [hfr]; exact hlev, by rw [hlo]; show 8 + (maxL + 11) + 40 * lev' ≤ 40 * lev; omega⟩)
      ⟨PcJ_blind, by rw [hc]; exact vk_recv (hJ.kept hq) hi hS, fun U hU hWm => ⟨by rw [hvs], by rw [hU]; exact hW, hZ.warm hWm, hJ.moved hWm.alike⟩⟩ rfl hna (hL.1.trans rfl) rfl (lv_room hcat) d ⟨hc1, hs1⟩) hS (fun v μ' H1 locs1 hk1 hW1 hS1 => ?_)
  obtain ⟨rfl, rfl⟩ := hk1
  exact hk b0 H1 locs1 ls hL hW1 hS1
theorem j_callS (h : EnvJ κ own cc nL lev sa sv) {ix na maxL lev' : Nat} {y : MethodName} {bytes : ByteArray} {ret : Option FieldType} {vs : (Nat → Nat) → (Nat → Nat) → List Value} {r : Option AV} {A st' : List Value} (d : decode cc pc = .ok (.invokestatic ix, 3)) (hM : ∀ l : Launch, l.stackTraces = false → MetJ l y bytes maxL ret lev' vs r) (hlev : lev' + 1 ≤ lev) (hy : MOK y bytes maxL ret na) (hv : Cond.static y ∈ AW) (hlink : Cond.methodLink own ix y ∈ AW) (hvs : vs sa sv = A) (hst : st' = A.reverse ++ st) (hna : A.length = na) (hcat : (st.map fun v => v.category).sum ≤ 8)
    (hk : ∀ b0 : Nat, Wj κ μ (pc + 3) lv ((r.map (tv b0)).toList ++ st)) : Wj κ μ pc lv st' := by
  subst hst
  obtain ⟨p, l, e, R, s, m, args, below, meth, c, cells, slots, Q, cA, D, b0, Hs⟩ := κ
  obtain ⟨⟨⟨hx, hb, hml, hown, hts, hlk, hK, hb0, hfr, hlo, hc1, hs1⟩, htr, hZ⟩, hJ⟩ := h
  obtain ⟨y1, y2, y3, y4, y5⟩ := hy
  intro H locs ls hL hW hS
  refine bind_call (K := fun r' μ' => r' = r ∧ μ' = μ) hb0 (va_runS (As := A) (rest := st) (own := own) (Ts := AW) (n := na) ⟨hx, hb, rfl, hown, hts⟩ (hM l htr cA D b0 Hs sa sv μ _ ⟨rfl, rfl⟩)
      (va_cwS (ws' := AW) na hts (goodIn_ap2 (ha_wsS hlink hv y2) (AWm_good y1)) rfl rfl rfl y3 ⟨by rw [hfr]; exact hlev, by rw [hlo]; show 8 + (maxL + 11) + 40 * lev' ≤ 40 * lev; omega⟩)
      ⟨PcJ_blind, fun U hU hWm => ⟨by rw [hvs], by rw [hU]; exact hW, hZ.warm hWm, hJ.moved hWm.alike⟩⟩ rfl hna (hL.1.trans rfl) rfl (lv_room hcat) d ⟨hc1, hs1⟩) hS (fun v μ' H1 locs1 hk1 hW1 hS1 => ?_)
  obtain ⟨rfl, rfl⟩ := hk1
  exact hk b0 H1 locs1 ls hL hW1 hS1
theorem j_getI (h : EnvJ κ own cc nL lev sa sv) {ci k ix a : Nat} {C ref : String} {T : u_T} (d : decode cc pc = .ok (.getfield ix, 3)) (hc : ci < 11) (hcl : vwCl[ci]? = some (C, T, nf ci)) (hk9 : k < nf ci) (hf : fk ci k = 0 ∨ fk ci k = 3) (hin : ∀ w ∈ u_ws C T (nf ci), w ∈ AW) (href : (T k).1 = ref) (hw : Cond.fieldLink own ix ref (T k).2.1 (T k).2.2.1 ∈ AW) (ha : isK a ci) (hk : Wj κ μ (pc + 3) lv (.int (jI (μ.1 a k)) :: st)) : Wj κ μ pc lv (.ref (bK κ + a) :: st) := by
  obtain ⟨p, l, e, R, s, m, args, below, meth, c, cells, slots, Q, cA, D, b0, Hs⟩ := κ
  obtain ⟨⟨⟨hx, hb, hml, hown, hts, hlk, hK, hb0, hfr, hlo, hc1, hs1⟩, htr, hZ⟩, hJ⟩ := h
  intro H locs ls hL hW hS
  have hres := fv_i ha.2 hf (I := μ.1) (J := μ.2) (b0 := b0) (k := k)
  refine va_get (v := fv μ.1 μ.2 b0 a k) (rest := st) hx hb hts hin hown hK hW.2.1 a (PW_ob ha hc) hcl k hk9 (ref := ref) (hts _ hw) (fun z hz => by rw [← href]; exact hz) (fv_at hk9) d ?_
  rw [hres]
  exact hk H locs ls hL hW hS
theorem j_getL (h : EnvJ κ own cc nL lev sa sv) {ci k ix a : Nat} {C ref : String} {T : u_T} (d : decode cc pc = .ok (.getfield ix, 3)) (hc : ci < 11) (hcl : vwCl[ci]? = some (C, T, nf ci)) (hk9 : k < nf ci) (hf : fk ci k = 1) (hin : ∀ w ∈ u_ws C T (nf ci), w ∈ AW) (href : (T k).1 = ref) (hw : Cond.fieldLink own ix ref (T k).2.1 (T k).2.2.1 ∈ AW) (ha : isK a ci) (hk : Wj κ μ (pc + 3) lv (.long (jL (μ.2 a k)) :: st)) : Wj κ μ pc lv (.ref (bK κ + a) :: st) := by
  obtain ⟨p, l, e, R, s, m, args, below, meth, c, cells, slots, Q, cA, D, b0, Hs⟩ := κ
  obtain ⟨⟨⟨hx, hb, hml, hown, hts, hlk, hK, hb0, hfr, hlo, hc1, hs1⟩, htr, hZ⟩, hJ⟩ := h
  intro H locs ls hL hW hS
  have hres := fv_l ha.2 hf (I := μ.1) (J := μ.2) (b0 := b0) (k := k)
  refine va_get (v := fv μ.1 μ.2 b0 a k) (rest := st) hx hb hts hin hown hK hW.2.1 a (PW_ob ha hc) hcl k hk9 (ref := ref) (hts _ hw) (fun z hz => by rw [← href]; exact hz) (fv_at hk9) d ?_
  rw [hres]
  exact hk H locs ls hL hW hS
end
/-! the seven methods -/
theorem M_J0_coder (i : Nat) (hi : i < 9) : ∀ l : Launch, l.stackTraces = false → MetJ l yJ0_coder_7d493 cJ0_coder_7d493 1 (some .byte) 1 (fun sa _ => [.ref (sa i)]) (some (.inl 0)) := by
  refine metj_of (by decide +kernel) (fun _ _ => Nat.le_refl _) ?_
  intro κ sa sv μ post h hr hp
  exact j_compact h (dk D_J0_coder_7d493 0 rfl) f_J0_38 (j_if_eq h (tgt := 13) (dk D_J0_coder_7d493 1 rfl) (by decide) (fun z => absurd z (by decide)) (fun _ => j_aload_n h (k := 0) (dk D_J0_coder_7d493 2 rfl) rfl rfl (j_coderF h hi (dk D_J0_coder_7d493 3 rfl) f_J0_15 (j_goto h (tgt := 14) (dk D_J0_coder_7d493 4 rfl) (by decide) (j_ret h hr hp (by decide) rfl (dk D_J0_coder_7d493 6 rfl))))))
theorem len_ok : ∀ i < 9, Int32.ofNat (strN.getD i 0) >>> (jI 0 &&& 31) = jI (strN.getD i 0 : Nat) := by decide +kernel
theorem M_J0_length (i : Nat) (hi : i < 9) : ∀ l : Launch, l.stackTraces = false → MetJ l yJ0_length_8abf5 cJ0_length_8abf5 1 (some .int) 2 (fun sa _ => [.ref (sa i)]) (some (.inl (strN.getD i 0 : Nat))) := by
  refine metj_of (by decide +kernel) (fun _ _ => Nat.le_refl _) ?_
  intro κ sa sv μ post h hr hp
  exact j_aload_n h (k := 0) (dk D_J0_length_8abf5 0 rfl) rfl rfl (j_valueF h hi (dk D_J0_length_8abf5 1 rfl) f_J0_9 (j_tlen h hi rfl (dk D_J0_length_8abf5 2 rfl) (j_aload_n h (k := 0) (dk D_J0_length_8abf5 3 rfl) rfl rfl (j_callV (A := []) h (dk D_J0_length_8abf5 4 rfl) (M_J0_coder i hi) (by decide) m_J0_coder_7d493 v_J0_coder_7d493 k_J0_335 rfl hi rfl rfl rfl (by show 1 ≤ 8; decide) (fun b0 => j_ishr h (v := jI (strN.getD i 0 : Nat)) (dk D_J0_length_8abf5 5 rfl) (len_ok i hi) (j_ret h hr hp rfl rfl (dk D_J0_length_8abf5 6 rfl)))))))
theorem M_J0_isLatin1 (i : Nat) (hi : i < 9) : ∀ l : Launch, l.stackTraces = false → MetJ l yJ0_isLatin1_aae02 cJ0_isLatin1_aae02 1 (some .boolean) 1 (fun sa _ => [.ref (sa i)]) (some (.inl 1)) := by
  refine metj_of (by decide +kernel) (fun _ _ => Nat.le_refl _) ?_
  intro κ sa sv μ post h hr hp
  exact j_compact h (dk D_J0_isLatin1_aae02 0 rfl) f_J0_38 (j_if_eq h (tgt := 17) (dk D_J0_isLatin1_aae02 1 rfl) (by decide) (fun z => absurd z (by decide)) (fun _ => j_aload_n h (k := 0) (dk D_J0_isLatin1_aae02 2 rfl) rfl rfl (j_coderF h hi (dk D_J0_isLatin1_aae02 3 rfl) f_J0_15 (j_if_ne h (tgt := 17) (dk D_J0_isLatin1_aae02 4 rfl) (by decide) (fun z => absurd rfl z) (fun _ => j_iconst h (dk D_J0_isLatin1_aae02 5 rfl) rfl (j_goto h (tgt := 18) (dk D_J0_isLatin1_aae02 6 rfl) (by decide) (j_ret h hr hp (by decide) rfl (dk D_J0_isLatin1_aae02 8 rfl))))))))
theorem M_J3_checkIndex (x n : Int32) (F : Value) (h0 : ¬ x < 0) (h1 : x < n) (hF : F.category = 1) : ∀ l : Launch, l.stackTraces = false → MetJ l yJ3_checkIndex_8e157 cJ3_checkIndex_8e157 3 (some .int) 1 (fun _ _ => [.int x, .int n, F]) (some (.inl x.toInt)) := by
  refine metj_of (by decide +kernel) (fun _ _ => by rw [show lg_sl [Value.int x, Value.int n, F] = [Slot.val (.int x)] ++ ([Slot.val (.int n)] ++ ((if F.category = 2 then [Slot.val F, Slot.second] else [Slot.val F]) ++ [])) from rfl, if_neg (by omega)]; exact Nat.le_refl _) ?_
  intro κ sa sv μ post h hr hp
  exact j_iload_n h (k := 0) (dk D_J3_checkIndex_8e157 0 rfl) rfl rfl (j_if_lt h (tgt := 9) (dk D_J3_checkIndex_8e157 1 rfl) (by decide) (fun z => absurd z h0) (fun _ => j_iload_n h (k := 0) (dk D_J3_checkIndex_8e157 2 rfl) rfl rfl (j_iload_n h (k := 1) (dk D_J3_checkIndex_8e157 3 rfl) rfl rfl (j_icmp_lt h (tgt := 16) (dk D_J3_checkIndex_8e157 4 rfl) (by decide) (fun _ => j_iload_n h (k := 0) (dk D_J3_checkIndex_8e157 10 rfl) rfl rfl (j_ret h hr hp (Int32.ofInt_toInt x).symm rfl (dk D_J3_checkIndex_8e157 11 rfl))) (fun z => absurd h1 z)))))
theorem M_J0_checkIndex (x n : Int32) (h0 : ¬ x < 0) (h1 : x < n) : ∀ l : Launch, l.stackTraces = false → MetJ l yJ0_checkIndex_df160 cJ0_checkIndex_df160 2 none 2 (fun _ _ => [.int x, .int n]) none := by
  refine metj_of (by decide +kernel) (fun _ _ => Nat.le_refl _) ?_
  intro κ sa sv μ post h hr hp
  exact j_iload_n h (k := 0) (dk D_J0_checkIndex_df160 0 rfl) rfl rfl (j_iload_n h (k := 1) (dk D_J0_checkIndex_df160 1 rfl) rfl rfl (j_form h (dk D_J0_checkIndex_df160 2 rfl) f_J0_1053 (fun F hF => j_callS (A := [.int x, .int n, F]) (st := []) h (dk D_J0_checkIndex_df160 3 rfl) (M_J3_checkIndex x n F h0 h1 hF) (by decide) m_J3_checkIndex_8e157 st_J3_checkIndex_8e157 k_J0_1059 rfl rfl rfl (by decide) (fun b0 => j_pop h (dk D_J0_checkIndex_df160 4 rfl) (j_vret h hr hp (dk D_J0_checkIndex_df160 5 rfl))))))
/-- the char at place k of word i -/
def chS (i k : Nat) : Int32 := (strB.getD i []).getD k 0
theorem ch_ok0 : ∀ i < 9, ∀ k < strN.getD i 0, ((chS i k &&& 255).toUInt32 % 65536).toInt32 = chS i k ∧ (chS i k).toUInt32.toUInt16.toUInt32.toInt32 = chS i k ∧ ¬ Int32.ofNat k < 0 ∧ Int32.ofNat k < Int32.ofNat (strN.getD i 0) ∧ (¬ (Int32.ofNat k < 0 ∨ strN.getD i 0 ≤ (Int32.ofNat k).toNatClampNeg)) ∧ (Int32.ofNat k).toNatClampNeg = k := by decide +kernel
theorem ch_ok (i : Nat) (hi : i < 9) (k : Nat) (hk : k < strN.getD i 0) : ((chS i k &&& 255).toUInt32 % 65536).toInt32 = chS i k ∧ narrow .char (.int (chS i k)) = .int (chS i k) ∧ ¬ Int32.ofNat k < 0 ∧ Int32.ofNat k < Int32.ofNat (strN.getD i 0) ∧ vp_in (Int32.ofNat k) (strN.getD i 0) ∧ (Int32.ofNat k).toNatClampNeg = k := by
  obtain ⟨a, b, c, d, e, f⟩ := ch_ok0 i hi k hk
  exact ⟨a, by show Value.int _ = _; rw [b], c, d, e, f⟩
theorem M_J1_charAt (i k : Nat) (hi : i < 9) (hk : k < strN.getD i 0) : ∀ l : Launch, l.stackTraces = false → MetJ l yJ1_charAt_3b067 cJ1_charAt_3b067 2 (some .char) 3 (fun _ sv => [.ref (sv i), .int (Int32.ofNat k)]) (some (.inl (chS i k).toInt)) := by
  obtain ⟨c1, c2, c3, c4, c5, c6⟩ := ch_ok i hi k hk
  refine metj_of (by decide +kernel) (fun _ _ => Nat.le_refl _) ?_
  intro κ sa sv μ post h hr hp
  exact j_iload_n h (k := 1) (dk D_J1_charAt_3b067 0 rfl) rfl rfl (j_aload_n h (k := 0) (dk D_J1_charAt_3b067 1 rfl) rfl rfl (j_tlen h hi rfl (dk D_J1_charAt_3b067 2 rfl) (j_callS (A := [.int (Int32.ofNat k), .int (Int32.ofNat (strN.getD i 0))]) (st := []) h (dk D_J1_charAt_3b067 3 rfl) (M_J0_checkIndex _ _ c3 c4) (by decide) m_J0_checkIndex_df160 st_J0_checkIndex_df160 k_J1_9 rfl rfl rfl (by decide) (fun b0 => j_aload_n h (k := 0) (dk D_J1_charAt_3b067 4 rfl) rfl rfl (j_iload_n h (k := 1) (dk D_J1_charAt_3b067 5 rfl) rfl rfl (j_tb h hi (v := chS i k) c5 (by rw [c6]; rfl) (dk D_J1_charAt_3b067 6 rfl) (j_sipush h (dk D_J1_charAt_3b067 7 rfl) (v := 255) (by decide) (j_iand h (dk D_J1_charAt_3b067 8 rfl) rfl (j_i2c h (v := chS i k) (dk D_J1_charAt_3b067 9 rfl) c1 (j_ret h hr hp (Int32.ofInt_toInt _).symm c2 (dk D_J1_charAt_3b067 10 rfl)))))))))))
theorem M_J0_charAt (i k : Nat) (hi : i < 9) (hk : k < strN.getD i 0) : ∀ l : Launch, l.stackTraces = false → MetJ l yJ0_charAt_5068e cJ0_charAt_5068e 2 (some .char) 4 (fun sa _ => [.ref (sa i), .int (Int32.ofNat k)]) (some (.inl (chS i k).toInt)) := by
  obtain ⟨c1, c2, c3, c4, c5, c6⟩ := ch_ok i hi k hk
  refine metj_of (by decide +kernel) (fun _ _ => Nat.le_refl _) ?_
  intro κ sa sv μ post h hr hp
  exact j_aload_n h (k := 0) (dk D_J0_charAt_5068e 0 rfl) rfl rfl (j_callV (A := []) (st := []) h (dk D_J0_charAt_5068e 1 rfl) (M_J0_isLatin1 i hi) (by decide) m_J0_isLatin1_aae02 v_J0_isLatin1_aae02 k_J0_492 rfl hi rfl rfl rfl (by decide) (fun b0 => j_if_eq h (tgt := 16) (dk D_J0_charAt_5068e 2 rfl) (by decide) (fun z => absurd z (by decide)) (fun _ => j_aload_n h (k := 0) (dk D_J0_charAt_5068e 3 rfl) rfl rfl (j_valueF h hi (dk D_J0_charAt_5068e 4 rfl) f_J0_9 (j_iload_n h (k := 1) (dk D_J0_charAt_5068e 5 rfl) rfl rfl (j_callS (A := [.ref (sv i), .int (Int32.ofNat k)]) (st := []) h (dk D_J0_charAt_5068e 6 rfl) (M_J1_charAt i k hi hk) (by decide) m_J1_charAt_3b067 st_J1_charAt_3b067 k_J0_495 rfl rfl rfl (by decide) (fun b0 => j_ret h hr hp rfl (by show narrow .char (.int (Int32.ofInt (chS i k).toInt)) = .int (Int32.ofInt (chS i k).toInt); rw [Int32.ofInt_toInt]; exact c2) (dk D_J0_charAt_5068e 7 rfl))))))))
/-! Text.isWord -/
def accS (i : Nat) : Nat → Int64
  | 0 => 0
  | k + 1 => (accS i k <<< ((8 : Int32).toInt64 &&& 63)) ||| (chS i k).toInt64
/-- the words as numbers, eight bits a letter -/
def wdL : List Int := [1886351988, 439855772532, 1952805485, 1801807216, 107144173680229, 1953063787, 1650549611, 111568023285348, 125780002955636]
theorem acc_ok : ∀ i < 9, accS i (strN.getD i 0) = jL (wdL.getD i 0) := by decide +kernel
theorem wdL_r : ∀ i < 9, R64 (wdL.getD i 0) := by decide +kernel
theorem ge_ok : ∀ i < 9, ∀ k < 7, (jI (strN.getD i 0 : Nat) ≤ Int32.ofNat k ↔ strN.getD i 0 ≤ k) := by decide +kernel
theorem inc_ok : ∀ k < 7, Int32.ofNat k + Int32.ofInt 1 = Int32.ofNat (k + 1) := by decide +kernel
theorem strN_le : ∀ i < 9, strN.getD i 0 ≤ 6 := by decide +kernel
/-- whether text a's token is word i -/
def isWv (i a : Nat) (μ : MM) : Int := if μ.1 a 5 = 1 ∧ μ.2 a 7 = wdL.getD i 0 then 1 else 0
theorem jI_ofT (x : Int32) : jI x.toInt = x := Int32.ofInt_toInt x
theorem isWord_end {κ : Kap} {lev : Nat} {sa sv : Nat → Nat} {μ : MM} {K : Option AV → MM → Prop} (h : EnvJ κ RX8 cX8_isWord 5 lev sa sv) (hr : RetOK κ (some .boolean) K) {i a : Nat} (hi : i < 9) (ha : isK a 8) (h1 : R32 (μ.1 a 5)) (h2 : μ.1 a 5 = 1 → R64 (μ.2 a 7)) (hK : K (some (.inl (isWv i a μ))) μ) (x : Value) : Wj κ μ 33 [(4, x), (2, .long (jL (wdL.getD i 0))), (0, .ref (bK κ + a)), (1, .ref (sa i))] [] := by
  have k0 : ∀ lv, ¬ (μ.1 a 5 = 1 ∧ μ.2 a 7 = wdL.getD i 0) → Wj κ μ 54 lv [] := fun lv hn => j_iconst h (dk D_X8_isWord 30 rfl) rfl (j_ret h hr (x := 0) (by rw [isWv, if_neg hn] at hK; exact hK) rfl rfl (dk D_X8_isWord 31 rfl))
  refine j_aload_n h (k := 2) (dk D_X8_isWord 19 rfl) rfl rfl (j_getI (T := TX8) (k := 5) h (dk D_X8_isWord 20 rfl) ck_X8 rfl fk_X8_5 (Or.inl rfl) in_X8 rfl f_X8_35 ha (j_iconst h (v := jI 1) (dk D_X8_isWord 21 rfl) rfl (j_icmp_ne h (tgt := 54) (dk D_X8_isWord 22 rfl) (by decide) (fun z => k0 _ (fun q => z (by rw [q.1]))) (fun z => ?_))))
  have e1 : μ.1 a 5 = 1 := (jI_eq h1 (by decide)).mp z
  refine j_aload_n h (k := 2) (dk D_X8_isWord 23 rfl) rfl rfl (j_getL (T := TX8) (k := 7) h (dk D_X8_isWord 24 rfl) ck_X8 rfl fk_X8_7 rfl in_X8 rfl f_X8_38 ha (j_lload_n h (k := 1) (dk D_X8_isWord 25 rfl) rfl rfl (j_lcmp h (dk D_X8_isWord 26 rfl) ?_)))
  rw [jL_cmp (h2 e1) (wdL_r i hi)]
  have hz : jI (cmpL (μ.2 a 7) (wdL.getD i 0)) = 0 ↔ μ.2 a 7 = wdL.getD i 0 := by
    unfold cmpL
    split
    · exact ⟨fun q => absurd q (by decide), fun q => by omega⟩
    · split
      · exact ⟨fun _ => by assumption, fun _ => rfl⟩
      · exact ⟨fun q => absurd q (by decide), fun q => by contradiction⟩
  refine j_if_ne h (tgt := 54) (dk D_X8_isWord 27 rfl) (by decide) (fun z => k0 _ (fun q => z (hz.mpr q.2))) (fun z => j_iconst h (dk D_X8_isWord 28 rfl) rfl (j_goto h (tgt := 55) (dk D_X8_isWord 29 rfl) (by decide) (j_ret h hr (x := 1) ?_ rfl rfl (dk D_X8_isWord 31 rfl))))
  rw [isWv, if_pos ⟨e1, hz.mp z⟩] at hK
  exact hK
theorem isWord_loop {κ : Kap} {sa sv : Nat → Nat} {μ : MM} {K : Option AV → MM → Prop} (h : EnvJ κ RX8 cX8_isWord 5 6 sa sv) (hr : RetOK κ (some .boolean) K) {i a : Nat} (hi : i < 9) (ha : isK a 8) (h1 : R32 (μ.1 a 5)) (h2 : μ.1 a 5 = 1 → R64 (μ.2 a 7)) (hK : K (some (.inl (isWv i a μ))) μ) : ∀ (n k : Nat), k + n = strN.getD i 0 → Wj κ μ 5 [(4, .int (Int32.ofNat k)), (2, .long (accS i k)), (0, .ref (bK κ + a)), (1, .ref (sa i))] [] := by
  intro n
  induction n with
  | zero =>
    intro k hkn
    have h6 := strN_le i hi
    refine j_iload h (k := 0) (dk D_X8_isWord 4 rfl) rfl (j_aload_n h (k := 3) (dk D_X8_isWord 5 rfl) rfl rfl (j_callV (A := []) (st := [.int (Int32.ofNat k)]) h (dk D_X8_isWord 6 rfl) (M_J0_length i hi) (by decide) m_J0_length_8abf5 v_J0_length_8abf5 k_X8_64 rfl hi rfl rfl rfl (Nat.le_of_ble_eq_true rfl) (fun b0 => j_icmp_ge h (tgt := 33) (dk D_X8_isWord 7 rfl) (by decide) (fun z => ?_) (fun z => absurd ((ge_ok i hi k (by omega)).mpr (by omega)) z))))
    have e : k = strN.getD i 0 := by omega
    subst e
    rw [acc_ok i hi]
    exact isWord_end h hr hi ha h1 h2 hK _
  | succ n ih =>
    intro k hkn
    have h6 := strN_le i hi
    refine j_iload h (k := 0) (dk D_X8_isWord 4 rfl) rfl (j_aload_n h (k := 3) (dk D_X8_isWord 5 rfl) rfl rfl (j_callV (A := []) (st := [.int (Int32.ofNat k)]) h (dk D_X8_isWord 6 rfl) (M_J0_length i hi) (by decide) m_J0_length_8abf5 v_J0_length_8abf5 k_X8_64 rfl hi rfl rfl rfl (Nat.le_of_ble_eq_true rfl) (fun b0 => j_icmp_ge h (tgt := 33) (dk D_X8_isWord 7 rfl) (by decide) (fun z => absurd ((ge_ok i hi k (by omega)).mp z) (by omega)) (fun z => ?_))))
    refine j_lload_n h (k := 1) (dk D_X8_isWord 8 rfl) rfl rfl (j_bipush h (v := 8) (dk D_X8_isWord 9 rfl) (by decide) (j_lshl h (dk D_X8_isWord 10 rfl) rfl (j_aload_n h (k := 3) (dk D_X8_isWord 11 rfl) rfl rfl (j_iload h (k := 0) (dk D_X8_isWord 12 rfl) rfl (j_callV (A := [.int (Int32.ofNat k)]) (st := [.long (accS i k <<< ((8 : Int32).toInt64 &&& 63))]) h (dk D_X8_isWord 13 rfl) (M_J0_charAt i k hi (by omega)) (by decide) m_J0_charAt_5068e v_J0_charAt_5068e k_X8_69 rfl hi rfl rfl rfl (Nat.le_of_ble_eq_true rfl) (fun b0 => ?_))))))
    refine j_i2l h (v := (chS i k).toInt64) (dk D_X8_isWord 14 rfl) (by rw [jI_ofT]) (j_lor h (v := accS i (k + 1)) (dk D_X8_isWord 15 rfl) rfl (j_lstore_n h (dk D_X8_isWord 16 rfl) rfl (by decide) rfl (j_iinc h (k := 1) (v := Int32.ofNat (k + 1)) (dk D_X8_isWord 17 rfl) rfl (inc_ok k (by omega)) (by decide) rfl (j_goto h (tgt := 5) (dk D_X8_isWord 18 rfl) (by decide) (ih (k + 1) (by omega))))))
theorem M_X8_isWord (i a : Nat) (hi : i < 9) (ha : isK a 8) (l : Launch) (htr : l.stackTraces = false) (cA : Nat → ClassId) (D : va_G) (b0 : Nat) (Hs : Heap) (sa sv : Nat → Nat) (μ : MM) (K : Option AV → MM → Prop) (h1 : R32 (μ.1 a 5)) (h2 : μ.1 a 5 = 1 → R64 (μ.2 a 7)) (hK : K (some (.inl (isWv i a μ))) μ) : Met l yX8_isWord (AWm yX8_isWord cX8_isWord 5 (some .boolean)) (rmL 6) (PcJ cA D b0 Hs sa sv [.ref (b0 + a), .ref (sa i)] μ) (QcM cA D b0 Hs K) 0 0 (fun q => b0 ≤ q) := by
  refine metj_raw (by decide +kernel) (Nat.le_of_ble_eq_true rfl) cA D b0 Hs sa sv μ K ?_ l htr
  intro κ h hr hb
  subst hb
  exact j_lconst h (dk D_X8_isWord 0 rfl) rfl (j_lstore_n h (dk D_X8_isWord 1 rfl) rfl (by decide) rfl (j_iconst h (v := Int32.ofNat 0) (dk D_X8_isWord 2 rfl) (by decide) (j_istore h (dk D_X8_isWord 3 rfl) (by decide) rfl (isWord_loop h hr hi ha h1 h2 hK _ 0 (Nat.zero_add _)))))
/-- 'ldc word; invokevirtual isWord' behind the text on the stack -/
def o_isW (i : Nat) (kk : PT) : PT := fun L st μ => match st with
  | .inr (.inr a) :: r => isK a 8 ∧ R32 (μ.1 a 5) ∧ (μ.1 a 5 = 1 → R64 (μ.2 a 7)) ∧ catS r ≤ 8 ∧ kk L (.inl (isWv i a μ) :: r) μ
  | _ => False
theorem s_isW {κ : Kap} {own : String} {cc : ByteArray} {nL lev : Nat} (h : Env1 κ own cc nL lev) {pc is ix i : Nat} {kk : PT} (d : decode cc pc = .ok (.ldc is, 2)) (d2 : decode cc (pc + 2) = .ok (.invokevirtual ix, 3)) (hs : (own, is, i) ∈ strL) (hi : i < 9) (hlev : 7 ≤ lev) (hlink : Cond.methodLink own ix yX8_isWord ∈ AW) (hk : Snd κ (pc + 5) kk) : Snd κ pc (o_isW i kk) := by
  obtain ⟨p, l, e, R, s, m, args, below, meth, c, cells, slots, Q, cA, D, b0, Hs⟩ := κ
  obtain ⟨⟨hx, hb, hml, hown, hts, hlk, hK, hb0, hfr, hlo, hc1, hs1⟩, htr, hZ⟩ := h
  obtain ⟨y1, y2, y3, y4, y5⟩ := m_X8_isWord
  intro L st μ H locs ls hB hL hW hS
  unfold o_isW at hB
  split at hB
  · rename_i a r
    obtain ⟨ha, h1, h2, h3, hB⟩ := hB
    obtain ⟨sa, sv, hz5, hz6⟩ := hZ.2.2.2.2.1
    refine va_ldcS hx hb hown (hz5 _ hs) d ?_
    refine bind_call (K := fun r' μ' => r' = some (.inl (isWv i a μ)) ∧ μ' = μ) hb0 (va_runV (As := [.ref (sa i)]) (rest := r.map (tv b0)) (b := b0 + a) (own := own) (Ts := AW) (C := yX8_isWord.cls) (n := 1) ⟨hx, hb, rfl, hown, hts⟩ (M_X8_isWord i a hi ha l htr cA D b0 Hs sa sv μ _ h1 h2 ⟨rfl, rfl⟩)
      (cwV (ws' := AW) 1 hts (goodIn_ap2 (ha_wsV hlink v_X8_isWord y2) (AWm_good y1)) rfl rfl rfl ⟨rfl, y3⟩ ⟨by rw [hfr]; exact hlev, by rw [hlo]; show 8 + (5 + 11) + 40 * 6 ≤ 40 * lev; omega⟩)
      ⟨PcJ_blind, va_recv hK hW.2.1 (rfl : vwCl[8]? = some (yX8_isWord.cls, TX8, nf 8)) (PW_ob ha ck_X8), fun U hU hWm => ⟨rfl, by rw [hU]; exact hW, hZ.warm hWm, hz6.moved hWm.alike⟩⟩ rfl rfl (hL.1.trans rfl) rfl (lv_room (by rw [catS_ok]; exact h3)) d2 ⟨hc1, hs1⟩) hS (fun v μ' H1 locs1 hk1 hW1 hS1 => ?_)
    obtain ⟨rfl, rfl⟩ := hk1
    exact hk L _ μ' H1 locs1 ls hB hL hW1 hS1
  · exact hB.elim

