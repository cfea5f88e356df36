/-! LAW 6b: its head, its switch and its loop (printed by a program) -/
section
variable {p : Program} {l : Launch} {e : Env} {s : State} {m : MethodId} {below : List Frame} {meth : Method} {c : Code} {H : Heap} {locs : List Loc} {cA : Nat → ClassId} {D : va_G} {b L : Nat} {xs : Nat → Int32} {ls : Array Slot}
abbrev lwT : List Nat := [192, 296, 352, 396, 440, 453, 466, 522, 590, 670, 738, 806, 874, 930, 943, 986, 1027, 1095, 1163, 1231, 1287, 1343, 1356, 1424, 1492, 1548, 1628, 1684, 1740, 1796, 1809, 1822, 1878, 1891]
abbrev lwO : Array Int := #[152, 256, 312, 356, 400, 413, 426, 482, 550, 630, 698, 766, 834, 890, 903, 946, 987, 1055, 1123, 1191, 1247, 1303, 1316, 1384, 1452, 1508, 1588, 1644, 1700, 1756, 1769, 1782, 1838, 1851]
theorem lwT_ok : ∀ q ∈ List.range 34, lwO[q]? = some ((lwT.getD q 1935 : Int) - 40) ∧ 40 ≤ lwT.getD q 1935 := by decide +kernel
abbrev rH : Prop := decode code 23 = .ok (.iload 4, 2) ∧ decode code 25 = .ok (.aload_n 0, 1) ∧ decode code 26 = .ok (.arraylength, 1) ∧ decode code 27 = .ok (.bipush 6, 2) ∧ decode code 29 = .ok (.isub, 1) ∧ decode code 30 = .ok (.if_icmp .gt 1911, 3) ∧ decode code 33 = .ok (.aload_n 0, 1) ∧ decode code 34 = .ok (.iload 4, 2) ∧ decode code 36 = .ok (.iaload, 1) ∧ decode code 37 = .ok (.bipush 63, 2) ∧ decode code 39 = .ok (.iand, 1) ∧ decode code 40 = .ok (.tableswitch 1895 0 33 lwO, 152) ∧ decode code 1935 = .ok (.iinc 4 6, 3) ∧ decode code 1938 = .ok (.goto (-1915), 3) ∧ decode code 1941 = .ok (.iconst 1, 1) ∧ decode code 1942 = .ok (.ireturn, 1)
theorem rH_ok : rH := by decide +kernel
/-- the loop's head: to the end, or to the switch -/
theorem lw_head (E : LE p l s m meth c b L xs cA D) {i0 cl sl : Nat} (hi0 : i0 ≤ 3072) (hc : cl ≤ 601024 ∧ sl ≤ 7293034) (hS : va_S (fun q => s.heap.size ≤ q) s.heap H locs) (hl : lv_has ls 9 (L5 b s.heap.size i0)) (kk : i0 + 6 ≤ L → W p l e room_1 s m #[Value.ref b] below meth c H locs cl sl (lw_Z below #[Value.ref b] s) (F0 m 33 ls [])) : W p l e room_1 s m #[Value.ref b] below meth c H locs cl sl (lw_Z below #[Value.ref b] s) (F0 m 23 ls []) := by
  obtain ⟨⟨hx9, hb, hr, hml, hown, hts0, hX, hbl, hlocks, hgv⟩, htr, hL, hK, hZ⟩ := id E
  obtain ⟨r0, r1, r2, r3, r4, r5, r6, r7, r8, r9, r10, r11, r12, r13, r14, r15⟩ := rH_ok
  refine lv_iload hx9 hb r0 (lv_at hl 0 rfl) ?_
  refine lv_aload_n hx9 hb r1 rfl (lv_at hl 4 rfl) ?_
  refine va_slen hx9 hb hX hbl (Nat.not_le.mpr hbl) hS r2 ?_
  refine lv_bipush (v := jI 6) hx9 hb r3 (bip_ok (by decide)) ?_
  refine lv_isub hx9 hb r4 ?_
  rw [show Int32.ofNat L = jI (L : Int) from (Int32.ofInt_eq_ofNat).symm, jI_sub]
  have hlt := jI_lt (x := (L : Int) - 6) (y := (i0 : Int)) ⟨by omega, by omega⟩ ⟨by omega, by omega⟩
  refine lv_icmp_gt (tgt := 1941) hx9 hb r5 (by decide) (fun _ => ?_) (fun q => kk ?_)
  · refine lv_iconst (v := 1) hx9 hb r14 (by decide) ?_
    refine va_forget (fun q hq => hS.2.2 q hq) ?_
    refine W.widen (k := 601024) (n := 7293034) hc.1 hc.2 ?_
    exact W.base (lw_ret (d0 := s.drawn) (Drawn.sameBut.refl s.drawn lw_cs) hx9 hb hr hlocks r15)
  · have h1 : ¬ (L : Int) - 6 < (i0 : Int) := fun z => q (hlt.mpr z)
    omega
/-- the switch -/
theorem lw_sw (E : LE p l s m meth c b L xs cA D) {i0 cl sl : Nat} (hi : i0 + 6 ≤ L) (hS : va_S (fun q => s.heap.size ≤ q) s.heap H locs) (hl : lv_has ls 9 (L5 b s.heap.size i0)) (kk : ∀ q : Nat, q < 34 → W p l e room_1 s m #[Value.ref b] below meth c H locs cl sl (lw_Z below #[Value.ref b] s) (F0 m (lwT.getD q 1935) ls [])) (kd : W p l e room_1 s m #[Value.ref b] below meth c H locs cl sl (lw_Z below #[Value.ref b] s) (F0 m 1935 ls [])) : W p l e room_1 s m #[Value.ref b] below meth c H locs cl sl (lw_Z below #[Value.ref b] s) (F0 m 33 ls []) := by
  obtain ⟨⟨hx9, hb, hr, hml, hown, hts0, hX, hbl, hlocks, hgv⟩, htr, hL, hK, hZ⟩ := id E
  obtain ⟨r0, r1, r2, r3, r4, r5, r6, r7, r8, r9, r10, r11, r12, r13, r14, r15⟩ := rH_ok
  refine lv_aload_n hx9 hb r6 rfl (lv_at hl 4 rfl) ?_
  refine lv_iload hx9 hb r7 (lv_at hl 0 rfl) ?_
  refine va_sld hx9 hb hX hbl (Nat.not_le.mpr hbl) hS (jI_in (n := L) (by omega) (by omega) (by omega)) r8 ?_
  rw [jI_cl ⟨by omega, by omega⟩, Int.toNat_natCast]
  refine lv_bipush (v := jI 63) hx9 hb r9 (bip_ok (by decide)) ?_
  refine lv_iand hx9 hb r10 ?_
  have hmk := jI_mask (xs i0).toInt (y := 63) (n := 6) (by decide) rfl
  rw [jI_back] at hmk
  rw [hmk]
  have g0 := Int.emod_nonneg (xs i0).toInt (show ((2 ^ 6 : Nat) : Int) ≠ 0 by decide)
  have g1 := Int.emod_lt_of_pos (xs i0).toInt (show (0 : Int) < ((2 ^ 6 : Nat) : Int) by decide)
  generalize (xs i0).toInt % ((2 ^ 6 : Nat) : Int) = v at g0 g1 ⊢
  have g1 : v < 64 := g1
  have ti : (jI v).toInt = v := jI_toInt ⟨by omega, by omega⟩
  by_cases hv : v < 34
  · obtain ⟨q, rfl⟩ : ∃ q : Nat, v = q := ⟨v.toNat, by omega⟩
    obtain ⟨o1, o2⟩ := lwT_ok q (List.mem_range.mpr (by omega))
    exact lv_tableIn (off := (lwT.getD q 1935 : Int) - 40) (tgt := lwT.getD q 1935) hx9 hb r11 (by rw [ti]; omega) (by rw [ti]; omega) (by rw [ti, show ((q : Int) - 0).toNat = q by omega]; exact o1) (by omega) (kk q (by omega))
  · exact lv_tableOut (tgt := 1935) hx9 hb r11 (by rw [ti]; right; omega) (by decide) kd
theorem LI.up {t : Nat} {μ : MM} {T : TS} (h : LI t μ T) (ht : t < 512) : LI (t + 1) μ T := ⟨h.1, h.2.1, h.2.2.1.up ht, h.2.2.2.1, h.2.2.2.2⟩
theorem lw_loop (E : LE p l s m meth c b L xs cA D) : ∀ (n t : Nat), t + n = 512 → ∀ {μ : MM} {T : TS} {H : Heap} {locs : List Loc} {ls : Array Slot}, LI t μ T → Wo cA D s.heap.size s.heap μ H → va_S (fun q => s.heap.size ≤ q) s.heap H locs → lv_has ls 9 (L5 b s.heap.size (6 * t)) → W p l e room_1 s m #[Value.ref b] below meth c H locs (356 + 4 * t) (80000 + 24 * t) (lw_Z below #[Value.ref b] s) (F0 m 23 ls []) := by
  obtain ⟨⟨hx9, hb, hr, hml, hown, hts0, hX, hbl, hlocks, hgv⟩, htr, hL, hK, hZ⟩ := id E
  obtain ⟨r0, r1, r2, r3, r4, r5, r6, r7, r8, r9, r10, r11, r12, r13, r14, r15⟩ := rH_ok
  intro n
  induction n with
  | zero =>
    intro t ht μ T H locs ls hI hW hS hl
    exact lw_head E (by omega) ⟨by omega, by omega⟩ hS hl (fun hi => absurd hi (by omega))
  | succ n ih =>
    intro t ht μ0 T H locs ls hI0 hW0 hS hl
    have ht5 : t < 512 := by omega
    have hend : ∀ N : Nat, N ≤ 4 → LEnd p l e s m below meth c b cA D t (6 * t) (356 + 4 * t + N) (80000 + 24 * t + 6 * N) := by
      intro N hN μ' T' H' locs' ls' hI' hW' hS' hl'
      refine lv_iinc (k := 0) (v := jI ((6 * (t + 1) : Nat) : Int)) (lv' := L5 b s.heap.size (6 * (t + 1))) hx9 hb r12 hl' rfl ((jI_add _ _).trans (congrArg jI (by omega))) (by decide) rfl (fun ls2 hl2 => ?_)
      refine lv_goto (tgt := 23) hx9 hb r13 (by decide) ?_
      refine W.widen (k := 356 + 4 * (t + 1)) (n := 80000 + 24 * (t + 1)) (by omega) (by omega) ?_
      exact ih (t + 1) (by omega) hI' hW' hS' hl2
    refine lw_head E (by omega) ⟨by omega, by omega⟩ hS hl (fun hi => ?_)
    obtain ⟨μ, hI, h9, hW⟩ := LI_n9 hI0 hW0
    refine lw_sw E hi hS hl (fun q hq => ?_) (hend 0 (by omega) μ T H locs ls (hI.up ht5) hW hS hl)
    match q, hq with
    | 0, _ => exact cs_feed E hI ht5 h9 hi ⟨by omega, by omega⟩ hW hS hl (hend 1 (by decide))
    | 1, _ => exact cs_truncate E hI ht5 h9 hi ⟨by omega, by omega⟩ hW hS hl (hend 1 (by decide))
    | 2, _ => exact cs_readText E hI ht5 h9 hi ⟨by omega, by omega⟩ hW hS hl (hend 1 (by decide))
    | 3, _ => exact cs_runScript E hI ht5 h9 hi ⟨by omega, by omega⟩ hW hS hl (hend 1 (by decide))
    | 4, _ => exact cs_errorCode E hI ht5 ⟨by omega, by omega⟩ hW hS hl (hend 0 (by decide))
    | 5, _ => exact cs_errorPosition E hI ht5 ⟨by omega, by omega⟩ hW hS hl (hend 0 (by decide))
    | 6, _ => exact cs_setting E hI ht5 h9 hi ⟨by omega, by omega⟩ hW hS hl (hend 1 (by decide))
    | 7, _ => exact cs_port E hI ht5 h9 hi ⟨by omega, by omega⟩ hW hS hl (hend 2 (by decide))
    | 8, _ => exact cs_packet E hI ht5 h9 hi ⟨by omega, by omega⟩ hW hS hl (hend 3 (by decide))
    | 9, _ => exact cs_promise E hI ht5 h9 hi ⟨by omega, by omega⟩ hW hS hl (hend 2 (by decide))
    | 10, _ => exact cs_owed E hI ht5 h9 hi ⟨by omega, by omega⟩ hW hS hl (hend 2 (by decide))
    | 11, _ => exact cs_drop E hI ht5 h9 hi ⟨by omega, by omega⟩ hW hS hl (hend 1 (by decide))
    | 12, _ => exact cs_dropsBy E hI ht5 h9 hi ⟨by omega, by omega⟩ hW hS hl (hend 1 (by decide))
    | 13, _ => exact cs_mostCharged E hI ht5 ⟨by omega, by omega⟩ hW hS hl (hend 0 (by decide))
    | 14, _ => exact lw_C E hI ht5 ⟨by omega, by omega⟩ hW hS hl (hend 0 (by decide))
    | 15, _ => exact lw_D E hI ht5 ⟨by omega, by omega⟩ hW hS hl (hend 0 (by decide))
    | 16, _ => exact cs_wouldBorrow E hI ht5 h9 hi ⟨by omega, by omega⟩ hW hS hl (hend 2 (by decide))
    | 17, _ => exact cs_wouldCall E hI ht5 h9 hi ⟨by omega, by omega⟩ hW hS hl (hend 2 (by decide))
    | 18, _ => exact cs_wouldDrop E hI ht5 h9 hi ⟨by omega, by omega⟩ hW hS hl (hend 2 (by decide))
    | 19, _ => exact cs_greatest E hI ht5 h9 hi ⟨by omega, by omega⟩ hW hS hl (hend 1 (by decide))
    | 20, _ => exact cs_dropsIn E hI ht5 h9 hi ⟨by omega, by omega⟩ hW hS hl (hend 1 (by decide))
    | 21, _ => exact cs_emptyIn E hI ht5 ⟨by omega, by omega⟩ hW hS hl (hend 0 (by decide))
    | 22, _ => exact cs_sentIn E hI ht5 h9 hi ⟨by omega, by omega⟩ hW hS hl (hend 2 (by decide))
    | 23, _ => exact cs_arrive E hI ht5 h9 hi ⟨by omega, by omega⟩ hW hS hl (hend 2 (by decide))
    | 24, _ => exact cs_tick E hI ht5 h9 hi ⟨by omega, by omega⟩ hW hS hl (hend 1 (by decide))
    | 25, _ => exact cs_giveBack E hI ht5 h9 hi ⟨by omega, by omega⟩ hW hS hl (hend 4 (by decide))
    | 26, _ => exact cs_extend E hI ht5 h9 hi ⟨by omega, by omega⟩ hW hS hl (hend 2 (by decide))
    | 27, _ => exact cs_setTerm E hI ht5 h9 hi ⟨by omega, by omega⟩ hW hS hl (hend 1 (by decide))
    | 28, _ => exact cs_setKeep E hI ht5 h9 hi ⟨by omega, by omega⟩ hW hS hl (hend 1 (by decide))
    | 29, _ => exact cs_undo E hI ht5 ⟨by omega, by omega⟩ hW hS hl (hend 0 (by decide))
    | 30, _ => exact cs_report E hI ht5 ⟨by omega, by omega⟩ hW hS hl (hend 0 (by decide))
    | 31, _ => exact cs_reportByte E hI ht5 h9 hi ⟨by omega, by omega⟩ hW hS hl (hend 1 (by decide))
    | 32, _ => exact cs_save E hI ht5 ⟨by omega, by omega⟩ hW hS hl (hend 0 (by decide))
    | 33, _ => exact cs_restore E hI ht5 h9 hi ⟨by omega, by omega⟩ hW hS hl (hend 1 (by decide))
    | q + 34, hq => exact absurd hq (by omega)
end
