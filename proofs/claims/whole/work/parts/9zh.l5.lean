/-! LAW 5: the kinds of calls -/
abbrev L5 (b b0 i0 : Nat) : List (Nat × Value) := [(4, .int (jI (i0 : Int))), (3, .ref (b0 + 355)), (2, .ref (b0 + 348)), (1, .ref b0), (0, .ref b)]
abbrev rA1 (N hx : Nat) : Prop := decode code N = .ok (.aload_n 3, 1) ∧ decode code (N + 1) = .ok (.invokestatic hx, 3) ∧ decode code (N + 4) = .ok (.istore 5, 2) ∧ decode code (N + 6) = .ok (.aload_n 2, 1)
abbrev rA2 (N mx : Nat) : Prop := decode code N = .ok (.invokevirtual mx, 3) ∧ decode code (N + 3) = .ok (.istore 6, 2) ∧ decode code (N + 5) = .ok (.aload_n 2, 1) ∧ decode code (N + 6) = .ok (.invokevirtual 105, 3) ∧ decode code (N + 9) = .ok (.iload 5, 2) ∧ decode code (N + 11) = .ok (.if_icmp .eq 5, 3)
abbrev rA3 (N : Nat) (off : Int) : Prop := decode code (N + 16) = .ok (.iload 5, 2) ∧ decode code (N + 18) = .ok (.ifCond .ne 15, 3) ∧ decode code (N + 21) = .ok (.aload_n 3, 1) ∧ decode code (N + 22) = .ok (.iconst 0, 1) ∧ decode code (N + 23) = .ok (.laload, 1) ∧ decode code (N + 24) = .ok (.iload 6, 2) ∧ decode code (N + 26) = .ok (.i2l, 1) ∧ decode code (N + 27) = .ok (.lcmp, 1) ∧ decode code (N + 28) = .ok (.ifCond .eq 5, 3) ∧ decode code (N + 33) = .ok (.goto off, 3)
theorem lg_self (x : Int64) : lg_cmp x x = 0 := by
  unfold lg_cmp
  simp
section
variable {p : Program} {l : Launch} {e : Env} {s : State} {m : MethodId} {below : List Frame} {meth : Method} {c : Code} {H : Heap} {locs : List Loc} {cA : Nat → ClassId} {D : va_G} {b L : Nat} {xs : Nat → Int32} {ls : Array Slot}
/-- behind a call: what is asked of the loop -/
def LEnd (p : Program) (l : Launch) (e : Env) (s : State) (m : MethodId) (below : List Frame) (meth : Method) (c : Code) (b : Nat) (cA : Nat → ClassId) (D : va_G) (t i0 cl sl : Nat) : Prop := ∀ (μ' : MM) (T' : TS) (H' : Heap) (locs' : List Loc) (ls' : Array Slot), LI (t + 1) μ' T' → Wo cA D s.heap.size s.heap μ' H' → va_S (fun q => s.heap.size ≤ q) s.heap H' locs' → lv_has ls' 9 (L5 b s.heap.size i0) → W p l e room_1 s m #[Value.ref b] below meth c H' locs' cl sl (lw_Z below #[Value.ref b] s) (F0 m 1935 ls' [])
theorem LE.hts (E : LE p l s m meth c b L xs cA D) : ∀ w ∈ AW, w.before #[Value.ref b] s = true := fun w hw => E.1.2.2.2.2.2.1 w (List.mem_filter.mp hw).1
/-- a call of an object's method that throws nothing -/
theorem lw_callV (E : LE p l s m meth c b L xs cA D) {cl sl pc ix na ci maxL lev a : Nat} {y : MethodName} {T : u_T} {NN : Nat} {bytes : ByteArray} {ret : Option FieldType} {wp : List AV → MM → (Option AV → MM → Prop) → Prop} {Q : State → Prop} (d : decode code pc = .ok (.invokevirtual ix, 3)) (hM : ∀ l : Launch, l.stackTraces = false → MetM l y bytes maxL ret lev wp) (hlev : lev ≤ 12) (hy : MOK y bytes maxL ret na) (hv : VOK y) (hlink : Cond.methodLink RL ix y ∈ AW) (hc : ci < 11) (hcl : vwCl[ci]? = some (y.cls, T, NN)) (g1 : isK a ci) (As : List AV) (hA : As.length = na) {V : List Value} (hV : (V.map fun v => v.category).sum ≤ 8) {μ : MM} {K : Option AV → MM → Prop} (g3 : wp (.inr (.inr a) :: As) μ K) (hls : ls.size = 9) (hW : Wo cA D s.heap.size s.heap μ H) (hS : va_S (fun q => s.heap.size ≤ q) s.heap H locs) (hc1 : cl ≤ 601024 ∧ sl ≤ 7293034) {st : List Value} (hst : st = (As.map (tv s.heap.size)).reverse ++ .ref (s.heap.size + a) :: V)
    (kk : ∀ (v : Option AV) (μ' : MM) (H1 : Heap) (locs1 : List Loc), K v μ' → Wo cA D s.heap.size s.heap μ' H1 → va_S (fun q => s.heap.size ≤ q) s.heap H1 locs1 → W p l e room_1 s m #[Value.ref b] below meth c H1 locs1 cl sl Q (F0 m (pc + 3) ls ((v.map (tv s.heap.size)).toList ++ V))) : W p l e room_1 s m #[Value.ref b] below meth c H locs cl sl Q (F0 m pc ls st) := by
  have hts := E.hts
  obtain ⟨⟨hx, hb, hr, hml, hown, hts0, hX, hbl, hlocks, hgv⟩, htr, hL, hK, hZ⟩ := E
  have hown : s.vm.findClass RL = some m.cls := hown
  obtain ⟨y1, y2, y3, y4, y5⟩ := hy
  subst hst
  exact bind_call (Nat.le_refl _) (va_runV (As := As.map (tv s.heap.size)) (rest := V) (b := s.heap.size + a) (own := RL) (Ts := AW) (C := y.cls) (n := na) ⟨hx, hb, hml, hown, hts⟩ (hM l htr cA D s.heap.size s.heap _ μ _ g3)
      (cwV (ws' := AW) na hts (goodIn_ap2 (ha_wsV hlink hv y2) (AWm_good y1)) rfl rfl rfl ⟨rfl, y3⟩ ⟨by show lev + 1 ≤ 14; omega, by show 8 + (maxL + 11) + 40 * lev ≤ 530; omega⟩)
      ⟨PcM_blind, va_recv hK hW.2.1 hcl (PW_ob g1 hc), fun U hU hWm => ⟨rfl, by rw [hU]; exact hW, hZ.warm hWm⟩⟩ rfl (by rw [List.length_map, hA]) hls rfl (lv_room hV) d ⟨by show cl + 0 ≤ 601024; omega, by show sl + 0 ≤ 7293034; omega⟩) hS kk
theorem lw_A (E : LE p l s m meth c b L xs cA D) {t i0 cl sl N : Nat} {μ : MM} {ks : List Nat} {P N1 N2 hx mx : Nat} {off : Int} (e1 : P + 1 + 6 * ks.length = N1) (e2 : N1 + 7 + 6 * ks.length = N2) (hks : ∀ k ∈ ks, i0 + k < L)
    (r0 : decode code P = .ok (.aload_n 1, 1)) (r1 : Dscs (P + 1) ks) (r2 : rA1 N1 hx) (r3 : Dscs (N1 + 7) ks) (r4 : rA2 N2 mx) (r5 : rA3 N2 off) (hoff : ((N2 + 33 : Nat) : Int) + off = ((1935 : Nat) : Int))
    {yH : MethodName} {cH : ByteArray} {mlH levH : Nat} {hh : List (Nat × Nat × Nat × Nat)} {wH : List AV → MM → (Option AV → MM → Prop) → Prop} (MH : ∀ l : Launch, l.stackTraces = false → MetH l yH cH mlH (some .int) levH N hh wH) (lkH : Cond.methodLink RL hx yH ∈ AW) (stH : Cond.static yH ∈ AW) (wdH : Cond.codeWith yH cH mlH (some .int) hh ∈ AW) (iniH : Cond.initialized yH.cls ∈ AW) (dH : yH.cls ≠ "java/lang/invoke/MethodHandle" ∧ yH.cls ≠ "java/lang/invoke/VarHandle" ∧ (parseMethodDescriptor yH.desc).map (fun d => d.parameters.length) = some (ks.length + 2)) (rmH : levH ≤ 11 ∧ mlH ≤ 20)
    {yM : MethodName} {cM : ByteArray} {mlM levM : Nat} {wM : List AV → MM → (Option AV → MM → Prop) → Prop} {T2 : u_T} {N9 : Nat} (Mm : ∀ l : Launch, l.stackTraces = false → MetM l yM cM mlM (some .int) levM wM) (okM : MOK yM cM mlM (some .int) ks.length) (vM : VOK yM) (lkM : Cond.methodLink RL mx yM ∈ AW) (clM : vwCl[10]? = some (yM.cls, T2, N9)) (rmM : levM ≤ 12)
    (hc : cl + N ≤ 601024 ∧ sl + 6 * N ≤ 7293034) (hp : wH (.inr (.inr 0) :: (ks.map (fun k => (.inl (xs (i0 + k)).toInt : AV)) ++ [.inr (.inr 355)])) μ (LCK wM (.inr (.inr 348) :: ks.map (fun k => (.inl (xs (i0 + k)).toInt : AV))) t))
    (hW : Wo cA D s.heap.size s.heap μ H) (hS : va_S (fun q => s.heap.size ≤ q) s.heap H locs) (hl : lv_has ls 9 (L5 b s.heap.size i0)) (hE : LEnd p l e s m below meth c b cA D t i0 (cl + N) (sl + 6 * N)) : W p l e room_1 s m #[Value.ref b] below meth c H locs cl sl (lw_Z below #[Value.ref b] s) (F0 m P ls []) := by
  have hts := E.hts
  obtain ⟨⟨hx9, hb, hr, hml, hown, hts0, hX, hbl, hlocks, hgv⟩, htr, hL, hK, hZ⟩ := id E
  have hown : s.vm.findClass RL = some m.cls := hown
  refine lv_aload_n hx9 hb r0 rfl (lv_at hl 3 rfl) ?_
  refine lw_scrs hx9 hb hX hbl hS hL (lv_at hl 4 rfl) (lv_at hl 0 rfl) ks (P + 1) [.ref s.heap.size] hks r1 ?_
  rw [e1]
  refine lv_aload_n hx9 hb r2.1 rfl (lv_at hl 1 rfl) ?_
  have hstk : Value.ref (s.heap.size + 355) :: ((ks.map (fun k => Value.int (jI (xs (i0 + k)).toInt))).reverse ++ [Value.ref s.heap.size]) = (((.inr (.inr 0) :: (ks.map (fun k => (.inl (xs (i0 + k)).toInt : AV)) ++ [.inr (.inr 355)]) : List AV)).map (tv s.heap.size)).reverse ++ [] := by
    rw [List.append_nil, List.map_cons, List.reverse_cons, List.map_append, List.reverse_append, List.map_map]
    rfl
  refine bind_callN (mc := N) (ms := 6 * N) (Nat.le_refl _) (vx_runSW (As := ((.inr (.inr 0) :: (ks.map (fun k => (.inl (xs (i0 + k)).toInt : AV)) ++ [.inr (.inr 355)]) : List AV)).map (tv s.heap.size)) (rest := []) (own := RL) (Ts := AW) (n := ks.length + 2) ⟨hx9, hb, hml, hown, hts⟩ (MH l htr cA D s.heap.size s.heap _ μ _ hp)
      (vx_cwSW (ws' := AW) (ks.length + 2) hts (goodIn_ap2 (ha_wsS lkH stH iniH) (AWh_good wdH)) rfl rfl rfl dH ⟨by show levH + 1 ≤ 14; omega, by show 8 + (mlH + 11) + 40 * levH ≤ 530; omega⟩)
      ⟨PcM_blind, fun U hU hWm => ⟨rfl, by rw [hU]; exact hW, hZ.warm hWm⟩⟩ rfl (by rw [List.length_map, List.length_cons, List.length_append, List.length_map]; rfl) hl.1 hstk (lv_room (Nat.le_of_ble_eq_true rfl)) r2.2.1 hc) hS (fun r μ1 H1 locs1 hK1 hW1 hS1 => ?_)
  obtain ⟨k, rfl, hp2⟩ := hK1
  show W p l e room_1 s m #[Value.ref b] below meth c H1 locs1 (cl + N) (sl + 6 * N) (lw_Z below #[Value.ref b] s) (F0 m (N1 + 4) ls [.int (jI k)])
  refine lv_istore (lv' := (5, .int (jI k)) :: L5 b s.heap.size i0) hx9 hb r2.2.2.1 hl (by decide) rfl (fun ls hl => ?_)
  refine lv_aload_n hx9 hb r2.2.2.2 rfl (lv_at hl 3 rfl) ?_
  refine lw_scrs hx9 hb hX hbl hS1 hL (lv_at hl 5 rfl) (lv_at hl 1 rfl) ks (N1 + 7) [.ref (s.heap.size + 348)] hks r3 ?_
  rw [e2]
  refine lw_callV E (a := 348) (ci := 10) r4.1 Mm rmM okM vM lkM (by decide) clM hM (ks.map (fun k => (.inl (xs (i0 + k)).toInt : AV))) (by rw [List.length_map]) (V := []) (Nat.le_of_ble_eq_true rfl) hp2 hl.1 hW1 hS1 hc (by rw [List.map_map]; rfl) (fun r μ2 H2 locs2 hK2 hW2 hS2 => ?_)
  obtain ⟨v, rfl, h0, hor, T', hLI⟩ := hK2
  show W p l e room_1 s m #[Value.ref b] below meth c H2 locs2 (cl + N) (sl + 6 * N) (lw_Z below #[Value.ref b] s) (F0 m (N2 + 3) ls [.int (jI v)])
  refine lv_istore (lv' := (6, .int (jI v)) :: (5, .int (jI k)) :: L5 b s.heap.size i0) hx9 hb r4.2.1 hl (by decide) rfl (fun ls hl => ?_)
  refine lv_aload_n hx9 hb r4.2.2.1 rfl (lv_at hl 4 rfl) ?_
  refine lw_callV E (a := 348) (ci := 10) (K := fun r μ' => r = some (.inl (μ2.1 348 0)) ∧ μ' = μ2) r4.2.2.2.1 M_X10_thrown (by decide) m_X10_thrown v_X10_thrown k_L_105 (by decide) rfl hM [] rfl (V := []) (Nat.le_of_ble_eq_true rfl) (P_X10_thrown ⟨rfl, rfl⟩) hl.1 hW2 hS2 hc rfl (fun r μ3 H3 locs3 hK3 hW3 hS3 => ?_)
  obtain ⟨rfl, rfl⟩ := hK3
  show W p l e room_1 s m #[Value.ref b] below meth c H3 locs3 (cl + N) (sl + 6 * N) (lw_Z below #[Value.ref b] s) (F0 m (N2 + 9) ls [.int (jI (μ3.1 348 0))])
  refine lv_iload hx9 hb r4.2.2.2.2.1 (lv_at hl 1 rfl) ?_
  refine lv_icmp_eq (tgt := N2 + 16) hx9 hb r4.2.2.2.2.2 (by omega) (fun _ => ?_) (fun q => absurd (by rw [h0]) q)
  refine lv_iload hx9 hb r5.1 (lv_at hl 1 rfl) ?_
  have hend : W p l e room_1 s m #[Value.ref b] below meth c H3 locs3 (cl + N) (sl + 6 * N) (lw_Z below #[Value.ref b] s) (F0 m (N2 + 33) ls []) := lv_goto (tgt := 1935) hx9 hb r5.2.2.2.2.2.2.2.2.2 hoff (hE μ3 T' H3 locs3 ls hLI hW3 hS3 (lv_sub hl [2, 3, 4, 5, 6] rfl))
  refine lv_if_ne (tgt := N2 + 33) hx9 hb r5.2.1 (by omega) (fun _ => hend) (fun q => ?_)
  rcases hor with ⟨hk0, hJ⟩ | ⟨g1, g2⟩
  · refine lv_aload_n hx9 hb r5.2.2.1 rfl (lv_at hl 3 rfl) ?_
    refine lv_iconst (v := jI 0) hx9 hb r5.2.2.2.1 rfl ?_
    refine va_lald hx9 hb hK hW3.2.1 355 1 (PW_al h355) rfl (i := jI 0) (jI_in (n := ln 355) (by decide) (by rw [ln355]; decide) (by rw [ln355]; decide)) r5.2.2.2.2.1 ?_
    rw [show (jI 0).toNatClampNeg = 0 from jI_cl R32_0]
    show W p l e room_1 s m #[Value.ref b] below meth c H3 locs3 (cl + N) (sl + 6 * N) (lw_Z below #[Value.ref b] s) (F0 m (N2 + 24) ls [.long (jL (μ3.2 355 0))])
    rw [hJ]
    refine lv_iload hx9 hb r5.2.2.2.2.2.1 (lv_at hl 0 rfl) ?_
    refine lv_i2l (x := jI v) (v := jL (jI v).toInt) hx9 hb r5.2.2.2.2.2.2.1 (jI_lw v) ?_
    refine W.lcmp hx9 hb r5.2.2.2.2.2.2.2.1 ?_
    rw [lg_self]
    exact lv_if_eq (tgt := N2 + 33) hx9 hb r5.2.2.2.2.2.2.2.2.1 (by omega) (fun _ => hend) (fun q => absurd rfl q)
  · exfalso
    have h1 := (jI_eq (x := k) (y := 0) ⟨by omega, by omega⟩ R32_0).mp (q.trans jI_0.symm)
    omega
abbrev rB (P xi mi : Nat) (off : Int) : Prop := decode code P = .ok (.aload_n 1, 1) ∧ decode code (P + 1) = .ok (.invokevirtual xi, 3) ∧ decode code (P + 4) = .ok (.aload_n 2, 1) ∧ decode code (P + 5) = .ok (.invokevirtual mi, 3) ∧ decode code (P + 8) = .ok (.if_icmp .eq off, 3)
theorem lw_B (E : LE p l s m meth c b L xs cA D) {t i0 cl sl : Nat} {μ : MM} {P xi mi : Nat} {off : Int} (r : rB P xi mi off) (hoff : ((P + 8 : Nat) : Int) + off = ((1935 : Nat) : Int))
    {yC : MethodName} {cC : ByteArray} {mlC levC : Nat} {wC : List AV → MM → (Option AV → MM → Prop) → Prop} {T1 : u_T} {N1 : Nat} (Mc : ∀ l : Launch, l.stackTraces = false → MetM l yC cC mlC (some .int) levC wC) (okC : MOK yC cC mlC (some .int) 0) (vC : VOK yC) (lkC : Cond.methodLink RL xi yC ∈ AW) (clC : vwCl[9]? = some (yC.cls, T1, N1)) (rmC : levC ≤ 12)
    {yM : MethodName} {cM : ByteArray} {mlM levM : Nat} {wM : List AV → MM → (Option AV → MM → Prop) → Prop} {T2 : u_T} {N9 : Nat} (Mm : ∀ l : Launch, l.stackTraces = false → MetM l yM cM mlM (some .int) levM wM) (okM : MOK yM cM mlM (some .int) 0) (vM : VOK yM) (lkM : Cond.methodLink RL mi yM ∈ AW) (clM : vwCl[10]? = some (yM.cls, T2, N9)) (rmM : levM ≤ 12)
    (hc : cl ≤ 601024 ∧ sl ≤ 7293034) (hp : wC [.inr (.inr 0)] μ (LBK wM t)) (hW : Wo cA D s.heap.size s.heap μ H) (hS : va_S (fun q => s.heap.size ≤ q) s.heap H locs) (hl : lv_has ls 9 (L5 b s.heap.size i0)) (hE : LEnd p l e s m below meth c b cA D t i0 cl sl) : W p l e room_1 s m #[Value.ref b] below meth c H locs cl sl (lw_Z below #[Value.ref b] s) (F0 m P ls []) := by
  obtain ⟨⟨hx9, hb, hr, hml, hown, hts0, hX, hbl, hlocks, hgv⟩, htr, hL, hK, hZ⟩ := id E
  refine lv_aload_n hx9 hb r.1 rfl (lv_at hl 3 rfl) ?_
  refine lw_callV E (a := 0) (ci := 9) r.2.1 Mc rmC okC vC lkC (by decide) clC h0X [] rfl (V := []) (Nat.le_of_ble_eq_true rfl) hp hl.1 hW hS hc rfl (fun v1 μ1 H1 locs1 hK1 hW1 hS1 => ?_)
  obtain ⟨v, rfl, hp2⟩ := hK1
  show W p l e room_1 s m #[Value.ref b] below meth c H1 locs1 cl sl (lw_Z below #[Value.ref b] s) (F0 m (P + 4) ls [.int (jI v)])
  refine lv_aload_n hx9 hb r.2.2.1 rfl (lv_at hl 2 rfl) ?_
  refine lw_callV E (a := 348) (ci := 10) r.2.2.2.1 Mm rmM okM vM lkM (by decide) clM hM [] rfl (V := [.int (jI v)]) (by show 1 + 0 ≤ 8; decide) hp2 hl.1 hW1 hS1 hc rfl (fun v2 μ2 H2 locs2 hK2 hW2 hS2 => ?_)
  obtain ⟨rfl, T', hLI⟩ := hK2
  show W p l e room_1 s m #[Value.ref b] below meth c H2 locs2 cl sl (lw_Z below #[Value.ref b] s) (F0 m (P + 8) ls [.int (jI v), .int (jI v)])
  exact lv_icmp_eq (tgt := 1935) hx9 hb r.2.2.2.2 hoff (fun _ => hE μ2 T' H2 locs2 ls hLI hW2 hS2 hl) (fun q => absurd rfl q)
/-- a call that answers a float or a double -/
theorem lw_callF (E : LE p l s m meth c b L xs cA D) {cl sl pc ix ci maxL lev a : Nat} {y : MethodName} {T : u_T} {NN : Nat} {bytes : ByteArray} {ret : Option FieldType} {wp : List AV → MM → (Value → MM → Prop) → Prop} {Q : State → Prop} (d : decode code pc = .ok (.invokevirtual ix, 3)) (hM : ∀ l : Launch, l.stackTraces = false → MetV l y bytes maxL ret lev wp) (hlev : lev ≤ 12) (hy : MOK y bytes maxL ret 0) (hv : VOK y) (hlink : Cond.methodLink RL ix y ∈ AW) (hc : ci < 11) (hcl : vwCl[ci]? = some (y.cls, T, NN)) (g1 : isK a ci) {V : List Value} (hV : (V.map fun v => v.category).sum ≤ 8) {μ : MM} {K : Value → MM → Prop} (g3 : wp [.inr (.inr a)] μ K) (hls : ls.size = 9) (hW : Wo cA D s.heap.size s.heap μ H) (hS : va_S (fun q => s.heap.size ≤ q) s.heap H locs) (hc1 : cl ≤ 601024 ∧ sl ≤ 7293034)
    (kk : ∀ (v : Value) (μ' : MM) (H1 : Heap) (locs1 : List Loc), K v μ' → Wo cA D s.heap.size s.heap μ' H1 → va_S (fun q => s.heap.size ≤ q) s.heap H1 locs1 → W p l e room_1 s m #[Value.ref b] below meth c H1 locs1 cl sl Q (F0 m (pc + 3) ls (v :: V))) : W p l e room_1 s m #[Value.ref b] below meth c H locs cl sl Q (F0 m pc ls (.ref (s.heap.size + a) :: V)) := by
  have hts := E.hts
  obtain ⟨⟨hx, hb, hr, hml, hown, hts0, hX, hbl, hlocks, hgv⟩, htr, hL, hK, hZ⟩ := E
  have hown : s.vm.findClass RL = some m.cls := hown
  obtain ⟨y1, y2, y3, y4, y5⟩ := hy
  exact bind_callV (Nat.le_refl _) (va_runV (As := []) (rest := V) (b := s.heap.size + a) (own := RL) (Ts := AW) (C := y.cls) (n := 0) ⟨hx, hb, hml, hown, hts⟩ (hM l htr cA D s.heap.size s.heap _ μ _ g3)
      (cwV (ws' := AW) 0 hts (goodIn_ap2 (ha_wsV hlink hv y2) (AWm_good y1)) rfl rfl rfl ⟨rfl, y3⟩ ⟨by show lev + 1 ≤ 14; omega, by show 8 + (maxL + 11) + 40 * lev ≤ 530; omega⟩)
      ⟨PcM_blind, va_recv hK hW.2.1 hcl (PW_ob g1 hc), fun U hU hWm => ⟨rfl, by rw [hU]; exact hW, hZ.warm hWm⟩⟩ rfl rfl hls rfl (lv_room hV) d ⟨by show cl + 0 ≤ 601024; omega, by show sl + 0 ≤ 7293034; omega⟩) hS kk
abbrev rC : Prop := decode code 943 = .ok (.aload_n 1, 1) ∧ decode code 944 = .ok (.invokevirtual 154, 3) ∧ decode code 947 = .ok (.f2d, 1) ∧ decode code 948 = .ok (.dstore 5, 2) ∧ decode code 950 = .ok (.aload_n 2, 1) ∧ decode code 951 = .ok (.invokevirtual 158, 3) ∧ decode code 954 = .ok (.f2d, 1) ∧ decode code 955 = .ok (.dstore 7, 2) ∧ decode code 957 = .ok (.dload 5, 2) ∧ decode code 959 = .ok (.dload 7, 2) ∧ decode code 961 = .ok (.dcmp .l, 1) ∧ decode code 962 = .ok (.ifCond .eq 21, 3) ∧ decode code 983 = .ok (.goto 952, 3)
abbrev rD : Prop := decode code 986 = .ok (.aload_n 1, 1) ∧ decode code 987 = .ok (.invokevirtual 159, 3) ∧ decode code 990 = .ok (.dstore 5, 2) ∧ decode code 992 = .ok (.aload_n 2, 1) ∧ decode code 993 = .ok (.invokevirtual 163, 3) ∧ decode code 996 = .ok (.dstore 7, 2) ∧ decode code 998 = .ok (.dload 5, 2) ∧ decode code 1000 = .ok (.dload 7, 2) ∧ decode code 1002 = .ok (.dcmp .l, 1) ∧ decode code 1003 = .ok (.ifCond .eq 21, 3) ∧ decode code 1024 = .ok (.goto 911, 3)
theorem rC_ok : rC := by decide +kernel
theorem rD_ok : rD := by decide +kernel
theorem LI.flo {t : Nat} {μ : MM} {T : TS} (h : LI t μ T) (ht : t < 512) : LI (t + 1) (uM μ.1 348 0 0, μ.2) T := ⟨h.1.low (fun a ha => ⟨uM_r (by omega), rfl⟩), h.2.1.thr 0, h.2.2.1.up ht, h.2.2.2.1, h.2.2.2.2⟩
theorem lw_C (E : LE p l s m meth c b L xs cA D) {t i0 cl sl : Nat} {μ : MM} {T : TS} (h : LI t μ T) (ht : t < 512) (hc : cl ≤ 601024 ∧ sl ≤ 7293034) (hW : Wo cA D s.heap.size s.heap μ H) (hS : va_S (fun q => s.heap.size ≤ q) s.heap H locs) (hl : lv_has ls 9 (L5 b s.heap.size i0)) (hE : LEnd p l e s m below meth c b cA D t i0 cl sl) : W p l e room_1 s m #[Value.ref b] below meth c H locs cl sl (lw_Z below #[Value.ref b] s) (F0 m 943 ls []) := by
  obtain ⟨⟨hx9, hb, hr, hml, hown, hts0, hX, hbl, hlocks, hgv⟩, htr, hL, hK, hZ⟩ := id E
  obtain ⟨r0, r1, r2, r3, r4, r5, r6, r7, r8, r9, r10, r11, r12⟩ := rC_ok
  have hnn := f2d_nn (FSv_nn h.1.2.2.1.2.1)
  refine lv_aload_n hx9 hb r0 rfl (lv_at hl 3 rfl) ?_
  refine lw_callF E (a := 0) (ci := 9) (V := []) (K := fun r μ' => r = .float (FSv (tN T)) ∧ μ' = μ) r1 M_X9_lossShare (by decide) m_X9_lossShare v_X9_lossShare k_L_154 (by decide) rfl h0X (Nat.le_of_ble_eq_true rfl) (P_C_lossShare (I := μ.1) (J := μ.2) h.1 ⟨rfl, rfl⟩) hl.1 hW hS hc (fun v1 μ1 H1 locs1 hK1 hW1 hS1 => ?_)
  obtain ⟨rfl, rfl⟩ := hK1
  refine lv_f2d hx9 hb r2 (nn64 hnn) ?_
  refine lv_dstore (lv' := (5, .double (FP.f2d (FSv (tN T)))) :: L5 b s.heap.size i0) hx9 hb r3 hl (by decide) rfl (fun ls hl => ?_)
  refine lv_aload_n hx9 hb r4 rfl (lv_at hl 3 rfl) ?_
  refine lw_callF E (a := 348) (ci := 10) (V := []) (K := fun r μ' => r = .float (FSv (tN T)) ∧ μ' = (uM μ1.1 348 0 0, μ1.2)) r5 M_X10_lossShare (by decide) m_X10_lossShare v_X10_lossShare k_L_158 (by decide) rfl hM (Nat.le_of_ble_eq_true rfl) (P_M_lossShare (I := μ1.1) (J := μ1.2) h.2.1 ⟨rfl, rfl⟩) hl.1 hW1 hS1 hc (fun v2 μ2 H2 locs2 hK2 hW2 hS2 => ?_)
  obtain ⟨rfl, rfl⟩ := hK2
  refine lv_f2d hx9 hb r6 (nn64 hnn) ?_
  refine lv_dstore (lv' := (7, .double (FP.f2d (FSv (tN T)))) :: (5, .double (FP.f2d (FSv (tN T)))) :: L5 b s.heap.size i0) hx9 hb r7 hl (by decide) rfl (fun ls hl => ?_)
  refine lv_dload hx9 hb r8 (lv_at hl 1 rfl) ?_
  refine lv_dload hx9 hb r9 (lv_at hl 0 rfl) ?_
  refine lv_dcmp hx9 hb r10 ?_
  rw [dc_self hnn]
  refine lv_if_eq (tgt := 983) hx9 hb r11 (by decide) (fun _ => ?_) (fun q => absurd rfl q)
  exact lv_goto (tgt := 1935) hx9 hb r12 (by decide) (hE _ T H2 locs2 ls (h.flo ht) hW2 hS2 (lv_sub hl [2, 3, 4, 5, 6] rfl))
theorem lw_D (E : LE p l s m meth c b L xs cA D) {t i0 cl sl : Nat} {μ : MM} {T : TS} (h : LI t μ T) (ht : t < 512) (hc : cl ≤ 601024 ∧ sl ≤ 7293034) (hW : Wo cA D s.heap.size s.heap μ H) (hS : va_S (fun q => s.heap.size ≤ q) s.heap H locs) (hl : lv_has ls 9 (L5 b s.heap.size i0)) (hE : LEnd p l e s m below meth c b cA D t i0 cl sl) : W p l e room_1 s m #[Value.ref b] below meth c H locs cl sl (lw_Z below #[Value.ref b] s) (F0 m 986 ls []) := by
  obtain ⟨⟨hx9, hb, hr, hml, hown, hts0, hX, hbl, hlocks, hgv⟩, htr, hL, hK, hZ⟩ := id E
  obtain ⟨r0, r1, r2, r3, r4, r5, r6, r7, r8, r9, r10⟩ := rD_ok
  have hnn := MSv_nn h.1.2.2.1.2.1
  refine lv_aload_n hx9 hb r0 rfl (lv_at hl 3 rfl) ?_
  refine lw_callF E (a := 0) (ci := 9) (V := []) (K := fun r μ' => r = .double (MSv (tN T)) ∧ μ' = μ) r1 M_X9_meanForecast (by decide) m_X9_meanForecast v_X9_meanForecast k_L_159 (by decide) rfl h0X (Nat.le_of_ble_eq_true rfl) (P_C_meanForecast (I := μ.1) (J := μ.2) h.1 ⟨rfl, rfl⟩) hl.1 hW hS hc (fun v1 μ1 H1 locs1 hK1 hW1 hS1 => ?_)
  obtain ⟨rfl, rfl⟩ := hK1
  refine lv_dstore (lv' := (5, .double (MSv (tN T))) :: L5 b s.heap.size i0) hx9 hb r2 hl (by decide) rfl (fun ls hl => ?_)
  refine lv_aload_n hx9 hb r3 rfl (lv_at hl 3 rfl) ?_
  refine lw_callF E (a := 348) (ci := 10) (V := []) (K := fun r μ' => r = .double (MSv (tN T)) ∧ μ' = (uM μ1.1 348 0 0, μ1.2)) r4 M_X10_meanForecast (by decide) m_X10_meanForecast v_X10_meanForecast k_L_163 (by decide) rfl hM (Nat.le_of_ble_eq_true rfl) (P_M_meanForecast (I := μ1.1) (J := μ1.2) h.2.1 ⟨rfl, rfl⟩) hl.1 hW1 hS1 hc (fun v2 μ2 H2 locs2 hK2 hW2 hS2 => ?_)
  obtain ⟨rfl, rfl⟩ := hK2
  refine lv_dstore (lv' := (7, .double (MSv (tN T))) :: (5, .double (MSv (tN T))) :: L5 b s.heap.size i0) hx9 hb r5 hl (by decide) rfl (fun ls hl => ?_)
  refine lv_dload hx9 hb r6 (lv_at hl 1 rfl) ?_
  refine lv_dload hx9 hb r7 (lv_at hl 0 rfl) ?_
  refine lv_dcmp hx9 hb r8 ?_
  rw [dc_self hnn]
  refine lv_if_eq (tgt := 1024) hx9 hb r9 (by decide) (fun _ => ?_) (fun q => absurd rfl q)
  exact lv_goto (tgt := 1935) hx9 hb r10 (by decide) (hE _ T H2 locs2 ls (h.flo ht) hW2 hS2 (lv_sub hl [2, 3, 4, 5, 6] rfl))
end
