/-! LAW 8: from its entry to its loop -/
theorem RS_355 : RS 355 = fun _ => none := funext fun j => by
  have k : kd 355 = 12 := h355.2
  unfold RS
  rw [k, if_neg (by decide), if_neg (by decide), if_neg]
  show ¬ ((99 : Nat) = 2)
  decide
theorem st_fin {G0 G1 G2 : GS} (h1 : Dn 0 348 G0 G1) (h2 : Dn 348 355 (gN G1) G2) : (gN (gI (gI G2 349 1 4) 349 2 100)).1 = 356 ∧ (∀ e, e < 356 → (gN (gI (gI G2 349 1 4) 349 2 100)).2.2.2 e = RS e) ∧ LI 0 ((gN (gI (gI G2 349 1 4) 349 2 100)).2.1, (gN (gI (gI G2 349 1 4) 349 2 100)).2.2.1) T0 := by
  obtain ⟨a1, a2, a3⟩ := h1
  obtain ⟨b1, b2, b3⟩ := h2
  have n3 : (gI (gI G2 349 1 4) 349 2 100).1 = 355 := b1
  have eI : ∀ e, e < 355 → e ≠ 349 → (gN (gI (gI G2 349 1 4) 349 2 100)).2.1 e = G2.2.1 e := fun e he h9 => (SmR.gN (G := gI (gI G2 349 1 4) 349 2 100) (e := e) (by omega)).1.trans ((uM_r h9).trans (uM_r h9))
  have eR : ∀ e, e < 355 → (gN (gI (gI G2 349 1 4) 349 2 100)).2.2.2 e = G2.2.2.2 e := fun e he => (SmR.gN (G := gI (gI G2 349 1 4) 349 2 100) (e := e) (by omega)).2.2
  have low : ∀ e, e < 348 → fin G2 e := fun e he => ((a3 e (Nat.zero_le _) he).sm (SmR.gN (by omega))).sm (b2 e he)
  refine ⟨by show (gI (gI G2 349 1 4) 349 2 100).1 + 1 = 356; omega, fun e he => ?_, CT_0 (fun e he => (eI e (by omega) (by omega)).trans (low e he).1), MT_0 (fun k => ?_) (fun k => ?_), TG_0, TB_0, NG_0⟩
  · by_cases q : e = 355
    · subst q
      rw [RS_355]
      show (if 355 = (gI (gI G2 349 1 4) 349 2 100).1 then fun _ => none else G2.2.2.2 355) = _
      rw [if_pos n3.symm]
    · rw [eR e (by omega)]
      by_cases z : e < 348
      · exact (low e z).2.2
      · exact (b3 e (by omega) (by omega)).2.2
  · show (gN (gI (gI G2 349 1 4) 349 2 100)).2.1 348 k = _
    rw [eI 348 (by decide) (by decide), (b3 348 (by decide) (by decide)).1]
    unfold cI
    rw [k_X10.1]
    rfl
  · have e9 : (gN (gI (gI G2 349 1 4) 349 2 100)).2.1 349 = (gI (gI G2 349 1 4) 349 2 100).2.1 349 := (SmR.gN (G := gI (gI G2 349 1 4) 349 2 100) (e := 349) (by omega)).1
    have z : G2.2.1 349 = fun _ => 0 := (b3 349 (by decide) (by decide)).1.trans (cI_0 (by rw [k_X10.2.1]; decide))
    show (gN (gI (gI G2 349 1 4) 349 2 100)).2.1 349 k = _
    rw [e9]
    show uM (uM G2.2.1 349 1 4) 349 2 100 349 k = _
    by_cases q1 : k = 1
    · subst q1
      rw [uM_k (by decide), uM_s]
      rfl
    · by_cases q2 : k = 2
      · subst q2
        rw [uM_s]
        rfl
      · rw [uM_k q2, uM_k q1, z, if_neg q1, if_neg q2]
section
variable {p : Program} {l : Launch} {e : Env} {s : State} {m : MethodId} {below : List Frame} {meth : Method} {c : Code} {H : Heap} {locs : List Loc} {cA : Nat → ClassId} {D : va_G} {b L : Nat} {xs : Nat → Int32} {ls : Array Slot} {G : GS} {cl sl pc : Nat} {Q : State → Prop}
theorem lw_new (C0 : lw_At p s m meth c b L xs) (hK : va_K D vwCl (tysA cA) s) {ci ix : Nat} {C : String} {T : u_T} {ty0 : Nat → FieldType} {st : List Value} (d : decode code pc = .ok (.new ix, 3)) (hcl : vwCl[ci]? = some (C, T, nf ci)) (hc : ci < 11) (hin : ∀ w ∈ u_ws C T (nf ci), w ∈ AW) (hty : ∀ k, k < nf ci → parseFieldDescriptor (T k).2.2.1 = some (ty0 k)) (hdf : ∀ j, j < nf ci → defaultValue (ty0 j) = if fk ci j = 2 then .null else if fk ci j = 1 then .long 0 else .int 0) (w1 : Cond.classLink RL ix C ∈ AW) (w2 : Cond.instantiable C (nf ci) ∈ AW) (w3 : Cond.initialized C ∈ AW) (hkd : kd G.1 = ci) (hcnt : cl = G.1) (hroom : cl + 1 ≤ 601024 ∧ sl + nf ci ≤ 7293034) (hW : WG cA D s.heap.size G H) (hS : va_S (fun q => s.heap.size ≤ q) s.heap H locs)
    (kk : ∀ H1, WG cA D s.heap.size (gN G) H1 → va_S (fun q => s.heap.size ≤ q) s.heap H1 locs → W p l e room_1 s m #[Value.ref b] below meth c H1 locs (cl + 1) (sl + nf ci) Q (F0 m (pc + 3) ls (.ref (s.heap.size + G.1) :: st))) : W p l e room_1 s m #[Value.ref b] below meth c H locs cl sl Q (F0 m pc ls st) := by
  obtain ⟨hx, hb, hr, hml, hown, hts0, hX, hbl, hlocks, hgv⟩ := C0
  have hown : s.vm.findClass RL = some m.cls := hown
  have hts : ∀ w ∈ AW, w.before #[Value.ref b] s = true := fun w hw => hts0 w (List.mem_filter.mp hw).1
  refine va_new (fs := (List.range (nf ci)).map (fvG (gN G) s.heap.size G.1)) (rest := st) hx hb hts hin ty0 hty hown (hts _ w1) (hts _ w2) (hts _ w3) hK hW PG_D hS (fun q hq => hq) hcl (fun j hj => ?_) hroom.1 hroom.2 d (fun q H1 hP1 hD1 hS1 => ?_)
  · unfold vp_V
    rw [List.getD_eq_getElem?_getD, fvG_at hj, hdf j hj, fvG_b hkd]
    rfl
  · intro T hT X
    have hz := X.heapSize
    rw [hT] at hz
    have hq := born_at hP1 hD1 (by omega)
    subst hq
    have e1 : PG cA G s.heap.size ++ [(s.heap.size + G.1, .inr (ci, (List.range (nf ci)).map (fvG (gN G) s.heap.size G.1)))] = PG cA (gN G) s.heap.size := by
      rw [PG_new, enG_ob hkd hc]
    rw [e1] at hP1
    exact kk H1 hP1 hS1 T hT X
theorem lw_ctor (C0 : lw_At p s m meth c b L xs) (htr : l.stackTraces = false) (hZ : ZG cA D s.heap.size s.heap s) {ix a maxL lev dn ds : Nat} {y : MethodName} {bytes : ByteArray} {wp : List AV → GS → (GS → Prop) → Prop} {V : List Value} (d : decode code pc = .ok (.invokespecial ix, 3)) (hM : ∀ l : Launch, l.stackTraces = false → MetG l y bytes maxL lev dn ds wp) (hlev : lev ≤ 12) (hy : MOK y bytes maxL none 0) (hv : Cond.instanceMethod y ∈ AW) (hini : y.name = "<init>") (hlink : Cond.methodLink RL ix y ∈ AW) (hV : (V.map fun v => v.category).sum ≤ 8) (hcnt : cl = G.1) (h0 : 0 < G.1) (hroom : cl + dn ≤ 601024 ∧ sl + ds ≤ 7293034) {K : GS → Prop} (g3 : wp [.inr (.inr a)] G K) (hls : ls.size = 9) (hW : WG cA D s.heap.size G H) (hS : va_S (fun q => s.heap.size ≤ q) s.heap H locs)
    (kk : ∀ (G' : GS) (H1 : Heap) (locs1 : List Loc), K G' → WG cA D s.heap.size G' H1 → va_S (fun q => s.heap.size ≤ q) s.heap H1 locs1 → W p l e room_1 s m #[Value.ref b] below meth c H1 locs1 (cl + dn) (sl + ds) Q (F0 m (pc + 3) ls V)) : W p l e room_1 s m #[Value.ref b] below meth c H locs cl sl Q (F0 m pc ls (.ref (s.heap.size + a) :: V)) := by
  obtain ⟨hx, hb, hr, hml, hown, hts0, hX, hbl, hlocks, hgv⟩ := C0
  have hown : s.vm.findClass RL = some m.cls := hown
  have hts : ∀ w ∈ AW, w.before #[Value.ref b] s = true := fun w hw => hts0 w (List.mem_filter.mp hw).1
  obtain ⟨y1, y2, y3, y4, y5⟩ := hy
  intro T hT X
  have hz := X.heapSize
  rw [hT] at hz
  have hlow := size_low hW h0
  have hpre : PreS s H (PcG cA D s.heap.size s.heap (([.inr (.inr a)] : List AV).map (tv s.heap.size)) G) (([.inr (.inr a)] : List AV).map (tv s.heap.size)) := ⟨PcG_blind, fun U hU hWm => ⟨rfl, ⟨by rw [hU]; exact hW, by rw [hU]; omega, fun q hq => by rw [hU, hS.2.1 q hq (by show ¬ s.heap.size ≤ q; omega)]⟩, hZ.warm hWm⟩⟩
  exact bind_callG (Nat.le_refl _) (va_runI (As := []) (rest := V) (b := s.heap.size + a) (own := RL) (Ts := AW) (n := 0) ⟨hx, hb, hml, hown, hts⟩ (hM l htr cA D s.heap.size s.heap [.inr (.inr a)] G K g3)
    (cwI (ws' := AW) 0 hts (AWm_good y1) rfl rfl rfl (hts _ y2) (hts _ hlink) (hts _ hv) hini y3 ⟨by show lev + 1 ≤ 14; omega, by show 8 + (maxL + 11) + 40 * lev ≤ 530; omega⟩) hpre rfl rfl hls rfl (lv_room hV) d hroom) hS (fun G' H1 locs1 hk1 hW1 hS1 => kk G' H1 locs1 hk1.2 hW1 hS1) T hT X
theorem lw_newL (C0 : lw_At p s m meth c b L xs) (hK : va_K D vwCl (tysA cA) s) {st : List Value} (d : decode code pc = .ok (.newarray .long, 2)) (hkd : kd G.1 = 12) (hcnt : cl = G.1) (hroom : cl + 1 ≤ 601024 ∧ sl + ln G.1 ≤ 7293034) (hW : WG cA D s.heap.size G H) (hS : va_S (fun q => s.heap.size ≤ q) s.heap H locs)
    (kk : ∀ H1, WG cA D s.heap.size (gN G) H1 → va_S (fun q => s.heap.size ≤ q) s.heap H1 locs → W p l e room_1 s m #[Value.ref b] below meth c H1 locs (cl + 1) (sl + ln G.1) Q (F0 m (pc + 2) ls (.ref (s.heap.size + G.1) :: st))) : W p l e room_1 s m #[Value.ref b] below meth c H locs cl sl Q (F0 m pc ls (.int (jI ((ln G.1 : Nat) : Int)) :: st)) := by
  obtain ⟨hx, hb, hr, hml, hown, hts0, hX, hbl, hlocks, hgv⟩ := C0
  have hts : ∀ w ∈ AW, w.before #[Value.ref b] s = true := fun w hw => hts0 w (List.mem_filter.mp hw).1
  obtain ⟨l1, l2⟩ := ln_cl G.1
  have l4 := ln_4 G.1
  refine va_newa (atype := .long) (ty := .long) (a0 := (ln G.1, .inr (.inl (fun _ => 0)))) (N' := ln G.1) (rest := st) hx hb (hts _ ac_long) rfl hK hW PG_D hS (fun q hq => hq) (fun cA => rfl) l1 l2 (by show ln G.1 * 8 ≤ 536870912; omega) hroom.1 hroom.2 d (fun q x H1 hK1 hP1 hD1 hS1 => ?_)
  have hx1 := cA_u (t := 1) hK hK1 rfl
  subst hx1
  intro T hT X
  have hz := X.heapSize
  rw [hT] at hz
  have hq := born_at hP1 hD1 (by omega)
  subst hq
  have e1 : PG cA G s.heap.size ++ [(s.heap.size + G.1, .inl (cA (11 + 1), ln G.1, .inr (.inl (fun _ => 0))))] = PG cA (gN G) s.heap.size := by
    rw [PG_new]
    unfold enG
    rw [hkd, if_neg (by decide), if_neg (by decide), if_pos rfl]
    have : (fun j => jL ((gN G).2.2.1 G.1 j)) = (fun _ => (0 : Int64)) := by
      funext j
      show jL ((if G.1 = G.1 then fun _ => (0 : Int) else G.2.2.1 G.1) j) = 0
      rw [if_pos rfl]
      rfl
    rw [this]
  rw [e1] at hP1
  exact kk H1 hP1 hS1 T hT X
end
abbrev rS : Prop := decode code 0 = .ok (.new 8, 3) ∧ decode code 3 = .ok (.dup, 1) ∧ decode code 4 = .ok (.invokespecial 95, 3) ∧ decode code 7 = .ok (.astore_n 1, 1) ∧ decode code 8 = .ok (.new 96, 3) ∧ decode code 11 = .ok (.dup, 1) ∧ decode code 12 = .ok (.invokespecial 98, 3) ∧ decode code 15 = .ok (.astore_n 2, 1) ∧ decode code 16 = .ok (.iconst 1, 1) ∧ decode code 17 = .ok (.newarray .long, 2) ∧ decode code 19 = .ok (.astore_n 3, 1) ∧ decode code 20 = .ok (.iconst 0, 1) ∧ decode code 21 = .ok (.istore 4, 2)
theorem rS_ok : rS := by decide +kernel
def G00 : GS := (0, fun _ _ => 0, fun _ _ => 0, fun _ _ => none)
theorem whole_start {p : Program} {e : Env} {s : State} {m : MethodId} {below : List Frame} {meth : Method} {c : Code} (l : Launch) (hflags : l.flags = flags0) {b L : Nat} {xs : Nat → Int32} (hL : L ≤ 3072) (C0 : lw_At p s m meth c b L xs) : W p l e room_1 s m #[Value.ref b] below meth c s.heap [] 0 0 (lw_Z below #[Value.ref b] s) (entryFrame m ([Value.ref b] : List Value).toArray 9) := by
  obtain ⟨hx, hb, hr, hml, hown, hts, hX, hbl, hlocks, hgv⟩ := id C0
  have htr : l.stackTraces = false := by
    unfold Launch.stackTraces
    rw [hflags]
    decide +kernel
  obtain ⟨D, cA, hK⟩ := st_K hts
  have hZ := st_ZZ hgv hts hK
  have hZG : ZG cA D s.heap.size s.heap s := ⟨hZ, st_AOP hts, st_AOS hts⟩
  obtain ⟨r0, r1, r2, r3, r4, r5, r6, r7, r8, r9, r10, r11, r12⟩ := rS_ok
  have hl := lv_entry ([.ref b]) (n := 9) (Nat.le_of_ble_eq_true rfl)
  rw [lg_entry_eq]
  generalize (lg_sl ([.ref b]) ++ List.replicate (9 - (lg_sl ([.ref b])).length) Slot.unset).toArray = ls at hl ⊢
  have hl : lv_has ls 9 [(0, .ref b)] := hl
  have hW0 : WG cA D s.heap.size G00 s.heap := fun k q h => by
    have h : ([] : va_W)[k]? = some q := h
    simp at h
  have k9 : kd 0 = 9 := k_X9.1
  have k10 : kd 348 = 10 := k_X10.1
  refine lw_new C0 hK (G := G00) (ci := 9) r0 rfl (by decide) in_X9 tyX9_ok df_X9 kn_L_8 ic_X9 ini_X9 k9 rfl ⟨by decide, by decide⟩ hW0 va_S.rf (fun H1 hW1 hS1 => ?_)
  refine lv_dup hx hb r1 rfl ?_
  refine lw_ctor C0 htr hZG (G := gN G00) (a := 0) (K := fun G' => Dn 0 348 (gN G00) G') (V := [.ref (s.heap.size + 0)]) r2 MG_X9_init (by decide) m_X9_init iw_X9_init rfl k_L_95 (by show 1 + 0 ≤ 8; decide) rfl (Nat.succ_pos 0) ⟨by decide, by decide⟩ (PK_X9 ⟨rfl, fun j => by
    show (if 0 = G00.1 then fun _ => (0 : Int) else G00.2.1 0) j = 0
    rw [if_pos (show 0 = G00.1 from rfl)], fun j => by
    show (if 0 = G00.1 then fun _ => (0 : Int) else G00.2.2.1 0) j = 0
    rw [if_pos (show 0 = G00.1 from rfl)], fun j => by
    show (if 0 = G00.1 then fun _ => none else G00.2.2.2 0) j = none
    rw [if_pos (show 0 = G00.1 from rfl)]⟩ (fun G' D => D)) hl.1 hW1 hS1 (fun G1 H2 locs2 D1 hW2 hS2 => ?_)
  have g1 : G1.1 = 348 := D1.1
  refine lv_astore_n (lv' := [(1, .ref s.heap.size), (0, .ref b)]) hx hb r3 rfl hl (by decide) rfl (fun ls hl => ?_)
  refine lw_new C0 hK (G := G1) (ci := 10) r4 rfl (by decide) in_X10 tyX10_ok df_X10 kn_L_96 ic_X10 ini_X10 (by rw [g1]; exact k10) (by omega) ⟨by decide, by decide⟩ hW2 hS2 (fun H3 hW3 hS3 => ?_)
  rw [g1]
  refine lv_dup hx hb r5 rfl ?_
  refine lw_ctor C0 htr hZG (G := gN G1) (a := 348) (K := fun G' => ∃ G2, Dn 348 355 (gN G1) G2 ∧ G' = gI (gI G2 349 1 4) 349 2 100) (V := [.ref (s.heap.size + 348)]) r6 MG_X10_init (by decide) m_X10_init iw_X10_init rfl k_L_98 (by show 1 + 0 ≤ 8; decide) (by show 0 + 1 + 347 + 1 = G1.1 + 1; omega) (Nat.succ_pos _) ⟨by decide, by decide⟩ (PK_X10 ⟨by show G1.1 + 1 = 348 + 1; rw [g1], fun j => ?_, fun j => ?_, fun j => ?_⟩ (fun G' D => ⟨G', D, rfl⟩)) hl.1 hW3 hS3 (fun G2' H4 locs4 hG hW4 hS4 => ?_)
  · show (if 348 = G1.1 then fun _ => (0 : Int) else G1.2.1 348) j = 0
    rw [if_pos g1.symm]
  · show (if 348 = G1.1 then fun _ => (0 : Int) else G1.2.2.1 348) j = 0
    rw [if_pos g1.symm]
  · show (if 348 = G1.1 then fun _ => none else G1.2.2.2 348) j = none
    rw [if_pos g1.symm]
  obtain ⟨G2, D2, rfl⟩ := hG
  have g2 : (gI (gI G2 349 1 4) 349 2 100).1 = 355 := D2.1
  refine lv_astore_n (lv' := [(2, .ref (s.heap.size + 348)), (1, .ref s.heap.size), (0, .ref b)]) hx hb r7 rfl hl (by decide) rfl (fun ls hl => ?_)
  refine lv_iconst (v := jI ((ln (gI (gI G2 349 1 4) 349 2 100).1 : Nat) : Int)) hx hb r8 (by rw [g2, ln355]; rfl) ?_
  refine lw_newL C0 hK (G := gI (gI G2 349 1 4) 349 2 100) r9 (by rw [g2]; exact h355.2) (by omega) ⟨by decide, by rw [g2, ln355]; decide⟩ hW4 hS4 (fun H5 hW5 hS5 => ?_)
  rw [g2, ln355]
  refine lv_astore_n (lv' := [(3, .ref (s.heap.size + 355)), (2, .ref (s.heap.size + 348)), (1, .ref s.heap.size), (0, .ref b)]) hx hb r10 rfl hl (by decide) rfl (fun ls hl => ?_)
  refine lv_iconst (v := jI 0) hx hb r11 rfl ?_
  refine lv_istore (lv' := L5 b s.heap.size (6 * 0)) hx hb r12 hl (by decide) rfl (fun ls hl => ?_)
  obtain ⟨f1, f2, f3⟩ := st_fin D1 D2
  have hlo := size_low hW5 (by rw [f1]; decide)
  rw [f1] at hlo
  have hWo : Wo cA D s.heap.size s.heap ((gN (gI (gI G2 349 1 4) 349 2 100)).2.1, (gN (gI (gI G2 349 1 4) 349 2 100)).2.2.1) H5 := ⟨hlo, by
    show va_P D vwCl (PW cA (gN (gI (gI G2 349 1 4) 349 2 100)).2.1 (gN (gI (gI G2 349 1 4) 349 2 100)).2.2.1 s.heap.size) H5
    rw [← PG_PW f1 f2]
    exact hW5, fun q hq => hS5.2.1 q hq (Nat.not_le.mpr hq)⟩
  refine W.widen (k := 356 + 4 * 0) (n := 80000 + 24 * 0) (by decide) (by decide) ?_
  exact lw_loop ⟨C0, htr, hL, hK, hZ⟩ 512 0 rfl f3 hWo hS5 hl
