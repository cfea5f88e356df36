/-! LAW 1: methods that catch -/
theorem toI_r (x : Int32) : R32 x.toInt := ⟨Int32.le_toInt x, Int32.toInt_lt x⟩
theorem jI_back (x : Int32) : jI x.toInt = x := Int32.ofInt_toInt x
theorem jI_lw (x : Int) : (jI x).toInt64 = jL (jI x).toInt := by
  have h := jI_wide (toI_r (jI x))
  rw [jI_back] at h
  exact h
def o_i2lw (k : PT) : PT := fun L st μ => match st with
  | .inl x :: r => k L (.inr (.inl (jI x).toInt) :: r) μ
  | _ => False
theorem s_i2lw {κ : Kap} {own : String} {cc : ByteArray} {nL lev : Nat} (h : Amb κ own cc nL lev) {pc : Nat} {k : PT} (d : decode cc pc = .ok (.i2l, 1)) (hk : Snd κ (pc + 1) k) : Snd κ pc (o_i2lw k) := by
  obtain ⟨p, l, e, R, s, m, args, below, meth, c, cells, slots, Q, cA, D, b0, Hs⟩ := κ
  obtain ⟨hx, hb, hml, hown, hts, hlk, hK, hb0, hfr, hlo, hc1, hs1⟩ := h
  intro L st μ H locs ls hB hL hW hS
  unfold o_i2lw at hB
  split at hB
  · rename_i x r
    exact lv_i2l (x := jI x) (v := jL (jI x).toInt) (rest := r.map (tv b0)) hx hb d (jI_lw x) (hk L _ μ H locs ls hB hL hW hS)
  · exact hB.elim
def EnvH (κ : Kap) (own : String) (cc : ByteArray) (nL lev N : Nat) (hh : List (Nat × Nat × Nat × Nat)) : Prop := Env1 κ own cc nL lev ∧ match κ with
  | (_, _, _, R, _, _, _, _, _, c, cells, slots, _, _, _, _, _) => c.exceptionTable.toList = tableOf hh ∧ cells + N ≤ R.cells ∧ slots + 6 * N ≤ R.slots
theorem EnvH.up {κ : Kap} {own : String} {cc : ByteArray} {nL lev N : Nat} {hh : List (Nat × Nat × Nat × Nat)} (h : EnvH κ own cc nL lev N hh) : Env1 (upK N κ) own cc nL lev := by
  obtain ⟨p, l, e, R, s, m, args, below, meth, c, cells, slots, Q, cA, D, b0, Hs⟩ := κ
  obtain ⟨⟨⟨hx, hb, hml, hown, hts, hlk, hK, hb0, hfr, hlo, hc1, hs1⟩, htr, hZ⟩, h2, h3, h4⟩ := h
  exact ⟨⟨hx, hb, hml, hown, hts, hlk, hK, hb0, hfr, hlo, h3, h4⟩, htr, hZ⟩
/-- a handler: what was thrown alone on the stack -/
def SndE (κ : Kap) (pc : Nat) (B : MM → Prop) : Prop := match κ with
  | (p, l, e, R, s, m, args, below, meth, c, cells, slots, Q, cA, D, b0, Hs) => ∀ (μ : MM) (H : Heap) (locs : List Loc) (ls : Array Slot) (q : Nat), B μ → lv_has ls c.maxLocals [] → Wo cA D b0 Hs μ H → va_S (fun q => b0 ≤ q) s.heap H locs → W p l e R s m args below meth c H locs cells slots Q (F0 m pc ls [.ref q])
theorem s_hret_n {κ : Kap} {own : String} {cc : ByteArray} {nL lev : Nat} (h : Env1 κ own cc nL lev) {pc i : Nat} {kk : Fin 4} {v : Int} {post : Option AV → MM → Prop} (hr : RetOK κ (some .int) post) (d0 : decode cc pc = .ok (.astore_n kk, 1)) (hi : (kk : Nat) = i) (hn : i < nL) (d1 : decode cc (pc + 1) = .ok (.iconst v, 1)) (d2 : decode cc (pc + 2) = .ok (.ireturn, 1)) : SndE κ pc (fun μ => post (some (.inl v)) μ) := by
  obtain ⟨p, l, e, R, s, m, args, below, meth, c, cells, slots, Q, cA, D, b0, Hs⟩ := κ
  obtain ⟨⟨hx, hb, hml, hown, hts, hlk, hK, hb0, hfr, hlo, hc1, hs1⟩, htr, hZ⟩ := h
  intro μ H locs ls q hB hl hW hS
  refine lv_astore_n hx hb d0 hi hl (by rw [hml]; exact hn) rfl (fun ls' hl' => ?_)
  refine lv_iconst (v := jI v) hx hb d1 rfl ?_
  exact hr.2 _ _ _ (W.iret (v := jI v) hx hb hr.1 (fun t ht hWm => ⟨⟨some (.inl v), μ, rfl, hB, by rw [ht]; exact hW⟩, hS.F ht⟩) hS.2.2 d2 hlk)
theorem s_hret {κ : Kap} {own : String} {cc : ByteArray} {nL lev : Nat} (h : Env1 κ own cc nL lev) {pc i : Nat} {v : Int} {post : Option AV → MM → Prop} (hr : RetOK κ (some .int) post) (d0 : decode cc pc = .ok (.astore i, 2)) (hn : i < nL) (d1 : decode cc (pc + 2) = .ok (.iconst v, 1)) (d2 : decode cc (pc + 3) = .ok (.ireturn, 1)) : SndE κ pc (fun μ => post (some (.inl v)) μ) := by
  obtain ⟨p, l, e, R, s, m, args, below, meth, c, cells, slots, Q, cA, D, b0, Hs⟩ := κ
  obtain ⟨⟨hx, hb, hml, hown, hts, hlk, hK, hb0, hfr, hlo, hc1, hs1⟩, htr, hZ⟩ := h
  intro μ H locs ls q hB hl hW hS
  refine lv_astore hx hb d0 hl (by rw [hml]; exact hn) rfl (fun ls' hl' => ?_)
  refine lv_iconst (v := jI v) hx hb d1 rfl ?_
  exact hr.2 _ _ _ (W.iret (v := jI v) hx hb hr.1 (fun t ht hWm => ⟨⟨some (.inl v), μ, rfl, hB, by rw [ht]; exact hW⟩, hS.F ht⟩) hS.2.2 d2 hlk)
/-- where it is caught: (from, to, handler, entry of its class), its class, what is asked there -/
abbrev Hnd : Type := (Nat × Nat × Nat × Nat) × String × (MM → Prop)
def hent (x : Hnd) : ExceptionTableEntry := ⟨x.1.1, x.1.2.1, x.1.2.2.1, x.1.2.2.2⟩
def o_callVC (na ci : Nat) (wp : WpX) (hs : List Hnd) (kk : PT) : PT := fun L st μ => match st.drop na with
  | .inr (.inr a) :: r => isK a ci ∧ catS r ≤ 8 ∧ wp (.inr (.inr a) :: (st.take na).reverse) μ (fun v μ' => kk L (v.toList ++ r) μ') (fun E μ' => ∃ (j : Nat) (x : Hnd), hs[j]? = some x ∧ x.2.1 = E ∧ x.2.2 μ')
  | _ => False
theorem s_callVC {κ : Kap} {own : String} {cc : ByteArray} {nL lev N : Nat} {hs : List Hnd} (h : EnvH κ own cc nL lev N (hs.map (fun x => x.1))) {pc ix na ci maxL lev' : Nat} {y : MethodName} {T : u_T} {NN : Nat} {bytes : ByteArray} {ret : Option FieldType} {wp : WpX} {kk : PT} (d : decode cc pc = .ok (.invokevirtual ix, 3)) (hM : ∀ l : Launch, l.stackTraces = false → MetX l y bytes maxL ret lev' N wp) (hlev : lev' + 1 ≤ lev) (hy : MOK y bytes maxL ret na) (hv : VOK y) (hlink : Cond.methodLink own ix y ∈ AW) (hc : ci < 11) (hcl : vwCl[ci]? = some (y.cls, T, NN))
    (hnd : (hs.map (fun x => x.2.1)).Nodup) (hh : ∀ x ∈ hs, (x.1.1 ≤ pc ∧ pc < x.1.2.1) ∧ x.1.2.2.2 ≠ 0 ∧ x.2.1 ∈ exC ∧ Cond.classLink own x.1.2.2.2 x.2.1 ∈ AW ∧ SndE (upK N κ) x.1.2.2.1 x.2.2) (hk : Snd (upK N κ) (pc + 3) kk) : Snd κ pc (o_callVC na ci wp hs kk) := by
  obtain ⟨p, l, e, R, s, m, args, below, meth, c, cells, slots, Q, cA, D, b0, Hs⟩ := κ
  obtain ⟨⟨⟨hx, hb, hml, hown, hts, hlk, hK, hb0, hfr, hlo, hc1, hs1⟩, htr, hZ⟩, htb, hc2, hs2⟩ := h
  obtain ⟨y1, y2, y3, y4, y5⟩ := hy
  intro L st μ H locs ls hB hL hW hS
  unfold o_callVC at hB
  split at hB
  · rename_i a r hst
    obtain ⟨g1, g2, g3⟩ := hB
    obtain ⟨t1, t2⟩ := take_drop_eq hst
    refine bind_callX (vx_runV (As := (st.take na).reverse.map (tv b0)) (rest := r.map (tv b0)) (b := b0 + a) (own := own) (Ts := AW) (C := y.cls) (n := na) ⟨hx, hb, rfl, hown, hts⟩ (hM l htr cA D b0 Hs _ μ _ _ g3)
      (cwV (ws' := AW) na hts (goodIn_ap2 (ha_wsV hlink hv y2) (AWm_good y1)) rfl rfl rfl ⟨rfl, y3⟩ ⟨by rw [hfr]; exact hlev, by rw [hlo]; show 8 + (maxL + 11) + 40 * lev' ≤ 40 * lev; omega⟩)
      ⟨PcM_blind, va_recv hK hW.2.1 hcl (PW_ob g1 hc), fun U hU hWm => ⟨rfl, by rw [hU]; exact hW, hZ.warm hWm⟩⟩ rfl (by rw [List.length_map, List.length_reverse, t2]) (hL.1.trans rfl) (by rw [← List.map_reverse, List.reverse_reverse]; exact (congrArg (List.map (tv b0)) t1).trans List.map_append) (lv_room (by rw [catS_ok]; exact g2)) d ⟨by omega, by omega⟩) hS (fun E ce q9 μ' H1 locs1 hx1 hW1 hS1 hce hcv hcl1 => ?_) (fun v μ' H1 locs1 hk1 hW1 hS1 => ?_)
    · obtain ⟨j, x, hj, rfl, hx2⟩ := hx1
      obtain ⟨hjl, hjx⟩ := List.getElem?_eq_some_iff.mp hj
      have hmem : x ∈ hs := List.mem_of_getElem? hj
      obtain ⟨hcov, hct, hex, hlk2, hsnd⟩ := hh x hmem
      have hsp : hs = hs.take j ++ x :: hs.drop (j + 1) := by
        rw [← hjx, ← List.drop_eq_getElem_cons hjl, List.take_append_drop]
      have e1 : tableOf (hs.map (fun x => x.1)) = hs.map hent := by
        unfold tableOf
        rw [List.map_map]
        rfl
      have e2 : hs.map hent = (hs.take j).map hent ++ hent x :: (hs.drop (j + 1)).map hent := (congrArg (List.map hent) hsp).trans (by rw [List.map_append, List.map_cons])
      have e3 : hs.map (fun x => x.2.1) = (hs.take j).map (fun x => x.2.1) ++ x.2.1 :: (hs.drop (j + 1)).map (fun x => x.2.1) := (congrArg (List.map (fun x : Hnd => x.2.1)) hsp).trans (by rw [List.map_append, List.map_cons])
      rw [e3] at hnd
      have hnd2 := (List.nodup_append.mp hnd).2.2
      obtain ⟨hZ1, hZ2, hZ3, hZ4, hZ5, hZ7, hZ8, hZ9⟩ := hZ
      refine vx_catch (own := own) (name := x.2.1) hown _ (hent x) _ (htb.trans (e1.trans e2)) (fun z hz => ?_) ?_ hct (hts _ hlk2) (va_Nw.use rfl (hZ7 _ hex)) hce hcv hcl1 (hsnd μ' H1 locs1 ls q9 hx2 ⟨hL.1, hL.2.1, fun q hq => absurd hq List.not_mem_nil⟩ hW1 hS1)
      · obtain ⟨w, hw, rfl⟩ := List.mem_map.mp hz
        have hwm : w ∈ hs := List.mem_of_mem_take hw
        obtain ⟨-, wct, wex, wlk, -⟩ := hh w hwm
        have hne : w.2.1 ≠ x.2.1 := hnd2 _ (List.mem_map.mpr ⟨w, hw, rfl⟩) _ List.mem_cons_self
        exact Or.inr ⟨wct, w.2.1, hts _ wlk, hZ8 _ hex _ wex (fun q => hne q.symm)⟩
      · show (decide (x.1.1 ≤ pc) && decide (pc < x.1.2.1)) = true
        rw [decide_eq_true hcov.1, decide_eq_true hcov.2]
        rfl
    · have e1 : (v.map (tv b0)).toList ++ r.map (tv b0) = (v.toList ++ r).map (tv b0) := by cases v <;> rfl
      rw [e1]
      exact hk L _ μ' H1 locs1 ls hk1 hL hW1 hS1
  · exact hB.elim
/-- a contract of a method that catches -/
theorem Met_ofWH {l : Launch} {y : MethodName} {ws ws' : List Cond} {rm : Room} {Pc : Array Value → State → Prop} {Qc : Array Value → State → Outcome → State → Prop} {mc ms : Nat} {free : Addr → Prop} {cc : ByteArray} {maxL : Nat} {ret : Option FieldType} {hh : List (Nat × Nat × Nat × Nat)} (hy : plainName y.cls = true) (hw : ws = Cond.codeWith y cc maxL ret hh :: ws')
    (body : ∀ p e s m args below meth c s₁, BodyLoose p l y (headSpec ws rm) cc maxL ret e s m args below meth c s₁ → c.maxLocals = maxL → Pc args s →
      W p l e (headSpec ws rm).room s m args below meth c s.heap [] 0 0 (MQ below Qc args s mc ms free) (entryFrame m args maxL)) : Met l y ws rm Pc Qc mc ms free := by
  refine MetFree.of_bodyS (code := cc) (maxLocals := maxL) (ret := ret) hy ?_ ?_
  · intro args s m h hn
    obtain ⟨m9, meth, c, hn9, h1, h2, h3, h4, -, h5, h6, -⟩ := Cond.codeWith_spec (atoms_spec (ws := ws) h _ (by rw [hw]; exact List.mem_cons_self))
    cases hn.symm.trans hn9
    exact ⟨meth, c, h1, h2, h3, h4, h5, h6⟩
  · intro p e s m args below meth c s₁ B hml hP _
    have hh0 : s₁.heap = s.heap := by rw [B.state]; rfl
    obtain ⟨t, a1, o, b1, b2, b3⟩ := body p e s m args below meth c s₁ B hml hP s₁ hh0 (Stand.of_body B)
    exact ⟨t, o, a1, b1, b2, ⟨b3.1, b3.2⟩⟩
def MetH (l : Launch) (y : MethodName) (cc : ByteArray) (maxL : Nat) (ret : Option FieldType) (lev k : Nat) (hh : List (Nat × Nat × Nat × Nat)) (wp : List AV → MM → (Option AV → MM → Prop) → Prop) : Prop :=
  ∀ (cA : Nat → ClassId) (D : va_G) (b0 : Nat) (Hs : Heap) (av : List AV) (μ : MM) (K : Option AV → MM → Prop), wp av μ K → Met l y (Cond.codeWith y cc maxL ret hh :: AW) (rmX lev k) (PcM cA D b0 Hs (av.map (tv b0)) μ) (QcM cA D b0 Hs K) k (6 * k) (fun q => b0 ≤ q)
theorem met_ofH {y : MethodName} {cc : ByteArray} {maxL lev k : Nat} {ret : Option FieldType} {hh : List (Nat × Nat × Nat × Nat)} {B : (Option AV → MM → Prop) → PT} (hy : plainName y.cls = true) (hB : ∀ (κ : Kap) (post : Option AV → MM → Prop), EnvH κ y.cls cc maxL lev k hh → RetOK (upK k κ) ret post → Snd κ 0 (B post)) : ∀ l : Launch, l.stackTraces = false → MetH l y cc maxL ret lev k hh (wpB maxL B) := by
  intro l htr cA D b0 Hs av μ K hwp
  refine Met_ofWH (cc := cc) (maxL := maxL) (ret := ret) (hh := hh) (ws' := AW) hy rfl ?_
  intro p e s m args below meth c s₁ Bd hml hv
  obtain ⟨rfl, hW, hZ⟩ := hv
  have hts := atoms_spec (ws := Cond.codeWith y cc maxL ret hh :: AW) Bd.pre
  have hown : s.vm.findClass y.cls = some m.cls := findClass_of_methodNamed Bd.named
  rw [lg_entry_eq]
  have hE := entry_LH (b0 := b0) hwp.1
  have key := hB (p, l, e, (headSpec (Cond.codeWith y cc maxL ret hh :: AW) (rmX lev k)).room, s, m, (av.map (tv b0)).toArray, below, meth, c, 0, 0, MQ below (QcM cA D b0 Hs K) (av.map (tv b0)).toArray s k (6 * k) (fun q => b0 ≤ q), cA, D, b0, Hs) K
    ⟨⟨⟨Bd.exec, Bd.bytes, hml, hown, fun w hw => hts w (List.mem_cons_of_mem _ hw), Bd.notSynchronized, hZ.1, by have := hW.1; omega, rfl, rfl, Nat.zero_le _, Nat.zero_le _⟩, htr, hZ⟩, vx_table (x := y) Bd (hts _ List.mem_cons_self), by show 0 + k ≤ k; omega, by show 0 + 6 * k ≤ 6 * k; omega⟩
    ⟨Bd.returns, fun H locs g h9 => by rw [Nat.zero_add, Nat.zero_add] at h9 ⊢; exact h9⟩
  exact key _ [] μ s.heap [] _ hwp.2 (by rw [hml]; exact hE) hW va_S.rf
