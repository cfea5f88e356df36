/-! FLOATS 2: methods that answer a float or a double -/
abbrev QcV (cA : Nat → ClassId) (D : va_G) (b0 : Nat) (Hs : Heap) (K : Value → MM → Prop) : Array Value → State → Outcome → State → Prop := fun _ st oc t =>
  (∃ (r : Value) (μ : MM), oc = .returned (some r) ∧ K r μ ∧ Wo cA D b0 Hs μ t.heap) ∧ va_F (fun q => b0 ≤ q) st t
def MetV (l : Launch) (y : MethodName) (cc : ByteArray) (maxL : Nat) (ret : Option FieldType) (lev : Nat) (wp : List AV → MM → (Value → MM → Prop) → Prop) : Prop :=
  ∀ (cA : Nat → ClassId) (D : va_G) (b0 : Nat) (Hs : Heap) (av : List AV) (μ : MM) (K : Value → MM → Prop), wp av μ K → Met l y (AWm y cc maxL ret) (rmL lev) (PcM cA D b0 Hs (av.map (tv b0)) μ) (QcV cA D b0 Hs K) 0 0 (fun q => b0 ≤ q)
section
variable {p : Program} {l : Launch} {e : Env} {R : Room} {s : State} {m : MethodId} {args : Array Value} {below : List Frame} {meth : Method} {c : Code} {H : Heap} {locs : List Loc} {cells slots : Nat} {Q : State → Prop} {cA : Nat → ClassId} {D : va_G} {b0 : Nat} {Hs : Heap} {own : String} {cc : ByteArray} {nL lev : Nat} {V : List Value} {ls : Array Slot} {μ : MM}
theorem bind_callV {pc : Nat} {st0 rest : List Value} {a : Array Value} {K : Value → MM → Prop} (hb0 : b0 ≤ s.heap.size) (hr : va_Run p l e R s m args below meth c H locs cells slots 0 0 (F0 m pc ls st0) rest (QcV cA D b0 Hs K a) (fun q => b0 ≤ q)) (hS : va_S (fun q => b0 ≤ q) s.heap H locs)
    (kk : ∀ (r : Value) (μ : MM) (H1 : Heap) (locs1 : List Loc), K r μ → Wo cA D b0 Hs μ H1 → va_S (fun q => b0 ≤ q) s.heap H1 locs1 → W p l e R s m args below meth c H1 locs1 cells slots Q (F0 m (pc + 3) ls (r :: rest))) : W p l e R s m args below meth c H locs cells slots Q (F0 m pc ls st0) := by
  intro T hT X
  obtain ⟨v, st₀, t, T', L, h0, X', hL, e1, e2, ⟨⟨r, μ, hv, hp, hb⟩, hz, hk⟩, st⟩ := hr T hT X
  cases hv
  rw [h0] at hz hk
  obtain ⟨t2, a1, b1⟩ := kk r μ T'.heap (locs ++ L) hp (by rw [e1]; exact hb)
    ⟨Nat.le_trans hS.1 (by rw [e1]; exact hz), fun q h1 h2 => by rw [e1, hk q (Nat.lt_of_lt_of_le h1 hS.1) h2]; exact hS.2.1 q h1 h2, fun q hq => by
      rcases List.mem_append.mp hq with h | h
      · exact hS.2.2 q h
      · exact hL q h⟩ T' rfl X'
  exact ⟨t2, st t2 a1, b1⟩
theorem m_getI (h : Amb (p, l, e, R, s, m, args, below, meth, c, cells, slots, Q, cA, D, b0, Hs) own cc nL lev) {pc ci k ix : Nat} {C ref : String} {T : u_T} (d : decode cc pc = .ok (.getfield ix, 3)) (hc : ci < 11) (hcl : vwCl[ci]? = some (C, T, nf ci)) (hk9 : k < nf ci) (hf : fk ci k = 0 ∨ fk ci k = 3) (hin : ∀ w ∈ u_ws C T (nf ci), w ∈ AW) (href : (T k).1 = ref) (hw : Cond.fieldLink own ix ref (T k).2.1 (T k).2.2.1 ∈ AW) {a : Nat} (g : isK a ci) (hW : Wo cA D b0 Hs μ H) (kk : W p l e R s m args below meth c H locs cells slots Q (F0 m (pc + 3) ls (.int (jI (μ.1 a k)) :: V))) : W p l e R s m args below meth c H locs cells slots Q (F0 m pc ls (.ref (b0 + a) :: V)) := by
  obtain ⟨hx, hb, hml, hown, hts, hlk, hK, hb0, hfr, hlo, hc1, hs1⟩ := h
  have hres := fv_i g.2 hf (I := μ.1) (J := μ.2) (b0 := b0) (k := k)
  refine va_get (v := fv μ.1 μ.2 b0 a k) (rest := V) hx hb hts hin hown hK hW.2.1 a (PW_ob g hc) hcl k hk9 (ref := ref) (hts _ hw) (fun z hz => by rw [← href]; exact hz) (fv_at hk9) d ?_
  rw [hres]
  exact kk
theorem m_getR (h : Amb (p, l, e, R, s, m, args, below, meth, c, cells, slots, Q, cA, D, b0, Hs) own cc nL lev) {pc ci k ix : Nat} {C ref : String} {T : u_T} (d : decode cc pc = .ok (.getfield ix, 3)) (hc : ci < 11) (hcl : vwCl[ci]? = some (C, T, nf ci)) (hk9 : k < nf ci) (hf : fk ci k = 2) (hin : ∀ w ∈ u_ws C T (nf ci), w ∈ AW) (href : (T k).1 = ref) (hw : Cond.fieldLink own ix ref (T k).2.1 (T k).2.2.1 ∈ AW) {a : Nat} (g : isK a ci) (hW : Wo cA D b0 Hs μ H) (kk : W p l e R s m args below meth c H locs cells slots Q (F0 m (pc + 3) ls (.ref (b0 + (a + ro ci k)) :: V))) : W p l e R s m args below meth c H locs cells slots Q (F0 m pc ls (.ref (b0 + a) :: V)) := by
  obtain ⟨hx, hb, hml, hown, hts, hlk, hK, hb0, hfr, hlo, hc1, hs1⟩ := h
  have hres := fv_r g.2 hc hf (I := μ.1) (J := μ.2) (b0 := b0) (k := k)
  refine va_get (v := fv μ.1 μ.2 b0 a k) (rest := V) hx hb hts hin hown hK hW.2.1 a (PW_ob g hc) hcl k hk9 (ref := ref) (hts _ hw) (fun z hz => by rw [← href]; exact hz) (fv_at hk9) d ?_
  rw [hres]
  exact kk
theorem m_callV (h : Env1 (p, l, e, R, s, m, args, below, meth, c, cells, slots, Q, cA, D, b0, Hs) own cc nL lev) {pc ix na ci maxL lev' : Nat} {y : MethodName} {T : u_T} {N : Nat} {bytes : ByteArray} {ret : Option FieldType} {wp : List AV → MM → (Option AV → MM → Prop) → Prop} (d : decode cc pc = .ok (.invokevirtual ix, 3)) (hM : ∀ l : Launch, l.stackTraces = false → MetM l y bytes maxL ret lev' wp) (hlev : lev' + 1 ≤ lev) (hy : MOK y bytes maxL ret na) (hv : VOK y) (hlink : Cond.methodLink own ix y ∈ AW) (hc : ci < 11) (hcl : vwCl[ci]? = some (y.cls, T, N)) {a : Nat} (g1 : isK a ci) (As : List AV) (hA : As.length = na) (hV : (V.map fun v => v.category).sum ≤ 8) {K : Option AV → MM → Prop} (g3 : wp (.inr (.inr a) :: As) μ K) (hls : ls.size = c.maxLocals) (hW : Wo cA D b0 Hs μ H) (hS : va_S (fun q => b0 ≤ q) s.heap H locs)
    (kk : ∀ (v : Option AV) (μ' : MM) (H1 : Heap) (locs1 : List Loc), K v μ' → Wo cA D b0 Hs μ' H1 → va_S (fun q => b0 ≤ q) s.heap H1 locs1 → W p l e R s m args below meth c H1 locs1 cells slots Q (F0 m (pc + 3) ls ((v.map (tv b0)).toList ++ V))) : W p l e R s m args below meth c H locs cells slots Q (F0 m pc ls ((As.map (tv b0)).reverse ++ .ref (b0 + a) :: V)) := by
  obtain ⟨⟨hx, hb, hml, hown, hts, hlk, hK, hb0, hfr, hlo, hc1, hs1⟩, htr, hZ⟩ := h
  obtain ⟨y1, y2, y3, y4, y5⟩ := hy
  exact bind_call hb0 (va_runV (As := As.map (tv b0)) (rest := V) (b := b0 + a) (own := own) (Ts := AW) (C := y.cls) (n := na) ⟨hx, hb, rfl, hown, hts⟩ (hM l htr cA D b0 Hs _ μ _ g3)
      (cwV (ws' := AW) na hts (goodIn_ap2 (ha_wsV hlink hv y2) (AWm_good y1)) rfl rfl rfl ⟨rfl, y3⟩ ⟨by rw [hfr]; exact hlev, by rw [hlo]; show 8 + (maxL + 11) + 40 * lev' ≤ 40 * lev; omega⟩)
      ⟨PcM_blind, va_recv hK hW.2.1 hcl (PW_ob g1 hc), fun U hU hWm => ⟨rfl, by rw [hU]; exact hW, hZ.warm hWm⟩⟩ rfl (by rw [List.length_map, hA]) (hls.trans rfl) rfl (lv_room hV) d ⟨hc1, hs1⟩) hS kk
end
def RetV (κ : Kap) (ret : Option FieldType) (post : Value → MM → Prop) : Prop := match κ with
  | (p, l, e, R, s, m, args, below, meth, c, cells, slots, Q, cA, D, b0, Hs) => meth.sig.returnType = ret ∧ ∀ (H : Heap) (locs : List Loc) (g : JFrame), W p l e R s m args below meth c H locs cells slots (MQ below (QcV cA D b0 Hs post) args s cells slots (fun q => b0 ≤ q)) g → W p l e R s m args below meth c H locs cells slots Q g
theorem met_ofV {y : MethodName} {cc : ByteArray} {maxL lev : Nat} {ret : Option FieldType} {B : (Value → MM → Prop) → PT} (hy : plainName y.cls = true) (hB : ∀ (κ : Kap) (post : Value → MM → Prop), Env1 κ y.cls cc maxL lev → RetV κ ret post → Snd κ 0 (B post)) : ∀ l : Launch, l.stackTraces = false → MetV l y cc maxL ret lev (fun av μ K => (eL av).length ≤ maxL ∧ B K (eL av ++ List.replicate (maxL - (eL av).length) none) [] μ) := by
  intro l htr cA D b0 Hs av μ K hwp
  refine Met.ofW (cc := cc) (maxL := maxL) (ret := ret) (ws' := AW) hy rfl ?_
  intro p e s m args below meth c s₁ Bd hml hv
  obtain ⟨rfl, hW, hZ⟩ := hv
  have hts := atoms_spec (ws := AWm y cc maxL ret) Bd.pre
  have hown : s.vm.findClass y.cls = some m.cls := findClass_of_methodNamed Bd.named
  rw [lg_entry_eq]
  have hE := entry_LH (b0 := b0) hwp.1
  have key := hB (p, l, e, (headSpec (AWm y cc maxL ret) (rmL lev)).room, s, m, (av.map (tv b0)).toArray, below, meth, c, 0, 0, MQ below (QcV cA D b0 Hs K) (av.map (tv b0)).toArray s 0 0 (fun q => b0 ≤ q), cA, D, b0, Hs) K
    ⟨⟨Bd.exec, Bd.bytes, hml, hown, fun w hw => hts w (List.mem_cons_of_mem _ hw), Bd.notSynchronized, hZ.1, by have := hW.1; omega, rfl, rfl, Nat.zero_le _, Nat.zero_le _⟩, htr, hZ⟩ ⟨Bd.returns, fun _ _ _ h => h⟩
  exact key _ [] μ s.heap [] _ hwp.2 (by rw [hml]; exact hE) hW va_S.rf
/-! the class -/
def T_X9_lossShare : List (Nat × Instr × Nat) := [(0, .aload_n 0, 1), (1, .getfield 33, 3), (4, .getfield 144, 3), (7, .ifCond .ne 5, 3), (10, .fconst 0, 1), (11, .freturn, 1), (12, .aload_n 0, 1), (13, .getfield 33, 3), (16, .getfield 135, 3), (19, .getfield 139, 3), (22, .i2f, 1), (23, .aload_n 0, 1), (24, .getfield 33, 3), (27, .getfield 144, 3), (30, .i2f, 1), (31, .fdiv, 1), (32, .freturn, 1)]
set_option maxRecDepth 20000 in
theorem D_X9_lossShare : ∀ q ∈ T_X9_lossShare, decode cX9_lossShare q.1 = .ok q.2 := by decide +kernel
def E_X9_loss10 (post : Value → MM → Prop) : PT := fun L st μ => st = [] ∧ post (.float FP.fconst0) μ
def fq (a b : Int) : UInt32 := FP.fdiv (FP.i2f (jI a)) (FP.i2f (jI b))
def dq (a b : Int) : UInt64 := FP.ddiv (FP.i2d (jI a)) (FP.i2d (jI b))
def E_X9_loss12 (post : Value → MM → Prop) : PT := fun L st μ => st = [] ∧ ∃ a, L[0]? = some (some (.inr (.inr a))) ∧ isK a 9 ∧ isK (a + ro 9 3) 6 ∧ isK (a + ro 9 3 + ro 6 7) 1 ∧ vf_n32 (fq (μ.1 (a + ro 9 3 + ro 6 7) 5) (μ.1 (a + ro 9 3) 5)) ∧ post (.float (fq (μ.1 (a + ro 9 3 + ro 6 7) 5) (μ.1 (a + ro 9 3) 5))) μ
theorem s_X9_loss10 {κ : Kap} {post : Value → MM → Prop} (h : Env1 κ RX9 cX9_lossShare 1 1) (hr : RetV κ (some .float) post) : Snd κ 10 (E_X9_loss10 post) := by
  obtain ⟨p, l, e, R, s, m, args, below, meth, c, cells, slots, Q, cA, D, b0, Hs⟩ := κ
  obtain ⟨⟨hx, hb, hml, hown, hts, hlk, hK, hb0, hfr, hlo, hc1, hs1⟩, htr, hZ⟩ := h
  intro L st μ H locs ls hB hL hW hS
  obtain ⟨rfl, hB⟩ := hB
  refine lv_fconst0 hx hb (dk D_X9_lossShare 4 rfl) ?_
  exact hr.2 _ _ _ (W.fret (v := FP.fconst0) hx hb hr.1 (fun t ht hWm => ⟨⟨.float FP.fconst0, μ, rfl, hB, by rw [ht]; exact hW⟩, hS.F ht⟩) hS.2.2 (dk D_X9_lossShare 5 rfl) hlk)
theorem s_X9_loss12 {κ : Kap} {post : Value → MM → Prop} (h : Env1 κ RX9 cX9_lossShare 1 1) (hr : RetV κ (some .float) post) : Snd κ 12 (E_X9_loss12 post) := by
  obtain ⟨p, l, e, R, s, m, args, below, meth, c, cells, slots, Q, cA, D, b0, Hs⟩ := κ
  have h1 := h.1
  obtain ⟨⟨hx, hb, hml, hown, hts, hlk, hK, hb0, hfr, hlo, hc1, hs1⟩, htr, hZ⟩ := h
  intro L st μ H locs ls hB hL hW hS
  obtain ⟨rfl, a, hLa, k9, k6, k1, hnn, hB⟩ := hB
  refine lv_aload_n hx hb (dk D_X9_lossShare 6 rfl) rfl (hL.2.2 0 _ hLa) ?_
  refine m_getR (T := TX9) h1 (pc := 13) (dk D_X9_lossShare 7 rfl) ck_X9 rfl fk_X9_3 rfl in_X9 rfl f_X9_33 k9 hW ?_
  refine m_getR (T := TX6) h1 (pc := 16) (dk D_X9_lossShare 8 rfl) ck_X6 rfl fk_X6_7 rfl in_X6 rfl f_X9_135 k6 hW ?_
  refine m_getI (T := TX1) h1 (pc := 19) (dk D_X9_lossShare 9 rfl) ck_X1 rfl fk_X1_5 (Or.inl rfl) in_X1 rfl f_X9_139 k1 hW ?_
  refine lv_i2f hx hb (dk D_X9_lossShare 10 rfl) ?_
  refine lv_aload_n hx hb (dk D_X9_lossShare 11 rfl) rfl (hL.2.2 0 _ hLa) ?_
  refine m_getR (T := TX9) h1 (pc := 24) (dk D_X9_lossShare 12 rfl) ck_X9 rfl fk_X9_3 rfl in_X9 rfl f_X9_33 k9 hW ?_
  refine m_getI (T := TX6) h1 (pc := 27) (dk D_X9_lossShare 13 rfl) ck_X6 rfl fk_X6_5 (Or.inl rfl) in_X6 rfl f_X9_144 k6 hW ?_
  refine lv_i2f hx hb (dk D_X9_lossShare 14 rfl) ?_
  refine lv_fdiv hx hb (dk D_X9_lossShare 15 rfl) hnn ?_
  exact hr.2 _ _ _ (W.fret (v := fq (μ.1 (a + ro 9 3 + ro 6 7) 5) (μ.1 (a + ro 9 3) 5)) hx hb hr.1 (fun t ht hWm => ⟨⟨.float (fq (μ.1 (a + ro 9 3 + ro 6 7) 5) (μ.1 (a + ro 9 3) 5)), μ, rfl, hB, by rw [ht]; exact hW⟩, hS.F ht⟩) hS.2.2 (dk D_X9_lossShare 16 rfl) hlk)
def B_X9_lossShare_0 (post : Value → MM → Prop) : PT := o_aload 0 (o_getR 9 3 (o_getI 6 5 (o_if_ne (E_X9_loss12 post) (E_X9_loss10 post))))
theorem S_X9_lossShare_0 {κ : Kap} {post : Value → MM → Prop} (h : Env1 κ RX9 cX9_lossShare 1 1) (hr : RetV κ (some .float) post) : Snd κ 0 (B_X9_lossShare_0 post) := s_aload_n h.1 (pc := 0) (dk D_X9_lossShare 0 rfl) rfl (s_getR (T := TX9) h.1 (pc := 1) (dk D_X9_lossShare 1 rfl) ck_X9 rfl fk_X9_3 rfl in_X9 rfl f_X9_33 (s_getI (T := TX6) h.1 (pc := 4) (dk D_X9_lossShare 2 rfl) ck_X6 rfl fk_X6_5 (Or.inl rfl) in_X6 rfl f_X9_144 (s_if_ne h.1 (pc := 7) (dk D_X9_lossShare 3 rfl) (by decide) (s_X9_loss12 h hr) (s_X9_loss10 h hr))))
abbrev w_X9_lossShare : List AV → MM → (Value → MM → Prop) → Prop := fun av μ K => (eL av).length ≤ 1 ∧ B_X9_lossShare_0 K (eL av ++ List.replicate (1 - (eL av).length) none) [] μ
theorem M_X9_lossShare : ∀ l : Launch, l.stackTraces = false → MetV l yX9_lossShare cX9_lossShare 1 (some .float) 1 w_X9_lossShare := met_ofV (y := yX9_lossShare) (by decide +kernel) (fun κ post h hr => S_X9_lossShare_0 h hr)
