/-! THROWS: contracts of methods that return or throw -/
abbrev XcM (cA : Nat → ClassId) (D : va_G) (b0 : Nat) (Hs : Heap) (X : String → MM → Prop) : String → State → State → Prop := vx_X (fun _ : MM => True) (fun E μ t => X E μ ∧ Wo cA D b0 Hs μ t.heap) (fun q => b0 ≤ q)
abbrev rmX (lev k : Nat) : Room := { frames := lev, cells := k, slots := 6 * k, locals := 40 * lev }
abbrev WpX : Type := List AV → MM → (Option AV → MM → Prop) → (String → MM → Prop) → Prop
def MetX (l : Launch) (y : MethodName) (cc : ByteArray) (maxL : Nat) (ret : Option FieldType) (lev k : Nat) (wp : WpX) : Prop :=
  ∀ (cA : Nat → ClassId) (D : va_G) (b0 : Nat) (Hs : Heap) (av : List AV) (μ : MM) (K : Option AV → MM → Prop) (X : String → MM → Prop), wp av μ K X → vx_Met l y (AWm y cc maxL ret) (rmX lev k) (PcM cA D b0 Hs (av.map (tv b0)) μ) (QcM cA D b0 Hs K) (XcM cA D b0 Hs X) k (6 * k) (fun q => b0 ≤ q)
def upK (k : Nat) (κ : Kap) : Kap := match κ with
  | (p, l, e, R, s, m, args, below, meth, c, cells, slots, Q, cA, D, b0, Hs) => (p, l, e, R, s, m, args, below, meth, c, cells + k, slots + 6 * k, Q, cA, D, b0, Hs)
def EnvN (κ : Kap) (own : String) (cc : ByteArray) (nL lev N : Nat) : Prop := Env1 κ own cc nL lev ∧ match κ with
  | (_, _, _, R, _, _, _, _, _, c, cells, slots, _, _, _, _, _) => (∀ x ∈ c.exceptionTable.toList, False) ∧ cells + N ≤ R.cells ∧ slots + 6 * N ≤ R.slots
def XQ (κ : Kap) (ret : Option FieldType) (post : Option AV → MM → Prop) (X : String → MM → Prop) : Prop := match κ with
  | (_, _, _, R, s, _, args, below, meth, _, _, _, Q, cA, D, b0, Hs) => meth.sig.returnType = ret ∧ Q = vx_MQ below (QcM cA D b0 Hs post) (XcM cA D b0 Hs X) args s R.cells R.slots (fun q => b0 ≤ q)
theorem EnvN.le {κ : Kap} {own : String} {cc : ByteArray} {nL lev N N' : Nat} (h : EnvN κ own cc nL lev N) (hn : N' ≤ N) : EnvN κ own cc nL lev N' := by
  obtain ⟨p, l, e, R, s, m, args, below, meth, c, cells, slots, Q, cA, D, b0, Hs⟩ := κ
  obtain ⟨h1, h2, h3, h4⟩ := h
  exact ⟨h1, h2, by omega, by omega⟩
theorem upE {κ : Kap} {own : String} {cc : ByteArray} {nL lev N : Nat} (n : Nat) {N' : Nat} (h : EnvN κ own cc nL lev N) (hn : n + N' ≤ N) : EnvN (upK n κ) own cc nL lev N' := by
  obtain ⟨p, l, e, R, s, m, args, below, meth, c, cells, slots, Q, cA, D, b0, Hs⟩ := κ
  obtain ⟨⟨⟨hx, hb, hml, hown, hts, hlk, hK, hb0, hfr, hlo, hc1, hs1⟩, htr, hZ⟩, h2, h3, h4⟩ := h
  exact ⟨⟨⟨hx, hb, hml, hown, hts, hlk, hK, hb0, hfr, hlo, by omega, by omega⟩, htr, hZ⟩, h2, by omega, by omega⟩
theorem upQ {κ : Kap} {ret : Option FieldType} {post : Option AV → MM → Prop} {X : String → MM → Prop} (n : Nat) (h : XQ κ ret post X) : XQ (upK n κ) ret post X := by
  obtain ⟨p, l, e, R, s, m, args, below, meth, c, cells, slots, Q, cA, D, b0, Hs⟩ := κ
  exact h
theorem XQ.ok {κ : Kap} {own : String} {cc : ByteArray} {nL lev : Nat} {ret : Option FieldType} {post : Option AV → MM → Prop} {X : String → MM → Prop} (h : XQ κ ret post X) (hE : Env1 κ own cc nL lev) : RetOK κ ret post := by
  obtain ⟨p, l, e, R, s, m, args, below, meth, c, cells, slots, Q, cA, D, b0, Hs⟩ := κ
  obtain ⟨⟨hx, hb, hml, hown, hts, hlk, hK, hb0, hfr, hlo, hc1, hs1⟩, htr, hZ⟩ := hE
  obtain ⟨h1, rfl⟩ := h
  refine ⟨h1, fun H locs g k => vx_ret ?_⟩
  intro T hT X9
  obtain ⟨t, a1, o, b1, b2, b3, L, hF, hL⟩ := k T hT X9
  exact ⟨t, a1, o, b1, b2, b3, L, ⟨hF.1, hF.2.1, hF.2.2.mono hc1 hs1⟩, hL⟩
section
variable {p : Program} {l : Launch} {e : Env} {R : Room} {s : State} {m : MethodId} {args : Array Value} {below : List Frame} {meth : Method} {c : Code} {H : Heap} {locs : List Loc} {cells slots mc ms : Nat} {Q : State → Prop} {cA : Nat → ClassId} {D : va_G} {b0 : Nat} {Hs : Heap}
theorem bind_callX {pc : Nat} {ls : Array Slot} {st0 rest : List Value} {a : Array Value} {K : Option AV → MM → Prop} {X : String → MM → Prop} (hr : vx_Run p l e R s m args below meth c H locs cells slots mc ms (F0 m pc ls st0) rest (QcM cA D b0 Hs K a) (XcM cA D b0 Hs X) (fun q => b0 ≤ q)) (hS : va_S (fun q => b0 ≤ q) s.heap H locs)
    (kx : ∀ (E : String) (ce : Cell) (q9 : Addr) (μ : MM) (H1 : Heap) (locs1 : List Loc), X E μ → Wo cA D b0 Hs μ H1 → va_S (fun q => b0 ≤ q) s.heap H1 locs1 → H1[q9]? = some ce → ce.vm = .none → s.vm.findClass E = some ce.cls → vx_W p l e R s m args below meth c H1 locs1 (cells + mc) (slots + ms) Q (F0 m pc ls rest) q9)
    (kk : ∀ (r : Option AV) (μ : MM) (H1 : Heap) (locs1 : List Loc), K r μ → Wo cA D b0 Hs μ H1 → va_S (fun q => b0 ≤ q) s.heap H1 locs1 → W p l e R s m args below meth c H1 locs1 (cells + mc) (slots + ms) Q (F0 m (pc + 3) ls ((r.map (tv b0)).toList ++ rest))) : W p l e R s m args below meth c H locs cells slots Q (F0 m pc ls st0) := by
  intro T hT X9
  rcases hr T hT X9 with ⟨v, st₀, t, T', L, h0, X', hL, e1, e2, ⟨⟨r, μ, hv, hp, hb⟩, hF⟩, st⟩ | ⟨q, st₀, t, T', L, E, ce, h0, X', hL, e1, e2, ⟨μ, -, ⟨hp, hb⟩, hF⟩, hce, hcv, hcl, st⟩
  · cases hv
    obtain ⟨k1, k2, k3⟩ := vx_keep (A1 := fun q => b0 ≤ q) (free := fun q => b0 ≤ q) h0 e1 hS (fun _ _ h => h) (fun _ h => h) hL hF
    obtain ⟨t2, a1, b1⟩ := kk r μ T'.heap (locs ++ L) hp (by rw [e1]; exact hb) k3 T' rfl X'
    exact ⟨t2, st t2 a1, b1⟩
  · obtain ⟨k1, k2, k3⟩ := vx_keep (A1 := fun q => b0 ≤ q) (free := fun q => b0 ≤ q) h0 e1 hS (fun _ _ h => h) (fun _ h => h) hL hF
    obtain ⟨t2, a1, b1⟩ := kx E ce q μ T'.heap (locs ++ L) hp (by rw [e1]; exact hb) k3 (by rw [e1]; exact hce) hcv hcl T' rfl X'
    exact ⟨t2, st.trans a1, b1⟩
end
def o_callVX (na ci : Nat) (wp : WpX) (X : String → MM → Prop) (kk : PT) : PT := fun L st μ => match st.drop na with
  | .inr (.inr a) :: r => isK a ci ∧ catS r ≤ 8 ∧ wp (.inr (.inr a) :: (st.take na).reverse) μ (fun v μ' => kk L (v.toList ++ r) μ') X
  | _ => False
def o_callSX (na : Nat) (wp : WpX) (X : String → MM → Prop) (kk : PT) : PT := fun L st μ => na ≤ st.length ∧ catS (st.drop na) ≤ 8 ∧ wp (st.take na).reverse μ (fun v μ' => kk L (v.toList ++ st.drop na) μ') X
theorem s_callVX {κ : Kap} {own : String} {cc : ByteArray} {nL lev N k : Nat} (h : EnvN κ own cc nL lev N) {rt : Option FieldType} {post : Option AV → MM → Prop} {X : String → MM → Prop} (hq : XQ κ rt post X) (hn : k ≤ N) {pc ix na ci maxL lev' : Nat} {y : MethodName} {T : u_T} {NN : Nat} {bytes : ByteArray} {ret : Option FieldType} {wp : WpX} {kk : PT} (d : decode cc pc = .ok (.invokevirtual ix, 3)) (hM : ∀ l : Launch, l.stackTraces = false → MetX l y bytes maxL ret lev' k wp) (hlev : lev' + 1 ≤ lev) (hy : MOK y bytes maxL ret na) (hv : VOK y) (hlink : Cond.methodLink own ix y ∈ AW) (hc : ci < 11) (hcl : vwCl[ci]? = some (y.cls, T, NN)) (hk : Snd (upK k κ) (pc + 3) kk) : Snd κ pc (o_callVX na ci wp X kk) := by
  obtain ⟨p, l, e, R, s, m, args, below, meth, c, cells, slots, Q, cA, D, b0, Hs⟩ := κ
  obtain ⟨⟨⟨hx, hb, hml, hown, hts, hlk, hK, hb0, hfr, hlo, hc1, hs1⟩, htr, hZ⟩, hno, hc2, hs2⟩ := h
  obtain ⟨y1, y2, y3, y4, y5⟩ := hy
  obtain ⟨hq1, hq2⟩ := hq
  subst hq2
  intro L st μ H locs ls hB hL hW hS
  unfold o_callVX at hB
  split at hB
  · rename_i a r hst
    obtain ⟨g1, g2, g3⟩ := hB
    obtain ⟨t1, t2⟩ := take_drop_eq hst
    refine bind_callX (vx_runV (As := (st.take na).reverse.map (tv b0)) (rest := r.map (tv b0)) (b := b0 + a) (own := own) (Ts := AW) (C := y.cls) (n := na) ⟨hx, hb, rfl, hown, hts⟩ (hM l htr cA D b0 Hs _ μ _ _ g3)
      (cwV (ws' := AW) na hts (goodIn_ap2 (ha_wsV hlink hv y2) (AWm_good y1)) rfl rfl rfl ⟨rfl, y3⟩ ⟨by rw [hfr]; exact hlev, by rw [hlo]; show 8 + (maxL + 11) + 40 * lev' ≤ 40 * lev; omega⟩)
      ⟨PcM_blind, va_recv hK hW.2.1 hcl (PW_ob g1 hc), fun U hU hWm => ⟨rfl, by rw [hU]; exact hW, hZ.warm hWm⟩⟩ rfl (by rw [List.length_map, List.length_reverse, t2]) (hL.1.trans rfl) (by rw [← List.map_reverse, List.reverse_reverse]; exact (congrArg (List.map (tv b0)) t1).trans List.map_append) (lv_room (by rw [catS_ok]; exact g2)) d ⟨by omega, by omega⟩) hS (fun E ce q9 μ' H1 locs1 hx1 hW1 hS1 hce hcv hcl1 => ?_) (fun v μ' H1 locs1 hk1 hW1 hS1 => ?_)
    · exact vx_out (fun x hx9 => (hno x hx9).elim) hlk hce hcv hcl1 (fun t ht hal => ⟨μ', trivial, ⟨hx1, by rw [ht]; exact hW1⟩, hS1.F ht⟩) hS1.2.2 (by omega) (by omega)
    · have e1 : (v.map (tv b0)).toList ++ r.map (tv b0) = (v.toList ++ r).map (tv b0) := by cases v <;> rfl
      rw [e1]
      exact hk L _ μ' H1 locs1 ls hk1 hL hW1 hS1
  · exact hB.elim
theorem s_callSX {κ : Kap} {own : String} {cc : ByteArray} {nL lev N k : Nat} (h : EnvN κ own cc nL lev N) {rt : Option FieldType} {post : Option AV → MM → Prop} {X : String → MM → Prop} (hq : XQ κ rt post X) (hn : k ≤ N) {pc ix na maxL lev' : Nat} {y : MethodName} {bytes : ByteArray} {ret : Option FieldType} {wp : WpX} {kk : PT} (d : decode cc pc = .ok (.invokestatic ix, 3)) (hM : ∀ l : Launch, l.stackTraces = false → MetX l y bytes maxL ret lev' k wp) (hlev : lev' + 1 ≤ lev) (hy : MOK y bytes maxL ret na) (hv : Cond.static y ∈ AW) (hlink : Cond.methodLink own ix y ∈ AW) (hk : Snd (upK k κ) (pc + 3) kk) : Snd κ pc (o_callSX na wp X kk) := by
  obtain ⟨p, l, e, R, s, m, args, below, meth, c, cells, slots, Q, cA, D, b0, Hs⟩ := κ
  obtain ⟨⟨⟨hx, hb, hml, hown, hts, hlk, hK, hb0, hfr, hlo, hc1, hs1⟩, htr, hZ⟩, hno, hc2, hs2⟩ := h
  obtain ⟨y1, y2, y3, y4, y5⟩ := hy
  obtain ⟨hq1, hq2⟩ := hq
  subst hq2
  intro L st μ H locs ls hB hL hW hS
  obtain ⟨g1, g2, g3⟩ := hB
  have t2 : (st.take na).length = na := by rw [List.length_take]; omega
  refine bind_callX (vx_runS (As := (st.take na).reverse.map (tv b0)) (rest := (st.drop na).map (tv b0)) (own := own) (Ts := AW) (n := na) ⟨hx, hb, rfl, hown, hts⟩ (hM l htr cA D b0 Hs _ μ _ _ g3)
      (va_cwS (ws' := AW) na hts (goodIn_ap2 (ha_wsS hlink hv y2) (AWm_good y1)) rfl rfl rfl y3 ⟨by rw [hfr]; exact hlev, by rw [hlo]; show 8 + (maxL + 11) + 40 * lev' ≤ 40 * lev; omega⟩)
      ⟨PcM_blind, fun U hU hWm => ⟨rfl, by rw [hU]; exact hW, hZ.warm hWm⟩⟩ rfl (by rw [List.length_map, List.length_reverse, t2]) (hL.1.trans rfl) (by rw [← List.map_reverse, List.reverse_reverse, ← List.map_append, List.take_append_drop]) (lv_room (by rw [catS_ok]; exact g2)) d ⟨by omega, by omega⟩) hS (fun E ce q9 μ' H1 locs1 hx1 hW1 hS1 hce hcv hcl1 => ?_) (fun v μ' H1 locs1 hk1 hW1 hS1 => ?_)
  · exact vx_out (fun x hx9 => (hno x hx9).elim) hlk hce hcv hcl1 (fun t ht hal => ⟨μ', trivial, ⟨hx1, by rw [ht]; exact hW1⟩, hS1.F ht⟩) hS1.2.2 (by omega) (by omega)
  · have e1 : (v.map (tv b0)).toList ++ (st.drop na).map (tv b0) = (v.toList ++ st.drop na).map (tv b0) := by cases v <;> rfl
    rw [e1]
    exact hk L _ μ' H1 locs1 ls hk1 hL hW1 hS1
/-- new X(text) is thrown -/
def o_throw (E : String) (X : String → MM → Prop) : PT := fun _ st μ => catS st ≤ 8 ∧ X E μ
theorem Zq_at {cA : Nat → ClassId} {D : va_G} {b0 : Nat} {Hs H : Heap} {s : State} {locs : List Loc} {μ : MM} {C n d : String} (h : vx_Zq C n d (fun q => b0 ≤ q) s Hs) (hb0 : b0 ≤ s.heap.size) (hW : Wo cA D b0 Hs μ H) (hS : va_S (fun q => b0 ≤ q) s.heap H locs) : vx_Zq C n d (fun q => b0 ≤ q) s s.heap := h.kept (fun a h1 h2 => by
  have h3 : a < b0 := Nat.not_le.mp h2
  rw [← hS.2.1 a (by omega) h2]
  exact hW.2.2 a h3)
theorem s_throw {κ : Kap} {own : String} {cc : ByteArray} {nL lev N : Nat} (h : EnvN κ own cc nL lev N) {rt : Option FieldType} {post : Option AV → MM → Prop} {X : String → MM → Prop} (hq : XQ κ rt post X) (hn : 1 ≤ N) {pc ik is ic ti : Nat} {cls : String} (names : List String) (d0 : decode cc pc = .ok (.new ik, 3)) (d3 : decode cc (pc + 3) = .ok (.dup, 1)) (d4 : decode cc (pc + 4) = .ok (.ldc is, 2)) (d6 : decode cc (pc + 6) = .ok (.invokespecial ic, 3)) (d9 : decode cc (pc + 9) = .ok (.athrow, 1)) (hcls : Bundle.fit cls = true) (hnames : ∀ n ∈ names, Bundle.fit n = true) (hk : Cond.classLink own ik cls ∈ AW) (hini : Cond.initialized cls ∈ AW) (hs : (own, is, ti) ∈ strL) (hex : cls ∈ exC) (hat : ∀ w ∈ vx_atS own ic cls names, w ∈ AW ∨ w = .castable cls cls ∨ w ∈ decL.map Cond.declares) (hgood : ∀ w ∈ Cond.classLink own ik cls :: Cond.initialized cls :: vx_atS own ic cls names, vx_ot w = true) (hlv : names.length + 3 < lev ∧ 8 + (13 * (names.length + 1) + 43) ≤ 40 * lev) : Snd κ pc (o_throw cls X) := by
  obtain ⟨p, l, e, R, s, m, args, below, meth, c, cells, slots, Q, cA, D, b0, Hs⟩ := κ
  obtain ⟨⟨⟨hx, hb, hml, hown, hts, hlk, hK, hb0, hfr, hlo, hc1, hs1⟩, htr, hZ⟩, hno, hc2, hs2⟩ := h
  obtain ⟨hq1, hq2⟩ := hq
  subst hq2
  intro L st μ H locs ls hB hL hW hS
  obtain ⟨g1, g2⟩ := hB
  obtain ⟨hZ1, hZ2, hZ3, hZ4, ⟨sa, sv, hZ5, hZ6⟩, hZ7, hZ8, hZ9, hZ10, hZ11⟩ := hZ
  refine vx_throwS (names := names) (A := fun q => b0 ≤ q) (rest := st.map (tv b0)) hx hb htr hown hcls hnames (hts _ hk) (hts _ hini) (hZ5 _ hs) (fun w hw => (hat w hw).elim (fun z => hts w z) (fun z => z.elim (fun z => by rw [z]; exact va_Nw.use rfl (hZ7 _ hex)) (fun z => by obtain ⟨q, h8, rfl⟩ := List.mem_map.mp z; exact va_Nw.use rfl (hZ9 q h8)))) hgood (Zq_at hZ3 hb0 hW hS) (Zq_at hZ4 hb0 hW hS) hS hL.1 d0 d3 d4 d6 d9 (fun x hx9 => (hno x hx9).elim) (by rw [hfr]; exact hlv.1) (by rw [catS_ok, hlo]; omega) (by omega) (by omega) hlk (fun t hal hz hk9 => ?_) hS.2.2 (by omega) (by omega)
  exact ⟨μ, trivial, ⟨g2, ⟨by have := hW.1; omega, fun k q hq => (hW.2.1 k q hq).kept (hk9 q.1 (hW.2.1 k q hq).lt), fun q hq => by rw [hk9 q (by have := hW.1; omega)]; exact hW.2.2 q hq⟩⟩, Nat.le_trans hS.1 hz, fun q h1 h2 => by rw [hk9 q (Nat.lt_of_lt_of_le h1 hS.1)]; exact hS.2.1 q h1 h2⟩
theorem s_throwW {κ : Kap} {own : String} {cc : ByteArray} {nL lev N : Nat} (h : EnvN κ own cc nL lev N) {rt : Option FieldType} {post : Option AV → MM → Prop} {X : String → MM → Prop} (hq : XQ κ rt post X) (hn : 1 ≤ N) {pc ik is ic ti : Nat} {cls : String} (names : List String) (d0 : decode cc pc = .ok (.new ik, 3)) (d3 : decode cc (pc + 3) = .ok (.dup, 1)) (d4 : decode cc (pc + 4) = .ok (.ldc_w is, 3)) (d7 : decode cc (pc + 7) = .ok (.invokespecial ic, 3)) (d10 : decode cc (pc + 10) = .ok (.athrow, 1)) (hcls : Bundle.fit cls = true) (hnames : ∀ n ∈ names, Bundle.fit n = true) (hk : Cond.classLink own ik cls ∈ AW) (hini : Cond.initialized cls ∈ AW) (hs : (own, is, ti) ∈ strL) (hex : cls ∈ exC) (hat : ∀ w ∈ vx_atS own ic cls names, w ∈ AW ∨ w = .castable cls cls ∨ w ∈ decL.map Cond.declares) (hgood : ∀ w ∈ Cond.classLink own ik cls :: Cond.initialized cls :: vx_atS own ic cls names, vx_ot w = true) (hlv : names.length + 3 < lev ∧ 8 + (13 * (names.length + 1) + 43) ≤ 40 * lev) : Snd κ pc (o_throw cls X) := by
  obtain ⟨p, l, e, R, s, m, args, below, meth, c, cells, slots, Q, cA, D, b0, Hs⟩ := κ
  obtain ⟨⟨⟨hx, hb, hml, hown, hts, hlk, hK, hb0, hfr, hlo, hc1, hs1⟩, htr, hZ⟩, hno, hc2, hs2⟩ := h
  obtain ⟨hq1, hq2⟩ := hq
  subst hq2
  intro L st μ H locs ls hB hL hW hS
  obtain ⟨g1, g2⟩ := hB
  obtain ⟨hZ1, hZ2, hZ3, hZ4, ⟨sa, sv, hZ5, hZ6⟩, hZ7, hZ8, hZ9, hZ10, hZ11⟩ := hZ
  refine vx_throwSW (names := names) (A := fun q => b0 ≤ q) (rest := st.map (tv b0)) hx hb htr hown hcls hnames (hts _ hk) (hts _ hini) (hZ5 _ hs) (fun w hw => (hat w hw).elim (fun z => hts w z) (fun z => z.elim (fun z => by rw [z]; exact va_Nw.use rfl (hZ7 _ hex)) (fun z => by obtain ⟨q, h8, rfl⟩ := List.mem_map.mp z; exact va_Nw.use rfl (hZ9 q h8)))) hgood (Zq_at hZ3 hb0 hW hS) (Zq_at hZ4 hb0 hW hS) hS hL.1 d0 d3 d4 d7 d10 (fun x hx9 => (hno x hx9).elim) (by rw [hfr]; exact hlv.1) (by rw [catS_ok, hlo]; omega) (by omega) (by omega) hlk (fun t hal hz hk9 => ?_) hS.2.2 (by omega) (by omega)
  exact ⟨μ, trivial, ⟨g2, ⟨by have := hW.1; omega, fun k q hq => (hW.2.1 k q hq).kept (hk9 q.1 (hW.2.1 k q hq).lt), fun q hq => by rw [hk9 q (by have := hW.1; omega)]; exact hW.2.2 q hq⟩⟩, Nat.le_trans hS.1 hz, fun q h1 h2 => by rw [hk9 q (Nat.lt_of_lt_of_le h1 hS.1)]; exact hS.2.1 q h1 h2⟩
def wpX (nL : Nat) (B : (Option AV → MM → Prop) → (String → MM → Prop) → PT) : WpX := fun av μ K X => (eL av).length ≤ nL ∧ B K X (eL av ++ List.replicate (nL - (eL av).length) none) [] μ
theorem metx_of {y : MethodName} {cc : ByteArray} {maxL lev k : Nat} {ret : Option FieldType} {B : (Option AV → MM → Prop) → (String → MM → Prop) → PT} (hy : plainName y.cls = true) (hB : ∀ (κ : Kap) (post : Option AV → MM → Prop) (X : String → MM → Prop), EnvN κ y.cls cc maxL lev k → XQ κ ret post X → Snd κ 0 (B post X)) : ∀ l : Launch, l.stackTraces = false → MetX l y cc maxL ret lev k (wpX maxL B) := by
  intro l htr cA D b0 Hs av μ K X hwp
  refine vx_ofW (cc := cc) (maxL := maxL) (ret := ret) (ws' := AW) hy rfl ?_
  intro p e s m args below meth c s₁ Bd hml hno hv
  obtain ⟨rfl, hW, hZ⟩ := hv
  have hts := atoms_spec (ws := AWm y cc maxL ret) Bd.pre
  have hown : s.vm.findClass y.cls = some m.cls := findClass_of_methodNamed Bd.named
  rw [lg_entry_eq]
  have hE := entry_LH (b0 := b0) hwp.1
  have key := hB (p, l, e, (headSpec (AWm y cc maxL ret) (rmX lev k)).room, s, m, (av.map (tv b0)).toArray, below, meth, c, 0, 0, vx_MQ below (QcM cA D b0 Hs K) (XcM cA D b0 Hs X) (av.map (tv b0)).toArray s k (6 * k) (fun q => b0 ≤ q), cA, D, b0, Hs) K X
    ⟨⟨⟨Bd.exec, Bd.bytes, hml, hown, fun w hw => hts w (List.mem_cons_of_mem _ hw), Bd.notSynchronized, hZ.1, by have := hW.1; omega, rfl, rfl, Nat.zero_le _, Nat.zero_le _⟩, htr, hZ⟩, fun x hx9 => hno x hx9, by show 0 + k ≤ k; omega, by show 0 + 6 * k ≤ 6 * k; omega⟩ ⟨Bd.returns, rfl⟩
  exact key _ [] μ s.heap [] _ hwp.2 (by rw [hml]; exact hE) hW va_S.rf
def exN : List String := ["java/lang/RuntimeException", "java/lang/Exception"]
theorem exN_fit : ∀ n ∈ exN, Bundle.fit n = true := by decide +kernel
