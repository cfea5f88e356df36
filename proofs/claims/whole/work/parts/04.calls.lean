/-! CALLS: what lies below b0 and stays; contracts; calls, returns, loops -/
def nwL : List (String × Nat × MethodName) := [(RX9, 11, yX8_init), (RX9, 18, yX7_init), (RX9, 25, yX5_init), (RX6, 26, yX3_init), (RX6, 33, yX1_init), (RX6, 38, yX2_init), (RX9, 52, yX4_init), (RX8, 56, yX9_within)]
def strT : List String := ["port", "first", "term", "keep", "arrive", "tick", "back", "extend", "repeat", "the buffer would hold more than 600 bytes", "a number is out of its range", "the text has an error", "the script has an error", "there is none of this number", "the port owes fewer cells or has fewer free ones", "the lender has less than it keeps back", "nothing was saved"]
def strL : List (String × Nat × Nat) := [(RX9, 63, 9), (RX9, 288, 10), (RX7, 39, 0), (RX7, 84, 1), (RX7, 48, 2), (RX7, 53, 3), (RX9, 82, 11), (RX5, 78, 4), (RX5, 84, 5), (RX5, 86, 6), (RX5, 88, 7), (RX5, 90, 2), (RX5, 92, 3), (RX5, 94, 8), (RX9, 96, 12), (RX9, 292, 13), (RX9, 246, 14), (RX9, 255, 15), (RX9, 283, 16)]
def strN : List Nat := [4, 5, 4, 4, 6, 4, 4, 6, 6]
def strB : List (List Int32) := [[112, 111, 114, 116], [102, 105, 114, 115, 116], [116, 101, 114, 109], [107, 101, 101, 112], [97, 114, 114, 105, 118, 101], [116, 105, 99, 107], [98, 97, 99, 107], [101, 120, 116, 101, 110, 100], [114, 101, 112, 101, 97, 116]]
def exC : List String := ["java/lang/IllegalStateException", "java/lang/IllegalArgumentException", "java/lang/IndexOutOfBoundsException"]
def decL : List MethodName := [Bundle.initS "java/lang/RuntimeException", Bundle.initS "java/lang/Exception", Bundle.initS "java/lang/Throwable"]
/-- what stays all along, below b0 -/
def ZZ (cA : Nat → ClassId) (D : va_G) (b0 : Nat) (Hs : Heap) (U : State) : Prop :=
  va_K D vwCl (tysA cA) U ∧ (∀ q ∈ nwL, va_Nw (.methodLinkNest q.1 q.2.1 q.2.2 "CellLoans") U) ∧ vx_Zq Bundle.tN "UNASSIGNED_STACK" Bundle.steD (fun q => b0 ≤ q) U Hs ∧ vx_Zq Bundle.tN "SUPPRESSED_SENTINEL" Bundle.listD (fun q => b0 ≤ q) U Hs ∧
  (∃ sa sv : Nat → Nat, (∀ q ∈ strL, vk_R q.1 q.2.1 (strT.getD q.2.2 "") (sa q.2.2) U) ∧ vk_S 9 strN strB sa sv (fun q => b0 ≤ q) U Hs) ∧
  (∀ n ∈ exC, va_Nw (.castable n n) U) ∧ (∀ a ∈ exC, ∀ b ∈ exC, a ≠ b → va_Nc a b U) ∧ (∀ q ∈ decL, va_Nw (.declares q) U) ∧ va_Z "java/lang/String" "COMPACT_STRINGS" "Z" (.int 1) (fun q => b0 ≤ q) U Hs ∧ va_Zq "jdk/internal/util/Preconditions" "SIOOBE_FORMATTER" "Ljava/util/function/BiFunction;" (fun q => b0 ≤ q) U Hs
theorem ZZ.warm {cA : Nat → ClassId} {D : va_G} {b0 : Nat} {Hs : Heap} {s U : State} (hW : s.WarmedH U.vm) (h : ZZ cA D b0 Hs s) : ZZ cA D b0 Hs U := by
  obtain ⟨h1, h2, h3, h4, ⟨sa, sv, h5, h6⟩, h7, h8, h9, h10, h11⟩ := h
  exact ⟨h1.moved hW.alike, fun q hq => (h2 q hq).warmM hW, h3.moved hW.alike, h4.moved hW.alike, ⟨sa, sv, fun q hq => (h5 q hq).warm hW, h6.moved hW.alike⟩, fun n hn => (h7 n hn).warmC hW, fun a ha b hb hne => (h8 a ha b hb hne).moved hW.alike, fun q hq => (h9 q hq).warmD hW, h10.moved hW.alike, h11.moved hW.alike⟩
theorem ZZ.same {cA : Nat → ClassId} {D : va_G} {b0 : Nat} {Hs : Heap} {s U : State} (hv : U.vm = s.vm) (h : ZZ cA D b0 Hs s) : ZZ cA D b0 Hs U := by
  obtain ⟨h1, h2, h3, h4, ⟨sa, sv, h5, h6⟩, h7, h8, h9, h10, h11⟩ := h
  have hal : s.vm.Alike U.vm := by rw [hv]; exact Vm.Alike.refl _
  exact ⟨h1.moved hal, fun q hq => va_Nw.same rfl hv.symm (h2 q hq), h3.moved hal, h4.moved hal, ⟨sa, sv, fun q hq => (h5 q hq).same hv, h6.moved hal⟩, fun n hn => va_Nw.same rfl hv.symm (h7 n hn), fun a ha b hb hne => (h8 a ha b hb hne).moved hal, fun q hq => va_Nw.same rfl hv.symm (h9 q hq), h10.moved hal, h11.moved hal⟩
/-- a body's surroundings: Amb, and what stays -/
def Env1 (κ : Kap) (own : String) (cc : ByteArray) (nL lev : Nat) : Prop := Amb κ own cc nL lev ∧ match κ with
  | (_, l, _, _, s, _, _, _, _, _, _, _, _, cA, D, b0, Hs) => l.stackTraces = false ∧ ZZ cA D b0 Hs s
abbrev PcM (cA : Nat → ClassId) (D : va_G) (b0 : Nat) (Hs : Heap) (vs : List Value) (μ : MM) : Array Value → State → Prop := fun v U => v = vs.toArray ∧ Wo cA D b0 Hs μ U.heap ∧ ZZ cA D b0 Hs U
abbrev QcM (cA : Nat → ClassId) (D : va_G) (b0 : Nat) (Hs : Heap) (K : Option AV → MM → Prop) : Array Value → State → Outcome → State → Prop := fun _ st oc t =>
  (∃ (r : Option AV) (μ : MM), oc = .returned (r.map (tv b0)) ∧ K r μ ∧ Wo cA D b0 Hs μ t.heap) ∧ va_F (fun q => b0 ≤ q) st t
abbrev rmL (lev : Nat) : Room := { frames := lev, cells := 0, slots := 0, locals := 40 * lev }
/-- a method's contract: whatever K its predicate gives of arguments and memory holds of answer and memory -/
def MetM (l : Launch) (y : MethodName) (cc : ByteArray) (maxL : Nat) (ret : Option FieldType) (lev : Nat) (wp : List AV → MM → (Option AV → MM → Prop) → Prop) : Prop :=
  ∀ (cA : Nat → ClassId) (D : va_G) (b0 : Nat) (Hs : Heap) (av : List AV) (μ : MM) (K : Option AV → MM → Prop), wp av μ K → Met l y (AWm y cc maxL ret) (rmL lev) (PcM cA D b0 Hs (av.map (tv b0)) μ) (QcM cA D b0 Hs K) 0 0 (fun q => b0 ≤ q)
theorem PcM_blind {cA : Nat → ClassId} {D : va_G} {b0 : Nat} {Hs : Heap} {vs : List Value} {μ : MM} : FrameBlind (PcM cA D b0 Hs vs μ) := fun a U g mk h => ⟨h.1, h.2.1, ZZ.same (s := U) (U := U.calling g mk a) rfl h.2.2⟩
section
variable {p : Program} {l : Launch} {e : Env} {R : Room} {s : State} {m : MethodId} {args : Array Value} {below : List Frame} {meth : Method} {c : Code} {H : Heap} {locs : List Loc} {cells slots : Nat} {Q : State → Prop} {cA : Nat → ClassId} {D : va_G} {b0 : Nat} {Hs : Heap}
theorem bind_call {pc : Nat} {ls : Array Slot} {st0 rest : List Value} {a : Array Value} {K : Option AV → MM → Prop} (hb0 : b0 ≤ s.heap.size) (hr : va_Run p l e R s m args below meth c H locs cells slots 0 0 (F0 m pc ls st0) rest (QcM cA D b0 Hs K a) (fun q => b0 ≤ q)) (hS : va_S (fun q => b0 ≤ q) s.heap H locs)
    (kk : ∀ (r : Option AV) (μ : MM) (H1 : Heap) (locs1 : List Loc), K r μ → Wo cA D b0 Hs μ H1 → va_S (fun q => b0 ≤ q) s.heap H1 locs1 → W p l e R s m args below meth c H1 locs1 cells slots Q (F0 m (pc + 3) ls ((r.map (tv b0)).toList ++ rest))) : W p l e R s m args below meth c H locs cells slots Q (F0 m pc ls st0) := by
  intro T hT X
  obtain ⟨v, st₀, t, T', L, h0, X', hL, e1, e2, ⟨⟨r, μ, hv, hp, hb⟩, hz, hk⟩, st⟩ := hr T hT X
  cases hv
  rw [h0] at hz hk
  obtain ⟨t2, a1, b1⟩ := kk r μ T'.heap (locs ++ L) hp (by rw [e1]; exact hb)
    ⟨Nat.le_trans hS.1 (by rw [e1]; exact hz), fun q h1 h2 => by rw [e1, hk q (Nat.lt_of_lt_of_le h1 hS.1) h2]; exact hS.2.1 q h1 h2, fun q hq => by
      rcases List.mem_append.mp hq with h | h
      · exact hS.2.2 q h
      · exact hL q h⟩ T' rfl X'
  exact ⟨t2, st t2 a1, b1⟩
end
def catS : List AV → Nat
  | [] => 0
  | .inl _ :: r => 1 + catS r
  | .inr (.inl _) :: r => 2 + catS r
  | .inr (.inr _) :: r => 1 + catS r
theorem catS_ok (b0 : Nat) : ∀ r : List AV, ((r.map (tv b0)).map fun v => v.category).sum = catS r
  | [] => rfl
  | .inl x :: r => by
    show 1 + ((r.map (tv b0)).map fun v => v.category).sum = 1 + catS r
    rw [catS_ok b0 r]
  | .inr (.inl x) :: r => by
    show 2 + ((r.map (tv b0)).map fun v => v.category).sum = 2 + catS r
    rw [catS_ok b0 r]
  | .inr (.inr x) :: r => by
    show 1 + ((r.map (tv b0)).map fun v => v.category).sum = 1 + catS r
    rw [catS_ok b0 r]
/-- a method's words among the tables': na parameters (a receiver doesn't count) -/
def MOK (y : MethodName) (bytes : ByteArray) (maxL : Nat) (ret : Option FieldType) (na : Nat) : Prop :=
  Cond.code y bytes maxL ret ∈ lw_tbl ∧ Cond.initialized y.cls ∈ AW ∧ (y.cls ≠ "java/lang/invoke/MethodHandle" ∧ y.cls ≠ "java/lang/invoke/VarHandle" ∧ (parseMethodDescriptor y.desc).map (fun d => d.parameters.length) = some na) ∧ maxL ≤ 20 ∧ plainName y.cls = true
def VOK (y : MethodName) : Prop := Cond.instanceMethod y ∈ AW ∧ Cond.selects y.cls y y ∈ AW
/-- a call of a method of an object of class ci with na arguments -/
def o_callV (na ci : Nat) (wp : List AV → MM → (Option AV → MM → Prop) → Prop) (kk : PT) : PT := fun L st μ => match st.drop na with
  | .inr (.inr a) :: r => isK a ci ∧ catS r ≤ 8 ∧ wp (.inr (.inr a) :: (st.take na).reverse) μ (fun v μ' => kk L (v.toList ++ r) μ')
  | _ => False
theorem take_drop_eq {st : List AV} {na : Nat} {a : AV} {r : List AV} (h : st.drop na = a :: r) : st = st.take na ++ a :: r ∧ (st.take na).length = na := by
  refine ⟨by rw [← h, List.take_append_drop], ?_⟩
  have : na < st.length := by
    have h1 := congrArg List.length h
    rw [List.length_drop, List.length_cons] at h1
    omega
  rw [List.length_take]
  omega
theorem ha_wsV {own : String} {ix : Nat} {y : MethodName} (hl : Cond.methodLink own ix y ∈ AW) (hv : VOK y) (hi : Cond.initialized y.cls ∈ AW) : GoodIn AW ([.methodLink own ix y, .instanceMethod y, .selects y.cls y y, .initialized y.cls] : List Cond) := by
  intro w hw
  have : w ∈ AW := by
    rcases List.mem_cons.mp hw with rfl | hw
    · exact hl
    rcases List.mem_cons.mp hw with rfl | hw
    · exact hv.1
    rcases List.mem_cons.mp hw with rfl | hw
    · exact hv.2
    rcases List.mem_cons.mp hw with rfl | hw
    · exact hi
    cases hw
  exact AW_good w this
theorem ha_wsS {own : String} {ix : Nat} {y : MethodName} (hl : Cond.methodLink own ix y ∈ AW) (hv : Cond.static y ∈ AW) (hi : Cond.initialized y.cls ∈ AW) : GoodIn AW ([.methodLink own ix y, .static y, .initialized y.cls] : List Cond) := by
  intro w hw
  have : w ∈ AW := by
    rcases List.mem_cons.mp hw with rfl | hw
    · exact hl
    rcases List.mem_cons.mp hw with rfl | hw
    · exact hv
    rcases List.mem_cons.mp hw with rfl | hw
    · exact hi
    cases hw
  exact AW_good w this
theorem goodIn_ap2 {big a b : List Cond} (ha : GoodIn big a) (hb : GoodIn big b) : GoodIn big (a ++ b) := fun w h => (List.mem_append.mp h).elim (ha w) (hb w)
theorem s_callV {κ : Kap} {own : String} {cc : ByteArray} {nL lev : Nat} (h : Env1 κ own cc nL lev) {pc ix na ci maxL lev' : Nat} {y : MethodName} {T : u_T} {N : Nat} {bytes : ByteArray} {ret : Option FieldType} {wp : List AV → MM → (Option AV → MM → Prop) → Prop} {kk : PT} (d : decode cc pc = .ok (.invokevirtual ix, 3)) (hM : ∀ l : Launch, l.stackTraces = false → MetM l y bytes maxL ret lev' wp) (hlev : lev' + 1 ≤ lev) (hy : MOK y bytes maxL ret na) (hv : VOK y) (hlink : Cond.methodLink own ix y ∈ AW) (hc : ci < 11) (hcl : vwCl[ci]? = some (y.cls, T, N)) (hk : Snd κ (pc + 3) kk) : Snd κ pc (o_callV na ci wp kk) := by
  obtain ⟨p, l, e, R, s, m, args, below, meth, c, cells, slots, Q, cA, D, b0, Hs⟩ := κ
  obtain ⟨⟨hx, hb, hml, hown, hts, hlk, hK, hb0, hfr, hlo, hc1, hs1⟩, htr, hZ⟩ := h
  obtain ⟨y1, y2, y3, y4, y5⟩ := hy
  intro L st μ H locs ls hB hL hW hS
  unfold o_callV at hB
  split at hB
  · rename_i a r hst
    obtain ⟨g1, g2, g3⟩ := hB
    obtain ⟨t1, t2⟩ := take_drop_eq hst
    refine bind_call hb0 (va_runV (As := (st.take na).reverse.map (tv b0)) (rest := r.map (tv b0)) (b := b0 + a) (own := own) (Ts := AW) (C := y.cls) (n := na) ⟨hx, hb, rfl, hown, hts⟩ (hM l htr cA D b0 Hs _ μ _ g3)
      (cwV (ws' := AW) na hts (goodIn_ap2 (ha_wsV hlink hv y2) (AWm_good y1)) rfl rfl rfl ⟨rfl, y3⟩ ⟨by rw [hfr]; exact hlev, by rw [hlo]; show 8 + (maxL + 11) + 40 * lev' ≤ 40 * lev; omega⟩)
      ⟨PcM_blind, va_recv hK hW.2.1 hcl (PW_ob g1 hc), fun U hU hWm => ⟨rfl, by rw [hU]; exact hW, hZ.warm hWm⟩⟩ rfl (by rw [List.length_map, List.length_reverse, t2]) (hL.1.trans rfl) (by rw [← List.map_reverse, List.reverse_reverse]; exact (congrArg (List.map (tv b0)) t1).trans List.map_append) (lv_room (by rw [catS_ok]; exact g2)) d ⟨hc1, hs1⟩) hS (fun v μ' H1 locs1 hk1 hW1 hS1 => ?_)
    have e1 : (v.map (tv b0)).toList ++ r.map (tv b0) = (v.toList ++ r).map (tv b0) := by cases v <;> rfl
    rw [e1]
    exact hk L _ μ' H1 locs1 ls hk1 hL hW1 hS1
  · exact hB.elim

/-- a static call with na arguments -/
def o_callS (na : Nat) (wp : List AV → MM → (Option AV → MM → Prop) → Prop) (kk : PT) : PT := fun L st μ => na ≤ st.length ∧ catS (st.drop na) ≤ 8 ∧ wp (st.take na).reverse μ (fun v μ' => kk L (v.toList ++ st.drop na) μ')
theorem s_callS {κ : Kap} {own : String} {cc : ByteArray} {nL lev : Nat} (h : Env1 κ own cc nL lev) {pc ix na maxL lev' : Nat} {y : MethodName} {bytes : ByteArray} {ret : Option FieldType} {wp : List AV → MM → (Option AV → MM → Prop) → Prop} {kk : PT} (d : decode cc pc = .ok (.invokestatic ix, 3)) (hM : ∀ l : Launch, l.stackTraces = false → MetM l y bytes maxL ret lev' wp) (hlev : lev' + 1 ≤ lev) (hy : MOK y bytes maxL ret na) (hv : Cond.static y ∈ AW) (hlink : Cond.methodLink own ix y ∈ AW) (hk : Snd κ (pc + 3) kk) : Snd κ pc (o_callS na wp kk) := by
  obtain ⟨p, l, e, R, s, m, args, below, meth, c, cells, slots, Q, cA, D, b0, Hs⟩ := κ
  obtain ⟨⟨hx, hb, hml, hown, hts, hlk, hK, hb0, hfr, hlo, hc1, hs1⟩, htr, hZ⟩ := h
  obtain ⟨y1, y2, y3, y4, y5⟩ := hy
  intro L st μ H locs ls hB hL hW hS
  obtain ⟨g1, g2, g3⟩ := hB
  have t2 : (st.take na).length = na := by rw [List.length_take]; omega
  refine bind_call hb0 (va_runS (As := (st.take na).reverse.map (tv b0)) (rest := (st.drop na).map (tv b0)) (own := own) (Ts := AW) (n := na) ⟨hx, hb, rfl, hown, hts⟩ (hM l htr cA D b0 Hs _ μ _ g3)
      (va_cwS (ws' := AW) na hts (goodIn_ap2 (ha_wsS hlink hv y2) (AWm_good y1)) rfl rfl rfl y3 ⟨by rw [hfr]; exact hlev, by rw [hlo]; show 8 + (maxL + 11) + 40 * lev' ≤ 40 * lev; omega⟩)
      ⟨PcM_blind, fun U hU hWm => ⟨rfl, by rw [hU]; exact hW, hZ.warm hWm⟩⟩ rfl (by rw [List.length_map, List.length_reverse, t2]) (hL.1.trans rfl) (by rw [← List.map_reverse, List.reverse_reverse, ← List.map_append, List.take_append_drop]) (lv_room (by rw [catS_ok]; exact g2)) d ⟨hc1, hs1⟩) hS (fun v μ' H1 locs1 hk1 hW1 hS1 => ?_)
  have e1 : (v.map (tv b0)).toList ++ (st.drop na).map (tv b0) = (v.toList ++ st.drop na).map (tv b0) := by cases v <;> rfl
  rw [e1]
  exact hk L _ μ' H1 locs1 ls hk1 hL hW1 hS1
/-- the same of a nest mate's private static method -/
theorem s_callSN {κ : Kap} {own : String} {cc : ByteArray} {nL lev : Nat} (h : Env1 κ own cc nL lev) {pc ix na maxL lev' : Nat} {y : MethodName} {bytes : ByteArray} {ret : Option FieldType} {wp : List AV → MM → (Option AV → MM → Prop) → Prop} {kk : PT} (d : decode cc pc = .ok (.invokestatic ix, 3)) (hM : ∀ l : Launch, l.stackTraces = false → MetM l y bytes maxL ret lev' wp) (hlev : lev' + 1 ≤ lev) (hy : MOK y bytes maxL ret na) (hv : Cond.static y ∈ AW) (hlink : (own, ix, y) ∈ nwL) (hk : Snd κ (pc + 3) kk) : Snd κ pc (o_callS na wp kk) := by
  obtain ⟨p, l, e, R, s, m, args, below, meth, c, cells, slots, Q, cA, D, b0, Hs⟩ := κ
  obtain ⟨⟨hx, hb, hml, hown, hts, hlk, hK, hb0, hfr, hlo, hc1, hs1⟩, htr, hZ⟩ := h
  obtain ⟨y1, y2, y3, y4, y5⟩ := hy
  intro L st μ H locs ls hB hL hW hS
  obtain ⟨g1, g2, g3⟩ := hB
  have t2 : (st.take na).length = na := by rw [List.length_take]; omega
  refine bind_call hb0 (va_runSN (As := (st.take na).reverse.map (tv b0)) (rest := (st.drop na).map (tv b0)) (own := own) (host := "CellLoans") (Ts := AW) (n := na) ⟨hx, hb, rfl, hown, hts⟩ (hM l htr cA D b0 Hs _ μ _ g3)
      ⟨va_cnB (ws' := AW) na hts (AWm_good y1) rfl rfl rfl (hZ.2.1 _ hlink) (hts _ y2) y3 ⟨by rw [hfr]; exact hlev, by rw [hlo]; show 8 + (maxL + 11) + 40 * lev' ≤ 40 * lev; omega⟩, hts _ hv, trivial⟩
      ⟨PcM_blind, fun U hU hWm => ⟨rfl, by rw [hU]; exact hW, hZ.warm hWm⟩⟩ rfl (by rw [List.length_map, List.length_reverse, t2]) (hL.1.trans rfl) (by rw [← List.map_reverse, List.reverse_reverse, ← List.map_append, List.take_append_drop]) (lv_room (by rw [catS_ok]; exact g2)) d ⟨hc1, hs1⟩) hS (fun v μ' H1 locs1 hk1 hW1 hS1 => ?_)
  have e1 : (v.map (tv b0)).toList ++ (st.drop na).map (tv b0) = (v.toList ++ st.drop na).map (tv b0) := by cases v <;> rfl
  rw [e1]
  exact hk L _ μ' H1 locs1 ls hk1 hL hW1 hS1
/-! returns -/
def RetOK (κ : Kap) (ret : Option FieldType) (post : Option AV → MM → Prop) : Prop := match κ with
  | (p, l, e, R, s, m, args, below, meth, c, cells, slots, Q, cA, D, b0, Hs) => meth.sig.returnType = ret ∧ ∀ (H : Heap) (locs : List Loc) (g : JFrame), W p l e R s m args below meth c H locs cells slots (MQ below (QcM cA D b0 Hs post) args s cells slots (fun q => b0 ≤ q)) g → W p l e R s m args below meth c H locs cells slots Q g
def o_iret (post : Option AV → MM → Prop) : PT := fun _ st μ => match st with
  | [.inl x] => post (some (.inl x)) μ
  | _ => False
def o_zret (post : Option AV → MM → Prop) : PT := fun _ st μ => match st with
  | [.inl x] => (x = 0 ∨ x = 1) ∧ post (some (.inl x)) μ
  | _ => False
def o_lret (post : Option AV → MM → Prop) : PT := fun _ st μ => match st with
  | [.inr (.inl x)] => post (some (.inr (.inl x))) μ
  | _ => False
def o_vret (post : Option AV → MM → Prop) : PT := fun _ st μ => match st with
  | [] => post none μ
  | _ => False
theorem s_iret {κ : Kap} {own : String} {cc : ByteArray} {nL lev : Nat} (h : Env1 κ own cc nL lev) {pc : Nat} {post : Option AV → MM → Prop} (hr : RetOK κ (some .int) post) (d : decode cc pc = .ok (.ireturn, 1)) : Snd κ pc (o_iret post) := by
  obtain ⟨p, l, e, R, s, m, args, below, meth, c, cells, slots, Q, cA, D, b0, Hs⟩ := κ
  obtain ⟨⟨hx, hb, hml, hown, hts, hlk, hK, hb0, hfr, hlo, hc1, hs1⟩, htr, hZ⟩ := h
  intro L st μ H locs ls hB hL hW hS
  unfold o_iret at hB
  split at hB
  · rename_i x
    exact hr.2 _ _ _ (W.iret (v := jI x) hx hb hr.1 (fun t ht hWm => ⟨⟨some (.inl x), μ, rfl, hB, by rw [ht]; exact hW⟩, hS.F ht⟩) hS.2.2 d hlk)
  · exact hB.elim
theorem s_zret {κ : Kap} {own : String} {cc : ByteArray} {nL lev : Nat} (h : Env1 κ own cc nL lev) {pc : Nat} {post : Option AV → MM → Prop} (hr : RetOK κ (some .boolean) post) (d : decode cc pc = .ok (.ireturn, 1)) : Snd κ pc (o_zret post) := by
  obtain ⟨p, l, e, R, s, m, args, below, meth, c, cells, slots, Q, cA, D, b0, Hs⟩ := κ
  obtain ⟨⟨hx, hb, hml, hown, hts, hlk, hK, hb0, hfr, hlo, hc1, hs1⟩, htr, hZ⟩ := h
  intro L st μ H locs ls hB hL hW hS
  unfold o_zret at hB
  split at hB
  · rename_i x
    exact hr.2 _ _ _ (W.zret (v := jI x) hx hb hr.1 (jI_bool hB.1).1 (fun t ht hWm => ⟨⟨some (.inl x), μ, rfl, hB.2, by rw [ht]; exact hW⟩, hS.F ht⟩) hS.2.2 d hlk)
  · exact hB.elim
theorem s_lret {κ : Kap} {own : String} {cc : ByteArray} {nL lev : Nat} (h : Env1 κ own cc nL lev) {pc : Nat} {post : Option AV → MM → Prop} (hr : RetOK κ (some .long) post) (d : decode cc pc = .ok (.lreturn, 1)) : Snd κ pc (o_lret post) := by
  obtain ⟨p, l, e, R, s, m, args, below, meth, c, cells, slots, Q, cA, D, b0, Hs⟩ := κ
  obtain ⟨⟨hx, hb, hml, hown, hts, hlk, hK, hb0, hfr, hlo, hc1, hs1⟩, htr, hZ⟩ := h
  intro L st μ H locs ls hB hL hW hS
  unfold o_lret at hB
  split at hB
  · rename_i x
    exact hr.2 _ _ _ (W.lret (v := jL x) hx hb hr.1 (fun t ht hWm => ⟨⟨some (.inr (.inl x)), μ, rfl, hB, by rw [ht]; exact hW⟩, hS.F ht⟩) hS.2.2 d hlk)
  · exact hB.elim
theorem s_vret {κ : Kap} {own : String} {cc : ByteArray} {nL lev : Nat} (h : Env1 κ own cc nL lev) {pc : Nat} {post : Option AV → MM → Prop} (hr : RetOK κ none post) (d : decode cc pc = .ok (.return_, 1)) : Snd κ pc (o_vret post) := by
  obtain ⟨p, l, e, R, s, m, args, below, meth, c, cells, slots, Q, cA, D, b0, Hs⟩ := κ
  obtain ⟨⟨hx, hb, hml, hown, hts, hlk, hK, hb0, hfr, hlo, hc1, hs1⟩, htr, hZ⟩ := h
  intro L st μ H locs ls hB hL hW hS
  unfold o_vret at hB
  split at hB
  · exact hr.2 _ _ _ (W.vret hx hb hr.1 (fun t ht hWm => ⟨⟨none, μ, rfl, hB, by rw [ht]; exact hW⟩, hS.F ht⟩) hS.2.2 d hlk)
  · exact hB.elim
/-! loops: the least predicate that a body of bytecode, run from the head back to the head, goes on from -/
def LFP (F : PT → PT) : PT := fun L st μ => ∀ P : PT, (∀ Z : PT, (∀ L st μ, Z L st μ → P L st μ) → ∀ L st μ, F Z L st μ → P L st μ) → P L st μ
theorem lfp_in {F : PT → PT} {L : List (Option AV)} {st : List AV} {μ : MM} (h : F (LFP F) L st μ) : LFP F L st μ := fun P hP => hP (LFP F) (fun _ _ _ q => q P hP) L st μ h
theorem s_lfp {κ : Kap} {pc : Nat} {F : PT → PT} (h : ∀ K : PT, Snd κ pc K → Snd κ pc (F K)) : Snd κ pc (LFP F) := by
  obtain ⟨p, l, e, R, s, m, args, below, meth, c, cells, slots, Q, cA, D, b0, Hs⟩ := κ
  intro L st μ H locs ls hB hL hW hS
  refine hB (fun L st μ => ∀ (H : Heap) (locs : List Loc) (ls : Array Slot), LH b0 c.maxLocals ls L → Wo cA D b0 Hs μ H → va_S (fun q => b0 ≤ q) s.heap H locs → W p l e R s m args below meth c H locs cells slots Q (F0 m pc ls (st.map (tv b0)))) ?_ H locs ls hL hW hS
  intro Z hZ L st μ hF H locs ls hL hW hS
  exact h Z (fun L st μ H locs ls hB hL hW hS => hZ L st μ hB H locs ls hL hW hS) L st μ H locs ls hF hL hW hS
/-! a contract out of a walk -/
def eL : List AV → List (Option AV)
  | [] => []
  | .inl x :: r => some (.inl x) :: eL r
  | .inr (.inl x) :: r => some (.inr (.inl x)) :: none :: eL r
  | .inr (.inr x) :: r => some (.inr (.inr x)) :: eL r
theorem eL_len (b0 : Nat) : ∀ av : List AV, (lg_sl (av.map (tv b0))).length = (eL av).length
  | [] => rfl
  | .inl x :: r => by
    have h := eL_len b0 r
    show (lg_sl (Value.int (jI x) :: r.map (tv b0))).length = _
    simp only [lg_sl, List.flatMap_cons, eL, List.length_append, List.length_cons] at h ⊢
    rw [h]
    simp [Value.category]
    omega
  | .inr (.inl x) :: r => by
    have h := eL_len b0 r
    show (lg_sl (Value.long (jL x) :: r.map (tv b0))).length = _
    simp only [lg_sl, List.flatMap_cons, eL, List.length_append, List.length_cons] at h ⊢
    rw [h]
    simp [Value.category]
    omega
  | .inr (.inr x) :: r => by
    have h := eL_len b0 r
    show (lg_sl (Value.ref (b0 + x) :: r.map (tv b0))).length = _
    simp only [lg_sl, List.flatMap_cons, eL, List.length_append, List.length_cons] at h ⊢
    rw [h]
    simp [Value.category]
    omega
theorem eL_args (b0 k : Nat) : ∀ (av : List AV) (i j : Nat) (v : AV), (eL av ++ List.replicate k none)[i]? = some (some v) → (j + i, tv b0 v) ∈ lv_args j (av.map (tv b0))
  | [], i, j, v, h => by
    exfalso
    have h1 : (List.replicate k (none : Option AV))[i]? = some (some v) := h
    rw [List.getElem?_replicate] at h1
    split at h1 <;> cases h1
  | .inl x :: r, i, j, v, h => by
    show (j + i, tv b0 v) ∈ (j, Value.int (jI x)) :: lv_args (j + 1) (r.map (tv b0))
    cases i with
    | zero =>
      have h1 : some (some (Sum.inl x : AV)) = some (some v) := h
      cases h1
      exact List.mem_cons_self
    | succ i =>
      have h2 := eL_args b0 k r i (j + 1) v h
      rw [show j + 1 + i = j + (i + 1) by omega] at h2
      exact List.mem_cons_of_mem _ h2
  | .inr (.inl x) :: r, i, j, v, h => by
    show (j + i, tv b0 v) ∈ (j, Value.long (jL x)) :: lv_args (j + 2) (r.map (tv b0))
    cases i with
    | zero =>
      have h1 : some (some (Sum.inr (Sum.inl x) : AV)) = some (some v) := h
      cases h1
      exact List.mem_cons_self
    | succ i =>
      cases i with
      | zero =>
        have h1 : some (none : Option AV) = some (some v) := h
        cases h1
      | succ i =>
        have h2 := eL_args b0 k r i (j + 2) v h
        rw [show j + 2 + i = j + (i + 1 + 1) by omega] at h2
        exact List.mem_cons_of_mem _ h2
  | .inr (.inr x) :: r, i, j, v, h => by
    show (j + i, tv b0 v) ∈ (j, Value.ref (b0 + x)) :: lv_args (j + 1) (r.map (tv b0))
    cases i with
    | zero =>
      have h1 : some (some (Sum.inr (Sum.inr x) : AV)) = some (some v) := h
      cases h1
      exact List.mem_cons_self
    | succ i =>
      have h2 := eL_args b0 k r i (j + 1) v h
      rw [show j + 1 + i = j + (i + 1) by omega] at h2
      exact List.mem_cons_of_mem _ h2
theorem entry_LH {b0 nL : Nat} {av : List AV} (h : (eL av).length ≤ nL) : LH b0 nL ((lg_sl (av.map (tv b0)) ++ List.replicate (nL - (lg_sl (av.map (tv b0))).length) Slot.unset).toArray) (eL av ++ List.replicate (nL - (eL av).length) none) := by
  have h1 := lv_entry (av.map (tv b0)) (n := nL) (by rw [eL_len]; exact h)
  refine ⟨h1.1, h1.2.1, fun i v hv => ?_⟩
  have h2 := eL_args b0 _ av i 0 v hv
  rw [Nat.zero_add] at h2
  exact h1.2.2 _ h2
def wpB (nL : Nat) (B : (Option AV → MM → Prop) → PT) : List AV → MM → (Option AV → MM → Prop) → Prop := fun av μ K => (eL av).length ≤ nL ∧ B K (eL av ++ List.replicate (nL - (eL av).length) none) [] μ
theorem met_of {y : MethodName} {cc : ByteArray} {maxL lev : Nat} {ret : Option FieldType} {B : (Option AV → MM → Prop) → PT} (hy : plainName y.cls = true) (hB : ∀ (κ : Kap) (post : Option AV → MM → Prop), Env1 κ y.cls cc maxL lev → RetOK κ ret post → Snd κ 0 (B post)) : ∀ l : Launch, l.stackTraces = false → MetM l y cc maxL ret lev (wpB maxL B) := by
  intro l htr cA D b0 Hs av μ K hwp
  refine Met.ofW (cc := cc) (maxL := maxL) (ret := ret) (ws' := AW) hy rfl ?_
  intro p e s m args below meth c s₁ Bd hml hv
  obtain ⟨rfl, hW, hZ⟩ := hv
  have hts := atoms_spec (ws := AWm y cc maxL ret) Bd.pre
  have hown : s.vm.findClass y.cls = some m.cls := findClass_of_methodNamed Bd.named
  rw [lg_entry_eq]
  have hE := entry_LH (b0 := b0) hwp.1
  have key := hB (p, l, e, (headSpec (AWm y cc maxL ret) (rmL lev)).room, s, m, (av.map (tv b0)).toArray, below, meth, c, 0, 0, MQ below (QcM cA D b0 Hs K) (av.map (tv b0)).toArray s 0 0 (fun q => b0 ≤ q), cA, D, b0, Hs) K
    ⟨⟨Bd.exec, Bd.bytes, hml, hown, fun w hw => hts w (List.mem_cons_of_mem _ hw), Bd.notSynchronized, hZ.1, by have := hW.1; omega, rfl, rfl, Nat.zero_le _, Nat.zero_le _⟩, htr, hZ⟩ ⟨Bd.returns, fun _ _ _ h => h⟩
  exact key _ [] μ s.heap [] _ hwp.2 (by rw [hml]; exact hE) hW va_S.rf
