/-! GROWTH 5: contracts of constructors -/
theorem ZG.warm {cA : Nat → ClassId} {D : va_G} {b0 : Nat} {Hs : Heap} {s U : State} (hW : s.WarmedH U.vm) (h : ZG cA D b0 Hs s) : ZG cA D b0 Hs U := ⟨h.1.warm hW, h.2.1.moved hW.alike, h.2.2.moved hW.alike⟩
theorem ZG.same {cA : Nat → ClassId} {D : va_G} {b0 : Nat} {Hs : Heap} {s U : State} (hv : U.vm = s.vm) (h : ZG cA D b0 Hs s) : ZG cA D b0 Hs U := ⟨ZZ.same hv h.1, va_AO.moved (by rw [hv]; exact Vm.Alike.refl _) h.2.1, va_AO.moved (by rw [hv]; exact Vm.Alike.refl _) h.2.2⟩
abbrev PcG (cA : Nat → ClassId) (D : va_G) (b0 : Nat) (Hs : Heap) (vs : List Value) (G : GS) : Array Value → State → Prop := fun v U => v = vs.toArray ∧ (WG cA D b0 G U.heap ∧ U.heap.size = b0 + G.1 ∧ ∀ q, q < b0 → U.heap[q]? = Hs[q]?) ∧ ZG cA D b0 Hs U
abbrev QcG (cA : Nat → ClassId) (D : va_G) (b0 : Nat) (K : GS → Prop) : Array Value → State → Outcome → State → Prop := fun _ st oc t =>
  (oc = .returned none ∧ ∃ G, K G ∧ WG cA D b0 G t.heap) ∧ va_F (fun q => b0 ≤ q) st t
abbrev rmG (lev dn ds : Nat) : Room := { frames := lev, cells := dn, slots := ds, locals := 40 * lev }
def MetG (l : Launch) (y : MethodName) (cc : ByteArray) (maxL : Nat) (lev dn ds : Nat) (wp : List AV → GS → (GS → Prop) → Prop) : Prop :=
  ∀ (cA : Nat → ClassId) (D : va_G) (b0 : Nat) (Hs : Heap) (av : List AV) (G : GS) (K : GS → Prop), wp av G K → Met l y (AWm y cc maxL none) (rmG lev dn ds) (PcG cA D b0 Hs (av.map (tv b0)) G) (QcG cA D b0 (fun G' => (G'.1 = G.1 + dn ∧ SL G'.1 = SL G.1 + ds) ∧ K G')) dn ds (fun q => b0 ≤ q)
theorem PcG_blind {cA : Nat → ClassId} {D : va_G} {b0 : Nat} {Hs : Heap} {vs : List Value} {G : GS} : FrameBlind (PcG cA D b0 Hs vs G) := fun a U g mk h => ⟨h.1, h.2.1, ZG.same (s := U) (U := U.calling g mk a) rfl h.2.2⟩
def RetG (κ : Kap) (top : Nat) (post : GS → Prop) : Prop := match κ with
  | (p, l, e, R, s, m, args, below, meth, c, n0, slots, Q, cA, D, b0, Hs) => meth.sig.returnType = none ∧ ∀ (H : Heap) (locs : List Loc) (g : JFrame) (cl sl : Nat), n0 + cl = top → SL n0 + sl = SL top → W p l e R s m args below meth c H locs cl sl (MQ below (QcG cA D b0 post) args s cl sl (fun q => b0 ≤ q)) g → W p l e R s m args below meth c H locs cl sl Q g
def g_vret (top : Nat) (post : GS → Prop) : PTG := fun _ st μ => st = [] ∧ μ.1 = top ∧ post μ
theorem sg_vret {κ : Kap} {own : String} {cc : ByteArray} {nL lev top : Nat} (h : AmbG κ own cc nL lev top) {pc : Nat} {post : GS → Prop} (hr : RetG κ top post) (d : decode cc pc = .ok (.return_, 1)) : SndG κ pc (g_vret top post) := by
  obtain ⟨p, l, e, R, s, m, args, below, meth, c, n0, slots, Q, cA, D, b0, Hs⟩ := κ
  obtain ⟨hx, hb, hml, hown, hts, hlk, hK, hb0, hfr, hlo, hc1, hs1⟩ := h
  intro L st μ H locs ls cl sl hB hL hW hS kc kz
  obtain ⟨rfl, h1, h2⟩ := hB
  exact hr.2 _ _ _ cl sl (by omega) (by rw [← h1]; exact kz) (W.vret hx hb hr.1 (fun t ht hWm => ⟨⟨rfl, μ, h2, by rw [ht]; exact hW⟩, hS.F ht⟩) hS.2.2 d hlk)
def LFG (F : PTG → PTG) : PTG := fun L st μ => ∀ P : PTG, (∀ Z : PTG, (∀ L st μ, Z L st μ → P L st μ) → ∀ L st μ, F Z L st μ → P L st μ) → P L st μ
theorem lfg_in {F : PTG → PTG} {L : List (Option AV)} {st : List AV} {μ : GS} (h : F (LFG F) L st μ) : LFG F L st μ := fun P hP => hP (LFG F) (fun _ _ _ q => q P hP) L st μ h
theorem sg_lfg {κ : Kap} {pc : Nat} {F : PTG → PTG} (h : ∀ K : PTG, SndG κ pc K → SndG κ pc (F K)) : SndG κ pc (LFG F) := by
  obtain ⟨p, l, e, R, s, m, args, below, meth, c, n0, slots, Q, cA, D, b0, Hs⟩ := κ
  intro L st μ H locs ls cl sl hB hL hW hS kc kz
  refine hB (fun L st μ => ∀ (H : Heap) (locs : List Loc) (ls : Array Slot) (cl sl : Nat), LH b0 c.maxLocals ls L → WG cA D b0 μ H → va_S (fun q => b0 ≤ q) s.heap H locs → n0 + cl = μ.1 → SL n0 + sl = SL μ.1 → W p l e R s m args below meth c H locs cl sl Q (F0 m pc ls (st.map (tv b0)))) ?_ H locs ls cl sl hL hW hS kc kz
  intro Z hZ L st μ hF H locs ls cl sl hL hW hS kc kz
  exact h Z (fun L st μ H locs ls cl sl hB hL hW hS kc kz => hZ L st μ hB H locs ls cl sl hL hW hS kc kz) L st μ H locs ls cl sl hF hL hW hS kc kz
section
variable {p : Program} {l : Launch} {e : Env} {R : Room} {s : State} {m : MethodId} {args : Array Value} {below : List Frame} {meth : Method} {c : Code} {H : Heap} {locs : List Loc} {cells slots : Nat} {Q : State → Prop} {cA : Nat → ClassId} {D : va_G} {b0 : Nat} {Hs : Heap}
theorem bind_callG {pc dn ds : Nat} {ls : Array Slot} {st0 rest : List Value} {a : Array Value} {K : GS → Prop} (hb0 : b0 ≤ s.heap.size) (hr : va_Run p l e R s m args below meth c H locs cells slots dn ds (F0 m pc ls st0) rest (QcG cA D b0 K a) (fun q => b0 ≤ q)) (hS : va_S (fun q => b0 ≤ q) s.heap H locs)
    (kk : ∀ (G : GS) (H1 : Heap) (locs1 : List Loc), K G → WG cA D b0 G H1 → va_S (fun q => b0 ≤ q) s.heap H1 locs1 → W p l e R s m args below meth c H1 locs1 (cells + dn) (slots + ds) Q (F0 m (pc + 3) ls rest)) : W p l e R s m args below meth c H locs cells slots Q (F0 m pc ls st0) := by
  intro T hT X
  obtain ⟨v, st₀, t, T', L, h0, X', hL, e1, e2, ⟨⟨hv, G, hp, hb⟩, hz, hk⟩, st⟩ := hr T hT X
  cases hv
  rw [h0] at hz hk
  obtain ⟨t2, a1, b1⟩ := kk G T'.heap (locs ++ L) hp (by rw [e1]; exact hb)
    ⟨Nat.le_trans hS.1 (by rw [e1]; exact hz), fun q h1 h2 => by rw [e1, hk q (Nat.lt_of_lt_of_le h1 hS.1) h2]; exact hS.2.1 q h1 h2, fun q hq => by
      rcases List.mem_append.mp hq with h | h
      · exact hS.2.2 q h
      · exact hL q h⟩ T' rfl X'
  exact ⟨t2, st t2 a1, b1⟩
end
/-- a call: a constructor that makes dn entities of ds slots (its object first of the arguments), or a method that makes none -/
def g_call (na dn ds top : Nat) (rc : AV → GS → Prop) (wp : List AV → GS → (GS → Prop) → Prop) (kk : PTG) : PTG := fun L st μ => match st.drop na with
  | .inr (.inr a) :: r => rc (.inr (.inr a)) μ ∧ 0 < μ.1 ∧ catS r ≤ 8 ∧ (μ.1 + dn ≤ top ∧ SL μ.1 + ds ≤ SL top) ∧ wp (.inr (.inr a) :: (st.take na).reverse) μ (fun μ' => kk L r μ')
  | _ => False
theorem sg_callI {κ : Kap} {own : String} {cc : ByteArray} {nL lev top : Nat} (h : AmbG κ own cc nL lev top) {pc ix na maxL lev' dn ds : Nat} {y : MethodName} {bytes : ByteArray} {wp : List AV → GS → (GS → Prop) → Prop} {kk : PTG} (d : decode cc pc = .ok (.invokespecial ix, 3)) (hM : ∀ l : Launch, l.stackTraces = false → MetG l y bytes maxL lev' dn ds wp) (hlev : lev' + 1 ≤ lev) (hy : MOK y bytes maxL none na) (hv : Cond.instanceMethod y ∈ AW) (hini : y.name = "<init>") (hlink : Cond.methodLink own ix y ∈ AW ∨ (own, ix, y) ∈ nwL) (hk : SndG κ (pc + 3) kk) : SndG κ pc (g_call na dn ds top (fun _ _ => True) wp kk) := by
  obtain ⟨p, l, e, R, s, m, args, below, meth, c, n0, slots, Q, cA, D, b0, Hs⟩ := κ
  obtain ⟨hx, hb, hml, hown, hts, hlk, hK, hb0, hfr, hlo, hc1, hs1⟩ := h
  obtain ⟨y1, y2, y3, y4, y5⟩ := hy
  intro L st μ H locs ls cl sl hB hL hW hS kc kz
  unfold g_call at hB
  split at hB
  · rename_i a r hst
    obtain ⟨-, g1, g2, g4, g3⟩ := hB
    obtain ⟨t1, t2⟩ := take_drop_eq hst
    have hbs : b0 ≤ s.heap.size := by rw [hb0.1]; omega
    intro T hT X
    have hz := X.heapSize
    rw [hT, hb0.1] at hz
    have hlow := size_low hW g1
    have hpre : PreS s H (PcG cA D b0 Hs (((.inr (.inr a) : AV) :: (st.take na).reverse).map (tv b0)) μ) (((.inr (.inr a) : AV) :: (st.take na).reverse).map (tv b0)) := ⟨PcG_blind, fun U hU hWm => ⟨rfl, ⟨by rw [hU]; exact hW, by rw [hU]; omega, fun q hq => by rw [hU, hS.2.1 q (by omega) (by show ¬ b0 ≤ q; omega)]; exact hb0.2 q hq⟩, hs1.2.warm hWm⟩⟩
    have hroom : lev' + 1 ≤ R.frames ∧ 8 + (maxL + 11) + 40 * lev' ≤ R.locals := ⟨by rw [hfr]; exact hlev, by rw [hlo]; omega⟩
    have hrun : va_Run p l e R s m args below meth c H locs cl sl dn ds (F0 m pc ls (st.map (tv b0))) (r.map (tv b0)) (QcG cA D b0 (fun G' => (G'.1 = μ.1 + dn ∧ SL G'.1 = SL μ.1 + ds) ∧ kk L r G') (((.inr (.inr a) : AV) :: (st.take na).reverse).map (tv b0)).toArray) (fun q => b0 ≤ q) := by
      have hst2 : st.map (tv b0) = ((st.take na).reverse.map (tv b0)).reverse ++ .ref (b0 + a) :: r.map (tv b0) := by
        rw [← List.map_reverse, List.reverse_reverse]
        exact (congrArg (List.map (tv b0)) t1).trans List.map_append
      rcases hlink with hlink | hlink
      · exact va_runI (As := (st.take na).reverse.map (tv b0)) (rest := r.map (tv b0)) (b := b0 + a) (own := own) (Ts := AW) (n := na) ⟨hx, hb, rfl, hown, hts⟩ (hM l hs1.1 cA D b0 Hs _ μ _ g3)
          (cwI (ws' := AW) na hts (AWm_good y1) rfl rfl rfl (hts _ y2) (hts _ hlink) (hts _ hv) hini y3 hroom) hpre rfl (by rw [List.length_map, List.length_reverse, t2]) (hL.1.trans rfl) hst2 (lv_room (by rw [catS_ok]; exact g2)) d ⟨by have := hc1.1; omega, by have := hc1.2; omega⟩
      · exact va_runIN (As := (st.take na).reverse.map (tv b0)) (rest := r.map (tv b0)) (b := b0 + a) (own := own) (host := "CellLoans") (Ts := AW) (n := na) ⟨hx, hb, rfl, hown, hts⟩ (hM l hs1.1 cA D b0 Hs _ μ _ g3)
          ⟨va_cnB (ws' := AW) na hts (AWm_good y1) rfl rfl rfl (hs1.2.1.2.1 _ hlink) (hts _ y2) y3 hroom, hini, hts _ hv⟩ hpre rfl (by rw [List.length_map, List.length_reverse, t2]) (hL.1.trans rfl) hst2 (lv_room (by rw [catS_ok]; exact g2)) d ⟨by have := hc1.1; omega, by have := hc1.2; omega⟩
    exact bind_callG hbs hrun hS (fun G' H1 locs1 hk1 hW1 hS1 => hk L r G' H1 locs1 ls (cl + dn) (sl + ds) hk1.2 hL hW1 hS1 (by omega) (by omega)) T hT X
  · exact hB.elim
theorem sg_callV {κ : Kap} {own : String} {cc : ByteArray} {nL lev top : Nat} (h : AmbG κ own cc nL lev top) {pc ix na ci maxL lev' : Nat} {y : MethodName} {T : u_T} {N : Nat} {bytes : ByteArray} {wp : List AV → GS → (GS → Prop) → Prop} {kk : PTG} (d : decode cc pc = .ok (.invokevirtual ix, 3)) (hM : ∀ l : Launch, l.stackTraces = false → MetG l y bytes maxL lev' 0 0 wp) (hlev : lev' + 1 ≤ lev) (hy : MOK y bytes maxL none na) (hv : VOK y) (hlink : Cond.methodLink own ix y ∈ AW) (hc : ci < 11) (hcl : vwCl[ci]? = some (y.cls, T, N)) (hk : SndG κ (pc + 3) kk) : SndG κ pc (g_call na 0 0 top (fun v G => match v with | .inr (.inr a) => isG a ci G | _ => False) wp kk) := by
  obtain ⟨p, l, e, R, s, m, args, below, meth, c, n0, slots, Q, cA, D, b0, Hs⟩ := κ
  obtain ⟨hx, hb, hml, hown, hts, hlk, hK, hb0, hfr, hlo, hc1, hs1⟩ := h
  obtain ⟨y1, y2, y3, y4, y5⟩ := hy
  intro L st μ H locs ls cl sl hB hL hW hS kc kz
  unfold g_call at hB
  split at hB
  · rename_i a r hst
    obtain ⟨g0, g1, g2, g4, g3⟩ := hB
    obtain ⟨t1, t2⟩ := take_drop_eq hst
    have hbs : b0 ≤ s.heap.size := by rw [hb0.1]; omega
    intro T hT X
    have hz := X.heapSize
    rw [hT, hb0.1] at hz
    have hlow := size_low hW g1
    refine bind_callG (dn := 0) (ds := 0) hbs (va_runV (As := (st.take na).reverse.map (tv b0)) (rest := r.map (tv b0)) (b := b0 + a) (own := own) (Ts := AW) (C := y.cls) (n := na) ⟨hx, hb, rfl, hown, hts⟩ (hM l hs1.1 cA D b0 Hs _ μ _ g3)
      (cwV (ws' := AW) na hts (goodIn_ap2 (ha_wsV hlink hv y2) (AWm_good y1)) rfl rfl rfl ⟨rfl, y3⟩ ⟨by rw [hfr]; exact hlev, by rw [hlo]; show 8 + (maxL + 11) + 40 * lev' ≤ 40 * lev; omega⟩)
      ⟨PcG_blind, va_recv hK hW hcl (PG_ob g0 hc), fun U hU hWm => ⟨rfl, ⟨by rw [hU]; exact hW, by rw [hU]; omega, fun q hq => by rw [hU, hS.2.1 q (by omega) (by show ¬ b0 ≤ q; omega)]; exact hb0.2 q hq⟩, hs1.2.warm hWm⟩⟩ rfl (by rw [List.length_map, List.length_reverse, t2]) (hL.1.trans rfl) (by rw [← List.map_reverse, List.reverse_reverse]; exact (congrArg (List.map (tv b0)) t1).trans List.map_append) (lv_room (by rw [catS_ok]; exact g2)) d ⟨by have := hc1.1; omega, by have := hc1.2; omega⟩) hS (fun G' H1 locs1 hk1 hW1 hS1 => hk L r G' H1 locs1 ls (cl + 0) (sl + 0) hk1.2 hL hW1 hS1 (by omega) (by omega)) T hT X
  · exact hB.elim
def g_oi (kk : PTG) : PTG := fun L st μ => match st with
  | .inr (.inr a) :: r => catS r ≤ 8 ∧ kk L r μ
  | _ => False
theorem sg_oi {κ : Kap} {own : String} {cc : ByteArray} {nL lev top : Nat} (h : AmbG κ own cc nL lev top) {pc ix : Nat} {kk : PTG} (d : decode cc pc = .ok (.invokespecial ix, 3)) (hlev : 1 ≤ lev) (hlink : Cond.methodLink own ix Lib.objectInit ∈ AW) (hinst : Cond.instanceMethod Lib.objectInit ∈ AW) (hcode : Cond.code Lib.objectInit ⟨#[0xb1]⟩ 1 none ∈ AW) (hk : SndG κ (pc + 3) kk) : SndG κ pc (g_oi kk) := by
  obtain ⟨p, l, e, R, s, m, args, below, meth, c, n0, slots, Q, cA, D, b0, Hs⟩ := κ
  obtain ⟨hx, hb, hml, hown, hts, hlk, hK, hb0, hfr, hlo, hc1, hs1⟩ := h
  intro L st μ H locs ls cl sl hB hL hW hS kc kz
  unfold g_oi at hB
  split at hB
  · rename_i a r
    obtain ⟨g1, hB⟩ := hB
    refine W.objInit (rest := r.map (tv b0)) (a := b0 + a) hx hb hown (hts _ hlink) (hts _ hinst) (hts _ hcode) rfl hL.1 rfl d (by rw [hfr]; exact hlev) ?_ ?_
    · have := catS_ok b0 r
      have h2 : (F0 m pc ls (((.inr (.inr a) : AV) :: r).map (tv b0))).monitorRoom = 0 := rfl
      rw [h2, this, hlo]
      omega
    · exact hk L r μ H locs ls cl sl hB hL hW hS kc kz
  · exact hB.elim
def wpG (nL dn ds : Nat) (B : Nat → (GS → Prop) → PTG) : List AV → GS → (GS → Prop) → Prop := fun av G K => (eL av).length ≤ nL ∧ SL G.1 + ds = SL (G.1 + dn) ∧ B (G.1 + dn) (fun G' => (G'.1 = G.1 + dn ∧ SL G'.1 = SL G.1 + ds) ∧ K G') (eL av ++ List.replicate (nL - (eL av).length) none) [] G
theorem met_ofG {y : MethodName} {cc : ByteArray} {maxL lev dn ds : Nat} {B : Nat → (GS → Prop) → PTG} (hy : plainName y.cls = true) (hB : ∀ (κ : Kap) (top : Nat) (post : GS → Prop), AmbG κ y.cls cc maxL lev top → (y.name = "<init>" → match κ with | (_, _, _, _, _, _, _, _, meth, _, _, _, _, _, _, _, _) => meth.name = "<init>") → RetG κ top post → SndG κ 0 (B top post)) : ∀ l : Launch, l.stackTraces = false → MetG l y cc maxL lev dn ds (wpG maxL dn ds B) := by
  intro l htr cA D b0 Hs av G K hwp
  refine Met.ofW (cc := cc) (maxL := maxL) (ret := none) (ws' := AW) hy rfl ?_
  intro p e s m args below meth c s₁ Bd hml hv
  obtain ⟨rfl, ⟨hW, hz, hq⟩, hZ⟩ := hv
  have hts := atoms_spec (ws := AWm y cc maxL none) Bd.pre
  have hown : s.vm.findClass y.cls = some m.cls := findClass_of_methodNamed Bd.named
  rw [lg_entry_eq]
  have hE := entry_LH (b0 := b0) hwp.1
  have key := hB (p, l, e, (headSpec (AWm y cc maxL none) (rmG lev dn ds)).room, s, m, (av.map (tv b0)).toArray, below, meth, c, G.1, 0, MQ below (QcG cA D b0 (fun G' => (G'.1 = G.1 + dn ∧ SL G'.1 = SL G.1 + ds) ∧ K G')) (av.map (tv b0)).toArray s dn ds (fun q => b0 ≤ q), cA, D, b0, Hs) (G.1 + dn) (fun G' => (G'.1 = G.1 + dn ∧ SL G'.1 = SL G.1 + ds) ∧ K G')
    ⟨Bd.exec, Bd.bytes, hml, hown, fun w hw => hts w (List.mem_cons_of_mem _ hw), Bd.notSynchronized, hZ.1.1, ⟨hz, hq⟩, rfl, rfl, ⟨rfl, hwp.2.1⟩, htr, hZ⟩ (fun _ => (name_of_methodNamed Bd.named Bd.method).1.trans (by assumption)) ?_
  · exact key _ [] G s.heap [] _ 0 0 hwp.2.2 (by rw [hml]; exact hE) hW va_S.rf rfl rfl
  · refine ⟨Bd.returns, fun H locs g cl sl h1 h2 hh => ?_⟩
    have e1 : cl = dn := by omega
    have e2 : sl = ds := by have := hwp.2.1; omega
    subst e1
    subst e2
    exact hh
