/-! GROWTH 1: a memory that grows, for the constructors: how many entities there are, their numbers, longs and references -/
abbrev GS : Type := Nat × Mi × Mi × (Nat → Nat → Option Nat)
abbrev PTG : Type := List (Option AV) → List AV → GS → Prop
def fvG (G : GS) (b0 e k : Nat) : Value := if fk (kd e) k = 2 then va_rf ((G.2.2.2 e k).map (b0 + ·)) else if fk (kd e) k = 1 then .long (jL (G.2.2.1 e k)) else .int (jI (G.2.1 e k))
def enG (cA : Nat → ClassId) (G : GS) (b0 e : Nat) : va_E :=
  if kd e < 11 then .inr (kd e, (List.range (nf (kd e))).map (fvG G b0 e))
  else .inl (cA (kd e), (ln e, if kd e = 11 then .inl (fun j => jI (G.2.1 e j)) else if kd e = 12 then .inr (.inl (fun j => jL (G.2.2.1 e j))) else .inr (.inr (.inr (.inr (fun j => (G.2.2.2 e j).map (b0 + ·)))))))
def PG (cA : Nat → ClassId) (G : GS) (b0 : Nat) : va_W := (List.range G.1).map (fun e => (b0 + e, enG cA G b0 e))
def WG (cA : Nat → ClassId) (D : va_G) (b0 : Nat) (G : GS) (H : Heap) : Prop := va_P D vwCl (PG cA G b0) H
/-- the slots of the first n entities -/
def SL : Nat → Nat
  | 0 => 0
  | n + 1 => SL n + (if kd n < 11 then nf (kd n) else ln n)
def SndG (κ : Kap) (pc : Nat) (B : PTG) : Prop := match κ with
  | (p, l, e, R, s, m, args, below, meth, c, n0, slots, Q, cA, D, b0, Hs) => ∀ (L : List (Option AV)) (st : List AV) (μ : GS) (H : Heap) (locs : List Loc) (ls : Array Slot) (cl sl : Nat), B L st μ → LH b0 c.maxLocals ls L → WG cA D b0 μ H → va_S (fun q => b0 ≤ q) s.heap H locs → n0 + cl = μ.1 → SL n0 + sl = SL μ.1 → W p l e R s m args below meth c H locs cl sl Q (F0 m pc ls (st.map (tv b0)))
/-- what stays while the memory grows -/
def ZG (cA : Nat → ClassId) (D : va_G) (b0 : Nat) (Hs : Heap) (U : State) : Prop := ZZ cA D b0 Hs U ∧ va_AO "CellLoans$Port" U ∧ va_AO "CellLoans$Switch" U
/-- what holds all along a constructor's body, which begins with n0 entities and ends with top -/
def AmbG (κ : Kap) (own : String) (cc : ByteArray) (nL lev top : Nat) : Prop := match κ with
  | (p, l, _, R, s, m, args, _, meth, c, n0, _, _, cA, D, b0, Hs) => p.tables.exec = Jvm.exec ∧ c.code = cc ∧ c.maxLocals = nL ∧ s.vm.findClass own = some m.cls ∧ (∀ w ∈ AW, w.before args s = true) ∧ meth.locks = false ∧ va_K D vwCl (tysA cA) s ∧ (s.heap.size = b0 + n0 ∧ ∀ q, q < b0 → s.heap[q]? = Hs[q]?) ∧ R.frames = lev ∧ R.locals = 40 * lev ∧ (n0 + R.cells = top ∧ SL n0 + R.slots = SL top) ∧ l.stackTraces = false ∧ ZG cA D b0 Hs s

def g_ci (v : Int) (k : PTG) : PTG := fun L st μ => k L (.inl v :: st) μ
def g_cl (v : Int) (k : PTG) : PTG := fun L st μ => k L (.inr (.inl v) :: st) μ
theorem sg_iconst {κ : Kap} {own : String} {cc : ByteArray} {nL lev top : Nat} (h : AmbG κ own cc nL lev top) {pc : Nat} {n : Int} {k : PTG} (d : decode cc pc = .ok (.iconst n, 1)) (hk : SndG κ (pc + 1) k) : SndG κ pc (g_ci n k) := by
  obtain ⟨p, l, e, R, s, m, args, below, meth, c, cells, slots, Q, cA, D, b0, Hs⟩ := κ
  obtain ⟨hx, hb, hml, hown, hts, hlk, hK, hb0, hfr, hlo, hc1, hs1⟩ := h
  intro L st μ H locs ls cl sl hB hL hW hS kc kz
  exact lv_iconst (v := jI n) hx hb d rfl (hk L _ μ H locs ls cl sl hB hL hW hS kc kz)
theorem sg_bipush {κ : Kap} {own : String} {cc : ByteArray} {nL lev top : Nat} (h : AmbG κ own cc nL lev top) {pc : Nat} {n : Int} {k : PTG} (d : decode cc pc = .ok (.bipush n, 2)) (hn : -128 ≤ n ∧ n < 128) (hk : SndG κ (pc + 2) k) : SndG κ pc (g_ci n k) := by
  obtain ⟨p, l, e, R, s, m, args, below, meth, c, cells, slots, Q, cA, D, b0, Hs⟩ := κ
  obtain ⟨hx, hb, hml, hown, hts, hlk, hK, hb0, hfr, hlo, hc1, hs1⟩ := h
  intro L st μ H locs ls cl sl hB hL hW hS kc kz
  exact lv_bipush (v := jI n) hx hb d (bip_ok hn) (hk L _ μ H locs ls cl sl hB hL hW hS kc kz)
theorem sg_sipush {κ : Kap} {own : String} {cc : ByteArray} {nL lev top : Nat} (h : AmbG κ own cc nL lev top) {pc : Nat} {n : Int} {k : PTG} (d : decode cc pc = .ok (.sipush n, 3)) (hn : -32768 ≤ n ∧ n < 32768) (hk : SndG κ (pc + 3) k) : SndG κ pc (g_ci n k) := by
  obtain ⟨p, l, e, R, s, m, args, below, meth, c, cells, slots, Q, cA, D, b0, Hs⟩ := κ
  obtain ⟨hx, hb, hml, hown, hts, hlk, hK, hb0, hfr, hlo, hc1, hs1⟩ := h
  intro L st μ H locs ls cl sl hB hL hW hS kc kz
  exact lv_sipush (v := jI n) hx hb d (sip_ok hn) (hk L _ μ H locs ls cl sl hB hL hW hS kc kz)
theorem sg_lconst {κ : Kap} {own : String} {cc : ByteArray} {nL lev top : Nat} (h : AmbG κ own cc nL lev top) {pc : Nat} {n : Fin 2} {v : Int} {k : PTG} (d : decode cc pc = .ok (.lconst n, 1)) (hv : Int64.ofNat (n : Nat) = jL v) (hk : SndG κ (pc + 1) k) : SndG κ pc (g_cl v k) := by
  obtain ⟨p, l, e, R, s, m, args, below, meth, c, cells, slots, Q, cA, D, b0, Hs⟩ := κ
  obtain ⟨hx, hb, hml, hown, hts, hlk, hK, hb0, hfr, hlo, hc1, hs1⟩ := h
  intro L st μ H locs ls cl sl hB hL hW hS kc kz
  exact lv_lconst (v := jL v) hx hb d hv (hk L _ μ H locs ls cl sl hB hL hW hS kc kz)
def g_iload (i : Nat) (k : PTG) : PTG := fun L st μ => match L[i]? with
  | some (some (.inl x)) => k L (.inl x :: st) μ
  | _ => False
theorem sg_iload_n {κ : Kap} {own : String} {cc : ByteArray} {nL lev top : Nat} (h : AmbG κ own cc nL lev top) {pc : Nat} {i : Nat} {kk : Fin 4} {k : PTG} (d : decode cc pc = .ok (.iload_n kk, 1)) (hi : (kk : Nat) = i) (hk : SndG κ (pc + 1) k) : SndG κ pc (g_iload i k) := by
  obtain ⟨p, l, e, R, s, m, args, below, meth, c, cells, slots, Q, cA, D, b0, Hs⟩ := κ
  obtain ⟨hx, hb, hml, hown, hts, hlk, hK, hb0, hfr, hlo, hc1, hs1⟩ := h
  intro L st μ H locs ls cl sl hB hL hW hS kc kz
  unfold g_iload at hB
  split at hB
  · rename_i x hx1
    exact lv_iload_n hx hb d hi (hL.2.2 i _ hx1) (hk L _ μ H locs ls cl sl hB hL hW hS kc kz)
  · exact hB.elim
def g_lload (i : Nat) (k : PTG) : PTG := fun L st μ => match L[i]? with
  | some (some (.inr (.inl x))) => k L (.inr (.inl x) :: st) μ
  | _ => False
theorem sg_lload_n {κ : Kap} {own : String} {cc : ByteArray} {nL lev top : Nat} (h : AmbG κ own cc nL lev top) {pc : Nat} {i : Nat} {kk : Fin 4} {k : PTG} (d : decode cc pc = .ok (.lload_n kk, 1)) (hi : (kk : Nat) = i) (hk : SndG κ (pc + 1) k) : SndG κ pc (g_lload i k) := by
  obtain ⟨p, l, e, R, s, m, args, below, meth, c, cells, slots, Q, cA, D, b0, Hs⟩ := κ
  obtain ⟨hx, hb, hml, hown, hts, hlk, hK, hb0, hfr, hlo, hc1, hs1⟩ := h
  intro L st μ H locs ls cl sl hB hL hW hS kc kz
  unfold g_lload at hB
  split at hB
  · rename_i x hx1
    exact lv_lload_n hx hb d hi (hL.2.2 i _ hx1) (hk L _ μ H locs ls cl sl hB hL hW hS kc kz)
  · exact hB.elim
def g_aload (i : Nat) (k : PTG) : PTG := fun L st μ => match L[i]? with
  | some (some (.inr (.inr x))) => k L (.inr (.inr x) :: st) μ
  | _ => False
theorem sg_aload_n {κ : Kap} {own : String} {cc : ByteArray} {nL lev top : Nat} (h : AmbG κ own cc nL lev top) {pc : Nat} {i : Nat} {kk : Fin 4} {k : PTG} (d : decode cc pc = .ok (.aload_n kk, 1)) (hi : (kk : Nat) = i) (hk : SndG κ (pc + 1) k) : SndG κ pc (g_aload i k) := by
  obtain ⟨p, l, e, R, s, m, args, below, meth, c, cells, slots, Q, cA, D, b0, Hs⟩ := κ
  obtain ⟨hx, hb, hml, hown, hts, hlk, hK, hb0, hfr, hlo, hc1, hs1⟩ := h
  intro L st μ H locs ls cl sl hB hL hW hS kc kz
  unfold g_aload at hB
  split at hB
  · rename_i x hx1
    exact lv_aload_n hx hb d hi (hL.2.2 i _ hx1) (hk L _ μ H locs ls cl sl hB hL hW hS kc kz)
  · exact hB.elim
def g_istore (i : Nat) (k : PTG) : PTG := fun L st μ => match st with
  | .inl x :: r => k (stI L i (.inl x)) r μ
  | _ => False
theorem sg_istore_n {κ : Kap} {own : String} {cc : ByteArray} {nL lev top : Nat} (h : AmbG κ own cc nL lev top) {pc : Nat} {i : Nat} {kk : Fin 4} {k : PTG} (d : decode cc pc = .ok (.istore_n kk, 1)) (hi : (kk : Nat) = i) (hn : i < nL) (hk : SndG κ (pc + 1) k) : SndG κ pc (g_istore i k) := by
  obtain ⟨p, l, e, R, s, m, args, below, meth, c, cells, slots, Q, cA, D, b0, Hs⟩ := κ
  obtain ⟨hx, hb, hml, hown, hts, hlk, hK, hb0, hfr, hlo, hc1, hs1⟩ := h
  intro L st μ H locs ls cl sl hB hL hW hS kc kz
  unfold g_istore at hB
  split at hB
  · rename_i x r
    exact lv_istore_n hx hb d hi (LH_has hL) (by rw [hml]; exact hn) rfl (fun ls' hl' => hk _ r μ H locs ls' cl sl hB (LH_st (v := .inl x) hl') hW hS kc kz)
  · exact hB.elim
def g_iinc (i : Nat) (n : Int) (k : PTG) : PTG := fun L st μ => match L[i]? with
  | some (some (.inl x)) => k (stI L i (.inl (x + n))) st μ
  | _ => False
theorem sg_iinc {κ : Kap} {own : String} {cc : ByteArray} {nL lev top : Nat} (h : AmbG κ own cc nL lev top) {pc : Nat} {i : Nat} {n : Int} {k : PTG} (d : decode cc pc = .ok (.iinc i n, 3)) (hn : i < nL) (hk : SndG κ (pc + 3) k) : SndG κ pc (g_iinc i n k) := by
  obtain ⟨p, l, e, R, s, m, args, below, meth, c, cells, slots, Q, cA, D, b0, Hs⟩ := κ
  obtain ⟨hx, hb, hml, hown, hts, hlk, hK, hb0, hfr, hlo, hc1, hs1⟩ := h
  intro L st μ H locs ls cl sl hB hL hW hS kc kz
  unfold g_iinc at hB
  split at hB
  · rename_i x hx1
    obtain ⟨q, hq⟩ := List.getElem?_of_mem (lvs_in (b0 := b0) hx1)
    exact lv_iinc (v := jI (x + n)) hx hb d (LH_has hL) hq (jI_add x n) (by rw [hml]; exact hn) rfl (fun ls' hl' => hk _ st μ H locs ls' cl sl hB (LH_st (v := .inl (x + n)) hl') hW hS kc kz)
  · exact hB.elim
def g_kil (ks : List Nat) (k : PTG) : PTG := fun L st μ => k (kil L ks) st μ
theorem sg_kil {κ : Kap} {own : String} {cc : ByteArray} {nL lev top : Nat} (h : AmbG κ own cc nL lev top) {pc : Nat} {ks : List Nat} {k : PTG} (hk : SndG κ pc k) : SndG κ pc (g_kil ks k) := by
  obtain ⟨p, l, e, R, s, m, args, below, meth, c, cells, slots, Q, cA, D, b0, Hs⟩ := κ
  obtain ⟨hx, hb, hml, hown, hts, hlk, hK, hb0, hfr, hlo, hc1, hs1⟩ := h
  intro L st μ H locs ls cl sl hB hL hW hS kc kz
  exact hk _ _ μ H locs ls cl sl hB (LH_kil hL ks) hW hS kc kz
def g_iadd (k : PTG) : PTG := fun L st μ => match st with
  | .inl y :: .inl x :: r => k L (.inl (x + y) :: r) μ
  | _ => False
theorem sg_iadd {κ : Kap} {own : String} {cc : ByteArray} {nL lev top : Nat} (h : AmbG κ own cc nL lev top) {pc : Nat} {k : PTG} (d : decode cc pc = .ok (.iadd, 1)) (hk : SndG κ (pc + 1) k) : SndG κ pc (g_iadd k) := by
  obtain ⟨p, l, e, R, s, m, args, below, meth, c, cells, slots, Q, cA, D, b0, Hs⟩ := κ
  obtain ⟨hx, hb, hml, hown, hts, hlk, hK, hb0, hfr, hlo, hc1, hs1⟩ := h
  intro L st μ H locs ls cl sl hB hL hW hS kc kz
  unfold g_iadd at hB
  split at hB
  · rename_i y x r
    refine lv_iadd (x := jI x) (y := jI y) (rest := r.map (tv b0)) hx hb d ?_
    rw [jI_add]
    exact hk L _ μ H locs ls cl sl hB hL hW hS kc kz
  · exact hB.elim
def g_imul (k : PTG) : PTG := fun L st μ => match st with
  | .inl y :: .inl x :: r => k L (.inl (x * y) :: r) μ
  | _ => False
theorem sg_imul {κ : Kap} {own : String} {cc : ByteArray} {nL lev top : Nat} (h : AmbG κ own cc nL lev top) {pc : Nat} {k : PTG} (d : decode cc pc = .ok (.imul, 1)) (hk : SndG κ (pc + 1) k) : SndG κ pc (g_imul k) := by
  obtain ⟨p, l, e, R, s, m, args, below, meth, c, cells, slots, Q, cA, D, b0, Hs⟩ := κ
  obtain ⟨hx, hb, hml, hown, hts, hlk, hK, hb0, hfr, hlo, hc1, hs1⟩ := h
  intro L st μ H locs ls cl sl hB hL hW hS kc kz
  unfold g_imul at hB
  split at hB
  · rename_i y x r
    refine lv_imul (x := jI x) (y := jI y) (rest := r.map (tv b0)) hx hb d ?_
    rw [jI_mul]
    exact hk L _ μ H locs ls cl sl hB hL hW hS kc kz
  · exact hB.elim
def g_idiv (k : PTG) : PTG := fun L st μ => match st with
  | .inl y :: .inl x :: r => R32 x ∧ R32 y ∧ y ≠ 0 ∧ k L (.inl (x.tdiv y) :: r) μ
  | _ => False
theorem sg_idiv {κ : Kap} {own : String} {cc : ByteArray} {nL lev top : Nat} (h : AmbG κ own cc nL lev top) {pc : Nat} {k : PTG} (d : decode cc pc = .ok (.idiv, 1)) (hk : SndG κ (pc + 1) k) : SndG κ pc (g_idiv k) := by
  obtain ⟨p, l, e, R, s, m, args, below, meth, c, cells, slots, Q, cA, D, b0, Hs⟩ := κ
  obtain ⟨hx, hb, hml, hown, hts, hlk, hK, hb0, hfr, hlo, hc1, hs1⟩ := h
  intro L st μ H locs ls cl sl hB hL hW hS kc kz
  unfold g_idiv at hB
  split at hB
  · rename_i y x r
    obtain ⟨h1, h2, h3, hB⟩ := hB
    refine lv_idiv (x := jI x) (y := jI y) (rest := r.map (tv b0)) hx hb d (jI_ne0 h2 h3) ?_
    rw [jI_div h1 h2]
    exact hk L _ μ H locs ls cl sl hB hL hW hS kc kz
  · exact hB.elim
def g_dup (k : PTG) : PTG := fun L st μ => match st with
  | .inl x :: r => k L (.inl x :: .inl x :: r) μ
  | .inr (.inr x) :: r => k L (.inr (.inr x) :: .inr (.inr x) :: r) μ
  | _ => False
theorem sg_dup {κ : Kap} {own : String} {cc : ByteArray} {nL lev top : Nat} (h : AmbG κ own cc nL lev top) {pc : Nat} {k : PTG} (d : decode cc pc = .ok (.dup, 1)) (hk : SndG κ (pc + 1) k) : SndG κ pc (g_dup k) := by
  obtain ⟨p, l, e, R, s, m, args, below, meth, c, cells, slots, Q, cA, D, b0, Hs⟩ := κ
  obtain ⟨hx, hb, hml, hown, hts, hlk, hK, hb0, hfr, hlo, hc1, hs1⟩ := h
  intro L st μ H locs ls cl sl hB hL hW hS kc kz
  unfold g_dup at hB
  split at hB
  · rename_i x r
    exact lv_dup (va := .int (jI x)) (rest := r.map (tv b0)) hx hb d rfl (hk L _ μ H locs ls cl sl hB hL hW hS kc kz)
  · rename_i x r
    exact lv_dup (va := .ref (b0 + x)) (rest := r.map (tv b0)) hx hb d rfl (hk L _ μ H locs ls cl sl hB hL hW hS kc kz)
  · exact hB.elim
theorem sg_goto {κ : Kap} {own : String} {cc : ByteArray} {nL lev top : Nat} (h : AmbG κ own cc nL lev top) {pc : Nat} {off : Int} {tgt : Nat} {k : PTG} (d : decode cc pc = .ok (.goto off, 3)) (ht : (pc : Int) + off = (tgt : Int)) (hk : SndG κ tgt k) : SndG κ pc (k) := by
  obtain ⟨p, l, e, R, s, m, args, below, meth, c, cells, slots, Q, cA, D, b0, Hs⟩ := κ
  obtain ⟨hx, hb, hml, hown, hts, hlk, hK, hb0, hfr, hlo, hc1, hs1⟩ := h
  intro L st μ H locs ls cl sl hB hL hW hS kc kz
  exact lv_goto hx hb d ht (hk L _ μ H locs ls cl sl hB hL hW hS kc kz)
def g_icmp_ge (kt kf : PTG) : PTG := fun L st μ => match st with
  | .inl y :: .inl x :: r => R32 x ∧ R32 y ∧ (y ≤ x → kt L r μ) ∧ (¬ y ≤ x → kf L r μ)
  | _ => False
theorem sg_icmp_ge {κ : Kap} {own : String} {cc : ByteArray} {nL lev top : Nat} (h : AmbG κ own cc nL lev top) {pc : Nat} {off : Int} {tgt : Nat} {kt kf : PTG} (d : decode cc pc = .ok (.if_icmp .ge off, 3)) (ht : (pc : Int) + off = (tgt : Int)) (hkt : SndG κ tgt kt) (hkf : SndG κ (pc + 3) kf) : SndG κ pc (g_icmp_ge kt kf) := by
  obtain ⟨p, l, e, R, s, m, args, below, meth, c, cells, slots, Q, cA, D, b0, Hs⟩ := κ
  obtain ⟨hx, hb, hml, hown, hts, hlk, hK, hb0, hfr, hlo, hc1, hs1⟩ := h
  intro L st μ H locs ls cl sl hB hL hW hS kc kz
  unfold g_icmp_ge at hB
  split at hB
  · rename_i y x r
    obtain ⟨h1, h2, h3, h4⟩ := hB
    have hi := jI_le h2 h1
    exact lv_icmp_ge (x := jI x) (y := jI y) (rest := r.map (tv b0)) hx hb d ht (fun q => hkt L _ μ H locs ls cl sl (h3 (hi.mp q)) hL hW hS kc kz) (fun q => hkf L _ μ H locs ls cl sl (h4 (fun z => q (hi.mpr z))) hL hW hS kc kz)
  · exact hB.elim
