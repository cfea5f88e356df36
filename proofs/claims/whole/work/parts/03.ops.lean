/-! OPS: a predicate transformer an instruction (o_..), and that the machine keeps it (s_..) -/
abbrev PT : Type := List (Option AV) → List AV → MM → Prop
abbrev Kap : Type := Program × Launch × Env × Room × State × MethodId × Array Value × List Frame × Method × Code × Nat × Nat × (State → Prop) × (Nat → ClassId) × va_G × Nat × Heap
/-- where B holds of locals, stack and memory, the machine, at pc, comes to its end -/
def Snd (κ : Kap) (pc : Nat) (B : PT) : Prop := match κ with
  | (p, l, e, R, s, m, args, below, meth, c, cells, slots, Q, cA, D, b0, Hs) => ∀ (L : List (Option AV)) (st : List AV) (μ : MM) (H : Heap) (locs : List Loc) (ls : Array Slot), B L st μ → LH b0 c.maxLocals ls L → Wo cA D b0 Hs μ H → va_S (fun q => b0 ≤ q) s.heap H locs → W p l e R s m args below meth c H locs cells slots Q (F0 m pc ls (st.map (tv b0)))
/-- what holds all along a method's body -/
def Amb (κ : Kap) (own : String) (cc : ByteArray) (nL lev : Nat) : Prop := match κ with
  | (p, _, _, R, s, m, args, _, meth, c, cells, slots, _, cA, D, b0, _) => p.tables.exec = Jvm.exec ∧ c.code = cc ∧ c.maxLocals = nL ∧ s.vm.findClass own = some m.cls ∧ (∀ w ∈ AW, w.before args s = true) ∧ meth.locks = false ∧ va_K D vwCl (tysA cA) s ∧ b0 ≤ s.heap.size ∧ R.frames = lev ∧ R.locals = 40 * lev ∧ cells ≤ R.cells ∧ slots ≤ R.slots

def o_ci (v : Int) (k : PT) : PT := fun L st μ => k L (.inl v :: st) μ
def o_cl (v : Int) (k : PT) : PT := fun L st μ => k L (.inr (.inl v) :: st) μ
theorem s_iconst {κ : Kap} {own : String} {cc : ByteArray} {nL lev : Nat} (h : Amb κ own cc nL lev) {pc : Nat} {n : Int} {k : PT} (d : decode cc pc = .ok (.iconst n, 1)) (hk : Snd κ (pc + 1) k) : Snd κ pc (o_ci n k) := by
  obtain ⟨p, l, e, R, s, m, args, below, meth, c, cells, slots, Q, cA, D, b0, Hs⟩ := κ
  obtain ⟨hx, hb, hml, hown, hts, hlk, hK, hb0, hfr, hlo, hc1, hs1⟩ := h
  intro L st μ H locs ls hB hL hW hS
  exact lv_iconst (v := jI n) hx hb d rfl (hk L _ μ H locs ls hB hL hW hS)
theorem bip_ok {n : Int} (h : -128 ≤ n ∧ n < 128) : (Int8.ofInt n).toInt32 = jI n := by
  rw [← Int32.ofInt_int8ToInt, Int8.toInt_ofInt_of_le h.1 h.2]
  rfl
theorem sip_ok {n : Int} (h : -32768 ≤ n ∧ n < 32768) : (Int16.ofInt n).toInt32 = jI n := by
  rw [← Int32.ofInt_int16ToInt, Int16.toInt_ofInt_of_le h.1 h.2]
  rfl
theorem s_bipush {κ : Kap} {own : String} {cc : ByteArray} {nL lev : Nat} (h : Amb κ own cc nL lev) {pc : Nat} {n : Int} {k : PT} (d : decode cc pc = .ok (.bipush n, 2)) (hn : -128 ≤ n ∧ n < 128) (hk : Snd κ (pc + 2) k) : Snd κ pc (o_ci n k) := by
  obtain ⟨p, l, e, R, s, m, args, below, meth, c, cells, slots, Q, cA, D, b0, Hs⟩ := κ
  obtain ⟨hx, hb, hml, hown, hts, hlk, hK, hb0, hfr, hlo, hc1, hs1⟩ := h
  intro L st μ H locs ls hB hL hW hS
  exact lv_bipush (v := jI n) hx hb d (bip_ok hn) (hk L _ μ H locs ls hB hL hW hS)
theorem s_sipush {κ : Kap} {own : String} {cc : ByteArray} {nL lev : Nat} (h : Amb κ own cc nL lev) {pc : Nat} {n : Int} {k : PT} (d : decode cc pc = .ok (.sipush n, 3)) (hn : -32768 ≤ n ∧ n < 32768) (hk : Snd κ (pc + 3) k) : Snd κ pc (o_ci n k) := by
  obtain ⟨p, l, e, R, s, m, args, below, meth, c, cells, slots, Q, cA, D, b0, Hs⟩ := κ
  obtain ⟨hx, hb, hml, hown, hts, hlk, hK, hb0, hfr, hlo, hc1, hs1⟩ := h
  intro L st μ H locs ls hB hL hW hS
  exact lv_sipush (v := jI n) hx hb d (sip_ok hn) (hk L _ μ H locs ls hB hL hW hS)
theorem s_lconst {κ : Kap} {own : String} {cc : ByteArray} {nL lev : Nat} (h : Amb κ own cc nL lev) {pc : Nat} {n : Fin 2} {v : Int} {k : PT} (d : decode cc pc = .ok (.lconst n, 1)) (hv : Int64.ofNat (n : Nat) = jL v) (hk : Snd κ (pc + 1) k) : Snd κ pc (o_cl v k) := by
  obtain ⟨p, l, e, R, s, m, args, below, meth, c, cells, slots, Q, cA, D, b0, Hs⟩ := κ
  obtain ⟨hx, hb, hml, hown, hts, hlk, hK, hb0, hfr, hlo, hc1, hs1⟩ := h
  intro L st μ H locs ls hB hL hW hS
  exact lv_lconst (v := jL v) hx hb d hv (hk L _ μ H locs ls hB hL hW hS)
theorem s_ldc2 {κ : Kap} {own : String} {cc : ByteArray} {nL lev : Nat} (h : Amb κ own cc nL lev) {pc : Nat} {ix : Nat} {v : Int} {z : Int64} {k : PT} (d : decode cc pc = .ok (.ldc2_w ix, 3)) (hw : Cond.constantLong own ix z ∈ AW) (hv : z = jL v) (hk : Snd κ (pc + 3) k) : Snd κ pc (o_cl v k) := by
  obtain ⟨p, l, e, R, s, m, args, below, meth, c, cells, slots, Q, cA, D, b0, Hs⟩ := κ
  obtain ⟨hx, hb, hml, hown, hts, hlk, hK, hb0, hfr, hlo, hc1, hs1⟩ := h
  intro L st μ H locs ls hB hL hW hS
  subst hv
  exact lv_ldc2 hx hb hown (hts _ hw) d (hk L _ μ H locs ls hB hL hW hS)
def o_iload (i : Nat) (k : PT) : PT := fun L st μ => match L[i]? with
  | some (some (.inl x)) => k L (.inl x :: st) μ
  | _ => False
theorem s_iload_n {κ : Kap} {own : String} {cc : ByteArray} {nL lev : Nat} (h : Amb κ own cc nL lev) {pc : Nat} {i : Nat} {kk : Fin 4} {k : PT} (d : decode cc pc = .ok (.iload_n kk, 1)) (hi : (kk : Nat) = i) (hk : Snd κ (pc + 1) k) : Snd κ pc (o_iload i k) := by
  obtain ⟨p, l, e, R, s, m, args, below, meth, c, cells, slots, Q, cA, D, b0, Hs⟩ := κ
  obtain ⟨hx, hb, hml, hown, hts, hlk, hK, hb0, hfr, hlo, hc1, hs1⟩ := h
  intro L st μ H locs ls hB hL hW hS
  unfold o_iload at hB
  split at hB
  · rename_i x hx1
    exact lv_iload_n hx hb d hi (hL.2.2 i _ hx1) (hk L _ μ H locs ls hB hL hW hS)
  · exact hB.elim
theorem s_iload {κ : Kap} {own : String} {cc : ByteArray} {nL lev : Nat} (h : Amb κ own cc nL lev) {pc : Nat} {i : Nat} {k : PT} (d : decode cc pc = .ok (.iload i, 2)) (hk : Snd κ (pc + 2) k) : Snd κ pc (o_iload i k) := by
  obtain ⟨p, l, e, R, s, m, args, below, meth, c, cells, slots, Q, cA, D, b0, Hs⟩ := κ
  obtain ⟨hx, hb, hml, hown, hts, hlk, hK, hb0, hfr, hlo, hc1, hs1⟩ := h
  intro L st μ H locs ls hB hL hW hS
  unfold o_iload at hB
  split at hB
  · rename_i x hx1
    exact lv_iload hx hb d (hL.2.2 i _ hx1) (hk L _ μ H locs ls hB hL hW hS)
  · exact hB.elim
def o_lload (i : Nat) (k : PT) : PT := fun L st μ => match L[i]? with
  | some (some (.inr (.inl x))) => k L (.inr (.inl x) :: st) μ
  | _ => False
theorem s_lload_n {κ : Kap} {own : String} {cc : ByteArray} {nL lev : Nat} (h : Amb κ own cc nL lev) {pc : Nat} {i : Nat} {kk : Fin 4} {k : PT} (d : decode cc pc = .ok (.lload_n kk, 1)) (hi : (kk : Nat) = i) (hk : Snd κ (pc + 1) k) : Snd κ pc (o_lload i k) := by
  obtain ⟨p, l, e, R, s, m, args, below, meth, c, cells, slots, Q, cA, D, b0, Hs⟩ := κ
  obtain ⟨hx, hb, hml, hown, hts, hlk, hK, hb0, hfr, hlo, hc1, hs1⟩ := h
  intro L st μ H locs ls hB hL hW hS
  unfold o_lload at hB
  split at hB
  · rename_i x hx1
    exact lv_lload_n hx hb d hi (hL.2.2 i _ hx1) (hk L _ μ H locs ls hB hL hW hS)
  · exact hB.elim
theorem s_lload {κ : Kap} {own : String} {cc : ByteArray} {nL lev : Nat} (h : Amb κ own cc nL lev) {pc : Nat} {i : Nat} {k : PT} (d : decode cc pc = .ok (.lload i, 2)) (hk : Snd κ (pc + 2) k) : Snd κ pc (o_lload i k) := by
  obtain ⟨p, l, e, R, s, m, args, below, meth, c, cells, slots, Q, cA, D, b0, Hs⟩ := κ
  obtain ⟨hx, hb, hml, hown, hts, hlk, hK, hb0, hfr, hlo, hc1, hs1⟩ := h
  intro L st μ H locs ls hB hL hW hS
  unfold o_lload at hB
  split at hB
  · rename_i x hx1
    exact lv_lload hx hb d (hL.2.2 i _ hx1) (hk L _ μ H locs ls hB hL hW hS)
  · exact hB.elim
def o_aload (i : Nat) (k : PT) : PT := fun L st μ => match L[i]? with
  | some (some (.inr (.inr x))) => k L (.inr (.inr x) :: st) μ
  | _ => False
theorem s_aload_n {κ : Kap} {own : String} {cc : ByteArray} {nL lev : Nat} (h : Amb κ own cc nL lev) {pc : Nat} {i : Nat} {kk : Fin 4} {k : PT} (d : decode cc pc = .ok (.aload_n kk, 1)) (hi : (kk : Nat) = i) (hk : Snd κ (pc + 1) k) : Snd κ pc (o_aload i k) := by
  obtain ⟨p, l, e, R, s, m, args, below, meth, c, cells, slots, Q, cA, D, b0, Hs⟩ := κ
  obtain ⟨hx, hb, hml, hown, hts, hlk, hK, hb0, hfr, hlo, hc1, hs1⟩ := h
  intro L st μ H locs ls hB hL hW hS
  unfold o_aload at hB
  split at hB
  · rename_i x hx1
    exact lv_aload_n hx hb d hi (hL.2.2 i _ hx1) (hk L _ μ H locs ls hB hL hW hS)
  · exact hB.elim
theorem s_aload {κ : Kap} {own : String} {cc : ByteArray} {nL lev : Nat} (h : Amb κ own cc nL lev) {pc : Nat} {i : Nat} {k : PT} (d : decode cc pc = .ok (.aload i, 2)) (hk : Snd κ (pc + 2) k) : Snd κ pc (o_aload i k) := by
  obtain ⟨p, l, e, R, s, m, args, below, meth, c, cells, slots, Q, cA, D, b0, Hs⟩ := κ
  obtain ⟨hx, hb, hml, hown, hts, hlk, hK, hb0, hfr, hlo, hc1, hs1⟩ := h
  intro L st μ H locs ls hB hL hW hS
  unfold o_aload at hB
  split at hB
  · rename_i x hx1
    exact lv_aload hx hb d (hL.2.2 i _ hx1) (hk L _ μ H locs ls hB hL hW hS)
  · exact hB.elim
def o_istore (i : Nat) (k : PT) : PT := fun L st μ => match st with
  | .inl x :: r => k (stI L i (.inl x)) r μ
  | _ => False
theorem s_istore_n {κ : Kap} {own : String} {cc : ByteArray} {nL lev : Nat} (h : Amb κ own cc nL lev) {pc : Nat} {i : Nat} {kk : Fin 4} {k : PT} (d : decode cc pc = .ok (.istore_n kk, 1)) (hi : (kk : Nat) = i) (hn : i < nL) (hk : Snd κ (pc + 1) k) : Snd κ pc (o_istore i k) := by
  obtain ⟨p, l, e, R, s, m, args, below, meth, c, cells, slots, Q, cA, D, b0, Hs⟩ := κ
  obtain ⟨hx, hb, hml, hown, hts, hlk, hK, hb0, hfr, hlo, hc1, hs1⟩ := h
  intro L st μ H locs ls hB hL hW hS
  unfold o_istore at hB
  split at hB
  · rename_i x r
    exact lv_istore_n hx hb d hi (LH_has hL) (by rw [hml]; exact hn) rfl (fun ls' hl' => hk _ r μ H locs ls' hB (LH_st (v := .inl x) hl') hW hS)
  · exact hB.elim
theorem s_istore {κ : Kap} {own : String} {cc : ByteArray} {nL lev : Nat} (h : Amb κ own cc nL lev) {pc : Nat} {i : Nat} {k : PT} (d : decode cc pc = .ok (.istore i, 2)) (hn : i < nL) (hk : Snd κ (pc + 2) k) : Snd κ pc (o_istore i k) := by
  obtain ⟨p, l, e, R, s, m, args, below, meth, c, cells, slots, Q, cA, D, b0, Hs⟩ := κ
  obtain ⟨hx, hb, hml, hown, hts, hlk, hK, hb0, hfr, hlo, hc1, hs1⟩ := h
  intro L st μ H locs ls hB hL hW hS
  unfold o_istore at hB
  split at hB
  · rename_i x r
    exact lv_istore hx hb d (LH_has hL) (by rw [hml]; exact hn) rfl (fun ls' hl' => hk _ r μ H locs ls' hB (LH_st (v := .inl x) hl') hW hS)
  · exact hB.elim
def o_astore (i : Nat) (k : PT) : PT := fun L st μ => match st with
  | .inr (.inr x) :: r => k (stI L i (.inr (.inr x))) r μ
  | _ => False
theorem s_astore_n {κ : Kap} {own : String} {cc : ByteArray} {nL lev : Nat} (h : Amb κ own cc nL lev) {pc : Nat} {i : Nat} {kk : Fin 4} {k : PT} (d : decode cc pc = .ok (.astore_n kk, 1)) (hi : (kk : Nat) = i) (hn : i < nL) (hk : Snd κ (pc + 1) k) : Snd κ pc (o_astore i k) := by
  obtain ⟨p, l, e, R, s, m, args, below, meth, c, cells, slots, Q, cA, D, b0, Hs⟩ := κ
  obtain ⟨hx, hb, hml, hown, hts, hlk, hK, hb0, hfr, hlo, hc1, hs1⟩ := h
  intro L st μ H locs ls hB hL hW hS
  unfold o_astore at hB
  split at hB
  · rename_i x r
    exact lv_astore_n hx hb d hi (LH_has hL) (by rw [hml]; exact hn) rfl (fun ls' hl' => hk _ r μ H locs ls' hB (LH_st (v := .inr (.inr x)) hl') hW hS)
  · exact hB.elim
theorem s_astore {κ : Kap} {own : String} {cc : ByteArray} {nL lev : Nat} (h : Amb κ own cc nL lev) {pc : Nat} {i : Nat} {k : PT} (d : decode cc pc = .ok (.astore i, 2)) (hn : i < nL) (hk : Snd κ (pc + 2) k) : Snd κ pc (o_astore i k) := by
  obtain ⟨p, l, e, R, s, m, args, below, meth, c, cells, slots, Q, cA, D, b0, Hs⟩ := κ
  obtain ⟨hx, hb, hml, hown, hts, hlk, hK, hb0, hfr, hlo, hc1, hs1⟩ := h
  intro L st μ H locs ls hB hL hW hS
  unfold o_astore at hB
  split at hB
  · rename_i x r
    exact lv_astore hx hb d (LH_has hL) (by rw [hml]; exact hn) rfl (fun ls' hl' => hk _ r μ H locs ls' hB (LH_st (v := .inr (.inr x)) hl') hW hS)
  · exact hB.elim
def o_lstore (i : Nat) (k : PT) : PT := fun L st μ => match st with
  | .inr (.inl x) :: r => k (stL L i (.inr (.inl x))) r μ
  | _ => False
theorem s_lstore_n {κ : Kap} {own : String} {cc : ByteArray} {nL lev : Nat} (h : Amb κ own cc nL lev) {pc : Nat} {i : Nat} {kk : Fin 4} {k : PT} (d : decode cc pc = .ok (.lstore_n kk, 1)) (hi : (kk : Nat) = i) (hn : i + 1 < nL) (hk : Snd κ (pc + 1) k) : Snd κ pc (o_lstore i k) := by
  obtain ⟨p, l, e, R, s, m, args, below, meth, c, cells, slots, Q, cA, D, b0, Hs⟩ := κ
  obtain ⟨hx, hb, hml, hown, hts, hlk, hK, hb0, hfr, hlo, hc1, hs1⟩ := h
  intro L st μ H locs ls hB hL hW hS
  unfold o_lstore at hB
  split at hB
  · rename_i x r
    exact lv_lstore_n hx hb d hi (LH_has hL) (by rw [hml]; exact hn) rfl (fun ls' hl' => hk _ r μ H locs ls' hB (LH_st2 (v := .inr (.inl x)) hl') hW hS)
  · exact hB.elim
theorem s_lstore {κ : Kap} {own : String} {cc : ByteArray} {nL lev : Nat} (h : Amb κ own cc nL lev) {pc : Nat} {i : Nat} {k : PT} (d : decode cc pc = .ok (.lstore i, 2)) (hn : i + 1 < nL) (hk : Snd κ (pc + 2) k) : Snd κ pc (o_lstore i k) := by
  obtain ⟨p, l, e, R, s, m, args, below, meth, c, cells, slots, Q, cA, D, b0, Hs⟩ := κ
  obtain ⟨hx, hb, hml, hown, hts, hlk, hK, hb0, hfr, hlo, hc1, hs1⟩ := h
  intro L st μ H locs ls hB hL hW hS
  unfold o_lstore at hB
  split at hB
  · rename_i x r
    exact lv_lstore hx hb d (LH_has hL) (by rw [hml]; exact hn) rfl (fun ls' hl' => hk _ r μ H locs ls' hB (LH_st2 (v := .inr (.inl x)) hl') hW hS)
  · exact hB.elim
def o_iinc (i : Nat) (n : Int) (k : PT) : PT := fun L st μ => match L[i]? with
  | some (some (.inl x)) => k (stI L i (.inl (x + n))) st μ
  | _ => False
theorem s_iinc {κ : Kap} {own : String} {cc : ByteArray} {nL lev : Nat} (h : Amb κ own cc nL lev) {pc : Nat} {i : Nat} {n : Int} {k : PT} (d : decode cc pc = .ok (.iinc i n, 3)) (hn : i < nL) (hk : Snd κ (pc + 3) k) : Snd κ pc (o_iinc i n k) := by
  obtain ⟨p, l, e, R, s, m, args, below, meth, c, cells, slots, Q, cA, D, b0, Hs⟩ := κ
  obtain ⟨hx, hb, hml, hown, hts, hlk, hK, hb0, hfr, hlo, hc1, hs1⟩ := h
  intro L st μ H locs ls hB hL hW hS
  unfold o_iinc at hB
  split at hB
  · rename_i x hx1
    obtain ⟨q, hq⟩ := List.getElem?_of_mem (lvs_in (b0 := b0) hx1)
    exact lv_iinc (v := jI (x + n)) hx hb d (LH_has hL) hq (jI_add x n) (by rw [hml]; exact hn) rfl (fun ls' hl' => hk _ st μ H locs ls' hB (LH_st (v := .inl (x + n)) hl') hW hS)
  · exact hB.elim
def o_kil (ks : List Nat) (k : PT) : PT := fun L st μ => k (kil L ks) st μ
theorem s_kil {κ : Kap} {own : String} {cc : ByteArray} {nL lev : Nat} (h : Amb κ own cc nL lev) {pc : Nat} {ks : List Nat} {k : PT} (hk : Snd κ pc k) : Snd κ pc (o_kil ks k) := by
  obtain ⟨p, l, e, R, s, m, args, below, meth, c, cells, slots, Q, cA, D, b0, Hs⟩ := κ
  obtain ⟨hx, hb, hml, hown, hts, hlk, hK, hb0, hfr, hlo, hc1, hs1⟩ := h
  intro L st μ H locs ls hB hL hW hS
  exact hk _ _ μ H locs ls hB (LH_kil hL ks) hW hS
def o_iadd (k : PT) : PT := fun L st μ => match st with
  | .inl y :: .inl x :: r => k L (.inl (x + y) :: r) μ
  | _ => False
theorem s_iadd {κ : Kap} {own : String} {cc : ByteArray} {nL lev : Nat} (h : Amb κ own cc nL lev) {pc : Nat} {k : PT} (d : decode cc pc = .ok (.iadd, 1)) (hk : Snd κ (pc + 1) k) : Snd κ pc (o_iadd k) := by
  obtain ⟨p, l, e, R, s, m, args, below, meth, c, cells, slots, Q, cA, D, b0, Hs⟩ := κ
  obtain ⟨hx, hb, hml, hown, hts, hlk, hK, hb0, hfr, hlo, hc1, hs1⟩ := h
  intro L st μ H locs ls hB hL hW hS
  unfold o_iadd at hB
  split at hB
  · rename_i y x r
    refine lv_iadd (x := jI x) (y := jI y) (rest := r.map (tv b0)) hx hb d ?_
    rw [jI_add]
    exact hk L _ μ H locs ls hB hL hW hS
  · exact hB.elim
def o_isub (k : PT) : PT := fun L st μ => match st with
  | .inl y :: .inl x :: r => k L (.inl (x - y) :: r) μ
  | _ => False
theorem s_isub {κ : Kap} {own : String} {cc : ByteArray} {nL lev : Nat} (h : Amb κ own cc nL lev) {pc : Nat} {k : PT} (d : decode cc pc = .ok (.isub, 1)) (hk : Snd κ (pc + 1) k) : Snd κ pc (o_isub k) := by
  obtain ⟨p, l, e, R, s, m, args, below, meth, c, cells, slots, Q, cA, D, b0, Hs⟩ := κ
  obtain ⟨hx, hb, hml, hown, hts, hlk, hK, hb0, hfr, hlo, hc1, hs1⟩ := h
  intro L st μ H locs ls hB hL hW hS
  unfold o_isub at hB
  split at hB
  · rename_i y x r
    refine lv_isub (x := jI x) (y := jI y) (rest := r.map (tv b0)) hx hb d ?_
    rw [jI_sub]
    exact hk L _ μ H locs ls hB hL hW hS
  · exact hB.elim
def o_imul (k : PT) : PT := fun L st μ => match st with
  | .inl y :: .inl x :: r => k L (.inl (x * y) :: r) μ
  | _ => False
theorem s_imul {κ : Kap} {own : String} {cc : ByteArray} {nL lev : Nat} (h : Amb κ own cc nL lev) {pc : Nat} {k : PT} (d : decode cc pc = .ok (.imul, 1)) (hk : Snd κ (pc + 1) k) : Snd κ pc (o_imul k) := by
  obtain ⟨p, l, e, R, s, m, args, below, meth, c, cells, slots, Q, cA, D, b0, Hs⟩ := κ
  obtain ⟨hx, hb, hml, hown, hts, hlk, hK, hb0, hfr, hlo, hc1, hs1⟩ := h
  intro L st μ H locs ls hB hL hW hS
  unfold o_imul at hB
  split at hB
  · rename_i y x r
    refine lv_imul (x := jI x) (y := jI y) (rest := r.map (tv b0)) hx hb d ?_
    rw [jI_mul]
    exact hk L _ μ H locs ls hB hL hW hS
  · exact hB.elim
def o_ladd (k : PT) : PT := fun L st μ => match st with
  | .inr (.inl y) :: .inr (.inl x) :: r => k L (.inr (.inl (x + y)) :: r) μ
  | _ => False
theorem s_ladd {κ : Kap} {own : String} {cc : ByteArray} {nL lev : Nat} (h : Amb κ own cc nL lev) {pc : Nat} {k : PT} (d : decode cc pc = .ok (.ladd, 1)) (hk : Snd κ (pc + 1) k) : Snd κ pc (o_ladd k) := by
  obtain ⟨p, l, e, R, s, m, args, below, meth, c, cells, slots, Q, cA, D, b0, Hs⟩ := κ
  obtain ⟨hx, hb, hml, hown, hts, hlk, hK, hb0, hfr, hlo, hc1, hs1⟩ := h
  intro L st μ H locs ls hB hL hW hS
  unfold o_ladd at hB
  split at hB
  · rename_i y x r
    refine lv_ladd (x := jL x) (y := jL y) (rest := r.map (tv b0)) hx hb d ?_
    rw [jL_add]
    exact hk L _ μ H locs ls hB hL hW hS
  · exact hB.elim
def o_lsub (k : PT) : PT := fun L st μ => match st with
  | .inr (.inl y) :: .inr (.inl x) :: r => k L (.inr (.inl (x - y)) :: r) μ
  | _ => False
theorem s_lsub {κ : Kap} {own : String} {cc : ByteArray} {nL lev : Nat} (h : Amb κ own cc nL lev) {pc : Nat} {k : PT} (d : decode cc pc = .ok (.lsub, 1)) (hk : Snd κ (pc + 1) k) : Snd κ pc (o_lsub k) := by
  obtain ⟨p, l, e, R, s, m, args, below, meth, c, cells, slots, Q, cA, D, b0, Hs⟩ := κ
  obtain ⟨hx, hb, hml, hown, hts, hlk, hK, hb0, hfr, hlo, hc1, hs1⟩ := h
  intro L st μ H locs ls hB hL hW hS
  unfold o_lsub at hB
  split at hB
  · rename_i y x r
    refine lv_lsub (x := jL x) (y := jL y) (rest := r.map (tv b0)) hx hb d ?_
    rw [jL_sub]
    exact hk L _ μ H locs ls hB hL hW hS
  · exact hB.elim
def o_lmul (k : PT) : PT := fun L st μ => match st with
  | .inr (.inl y) :: .inr (.inl x) :: r => k L (.inr (.inl (x * y)) :: r) μ
  | _ => False
theorem s_lmul {κ : Kap} {own : String} {cc : ByteArray} {nL lev : Nat} (h : Amb κ own cc nL lev) {pc : Nat} {k : PT} (d : decode cc pc = .ok (.lmul, 1)) (hk : Snd κ (pc + 1) k) : Snd κ pc (o_lmul k) := by
  obtain ⟨p, l, e, R, s, m, args, below, meth, c, cells, slots, Q, cA, D, b0, Hs⟩ := κ
  obtain ⟨hx, hb, hml, hown, hts, hlk, hK, hb0, hfr, hlo, hc1, hs1⟩ := h
  intro L st μ H locs ls hB hL hW hS
  unfold o_lmul at hB
  split at hB
  · rename_i y x r
    refine lv_lmul (x := jL x) (y := jL y) (rest := r.map (tv b0)) hx hb d ?_
    rw [jL_mul]
    exact hk L _ μ H locs ls hB hL hW hS
  · exact hB.elim
def o_ineg (k : PT) : PT := fun L st μ => match st with
  | .inl x :: r => k L (.inl (-x) :: r) μ
  | _ => False
theorem s_ineg {κ : Kap} {own : String} {cc : ByteArray} {nL lev : Nat} (h : Amb κ own cc nL lev) {pc : Nat} {k : PT} (d : decode cc pc = .ok (.ineg, 1)) (hk : Snd κ (pc + 1) k) : Snd κ pc (o_ineg k) := by
  obtain ⟨p, l, e, R, s, m, args, below, meth, c, cells, slots, Q, cA, D, b0, Hs⟩ := κ
  obtain ⟨hx, hb, hml, hown, hts, hlk, hK, hb0, hfr, hlo, hc1, hs1⟩ := h
  intro L st μ H locs ls hB hL hW hS
  unfold o_ineg at hB
  split at hB
  · rename_i x r
    refine lv_ineg (x := jI x) (rest := r.map (tv b0)) hx hb d ?_
    rw [jI_neg]
    exact hk L _ μ H locs ls hB hL hW hS
  · exact hB.elim
theorem jI_div {x y : Int} (hx : R32 x) (hy : R32 y) : jI x / jI y = jI (x.tdiv y) := (Int32.ofInt_tdiv hx.1 (by have := hx.2; show x ≤ 2147483647; omega) hy.1 (by have := hy.2; show y ≤ 2147483647; omega)).symm
theorem jL_div {x y : Int} (hx : R64 x) (hy : R64 y) : jL x / jL y = jL (x.tdiv y) := (Int64.ofInt_tdiv hx.1 (by have := hx.2; show x ≤ 9223372036854775807; omega) hy.1 (by have := hy.2; show y ≤ 9223372036854775807; omega)).symm
theorem jI_ne0 {y : Int} (hy : R32 y) (h0 : y ≠ 0) : ¬ jI y = 0 := fun q => h0 ((jI_eq hy R32_0).mp q)
theorem jL_ne0 {y : Int} (hy : R64 y) (h0 : y ≠ 0) : ¬ jL y = 0 := fun q => h0 ((jL_eq hy ⟨by decide, by decide⟩).mp q)
def o_idiv (k : PT) : PT := fun L st μ => match st with
  | .inl y :: .inl x :: r => R32 x ∧ R32 y ∧ y ≠ 0 ∧ k L (.inl (x.tdiv y) :: r) μ
  | _ => False
theorem s_idiv {κ : Kap} {own : String} {cc : ByteArray} {nL lev : Nat} (h : Amb κ own cc nL lev) {pc : Nat} {k : PT} (d : decode cc pc = .ok (.idiv, 1)) (hk : Snd κ (pc + 1) k) : Snd κ pc (o_idiv k) := by
  obtain ⟨p, l, e, R, s, m, args, below, meth, c, cells, slots, Q, cA, D, b0, Hs⟩ := κ
  obtain ⟨hx, hb, hml, hown, hts, hlk, hK, hb0, hfr, hlo, hc1, hs1⟩ := h
  intro L st μ H locs ls hB hL hW hS
  unfold o_idiv at hB
  split at hB
  · rename_i y x r
    obtain ⟨h1, h2, h3, hB⟩ := hB
    refine lv_idiv (x := jI x) (y := jI y) (rest := r.map (tv b0)) hx hb d (jI_ne0 h2 h3) ?_
    rw [jI_div h1 h2]
    exact hk L _ μ H locs ls hB hL hW hS
  · exact hB.elim
def o_irem (k : PT) : PT := fun L st μ => match st with
  | .inl y :: .inl x :: r => R32 x ∧ R32 y ∧ y ≠ 0 ∧ k L (.inl (x.tmod y) :: r) μ
  | _ => False
theorem s_irem {κ : Kap} {own : String} {cc : ByteArray} {nL lev : Nat} (h : Amb κ own cc nL lev) {pc : Nat} {k : PT} (d : decode cc pc = .ok (.irem, 1)) (hk : Snd κ (pc + 1) k) : Snd κ pc (o_irem k) := by
  obtain ⟨p, l, e, R, s, m, args, below, meth, c, cells, slots, Q, cA, D, b0, Hs⟩ := κ
  obtain ⟨hx, hb, hml, hown, hts, hlk, hK, hb0, hfr, hlo, hc1, hs1⟩ := h
  intro L st μ H locs ls hB hL hW hS
  unfold o_irem at hB
  split at hB
  · rename_i y x r
    obtain ⟨h1, h2, h3, hB⟩ := hB
    refine lv_irem (x := jI x) (y := jI y) (rest := r.map (tv b0)) hx hb d (jI_ne0 h2 h3) ?_
    rw [jI_div h1 h2, jI_mul, jI_sub, show x - x.tdiv y * y = x.tmod y from by have := Int.mul_tdiv_add_tmod x y; rw [Int.mul_comm] at this; omega]
    exact hk L _ μ H locs ls hB hL hW hS
  · exact hB.elim
def o_ldiv (k : PT) : PT := fun L st μ => match st with
  | .inr (.inl y) :: .inr (.inl x) :: r => R64 x ∧ R64 y ∧ y ≠ 0 ∧ k L (.inr (.inl (x.tdiv y)) :: r) μ
  | _ => False
theorem s_ldiv {κ : Kap} {own : String} {cc : ByteArray} {nL lev : Nat} (h : Amb κ own cc nL lev) {pc : Nat} {k : PT} (d : decode cc pc = .ok (.ldiv, 1)) (hk : Snd κ (pc + 1) k) : Snd κ pc (o_ldiv k) := by
  obtain ⟨p, l, e, R, s, m, args, below, meth, c, cells, slots, Q, cA, D, b0, Hs⟩ := κ
  obtain ⟨hx, hb, hml, hown, hts, hlk, hK, hb0, hfr, hlo, hc1, hs1⟩ := h
  intro L st μ H locs ls hB hL hW hS
  unfold o_ldiv at hB
  split at hB
  · rename_i y x r
    obtain ⟨h1, h2, h3, hB⟩ := hB
    refine lv_ldiv (x := jL x) (y := jL y) (rest := r.map (tv b0)) hx hb d (jL_ne0 h2 h3) ?_
    rw [jL_div h1 h2]
    exact hk L _ μ H locs ls hB hL hW hS
  · exact hB.elim
def o_i2l (k : PT) : PT := fun L st μ => match st with
  | .inl x :: r => R32 x ∧ k L (.inr (.inl x) :: r) μ
  | _ => False
theorem s_i2l {κ : Kap} {own : String} {cc : ByteArray} {nL lev : Nat} (h : Amb κ own cc nL lev) {pc : Nat} {k : PT} (d : decode cc pc = .ok (.i2l, 1)) (hk : Snd κ (pc + 1) k) : Snd κ pc (o_i2l k) := by
  obtain ⟨p, l, e, R, s, m, args, below, meth, c, cells, slots, Q, cA, D, b0, Hs⟩ := κ
  obtain ⟨hx, hb, hml, hown, hts, hlk, hK, hb0, hfr, hlo, hc1, hs1⟩ := h
  intro L st μ H locs ls hB hL hW hS
  unfold o_i2l at hB
  split at hB
  · rename_i x r
    obtain ⟨h1, hB⟩ := hB
    exact lv_i2l (x := jI x) (v := jL x) (rest := r.map (tv b0)) hx hb d (jI_wide h1) (hk L _ μ H locs ls hB hL hW hS)
  · exact hB.elim
def o_l2i (k : PT) : PT := fun L st μ => match st with
  | .inr (.inl x) :: r => k L (.inl x :: r) μ
  | _ => False
theorem s_l2i {κ : Kap} {own : String} {cc : ByteArray} {nL lev : Nat} (h : Amb κ own cc nL lev) {pc : Nat} {k : PT} (d : decode cc pc = .ok (.l2i, 1)) (hk : Snd κ (pc + 1) k) : Snd κ pc (o_l2i k) := by
  obtain ⟨p, l, e, R, s, m, args, below, meth, c, cells, slots, Q, cA, D, b0, Hs⟩ := κ
  obtain ⟨hx, hb, hml, hown, hts, hlk, hK, hb0, hfr, hlo, hc1, hs1⟩ := h
  intro L st μ H locs ls hB hL hW hS
  unfold o_l2i at hB
  split at hB
  · rename_i x r
    exact lv_l2i (x := jL x) (v := jI x) (rest := r.map (tv b0)) hx hb d (jL_nar x) (hk L _ μ H locs ls hB hL hW hS)
  · exact hB.elim
def cmpL (x y : Int) : Int := if y < x then 1 else if x = y then 0 else -1
theorem jL_cmp {x y : Int} (hx : R64 x) (hy : R64 y) : lg_cmp (jL x) (jL y) = jI (cmpL x y) := by
  unfold lg_cmp cmpL
  by_cases h1 : y < x
  · rw [if_pos h1, if_pos ((jL_lt hy hx).mpr h1)]; rfl
  · rw [if_neg h1, if_neg (fun q => h1 ((jL_lt hy hx).mp q))]
    by_cases h2 : x = y
    · rw [if_pos h2, if_pos (by rw [h2])]; rfl
    · rw [if_neg h2, if_neg (fun q => h2 ((jL_eq hx hy).mp q))]; rfl
def o_lcmp (k : PT) : PT := fun L st μ => match st with
  | .inr (.inl y) :: .inr (.inl x) :: r => R64 x ∧ R64 y ∧ k L (.inl (cmpL x y) :: r) μ
  | _ => False
theorem s_lcmp {κ : Kap} {own : String} {cc : ByteArray} {nL lev : Nat} (h : Amb κ own cc nL lev) {pc : Nat} {k : PT} (d : decode cc pc = .ok (.lcmp, 1)) (hk : Snd κ (pc + 1) k) : Snd κ pc (o_lcmp k) := by
  obtain ⟨p, l, e, R, s, m, args, below, meth, c, cells, slots, Q, cA, D, b0, Hs⟩ := κ
  obtain ⟨hx, hb, hml, hown, hts, hlk, hK, hb0, hfr, hlo, hc1, hs1⟩ := h
  intro L st μ H locs ls hB hL hW hS
  unfold o_lcmp at hB
  split at hB
  · rename_i y x r
    obtain ⟨h1, h2, hB⟩ := hB
    refine W.lcmp (x := jL x) (y := jL y) (rest := r.map (tv b0)) hx hb d ?_
    rw [jL_cmp h1 h2]
    exact hk L _ μ H locs ls hB hL hW hS
  · exact hB.elim
def o_dup (k : PT) : PT := fun L st μ => match st with
  | .inl x :: r => k L (.inl x :: .inl x :: r) μ
  | .inr (.inr x) :: r => k L (.inr (.inr x) :: .inr (.inr x) :: r) μ
  | _ => False
theorem s_dup {κ : Kap} {own : String} {cc : ByteArray} {nL lev : Nat} (h : Amb κ own cc nL lev) {pc : Nat} {k : PT} (d : decode cc pc = .ok (.dup, 1)) (hk : Snd κ (pc + 1) k) : Snd κ pc (o_dup k) := by
  obtain ⟨p, l, e, R, s, m, args, below, meth, c, cells, slots, Q, cA, D, b0, Hs⟩ := κ
  obtain ⟨hx, hb, hml, hown, hts, hlk, hK, hb0, hfr, hlo, hc1, hs1⟩ := h
  intro L st μ H locs ls hB hL hW hS
  unfold o_dup at hB
  split at hB
  · rename_i x r
    exact lv_dup (va := .int (jI x)) (rest := r.map (tv b0)) hx hb d rfl (hk L _ μ H locs ls hB hL hW hS)
  · rename_i x r
    exact lv_dup (va := .ref (b0 + x)) (rest := r.map (tv b0)) hx hb d rfl (hk L _ μ H locs ls hB hL hW hS)
  · exact hB.elim
def o_dup2 (k : PT) : PT := fun L st μ => match st with
  | .inl x :: .inr (.inr a) :: r => k L (.inl x :: .inr (.inr a) :: .inl x :: .inr (.inr a) :: r) μ
  | _ => False
theorem s_dup2 {κ : Kap} {own : String} {cc : ByteArray} {nL lev : Nat} (h : Amb κ own cc nL lev) {pc : Nat} {k : PT} (d : decode cc pc = .ok (.dup2, 1)) (hk : Snd κ (pc + 1) k) : Snd κ pc (o_dup2 k) := by
  obtain ⟨p, l, e, R, s, m, args, below, meth, c, cells, slots, Q, cA, D, b0, Hs⟩ := κ
  obtain ⟨hx, hb, hml, hown, hts, hlk, hK, hb0, hfr, hlo, hc1, hs1⟩ := h
  intro L st μ H locs ls hB hL hW hS
  unfold o_dup2 at hB
  split at hB
  · rename_i x a r
    exact lv_dup2_11 (va := .int (jI x)) (vb := .ref (b0 + a)) (rest := r.map (tv b0)) hx hb d rfl rfl (hk L _ μ H locs ls hB hL hW hS)
  · exact hB.elim
def o_pop (k : PT) : PT := fun L st μ => match st with
  | .inl _ :: r => k L r μ
  | .inr (.inr _) :: r => k L r μ
  | _ => False
theorem s_pop {κ : Kap} {own : String} {cc : ByteArray} {nL lev : Nat} (h : Amb κ own cc nL lev) {pc : Nat} {k : PT} (d : decode cc pc = .ok (.pop, 1)) (hk : Snd κ (pc + 1) k) : Snd κ pc (o_pop k) := by
  obtain ⟨p, l, e, R, s, m, args, below, meth, c, cells, slots, Q, cA, D, b0, Hs⟩ := κ
  obtain ⟨hx, hb, hml, hown, hts, hlk, hK, hb0, hfr, hlo, hc1, hs1⟩ := h
  intro L st μ H locs ls hB hL hW hS
  unfold o_pop at hB
  split at hB
  · rename_i x r
    exact lv_pop (va := .int (jI x)) (rest := r.map (tv b0)) hx hb d rfl (hk L _ μ H locs ls hB hL hW hS)
  · rename_i x r
    exact lv_pop (va := .ref (b0 + x)) (rest := r.map (tv b0)) hx hb d rfl (hk L _ μ H locs ls hB hL hW hS)
  · exact hB.elim
theorem s_goto {κ : Kap} {own : String} {cc : ByteArray} {nL lev : Nat} (h : Amb κ own cc nL lev) {pc : Nat} {off : Int} {tgt : Nat} {k : PT} (d : decode cc pc = .ok (.goto off, 3)) (ht : (pc : Int) + off = (tgt : Int)) (hk : Snd κ tgt k) : Snd κ pc (k) := by
  obtain ⟨p, l, e, R, s, m, args, below, meth, c, cells, slots, Q, cA, D, b0, Hs⟩ := κ
  obtain ⟨hx, hb, hml, hown, hts, hlk, hK, hb0, hfr, hlo, hc1, hs1⟩ := h
  intro L st μ H locs ls hB hL hW hS
  exact lv_goto hx hb d ht (hk L _ μ H locs ls hB hL hW hS)
def o_icmp_eq (kt kf : PT) : PT := fun L st μ => match st with
  | .inl y :: .inl x :: r => R32 x ∧ R32 y ∧ (x = y → kt L r μ) ∧ (¬ x = y → kf L r μ)
  | _ => False
theorem s_icmp_eq {κ : Kap} {own : String} {cc : ByteArray} {nL lev : Nat} (h : Amb κ own cc nL lev) {pc : Nat} {off : Int} {tgt : Nat} {kt kf : PT} (d : decode cc pc = .ok (.if_icmp .eq off, 3)) (ht : (pc : Int) + off = (tgt : Int)) (hkt : Snd κ tgt kt) (hkf : Snd κ (pc + 3) kf) : Snd κ pc (o_icmp_eq kt kf) := by
  obtain ⟨p, l, e, R, s, m, args, below, meth, c, cells, slots, Q, cA, D, b0, Hs⟩ := κ
  obtain ⟨hx, hb, hml, hown, hts, hlk, hK, hb0, hfr, hlo, hc1, hs1⟩ := h
  intro L st μ H locs ls hB hL hW hS
  unfold o_icmp_eq at hB
  split at hB
  · rename_i y x r
    obtain ⟨h1, h2, h3, h4⟩ := hB
    have hi := jI_eq h1 h2
    exact lv_icmp_eq (x := jI x) (y := jI y) (rest := r.map (tv b0)) hx hb d ht (fun q => hkt L _ μ H locs ls (h3 (hi.mp q)) hL hW hS) (fun q => hkf L _ μ H locs ls (h4 (fun z => q (hi.mpr z))) hL hW hS)
  · exact hB.elim
def o_if_eq (kt kf : PT) : PT := fun L st μ => match st with
  | .inl x :: r => R32 x ∧ (x = 0 → kt L r μ) ∧ (¬ x = 0 → kf L r μ)
  | _ => False
theorem s_if_eq {κ : Kap} {own : String} {cc : ByteArray} {nL lev : Nat} (h : Amb κ own cc nL lev) {pc : Nat} {off : Int} {tgt : Nat} {kt kf : PT} (d : decode cc pc = .ok (.ifCond .eq off, 3)) (ht : (pc : Int) + off = (tgt : Int)) (hkt : Snd κ tgt kt) (hkf : Snd κ (pc + 3) kf) : Snd κ pc (o_if_eq kt kf) := by
  obtain ⟨p, l, e, R, s, m, args, below, meth, c, cells, slots, Q, cA, D, b0, Hs⟩ := κ
  obtain ⟨hx, hb, hml, hown, hts, hlk, hK, hb0, hfr, hlo, hc1, hs1⟩ := h
  intro L st μ H locs ls hB hL hW hS
  unfold o_if_eq at hB
  split at hB
  · rename_i x r
    obtain ⟨h1, h3, h4⟩ := hB
    have h2 := R32_0
    have hi := jI_eq h1 h2
    exact lv_if_eq (x := jI x) (rest := r.map (tv b0)) hx hb d ht (fun q => hkt L _ μ H locs ls (h3 (hi.mp q)) hL hW hS) (fun q => hkf L _ μ H locs ls (h4 (fun z => q (hi.mpr z))) hL hW hS)
  · exact hB.elim
def o_icmp_ne (kt kf : PT) : PT := fun L st μ => match st with
  | .inl y :: .inl x :: r => R32 x ∧ R32 y ∧ (¬ x = y → kt L r μ) ∧ (x = y → kf L r μ)
  | _ => False
theorem s_icmp_ne {κ : Kap} {own : String} {cc : ByteArray} {nL lev : Nat} (h : Amb κ own cc nL lev) {pc : Nat} {off : Int} {tgt : Nat} {kt kf : PT} (d : decode cc pc = .ok (.if_icmp .ne off, 3)) (ht : (pc : Int) + off = (tgt : Int)) (hkt : Snd κ tgt kt) (hkf : Snd κ (pc + 3) kf) : Snd κ pc (o_icmp_ne kt kf) := by
  obtain ⟨p, l, e, R, s, m, args, below, meth, c, cells, slots, Q, cA, D, b0, Hs⟩ := κ
  obtain ⟨hx, hb, hml, hown, hts, hlk, hK, hb0, hfr, hlo, hc1, hs1⟩ := h
  intro L st μ H locs ls hB hL hW hS
  unfold o_icmp_ne at hB
  split at hB
  · rename_i y x r
    obtain ⟨h1, h2, h3, h4⟩ := hB
    have hi := jI_eq h1 h2
    exact lv_icmp_ne (x := jI x) (y := jI y) (rest := r.map (tv b0)) hx hb d ht (fun q => hkt L _ μ H locs ls (h3 (fun z => q (hi.mpr z))) hL hW hS) (fun q => hkf L _ μ H locs ls (h4 (hi.mp q)) hL hW hS)
  · exact hB.elim
def o_if_ne (kt kf : PT) : PT := fun L st μ => match st with
  | .inl x :: r => R32 x ∧ (¬ x = 0 → kt L r μ) ∧ (x = 0 → kf L r μ)
  | _ => False
theorem s_if_ne {κ : Kap} {own : String} {cc : ByteArray} {nL lev : Nat} (h : Amb κ own cc nL lev) {pc : Nat} {off : Int} {tgt : Nat} {kt kf : PT} (d : decode cc pc = .ok (.ifCond .ne off, 3)) (ht : (pc : Int) + off = (tgt : Int)) (hkt : Snd κ tgt kt) (hkf : Snd κ (pc + 3) kf) : Snd κ pc (o_if_ne kt kf) := by
  obtain ⟨p, l, e, R, s, m, args, below, meth, c, cells, slots, Q, cA, D, b0, Hs⟩ := κ
  obtain ⟨hx, hb, hml, hown, hts, hlk, hK, hb0, hfr, hlo, hc1, hs1⟩ := h
  intro L st μ H locs ls hB hL hW hS
  unfold o_if_ne at hB
  split at hB
  · rename_i x r
    obtain ⟨h1, h3, h4⟩ := hB
    have h2 := R32_0
    have hi := jI_eq h1 h2
    exact lv_if_ne (x := jI x) (rest := r.map (tv b0)) hx hb d ht (fun q => hkt L _ μ H locs ls (h3 (fun z => q (hi.mpr z))) hL hW hS) (fun q => hkf L _ μ H locs ls (h4 (hi.mp q)) hL hW hS)
  · exact hB.elim
def o_icmp_lt (kt kf : PT) : PT := fun L st μ => match st with
  | .inl y :: .inl x :: r => R32 x ∧ R32 y ∧ (x < y → kt L r μ) ∧ (¬ x < y → kf L r μ)
  | _ => False
theorem s_icmp_lt {κ : Kap} {own : String} {cc : ByteArray} {nL lev : Nat} (h : Amb κ own cc nL lev) {pc : Nat} {off : Int} {tgt : Nat} {kt kf : PT} (d : decode cc pc = .ok (.if_icmp .lt off, 3)) (ht : (pc : Int) + off = (tgt : Int)) (hkt : Snd κ tgt kt) (hkf : Snd κ (pc + 3) kf) : Snd κ pc (o_icmp_lt kt kf) := by
  obtain ⟨p, l, e, R, s, m, args, below, meth, c, cells, slots, Q, cA, D, b0, Hs⟩ := κ
  obtain ⟨hx, hb, hml, hown, hts, hlk, hK, hb0, hfr, hlo, hc1, hs1⟩ := h
  intro L st μ H locs ls hB hL hW hS
  unfold o_icmp_lt at hB
  split at hB
  · rename_i y x r
    obtain ⟨h1, h2, h3, h4⟩ := hB
    have hi := jI_lt h1 h2
    exact lv_icmp_lt (x := jI x) (y := jI y) (rest := r.map (tv b0)) hx hb d ht (fun q => hkt L _ μ H locs ls (h3 (hi.mp q)) hL hW hS) (fun q => hkf L _ μ H locs ls (h4 (fun z => q (hi.mpr z))) hL hW hS)
  · exact hB.elim
def o_if_lt (kt kf : PT) : PT := fun L st μ => match st with
  | .inl x :: r => R32 x ∧ (x < 0 → kt L r μ) ∧ (¬ x < 0 → kf L r μ)
  | _ => False
theorem s_if_lt {κ : Kap} {own : String} {cc : ByteArray} {nL lev : Nat} (h : Amb κ own cc nL lev) {pc : Nat} {off : Int} {tgt : Nat} {kt kf : PT} (d : decode cc pc = .ok (.ifCond .lt off, 3)) (ht : (pc : Int) + off = (tgt : Int)) (hkt : Snd κ tgt kt) (hkf : Snd κ (pc + 3) kf) : Snd κ pc (o_if_lt kt kf) := by
  obtain ⟨p, l, e, R, s, m, args, below, meth, c, cells, slots, Q, cA, D, b0, Hs⟩ := κ
  obtain ⟨hx, hb, hml, hown, hts, hlk, hK, hb0, hfr, hlo, hc1, hs1⟩ := h
  intro L st μ H locs ls hB hL hW hS
  unfold o_if_lt at hB
  split at hB
  · rename_i x r
    obtain ⟨h1, h3, h4⟩ := hB
    have h2 := R32_0
    have hi := jI_lt h1 h2
    exact lv_if_lt (x := jI x) (rest := r.map (tv b0)) hx hb d ht (fun q => hkt L _ μ H locs ls (h3 (hi.mp q)) hL hW hS) (fun q => hkf L _ μ H locs ls (h4 (fun z => q (hi.mpr z))) hL hW hS)
  · exact hB.elim
def o_icmp_ge (kt kf : PT) : PT := fun L st μ => match st with
  | .inl y :: .inl x :: r => R32 x ∧ R32 y ∧ (y ≤ x → kt L r μ) ∧ (¬ y ≤ x → kf L r μ)
  | _ => False
theorem s_icmp_ge {κ : Kap} {own : String} {cc : ByteArray} {nL lev : Nat} (h : Amb κ own cc nL lev) {pc : Nat} {off : Int} {tgt : Nat} {kt kf : PT} (d : decode cc pc = .ok (.if_icmp .ge off, 3)) (ht : (pc : Int) + off = (tgt : Int)) (hkt : Snd κ tgt kt) (hkf : Snd κ (pc + 3) kf) : Snd κ pc (o_icmp_ge kt kf) := by
  obtain ⟨p, l, e, R, s, m, args, below, meth, c, cells, slots, Q, cA, D, b0, Hs⟩ := κ
  obtain ⟨hx, hb, hml, hown, hts, hlk, hK, hb0, hfr, hlo, hc1, hs1⟩ := h
  intro L st μ H locs ls hB hL hW hS
  unfold o_icmp_ge at hB
  split at hB
  · rename_i y x r
    obtain ⟨h1, h2, h3, h4⟩ := hB
    have hi := jI_le h2 h1
    exact lv_icmp_ge (x := jI x) (y := jI y) (rest := r.map (tv b0)) hx hb d ht (fun q => hkt L _ μ H locs ls (h3 (hi.mp q)) hL hW hS) (fun q => hkf L _ μ H locs ls (h4 (fun z => q (hi.mpr z))) hL hW hS)
  · exact hB.elim
def o_if_ge (kt kf : PT) : PT := fun L st μ => match st with
  | .inl x :: r => R32 x ∧ (0 ≤ x → kt L r μ) ∧ (¬ 0 ≤ x → kf L r μ)
  | _ => False
theorem s_if_ge {κ : Kap} {own : String} {cc : ByteArray} {nL lev : Nat} (h : Amb κ own cc nL lev) {pc : Nat} {off : Int} {tgt : Nat} {kt kf : PT} (d : decode cc pc = .ok (.ifCond .ge off, 3)) (ht : (pc : Int) + off = (tgt : Int)) (hkt : Snd κ tgt kt) (hkf : Snd κ (pc + 3) kf) : Snd κ pc (o_if_ge kt kf) := by
  obtain ⟨p, l, e, R, s, m, args, below, meth, c, cells, slots, Q, cA, D, b0, Hs⟩ := κ
  obtain ⟨hx, hb, hml, hown, hts, hlk, hK, hb0, hfr, hlo, hc1, hs1⟩ := h
  intro L st μ H locs ls hB hL hW hS
  unfold o_if_ge at hB
  split at hB
  · rename_i x r
    obtain ⟨h1, h3, h4⟩ := hB
    have h2 := R32_0
    have hi := jI_le h2 h1
    exact lv_if_ge (x := jI x) (rest := r.map (tv b0)) hx hb d ht (fun q => hkt L _ μ H locs ls (h3 (hi.mp q)) hL hW hS) (fun q => hkf L _ μ H locs ls (h4 (fun z => q (hi.mpr z))) hL hW hS)
  · exact hB.elim
def o_icmp_gt (kt kf : PT) : PT := fun L st μ => match st with
  | .inl y :: .inl x :: r => R32 x ∧ R32 y ∧ (y < x → kt L r μ) ∧ (¬ y < x → kf L r μ)
  | _ => False
theorem s_icmp_gt {κ : Kap} {own : String} {cc : ByteArray} {nL lev : Nat} (h : Amb κ own cc nL lev) {pc : Nat} {off : Int} {tgt : Nat} {kt kf : PT} (d : decode cc pc = .ok (.if_icmp .gt off, 3)) (ht : (pc : Int) + off = (tgt : Int)) (hkt : Snd κ tgt kt) (hkf : Snd κ (pc + 3) kf) : Snd κ pc (o_icmp_gt kt kf) := by
  obtain ⟨p, l, e, R, s, m, args, below, meth, c, cells, slots, Q, cA, D, b0, Hs⟩ := κ
  obtain ⟨hx, hb, hml, hown, hts, hlk, hK, hb0, hfr, hlo, hc1, hs1⟩ := h
  intro L st μ H locs ls hB hL hW hS
  unfold o_icmp_gt at hB
  split at hB
  · rename_i y x r
    obtain ⟨h1, h2, h3, h4⟩ := hB
    have hi := jI_lt h2 h1
    exact lv_icmp_gt (x := jI x) (y := jI y) (rest := r.map (tv b0)) hx hb d ht (fun q => hkt L _ μ H locs ls (h3 (hi.mp q)) hL hW hS) (fun q => hkf L _ μ H locs ls (h4 (fun z => q (hi.mpr z))) hL hW hS)
  · exact hB.elim
def o_if_gt (kt kf : PT) : PT := fun L st μ => match st with
  | .inl x :: r => R32 x ∧ (0 < x → kt L r μ) ∧ (¬ 0 < x → kf L r μ)
  | _ => False
theorem s_if_gt {κ : Kap} {own : String} {cc : ByteArray} {nL lev : Nat} (h : Amb κ own cc nL lev) {pc : Nat} {off : Int} {tgt : Nat} {kt kf : PT} (d : decode cc pc = .ok (.ifCond .gt off, 3)) (ht : (pc : Int) + off = (tgt : Int)) (hkt : Snd κ tgt kt) (hkf : Snd κ (pc + 3) kf) : Snd κ pc (o_if_gt kt kf) := by
  obtain ⟨p, l, e, R, s, m, args, below, meth, c, cells, slots, Q, cA, D, b0, Hs⟩ := κ
  obtain ⟨hx, hb, hml, hown, hts, hlk, hK, hb0, hfr, hlo, hc1, hs1⟩ := h
  intro L st μ H locs ls hB hL hW hS
  unfold o_if_gt at hB
  split at hB
  · rename_i x r
    obtain ⟨h1, h3, h4⟩ := hB
    have h2 := R32_0
    have hi := jI_lt h2 h1
    exact lv_if_gt (x := jI x) (rest := r.map (tv b0)) hx hb d ht (fun q => hkt L _ μ H locs ls (h3 (hi.mp q)) hL hW hS) (fun q => hkf L _ μ H locs ls (h4 (fun z => q (hi.mpr z))) hL hW hS)
  · exact hB.elim
def o_icmp_le (kt kf : PT) : PT := fun L st μ => match st with
  | .inl y :: .inl x :: r => R32 x ∧ R32 y ∧ (x ≤ y → kt L r μ) ∧ (¬ x ≤ y → kf L r μ)
  | _ => False
theorem s_icmp_le {κ : Kap} {own : String} {cc : ByteArray} {nL lev : Nat} (h : Amb κ own cc nL lev) {pc : Nat} {off : Int} {tgt : Nat} {kt kf : PT} (d : decode cc pc = .ok (.if_icmp .le off, 3)) (ht : (pc : Int) + off = (tgt : Int)) (hkt : Snd κ tgt kt) (hkf : Snd κ (pc + 3) kf) : Snd κ pc (o_icmp_le kt kf) := by
  obtain ⟨p, l, e, R, s, m, args, below, meth, c, cells, slots, Q, cA, D, b0, Hs⟩ := κ
  obtain ⟨hx, hb, hml, hown, hts, hlk, hK, hb0, hfr, hlo, hc1, hs1⟩ := h
  intro L st μ H locs ls hB hL hW hS
  unfold o_icmp_le at hB
  split at hB
  · rename_i y x r
    obtain ⟨h1, h2, h3, h4⟩ := hB
    have hi := jI_le h1 h2
    exact lv_icmp_le (x := jI x) (y := jI y) (rest := r.map (tv b0)) hx hb d ht (fun q => hkt L _ μ H locs ls (h3 (hi.mp q)) hL hW hS) (fun q => hkf L _ μ H locs ls (h4 (fun z => q (hi.mpr z))) hL hW hS)
  · exact hB.elim
def o_if_le (kt kf : PT) : PT := fun L st μ => match st with
  | .inl x :: r => R32 x ∧ (x ≤ 0 → kt L r μ) ∧ (¬ x ≤ 0 → kf L r μ)
  | _ => False
theorem s_if_le {κ : Kap} {own : String} {cc : ByteArray} {nL lev : Nat} (h : Amb κ own cc nL lev) {pc : Nat} {off : Int} {tgt : Nat} {kt kf : PT} (d : decode cc pc = .ok (.ifCond .le off, 3)) (ht : (pc : Int) + off = (tgt : Int)) (hkt : Snd κ tgt kt) (hkf : Snd κ (pc + 3) kf) : Snd κ pc (o_if_le kt kf) := by
  obtain ⟨p, l, e, R, s, m, args, below, meth, c, cells, slots, Q, cA, D, b0, Hs⟩ := κ
  obtain ⟨hx, hb, hml, hown, hts, hlk, hK, hb0, hfr, hlo, hc1, hs1⟩ := h
  intro L st μ H locs ls hB hL hW hS
  unfold o_if_le at hB
  split at hB
  · rename_i x r
    obtain ⟨h1, h3, h4⟩ := hB
    have h2 := R32_0
    have hi := jI_le h1 h2
    exact lv_if_le (x := jI x) (rest := r.map (tv b0)) hx hb d ht (fun q => hkt L _ μ H locs ls (h3 (hi.mp q)) hL hW hS) (fun q => hkf L _ μ H locs ls (h4 (fun z => q (hi.mpr z))) hL hW hS)
  · exact hB.elim
def o_sw (cs : List (Int × PT)) (kd : PT) : PT := fun L st μ => match st with
  | .inl x :: r => R32 x ∧ (∀ q ∈ cs, x = q.1 → q.2 L r μ) ∧ ((∀ q ∈ cs, x ≠ q.1) → kd L r μ)
  | _ => False
theorem s_tsw {κ : Kap} {own : String} {cc : ByteArray} {nL lev : Nat} (h : Amb κ own cc nL lev) {pc : Nat} {dflt lo hi : Int} {offs : Array Int} {len dt : Nat} {cs : List (Int × PT)} {kd : PT} (d : decode cc pc = .ok (.tableswitch dflt lo hi offs, len)) (h1 : ∀ q ∈ cs, lo ≤ q.1 ∧ q.1 ≤ hi ∧ ∃ (off : Int) (tgt : Nat), offs[(q.1 - lo).toNat]? = some off ∧ (pc : Int) + off = (tgt : Int) ∧ Snd κ tgt q.2) (h2 : ∀ x, lo ≤ x → x ≤ hi → ∃ q ∈ cs, x = q.1) (hd : (pc : Int) + dflt = (dt : Int)) (hkd : Snd κ dt kd) : Snd κ pc (o_sw cs kd) := by
  obtain ⟨p, l, e, R, s, m, args, below, meth, c, cells, slots, Q, cA, D, b0, Hs⟩ := κ
  obtain ⟨hx, hb, hml, hown, hts, hlk, hK, hb0, hfr, hlo, hc1, hs1⟩ := h
  intro L st μ H locs ls hB hL hW hS
  unfold o_sw at hB
  split at hB
  · rename_i x r
    obtain ⟨g1, g2, g3⟩ := hB
    by_cases hin : lo ≤ x ∧ x ≤ hi
    · obtain ⟨q, hq, hxq⟩ := h2 x hin.1 hin.2
      obtain ⟨a1, a2, off, tgt, a3, a4, a5⟩ := h1 q hq
      refine lv_tableIn (x := jI x) (rest := r.map (tv b0)) hx hb d (by rw [jI_toInt g1]; omega) (by rw [jI_toInt g1]; omega) (off := off) (by rw [jI_toInt g1, hxq]; exact a3) a4 (a5 L _ μ H locs ls (g2 q hq hxq) hL hW hS)
    · refine lv_tableOut (x := jI x) (rest := r.map (tv b0)) hx hb d (by rw [jI_toInt g1]; omega) hd (hkd L _ μ H locs ls (g3 (fun q hq hxq => ?_)) hL hW hS)
      obtain ⟨a1, a2, -⟩ := h1 q hq
      omega
  · exact hB.elim
theorem s_lsw {κ : Kap} {own : String} {cc : ByteArray} {nL lev : Nat} (h : Amb κ own cc nL lev) {pc : Nat} {dflt : Int} {ps : Array (Int × Int)} {len dt : Nat} {cs : List (Int × PT)} {kd : PT} (d : decode cc pc = .ok (.lookupswitch dflt ps, len)) (hp : (ps.toList.zip (ps.toList.drop 1)).all (fun (a, next) => a.1 < next.1) = true) (h1 : ∀ q ∈ cs, ∃ (off : Int) (tgt : Nat), Op.lookupswitch.offset ps.toList dflt q.1 = off ∧ (pc : Int) + off = (tgt : Int) ∧ Snd κ tgt q.2) (h2 : ∀ x, (∀ q ∈ cs, x ≠ q.1) → Op.lookupswitch.offset ps.toList dflt x = dflt) (hd : (pc : Int) + dflt = (dt : Int)) (hkd : Snd κ dt kd) : Snd κ pc (o_sw cs kd) := by
  obtain ⟨p, l, e, R, s, m, args, below, meth, c, cells, slots, Q, cA, D, b0, Hs⟩ := κ
  obtain ⟨hx, hb, hml, hown, hts, hlk, hK, hb0, hfr, hlo, hc1, hs1⟩ := h
  intro L st μ H locs ls hB hL hW hS
  unfold o_sw at hB
  split at hB
  · rename_i x r
    obtain ⟨g1, g2, g3⟩ := hB
    by_cases hin : ∃ q ∈ cs, x = q.1
    · obtain ⟨q, hq, hxq⟩ := hin
      obtain ⟨off, tgt, a3, a4, a5⟩ := h1 q hq
      exact lv_lookup (x := jI x) (rest := r.map (tv b0)) hx hb d hp (off := off) (by rw [jI_toInt g1, hxq]; exact a3) a4 (a5 L _ μ H locs ls (g2 q hq hxq) hL hW hS)
    · have hall : ∀ q ∈ cs, x ≠ q.1 := fun q hq e => hin ⟨q, hq, e⟩
      exact lv_lookup (x := jI x) (rest := r.map (tv b0)) hx hb d hp (off := dflt) (by rw [jI_toInt g1]; exact h2 x hall) hd (hkd L _ μ H locs ls (g3 hall) hL hW hS)
  · exact hB.elim
theorem Wo_I {cA : Nat → ClassId} {D : va_G} {b0 : Nat} {Hs : Heap} {μ : MM} {H : Heap} (h : Wo cA D b0 Hs μ H) : va_P D vwCl (PW cA μ.1 μ.2 b0) H := h.2.1
theorem Wo_put {cA : Nat → ClassId} {D : va_G} {b0 : Nat} {Hs : Heap} {μ μ' : MM} {s : State} {H H1 : Heap} {locs locs1 : List Loc} (hb0 : b0 ≤ s.heap.size) (h : Wo cA D b0 Hs μ H) (hS : va_S (fun q => b0 ≤ q) s.heap H locs) (hP : va_P D vwCl (PW cA μ'.1 μ'.2 b0) H1) (hS1 : va_S (fun q => b0 ≤ q) s.heap H1 locs1) : Wo cA D b0 Hs μ' H1 := by
  have hlt := (hP 355 _ (PW_at (by decide))).lt
  refine ⟨?_, hP, fun q hq => ?_⟩
  · have : b0 + 355 < H1.size := hlt
    omega
  · rw [hS1.2.1 q (by omega) (by show ¬ b0 ≤ q; omega), ← hS.2.1 q (by omega) (by show ¬ b0 ≤ q; omega)]
    exact h.2.2 q hq
def o_getI (ci k : Nat) (kk : PT) : PT := fun L st μ => match st with
  | .inr (.inr a) :: r => isK a ci ∧ kk L (.inl (μ.1 a k) :: r) μ
  | _ => False
theorem s_getI {κ : Kap} {own : String} {cc : ByteArray} {nL lev : Nat} (h : Amb κ own cc nL lev) {pc : Nat} {ci k ix : Nat} {C ref : String} {T : u_T} {kk : PT} (d : decode cc pc = .ok (.getfield ix, 3)) (hc : ci < 11) (hcl : vwCl[ci]? = some (C, T, nf ci)) (hk9 : k < nf ci) (hf : fk ci k = 0 ∨ fk ci k = 3) (hin : ∀ w ∈ u_ws C T (nf ci), w ∈ AW) (href : (T k).1 = ref) (hw : Cond.fieldLink own ix ref (T k).2.1 (T k).2.2.1 ∈ AW) (hk : Snd κ (pc + 3) kk) : Snd κ pc (o_getI ci k kk) := by
  obtain ⟨p, l, e, R, s, m, args, below, meth, c, cells, slots, Q, cA, D, b0, Hs⟩ := κ
  obtain ⟨hx, hb, hml, hown, hts, hlk, hK, hb0, hfr, hlo, hc1, hs1⟩ := h
  intro L st μ H locs ls hB hL hW hS
  unfold o_getI at hB
  split at hB
  · rename_i a r
    obtain ⟨hB1, hB⟩ := hB
    have hres := fv_i hB1.2 hf (I := μ.1) (J := μ.2) (b0 := b0) (k := k)
    refine va_get (v := fv μ.1 μ.2 b0 a k) (rest := r.map (tv b0)) hx hb hts hin hown hK hW.2.1 a (PW_ob hB1 hc) hcl k hk9 (ref := ref) (hts _ hw) (fun z hz => by rw [← href]; exact hz) (fv_at hk9) d ?_
    rw [hres]
    exact hk L _ μ H locs ls hB hL hW hS
  · exact hB.elim
def o_getL (ci k : Nat) (kk : PT) : PT := fun L st μ => match st with
  | .inr (.inr a) :: r => isK a ci ∧ kk L (.inr (.inl (μ.2 a k)) :: r) μ
  | _ => False
theorem s_getL {κ : Kap} {own : String} {cc : ByteArray} {nL lev : Nat} (h : Amb κ own cc nL lev) {pc : Nat} {ci k ix : Nat} {C ref : String} {T : u_T} {kk : PT} (d : decode cc pc = .ok (.getfield ix, 3)) (hc : ci < 11) (hcl : vwCl[ci]? = some (C, T, nf ci)) (hk9 : k < nf ci) (hf : fk ci k = 1) (hin : ∀ w ∈ u_ws C T (nf ci), w ∈ AW) (href : (T k).1 = ref) (hw : Cond.fieldLink own ix ref (T k).2.1 (T k).2.2.1 ∈ AW) (hk : Snd κ (pc + 3) kk) : Snd κ pc (o_getL ci k kk) := by
  obtain ⟨p, l, e, R, s, m, args, below, meth, c, cells, slots, Q, cA, D, b0, Hs⟩ := κ
  obtain ⟨hx, hb, hml, hown, hts, hlk, hK, hb0, hfr, hlo, hc1, hs1⟩ := h
  intro L st μ H locs ls hB hL hW hS
  unfold o_getL at hB
  split at hB
  · rename_i a r
    obtain ⟨hB1, hB⟩ := hB
    have hres := fv_l hB1.2 hf (I := μ.1) (J := μ.2) (b0 := b0) (k := k)
    refine va_get (v := fv μ.1 μ.2 b0 a k) (rest := r.map (tv b0)) hx hb hts hin hown hK hW.2.1 a (PW_ob hB1 hc) hcl k hk9 (ref := ref) (hts _ hw) (fun z hz => by rw [← href]; exact hz) (fv_at hk9) d ?_
    rw [hres]
    exact hk L _ μ H locs ls hB hL hW hS
  · exact hB.elim
def o_getR (ci k : Nat) (kk : PT) : PT := fun L st μ => match st with
  | .inr (.inr a) :: r => isK a ci ∧ kk L (.inr (.inr (a + ro ci k)) :: r) μ
  | _ => False
theorem s_getR {κ : Kap} {own : String} {cc : ByteArray} {nL lev : Nat} (h : Amb κ own cc nL lev) {pc : Nat} {ci k ix : Nat} {C ref : String} {T : u_T} {kk : PT} (d : decode cc pc = .ok (.getfield ix, 3)) (hc : ci < 11) (hcl : vwCl[ci]? = some (C, T, nf ci)) (hk9 : k < nf ci) (hf : fk ci k = 2) (hin : ∀ w ∈ u_ws C T (nf ci), w ∈ AW) (href : (T k).1 = ref) (hw : Cond.fieldLink own ix ref (T k).2.1 (T k).2.2.1 ∈ AW) (hk : Snd κ (pc + 3) kk) : Snd κ pc (o_getR ci k kk) := by
  obtain ⟨p, l, e, R, s, m, args, below, meth, c, cells, slots, Q, cA, D, b0, Hs⟩ := κ
  obtain ⟨hx, hb, hml, hown, hts, hlk, hK, hb0, hfr, hlo, hc1, hs1⟩ := h
  intro L st μ H locs ls hB hL hW hS
  unfold o_getR at hB
  split at hB
  · rename_i a r
    obtain ⟨hB1, hB⟩ := hB
    have hres := fv_r hB1.2 hc hf (I := μ.1) (J := μ.2) (b0 := b0) (k := k)
    refine va_get (v := fv μ.1 μ.2 b0 a k) (rest := r.map (tv b0)) hx hb hts hin hown hK hW.2.1 a (PW_ob hB1 hc) hcl k hk9 (ref := ref) (hts _ hw) (fun z hz => by rw [← href]; exact hz) (fv_at hk9) d ?_
    rw [hres]
    exact hk L _ μ H locs ls hB hL hW hS
  · exact hB.elim
def o_putI (ci k : Nat) (kk : PT) : PT := fun L st μ => match st with
  | .inl v :: .inr (.inr a) :: r => isK a ci ∧ kk L r (uM μ.1 a k v, μ.2)
  | _ => False
theorem s_putI {κ : Kap} {own : String} {cc : ByteArray} {nL lev : Nat} (h : Amb κ own cc nL lev) {pc : Nat} {ci k ix : Nat} {C ref : String} {T : u_T} {kk : PT} {ty0 : Nat → FieldType} (d : decode cc pc = .ok (.putfield ix, 3)) (hc : ci < 11) (hcl : vwCl[ci]? = some (C, T, nf ci)) (hk9 : k < nf ci) (hf : fk ci k = 0) (hin : ∀ w ∈ u_ws C T (nf ci), w ∈ AW) (href : (T k).1 = ref) (hw : Cond.fieldLink own ix ref (T k).2.1 (T k).2.2.1 ∈ AW) (hty : ∀ k, k < nf ci → parseFieldDescriptor (T k).2.2.1 = some (ty0 k)) (hnm : ∀ a, a < nf ci → ∀ b, b < nf ci → a ≠ b → (T a).2.1 ≠ (T b).2.1) (hfin : (T k).2.2.2 = false) (hd : ty0 k = .int) (hk : Snd κ (pc + 3) kk) : Snd κ pc (o_putI ci k kk) := by
  obtain ⟨p, l, e, R, s, m, args, below, meth, c, cells, slots, Q, cA, D, b0, Hs⟩ := κ
  obtain ⟨hx, hb, hml, hown, hts, hlk, hK, hb0, hfr, hlo, hc1, hs1⟩ := h
  intro L st μ H locs ls hB hL hW hS
  unfold o_putI at hB
  split at hB
  · rename_i v a r
    obtain ⟨hB1, hB⟩ := hB
    refine va_put (v := .int (jI v)) (ty := .int) (rest := r.map (tv b0)) hx hb hts hin ty0 hty hnm hown hK hW.2.1 PW_D hS a (PW_ob hB1 hc) hcl k hk9 (ref := ref) (hts _ hw) (fun z hz => by rw [← href]; exact hz) hfin (by rw [hty k hk9, hd]) rfl rfl (by rw [List.length_map, List.length_range]; exact hk9) d (fun H1 locs1 hP1 _ hS1 => ?_)
    rw [PW_putI hB1 hc hk9 (Or.inl hf)] at hP1
    exact hk L r (uM μ.1 a k v, μ.2) H1 locs1 ls hB hL (Wo_put hb0 hW hS hP1 hS1) hS1
  · exact hB.elim
def o_putZ (ci k : Nat) (kk : PT) : PT := fun L st μ => match st with
  | .inl v :: .inr (.inr a) :: r => isK a ci ∧ (v = 0 ∨ v = 1) ∧ kk L r (uM μ.1 a k v, μ.2)
  | _ => False
theorem s_putZ {κ : Kap} {own : String} {cc : ByteArray} {nL lev : Nat} (h : Amb κ own cc nL lev) {pc : Nat} {ci k ix : Nat} {C ref : String} {T : u_T} {kk : PT} {ty0 : Nat → FieldType} (d : decode cc pc = .ok (.putfield ix, 3)) (hc : ci < 11) (hcl : vwCl[ci]? = some (C, T, nf ci)) (hk9 : k < nf ci) (hf : fk ci k = 3) (hin : ∀ w ∈ u_ws C T (nf ci), w ∈ AW) (href : (T k).1 = ref) (hw : Cond.fieldLink own ix ref (T k).2.1 (T k).2.2.1 ∈ AW) (hty : ∀ k, k < nf ci → parseFieldDescriptor (T k).2.2.1 = some (ty0 k)) (hnm : ∀ a, a < nf ci → ∀ b, b < nf ci → a ≠ b → (T a).2.1 ≠ (T b).2.1) (hfin : (T k).2.2.2 = false) (hd : ty0 k = .boolean) (hk : Snd κ (pc + 3) kk) : Snd κ pc (o_putZ ci k kk) := by
  obtain ⟨p, l, e, R, s, m, args, below, meth, c, cells, slots, Q, cA, D, b0, Hs⟩ := κ
  obtain ⟨hx, hb, hml, hown, hts, hlk, hK, hb0, hfr, hlo, hc1, hs1⟩ := h
  intro L st μ H locs ls hB hL hW hS
  unfold o_putZ at hB
  split at hB
  · rename_i v a r
    obtain ⟨hB1, hv, hB⟩ := hB
    refine va_put (v := .int (jI v)) (ty := .boolean) (rest := r.map (tv b0)) hx hb hts hin ty0 hty hnm hown hK hW.2.1 PW_D hS a (PW_ob hB1 hc) hcl k hk9 (ref := ref) (hts _ hw) (fun z hz => by rw [← href]; exact hz) hfin (by rw [hty k hk9, hd]) (jI_bool hv).1 (jI_bool hv).2 (by rw [List.length_map, List.length_range]; exact hk9) d (fun H1 locs1 hP1 _ hS1 => ?_)
    rw [PW_putI hB1 hc hk9 (Or.inr hf)] at hP1
    exact hk L r (uM μ.1 a k v, μ.2) H1 locs1 ls hB hL (Wo_put hb0 hW hS hP1 hS1) hS1
  · exact hB.elim
def o_putL (ci k : Nat) (kk : PT) : PT := fun L st μ => match st with
  | .inr (.inl v) :: .inr (.inr a) :: r => isK a ci ∧ kk L r (μ.1, uM μ.2 a k v)
  | _ => False
theorem s_putL {κ : Kap} {own : String} {cc : ByteArray} {nL lev : Nat} (h : Amb κ own cc nL lev) {pc : Nat} {ci k ix : Nat} {C ref : String} {T : u_T} {kk : PT} {ty0 : Nat → FieldType} (d : decode cc pc = .ok (.putfield ix, 3)) (hc : ci < 11) (hcl : vwCl[ci]? = some (C, T, nf ci)) (hk9 : k < nf ci) (hf : fk ci k = 1) (hin : ∀ w ∈ u_ws C T (nf ci), w ∈ AW) (href : (T k).1 = ref) (hw : Cond.fieldLink own ix ref (T k).2.1 (T k).2.2.1 ∈ AW) (hty : ∀ k, k < nf ci → parseFieldDescriptor (T k).2.2.1 = some (ty0 k)) (hnm : ∀ a, a < nf ci → ∀ b, b < nf ci → a ≠ b → (T a).2.1 ≠ (T b).2.1) (hfin : (T k).2.2.2 = false) (hd : ty0 k = .long) (hk : Snd κ (pc + 3) kk) : Snd κ pc (o_putL ci k kk) := by
  obtain ⟨p, l, e, R, s, m, args, below, meth, c, cells, slots, Q, cA, D, b0, Hs⟩ := κ
  obtain ⟨hx, hb, hml, hown, hts, hlk, hK, hb0, hfr, hlo, hc1, hs1⟩ := h
  intro L st μ H locs ls hB hL hW hS
  unfold o_putL at hB
  split at hB
  · rename_i v a r
    obtain ⟨hB1, hB⟩ := hB
    refine va_put (v := .long (jL v)) (ty := .long) (rest := r.map (tv b0)) hx hb hts hin ty0 hty hnm hown hK hW.2.1 PW_D hS a (PW_ob hB1 hc) hcl k hk9 (ref := ref) (hts _ hw) (fun z hz => by rw [← href]; exact hz) hfin (by rw [hty k hk9, hd]) rfl rfl (by rw [List.length_map, List.length_range]; exact hk9) d (fun H1 locs1 hP1 _ hS1 => ?_)
    rw [PW_putL hB1 hc hk9 hf] at hP1
    exact hk L r (μ.1, uM μ.2 a k v) H1 locs1 ls hB hL (Wo_put hb0 hW hS hP1 hS1) hS1
  · exact hB.elim
def o_iald (kk : PT) : PT := fun L st μ => match st with
  | .inl i :: .inr (.inr a) :: r => isK a 11 ∧ 0 ≤ i ∧ i < ln a ∧ kk L (.inl (μ.1 a i.toNat) :: r) μ
  | _ => False
theorem ln_lt (a : Nat) : ln a < 2147483648 := by
  by_cases h : a < lnL.length
  · have : ∀ i, i < lnL.length → lnL.getD i 0 < 2147483648 := by decide +kernel
    exact this a h
  · unfold ln
    rw [List.getD_eq_getElem?_getD, List.getElem?_eq_none (by omega)]
    decide
theorem s_iald {κ : Kap} {own : String} {cc : ByteArray} {nL lev : Nat} (h : Amb κ own cc nL lev) {pc : Nat} {kk : PT} (d : decode cc pc = .ok (.iaload, 1)) (hk : Snd κ (pc + 1) kk) : Snd κ pc (o_iald kk) := by
  obtain ⟨p, l, e, R, s, m, args, below, meth, c, cells, slots, Q, cA, D, b0, Hs⟩ := κ
  obtain ⟨hx, hb, hml, hown, hts, hlk, hK, hb0, hfr, hlo, hc1, hs1⟩ := h
  intro L st μ H locs ls hB hL hW hS
  unfold o_iald at hB
  split at hB
  · rename_i i a r
    obtain ⟨h1, h2, h3, hB⟩ := hB
    have hn := ln_lt a
    have hcl := jI_cl (x := i) ⟨by omega, by omega⟩
    refine va_iald (rest := r.map (tv b0)) hx hb hK hW.2.1 a 0 (PW_ai h1) rfl (i := jI i) (jI_in h2 h3 hn) d ?_
    rw [hcl]
    exact hk L _ μ H locs ls hB hL hW hS
  · exact hB.elim
def o_lald (kk : PT) : PT := fun L st μ => match st with
  | .inl i :: .inr (.inr a) :: r => isK a 12 ∧ 0 ≤ i ∧ i < ln a ∧ kk L (.inr (.inl (μ.2 a i.toNat)) :: r) μ
  | _ => False
theorem s_lald {κ : Kap} {own : String} {cc : ByteArray} {nL lev : Nat} (h : Amb κ own cc nL lev) {pc : Nat} {kk : PT} (d : decode cc pc = .ok (.laload, 1)) (hk : Snd κ (pc + 1) kk) : Snd κ pc (o_lald kk) := by
  obtain ⟨p, l, e, R, s, m, args, below, meth, c, cells, slots, Q, cA, D, b0, Hs⟩ := κ
  obtain ⟨hx, hb, hml, hown, hts, hlk, hK, hb0, hfr, hlo, hc1, hs1⟩ := h
  intro L st μ H locs ls hB hL hW hS
  unfold o_lald at hB
  split at hB
  · rename_i i a r
    obtain ⟨h1, h2, h3, hB⟩ := hB
    have hn := ln_lt a
    have hcl := jI_cl (x := i) ⟨by omega, by omega⟩
    refine va_lald (rest := r.map (tv b0)) hx hb hK hW.2.1 a 1 (PW_al h1) rfl (i := jI i) (jI_in h2 h3 hn) d ?_
    rw [hcl]
    exact hk L _ μ H locs ls hB hL hW hS
  · exact hB.elim
def o_iast (kk : PT) : PT := fun L st μ => match st with
  | .inl v :: .inl i :: .inr (.inr a) :: r => isK a 11 ∧ 0 ≤ i ∧ i < ln a ∧ kk L r (uM μ.1 a i.toNat v, μ.2)
  | _ => False
def o_last (kk : PT) : PT := fun L st μ => match st with
  | .inr (.inl v) :: .inl i :: .inr (.inr a) :: r => isK a 12 ∧ 0 ≤ i ∧ i < ln a ∧ kk L r (μ.1, uM μ.2 a i.toNat v)
  | _ => False
theorem s_iast {κ : Kap} {own : String} {cc : ByteArray} {nL lev : Nat} (h : Amb κ own cc nL lev) {pc : Nat} {kk : PT} (d : decode cc pc = .ok (.iastore, 1)) (hk : Snd κ (pc + 1) kk) : Snd κ pc (o_iast kk) := by
  obtain ⟨p, l, e, R, s, m, args, below, meth, c, cells, slots, Q, cA, D, b0, Hs⟩ := κ
  obtain ⟨hx, hb, hml, hown, hts, hlk, hK, hb0, hfr, hlo, hc1, hs1⟩ := h
  intro L st μ H locs ls hB hL hW hS
  unfold o_iast at hB
  split at hB
  · rename_i v i a r
    obtain ⟨h1, h2, h3, hB⟩ := hB
    have hn := ln_lt a
    have hcl := jI_cl (x := i) ⟨by omega, by omega⟩
    refine va_iast (x := jI v) (rest := r.map (tv b0)) hx hb hK hW.2.1 PW_D hS a 0 (PW_ai h1) rfl (i := jI i) (jI_in h2 h3 hn) d (fun H1 locs1 hP1 _ hS1 => ?_)
    rw [hcl, PW_stI h1] at hP1
    exact hk L r (uM μ.1 a i.toNat v, μ.2) H1 locs1 ls hB hL (Wo_put hb0 hW hS hP1 hS1) hS1
  · exact hB.elim
theorem s_last {κ : Kap} {own : String} {cc : ByteArray} {nL lev : Nat} (h : Amb κ own cc nL lev) {pc : Nat} {kk : PT} (d : decode cc pc = .ok (.lastore, 1)) (hk : Snd κ (pc + 1) kk) : Snd κ pc (o_last kk) := by
  obtain ⟨p, l, e, R, s, m, args, below, meth, c, cells, slots, Q, cA, D, b0, Hs⟩ := κ
  obtain ⟨hx, hb, hml, hown, hts, hlk, hK, hb0, hfr, hlo, hc1, hs1⟩ := h
  intro L st μ H locs ls hB hL hW hS
  unfold o_last at hB
  split at hB
  · rename_i v i a r
    obtain ⟨h1, h2, h3, hB⟩ := hB
    have hn := ln_lt a
    have hcl := jI_cl (x := i) ⟨by omega, by omega⟩
    refine va_last (x := jL v) (rest := r.map (tv b0)) hx hb hK hW.2.1 PW_D hS a 1 (PW_al h1) rfl (i := jI i) (jI_in h2 h3 hn) d (fun H1 locs1 hP1 _ hS1 => ?_)
    rw [hcl, PW_stL h1] at hP1
    exact hk L r (μ.1, uM μ.2 a i.toNat v) H1 locs1 ls hB hL (Wo_put hb0 hW hS hP1 hS1) hS1
  · exact hB.elim
def o_aald (kk : PT) : PT := fun L st μ => match st with
  | .inl i :: .inr (.inr a) :: r => 0 ≤ i ∧ i < 6 ∧ ((isK a 13 ∧ kk L (.inr (.inr (a + 12 + 4 * i.toNat)) :: r) μ) ∨ (isK a 14 ∧ kk L (.inr (.inr (a + 1 + 37 * i.toNat)) :: r) μ))
  | _ => False
theorem ln_6 {a : Nat} (h : isK a 13 ∨ isK a 14) : ln a = 6 := by
  have : ∀ i, i < 356 → (kd i = 13 ∨ kd i = 14) → ln i = 6 := by decide +kernel
  rcases h with h | h
  · exact this a h.1 (Or.inl h.2)
  · exact this a h.1 (Or.inr h.2)
theorem s_aald {κ : Kap} {own : String} {cc : ByteArray} {nL lev : Nat} (h : Amb κ own cc nL lev) {pc : Nat} {kk : PT} (d : decode cc pc = .ok (.aaload, 1)) (hk : Snd κ (pc + 1) kk) : Snd κ pc (o_aald kk) := by
  obtain ⟨p, l, e, R, s, m, args, below, meth, c, cells, slots, Q, cA, D, b0, Hs⟩ := κ
  obtain ⟨hx, hb, hml, hown, hts, hlk, hK, hb0, hfr, hlo, hc1, hs1⟩ := h
  intro L st μ H locs ls hB hL hW hS
  unfold o_aald at hB
  split at hB
  · rename_i i a r
    obtain ⟨h2, h3, hB⟩ := hB
    have hcl := jI_cl (x := i) ⟨by omega, by omega⟩
    rcases hB with ⟨h1, hB⟩ | ⟨h1, hB⟩
    · have hl6 := ln_6 (Or.inl h1)
      refine va_aldq (C := "CellLoans$Port") (rest := r.map (tv b0)) hx hb hK hW.2.1 a 2 (PW_ar h1 (Or.inl rfl)) rfl (i := jI i) (jI_in h2 (by rw [hl6]; omega) (ln_lt a)) d ?_
      rw [hcl, show RS a i.toNat = some (a + 12 + 4 * i.toNat) from by unfold RS; rw [if_pos h1.2, if_pos (by omega)]]
      exact hk L _ μ H locs ls hB hL hW hS
    · have hl6 := ln_6 (Or.inr h1)
      refine va_aldq (C := "CellLoans$Switch") (rest := r.map (tv b0)) hx hb hK hW.2.1 a 3 (PW_ar h1 (Or.inr rfl)) rfl (i := jI i) (jI_in h2 (by rw [hl6]; omega) (ln_lt a)) d ?_
      rw [hcl, show RS a i.toNat = some (a + 1 + 37 * i.toNat) from by unfold RS; rw [if_neg (by rw [h1.2]; decide), if_pos h1.2, if_pos (by omega)]]
      exact hk L _ μ H locs ls hB hL hW hS
  · exact hB.elim
def o_alen (kk : PT) : PT := fun L st μ => match st with
  | .inr (.inr a) :: r => (isK a 11 ∨ isK a 12 ∨ isK a 13 ∨ isK a 14) ∧ kk L (.inl (ln a) :: r) μ
  | _ => False
