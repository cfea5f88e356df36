/-! GROWTH 3: instructions on a memory that grows -/
def g_getR (ci k : Nat) (kk : PTG) : PTG := fun L st μ => match st with
  | .inr (.inr a) :: r => isG a ci μ ∧ ∃ v, μ.2.2.2 a k = some v ∧ kk L (.inr (.inr v) :: r) μ
  | _ => False
theorem sg_getR {κ : Kap} {own : String} {cc : ByteArray} {nL lev top : Nat} (h : AmbG κ own cc nL lev top) {pc : Nat} {ci k ix : Nat} {C ref : String} {T : u_T} {kk : PTG} (d : decode cc pc = .ok (.getfield ix, 3)) (hc : ci < 11) (hcl : vwCl[ci]? = some (C, T, nf ci)) (hk9 : k < nf ci) (hf : fk ci k = 2) (hin : ∀ w ∈ u_ws C T (nf ci), w ∈ AW) (href : (T k).1 = ref) (hw : Cond.fieldLink own ix ref (T k).2.1 (T k).2.2.1 ∈ AW) (hk : SndG κ (pc + 3) kk) : SndG κ pc (g_getR ci k kk) := by
  obtain ⟨p, l, e, R, s, m, args, below, meth, c, n0, slots, Q, cA, D, b0, Hs⟩ := κ
  obtain ⟨hx, hb, hml, hown, hts, hlk, hK, hb0, hfr, hlo, hc1, hs1⟩ := h
  intro L st μ H locs ls cl sl hB hL hW hS kc kz
  unfold g_getR at hB
  split at hB
  · rename_i a r
    obtain ⟨hB1, v, hv, hB⟩ := hB
    have hres := fvG_r (b0 := b0) hB1.2 hf hv
    refine va_get (v := fvG μ b0 a k) (rest := r.map (tv b0)) hx hb hts hin hown hK hW a (PG_ob hB1 hc) hcl k hk9 (ref := ref) (hts _ hw) (fun z hz => by rw [← href]; exact hz) (fvG_at hk9) d ?_
    rw [hres]
    exact hk L _ μ H locs ls cl sl hB hL hW hS kc kz
  · exact hB.elim
def g_getI (ci k : Nat) (kk : PTG) : PTG := fun L st μ => match st with
  | .inr (.inr a) :: r => isG a ci μ ∧ kk L (.inl (μ.2.1 a k) :: r) μ
  | _ => False
theorem sg_getI {κ : Kap} {own : String} {cc : ByteArray} {nL lev top : Nat} (h : AmbG κ own cc nL lev top) {pc : Nat} {ci k ix : Nat} {C ref : String} {T : u_T} {kk : PTG} (d : decode cc pc = .ok (.getfield ix, 3)) (hc : ci < 11) (hcl : vwCl[ci]? = some (C, T, nf ci)) (hk9 : k < nf ci) (hf : fk ci k = 0 ∨ fk ci k = 3) (hin : ∀ w ∈ u_ws C T (nf ci), w ∈ AW) (href : (T k).1 = ref) (hw : Cond.fieldLink own ix ref (T k).2.1 (T k).2.2.1 ∈ AW) (hk : SndG κ (pc + 3) kk) : SndG κ pc (g_getI ci k kk) := by
  obtain ⟨p, l, e, R, s, m, args, below, meth, c, n0, slots, Q, cA, D, b0, Hs⟩ := κ
  obtain ⟨hx, hb, hml, hown, hts, hlk, hK, hb0, hfr, hlo, hc1, hs1⟩ := h
  intro L st μ H locs ls cl sl hB hL hW hS kc kz
  unfold g_getI at hB
  split at hB
  · rename_i a r
    obtain ⟨hB1, hB⟩ := hB
    have hres := fvG_i (G := μ) (b0 := b0) hB1.2 hf
    refine va_get (v := fvG μ b0 a k) (rest := r.map (tv b0)) hx hb hts hin hown hK hW a (PG_ob hB1 hc) hcl k hk9 (ref := ref) (hts _ hw) (fun z hz => by rw [← href]; exact hz) (fvG_at hk9) d ?_
    rw [hres]
    exact hk L _ μ H locs ls cl sl hB hL hW hS kc kz
  · exact hB.elim
def g_putI (ci k : Nat) (kk : PTG) : PTG := fun L st μ => match st with
  | .inl v :: .inr (.inr a) :: r => isG a ci μ ∧ kk L r (gI μ a k v)
  | _ => False
theorem sg_putI {κ : Kap} {own : String} {cc : ByteArray} {nL lev top : Nat} (h : AmbG κ own cc nL lev top) {pc : Nat} {ci k ix : Nat} {C ref : String} {T : u_T} {kk : PTG} {ty0 : Nat → FieldType} (d : decode cc pc = .ok (.putfield ix, 3)) (hc : ci < 11) (hcl : vwCl[ci]? = some (C, T, nf ci)) (hk9 : k < nf ci) (hf : fk ci k = 0) (hin : ∀ w ∈ u_ws C T (nf ci), w ∈ AW) (href : (T k).1 = ref) (hw : Cond.fieldLink own ix ref (T k).2.1 (T k).2.2.1 ∈ AW) (hty : ∀ k, k < nf ci → parseFieldDescriptor (T k).2.2.1 = some (ty0 k)) (hnm : ∀ a, a < nf ci → ∀ b, b < nf ci → a ≠ b → (T a).2.1 ≠ (T b).2.1) (hfin : (T k).2.2.2 = false) (hd : ty0 k = .int) (hk : SndG κ (pc + 3) kk) : SndG κ pc (g_putI ci k kk) := by
  obtain ⟨p, l, e, R, s, m, args, below, meth, c, n0, slots, Q, cA, D, b0, Hs⟩ := κ
  obtain ⟨hx, hb, hml, hown, hts, hlk, hK, hb0, hfr, hlo, hc1, hs1⟩ := h
  intro L st μ H locs ls cl sl hB hL hW hS kc kz
  unfold g_putI at hB
  split at hB
  · rename_i v a r
    obtain ⟨hB1, hB⟩ := hB
    refine va_put (v := .int (jI v)) (ty := .int) (rest := r.map (tv b0)) hx hb hts hin ty0 hty hnm hown hK hW PG_D hS a (PG_ob hB1 hc) hcl k hk9 (ref := ref) (hts _ hw) (fun z hz => by rw [← href]; exact hz) hfin (by rw [hty k hk9, hd]) rfl rfl (by rw [List.length_map, List.length_range]; exact hk9) d (fun H1 locs1 hP1 _ hS1 => ?_)
    have e1 : (PG cA μ b0).set a (b0 + a, .inr (ci, ((List.range (nf ci)).map (fvG μ b0 a)).set k (.int (jI v)))) = PG cA (gI μ a k v) b0 := by
      refine PG_set (G' := gI μ a k v) rfl hB1.1 (fun e' h' => ⟨uM_r h', rfl, rfl⟩) ?_
      rw [enG_ob hB1.2 hc]
      rw [map_set hk9 (g := fvG (gI μ a k v) b0 a) ?_ ?_]
      · rw [fvG_i hB1.2 (Or.inl hf)]
        show Value.int (jI (uM μ.2.1 a k v a k)) = _
        rw [uM_s]
      · intro j hj
        unfold fvG
        show (if _ then _ else if _ then _ else Value.int (jI (uM μ.2.1 a k v a j))) = _
        rw [uM_k hj]
        rfl
    rw [e1] at hP1
    exact hk L r (gI μ a k v) H1 locs1 ls cl sl hB hL hP1 hS1 kc kz
  · exact hB.elim
def g_putR (ci k : Nat) (kk : PTG) : PTG := fun L st μ => match st with
  | .inr (.inr v) :: .inr (.inr a) :: r => isG a ci μ ∧ kk L r (gX μ a k v)
  | _ => False
theorem sg_putR {κ : Kap} {own : String} {cc : ByteArray} {nL lev top : Nat} (h : AmbG κ own cc nL lev top) (hin2 : match κ with | (_, _, _, _, _, _, _, _, meth, _, _, _, _, _, _, _, _) => meth.name = "<init>") {pc : Nat} {ci k ix : Nat} {C ref : String} {T : u_T} {kk : PTG} {ty0 : Nat → FieldType} (d : decode cc pc = .ok (.putfield ix, 3)) (hc : ci < 11) (hcl : vwCl[ci]? = some (C, T, nf ci)) (hk9 : k < nf ci) (hf : fk ci k = 2) (hin : ∀ w ∈ u_ws C T (nf ci), w ∈ AW) (href : (T k).1 = ref) (hw : Cond.fieldLink own ix ref (T k).2.1 (T k).2.2.1 ∈ AW) (hty : ∀ k, k < nf ci → parseFieldDescriptor (T k).2.2.1 = some (ty0 k)) (hnm : ∀ a, a < nf ci → ∀ b, b < nf ci → a ≠ b → (T a).2.1 ≠ (T b).2.1) (hfin : (T k).2.2.2 = true) (hdecl : (T k).1 = own) (hfit : ∀ q : Nat, fits (ty0 k) (.ref q) = true) (hnar : ∀ q : Nat, narrow (ty0 k) (.ref q) = .ref q) (hk : SndG κ (pc + 3) kk) : SndG κ pc (g_putR ci k kk) := by
  obtain ⟨p, l, e, R, s, m, args, below, meth, c, n0, slots, Q, cA, D, b0, Hs⟩ := κ
  obtain ⟨hx, hb, hml, hown, hts, hlk, hK, hb0, hfr, hlo, hc1, hs1⟩ := h
  intro L st μ H locs ls cl sl hB hL hW hS kc kz
  unfold g_putR at hB
  split at hB
  · rename_i v a r
    obtain ⟨hB1, hB⟩ := hB
    refine va_putF (v := .ref (b0 + v)) (ty := ty0 k) (rest := r.map (tv b0)) hx hb hts hin ty0 hty hnm hown hK hW PG_D hS a (PG_ob hB1 hc) hcl k hk9 (ref := ref) (hts _ hw) (fun z hz => by rw [← href]; exact hz) hfin hin2 hdecl (hty k hk9) (hnar _) (hfit _) (by rw [List.length_map, List.length_range]; exact hk9) d (fun H1 locs1 hP1 _ hS1 => ?_)
    have e1 : (PG cA μ b0).set a (b0 + a, .inr (ci, ((List.range (nf ci)).map (fvG μ b0 a)).set k (.ref (b0 + v)))) = PG cA (gX μ a k v) b0 := by
      refine PG_set (G' := gX μ a k v) rfl hB1.1 (fun e' h' => ⟨rfl, rfl, funext fun j => if_neg (fun q => h' q.1)⟩) ?_
      rw [enG_ob hB1.2 hc]
      rw [map_set hk9 (g := fvG (gX μ a k v) b0 a) ?_ ?_]
      · exact fvG_r hB1.2 hf (if_pos ⟨rfl, rfl⟩)
      · intro j hj
        unfold fvG
        have : (gX μ a k v).2.2.2 a j = μ.2.2.2 a j := if_neg (fun q => hj q.2)
        rw [this]
        rfl
    rw [e1] at hP1
    exact hk L r (gX μ a k v) H1 locs1 ls cl sl hB hL hP1 hS1 kc kz
  · exact hB.elim
def g_iast (kk : PTG) : PTG := fun L st μ => match st with
  | .inl v :: .inl i :: .inr (.inr a) :: r => isG a 11 μ ∧ 0 ≤ i ∧ i < (ln a : Nat) ∧ kk L r (gI μ a i.toNat v)
  | _ => False
theorem sg_iast {κ : Kap} {own : String} {cc : ByteArray} {nL lev top : Nat} (h : AmbG κ own cc nL lev top) {pc : Nat} {kk : PTG} (d : decode cc pc = .ok (.iastore, 1)) (hk : SndG κ (pc + 1) kk) : SndG κ pc (g_iast kk) := by
  obtain ⟨p, l, e, R, s, m, args, below, meth, c, n0, slots, Q, cA, D, b0, Hs⟩ := κ
  obtain ⟨hx, hb, hml, hown, hts, hlk, hK, hb0, hfr, hlo, hc1, hs1⟩ := h
  intro L st μ H locs ls cl sl hB hL hW hS kc kz
  unfold g_iast at hB
  split at hB
  · rename_i v i a r
    obtain ⟨h1, h2, h3, hB⟩ := hB
    have hn := ln_lt a
    have hcl := jI_cl (x := i) ⟨by omega, by omega⟩
    refine va_iast (x := jI v) (rest := r.map (tv b0)) hx hb hK hW PG_D hS a 0 (PG_ai h1) rfl (i := jI i) (jI_in h2 h3 hn) d (fun H1 locs1 hP1 _ hS1 => ?_)
    have e1 : (PG cA μ b0).set a (b0 + a, .inl (cA 11, ln a, .inl (upd (fun j => jI (μ.2.1 a j)) i.toNat (jI v)))) = PG cA (gI μ a i.toNat v) b0 := by
      refine PG_set (G' := gI μ a i.toNat v) rfl h1.1 (fun e' h' => ⟨uM_r h', rfl, rfl⟩) ?_
      unfold enG
      rw [h1.2, if_neg (by omega), if_pos rfl]
      congr 4
      funext j
      unfold upd
      show (if _ then _ else _) = jI (uM μ.2.1 a i.toNat v a j)
      by_cases hi : j = i.toNat
      · subst hi; rw [if_pos rfl, uM_s]
      · rw [if_neg hi, uM_k hi]
    rw [hcl, e1] at hP1
    exact hk L r (gI μ a i.toNat v) H1 locs1 ls cl sl hB hL hP1 hS1 kc kz
  · exact hB.elim
def g_last (kk : PTG) : PTG := fun L st μ => match st with
  | .inr (.inl v) :: .inl i :: .inr (.inr a) :: r => isG a 12 μ ∧ 0 ≤ i ∧ i < (ln a : Nat) ∧ kk L r (gL μ a i.toNat v)
  | _ => False
theorem sg_last {κ : Kap} {own : String} {cc : ByteArray} {nL lev top : Nat} (h : AmbG κ own cc nL lev top) {pc : Nat} {kk : PTG} (d : decode cc pc = .ok (.lastore, 1)) (hk : SndG κ (pc + 1) kk) : SndG κ pc (g_last kk) := by
  obtain ⟨p, l, e, R, s, m, args, below, meth, c, n0, slots, Q, cA, D, b0, Hs⟩ := κ
  obtain ⟨hx, hb, hml, hown, hts, hlk, hK, hb0, hfr, hlo, hc1, hs1⟩ := h
  intro L st μ H locs ls cl sl hB hL hW hS kc kz
  unfold g_last at hB
  split at hB
  · rename_i v i a r
    obtain ⟨h1, h2, h3, hB⟩ := hB
    have hn := ln_lt a
    have hcl := jI_cl (x := i) ⟨by omega, by omega⟩
    refine va_last (x := jL v) (rest := r.map (tv b0)) hx hb hK hW PG_D hS a 1 (PG_al h1) rfl (i := jI i) (jI_in h2 h3 hn) d (fun H1 locs1 hP1 _ hS1 => ?_)
    have e1 : (PG cA μ b0).set a (b0 + a, .inl (cA 12, ln a, .inr (.inl (vp_updL (fun j => jL (μ.2.2.1 a j)) i.toNat (jL v))))) = PG cA (gL μ a i.toNat v) b0 := by
      refine PG_set (G' := gL μ a i.toNat v) rfl h1.1 (fun e' h' => ⟨rfl, uM_r h', rfl⟩) ?_
      unfold enG
      rw [h1.2, if_neg (by omega), if_neg (by omega), if_pos rfl]
      congr 5
      funext j
      unfold vp_updL
      show (if _ then _ else _) = jL (uM μ.2.2.1 a i.toNat v a j)
      by_cases hi : j = i.toNat
      · subst hi; rw [if_pos rfl, uM_s]
      · rw [if_neg hi, uM_k hi]
    rw [hcl, e1] at hP1
    exact hk L r (gL μ a i.toNat v) H1 locs1 ls cl sl hB hL hP1 hS1 kc kz
  · exact hB.elim
