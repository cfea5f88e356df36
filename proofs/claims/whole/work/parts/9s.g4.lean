/-! GROWTH 4: what is born; calls of constructors -/
def g_aast (kk : PTG) : PTG := fun L st μ => match st with
  | .inr (.inr v) :: .inl i :: .inr (.inr a) :: r => (isG a 13 μ ∧ isG v 2 μ ∨ isG a 14 μ ∧ isG v 6 μ) ∧ 0 ≤ i ∧ i < (ln a : Nat) ∧ kk L r (gX μ a i.toNat v)
  | _ => False
theorem PG_stX {cA : Nat → ClassId} {G : GS} {b0 a kk i v : Nat} (h1 : isG a kk G) (hk : kk = 13 ∨ kk = 14) : (PG cA G b0).set a (b0 + a, .inl (cA kk, ln a, .inr (.inr (.inr (.inr (va_up (fun j => (G.2.2.2 a j).map (b0 + ·)) i (some (b0 + v)))))))) = PG cA (gX G a i v) b0 := by
  refine PG_set (G' := gX G a i v) rfl h1.1 (fun e' h' => ⟨rfl, rfl, funext fun j => if_neg (fun q => h' q.1)⟩) ?_
  have hf : va_up (fun j => (G.2.2.2 a j).map (b0 + ·)) i (some (b0 + v)) = (fun j => ((gX G a i v).2.2.2 a j).map (b0 + ·)) := by
    funext j
    by_cases hj : j = i
    · subst hj
      show (if _ then _ else _) = Option.map _ (if a = a ∧ j = j then some v else _)
      rw [if_pos rfl, if_pos ⟨rfl, rfl⟩]
      rfl
    · show (if _ then _ else _) = Option.map _ (if a = a ∧ j = i then some v else _)
      rw [if_neg hj, if_neg (fun q => hj q.2)]
  rw [hf]
  unfold enG
  rcases hk with rfl | rfl <;> rw [h1.2, if_neg (by omega), if_neg (by omega), if_neg (by omega)]
theorem sg_aast {κ : Kap} {own : String} {cc : ByteArray} {nL lev top : Nat} (h : AmbG κ own cc nL lev top) {pc : Nat} {kk : PTG} (d : decode cc pc = .ok (.aastore, 1)) (hk : SndG κ (pc + 1) kk) : SndG κ pc (g_aast kk) := by
  obtain ⟨p, l, e, R, s, m, args, below, meth, c, n0, slots, Q, cA, D, b0, Hs⟩ := κ
  obtain ⟨hx, hb, hml, hown, hts, hlk, hK, hb0, hfr, hlo, hc1, hs1⟩ := h
  intro L st μ H locs ls cl sl hB hL hW hS kc kz
  unfold g_aast at hB
  split at hB
  · rename_i v i a r
    obtain ⟨h1, h2, h3, hB⟩ := hB
    have hn := ln_lt a
    have hcl := jI_cl (x := i) ⟨by omega, by omega⟩
    rcases h1 with ⟨ha, hv⟩ | ⟨ha, hv⟩
    · refine va_astq (rest := r.map (tv b0)) hx hb hK hW PG_D hS a 2 v 2 (r := (RX2, TX2, 15)) (PG_ar ha (Or.inl rfl)) rfl (PG_ob hv (by decide)) rfl (i := jI i) (jI_in h2 h3 hn) d (fun H1 locs1 hP1 _ hS1 => ?_)
      rw [hcl, PG_stX ha (Or.inl rfl)] at hP1
      exact hk L r (gX μ a i.toNat v) H1 locs1 ls cl sl hB hL hP1 hS1 kc kz
    · refine va_astq (rest := r.map (tv b0)) hx hb hK hW PG_D hS a 3 v 6 (r := (RX6, TX6, 8)) (PG_ar ha (Or.inr rfl)) rfl (PG_ob hv (by decide)) rfl (i := jI i) (jI_in h2 h3 hn) d (fun H1 locs1 hP1 _ hS1 => ?_)
      rw [hcl, PG_stX ha (Or.inr rfl)] at hP1
      exact hk L r (gX μ a i.toNat v) H1 locs1 ls cl sl hB hL hP1 hS1 kc kz
  · exact hB.elim
/-- what is born: an object of class ci -/
def g_new (ci top : Nat) (kk : PTG) : PTG := fun L st μ => kd μ.1 = ci ∧ μ.1 + 1 ≤ top ∧ kk L (.inr (.inr μ.1) :: st) (gN μ)
theorem sg_new {κ : Kap} {own : String} {cc : ByteArray} {nL lev top : Nat} (h : AmbG κ own cc nL lev top) {pc : Nat} {ci ix : Nat} {C : String} {T : u_T} {ty0 : Nat → FieldType} {kk : PTG} (d : decode cc pc = .ok (.new ix, 3)) (hc : ci < 11) (hcl : vwCl[ci]? = some (C, T, nf ci)) (hin : ∀ w ∈ u_ws C T (nf ci), w ∈ AW) (hty : ∀ k, k < nf ci → parseFieldDescriptor (T k).2.2.1 = some (ty0 k)) (hdf : ∀ j, j < nf ci → defaultValue (ty0 j) = if fk ci j = 2 then .null else if fk ci j = 1 then .long 0 else .int 0) (w1 : Cond.classLink own ix C ∈ AW) (w2 : Cond.instantiable C (nf ci) ∈ AW) (w3 : Cond.initialized C ∈ AW) (hk : SndG κ (pc + 3) kk) : SndG κ pc (g_new ci top kk) := by
  obtain ⟨p, l, e, R, s, m, args, below, meth, c, n0, slots, Q, cA, D, b0, Hs⟩ := κ
  obtain ⟨hx, hb, hml, hown, hts, hlk, hK, hb0, hfr, hlo, hc1, hs1⟩ := h
  intro L st μ H locs ls cl sl hB hL hW hS kc kz
  obtain ⟨h1, h2, hB⟩ := hB
  have hsl : SL (μ.1 + 1) = SL μ.1 + nf ci := by
    show SL μ.1 + (if kd μ.1 < 11 then nf (kd μ.1) else ln μ.1) = _
    rw [h1, if_pos hc]
  have hmo := SL_mono h2
  refine va_new (fs := (List.range (nf ci)).map (fvG (gN μ) b0 μ.1)) (rest := st.map (tv b0)) hx hb hts hin ty0 hty hown (hts _ w1) (hts _ w2) (hts _ w3) hK hW PG_D hS (fun q hq => by show b0 ≤ q; have := hb0.1; omega) hcl (fun j hj => ?_) (by have := hc1.1; omega) (by have := hc1.2; omega) d (fun q H1 hP1 hD1 hS1 => ?_)
  · unfold vp_V
    rw [List.getD_eq_getElem?_getD, fvG_at hj, hdf j hj, fvG_b h1]
    rfl
  · intro T hT X
    have hz := X.heapSize
    rw [hT, hb0.1] at hz
    have hq := born_at hP1 hD1 (by omega)
    subst hq
    have e1 : PG cA μ b0 ++ [(b0 + μ.1, .inr (ci, (List.range (nf ci)).map (fvG (gN μ) b0 μ.1)))] = PG cA (gN μ) b0 := by
      rw [PG_new, enG_ob h1 hc]
    rw [e1] at hP1
    exact hk L (.inr (.inr μ.1) :: st) (gN μ) H1 locs ls (cl + 1) (sl + nf ci) hB hL hP1 hS1 (by show n0 + (cl + 1) = μ.1 + 1; omega) (by show SL n0 + (sl + nf ci) = SL (μ.1 + 1); omega) T hT X
/-- an array of ints or longs -/
def g_newa (kk0 top : Nat) (kk : PTG) : PTG := fun L st μ => match st with
  | .inl n :: r => kd μ.1 = kk0 ∧ n = (ln μ.1 : Nat) ∧ μ.1 + 1 ≤ top ∧ kk L (.inr (.inr μ.1) :: r) (gN μ)
  | _ => False
theorem cA_u {cA : Nat → ClassId} {D : va_G} {s : State} {x : ClassId} {t : Nat} {ty : FieldType} (hK : va_K D vwCl (tysA cA) s) (hK1 : va_K D vwCl (tysA cA ++ [(x, ty)]) s) (ht : (tysA cA)[t]? = some (cA (11 + t), ty)) : x = cA (11 + t) := by
  have h1 := (hK.2 t _ ht).2
  have h2 : va_RA s x ty := (hK1.2 4 (x, ty) rfl).2
  have g1 : s.vm.findClass ("[" ++ ty.toString) = some (cA (11 + t)) := by
    cases ty with
    | object C => obtain ⟨_, _, _, _, _, q⟩ := h1; exact q
    | _ => exact h1
  have g2 : s.vm.findClass ("[" ++ ty.toString) = some x := by
    cases ty with
    | object C => obtain ⟨_, _, _, _, _, q⟩ := h2; exact q
    | _ => exact h2
  rw [g1] at g2
  exact (Option.some.inj g2).symm
theorem ln_4 (e : Nat) : ln e ≤ 20800 := by
  have key : ∀ e ∈ List.range 356, ln e ≤ 20800 := by decide +kernel
  by_cases h : e < 356
  · exact key e (List.mem_range.mpr h)
  · have : ln e = 0 := by
      unfold ln
      rw [List.getD_eq_getElem?_getD, List.getElem?_eq_none (by have : lnL.length = 356 := (by decide +kernel); omega)]
      rfl
    omega
theorem ln_cl (e : Nat) : ¬ jI ((ln e : Nat) : Int) < 0 ∧ (jI ((ln e : Nat) : Int)).toNatClampNeg = ln e := by
  have := ln_4 e
  have h := jI_cl (x := ((ln e : Nat) : Int)) ⟨by omega, by omega⟩
  refine ⟨?_, by rw [h, Int.toNat_natCast]⟩
  rw [Int32.lt_iff_toInt_lt, jI_toInt ⟨by omega, by omega⟩]
  show ¬ ((ln e : Nat) : Int) < 0
  omega
theorem sg_newI {κ : Kap} {own : String} {cc : ByteArray} {nL lev top : Nat} (h : AmbG κ own cc nL lev top) {pc : Nat} {kk : PTG} (d : decode cc pc = .ok (.newarray .int, 2)) (w1 : Cond.arrayClass .int ∈ AW) (hk : SndG κ (pc + 2) kk) : SndG κ pc (g_newa 11 top kk) := by
  obtain ⟨p, l, e, R, s, m, args, below, meth, c, n0, slots, Q, cA, D, b0, Hs⟩ := κ
  obtain ⟨hx, hb, hml, hown, hts, hlk, hK, hb0, hfr, hlo, hc1, hs1⟩ := h
  intro L st μ H locs ls cl sl hB hL hW hS kc kz
  unfold g_newa at hB
  split at hB
  · rename_i n r
    obtain ⟨h1, h3, h2, hB⟩ := hB
    subst h3
    have hsl : SL (μ.1 + 1) = SL μ.1 + ln μ.1 := by
      show SL μ.1 + (if kd μ.1 < 11 then nf (kd μ.1) else ln μ.1) = _
      rw [h1, if_neg (by decide)]
    have hmo := SL_mono h2
    obtain ⟨l1, l2⟩ := ln_cl μ.1
    have l4 := ln_4 μ.1
    refine va_newa (atype := .int) (ty := .int) (a0 := (ln μ.1, .inl (fun _ => 0))) (N' := ln μ.1) (rest := r.map (tv b0)) hx hb (hts _ w1) rfl hK hW PG_D hS (fun q hq => by show b0 ≤ q; have := hb0.1; omega) (fun cA => rfl) l1 l2 (by show ln μ.1 * 4 ≤ 536870912; omega) (by have := hc1.1; omega) (by have := hc1.2; omega) d (fun q x H1 hK1 hP1 hD1 hS1 => ?_)
    have hx1 := cA_u (t := 0) hK hK1 rfl
    subst hx1
    intro T hT X
    have hz := X.heapSize
    rw [hT, hb0.1] at hz
    have hq := born_at hP1 hD1 (by omega)
    subst hq
    have e1 : PG cA μ b0 ++ [(b0 + μ.1, .inl (cA (11 + 0), ln μ.1, .inl (fun _ => 0)))] = PG cA (gN μ) b0 := by
      rw [PG_new]
      unfold enG
      rw [h1, if_neg (by decide), if_pos rfl]
      have : (fun j => jI ((gN μ).2.1 μ.1 j)) = (fun _ => (0 : Int32)) := by
        funext j
        show jI ((if μ.1 = μ.1 then fun _ => (0 : Int) else μ.2.1 μ.1) j) = 0
        rw [if_pos rfl]
        rfl
      rw [this]
    rw [e1] at hP1
    exact hk L (.inr (.inr μ.1) :: r) (gN μ) H1 locs ls (cl + 1) (sl + ln μ.1) hB hL hP1 hS1 (by show n0 + (cl + 1) = μ.1 + 1; omega) (by show SL n0 + (sl + ln μ.1) = SL (μ.1 + 1); omega) T hT X
  · exact hB.elim
theorem sg_newL {κ : Kap} {own : String} {cc : ByteArray} {nL lev top : Nat} (h : AmbG κ own cc nL lev top) {pc : Nat} {kk : PTG} (d : decode cc pc = .ok (.newarray .long, 2)) (w1 : Cond.arrayClass .long ∈ AW) (hk : SndG κ (pc + 2) kk) : SndG κ pc (g_newa 12 top kk) := by
  obtain ⟨p, l, e, R, s, m, args, below, meth, c, n0, slots, Q, cA, D, b0, Hs⟩ := κ
  obtain ⟨hx, hb, hml, hown, hts, hlk, hK, hb0, hfr, hlo, hc1, hs1⟩ := h
  intro L st μ H locs ls cl sl hB hL hW hS kc kz
  unfold g_newa at hB
  split at hB
  · rename_i n r
    obtain ⟨h1, h3, h2, hB⟩ := hB
    subst h3
    have hsl : SL (μ.1 + 1) = SL μ.1 + ln μ.1 := by
      show SL μ.1 + (if kd μ.1 < 11 then nf (kd μ.1) else ln μ.1) = _
      rw [h1, if_neg (by decide)]
    have hmo := SL_mono h2
    obtain ⟨l1, l2⟩ := ln_cl μ.1
    have l4 := ln_4 μ.1
    refine va_newa (atype := .long) (ty := .long) (a0 := (ln μ.1, .inr (.inl (fun _ => 0)))) (N' := ln μ.1) (rest := r.map (tv b0)) hx hb (hts _ w1) rfl hK hW PG_D hS (fun q hq => by show b0 ≤ q; have := hb0.1; omega) (fun cA => rfl) l1 l2 (by show ln μ.1 * 8 ≤ 536870912; omega) (by have := hc1.1; omega) (by have := hc1.2; omega) d (fun q x H1 hK1 hP1 hD1 hS1 => ?_)
    have hx1 := cA_u (t := 1) hK hK1 rfl
    subst hx1
    intro T hT X
    have hz := X.heapSize
    rw [hT, hb0.1] at hz
    have hq := born_at hP1 hD1 (by omega)
    subst hq
    have e1 : PG cA μ b0 ++ [(b0 + μ.1, .inl (cA (11 + 1), ln μ.1, .inr (.inl (fun _ => 0))))] = PG cA (gN μ) b0 := by
      rw [PG_new]
      unfold enG
      rw [h1, if_neg (by decide), if_neg (by decide), if_pos rfl]
      have : (fun j => jL ((gN μ).2.2.1 μ.1 j)) = (fun _ => (0 : Int64)) := by
        funext j
        show jL ((if μ.1 = μ.1 then fun _ => (0 : Int) else μ.2.2.1 μ.1) j) = 0
        rw [if_pos rfl]
        rfl
      rw [this]
    rw [e1] at hP1
    exact hk L (.inr (.inr μ.1) :: r) (gN μ) H1 locs ls (cl + 1) (sl + ln μ.1) hB hL hP1 hS1 (by show n0 + (cl + 1) = μ.1 + 1; omega) (by show SL n0 + (sl + ln μ.1) = SL (μ.1 + 1); omega) T hT X
  · exact hB.elim
/-- an array of objects: t 2 of ports, 3 of switches -/
theorem sg_newq {κ : Kap} {own : String} {cc : ByteArray} {nL lev top : Nat} (h : AmbG κ own cc nL lev top) {pc ix t : Nat} {C : String} {kk : PTG} (ht : t = 2 ∧ C = "CellLoans$Port" ∨ t = 3 ∧ C = "CellLoans$Switch") (d : decode cc pc = .ok (.anewarray ix, 3)) (w1 : Cond.classLink own ix C ∈ AW) (hk : SndG κ (pc + 3) kk) : SndG κ pc (g_newa (11 + t) top kk) := by
  obtain ⟨p, l, e, R, s, m, args, below, meth, c, n0, slots, Q, cA, D, b0, Hs⟩ := κ
  obtain ⟨hx, hb, hml, hown, hts, hlk, hK, hb0, hfr, hlo, hc1, hs1⟩ := h
  intro L st μ H locs ls cl sl hB hL hW hS kc kz
  unfold g_newa at hB
  split at hB
  · rename_i n r
    obtain ⟨h1, h3, h2, hB⟩ := hB
    subst h3
    have hsl : SL (μ.1 + 1) = SL μ.1 + ln μ.1 := by
      show SL μ.1 + (if kd μ.1 < 11 then nf (kd μ.1) else ln μ.1) = _
      rw [h1, if_neg (by omega)]
    have hmo := SL_mono h2
    obtain ⟨l1, l2⟩ := ln_cl μ.1
    have l4 := ln_4 μ.1
    have ht0 : (tysA cA)[t]? = some (cA (11 + t), .object C) := by
      rcases ht with ⟨rfl, rfl⟩ | ⟨rfl, rfl⟩ <;> rfl
    have hAO : va_AO C s := by
      rcases ht with ⟨rfl, rfl⟩ | ⟨rfl, rfl⟩
      · exact hs1.2.2.1
      · exact hs1.2.2.2
    refine va_newq (C := C) (N' := ln μ.1) (rest := r.map (tv b0)) hx hb hown (hts _ w1) hAO hK hW PG_D hS (fun q hq => by show b0 ≤ q; have := hb0.1; omega) l1 l2 (by omega) (by have := hc1.1; omega) (by have := hc1.2; omega) d (fun q x H1 hK1 hP1 hD1 hS1 => ?_)
    have hx1 := cA_u (t := t) hK hK1 ht0
    subst hx1
    intro T hT X
    have hz := X.heapSize
    rw [hT, hb0.1] at hz
    have hq := born_at hP1 hD1 (by omega)
    subst hq
    have e1 : PG cA μ b0 ++ [(b0 + μ.1, .inl (cA (11 + t), ln μ.1, .inr (.inr (.inr (.inr (fun _ => none))))))] = PG cA (gN μ) b0 := by
      rw [PG_new]
      unfold enG
      rw [h1, if_neg (by omega), if_neg (by omega), if_neg (by omega)]
      have : (fun j => ((gN μ).2.2.2 μ.1 j).map (b0 + ·)) = (fun _ => (none : Option Nat)) := by
        funext j
        show Option.map _ ((if μ.1 = μ.1 then fun _ => none else μ.2.2.2 μ.1) j) = none
        rw [if_pos rfl]
        rfl
      rw [this]
    rw [e1] at hP1
    exact hk L (.inr (.inr μ.1) :: r) (gN μ) H1 locs ls (cl + 1) (sl + ln μ.1) hB hL hP1 hS1 (by show n0 + (cl + 1) = μ.1 + 1; omega) (by show SL n0 + (sl + ln μ.1) = SL (μ.1 + 1); omega) T hT X
  · exact hB.elim
