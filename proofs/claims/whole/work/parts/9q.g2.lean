/-! GROWTH 2: what touches a memory that grows -/
theorem SL_mono {a b : Nat} (h : a ≤ b) : SL a ≤ SL b := by
  induction b with
  | zero => rw [Nat.le_zero.mp h]; exact Nat.le_refl _
  | succ b ih =>
    by_cases z : a = b + 1
    · rw [z]; exact Nat.le_refl _
    · exact Nat.le_trans (ih (by omega)) (Nat.le_add_right _ _)
def gI (G : GS) (a k : Nat) (v : Int) : GS := (G.1, uM G.2.1 a k v, G.2.2.1, G.2.2.2)
def gL (G : GS) (a k : Nat) (v : Int) : GS := (G.1, G.2.1, uM G.2.2.1 a k v, G.2.2.2)
def gX (G : GS) (a k v : Nat) : GS := (G.1, G.2.1, G.2.2.1, fun e j => if e = a ∧ j = k then some v else G.2.2.2 e j)
/-- one entity more, as it is born -/
def gN (G : GS) : GS := (G.1 + 1, fun e => if e = G.1 then fun _ => 0 else G.2.1 e, fun e => if e = G.1 then fun _ => 0 else G.2.2.1 e, fun e => if e = G.1 then fun _ => none else G.2.2.2 e)
abbrev isG (a ci : Nat) (G : GS) : Prop := a < G.1 ∧ kd a = ci
theorem PG_len {cA : Nat → ClassId} {G : GS} {b0 : Nat} : (PG cA G b0).length = G.1 := by unfold PG; rw [List.length_map, List.length_range]
theorem PG_at {cA : Nat → ClassId} {G : GS} {b0 e : Nat} (h : e < G.1) : (PG cA G b0)[e]? = some (b0 + e, enG cA G b0 e) := by
  unfold PG
  rw [List.getElem?_map, List.getElem?_range h]
  rfl
theorem PG_D {cA : Nat → ClassId} {G : GS} {b0 : Nat} : va_D (fun q => b0 ≤ q) (PG cA G b0) := by
  have key : ∀ (i : Nat) (p : Nat × va_E), (PG cA G b0)[i]? = some p → p.1 = b0 + i := by
    intro i p hp
    by_cases hl : i < G.1
    · rw [PG_at hl] at hp
      cases hp
      rfl
    · rw [List.getElem?_eq_none (by rw [PG_len]; omega)] at hp
      cases hp
  refine ⟨fun i j p q hp hq h => ?_, fun k q hq => ?_⟩
  · have h1 := key i p hp
    have h2 := key j q hq
    omega
  · have h1 := key k q hq
    show b0 ≤ q.1
    omega
theorem enG_ob {cA : Nat → ClassId} {G : GS} {b0 e ci : Nat} (h : kd e = ci) (hc : ci < 11) : enG cA G b0 e = .inr (ci, (List.range (nf ci)).map (fvG G b0 e)) := by
  unfold enG
  rw [h, if_pos hc]
theorem PG_ob {cA : Nat → ClassId} {G : GS} {b0 e ci : Nat} (h : isG e ci G) (hc : ci < 11) : (PG cA G b0)[e]? = some (b0 + e, .inr (ci, (List.range (nf ci)).map (fvG G b0 e))) := by
  rw [PG_at h.1, enG_ob h.2 hc]
theorem PG_ai {cA : Nat → ClassId} {G : GS} {b0 e : Nat} (h : isG e 11 G) : (PG cA G b0)[e]? = some (b0 + e, .inl (cA 11, ln e, .inl (fun j => jI (G.2.1 e j)))) := by
  rw [PG_at h.1]
  unfold enG
  rw [h.2, if_neg (by omega), if_pos rfl]
theorem PG_al {cA : Nat → ClassId} {G : GS} {b0 e : Nat} (h : isG e 12 G) : (PG cA G b0)[e]? = some (b0 + e, .inl (cA 12, ln e, .inr (.inl (fun j => jL (G.2.2.1 e j))))) := by
  rw [PG_at h.1]
  unfold enG
  rw [h.2, if_neg (by omega), if_neg (by omega), if_pos rfl]
theorem PG_ar {cA : Nat → ClassId} {G : GS} {b0 e kk : Nat} (h : isG e kk G) (hk : kk = 13 ∨ kk = 14) : (PG cA G b0)[e]? = some (b0 + e, .inl (cA kk, ln e, .inr (.inr (.inr (.inr (fun j => (G.2.2.2 e j).map (b0 + ·))))))) := by
  rw [PG_at h.1]
  unfold enG
  rcases hk with rfl | rfl <;> rw [h.2, if_neg (by omega), if_neg (by omega), if_neg (by omega)]
theorem enG_other {cA : Nat → ClassId} {G G' : GS} {b0 e : Nat} (h1 : G'.2.1 e = G.2.1 e) (h2 : G'.2.2.1 e = G.2.2.1 e) (h3 : G'.2.2.2 e = G.2.2.2 e) : enG cA G' b0 e = enG cA G b0 e := by
  have hf : fvG G' b0 e = fvG G b0 e := by
    funext k
    unfold fvG
    rw [h1, h2, h3]
  unfold enG
  rw [hf, h1, h2, h3]
theorem PG_set {cA : Nat → ClassId} {G G' : GS} {b0 e : Nat} {x : va_E} (hn : G'.1 = G.1) (he : e < G.1) (h1 : ∀ e', e' ≠ e → G'.2.1 e' = G.2.1 e' ∧ G'.2.2.1 e' = G.2.2.1 e' ∧ G'.2.2.2 e' = G.2.2.2 e') (hx : x = enG cA G' b0 e) : (PG cA G b0).set e (b0 + e, x) = PG cA G' b0 := by
  apply List.ext_getElem?
  intro i
  rw [List.getElem?_set]
  by_cases hi : e = i
  · subst hi
    rw [if_pos rfl, if_pos (by rw [PG_len]; exact he), PG_at (by rw [hn]; exact he), hx]
  · rw [if_neg hi]
    by_cases hl : i < G.1
    · obtain ⟨a, b, c⟩ := h1 i (fun q => hi q.symm)
      rw [PG_at hl, PG_at (by rw [hn]; exact hl), enG_other a b c]
    · rw [List.getElem?_eq_none (by rw [PG_len]; omega), List.getElem?_eq_none (by rw [PG_len, hn]; omega)]
theorem PG_new {cA : Nat → ClassId} {G : GS} {b0 : Nat} : PG cA (gN G) b0 = PG cA G b0 ++ [(b0 + G.1, enG cA (gN G) b0 G.1)] := by
  show (List.range (G.1 + 1)).map _ = _
  rw [List.range_succ, List.map_append]
  congr 1
  unfold PG
  refine List.map_congr_left (fun e he => ?_)
  have he := List.mem_range.mp he
  rw [enG_other (G := G) (G' := gN G) (if_neg (by omega)) (if_neg (by omega)) (if_neg (by omega))]
theorem fvG_i {G : GS} {b0 e ci k : Nat} (h : kd e = ci) (hf : fk ci k = 0 ∨ fk ci k = 3) : fvG G b0 e k = .int (jI (G.2.1 e k)) := by
  unfold fvG
  rw [h, if_neg (by omega), if_neg (by omega)]
theorem fvG_l {G : GS} {b0 e ci k : Nat} (h : kd e = ci) (hf : fk ci k = 1) : fvG G b0 e k = .long (jL (G.2.2.1 e k)) := by
  unfold fvG
  rw [h, if_neg (by omega), if_pos hf]
theorem fvG_r {G : GS} {b0 e ci k v : Nat} (h : kd e = ci) (hf : fk ci k = 2) (hv : G.2.2.2 e k = some v) : fvG G b0 e k = .ref (b0 + v) := by
  unfold fvG
  rw [h, if_pos hf, hv]
  rfl
theorem fvG_b {G : GS} {b0 ci k : Nat} (h : kd G.1 = ci) : fvG (gN G) b0 G.1 k = if fk ci k = 2 then .null else if fk ci k = 1 then .long 0 else .int 0 := by
  unfold fvG
  rw [h]
  split
  · show va_rf (((gN G).2.2.2 G.1 k).map _) = _
    rw [show (gN G).2.2.2 G.1 k = none from by show (if G.1 = G.1 then fun _ => none else G.2.2.2 G.1) k = none; rw [if_pos rfl]]
    rfl
  · split
    · rw [show (gN G).2.2.1 G.1 k = 0 from by show (if G.1 = G.1 then fun _ => (0 : Int) else G.2.2.1 G.1) k = 0; rw [if_pos rfl]]
      rfl
    · rw [show (gN G).2.1 G.1 k = 0 from by show (if G.1 = G.1 then fun _ => (0 : Int) else G.2.1 G.1) k = 0; rw [if_pos rfl]]
      rfl
/-- the address of what was born last -/
theorem born_at {cA : Nat → ClassId} {D : va_G} {b0 q : Nat} {G : GS} {x : va_E} {H1 : Heap} (hP : va_P D vwCl (PG cA G b0 ++ [(q, x)]) H1) (hD : va_D (fun q => b0 ≤ q) (PG cA G b0 ++ [(q, x)])) (hs : H1.size ≤ b0 + G.1 + 1) : q = b0 + G.1 := by
  have hl : (PG cA G b0 ++ [(q, x)])[G.1]? = some (q, x) := by
    rw [List.getElem?_append_right (by rw [PG_len]; exact Nat.le_refl _), PG_len, Nat.sub_self]
    rfl
  have h1 : q < H1.size := (hP _ _ hl).lt
  have h2 : b0 ≤ q := hD.2 _ _ hl
  by_cases z : q = b0 + G.1
  · exact z
  · exfalso
    have hlt : q - b0 < G.1 := by omega
    have hi : (PG cA G b0 ++ [(q, x)])[q - b0]? = some (b0 + (q - b0), enG cA G b0 (q - b0)) := by
      rw [List.getElem?_append_left (by rw [PG_len]; exact hlt), PG_at hlt]
    have := hD.1 _ _ _ _ hi hl (by show b0 + (q - b0) = q; omega)
    omega
theorem size_low {cA : Nat → ClassId} {D : va_G} {b0 : Nat} {G : GS} {H : Heap} (hP : va_P D vwCl (PG cA G b0) H) (hn : 0 < G.1) : b0 + G.1 ≤ H.size := by
  have := (hP _ _ (PG_at (show G.1 - 1 < G.1 by omega))).lt
  have : b0 + (G.1 - 1) < H.size := this
  omega
theorem fvG_at {G : GS} {b0 e n k : Nat} (h : k < n) : ((List.range n).map (fvG G b0 e))[k]? = some (fvG G b0 e k) := by
  rw [List.getElem?_map, List.getElem?_range h]
  rfl
