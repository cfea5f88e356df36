/-! CORE: memory as two tables of whole numbers (entity, place), the fixed shape of all objects, and predicate transformers of bytecode ('PT') that the machine keeps ('Snd'). -/
abbrev AV : Type := Int ⊕ (Int ⊕ Nat)
abbrev Mi : Type := Nat → Nat → Int
abbrev MM : Type := Mi × Mi
def jI (x : Int) : Int32 := Int32.ofInt x
def jL (x : Int) : Int64 := Int64.ofInt x
/-- an abstract value at the machine; entities lie one behind another from b0 on -/
def tv (b0 : Nat) (v : AV) : Value := match v with
  | .inl x => .int (jI x)
  | .inr (.inl x) => .long (jL x)
  | .inr (.inr e) => .ref (b0 + e)
abbrev R32 (x : Int) : Prop := -2147483648 ≤ x ∧ x < 2147483648
abbrev R64 (x : Int) : Prop := -9223372036854775808 ≤ x ∧ x < 9223372036854775808
theorem jI_add (x y : Int) : jI x + jI y = jI (x + y) := (Int32.ofInt_add x y).symm
theorem jI_sub (x y : Int) : jI x - jI y = jI (x - y) := (Int32.ofInt_sub x y).symm
theorem jI_mul (x y : Int) : jI x * jI y = jI (x * y) := (Int32.ofInt_mul x y).symm
theorem jI_neg (x : Int) : - jI x = jI (-x) := (Int32.ofInt_neg x).symm
theorem jL_add (x y : Int) : jL x + jL y = jL (x + y) := (Int64.ofInt_add x y).symm
theorem jL_sub (x y : Int) : jL x - jL y = jL (x - y) := (Int64.ofInt_sub x y).symm
theorem jL_mul (x y : Int) : jL x * jL y = jL (x * y) := (Int64.ofInt_mul x y).symm
theorem jI_toInt {x : Int} (h : R32 x) : (jI x).toInt = x := Int32.toInt_ofInt_of_le h.1 h.2
theorem jL_toInt {x : Int} (h : R64 x) : (jL x).toInt = x := Int64.toInt_ofInt_of_le h.1 h.2
theorem jI_lt {x y : Int} (hx : R32 x) (hy : R32 y) : jI x < jI y ↔ x < y := by rw [Int32.lt_iff_toInt_lt, jI_toInt hx, jI_toInt hy]
theorem jI_le {x y : Int} (hx : R32 x) (hy : R32 y) : jI x ≤ jI y ↔ x ≤ y := by rw [Int32.le_iff_toInt_le, jI_toInt hx, jI_toInt hy]
theorem jI_eq {x y : Int} (hx : R32 x) (hy : R32 y) : jI x = jI y ↔ x = y := by rw [← Int32.toInt_inj, jI_toInt hx, jI_toInt hy]
theorem jL_lt {x y : Int} (hx : R64 x) (hy : R64 y) : jL x < jL y ↔ x < y := by rw [Int64.lt_iff_toInt_lt, jL_toInt hx, jL_toInt hy]
theorem jL_le {x y : Int} (hx : R64 x) (hy : R64 y) : jL x ≤ jL y ↔ x ≤ y := by rw [Int64.le_iff_toInt_le, jL_toInt hx, jL_toInt hy]
theorem jL_eq {x y : Int} (hx : R64 x) (hy : R64 y) : jL x = jL y ↔ x = y := by rw [← Int64.toInt_inj, jL_toInt hx, jL_toInt hy]
theorem jI_cl {x : Int} (h : R32 x) : (jI x).toNatClampNeg = x.toNat := Int32.toNatClampNeg_ofInt_of_le h.1 h.2
theorem jI_0 : jI 0 = 0 := rfl
theorem R32_0 : R32 0 := ⟨by decide, by decide⟩
theorem jI_wide {x : Int} (h : R32 x) : (jI x).toInt64 = jL x := Int32.toInt64_ofInt h.1 (by have := h.2; show x ≤ 2147483647; omega)
theorem jL_nar (x : Int) : (jL x).toInt32 = jI x := Int64.toInt32_ofInt
theorem jI_in {x : Int} {n : Nat} (h0 : 0 ≤ x) (h1 : x < n) (hn : n < 2147483648) : vp_in (jI x) n := by
  have hr : R32 x := ⟨by omega, by omega⟩
  rintro (h | h)
  · rw [← jI_0, jI_lt hr R32_0] at h; omega
  · rw [jI_cl hr] at h; omega
theorem jI_bool {x : Int} (h : x = 0 ∨ x = 1) : narrow .boolean (.int (jI x)) = .int (jI x) ∧ fits .boolean (.int (jI x)) = true := by
  rcases h with rfl | rfl <;> exact ⟨rfl, rfl⟩
/-- the kinds of the 356 entities, in the order in which they are made: 0 History, 1 Ledger, 2 Port, 3 Promises, 4 Report, 5 Script, 6 Switch, 7 SwitchReader, 8 Text, 9 CellLoans, 10 CellLoansModel, 11 int[], 12 long[], 13 Port[], 14 Switch[] -/
def kdSw : List Nat := [6, 13, 3, 11, 11, 11, 11, 1, 11, 11, 11, 11, 11, 2, 11, 11, 11, 2, 11, 11, 11, 2, 11, 11, 11, 2, 11, 11, 11, 2, 11, 11, 11, 2, 11, 11, 11]
def lnSw : List Nat := [0, 6, 0, 240, 240, 240, 240, 0, 20, 20, 20, 20, 4, 0, 240, 240, 240, 0, 240, 240, 240, 0, 240, 240, 240, 0, 240, 240, 240, 0, 240, 240, 240, 0, 240, 240, 240]
def kdL : List Nat := [9, 8, 11, 7, 5, 11, 11, 11, 11, 11, 11] ++ (kdSw ++ (kdSw ++ (kdSw ++ ([0, 14] ++ (kdSw ++ (kdSw ++ (kdSw ++ (kdSw ++ (kdSw ++ (kdSw ++ [4, 11, 10, 11, 12, 11, 11, 11, 11, 12]))))))))))
def lnL : List Nat := [0, 0, 600, 0, 0, 40, 40, 40, 40, 2, 2] ++ (lnSw ++ (lnSw ++ (lnSw ++ ([0, 6] ++ (lnSw ++ (lnSw ++ (lnSw ++ (lnSw ++ (lnSw ++ (lnSw ++ [0, 2742, 0, 20800, 60, 600, 4, 4, 3500, 1]))))))))))
def kd (e : Nat) : Nat := kdL.getD e 99
def ln (e : Nat) : Nat := lnL.getD e 0
abbrev isK (e ci : Nat) : Prop := e < 356 ∧ kd e = ci
/-- fields: 0 int, 1 long, 2 reference, 3 boolean -/
def fkL : List (List Nat) := [[2, 0, 0], [2, 2, 2, 2, 2, 0], [1, 0, 0, 0, 0, 0, 0, 0, 0, 0, 0, 0, 2, 2, 2], [2, 2, 2, 2, 0], [2, 0], [2, 2, 2, 2, 0, 0, 2, 2, 0], [2, 0, 0, 0, 0, 0, 2, 2], [3, 3], [2, 0, 0, 0, 0, 0, 0, 1, 0], [2, 2, 2, 2, 2, 2, 3, 2, 2], [0, 2, 2, 0, 2, 0, 0, 0, 0, 0, 0, 0, 1, 3, 3, 0, 3, 3, 0, 0, 0, 2, 2, 2, 0, 3]]
/-- how far behind its object the entity of a reference lies -/
def roL : List (List Nat) := [[1, 0, 0], [1, 2, 3, 4, 5, 0], [0, 0, 0, 0, 0, 0, 0, 0, 0, 0, 0, 0, 1, 2, 3], [1, 2, 3, 4, 0], [1, 0], [1, 2, 3, 4, 0, 0, 5, 6, 0], [1, 0, 0, 0, 0, 0, 2, 7], [0, 0], [1, 0, 0, 0, 0, 0, 0, 0, 0], [1, 3, 4, 11, 48, 85, 0, 122, 346], [0, 1, 2, 0, 3, 0, 0, 0, 0, 0, 0, 0, 0, 0, 0, 0, 0, 0, 0, 0, 0, 4, 5, 6, 0, 0]]

def nfL : List Nat := [3, 6, 15, 5, 2, 9, 8, 2, 9, 9, 26]
def fk (ci k : Nat) : Nat := (fkL.getD ci []).getD k 99
def ro (ci k : Nat) : Nat := (roL.getD ci []).getD k 0
def nf (ci : Nat) : Nat := nfL.getD ci 0
/-- the references, once all is made -/
def RS (e k : Nat) : Option Nat := if kd e = 13 then (if k < 6 then some (e + 12 + 4 * k) else none) else if kd e = 14 then (if k < 6 then some (e + 1 + 37 * k) else none) else if fk (kd e) k = 2 then some (e + ro (kd e) k) else none
def fv (I J : Mi) (b0 e k : Nat) : Value := if fk (kd e) k = 2 then va_rf ((RS e k).map (b0 + ·)) else if fk (kd e) k = 1 then .long (jL (J e k)) else .int (jI (I e k))
/-- what an entity holds -/
def en (cA : Nat → ClassId) (I J : Mi) (b0 e : Nat) : va_E :=
  if kd e < 11 then .inr (kd e, (List.range (nf (kd e))).map (fv I J b0 e))
  else .inl (cA (kd e), (ln e, if kd e = 11 then .inl (fun j => jI (I e j)) else if kd e = 12 then .inr (.inl (fun j => jL (J e j))) else .inr (.inr (.inr (.inr (fun j => (RS e j).map (b0 + ·)))))))
def PW (cA : Nat → ClassId) (I J : Mi) (b0 : Nat) : va_W := (List.range 356).map (fun e => (b0 + e, en cA I J b0 e))
def uM (I : Mi) (e k : Nat) (v : Int) : Mi := fun e' k' => if e' = e ∧ k' = k then v else I e' k'
theorem uM_s {I : Mi} {e k : Nat} {v : Int} : uM I e k v e k = v := if_pos ⟨rfl, rfl⟩
theorem uM_e {I : Mi} {e k e' k' : Nat} {v : Int} (h : e' ≠ e) : uM I e k v e' k' = I e' k' := if_neg (fun q => h q.1)
theorem uM_k {I : Mi} {e k e' k' : Nat} {v : Int} (h : k' ≠ k) : uM I e k v e' k' = I e' k' := if_neg (fun q => h q.2)
theorem uM_r {I : Mi} {e k e' : Nat} {v : Int} (h : e' ≠ e) : uM I e k v e' = I e' := funext fun _ => uM_e h
def tysA (cA : Nat → ClassId) : List (ClassId × FieldType) := [(cA 11, .int), (cA 12, .long), (cA 13, .object "CellLoans$Port"), (cA 14, .object "CellLoans$Switch")]
/-- the words of the tables that hold at every call -/
def AW : List Cond := lw_tbl.filter goodWord
theorem AW_good : GoodIn AW AW := fun w h => ⟨h, good_of_word (List.mem_filter.mp h).2⟩
theorem AW_in {w : Cond} (h : w ∈ lw_tbl) (hg : goodWord w = true) : w ∈ AW := List.mem_filter.mpr ⟨h, hg⟩
abbrev AWm (y : MethodName) (cc : ByteArray) (maxL : Nat) (ret : Option FieldType) : List Cond := Cond.code y cc maxL ret :: AW
theorem AWm_good {y : MethodName} {cc : ByteArray} {maxL : Nat} {ret : Option FieldType} (h : Cond.code y cc maxL ret ∈ lw_tbl) : GoodIn AW (AWm y cc maxL ret) := by
  have hm : Cond.code y cc maxL ret ∈ AW := AW_in h rfl
  intro w hw
  rcases List.mem_cons.mp hw with rfl | hw
  · exact AW_good _ hm
  · exact AW_good w hw
theorem PW_at {cA : Nat → ClassId} {I J : Mi} {b0 e : Nat} (h : e < 356) : (PW cA I J b0)[e]? = some (b0 + e, en cA I J b0 e) := by
  unfold PW
  rw [List.getElem?_map, List.getElem?_range h]
  rfl
theorem en_ob {cA : Nat → ClassId} {I J : Mi} {b0 e ci : Nat} (h : kd e = ci) (hc : ci < 11) : en cA I J b0 e = .inr (ci, (List.range (nf ci)).map (fv I J b0 e)) := by
  unfold en
  rw [h, if_pos hc]
theorem PW_ob {cA : Nat → ClassId} {I J : Mi} {b0 e ci : Nat} (h : isK e ci) (hc : ci < 11) : (PW cA I J b0)[e]? = some (b0 + e, .inr (ci, (List.range (nf ci)).map (fv I J b0 e))) := by
  rw [PW_at h.1, en_ob h.2 hc]
theorem fv_at {I J : Mi} {b0 e n k : Nat} (h : k < n) : ((List.range n).map (fv I J b0 e))[k]? = some (fv I J b0 e k) := by
  rw [List.getElem?_map, List.getElem?_range h]
  rfl
theorem fv_i {I J : Mi} {b0 e ci k : Nat} (h : kd e = ci) (hf : fk ci k = 0 ∨ fk ci k = 3) : fv I J b0 e k = .int (jI (I e k)) := by
  unfold fv
  rw [h, if_neg (by omega), if_neg (by omega)]
theorem fv_l {I J : Mi} {b0 e ci k : Nat} (h : kd e = ci) (hf : fk ci k = 1) : fv I J b0 e k = .long (jL (J e k)) := by
  unfold fv
  rw [h, if_neg (by omega), if_pos hf]
theorem fv_r {I J : Mi} {b0 e ci k : Nat} (h : kd e = ci) (hc : ci < 11) (hf : fk ci k = 2) : fv I J b0 e k = .ref (b0 + (e + ro ci k)) := by
  unfold fv RS
  rw [h, if_pos hf, if_neg (by omega), if_neg (by omega), if_pos hf]
  rfl
/-- other entities don't see it; the entity sees it in one place -/
theorem en_other {cA : Nat → ClassId} {I J I' J' : Mi} {b0 e : Nat} (h1 : I' e = I e) (h2 : J' e = J e) : en cA I' J' b0 e = en cA I J b0 e := by
  have hf : fv I' J' b0 e = fv I J b0 e := by
    funext k
    unfold fv
    rw [h1, h2]
  unfold en
  rw [hf, h1, h2]
theorem PW_set {cA : Nat → ClassId} {I J I' J' : Mi} {b0 e : Nat} {x : va_E} (he : e < 356) (h1 : ∀ e', e' ≠ e → I' e' = I e') (h2 : ∀ e', e' ≠ e → J' e' = J e') (hx : x = en cA I' J' b0 e) : (PW cA I J b0).set e (b0 + e, x) = PW cA I' J' b0 := by
  apply List.ext_getElem?
  intro i
  rw [List.getElem?_set]
  have hlen : (PW cA I J b0).length = 356 := by unfold PW; rw [List.length_map, List.length_range]
  by_cases hi : e = i
  · subst hi
    rw [if_pos rfl, if_pos (by rw [hlen]; exact he), PW_at he, hx]
  · rw [if_neg hi]
    by_cases hl : i < 356
    · rw [PW_at hl, PW_at hl, en_other (h1 i (fun q => hi q.symm)) (h2 i (fun q => hi q.symm))]
    · have e1 : (PW cA I J b0)[i]? = none := List.getElem?_eq_none (by rw [hlen]; omega)
      have e2 : (PW cA I' J' b0)[i]? = none := List.getElem?_eq_none (by unfold PW; rw [List.length_map, List.length_range]; omega)
      rw [e1, e2]
theorem map_set {α : Type} {f g : Nat → α} {n k : Nat} {v : α} (hk : k < n) (h1 : g k = v) (h2 : ∀ j, j ≠ k → g j = f j) : ((List.range n).map f).set k v = (List.range n).map g := by
  apply List.ext_getElem?
  intro i
  rw [List.getElem?_set, List.length_map, List.length_range, List.getElem?_map, List.getElem?_map]
  by_cases hi : k = i
  · subst hi
    rw [if_pos rfl, if_pos hk, List.getElem?_range hk, ← h1]
    rfl
  · rw [if_neg hi]
    by_cases hl : i < n
    · rw [List.getElem?_range hl]
      show some (f i) = some (g i)
      rw [h2 i (fun q => hi q.symm)]
    · rw [List.getElem?_eq_none (by rw [List.length_range]; omega)]
      rfl
theorem PW_putI {cA : Nat → ClassId} {I J : Mi} {b0 e ci k : Nat} {v : Int} (h : isK e ci) (hc : ci < 11) (hk : k < nf ci) (hf : fk ci k = 0 ∨ fk ci k = 3) : (PW cA I J b0).set e (b0 + e, .inr (ci, ((List.range (nf ci)).map (fv I J b0 e)).set k (.int (jI v)))) = PW cA (uM I e k v) J b0 := by
  refine PW_set h.1 (fun e' h' => uM_r h') (fun _ _ => rfl) ?_
  rw [en_ob h.2 hc]
  rw [map_set hk (g := fv (uM I e k v) J b0 e) ?_ ?_]
  · rw [fv_i h.2 hf, uM_s]
  · intro j hj
    unfold fv
    rw [uM_k hj]
theorem PW_putL {cA : Nat → ClassId} {I J : Mi} {b0 e ci k : Nat} {v : Int} (h : isK e ci) (hc : ci < 11) (hk : k < nf ci) (hf : fk ci k = 1) : (PW cA I J b0).set e (b0 + e, .inr (ci, ((List.range (nf ci)).map (fv I J b0 e)).set k (.long (jL v)))) = PW cA I (uM J e k v) b0 := by
  refine PW_set h.1 (fun _ _ => rfl) (fun e' h' => uM_r h') ?_
  rw [en_ob h.2 hc]
  rw [map_set hk (g := fv I (uM J e k v) b0 e) ?_ ?_]
  · rw [fv_l h.2 hf, uM_s]
  · intro j hj
    unfold fv
    rw [uM_k hj]
theorem PW_ai {cA : Nat → ClassId} {I J : Mi} {b0 e : Nat} (h : isK e 11) : (PW cA I J b0)[e]? = some (b0 + e, .inl (cA 11, ln e, .inl (fun j => jI (I e j)))) := by
  rw [PW_at h.1]
  unfold en
  rw [h.2, if_neg (by omega), if_pos rfl]
theorem PW_al {cA : Nat → ClassId} {I J : Mi} {b0 e : Nat} (h : isK e 12) : (PW cA I J b0)[e]? = some (b0 + e, .inl (cA 12, ln e, .inr (.inl (fun j => jL (J e j))))) := by
  rw [PW_at h.1]
  unfold en
  rw [h.2, if_neg (by omega), if_neg (by omega), if_pos rfl]
theorem PW_ar {cA : Nat → ClassId} {I J : Mi} {b0 e kk : Nat} (h : isK e kk) (hk : kk = 13 ∨ kk = 14) : (PW cA I J b0)[e]? = some (b0 + e, .inl (cA kk, ln e, .inr (.inr (.inr (.inr (fun j => (RS e j).map (b0 + ·))))))) := by
  rw [PW_at h.1]
  unfold en
  rcases hk with rfl | rfl <;> rw [h.2, if_neg (by omega), if_neg (by omega), if_neg (by omega)]
theorem PW_stI {cA : Nat → ClassId} {I J : Mi} {b0 e j : Nat} {v : Int} (h : isK e 11) : (PW cA I J b0).set e (b0 + e, .inl (cA 11, ln e, .inl (upd (fun j => jI (I e j)) j (jI v)))) = PW cA (uM I e j v) J b0 := by
  refine PW_set h.1 (fun e' h' => uM_r h') (fun _ _ => rfl) ?_
  unfold en
  rw [h.2, if_neg (by omega), if_pos rfl]
  congr 4
  funext i
  unfold upd
  by_cases hi : i = j
  · subst hi; rw [if_pos rfl, uM_s]
  · rw [if_neg hi, uM_k hi]
theorem PW_stL {cA : Nat → ClassId} {I J : Mi} {b0 e j : Nat} {v : Int} (h : isK e 12) : (PW cA I J b0).set e (b0 + e, .inl (cA 12, ln e, .inr (.inl (vp_updL (fun j => jL (J e j)) j (jL v))))) = PW cA I (uM J e j v) b0 := by
  refine PW_set h.1 (fun _ _ => rfl) (fun e' h' => uM_r h') ?_
  unfold en
  rw [h.2, if_neg (by omega), if_neg (by omega), if_pos rfl]
  congr 5
  funext i
  unfold vp_updL
  by_cases hi : i = j
  · subst hi; rw [if_pos rfl, uM_s]
  · rw [if_neg hi, uM_k hi]
theorem PW_D {cA : Nat → ClassId} {I J : Mi} {b0 : Nat} : va_D (fun q => b0 ≤ q) (PW cA I J b0) := by
  have key : ∀ (i : Nat) (p : Nat × va_E), (PW cA I J b0)[i]? = some p → p.1 = b0 + i := by
    intro i p hp
    unfold PW at hp
    rw [List.getElem?_map] at hp
    by_cases hl : i < 356
    · rw [List.getElem?_range hl] at hp
      cases hp
      rfl
    · rw [List.getElem?_eq_none (by rw [List.length_range]; omega)] at hp
      cases hp
  refine ⟨fun i j p q hp hq h => ?_, fun k q hq => ?_⟩
  · have h1 := key i p hp
    have h2 := key j q hq
    omega
  · have h1 := key k q hq
    show b0 ≤ q.1
    omega
/-! the world of a call: the pool from b0 on, and what lies below it as Hs has it -/
def Wo (cA : Nat → ClassId) (D : va_G) (b0 : Nat) (Hs : Heap) (μ : MM) (H : Heap) : Prop := b0 + 356 ≤ H.size ∧ va_P D vwCl (PW cA μ.1 μ.2 b0) H ∧ ∀ q, q < b0 → H[q]? = Hs[q]?
/-- the locals: known ones are held -/
def LH (b0 nL : Nat) (ls : Array Slot) (L : List (Option AV)) : Prop := ls.size = nL ∧ lv_wf ls ∧ ∀ (i : Nat) (v : AV), L[i]? = some (some v) → ls[i]? = some (.val (tv b0 v))
def clr (L : List (Option AV)) (i : Nat) : List (Option AV) := match i with
  | 0 => L
  | j + 1 => match L[j]? with
    | some (some (.inr (.inl _))) => L.set j none
    | _ => L
def stI (L : List (Option AV)) (i : Nat) (v : AV) : List (Option AV) := (clr L i).set i (some v)
def stL (L : List (Option AV)) (i : Nat) (v : AV) : List (Option AV) := ((clr L i).set (i + 1) none).set i (some v)
def lvs (b0 : Nat) (L : List (Option AV)) : List (Nat × Value) := (List.range L.length).filterMap (fun i => match L[i]? with
  | some (some v) => some (i, tv b0 v)
  | _ => none)
theorem lvs_in {b0 : Nat} {L : List (Option AV)} {i : Nat} {v : AV} (h : L[i]? = some (some v)) : (i, tv b0 v) ∈ lvs b0 L := by
  unfold lvs
  refine List.mem_filterMap.mpr ⟨i, List.mem_range.mpr (List.getElem?_eq_some_iff.mp h).1, ?_⟩
  rw [h]
theorem lvs_of {b0 : Nat} {L : List (Option AV)} {q : Nat × Value} (h : q ∈ lvs b0 L) : ∃ v, L[q.1]? = some (some v) ∧ q.2 = tv b0 v := by
  unfold lvs at h
  obtain ⟨i, -, hi⟩ := List.mem_filterMap.mp h
  split at hi
  · rename_i v hv
    cases hi
    exact ⟨v, hv, rfl⟩
  · cases hi
theorem LH_has {b0 nL : Nat} {ls : Array Slot} {L : List (Option AV)} (h : LH b0 nL ls L) : lv_has ls nL (lvs b0 L) := ⟨h.1, h.2.1, fun q hq => by
  obtain ⟨v, h1, h2⟩ := lvs_of hq
  rw [h2]
  exact h.2.2 _ _ h1⟩
theorem clr_get {L : List (Option AV)} {i j : Nat} {v : AV} (h : (clr L i)[j]? = some (some v)) : L[j]? = some (some v) ∧ ¬ (j + 1 = i ∧ ∃ x, v = .inr (.inl x)) := by
  unfold clr at h
  cases i with
  | zero => exact ⟨h, fun q => by omega⟩
  | succ i =>
    dsimp only at h
    split at h
    · rename_i x hx
      rw [List.getElem?_set] at h
      by_cases hj : i = j
      · subst hj
        rw [if_pos rfl] at h
        split at h <;> cases h
      · rw [if_neg hj] at h
        exact ⟨h, fun q => hj (by omega)⟩
    · rename_i hx
      refine ⟨h, ?_⟩
      rintro ⟨q, x, rfl⟩
      have : j = i := by omega
      subst this
      exact hx x h
theorem tv_cat {b0 : Nat} {v : AV} (h : (tv b0 v).category = 2) : ∃ x, v = .inr (.inl x) := by
  rcases v with x | x | x
  · cases h
  · exact ⟨x, rfl⟩
  · cases h
theorem LH_st {b0 nL : Nat} {ls' : Array Slot} {L : List (Option AV)} {i : Nat} {v : AV}
    (h : lv_has ls' nL ((i, tv b0 v) :: (lvs b0 L).filter (fun q => !(q.1 == i) && !(q.1 + 1 == i && q.2.category == 2)))) : LH b0 nL ls' (stI L i v) := by
  refine ⟨h.1, h.2.1, fun j w hj => ?_⟩
  unfold stI at hj
  rw [List.getElem?_set] at hj
  by_cases hi : i = j
  · subst hi
    rw [if_pos rfl] at hj
    split at hj
    · cases hj
      exact h.2.2 _ List.mem_cons_self
    · cases hj
  · rw [if_neg hi] at hj
    obtain ⟨h1, h2⟩ := clr_get hj
    refine h.2.2 (j, tv b0 w) (List.mem_cons_of_mem _ (List.mem_filter.mpr ⟨lvs_in h1, ?_⟩))
    have c1 : (j == i) = false := beq_eq_false_iff_ne.mpr (fun q => hi q.symm)
    show (!(j == i) && !(j + 1 == i && (tv b0 w).category == 2)) = true
    rw [c1]
    by_cases c2 : j + 1 = i
    · by_cases c3 : (tv b0 w).category = 2
      · exact absurd ⟨c2, tv_cat c3⟩ h2
      · simp [c3]
    · simp [c2]
theorem LH_st2 {b0 nL : Nat} {ls' : Array Slot} {L : List (Option AV)} {i : Nat} {v : AV}
    (h : lv_has ls' nL ((i, tv b0 v) :: (lvs b0 L).filter (fun q => !(q.1 == i) && (!(q.1 == i + 1) && !(q.1 + 1 == i && q.2.category == 2))))) : LH b0 nL ls' (stL L i v) := by
  refine ⟨h.1, h.2.1, fun j w hj => ?_⟩
  unfold stL at hj
  rw [List.getElem?_set] at hj
  by_cases hi : i = j
  · subst hi
    rw [if_pos rfl] at hj
    split at hj
    · cases hj
      exact h.2.2 _ List.mem_cons_self
    · cases hj
  · rw [if_neg hi, List.getElem?_set] at hj
    by_cases hi2 : i + 1 = j
    · rw [if_pos hi2] at hj
      split at hj <;> cases hj
    · rw [if_neg hi2] at hj
      obtain ⟨h1, h2⟩ := clr_get hj
      refine h.2.2 (j, tv b0 w) (List.mem_cons_of_mem _ (List.mem_filter.mpr ⟨lvs_in h1, ?_⟩))
      have c1 : (j == i) = false := beq_eq_false_iff_ne.mpr (fun q => hi q.symm)
      have c0 : (j == i + 1) = false := beq_eq_false_iff_ne.mpr (fun q => hi2 q.symm)
      show (!(j == i) && (!(j == i + 1) && !(j + 1 == i && (tv b0 w).category == 2))) = true
      rw [c1, c0]
      by_cases c2 : j + 1 = i
      · by_cases c3 : (tv b0 w).category = 2
        · exact absurd ⟨c2, tv_cat c3⟩ h2
        · simp [c3]
      · simp [c2]
/-- some locals are forgotten -/
def kil (L : List (Option AV)) (ks : List Nat) : List (Option AV) := ks.foldl (fun l k => l.set k none) L
theorem LH_kil {b0 nL : Nat} {ls : Array Slot} {L : List (Option AV)} (h : LH b0 nL ls L) (ks : List Nat) : LH b0 nL ls (kil L ks) := by
  induction ks generalizing L with
  | nil => exact h
  | cons k ks ih =>
    refine ih ⟨h.1, h.2.1, fun i v hv => ?_⟩
    rw [List.getElem?_set] at hv
    by_cases hk : k = i
    · rw [if_pos hk] at hv
      split at hv <;> cases hv
    · rw [if_neg hk] at hv
      exact h.2.2 i v hv
