/-! PURE 94: reports: their bytes -/
def nmB (w : List Nat) : List Int := w.map (fun (c : Nat) => (c : Int) + 96)
def nb (v : Int) : List Int := if v < 10 then [48 + v] else if v < 100 then [48 + v / 10, 48 + v % 10] else [48 + v / 100, 48 + v / 10 % 10, 48 + v % 10]
def prB (S : AS) (r : Prm) : List Int := [32] ++ (nmB (zM S r.2.1) ++ ([58] ++ nb r.2.2.1))
def prO (S : AS) (p : Nat) (r : Prm) : List Int := if r.1 = p then prB S r else []
def lnP (S : AS) (p : Nat) : List Prm → List Int
  | [] => []
  | r :: R => prO S p r ++ lnP S p R
def lnB (S : AS) (p : Nat) : List Int := nmB (zM S p) ++ ([32] ++ (nb (usd S p) ++ ([47] ++ (nb (rom S p) ++ (lnP S p (zR S) ++ [10])))))
def rpL (S : AS) : Nat → List Int
  | 0 => []
  | k + 1 => rpL S k ++ lnB S k
def oRpt (T : TS) : (Int × Int) × TS := ((0, ((rpL (tN T) (zN (tN T))).length : Int)), (T.1, T.2.1, T.2.2.1, T.2.2.2.1, T.2.2.2.2.1, rpL (tN T) (zN (tN T))))
theorem nb_l {v : Int} : 1 ≤ (nb v).length ∧ (nb v).length ≤ 3 ∧ (v < 10 → (nb v).length = 1) := by
  unfold nb
  split
  · exact ⟨by show (1 : Nat) ≤ 1; decide, by show (1 : Nat) ≤ 3; decide, fun _ => rfl⟩
  · rename_i h
    split
    · exact ⟨by show (1 : Nat) ≤ 2; decide, by show (2 : Nat) ≤ 3; decide, fun z => absurd z h⟩
    · exact ⟨by show (1 : Nat) ≤ 3; decide, by show (3 : Nat) ≤ 3; decide, fun z => absurd z h⟩
theorem nmB_l (w : List Nat) : (nmB w).length = w.length := List.length_map ..
theorem prB_l {S : AS} (hn : NM S) {r : Prm} (h2 : r.2.1 < zN S) (hc : 1 ≤ r.2.2.1) : ((prB S r).length : Int) ≤ 11 * r.2.2.1 := by
  have h1 := (hn _ h2).2.1
  have h3 := nb_l (v := r.2.2.1)
  have e : (prB S r).length = 1 + ((zM S r.2.1).length + (1 + (nb r.2.2.1).length)) := by
    unfold prB
    rw [List.length_append, List.length_append, List.length_append, nmB_l]
    rfl
  rw [e]
  by_cases z : r.2.2.1 < 10
  · have := h3.2.2 z
    omega
  · have := h3.2.1
    omega
theorem lnP_l {S : AS} (hn : NM S) {p : Nat} : ∀ (R : List Prm), (∀ r ∈ R, r.2.1 < zN S ∧ 1 ≤ r.2.2.1) → ((lnP S p R).length : Int) ≤ 11 * sm (R.map (fun r => if r.1 = p then r.2.2.1 else 0)) := by
  intro R
  induction R with
  | nil => intro _; exact Int.le_refl _
  | cons r R ih =>
    intro h
    have h1 := ih (fun x hx => h x (List.mem_cons_of_mem _ hx))
    obtain ⟨h2, h3⟩ := h r List.mem_cons_self
    have h4 := prB_l hn h2 h3
    rw [List.map_cons]
    show ((prO S p r ++ lnP S p R).length : Int) ≤ 11 * ((if r.1 = p then r.2.2.1 else 0) + sm (R.map (fun r => if r.1 = p then r.2.2.1 else 0)))
    rw [List.length_append]
    unfold prO
    by_cases z : r.1 = p
    · rw [if_pos z, if_pos z]
      omega
    · rw [if_neg z, if_neg z]
      show ((0 + (lnP S p R).length : Nat) : Int) ≤ _
      omega
/-- room and what is used, between changes -/
theorem Gd.rom {S : AS} (h : Gd S) {p : Nat} (hp : p < zN S) : 0 ≤ usd S p ∧ usd S p ≤ rom S p ∧ rom S p ≤ 240 := by
  have h6 := h.1.n6
  have hu : ∀ q, q < zN S → 0 ≤ usd S q ∧ usd S q ≤ Jvm.Pilot.CCellLoansLaw_law_r8427_8946bb.rom S q := fun q hq => ⟨(h.1.usdR hq).1, (h.2.1 q hq).2⟩
  have hs : sg (zN S) (Jvm.Pilot.CCellLoansLaw_law_r8427_8946bb.rom S) = sg (zN S) (fun p => zP S p 0) := rom_sum (fun r hr => ⟨(h.1.pmr hr).1, (h.1.pmr hr).2.1⟩)
  have h2 : sg (zN S) (fun p => zP S p 0) ≤ sg (zN S) (fun _ => 40) := sg_le (fun q hq => (h.1.pp hq).1.2)
  rw [sg_c] at h2
  have h3 : sg (zN S) (fun i => if i = p then Jvm.Pilot.CCellLoansLaw_law_r8427_8946bb.rom S p else 0) ≤ sg (zN S) (Jvm.Pilot.CCellLoansLaw_law_r8427_8946bb.rom S) := sg_le (fun q hq => by
    have := hu q hq
    by_cases z : q = p
    · subst z
      rw [if_pos rfl]
      exact Int.le_refl _
    · rw [if_neg z]
      omega)
  rw [sg_one (p := p) hp (fun i _ hi => if_neg hi), if_pos rfl] at h3
  have := hu p hp
  refine ⟨this.1, this.2, ?_⟩
  omega
theorem lnB_l {S : AS} (h : Gd S) (hn : NM S) {p : Nat} (hp : p < zN S) : (lnB S p).length ≤ 457 := by
  have h1 := (hn p hp).2.1
  have h2 := nb_l (v := usd S p)
  have h3 := nb_l (v := Jvm.Pilot.CCellLoansLaw_law_r8427_8946bb.rom S p)
  have h4 := lnP_l hn (p := p) (zR S) (fun r hr => ⟨(h.1.pmr hr).2.1, (h.1.pmr hr).2.2.1.1⟩)
  have h5 : sm ((zR S).map (fun r => if r.1 = p then r.2.2.1 else 0)) ≤ zP S p 0 := (h.2.1 p hp).1
  have h6 := (h.1.pp hp).1
  unfold lnB
  simp only [List.length_append, nmB_l, List.length_cons, List.length_nil]
  omega
theorem rpL_l {S : AS} (h : Gd S) (hn : NM S) : ∀ k, k ≤ zN S → (rpL S k).length ≤ 457 * k := by
  intro k
  induction k with
  | zero => intro _; exact Nat.le_refl _
  | succ k ih =>
    intro hk
    have := ih (by omega)
    have := lnB_l h hn (p := k) (by omega)
    show (rpL S k ++ lnB S k).length ≤ _
    rw [List.length_append]
    omega
/-! the digits of a name -/
theorem dig_lo {b o : Int} {F : List Nat → Int} (hb : 1 < b) (hF : ∀ (v : List Nat) (c : Nat), F (v ++ [c]) = b * F v + (o + (c : Int))) : ∀ (j : Nat) (w : List Nat), (∀ c ∈ w, 0 ≤ o + (c : Int) ∧ o + (c : Int) < b) → ∀ (c : Nat), j < w.length → w[w.length - 1 - j]? = some c → F w / b ^ j % b = o + c := by
  intro j
  induction j with
  | zero =>
    intro w hw c hj hc
    rcases snoc w with rfl | ⟨v, d, rfl⟩
    · exact absurd hj (Nat.not_lt_zero _)
    · have hd := hw d (List.mem_append_right _ List.mem_cons_self)
      have : d = c := by
        rw [List.length_append] at hc
        rw [show v.length + [d].length - 1 - 0 = v.length by show v.length + 1 - 1 - 0 = _; omega, List.getElem?_concat_length] at hc
        exact Option.some.inj hc
      subst this
      rw [hF, Int.pow_zero, Int.ediv_one, Int.add_comm, Int.add_mul_emod_self_left]
      exact Int.emod_eq_of_lt hd.1 hd.2
  | succ j ih =>
    intro w hw c hj hc
    rcases snoc w with rfl | ⟨v, d, rfl⟩
    · exact absurd hj (Nat.not_lt_zero _)
    · have hd := hw d (List.mem_append_right _ List.mem_cons_self)
      rw [List.length_append] at hj hc
      have hj : j + 1 < v.length + 1 := hj
      have hc : (v ++ [d])[v.length + 1 - 1 - (j + 1)]? = some c := hc
      rw [List.getElem?_append_left (by omega), show v.length + 1 - 1 - (j + 1) = v.length - 1 - j by omega] at hc
      rw [← ih v (fun x hx => hw x (List.mem_append_left _ hx)) c (by omega) hc, hF]
      have e : (b * F v + (o + (d : Int))) / b = F v := by
        rw [Int.add_comm, Int.add_mul_ediv_left _ _ (by omega), Int.ediv_eq_zero_of_lt hd.1 hd.2, Int.zero_add]
      rw [Int.pow_succ', Int.ediv_mul_of_nonneg (by omega), e]
theorem dig_hi {b o : Int} {F : List Nat → Int} (hb : 1 < b) (h0 : F [] = 0) (hF : ∀ (v : List Nat) (c : Nat), F (v ++ [c]) = b * F v + (o + (c : Int))) : ∀ (j : Nat) (w : List Nat), (∀ c ∈ w, 0 ≤ o + (c : Int) ∧ o + (c : Int) < b) → w.length ≤ j → F w / b ^ j = 0 := by
  intro j
  induction j with
  | zero =>
    intro w hw hj
    rw [show w = [] from List.length_eq_zero_iff.mp (by omega), h0]
    exact Int.zero_ediv _
  | succ j ih =>
    intro w hw hj
    rcases snoc w with rfl | ⟨v, d, rfl⟩
    · rw [h0, Int.zero_ediv]
    · have hd := hw d (List.mem_append_right _ List.mem_cons_self)
      rw [List.length_append] at hj
      have hj : v.length + 1 ≤ j + 1 := hj
      have e : (b * F v + (o + (d : Int))) / b = F v := by
        rw [Int.add_comm, Int.add_mul_ediv_left _ _ (by omega), Int.ediv_eq_zero_of_lt hd.1 hd.2, Int.zero_add]
      rw [hF, Int.pow_succ', Int.ediv_mul_of_nonneg (by omega), e]
      exact ih v (fun x hx => hw x (List.mem_append_left _ hx)) (by omega)
/-- the digit of place j, and the letters ahead of it -/
def lt (w : List Nat) (j : Nat) : List Nat := w.take (w.length - j)
theorem lt_hi {w : List Nat} {j : Nat} (h : w.length ≤ j) : lt w (j + 1) = [] ∧ lt w j = [] := by
  unfold lt
  rw [show w.length - (j + 1) = 0 by omega, show w.length - j = 0 by omega]
  exact ⟨rfl, rfl⟩
theorem lt_lo {w : List Nat} {j : Nat} (h : j < w.length) : ∃ c, w[w.length - 1 - j]? = some c ∧ c ∈ w ∧ lt w j = lt w (j + 1) ++ [c] := by
  have hi : w.length - 1 - j < w.length := by omega
  refine ⟨w[w.length - 1 - j], List.getElem?_eq_getElem hi, List.getElem_mem hi, ?_⟩
  unfold lt
  rw [show w.length - j = (w.length - 1 - j) + 1 by omega, show w.length - (j + 1) = w.length - 1 - j by omega, List.take_add_one, List.getElem?_eq_getElem hi]
  rfl
theorem nmB_lt {w : List Nat} : lt w 0 = w := by
  unfold lt
  rw [Nat.sub_zero, List.take_length]
theorem lt_8 {w : List Nat} (h : w.length ≤ 8) : lt w 8 = [] := by
  unfold lt
  rw [show w.length - 8 = 0 by omega]
  rfl
theorem nmB_app (a b : List Nat) : nmB (a ++ b) = nmB a ++ nmB b := List.map_append ..
theorem lt_le {w : List Nat} {j : Nat} : (lt w j).length ≤ w.length := by
  unfold lt
  rw [List.length_take]
  omega
theorem p5_j : ∀ j < 8, ((2 ^ (((5 * j : Nat) : Int).toNat) : Nat) : Int) = 32 ^ j := by decide
theorem p8_j : ∀ j < 8, ((2 ^ (((8 * j : Nat) : Int).toNat) : Nat) : Int) = 256 ^ j := by decide
