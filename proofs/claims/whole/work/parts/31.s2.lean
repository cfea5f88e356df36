/-! PURE 19: what lending keeps; all promises and packets have room -/
theorem pin_sm {f : Prm → Int} (R : List Prm) (m : Prm) : sm ((pin R m).map f) = sm (R.map f) + f m := sm_ins (pos_le R m.2.2.2 R.length)
theorem pin_mem {R : List Prm} {m x : Prm} (h : x ∈ pin R m) : x = m ∨ x ∈ R := (List.mem_insertIdx (pos_le R m.2.2.2 R.length)).mp h
theorem pos_lt {R : List Prm} {d : Int} (hP : R.Pairwise (fun a b => a.2.2.2 ≤ b.2.2.2)) : ∀ (k i : Nat) (m : Prm), k ≤ R.length → R[i]? = some m → (i < pos R d k → m.2.2.2 ≤ d) ∧ (pos R d k ≤ i → i < k → d < m.2.2.2) := by
  intro k
  induction k with
  | zero =>
    intro i m _ _
    exact ⟨fun q => absurd q (Nat.not_lt_zero _), fun _ q => absurd q (Nat.not_lt_zero _)⟩
  | succ k ih =>
    intro i m hk hm
    obtain ⟨y, hy⟩ : ∃ y, R[k]? = some y := ⟨R[k], List.getElem?_eq_getElem (by omega)⟩
    have hi := ih i m (by omega) hm
    unfold pos
    rw [hy]
    dsimp only
    split
    · rename_i q
      refine ⟨hi.1, fun q1 q2 => ?_⟩
      by_cases z : i = k
      · subst z
        rw [hy] at hm
        cases hm
        exact q
      · exact hi.2 q1 (by omega)
    · rename_i q
      refine ⟨fun q1 => ?_, fun q1 q2 => absurd q2 (by omega)⟩
      by_cases z : i = k
      · subst z
        rw [hy] at hm
        cases hm
        omega
      · have h1 := (List.getElem?_eq_some_iff.mp hm)
        have h2 := (List.getElem?_eq_some_iff.mp hy)
        obtain ⟨a1, a2⟩ := h1
        obtain ⟨b1, b2⟩ := h2
        have := List.pairwise_iff_getElem.mp hP i k a1 b1 (by omega)
        rw [a2, b2] at this
        omega
theorem pin_sorted {R : List Prm} {m : Prm} (hP : R.Pairwise (fun a b => a.2.2.2 ≤ b.2.2.2)) : (pin R m).Pairwise (fun a b => a.2.2.2 ≤ b.2.2.2) := by
  have hl := pos_le R m.2.2.2 R.length
  rw [List.pairwise_iff_getElem]
  intro i j hi hj hij
  have gi : (pin R m)[i]? = some (pin R m)[i] := List.getElem?_eq_getElem hi
  have gj : (pin R m)[j]? = some (pin R m)[j] := List.getElem?_eq_getElem hj
  generalize (pin R m)[i] = x at gi
  generalize (pin R m)[j] = y at gj
  unfold pin at gi gj
  rw [List.getElem?_insertIdx] at gi gj
  have pl := fun (i : Nat) (m' : Prm) => pos_lt (d := m.2.2.2) hP R.length i m' (Nat.le_refl _)
  split at gi
  · split at gj
    · have h1 := (List.getElem?_eq_some_iff.mp gi)
      have h2 := (List.getElem?_eq_some_iff.mp gj)
      obtain ⟨a1, a2⟩ := h1
      obtain ⟨b1, b2⟩ := h2
      have := List.pairwise_iff_getElem.mp hP i j a1 b1 hij
      rw [a2, b2] at this
      exact this
    · split at gj
      · rw [if_pos (by omega)] at gj
        cases gj
        exact (pl i x gi).1 (by assumption)
      · have h1 := (List.getElem?_eq_some_iff.mp gi)
        have h2 := (List.getElem?_eq_some_iff.mp gj)
        obtain ⟨a1, a2⟩ := h1
        obtain ⟨b1, b2⟩ := h2
        have := List.pairwise_iff_getElem.mp hP i (j - 1) a1 b1 (by omega)
        rw [a2, b2] at this
        exact this
  · split at gi
    · rw [if_pos (by omega)] at gi
      cases gi
      split at gj
      · omega
      · split at gj
        · omega
        · have hj' := (List.getElem?_eq_some_iff.mp gj).1
          have := (pl (j - 1) y gj).2 (by omega) hj'
          omega
    · split at gj
      · omega
      · split at gj
        · omega
        · have h1 := (List.getElem?_eq_some_iff.mp gi)
          have h2 := (List.getElem?_eq_some_iff.mp gj)
          obtain ⟨a1, a2⟩ := h1
          obtain ⟨b1, b2⟩ := h2
          have := List.pairwise_iff_getElem.mp hP (i - 1) (j - 1) a1 b1 (by omega)
          rw [a2, b2] at this
          exact this
/-! sums over ports of sums over promises -/
theorem sg_sub {n : Nat} {f g : Nat → Int} : sg n (fun i => f i - g i) = sg n f - sg n g := by
  induction n with
  | zero => rfl
  | succ n ih => simp only [sg, ih]; omega
theorem sg_sm {n : Nat} {key : Prm → Nat} : ∀ (R : List Prm), (∀ r ∈ R, key r < n) → sg n (fun p => sm (R.map (fun r => if key r = p then r.2.2.1 else 0))) = sm (R.map (fun r => r.2.2.1)) := by
  intro R
  induction R with
  | nil => intro _; exact sg_0
  | cons r R ih =>
    intro h
    simp only [List.map_cons, sm]
    rw [sg_add, ih (fun x hx => h x (List.mem_cons_of_mem _ hx)), sg_one (p := key r) (h r List.mem_cons_self) (fun i _ hi => if_neg (fun z => hi z.symm)), if_pos rfl]
theorem rom_sum {S : AS} (h : ∀ r ∈ zR S, r.1 < zN S ∧ r.2.1 < zN S) : sg (zN S) (rom S) = sg (zN S) (fun p => zP S p 0) := by
  have e : sg (zN S) (rom S) = sg (zN S) (fun p => zP S p 0) - sg (zN S) (lnt S) + sg (zN S) (brw S) := by
    rw [← sg_sub, ← sg_add]
    rfl
  have e1 : sg (zN S) (lnt S) = sm ((zR S).map (fun r => r.2.2.1)) := sg_sm (key := fun r => r.1) (zR S) (fun r hr => (h r hr).1)
  have e2 : sg (zN S) (brw S) = sm ((zR S).map (fun r => r.2.2.1)) := sg_sm (key := fun r => r.2.1) (zR S) (fun r hr => (h r hr).2)
  rw [e, e1, e2]
  omega
/-- the room bounds the packets -/
theorem capQ {S : AS} (h6 : zN S ≤ 6) (hs : ∀ p, p < zN S → 0 ≤ zP S p 0 ∧ zP S p 0 ≤ 40) (hm : ∀ r ∈ zR S, r.1 < zN S ∧ r.2.1 < zN S) (hq : ∀ p, p < zN S → ∀ q ∈ zQ S p, 1 ≤ q.1) (hu : ∀ p, p < zN S → usd S p ≤ rom S p) : wtn S ≤ 240 := by
  have h1 : wtn S ≤ sg (zN S) (rom S) := sg_le (fun p hp => by
    have h2 := hu p hp
    have h3 : 1 * (((zQ S p).map (fun q => q.1)).length : Int) ≤ usd S p := sm_ge (fun x hx => by
      obtain ⟨q, hq', rfl⟩ := List.mem_map.mp hx
      exact hq p hp q hq')
    rw [List.length_map] at h3
    omega)
  have h2 : sg (zN S) (fun p => zP S p 0) ≤ sg (zN S) (fun _ => 40) := sg_le (fun p hp => (hs p hp).2)
  rw [rom_sum hm] at h1
  rw [sg_c] at h2
  omega
/-- the shares bound the promises -/
theorem capR {S : AS} (h6 : zN S ≤ 6) (hs : ∀ p, p < zN S → 0 ≤ zP S p 0 ∧ zP S p 0 ≤ 40) (hm : ∀ r ∈ zR S, r.1 < zN S ∧ 1 ≤ r.2.2.1) (hl : ∀ p, p < zN S → lnt S p ≤ zP S p 0) : (zR S).length ≤ 240 := by
  have e1 : sg (zN S) (lnt S) = sm ((zR S).map (fun r => r.2.2.1)) := sg_sm (key := fun r => r.1) (zR S) (fun r hr => (hm r hr).1)
  have h1 : sg (zN S) (lnt S) ≤ sg (zN S) (fun _ => 40) := sg_le (fun p hp => by
    have := hl p hp
    have := hs p hp
    omega)
  have h3 : 1 * (((zR S).map (fun r => r.2.2.1)).length : Int) ≤ sm ((zR S).map (fun r => r.2.2.1)) := sm_ge (fun x hx => by
    obtain ⟨r, hr, rfl⟩ := List.mem_map.mp hx
    exact (hm r hr).2)
  rw [sg_c] at h1
  rw [List.length_map] at h3
  omega
/-! one more promise -/
def lnd (S : AS) (l p : Nat) (c : Int) : AS := stR S (pin (zR S) (l, p, c, zC S + zT S))
theorem lnd_lnt {S : AS} {l p : Nat} {c : Int} (q : Nat) : lnt (lnd S l p c) q = lnt S q + (if l = q then c else 0) := pin_sm (f := fun r => if r.1 = q then r.2.2.1 else 0) (zR S) _
theorem lnd_brw {S : AS} {l p : Nat} {c : Int} (q : Nat) : brw (lnd S l p c) q = brw S q + (if p = q then c else 0) := pin_sm (f := fun r => if r.2.1 = q then r.2.2.1 else 0) (zR S) _
theorem lnd_rom {S : AS} {l p : Nat} {c : Int} (q : Nat) : rom (lnd S l p c) q = rom S q - (if l = q then c else 0) + (if p = q then c else 0) := by
  show zP S q 0 - lnt (lnd S l p c) q + brw (lnd S l p c) q = zP S q 0 - lnt S q + brw S q - _ + _
  rw [lnd_lnt, lnd_brw]
  omega
theorem lnd_spr {S : AS} {l p : Nat} {c : Int} (q : Nat) : spr (lnd S l p c) q = spr S q - (if l = q then c else 0) := by
  show zP S q 0 - lnt (lnd S l p c) q - usd S q - kpt S q = zP S q 0 - lnt S q - usd S q - kpt S q - _
  rw [lnd_lnt]
  omega
theorem lnd_cln {S : AS} {l p : Nat} {c : Int} (hc : c ≤ cln S l) (h1 : 1 ≤ c) (q : Nat) : cln (lnd S l p c) q = cln S q - (if l = q then c else 0) := by
  have e := lnd_spr (S := S) (l := l) (p := p) (c := c) q
  unfold cln at hc ⊢
  rw [e]
  by_cases z : l = q
  · subst z
    rw [if_pos rfl]
    split at hc
    · omega
    · rw [if_neg (by omega), if_neg (by omega)]
  · rw [if_neg z]
    split
    · rw [if_pos (by omega)]; omega
    · rw [if_neg (by omega)]
theorem lnd_oth {S : AS} {l p : Nat} {c : Int} (hc : c ≤ cln S l) (h1 : 1 ≤ c) (hl : l < zN S) (hlp : l ≠ p) : oth (lnd S l p c) p = oth S p - c := by
  have e : oth (lnd S l p c) p = sg (zN S) (fun i => (if i = p then 0 else cln S i) - (if i = l then c else 0)) := sg_congr (fun i _ => by
    rw [lnd_cln hc h1]
    by_cases z : i = p
    · subst z
      rw [if_pos rfl, if_pos rfl, if_neg (fun q => hlp q.symm)]
      rfl
    · rw [if_neg z, if_neg z]
      by_cases y : l = i
      · subst y; rw [if_pos rfl]
      · rw [if_neg y, if_neg (fun q => y q.symm)])
  rw [e, sg_sub, sg_one (p := l) hl (fun i _ hi => if_neg hi), if_pos rfl]
  rfl
theorem lnd_Gd {S : AS} {l p : Nat} {c : Int} (h : Gd S) (hl : l < zN S) (hp : p < zN S) (hlp : l ≠ p) (hc : c ≤ cln S l) (h1 : 1 ≤ c) : Gd (lnd S l p c) := by
  obtain ⟨hR, hU, hC, hP⟩ := h
  have hr := hR.spR hl
  have hspr : c ≤ spr S l := by
    have hcl := hc
    unfold cln at hcl
    split at hcl <;> omega
  have hcl := hR.2.2.2.1
  have htm := hR.2.1
  have hkl := (hR.kp hl).2.1
  have hbl := (hR.brwR l).1
  have hul := (hR.usdR hl).1
  have U' : ∀ q, q < zN S → lnt (lnd S l p c) q ≤ zP S q 0 ∧ usd S q ≤ rom (lnd S l p c) q := by
    intro q hq
    have h2 := hU q hq
    have e1 := lnd_lnt (S := S) (l := l) (p := p) (c := c) q
    have e2 := lnd_rom (S := S) (l := l) (p := p) (c := c) q
    rw [e1, e2]
    by_cases z : l = q
    · subst z
      have e3 : spr S l = zP S l 0 - lnt S l - usd S l - kpt S l := rfl
      have e4 : rom S l = zP S l 0 - lnt S l + brw S l := rfl
      rw [if_pos rfl, if_neg (fun y => hlp y.symm)]
      omega
    · rw [if_neg z]
      split <;> omega
  have M' : ∀ r ∈ pin (zR S) (l, p, c, zC S + zT S), r.1 < zN S ∧ r.2.1 < zN S ∧ (1 ≤ r.2.2.1 ∧ r.2.2.1 ≤ 40) ∧ (0 ≤ r.2.2.2 ∧ r.2.2.2 ≤ 3000000) := by
    intro r hr'
    rcases pin_mem hr' with rfl | hr'
    · exact ⟨hl, hp, (by show 1 ≤ c ∧ c ≤ 40; omega), (by show 0 ≤ zC S + zT S; omega), (by show zC S + zT S ≤ 3000000; omega)⟩
    · exact hR.pmr hr'
  have hL : (pin (zR S) (l, p, c, zC S + zT S)).length ≤ 240 := capR (S := lnd S l p c) hR.n6 (fun q hq => (hR.pp hq).1) (fun r hr' => ⟨(M' r hr').1, (M' r hr').2.2.1.1⟩) (fun q hq => (U' q hq).1)
  refine ⟨Rg_R hR hL M', U', fun r hr' => ?_, pin_sorted hP⟩
  rcases pin_mem hr' with rfl | hr'
  · exact ⟨(by show zC S < zC S + zT S; omega), hlp⟩
  · exact hC r hr'
/-! the best lender -/
theorem bst_spec (S : AS) (p : Nat) : ∀ k : Nat, match bst S p k with
  | none => ∀ i, i < k → i = p
  | some b => b < k ∧ b ≠ p ∧ ∀ i, i < k → i ≠ p → cln S i ≤ cln S b := by
  intro k
  induction k with
  | zero => intro i hi; exact absurd hi (Nat.not_lt_zero _)
  | succ k ih =>
    unfold bst
    split at ih
    · rename_i e
      rw [e]
      dsimp only
      by_cases z : k = p
      · rw [if_pos z]
        intro i hi
        by_cases y : i = k
        · omega
        · exact ih i (by omega)
      · rw [if_neg z]
        refine ⟨by omega, z, fun i hi hip => ?_⟩
        by_cases y : i = k
        · subst y; exact Int.le_refl _
        · exact absurd (ih i (by omega)) hip
    · rename_i b e
      rw [e]
      dsimp only
      obtain ⟨h1, h2, h3⟩ := ih
      by_cases z : k ≠ p ∧ cln S b < cln S k
      · rw [if_pos z]
        refine ⟨by omega, z.1, fun i hi hip => ?_⟩
        by_cases y : i = k
        · subst y; exact Int.le_refl _
        · have := h3 i (by omega) hip
          omega
      · rw [if_neg z]
        refine ⟨by omega, h2, fun i hi hip => ?_⟩
        by_cases y : i = k
        · subst y
          exact Int.not_lt.mp (fun q => z ⟨hip, q⟩)
        · exact h3 i (by omega) hip
def zcn (S : AS) (p : Nat) : Int := sg (zN S) (fun i => if i ≠ p ∧ 0 < cln S i then 1 else 0)
theorem zcn_0 {S : AS} {p : Nat} (h : zcn S p ≤ 0) : oth S p ≤ 0 := by
  have h1 : ∀ i, i < zN S → (if i ≠ p ∧ 0 < cln S i then (1 : Int) else 0) = 0 := fun i hi => by
    have this : (if i ≠ p ∧ 0 < cln S i then (1 : Int) else 0) ≤ zcn S p := sg_ge (n := zN S) (p := i) (f := fun i => if i ≠ p ∧ 0 < cln S i then (1 : Int) else 0) hi (fun j _ => by split <;> omega)
    split at this
    · omega
    · rw [if_neg (by assumption)]
  have h2 : oth S p ≤ sg (zN S) (fun _ => 0) := sg_le (fun i hi => by
    have := h1 i hi
    split
    · exact Int.le_refl _
    · split at this
      · omega
      · rename_i z y
        exact Int.not_lt.mp (fun q => y ⟨z, q⟩))
  rw [sg_0] at h2
  exact h2
theorem oth_best {S : AS} {p : Nat} (h : 0 < oth S p) : ∃ b, bst S p (zN S) = some b ∧ b < zN S ∧ b ≠ p ∧ 1 ≤ cln S b := by
  have hs := bst_spec S p (zN S)
  split at hs
  · have h2 : oth S p ≤ sg (zN S) (fun _ => 0) := sg_le (fun i hi => by rw [if_pos (hs i hi)]; exact Int.le_refl _)
    rw [sg_0] at h2
    omega
  · rename_i b e
    refine ⟨b, e, hs.1, hs.2.1, ?_⟩
    by_cases z : 1 ≤ cln S b
    · exact z
    · have h2 : oth S p ≤ sg (zN S) (fun _ => 0) := sg_le (fun i hi => by
        split
        · exact Int.le_refl _
        · have := hs.2.2 i hi (by assumption)
          omega)
      rw [sg_0] at h2
      omega
theorem zcn_lnd {S : AS} {p b : Nat} {c : Int} (hb : b < zN S) (hbp : b ≠ p) (h1 : 1 ≤ c) (hc : c = cln S b) : zcn (lnd S b p c) p = zcn S p - 1 := by
  have e : zcn (lnd S b p c) p = sg (zN S) (fun i => (if i ≠ p ∧ 0 < cln S i then 1 else 0) - (if i = b then 1 else 0)) := sg_congr (fun i _ => by
    rw [lnd_cln (by omega) h1]
    by_cases y : b = i
    · subst y
      rw [if_pos rfl, if_neg (fun z => by omega), if_pos ⟨hbp, by omega⟩, if_pos rfl]
      rfl
    · rw [if_neg y, if_neg (fun q : i = b => y q.symm), Int.sub_zero, Int.sub_zero])
  rw [e, sg_sub, sg_one (p := b) hb (fun i _ hi => if_neg hi), if_pos rfl]
  rfl
