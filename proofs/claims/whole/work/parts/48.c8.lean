/-! PURE 36: cells are collected and borrowed, a packet is appended (class) -/
theorem mch_i (m : Prm) (l : Nat) (bo : Option Nat) : mch m l bo = true ↔ (m.1 : Int) = (l : Int) ∧ (bI bo = -1 ∨ (m.2.1 : Int) = bI bo) := by
  cases bo with
  | none =>
    rw [mch_n]
    show _ ↔ _ ∧ ((-1 : Int) = -1 ∨ _)
    constructor
    · intro q; exact ⟨by omega, Or.inl rfl⟩
    · intro q; omega
  | some b =>
    rw [mch_s]
    show _ ↔ _ ∧ ((b : Int) = -1 ∨ (m.2.1 : Int) = (b : Int))
    constructor
    · intro q; exact ⟨by omega, Or.inr (by omega)⟩
    · rintro ⟨q1, q2 | q2⟩
      · omega
      · omega
theorem collect_lp {K : Option AV → MM → Prop} {e l : Nat} {bo : Option Nat} (hl6 : l < 6) (hbo : R32 (bI bo)) : ∀ (k : Nat) (μ : MM) (S : AS) (i : Nat) (left : Int), HC e μ S → Gd S → i + k = (zR S).length → (0 ≤ left ∧ left ≤ 10000) → (∀ μ', HC e μ' (col k S l bo i left) → FC e μ μ' → K none μ') → B_X6_collect_15 K [some (.inr (.inr e)), some (.inl (l : Int)), some (.inl (bI bo)), none, some (.inl left), some (.inl (i : Int)), some (.inl (k : Int)), none] [] μ := by
  intro k
  induction k with
  | zero =>
    intro μ S i left h hg hi hl hK
    exact lfp_in ⟨⟨by omega, by omega⟩, fun _ => hK μ h FC.refl, fun z => absurd (by decide) z⟩
  | succ k ih =>
    intro μ S i left h hg hi hl hK
    have hs := h.1
    have hn := h.2.1.pmn
    obtain ⟨m, hm⟩ : ∃ m, (zR S)[i]? = some m := ⟨(zR S)[i]'(by omega), List.getElem?_eq_getElem (by omega)⟩
    have hmr := h.2.1.pmr (List.mem_of_getElem? hm)
    have h6 := h.2.1.n6
    have a2 := sw_pma hs (j := 2) (by decide)
    have v2 : μ.1 (e + 3 + 2) i = m.2.2.1 := h.pm hm (by decide)
    refine lfp_in ⟨⟨by omega, by omega⟩, fun z => absurd z (by omega), fun _ => ⟨⟨by omega, by omega⟩, fun q => ?_, fun q => ⟨sw_s hs, sw_pm hs, cs8 rfl, P_X3_isBetween h hm ⟨by omega, by omega⟩ hbo (fun q1 q2 => ⟨⟨by omega, by omega⟩, fun z => absurd z (by decide), fun _ => ⟨sw_s hs, sw_pm hs, a2.1, by omega, ?_, ?_⟩⟩) (fun q1 => ⟨⟨by omega, by omega⟩, fun _ => ?_, fun z => absurd rfl z⟩)⟩⟩⟩
    · rw [col_0 q] at hK
      exact hK μ h FC.refl
    · show (i : Int) < ((ln (e + 3 + 2) : Nat) : Int); rw [a2.2]; omega
    · show o_mmin _ _ [.inl (μ.1 (e + 3 + 2) i), .inl left] μ
      rw [v2]
      have hb : mch m l bo = true := (mch_i m l bo).mpr ⟨q1, q2⟩
      rw [col_s (by omega) hm hb] at hK
      obtain ⟨c1, c2, c3, c4⟩ := by_r (x := m.2.2.1) (left := left) (by omega) (by omega)
      have hmin : min left m.2.2.1 = (if m.2.2.1 < left then m.2.2.1 else left) := by split <;> omega
      refine ⟨⟨by omega, by omega⟩, ⟨by omega, by omega⟩, cs8 rfl, ?_⟩
      rw [hmin]
      generalize (if m.2.2.1 < left then m.2.2.1 else left) = c at c1 c2 c3 c4 hK ⊢
      obtain ⟨g1, g2, g3⟩ := tkb_Gd (r := 2) hg hm ⟨c1, c2⟩ (by omega)
      have hlen := les_len (c := c) hm
      have s7 := g2.2.2.2.2.2.2.1
      refine ⟨sw_s hs, cs8 rfl, P_X6_takeBack i 2 h rfl rfl hm ⟨c1, c2⟩ (by omega) g3 (fun μ1 H1 F1 => ?_)⟩
      by_cases q0 : m.2.2.1 - c = 0
      · rw [if_pos q0] at hK hlen
        have key := ih μ1 (tkb S i c 2) i (left - c) H1 g1 (by rw [s7, hlen]; omega) (by omega) (fun μ' H' F' => hK μ' H' (F1.trans F'))
        rw [show (k : Int) = ((k + 1 : Nat) : Int) + -1 by omega] at key
        exact key
      · have hcl : left - c = 0 := by omega
        rw [col_0 (by omega)] at hK
        have key : B_X6_collect_15 K [some (.inr (.inr e)), some (.inl (l : Int)), some (.inl (bI bo)), none, some (.inl (left - c)), some (.inl (i : Int)), some (.inl (((k + 1 : Nat) : Int) + -1)), none] [] μ1 := lfp_in ⟨⟨by omega, by omega⟩, fun _ => hK μ1 H1 F1, fun _ => ⟨⟨by omega, by omega⟩, fun _ => hK μ1 H1 F1, fun z => absurd (by omega) z⟩⟩
        exact key
    · rw [col_n (by omega) hm (fun z => q1 ((mch_i m l bo).mp z))] at hK
      have key := ih μ S (i + 1) left h hg (by omega) hl hK
      rw [show (k : Int) = ((k + 1 : Nat) : Int) + -1 by omega] at key
      exact key
theorem P_X6_collect {μ : MM} {K : Option AV → MM → Prop} {e l : Nat} {bo : Option Nat} {S : AS} {x y c : Int} (h : HC e μ S) (hg : Gd S) (hx : x = l) (hy : y = bI bo) (hl6 : l < 6) (hbo : R32 (bI bo)) (hc : 0 ≤ c ∧ c ≤ 10000) (hK : ∀ μ', HC e μ' (col (zR S).length S l bo 0 c) → FC e μ μ' → K none μ') : w_X6_collect [.inr (.inr e), .inl x, .inl y, .inl c] μ K := by
  subst hx
  subst hy
  refine ⟨cs8 rfl, sw_s h.1, sw_pm h.1, ?_⟩
  show o_istore 6 _ _ [.inl (μ.1 (e + 2) 4)] μ
  rw [h.pn]
  exact collect_lp hl6 hbo _ μ S 0 c h hg (by omega) hc hK
/-- the class's best lender so far, and what it can lend -/
def cb (S : AS) : Option Nat → Int
  | none => -1
  | some b => if 0 < cln S b then b else -1
def cm (S : AS) : Option Nat → Int
  | none => 0
  | some b => cln S b
theorem bestLender_lp {μ : MM} {K : Option AV → MM → Prop} {e p : Nat} {S : AS} (h : HC e μ S) (hp : p < 6) (hK : K (some (.inl (cb S (bst S p (zN S))))) μ) : ∀ k i : Nat, i + k = zN S → B_X6_bestLender_7 K [some (.inr (.inr e)), some (.inl (p : Int)), some (.inl (cb S (bst S p i))), some (.inl (cm S (bst S p i))), some (.inl (i : Int))] [] μ := by
  have h6 := h.2.1.n6
  have hs := h.1
  have e1 := h.n
  have e3 := h.kp
  intro k
  induction k with
  | zero =>
    intro i hi
    have : i = zN S := by omega
    subst this
    refine lfp_in ⟨sw_s hs, ?_⟩
    rw [e1]
    exact ⟨⟨by omega, by omega⟩, ⟨by omega, by omega⟩, fun _ => hK, fun q => absurd (by omega) q⟩
  | succ k ih =>
    intro i hi
    have key := ih (i + 1) (by omega)
    have hri := h.2.1.spR (p := i) (by omega)
    have hcm : 0 ≤ cm S (bst S p i) ∧ cm S (bst S p i) ≤ 40 := by
      have hsp := bst_spec S p i
      split at hsp
      · rename_i ee; rw [ee]; exact ⟨Int.le_refl _, by show (0 : Int) ≤ 40; decide⟩
      · rename_i b ee
        rw [ee]
        have := h.2.1.spR (p := b) (by omega)
        exact ⟨this.2.2.1, this.2.2.2.1⟩
    refine lfp_in ⟨sw_s hs, ?_⟩
    rw [e1]
    refine ⟨⟨by omega, by omega⟩, ⟨by omega, by omega⟩, fun q => absurd q (by omega), fun _ => ⟨⟨by omega, by omega⟩, ⟨by omega, by omega⟩, fun q => ?_, fun q => ⟨sw_s hs, aq hs (by omega) ⟨sw_s hs, ?_⟩⟩⟩⟩
    · have ee : bst S p (i + 1) = bst S p i := by
        rw [bst_s]
        cases bst S p i with
        | none => exact if_pos (by omega)
        | some z => exact if_neg (fun y => y.1 (by omega))
      rw [ee] at key
      exact key
    · rw [e3]
      refine ⟨sw_pt hs (by omega), cs8 rfl, h.lend (by omega) ⟨⟨by omega, by omega⟩, ⟨by omega, by omega⟩, fun q2 => ?_, fun q2 => ⟨sw_s hs, aq hs (by omega) ⟨sw_s hs, ?_⟩⟩⟩⟩
      · have e2 : cb S (bst S p (i + 1)) = cb S (bst S p i) ∧ cm S (bst S p (i + 1)) = cm S (bst S p i) := by
          rw [bst_s]
          cases hh : bst S p i with
          | none =>
            rw [hh] at q2
            have q2 : cln S i ≤ 0 := q2
            show cb S (if i = p then none else some i) = -1 ∧ cm S (if i = p then none else some i) = 0
            rw [if_neg (by omega)]
            exact ⟨if_neg (by omega), by show cln S i = 0; omega⟩
          | some z =>
            rw [hh] at q2
            have q2 : cln S i ≤ cln S z := q2
            show cb S (if i ≠ p ∧ cln S z < cln S i then some i else some z) = _ ∧ cm S (if i ≠ p ∧ cln S z < cln S i then some i else some z) = _
            rw [if_neg (by omega)]
            exact ⟨rfl, rfl⟩
        rw [e2.1, e2.2] at key
        exact key
      · rw [e3]
        refine ⟨sw_pt hs (by omega), cs8 rfl, h.lend (by omega) ?_⟩
        have e2 : cb S (bst S p (i + 1)) = (i : Int) ∧ cm S (bst S p (i + 1)) = cln S i := by
          rw [bst_s]
          cases hh : bst S p i with
          | none =>
            rw [hh] at q2
            have q2 : ¬ cln S i ≤ 0 := q2
            show cb S (if i = p then none else some i) = (i : Int) ∧ cm S (if i = p then none else some i) = cln S i
            rw [if_neg (by omega)]
            exact ⟨if_pos (by omega), rfl⟩
          | some z =>
            rw [hh] at q2
            have q2 : ¬ cln S i ≤ cln S z := q2
            have hz : 0 ≤ cln S z := by rw [hh] at hcm; exact hcm.1
            show cb S (if i ≠ p ∧ cln S z < cln S i then some i else some z) = (i : Int) ∧ cm S (if i ≠ p ∧ cln S z < cln S i then some i else some z) = cln S i
            rw [if_pos (by omega)]
            exact ⟨if_pos (by omega), rfl⟩
        rw [e2.1, e2.2] at key
        exact key
theorem P_X6_bestLender {μ : MM} {K : Option AV → MM → Prop} {e : Nat} {S : AS} {x : Int} (p : Nat) (h : HC e μ S) (hx : x = p) (hp : p < 6) (hK : K (some (.inl (cb S (bst S p (zN S))))) μ) : w_X6_bestLender [.inr (.inr e), .inl x] μ K := by
  subst hx
  exact ⟨cs8 rfl, bestLender_lp h hp hK (zN S) 0 (by omega)⟩
set_option maxHeartbeats 8000000 in
theorem borrow_lp {K : Option AV → MM → Prop} {e p : Nat} (hp6 : p < 6) : ∀ (k rd : Nat) (μ : MM) (S : AS) (left : Int), rd + k = zN S → HC e μ S → Gd S → p < zN S → zcn S p ≤ k → (0 ≤ left ∧ left ≤ 10000) → left ≤ oth S p → (∀ μ', HC e μ' (bor k S p left) → FC e μ μ' → K none μ') → B_X6_borrow_5 K [some (.inr (.inr e)), some (.inl (p : Int)), none, some (.inl left), some (.inl (rd : Int)), none, none] [] μ := by
  intro k
  induction k with
  | zero =>
    intro rd μ S left hrd h hg hp hz hl ho hK
    have h6 := h.2.1.n6
    refine lfp_in ⟨sw_s h.1, ?_⟩
    rw [h.n]
    exact ⟨⟨by omega, by omega⟩, ⟨by omega, by omega⟩, fun _ => hK μ h FC.refl, fun q => absurd (by omega) q⟩
  | succ k ih =>
    intro rd μ S left hrd h hg hp hz hl ho hK
    have h6 := h.2.1.n6
    have hs := h.1
    have e3 := h.kp
    refine lfp_in ⟨sw_s hs, ?_⟩
    rw [h.n]
    refine ⟨⟨by omega, by omega⟩, ⟨by omega, by omega⟩, fun q => absurd q (by omega), fun _ => ⟨⟨by omega, by omega⟩, fun q => ?_, fun q => ?_⟩⟩
    · rw [bor_0 q] at hK
      exact hK μ h FC.refl
    obtain ⟨z, e1, e2, e33, e4⟩ := oth_best (S := S) (p := p) (by omega)
    have hrz := h.2.1.spR e2
    rw [bor_s (by omega) e1] at hK
    obtain ⟨c1, c2, c3, c4⟩ := by_r (x := cln S z) (left := left) e4 (by omega)
    have hmin : min left (cln S z) = (if cln S z < left then cln S z else left) := by split <;> omega
    have hcb : cb S (bst S p (zN S)) = (z : Int) := by rw [e1]; exact if_pos (by omega)
    refine ⟨sw_s hs, cs8 rfl, P_X6_bestLender p h rfl hp6 ?_⟩
    rw [hcb]
    refine ⟨⟨by omega, by omega⟩, ⟨by omega, by omega⟩, fun _ => ⟨sw_s hs, aq hs (p := z) (by omega) ⟨sw_s hs, ?_⟩⟩, fun y => absurd y (by omega)⟩
    rw [e3]
    refine ⟨sw_pt hs (by omega), cs8 rfl, h.lend e2 ⟨⟨by omega, by omega⟩, ⟨by omega, by omega⟩, cs8 rfl, ?_⟩⟩
    rw [hmin]
    generalize (if cln S z < left then cln S z else left) = c at c1 c2 c3 c4 hK ⊢
    have g1 := lnd_Gd hg e2 hp e33 c2 c1
    have hcl := h.2.1.2.2.2.1
    have htm := h.2.1.2.1
    have qz := sw_pt hs (p := z) (by omega)
    have qp := sw_pt hs (p := p) (by omega)
    show o_istore 6 _ [some (.inr (.inr e)), some (.inl (p : Int)), none, some (.inl left), some (.inl (rd : Int)), some (.inl (z : Int)), none] [.inl c] μ
    refine ⟨sw_s hs, aq hs (p := z) (by omega) ⟨qz, qz, sw_s hs, aq hs (p := p) (by omega) ⟨qp, qp, ?_⟩⟩⟩
    have zd := h.cp e2
    have pd := h.cp hp
    generalize hX : uM (uM μ.1 (e + 13 + 4 * z) 6 (μ.1 (e + 13 + 4 * z) 6 + c)) (e + 13 + 4 * p) 7 (uM μ.1 (e + 13 + 4 * z) 6 (μ.1 (e + 13 + 4 * z) 6 + c) (e + 13 + 4 * p) 7 + c) = X
    have xr : ∀ a, (∀ p, p < zN S → a ≠ e + 13 + 4 * p) → X a = μ.1 a := fun a ha => by rw [← hX, uM_r (ha _ hp), uM_r (ha _ e2)]
    have xk : ∀ q, q < zN S → ∀ k, k ≠ 6 → k ≠ 7 → X (e + 13 + 4 * q) k = μ.1 (e + 13 + 4 * q) k := fun q _ k k6 k7 => by rw [← hX, uM_k k7, uM_k k6]
    have x6 : ∀ q, q < zN S → X (e + 13 + 4 * q) 6 = lnt (lnd S z p c) q := fun q hq => by
      rw [← hX, uM_k (by decide), lnd_lnt]
      have hq6 := (h.cp hq).2.2.2.2.2.2.1
      by_cases y : z = q
      · subst y; rw [uM_s, if_pos rfl, hq6]
      · rw [uM_e (by omega), if_neg y]; omega
    have x7 : ∀ q, q < zN S → X (e + 13 + 4 * q) 7 = brw (lnd S z p c) q := fun q hq => by
      rw [← hX, lnd_brw]
      have hq7 := (h.cp hq).2.2.2.2.2.2.2.1
      by_cases y : p = q
      · subst y; rw [uM_s, uM_k (by decide), if_pos rfl, hq7]
      · rw [uM_e (by omega), uM_k (by decide), if_neg y]; omega
    have xe : ∀ j, X e j = μ.1 e j := fun j => by rw [xr e (fun q _ => by omega)]
    have hlt : (zR S).length < 240 := by
      have h1 := g1.1.pmn
      have : (zR (lnd S z p c)).length = (zR S).length + 1 := List.length_insertIdx_of_le_length (pos_le _ _ _) _
      omega
    refine ⟨sw_s hs, sw_s hs, sw_s hs, sw_pm hs, cs8 rfl, ?_⟩
    show w_X3_insert [.inr (.inr (e + 2)), .inl (z : Int), .inl (p : Int), .inl c, .inl (X e 4 + X e 2)] (X, μ.2) _
    rw [xe, xe, h.cl, h.t]
    refine Q_X3_insert (R := zR S) z p hs rfl rfl (by rw [xr _ (fun q _ => by omega)]; exact h.pn) hlt ⟨by omega, by omega⟩ (fun i m hm j hj => by rw [xr _ (fun q _ => by omega)]; exact h.pm hm hj) (fun m hm => (h.2.1.pmr hm).2.2.2) (fun I' b0 b1 b2 b3 => ?_)
    have H1 : HC e (I', μ.2) (lnd S z p c) := by
      refine ⟨hs, g1.1, CR_R h.2.2 ?_ (fun q hq k k6 k7 => ?_) (fun q hq => ?_) (fun q hq => ?_) (fun q hq j hj => ?_) ?_ b3 (fun a h1 h2 => ?_)⟩
      · exact (b0 e (by omega)).trans (xr e (fun q _ => by omega))
      · show I' _ _ = _; rw [b0 _ (by omega)]; exact xk q hq k k6 k7
      · show I' _ _ = _; rw [b0 _ (by omega)]; exact x6 q hq
      · show I' _ _ = _; rw [b0 _ (by omega)]; exact x7 q hq
      · exact (b0 _ (by omega)).trans (xr _ (fun q _ => by omega))
      · show I' _ _ = _
        rw [b2]
        have : (pin (zR S) (z, p, c, zC S + zT S)).length = (zR S).length + 1 := List.length_insertIdx_of_le_length (pos_le _ _ _) _
        omega
      · exact (b0 _ (by omega)).trans (xr _ (fun q _ => by omega))
    have F1 : FC e μ (I', μ.2) := ⟨fun a ha => (b0 a (by omega)).trans (xr a (fun q _ => by omega)), rfl⟩
    have nl : zN (lnd S z p c) = zN S := rfl
    have zl : zcn (lnd S z p c) p ≤ k ∨ left - c ≤ 0 := by
      rcases c4 with c4 | c4
      · left
        have := zcn_lnd (S := S) (p := p) e2 e33 c1 c4
        omega
      · exact Or.inr (by omega)
    rcases zl with zl | zl
    · exact ih (rd + 1) (I', μ.2) (lnd S z p c) (left - c) (by omega) H1 g1 hp zl (by omega) (by rw [lnd_oth c2 c1 e2 e33]; omega) (fun μ' H' F' => hK μ' H' (F1.trans F'))
    · rw [bor_0 zl] at hK
      have key : B_X6_borrow_5 K [some (.inr (.inr e)), some (.inl (p : Int)), none, some (.inl (left - c)), some (.inl ((rd + 1 : Nat) : Int)), none, none] [] (I', μ.2) := by
        refine lfp_in ⟨sw_s hs, ?_⟩
        rw [H1.n]
        exact ⟨⟨by omega, by omega⟩, by rw [nl]; exact ⟨by omega, by omega⟩, fun _ => hK _ H1 F1, fun _ => ⟨⟨by omega, by omega⟩, fun _ => hK _ H1 F1, fun y => absurd zl y⟩⟩
      exact key
