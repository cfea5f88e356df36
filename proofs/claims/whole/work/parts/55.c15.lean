/-! PURE 43: a switch is copied (class) -/
theorem copyD_lp {I J : Mi} {K : Option AV → MM → Prop} {e f w : Nat} (hs : sw e) (hs2 : sw f) (hw : I (e + 7) 5 = (w : Int)) (hw2 : w ≤ 30000) (hd : e + 37 ≤ f ∨ f + 37 ≤ e) (hK : K none (cc I (e + 8) (f + 8) 4 (min 20 w), J)) : ∀ k i : Nat, i + k = min 20 w → B_X1_copyFrom_35 K [some (.inr (.inr (e + 7))), some (.inr (.inr (f + 7))), some (.inl (i : Int))] [] (cc I (e + 8) (f + 8) 4 i, J) := by
  have hl := sw_ld hs
  have hl2 := sw_ld hs2
  have e5 : ∀ i, cc I (e + 8) (f + 8) 4 i (e + 7) 5 = (w : Int) := fun i => by rw [cc_e (by omega)]; exact hw
  intro k
  induction k with
  | zero =>
    intro i hi
    have : i = min 20 w := by omega
    refine lfp_in ⟨⟨by omega, by omega⟩, ⟨by omega, by omega⟩, fun _ => ?_, fun z => ⟨hl, ?_⟩⟩
    · rw [this]; exact hK
    · show o_icmp_ge _ _ _ [.inl (cc I (e + 8) (f + 8) 4 i (e + 7) 5), _] _
      rw [e5]
      exact ⟨⟨by omega, by omega⟩, ⟨by omega, by omega⟩, fun _ => by rw [this]; exact hK, fun z2 => absurd (by omega) z2⟩
  | succ k ih =>
    intro i hi
    have la : ∀ j, j < 4 → (i : Int) < ((ln (e + 8 + j) : Nat) : Int) := fun j hj => by rw [(sw_lda hs hj).2]; omega
    have lb : ∀ j, j < 4 → (i : Int) < ((ln (f + 8 + j) : Nat) : Int) := fun j hj => by rw [(sw_lda hs2 hj).2]; omega
    have A := fun j (hj : j < 4) => (sw_lda hs hj).1
    have B := fun j (hj : j < 4) => (sw_lda hs2 hj).1
    refine lfp_in ⟨⟨by omega, by omega⟩, ⟨by omega, by omega⟩, fun z => absurd z (by omega), fun _ => ⟨hl, ?_⟩⟩
    show o_icmp_ge _ _ _ [.inl (cc I (e + 8) (f + 8) 4 i (e + 7) 5), _] _
    rw [e5]
    refine ⟨⟨by omega, by omega⟩, ⟨by omega, by omega⟩, fun z => absurd z (by omega), fun _ => ⟨hl, hl2, B 0 (by decide), by omega, lb 0 (by decide), A 0 (by decide), by omega, la 0 (by decide), hl, hl2, B 1 (by decide), by omega, lb 1 (by decide), A 1 (by decide), by omega, la 1 (by decide), hl, hl2, B 2 (by decide), by omega, lb 2 (by decide), A 2 (by decide), by omega, la 2 (by decide), hl, hl2, B 3 (by decide), by omega, lb 3 (by decide), A 3 (by decide), by omega, la 3 (by decide), ?_⟩⟩
    have key := ih (i + 1) (by omega)
    rw [← cc4 (by omega)] at key
    exact key
theorem Q_X1_copyFrom {I J : Mi} {K : Option AV → MM → Prop} {e f w : Nat} (hs : sw e) (hs2 : sw f) (hw : I (f + 7) 5 = (w : Int)) (hw2 : w ≤ 30000) (hd : e + 37 ≤ f ∨ f + 37 ≤ e) (hK : ∀ I' : Mi, (∀ a, (a < e + 7 ∨ e + 13 ≤ a) → I' a = I a) → I' (e + 7) 5 = w → (∀ r, 1 ≤ r → r ≤ 3 → I' (e + 12) r = I (f + 12) r) → (∀ j k, j < 4 → k < 20 → k < w → I' (e + 8 + j) k = I (f + 8 + j) k) → K none (I', J)) : w_X1_copyFrom [.inr (.inr (e + 7)), .inr (.inr (f + 7))] (I, J) K := by
  have hl := sw_ld hs
  have hl2 := sw_ld hs2
  have b := sw_by hs
  have b2 := sw_by hs2
  have l : ∀ r : Int, r ≤ 3 → r < ((ln (e + 12) : Nat) : Int) := fun r hr => by rw [b.2]; omega
  have l2 : ∀ r : Int, r ≤ 3 → r < ((ln (f + 12) : Nat) : Int) := fun r hr => by rw [b2.2]; omega
  have fin : ∀ X : Mi, (∀ a, a ≠ e + 12 → a ≠ e + 7 → X a = I a) → X (e + 7) 5 = w → (∀ r, 1 ≤ r → r ≤ 3 → X (e + 12) r = I (f + 12) r) → B_X1_copyFrom_35 K [some (.inr (.inr (e + 7))), some (.inr (.inr (f + 7))), some (.inl 0)] [] (X, J) := by
    intro X x1 x2 x3
    have key := copyD_lp (I := X) (J := J) (K := K) hs hs2 x2 hw2 hd (hK _ (fun a ha => by rw [cc_e (by omega), x1 a (by omega) (by omega)]) (by rw [cc_e (by omega)]; exact x2) (fun r r1 r2 => by rw [cc_e (by omega)]; exact x3 r r1 r2) (fun j k hj h20 hk => by rw [cc_i hj (by omega), x1 _ (by omega) (by omega)])) (min 20 w) 0 (by omega)
    rw [cc_0] at key
    exact key
  refine ⟨cs8 rfl, hl2, hl, ?_⟩
  show o_ci 1 _ _ [] (uM I (e + 7) 5 (I (f + 7) 5), J)
  rw [hw]
  refine lfp_in ⟨⟨by omega, by omega⟩, ⟨by omega, by omega⟩, fun z => absurd z (by decide), fun _ => ⟨hl, hl2, b2.1, by decide, l2 _ (by decide), b.1, by decide, l _ (by decide), ?_⟩⟩
  refine lfp_in ⟨⟨by omega, by omega⟩, ⟨by omega, by omega⟩, fun z => absurd z (by decide), fun _ => ⟨hl, hl2, b2.1, by decide, l2 _ (by decide), b.1, by decide, l _ (by decide), ?_⟩⟩
  refine lfp_in ⟨⟨by omega, by omega⟩, ⟨by omega, by omega⟩, fun z => absurd z (by decide), fun _ => ⟨hl, hl2, b2.1, by decide, l2 _ (by decide), b.1, by decide, l _ (by decide), ?_⟩⟩
  refine lfp_in ⟨⟨by omega, by omega⟩, ⟨by omega, by omega⟩, fun _ => ?_, fun z => absurd (by decide) z⟩
  refine fin (uM (uM (uM (uM I (e + 7) 5 (w : Int)) (e + 12) 1 (uM I (e + 7) 5 (w : Int) (f + 12) 1)) (e + 12) 2 (uM (uM I (e + 7) 5 (w : Int)) (e + 12) 1 (uM I (e + 7) 5 (w : Int) (f + 12) 1) (f + 12) 2)) (e + 12) 3 (uM (uM (uM I (e + 7) 5 (w : Int)) (e + 12) 1 (uM I (e + 7) 5 (w : Int) (f + 12) 1)) (e + 12) 2 (uM (uM I (e + 7) 5 (w : Int)) (e + 12) 1 (uM I (e + 7) 5 (w : Int) (f + 12) 1) (f + 12) 2) (f + 12) 3)) (fun a h1 h2 => ?_) ?_ (fun r r1 r2 => ?_)
  · rw [uM_r h1, uM_r h1, uM_r h1, uM_r h2]
  · rw [uM_e (by omega), uM_e (by omega), uM_e (by omega), uM_s]
  · have hh : r = 1 ∨ r = 2 ∨ r = 3 := by omega
    rcases hh with rfl | rfl | rfl
    · rw [uM_k (by decide), uM_k (by decide), uM_s, uM_e (by omega)]
    · rw [uM_k (by decide), uM_s, uM_e (by omega), uM_e (by omega)]
    · rw [uM_s, uM_e (by omega), uM_e (by omega), uM_e (by omega)]
/-- a change of the class's switch e, names too -/
def FK (e : Nat) (μ μ' : MM) : Prop := ∀ a, (a < e ∨ e + 37 ≤ a) → μ'.1 a = μ.1 a ∧ μ'.2 a = μ.2 a
theorem FC.fk {e : Nat} {μ μ' : MM} (h : FC e μ μ') : FK e μ μ' := fun a ha => ⟨h.1 a ha, by rw [h.2]⟩
theorem FK.trans {e : Nat} {μ μ1 μ2 : MM} (h : FK e μ μ1) (h' : FK e μ1 μ2) : FK e μ μ2 := fun a ha => ⟨(h' a ha).1.trans (h a ha).1, (h' a ha).2.trans (h a ha).2⟩
theorem FK.refl {e : Nat} {μ : MM} : FK e μ μ := fun _ _ => ⟨rfl, rfl⟩
theorem copyS_lp {I J : Mi} {K : Option AV → MM → Prop} {e f : Nat} {S : AS} (hs : sw e) (h : HC f (I, J) S) (hd : e + 37 ≤ f ∨ f + 37 ≤ e) (hK : ∀ I' J', FK e (I, J) (I', J') → (∀ k, 1 ≤ k → k ≤ 5 → I' e k = I f k) → (∀ p, p < zN S → CP (e + 13 + 4 * p) I' J' S p) → o_aload 0 (o_getR 6 6 (o_aload 1 (o_getR 6 6 (o_callV 1 3 w_X3_copyFrom (o_aload 0 (o_getR 6 7 (o_aload 1 (o_getR 6 7 (o_callV 1 1 w_X1_copyFrom (o_vret K)))))))))) [some (.inr (.inr e)), some (.inr (.inr f)), some (.inl (zN S : Int))] [] (I', J')) : ∀ (k i : Nat) (I' J' : Mi), i + k = zN S → FK e (I, J) (I', J') → (∀ k, 1 ≤ k → k ≤ 5 → I' e k = I f k) → (∀ p, p < i → CP (e + 13 + 4 * p) I' J' S p) → B_X6_copyFrom_42 K [some (.inr (.inr e)), some (.inr (.inr f)), some (.inl (i : Int))] [] (I', J') := by
  have h6 := h.2.1.n6
  have hs2 := h.1
  have hfn : I f 1 = (zN S : Int) := h.n
  intro k
  induction k with
  | zero =>
    intro i I' J' hi g1 g2 g3
    have : i = zN S := by omega
    subst this
    refine lfp_in ⟨sw_s hs, ?_⟩
    show o_icmp_ge _ _ _ [.inl (I' e 1), _] _
    rw [g2 1 (by decide) (by decide), hfn]
    exact ⟨⟨by omega, by omega⟩, ⟨by omega, by omega⟩, fun _ => hK I' J' g1 g2 g3, fun q => absurd (by omega) q⟩
  | succ k ih =>
    intro i I' J' hi g1 g2 g3
    have hq := sw_pt hs (p := i) (by omega)
    have hq2 := sw_pt hs2 (p := i) (by omega)
    have hle := sw_lt f hs2
    obtain ⟨d0, d1, d2, d3, d4, d5, d6, d7, d8, d9, d10, d11, d12⟩ := h.cp (p := i) (by omega)
    have g1' : ∀ a, a < e ∨ e + 37 ≤ a → I' a = I a ∧ J' a = J a := g1
    refine lfp_in ⟨sw_s hs, ?_⟩
    show o_icmp_ge _ _ _ [.inl (I' e 1), _] _
    rw [g2 1 (by decide) (by decide), hfn]
    refine ⟨⟨by omega, by omega⟩, ⟨by omega, by omega⟩, fun q => absurd q (by omega), fun _ => ⟨sw_s hs, aq hs (p := i) (by omega) ⟨sw_s hs2, aq hs2 (p := i) (by omega) ⟨hq, cs8 rfl, Q_X2_copyFrom (w := (zQ S i).length) hq hq2 (fun j hj => sw_pa hs (p := i) (by omega) hj) (fun j hj => sw_pa hs2 (p := i) (by omega) hj) (by rw [(g1' (f + 13 + 4 * i) (by omega)).1]; exact d11) (h.2.1.ql (by omega)) (by omega) (fun I2 b1 b2 b3 => ?_)⟩⟩⟩⟩
    have eq2 : I' (f + 13 + 4 * i) = I (f + 13 + 4 * i) := (g1' _ (by omega)).1
    refine ih (i + 1) I2 _ (by omega) (fun a ha => ⟨(b1 a (by omega)).trans (g1' a ha).1, (uM_r (by omega)).trans (g1' a ha).2⟩) (fun k k1 k2 => by rw [b1 e (by omega)]; exact g2 k k1 k2) (fun p hp => ?_)
    by_cases z : p = i
    · subst z
      unfold CP
      have gk : ∀ k, 1 ≤ k → k ≤ 11 → I2 (e + 13 + 4 * p) k = I (f + 13 + 4 * p) k := fun k k1 k2 => by rw [b2 k k1 k2, eq2]
      refine ⟨?_, (gk 1 (by decide) (by decide)).trans d1, (gk 2 (by decide) (by decide)).trans d2, (gk 3 (by decide) (by decide)).trans d3, (gk 4 (by decide) (by decide)).trans d4, (gk 5 (by decide) (by decide)).trans d5, (gk 6 (by decide) (by decide)).trans d6, (gk 7 (by decide) (by decide)).trans d7, (gk 8 (by decide) (by decide)).trans d8, (gk 9 (by decide) (by decide)).trans d9, (gk 10 (by decide) (by decide)).trans d10, (gk 11 (by decide) (by decide)).trans d11, fun k x hx j hj => ?_⟩
      · rw [uM_s, (g1' (f + 13 + 4 * p) (by omega)).2]
        exact d0
      · have hk := (List.getElem?_eq_some_iff.mp hx).1
        rw [b3 j k hj hk, (g1' (f + 13 + 4 * p + 1 + j) (by omega)).1]
        exact d12 k x hx j hj
    · exact CP_tr (g3 p (by omega)) (b1 _ (by omega)) (fun j hj => b1 _ (by omega)) (uM_r (by omega)) rfl rfl rfl rfl rfl rfl
theorem P_X6_copyFrom {I J : Mi} {K : Option AV → MM → Prop} {e f : Nat} {S : AS} (hs : sw e) (h : HC f (I, J) S) (hd : e + 37 ≤ f ∨ f + 37 ≤ e) (hK : ∀ I' J', HC e (I', J') S → FK e (I, J) (I', J') → K none (I', J')) : w_X6_copyFrom [.inr (.inr e), .inr (.inr f)] (I, J) K := by
  have h6 := h.2.1.n6
  have hs2 := h.1
  have hne : f ≠ e := by omega
  have hle := sw_lt f hs2
  have hDl := h.2.1.dl
  obtain ⟨c1, c2, c3, c4, c5, cp, c7, c8, c9, c10, c11, c12, c13⟩ := h.2.2
  refine ⟨cs8 rfl, sw_s hs2, sw_s hs, sw_s hs2, sw_s hs, sw_s hs2, sw_s hs, sw_s hs2, sw_s hs, sw_s hs2, sw_s hs, ?_⟩
  refine copyS_lp hs h hd (fun I' J' g1 g2 g3 => ?_) (zN S) 0 _ _ (by omega) (fun a ha => ⟨?_, rfl⟩) (fun k k1 k2 => ?_) (fun p hp => absurd hp (Nat.not_lt_zero _))
  · have g1' : ∀ a, a < e ∨ e + 37 ≤ a → I' a = I a ∧ J' a = J a := g1
    have hf : ∀ a, f ≤ a → a < f + 37 → I' a = I a := fun a h1 h2 => (g1' a (by omega)).1
    refine ⟨sw_s hs, sw_s hs2, sw_pm hs, cs8 rfl, Q_X3_copyFrom (w := (zR S).length) hs hs2 (by rw [hf _ (by omega) (by omega)]; exact c7) h.2.1.pmn hd (fun I2 b1 b2 b3 => ?_)⟩
    refine ⟨sw_s hs, sw_s hs2, sw_ld hs, cs8 rfl, Q_X1_copyFrom (w := (zD S).length) hs hs2 (by rw [b1 _ (by omega), hf _ (by omega) (by omega)]; exact c9) (by omega) hd (fun I3 r1 r2 r3 r4 => ?_)⟩
    have o3 : ∀ a, (a < e + 2 ∨ e + 13 ≤ a) → I3 a = I' a := fun a ha => (r1 a (by omega)).trans (b1 a (by omega))
    have e5 : ∀ k, 1 ≤ k → k ≤ 5 → I3 e k = I f k := fun k k1 k2 => by rw [o3 e (by omega)]; exact g2 k k1 k2
    have m : ∀ a, e + 2 ≤ a → a < e + 7 → I3 a = I2 a := fun a h1 h2 => r1 a (by omega)
    refine hK I3 J' ⟨hs, h.2.1, ⟨(e5 1 (by decide) (by decide)).trans c1, (e5 2 (by decide) (by decide)).trans c2, (e5 3 (by decide) (by decide)).trans c3, (e5 4 (by decide) (by decide)).trans c4, (e5 5 (by decide) (by decide)).trans c5, fun p hp => ?_, ?_, fun i x hx j hj => ?_, r2, fun i d hi hd' j hj => ?_, ?_, ?_, ?_⟩⟩ (fun a ha => ⟨(o3 a (by omega)).trans (g1' a ha).1, (g1' a ha).2⟩)
    · have hp : p < zN S := hp
      exact CP_tr (g3 p hp) (o3 _ (by omega)) (fun j hj => o3 _ (by omega)) rfl rfl rfl rfl rfl rfl rfl
    · show I3 (e + 2) 4 = _
      rw [m _ (by omega) (by omega)]
      exact b2
    · show I3 (e + 3 + j) i = _
      have hi := (List.getElem?_eq_some_iff.mp hx).1
      rw [m _ (by omega) (by omega), b3 j i hj hi, hf _ (by omega) (by omega)]
      exact c8 i x hx j hj
    · show I3 (e + 8 + j) _ = _
      have hl := (List.getElem?_eq_some_iff.mp hd').1
      have hmod : ((zD S).length - 1 - i) % 20 < (zD S).length := Nat.lt_of_le_of_lt (Nat.mod_le _ _) (by omega)
      rw [r4 j _ hj (Nat.mod_lt _ (by decide)) hmod, b1 _ (by omega), hf _ (by omega) (by omega)]
      exact c10 i d hi hd' j hj
    · show I3 (e + 12) 1 = _
      rw [r3 1 (by decide) (by decide), b1 _ (by omega), hf _ (by omega) (by omega)]
      exact c11
    · show I3 (e + 12) 2 = _
      rw [r3 2 (by decide) (by decide), b1 _ (by omega), hf _ (by omega) (by omega)]
      exact c12
    · show I3 (e + 12) 3 = _
      rw [r3 3 (by decide) (by decide), b1 _ (by omega), hf _ (by omega) (by omega)]
      exact c13
  · have hae : a ≠ e := by omega
    simp only [uM_r hae]
  · have hh : k = 1 ∨ k = 2 ∨ k = 3 ∨ k = 4 ∨ k = 5 := by omega
    rcases hh with rfl | rfl | rfl | rfl | rfl <;> simp [uM, hne]
