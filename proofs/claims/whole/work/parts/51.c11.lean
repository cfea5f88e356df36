/-! PURE 39: a tick (class) -/
theorem sdq_all : ∀ (L : List Pkt) (s : Int), (∀ y ∈ L, 1 ≤ y.1) → sm (L.map (fun q => q.1)) ≤ s → sdq s L = [] := by
  intro L
  induction L with
  | nil => intro s _ _; rfl
  | cons q t ih =>
    intro s h hs
    simp only [List.map_cons, sm] at hs
    have hq := h q List.mem_cons_self
    have ht : 0 ≤ sm (t.map (fun q => q.1)) := sm_nn (fun x hx => by
      obtain ⟨y, hy, rfl⟩ := List.mem_map.mp hx
      have := h y (List.mem_cons_of_mem _ hy)
      omega)
    unfold sdq
    rw [if_neg (by omega), if_pos (by omega)]
    exact ih (s - q.1) (fun y hy => h y (List.mem_cons_of_mem _ hy)) (by omega)
theorem P_X2_sendFirst {μ : MM} {K : Option AV → MM → Prop} {e p : Nat} {S : AS} (h : HC e μ S) (hg : Gd S) (hp : p < zN S) (hc : zP S p 7 + 9 ≤ 9 * zC S) (hK : ∀ μ', HC e μ' (snt S p) → FC e μ μ' → K none μ') : w_X2_sendFirst [.inr (.inr (e + 13 + 4 * p))] μ K := by
  have hs := h.1
  have h6 := h.2.1.n6
  have hq := sw_pt hs (p := p) (by omega)
  have hA : ∀ j, j < 3 → isK (e + 13 + 4 * p + 1 + j) 11 ∧ ln (e + 13 + 4 * p + 1 + j) = 240 := fun j hj => sw_pa hs (p := p) (by omega) hj
  have hl := h.2.1.ql hp
  have hu := h.2.1.usdR hp
  have g2 := (snt_Gd hg hp hc).1
  obtain ⟨-, g1, -⟩ := h.2.1.pp hp
  have hq1 := fun y hy => (h.2.1.qr hp (q := y) hy).1
  obtain ⟨d0, d1, d2, d3, d4, d5, d6, d7, d8, d9, d10, d11, d12⟩ := h.cp hp
  have hmin : min (zP S p 1) (usd S p) = (if zP S p 1 < usd S p then zP S p 1 else usd S p) := by split <;> omega
  have hsd : sdq (if zP S p 1 < usd S p then zP S p 1 else usd S p) (zQ S p) = sdq (zP S p 1) (zQ S p) := by
    split
    · rfl
    · rw [sdq_all (zQ S p) (usd S p) (fun y hy => (hq1 y hy).1) (Int.le_refl _), sdq_all (zQ S p) (zP S p 1) (fun y hy => (hq1 y hy).1) (by show usd S p ≤ _; omega)]
  have hss : 0 ≤ (if zP S p 1 < usd S p then zP S p 1 else usd S p) ∧ (if zP S p 1 < usd S p then zP S p 1 else usd S p) ≤ 9 := by split <;> omega
  refine ⟨cs8 rfl, hq, hq, ?_⟩
  rw [d2, d5]
  refine ⟨⟨by omega, by omega⟩, ⟨by omega, by omega⟩, cs8 rfl, ?_⟩
  rw [hmin]
  generalize hsv : (if zP S p 1 < usd S p then zP S p 1 else usd S p) = s at hsd hss
  refine ⟨hq, hq, hq, hq, ?_⟩
  show o_ci 0 _ _ [] (uM (uM μ.1 (e + 13 + 4 * p) 5 (μ.1 (e + 13 + 4 * p) 5 - s)) (e + 13 + 4 * p) 10 (uM μ.1 (e + 13 + 4 * p) 5 (μ.1 (e + 13 + 4 * p) 5 - s) (e + 13 + 4 * p) 10 + s), μ.2)
  generalize hX : uM (uM μ.1 (e + 13 + 4 * p) 5 (μ.1 (e + 13 + 4 * p) 5 - s)) (e + 13 + 4 * p) 10 (uM μ.1 (e + 13 + 4 * p) 5 (μ.1 (e + 13 + 4 * p) 5 - s) (e + 13 + 4 * p) 10 + s) = X
  have xr : ∀ a, a ≠ e + 13 + 4 * p → X a = μ.1 a := fun a ha => by rw [← hX, uM_r ha, uM_r ha]
  have xk : ∀ k, k ≠ 5 → k ≠ 10 → X (e + 13 + 4 * p) k = μ.1 (e + 13 + 4 * p) k := fun k k5 k10 => by rw [← hX, uM_k k10, uM_k k5]
  have x5 : X (e + 13 + 4 * p) 5 = usd S p - s := by rw [← hX, uM_k (by decide), uM_s, d5]
  have x10 : X (e + 13 + 4 * p) 10 = zP S p 7 + s := by rw [← hX, uM_s, uM_k (by decide), d10]
  refine sendFirst_lp (x1 := none) (Q := zQ S p) hq hA hl hq1 (zQ S p).length 0 s X (by omega) hss (by rw [xk 11 (by decide) (by decide)]; exact d11) (fun j y _ hy => by rw [xr _ (by omega)]; exact d12 j y hy 0 (by decide)) (fun I' wh b1 b2 b3 => ?_)
  rw [List.drop_zero] at b2 b3
  rw [hsd] at b2 b3
  have i11 : I' (e + 13 + 4 * p) 11 = ((zQ S p).length : Int) := by rw [b1 _ (by omega), xk 11 (by decide) (by decide)]; exact d11
  refine ⟨hq, cs8 rfl, Q_removeFirst (w := (zQ S p).length) wh hq hA i11 hl (by omega) (fun I2 c1 c2 c3 c4 => ?_)⟩
  have iq : ∀ k, k ≠ 11 → I2 (e + 13 + 4 * p) k = X (e + 13 + 4 * p) k := fun k hk => by rw [c2 k hk, b1 _ (by omega)]
  have zq : zQ (snt S p) p = sdq (zP S p 1) (zQ S p) := if_pos rfl
  have hL := fun q hq => h.2.1.qr hp (q := q) hq
  obtain ⟨sa, sb, sc⟩ := sdq_sub (zQ S p) (zP S p 1) g1.1 hq1
  refine hK (I2, μ.2) ⟨hs, g2, ?_⟩ ⟨fun a ha => ?_, rfl⟩
  · refine CR_pt h.2.2 hp h6 (fun a ha => ?_) rfl rfl rfl rfl rfl rfl rfl rfl (fun q hq' => ?_) (fun q hq' => if_neg hq') ?_
    · show I2 a = _
      rw [c1 a (by omega) (by omega), b1 a (by omega), xr a (by omega)]
    · show uM (zP S) p 7 _ q = _
      rw [uM_r hq']
    · have P : ∀ j, j ≠ 7 → zP (snt S p) p j = zP S p j := fun j hj => uM_k hj
      have P7 : zP (snt S p) p 7 = zP S p 7 + s := by
        show uM (zP S) p 7 _ p 7 = _
        rw [uM_s, hsv]
      have zu : usd (snt S p) p = usd S p - s := by
        show sm ((zQ (snt S p) p).map _) = _
        rw [zq, sc, ← hsv]
        have : sm ((zQ S p).map (fun q => q.1)) = usd S p := rfl
        rw [this]
        split <;> omega
      unfold CP
      rw [zq, zu, P7]
      refine ⟨d0, ?_, ?_, ?_, ?_, ?_, ?_, ?_, ?_, ?_, ?_, ?_, fun i r hr j hj => ?_⟩
      · rw [P 0 (by decide)]; exact ((iq 1 (by decide)).trans (xk 1 (by decide) (by decide))).trans d1
      · rw [P 1 (by decide)]; exact ((iq 2 (by decide)).trans (xk 2 (by decide) (by decide))).trans d2
      · rw [P 2 (by decide)]; exact ((iq 3 (by decide)).trans (xk 3 (by decide) (by decide))).trans d3
      · rw [P 3 (by decide)]; exact ((iq 4 (by decide)).trans (xk 4 (by decide) (by decide))).trans d4
      · exact (iq 5 (by decide)).trans x5
      · exact ((iq 6 (by decide)).trans (xk 6 (by decide) (by decide))).trans d6
      · exact ((iq 7 (by decide)).trans (xk 7 (by decide) (by decide))).trans d7
      · rw [P 4 (by decide)]; exact ((iq 8 (by decide)).trans (xk 8 (by decide) (by decide))).trans d8
      · rw [P 6 (by decide)]; exact ((iq 9 (by decide)).trans (xk 9 (by decide) (by decide))).trans d9
      · exact (iq 10 (by decide)).trans x10
      · show I2 _ 11 = _
        rw [c3]
        omega
      · show I2 (e + 13 + 4 * p + 1 + j) i = _
        have hi := (List.getElem?_eq_some_iff.mp hr).1
        rw [c4 j i hj (by omega)]
        by_cases j0 : j = 0
        · subst j0
          rw [Nat.add_comm i wh]
          exact b3 i r hr
        · rw [b1 _ (by omega), xr _ (by omega)]
          obtain ⟨y, hy, hy2⟩ := sdq_at (zQ S p) (zP S p 1) i r hr
          rw [show (zQ S p).length - (sdq (zP S p 1) (zQ S p)).length + i = i + wh by omega] at hy
          rw [d12 (i + wh) y hy j hj]
          have hh : j = 1 ∨ j = 2 := by omega
          rcases hh with rfl | rfl
          · show y.2.1 = r.2.1; rw [hy2]
          · show y.2.2 = r.2.2; rw [hy2]
  · show I2 a = _
    rw [c1 a (by omega) (by omega), b1 a (by omega), xr a (by omega)]
theorem P_X2_learn {μ : MM} {K : Option AV → MM → Prop} {e p : Nat} {S : AS} (hR0 : Rg S) (h : HC e μ (lrk S p)) (hp : p < zN S) (hK : ∀ μ', HC e μ' (lrk S (p + 1)) → FC e μ μ' → K none μ') : w_X2_learn [.inr (.inr (e + 13 + 4 * p))] μ K := by
  have hs := h.1
  have h6 := hR0.n6
  have hq := sw_pt hs (p := p) (by omega)
  have hA := hR0.2.2.2.2.1
  obtain ⟨-, -, g2, -⟩ := hR0.pp hp
  have cp := h.cp (p := p) hp
  obtain ⟨d0, d1, d2, d3, d4, d5, d6, d7, d8, d9, d10, d11, d12⟩ := cp
  have p2 : zP (lrk S p) p 2 = zP S p 2 := if_neg (Nat.lt_irrefl p)
  have p3 : zP (lrk S p) p 3 = zP S p 3 := if_neg (Nat.lt_irrefl p)
  rw [p2] at d3
  rw [p3] at d4
  refine ⟨cs8 rfl, hq, hq, hq, ?_⟩
  rw [d3, d4]
  refine ⟨by show R32 (16 * zP S p 3 - zP S p 2); exact ⟨by omega, by omega⟩, ⟨by omega, by omega⟩, by decide, hq, hq, ?_⟩
  have eS := lrk_s (S := S) (k := p)
  refine hK (uM (uM μ.1 (e + 13 + 4 * p) 3 (zP S p 2 + (16 * zP S p 3 - zP S p 2).tdiv 4)) (e + 13 + 4 * p) 4 0, μ.2) ⟨hs, lrk_Rg (p + 1) hR0, ?_⟩ ⟨fun a ha => ?_, rfl⟩
  · refine CR_pt h.2.2 (p := p) hp h6 (fun a ha => ?_) rfl rfl rfl rfl rfl rfl rfl rfl (fun q hq' => ?_) (fun _ _ => rfl) ?_
    · show uM (uM μ.1 _ _ _) _ _ _ a = _
      rw [uM_r (by omega), uM_r (by omega)]
    · funext j
      show (if q < p + 1 then _ else _) = (if q < p then _ else _)
      by_cases y : q < p
      · rw [if_pos y, if_pos (show q < p + 1 by omega)]
      · rw [if_neg y, if_neg (show ¬ q < p + 1 by omega)]
    · have gk : ∀ k, k ≠ 3 → k ≠ 4 → uM (uM μ.1 (e + 13 + 4 * p) 3 (zP S p 2 + (16 * zP S p 3 - zP S p 2).tdiv 4)) (e + 13 + 4 * p) 4 0 (e + 13 + 4 * p) k = μ.1 (e + 13 + 4 * p) k := fun k k3 k4 => by rw [uM_k k4, uM_k k3]
      have P : ∀ j, j ≠ 2 → j ≠ 3 → zP (lrk S (p + 1)) p j = zP (lrk S p) p j := fun j h2 h3 => by
        show (if p < p + 1 then (if j = 2 then _ else if j = 3 then 0 else zP S p j) else zP S p j) = (if p < p then _ else zP S p j)
        rw [if_pos (show p < p + 1 by omega), if_neg h2, if_neg h3, if_neg (Nat.lt_irrefl p)]
      refine ⟨d0, ?_, ?_, ?_, ?_, ?_, ?_, ?_, ?_, ?_, ?_, ?_, fun i r hr j hj => ?_⟩
      · rw [P 0 (by decide) (by decide)]; exact (gk 1 (by decide) (by decide)).trans d1
      · rw [P 1 (by decide) (by decide)]; exact (gk 2 (by decide) (by decide)).trans d2
      · show uM (uM μ.1 _ _ _) _ _ _ _ 3 = (if p < p + 1 then _ else _)
        rw [uM_k (by decide), uM_s, if_pos (show p < p + 1 by omega)]
        rfl
      · show uM (uM μ.1 _ _ _) _ _ _ _ 4 = (if p < p + 1 then _ else _)
        rw [uM_s, if_pos (show p < p + 1 by omega)]
        rfl
      · exact (gk 5 (by decide) (by decide)).trans d5
      · exact (gk 6 (by decide) (by decide)).trans d6
      · exact (gk 7 (by decide) (by decide)).trans d7
      · rw [P 4 (by decide) (by decide)]; exact (gk 8 (by decide) (by decide)).trans d8
      · rw [P 6 (by decide) (by decide)]; exact (gk 9 (by decide) (by decide)).trans d9
      · rw [P 7 (by decide) (by decide)]; exact (gk 10 (by decide) (by decide)).trans d10
      · exact (gk 11 (by decide) (by decide)).trans d11
      · show uM (uM μ.1 _ _ _) _ _ _ (e + 13 + 4 * p + 1 + j) i = _
        rw [uM_e (by omega), uM_e (by omega)]
        exact d12 i r hr j hj
  · show uM (uM μ.1 _ _ _) _ _ _ a = _
    rw [uM_r (by omega), uM_r (by omega)]
