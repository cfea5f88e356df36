/-! PURE 37: a packet arrives (class) -/
theorem P_X6_borrow {μ : MM} {K : Option AV → MM → Prop} {e : Nat} {S : AS} {x c : Int} (p : Nat) (h : HC e μ S) (hg : Gd S) (hx : x = p) (hp : p < zN S) (hc : 0 ≤ c ∧ c ≤ 10000) (ho : c ≤ oth S p) (hK : ∀ μ', HC e μ' (bor (zN S) S p c) → FC e μ μ' → K none μ') : w_X6_borrow [.inr (.inr e), .inl x, .inl c] μ K := by
  subst hx
  have h6 := h.2.1.n6
  exact ⟨cs8 rfl, borrow_lp (by omega) (zN S) 0 μ S c (by omega) h hg hp (zcn_le S p) hc ho hK⟩
theorem P_X2_append {μ : MM} {K : Option AV → MM → Prop} {e p : Nat} {S : AS} {c w : Int} (h : HC e μ S) (hp : p < zN S) (hw : w = zC S) (hR : Rg (tks S p c)) (hK : ∀ μ', HC e μ' (tks S p c) → FC e μ μ' → K none μ') : w_X2_append [.inr (.inr (e + 13 + 4 * p)), .inl c, .inl w] μ K := by
  subst hw
  have hs := h.1
  have h6 := h.2.1.n6
  have hq := sw_pt hs (p := p) (by omega)
  have hl := hR.ql (p := p) hp
  have zq : zQ (tks S p c) p = zQ S p ++ [(c, c, zC S)] := if_pos rfl
  rw [zq, List.length_append, List.length_singleton] at hl
  have a0 := sw_pa hs (p := p) (by omega) (j := 0) (by decide)
  have a1 := sw_pa hs (p := p) (by omega) (j := 1) (by decide)
  have a2 := sw_pa hs (p := p) (by omega) (j := 2) (by decide)
  have il : ∀ j, j < 3 → ((zQ S p).length : Int) < ((ln (e + 13 + 4 * p + 1 + j) : Nat) : Int) := fun j hj => by rw [(sw_pa hs (p := p) (by omega) hj).2]; omega
  obtain ⟨d0, d1, d2, d3, d4, d5, d6, d7, d8, d9, d10, d11, d12⟩ := h.cp hp
  refine ⟨cs8 rfl, hq, ?_⟩
  rw [d11]
  refine ⟨⟨by omega, by omega⟩, ⟨by omega, by omega⟩, fun z => absurd z (by omega), fun _ => ⟨hq, hq, ?_⟩⟩
  rw [d11]
  refine ⟨a0.1, by omega, il 0 (by decide), hq, hq, ?_⟩
  show o_iload 1 _ _ [.inl (uM μ.1 (e + 13 + 4 * p + 1 + 0) (zQ S p).length c (e + 13 + 4 * p) 11), .inr (.inr (e + 13 + 4 * p + 1 + 1))] (uM μ.1 (e + 13 + 4 * p + 1 + 0) (zQ S p).length c, μ.2)
  rw [uM_e (by omega), d11]
  refine ⟨a1.1, by omega, il 1 (by decide), hq, hq, ?_⟩
  show o_iload 2 _ _ [.inl (uM (uM μ.1 (e + 13 + 4 * p + 1 + 0) (zQ S p).length c) (e + 13 + 4 * p + 1 + 1) (zQ S p).length c (e + 13 + 4 * p) 11), .inr (.inr (e + 13 + 4 * p + 1 + 2))] (uM (uM μ.1 (e + 13 + 4 * p + 1 + 0) (zQ S p).length c) (e + 13 + 4 * p + 1 + 1) (zQ S p).length c, μ.2)
  rw [uM_e (by omega), uM_e (by omega), d11]
  refine ⟨a2.1, by omega, il 2 (by decide), hq, hq, hq, hq, ?_⟩
  generalize hX : uM (uM (uM μ.1 (e + 13 + 4 * p + 1 + 0) (zQ S p).length c) (e + 13 + 4 * p + 1 + 1) (zQ S p).length c) (e + 13 + 4 * p + 1 + 2) (zQ S p).length (zC S) = X
  have hX' : uM (uM (uM μ.1 (e + 13 + 4 * p + 1 + 0) (zQ S p).length c) (e + 13 + 4 * p + 1 + 1) (zQ S p).length c) (e + 13 + 4 * p + 1 + 2) ((zQ S p).length : Int).toNat (zC S) = X := hX
  have xq : X (e + 13 + 4 * p) = μ.1 (e + 13 + 4 * p) := by rw [← hX, uM_r (by omega), uM_r (by omega), uM_r (by omega)]
  have fin : K none (uM (uM X (e + 13 + 4 * p) 11 (((zQ S p).length : Int) + 1)) (e + 13 + 4 * p) 5 (usd S p + c), μ.2) := by
    refine hK _ ⟨hs, hR, ?_⟩ ⟨fun a ha => ?_, rfl⟩
    · refine CR_pt h.2.2 hp h6 (fun a ha => ?_) rfl rfl rfl rfl rfl rfl rfl rfl (fun _ _ => rfl) (fun q' hq' => if_neg hq') ?_
      · show uM (uM X _ _ _) _ _ _ a = _
        rw [uM_r (by omega), uM_r (by omega), ← hX, uM_r (by omega), uM_r (by omega), uM_r (by omega)]
      · have zu : usd (tks S p c) p = usd S p + c := by
          show sm ((zQ (tks S p c) p).map _) = sm ((zQ S p).map _) + c
          rw [zq, List.map_append, sm_app]
          show _ + (c + 0) = _
          omega
        have g : ∀ k, k ≠ 5 → k ≠ 11 → uM (uM X (e + 13 + 4 * p) 11 (((zQ S p).length : Int) + 1)) (e + 13 + 4 * p) 5 (usd S p + c) (e + 13 + 4 * p) k = μ.1 (e + 13 + 4 * p) k := fun k k5 k11 => by rw [uM_k k5, uM_k k11, xq]
        unfold CP
        rw [zq, zu]
        refine ⟨d0, (g 1 (by decide) (by decide)).trans d1, (g 2 (by decide) (by decide)).trans d2, (g 3 (by decide) (by decide)).trans d3, (g 4 (by decide) (by decide)).trans d4, uM_s, (g 6 (by decide) (by decide)).trans d6, (g 7 (by decide) (by decide)).trans d7, (g 8 (by decide) (by decide)).trans d8, (g 9 (by decide) (by decide)).trans d9, (g 10 (by decide) (by decide)).trans d10, ?_, fun i r hr j hj => ?_⟩
        · show uM (uM X _ _ _) _ _ _ _ 11 = _
          rw [uM_k (by decide), uM_s, List.length_append, List.length_singleton]
          omega
        · show uM (uM X _ _ _) _ _ _ (e + 13 + 4 * p + 1 + j) i = _
          rw [uM_e (by omega), uM_e (by omega), ← hX]
          rw [List.getElem?_append] at hr
          split at hr
          · rw [uM_k (by omega), uM_k (by omega), uM_k (by omega)]
            exact d12 i r hr j hj
          · have hi := (List.getElem?_eq_some_iff.mp hr).1
            rw [List.length_singleton] at hi
            have : i = (zQ S p).length := by omega
            subst this
            rw [Nat.sub_self] at hr
            cases hr
            have hh : j = 0 ∨ j = 1 ∨ j = 2 := by omega
            rcases hh with rfl | rfl | rfl
            · rw [uM_e (by omega), uM_e (by omega), uM_s]; rfl
            · rw [uM_e (by omega), uM_s]; rfl
            · rw [uM_s]; rfl
    · show uM (uM X _ _ _) _ _ _ a = _
      rw [uM_r (by omega), uM_r (by omega), ← hX, uM_r (by omega), uM_r (by omega), uM_r (by omega)]
  have e1 : X (e + 13 + 4 * p) 11 + 1 = ((zQ S p).length : Int) + 1 := by rw [xq, d11]
  show K none (uM (uM (uM (uM (uM μ.1 (e + 13 + 4 * p + 1 + 0) (zQ S p).length c) (e + 13 + 4 * p + 1 + 1) (zQ S p).length c) (e + 13 + 4 * p + 1 + 2) (zQ S p).length (zC S)) (e + 13 + 4 * p) 11 (uM (uM (uM μ.1 (e + 13 + 4 * p + 1 + 0) (zQ S p).length c) (e + 13 + 4 * p + 1 + 1) (zQ S p).length c) (e + 13 + 4 * p + 1 + 2) (zQ S p).length (zC S) (e + 13 + 4 * p) 11 + 1)) (e + 13 + 4 * p) 5 (uM (uM (uM (uM μ.1 (e + 13 + 4 * p + 1 + 0) (zQ S p).length c) (e + 13 + 4 * p + 1 + 1) (zQ S p).length c) (e + 13 + 4 * p + 1 + 2) (zQ S p).length (zC S)) (e + 13 + 4 * p) 11 (uM (uM (uM μ.1 (e + 13 + 4 * p + 1 + 0) (zQ S p).length c) (e + 13 + 4 * p + 1 + 1) (zQ S p).length c) (e + 13 + 4 * p + 1 + 2) (zQ S p).length (zC S) (e + 13 + 4 * p) 11 + 1) (e + 13 + 4 * p) 5 + c), μ.2)
  rw [hX, e1]
  have e2 : uM X (e + 13 + 4 * p) 11 (((zQ S p).length : Int) + 1) (e + 13 + 4 * p) 5 = usd S p := by rw [uM_k (by decide), xq, d5]
  rw [e2]
  exact fin
theorem HC_cmd {e p : Nat} {μ : MM} {S : AS} {c : Int} (h : HC e μ S) (hp : p < zN S) (hR : Rg (cmd S p c)) : HC e (uM (uM μ.1 e 5 (zA S + 1)) (e + 13 + 4 * p) 4 (zP S p 3 + c), μ.2) (cmd S p c) := by
  have hs := h.1
  have h6 := h.2.1.n6
  obtain ⟨c1, c2, c3, c4, c5, cp, c7, c8, c9, c10, c11, c12, c13⟩ := h.2.2
  have f : ∀ a, a ≠ e → a ≠ e + 13 + 4 * p → uM (uM μ.1 e 5 (zA S + 1)) (e + 13 + 4 * p) 4 (zP S p 3 + c) a = μ.1 a := fun a h1 h2 => by rw [uM_r h2, uM_r h1]
  have fe : ∀ k, k ≠ 5 → uM (uM μ.1 e 5 (zA S + 1)) (e + 13 + 4 * p) 4 (zP S p 3 + c) e k = μ.1 e k := fun k hk => by rw [uM_e (by omega), uM_k hk]
  refine ⟨hs, hR, (fe 1 (by decide)).trans c1, (fe 2 (by decide)).trans c2, (fe 3 (by decide)).trans c3, (fe 4 (by decide)).trans c4, ?_, fun p' hp' => ?_, ?_, fun i m hm j hj => ?_, ?_, fun i d hi hd j hj => ?_, ?_, ?_, ?_⟩
  · show uM (uM μ.1 e 5 (zA S + 1)) (e + 13 + 4 * p) 4 (zP S p 3 + c) e 5 = zA S + 1
    rw [uM_e (by omega), uM_s]
  · have hp' : p' < zN S := hp'
    by_cases q : p' = p
    · subst q
      obtain ⟨d0, d1, d2, d3, d4, d5, d6, d7, d8, d9, d10, d11, d12⟩ := cp p' hp'
      have g : ∀ k, k ≠ 4 → uM (uM μ.1 e 5 (zA S + 1)) (e + 13 + 4 * p') 4 (zP S p' 3 + c) (e + 13 + 4 * p') k = μ.1 (e + 13 + 4 * p') k := fun k hk => by rw [uM_k hk, uM_e (by omega)]
      have P : ∀ j, j ≠ 3 → zP (cmd S p' c) p' j = zP S p' j := fun j hj => uM_k hj
      refine ⟨d0, ?_, ?_, ?_, ?_, ?_, ?_, ?_, ?_, ?_, ?_, ?_, fun i r hr j hj => ?_⟩
      · rw [P 0 (by decide)]; exact (g 1 (by decide)).trans d1
      · rw [P 1 (by decide)]; exact (g 2 (by decide)).trans d2
      · rw [P 2 (by decide)]; exact (g 3 (by decide)).trans d3
      · show uM (uM μ.1 e 5 (zA S + 1)) (e + 13 + 4 * p') 4 (zP S p' 3 + c) (e + 13 + 4 * p') 4 = uM (zP S) p' 3 (zP S p' 3 + c) p' 3
        rw [uM_s, uM_s]
      · exact (g 5 (by decide)).trans d5
      · exact (g 6 (by decide)).trans d6
      · exact (g 7 (by decide)).trans d7
      · rw [P 4 (by decide)]; exact (g 8 (by decide)).trans d8
      · rw [P 6 (by decide)]; exact (g 9 (by decide)).trans d9
      · rw [P 7 (by decide)]; exact (g 10 (by decide)).trans d10
      · exact (g 11 (by decide)).trans d11
      · show uM (uM μ.1 e 5 (zA S + 1)) (e + 13 + 4 * p') 4 (zP S p' 3 + c) (e + 13 + 4 * p' + 1 + j) i = _
        rw [f _ (by omega) (by omega)]
        exact d12 i r hr j hj
    · refine CP_tr (cp p' hp') (f _ (by omega) (by omega)) (fun j hj => f _ (by omega) (by omega)) rfl rfl ?_ rfl rfl rfl rfl
      show uM (zP S) p 3 _ p' = _
      rw [uM_r q]
  · show uM (uM μ.1 e 5 (zA S + 1)) (e + 13 + 4 * p) 4 (zP S p 3 + c) (e + 2) 4 = _
    rw [f _ (by omega) (by omega)]; exact c7
  · show uM (uM μ.1 e 5 (zA S + 1)) (e + 13 + 4 * p) 4 (zP S p 3 + c) (e + 3 + j) i = _
    rw [f _ (by omega) (by omega)]; exact c8 i m hm j hj
  · show uM (uM μ.1 e 5 (zA S + 1)) (e + 13 + 4 * p) 4 (zP S p 3 + c) (e + 7) 5 = _
    rw [f _ (by omega) (by omega)]; exact c9
  · show uM (uM μ.1 e 5 (zA S + 1)) (e + 13 + 4 * p) 4 (zP S p 3 + c) (e + 8 + j) _ = _
    rw [f _ (by omega) (by omega)]; exact c10 i d hi hd j hj
  · show uM (uM μ.1 e 5 (zA S + 1)) (e + 13 + 4 * p) 4 (zP S p 3 + c) (e + 12) 1 = _
    rw [f _ (by omega) (by omega)]; exact c11
  · show uM (uM μ.1 e 5 (zA S + 1)) (e + 13 + 4 * p) 4 (zP S p 3 + c) (e + 12) 2 = _
    rw [f _ (by omega) (by omega)]; exact c12
  · show uM (uM μ.1 e 5 (zA S + 1)) (e + 13 + 4 * p) 4 (zP S p 3 + c) (e + 12) 3 = _
    rw [f _ (by omega) (by omega)]; exact c13
theorem P_X6_admit {μ : MM} {K : Option AV → MM → Prop} {e : Nat} {S : AS} {x c : Int} (p : Nat) (h : HC e μ S) (hg : Gd S) (hx : x = p) (hp : p < zN S) (hc : 1 ≤ c ∧ c ≤ 40) (ha : zA S + 1 ≤ 30000) (hK : ∀ μ', HC e μ' (adm S p c).1 → FC e μ μ' → K (some (.inl (adm S p c).2)) μ') : w_X6_admit [.inr (.inr e), .inl x, .inl c] μ K := by
  subst hx
  have hs := h.1
  have h6 := h.2.1.n6
  have hr := h.2.1.spR hp
  have hq := sw_pt hs (p := p) (by omega)
  have g := cmd_Gd (p := p) hg hc ha
  have H1 := HC_cmd (c := c) h hp g.1
  have F1 : FC e μ (uM (uM μ.1 e 5 (zA S + 1)) (e + 13 + 4 * p) 4 (zP S p 3 + c), μ.2) := ⟨fun a ha => by show uM (uM μ.1 e _ _) _ _ _ a = _; rw [uM_r (by omega), uM_r (by omega)], rfl⟩
  obtain ⟨w0, w1, w2, w3⟩ := adm_ways (p := p) hg hp hc ha
  have hw := way_r S p c
  have e5 : μ.1 e 5 = zA S := h.ar
  have e4 : μ.1 (e + 13 + 4 * p) 4 = zP S p 3 := (h.cp hp).2.2.2.2.1
  refine ⟨cs8 rfl, sw_s hs, cs8 rfl, P_X6_wayOf h p rfl hp hc ⟨sw_s hs, cs8 rfl, P_X6_missing h p rfl hp ⟨sw_s hs, sw_s hs, ?_⟩⟩⟩
  show o_aload 0 _ _ [] (uM μ.1 e 5 (μ.1 e 5 + 1), μ.2)
  rw [e5]
  show o_aload 0 _ [some (.inr (.inr e)), some (.inl (p : Int)), some (.inl c), some (.inl (way S p c : Nat)), some (.inl (c - fre S p))] [] _
  refine ⟨sw_s hs, aq hs (p := p) (by omega) ⟨hq, hq, ?_⟩⟩
  show o_iload 3 _ _ [] (uM (uM μ.1 e 5 (zA S + 1)) (e + 13 + 4 * p) 4 (uM μ.1 e 5 (zA S + 1) (e + 13 + 4 * p) 4 + c), μ.2)
  rw [uM_e (by omega), e4]
  generalize (uM (uM μ.1 e 5 (zA S + 1)) (e + 13 + 4 * p) 4 (zP S p 3 + c), μ.2) = μ1 at H1 F1 ⊢
  have fin : ∀ (μ2 : MM) (S2 : AS) (wy : Nat), HC e μ2 S2 → FC e μ μ2 → wy = way S p c → wy ≤ 2 → adm S p c = (tks S2 p c, if wy = 2 then c - fre S p else 0) → Gd (tks S2 p c) → zN S2 = zN S → B_X6_admit_80 K [some (.inr (.inr e)), some (.inl (p : Int)), some (.inl c), some (.inl (wy : Int)), some (.inl (c - fre S p))] [] μ2 := by
    intro μ2 S2 wy H2 F2 hwy hwy2 ea g2 en
    rw [ea] at hK
    refine ⟨sw_s hs, aq hs (p := p) (by omega) ⟨sw_s hs, ?_⟩⟩
    rw [H2.cl]
    refine ⟨hq, cs8 rfl, P_X2_append H2 (by rw [en]; exact hp) rfl g2.1 (fun μ3 H3 F3 => ⟨⟨by omega, by omega⟩, ⟨by omega, by omega⟩, fun q => ?_, fun q => ?_⟩)⟩
    · rw [if_neg (by omega)] at hK
      exact hK μ3 H3 (F2.trans F3)
    · rw [if_pos (by omega)] at hK
      exact hK μ3 H3 (F2.trans F3)
  refine ⟨⟨by omega, by omega⟩, ⟨by omega, by omega⟩, fun q => ⟨⟨by omega, by omega⟩, ⟨by omega, by omega⟩, fun q1 => ⟨⟨by omega, by omega⟩, ⟨by omega, by omega⟩, fun q2 => ?_, fun q2 => ⟨sw_s hs, cs8 rfl, P_X6_borrow p H1 g rfl hp (w2 (by omega)).2.2.1 (w2 (by omega)).2.2.2 (fun μ2 H2 F2 => ?_)⟩⟩, fun q1 => ⟨sw_s hs, cs8 rfl, P_X6_collect (bo := none) H1 g rfl rfl (by omega) (by show R32 (-1); exact ⟨by omega, by omega⟩) (w1 (by omega)).2.2 (fun μ2 H2 F2 => ⟨⟨by omega, by omega⟩, ⟨by omega, by omega⟩, fun q2 => ?_, fun q2 => absurd q2 (by omega)⟩)⟩⟩, fun q => ?_⟩
  · have w : way S p c = 0 := by omega
    exact fin μ1 (cmd S p c) (way S p c) H1 F1 rfl (by omega) (by rw [(w0 w).1, w]; rfl) (w0 w).2 rfl
  · have w : way S p c = 2 := by omega
    obtain ⟨k1, k2, k3, k4, k5, k6, k7, k8, k9, k10⟩ := bor_keep p (zN S) (cmd S p c) (c - fre S p) g hp (zcn_le (cmd S p c) p) (w2 w).2.2.1.1 (w2 w).2.2.2
    exact fin μ2 _ (way S p c) H2 (F1.trans F2) rfl (by omega) (by rw [(w2 w).1, w]; rfl) (w2 w).2.1 k2
  · have w : way S p c = 1 := by omega
    obtain ⟨k1, k2, k3, k4, k5, k6, k7, k8⟩ := col_keep p none (zR S).length (cmd S p c) 0 (c - fre S p) g
    exact fin μ2 _ (way S p c) H2 (F1.trans F2) rfl (by omega) (by rw [(w1 w).1, w]; rfl) (w1 w).2.1 k2
  · have w : way S p c = 3 := by omega
    rw [(w3 w).1] at hK
    exact ⟨sw_s hs, cs8 rfl, P_X6_recordDrop p 1 H1 rfl rfl hp (by omega) (w3 w).2.1 (fun μ2 H2 F2 => hK μ2 H2 (F1.trans F2))⟩
