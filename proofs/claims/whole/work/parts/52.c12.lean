/-! PURE 40: ticks, returning, prolonging (class) -/
theorem learn_lp {K : Option AV → MM → Prop} {e : Nat} {S : AS} (hR : Rg S) : ∀ (k i : Nat) (μ : MM), i + k = zN S → HC e μ (lrk S i) → (∀ μ', HC e μ' (lrn S) → FC e μ μ' → K none μ') → B_X6_passTick_86 K [some (.inr (.inr e)), some (.inl (i : Int))] [] μ := by
  have h6 := hR.n6
  intro k
  induction k with
  | zero =>
    intro i μ hi h hK
    have : i = zN S := by omega
    subst this
    refine lfp_in ⟨sw_s h.1, ?_⟩
    rw [h.n]
    exact ⟨⟨by omega, by omega⟩, by show R32 (zN S : Int); exact ⟨by omega, by omega⟩, fun _ => hK μ h FC.refl, fun q => absurd (by show (zN S : Int) ≤ _; omega) q⟩
  | succ k ih =>
    intro i μ hi h hK
    refine lfp_in ⟨sw_s h.1, ?_⟩
    rw [h.n]
    refine ⟨⟨by omega, by omega⟩, by show R32 (zN S : Int); exact ⟨by omega, by omega⟩, fun q => absurd (show (zN S : Int) ≤ i from q) (by omega), fun _ => ⟨sw_s h.1, aq h.1 (p := i) (by omega) ⟨sw_pt h.1 (by omega), cs8 rfl, P_X2_learn hR h (by omega) (fun μ1 H1 F1 => ?_)⟩⟩⟩
    exact ih (i + 1) μ1 (by omega) H1 (fun μ' H' F' => hK μ' H' (F1.trans F'))
theorem send_lp {K : Option AV → MM → Prop} {e n : Nat} {S : AS} (hg : Gd S) (hn : n = zN S) (h7 : ∀ p, p < zN S → zP S p 7 + 9 ≤ 9 * zC S) : ∀ (k i : Nat) (μ : MM), i + k = n → HC e μ (sal i S) → (∀ μ', HC e μ' (lrn (sal n S)) → FC e μ μ' → K none μ') → B_X6_passTick_61 K [some (.inr (.inr e)), some (.inl (i : Int))] [] μ := by
  have h6 := hg.1.n6
  intro k
  induction k with
  | zero =>
    intro i μ hi h hK
    have : i = n := by omega
    subst this
    obtain ⟨a1, a2, a3, a4, a5, a6, a7, a8, a9⟩ := sal_keep i S hg (by omega) h7
    refine lfp_in ⟨sw_s h.1, ?_⟩
    rw [h.n, a2]
    refine ⟨⟨by omega, by omega⟩, ⟨by omega, by omega⟩, fun _ => ?_, fun q => absurd (by omega) q⟩
    exact learn_lp (S := sal i S) a1.1 (zN (sal i S)) 0 μ (by omega) (by rw [lrk_0]; exact h) (fun μ' H' F' => hK μ' H' F')
  | succ k ih =>
    intro i μ hi h hK
    obtain ⟨a1, a2, a3, a4, a5, a6, a7, a8, a9⟩ := sal_keep i S hg (by omega) h7
    refine lfp_in ⟨sw_s h.1, ?_⟩
    rw [h.n, a2]
    refine ⟨⟨by omega, by omega⟩, ⟨by omega, by omega⟩, fun q => absurd q (by omega), fun _ => ⟨sw_s h.1, aq h.1 (p := i) (by omega) ⟨sw_pt h.1 (by omega), cs8 rfl, P_X2_sendFirst h a1 (by rw [a2]; omega) (by rw [a3]; exact a7 i (Nat.le_refl _) (by omega)) (fun μ1 H1 F1 => ?_)⟩⟩⟩
    exact ih (i + 1) μ1 (by omega) H1 (fun μ' H' F' => hK μ' H' (F1.trans F'))
theorem falls_lp {K : Option AV → MM → Prop} {e : Nat} : ∀ (k : Nat) (μ : MM) (S : AS), (zR S).length = k → HC e μ S → Ge (zC S) S → (∀ μ', HC e μ' (fls k S) → FC e μ μ' → B_X6_passTick_59 K [some (.inr (.inr e)), none] [] μ') → B_X6_passTick_18 K [some (.inr (.inr e)), some (.inl (k : Int))] [] μ := by
  intro k
  induction k with
  | zero =>
    intro μ S hk h hg hK
    exact lfp_in ⟨⟨by omega, by omega⟩, fun _ => hK μ h FC.refl, fun z => absurd (by decide) z⟩
  | succ k ih =>
    intro μ S hk h hg hK
    have hs := h.1
    have hn := h.2.1.pmn
    have hcl := h.2.1.2.2.2.1
    obtain ⟨m, hm⟩ : ∃ m, (zR S)[0]? = some m := ⟨(zR S)[0]'(by omega), List.getElem?_eq_getElem (by omega)⟩
    have hmr := h.2.1.pmr (List.mem_of_getElem? hm)
    have a2 := sw_pma hs (j := 2) (by decide)
    have a3 := sw_pma hs (j := 3) (by decide)
    have v2 : μ.1 (e + 3 + 2) 0 = m.2.2.1 := h.pm hm (by decide)
    have v3 : μ.1 (e + 3 + 3) 0 = m.2.2.2 := h.pm hm (by decide)
    refine lfp_in ⟨⟨by omega, by omega⟩, fun z => absurd z (by omega), fun _ => ⟨sw_s hs, sw_pm hs, a3.1, by decide, ?_, sw_s hs, ?_⟩⟩
    · show (0 : Int) < ((ln (e + 3 + 3) : Nat) : Int); rw [a3.2]; decide
    show o_icmp_gt _ _ _ [.inl (μ.1 e 4), .inl (μ.1 (e + 3 + 3) 0)] μ
    rw [v3, h.cl]
    refine ⟨⟨by omega, by omega⟩, ⟨by omega, by omega⟩, fun q => ?_, fun q => ⟨sw_s hs, sw_pm hs, a2.1, by decide, ?_, ?_⟩⟩
    · rw [fls_e hm (by omega)] at hK
      exact hK μ h FC.refl
    · show (0 : Int) < ((ln (e + 3 + 2) : Nat) : Int); rw [a2.2]; decide
    show o_ci 3 _ _ [.inl (μ.1 (e + 3 + 2) 0), .inl 0, .inr (.inr e)] μ
    rw [v2]
    rw [fls_s hm (by omega)] at hK
    obtain ⟨g1, g2, g3⟩ := tkb_Ge (c := m.2.2.1) (r := 3) hg hm (by omega) (by omega)
    have hl := les_len (c := m.2.2.1) hm
    rw [if_pos (by omega)] at hl
    have s7 := g2.2.2.2.2.2.2.1
    have s4 := g2.2.2.2.1
    have n4 := (les_N (c := m.2.2.1) hm).2.2.2.1
    refine ⟨sw_s hs, cs8 rfl, P_X6_takeBack 0 3 h rfl rfl hm (by omega) (by omega) g3 (fun μ1 H1 F1 => ?_)⟩
    have key := ih μ1 (tkb S 0 m.2.2.1 3) (by rw [s7, hl]; omega) H1 (by rw [s4, n4]; exact g1) (fun μ' H' F' => hK μ' H' (F1.trans F'))
    rw [show (k : Int) = ((k + 1 : Nat) : Int) + -1 by omega] at key
    exact key
theorem HC_clk {e : Nat} {μ : MM} {S : AS} (h : HC e μ S) (hc : zC S + 1 ≤ 12000) : HC e (uM μ.1 e 4 (zC S + 1), μ.2) (clk S) := by
  have hs := h.1
  obtain ⟨c1, c2, c3, c4, c5, cp, c7, c8, c9, c10, c11, c12, c13⟩ := h.2.2
  have f : ∀ a, a ≠ e → uM μ.1 e 4 (zC S + 1) a = μ.1 a := fun a h1 => uM_r h1
  refine ⟨hs, clk_Rg h.2.1 hc, (uM_k (by decide)).trans c1, (uM_k (by decide)).trans c2, (uM_k (by decide)).trans c3, uM_s, (uM_k (by decide)).trans c5, fun p hp => ?_, ?_, fun i m hm j hj => ?_, ?_, fun i d hi hd j hj => ?_, ?_, ?_, ?_⟩
  · exact CP_tr (cp p hp) (f _ (by omega)) (fun j hj => f _ (by omega)) rfl rfl rfl rfl rfl rfl rfl
  · show uM μ.1 e 4 _ (e + 2) 4 = _
    rw [f _ (by omega)]; exact c7
  · show uM μ.1 e 4 _ (e + 3 + j) i = _
    rw [f _ (by omega)]; exact c8 i m hm j hj
  · show uM μ.1 e 4 _ (e + 7) 5 = _
    rw [f _ (by omega)]; exact c9
  · show uM μ.1 e 4 _ (e + 8 + j) _ = _
    rw [f _ (by omega)]; exact c10 i d hi hd j hj
  · show uM μ.1 e 4 _ (e + 12) 1 = _
    rw [f _ (by omega)]; exact c11
  · show uM μ.1 e 4 _ (e + 12) 2 = _
    rw [f _ (by omega)]; exact c12
  · show uM μ.1 e 4 _ (e + 12) 3 = _
    rw [f _ (by omega)]; exact c13
theorem P_X6_passTick {μ : MM} {K : Option AV → MM → Prop} {e : Nat} {S : AS} (h : HC e μ S) (hg : Gd S) (hc : zC S + 1 ≤ 12000) (hK : ∀ μ', HC e μ' (tck S) → FC e μ μ' → K none μ') : w_X6_passTick [.inr (.inr e)] μ K := by
  have hs := h.1
  obtain ⟨t1, t2, t3, t4, t5, t6, t7, t8, t9, t10⟩ := tck_keep hg hc
  have F0 : FC e μ (uM μ.1 e 4 (zC S + 1), μ.2) := ⟨fun a ha => uM_r (by have := sw_lt e hs; omega), rfl⟩
  have H0 := HC_clk h hc
  refine ⟨cs8 rfl, sw_s hs, sw_s hs, ?_⟩
  show o_aload 0 _ _ [] (uM μ.1 e 4 (μ.1 e 4 + 1), μ.2)
  rw [h.cl]
  refine ⟨sw_s hs, sw_pm hs, ?_⟩
  have pn : uM μ.1 e 4 (zC S + 1) (e + 2) 4 = ((zR S).length : Int) := H0.pn
  show o_istore 1 _ _ [.inl (uM μ.1 e 4 (zC S + 1) (e + 2) 4)] _
  rw [pn]
  refine falls_lp (zR S).length _ (clk S) rfl H0 (clk_Ge hg hc) (fun μ1 H1 F1 => ?_)
  exact send_lp (n := zN S) t1 t10.symm t2 (zN S) 0 μ1 (by omega) H1 (fun μ' H' F' => hK μ' H' (F0.trans (F1.trans F')))
theorem passTicks_lp {K : Option AV → MM → Prop} {e n : Nat} : ∀ (k i : Nat) (μ : MM) (S : AS), i + k = n → n ≤ 10000 → HC e μ S → Gd S → zC S + k ≤ 12000 → (∀ μ', HC e μ' (tkn k S) → FC e μ μ' → K (some (.inl (zC (tkn k S)))) μ') → B_X6_passTicks_2 K [some (.inr (.inr e)), some (.inl (n : Int)), some (.inl (i : Int))] [] μ := by
  intro k
  induction k with
  | zero =>
    intro i μ S hi hn h hg hc hK
    refine lfp_in ⟨⟨by omega, by omega⟩, ⟨by omega, by omega⟩, fun _ => ⟨sw_s h.1, ?_⟩, fun q => absurd (by omega) q⟩
    show K (some (.inl (μ.1 e 4))) μ
    rw [h.cl]
    exact hK μ h FC.refl
  | succ k ih =>
    intro i μ S hi hn h hg hc hK
    obtain ⟨t1, t2, t3, t4, t5, t6, t7, t8, t9, t10⟩ := tck_keep hg (by omega)
    refine lfp_in ⟨⟨by omega, by omega⟩, ⟨by omega, by omega⟩, fun q => absurd q (by omega), fun _ => ⟨sw_s h.1, cs8 rfl, P_X6_passTick h hg (by omega) (fun μ1 H1 F1 => ?_)⟩⟩
    exact ih (i + 1) μ1 (tck S) (by omega) hn H1 t4 (by omega) (fun μ' H' F' => hK μ' H' (F1.trans F'))
theorem P_X6_passTicks {μ : MM} {K : Option AV → MM → Prop} {e : Nat} {S : AS} {x : Int} (n : Nat) (h : HC e μ S) (hg : Gd S) (hx : x = n) (hn : n ≤ 99) (hc : zC S + n ≤ 12000) (hK : ∀ μ', HC e μ' (tkn n S) → FC e μ μ' → K (some (.inl (zC S + n))) μ') : w_X6_passTicks [.inr (.inr e), .inl x] μ K := by
  subst hx
  refine ⟨cs8 rfl, passTicks_lp n 0 μ S (by omega) (by omega) h hg hc (fun μ' H' F' => ?_)⟩
  rw [(tkn_keep n S hg hc).2.2.1]
  exact hK μ' H' F'
theorem P_X6_mayPass {μ : MM} {K : Option AV → MM → Prop} {e : Nat} {S : AS} {x : Int} (h : HC e μ S) (hx : 0 ≤ x ∧ x ≤ 99) (h1 : zC S + x ≤ 9999 → K (some (.inl 1)) μ) (h0 : ¬ zC S + x ≤ 9999 → K (some (.inl 0)) μ) : w_X6_mayPass [.inr (.inr e), .inl x] μ K := by
  have hcl := h.2.1.2.2.2.1
  refine ⟨cs8 rfl, sw_s h.1, ?_⟩
  rw [h.cl]
  exact ⟨by show R32 (zC S + x); exact ⟨by omega, by omega⟩, ⟨by omega, by omega⟩, fun q => ⟨Or.inl rfl, h0 (by omega)⟩, fun q => ⟨Or.inr rfl, h1 (by omega)⟩⟩
theorem P_X6_mayReturn {μ : MM} {K : Option AV → MM → Prop} {e : Nat} {S : AS} {x y c : Int} (p l : Nat) (h : HC e μ S) (hx : x = p) (hy : y = l) (hp : p < zN S) (hl : l < zN S) (hc : R32 c) (h1 : c ≤ owd S l p → c ≤ fre S p → K (some (.inl 1)) μ) (h0 : ¬ (c ≤ owd S l p ∧ c ≤ fre S p) → K (some (.inl 0)) μ) : w_X6_mayReturn [.inr (.inr e), .inl x, .inl y, .inl c] μ K := by
  subst hx
  subst hy
  have hs := h.1
  have h6 := h.2.1.n6
  have ho := h.2.1.owdR l p
  have hf := h.2.1.spR hp
  exact ⟨cs8 rfl, sw_s hs, sw_pm hs, cs8 rfl, P_X3_cellsBetween h l p rfl rfl (by omega) (by omega) ⟨⟨by omega, by omega⟩, hc, fun q => ⟨Or.inl rfl, h0 (by omega)⟩, fun q => ⟨sw_s hs, aq hs (p := p) (by omega) ⟨sw_pt hs (by omega), cs8 rfl, h.free hp ⟨⟨by omega, by omega⟩, hc, fun q2 => ⟨Or.inl rfl, h0 (by omega)⟩, fun q2 => ⟨Or.inr rfl, h1 (by omega) (by omega)⟩⟩⟩⟩⟩⟩
theorem P_X6_returnCells {μ : MM} {K : Option AV → MM → Prop} {e : Nat} {S : AS} {x y c : Int} (l p : Nat) (h : HC e μ S) (hg : Gd S) (hx : x = p) (hy : y = l) (hl6 : l < 6) (hp6 : p < 6) (hc : 0 ≤ c ∧ c ≤ 10000) (hK : ∀ μ', HC e μ' (col (zR S).length S l (some p) 0 c) → FC e μ μ' → K (some (.inl (owd (col (zR S).length S l (some p) 0 c) l p))) μ') : w_X6_returnCells [.inr (.inr e), .inl x, .inl y, .inl c] μ K := by
  subst hx
  subst hy
  have hs := h.1
  exact ⟨cs8 rfl, sw_s hs, cs8 rfl, P_X6_collect (bo := some p) h hg rfl rfl hl6 (by show R32 (p : Int); exact ⟨by omega, by omega⟩) hc (fun μ1 H1 F1 => ⟨sw_s hs, sw_pm hs, cs8 rfl, P_X3_cellsBetween H1 l p rfl rfl hl6 hp6 (hK μ1 H1 F1)⟩)⟩
theorem P_X6_mayProlong {μ : MM} {K : Option AV → MM → Prop} {e : Nat} {S : AS} {x : Int} {m : Prm} (i : Nat) (h : HC e μ S) (hx : x = i) (hm : (zR S)[i]? = some m) (h1 : 0 ≤ spr S m.1 → K (some (.inl 1)) μ) (h0 : ¬ 0 ≤ spr S m.1 → K (some (.inl 0)) μ) : w_X6_mayProlong [.inr (.inr e), .inl x] μ K := by
  subst hx
  have hs := h.1
  have h6 := h.2.1.n6
  have hi := (List.getElem?_eq_some_iff.mp hm).1
  have hn := h.2.1.pmn
  have hmr := h.2.1.pmr (List.mem_of_getElem? hm)
  have a0 := sw_pma hs (j := 0) (by decide)
  have v0 : μ.1 (e + 3 + 0) i = (m.1 : Int) := h.pm hm (by decide)
  have hk := h.2.1.kp hmr.1
  have hsp := h.2.1.spR hmr.1
  have hu := h.2.1.usdR hmr.1
  have hl := h.2.1.lntR m.1
  have es : spr S m.1 = zP S m.1 0 - lnt S m.1 - usd S m.1 - kpt S m.1 := rfl
  have hq := sw_pt hs (p := m.1) (by omega)
  refine ⟨cs8 rfl, sw_s hs, sw_s hs, sw_pm hs, a0.1, by omega, ?_, ?_⟩
  · show (i : Int) < ((ln (e + 3 + 0) : Nat) : Int); rw [a0.2]; omega
  show o_aald _ _ [.inl (μ.1 (e + 3 + 0) i), .inr (.inr (e + 1))] μ
  rw [v0]
  refine aq hs (p := m.1) (by omega) ⟨hq, cs8 rfl, h.own hmr.1 ⟨sw_s hs, ?_⟩⟩
  rw [h.kp]
  exact ⟨hq, cs8 rfl, h.kept hmr.1 ⟨⟨by omega, by omega⟩, ⟨by omega, by omega⟩, fun q => ⟨Or.inl rfl, h0 (by omega)⟩, fun q => ⟨Or.inr rfl, h1 (by omega)⟩⟩⟩
theorem P_X6_changeTerm {μ : MM} {K : Option AV → MM → Prop} {e : Nat} {S : AS} {x : Int} (h : HC e μ S) (hg : Gd S) (hv : 1 ≤ x ∧ x ≤ 99) (hK : ∀ μ', HC e μ' (stG S x (zK S) (zC S) (zA S)) → FC e μ μ' → K (some (.inl (zT S))) μ') : w_X6_changeTerm [.inr (.inr e), .inl x] μ K := by
  have hs := h.1
  have hle := sw_lt e hs
  refine ⟨cs8 rfl, sw_s hs, ?_⟩
  rw [h.t]
  refine ⟨sw_s hs, hK (uM μ.1 e 2 x, μ.2) ?_ ⟨fun a ha => uM_r (by omega), rfl⟩⟩
  obtain ⟨c1, c2, c3, c4, c5, cp, c7, c8, c9, c10, c11, c12, c13⟩ := h.2.2
  have f : ∀ a, a ≠ e → uM μ.1 e 2 x a = μ.1 a := fun a h1 => uM_r h1
  refine ⟨hs, (stT_Gd hg hv).1, (uM_k (by decide)).trans c1, uM_s, (uM_k (by decide)).trans c3, (uM_k (by decide)).trans c4, (uM_k (by decide)).trans c5, fun p hp => ?_, ?_, fun i m hm j hj => ?_, ?_, fun i d hi hd j hj => ?_, ?_, ?_, ?_⟩
  · exact CP_tr (cp p hp) (f _ (by omega)) (fun j hj => f _ (by omega)) rfl rfl rfl rfl rfl rfl rfl
  · show uM μ.1 e 2 _ (e + 2) 4 = _
    rw [f _ (by omega)]; exact c7
  · show uM μ.1 e 2 _ (e + 3 + j) i = _
    rw [f _ (by omega)]; exact c8 i m hm j hj
  · show uM μ.1 e 2 _ (e + 7) 5 = _
    rw [f _ (by omega)]; exact c9
  · show uM μ.1 e 2 _ (e + 8 + j) _ = _
    rw [f _ (by omega)]; exact c10 i d hi hd j hj
  · show uM μ.1 e 2 _ (e + 12) 1 = _
    rw [f _ (by omega)]; exact c11
  · show uM μ.1 e 2 _ (e + 12) 2 = _
    rw [f _ (by omega)]; exact c12
  · show uM μ.1 e 2 _ (e + 12) 3 = _
    rw [f _ (by omega)]; exact c13
theorem P_X6_changeKeep {μ : MM} {K : Option AV → MM → Prop} {e : Nat} {S : AS} {x : Int} (h : HC e μ S) (hg : Gd S) (hv : 0 ≤ x ∧ x ≤ 200) (hK : ∀ μ', HC e μ' (stG S (zT S) x (zC S) (zA S)) → FC e μ μ' → K (some (.inl (zK S))) μ') : w_X6_changeKeep [.inr (.inr e), .inl x] μ K := by
  have hs := h.1
  have hle := sw_lt e hs
  refine ⟨cs8 rfl, sw_s hs, ?_⟩
  rw [h.kp]
  refine ⟨sw_s hs, hK (uM μ.1 e 3 x, μ.2) ?_ ⟨fun a ha => uM_r (by omega), rfl⟩⟩
  obtain ⟨c1, c2, c3, c4, c5, cp, c7, c8, c9, c10, c11, c12, c13⟩ := h.2.2
  have f : ∀ a, a ≠ e → uM μ.1 e 3 x a = μ.1 a := fun a h1 => uM_r h1
  refine ⟨hs, (stK_Gd hg hv).1, (uM_k (by decide)).trans c1, (uM_k (by decide)).trans c2, uM_s, (uM_k (by decide)).trans c4, (uM_k (by decide)).trans c5, fun p hp => ?_, ?_, fun i m hm j hj => ?_, ?_, fun i d hi hd j hj => ?_, ?_, ?_, ?_⟩
  · exact CP_tr (cp p hp) (f _ (by omega)) (fun j hj => f _ (by omega)) rfl rfl rfl rfl rfl rfl rfl
  · show uM μ.1 e 3 _ (e + 2) 4 = _
    rw [f _ (by omega)]; exact c7
  · show uM μ.1 e 3 _ (e + 3 + j) i = _
    rw [f _ (by omega)]; exact c8 i m hm j hj
  · show uM μ.1 e 3 _ (e + 7) 5 = _
    rw [f _ (by omega)]; exact c9
  · show uM μ.1 e 3 _ (e + 8 + j) _ = _
    rw [f _ (by omega)]; exact c10 i d hi hd j hj
  · show uM μ.1 e 3 _ (e + 12) 1 = _
    rw [f _ (by omega)]; exact c11
  · show uM μ.1 e 3 _ (e + 12) 2 = _
    rw [f _ (by omega)]; exact c12
  · show uM μ.1 e 3 _ (e + 12) 3 = _
    rw [f _ (by omega)]; exact c13

