/-! PURE 57: sentIn of the class -/
theorem pfx_s {L : List Pkt} {j : Nat} {y : Pkt} (h : L[j]? = some y) : pfx L (j + 1) = pfx L j + y.1 := by
  unfold pfx
  rw [List.take_succ, h, List.map_append, sm_app]
  show _ + (y.1 + 0) = _
  omega
theorem cellsUpTo_lp {μ : MM} {K : Option AV → MM → Prop} {e p i : Nat} {S : AS} (h : HC e μ S) (hp : p < zN S) (hi : i < (zQ S p).length) (hK : K (some (.inl (pfx (zQ S p) (i + 1)))) μ) : ∀ d j : Nat, j + d = i + 1 → B_X2_cellsUpTo_4 K [some (.inr (.inr (e + 13 + 4 * p))), some (.inl (i : Int)), some (.inl (pfx (zQ S p) j)), some (.inl (j : Int))] [] μ := by
  have h6 := h.2.1.n6
  have hq := sw_pt h.1 (p := p) (by omega)
  have hl := h.2.1.ql hp
  have a0 := sw_pa h.1 (p := p) (by omega) (j := 0) (by decide)
  have d11 : μ.1 (e + 13 + 4 * p) 11 = ((zQ S p).length : Int) := (h.cp hp).2.2.2.2.2.2.2.2.2.2.2.1
  intro d
  induction d with
  | zero =>
    intro j hj
    have : j = i + 1 := by omega
    subst this
    exact lfp_in ⟨⟨by omega, by omega⟩, ⟨by omega, by omega⟩, fun _ => hK, fun z => absurd (by omega) z⟩
  | succ d ih =>
    intro j hj
    obtain ⟨y, hy⟩ : ∃ y, (zQ S p)[j]? = some y := ⟨(zQ S p)[j]'(by omega), List.getElem?_eq_getElem (by omega)⟩
    have v0 : μ.1 (e + 13 + 4 * p + 1 + 0) j = y.1 := h.qr hp hy (by decide)
    refine lfp_in ⟨⟨by omega, by omega⟩, ⟨by omega, by omega⟩, fun z => absurd z (by omega), fun _ => ⟨hq, ?_⟩⟩
    rw [d11]
    refine ⟨⟨by omega, by omega⟩, ⟨by omega, by omega⟩, fun z => absurd z (by omega), fun _ => ⟨hq, a0.1, by omega, ?_, ?_⟩⟩
    · show (j : Int) < ((ln (e + 13 + 4 * p + 1 + 0) : Nat) : Int); rw [a0.2]; omega
    have key := ih (j + 1) (by omega)
    rw [pfx_s hy, ← v0] at key
    exact key
theorem sentIn9_lp {K : Option AV → MM → Prop} {X : String → MM → Prop} {p : Nat} {tg : Int} (htg : R32 tg) : ∀ (k i : Nat) (μ : MM) (S : AS) (pl : Nat), i + k = 501 → HC 48 μ S → Gd S → p < zN S → zC S + k ≤ 12000 → pl < (zQ S p).length → tg = zP S p 7 + pfx (zQ S p) (pl + 1) → (∀ μ', FK 48 μ μ' → K (some (.inl (sti k i S p pl))) μ') → B_X9_sentIn_57 K X [some (.inr (.inr 0)), none, none, some (.inr (.inr (48 + 13 + 4 * p))), some (.inl tg), some (.inl (i : Int))] [] μ := by
  intro k
  induction k with
  | zero =>
    intro i μ S pl hi h hg hp hc hpl ht hK
    exact lfp_in ⟨⟨by omega, by omega⟩, ⟨by omega, by omega⟩, fun _ => hK μ FK.refl, fun z => absurd (by omega) z⟩
  | succ k ih =>
    intro i μ S pl hi h hg hp hc hpl ht hK
    have h6 := h.2.1.n6
    obtain ⟨t1, t2, t3, t4, t5, t6, t7, t8, t9, t10⟩ := tck_keep hg (by omega)
    obtain ⟨s1, s2, s3⟩ := sti_tick (k := k) (n := (i : Int)) hg (by omega) hp hpl
    rw [← ht] at s1 s2 s3
    have hq := sw_pt sw48 (p := p) (by omega)
    refine lfp_in ⟨⟨by omega, by omega⟩, ⟨by omega, by omega⟩, fun z => absurd z (by omega), fun _ => ⟨h0X, sw_s sw48, cs8 rfl, P_X6_passTick (e := 48) h hg (by omega) (fun μ1 H1 F1 => ⟨hq, ?_⟩)⟩⟩
    have hp1 : p < zN (tck S) := by omega
    obtain ⟨d0, d1, d2, d3, d4, d5, d6, d7, d8, d9, d10, d11, d12⟩ := H1.cp hp1
    obtain ⟨-, -, -, -, -, g7⟩ := t4.1.pp hp1
    have hcl := t4.1.2.2.2.1
    have hu := t4.1.usdR hp1
    show o_iload 4 _ _ [.inl (μ1.1 (48 + 13 + 4 * p) 10)] μ1
    rw [d10]
    refine ⟨⟨by omega, by omega⟩, htg, fun q => ⟨hq, hq, ?_⟩, fun q => ?_⟩
    · show o_iadd _ _ [.inl (μ1.1 (48 + 13 + 4 * p) 5), .inl (μ1.1 (48 + 13 + 4 * p) 10)] μ1
      rw [d10, d5]
      refine ⟨by show R32 (zP (tck S) p 7 + usd (tck S) p); exact ⟨by omega, by omega⟩, htg, fun q2 => ?_, fun q2 => ?_⟩
      · obtain ⟨pl', e1, e2, e3⟩ := s3 (by omega) q2
        rw [e3] at hK
        exact ih (i + 1) μ1 (tck S) pl' (by omega) H1 t4 hp1 (by omega) e1 e2 (fun μ' F' => hK μ' (F1.fk.trans F'))
      · rw [s2 (by omega) (by omega)] at hK
        exact hK μ1 F1.fk
    · rw [s1 (by omega)] at hK
      exact hK μ1 F1.fk
theorem P_C_sentIn {I J : Mi} {K : Option AV → MM → Prop} {X : String → MM → Prop} {t : Nat} {T : TS} {x i : Int} (h : CT (I, J) T) (hT : TG t T) (hx : R32 x) (hi : R32 i) (hK : OY [xI] (oSi T x i) K X (I, J)) : w_X9_sentIn [.inr (.inr 0), .inl x, .inl i] (I, J) K X := by
  obtain ⟨ht, ⟨g1, g2, g3, g4⟩, -, -⟩ := hT
  have hn := h.2.2.1
  have h6 := hn.2.1.n6
  refine ⟨cs8 rfl, h0X, cs8 rfl, P_X9_needPort hn hx (fun q1 q2 => ?_) (fun q => hK.x 0 rfl (if_neg (fun z => q ⟨z.1, z.2.1⟩)) h)⟩
  obtain ⟨p, rfl⟩ : ∃ p : Nat, x = p := ⟨x.toNat, by omega⟩
  have hp : p < zN (tN T) := by omega
  have hl := hn.2.1.ql hp
  have w11 : I (11 + 13 + 4 * p) 11 = ((zQ (tN T) p).length : Int) := (hn.cp hp).2.2.2.2.2.2.2.2.2.2.2.1
  refine ⟨h0X, sw_s hn.1, aq (e := 11) hn.1 (p := p) (by omega) ⟨sw_pt (e := 11) hn.1 (p := p) (by omega), ?_⟩⟩
  show _ ∧ _ ∧ w_X9_needIndex [.inl i, .inl (I (11 + 13 + 4 * p) 11)] _ _ _
  rw [w11]
  refine ⟨cs8 rfl, cs8 rfl, P_X9_needIndex hi ⟨by omega, by omega⟩ (fun r1 r2 => ?_) (fun q => hK.x 0 rfl (if_neg (fun z => q ⟨z.2.2.1, z.2.2.2⟩)) h)⟩
  obtain ⟨n, rfl⟩ : ∃ n : Nat, i = n := ⟨i.toNat, by omega⟩
  have hnl : n < (zQ (tN T) p).length := by omega
  have e : oSi T p n = ((0, sti 500 1 (tN T) p n), T) := if_pos ⟨q1, q2, r1, r2⟩
  refine ⟨h0X, h0X, sw_s sw48, cs8 rfl, P_X6_copyFrom (e := 48) (f := 11) sw48 hn (by omega) (fun I' J' hC hF => ⟨h0X, sw_s sw48, aq (e := 48) sw48 (p := p) (by omega) ?_⟩)⟩
  have hq := sw_pt sw48 (p := p) (by omega)
  have v10 : I' (48 + 13 + 4 * p) 10 = zP (tN T) p 7 := (hC.cp hp).2.2.2.2.2.2.2.2.2.2.1
  obtain ⟨-, -, -, -, -, g7⟩ := hn.2.1.pp hp
  have hcl := hn.2.1.2.2.2.1
  have hq1 : ∀ y ∈ zQ (tN T) p, 1 ≤ y.1 := fun y hy => (hn.2.1.qr hp hy).1.1
  have hu := hn.2.1.usdR hp
  have b1 := pfx_nn hq1 (n + 1)
  have b2 : pfx (zQ (tN T) p) (n + 1) ≤ usd (tN T) p := by
    have := pfx_le hq1 (show n + 1 ≤ (zQ (tN T) p).length by omega)
    rw [pfx_all _ _ (Nat.le_refl _)] at this
    exact this
  refine ⟨hq, hq, cs8 rfl, ⟨cs8 rfl, cellsUpTo_lp (e := 48) hC hp hnl ?_ (n + 1) 0 (by omega)⟩⟩
  have fin := sentIn9_lp (K := K) (X := X) (p := p) (tg := zP (tN T) p 7 + pfx (zQ (tN T) p) (n + 1)) ⟨by omega, by omega⟩ 500 1 (I', J') (tN T) n (by decide) hC g1 hp (by omega) hnl rfl (fun μ2 F2 => by
    have hF1 : ∀ a, (a < 48 ∨ 48 + 37 ≤ a) → μ2.1 a = I a ∧ μ2.2 a = J a := (hF.trans F2 : FK 48 (I, J) μ2)
    obtain ⟨m1, m2⟩ := h.try (μ' := μ2) (fun a ha => hF1 a (by omega))
    exact hK.k e m1 m2)
  rw [← v10] at fin
  exact fin
