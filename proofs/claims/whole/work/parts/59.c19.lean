/-! PURE 47: what the class tries -/
theorem CT.try {I J : Mi} {μ' : MM} {T : TS} (h : CT (I, J) T) (hf : ∀ a, (a < 48 ∨ 85 ≤ a) → μ'.1 a = I a ∧ μ'.2 a = J a) : CT μ' T ∧ FY (I, J) μ' := by
  obtain ⟨l, b1, b2, b3⟩ := h.2.2.2.2.1.2.2
  refine ⟨h.step (S := tN T) (H := tH T) (fun a ha => (hf a (by omega)).1) (fun a g1 g2 => hf a (by omega)) (HC_fr h.2.2.1 (fun a g1 g2 => hf a (by omega))) ⟨h.2.2.2.2.1.1, ?_, l, b1, ?_, fun i s hs => HC_fr (b3 i s hs) (fun a g1 g2 => hf a (by omega))⟩, fun a ha => hf a (by omega)⟩
  · rw [(hf 122 (by omega)).1]; exact h.2.2.2.2.1.2.1
  · rw [(hf 122 (by omega)).1]; exact b2
theorem sw48 : sw 48 := by decide
theorem P_C_wouldDrop {I J : Mi} {K : Option AV → MM → Prop} {X : String → MM → Prop} {t : Nat} {T : TS} {x c : Int} (h : CT (I, J) T) (hT : TG t T) (hx : R32 x) (hc : R32 c) (hK : OY [xI, xA] (oWd T x c) K X (I, J)) : w_X9_wouldDrop [.inr (.inr 0), .inl x, .inl c] (I, J) K X := by
  obtain ⟨ht, ⟨g1, g2, g3, g4⟩, -, -⟩ := hT
  have hn := h.2.2.1
  have h6 := hn.2.1.n6
  refine ⟨cs8 rfl, h0X, cs8 rfl, P_X9_needPort hn hx (fun q1 q2 => ⟨cs8 rfl, cs8 rfl, P_X9_needWithin hc ⟨by omega, by omega⟩ ⟨by omega, by omega⟩ (fun r1 r2 => ?_) (fun q => hK.x 1 rfl (by unfold oWd; rw [if_pos ⟨q1, q2⟩, if_neg q]; rfl) h)⟩) (fun q => hK.x 0 rfl (if_neg q) h)⟩
  obtain ⟨p, rfl⟩ : ∃ p : Nat, x = p := ⟨x.toNat, by omega⟩
  have hp : p < zN (tN T) := by omega
  have e : oWd T p c = ((0, ((zD (adm (tN T) p c).1).length : Int) - (zD (tN T)).length), T) := by unfold oWd; rw [if_pos ⟨q1, q2⟩, if_pos ⟨r1, r2⟩]; rfl
  refine ⟨h0X, h0X, sw_s sw48, cs8 rfl, P_X6_copyFrom (e := 48) (f := 11) sw48 hn (by omega) (fun I' J' hC hF => ⟨h0X, sw_s sw48, cs8 rfl, P_X6_admit (e := 48) p hC g1 rfl hp ⟨r1, r2⟩ (by omega) (fun μ2 H2 F2 => ⟨h0X, sw_s sw48, sw_ld sw48, h0X, sw_s hn.1, sw_ld hn.1, ?_⟩)⟩)⟩
  have hF1 : ∀ a, (a < 48 ∨ 48 + 37 ≤ a) → μ2.1 a = I a ∧ μ2.2 a = J a := (hF.trans F2.fk : FK 48 (I, J) μ2)
  have d2 : μ2.1 (48 + 7) 5 = ((zD (adm (tN T) p c).1).length : Int) := H2.dn
  have d0 : μ2.1 (11 + 7) 5 = ((zD (tN T)).length : Int) := by rw [(hF1 18 (by omega)).1]; exact hn.dn
  show K (some (.inl (μ2.1 (48 + 7) 5 - μ2.1 (11 + 7) 5))) μ2
  rw [d2, d0]
  obtain ⟨m1, m2⟩ := h.try (μ' := μ2) (fun a ha => hF1 a (by omega))
  exact hK.k e m1 m2
/-- without promises nothing drops -/
theorem tck_quiet {S : AS} (h : Gd S) (hc : zC S + 1 ≤ 12000) (h0 : zR S = []) : zD (tck S) = zD S ∧ zR (tck S) = [] := by
  obtain ⟨t1, t2, t3, t4, t5, t6, t7, t8, t9, t10⟩ := tck_keep h hc
  have ef : fls (zR S).length (clk S) = clk S := by rw [h0]; rfl
  rw [ef] at t1 t2
  obtain ⟨a1, a2, a3, a4, a5, a6, a7, a8, a9⟩ := sal_keep (zN S) (clk S) t1 (Nat.le_refl _) t2
  have et : tck S = lrn (sal (zN S) (clk S)) := by
    show lrn (sal (zN S) (fls (zR S).length (clk S))) = _
    rw [ef]
  rw [et]
  exact ⟨a9, a8.trans h0⟩
theorem tkn_quiet : ∀ (k : Nat) (S : AS), Gd S → zC S + k ≤ 12000 → zR S = [] → zD (tkn k S) = zD S := by
  intro k
  induction k with
  | zero => intro S _ _ _; rfl
  | succ k ih =>
    intro S h hc h0
    obtain ⟨t1, t2, t3, t4, t5, t6, t7, t8, t9, t10⟩ := tck_keep h (by omega)
    obtain ⟨q1, q2⟩ := tck_quiet h (by omega) h0
    exact (ih (tck S) t4 (by omega) q2).trans q1
theorem dropsIn9_lp {K : Option AV → MM → Prop} {X : String → MM → Prop} {n : Nat} {S0 : AS} : ∀ (k i : Nat) (μ : MM) (S : AS), i + k = n → n ≤ 10000 → HC 48 μ S → HC 11 μ S0 → Gd S → zC S + k ≤ 12000 → (∀ μ', FK 48 μ μ' → K (some (.inl (((zD (tkn k S)).length : Int) - (zD S0).length))) μ') → B_X9_dropsIn_21 K X [some (.inr (.inr 0)), some (.inl (n : Int)), some (.inl (i : Int))] [] μ := by
  have fin : ∀ (μ : MM) (S : AS) (k : Nat), HC 48 μ S → HC 11 μ S0 → zD (tkn k S) = zD S → (∀ μ', FK 48 μ μ' → K (some (.inl (((zD (tkn k S)).length : Int) - (zD S0).length))) μ') → B_X9_dropsIn_52 K X [some (.inr (.inr 0)), none, none] [] μ := by
    intro μ S k h h0 e hK
    refine ⟨h0X, sw_s sw48, sw_ld sw48, h0X, sw_s h0.1, sw_ld h0.1, ?_⟩
    have d2 : μ.1 (48 + 7) 5 = ((zD S).length : Int) := h.dn
    have d0 : μ.1 (11 + 7) 5 = ((zD S0).length : Int) := h0.dn
    show K (some (.inl (μ.1 (48 + 7) 5 - μ.1 (11 + 7) 5))) μ
    rw [d2, d0, ← e]
    exact hK μ FK.refl
  intro k
  induction k with
  | zero =>
    intro i μ S hi hn h h0 hg hc hK
    exact lfp_in ⟨⟨by omega, by omega⟩, ⟨by omega, by omega⟩, fun _ => fin μ S 0 h h0 rfl hK, fun q => absurd (by omega) q⟩
  | succ k ih =>
    intro i μ S hi hn h h0 hg hc hK
    have hp := h.2.1.pmn
    obtain ⟨t1, t2, t3, t4, t5, t6, t7, t8, t9, t10⟩ := tck_keep hg (by omega)
    have pn : μ.1 (48 + 2) 4 = ((zR S).length : Int) := h.pn
    refine lfp_in ⟨⟨by omega, by omega⟩, ⟨by omega, by omega⟩, fun q => absurd q (by omega), fun _ => ⟨h0X, sw_s sw48, sw_pm sw48, ?_⟩⟩
    show o_if_le _ _ _ [.inl (μ.1 (48 + 2) 4)] μ
    rw [pn]
    refine ⟨⟨by omega, by omega⟩, fun q => ?_, fun q => ⟨h0X, sw_s sw48, cs8 rfl, P_X6_passTick (e := 48) h hg (by omega) (fun μ1 H1 F1 => ?_)⟩⟩
    · exact fin μ S (k + 1) h h0 (tkn_quiet (k + 1) S hg hc (List.length_eq_zero_iff.mp (by omega))) hK
    · exact ih (i + 1) μ1 (tck S) (by omega) hn H1 (HC_fk h0 F1.fk (by omega)) t4 (by omega) (fun μ' F' => hK μ' (F1.fk.trans F'))
theorem P_C_dropsIn {I J : Mi} {K : Option AV → MM → Prop} {X : String → MM → Prop} {t : Nat} {T : TS} {x : Int} (h : CT (I, J) T) (hT : TG t T) (hx : R32 x) (hK : OY [xA] (oDi T x) K X (I, J)) : w_X9_dropsIn [.inr (.inr 0), .inl x] (I, J) K X := by
  obtain ⟨ht, ⟨g1, g2, g3, g4⟩, -, -⟩ := hT
  have hn := h.2.2.1
  refine ⟨cs8 rfl, cs8 rfl, cs8 rfl, P_X9_needWithin hx ⟨by omega, by omega⟩ ⟨by omega, by omega⟩ (fun r1 r2 => ?_) (fun q => hK.x 0 rfl (if_neg q) h)⟩
  obtain ⟨n, rfl⟩ : ∃ n : Nat, x = n := ⟨x.toNat, by omega⟩
  have e : oDi T n = ((0, ((zD (tkn n (tN T))).length : Int) - (zD (tN T)).length), T) := if_pos ⟨r1, r2⟩
  refine ⟨h0X, h0X, sw_s sw48, cs8 rfl, P_X6_copyFrom (e := 48) (f := 11) sw48 hn (by omega) (fun I' J' hC hF => ?_)⟩
  refine dropsIn9_lp (n := n) (S0 := tN T) n 0 (I', J') (tN T) (by omega) (by omega) hC (HC_fk hn hF (by omega)) g1 (by omega) (fun μ2 F2 => ?_)
  have hF1 : ∀ a, (a < 48 ∨ 48 + 37 ≤ a) → μ2.1 a = I a ∧ μ2.2 a = J a := (hF.trans F2 : FK 48 (I, J) μ2)
  obtain ⟨m1, m2⟩ := h.try (μ' := μ2) (fun a ha => hF1 a (by omega))
  exact hK.k e m1 m2
theorem emptyIn9_lp {K : Option AV → MM → Prop} : ∀ (k i : Nat) (μ : MM) (S : AS), i + k = 500 → HC 48 μ S → Gd S → zC S + k ≤ 12000 → (∀ μ', FK 48 μ μ' → K (some (.inl (emp k i S))) μ') → B_X9_emptyIn_13 K [some (.inr (.inr 0)), some (.inl (i : Int))] [] μ := by
  have fin : ∀ (k i : Nat) (μ : MM) (S : AS), i ≤ 500 → HC 48 μ S → (k = 0 ∨ wtn S ≤ 0) → K (some (.inl (emp k i S))) μ → B_X9_emptyIn_45 K [some (.inr (.inr 0)), some (.inl (i : Int))] [] μ := by
    intro k i μ S hi h hw hK
    have hw2 := h.2.1.2.2.2.2.2.2.2.1
    have hw0 : 0 ≤ wtn S := sg_nn (fun _ _ => by omega)
    have e : emp k i S = if wtn S = 0 then (i : Int) else -1 := by
      cases k with
      | zero => rfl
      | succ k =>
        unfold emp
        rw [if_pos (hw.resolve_left (by omega))]
    rw [e] at hK
    refine ⟨h0X, sw_s sw48, cs8 rfl, P_X6_sumOfPorts (e := 48) h ⟨by omega, by omega⟩ ⟨by show R32 (wtn S); exact ⟨by omega, by omega⟩, fun q => ?_, fun q => ?_⟩⟩
    · have q : ¬ wtn S = 0 := q
      rw [if_neg q] at hK
      exact hK
    · have q : wtn S = 0 := q
      rw [if_pos q] at hK
      exact hK
  intro k
  induction k with
  | zero =>
    intro i μ S hi h hg hc hK
    exact lfp_in ⟨⟨by omega, by omega⟩, ⟨by omega, by omega⟩, fun _ => fin 0 i μ S (by omega) h (Or.inl rfl) (hK μ FK.refl), fun q => absurd (by omega) q⟩
  | succ k ih =>
    intro i μ S hi h hg hc hK
    have hw2 := h.2.1.2.2.2.2.2.2.2.1
    have hw0 : 0 ≤ wtn S := sg_nn (fun _ _ => by omega)
    obtain ⟨t1, t2, t3, t4, t5, t6, t7, t8, t9, t10⟩ := tck_keep hg (by omega)
    refine lfp_in ⟨⟨by omega, by omega⟩, ⟨by omega, by omega⟩, fun q => absurd q (by omega), fun _ => ⟨h0X, sw_s sw48, cs8 rfl, P_X6_sumOfPorts (e := 48) h ⟨by omega, by omega⟩ ⟨by show R32 (wtn S); exact ⟨by omega, by omega⟩, fun q => ?_, fun q => ⟨h0X, sw_s sw48, cs8 rfl, P_X6_passTick (e := 48) h hg (by omega) (fun μ1 H1 F1 => ?_)⟩⟩⟩⟩
    · have q : wtn S ≤ 0 := q
      exact fin (k + 1) i μ S (by omega) h (Or.inr q) (hK μ FK.refl)
    · have q : ¬ wtn S ≤ 0 := q
      have e : emp (k + 1) i S = emp k (i + 1) (tck S) := by
        conv => lhs; unfold emp
        rw [if_neg q]
      rw [e] at hK
      exact ih (i + 1) μ1 (tck S) (by omega) H1 t4 (by omega) (fun μ' F' => hK μ' (F1.fk.trans F'))
theorem P_C_emptyIn {I J : Mi} {K : Option AV → MM → Prop} {t : Nat} {T : TS} (h : CT (I, J) T) (hT : TG t T) (hK : OY [] (oEm T) K (fun _ _ => True) (I, J)) : w_X9_emptyIn [.inr (.inr 0)] (I, J) K := by
  obtain ⟨ht, ⟨g1, g2, g3, g4⟩, -, -⟩ := hT
  have hn := h.2.2.1
  refine ⟨cs8 rfl, h0X, h0X, sw_s sw48, cs8 rfl, P_X6_copyFrom (e := 48) (f := 11) sw48 hn (by omega) (fun I' J' hC hF => ?_)⟩
  refine emptyIn9_lp 500 0 (I', J') (tN T) (by decide) hC g1 (by omega) (fun μ2 F2 => ?_)
  have hF1 : ∀ a, (a < 48 ∨ 48 + 37 ≤ a) → μ2.1 a = I a ∧ μ2.2 a = J a := (hF.trans F2 : FK 48 (I, J) μ2)
  obtain ⟨m1, m2⟩ := h.try (μ' := μ2) (fun a ha => hF1 a (by omega))
  exact hK.k rfl m1 m2
