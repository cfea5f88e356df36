/-! PURE 30: what the model tries -/
def emp : Nat → Int → AS → Int
  | 0, n, S => if wtn S = 0 then n else -1
  | k + 1, n, S => if wtn S ≤ 0 then (if wtn S = 0 then n else -1) else emp k (n + 1) (tck S)
def sti : Nat → Int → AS → Nat → Int → Int
  | 0, _, _, _, _ => -1
  | k + 1, n, S, p, pl =>
    if ((zQ (fls (zR S).length (clk S)) p).length : Int) ≤ pl then -1
    else if pl - (((zQ (fls (zR S).length (clk S)) p).length : Int) - (zQ (sal (zN S) (fls (zR S).length (clk S))) p).length) < 0 then n
    else sti k (n + 1) (tck S) p (pl - (((zQ (fls (zR S).length (clk S)) p).length : Int) - (zQ (sal (zN S) (fls (zR S).length (clk S))) p).length))
def oWd (T : TS) (p c : Int) : (Int × Int) × TS := if 0 ≤ p ∧ p < zN (tN T) then (if 1 ≤ c ∧ c ≤ 40 then ((0, ((zD (adm (tN T) p.toNat c).1).length : Int) - (zD (tN T)).length), T) else ((2, 0), T)) else ((1, 0), T)
def oDi (T : TS) (n : Int) : (Int × Int) × TS := if 0 ≤ n ∧ n ≤ 200 then ((0, ((zD (tkn n.toNat (tN T))).length : Int) - (zD (tN T)).length), T) else ((1, 0), T)
def oEm (T : TS) : (Int × Int) × TS := ((0, emp 500 0 (tN T)), T)
def oSi (T : TS) (p i : Int) : (Int × Int) × TS := if 0 ≤ p ∧ p < zN (tN T) ∧ 0 ≤ i ∧ i < (zQ (tN T) p.toNat).length then ((0, sti 500 1 (tN T) p.toNat i), T) else ((1, 0), T)
theorem try_b {μ : MM} {T : TS} (h : MT μ T) : ∃ G, HG 3 (uM (cpI μ.1 0 3 2080) 348 3 6240, cpJ μ.2 0 3 6) (tN T) G := MB.hg (MB.put (MB.cp (I := μ.1) (J := μ.2) h.2.1)) pS (by decide)
theorem try_e {μ μ2 : MM} {T : TS} {k : Int} (h : MT μ T) (hk : μ.1 348 0 = k) (hf : FM 3 (uM (cpI μ.1 0 3 2080) 348 3 6240, cpJ μ.2 0 3 6) μ2) : MT (uM μ2.1 348 3 0, μ2.2) T ∧ (uM μ2.1 348 3 0, μ2.2).1 348 0 = k ∧ FX μ (uM μ2.1 348 3 0, μ2.2) := by
  have f8 : F8 [3] μ (uM μ2.1 348 3 0, μ2.2) := ((F8.cp (I := μ.1) (J := μ.2)).trans (F8.put (μ := (cpI μ.1 0 3 2080, cpJ μ.2 0 3 6)) (by decide))).trans ((F8.fm hf).trans (F8.put (by decide)))
  have m : ∀ b s, b ≠ 3 → MB b μ s → MB b (uM μ2.1 348 3 0, μ2.2) s := fun b s hb hs => MB.put (I := μ2.1) (J := μ2.2) ((MB.put (MB.cpo (I := μ.1) (J := μ.2) hs hb)).fm hf hb)
  exact ⟨h.step (S := tN T) (H := tH T) f8 (fun k hk => Or.inr (Or.inl (List.mem_singleton.mp hk))) pS (m 0 _ (by decide) h.2.1) (fun s hs => m 1 s (by decide) hs) ((f8.2.1 15 (by decide)).trans h.2.2.2.2.2.1.1) (h.2.2.2.2.2.1.2.f (fun b s hb hs => m b s (by omega) hs)), (f8.2.1 0 (by decide)).trans hk, f8.fx⟩
theorem P_M_wouldDrop {μ : MM} {K : Option AV → MM → Prop} {t : Nat} {T : TS} {x c : Int} (h : MT μ T) (hT : TG t T) (hx : R32 x) (hc : R32 c) (hK : OM (oWd T x c) K μ) : w_X10_wouldDrop [.inr (.inr 348), .inl x, .inl c] μ K := by
  obtain ⟨G, hG⟩ := h.hg
  have h6 := hG.2.2.1.n6
  obtain ⟨ht, ⟨g1, g2, g3, g4⟩, -, -⟩ := hT
  refine ⟨cs8 rfl, hM, cs8 rfl, P_X10_isPort hG hx (fun q1 q2 => ?_) (fun q => ?_)⟩
  · refine ⟨cs8 rfl, cs8 rfl, P_X10_isCells hc (fun r1 r2 => ⟨hM, cs8 rfl, P_X10_allGood (Or.inr rfl) (Or.inr rfl) (fun _ _ => ⟨⟨by omega, by omega⟩, fun _ => ⟨hM, cs8 rfl, P_X10_remembers ⟨hM, ?_⟩⟩, fun q => absurd q (by decide)⟩) (fun _ q => absurd q (by decide)) (fun q => absurd q (by decide))⟩) (fun q => ⟨hM, cs8 rfl, P_X10_allGood (Or.inr rfl) (Or.inl rfl) (fun _ q => absurd q (by decide)) (fun _ _ => ⟨⟨by omega, by omega⟩, fun q => absurd rfl q, fun _ => ?_⟩) (fun q => absurd q (by decide))⟩)⟩
    · obtain ⟨p, rfl⟩ : ∃ p : Nat, x = p := ⟨x.toNat, by omega⟩
      have hp : p < zN (tN T) := by omega
      have e : oWd T p c = ((0, ((zD (adm (tN T) p c).1).length : Int) - (zD (tN T)).length), T) := by unfold oWd; rw [if_pos ⟨q1, q2⟩, if_pos ⟨r1, r2⟩]; rfl
      have h1 := h.thr 0
      obtain ⟨G1, H1⟩ := try_b h1
      refine ⟨hM, cs8 rfl, H1.ofo 4 rfl (by omega) ⟨hM, cs8 rfl, P_X10_arrives p H1 g1 rfl hp ⟨r1, r2⟩ (by omega) (fun μ2 G2 H2 F2 => ⟨hM, cs8 rfl, H2.ofo 4 rfl (by omega) ⟨hM, ?_⟩⟩)⟩⟩
      obtain ⟨m1, m2, m3⟩ := try_e h1 t348 F2
      exact hK.k e m1 m2 (FX.put.trans m3)
    · exact hK.t (by unfold oWd; rw [if_pos ⟨q1, q2⟩, if_neg q]) h
  · have e : oWd T x c = ((1, 0), T) := if_neg q
    refine ⟨cs8 rfl, cs8 rfl, P_X10_isCells hc (fun r1 r2 => ⟨hM, cs8 rfl, P_X10_allGood (Or.inl rfl) (Or.inr rfl) (fun q _ => absurd q (by decide)) (fun q _ => absurd q (by decide)) (fun _ => ⟨⟨by omega, by omega⟩, fun q => absurd rfl q, fun _ => hK.t e h⟩)⟩) (fun q => ⟨hM, cs8 rfl, P_X10_allGood (Or.inl rfl) (Or.inl rfl) (fun q _ => absurd q (by decide)) (fun q _ => absurd q (by decide)) (fun _ => ⟨⟨by omega, by omega⟩, fun q => absurd rfl q, fun _ => hK.t e h⟩)⟩)⟩
theorem dropsIn_lp {K : Option AV → MM → Prop} {n : Nat} {d : Int} : ∀ (k i : Nat) (μ : MM) (S : AS) (G : List (Nat × Pkt)), i + k = n → n ≤ 10000 → HG 3 μ S G → Gd S → zC S + k ≤ 12000 → (∀ μ' G', HG 3 μ' (tkn k S) G' → FM 3 μ μ' → K (some (.inl (((zD (tkn k S)).length : Int) - d))) (uM μ'.1 348 3 0, μ'.2)) → B_X10_dropsIn_37 K [some (.inr (.inr 348)), some (.inl (n : Int)), some (.inl d), some (.inl (i : Int))] [] μ := by
  intro k
  induction k with
  | zero =>
    intro i μ S G hi hn h hg hc hK
    exact lfp_in ⟨⟨by omega, by omega⟩, ⟨by omega, by omega⟩, fun _ => ⟨hM, cs8 rfl, h.ofo 4 rfl (by omega) ⟨hM, hK μ G h FM.refl⟩⟩, fun q => absurd (by omega) q⟩
  | succ k ih =>
    intro i μ S G hi hn h hg hc hK
    obtain ⟨t1, t2, t3, t4, t5, t6, t7, t8, t9, t10⟩ := tck_keep hg (by omega)
    refine lfp_in ⟨⟨by omega, by omega⟩, ⟨by omega, by omega⟩, fun q => absurd q (by omega), fun _ => ⟨hM, cs8 rfl, P_X10_ticksOne h hg (by omega) (fun μ1 G1 H1 F1 => ?_)⟩⟩
    exact ih (i + 1) μ1 (tck S) G1 (by omega) hn H1 t4 (by omega) (fun μ' G' H' F' => hK μ' G' H' (F1.trans F'))
theorem P_M_dropsIn {μ : MM} {K : Option AV → MM → Prop} {t : Nat} {T : TS} {x : Int} (h : MT μ T) (hT : TG t T) (hx : R32 x) (hK : OM (oDi T x) K μ) : w_X10_dropsIn [.inr (.inr 348), .inl x] μ K := by
  obtain ⟨ht, ⟨g1, g2, g3, g4⟩, -, -⟩ := hT
  refine ⟨cs8 rfl, hx, cs8 rfl, cs8 rfl, P_X10_in (r64 hx) ⟨by omega, by omega⟩ ⟨by omega, by omega⟩ (fun r1 r2 => ⟨hM, cs8 rfl, P_X10_good (Or.inr rfl) (fun _ => ⟨⟨by omega, by omega⟩, fun _ => ⟨hM, cs8 rfl, P_X10_remembers ⟨hM, ?_⟩⟩, fun q => absurd q (by decide)⟩) (fun q => absurd q (by decide))⟩) (fun q => ⟨hM, cs8 rfl, P_X10_good (Or.inl rfl) (fun q => absurd q (by decide)) (fun _ => ⟨⟨by omega, by omega⟩, fun q => absurd rfl q, fun _ => ?_⟩)⟩)⟩
  · obtain ⟨n, rfl⟩ : ∃ n : Nat, x = n := ⟨x.toNat, by omega⟩
    have e : oDi T n = ((0, ((zD (tkn n (tN T))).length : Int) - (zD (tN T)).length), T) := if_pos ⟨r1, r2⟩
    have h1 := h.thr 0
    obtain ⟨G1, H1⟩ := try_b h1
    refine ⟨hM, cs8 rfl, H1.ofo 4 rfl (by omega) ?_⟩
    refine dropsIn_lp (n := n) n 0 _ (tN T) G1 (by omega) (by omega) H1 g1 (by omega) (fun μ2 G2 H2 F2 => ?_)
    obtain ⟨m1, m2, m3⟩ := try_e h1 t348 F2
    exact hK.k e m1 m2 (FX.put.trans m3)
  · exact hK.t (if_neg q) h
theorem emptyIn_lp {K : Option AV → MM → Prop} : ∀ (k i : Nat) (μ : MM) (S : AS) (G : List (Nat × Pkt)), i + k = 500 → HG 3 μ S G → Gd S → zC S + k ≤ 12000 → (∀ μ' S' G', HG 3 μ' S' G' → FM 3 μ μ' → K (some (.inl (emp k i S))) (uM μ'.1 348 3 0, μ'.2)) → B_X10_emptyIn_18 K [some (.inr (.inr 348)), some (.inl (i : Int)), none] [] μ := by
  have fin : ∀ (k i : Nat) (μ : MM) (S : AS) (G : List (Nat × Pkt)), i ≤ 500 → HG 3 μ S G → (k = 0 ∨ wtn S ≤ 0) → K (some (.inl (emp k i S))) (uM μ.1 348 3 0, μ.2) → B_X10_emptyIn_44 K [some (.inr (.inr 348)), some (.inl (i : Int)), none] [] μ := by
    intro k i μ S G hi h hw hK
    have hl := MR_len h.2.2.2
    have hll := h.len
    have e : emp k i S = if wtn S = 0 then (i : Int) else -1 := by
      cases k with
      | zero => rfl
      | succ k =>
        unfold emp
        rw [if_pos (hw.resolve_left (by omega))]
    rw [e] at hK
    refine ⟨hM, cs8 rfl, h.ofo 7 rfl (by omega) ⟨by show R32 (G.length : Int); exact ⟨by omega, by omega⟩, fun q => ⟨hM, ?_⟩, fun q => ⟨hM, ?_⟩⟩⟩
    · have q : ¬ (G.length : Int) = 0 := q
      rw [if_neg (by omega)] at hK
      exact hK
    · have q : (G.length : Int) = 0 := q
      rw [if_pos (by omega)] at hK
      exact hK
  intro k
  induction k with
  | zero =>
    intro i μ S G hi h hg hc hK
    exact lfp_in ⟨⟨by omega, by omega⟩, ⟨by omega, by omega⟩, fun _ => fin 0 i μ S G (by omega) h (Or.inl rfl) (hK μ S G h FM.refl), fun q => absurd (by omega) q⟩
  | succ k ih =>
    intro i μ S G hi h hg hc hK
    have hl := MR_len h.2.2.2
    have hll := h.len
    obtain ⟨t1, t2, t3, t4, t5, t6, t7, t8, t9, t10⟩ := tck_keep hg (by omega)
    refine lfp_in ⟨⟨by omega, by omega⟩, ⟨by omega, by omega⟩, fun q => absurd q (by omega), fun _ => ⟨hM, cs8 rfl, h.ofo 7 rfl (by omega) ⟨by show R32 (G.length : Int); exact ⟨by omega, by omega⟩, fun q => ?_, fun q => ⟨hM, cs8 rfl, P_X10_ticksOne h hg (by omega) (fun μ1 G1 H1 F1 => ?_)⟩⟩⟩⟩
    · have q : (G.length : Int) ≤ 0 := q
      exact fin (k + 1) i μ S G (by omega) h (Or.inr (by omega)) (hK μ S G h FM.refl)
    · have q : ¬ (G.length : Int) ≤ 0 := q
      have e : emp (k + 1) i S = emp k (i + 1) (tck S) := by
        conv => lhs; unfold emp
        rw [if_neg (by omega)]
      rw [e] at hK
      exact ih (i + 1) μ1 (tck S) G1 (by omega) H1 t4 (by omega) (fun μ' S' G' H' F' => hK μ' S' G' H' (F1.trans F'))
theorem P_M_emptyIn {μ : MM} {K : Option AV → MM → Prop} {t : Nat} {T : TS} (h : MT μ T) (hT : TG t T) (hK : OM (oEm T) K μ) : w_X10_emptyIn [.inr (.inr 348)] μ K := by
  obtain ⟨ht, ⟨g1, g2, g3, g4⟩, -, -⟩ := hT
  have h1 := h.thr 0
  obtain ⟨G1, H1⟩ := try_b h1
  refine ⟨cs8 rfl, hM, hM, cs8 rfl, P_X10_remembers ⟨hM, ?_⟩⟩
  refine emptyIn_lp 500 0 _ (tN T) G1 (by decide) H1 g1 (by omega) (fun μ2 S2 G2 H2 F2 => ?_)
  obtain ⟨m1, m2, m3⟩ := try_e h1 t348 F2
  exact hK.k rfl m1 m2 (FX.put.trans m3)
theorem sal_Q {S : AS} {p : Nat} : ∀ k, k ≤ p → zQ (sal k S) p = zQ S p := by
  intro k
  induction k with
  | zero => intro _; rfl
  | succ k ih =>
    intro hk
    show (if p = k then _ else zQ (sal k S) p) = _
    rw [if_neg (by omega)]
    exact ih (by omega)
theorem sal_le {S : AS} {p : Nat} (k : Nat) (h : p ≠ k) : zQ (sal (k + 1) S) p = zQ (sal k S) p := if_neg h
theorem sti37_lp {K : Option AV → MM → Prop} {K5 : PT} {b n p : Nat} {S : AS} {pl nn : Int} (hg : Gd S) (hn : n = zN S) (hp : p < n) (hnn : R32 nn) (hpl : 0 ≤ pl ∧ pl ≤ 240) (h7 : ∀ p, p < zN S → zP S p 7 + 9 ≤ 9 * zC S) : ∀ (k i : Nat) (μ : MM) (G : List (Nat × Pkt)), i + k = n → HG b μ (sal i S) G → (∀ μ' G', HG b μ' (sal n S) G' → FM b μ μ' → pl - (((zQ S p).length : Int) - (zQ (sal n S) p).length) < 0 → K (some (.inl nn)) μ') → (∀ μ' G', HG b μ' (lrn (sal n S)) G' → FM b μ μ' → ¬ pl - (((zQ S p).length : Int) - (zQ (sal n S) p).length) < 0 → K5 [some (.inr (.inr 348)), some (.inl (p : Int)), none, some (.inl (pl - (((zQ S p).length : Int) - (zQ (sal n S) p).length))), some (.inl (nn + 1)), none, none] [] μ') → B_X10_thenSent_37 K K5 [some (.inr (.inr 348)), some (.inl (p : Int)), none, some (.inl (pl - (((zQ S p).length : Int) - (zQ (sal i S) p).length))), some (.inl nn), some (.inl (i : Int)), none] [] μ := by
  have h6 := hg.1.n6
  have hl0 := hg.1.ql (p := p) (by omega)
  intro k
  induction k with
  | zero =>
    intro i μ G hi h k1 k2
    have : i = n := by omega
    subst this
    obtain ⟨a1, a2, a3, a4, a5, a6, a7, a8, a9⟩ := sal_keep i S hg (by omega) h7
    have hl1 := a1.1.ql (p := p) (by omega)
    refine lfp_in ⟨hM, cs8 rfl, h.ofo 0 rfl (by omega) ⟨⟨by omega, by omega⟩, by show R32 (zN (sal i S) : Int); rw [a2]; exact ⟨by omega, by omega⟩, fun _ => ⟨⟨by omega, by omega⟩, fun q => ⟨hM, cs8 rfl, P_X10_forecasts h (fun μ' H' F' => k2 μ' G H' F' (by omega))⟩, fun q => k1 μ G h FM.refl (by omega)⟩, fun q => absurd (by show (zN (sal i S) : Int) ≤ _; rw [a2]; omega) q⟩⟩
  | succ k ih =>
    intro i μ G hi h k1 k2
    obtain ⟨a1, a2, a3, a4, a5, a6, a7, a8, a9⟩ := sal_keep i S hg (by omega) h7
    refine lfp_in ⟨hM, cs8 rfl, h.ofo 0 rfl (by omega) ⟨⟨by omega, by omega⟩, by show R32 (zN (sal i S) : Int); rw [a2]; exact ⟨by omega, by omega⟩, fun q => absurd (show (zN (sal i S) : Int) ≤ i from q) (by rw [a2]; omega), fun _ => ⟨hM, cs8 rfl, P_X10_sends i h rfl (by rw [a2]; omega) (by rw [a3]; exact a7 i (Nat.le_refl _) (by omega)) (fun μ1 G1 H1 F1 => ?_)⟩⟩⟩
    have key := ih (i + 1) μ1 G1 (by omega) H1 (fun μ' G' H' F' => k1 μ' G' H' (F1.trans F')) (fun μ' G' H' F' => k2 μ' G' H' (F1.trans F'))
    refine ⟨⟨by omega, by omega⟩, ⟨by omega, by omega⟩, fun q => ?_, fun q => ?_⟩
    · rw [sal_le i (by omega)] at key
      have e : pl - (((zQ S p).length : Int) - (zQ (sal i S) p).length) = pl - (((zQ S p).length : Int) - (zQ (sal i S) p).length) - 0 := by omega
      rw [e] at key
      exact key
    · have : i = p := by omega
      subst this
      have e : pl - (((zQ S i).length : Int) - (zQ (sal (i + 1) S) i).length) = pl - (((zQ S i).length : Int) - (zQ (sal i S) i).length) - (((zQ (sal i S) i).length : Int) - (zQ (snt (sal i S) i) i).length) := by
        show pl - (((zQ S i).length : Int) - (zQ (snt (sal i S) i) i).length) = _
        omega
      rw [e] at key
      exact key
theorem sti_lp {K : Option AV → MM → Prop} {p : Nat} : ∀ (k i : Nat) (μ : MM) (S : AS) (G : List (Nat × Pkt)) (pl : Int), i + k = 501 → HG 3 μ S G → Gd S → p < zN S → zC S + k ≤ 12000 → (0 ≤ pl ∧ pl ≤ 240) → (∀ μ' S' G', HG 3 μ' S' G' → FM 3 μ μ' → K (some (.inl (sti k i S p pl))) μ') → B_X10_thenSent_5 K [some (.inr (.inr 348)), some (.inl (p : Int)), none, some (.inl pl), some (.inl (i : Int)), none, none] [] μ := by
  intro k
  induction k with
  | zero =>
    intro i μ S G pl hi h hg hp hc hpl hK
    exact lfp_in ⟨⟨by omega, by omega⟩, ⟨by omega, by omega⟩, fun _ => hK μ S G h FM.refl, fun q => absurd (by omega) q⟩
  | succ k ih =>
    intro i μ S G pl hi h hg hp hc hpl hK
    obtain ⟨t1, t2, t3, t4, t5, t6, t7, t8, t9, t10⟩ := tck_keep hg (by omega)
    have e3 : μ.1 349 (2080 * 3 + 3) = zC S := h.hd (by omega)
    have hql := t1.1.ql (p := p) (by omega)
    have hql2 := t3.1.ql (p := p) (by obtain ⟨a1, a2, a3, a4, a5, a6, a7, a8, a9⟩ := sal_keep (zN S) _ t1 (by omega) t2; omega)
    refine lfp_in ⟨⟨by omega, by omega⟩, ⟨by omega, by omega⟩, fun q => absurd q (by omega), fun _ => ⟨hM, cs8 rfl, Q_grows 3 h.1 rfl (by omega) ?_⟩⟩
    rw [e3]
    refine ⟨hM, cs8 rfl, P_X10_fallsDue (HG_clk h (by omega)) (clk_Ge hg (by omega)) (fun μ1 G1 H1 F1 => ?_)⟩
    have H1 : HG 3 μ1 (fls (zR S).length (clk S)) G1 := H1
    have F0 : FM 3 μ μ1 := FM.trans (FM_one (b := 3) (a := 3) (by omega)) F1
    unfold sti at hK
    refine ⟨hM, cs8 rfl, P_X10_waiting p H1 rfl (by omega) ⟨⟨by omega, by omega⟩, ⟨by omega, by omega⟩, fun q => ?_, fun q => ?_⟩⟩
    · rw [if_neg (by omega)] at hK
      have key := sti37_lp (K := K) (K5 := B_X10_thenSent_5 K) (n := zN S) (p := p) (pl := pl) (nn := (i : Int)) t1 t10.symm hp ⟨by omega, by omega⟩ hpl t2 (zN S) 0 μ1 G1 (by omega) H1 (fun μ' G' H' F' q' => ?_) (fun μ' G' H' F' q' => ?_)
      · have e : pl - (((zQ (fls (zR S).length (clk S)) p).length : Int) - (zQ (sal 0 (fls (zR S).length (clk S))) p).length) = pl := by
          show pl - (((zQ (fls (zR S).length (clk S)) p).length : Int) - (zQ (fls (zR S).length (clk S)) p).length) = pl
          omega
        rw [e] at key
        exact key
      · rw [if_pos q'] at hK
        exact hK μ' _ G' H' (F0.trans F')
      · rw [if_neg q'] at hK
        have et : tck S = lrn (sal (zN S) (fls (zR S).length (clk S))) := rfl
        rw [← et] at H'
        have hle : ((zQ (sal (zN S) (fls (zR S).length (clk S))) p).length : Int) ≤ (zQ (fls (zR S).length (clk S)) p).length := by
          have : ∀ j, ((zQ (sal j (fls (zR S).length (clk S))) p).length : Int) ≤ (zQ (fls (zR S).length (clk S)) p).length ∨ zN S < j := by
            intro j
            induction j with
            | zero => exact Or.inl (Int.le_refl _)
            | succ j ihj =>
              by_cases z : zN S < j + 1
              · exact Or.inr z
              · have ihj := ihj.resolve_right (by omega)
                left
                by_cases y : p = j
                · obtain ⟨a1, a2, a3, a4, a5, a6, a7, a8, a9⟩ := sal_keep j _ t1 (by omega) t2
                  show (((if p = j then sdq (zP (sal j (fls (zR S).length (clk S))) j 1) (zQ (sal j (fls (zR S).length (clk S))) j) else zQ (sal j (fls (zR S).length (clk S))) p).length : Nat) : Int) ≤ _
                  rw [if_pos y, ← y]
                  obtain ⟨-, g1, -⟩ := a1.1.pp (p := p) (by omega)
                  have := (sdq_sub (zQ (sal j (fls (zR S).length (clk S))) p) (zP (sal j (fls (zR S).length (clk S))) p 1) g1.1 (fun q hq => (a1.1.qr (p := p) (by omega) hq).1)).1
                  rw [y] at this ihj ⊢
                  omega
                · rw [sal_le j y]
                  exact ihj
          exact (this (zN S)).resolve_right (by omega)
        exact ih (i + 1) μ' (tck S) G' _ (by omega) H' t4 (by omega) (by omega) (by omega) (fun μ3 S3 G3 H3 F3 => hK μ3 S3 G3 H3 (F0.trans (F'.trans F3)))
    · rw [if_pos (by omega)] at hK
      exact hK μ1 _ G1 H1 F0
