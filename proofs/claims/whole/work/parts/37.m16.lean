/-! PURE 25: ticks, extending, numbers set (model) -/
theorem P_X10_sends {μ : MM} {K : Option AV → MM → Prop} {b : Nat} {S : AS} {G : List (Nat × Pkt)} {x : Int} (p : Nat) (h : HG b μ S G) (hx : x = p) (hp : p < zN S) (hc : zP S p 7 + 9 ≤ 9 * zC S) (hK : ∀ μ' G', HG b μ' (snt S p) G' → FM b μ μ' → K (some (.inl (((zQ S p).length : Int) - (zQ (snt S p) p).length))) μ') : w_X10_sends [.inr (.inr 348), .inl x] μ K := by
  subst hx
  obtain ⟨-, g1, -⟩ := h.2.2.1.pp hp
  have e : (zQ (snt S p) p) = sdq (zP S p 1) (zQ S p) := if_pos rfl
  rw [e] at hK
  refine ⟨cs8 rfl, hM, cs8 rfl, h.po p 1 rfl rfl hp (by omega) (by omega) ?_⟩
  exact sends_lp G.length μ S G 0 (zP S p 1) 0 h hp (by omega) (Or.inl rfl) g1 (by omega) (fun μ' G' H' F' => by
    have := hK μ' G' H' F'
    rw [show (0 : Int) + (zQ S p).length - (sdq (zP S p 1) (zQ S p)).length = ((zQ S p).length : Int) - (sdq (zP S p 1) (zQ S p)).length by omega]
    exact this)
theorem lrk_s {S : AS} {k : Nat} : stP (lrk S k) (uM (uM (zP (lrk S k)) k 2 (zP S k 2 + (16 * zP S k 3 - zP S k 2).tdiv 4)) k 3 0) = lrk S (k + 1) := by
  have e : uM (uM (zP (lrk S k)) k 2 (zP S k 2 + (16 * zP S k 3 - zP S k 2).tdiv 4)) k 3 0 = zP (lrk S (k + 1)) := by
    funext p j
    show uM (uM (fun p j => if p < k then (if j = 2 then zP S p 2 + (16 * zP S p 3 - zP S p 2).tdiv 4 else if j = 3 then 0 else zP S p j) else zP S p j) k 2 _) k 3 0 p j = (if p < k + 1 then (if j = 2 then zP S p 2 + (16 * zP S p 3 - zP S p 2).tdiv 4 else if j = 3 then 0 else zP S p j) else zP S p j)
    simp only [uMP]
    by_cases q : p = k
    · subst q
      rw [if_pos (show p < p + 1 by omega), if_neg (show ¬ p < p by omega)]
      by_cases j3 : j = 3
      · rw [if_pos ⟨rfl, j3⟩, if_neg (by omega), if_pos j3]
      · rw [if_neg (fun z => j3 z.2)]
        by_cases j2 : j = 2
        · rw [if_pos ⟨rfl, j2⟩, if_pos j2]
        · rw [if_neg (fun z => j2 z.2), if_neg j2, if_neg j3]
    · rw [if_neg (fun z => q z.1), if_neg (fun z => q z.1)]
      by_cases y : p < k
      · rw [if_pos y, if_pos (show p < k + 1 by omega)]
      · rw [if_neg y, if_neg (show ¬ p < k + 1 by omega)]
  rw [e]
  rfl
theorem forecasts_lp {K : Option AV → MM → Prop} {b : Nat} {S : AS} {G : List (Nat × Pkt)} (hR : Rg S) : ∀ (k i : Nat) (μ : MM), i + k = zN S → HG b μ (lrk S i) G → (∀ μ', HG b μ' (lrn S) G → FM b μ μ' → K none μ') → B_X10_forecasts_2 K [some (.inr (.inr 348)), some (.inl (i : Int))] [] μ := by
  have h6 := hR.n6
  intro k
  induction k with
  | zero =>
    intro i μ hi h hK
    have : i = zN S := by omega
    subst this
    exact lfp_in ⟨hM, cs8 rfl, h.ofo 0 rfl (by omega) ⟨⟨by omega, by omega⟩, by show R32 (zN S : Int); exact ⟨by omega, by omega⟩, fun _ => hK μ h FM.refl, fun q => absurd (by show (zN S : Int) ≤ _; omega) q⟩⟩
  | succ k ih =>
    intro i μ hi h hK
    have hp : i < zN S := by omega
    have hb := h.2.1
    have ho := h.1
    have hA := hR.2.2.2.2.1
    obtain ⟨-, -, g2, -⟩ := hR.pp hp
    have p2 : zP (lrk S i) i 2 = zP S i 2 := if_neg (Nat.lt_irrefl i)
    have p3 : zP (lrk S i) i 3 = zP S i 3 := if_neg (Nat.lt_irrefl i)
    have a2 : μ.1 349 (2080 * b + 12 + 8 * i + 2) = zP S i 2 := (h.pr (p := i) (j := 2) hp (by omega) (by omega)).trans p2
    refine lfp_in ⟨hM, cs8 rfl, h.ofo 0 rfl (by omega) ⟨⟨by omega, by omega⟩, by show R32 (zN S : Int); exact ⟨by omega, by omega⟩, fun q => absurd (show (zN S : Int) ≤ i from q) (by omega), fun _ => ⟨hM, cs8 rfl, h.po i 3 rfl rfl hp (by omega) (by omega) ?_⟩⟩⟩
    rw [p3]
    refine ⟨hM, cs8 rfl, h.po i 2 rfl rfl hp (by omega) (by omega) ?_⟩
    rw [p2]
    refine ⟨by show R32 (16 * zP S i 3 - zP S i 2); exact ⟨by omega, by omega⟩, ⟨by omega, by omega⟩, by decide, hM, cs8 rfl, Q_growsP i 2 ho rfl rfl (by omega) ⟨hM, cs8 rfl, Q_setP i 3 (by simp only [uS, sdS, suS]; exact ho) rfl rfl (by omega) ?_⟩⟩
    rw [a2]
    have M1 := MR_pt (p := i) (j := 2) (v := zP S i 2 + (16 * zP S i 3 - zP S i 2).tdiv 4) h.2.2.2 h.len h.2.2.1.pmn h6 hp (by decide)
    have M2 := MR_pt (p := i) (j := 3) (v := 0) M1 h.len h.2.2.1.pmn h6 hp (by decide)
    have e : stP (stP (lrk S i) (uM (zP (lrk S i)) i 2 (zP S i 2 + (16 * zP S i 3 - zP S i 2).tdiv 4))) (uM (zP (stP (lrk S i) (uM (zP (lrk S i)) i 2 (zP S i 2 + (16 * zP S i 3 - zP S i 2).tdiv 4)))) i 3 0) = lrk S (i + 1) := lrk_s (S := S) (k := i)
    rw [e] at M2
    have F1 : FM b μ (uM (uM μ.1 349 (2080 * b + 12 + 8 * i + 2) (zP S i 2 + (16 * zP S i 3 - zP S i 2).tdiv 4)) 349 (2080 * b + 12 + 8 * i + 3) 0, μ.2) := ⟨fun e he => by show uM (uM μ.1 349 _ _) 349 _ _ e = _; rw [uM_r he, uM_r he], fun k hk => by show uM (uM μ.1 349 _ _) 349 _ _ 349 k = _; rw [uM_k (by omega), uM_k (by omega)], rfl⟩
    exact ih (i + 1) _ (by omega) ⟨(by simp only [uS, sdS, suS]; exact ho), hb, lrk_Rg (i + 1) hR, M2⟩ (fun μ' H' F' => hK μ' H' (F1.trans F'))
theorem P_X10_forecasts {μ : MM} {K : Option AV → MM → Prop} {b : Nat} {S : AS} {G : List (Nat × Pkt)} (h : HG b μ S G) (hK : ∀ μ', HG b μ' (lrn S) G → FM b μ μ' → K none μ') : w_X10_forecasts [.inr (.inr 348)] μ K := ⟨cs8 rfl, forecasts_lp h.2.2.1 (zN S) 0 μ (by omega) (by rw [lrk_0]; exact h) hK⟩
theorem ticksOne_lp {K : Option AV → MM → Prop} {b n : Nat} {S : AS} (hg : Gd S) (hn : n = zN S) (h7 : ∀ p, p < zN S → zP S p 7 + 9 ≤ 9 * zC S) : ∀ (k i : Nat) (μ : MM) (G : List (Nat × Pkt)), i + k = n → HG b μ (sal i S) G → (∀ μ' G', HG b μ' (lrn (sal n S)) G' → FM b μ μ' → K none μ') → B_X10_ticksOne_12 K [some (.inr (.inr 348)), some (.inl (i : Int)), none] [] μ := by
  have h6 := hg.1.n6
  intro k
  induction k with
  | zero =>
    intro i μ G hi h hK
    have : i = n := by omega
    subst this
    obtain ⟨a1, a2, a3, a4, a5, a6, a7, a8, a9⟩ := sal_keep i S hg (by omega) h7
    exact lfp_in ⟨hM, cs8 rfl, h.ofo 0 rfl (by omega) ⟨⟨by omega, by omega⟩, by show R32 (zN (sal i S) : Int); rw [a2]; exact ⟨by omega, by omega⟩, fun _ => ⟨hM, cs8 rfl, P_X10_forecasts h (fun μ' H' F' => hK μ' G H' F')⟩, fun q => absurd (by show (zN (sal i S) : Int) ≤ _; rw [a2]; omega) q⟩⟩
  | succ k ih =>
    intro i μ G hi h hK
    obtain ⟨a1, a2, a3, a4, a5, a6, a7, a8, a9⟩ := sal_keep i S hg (by omega) h7
    refine lfp_in ⟨hM, cs8 rfl, h.ofo 0 rfl (by omega) ⟨⟨by omega, by omega⟩, by show R32 (zN (sal i S) : Int); rw [a2]; exact ⟨by omega, by omega⟩, fun q => absurd (show (zN (sal i S) : Int) ≤ i from q) (by rw [a2]; omega), fun _ => ⟨hM, cs8 rfl, P_X10_sends i h rfl (by rw [a2]; omega) (by rw [a3]; exact a7 i (Nat.le_refl _) (by omega)) (fun μ1 G1 H1 F1 => ?_)⟩⟩⟩
    exact ih (i + 1) μ1 G1 (by omega) H1 (fun μ' G' H' F' => hK μ' G' H' (F1.trans F'))
theorem HG_clk {b : Nat} {μ : MM} {S : AS} {G : List (Nat × Pkt)} (h : HG b μ S G) (hc : zC S + 1 ≤ 12000) : HG b (uM μ.1 349 (2080 * b + 3) (zC S + 1), μ.2) (clk S) G := by
  refine h.one (by omega) rfl rfl rfl rfl rfl (fun i hi => ?_) (fun q hq i hi hi5 => ?_) (clk_Rg h.2.2.1 hc)
  · rcases j12 hi with rfl | rfl | rfl | rfl | rfl | rfl | rfl | rfl | rfl | rfl | rfl | rfl <;> rfl
  · rw [if_neg (by omega)]
    rfl
theorem P_X10_ticksOne {μ : MM} {K : Option AV → MM → Prop} {b : Nat} {S : AS} {G : List (Nat × Pkt)} (h : HG b μ S G) (hg : Gd S) (hc : zC S + 1 ≤ 12000) (hK : ∀ μ' G', HG b μ' (tck S) G' → FM b μ μ' → K none μ') : w_X10_ticksOne [.inr (.inr 348)] μ K := by
  have hb := h.2.1
  have e3 : μ.1 349 (2080 * b + 3) = zC S := h.hd (by omega)
  obtain ⟨t1, t2, t3, t4, t5, t6, t7, t8, t9, t10⟩ := tck_keep hg hc
  refine ⟨cs8 rfl, hM, cs8 rfl, Q_grows 3 h.1 rfl (by omega) ?_⟩
  rw [e3]
  refine ⟨hM, cs8 rfl, P_X10_fallsDue (HG_clk h hc) (clk_Ge hg hc) (fun μ1 G1 H1 F1 => ?_)⟩
  have H1 : HG b μ1 (fls (zR S).length (clk S)) G1 := H1
  exact ticksOne_lp (n := zN S) t1 t10.symm t2 (zN S) 0 μ1 G1 (by omega) H1 (fun μ' G' H' F' => hK μ' G' H' (FM.trans (FM_one (by omega)) (F1.trans F')))
theorem tkn_keep : ∀ (k : Nat) (S : AS), Gd S → zC S + k ≤ 12000 → Gd (tkn k S) ∧ zN (tkn k S) = zN S ∧ zC (tkn k S) = zC S + k ∧ zA (tkn k S) = zA S ∧ zT (tkn k S) = zT S ∧ zK (tkn k S) = zK S := by
  intro k
  induction k with
  | zero => intro S h _; exact ⟨h, rfl, by show zC S = zC S + 0; omega, rfl, rfl, rfl⟩
  | succ k ih =>
    intro S h hc
    obtain ⟨t1, t2, t3, t4, t5, t6, t7, t8, t9, t10⟩ := tck_keep h (by omega)
    obtain ⟨a1, a2, a3, a4, a5, a6⟩ := ih (tck S) t4 (by omega)
    exact ⟨a1, a2.trans t5, by rw [show tkn (k + 1) S = tkn k (tck S) from rfl, a3]; omega, a4.trans t7, a5.trans t8, a6.trans t9⟩
theorem tkn_s (k : Nat) (S : AS) : tkn (k + 1) S = tck (tkn k S) := by
  induction k generalizing S with
  | zero => rfl
  | succ k ih => exact ih (tck S)
theorem ticksAll_lp {K : Option AV → MM → Prop} {b n : Nat} : ∀ (k i : Nat) (μ : MM) (S : AS) (G : List (Nat × Pkt)), i + k = n → n ≤ 10000 → HG b μ S G → Gd S → zC S + k ≤ 12000 → (∀ μ' G', HG b μ' (tkn k S) G' → FM b μ μ' → K (some (.inl (zC (tkn k S)))) μ') → B_X10_ticksAll_17 K [some (.inr (.inr 348)), some (.inl (n : Int)), some (.inl (i : Int))] [] μ := by
  intro k
  induction k with
  | zero =>
    intro i μ S G hi hn h hg hc hK
    exact lfp_in ⟨⟨by omega, by omega⟩, ⟨by omega, by omega⟩, fun _ => ⟨hM, cs8 rfl, h.ofo 3 rfl (by omega) (hK μ G h FM.refl)⟩, fun q => absurd (by omega) q⟩
  | succ k ih =>
    intro i μ S G hi hn h hg hc hK
    obtain ⟨t1, t2, t3, t4, t5, t6, t7, t8, t9, t10⟩ := tck_keep hg (by omega)
    refine lfp_in ⟨⟨by omega, by omega⟩, ⟨by omega, by omega⟩, fun q => absurd q (by omega), fun _ => ⟨hM, cs8 rfl, P_X10_ticksOne h hg (by omega) (fun μ1 G1 H1 F1 => ?_)⟩⟩
    exact ih (i + 1) μ1 (tck S) G1 (by omega) hn H1 t4 (by omega) (fun μ' G' H' F' => hK μ' G' H' (F1.trans F'))
theorem P_X10_ticksAll {μ : MM} {K : Option AV → MM → Prop} {b : Nat} {S : AS} {G : List (Nat × Pkt)} {x : Int} (n : Nat) (h : HG b μ S G) (hg : Gd S) (hx : x = n) (hn : n ≤ 99) (hc : zC S ≤ 9999) (hK : zC S + n ≤ 9999 → ∀ μ' G', HG b μ' (tkn n S) G' → FM b μ μ' → K (some (.inl (zC S + n))) μ') (h0 : ¬ zC S + n ≤ 9999 → K (some (.inl (-1))) μ) : w_X10_ticksAll [.inr (.inr 348), .inl x] μ K := by
  subst hx
  have hcl := h.2.2.1.2.2.2.1
  refine ⟨cs8 rfl, hM, cs8 rfl, h.ofo 3 rfl (by omega) ⟨by show R32 (zC S + n); exact ⟨by omega, by omega⟩, ⟨by omega, by omega⟩, fun q => ?_, fun q => h0 q⟩⟩
  have q : zC S + n ≤ 9999 := q
  exact ticksAll_lp n 0 μ S G (by omega) (by omega) h hg (by omega) (fun μ' G' H' F' => by
    rw [(tkn_keep n S hg (by omega)).2.2.1]
    exact hK q μ' G' H' F')
theorem P_X10_canGive {μ : MM} {K : Option AV → MM → Prop} {b : Nat} {S : AS} {G : List (Nat × Pkt)} {x y c : Int} (p l : Nat) (h : HG b μ S G) (hx : x = p) (hy : y = l) (hp : p < zN S) (hl : l < zN S) (hc : R32 c) (h1 : c ≤ owd S l p → c ≤ fre S p → K (some (.inl 1)) μ) (h0 : ¬ (c ≤ owd S l p ∧ c ≤ fre S p) → K (some (.inl 0)) μ) : w_X10_canGive [.inr (.inr 348), .inl x, .inl y, .inl c] μ K := by
  subst hx
  subst hy
  have h6 := h.2.2.1.n6
  have ho := h.2.2.1.owdR l p
  have hf := h.2.2.1.spR hp
  exact ⟨cs8 rfl, hM, cs8 rfl, P_X10_owedTo l p h rfl rfl (by omega) (by omega) ⟨⟨by omega, by omega⟩, hc, fun q => ⟨Or.inl rfl, h0 (by omega)⟩, fun q => ⟨hM, cs8 rfl, P_X10_freeOf p h rfl hp ⟨⟨by omega, by omega⟩, hc, fun q2 => ⟨Or.inl rfl, h0 (by omega)⟩, fun q2 => ⟨Or.inr rfl, h1 (by omega) (by omega)⟩⟩⟩⟩⟩
theorem P_X10_canExtend {μ : MM} {K : Option AV → MM → Prop} {b : Nat} {S : AS} {G : List (Nat × Pkt)} {x : Int} {m : Prm} (i : Nat) (h : HG b μ S G) (hx : x = i) (hm : (zR S)[i]? = some m) (h1 : 0 ≤ spr S m.1 → K (some (.inl 1)) μ) (h0 : ¬ 0 ≤ spr S m.1 → K (some (.inl 0)) μ) : w_X10_canExtend [.inr (.inr 348), .inl x] μ K := by
  subst hx
  have hb := h.2.1
  have hi := (List.getElem?_eq_some_iff.mp hm).1
  have hn := h.2.2.1.pmn
  have hmr := h.2.2.1.pmr (List.mem_of_getElem? hm)
  have hs := h.2.2.1.spR hmr.1
  have a0 : μ.1 349 (2080 * b + 1020 + 4 * i + 0) = (m.1 : Int) := h.pm hm (by omega)
  refine ⟨cs8 rfl, hM, cs8 rfl, P_X10_m i 0 h.1 rfl rfl (by omega) ?_⟩
  rw [a0]
  exact ⟨hM, cs8 rfl, P_X10_spareOf m.1 h rfl hmr.1 ⟨⟨by omega, by omega⟩, fun q => ⟨Or.inl rfl, h0 (by omega)⟩, fun q => ⟨Or.inr rfl, h1 (by omega)⟩⟩⟩
theorem ext_eq {S : AS} {i : Nat} {m : Prm} (h : (zR S)[i]? = some m) : ext S i = stR S (pin ((zR S).eraseIdx i) (m.1, m.2.1, m.2.2.1, m.2.2.2 + zT S)) := by
  unfold ext
  rw [h]
theorem ext_Gd {S : AS} {i : Nat} {m : Prm} (h : Gd S) (hm : (zR S)[i]? = some m) (hd : m.2.2.2 + zT S ≤ 3000000) : Gd (ext S i) ∧ Rg (stR S ((zR S).eraseIdx i)) := by
  obtain ⟨hR, hU, hC, hP⟩ := h
  have hi := (List.getElem?_eq_some_iff.mp hm).1
  have hn := hR.pmn
  have hmr := hR.pmr (List.mem_of_getElem? hm)
  have htm := hR.2.1
  have hle : ((zR S).eraseIdx i).length = (zR S).length - 1 := by rw [List.length_eraseIdx, if_pos hi]
  have R0 : Rg (stR S ((zR S).eraseIdx i)) := Rg_R hR (by omega) (fun r hr => hR.pmr (List.mem_of_mem_eraseIdx hr))
  have hpl := pos_le ((zR S).eraseIdx i) (m.2.2.2 + zT S) ((zR S).eraseIdx i).length
  have hlen : (pin ((zR S).eraseIdx i) (m.1, m.2.1, m.2.2.1, m.2.2.2 + zT S)).length = ((zR S).eraseIdx i).length + 1 := List.length_insertIdx_of_le_length hpl _
  rw [ext_eq hm]
  refine ⟨⟨Rg_R hR (by omega) (fun r hr => ?_), fun q hq => ?_, fun r hr => ?_, ?_⟩, R0⟩
  · rcases pin_mem hr with rfl | hr
    · exact ⟨hmr.1, hmr.2.1, hmr.2.2.1, (by show 0 ≤ m.2.2.2 + zT S; omega), hd⟩
    · exact hR.pmr (List.mem_of_mem_eraseIdx hr)
  · have h1 := hU q hq
    have e1 : lnt (stR S (pin ((zR S).eraseIdx i) (m.1, m.2.1, m.2.2.1, m.2.2.2 + zT S))) q = lnt S q := by
      show sm ((pin ((zR S).eraseIdx i) (m.1, m.2.1, m.2.2.1, m.2.2.2 + zT S)).map _) = sm ((zR S).map _)
      rw [pin_sm, sm_er hm]
      show _ - (if m.1 = q then m.2.2.1 else 0) + (if m.1 = q then m.2.2.1 else 0) = _
      omega
    have e2 : brw (stR S (pin ((zR S).eraseIdx i) (m.1, m.2.1, m.2.2.1, m.2.2.2 + zT S))) q = brw S q := by
      show sm ((pin ((zR S).eraseIdx i) (m.1, m.2.1, m.2.2.1, m.2.2.2 + zT S)).map _) = sm ((zR S).map _)
      rw [pin_sm, sm_er hm]
      show _ - (if m.2.1 = q then m.2.2.1 else 0) + (if m.2.1 = q then m.2.2.1 else 0) = _
      omega
    refine ⟨by rw [e1]; exact h1.1, ?_⟩
    show usd S q ≤ zP S q 0 - lnt (stR S (pin ((zR S).eraseIdx i) (m.1, m.2.1, m.2.2.1, m.2.2.2 + zT S))) q + brw (stR S (pin ((zR S).eraseIdx i) (m.1, m.2.1, m.2.2.1, m.2.2.2 + zT S))) q
    rw [e1, e2]
    exact h1.2
  · rcases pin_mem hr with rfl | hr
    · have := hC m (List.mem_of_getElem? hm)
      exact ⟨(by show zC S < m.2.2.2 + zT S; omega), this.2⟩
    · exact hC r (List.mem_of_mem_eraseIdx hr)
  · exact pin_sorted (List.Pairwise.sublist (List.eraseIdx_sublist _ _) hP)
set_option maxHeartbeats 8000000 in
theorem P_X10_extends1 {μ : MM} {K : Option AV → MM → Prop} {b : Nat} {S : AS} {G : List (Nat × Pkt)} {x : Int} {m : Prm} (i : Nat) (h : HG b μ S G) (hg : Gd S) (hx : x = i) (hm : (zR S)[i]? = some m) (hd : m.2.2.2 + zT S ≤ 3000000) (hK : ∀ μ', HG b μ' (ext S i) G → FM b μ μ' → K (some (.inl (m.2.2.2 + zT S))) μ') : w_X10_extends1 [.inr (.inr 348), .inl x] μ K := by
  subst hx
  have hb := h.2.1
  have ho := h.1
  have h6 := h.2.2.1.n6
  have hi := (List.getElem?_eq_some_iff.mp hm).1
  have hn := h.2.2.1.pmn
  have hmr := h.2.2.1.pmr (List.mem_of_getElem? hm)
  have htm := h.2.2.1.2.1
  obtain ⟨g1, R0⟩ := ext_Gd hg hm hd
  have ex := ext_eq hm
  have e6 : μ.1 349 (2080 * b + 6) = ((zR S).length : Int) := h.hd (by omega)
  have a0 : μ.1 349 (2080 * b + 1020 + 4 * i + 0) = (m.1 : Int) := h.pm hm (by omega)
  have a1 : μ.1 349 (2080 * b + 1020 + 4 * i + 1) = (m.2.1 : Int) := h.pm hm (by omega)
  have a2 : μ.1 349 (2080 * b + 1020 + 4 * i + 2) = m.2.2.1 := h.pm hm (by omega)
  have a3 : μ.1 349 (2080 * b + 1020 + 4 * i + 3) = m.2.2.2 := h.pm hm (by omega)
  refine ⟨cs8 rfl, hM, cs8 rfl, P_X10_m i 0 ho rfl rfl (by omega) ?_⟩
  rw [a0]
  refine ⟨hM, cs8 rfl, P_X10_m i 1 ho rfl rfl (by omega) ?_⟩
  rw [a1]
  refine ⟨hM, cs8 rfl, P_X10_m i 2 ho rfl rfl (by omega) ?_⟩
  rw [a2]
  refine ⟨hM, cs8 rfl, P_X10_m i 3 ho rfl rfl (by omega) ?_⟩
  rw [a3]
  show o_aload 0 _ [some (.inr (.inr 348)), some (.inl (i : Int)), some (.inl (m.1 : Int)), some (.inl (m.2.1 : Int)), some (.inl m.2.2.1), none, none] _ μ
  refine ⟨hM, cs8 rfl, h.ofo 1 rfl (by omega) ⟨hM, cs8 rfl, Q_removesPromise i ho (by omega) e6 hn rfl hi ?_⟩⟩
  have M1 := MR_rmP h.2.2.2 hi h.len hn h6
  have H1 : HG b (uM (sd μ.1 (2080 * b + 1020 + 4 * i) (2080 * b + 1020 + 4 * (zR S).length - 4) 4) 349 (2080 * b + 6) (((zR S).length : Int) - 1), μ.2) (stR S ((zR S).eraseIdx i)) G := ⟨(by simp only [uS, sdS, suS]; exact ho), hb, R0, M1⟩
  have F1 : FM b μ (uM (sd μ.1 (2080 * b + 1020 + 4 * i) (2080 * b + 1020 + 4 * (zR S).length - 4) 4) 349 (2080 * b + 6) (((zR S).length : Int) - 1), μ.2) := FM_rm (by omega) (by omega) (by omega)
  rw [ex] at hK g1
  exact ⟨hM, cs8 rfl, P_X10_promises (d := m.2.2.2 + zT S) m.1 m.2.1 H1 rfl rfl ⟨by omega, by omega⟩ g1.1 (fun μ2 v H2 F2 => hK μ2 H2 (F1.trans F2))⟩
