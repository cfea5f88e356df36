/-! PURE 24: a tick (model) -/
theorem les_z {S : AS} {i : Nat} {m : Prm} (hm : (zR S)[i]? = some m) : les S i m.2.2.1 = stR S ((zR S).eraseIdx i) := by
  rw [les_eq hm, if_pos (by omega)]
theorem fallsDue_lp {K : Option AV → MM → Prop} {b : Nat} : ∀ (k : Nat) (μ : MM) (S : AS) (G : List (Nat × Pkt)), (zR S).length = k → HG b μ S G → Ge (zC S) S → (∀ μ' G', HG b μ' (fls k S) G' → FM b μ μ' → K none μ') → B_X10_fallsDue_0 K [some (.inr (.inr 348)), none] [] μ := by
  intro k
  induction k with
  | zero =>
    intro μ S G hk h hg hK
    refine lfp_in ⟨hM, cs8 rfl, h.ofo 6 rfl (by omega) ⟨by show R32 ((zR S).length : Int); exact ⟨by omega, by omega⟩, fun _ => hK μ G h FM.refl, fun z => absurd (by show ((zR S).length : Int) ≤ 0; omega) z⟩⟩
  | succ k ih =>
    intro μ S G hk h hg hK
    have hn := h.2.2.1.pmn
    have hb := h.2.1
    have ho := h.1
    have h6 := h.2.2.1.n6
    have hcl := h.2.2.1.2.2.2.1
    obtain ⟨m, hm⟩ : ∃ m, (zR S)[0]? = some m := ⟨(zR S)[0]'(by omega), List.getElem?_eq_getElem (by omega)⟩
    have hmr := h.2.2.1.pmr (List.mem_of_getElem? hm)
    have hge := (hg.2.2.1 m (List.mem_of_getElem? hm)).1
    have e6 : μ.1 349 (2080 * b + 6) = ((zR S).length : Int) := h.hd (by omega)
    have a1 : μ.1 349 (2080 * b + 1020 + 4 * 0 + 1) = (m.2.1 : Int) := h.pm hm (by omega)
    have a3 : μ.1 349 (2080 * b + 1020 + 4 * 0 + 3) = m.2.2.2 := h.pm hm (by omega)
    refine lfp_in ⟨hM, cs8 rfl, h.ofo 6 rfl (by omega) ⟨by show R32 ((zR S).length : Int); exact ⟨by omega, by omega⟩, fun z => absurd (show ((zR S).length : Int) ≤ 0 from z) (by omega), fun _ => ⟨hM, cs8 rfl, P_X10_m 0 3 ho rfl rfl (by omega) ?_⟩⟩⟩
    rw [a3]
    refine ⟨hM, cs8 rfl, h.ofo 3 rfl (by omega) ⟨⟨by omega, by omega⟩, by show R32 (zC S); exact ⟨by omega, by omega⟩, fun q => ?_, fun q => ⟨hM, cs8 rfl, P_X10_m 0 1 ho rfl rfl (by omega) ?_⟩⟩⟩
    · have q : ¬ m.2.2.2 = zC S := q
      rw [fls_e hm (by omega)] at hK
      exact hK μ G h FM.refl
    have q : m.2.2.2 = zC S := q
    rw [a1]
    rw [fls_s hm (by omega)] at hK
    obtain ⟨g1, g2, g3⟩ := tkb_Ge (c := m.2.2.1) (r := 3) hg hm (by omega) (by omega)
    obtain ⟨n1, n2, n3, n4, n5, n6, n7, n8, n9⟩ := les_N (c := m.2.2.1) hm
    have hl := les_len (c := m.2.2.1) hm
    rw [if_pos (by omega)] at hl
    have hRl := Rg_les (c := m.2.2.1) h.2.2.1 hm (by omega)
    refine ⟨hM, cs8 rfl, Q_removesPromise 0 ho (by omega) e6 hn rfl (by omega) ?_⟩
    have M1 := MR_rmP (q := 0) h.2.2.2 (by omega) h.len hn h6
    rw [← les_z hm] at M1
    have H1 : HG b (uM (sd μ.1 (2080 * b + 1020 + 4 * 0) (2080 * b + 1020 + 4 * (zR S).length - 4) 4) 349 (2080 * b + 6) (((zR S).length : Int) - 1), μ.2) (les S 0 m.2.2.1) G := ⟨(by simp only [uS, sdS, suS]; exact ho), hb, hRl, M1⟩
    have F1 : FM b μ (uM (sd μ.1 (2080 * b + 1020 + 4 * 0) (2080 * b + 1020 + 4 * (zR S).length - 4) 4) 349 (2080 * b + 6) (((zR S).length : Int) - 1), μ.2) := FM_rm (by omega) (by omega) (by omega)
    refine ⟨hM, cs8 rfl, P_X10_shrinks m.2.1 3 H1 rfl rfl (by rw [n1]; exact hmr.2.1) (by omega) g3 (fun μ2 G2 H2 F2 => ?_)⟩
    rw [← tkb_eq hm] at H2
    have s7 := g2.2.2.2.2.2.2.1
    have s4 := g2.2.2.2.1
    exact ih μ2 (tkb S 0 m.2.2.1 3) G2 (by rw [s7, hl]; omega) H2 (by rw [s4, n4]; exact g1) (fun μ' G' H' F' => hK μ' G' H' (F1.trans (F2.trans F')))
theorem P_X10_fallsDue {μ : MM} {K : Option AV → MM → Prop} {b : Nat} {S : AS} {G : List (Nat × Pkt)} (h : HG b μ S G) (hg : Ge (zC S) S) (hK : ∀ μ' G', HG b μ' (fls (zR S).length S) G' → FM b μ μ' → K none μ') : w_X10_fallsDue [.inr (.inr 348)] μ K := ⟨cs8 rfl, fallsDue_lp _ μ S G rfl h hg hK⟩
theorem MR_setK {b i : Nat} {I J : Mi} {S : AS} {G : List (Nat × Pkt)} {g : Nat × Pkt} {v : Int} {Q' : Nat → List Pkt} (hm : MR b I J S G) (hg : G[i]? = some g) (hl : G.length ≤ 240) (h6 : zN S ≤ 6) (hQ : ∀ p, p < zN S → fo p (G.set i (g.1, v, g.2.2)) = Q' p) : MR b (uM I 349 (2080 * b + 60 + 4 * i + 1) v) J (stQ S Q') (G.set i (g.1, v, g.2.2)) := by
  obtain ⟨m1, m2, m3, m4, m5, m6, m7, m8⟩ := hm
  have hi := (List.getElem?_eq_some_iff.mp hg).1
  have far : ∀ k, k ≠ 2080 * b + 60 + 4 * i + 1 → uM I 349 (2080 * b + 60 + 4 * i + 1) v 349 k = I 349 k := fun k h1 => uM_k h1
  refine ⟨?_, ?_, m3, ?_, ?_, ?_, ?_, hQ⟩
  · intro j hj
    rw [far _ (by omega), m1 j hj, List.length_set]
    rcases j12 hj with rfl | rfl | rfl | rfl | rfl | rfl | rfl | rfl | rfl | rfl | rfl | rfl <;> rfl
  · intro p hp j hj hj5
    have hp : p < zN S := hp
    rw [far _ (by omega)]
    exact m2 p hp j hj hj5
  · refine R4_set m4 hg (j0 := 1) (fun j hj hj2 => ?_) uM_s (fun k k1 k2 k3 => far k k3) (by decide)
    have hh : j = 0 ∨ j = 2 ∨ j = 3 := by omega
    rcases hh with rfl | rfl | rfl <;> rfl
  · exact R4_F m5 (fun k k1 k2 => far k (by omega))
  · intro i d hi hd j hj
    rw [far _ (by omega)]
    exact m6 i d hi hd j hj
  · intro x hx
    rcases List.mem_or_eq_of_mem_set hx with hx | rfl
    · exact m7 x hx
    · exact m7 g (List.mem_of_getElem? hg)
theorem set_at {α : Type} (G : List α) (i : Nat) (x : α) (h : i < G.length) : G.set i x = G.take i ++ x :: G.drop (i + 1) := List.set_eq_take_append_cons_drop.trans (if_pos h)
theorem fo_first {p i : Nat} {G : List (Nat × Pkt)} {g : Nat × Pkt} (hg : G[i]? = some g) (hp : g.1 = p) (h0 : fo p (G.take i) = []) (x : Pkt) : fo p G = g.2 :: fo p (G.drop (i + 1)) ∧ fo p (G.eraseIdx i) = fo p (G.drop (i + 1)) ∧ fo p (G.set i (g.1, x)) = x :: fo p (G.drop (i + 1)) := by
  have hi := (List.getElem?_eq_some_iff.mp hg).1
  refine ⟨?_, ?_, ?_⟩
  · conv => lhs; rw [split_at hg, fo_app, h0]
    simp only [fo, hp, if_true, List.nil_append]
  · rw [erase_at, fo_app, h0, List.nil_append]
  · rw [set_at G i _ hi, fo_app, h0, List.nil_append]
    simp only [fo, hp, if_true]
theorem fo_set_o {p i : Nat} {G : List (Nat × Pkt)} {g : Nat × Pkt} (hg : G[i]? = some g) (hp : g.1 ≠ p) (x : Pkt) : fo p (G.set i (g.1, x)) = fo p G := by
  have hi := (List.getElem?_eq_some_iff.mp hg).1
  rw [set_at G i _ hi, fo_app]
  conv => rhs; rw [split_at hg, fo_app]
  simp only [fo, hp, if_false]
set_option maxHeartbeats 8000000 in
theorem sends_lp {K : Option AV → MM → Prop} {b p : Nat} : ∀ (k : Nat) (μ : MM) (S : AS) (G : List (Nat × Pkt)) (i : Nat) (left gone : Int), HG b μ S G → p < zN S → i + k = G.length → fo p (G.take i) = [] ∨ left = 0 → (0 ≤ left ∧ left ≤ 9) → zP S p 7 + left ≤ 9 * zC S → (∀ μ' G', HG b μ' (snl left S p) G' → FM b μ μ' → K (some (.inl (gone + (zQ S p).length - (sdq left (zQ S p)).length))) μ') → B_X10_sends_12 K [some (.inr (.inr 348)), some (.inl (p : Int)), some (.inl left), some (.inl gone), some (.inl (i : Int)), none] [] μ := by
  intro k
  induction k with
  | zero =>
    intro μ S G i left gone h hp hi h0 hl hc hK
    have hg := h.len
    have hu := (h.2.2.1.usdR hp).1
    have hq : left = 0 ∨ (0 ≤ left ∧ zQ S p = []) := by
      rcases h0 with h0 | h0
      · right
        refine ⟨hl.1, ?_⟩
        rw [← h.2.2.2.2.2.2.2.2.2.2 p hp, ← h0, List.take_of_length_le (by omega)]
      · exact Or.inl h0
    have hv : gone + (zQ S p).length - (sdq left (zQ S p)).length = gone := by
      rcases hq with rfl | hq
      · rw [sdq_0 (Int.le_refl _)]; omega
      · rw [hq.2]
        show gone + 0 - 0 = gone
        omega
    rw [snl_0 hq hu, hv] at hK
    refine lfp_in ⟨hM, cs8 rfl, h.ofo 7 rfl (by omega) ⟨⟨by omega, by omega⟩, by show R32 (G.length : Int); exact ⟨by omega, by omega⟩, fun _ => hK μ G h FM.refl, fun z => absurd (by show (G.length : Int) ≤ i; omega) z⟩⟩
  | succ k ih =>
    intro μ S G i left gone h hp hi h0 hl hc hK
    have hg := h.len
    have hu := (h.2.2.1.usdR hp).1
    have hb := h.2.1
    have ho := h.1
    have h6 := h.2.2.1.n6
    obtain ⟨g, hgi⟩ : ∃ g, G[i]? = some g := ⟨G[i], List.getElem?_eq_getElem (by omega)⟩
    have hr := h.pkr (List.mem_of_getElem? hgi)
    have hil := (List.getElem?_eq_some_iff.mp hgi).1
    have a0 : μ.1 349 (2080 * b + 60 + 4 * i + 0) = (g.1 : Int) := h.pk hgi (by omega)
    have a1 : μ.1 349 (2080 * b + 60 + 4 * i + 1) = g.2.1 := h.pk hgi (by omega)
    have a7 : μ.1 349 (2080 * b + 12 + 8 * p + 7) = zP S p 7 := h.pr hp (by omega) (by omega)
    have e7 : μ.1 349 (2080 * b + 7) = (G.length : Int) := h.hd (by omega)
    refine lfp_in ⟨hM, cs8 rfl, h.ofo 7 rfl (by omega) ⟨⟨by omega, by omega⟩, by show R32 (G.length : Int); exact ⟨by omega, by omega⟩, fun z => absurd (show (G.length : Int) ≤ i from z) (by omega), fun _ => ⟨⟨by omega, by omega⟩, fun q => ?_, fun q => ⟨hM, cs8 rfl, P_X10_k i 0 ho rfl rfl (by omega) ?_⟩⟩⟩⟩
    · have : left = 0 := by omega
      subst this
      rw [snl_0 (Or.inl rfl) hu, sdq_0 (Int.le_refl _)] at hK
      have hv : gone + ((zQ S p).length : Int) - (zQ S p).length = gone := by omega
      rw [hv] at hK
      exact hK μ G h FM.refl
    rw [a0]
    have h0 : fo p (G.take i) = [] := h0.resolve_right (by omega)
    have hf := h.2.2.2.2.2.2.2.2.2.2
    have fin : ∀ by' : Int, by' = (if g.2.1 < left then g.2.1 else left) → g.1 = p → B_X10_sends_66 K (B_X10_sends_12 K) [some (.inr (.inr 348)), some (.inl (p : Int)), some (.inl left), some (.inl gone), some (.inl (i : Int)), none] [.inl by'] μ := by
      intro by' hby hgp
      obtain ⟨c1, c2, c3, c4⟩ := by_r (x := g.2.1) (left := left) hr.2.2.1.1 (by omega)
      rw [← hby] at c1 c2 c3 c4
      obtain ⟨f1, f2, f3⟩ := fo_first hgi hgp h0 (g.2.1 - by', g.2.2)
      have hQ : zQ S p = g.2 :: fo p (G.drop (i + 1)) := by rw [← hf p hp]; exact f1
      have ht : ∀ q ∈ fo p (G.drop (i + 1)), (1 ≤ q.1 ∧ q.1 ≤ 40) ∧ (1 ≤ q.2.1 ∧ q.2.1 ≤ 40) ∧ (0 ≤ q.2.2 ∧ q.2.2 ≤ 12000) := fun q hq => h.2.2.1.qr hp (by rw [hQ]; exact List.mem_cons_of_mem _ hq)
      have hts : 0 ≤ sm ((fo p (G.drop (i + 1))).map (fun q => q.1)) := sm_nn (fun x hx => by
        obtain ⟨y, hy, rfl⟩ := List.mem_map.mp hx
        have := ht y hy
        omega)
      -- the two writings
      refine ⟨hM, cs8 rfl, Q_growsP p 7 ho rfl rfl (by omega) ⟨hM, cs8 rfl, Q_grows (60 + 4 * i + 1) (by simp only [uS, sdS, suS]; exact ho) (by omega) (by omega) ?_⟩⟩
      rw [a7, show 2080 * b + (60 + 4 * i + 1) = 2080 * b + 60 + 4 * i + 1 by omega, uM_k (by omega), a1]
      refine ⟨hM, cs8 rfl, Q_k i 1 (by simp only [uS, sdS, suS]; exact ho) rfl rfl (by omega) ?_⟩
      rw [uM_s]
      have M1 := MR_pt (v := zP S p 7 + by') h.2.2.2 hg h.2.2.1.pmn h6 hp (j := 7) (by decide)
      have s1 : MR b (uM (uM μ.1 349 (2080 * b + 12 + 8 * p + 7) (zP S p 7 + by')) 349 (2080 * b + 60 + 4 * i + 1) (g.2.1 + -by')) μ.2 (stQ (stP S (uM (zP S) p 7 (zP S p 7 + by'))) (uQq (zQ S) p ((g.2.1 + -by', g.2.2) :: fo p (G.drop (i + 1))))) (G.set i (g.1, g.2.1 + -by', g.2.2)) := MR_setK M1 hgi hg h6 (fun p' hp' => by
        show _ = (if p' = p then _ else _)
        by_cases z : p' = p
        · rw [if_pos z, z]
          have := (fo_first hgi hgp h0 (g.2.1 + -by', g.2.2)).2.2
          exact this
        · rw [if_neg z, fo_set_o hgi (by omega)]
          exact hf p' hp')
      refine ⟨⟨by omega, by omega⟩, fun q0 => ?_, fun q0 => ⟨hM, cs8 rfl, Q_removesPacket (n := G.length) i (by simp only [uS, sdS, suS]; exact ho) (by omega) (by rw [uM_k (by omega), uM_k (by omega)]; exact e7) hg rfl hil ?_⟩⟩
      · -- in part: nothing is left to send
        have hbl : left = by' := by omega
        subst hbl
        have hlt : left < g.2.1 := by omega
        rw [snl_p hQ (by omega) hlt hts] at hK
        have e1 : sdq left (zQ S p) = (g.2.1 - left, g.2.2) :: fo p (G.drop (i + 1)) := by
          rw [hQ]
          unfold sdq
          rw [if_neg (by omega), if_neg (by omega)]
        have e2 : (zQ S p).length = (fo p (G.drop (i + 1))).length + 1 := by rw [hQ]; rfl
        rw [show g.2.1 + -left = g.2.1 - left by omega] at s1
        have R1 : Rg (sn1 left ((g.2.1 - left, g.2.2) :: fo p (G.drop (i + 1))) S p) := sn1_Rg h.2.2.1 hp hl.1 hc (fun q hq => by
          rcases List.mem_cons.mp hq with rfl | hq
          · exact ⟨(by show 1 ≤ g.2.1 - left ∧ g.2.1 - left ≤ 40; omega), hr.2.2.2⟩
          · exact ht q hq) (by rw [e2]; exact Nat.le_refl _)
        have H1 : HG b (uM (uM μ.1 349 (2080 * b + 12 + 8 * p + 7) (zP S p 7 + left)) 349 (2080 * b + 60 + 4 * i + 1) (g.2.1 - left), μ.2) (sn1 left ((g.2.1 - left, g.2.2) :: fo p (G.drop (i + 1))) S p) (G.set i (g.1, g.2.1 - left, g.2.2)) := ⟨(by simp only [uS, sdS, suS]; exact ho), hb, R1, s1⟩
        have F1 : FM b μ (uM (uM μ.1 349 (2080 * b + 12 + 8 * p + 7) (zP S p 7 + left)) 349 (2080 * b + 60 + 4 * i + 1) (g.2.1 - left), μ.2) := ⟨fun e he => by show uM (uM μ.1 349 _ _) 349 _ _ e = _; rw [uM_r he, uM_r he], fun k hk => by show uM (uM μ.1 349 _ _) 349 _ _ 349 k = _; rw [uM_k (by omega), uM_k (by omega)], rfl⟩
        have key : B_X10_sends_12 K [some (.inr (.inr 348)), some (.inl (p : Int)), some (.inl 0), some (.inl gone), some (.inl (i : Int)), none] [] (uM (uM μ.1 349 (2080 * b + 12 + 8 * p + 7) (zP S p 7 + left)) 349 (2080 * b + 60 + 4 * i + 1) (g.2.1 - left), μ.2) := by
          refine lfp_in ⟨hM, cs8 rfl, H1.ofo 7 rfl (by omega) ⟨⟨by omega, by omega⟩, by show R32 (((G.set i (g.1, g.2.1 - left, g.2.2)).length : Nat) : Int); rw [List.length_set]; exact ⟨by omega, by omega⟩, fun z => absurd (show (((G.set i (g.1, g.2.1 - left, g.2.2)).length : Nat) : Int) ≤ i from z) (by rw [List.length_set]; omega), fun _ => ⟨⟨by omega, by omega⟩, fun _ => ?_, fun z => absurd (by decide) z⟩⟩⟩
          have := hK _ _ H1 F1
          rw [e1, e2] at this
          have hv : gone + (((fo p (G.drop (i + 1))).length + 1 : Nat) : Int) - (((g.2.1 - left, g.2.2) :: fo p (G.drop (i + 1))).length : Nat) = gone := by rw [List.length_cons]; omega
          rw [hv] at this
          exact this
        rw [show g.2.1 + -left = g.2.1 - left by omega]
        rw [show (0 : Int) = left - left by omega] at key
        exact key
      · -- whole
        have hbg : by' = g.2.1 := by omega
        subst hbg
        rw [snl_w hQ (by omega) (by omega)] at hK
        have e1 : sdq left (zQ S p) = sdq (left - g.2.1) (fo p (G.drop (i + 1))) := by
          rw [hQ]
          conv => lhs; unfold sdq
          rw [if_neg (by omega), if_pos (by omega)]
        have e2 : (zQ S p).length = (fo p (G.drop (i + 1))).length + 1 := by rw [hQ]; rfl
        have sl : (G.set i (g.1, g.2.1 + -g.2.1, g.2.2)).length = G.length := List.length_set
        have M2 := MR_rm (q := i) (Q' := uQq (zQ S) p (fo p (G.drop (i + 1)))) s1 (by omega) (by omega) h6 (fun p' hp' => by
          rw [List.eraseIdx_set_eq]
          show _ = (if p' = p then _ else _)
          by_cases z : p' = p
          · rw [if_pos z, z]; exact f2
          · rw [if_neg z, fo_er hgi (by omega)]
            exact hf p' hp')
        rw [sl, List.eraseIdx_set_eq] at M2
        have R1 : Rg (sn1 g.2.1 (fo p (G.drop (i + 1))) S p) := sn1_Rg h.2.2.1 hp (by omega) (by omega) ht (by omega)
        have H1 : HG b (uM (sd (uM (uM μ.1 349 (2080 * b + 12 + 8 * p + 7) (zP S p 7 + g.2.1)) 349 (2080 * b + 60 + 4 * i + 1) (g.2.1 + -g.2.1)) (2080 * b + 60 + 4 * i) (2080 * b + 60 + 4 * G.length - 4) 4) 349 (2080 * b + 7) ((G.length : Int) - 1), μ.2) (sn1 g.2.1 (fo p (G.drop (i + 1))) S p) (G.eraseIdx i) := ⟨(by simp only [uS, sdS, suS]; exact ho), hb, R1, M2⟩
        have F1 : FM b μ (uM (sd (uM (uM μ.1 349 (2080 * b + 12 + 8 * p + 7) (zP S p 7 + g.2.1)) 349 (2080 * b + 60 + 4 * i + 1) (g.2.1 + -g.2.1)) (2080 * b + 60 + 4 * i) (2080 * b + 60 + 4 * G.length - 4) 4) 349 (2080 * b + 7) ((G.length : Int) - 1), μ.2) := ⟨fun e he => by show uM (sd (uM (uM μ.1 349 _ _) 349 _ _) _ _ _) 349 _ _ e = _; rw [uM_r he, sd_e he, uM_r he, uM_r he], fun k hk => by show uM (sd (uM (uM μ.1 349 _ _) 349 _ _) _ _ _) 349 _ _ 349 k = _; rw [uM_k (by omega), sd_o (by omega), uM_k (by omega), uM_k (by omega)], rfl⟩
        have hle : (G.eraseIdx i).length = G.length - 1 := by rw [List.length_eraseIdx, if_pos hil]
        have ht0 : (G.eraseIdx i).take i = G.take i := by
          rw [erase_at, List.take_append_of_le_length (by rw [List.length_take]; omega), List.take_take, Nat.min_self]
        have hz7 : zP (sn1 g.2.1 (fo p (G.drop (i + 1))) S p) p 7 = zP S p 7 + g.2.1 := uM_s
        have hzq : zQ (sn1 g.2.1 (fo p (G.drop (i + 1))) S p) p = fo p (G.drop (i + 1)) := if_pos rfl
        exact ih _ _ (G.eraseIdx i) i (left - g.2.1) (gone + 1) H1 hp (by omega) (Or.inl (by rw [ht0]; exact h0)) (by omega) (by rw [hz7]; show _ ≤ 9 * zC S; omega) (fun μ' G' H' F' => by
          have := hK μ' G' H' (F1.trans F')
          rw [hzq]
          rw [e1, e2] at this
          rw [show gone + 1 + ((fo p (G.drop (i + 1))).length : Int) - (sdq (left - g.2.1) (fo p (G.drop (i + 1)))).length = gone + (((fo p (G.drop (i + 1))).length + 1 : Nat) : Int) - (sdq (left - g.2.1) (fo p (G.drop (i + 1)))).length by omega]
          exact this)
    refine ⟨⟨by omega, by omega⟩, ⟨by omega, by omega⟩, fun q2 => ⟨hM, cs8 rfl, P_X10_k i 1 ho rfl rfl (by omega) ?_⟩, fun q2 => ?_⟩
    · rw [a1]
      refine ⟨⟨by omega, by omega⟩, ⟨by omega, by omega⟩, fun q3 => fin left (by rw [if_neg (by omega)]) (by omega), fun q3 => ⟨hM, cs8 rfl, P_X10_k i 1 ho rfl rfl (by omega) ?_⟩⟩
      rw [a1]
      exact fin g.2.1 (by rw [if_pos (by omega)]) (by omega)
    · refine ih μ S G (i + 1) left gone h hp (by omega) (Or.inl ?_) hl hc hK
      rw [List.take_succ, fo_app, h0, hgi]
      show (if g.1 = p then _ else _) = _
      rw [if_neg (by omega)]
      rfl
