/-! PURE 22: numbers are set; a packet arrives (model) -/
theorem MR_one {b a : Nat} {I J : Mi} {S S' : AS} {G : List (Nat × Pkt)} {v : Int} (hm : MR b I J S G) (hl : G.length ≤ 240) (hl2 : (zR S).length ≤ 240) (h6 : zN S ≤ 6) (ha : a < 60) (e1 : zN S' = zN S) (e2 : zR S' = zR S) (e3 : zD S' = zD S) (e4 : zM S' = zM S) (e5 : zQ S' = zQ S) (hh : ∀ j, j < 12 → (if j = a then v else hdm S G.length j) = hdm S' G.length j) (hp : ∀ p, p < zN S → ∀ j, j < 8 → j ≠ 5 → (if 12 + 8 * p + j = a then v else zP S p j) = zP S' p j) : MR b (uM I 349 (2080 * b + a) v) J S' G := by
  obtain ⟨m1, m2, m3, m4, m5, m6, m7, m8⟩ := hm
  refine ⟨fun j hj => ?_, fun p hp' j hj hj5 => ?_, ?_, ?_, ?_, ?_, ?_, ?_⟩
  · have := hh j hj
    rw [← this]
    by_cases z : j = a
    · subst z
      rw [if_pos rfl, uM_s]
    · rw [if_neg z, uM_k (by omega)]
      exact m1 j hj
  · rw [e1] at hp'
    rw [← hp p hp' j hj hj5]
    by_cases z : 12 + 8 * p + j = a
    · rw [if_pos z, show 2080 * b + 12 + 8 * p + j = 2080 * b + a by omega, uM_s]
    · rw [if_neg z, uM_k (by omega)]
      exact m2 p hp' j hj hj5
  · rw [e1, e4]; exact m3
  · exact R4_F m4 (fun k k1 k2 => uM_k (by omega))
  · rw [e2]
    exact R4_F m5 (fun k k1 k2 => uM_k (by omega))
  · rw [e3]
    intro i d hi hd j hj
    rw [uM_k (by omega)]
    exact m6 i d hi hd j hj
  · rw [e1]; exact m7
  · rw [e1, e5]; exact m8
theorem FM_one {b a : Nat} {μ : MM} {v : Int} (ha : a < 2080) : FM b μ (uM μ.1 349 (2080 * b + a) v, μ.2) := ⟨fun e he => uM_r he, fun k hk => uM_k (by omega), rfl⟩
theorem HG.one {b a : Nat} {μ : MM} {S S' : AS} {G : List (Nat × Pkt)} {v : Int} (h : HG b μ S G) (ha : a < 60) (e1 : zN S' = zN S) (e2 : zR S' = zR S) (e3 : zD S' = zD S) (e4 : zM S' = zM S) (e5 : zQ S' = zQ S) (hh : ∀ j, j < 12 → (if j = a then v else hdm S G.length j) = hdm S' G.length j) (hp : ∀ p, p < zN S → ∀ j, j < 8 → j ≠ 5 → (if 12 + 8 * p + j = a then v else zP S p j) = zP S' p j) (hR : Rg S') : HG b (uM μ.1 349 (2080 * b + a) v, μ.2) S' G :=
  ⟨(by simp only [uS]; exact h.1), h.2.1, hR, MR_one h.2.2.2 h.len h.2.2.1.pmn h.2.2.1.n6 ha e1 e2 e3 e4 e5 hh hp⟩
theorem j12 {j : Nat} (h : j < 12) : j = 0 ∨ j = 1 ∨ j = 2 ∨ j = 3 ∨ j = 4 ∨ j = 5 ∨ j = 6 ∨ j = 7 ∨ j = 8 ∨ j = 9 ∨ j = 10 ∨ j = 11 := by omega
/-- a port's number is set, without its range -/
theorem MR_pt {b p j : Nat} {I J : Mi} {S : AS} {G : List (Nat × Pkt)} {v : Int} (hm : MR b I J S G) (hl : G.length ≤ 240) (hl2 : (zR S).length ≤ 240) (h6 : zN S ≤ 6) (hp : p < zN S) (hj : j < 8) : MR b (uM I 349 (2080 * b + 12 + 8 * p + j) v) J (stP S (uM (zP S) p j v)) G := by
  rw [show 2080 * b + 12 + 8 * p + j = 2080 * b + (12 + 8 * p + j) by omega]
  refine MR_one hm hl hl2 h6 (by omega) rfl rfl rfl rfl rfl (fun i hi => ?_) (fun q hq i hi hi5 => ?_)
  · rw [if_neg (by omega)]
    rcases j12 hi with rfl | rfl | rfl | rfl | rfl | rfl | rfl | rfl | rfl | rfl | rfl | rfl <;> rfl
  · show _ = uM (zP S) p j v q i
    rw [uMP]
    by_cases z : q = p ∧ i = j
    · rw [if_pos z, if_pos (by omega)]
    · rw [if_neg z, if_neg (by omega)]
theorem HG_cmd {b p : Nat} {μ : MM} {S : AS} {G : List (Nat × Pkt)} {c : Int} (h : HG b μ S G) (hp : p < zN S) (hR : Rg (cmd S p c)) : HG b (uM (uM μ.1 349 (2080 * b + 5) (zA S + 1)) 349 (2080 * b + 12 + 8 * p + 3) (zP S p 3 + c), μ.2) (cmd S p c) G := by
  have m1 : MR b (uM μ.1 349 (2080 * b + 5) (zA S + 1)) μ.2 (stG S (zT S) (zK S) (zC S) (zA S + 1)) G := by
    refine MR_one h.2.2.2 h.len h.2.2.1.pmn h.2.2.1.n6 (by omega) rfl rfl rfl rfl rfl (fun i hi => ?_) (fun q hq i hi hi5 => ?_)
    · rcases j12 hi with rfl | rfl | rfl | rfl | rfl | rfl | rfl | rfl | rfl | rfl | rfl | rfl <;> rfl
    · rw [if_neg (by omega)]
  exact ⟨(by simp only [uS]; exact h.1), h.2.1, hR, MR_pt (v := zP S p 3 + c) m1 h.len h.2.2.1.pmn h.2.2.1.n6 hp (by decide)⟩
theorem P_X10_arrives {μ : MM} {K : Option AV → MM → Prop} {b : Nat} {S : AS} {G : List (Nat × Pkt)} {x c : Int} (p : Nat) (h : HG b μ S G) (hg : Gd S) (hx : x = p) (hp : p < zN S) (hc : 1 ≤ c ∧ c ≤ 40) (ha : zA S + 1 ≤ 30000) (hK : ∀ μ' G', HG b μ' (adm S p c).1 G' → FM b μ μ' → K (some (.inl (adm S p c).2)) μ') : w_X10_arrives [.inr (.inr 348), .inl x, .inl c] μ K := by
  subst hx
  have h6 := h.2.2.1.n6
  have hb := h.2.1
  have ho := h.1
  have hr := h.2.2.1.spR hp
  have g := cmd_Gd (p := p) hg hc ha
  have H1 := HG_cmd (c := c) h hp g.1
  have F1 : FM b μ (uM (uM μ.1 349 (2080 * b + 5) (zA S + 1)) 349 (2080 * b + 12 + 8 * p + 3) (zP S p 3 + c), μ.2) := ⟨fun e he => by show uM (uM μ.1 349 _ _) 349 _ _ e = _; rw [uM_r he, uM_r he], fun k hk => by show uM (uM μ.1 349 _ _) 349 _ _ 349 k = _; rw [uM_k (by omega), uM_k (by omega)], rfl⟩
  obtain ⟨w0, w1, w2, w3⟩ := adm_ways (p := p) hg hp hc ha
  have hw := way_r S p c
  have e5 : μ.1 349 (2080 * b + 5) = zA S := h.hd (by omega)
  have e3 : μ.1 349 (2080 * b + 12 + 8 * p + 3) = zP S p 3 := h.pr hp (by omega) (by omega)
  refine ⟨cs8 rfl, hM, cs8 rfl, P_X10_wayIn p h rfl hp hc ⟨hM, cs8 rfl, P_X10_freeOf p h rfl hp ⟨hM, cs8 rfl, Q_grows 5 ho rfl (by omega) ?_⟩⟩⟩
  rw [e5]
  refine ⟨hM, cs8 rfl, Q_growsP p 3 (by simp only [uS, sdS, suS]; exact ho) rfl rfl (by omega) ?_⟩
  rw [uM_k (by omega), e3]
  generalize (uM (uM μ.1 349 (2080 * b + 5) (zA S + 1)) 349 (2080 * b + 12 + 8 * p + 3) (zP S p 3 + c), μ.2) = μ1 at H1 F1 ⊢
  have fin : ∀ (μ2 : MM) (S2 : AS) (G2 : List (Nat × Pkt)) (wy : Nat), HG b μ2 S2 G2 → FM b μ μ2 → wy = way S p c → wy ≤ 2 → adm S p c = (tks S2 p c, if wy = 2 then c - fre S p else 0) → Gd (tks S2 p c) → zN S2 = zN S → B_X10_arrives_72 K [some (.inr (.inr 348)), some (.inl (p : Int)), some (.inl c), some (.inl (wy : Int)), some (.inl (c - fre S p))] [] μ2 := by
    intro μ2 S2 G2 wy H2 F2 hwy hwy2 ea g2 en
    rw [ea] at hK
    refine ⟨hM, cs8 rfl, P_X10_takes p H2 rfl (by rw [en]; exact hp) g2.1 (fun μ3 G3 H3 F3 => ⟨⟨by omega, by omega⟩, ⟨by omega, by omega⟩, fun q => ?_, fun q => ?_⟩)⟩
    · rw [if_neg (by omega)] at hK
      exact hK μ3 G3 H3 (F2.trans F3)
    · rw [if_pos (by omega)] at hK
      exact hK μ3 G3 H3 (F2.trans F3)
  refine ⟨⟨by omega, by omega⟩, ⟨by omega, by omega⟩, fun q => ⟨⟨by omega, by omega⟩, ⟨by omega, by omega⟩, fun q1 => ⟨⟨by omega, by omega⟩, ⟨by omega, by omega⟩, fun q2 => ?_, fun q2 => ⟨hM, cs8 rfl, P_X10_borrows p H1 g rfl hp (w2 (by omega)).2.2.1 (w2 (by omega)).2.2.2 (fun μ2 H2 F2 => ?_)⟩⟩, fun q1 => ⟨hM, cs8 rfl, P_X10_calls p H1 g rfl (by omega) (w1 (by omega)).2.2 (fun μ2 G2 H2 F2 => ?_)⟩⟩, fun q => ?_⟩
  · have w : way S p c = 0 := by omega
    exact fin μ1 (cmd S p c) G (way S p c) H1 F1 rfl (by omega) (by rw [(w0 w).1, w]; rfl) (w0 w).2 rfl
  · have w : way S p c = 2 := by omega
    obtain ⟨k1, k2, k3, k4, k5, k6, k7, k8, k9, k10⟩ := bor_keep p (zN S) (cmd S p c) (c - fre S p) g hp (zcn_le (cmd S p c) p) (w2 w).2.2.1.1 (w2 w).2.2.2
    exact fin μ2 _ G (way S p c) H2 (F1.trans F2) rfl (by omega) (by rw [(w2 w).1, w]; rfl) (w2 w).2.1 k2
  · have w : way S p c = 1 := by omega
    obtain ⟨k1, k2, k3, k4, k5, k6, k7, k8⟩ := col_keep p none (zR S).length (cmd S p c) 0 (c - fre S p) g
    exact fin μ2 _ G2 (way S p c) H2 (F1.trans F2) rfl (by omega) (by rw [(w1 w).1, w]; rfl) (w1 w).2.1 k2
  · have w : way S p c = 3 := by omega
    rw [(w3 w).1] at hK
    exact ⟨hM, cs8 rfl, P_X10_notes p 1 H1 rfl rfl hp (by omega) (w3 w).2.1 (fun μ2 H2 F2 => hK μ2 G H2 (F1.trans F2))⟩
