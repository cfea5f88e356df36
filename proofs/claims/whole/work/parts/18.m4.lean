/-! PURE 6: the model's questions -/
theorem MR_cong {b : Nat} {I J I' J' : Mi} {S : AS} {G : List (Nat × Pkt)} (h1 : I' 349 = I 349) (h2 : J' 350 = J 350) (h : MR b I J S G) : MR b I' J' S G := by
  unfold MR
  rw [h1, h2]
  exact h
theorem HG.thr {b : Nat} {μ : MM} {S : AS} {G : List (Nat × Pkt)} (h : HG b μ S G) (v : Int) : HG b (uM μ.1 348 0 v, μ.2) S G := by
  refine ⟨?_, h.2.1, h.2.2.1, MR_cong (uM_r (I := μ.1) (e := 348) (k := 0) (v := v) (e' := 349) (by decide)) rfl h.2.2.2⟩
  show uM μ.1 348 0 v 348 3 = _
  rw [uM_k (by decide)]
  exact h.1
theorem cm_lt {x y : Int} : cmpL x y < 0 ↔ x < y := by
  unfold cmpL
  split
  · constructor <;> omega
  · split
    · constructor <;> omega
    · constructor <;> omega
theorem cm_gt {x y : Int} : 0 < cmpL x y ↔ y < x := by
  unfold cmpL
  split
  · constructor <;> omega
  · split
    · constructor <;> omega
    · constructor <;> omega
theorem cmp_z {x y : Int} : cmpL x y = 0 ↔ x = y := by
  unfold cmpL
  split
  · constructor <;> omega
  · split
    · constructor <;> omega
    · constructor <;> omega
theorem cm_r {x y : Int} : R32 (cmpL x y) := by
  unfold cmpL
  split
  · exact ⟨by omega, by omega⟩
  · split <;> exact ⟨by omega, by omega⟩
theorem P_X10_in {μ : MM} {K : Option AV → MM → Prop} {x l u : Int} (hx : R64 x) (hl : R64 l) (hu : R64 u) (h1 : l ≤ x → x ≤ u → K (some (.inl 1)) μ) (h0 : ¬ (l ≤ x ∧ x ≤ u) → K (some (.inl 0)) μ) : w_X10_in [.inr (.inl x), .inr (.inl l), .inr (.inl u)] μ K := by
  refine ⟨cs8 rfl, hx, hl, cm_r, fun q => ⟨Or.inl rfl, h0 ?_⟩, fun q => ⟨hx, hu, cm_r, fun q2 => ⟨Or.inl rfl, h0 ?_⟩, fun q2 => ⟨Or.inr rfl, h1 ?_ ?_⟩⟩⟩
  · have := cm_lt.mp q; omega
  · have := cm_gt.mp q2; omega
  · have : ¬ x < l := fun z => q (cm_lt.mpr z); omega
  · have : ¬ u < x := fun z => q2 (cm_gt.mpr z); omega
theorem r64 {x : Int} (h : R32 x) : R64 x := ⟨by have := h.1; omega, by have := h.2; omega⟩
theorem P_X10_good {μ : MM} {K : Option AV → MM → Prop} {v : Int} (hv : v = 0 ∨ v = 1) (h1 : v = 1 → K (some (.inl 1)) (uM μ.1 348 0 0, μ.2)) (h0 : v = 0 → K (some (.inl 0)) (uM μ.1 348 0 1, μ.2)) : w_X10_good [.inr (.inr 348), .inl v] μ K := by
  rcases hv with rfl | rfl
  · exact ⟨cs8 rfl, ⟨by omega, by omega⟩, fun _ => ⟨hM, Or.inl rfl, h0 rfl⟩, fun q => absurd rfl q⟩
  · exact ⟨cs8 rfl, ⟨by omega, by omega⟩, fun q => absurd q (by decide), fun _ => ⟨hM, Or.inr rfl, h1 rfl⟩⟩
theorem P_X10_allGood {μ : MM} {K : Option AV → MM → Prop} {u v : Int} (hu : u = 0 ∨ u = 1) (hv : v = 0 ∨ v = 1) (h1 : u = 1 → v = 1 → K (some (.inl 1)) (uM μ.1 348 0 0, μ.2)) (h2 : u = 1 → v = 0 → K (some (.inl 0)) (uM μ.1 348 0 2, μ.2)) (h0 : u = 0 → K (some (.inl 0)) (uM μ.1 348 0 1, μ.2)) : w_X10_allGood [.inr (.inr 348), .inl u, .inl v] μ K := by
  have g : ∀ t, uM μ.1 348 0 t 348 0 = t := fun t => uM_s
  have key : ∀ t : Int, R32 t → (t = 0 → K (some (.inl 1)) (uM μ.1 348 0 t, μ.2)) → (t ≠ 0 → K (some (.inl 0)) (uM μ.1 348 0 t, μ.2)) → B_X10_allGood_18 (fun v μ' => K v μ') [some (.inr (.inr 348)), none, none] [.inl t, .inr (.inr 348)] μ := by
    intro t ht k1 k2
    refine ⟨hM, hM, ?_⟩
    show R32 (uM μ.1 348 0 t 348 0) ∧ _
    rw [g]
    exact ⟨ht, fun q => ⟨Or.inl rfl, k2 q⟩, fun q => ⟨Or.inr rfl, k1 q⟩⟩
  rcases hu with rfl | rfl
  · exact ⟨cs8 rfl, ⟨by omega, by omega⟩, fun q => absurd rfl q, fun _ => key 1 ⟨by omega, by omega⟩ (fun q => absurd q (by decide)) (fun _ => h0 rfl)⟩
  · refine ⟨cs8 rfl, ⟨by omega, by omega⟩, fun _ => ?_, fun q => absurd q (by decide)⟩
    rcases hv with rfl | rfl
    · exact ⟨⟨by omega, by omega⟩, fun q => absurd rfl q, fun _ => key 2 ⟨by omega, by omega⟩ (fun q => absurd q (by decide)) (fun _ => h2 rfl rfl)⟩
    · exact ⟨⟨by omega, by omega⟩, fun _ => key 0 ⟨by omega, by omega⟩ (fun _ => h1 rfl rfl) (fun q => absurd rfl q), fun q => absurd q (by decide)⟩
theorem P_X10_isPort {μ : MM} {K : Option AV → MM → Prop} {b : Nat} {S : AS} {G : List (Nat × Pkt)} {x : Int} (h : HG b μ S G) (hx : R32 x) (h1 : 0 ≤ x → x < zN S → K (some (.inl 1)) μ) (h0 : ¬ (0 ≤ x ∧ x < zN S) → K (some (.inl 0)) μ) : w_X10_isPort [.inr (.inr 348), .inl x] μ K := by
  have h6 := h.2.2.1.n6
  refine ⟨cs8 rfl, hx, hM, cs8 rfl, h.ofo 0 rfl (by omega) ⟨by show R32 ((zN S : Int) - 1); exact ⟨by omega, by omega⟩, cs8 rfl, cs8 rfl, P_X10_in (r64 hx) ⟨by omega, by omega⟩ (by show R64 ((zN S : Int) - 1); exact ⟨by omega, by omega⟩) (fun q1 q2 => ⟨Or.inr rfl, h1 q1 ?_⟩) (fun q => ⟨Or.inl rfl, h0 (fun z => q ⟨z.1, ?_⟩)⟩)⟩⟩
  · have : x ≤ (zN S : Int) - 1 := q2
    omega
  · show x ≤ (zN S : Int) - 1
    omega
theorem P_X10_isPromise {μ : MM} {K : Option AV → MM → Prop} {b : Nat} {S : AS} {G : List (Nat × Pkt)} {x : Int} (h : HG b μ S G) (hx : R32 x) (h1 : 0 ≤ x → x < (zR S).length → K (some (.inl 1)) μ) (h0 : ¬ (0 ≤ x ∧ x < (zR S).length) → K (some (.inl 0)) μ) : w_X10_isPromise [.inr (.inr 348), .inl x] μ K := by
  have h6 := h.2.2.1.pmn
  refine ⟨cs8 rfl, hx, hM, cs8 rfl, h.ofo 6 rfl (by omega) ⟨by show R32 (((zR S).length : Int) - 1); exact ⟨by omega, by omega⟩, cs8 rfl, cs8 rfl, P_X10_in (r64 hx) ⟨by omega, by omega⟩ (by show R64 (((zR S).length : Int) - 1); exact ⟨by omega, by omega⟩) (fun q1 q2 => ⟨Or.inr rfl, h1 q1 ?_⟩) (fun q => ⟨Or.inl rfl, h0 (fun z => q ⟨z.1, ?_⟩)⟩)⟩⟩
  · have : x ≤ ((zR S).length : Int) - 1 := q2
    omega
  · show x ≤ ((zR S).length : Int) - 1
    omega
theorem P_X10_isCells {μ : MM} {K : Option AV → MM → Prop} {x : Int} (hx : R32 x) (h1 : 1 ≤ x → x ≤ 40 → K (some (.inl 1)) μ) (h0 : ¬ (1 ≤ x ∧ x ≤ 40) → K (some (.inl 0)) μ) : w_X10_isCells [.inl x] μ K := by
  exact ⟨cs8 rfl, hx, cs8 rfl, cs8 rfl, P_X10_in (r64 hx) ⟨by omega, by omega⟩ ⟨by omega, by omega⟩ (fun q1 q2 => ⟨Or.inr rfl, h1 q1 q2⟩) (fun q => ⟨Or.inl rfl, h0 q⟩)⟩
theorem P_X10_isTicks {μ : MM} {K : Option AV → MM → Prop} {x : Int} (hx : R32 x) (h1 : 1 ≤ x → x ≤ 99 → K (some (.inl 1)) μ) (h0 : ¬ (1 ≤ x ∧ x ≤ 99) → K (some (.inl 0)) μ) : w_X10_isTicks [.inl x] μ K := by
  exact ⟨cs8 rfl, hx, cs8 rfl, cs8 rfl, P_X10_in (r64 hx) ⟨by omega, by omega⟩ ⟨by omega, by omega⟩ (fun q1 q2 => ⟨Or.inr rfl, h1 q1 q2⟩) (fun q => ⟨Or.inl rfl, h0 q⟩)⟩
theorem P_X10_isKeep {μ : MM} {K : Option AV → MM → Prop} {x : Int} (hx : R32 x) (h1 : 0 ≤ x → x ≤ 200 → K (some (.inl 1)) μ) (h0 : ¬ (0 ≤ x ∧ x ≤ 200) → K (some (.inl 0)) μ) : w_X10_isKeep [.inl x] μ K := by
  exact ⟨cs8 rfl, hx, cs8 rfl, cs8 rfl, P_X10_in (r64 hx) ⟨by omega, by omega⟩ ⟨by omega, by omega⟩ (fun q1 q2 => ⟨Or.inr rfl, h1 q1 q2⟩) (fun q => ⟨Or.inl rfl, h0 q⟩)⟩

theorem waiting_lp {μ : MM} {post : Option AV → MM → Prop} {b : Nat} {S : AS} {G : List (Nat × Pkt)} (h : HG b μ S G) {p : Nat} (hp : p < 6) : ∀ (k i : Nat) (n : Int), i + k = G.length → post (some (.inl (n + sm ((G.drop i).map (fun g => if g.1 = p then 1 else 0))))) μ → B_X10_waiting_4 post [some (.inr (.inr 348)), some (.inl (p : Int)), some (.inl n), some (.inl (i : Int))] [] μ := by
  have ho := h.1
  have hb := h.2.1
  have hl := h.len
  have e7 : μ.1 349 (2080 * b + 7) = (G.length : Int) := h.hd (by omega)
  intro k
  induction k with
  | zero =>
    intro i n hi hK
    rw [sm_end (by omega), Int.add_zero] at hK
    refine lfp_in ⟨hM, cs8 rfl, P_X10_of 7 ho rfl (by omega) ?_⟩
    rw [e7]
    exact ⟨⟨by omega, by omega⟩, ⟨by omega, by omega⟩, fun _ => hK, fun q => absurd (by omega) q⟩
  | succ k ih =>
    intro i n hi hK
    obtain ⟨g, hg⟩ : ∃ g, G[i]? = some g := ⟨G[i], List.getElem?_eq_getElem (by omega)⟩
    have hr := h.pkr (List.mem_of_getElem? hg)
    rw [sm_drop hg] at hK
    have a0 : μ.1 349 (2080 * b + 60 + 4 * i + 0) = (g.1 : Int) := h.pk hg (by omega)
    refine lfp_in ⟨hM, cs8 rfl, P_X10_of 7 ho rfl (by omega) ?_⟩
    rw [e7]
    refine ⟨⟨by omega, by omega⟩, ⟨by omega, by omega⟩, fun q => absurd q (by omega), fun _ => ⟨hM, cs8 rfl, P_X10_k i 0 ho rfl rfl (by omega) ?_⟩⟩
    rw [a0]
    refine ⟨⟨by omega, by omega⟩, ⟨by omega, by omega⟩, fun q => ?_, fun q => ?_⟩
    · rw [if_neg (by omega), ← Int.add_assoc] at hK
      exact ih (i + 1) _ (by omega) hK
    · rw [if_pos (by omega), ← Int.add_assoc] at hK
      exact ih (i + 1) _ (by omega) hK
theorem sm_one {α : Type} (L : List α) : sm (L.map (fun _ => 1)) = L.length := by
  induction L with
  | nil => rfl
  | cons x L ih => simp only [List.map_cons, sm, ih, List.length_cons]; omega
theorem P_X10_waiting {μ : MM} {K : Option AV → MM → Prop} {b : Nat} {S : AS} {G : List (Nat × Pkt)} {x : Int} (p : Nat) (h : HG b μ S G) (hx : x = p) (hp : p < zN S) (hK : K (some (.inl ((zQ S p).length : Int))) μ) : w_X10_waiting [.inr (.inr 348), .inl x] μ K := by
  subst hx
  have h6 := h.2.2.1.n6
  refine ⟨cs8 rfl, waiting_lp h (p := p) (by omega) G.length 0 0 (by omega) ?_⟩
  rw [List.drop_zero, Int.zero_add, ← fo_sm (f := fun q => 1), sm_one, h.2.2.2.2.2.2.2.2.2.2 p hp]
  exact hK
theorem fo_drop {p i : Nat} {g : Nat × Pkt} {G : List (Nat × Pkt)} (hg : G[i]? = some g) : fo p (G.drop i) = if g.1 = p then g.2 :: fo p (G.drop (i + 1)) else fo p (G.drop (i + 1)) := by
  obtain ⟨hi, e⟩ := List.getElem?_eq_some_iff.mp hg
  rw [List.drop_eq_getElem_cons hi, e]
  rfl
theorem packetOf_lp {μ : MM} {post : Option AV → MM → Prop} {b : Nat} {S : AS} {G : List (Nat × Pkt)} (h : HG b μ S G) {p : Nat} (hp : p < 6) : ∀ (k i : Nat) (n : Int), i + k = G.length → R32 n → (∀ (q : Nat) (g : Nat × Pkt), G[q]? = some g → g.1 = p → 0 ≤ n → (fo p (G.drop i))[n.toNat]? = some g.2 → post (some (.inl (q : Int))) μ) → (¬ (0 ≤ n ∧ n < (fo p (G.drop i)).length) → post (some (.inl (-1))) μ) → B_X10_packetOf_5 post [some (.inr (.inr 348)), some (.inl (p : Int)), none, some (.inl n), some (.inl (i : Int))] [] μ := by
  have ho := h.1
  have hb := h.2.1
  have hl := h.len
  have e7 : μ.1 349 (2080 * b + 7) = (G.length : Int) := h.hd (by omega)
  intro k
  induction k with
  | zero =>
    intro i n hi hn h1 h0
    refine lfp_in ⟨hM, cs8 rfl, P_X10_of 7 ho rfl (by omega) ?_⟩
    rw [e7]
    refine ⟨⟨by omega, by omega⟩, ⟨by omega, by omega⟩, fun _ => h0 ?_, fun q => absurd (by omega) q⟩
    rw [List.drop_eq_nil_of_le (by omega)]
    show ¬ (0 ≤ n ∧ n < 0)
    omega
  | succ k ih =>
    intro i n hi hn h1 h0
    obtain ⟨g, hg⟩ : ∃ g, G[i]? = some g := ⟨G[i], List.getElem?_eq_getElem (by omega)⟩
    have hr := h.pkr (List.mem_of_getElem? hg)
    rw [fo_drop hg] at h1 h0
    have a0 : μ.1 349 (2080 * b + 60 + 4 * i + 0) = (g.1 : Int) := h.pk hg (by omega)
    refine lfp_in ⟨hM, cs8 rfl, P_X10_of 7 ho rfl (by omega) ?_⟩
    rw [e7]
    refine ⟨⟨by omega, by omega⟩, ⟨by omega, by omega⟩, fun q => absurd q (by omega), fun _ => ⟨hn, fun q => h0 (by omega), fun q => ⟨hM, cs8 rfl, P_X10_k i 0 ho rfl rfl (by omega) ?_⟩⟩⟩
    rw [a0]
    refine ⟨⟨by omega, by omega⟩, ⟨by omega, by omega⟩, fun q2 => ⟨hn, fun q3 => ?_, fun q3 => ?_⟩, fun q2 => ?_⟩
    · rw [if_pos (by omega)] at h1 h0
      refine ih (i + 1) (n - 1) (by omega) ⟨by omega, by omega⟩ (fun q' g' e1 e2 e3 e4 => h1 q' g' e1 e2 (by omega) ?_) (fun z => h0 (fun y => z ?_))
      · rw [show n.toNat = (n - 1).toNat + 1 by omega]
        exact e4
      · have := y.2
        rw [List.length_cons] at this
        omega
    · rw [if_pos (by omega)] at h1
      refine h1 i g hg (by omega) (by omega) ?_
      rw [q3]
      rfl
    · rw [if_neg (by omega)] at h1 h0
      exact ih (i + 1) n (by omega) hn h1 h0
theorem P_X10_packetOf {μ : MM} {K : Option AV → MM → Prop} {b : Nat} {S : AS} {G : List (Nat × Pkt)} {x i : Int} (p : Nat) (h : HG b μ S G) (hx : x = p) (hp : p < zN S) (hi : R32 i) (h1 : ∀ (q : Nat) (g : Nat × Pkt), G[q]? = some g → g.1 = p → 0 ≤ i → (zQ S p)[i.toNat]? = some g.2 → K (some (.inl (q : Int))) μ) (h0 : ¬ (0 ≤ i ∧ i < (zQ S p).length) → K (some (.inl (-1))) μ) : w_X10_packetOf [.inr (.inr 348), .inl x, .inl i] μ K := by
  subst hx
  have h6 := h.2.2.1.n6
  have e := h.2.2.2.2.2.2.2.2.2.2 p hp
  refine ⟨cs8 rfl, packetOf_lp h (p := p) (by omega) G.length 0 i (by omega) hi ?_ ?_⟩
  · rw [List.drop_zero, e]; exact h1
  · rw [List.drop_zero, e]; exact h0
