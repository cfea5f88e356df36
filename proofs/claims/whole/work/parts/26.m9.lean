/-! PURE 14: packets are dropped (model) -/
theorem fo_app (p : Nat) (A B : List (Nat × Pkt)) : fo p (A ++ B) = fo p A ++ fo p B := by
  induction A with
  | nil => rfl
  | cons g A ih =>
    rw [List.cons_append]
    by_cases q : g.1 = p
    · simp only [fo, q, if_true, ih, List.cons_append]
    · simp only [fo, q, if_false, ih]
theorem fo_none {p : Nat} {A : List (Nat × Pkt)} (h : ∀ g ∈ A, g.1 ≠ p) : fo p A = [] := by
  induction A with
  | nil => rfl
  | cons g A ih =>
    simp only [fo, h g List.mem_cons_self, if_false]
    exact ih (fun x hx => h x (List.mem_cons_of_mem _ hx))
theorem split_at {α : Type} {G : List α} {q : Nat} {g : α} (h : G[q]? = some g) : G = G.take q ++ g :: G.drop (q + 1) := by
  obtain ⟨hq, e⟩ := List.getElem?_eq_some_iff.mp h
  have : G.drop q = g :: G.drop (q + 1) := by rw [List.drop_eq_getElem_cons hq, e]
  rw [← this, List.take_append_drop]
theorem erase_at {α : Type} (G : List α) (q : Nat) : G.eraseIdx q = G.take q ++ G.drop (q + 1) := List.eraseIdx_eq_take_drop_succ G q
theorem fo_er {G : List (Nat × Pkt)} {q p : Nat} {g : Nat × Pkt} (h : G[q]? = some g) (hp : g.1 ≠ p) : fo p (G.eraseIdx q) = fo p G := by
  rw [erase_at, fo_app]
  conv => rhs; rw [split_at h, fo_app]
  simp only [fo, hp, if_false]
theorem fo_last {G : List (Nat × Pkt)} {q : Nat} {g : Nat × Pkt} (h : G[q]? = some g) (hl : ∀ (q' : Nat) (g' : Nat × Pkt), q < q' → G[q']? = some g' → g'.1 ≠ g.1) : fo g.1 G = fo g.1 (G.eraseIdx q) ++ [g.2] := by
  have hn : fo g.1 (G.drop (q + 1)) = [] := fo_none (fun x hx => by
    obtain ⟨i, hi⟩ := List.mem_iff_getElem?.mp hx
    rw [List.getElem?_drop] at hi
    exact hl _ x (by omega) hi)
  rw [erase_at, fo_app, hn, List.append_nil]
  conv => lhs; rw [split_at h, fo_app]
  simp only [fo, if_true, hn]
theorem R4_rm {α : Type} {f f' : Nat → Int} {b q : Nat} {w : α → Nat → Int} {L : List α} (h : R4 f b w L) (hq : q < L.length) (h1 : ∀ k, b ≤ k → k < b + 4 * q → f' k = f k) (h2 : ∀ k, b + 4 * q ≤ k → k < b + 4 * L.length - 4 → f' k = f (k + 4)) : R4 f' b w (L.eraseIdx q) := by
  intro i r hr j hj
  rw [List.getElem?_eraseIdx] at hr
  split at hr
  · rw [h1 _ (by omega) (by omega)]
    exact h i r hr j hj
  · have hi := (List.getElem?_eq_some_iff.mp hr).1
    rw [h2 _ (by omega) (by omega), show b + 4 * i + j + 4 = b + 4 * (i + 1) + j by omega]
    exact h (i + 1) r hr j hj
theorem removesPacket_lp {I J : Mi} {K : Option AV → MM → Prop} {o q n : Nat} (ho : I 348 3 = o) (hob : o ≤ 18720) (hn : I 349 (o + 7) = n) (hn1 : 1 ≤ n) (hn2 : n ≤ 240) (hq : q < n) (hK : K none (uM (sd I (o + 60 + 4 * q) (o + 60 + 4 * n - 4) 4) 349 (o + 7) ((n : Int) - 1), J)) : ∀ k i : Nat, i + k = 4 * n - 4 → 4 * q ≤ i → B_X10_removesPacket_4 K [some (.inr (.inr 348)), none, some (.inl (i : Int))] [] (sd I (o + 60 + 4 * q) (o + 60 + i) 4, J) := by
  have e7 : ∀ hi, sd I (o + 60 + 4 * q) hi 4 349 (o + 7) = n := fun hi => by rw [sd_o (by omega)]; exact hn
  intro k
  induction k with
  | zero =>
    intro i hi h4
    have : i = 4 * n - 4 := by omega
    subst this
    refine lfp_in ⟨hM, cs8 rfl, Q_of 7 (by simp only [uS, sdS, suS]; exact ho) rfl (by omega) ?_⟩
    rw [e7]
    refine ⟨⟨by omega, by omega⟩, ⟨by omega, by omega⟩, fun _ => ⟨hM, cs8 rfl, Q_grows 7 (by simp only [uS, sdS, suS]; exact ho) rfl (by omega) ?_⟩, fun z => absurd (by omega) z⟩
    rw [e7]
    rw [show o + 60 + 4 * n - 4 = o + 60 + (4 * n - 4) by omega] at hK
    exact hK
  | succ k ih =>
    intro i hi h4
    refine lfp_in ⟨hM, cs8 rfl, Q_of 7 (by simp only [uS, sdS, suS]; exact ho) rfl (by omega) ?_⟩
    rw [e7]
    refine ⟨⟨by omega, by omega⟩, ⟨by omega, by omega⟩, fun z => absurd z (by omega), fun _ => ⟨hM, cs8 rfl, Q_of (60 + i + 4) (by simp only [uS, sdS, suS]; exact ho) (by omega) (by omega) ⟨hM, cs8 rfl, Q_set (60 + i) (by simp only [uS, sdS, suS]; exact ho) (by omega) (by omega) ?_⟩⟩⟩
    have key := ih (i + 1) (by omega) (by omega)
    have e := sd_s (I := I) (lo := o + 60 + 4 * q) (m := o + 60 + i) (d := 4) (by omega) (by omega)
    rw [show o + 60 + (i + 1) = o + 60 + i + 1 by omega, ← e, show o + 60 + i = o + (60 + i) by omega, show o + (60 + i) + 4 = o + (60 + i + 4) by omega] at key
    rw [show o + 60 + i = o + (60 + i) by omega]
    exact key
theorem Q_removesPacket {I J : Mi} {K : Option AV → MM → Prop} {o n : Nat} {x : Int} (q : Nat) (ho : I 348 3 = o) (hob : o ≤ 18720) (hn : I 349 (o + 7) = n) (hn2 : n ≤ 240) (hx : x = q) (hq : q < n) (hK : K none (uM (sd I (o + 60 + 4 * q) (o + 60 + 4 * n - 4) 4) 349 (o + 7) ((n : Int) - 1), J)) : w_X10_removesPacket [.inr (.inr 348), .inl x] (I, J) K := by
  subst hx
  have key := removesPacket_lp (J := J) ho hob hn (by omega) hn2 hq hK (4 * n - 4 - 4 * q) (4 * q) (by omega) (by omega)
  rw [sd_0] at key
  refine ⟨cs8 rfl, ?_⟩
  show B_X10_removesPacket_4 K [some (.inr (.inr 348)), none, some (.inl (4 * (q : Int)))] [] (I, J)
  rw [show 4 * (q : Int) = ((4 * q : Nat) : Int) by omega]
  exact key
theorem MR_rm {b q : Nat} {I J : Mi} {S : AS} {G : List (Nat × Pkt)} {Q' : Nat → List Pkt} (hm : MR b I J S G) (hq : q < G.length) (hl : G.length ≤ 240) (h6 : zN S ≤ 6) (hQ : ∀ p, p < zN S → fo p (G.eraseIdx q) = Q' p) : MR b (uM (sd I (2080 * b + 60 + 4 * q) (2080 * b + 60 + 4 * G.length - 4) 4) 349 (2080 * b + 7) ((G.length : Int) - 1)) J (stQ S Q') (G.eraseIdx q) := by
  obtain ⟨m1, m2, m3, m4, m5, m6, m7, m8⟩ := hm
  have hle : (G.eraseIdx q).length = G.length - 1 := by rw [List.length_eraseIdx, if_pos hq]
  have far : ∀ k, k ≠ 2080 * b + 7 → (k < 2080 * b + 60 + 4 * q ∨ 2080 * b + 60 + 4 * G.length - 4 ≤ k) → uM (sd I (2080 * b + 60 + 4 * q) (2080 * b + 60 + 4 * G.length - 4) 4) 349 (2080 * b + 7) ((G.length : Int) - 1) 349 k = I 349 k := fun k h1 h2 => by rw [uM_k h1, sd_o h2]
  refine ⟨?_, ?_, m3, ?_, ?_, ?_, ?_, hQ⟩
  · intro j hj
    by_cases q7 : j = 7
    · subst q7
      rw [uM_s]
      show _ = (((G.eraseIdx q).length : Nat) : Int)
      omega
    · rw [far _ (by omega) (by omega), m1 j hj]
      have hh : j = 0 ∨ j = 1 ∨ j = 2 ∨ j = 3 ∨ j = 4 ∨ j = 5 ∨ j = 6 ∨ j = 8 ∨ j = 9 ∨ j = 10 ∨ j = 11 := by omega
      rcases hh with rfl | rfl | rfl | rfl | rfl | rfl | rfl | rfl | rfl | rfl | rfl <;> rfl
  · intro p hp j hj hj5
    have hp : p < zN S := hp
    rw [far _ (by omega) (by omega)]
    exact m2 p hp j hj hj5
  · refine R4_rm m4 hq (fun k k1 k2 => far k (by omega) (by omega)) (fun k k1 k2 => ?_)
    rw [uM_k (by omega), sd_i (by omega) (by omega)]
  · exact R4_F m5 (fun k k1 k2 => far k (by omega) (by omega))
  · intro i d hi hd j hj
    rw [far _ (by omega) (by omega)]
    exact m6 i d hi hd j hj
  · exact fun g hg => m7 g (List.mem_of_mem_eraseIdx hg)
theorem newest_lp {μ : MM} {post : Option AV → MM → Prop} {b : Nat} {S : AS} {G : List (Nat × Pkt)} (h : HG b μ S G) {p : Nat} (hp : p < 6) : ∀ (k i : Nat) (n : Int), i + k = G.length → (∀ (q : Nat) (g : Nat × Pkt), G[q]? = some g → g.1 = p → i ≤ q → (∀ (q' : Nat) (g' : Nat × Pkt), q < q' → G[q']? = some g' → g'.1 ≠ p) → post (some (.inl (q : Int))) μ) → ((∀ (q : Nat) (g : Nat × Pkt), i ≤ q → G[q]? = some g → g.1 ≠ p) → post (some (.inl n)) μ) → B_X10_newest_4 post [some (.inr (.inr 348)), some (.inl (p : Int)), some (.inl n), some (.inl (i : Int))] [] μ := by
  have ho := h.1
  have hb := h.2.1
  have hl := h.len
  have e7 : μ.1 349 (2080 * b + 7) = (G.length : Int) := h.hd (by omega)
  intro k
  induction k with
  | zero =>
    intro i n hi h1 h0
    refine lfp_in ⟨hM, cs8 rfl, P_X10_of 7 ho rfl (by omega) ?_⟩
    rw [e7]
    refine ⟨⟨by omega, by omega⟩, ⟨by omega, by omega⟩, fun _ => h0 (fun q g hq hg => ?_), fun q => absurd (by omega) q⟩
    have := (List.getElem?_eq_some_iff.mp hg).1
    omega
  | succ k ih =>
    intro i n hi h1 h0
    obtain ⟨g, hg⟩ : ∃ g, G[i]? = some g := ⟨G[i], List.getElem?_eq_getElem (by omega)⟩
    have hr := h.pkr (List.mem_of_getElem? hg)
    have a0 : μ.1 349 (2080 * b + 60 + 4 * i + 0) = (g.1 : Int) := h.pk hg (by omega)
    refine lfp_in ⟨hM, cs8 rfl, P_X10_of 7 ho rfl (by omega) ?_⟩
    rw [e7]
    refine ⟨⟨by omega, by omega⟩, ⟨by omega, by omega⟩, fun q => absurd q (by omega), fun _ => ⟨hM, cs8 rfl, P_X10_k i 0 ho rfl rfl (by omega) ?_⟩⟩
    rw [a0]
    refine ⟨⟨by omega, by omega⟩, ⟨by omega, by omega⟩, fun q => ?_, fun q => ?_⟩
    · refine ih (i + 1) n (by omega) (fun q' g' e1 e2 e3 e4 => h1 q' g' e1 e2 (by omega) e4) (fun z => h0 (fun q' g' e1 e2 => ?_))
      by_cases y : q' = i
      · subst y
        rw [hg] at e2
        cases e2
        omega
      · exact z q' g' (by omega) e2
    · refine ih (i + 1) (i : Int) (by omega) (fun q' g' e1 e2 e3 e4 => h1 q' g' e1 e2 (by omega) e4) (fun z => ?_)
      exact h1 i g hg (by omega) (by omega) (fun q' g' e1 e2 => z q' g' (by omega) e2)
theorem P_X10_newest {μ : MM} {K : Option AV → MM → Prop} {b : Nat} {S : AS} {G : List (Nat × Pkt)} {x : Int} (p : Nat) (h : HG b μ S G) (hx : x = p) (hp : p < zN S) (hne : zQ S p ≠ []) (hK : ∀ (q : Nat) (g : Nat × Pkt), G[q]? = some g → g.1 = p → (∀ (q' : Nat) (g' : Nat × Pkt), q < q' → G[q']? = some g' → g'.1 ≠ p) → K (some (.inl (q : Int))) μ) : w_X10_newest [.inr (.inr 348), .inl x] μ K := by
  subst hx
  have h6 := h.2.2.1.n6
  have e := h.2.2.2.2.2.2.2.2.2.2 p hp
  refine ⟨cs8 rfl, newest_lp h (p := p) (by omega) G.length 0 (-1) (by omega) (fun q g e1 e2 _ e4 => hK q g e1 e2 e4) (fun z => absurd ?_ hne)⟩
  rw [← e]
  refine fo_none (fun g hg => ?_)
  obtain ⟨i, hi⟩ := List.mem_iff_getElem?.mp hg
  exact z i g (by omega) hi
/-! a drop in the ranges -/
theorem sg_upd {n p : Nat} {f : Nat → Int} {v : Int} (hp : p < n) : sg n (fun i => if i = p then v else f i) = sg n f - f p + v := by
  have e : sg n (fun i => (if i = p then v else f i)) = sg n (fun i => f i + (if i = p then v - f p else 0)) := sg_congr (fun i _ => by
    by_cases q : i = p
    · subst q; rw [if_pos rfl, if_pos rfl]; omega
    · rw [if_neg q, if_neg q]; omega)
  rw [e, sg_add, sg_one (p := p) hp (fun i _ hi => if_neg hi), if_pos rfl]
  omega
theorem wtn_uQ {S : AS} {p : Nat} {L : List Pkt} (hp : p < zN S) : wtn (stQ S (uQq (zQ S) p L)) = wtn S - (zQ S p).length + L.length := by
  have e : wtn (stQ S (uQq (zQ S) p L)) = sg (zN S) (fun i => if i = p then (L.length : Int) else ((zQ S i).length : Int)) := sg_congr (fun i _ => by
    show (((if i = p then L else zQ S i).length : Nat) : Int) = _
    by_cases q : i = p
    · rw [if_pos q, if_pos q]
    · rw [if_neg q, if_neg q])
  rw [e, sg_upd hp]
  rfl
theorem Rg_Q {S : AS} {p : Nat} {L : List Pkt} (h : Rg S) (hp : p < zN S) (hs : ∀ q ∈ L, (1 ≤ q.1 ∧ q.1 ≤ 40) ∧ (1 ≤ q.2.1 ∧ q.2.1 ≤ 40) ∧ (0 ≤ q.2.2 ∧ q.2.2 ≤ 12000)) (hl : L.length ≤ (zQ S p).length) : Rg (stQ S (uQq (zQ S) p L)) := by
  obtain ⟨r1, r2, r3, r4, r5, r6, r7, r8, r9, r10, r11, r12⟩ := h
  have hw := wtn_uQ (S := S) (L := L) hp
  refine ⟨r1, r2, r3, r4, r5, r6, ?_, by omega, r9, r10, ?_, r12⟩
  · intro p' hp' q hq
    have hq : q ∈ (if p' = p then L else zQ S p') := hq
    split at hq
    · exact hs q hq
    · exact r7 p' hp' q hq
  · show ((zD S).length : Int) + wtn (stQ S (uQq (zQ S) p L)) ≤ zA S
    omega
theorem Rg_nte {S : AS} {p : Nat} {c r : Int} (h : Rg S) (hp : p < zN S) (hc : 1 ≤ c ∧ c ≤ 40) (hr : 1 ≤ r ∧ r ≤ 3) (hA : ((zD S).length : Int) + 1 + wtn S ≤ zA S) : Rg (nte S p c r) := by
  obtain ⟨r1, r2, r3, r4, r5, r6, r7, r8, r9, r10, r11, r12⟩ := h
  refine ⟨r1, r2, r3, r4, r5, ?_, r7, r8, r9, r10, ?_, ?_⟩
  · intro p' hp'
    have g := r6 p' hp'
    obtain ⟨g0, g1, g2, g3, g4, g5⟩ := g
    show PR (uM (uM (zP S) p 4 (zP S p 4 + 1)) p 6 (zP S p 6 + c) p') (zA S) (zC S) (((zD S).length + 1 : Nat) : Int)
    by_cases q : p' = p
    · subst q
      refine ⟨?_, ?_, ?_, ?_, ?_, ?_⟩
      · simp only [uMP]; exact g0
      · simp only [uMP]; exact g1
      · simp only [uMP]; exact g2
      · simp only [uMP]
        show 0 ≤ zP S p' 4 + 1 ∧ zP S p' 4 + 1 ≤ _
        omega
      · simp only [uMP]
        show 0 ≤ zP S p' 6 + c ∧ zP S p' 6 + c ≤ _
        omega
      · simp only [uMP]; exact g5
    · have e : uM (uM (zP S) p 4 (zP S p 4 + 1)) p 6 (zP S p 6 + c) p' = zP S p' := by rw [uM_r q, uM_r q]
      rw [e]
      exact ⟨g0, g1, g2, by omega, by omega, g5⟩
  · show (((zD S).length + 1 : Nat) : Int) + wtn S ≤ zA S
    omega
  · intro d hd
    rcases List.mem_cons.mp hd with rfl | hd
    · exact ⟨hp, hc, hr, r4⟩
    · exact r12 d hd
