/-! PURE 13: a drop is written down (model) -/
theorem R4_F {α : Type} {f f' : Nat → Int} {b : Nat} {w : α → Nat → Int} {L : List α} (h : R4 f b w L) (hf : ∀ k, b ≤ k → k < b + 4 * L.length → f' k = f k) : R4 f' b w L := by
  intro i r hr j hj
  have hi := (List.getElem?_eq_some_iff.mp hr).1
  rw [hf _ (by omega) (by omega)]
  exact h i r hr j hj
theorem uMP {P : Nat → Nat → Int} {p j p' j' : Nat} {v : Int} : uM P p j v p' j' = if p' = p ∧ j' = j then v else P p' j' := rfl
theorem notes_fin {b : Nat} {I I1 I' J : Mi} {S : AS} {G : List (Nat × Pkt)} {p r : Nat} {c : Int} (hm : MR b I J S G) (hb : b < 10) (hl : G.length ≤ 240) (hpm : (zR S).length ≤ 240) (hn6 : zN S ≤ 6) (hp : p < zN S) (hr : 1 ≤ r ∧ r ≤ 3)
    (h1 : ∀ k, 2080 * b ≤ k → k < 2080 * b + 1980 → k ≠ 2080 * b + 8 → I1 349 k = I 349 k)
    (h2 : ∀ i d, i < 19 → (zD S)[i]? = some d → ∀ j, j < 5 → I1 349 (2080 * b + 1980 + 5 * (min 19 (zD S).length - 1 - i) + j) = dw d j)
    (a0 : I' 349 (2080 * b + 1980 + 5 * min 19 (zD S).length) = p) (a1 : I' 349 (2080 * b + 1980 + 5 * min 19 (zD S).length + 1) = c) (a2 : I' 349 (2080 * b + 1980 + 5 * min 19 (zD S).length + 2) = r) (a3 : I' 349 (2080 * b + 1980 + 5 * min 19 (zD S).length + 3) = p) (a4 : I' 349 (2080 * b + 1980 + 5 * min 19 (zD S).length + 4) = I1 349 (2080 * b + 3)) (a5 : I' 349 (2080 * b + 8) = (min 19 (zD S).length : Nat) + 1) (a6 : I' 349 (2080 * b + 4) = I1 349 (2080 * b + 4) + 1) (a7 : I' 349 (2080 * b + 8 + r) = I1 349 (2080 * b + 8 + r) + 1) (a8 : I' 349 (2080 * b + 12 + 8 * p + 4) = I1 349 (2080 * b + 12 + 8 * p + 4) + 1) (a9 : I' 349 (2080 * b + 12 + 8 * p + 6) = I1 349 (2080 * b + 12 + 8 * p + 6) + c)
    (a10 : ∀ k, ¬ (2080 * b + 1980 + 5 * min 19 (zD S).length ≤ k ∧ k ≤ 2080 * b + 1980 + 5 * min 19 (zD S).length + 4) → k ≠ 2080 * b + 8 → k ≠ 2080 * b + 4 → k ≠ 2080 * b + 8 + r → k ≠ 2080 * b + 12 + 8 * p + 4 → k ≠ 2080 * b + 12 + 8 * p + 6 → I' 349 k = I1 349 k) : MR b I' J (nte S p c r) G := by
  obtain ⟨m1, m2, m3, m4, m5, m6, m7, m8⟩ := hm
  have hc : ∀ x : Int, cnt ((p, c, (r : Int), zC S) :: zD S) x = (if (r : Int) = x then 1 else 0) + cnt (zD S) x := fun x => rfl
  refine ⟨?_, ?_, m3, ?_, ?_, ?_, m7, m8⟩
  · intro j hj
    have g := m1 j hj
    have hh : j = 0 ∨ j = 1 ∨ j = 2 ∨ j = 3 ∨ j = 4 ∨ j = 5 ∨ j = 6 ∨ j = 7 ∨ j = 8 ∨ j = 9 ∨ j = 10 ∨ j = 11 := by omega
    rcases hh with rfl | rfl | rfl | rfl | rfl | rfl | rfl | rfl | rfl | rfl | rfl | rfl
    · rw [a10 _ (by omega) (by omega) (by omega) (by omega) (by omega) (by omega), h1 _ (by omega) (by omega) (by omega)]; exact g
    · rw [a10 _ (by omega) (by omega) (by omega) (by omega) (by omega) (by omega), h1 _ (by omega) (by omega) (by omega)]; exact g
    · rw [a10 _ (by omega) (by omega) (by omega) (by omega) (by omega) (by omega), h1 _ (by omega) (by omega) (by omega)]; exact g
    · rw [a10 _ (by omega) (by omega) (by omega) (by omega) (by omega) (by omega), h1 _ (by omega) (by omega) (by omega)]; exact g
    · rw [a6, h1 _ (by omega) (by omega) (by omega), g]
      show ((zD S).length : Int) + 1 = (((zD S).length + 1 : Nat) : Int)
      omega
    · rw [a10 _ (by omega) (by omega) (by omega) (by omega) (by omega) (by omega), h1 _ (by omega) (by omega) (by omega)]; exact g
    · rw [a10 _ (by omega) (by omega) (by omega) (by omega) (by omega) (by omega), h1 _ (by omega) (by omega) (by omega)]; exact g
    · rw [a10 _ (by omega) (by omega) (by omega) (by omega) (by omega) (by omega), h1 _ (by omega) (by omega) (by omega)]; exact g
    · rw [a5]
      show _ = ((min 20 ((zD S).length + 1) : Nat) : Int)
      omega
    · show _ = cnt ((p, c, (r : Int), zC S) :: zD S) 1
      have g : I 349 (2080 * b + 9) = cnt (zD S) 1 := g
      rw [hc]
      by_cases q : r = 1
      · rw [show 2080 * b + 9 = 2080 * b + 8 + r by omega, a7, h1 _ (by omega) (by omega) (by omega), show 2080 * b + 8 + r = 2080 * b + 9 by omega, g, if_pos (by omega)]
        omega
      · rw [a10 _ (by omega) (by omega) (by omega) (by omega) (by omega) (by omega), h1 _ (by omega) (by omega) (by omega), g, if_neg (by omega)]
        omega
    · show _ = cnt ((p, c, (r : Int), zC S) :: zD S) 2
      have g : I 349 (2080 * b + 10) = cnt (zD S) 2 := g
      rw [hc]
      by_cases q : r = 2
      · rw [show 2080 * b + 10 = 2080 * b + 8 + r by omega, a7, h1 _ (by omega) (by omega) (by omega), show 2080 * b + 8 + r = 2080 * b + 10 by omega, g, if_pos (by omega)]
        omega
      · rw [a10 _ (by omega) (by omega) (by omega) (by omega) (by omega) (by omega), h1 _ (by omega) (by omega) (by omega), g, if_neg (by omega)]
        omega
    · show _ = cnt ((p, c, (r : Int), zC S) :: zD S) 3
      have g : I 349 (2080 * b + 11) = cnt (zD S) 3 := g
      rw [hc]
      by_cases q : r = 3
      · rw [show 2080 * b + 11 = 2080 * b + 8 + r by omega, a7, h1 _ (by omega) (by omega) (by omega), show 2080 * b + 8 + r = 2080 * b + 11 by omega, g, if_pos (by omega)]
        omega
      · rw [a10 _ (by omega) (by omega) (by omega) (by omega) (by omega) (by omega), h1 _ (by omega) (by omega) (by omega), g, if_neg (by omega)]
        omega
  · intro p' hp' j hj hj5
    have hp' : p' < zN S := hp'
    show _ = uM (uM (zP S) p 4 (zP S p 4 + 1)) p 6 (zP S p 6 + c) p' j
    rw [uMP, uMP]
    by_cases q : p' = p
    · subst q
      by_cases q6 : j = 6
      · subst q6
        rw [if_pos ⟨rfl, rfl⟩, a9, h1 _ (by omega) (by omega) (by omega), m2 p' hp 6 (by omega) (by omega)]
      · rw [if_neg (fun z => q6 z.2)]
        by_cases q4 : j = 4
        · subst q4
          rw [if_pos ⟨rfl, rfl⟩, a8, h1 _ (by omega) (by omega) (by omega), m2 p' hp 4 (by omega) (by omega)]
        · rw [if_neg (fun z => q4 z.2), a10 _ (by omega) (by omega) (by omega) (by omega) (by omega) (by omega), h1 _ (by omega) (by omega) (by omega)]
          exact m2 p' hp j hj hj5
    · rw [if_neg (fun z => q z.1), if_neg (fun z => q z.1), a10 _ (by omega) (by omega) (by omega) (by omega) (by omega) (by omega), h1 _ (by omega) (by omega) (by omega)]
      exact m2 p' hp' j hj hj5
  · refine R4_F m4 (fun k k1 k2 => ?_)
    rw [a10 _ (by omega) (by omega) (by omega) (by omega) (by omega) (by omega), h1 _ (by omega) (by omega) (by omega)]
  · refine R4_F m5 (fun k k1 k2 => ?_)
    have k2 : k < 2080 * b + 1020 + 4 * (zR S).length := k2
    rw [a10 _ (by omega) (by omega) (by omega) (by omega) (by omega) (by omega), h1 _ (by omega) (by omega) (by omega)]
  · intro i d hi hd j hj
    have hd : ((p, c, (r : Int), zC S) :: zD S)[i]? = some d := hd
    show I' 349 (2080 * b + 1980 + 5 * (min 20 ((zD S).length + 1) - 1 - i) + j) = _
    cases i with
    | zero =>
      cases hd
      rw [show 2080 * b + 1980 + 5 * (min 20 ((zD S).length + 1) - 1 - 0) + j = 2080 * b + 1980 + 5 * min 19 (zD S).length + j by omega]
      have hh : j = 0 ∨ j = 1 ∨ j = 2 ∨ j = 3 ∨ j = 4 := by omega
      rcases hh with rfl | rfl | rfl | rfl | rfl
      · exact a0
      · exact a1
      · exact a2
      · exact a3
      · rw [a4, h1 _ (by omega) (by omega) (by omega)]
        exact m1 3 (by omega)
    | succ i =>
      rw [List.getElem?_cons_succ] at hd
      have hl := (List.getElem?_eq_some_iff.mp hd).1
      rw [show 2080 * b + 1980 + 5 * (min 20 ((zD S).length + 1) - 1 - (i + 1)) + j = 2080 * b + 1980 + 5 * (min 19 (zD S).length - 1 - i) + j by omega, a10 _ (by omega) (by omega) (by omega) (by omega) (by omega) (by omega)]
      exact h2 i d (by omega) hd j hj
theorem P_X10_notes {μ : MM} {K : Option AV → MM → Prop} {b : Nat} {S : AS} {G : List (Nat × Pkt)} {x y : Int} (p r : Nat) {c : Int} (h : HG b μ S G) (hx : x = p) (hy : y = r) (hp : p < zN S) (hr : 1 ≤ r ∧ r ≤ 3) (hR : Rg (nte S p c r)) (hK : ∀ μ', HG b μ' (nte S p c r) G → FM b μ μ' → K none μ') : w_X10_notes [.inr (.inr 348), .inl x, .inl c, .inl y, .inl x] μ K := by
  subst hx
  subst hy
  have hb := h.2.1
  have ho := h.1
  have hl := h.len
  have hpm := h.2.2.1.pmn
  have h6 := h.2.2.1.n6
  have e8 : μ.1 349 (2080 * b + 8) = ((min 20 (zD S).length : Nat) : Int) := h.hd (by omega)
  have fin : ∀ I1 : Mi, I1 349 (2080 * b + 8) = ((min 19 (zD S).length : Nat) : Int) → (∀ e, e ≠ 349 → I1 e = μ.1 e) → (∀ k, ¬ (2080 * b + 1980 ≤ k ∧ k < 2080 * b + 2080) → k ≠ 2080 * b + 8 → I1 349 k = μ.1 349 k) → (∀ i d, i < 19 → (zD S)[i]? = some d → ∀ j, j < 5 → I1 349 (2080 * b + 1980 + 5 * (min 19 (zD S).length - 1 - i) + j) = dw d j) → B_X10_notes_56 K [some (.inr (.inr 348)), some (.inl (p : Int)), some (.inl c), some (.inl (r : Int)), some (.inl (p : Int)), none] [] (I1, μ.2) := by
    intro I1 f8 fe fk fr
    refine notes_56 (μ := (I1, μ.2)) (o := 2080 * b) (n := min 19 (zD S).length) (by show I1 348 3 = _; rw [fe 348 (by decide)]; exact ho) (by omega) f8 (by omega) (by omega) hr ?_
    intro I' b0 b1 b2 b3 b4 b5 b6 b7 b8 b9 b10 b11
    refine hK (I', μ.2) ⟨?_, hb, hR, ?_⟩ ⟨fun e he => (b0 e he).trans (fe e he), fun k hk => ?_, rfl⟩
    · show I' 348 3 = _
      rw [b0 348 (by decide)]
      show I1 348 3 = _
      rw [fe 348 (by decide)]
      exact ho
    · exact notes_fin (I1 := I1) h.2.2.2 hb hl hpm h6 hp hr (fun k k1 k2 k3 => fk k (by omega) k3) fr b1 b2 b3 b4 b5 b6 b7 b8 b9 b10 (fun k k1 k2 k3 k4 k5 k6 => b11 k k1 k2 k3 k4 k5 k6)
    · exact (b11 k (by omega) (by omega) (by omega) (by omega) (by omega) (by omega)).trans (fk k (by omega) (by omega))
  refine ⟨cs8 rfl, hM, cs8 rfl, P_X10_of 8 ho rfl (by omega) ?_⟩
  rw [e8]
  refine ⟨⟨by omega, by omega⟩, ⟨by omega, by omega⟩, fun q => ?_, fun q => ?_⟩
  · have hlt : (zD S).length < 20 := by omega
    refine fin μ.1 (by rw [e8]; omega) (fun _ _ => rfl) (fun _ _ _ => rfl) (fun i d hi hd j hj => ?_)
    have := h.dr hd (by omega) hj
    rw [show min 20 (zD S).length = min 19 (zD S).length by omega] at this
    exact this
  · have hge : 20 ≤ (zD S).length := by omega
    have key := notes_lp (μ := μ) (K := K) (o := 2080 * b) (p := p) (c := c) (r := (r : Int)) ho (by omega) (fun v => by
      refine fin _ ?_ ?_ ?_ ?_
      · rw [uM_s, e8]; omega
      · intro e he
        rw [uM_r he, sd_e he]
      · intro k k1 k2
        rw [uM_k k2, sd_o (by omega)]
      · intro i d hi hd j hj
        rw [uM_k (by omega), sd_i (by omega) (by omega)]
        have := h.dr hd (by omega) hj
        rw [show 2080 * b + 1980 + 5 * (min 19 (zD S).length - 1 - i) + j + 5 = 2080 * b + 1980 + 5 * (min 20 (zD S).length - 1 - i) + j by omega]
        exact this) 95 0 (by omega)
    rw [show 2080 * b + 1980 + 0 = 2080 * b + 1980 by omega, sd_0] at key
    exact key
