/-! PURE 33: the class writes a drop down, takes a promise back -/
theorem CP_tr {q p : Nat} {I J I' J' : Mi} {S S' : AS} (h : CP q I J S p) (h1 : I' q = I q) (h2 : ∀ j, j < 3 → I' (q + 1 + j) = I (q + 1 + j)) (h3 : J' q = J q) (e1 : zM S' p = zM S p) (e2 : zP S' p = zP S p) (e3 : usd S' p = usd S p) (e4 : lnt S' p = lnt S p) (e5 : brw S' p = brw S p) (e6 : zQ S' p = zQ S p) : CP q I' J' S' p := by
  obtain ⟨c0, c1, c2, c3, c4, c5, c6, c7, c8, c9, c10, c11, c12⟩ := h
  unfold CP
  rw [h1, h3, e1, e2, e3, e4, e5, e6]
  exact ⟨c0, c1, c2, c3, c4, c5, c6, c7, c8, c9, c10, c11, fun i r hr j hj => by rw [h2 j hj]; exact c12 i r hr j hj⟩
theorem Q_X1_add {I J : Mi} {K : Option AV → MM → Prop} {e n p r : Nat} {x y c w : Int} (hs : sw e) (hn : I (e + 7) 5 = (n : Int)) (hn2 : n ≤ 30000) (hx : x = p) (hy : y = r) (hr : 1 ≤ r ∧ r ≤ 3) (hK : ∀ I' : Mi, (∀ a, a < e + 7 ∨ e + 13 ≤ a → I' a = I a) → I' (e + 7) 5 = (n : Int) + 1 → I' (e + 8 + 0) (n % 20) = (p : Int) → I' (e + 8 + 1) (n % 20) = c → I' (e + 8 + 2) (n % 20) = (r : Int) → I' (e + 8 + 3) (n % 20) = w → (∀ j k, j < 4 → k ≠ n % 20 → I' (e + 8 + j) k = I (e + 8 + j) k) → I' (e + 12) r = I (e + 12) r + 1 → (∀ k, k ≠ r → I' (e + 12) k = I (e + 12) k) → K none (I', J)) : w_X1_add [.inr (.inr (e + 7)), .inl x, .inl c, .inl y, .inl w] (I, J) K := by
  subst hx
  subst hy
  have hl := sw_ld hs
  have a0 := sw_lda hs (j := 0) (by decide)
  have a1 := sw_lda hs (j := 1) (by decide)
  have a2 := sw_lda hs (j := 2) (by decide)
  have a3 := sw_lda hs (j := 3) (by decide)
  have b := sw_by hs
  have em : (n : Int).tmod 20 = ((n % 20 : Nat) : Int) := by
    rw [Int.tmod_eq_emod_of_nonneg (by omega)]
    omega
  refine ⟨cs8 rfl, hl, ?_⟩
  show o_ci 20 _ _ [.inl (I (e + 7) 5)] _
  rw [hn]
  refine ⟨⟨by omega, by omega⟩, ⟨by omega, by omega⟩, by decide, ?_⟩
  rw [em]
  have h20 : ((n % 20 : Nat) : Int) < 20 := by omega
  have l : ∀ j, j < 4 → ((n % 20 : Nat) : Int) < ((ln (e + 8 + j) : Nat) : Int) := fun j hj => by rw [(sw_lda hs hj).2]; exact h20
  refine ⟨hl, a0.1, by omega, l 0 (by decide), hl, a1.1, by omega, l 1 (by decide), hl, a2.1, by omega, l 2 (by decide), hl, a3.1, by omega, l 3 (by decide), hl, b.1, by omega, ?_, b.1, by omega, ?_, hl, hl, ?_⟩
  · show (r : Int) < ((ln (e + 12) : Nat) : Int); rw [b.2]; omega
  · show (r : Int) < ((ln (e + 12) : Nat) : Int); rw [b.2]; omega
  generalize hX : uM (uM (uM (uM I (e + 8 + 0) (n % 20) (p : Int)) (e + 8 + 1) (n % 20) c) (e + 8 + 2) (n % 20) (r : Int)) (e + 8 + 3) (n % 20) w = X
  have x12 : X (e + 12) = I (e + 12) := by
    rw [← hX, uM_r (by omega), uM_r (by omega), uM_r (by omega), uM_r (by omega)]
  have x7 : X (e + 7) = I (e + 7) := by
    rw [← hX, uM_r (by omega), uM_r (by omega), uM_r (by omega), uM_r (by omega)]
  have key := hK (uM (uM X (e + 12) r (X (e + 12) r + 1)) (e + 7) 5 (uM X (e + 12) r (X (e + 12) r + 1) (e + 7) 5 + 1)) (fun a ha => by
      rw [uM_r (by omega), uM_r (by omega), ← hX, uM_r (by omega), uM_r (by omega), uM_r (by omega), uM_r (by omega)]) (by
      rw [uM_s, uM_e (by omega), x7, hn]) (by
      rw [uM_e (by omega), uM_e (by omega), ← hX, uM_e (by omega), uM_e (by omega), uM_e (by omega)]
      exact uM_s) (by
      rw [uM_e (by omega), uM_e (by omega), ← hX, uM_e (by omega), uM_e (by omega), uM_s]) (by
      rw [uM_e (by omega), uM_e (by omega), ← hX, uM_e (by omega), uM_s]) (by
      rw [uM_e (by omega), uM_e (by omega), ← hX, uM_s]) (fun j k hj hk => by
      rw [uM_e (by omega), uM_e (by omega), ← hX, uM_k hk, uM_k hk, uM_k hk, uM_k hk]) (by
      rw [uM_e (by omega), uM_s, x12]) (fun k hk => by
      rw [uM_e (by omega), uM_k hk, x12])
  rw [← hX] at key
  exact key
/-- a drop comes into the ledger of the class; two numbers of the port are counted -/
theorem CR_nte {e p r : Nat} {I I' J : Mi} {S : AS} {c : Int} (h : CR e I J S) (hp : p < zN S) (h6 : zN S ≤ 6) (hr : 1 ≤ r ∧ r ≤ 3)
    (b1 : ∀ a, a ≠ e + 13 + 4 * p → (a < e + 7 ∨ e + 13 ≤ a) → I' a = I a) (b2 : I' (e + 7) 5 = ((zD S).length : Int) + 1) (b3 : I' (e + 8 + 0) ((zD S).length % 20) = p) (b4 : I' (e + 8 + 1) ((zD S).length % 20) = c) (b5 : I' (e + 8 + 2) ((zD S).length % 20) = r) (b6 : I' (e + 8 + 3) ((zD S).length % 20) = zC S) (b7 : ∀ j k, j < 4 → k ≠ (zD S).length % 20 → I' (e + 8 + j) k = I (e + 8 + j) k) (b8 : I' (e + 12) r = I (e + 12) r + 1) (b9 : ∀ k, k ≠ r → I' (e + 12) k = I (e + 12) k) (b10 : I' (e + 13 + 4 * p) 8 = zP S p 4 + 1) (b11 : I' (e + 13 + 4 * p) 9 = zP S p 6 + c) (b12 : ∀ k, k ≠ 8 → k ≠ 9 → I' (e + 13 + 4 * p) k = I (e + 13 + 4 * p) k) : CR e I' J (nte S p c r) := by
  obtain ⟨c1, c2, c3, c4, c5, cp, c7, c8, c9, c10, c11, c12, c13⟩ := h
  have hc : ∀ x : Int, cnt ((p, c, (r : Int), zC S) :: zD S) x = (if (r : Int) = x then 1 else 0) + cnt (zD S) x := fun x => rfl
  have ee : I' e = I e := b1 e (by omega) (by omega)
  have e2 : I' (e + 2) = I (e + 2) := b1 (e + 2) (by omega) (by omega)
  refine ⟨by rw [ee]; exact c1, by rw [ee]; exact c2, by rw [ee]; exact c3, by rw [ee]; exact c4, by rw [ee]; exact c5, fun p' hp' => ?_, by rw [e2]; exact c7, fun i m hm j hj => by rw [b1 _ (by omega) (by omega)]; exact c8 i m hm j hj, ?_, ?_, ?_, ?_, ?_⟩
  · have hp' : p' < zN S := hp'
    by_cases q : p' = p
    · subst q
      obtain ⟨d0, d1, d2, d3, d4, d5, d6, d7, d8, d9, d10, d11, d12⟩ := cp p' hp'
      have P : ∀ j, j ≠ 4 → j ≠ 6 → zP (nte S p' c r) p' j = zP S p' j := fun j h4 h6 => by
        show uM (uM (zP S) p' 4 _) p' 6 _ p' j = _
        rw [uM_k h6, uM_k h4]
      refine ⟨d0, ?_, ?_, ?_, ?_, ?_, ?_, ?_, ?_, ?_, ?_, ?_, ?_⟩
      · rw [b12 1 (by decide) (by decide), P 0 (by decide) (by decide)]; exact d1
      · rw [b12 2 (by decide) (by decide), P 1 (by decide) (by decide)]; exact d2
      · rw [b12 3 (by decide) (by decide), P 2 (by decide) (by decide)]; exact d3
      · rw [b12 4 (by decide) (by decide), P 3 (by decide) (by decide)]; exact d4
      · rw [b12 5 (by decide) (by decide)]; exact d5
      · rw [b12 6 (by decide) (by decide)]; exact d6
      · rw [b12 7 (by decide) (by decide)]; exact d7
      · rw [b10]
        show _ = uM (uM (zP S) p' 4 _) p' 6 _ p' 4
        rw [uM_k (by decide), uM_s]
      · rw [b11]
        show _ = uM (uM (zP S) p' 4 _) p' 6 _ p' 6
        rw [uM_s]
      · rw [b12 10 (by decide) (by decide), P 7 (by decide) (by decide)]; exact d10
      · rw [b12 11 (by decide) (by decide)]; exact d11
      · exact fun i x hx j hj => by rw [b1 _ (by omega) (by omega)]; exact d12 i x hx j hj
    · refine CP_tr (cp p' hp') (b1 _ (by omega) (by omega)) (fun j hj => b1 _ (by omega) (by omega)) rfl rfl ?_ rfl rfl rfl rfl
      show uM (uM (zP S) p 4 _) p 6 _ p' = _
      rw [uM_r q, uM_r q]
  · rw [b2]
    show _ = (((zD S).length + 1 : Nat) : Int)
    omega
  · intro i d hi hd j hj
    have hd : ((p, c, (r : Int), zC S) :: zD S)[i]? = some d := hd
    show I' (e + 8 + j) (((zD S).length + 1 - 1 - i) % 20) = _
    cases i with
    | zero =>
      cases hd
      rw [show (zD S).length + 1 - 1 - 0 = (zD S).length by omega]
      have hh : j = 0 ∨ j = 1 ∨ j = 2 ∨ j = 3 := by omega
      rcases hh with rfl | rfl | rfl | rfl
      · exact b3
      · exact b4
      · exact b5
      · exact b6
    | succ i =>
      rw [List.getElem?_cons_succ] at hd
      have hl := (List.getElem?_eq_some_iff.mp hd).1
      rw [show (zD S).length + 1 - 1 - (i + 1) = (zD S).length - 1 - i by omega, b7 j _ hj (by omega)]
      exact c10 i d (by omega) hd j hj
  · show _ = cnt ((p, c, (r : Int), zC S) :: zD S) 1
    rw [hc]
    by_cases q : r = 1
    · subst q; rw [b8, c11, if_pos (by decide)]; omega
    · rw [b9 1 (fun z => q z.symm), c11, if_neg (by omega)]; omega
  · show _ = cnt ((p, c, (r : Int), zC S) :: zD S) 2
    rw [hc]
    by_cases q : r = 2
    · subst q; rw [b8, c12, if_pos (by decide)]; omega
    · rw [b9 2 (fun z => q z.symm), c12, if_neg (by omega)]; omega
  · show _ = cnt ((p, c, (r : Int), zC S) :: zD S) 3
    rw [hc]
    by_cases q : r = 3
    · subst q; rw [b8, c13, if_pos (by decide)]; omega
    · rw [b9 3 (fun z => q z.symm), c13, if_neg (by omega)]; omega
theorem FC.refl {e : Nat} {μ : MM} : FC e μ μ := ⟨fun _ _ => rfl, rfl⟩
theorem FC.trans {e : Nat} {μ μ1 μ2 : MM} (h : FC e μ μ1) (h' : FC e μ1 μ2) : FC e μ μ2 := ⟨fun a ha => (h'.1 a ha).trans (h.1 a ha), h'.2.trans h.2⟩
theorem P_X6_recordDrop {μ : MM} {K : Option AV → MM → Prop} {e : Nat} {S : AS} {x y c : Int} (p r : Nat) (h : HC e μ S) (hx : x = p) (hy : y = r) (hp : p < zN S) (hr : 1 ≤ r ∧ r ≤ 3) (hR : Rg (nte S p c r)) (hK : ∀ μ', HC e μ' (nte S p c r) → FC e μ μ' → K none μ') : w_X6_recordDrop [.inr (.inr e), .inl x, .inl c, .inl y] μ K := by
  subst hx
  subst hy
  have hs := h.1
  have h6 := h.2.1.n6
  have hq := sw_pt hs (p := p) (by omega)
  obtain ⟨d0, d1, d2, d3, d4, d5, d6, d7, d8, d9, d10, d11, d12⟩ := h.cp hp
  refine ⟨cs8 rfl, sw_s hs, aq hs (by omega) ⟨hq, hq, sw_s hs, aq hs (by omega) ⟨hq, hq, sw_s hs, sw_s hs, sw_ld hs, cs8 rfl, ?_⟩⟩⟩
  generalize hX : uM (uM μ.1 (e + 13 + 4 * p) 8 (μ.1 (e + 13 + 4 * p) 8 + 1)) (e + 13 + 4 * p) 9 (uM μ.1 (e + 13 + 4 * p) 8 (μ.1 (e + 13 + 4 * p) 8 + 1) (e + 13 + 4 * p) 9 + c) = X
  have xo : ∀ a, a ≠ e + 13 + 4 * p → X a = μ.1 a := fun a ha => by rw [← hX, uM_r ha, uM_r ha]
  have x4 : X e 4 = zC S := by rw [xo e (by omega)]; exact h.cl
  show w_X1_add [.inr (.inr (e + 7)), .inl (p : Int), .inl c, .inl (r : Int), .inl (X e 4)] (X, μ.2) _
  rw [x4]
  refine Q_X1_add (I := X) (J := μ.2) (p := p) (r := r) (n := (zD S).length) hs (by rw [xo _ (by omega)]; exact h.dn) (by have := h.2.1.dl; omega) rfl rfl hr (fun I' b0 b1 b2 b3 b4 b5 b6 b7 b8 => ?_)
  have hxq : I' (e + 13 + 4 * p) = X (e + 13 + 4 * p) := b0 _ (by omega)
  have hm : CR e I' μ.2 (nte S p c r) := CR_nte h.2.2 hp h6 hr (fun a ha1 ha2 => (b0 a ha2).trans (xo a ha1)) b1 b2 b3 b4 b5 (fun j k hj hk => by rw [b6 j k hj hk, xo _ (by omega)]) (by rw [b7, xo _ (by omega)]) (fun k hk => by rw [b8 k hk, xo _ (by omega)]) (by rw [hxq, ← hX, uM_k (by decide), uM_s, d8]) (by rw [hxq, ← hX, uM_s, uM_k (by decide), d9]) (fun k k8 k9 => by rw [hxq, ← hX, uM_k k9, uM_k k8])
  exact hK (I', μ.2) ⟨hs, hR, hm⟩ ⟨fun a ha => (b0 a (by omega)).trans (xo a (by omega)), rfl⟩
