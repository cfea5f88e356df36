/-! PURE 35: a promise is taken back, cells are collected (class) -/
theorem les_Rlen {S : AS} {i : Nat} {m : Prm} {c : Int} (h : (zR S)[i]? = some m) (hc : m.2.2.1 - c = 0) : zR (les S i c) = (zR S).eraseIdx i := by
  rw [les_eq h, if_pos hc]
theorem P_X6_takeBack {μ : MM} {K : Option AV → MM → Prop} {e : Nat} {S : AS} {x y c : Int} {m : Prm} (i r : Nat) (h : HC e μ S) (hx : x = i) (hy : y = r) (hm : (zR S)[i]? = some m) (hc : 1 ≤ c ∧ c ≤ m.2.2.1) (hr : 1 ≤ r ∧ r ≤ 3) (hrm : 0 ≤ rom (les S i c) m.2.1) (hK : ∀ μ', HC e μ' (tkb S i c r) → FC e μ μ' → K none μ') : w_X6_takeBack [.inr (.inr e), .inl x, .inl c, .inl y] μ K := by
  subst hx
  subst hy
  have hs := h.1
  have h6 := h.2.1.n6
  have hi := (List.getElem?_eq_some_iff.mp hm).1
  have hn := h.2.1.pmn
  have hmr := h.2.1.pmr (List.mem_of_getElem? hm)
  have a0 := sw_pma hs (j := 0) (by decide)
  have a1 := sw_pma hs (j := 1) (by decide)
  have a2 := sw_pma hs (j := 2) (by decide)
  have hl := sw_pt hs (p := m.1) (by omega)
  have hb := sw_pt hs (p := m.2.1) (by omega)
  have v0 : μ.1 (e + 3 + 0) i = (m.1 : Int) := h.pm hm (by decide)
  have v1 : μ.1 (e + 3 + 1) i = (m.2.1 : Int) := h.pm hm (by decide)
  have v2 : μ.1 (e + 3 + 2) i = m.2.2.1 := h.pm hm (by decide)
  have il : ∀ j, j < 4 → (i : Int) < ((ln (e + 3 + j) : Nat) : Int) := fun j hj => by rw [(sw_pma hs hj).2]; omega
  have hRl := Rg_les h.2.1 hm hc
  obtain ⟨n1, n2, n3, n4, n5, n6, n7, n8, n9⟩ := les_N (c := c) hm
  have hlen := les_len (c := c) hm
  rw [tkb_eq hm] at hK
  -- what is held behind the change of the promise
  have fin : ∀ I' : Mi, CR e I' μ.2 (les S i c) → (∀ a, a < e ∨ e + 37 ≤ a → I' a = μ.1 a) → B_X6_takeBack_91 K [some (.inr (.inr e)), none, none, some (.inl (r : Int)), none, some (.inl (m.2.1 : Int)), some (.inr (.inr (e + 13 + 4 * m.2.1))), none] [] (I', μ.2) := by
    intro I' hI hF
    have H1 : HC e (I', μ.2) (les S i c) := ⟨hs, hRl, hI⟩
    have hbn : m.2.1 < zN (les S i c) := by rw [n1]; exact hmr.2.1
    refine ⟨hb, ?_⟩
    have w : I' (e + 13 + 4 * m.2.1) 11 = ((zQ (les S i c) m.2.1).length : Int) := (H1.cp hbn).2.2.2.2.2.2.2.2.2.2.2.1
    show o_istore 7 _ _ [.inl (I' (e + 13 + 4 * m.2.1) 11)] _
    rw [w]
    exact takeBack98_lp hr _ (I', μ.2) (les S i c) rfl H1 hbn hrm (fun μ' H' F' => hK μ' H' (FC.trans (μ1 := (I', μ.2)) ⟨hF, rfl⟩ F'))
  refine ⟨cs8 rfl, sw_s hs, sw_pm hs, a0.1, by omega, il 0 (by decide), ?_⟩
  show o_istore 4 _ _ [.inl (μ.1 (e + 3 + 0) i)] μ
  rw [v0]
  refine ⟨sw_s hs, sw_pm hs, a1.1, by omega, il 1 (by decide), ?_⟩
  show o_istore 5 _ _ [.inl (μ.1 (e + 3 + 1) i)] μ
  rw [v1]
  refine ⟨sw_s hs, aq hs (p := m.2.1) (by omega) ?_⟩
  show o_astore 6 _ [some (.inr (.inr e)), some (.inl (i : Int)), some (.inl c), some (.inl (r : Int)), some (.inl (m.1 : Int)), some (.inl (m.2.1 : Int)), none, none] _ μ
  refine ⟨sw_s hs, aq hs (p := m.1) (by omega) ⟨hl, hl, hb, hb, sw_s hs, sw_pm hs, a2.1, by omega, il 2 (by decide), a2.1, by omega, il 2 (by decide), sw_s hs, sw_pm hs, a2.1, by omega, il 2 (by decide), ?_⟩⟩
  obtain ⟨ld0, ld1, ld2, ld3, ld4, ld5, ld6, ld7, -⟩ := h.cp hmr.1
  obtain ⟨bd0, bd1, bd2, bd3, bd4, bd5, bd6, bd7, -⟩ := h.cp hmr.2.1
  generalize hX : uM (uM μ.1 (e + 13 + 4 * m.1) 6 (μ.1 (e + 13 + 4 * m.1) 6 - c)) (e + 13 + 4 * m.2.1) 7 (uM μ.1 (e + 13 + 4 * m.1) 6 (μ.1 (e + 13 + 4 * m.1) 6 - c) (e + 13 + 4 * m.2.1) 7 - c) = X
  have xr : ∀ a, (∀ p, p < zN S → a ≠ e + 13 + 4 * p) → X a = μ.1 a := fun a ha => by rw [← hX, uM_r (ha _ hmr.2.1), uM_r (ha _ hmr.1)]
  have xk : ∀ p, p < zN S → ∀ k, k ≠ 6 → k ≠ 7 → X (e + 13 + 4 * p) k = μ.1 (e + 13 + 4 * p) k := fun p _ k k6 k7 => by rw [← hX, uM_k k7, uM_k k6]
  have x6 : ∀ p, p < zN S → X (e + 13 + 4 * p) 6 = lnt (les S i c) p := fun p hp => by
    rw [← hX, uM_k (by decide), les_lnt hm]
    by_cases z : m.1 = p
    · subst z
      rw [uM_s, if_pos rfl, ld6]
    · rw [uM_e (by omega), if_neg z]
      have := (h.cp hp).2.2.2.2.2.2.1
      omega
  have x7 : ∀ p, p < zN S → X (e + 13 + 4 * p) 7 = brw (les S i c) p := fun p hp => by
    rw [← hX, les_brw hm]
    by_cases z : m.2.1 = p
    · subst z
      rw [uM_s, uM_k (by decide), if_pos rfl, bd7]
    · rw [uM_e (by omega), uM_k (by decide), if_neg z]
      have := (h.cp hp).2.2.2.2.2.2.2.1
      omega
  have xv : X (e + 3 + 2) i = m.2.2.1 := by rw [xr _ (fun p _ => by omega)]; exact v2
  have xn : X (e + 2) 4 = ((zR S).length : Int) := by rw [xr _ (fun p _ => by omega)]; exact h.pn
  have Xc : uM X (e + 3 + 2) i (X (e + 3 + 2) i - c) = uM X (e + 3 + 2) i (m.2.2.1 - c) := by rw [xv]
  have les_ne : ∀ R', zR (les S i c) = R' → les S i c = stR S R' := fun R' hR' => by rw [les_eq hm] at hR' ⊢; have hR' : (if m.2.2.1 - c = 0 then (zR S).eraseIdx i else (zR S).set i (m.1, m.2.1, m.2.2.1 - c, m.2.2.2)) = R' := hR'; rw [hR']
  show o_if_ne _ _ _ [.inl (uM X (e + 3 + 2) i (X (e + 3 + 2) i - c) (e + 3 + 2) i)] (uM X (e + 3 + 2) i (X (e + 3 + 2) i - c), μ.2)
  rw [Xc, uM_s]
  refine ⟨⟨by omega, by omega⟩, fun q => ?_, fun q => ⟨sw_s hs, sw_pm hs, cs8 rfl, Q_X3_remove (n := (zR S).length) hs (by rw [uM_e (by omega)]; exact xn) hn rfl hi ?_⟩⟩
  · have eR : zR (les S i c) = (zR S).set i (m.1, m.2.1, m.2.2.1 - c, m.2.2.2) := by rw [les_eq hm, if_neg q]
    have eS := les_ne _ eR
    refine fin _ ?_ (fun a ha => ?_)
    · rw [eS]
      refine CR_R h.2.2 ?_ (fun p hp k k6 k7 => ?_) (fun p hp => ?_) (fun p hp => ?_) (fun p hp j hj => ?_) ?_ (fun k x hx j hj => ?_) (fun a h1 h2 => ?_)
      · rw [uM_r (by omega), xr _ (fun p _ => by omega)]
      · rw [uM_e (by omega)]; exact xk p hp k k6 k7
      · rw [uM_e (by omega), x6 p hp, eS]
      · rw [uM_e (by omega), x7 p hp, eS]
      · rw [uM_r (by omega), xr _ (fun p _ => by omega)]
      · rw [uM_e (by omega), xn, List.length_set]
      · rw [List.getElem?_set] at hx
        split at hx
        · rename_i z
          subst z
          cases hx
          have hh : j = 0 ∨ j = 1 ∨ j = 2 ∨ j = 3 := by omega
          rcases hh with rfl | rfl | rfl | rfl
          · rw [uM_e (by omega), xr _ (fun p _ => by omega)]; exact v0
          · rw [uM_e (by omega), xr _ (fun p _ => by omega)]; exact v1
          · rw [uM_s]; rfl
          · rw [uM_e (by omega), xr _ (fun p _ => by omega)]
            have v3 := h.pm hm (j := 3) (by decide)
            exact v3
        · rename_i z
          rw [uM_k (fun y => z y.symm), xr _ (fun p _ => by omega)]
          exact h.pm hx hj
      · rw [uM_r (by omega), xr _ (fun p _ => by omega)]
    · show uM X _ _ _ a = _
      rw [uM_r (by omega), xr _ (fun p _ => by omega)]
  · have eR := les_Rlen hm q
    have eS := les_ne _ eR
    refine fin _ ?_ (fun a ha => ?_)
    · rw [eS]
      refine CR_R h.2.2 ?_ (fun p hp k k6 k7 => ?_) (fun p hp => ?_) (fun p hp => ?_) (fun p hp j hj => ?_) ?_ (fun k x hx j hj => ?_) (fun a h1 h2 => ?_)
      · rw [dn_e (by omega), uM_r (by omega), uM_r (by omega), xr _ (fun p _ => by omega)]
      · rw [dn_e (by omega), uM_e (by omega), uM_e (by omega)]; exact xk p hp k k6 k7
      · rw [dn_e (by omega), uM_e (by omega), uM_e (by omega), x6 p hp, eS]
      · rw [dn_e (by omega), uM_e (by omega), uM_e (by omega), x7 p hp, eS]
      · rw [dn_e (by omega), uM_r (by omega), uM_r (by omega), xr _ (fun p _ => by omega)]
      · rw [dn_e (by omega), uM_s, List.length_eraseIdx, if_pos hi]; omega
      · rw [List.getElem?_eraseIdx] at hx
        split at hx
        · rw [dn_o (by omega), uM_e (by omega), uM_k (by omega), xr _ (fun p _ => by omega)]
          exact h.pm hx hj
        · have hk := (List.getElem?_eq_some_iff.mp hx).1
          rw [dn_i hj (by omega) (by omega), uM_e (by omega), uM_k (by omega), xr _ (fun p _ => by omega)]
          exact h.pm hx hj
      · rw [dn_e (by omega), uM_r (by omega), uM_r (by omega), xr _ (fun p _ => by omega)]
    · show dn (uM (uM X _ _ _) _ _ _) _ _ _ a = _
      rw [dn_e (by omega), uM_r (by omega), uM_r (by omega), xr _ (fun p _ => by omega)]
