/-! PURE 41: a promise is prolonged (class) -/
theorem ext_lnt {S : AS} {i : Nat} {m : Prm} (hm : (zR S)[i]? = some m) (q : Nat) : lnt (ext S i) q = lnt S q := by
  rw [ext_eq hm]
  show sm ((pin ((zR S).eraseIdx i) (m.1, m.2.1, m.2.2.1, m.2.2.2 + zT S)).map _) = sm ((zR S).map _)
  rw [pin_sm, sm_er hm]
  show _ - (if m.1 = q then m.2.2.1 else 0) + (if m.1 = q then m.2.2.1 else 0) = _
  omega
theorem ext_brw {S : AS} {i : Nat} {m : Prm} (hm : (zR S)[i]? = some m) (q : Nat) : brw (ext S i) q = brw S q := by
  rw [ext_eq hm]
  show sm ((pin ((zR S).eraseIdx i) (m.1, m.2.1, m.2.2.1, m.2.2.2 + zT S)).map _) = sm ((zR S).map _)
  rw [pin_sm, sm_er hm]
  show _ - (if m.2.1 = q then m.2.2.1 else 0) + (if m.2.1 = q then m.2.2.1 else 0) = _
  omega
set_option maxHeartbeats 8000000 in
theorem P_X6_prolong {μ : MM} {K : Option AV → MM → Prop} {e : Nat} {S : AS} {x : Int} {m : Prm} (i : Nat) (h : HC e μ S) (hg : Gd S) (hx : x = i) (hm : (zR S)[i]? = some m) (hd : m.2.2.2 + zT S ≤ 3000000) (hK : ∀ μ', HC e μ' (ext S i) → FC e μ μ' → K (some (.inl (m.2.2.2 + zT S))) μ') : w_X6_prolong [.inr (.inr e), .inl x] μ K := by
  subst hx
  have hs := h.1
  have h6 := h.2.1.n6
  have hle := sw_lt e hs
  have hi := (List.getElem?_eq_some_iff.mp hm).1
  have hn := h.2.1.pmn
  have hmr := h.2.1.pmr (List.mem_of_getElem? hm)
  have htm := h.2.1.2.1
  obtain ⟨g1, R0⟩ := ext_Gd hg hm hd
  have ex := ext_eq hm
  have a0 := sw_pma hs (j := 0) (by decide)
  have a1 := sw_pma hs (j := 1) (by decide)
  have a2 := sw_pma hs (j := 2) (by decide)
  have a3 := sw_pma hs (j := 3) (by decide)
  have il : ∀ j, j < 4 → (i : Int) < ((ln (e + 3 + j) : Nat) : Int) := fun j hj => by rw [(sw_pma hs hj).2]; omega
  have v0 : μ.1 (e + 3 + 0) i = (m.1 : Int) := h.pm hm (by decide)
  have v1 : μ.1 (e + 3 + 1) i = (m.2.1 : Int) := h.pm hm (by decide)
  have v2 : μ.1 (e + 3 + 2) i = m.2.2.1 := h.pm hm (by decide)
  have v3 : μ.1 (e + 3 + 3) i = m.2.2.2 := h.pm hm (by decide)
  refine ⟨cs8 rfl, sw_s hs, sw_pm hs, a3.1, by omega, il 3 (by decide), sw_s hs, ?_⟩
  show o_iadd _ _ [.inl (μ.1 e 2), .inl (μ.1 (e + 3 + 3) i)] μ
  rw [v3, h.t]
  refine ⟨sw_s hs, sw_pm hs, a0.1, by omega, il 0 (by decide), ?_⟩
  show o_istore 3 _ _ [.inl (μ.1 (e + 3 + 0) i)] μ
  rw [v0]
  refine ⟨sw_s hs, sw_pm hs, a1.1, by omega, il 1 (by decide), ?_⟩
  show o_istore 4 _ [some (.inr (.inr e)), some (.inl (i : Int)), some (.inl (m.2.2.2 + zT S)), some (.inl (m.1 : Int)), none, none] [.inl (μ.1 (e + 3 + 1) i)] μ
  rw [v1]
  refine ⟨sw_s hs, sw_pm hs, a2.1, by omega, il 2 (by decide), ?_⟩
  show o_istore 5 _ [some (.inr (.inr e)), some (.inl (i : Int)), some (.inl (m.2.2.2 + zT S)), some (.inl (m.1 : Int)), some (.inl (m.2.1 : Int)), none] [.inl (μ.1 (e + 3 + 2) i)] μ
  rw [v2]
  have hlen : ((zR S).eraseIdx i).length = (zR S).length - 1 := by rw [List.length_eraseIdx, if_pos hi]
  refine ⟨sw_s hs, sw_pm hs, cs8 rfl, Q_X3_remove (n := (zR S).length) (i := i) hs h.pn hn rfl hi ⟨sw_s hs, sw_pm hs, cs8 rfl, ?_⟩⟩
  generalize hX : dn (uM μ.1 (e + 2) 4 (((zR S).length : Int) - 1)) (e + 3) i ((zR S).length - 1) = X
  have xr : ∀ a, (a < e + 2 ∨ e + 7 ≤ a) → X a = μ.1 a := fun a ha => by rw [← hX, dn_e (by omega), uM_r (by omega)]
  have xn : X (e + 2) 4 = (((zR S).eraseIdx i).length : Int) := by rw [← hX, dn_e (by omega), uM_s, hlen]; omega
  have xR : RA X (e + 3) 4 mw ((zR S).eraseIdx i) := fun k x hx j hj => by
    rw [← hX]
    rw [List.getElem?_eraseIdx] at hx
    split at hx
    · rw [dn_o (by omega), uM_e (by omega)]
      exact h.pm hx hj
    · have hk := (List.getElem?_eq_some_iff.mp hx).1
      rw [dn_i hj (by omega) (by omega), uM_e (by omega)]
      exact h.pm hx hj
  show w_X3_insert [.inr (.inr (e + 2)), .inl (m.1 : Int), .inl (m.2.1 : Int), .inl m.2.2.1, .inl (m.2.2.2 + zT S)] (X, μ.2) _
  refine Q_X3_insert (R := (zR S).eraseIdx i) m.1 m.2.1 hs rfl rfl xn (by omega) ⟨by omega, by omega⟩ xR (fun m' hm' => (h.2.1.pmr (List.mem_of_mem_eraseIdx hm')).2.2.2) (fun I' b0 b1 b2 b3 => ?_)
  have H1 : HC e (I', μ.2) (ext S i) := by
    refine ⟨hs, g1.1, ?_⟩
    have el := fun q => ext_lnt hm q
    have eb := fun q => ext_brw hm q
    rw [ex] at el eb ⊢
    refine CR_R h.2.2 ?_ (fun q hq k k6 k7 => ?_) (fun q hq => ?_) (fun q hq => ?_) (fun q hq j hj => ?_) ?_ b3 (fun a h1 h2 => ?_)
    · exact (b0 e (by omega)).trans (xr e (by omega))
    · show I' _ _ = _; rw [b0 _ (by omega), xr _ (by omega)]
    · show I' _ _ = _; rw [b0 _ (by omega), xr _ (by omega), el]; exact (h.cp hq).2.2.2.2.2.2.1
    · show I' _ _ = _; rw [b0 _ (by omega), xr _ (by omega), eb]; exact (h.cp hq).2.2.2.2.2.2.2.1
    · exact (b0 _ (by omega)).trans (xr _ (by omega))
    · show I' _ _ = _
      rw [b2]
      have : (pin ((zR S).eraseIdx i) (m.1, m.2.1, m.2.2.1, m.2.2.2 + zT S)).length = ((zR S).eraseIdx i).length + 1 := List.length_insertIdx_of_le_length (pos_le _ _ _) _
      omega
    · exact (b0 _ (by omega)).trans (xr _ (by omega))
  exact hK (I', μ.2) H1 ⟨fun a ha => (b0 a (by omega)).trans (xr a (by omega)), rfl⟩
/-! columns are copied -/
def cc (I : Mi) (a a' w m : Nat) : Mi := fun e k => if a ≤ e ∧ e < a + w ∧ k < m then I (e - a + a') k else I e k
theorem cc_0 {I : Mi} {a a' w : Nat} : cc I a a' w 0 = I := by
  funext e k
  unfold cc
  rw [if_neg (by omega)]
theorem cc_e {I : Mi} {a a' w m e : Nat} (h : e < a ∨ a + w ≤ e) : cc I a a' w m e = I e := funext fun k => if_neg (by omega)
theorem cc_i {I : Mi} {a a' w m j k : Nat} (hj : j < w) (h : k < m) : cc I a a' w m (a + j) k = I (a' + j) k := by
  unfold cc
  rw [if_pos ⟨by omega, by omega, h⟩, show a + j - a + a' = a' + j by omega]
theorem cc_o {I : Mi} {a a' w m e k : Nat} (h : m ≤ k) : cc I a a' w m e k = I e k := if_neg (by omega)
theorem cc_s {I X : Mi} {a a' w m : Nat} (hd : a + w ≤ a' ∨ a' + w ≤ a) (h1 : ∀ j, j < w → X (a + j) m = cc I a a' w m (a' + j) m) (h2 : ∀ e k, ¬ (a ≤ e ∧ e < a + w ∧ k = m) → X e k = cc I a a' w m e k) : X = cc I a a' w (m + 1) := by
  funext e k
  by_cases z : a ≤ e ∧ e < a + w ∧ k = m
  · obtain ⟨z1, z2, z3⟩ := z
    subst z3
    obtain ⟨j, rfl⟩ : ∃ j, e = a + j := ⟨e - a, by omega⟩
    rw [h1 j (by omega), cc_e (by omega), cc_i (by omega) (by omega)]
  · rw [h2 e k z]
    unfold cc
    by_cases y : a ≤ e ∧ e < a + w ∧ k < m
    · rw [if_pos y, if_pos ⟨y.1, y.2.1, by omega⟩]
    · rw [if_neg y, if_neg (fun q => y ⟨q.1, q.2.1, by
        have : k ≠ m := fun r => z ⟨q.1, q.2.1, r⟩
        omega⟩)]
