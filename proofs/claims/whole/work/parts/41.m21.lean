/-! PURE 29: the model's further changes, and what it tries -/
theorem pS {I J : Mi} {e k : Nat} {v : Int} : ((uM I e k v, J) : MM).1 e k = v := uM_s (I := I) (e := e) (k := k) (v := v)
theorem stT_Gd {S : AS} {t : Int} (h : Gd S) (ht : 1 ≤ t ∧ t ≤ 99) : Gd (stG S t (zK S) (zC S) (zA S)) := ⟨⟨h.1.1, ht, h.1.2.2⟩, h.2⟩
theorem stK_Gd {S : AS} {k : Int} (h : Gd S) (hk : 0 ≤ k ∧ k ≤ 200) : Gd (stG S (zT S) k (zC S) (zA S)) := ⟨⟨h.1.1, h.1.2.1, hk, h.1.2.2.2⟩, h.2⟩
theorem P_X10_sets {μ : MM} {K : Option AV → MM → Prop} {b : Nat} {S : AS} {G : List (Nat × Pkt)} {x v : Int} (j : Nat) (h : HG b μ S G) (hx : x = j) (hj : j < 12) (hK : K (some (.inl (hdm S G.length j))) (uM μ.1 349 (2080 * b + j) v, μ.2)) : w_X10_sets [.inr (.inr 348), .inl x, .inl v] μ K := by
  subst hx
  have hb := h.2.1
  exact ⟨cs8 rfl, hM, cs8 rfl, h.ofo j rfl hj ⟨hM, cs8 rfl, Q_set j h.1 rfl (by omega) hK⟩⟩
theorem P_M_setTerm {μ : MM} {K : Option AV → MM → Prop} {t : Nat} {T : TS} {x : Int} (h : MT μ T) (hT : TG t T) (hx : R32 x) (hK : OM (oTrm T x) K μ) : w_X10_setTerm [.inr (.inr 348), .inl x] μ K := by
  obtain ⟨ht, ⟨g1, g2, g3, g4⟩, -, -⟩ := hT
  refine ⟨cs8 rfl, cs8 rfl, cs8 rfl, P_X10_isTicks hx (fun r1 r2 => ⟨hM, cs8 rfl, P_X10_good (Or.inr rfl) (fun _ => ⟨⟨by omega, by omega⟩, fun _ => ⟨hM, cs8 rfl, P_X10_remembers ?_⟩, fun q => absurd q (by decide)⟩) (fun q => absurd q (by decide))⟩) (fun q => ⟨hM, cs8 rfl, P_X10_good (Or.inl rfl) (fun q => absurd q (by decide)) (fun _ => ⟨⟨by omega, by omega⟩, fun q => absurd rfl q, fun _ => ?_⟩)⟩)⟩
  · have h1 := h.thr 0
    have hc1 := cp_MT h1
    obtain ⟨G1, H1⟩ := hc1.hg
    have g' := stT_Gd g1 ⟨r1, r2⟩
    have hv : R32 (zT (tN T)) ∧ zT (tN T) ≠ -1 := by
      have := g1.1.2.1
      have := g1.1.2.2.1
      exact ⟨⟨by omega, by omega⟩, by omega⟩
    refine ⟨hM, cs8 rfl, P_X10_sets 1 H1 rfl (by omega) ⟨hM, cs8 rfl, ?_⟩⟩
    refine P_X10_kept (S' := stG (tN T) x (zK (tN T)) (zC (tN T)) (zA (tN T))) h1 (FM_one (b := 0) (a := 1) (by omega)) (HG.mb (G := G1) (H1.one (a := 1) (by omega) rfl rfl rfl rfl rfl (fun i hi => ?_) (fun q hq i hi hi5 => ?_) g'.1)) hv.1 hv.2 (fun μ' m1 m2 m3 => ?_)
    · rcases j12 hi with rfl | rfl | rfl | rfl | rfl | rfl | rfl | rfl | rfl | rfl | rfl | rfl <;> rfl
    · rw [if_neg (by omega)]
    · exact hK.k (if_pos ⟨r1, r2⟩) m1 (m2.trans t348) (FX.put.trans m3)
  · exact hK.t (if_neg q) h
theorem P_M_setKeep {μ : MM} {K : Option AV → MM → Prop} {t : Nat} {T : TS} {x : Int} (h : MT μ T) (hT : TG t T) (hx : R32 x) (hK : OM (oKep T x) K μ) : w_X10_setKeep [.inr (.inr 348), .inl x] μ K := by
  obtain ⟨ht, ⟨g1, g2, g3, g4⟩, -, -⟩ := hT
  refine ⟨cs8 rfl, cs8 rfl, cs8 rfl, P_X10_isKeep hx (fun r1 r2 => ⟨hM, cs8 rfl, P_X10_good (Or.inr rfl) (fun _ => ⟨⟨by omega, by omega⟩, fun _ => ⟨hM, cs8 rfl, P_X10_remembers ?_⟩, fun q => absurd q (by decide)⟩) (fun q => absurd q (by decide))⟩) (fun q => ⟨hM, cs8 rfl, P_X10_good (Or.inl rfl) (fun q => absurd q (by decide)) (fun _ => ⟨⟨by omega, by omega⟩, fun q => absurd rfl q, fun _ => ?_⟩)⟩)⟩
  · have h1 := h.thr 0
    have hc1 := cp_MT h1
    obtain ⟨G1, H1⟩ := hc1.hg
    have g' := stK_Gd g1 ⟨r1, r2⟩
    have hv : R32 (zK (tN T)) ∧ zK (tN T) ≠ -1 := by
      have := g1.1.2.1
      have := g1.1.2.2.1
      exact ⟨⟨by omega, by omega⟩, by omega⟩
    refine ⟨hM, cs8 rfl, P_X10_sets 2 H1 rfl (by omega) ⟨hM, cs8 rfl, ?_⟩⟩
    refine P_X10_kept (S' := stG (tN T) (zT (tN T)) x (zC (tN T)) (zA (tN T))) h1 (FM_one (b := 0) (a := 2) (by omega)) (HG.mb (G := G1) (H1.one (a := 2) (by omega) rfl rfl rfl rfl rfl (fun i hi => ?_) (fun q hq i hi hi5 => ?_) g'.1)) hv.1 hv.2 (fun μ' m1 m2 m3 => ?_)
    · rcases j12 hi with rfl | rfl | rfl | rfl | rfl | rfl | rfl | rfl | rfl | rfl | rfl | rfl <;> rfl
    · rw [if_neg (by omega)]
    · exact hK.k (if_pos ⟨r1, r2⟩) m1 (m2.trans t348) (FX.put.trans m3)
  · exact hK.t (if_neg q) h

def oUnd (T : TS) : (Int × Int) × TS := match tH T with
  | [] => ((0, -1), T)
  | s :: H => ((0, (H.length : Int)), seN T s H)
def oSav (T : TS) : (Int × Int) × TS := ((0, zC (tN T)), (T.1, T.2.1, T.2.2.1, some (tN T), T.2.2.2.2))
def oRst (T : TS) : (Int × Int) × TS := match tS T with
  | none => ((1, 0), T)
  | some s => ((0, zC s), seN T s [])
theorem P_M_undo {μ : MM} {K : Option AV → MM → Prop} {T : TS} (h : MT μ T) (hK : OM (oUnd T) K μ) : w_X10_undo [.inr (.inr 348)] μ K := by
  have h1 := h.thr 0
  have h15 : uM μ.1 348 0 0 348 15 = (tH T).length := h1.2.2.2.2.2.1.1
  have hl := h.2.2.2.2.2.1.2.1
  refine ⟨cs8 rfl, hM, hM, ?_⟩
  show o_if_ne _ _ _ [.inl (uM μ.1 348 0 0 348 15)] _
  rw [h15]
  refine ⟨⟨by omega, by omega⟩, fun q => ⟨hM, hM, ?_⟩, fun q => ?_⟩
  · obtain ⟨s, H, e⟩ : ∃ s H, tH T = s :: H := by
      cases hh : tH T with
      | nil => rw [hh] at q; exact absurd rfl q
      | cons s H => exact ⟨s, H, rfl⟩
    have e2 : (tH T).length = H.length + 1 := by rw [e]; rfl
    have ho : oUnd T = ((0, (H.length : Int)), seN T s H) := by unfold oUnd; rw [e]
    have e3 : uM μ.1 348 0 0 348 15 - 1 = (H.length : Int) := by rw [h15]; omega
    show o_aload 0 _ _ [] (uM (uM μ.1 348 0 0) 348 15 (uM μ.1 348 0 0 348 15 - 1), μ.2)
    rw [e3]
    refine ⟨hM, ?_⟩
    show _ ∧ _ ∧ w_X10_copies [.inr (.inr 348), .inl (8320 + 2080 * uM (uM μ.1 348 0 0) 348 15 (H.length : Int) 348 15), .inl 0] _ _
    rw [uM_s]
    refine ⟨hM, cs8 rfl, P_X10_copies (4 + H.length) 0 (by omega) rfl (by omega) (by decide) (by omega) ⟨hM, ?_⟩⟩
    have hB := h1.2.2.2.2.2.1.2
    rw [e] at hB
    have m : ∀ b s', b ≠ 0 → MB b (uM μ.1 348 0 0, μ.2) s' → MB b (cpI (uM (uM μ.1 348 0 0) 348 15 (H.length : Int)) (4 + H.length) 0 2080, cpJ μ.2 (4 + H.length) 0 6) s' := fun b s' q0 hs => MB.cpo (MB.put hs) q0
    have f8 : F8 [0, 15] μ (cpI (uM (uM μ.1 348 0 0) 348 15 (H.length : Int)) (4 + H.length) 0 2080, cpJ μ.2 (4 + H.length) 0 6) := (F8.put (by decide)).trans ((F8.put (μ := (uM μ.1 348 0 0, μ.2)) (by decide)).trans (F8.cp (I := uM (uM μ.1 348 0 0) 348 15 (H.length : Int)) (J := μ.2)))
    have v15 : cpI (uM (uM μ.1 348 0 0) 348 15 (H.length : Int)) (4 + H.length) 0 2080 348 15 = (H.length : Int) := by rw [cpI_e (by decide), uM_s]
    show K (some (.inl (cpI (uM (uM μ.1 348 0 0) 348 15 (H.length : Int)) (4 + H.length) 0 2080 348 15))) _
    rw [v15]
    refine hK.k ho (h.step f8 (fun k hk => ?_) ?_ ?_ (fun s' hs => m 1 s' (by decide) (MB.put (I := μ.1) (J := μ.2) hs)) v15 ⟨by omega, fun i s' hs => ?_⟩) ?_ f8.fx
    · rcases List.mem_cons.mp hk with rfl | hk
      · exact Or.inl rfl
      · exact Or.inr (Or.inr (List.mem_singleton.mp hk))
    · exact (f8.2.1 3 (by decide)).trans h.1
    · have hs0 := hB.2 0 s rfl
      rw [List.length_cons, show 4 + (H.length + 1 - 1 - 0) = 4 + H.length by omega] at hs0
      exact MB.cp (MB.put hs0)
    · have hi := (List.getElem?_eq_some_iff.mp hs).1
      have := hB.2 (i + 1) s' hs
      rw [List.length_cons, show 4 + (H.length + 1 - 1 - (i + 1)) = 4 + (H.length - 1 - i) by omega] at this
      exact m _ s' (by omega) this
    · show cpI (uM (uM μ.1 348 0 0) 348 15 (H.length : Int)) (4 + H.length) 0 2080 348 0 = 0
      rw [cpI_e (by decide), uM_k (by decide), uM_s]
  · have e : tH T = [] := List.length_eq_zero_iff.mp (by omega)
    exact hK.t (by unfold oUnd; rw [e]) h
theorem P_M_save {μ : MM} {K : Option AV → MM → Prop} {T : TS} (h : MT μ T) (hK : OM (oSav T) K μ) : w_X10_save [.inr (.inr 348)] μ K := by
  have h1 := h.thr 0
  have e9 : ∀ I : Mi, (uM I 348 25 1) 349 = I 349 := fun I => uM_r (by decide)
  have cl : (uM (cpI (uM μ.1 348 0 0) 0 1 2080) 348 25 1) 349 (2080 * 0 + 3) = zC (tN T) := by
    rw [e9, cpI_o (by omega)]
    obtain ⟨G, hG⟩ := h1.hg
    exact hG.hd (j := 3) (by omega)
  refine ⟨cs8 rfl, hM, hM, cs8 rfl, P_X10_copies 0 1 rfl rfl (by decide) (by decide) (by decide) ⟨hM, Or.inr rfl, hM, cs8 rfl, Q_of (o := 2080 * 0) 3 (by rw [uM_k (by decide)]; show cpI (uM μ.1 348 0 0) 0 1 2080 348 3 = _; rw [cpI_e (by decide)]; exact h1.1) rfl (by omega) ?_⟩⟩
  rw [cl]
  obtain ⟨a1, a2, a3, a4, a5, a6, a7⟩ := h1
  have m : ∀ b s', b ≠ 1 → MB b (uM μ.1 348 0 0, μ.2) s' → MB b (uM (cpI (uM μ.1 348 0 0) 0 1 2080) 348 25 1, cpJ μ.2 0 1 6) s' := fun b s' q0 hs => MB.put (MB.cpo hs q0)
  have g : ∀ k, k ≠ 25 → uM (cpI (uM μ.1 348 0 0) 0 1 2080) 348 25 1 348 k = uM μ.1 348 0 0 348 k := fun k hk => by rw [uM_k hk, cpI_e (by decide)]
  have g2 : ∀ e, e ≠ 348 → e ≠ 349 → uM (cpI (uM μ.1 348 0 0) 0 1 2080) 348 25 1 e = μ.1 e := fun e q1 q2 => by rw [uM_r q1, cpI_e q2, uM_r q1]
  refine hK.k (μ' := (uM (cpI (uM μ.1 348 0 0) 0 1 2080) 348 25 1, cpJ μ.2 0 1 6)) rfl ⟨(g 3 (by decide)).trans a1, m 0 _ (by decide) a2, ⟨(g 5 (by decide)).trans a3.1, a3.2.1, h.2.2.1.2.2.eq (g2 351 (by decide) (by decide))⟩, ⟨(g 10 (by decide)).trans a4.1, (g 11 (by decide)).trans a4.2⟩, ⟨pS, MB.put (MB.cp a2)⟩, ⟨(g 15 (by decide)).trans a6.1, a6.2.f (fun b s hb hs => m b s (by omega) hs)⟩, ⟨(g 24 (by decide)).trans a7.1, h.2.2.2.2.2.2.2.eq (g2 354 (by decide) (by decide))⟩⟩ ((g 0 (by decide)).trans uM_s) ⟨fun e he => g2 e (by omega) (by omega), fun e he => cpJ_e (by omega)⟩
theorem P_M_restore {μ : MM} {K : Option AV → MM → Prop} {T : TS} (h : MT μ T) (hK : OM (oRst T) K μ) : w_X10_restore [.inr (.inr 348)] μ K := by
  have hS := h.2.2.2.2.1
  refine ⟨cs8 rfl, hM, ?_⟩
  cases e : tS T with
  | none =>
    rw [e] at hS
    have hS : μ.1 348 25 = 0 := hS
    show _ ∧ _ ∧ w_X10_good [.inr (.inr 348), .inl (μ.1 348 25)] _ _
    rw [hS]
    exact ⟨hM, cs8 rfl, P_X10_good (Or.inl rfl) (fun q => absurd q (by decide)) (fun _ => ⟨⟨by omega, by omega⟩, fun q => absurd rfl q, fun _ => hK.t (by unfold oRst; rw [e]) h⟩)⟩
  | some s =>
    rw [e] at hS
    have h25 : μ.1 348 25 = 1 := hS.1
    have ho : oRst T = ((0, zC s), seN T s []) := by unfold oRst; rw [e]
    show _ ∧ _ ∧ w_X10_good [.inr (.inr 348), .inl (μ.1 348 25)] _ _
    rw [h25]
    refine ⟨hM, cs8 rfl, P_X10_good (Or.inr rfl) (fun _ => ⟨⟨by omega, by omega⟩, fun _ => ⟨hM, cs8 rfl, P_X10_copies 1 0 rfl rfl (by decide) (by decide) (by decide) ⟨hM, hM, cs8 rfl, Q_of (o := 2080 * 0) 3 ?_ rfl (by omega) ?_⟩⟩, fun q => absurd q (by decide)⟩) (fun q => absurd q (by decide))⟩
    · rw [uM_k (by decide)]
      show cpI (uM μ.1 348 0 0) 1 0 2080 348 3 = _
      rw [cpI_e (by decide), uM_k (by decide)]
      exact h.1
    have f8 : F8 [0, 15] μ (uM (cpI (uM μ.1 348 0 0) 1 0 2080) 348 15 0, cpJ μ.2 1 0 6) := (F8.put (by decide)).trans ((F8.cp (I := uM μ.1 348 0 0) (J := μ.2)).trans (F8.put (μ := (cpI (uM μ.1 348 0 0) 1 0 2080, cpJ μ.2 1 0 6)) (by decide)))
    have m0 : MB 0 (uM (cpI (uM μ.1 348 0 0) 1 0 2080) 348 15 0, cpJ μ.2 1 0 6) s := MB.put (MB.cp (MB.put (I := μ.1) (J := μ.2) hS.2))
    have cl : uM (cpI (uM μ.1 348 0 0) 1 0 2080) 348 15 0 349 (2080 * 0 + 3) = zC s := by
      obtain ⟨G, hG⟩ := m0.2
      exact hG.1 3 (by omega)
    rw [cl]
    refine hK.k ho (h.step (H := []) f8 (fun k hk => ?_) ?_ m0 (fun s' hs => MB.put (MB.cpo (MB.put (I := μ.1) (J := μ.2) hs) (by decide))) pS ⟨by decide, fun i s' hs => by simp at hs⟩) ?_ f8.fx
    · rcases List.mem_cons.mp hk with rfl | hk
      · exact Or.inl rfl
      · exact Or.inr (Or.inr (List.mem_singleton.mp hk))
    · exact (f8.2.1 3 (by decide)).trans h.1
    · show uM (cpI (uM μ.1 348 0 0) 1 0 2080) 348 15 0 348 0 = 0
      rw [uM_k (by decide), cpI_e (by decide), uM_s]
