/-! PURE 46: undo, save, restore; the class's questions as calls -/
theorem CT.h6 {μ : MM} {T : TS} (h : CT μ T) : (tH T).length ≤ 6 := h.2.2.2.2.1.1
theorem P_X0_bringBack {I J : Mi} {K : Option AV → MM → Prop} {s : AS} {H : List AS} (hH : HY (I, J) (s :: H)) (hK : ∀ I' J', HC 11 (I', J') s → HY (I', J') H → (∀ a, ((a < 11 ∨ 48 ≤ a) ∧ a ≠ 122) → I' a = I a ∧ J' a = J a) → K none (I', J')) : w_X0_bringBack [.inr (.inr 122), .inr (.inr 11)] (I, J) K := by
  obtain ⟨hl6, hn, l, hl, hla, hh⟩ := hH
  have hn : I 122 2 = ((s :: H).length : Int) := hn
  have hla : I 122 1 = (l : Int) := hla
  rw [List.length_cons] at hn hl6
  have h0 := hh 0 s rfl
  rw [show (l + 6 - 0) % 6 = l by omega] at h0
  have em : ((l : Int) + 6 - 1).tmod 6 = (((l + 5) % 6 : Nat) : Int) := by
    rw [Int.tmod_eq_emod_of_nonneg (by omega)]
    omega
  refine ⟨cs8 rfl, h122, ?_⟩
  show o_if_le _ _ _ [.inl (I 122 2)] (I, J)
  rw [hn]
  refine ⟨⟨by omega, by omega⟩, fun q => absurd q (by omega), fun _ => ⟨h122, h122, ?_⟩⟩
  show o_aald _ _ [.inl (I 122 1), .inr (.inr (122 + ro 0 0)), .inr (.inr 11)] (I, J)
  rw [hla]
  have h11 : sw 11 := by decide
  refine ah hl ⟨sw_s h11, cs8 rfl, P_X6_copyFrom h11 h0 (by omega) (fun I' J' hC hF => ⟨h122, ?_⟩)⟩
  have hF1 : ∀ a, (a < 11 ∨ 11 + 37 ≤ a) → I' a = I a ∧ J' a = J a := hF
  show o_ci 6 _ _ [.inl (I' 122 1), .inr (.inr 122)] (I', J')
  rw [(hF1 122 (by omega)).1, hla]
  refine ⟨by show R32 ((l : Int) + 6 - 1); exact ⟨by omega, by omega⟩, ⟨by omega, by omega⟩, by decide, ?_⟩
  show o_putI 0 1 _ _ [.inl (((l : Int) + 6 - 1).tmod 6), .inr (.inr 122)] (I', J')
  rw [em]
  refine ⟨h122, h122, h122, ?_⟩
  have e2 : uM I' 122 1 (((l + 5) % 6 : Nat) : Int) 122 2 - 1 = (H.length : Int) := by
    rw [uM_k (by decide), (hF1 122 (by omega)).1, hn]
    omega
  show K none (uM (uM I' 122 1 (((l + 5) % 6 : Nat) : Int)) 122 2 (uM I' 122 1 (((l + 5) % 6 : Nat) : Int) 122 2 - 1), J')
  rw [e2]
  refine hK _ _ (HC_put (HC_put hC (by omega)) (by omega)) ⟨by omega, pS, (l + 5) % 6, Nat.mod_lt _ (by decide), ?_, fun i x hx => ?_⟩ (fun a ha => ⟨?_, (hF1 a (by omega)).2⟩)
  · show uM (uM I' 122 1 (((l + 5) % 6 : Nat) : Int)) 122 2 (H.length : Int) 122 1 = _
    rw [uM_k (by decide), uM_s]
  · have hi := (List.getElem?_eq_some_iff.mp hx).1
    have g := hh (i + 1) x hx
    rw [show (l + 6 - (i + 1)) % 6 = ((l + 5) % 6 + 6 - i) % 6 by omega] at g
    exact HC_put (HC_put (HC_fk g hF (by omega)) (by omega)) (by omega)
  · rw [uM_r (by omega), uM_r (by omega)]
    exact (hF1 a (by omega)).1
theorem P_C_undo {I J : Mi} {K : Option AV → MM → Prop} {T : TS} (h : CT (I, J) T) (hK : OY [] (oUnd T) K (fun _ _ => True) (I, J)) : w_X9_undo [.inr (.inr 0)] (I, J) K := by
  have hH := h.2.2.2.2.1
  have hn : I 122 2 = ((tH T).length : Int) := hH.2.1
  have hl := hH.1
  refine ⟨cs8 rfl, h0X, h122, ?_⟩
  show o_if_ne _ _ _ [.inl (I 122 2)] (I, J)
  rw [hn]
  refine ⟨⟨by omega, by omega⟩, fun q => ?_, fun q => ?_⟩
  · obtain ⟨s, H, e⟩ : ∃ s H, tH T = s :: H := by
      cases hh : tH T with
      | nil => rw [hh] at q; exact absurd rfl q
      | cons s H => exact ⟨s, H, rfl⟩
    have ho : oUnd T = ((0, (H.length : Int)), seN T s H) := by unfold oUnd; rw [e]
    rw [e] at hH
    refine ⟨h0X, h0X, h122, cs8 rfl, P_X0_bringBack hH (fun I' J' k1 k2 k3 => ⟨h0X, h122, ?_⟩)⟩
    have e2 : I' 122 2 = (H.length : Int) := k2.2.1
    show K (some (.inl (I' 122 2))) (I', J')
    rw [e2]
    exact hK.k ho (h.step (fun a ha => (k3 a (by omega)).1) (fun a g1 g2 => k3 a (by omega)) k1 k2) (fun a ha => k3 a (by omega))
  · have e : tH T = [] := List.length_eq_zero_iff.mp (by omega)
    exact hK.k (by unfold oUnd; rw [e]) h FY.refl
theorem P_C_save {I J : Mi} {K : Option AV → MM → Prop} {T : TS} (h : CT (I, J) T) (hK : OY [] (oSav T) K (fun _ _ => True) (I, J)) : w_X9_save [.inr (.inr 0)] (I, J) K := by
  have hn := h.2.2.1
  have h85 : sw 85 := by decide
  obtain ⟨a1, a2, a3, a4, a5, a6⟩ := h
  refine ⟨cs8 rfl, h0X, h0X, sw_s h85, cs8 rfl, P_X6_copyFrom (e := 85) (f := 11) h85 hn (by omega) (fun I' J' hC hF => ⟨h0X, Or.inr rfl, h0X, sw_s hn.1, ?_⟩)⟩
  have hF1 : ∀ a, (a < 85 ∨ 85 + 37 ≤ a) → I' a = I a ∧ J' a = J a := hF
  have cl : uM I' 0 6 1 11 4 = zC (tN T) := by
    rw [uM_e (by decide), (hF1 11 (by omega)).1]
    exact hn.cl
  show K (some (.inl (uM I' 0 6 1 11 4))) (uM I' 0 6 1, J')
  rw [cl]
  have f : ∀ a, (a < 85 ∨ 85 + 37 ≤ a) → a ≠ 0 → uM I' 0 6 1 a = I a := fun a ha h0 => by rw [uM_r h0]; exact (hF1 a ha).1
  refine hK.k rfl ⟨⟨?_, a1.2.1, a1.2.2.eq (f 2 (by omega) (by decide))⟩, ⟨?_, ?_⟩, HC_put (HC_fk hn hF (by omega)) (by omega), ⟨pS, HC_put hC (by omega)⟩, ⟨a5.1, ?_, ?_⟩, ⟨?_, a6.2.eq (f 347 (by omega) (by decide))⟩⟩ (fun a ha => ⟨f a (by omega) (by omega), (hF1 a (by omega)).2⟩)
  · show uM I' 0 6 1 1 1 = _; rw [f 1 (by omega) (by decide)]; exact a1.1
  · show uM I' 0 6 1 1 2 = _; rw [f 1 (by omega) (by decide)]; exact a2.1
  · show uM I' 0 6 1 1 3 = _; rw [f 1 (by omega) (by decide)]; exact a2.2
  · show uM I' 0 6 1 122 2 = _; rw [f 122 (by omega) (by decide)]; exact a5.2.1
  · obtain ⟨l, b1, b2, b3⟩ := a5.2.2
    exact ⟨l, b1, by show uM I' 0 6 1 122 1 = _; rw [f 122 (by omega) (by decide)]; exact b2, fun i s hs => HC_put (HC_fk (b3 i s hs) hF (by omega)) (by omega)⟩
  · show uM I' 0 6 1 346 1 = _; rw [f 346 (by omega) (by decide)]; exact a6.1
theorem P_C_restore {I J : Mi} {K : Option AV → MM → Prop} {X : String → MM → Prop} {T : TS} (h : CT (I, J) T) (hK : OY [xS] (oRst T) K X (I, J)) : w_X9_restore [.inr (.inr 0)] (I, J) K X := by
  have h11 : sw 11 := by decide
  have a4 := h.2.2.2.1
  refine ⟨cs8 rfl, h0X, ?_⟩
  show o_if_ne _ _ _ [.inl (I 0 6)] (I, J)
  cases e : tS T with
  | none =>
    rw [e] at a4
    have a4 : I 0 6 = 0 := a4
    rw [a4]
    exact ⟨⟨by omega, by omega⟩, fun q => absurd rfl q, fun _ => ⟨cs8 rfl, hK.x (v := 0) 0 rfl (by unfold oRst; rw [e]; rfl) h⟩⟩
  | some s =>
    rw [e] at a4
    have h6 : I 0 6 = 1 := a4.1
    have hs : HC 85 (I, J) s := a4.2
    have ho : oRst T = ((0, zC s), seN T s []) := by unfold oRst; rw [e]
    rw [h6]
    refine ⟨⟨by omega, by omega⟩, fun _ => ⟨h0X, h0X, sw_s h11, cs8 rfl, P_X6_copyFrom (e := 11) (f := 85) h11 hs (by omega) (fun I' J' hC hF => ⟨h0X, h122, cs8 rfl, ⟨cs8 rfl, h122, h0X, sw_s h11, ?_⟩⟩)⟩, fun q => absurd q (by decide)⟩
    have hF1 : ∀ a, (a < 11 ∨ 11 + 37 ≤ a) → I' a = I a ∧ J' a = J a := hF
    have cl : uM I' 122 2 0 11 4 = zC s := by
      rw [uM_e (by decide)]
      exact hC.cl
    show K (some (.inl (uM I' 122 2 0 11 4))) (uM I' 122 2 0, J')
    rw [cl]
    obtain ⟨l, b1, b2, b3⟩ := h.2.2.2.2.1.2.2
    refine hK.k ho (h.step (H := []) (fun a ha => ?_) (fun a g1 g2 => ⟨?_, (hF1 a (by omega)).2⟩) (HC_put hC (by omega)) ⟨by decide, pS, l, b1, ?_, fun i x hx => by simp at hx⟩) (fun a ha => ⟨?_, (hF1 a (by omega)).2⟩)
    · show uM I' 122 2 0 a = _
      rw [uM_r (by omega)]; exact (hF1 a (by omega)).1
    · show uM I' 122 2 0 a = _
      rw [uM_r (by omega)]; exact (hF1 a (by omega)).1
    · show uM I' 122 2 0 122 1 = _
      rw [uM_k (by decide), (hF1 122 (by omega)).1]; exact b2
    · show uM I' 122 2 0 a = _
      rw [uM_r (by omega)]; exact (hF1 a (by omega)).1
theorem OY.oc {E : List String} {a : Int × Int} {K : Option AV → MM → Prop} {X : String → MM → Prop} {μ : MM} {T : TS} (h : OY E (a, T) K X μ) (hc : CT μ T) : OC E a K X μ := ⟨fun e => h.1 e μ hc FY.refl, fun j s hs e => h.2 j s hs e μ hc FY.refl⟩
theorem P_C_setting {μ : MM} {K : Option AV → MM → Prop} {X : String → MM → Prop} {t : Nat} {T : TS} {x : Int} (h : CT μ T) (hT : TG t T) (hx : R32 x) (hK : OY [xA] (aSet (tN T) x, T) K X μ) : w_X9_setting [.inr (.inr 0), .inl x] μ K X := P_X9_setting h.2.2.1 hx (hK.oc h)
theorem P_C_port {μ : MM} {K : Option AV → MM → Prop} {X : String → MM → Prop} {t : Nat} {T : TS} {x y : Int} (h : CT μ T) (hT : TG t T) (hx : R32 x) (hy : R32 y) (hK : OY [xI, xA] (aPort (tN T) x y, T) K X μ) : w_X9_port [.inr (.inr 0), .inl x, .inl y] μ K X := P_X9_port h.2.2.1 hx hy (hK.oc h)
theorem P_C_packet {μ : MM} {K : Option AV → MM → Prop} {X : String → MM → Prop} {t : Nat} {T : TS} {x y z : Int} (h : CT μ T) (hT : TG t T) (hx : R32 x) (hy : R32 y) (hz : R32 z) (hK : OY [xI, xA] (aPkt (tN T) x y z, T) K X μ) : w_X9_packet [.inr (.inr 0), .inl x, .inl y, .inl z] μ K X := P_X9_packet h.2.2.1 hx hy hz (hK.oc h)
theorem P_C_promise {μ : MM} {K : Option AV → MM → Prop} {X : String → MM → Prop} {t : Nat} {T : TS} {x y : Int} (h : CT μ T) (hT : TG t T) (hx : R32 x) (hy : R32 y) (hK : OY [xI, xA] (aPrm (tN T) x y, T) K X μ) : w_X9_promise [.inr (.inr 0), .inl x, .inl y] μ K X := P_X9_promise h.2.2.1 hx hy (hK.oc h)
theorem P_C_owed {μ : MM} {K : Option AV → MM → Prop} {X : String → MM → Prop} {t : Nat} {T : TS} {x y : Int} (h : CT μ T) (hT : TG t T) (hx : R32 x) (hy : R32 y) (hK : OY [xI] (aOwd (tN T) x y, T) K X μ) : w_X9_owed [.inr (.inr 0), .inl x, .inl y] μ K X := P_X9_owed h.2.2.1 hx hy (hK.oc h)
theorem P_C_drop {μ : MM} {K : Option AV → MM → Prop} {X : String → MM → Prop} {t : Nat} {T : TS} {x y : Int} (h : CT μ T) (hT : TG t T) (hx : R32 x) (hy : R32 y) (hK : OY [xA] (aDrp (tN T) x y, T) K X μ) : w_X9_drop [.inr (.inr 0), .inl x, .inl y] μ K X := P_X9_drop h.2.2.1 hx hy (hK.oc h)
theorem P_C_dropsBy {μ : MM} {K : Option AV → MM → Prop} {X : String → MM → Prop} {t : Nat} {T : TS} {x : Int} (h : CT μ T) (hT : TG t T) (hx : R32 x) (hK : OY [xA] (aDby (tN T) x, T) K X μ) : w_X9_dropsBy [.inr (.inr 0), .inl x] μ K X := P_X9_dropsBy h.2.2.1 hx (hK.oc h)
theorem P_C_wouldBorrow {μ : MM} {K : Option AV → MM → Prop} {X : String → MM → Prop} {t : Nat} {T : TS} {x y : Int} (h : CT μ T) (hT : TG t T) (hx : R32 x) (hy : R32 y) (hK : OY [xI, xA] (aWb (tN T) x y, T) K X μ) : w_X9_wouldBorrow [.inr (.inr 0), .inl x, .inl y] μ K X := P_X9_wouldBorrow h.2.2.1 hx hy (hK.oc h)
theorem P_C_wouldCall {μ : MM} {K : Option AV → MM → Prop} {X : String → MM → Prop} {t : Nat} {T : TS} {x y : Int} (h : CT μ T) (hT : TG t T) (hx : R32 x) (hy : R32 y) (hK : OY [xI, xA] (aWc (tN T) x y, T) K X μ) : w_X9_wouldCall [.inr (.inr 0), .inl x, .inl y] μ K X := P_X9_wouldCall h.2.2.1 hx hy (hK.oc h)
theorem P_C_greatest {μ : MM} {K : Option AV → MM → Prop} {X : String → MM → Prop} {t : Nat} {T : TS} {x : Int} (h : CT μ T) (hT : TG t T) (hx : R32 x) (hK : OY [xI] (aGrt (tN T) x, T) K X μ) : w_X9_greatest [.inr (.inr 0), .inl x] μ K X := P_X9_greatest h.2.2.1 hT.2.1.1 hx (hK.oc h)
theorem P_C_mostCharged {μ : MM} {K : Option AV → MM → Prop} {T : TS} (h : CT μ T) (hK : OY [] ((0, mcg (tN T) (zN (tN T))), T) K (fun _ _ => True) μ) : w_X9_mostCharged [.inr (.inr 0)] μ K := P_X9_mostCharged h.2.2.1 (hK.1 rfl μ h FY.refl)
theorem h1T : isK 1 8 := ⟨by decide, by decide +kernel⟩
theorem P_C_errorCode {μ : MM} {K : Option AV → MM → Prop} {T : TS} (h : CT μ T) (hK : OY [] ((0, tE T), T) K (fun _ _ => True) μ) : w_X9_errorCode [.inr (.inr 0)] μ K := by
  refine ⟨cs8 rfl, h0X, h1T, ?_⟩
  show K (some (.inl (μ.1 1 2))) μ
  rw [h.2.1.1]
  exact hK.1 rfl μ h FY.refl
theorem P_C_errorPosition {μ : MM} {K : Option AV → MM → Prop} {T : TS} (h : CT μ T) (hK : OY [] ((0, tW T), T) K (fun _ _ => True) μ) : w_X9_errorPosition [.inr (.inr 0)] μ K := by
  refine ⟨cs8 rfl, h0X, h1T, ?_⟩
  show K (some (.inl (μ.1 1 3))) μ
  rw [h.2.1.2]
  exact hK.1 rfl μ h FY.refl
