/-! PURE 31: sentIn of the model; the model's questions as calls -/
theorem P_M_sentIn {μ : MM} {K : Option AV → MM → Prop} {t : Nat} {T : TS} {x i : Int} (h : MT μ T) (hT : TG t T) (hx : R32 x) (hi : R32 i) (hK : OM (oSi T x i) K μ) : w_X10_sentIn [.inr (.inr 348), .inl x, .inl i] μ K := by
  obtain ⟨G, hG⟩ := h.hg
  have h6 := hG.2.2.1.n6
  obtain ⟨ht, ⟨g1, g2, g3, g4⟩, -, -⟩ := hT
  have bad : oSi T x i = ((1, 0), T) → B_X10_sentIn_18 (fun v μ' => K v μ') [some (.inr (.inr 348)), some (.inl x), some (.inl i), none, none] [.inl (-1)] μ := by
    intro e
    exact ⟨⟨by omega, by omega⟩, ⟨by omega, by omega⟩, fun _ => ⟨hM, cs8 rfl, P_X10_good (Or.inl rfl) (fun q => absurd q (by decide)) (fun _ => ⟨⟨by omega, by omega⟩, fun q => absurd rfl q, fun _ => hK.t e h⟩)⟩, fun q => absurd rfl q⟩
  refine ⟨cs8 rfl, hM, cs8 rfl, P_X10_isPort hG hx (fun q1 q2 => ⟨⟨by omega, by omega⟩, fun q => absurd q (by decide), fun _ => ?_⟩) (fun q => ⟨⟨by omega, by omega⟩, fun _ => bad (if_neg (fun z => q ⟨z.1, z.2.1⟩)), fun q => absurd rfl q⟩)⟩
  obtain ⟨p, rfl⟩ : ∃ p : Nat, x = p := ⟨x.toNat, by omega⟩
  have hp : p < zN (tN T) := by omega
  refine ⟨hM, cs8 rfl, P_X10_packetOf p hG rfl hp hi (fun q g e1 e2 e3 e4 => ?_) (fun q => bad (if_neg (fun z => q (by rw [Int.toNat_natCast] at z; exact z.2.2)))) ⟩
  have hl := hG.len
  have hq : q < G.length := (List.getElem?_eq_some_iff.mp e1).1
  have hil : i < (zQ (tN T) p).length := by
    have := (List.getElem?_eq_some_iff.mp e4).1
    omega
  have hql := hG.2.2.1.ql hp
  have e : oSi T p i = ((0, sti 500 1 (tN T) p i), T) := if_pos ⟨q1, q2, e3, hil⟩
  have h1 := h.thr 0
  obtain ⟨G1, H1⟩ := try_b h1
  refine ⟨⟨by omega, by omega⟩, ⟨by omega, by omega⟩, fun z => absurd z (by omega), fun _ => ⟨hM, cs8 rfl, P_X10_good (Or.inr rfl) (fun _ => ⟨⟨by omega, by omega⟩, fun _ => ⟨hM, cs8 rfl, P_X10_remembers ⟨hM, ?_⟩⟩, fun z => absurd z (by decide)⟩) (fun z => absurd z (by decide))⟩⟩
  refine ⟨hM, cs8 rfl, ⟨cs8 rfl, sti_lp 500 1 _ (tN T) G1 i (by decide) H1 g1 hp (by omega) (by omega) (fun μ2 S2 G2 H2 F2 => ⟨hM, ?_⟩)⟩⟩
  obtain ⟨m1, m2, m3⟩ := try_e h1 t348 F2
  exact hK.k e m1 m2 (FX.put.trans m3)
theorem P_M_setting {μ : MM} {K : Option AV → MM → Prop} {T : TS} {x : Int} (h : MT μ T) (hx : R32 x) (hK : OM (aSet (tN T) x, T) K μ) : w_X10_setting [.inr (.inr 348), .inl x] μ K := by
  obtain ⟨G, hG⟩ := h.hg
  exact P_X10_setting hG hx (hK _ (h.thr _) t348 FX.put)
theorem P_M_port {μ : MM} {K : Option AV → MM → Prop} {T : TS} {x y : Int} (h : MT μ T) (hx : R32 x) (hy : R32 y) (hK : OM (aPort (tN T) x y, T) K μ) : w_X10_port [.inr (.inr 348), .inl x, .inl y] μ K := by
  obtain ⟨G, hG⟩ := h.hg
  exact P_X10_port hG hx hy (hK _ (h.thr _) t348 FX.put)
theorem P_M_packet {μ : MM} {K : Option AV → MM → Prop} {T : TS} {x y z : Int} (h : MT μ T) (hx : R32 x) (hy : R32 y) (hz : R32 z) (hK : OM (aPkt (tN T) x y z, T) K μ) : w_X10_packet [.inr (.inr 348), .inl x, .inl y, .inl z] μ K := by
  obtain ⟨G, hG⟩ := h.hg
  exact P_X10_packet hG hx hy hz (hK _ (h.thr _) t348 FX.put)
theorem P_M_promise {μ : MM} {K : Option AV → MM → Prop} {T : TS} {x y : Int} (h : MT μ T) (hx : R32 x) (hy : R32 y) (hK : OM (aPrm (tN T) x y, T) K μ) : w_X10_promise [.inr (.inr 348), .inl x, .inl y] μ K := by
  obtain ⟨G, hG⟩ := h.hg
  exact P_X10_promise hG hx hy (hK _ (h.thr _) t348 FX.put)
theorem P_M_owed {μ : MM} {K : Option AV → MM → Prop} {T : TS} {x y : Int} (h : MT μ T) (hx : R32 x) (hy : R32 y) (hK : OM (aOwd (tN T) x y, T) K μ) : w_X10_owed [.inr (.inr 348), .inl x, .inl y] μ K := by
  obtain ⟨G, hG⟩ := h.hg
  exact P_X10_owed hG hx hy (hK _ (h.thr _) t348 FX.put)
theorem P_M_drop {μ : MM} {K : Option AV → MM → Prop} {T : TS} {x y : Int} (h : MT μ T) (hx : R32 x) (hy : R32 y) (hK : OM (aDrp (tN T) x y, T) K μ) : w_X10_drop [.inr (.inr 348), .inl x, .inl y] μ K := by
  obtain ⟨G, hG⟩ := h.hg
  exact P_X10_drop hG hx hy (hK _ (h.thr _) t348 FX.put)
theorem P_M_dropsBy {μ : MM} {K : Option AV → MM → Prop} {T : TS} {x : Int} (h : MT μ T) (hx : R32 x) (hK : OM (aDby (tN T) x, T) K μ) : w_X10_dropsBy [.inr (.inr 348), .inl x] μ K := by
  obtain ⟨G, hG⟩ := h.hg
  exact P_X10_dropsBy hG hx (hK _ (h.thr _) t348 FX.put)
theorem P_M_wouldBorrow {μ : MM} {K : Option AV → MM → Prop} {T : TS} {x y : Int} (h : MT μ T) (hx : R32 x) (hy : R32 y) (hK : OM (aWb (tN T) x y, T) K μ) : w_X10_wouldBorrow [.inr (.inr 348), .inl x, .inl y] μ K := by
  obtain ⟨G, hG⟩ := h.hg
  exact P_X10_wouldBorrow hG hx hy (hK _ (h.thr _) t348 FX.put)
theorem P_M_wouldCall {μ : MM} {K : Option AV → MM → Prop} {T : TS} {x y : Int} (h : MT μ T) (hx : R32 x) (hy : R32 y) (hK : OM (aWc (tN T) x y, T) K μ) : w_X10_wouldCall [.inr (.inr 348), .inl x, .inl y] μ K := by
  obtain ⟨G, hG⟩ := h.hg
  exact P_X10_wouldCall hG hx hy (hK _ (h.thr _) t348 FX.put)
theorem P_M_greatest {μ : MM} {K : Option AV → MM → Prop} {T : TS} {x : Int} (h : MT μ T) (hx : R32 x) (hK : OM (aGrt (tN T) x, T) K μ) : w_X10_greatest [.inr (.inr 348), .inl x] μ K := by
  obtain ⟨G, hG⟩ := h.hg
  exact P_X10_greatest hG hx (hK _ (h.thr _) t348 FX.put)
theorem P_M_mostCharged {μ : MM} {K : Option AV → MM → Prop} {T : TS} (h : MT μ T) (hK : OM ((0, mcg (tN T) (zN (tN T))), T) K μ) : w_X10_mostCharged [.inr (.inr 348)] μ K := by
  obtain ⟨G, hG⟩ := h.hg
  exact P_X10_mostCharged hG (hK _ (h.thr _) t348 FX.put)
theorem P_M_errorCode {μ : MM} {K : Option AV → MM → Prop} {T : TS} (h : MT μ T) (hK : OM ((0, tE T), T) K μ) : w_X10_errorCode [.inr (.inr 348)] μ K := by
  refine P_X10_errorCode ?_
  rw [h.2.2.2.1.1]
  exact hK _ (h.thr _) t348 FX.put
theorem P_M_errorPosition {μ : MM} {K : Option AV → MM → Prop} {T : TS} (h : MT μ T) (hK : OM ((0, tW T), T) K μ) : w_X10_errorPosition [.inr (.inr 348)] μ K := by
  refine P_X10_errorPosition ?_
  rw [h.2.2.2.1.2]
  exact hK _ (h.thr _) t348 FX.put
