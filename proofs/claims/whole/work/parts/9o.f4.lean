/-! PURE 99: lossShare and meanForecast of both sides -/
def FSv (S : AS) : UInt32 := if zA S = 0 then FP.fconst0 else fq ((zD S).length : Int) (zA S)
def MSv (S : AS) : UInt64 := if zN S = 0 then FP.dconst0 else dq (sg (zN S) (fun p => zP S p 2)) (16 * (zN S : Int))
theorem wtn_nn (S : AS) : 0 ≤ wtn S := by
  have h : sg (zN S) (fun _ => 0) ≤ wtn S := sg_le (fun p _ => by show (0 : Int) ≤ ((zQ S p).length : Int); omega)
  rw [sg_c] at h
  omega
theorem fs_nn {S : AS} (h : Rg S) (h0 : zA S ≠ 0) : FP.Core.val32 (fq ((zD S).length : Int) (zA S)) ≠ .nan := by
  have ha := h.2.2.2.2.1
  have hd := h.2.2.2.2.2.2.2.2.2.2.1
  have hw := wtn_nn S
  have r1 : (jI ((zD S).length : Int)).toInt = ((zD S).length : Int) := jI_toInt ⟨by omega, by omega⟩
  have r2 : (jI (zA S)).toInt = zA S := jI_toInt ⟨by omega, by omega⟩
  refine fd_nn ?_ ?_ ?_
  · rw [r1]; omega
  · rw [r2]; omega
  · rw [r2]; exact h0
theorem FSv_nn {S : AS} (h : Rg S) : FP.Core.val32 (FSv S) ≠ .nan := by
  unfold FSv
  split
  · intro z
    have : FP.Core.val32 FP.fconst0 = .fin false 0 FP.Core.b32.qmin := by decide
    rw [this] at z
    cases z
  · rename_i h0
    exact fs_nn h h0
theorem ms_nn {S : AS} (h : Rg S) (h0 : zN S ≠ 0) (x : Int) : FP.Core.val64 (dq x (16 * (zN S : Int))) ≠ .nan := by
  have h6 := h.n6
  have r2 : (jI (16 * (zN S : Int))).toInt = 16 * (zN S : Int) := jI_toInt ⟨by omega, by omega⟩
  refine dd_nn ?_
  rw [r2]
  omega
theorem MSv_nn {S : AS} (h : Rg S) : FP.Core.val64 (MSv S) ≠ .nan := by
  unfold MSv
  split
  · intro z
    have : FP.Core.val64 FP.dconst0 = .fin false 0 FP.Core.b64.qmin := by decide
    rw [this] at z
    cases z
  · rename_i h0
    exact ms_nn h h0 _
theorem P_C_lossShare {I J : Mi} {K : Value → MM → Prop} {T : TS} (h : CT (I, J) T) (hK : K (.float (FSv (tN T))) (I, J)) : w_X9_lossShare [.inr (.inr 0)] (I, J) K := by
  have g := h.2.2.1
  have ha := g.2.1.2.2.2.2.1
  have e5 : I 11 5 = zA (tN T) := g.ar
  have ed : I 18 5 = ((zD (tN T)).length : Int) := g.dn
  refine ⟨by decide, h0X, sw_s g.1, ?_⟩
  show o_if_ne _ _ _ [.inl (I 11 5)] (I, J)
  rw [e5]
  refine ⟨⟨by omega, by omega⟩, fun q => ?_, fun q => ?_⟩
  · have q : zA (tN T) ≠ 0 := q
    refine ⟨rfl, 0, rfl, h0X, sw_s g.1, sw_ld g.1, ?_, ?_⟩
    · show vf_n32 (fq (I 18 5) (I 11 5))
      rw [ed, e5]
      exact nn32 (fs_nn g.2.1 q)
    · show K (.float (fq (I 18 5) (I 11 5))) (I, J)
      rw [ed, e5]
      have e : FSv (tN T) = fq ((zD (tN T)).length : Int) (zA (tN T)) := if_neg q
      rw [e] at hK
      exact hK
  · have e : FSv (tN T) = FP.fconst0 := if_pos q
    rw [e] at hK
    exact ⟨rfl, hK⟩
theorem P_M_lossShare {I J : Mi} {K : Value → MM → Prop} {T : TS} (h : MT (I, J) T) (hK : K (.float (FSv (tN T))) (uM I 348 0 0, J)) : w_X10_lossShare [.inr (.inr 348)] (I, J) K := by
  obtain ⟨G, g⟩ := (h.thr 0).hg
  have ha := g.2.2.1.2.2.2.2.1
  have hd := g.2.2.1.2.2.2.2.2.2.2.2.2.2.1
  refine ⟨by decide, hM, hM, cs8 rfl, g.ofo 5 rfl (by decide) ⟨by show R32 (zA (tN T)); exact ⟨by omega, by omega⟩, fun q => ?_, fun q => ?_⟩⟩
  · have q : zA (tN T) ≠ 0 := q
    have e : FSv (tN T) = fq ((zD (tN T)).length : Int) (zA (tN T)) := if_neg q
    rw [e] at hK
    exact ⟨rfl, 348, rfl, hM, g.ofo 4 rfl (by decide) ⟨_, rfl, g.ofo 5 rfl (by decide) ⟨_, rfl, nn32 (fs_nn g.2.2.1 q), hK⟩⟩⟩
  · have e : FSv (tN T) = FP.fconst0 := if_pos q
    rw [e] at hK
    exact ⟨rfl, hK⟩
theorem P_C_meanForecast {I J : Mi} {K : Value → MM → Prop} {T : TS} (h : CT (I, J) T) (hK : K (.double (MSv (tN T))) (I, J)) : w_X9_meanForecast [.inr (.inr 0)] (I, J) K := by
  have g := h.2.2.1
  have h6 := g.2.1.n6
  have e1 : I 11 1 = (zN (tN T) : Int) := g.n
  refine ⟨by decide, h0X, sw_s g.1, ?_⟩
  show o_if_ne _ _ _ [.inl (I 11 1)] (I, J)
  rw [e1]
  refine ⟨⟨by omega, by omega⟩, fun q => ?_, fun q => ?_⟩
  · have q : zN (tN T) ≠ 0 := fun z => q (by show (zN (tN T) : Int) = 0; omega)
    have e : MSv (tN T) = dq (sg (zN (tN T)) (fun p => zP (tN T) p 2)) (16 * (zN (tN T) : Int)) := if_neg q
    rw [e] at hK
    refine ⟨h0X, sw_s g.1, cs8 rfl, P_X6_sumOfPorts g (by decide) ⟨_, rfl, 0, rfl, h0X, sw_s g.1, ?_, ?_⟩⟩
    · show vf_n64 (dq _ (16 * I 11 1))
      rw [e1]
      exact nn64 (ms_nn g.2.1 q _)
    · show K (.double (dq _ (16 * I 11 1))) (I, J)
      rw [e1]
      exact hK
  · have q : zN (tN T) = 0 := by have q : (zN (tN T) : Int) = 0 := q; omega
    have e : MSv (tN T) = FP.dconst0 := if_pos q
    rw [e] at hK
    exact ⟨rfl, hK⟩
theorem c_imul {x y : Int} {k : PT} {L : List (Option AV)} {st : List AV} {μ : MM} (h : k L (.inl (x * y) :: st) μ) : o_imul k L (.inl y :: .inl x :: st) μ := h
theorem mean_lp {I J : Mi} {K : Value → MM → Prop} {S : AS} {G : List (Nat × Pkt)} (g : HG 0 (I, J) S G) (hK : K (.double (MSv S)) (I, J)) : ∀ (k i : Nat), i + k = zN S → B_X10_mean9 K [some (.inr (.inr 348)), some (.inl (sg i (fun p => zP S p 2))), some (.inl (i : Int))] [] (I, J) := by
  have h6 := g.2.2.1.n6
  intro k
  induction k with
  | zero =>
    intro i hi
    have e : i = zN S := by omega
    subst e
    refine lfp_in ⟨hM, cs8 rfl, g.ofo 0 rfl (by decide) ⟨⟨by omega, by omega⟩, by show R32 (zN S : Int); exact ⟨by omega, by omega⟩, fun _ => ?_, fun z => absurd (Int.le_refl _) z⟩⟩
    refine ⟨hM, cs8 rfl, g.ofo 0 rfl (by decide) (c_imul (st_i (L' := [some (.inr (.inr 348)), some (.inl (sg (zN S) (fun p => zP S p 2))), some (.inl (16 * (zN S : Int)))]) rfl ⟨⟨by omega, by omega⟩, fun q => ?_, fun q => ?_⟩))⟩
    · have q : zN S ≠ 0 := fun z => q (by show 16 * (zN S : Int) = 0; omega)
      have e : MSv S = dq (sg (zN S) (fun p => zP S p 2)) (16 * (zN S : Int)) := if_neg q
      rw [e] at hK
      exact ⟨rfl, _, _, rfl, rfl, nn64 (ms_nn g.2.2.1 q _), hK⟩
    · have q : zN S = 0 := by have q : 16 * (zN S : Int) = 0 := q; omega
      have e : MSv S = FP.dconst0 := if_pos q
      rw [e] at hK
      exact ⟨rfl, hK⟩
  | succ k ih =>
    intro i hi
    refine lfp_in ⟨hM, cs8 rfl, g.ofo 0 rfl (by decide) ⟨⟨by omega, by omega⟩, by show R32 (zN S : Int); exact ⟨by omega, by omega⟩, fun z => absurd (show (zN S : Int) ≤ (i : Int) from z) (by omega), fun _ => ⟨hM, cs8 rfl, g.po i 2 rfl rfl (by omega) (by decide) (by decide) ?_⟩⟩⟩
    have key := ih (i + 1) (by omega)
    exact key
theorem P_M_meanForecast {I J : Mi} {K : Value → MM → Prop} {T : TS} (h : MT (I, J) T) (hK : K (.double (MSv (tN T))) (uM I 348 0 0, J)) : w_X10_meanForecast [.inr (.inr 348)] (I, J) K := by
  obtain ⟨G, g⟩ := (h.thr 0).hg
  exact ⟨by decide, hM, c_ci (st_i (L' := [some (.inr (.inr 348)), some (.inl 0), none]) rfl (c_ci (st_i (L' := [some (.inr (.inr 348)), some (.inl 0), some (.inl ((0 : Nat) : Int))]) rfl (mean_lp (I := uM I 348 0 0) g hK (zN (tN T)) 0 (by omega)))))⟩
