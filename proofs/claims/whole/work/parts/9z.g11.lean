/-! GROWTH 11: the constructors of History and CellLoans -/
theorem sw6 : ∀ i ∈ List.range 6, 124 + 37 * i ∈ swL := by decide
theorem RS_14 {i : Nat} (hi : i < 6) : RS 123 i = some (124 + 37 * i) := by
  unfold RS
  rw [if_neg (by decide +kernel), if_pos (by decide +kernel), if_pos hi]
theorem RS_14n {j : Nat} (hi : ¬ j < 6) : RS 123 j = none := by
  unfold RS
  rw [if_neg (by decide +kernel), if_pos (by decide +kernel), if_neg hi]
abbrev X0l : List (Option Nat) := (List.replicate 3 none).set 0 (some 123)
theorem k122 : kd 122 = 0 ∧ kd 123 = 14 ∧ ln 123 = 6 ∧ SL 123 + 32880 = SL (123 + 223) := by decide +kernel
theorem x0_lp {G0 : GS} {post : GS → Prop} (hK : ∀ G', Dn 122 (123 + 223) G0 G' → post G') : ∀ (k i : Nat) (G : GS), i + k = 6 → Bd 122 (124 + 37 * i) 123 (fun j => if j < i then RS 123 j else none) G0 [] X0l G → C_X0_init_15 (123 + 223) post [some (.inr (.inr 122)), some (.inl (i : Int))] [] G := by
  obtain ⟨k0, k1, l1, -⟩ := k122
  intro k
  induction k with
  | zero =>
    intro i G hi B
    have e6 : i = 6 := by omega
    subst e6
    have hz := B.1
    refine lfg_in ⟨⟨by omega, by omega⟩, ⟨by decide, by decide⟩, fun _ => ⟨rfl, by rw [hz], hK G ?_⟩, fun z => absurd (Int.le_refl _) z⟩
    refine B.done (fun j => ?_) (fun j => ?_) (fun _ => ⟨cI_0 (by rw [k1]; decide), funext fun j => ?_⟩)
    · rw [cI_0 (by rw [k0]; decide)]; rfl
    · rw [RS_l k0 (by decide)]; rfl
    · by_cases q : j < 6
      · rw [if_pos q]
      · rw [if_neg q, RS_14n q]
  | succ k ih =>
    intro i G hi B
    have hG : G.1 = 124 + 37 * i := B.1
    have hi6 : i < 6 := by omega
    have he := sw6 i (List.mem_range.mpr hi6)
    have kb : kd G.1 = 6 := by rw [hG]; exact (sw_k _ he 0 (by decide)).1
    have hx0 : G.2.2.2 122 0 = some 123 := B.2.2.2.2.2.2.2 0
    have hsl : SL (G.1 + 1) + 5471 = SL (G.1 + 1 + 36) := by
      rw [hG]
      exact (SL_sw _ he).1
    have htop : G.1 + 1 + 36 ≤ 123 + 223 := by omega
    have hmo := SL_mono htop
    have B' : Bd 122 G.1 123 (fun j => if j < i then RS 123 j else none) G0 [] X0l G := by rw [hG]; exact B
    refine lfg_in ⟨⟨by omega, by omega⟩, ⟨by decide, by decide⟩, fun z => absurd (show (6 : Int) ≤ (i : Int) from z) (by omega), fun _ => ⟨⟨by omega, k0⟩, 123, hx0, kb, by omega, trivial, Nat.succ_pos _, cs8 rfl, ⟨htop, by show SL (G.1 + 1) + 5471 ≤ _; omega⟩, PK_X6 (e := G.1) (by rw [hG]; exact he) ⟨rfl, fun j => ?_, fun j => ?_, fun j => ?_⟩ (fun G' D => ⟨Or.inr ⟨⟨by rw [D.1]; omega, k1⟩, ⟨by rw [D.1]; omega, kb⟩⟩, by omega, by rw [l1]; show (i : Int) < ((6 : Nat) : Int); omega, ?_⟩)⟩⟩
    · show (if G.1 = G.1 then fun _ => (0 : Int) else G.2.1 G.1) j = 0
      rw [if_pos rfl]
    · show (if G.1 = G.1 then fun _ => (0 : Int) else G.2.2.1 G.1) j = 0
      rw [if_pos rfl]
    · show (if G.1 = G.1 then fun _ => none else G.2.2.2 G.1) j = none
      rw [if_pos rfl]
    · have B2 := Bs_el (i := i) B' D (by omega)
      rw [show G.1 + 1 + 36 = 124 + 37 * (i + 1) by omega, show (fun j => if j = i then some G.1 else (fun j => if j < i then RS 123 j else none) j) = (fun j => if j < i + 1 then RS 123 j else none) from funext fun j => by
        by_cases q : j = i
        · subst q
          rw [if_pos rfl, if_pos (by omega), RS_14 hi6, hG]
        · rw [if_neg q]
          by_cases z : j < i
          · rw [if_pos (by omega)]
            exact if_pos z
          · rw [if_neg (by omega)]
            exact if_neg z] at B2
      exact ih (i + 1) _ (by omega) B2
theorem PK_X0 {G : GS} {K : GS → Prop} (hf : Fr 122 G) (hK : ∀ G', Dn 122 (123 + 223) G G' → K G') : v_X0_init_g [.inr (.inr 122)] G K := by
  have e1 := hf.1
  obtain ⟨k0, k1, l1, s1⟩ := k122
  have B0 : Bd 122 (122 + 1) 122 (fun _ => none) G [] (List.replicate 3 none) G := Bd.start hf (fun j => rfl) (fun j => gr0)
  refine ⟨by show 1 ≤ 2; decide, by rw [e1]; exact s1, ?_⟩
  rw [e1]
  refine ⟨cs8 rfl, Bs_arq B0 k1 (Or.inr rfl) (by rw [l1]; rfl) (by omega) k0 (by show 0 < 3; decide) rfl (fun G1 B1 => x0_lp (fun G' D => ⟨⟨D.1, by rw [D.1]; exact s1.symm⟩, hK G' D⟩) 6 0 G1 rfl ?_)⟩
  rw [show (fun j => if j < 0 then RS 123 j else none) = (fun _ => none) from funext fun j => if_neg (Nat.not_lt_zero j)]
  exact B1
theorem k_X9 : kd 0 = 9 ∧ kd 1 = 8 ∧ kd 3 = 7 ∧ kd 4 = 5 ∧ kd 346 = 4 ∧ SL 1 + 52848 = SL 348 ∧ SL 2 + 600 = SL 3 ∧ SL 4 + 0 = SL 4 ∧ SL 5 + 164 = SL 11 ∧ SL 347 + 2742 = SL 348 := by decide +kernel
theorem lay_x {a n : Nat} {kl ll : List Nat} (h : ∀ j ∈ List.range n, kd (a + j) = kl.getD j 99 ∧ ln (a + j) = ll.getD j 0) : ∀ j, j < n → kd (a + j) = kl.getD j 99 ∧ ln (a + j) = ll.getD j 0 := fun j hj => h j (List.mem_range.mpr hj)
theorem PK_X9 {G : GS} {K : GS → Prop} (hf : Fr 0 G) (hK : ∀ G', Dn 0 348 G G' → K G') : v_X9_init_g [.inr (.inr 0)] G K := by
  have e1 := hf.1
  obtain ⟨k0, k1, k3, k4, k346, s0, s1, s3, s4, s346⟩ := k_X9
  have B0 : Bd 0 (0 + 1) 0 (fun _ => none) G [] (List.replicate 9 none) G := Bd.start hf (fun j => rfl) (fun j => gr0)
  have w11 : 11 ∈ swL := by decide
  have w48 : 48 ∈ swL := by decide
  have w85 : 85 ∈ swL := by decide
  refine ⟨by show 1 ≤ 1; decide, by rw [e1]; exact s0, ?_⟩
  rw [e1]
  refine ⟨cs8 rfl, Bs_obj B0 (by decide) k1 (by decide) s1 k0 (by show 0 < 9; decide) rfl (fun G1 K1 f hD => PK_X8 (lay_x (by decide +kernel)) s1 f hD) (fun G1 B1 => ?_)⟩
  refine Bs_obj B1 (by decide) k3 (by decide) s3 k0 (by show 1 < 9; decide) rfl (fun G1 K1 f hD => PK_X7 k3 f hD) (fun G2 B2 => ?_)
  refine Bs_obj B2 (by decide) k4 (by decide) s4 k0 (by show 2 < 9; decide) rfl (fun G1 K1 f hD => PK_X5 (lay_x (by decide +kernel)) s4 f hD) (fun G3 B3 => ?_)
  refine Bs_obj B3 (by decide) (sw_k 11 w11 0 (by decide)).1 (by decide) (SL_sw 11 w11).1 k0 (by show 3 < 9; decide) rfl (fun G1 K1 f hD => PK_X6 w11 f hD) (fun G4 B4 => ?_)
  refine Bs_obj B4 (by decide) (sw_k 48 w48 0 (by decide)).1 (by decide) (SL_sw 48 w48).1 k0 (by show 4 < 9; decide) rfl (fun G1 K1 f hD => PK_X6 w48 f hD) (fun G5 B5 => ?_)
  refine Bs_obj B5 (by decide) (sw_k 85 w85 0 (by decide)).1 (by decide) (SL_sw 85 w85).1 k0 (by show 5 < 9; decide) rfl (fun G1 K1 f hD => PK_X6 w85 f hD) (fun G6 B6 => ?_)
  refine Bs_obj B6 (by decide) k122.1 (by decide) k122.2.2.2 k0 (by show 7 < 9; decide) rfl (fun G1 K1 f hD => PK_X0 f hD) (fun G7 B7 => ?_)
  refine Bs_obj B7 (by decide) k346 (by decide) s346 k0 (by show 8 < 9; decide) rfl (fun G1 K1 f hD => PK_X4 (lay_x (by decide +kernel)) s346 f hD) (fun G8 B8 => ?_)
  refine ⟨rfl, B8.1, ⟨B8.1, by rw [B8.1]; exact s0.symm⟩, hK _ (B8.done (fun j => ?_) (fun j => ?_) (fun z => absurd z (Nat.lt_irrefl 0)))⟩
  · rw [cI_0 (by rw [k0]; decide)]; rfl
  · rw [RS_l k0 (by decide)]; rfl
