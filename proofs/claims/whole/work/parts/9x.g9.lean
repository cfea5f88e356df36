/-! GROWTH 9: the constructors of the class -/
theorem gr0 {α : Type} {n j : Nat} {d : α} : (List.replicate n d).getD j d = d := by
  rw [List.getD_eq_getElem?_getD, List.getElem?_replicate]
  split <;> rfl
theorem PK_X1 {a : Nat} {G : GS} {K : GS → Prop} (hk : ∀ j, j < 6 → kd (a + j) = [1, 11, 11, 11, 11, 11].getD j 99 ∧ ln (a + j) = [0, 20, 20, 20, 20, 4].getD j 0) (hs : SL (a + 1) + 84 = SL (a + 1 + 5)) (hf : Fr a G) (hK : ∀ G', Dn a (a + 1 + 5) G G' → K G') : v_X1_init_g [.inr (.inr a)] G K := by
  have e := hf.1
  have k0 : kd a = 1 := (hk 0 (by decide)).1
  have B0 : Bd a (a + 1) a (fun _ => none) G [] (List.replicate 6 none) G := Bd.start hf (fun j => rfl) (fun j => gr0)
  refine ⟨by show 1 ≤ 1; decide, by rw [e]; exact hs, ?_⟩
  rw [e]
  refine ⟨cs8 rfl, Bs_arr B0 (by omega) (t := 11) (hk 1 (by decide)).1 (Or.inl rfl) (by show _ = ((ln (a + 1) : Nat) : Int); rw [(hk 1 (by decide)).2]; rfl) (by omega) k0 (by show 0 < 6; decide) rfl (fun G1 B1 => Bs_arr B1 (by omega) (t := 11) (hk 2 (by decide)).1 (Or.inl rfl) (by show _ = ((ln (a + 2) : Nat) : Int); rw [(hk 2 (by decide)).2]; rfl) (by omega) k0 (by show 1 < 6; decide) rfl (fun G2 B2 => Bs_arr B2 (by omega) (t := 11) (hk 3 (by decide)).1 (Or.inl rfl) (by show _ = ((ln (a + 3) : Nat) : Int); rw [(hk 3 (by decide)).2]; rfl) (by omega) k0 (by show 2 < 6; decide) rfl (fun G3 B3 => Bs_arr B3 (by omega) (t := 11) (hk 4 (by decide)).1 (Or.inl rfl) (by show _ = ((ln (a + 4) : Nat) : Int); rw [(hk 4 (by decide)).2]; rfl) (by omega) k0 (by show 3 < 6; decide) rfl (fun G4 B4 => Bs_arr B4 (by omega) (t := 11) (hk 5 (by decide)).1 (Or.inl rfl) (by show _ = ((ln (a + 5) : Nat) : Int); rw [(hk 5 (by decide)).2]; rfl) (by omega) k0 (by show 4 < 6; decide) rfl (fun G5 B5 => ⟨rfl, B5.1, ⟨B5.1, by rw [B5.1]; exact hs.symm⟩, hK _ (B5.done (fun j => ?_) (fun j => ?_) (fun z => absurd z (Nat.lt_irrefl a)))⟩)))))⟩
  · rw [cI_0 (by omega)]; rfl
  · rw [RS_l k0 (by decide)]; rfl
theorem PK_X2 {a : Nat} {G : GS} {K : GS → Prop} (hk : ∀ j, j < 4 → kd (a + j) = [2, 11, 11, 11].getD j 99 ∧ ln (a + j) = [0, 240, 240, 240].getD j 0) (hs : SL (a + 1) + 720 = SL (a + 1 + 3)) (hf : Fr a G) (hK : ∀ G', Dn a (a + 1 + 3) G G' → K G') : v_X2_init_g [.inr (.inr a)] G K := by
  have e := hf.1
  have k0 : kd a = 2 := (hk 0 (by decide)).1
  have B0 : Bd a (a + 1) a (fun _ => none) G [] (List.replicate 15 none) G := Bd.start hf (fun j => rfl) (fun j => gr0)
  refine ⟨by show 1 ≤ 1; decide, by rw [e]; exact hs, ?_⟩
  rw [e]
  refine ⟨cs8 rfl, Bs_arr B0 (by omega) (t := 11) (hk 1 (by decide)).1 (Or.inl rfl) (by show _ = ((ln (a + 1) : Nat) : Int); rw [(hk 1 (by decide)).2]; rfl) (by omega) k0 (by show 12 < 15; decide) rfl (fun G1 B1 => Bs_arr B1 (by omega) (t := 11) (hk 2 (by decide)).1 (Or.inl rfl) (by show _ = ((ln (a + 2) : Nat) : Int); rw [(hk 2 (by decide)).2]; rfl) (by omega) k0 (by show 13 < 15; decide) rfl (fun G2 B2 => Bs_arr B2 (by omega) (t := 11) (hk 3 (by decide)).1 (Or.inl rfl) (by show _ = ((ln (a + 3) : Nat) : Int); rw [(hk 3 (by decide)).2]; rfl) (by omega) k0 (by show 14 < 15; decide) rfl (fun G3 B3 => ⟨rfl, B3.1, ⟨B3.1, by rw [B3.1]; exact hs.symm⟩, hK _ (B3.done (fun j => ?_) (fun j => ?_) (fun z => absurd z (Nat.lt_irrefl a)))⟩)))⟩
  · rw [cI_0 (by omega)]; rfl
  · rw [RS_l k0 (by decide)]; rfl
theorem PK_X3 {a : Nat} {G : GS} {K : GS → Prop} (hk : ∀ j, j < 5 → kd (a + j) = [3, 11, 11, 11, 11].getD j 99 ∧ ln (a + j) = [0, 240, 240, 240, 240].getD j 0) (hs : SL (a + 1) + 960 = SL (a + 1 + 4)) (hf : Fr a G) (hK : ∀ G', Dn a (a + 1 + 4) G G' → K G') : v_X3_init_g [.inr (.inr a)] G K := by
  have e := hf.1
  have k0 : kd a = 3 := (hk 0 (by decide)).1
  have B0 : Bd a (a + 1) a (fun _ => none) G [] (List.replicate 5 none) G := Bd.start hf (fun j => rfl) (fun j => gr0)
  refine ⟨by show 1 ≤ 1; decide, by rw [e]; exact hs, ?_⟩
  rw [e]
  refine ⟨cs8 rfl, Bs_arr B0 (by omega) (t := 11) (hk 1 (by decide)).1 (Or.inl rfl) (by show _ = ((ln (a + 1) : Nat) : Int); rw [(hk 1 (by decide)).2]; rfl) (by omega) k0 (by show 0 < 5; decide) rfl (fun G1 B1 => Bs_arr B1 (by omega) (t := 11) (hk 2 (by decide)).1 (Or.inl rfl) (by show _ = ((ln (a + 2) : Nat) : Int); rw [(hk 2 (by decide)).2]; rfl) (by omega) k0 (by show 1 < 5; decide) rfl (fun G2 B2 => Bs_arr B2 (by omega) (t := 11) (hk 3 (by decide)).1 (Or.inl rfl) (by show _ = ((ln (a + 3) : Nat) : Int); rw [(hk 3 (by decide)).2]; rfl) (by omega) k0 (by show 2 < 5; decide) rfl (fun G3 B3 => Bs_arr B3 (by omega) (t := 11) (hk 4 (by decide)).1 (Or.inl rfl) (by show _ = ((ln (a + 4) : Nat) : Int); rw [(hk 4 (by decide)).2]; rfl) (by omega) k0 (by show 3 < 5; decide) rfl (fun G4 B4 => ⟨rfl, B4.1, ⟨B4.1, by rw [B4.1]; exact hs.symm⟩, hK _ (B4.done (fun j => ?_) (fun j => ?_) (fun z => absurd z (Nat.lt_irrefl a)))⟩))))⟩
  · rw [cI_0 (by omega)]; rfl
  · rw [RS_l k0 (by decide)]; rfl
theorem PK_X4 {a : Nat} {G : GS} {K : GS → Prop} (hk : ∀ j, j < 2 → kd (a + j) = [4, 11].getD j 99 ∧ ln (a + j) = [0, 2742].getD j 0) (hs : SL (a + 1) + 2742 = SL (a + 1 + 1)) (hf : Fr a G) (hK : ∀ G', Dn a (a + 1 + 1) G G' → K G') : v_X4_init_g [.inr (.inr a)] G K := by
  have e := hf.1
  have k0 : kd a = 4 := (hk 0 (by decide)).1
  have B0 : Bd a (a + 1) a (fun _ => none) G [] (List.replicate 2 none) G := Bd.start hf (fun j => rfl) (fun j => gr0)
  refine ⟨by show 1 ≤ 1; decide, by rw [e]; exact hs, ?_⟩
  rw [e]
  refine ⟨cs8 rfl, Bs_arr B0 (by omega) (t := 11) (hk 1 (by decide)).1 (Or.inl rfl) (by show _ = ((ln (a + 1) : Nat) : Int); rw [(hk 1 (by decide)).2]; rfl) (by omega) k0 (by show 0 < 2; decide) rfl (fun G1 B1 => ⟨rfl, B1.1, ⟨B1.1, by rw [B1.1]; exact hs.symm⟩, hK _ (B1.done (fun j => ?_) (fun j => ?_) (fun z => absurd z (Nat.lt_irrefl a)))⟩)⟩
  · rw [cI_0 (by omega)]; rfl
  · rw [RS_l k0 (by decide)]; rfl
theorem PK_X5 {a : Nat} {G : GS} {K : GS → Prop} (hk : ∀ j, j < 7 → kd (a + j) = [5, 11, 11, 11, 11, 11, 11].getD j 99 ∧ ln (a + j) = [0, 40, 40, 40, 40, 2, 2].getD j 0) (hs : SL (a + 1) + 164 = SL (a + 1 + 6)) (hf : Fr a G) (hK : ∀ G', Dn a (a + 1 + 6) G G' → K G') : v_X5_init_g [.inr (.inr a)] G K := by
  have e := hf.1
  have k0 : kd a = 5 := (hk 0 (by decide)).1
  have B0 : Bd a (a + 1) a (fun _ => none) G [] (List.replicate 9 none) G := Bd.start hf (fun j => rfl) (fun j => gr0)
  refine ⟨by show 1 ≤ 1; decide, by rw [e]; exact hs, ?_⟩
  rw [e]
  refine ⟨cs8 rfl, Bs_arr B0 (by omega) (t := 11) (hk 1 (by decide)).1 (Or.inl rfl) (by show _ = ((ln (a + 1) : Nat) : Int); rw [(hk 1 (by decide)).2]; rfl) (by omega) k0 (by show 0 < 9; decide) rfl (fun G1 B1 => Bs_arr B1 (by omega) (t := 11) (hk 2 (by decide)).1 (Or.inl rfl) (by show _ = ((ln (a + 2) : Nat) : Int); rw [(hk 2 (by decide)).2]; rfl) (by omega) k0 (by show 1 < 9; decide) rfl (fun G2 B2 => Bs_arr B2 (by omega) (t := 11) (hk 3 (by decide)).1 (Or.inl rfl) (by show _ = ((ln (a + 3) : Nat) : Int); rw [(hk 3 (by decide)).2]; rfl) (by omega) k0 (by show 2 < 9; decide) rfl (fun G3 B3 => Bs_arr B3 (by omega) (t := 11) (hk 4 (by decide)).1 (Or.inl rfl) (by show _ = ((ln (a + 4) : Nat) : Int); rw [(hk 4 (by decide)).2]; rfl) (by omega) k0 (by show 3 < 9; decide) rfl (fun G4 B4 => Bs_arr B4 (by omega) (t := 11) (hk 5 (by decide)).1 (Or.inl rfl) (by show _ = ((ln (a + 5) : Nat) : Int); rw [(hk 5 (by decide)).2]; rfl) (by omega) k0 (by show 6 < 9; decide) rfl (fun G5 B5 => Bs_arr B5 (by omega) (t := 11) (hk 6 (by decide)).1 (Or.inl rfl) (by show _ = ((ln (a + 6) : Nat) : Int); rw [(hk 6 (by decide)).2]; rfl) (by omega) k0 (by show 7 < 9; decide) rfl (fun G6 B6 => ⟨rfl, B6.1, ⟨B6.1, by rw [B6.1]; exact hs.symm⟩, hK _ (B6.done (fun j => ?_) (fun j => ?_) (fun z => absurd z (Nat.lt_irrefl a)))⟩))))))⟩
  · rw [cI_0 (by omega)]; rfl
  · rw [RS_l k0 (by decide)]; rfl

theorem PK_X7 {a : Nat} {G : GS} {K : GS → Prop} (k0 : kd a = 7) (hf : Fr a G) (hK : ∀ G', Dn a (a + 1 + 0) G G' → K G') : v_X7_init_g [.inr (.inr a)] G K := by
  have e := hf.1
  have B0 : Bd a (a + 1) a (fun _ => none) G [] (List.replicate 2 none) G := Bd.start hf (fun j => rfl) (fun j => gr0)
  refine ⟨by show 1 ≤ 1; decide, rfl, ?_⟩
  rw [e]
  refine ⟨cs8 rfl, rfl, B0.1, ⟨B0.1, by rw [B0.1]; rfl⟩, hK _ (B0.done (fun j => ?_) (fun j => ?_) (fun z => absurd z (Nat.lt_irrefl a)))⟩
  · rw [cI_0 (by omega)]; rfl
  · rw [RS_l k0 (by decide)]; rfl
theorem PK_X8 {a : Nat} {G : GS} {K : GS → Prop} (hk : ∀ j, j < 2 → kd (a + j) = [8, 11].getD j 99 ∧ ln (a + j) = [0, 600].getD j 0) (hs : SL (a + 1) + 600 = SL (a + 1 + 1)) (hf : Fr a G) (hK : ∀ G', Dn a (a + 1 + 1) G G' → K G') : v_X8_init_g [.inr (.inr a)] G K := by
  have e := hf.1
  have k0 : kd a = 8 := (hk 0 (by decide)).1
  have B0 : Bd a (a + 1) a (fun _ => none) G (List.replicate 9 0) (List.replicate 9 none) G := Bd.start hf (fun j => gr0) (fun j => gr0)
  refine ⟨by show 1 ≤ 1; decide, by rw [e]; exact hs, ?_⟩
  rw [e]
  refine ⟨cs8 rfl, Bs_arr B0 (by omega) (t := 11) (hk 1 (by decide)).1 (Or.inl rfl) (by show _ = ((ln (a + 1) : Nat) : Int); rw [(hk 1 (by decide)).2]; rfl) (by omega) k0 (by show 0 < 9; decide) rfl (fun G1 B1 => Bs_putI B1 k0 (by show 3 < 9; decide) rfl (fun G2 B2 => ⟨rfl, B2.1, ⟨B2.1, by rw [B2.1]; exact hs.symm⟩, hK _ (B2.done (fun j => ?_) (fun j => ?_) (fun z => absurd z (Nat.lt_irrefl a)))⟩))⟩
  · rw [getD_set (by show 3 < 9; decide), gr0]
    unfold cI
    rw [k0]
    rfl
  · rw [RS_l k0 (by decide)]; rfl
theorem Bs_el {a b c i : Nat} {rX : Nat → Option Nat} {G0 G G' : GS} {li : List Int} {lx : List (Option Nat)} (B : Bd a b (a + 1) rX G0 li lx G) (D : Dn b c (gN G) G') (hbc : b < c) : Bd a c (a + 1) (fun j => if j = i then some b else rX j) G0 li lx (gX G' (a + 1) i b) := by
  obtain ⟨h1, h2, h3, h4, h5, h6, h7, h8⟩ := B
  obtain ⟨d1, d2, d3⟩ := D
  have s : ∀ e, e < b → SmR G G' e := fun e he => (SmR.gN (by omega)).trans (d2 e he)
  obtain ⟨p1, p2, p3, p4⟩ := h5 (Nat.lt_succ_self a)
  refine ⟨d1, by omega, fun e he => (h3 e he).trans ((s e (by omega)).trans (SmR.gX (by omega))), fun e e1 e2 e3 => ?_, fun _ => ⟨by omega, (s _ p1).1.trans p2, (s _ p1).2.1.trans p3, ?_⟩, fun j => ?_, fun j => ?_, fun j => ?_⟩
  · by_cases q : e < b
    · exact ((h4 e e1 q e3).sm (s e q)).sm (SmR.gX e3)
    · exact (d3 e (by omega) e2).sm (SmR.gX e3)
  · funext j
    show (if a + 1 = a + 1 ∧ j = i then some b else G'.2.2.2 (a + 1) j) = _
    by_cases z : j = i
    · rw [if_pos ⟨rfl, z⟩, if_pos z]
    · rw [if_neg (fun y => z y.2), if_neg z, (s _ p1).2.2, p4]
  · have q := s a h2
    show G'.2.1 a j = _
    rw [q.1]; exact h6 j
  · have q := s a h2
    show G'.2.2.1 a j = _
    rw [q.2.1]; exact h7 j
  · have q := s a h2
    show (if a = a + 1 ∧ j = i then some b else G'.2.2.2 a j) = _
    rw [if_neg (fun y => absurd y.1 (by omega)), q.2.2]; exact h8 j
theorem SL_sw : ∀ e ∈ swL, SL (e + 1) + 5471 = SL (e + 1 + 36) ∧ SL (e + 3) + 960 = SL (e + 3 + 4) ∧ SL (e + 8) + 84 = SL (e + 8 + 5) ∧ ∀ p ∈ List.range 6, SL (e + 14 + 4 * p) + 720 = SL (e + 14 + 4 * p + 3) := by decide +kernel
