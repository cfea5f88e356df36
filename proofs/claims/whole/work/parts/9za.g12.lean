/-! GROWTH 12: the constructor of the model -/
theorem gI_z {G : GS} {a k : Nat} (h : G.2.1 a k = 0) : gI G a k 0 = G := by
  have e : uM G.2.1 a k 0 = G.2.1 := by
    funext x y
    unfold uM
    by_cases q : x = a ∧ y = k
    · rw [if_pos q, q.1, q.2, h]
    · rw [if_neg q]
  show (G.1, uM G.2.1 a k 0, G.2.2.1, G.2.2.2) = G
  rw [e]
theorem gL_z {G : GS} {a k : Nat} (h : G.2.2.1 a k = 0) : gL G a k 0 = G := by
  have e : uM G.2.2.1 a k 0 = G.2.2.1 := by
    funext x y
    unfold uM
    by_cases q : x = a ∧ y = k
    · rw [if_pos q, q.1, q.2, h]
    · rw [if_neg q]
  show (G.1, G.2.1, uM G.2.2.1 a k 0, G.2.2.2) = G
  rw [e]
/-- the model as it is made: its object, its store, its names -/
def MdG (G : GS) : Prop := isG 348 10 G ∧ G.2.2.2 348 1 = some 349 ∧ G.2.2.2 348 2 = some 350 ∧ G.2.1 348 3 = 0 ∧ isG 349 11 G ∧ isG 350 12 G
theorem PG_setM {G : GS} {K : GS → Prop} {i v : Int} (h : MdG G) (h0 : 0 ≤ i) (h1 : i < 20800) (hK : K (gI G 349 i.toNat v)) : v_X10_set_g [.inr (.inr 348), .inl i, .inl v] G K := by
  obtain ⟨k0, k1, k2, k3, k4, k5⟩ := h
  have e : G.2.1 348 3 + i = i := by omega
  refine ⟨cs8 rfl, rfl, k0, 349, k1, k0, k4, ?_, ?_, rfl, rfl, ⟨rfl, rfl⟩, ?_⟩
  · show 0 ≤ G.2.1 348 3 + i
    omega
  · show G.2.1 348 3 + i < ((ln 349 : Nat) : Int)
    rw [ln349, e]
    exact h1
  · show K (gI G 349 (G.2.1 348 3 + i).toNat v)
    rw [e]
    exact hK
theorem PG_nameM {G : GS} {K : GS → Prop} {i : Int} {v : Int} (h : MdG G) (h0 : 0 ≤ i) (h1 : i < 60) (hK : K (gL G 350 i.toNat v)) : v_X10_setName_g [.inr (.inr 348), .inl i, .inr (.inl v)] G K := by
  obtain ⟨k0, k1, k2, k3, k4, k5⟩ := h
  have e : 6 * (G.2.1 348 3).tdiv 2080 + i = i := by
    rw [k3]
    have : Int.tdiv 0 2080 = 0 := by decide
    omega
  refine ⟨cs8 rfl, rfl, k0, 350, k2, k0, ?_, ⟨by decide, by decide⟩, by decide, k5, ?_, ?_, rfl, rfl, ⟨rfl, rfl⟩, ?_⟩
  · show R32 (G.2.1 348 3)
    rw [k3]
    exact ⟨by decide, by decide⟩
  · show 0 ≤ 6 * (G.2.1 348 3).tdiv 2080 + i
    rw [e]
    exact h0
  · show 6 * (G.2.1 348 3).tdiv 2080 + i < ((ln 350 : Nat) : Int)
    rw [ln350, e]
    exact h1
  · show K (gL G 350 (6 * (G.2.1 348 3).tdiv 2080 + i).toNat v)
    rw [e]
    exact hK
theorem clr2 {G : GS} {post : GS → Prop} (h : MdG G) (hz : ∀ j, G.2.2.1 350 j = 0) (hK : post (gI (gI G 349 1 4) 349 2 100)) : ∀ (k i : Nat), i + k = 6 → C_X10_clears_23 G.1 post [some (.inr (.inr 348)), some (.inl (i : Int))] [] G := by
  have h0 := h.1
  intro k
  induction k with
  | zero =>
    intro i hi
    have e : i = 6 := by omega
    subst e
    refine lfg_in ⟨⟨by decide, by decide⟩, ⟨by decide, by decide⟩, fun _ => ?_, fun z => absurd (Int.le_refl _) z⟩
    have h' : MdG (gI G 349 1 4) := ⟨h.1, h.2.1, h.2.2.1, (show uM G.2.1 349 1 4 348 3 = 0 from (uM_e (by decide)).trans h.2.2.2.1), h.2.2.2.2⟩
    exact ⟨h0, Nat.lt_of_le_of_lt (Nat.zero_le _) h0.1, cs8 rfl, ⟨Nat.le_refl _, Nat.le_refl _⟩, PG_setM (i := 1) (v := 4) h (by decide) (by decide) ⟨h0, Nat.lt_of_le_of_lt (Nat.zero_le _) h0.1, cs8 rfl, ⟨Nat.le_refl _, Nat.le_refl _⟩, PG_setM (i := 2) (v := 100) (G := gI G 349 1 4) h' (by decide) (by decide) ⟨rfl, rfl, hK⟩⟩⟩
  | succ k ih =>
    intro i hi
    refine lfg_in ⟨⟨by omega, by omega⟩, ⟨by decide, by decide⟩, fun z => absurd (show (6 : Int) ≤ (i : Int) from z) (by omega), fun _ => ⟨h0, Nat.lt_of_le_of_lt (Nat.zero_le _) h0.1, cs8 rfl, ⟨Nat.le_refl _, Nat.le_refl _⟩, PG_nameM (i := (i : Int)) (v := 0) h (by omega) (by omega) ?_⟩⟩
    rw [gL_z (hz _)]
    exact ih (i + 1) (by omega)
theorem clr1 {G : GS} {post : GS → Prop} (h : MdG G) (hs : ∀ j, G.2.1 349 j = 0) (hz : ∀ j, G.2.2.1 350 j = 0) (hK : post (gI (gI G 349 1 4) 349 2 100)) : ∀ (k i : Nat), i + k = 2080 → C_X10_clears_2 G.1 post [some (.inr (.inr 348)), some (.inl (i : Int))] [] G := by
  have h0 := h.1
  intro k
  induction k with
  | zero =>
    intro i hi
    have e : i = 2080 := by omega
    subst e
    refine lfg_in ⟨⟨by decide, by decide⟩, ⟨by decide, by decide⟩, fun _ => ?_, fun z => absurd (Int.le_refl _) z⟩
    exact clr2 h hz hK 6 0 rfl
  | succ k ih =>
    intro i hi
    refine lfg_in ⟨⟨by omega, by omega⟩, ⟨by decide, by decide⟩, fun z => absurd (show (2080 : Int) ≤ (i : Int) from z) (by omega), fun _ => ⟨h0, Nat.lt_of_le_of_lt (Nat.zero_le _) h0.1, cs8 rfl, ⟨Nat.le_refl _, Nat.le_refl _⟩, PG_setM (i := (i : Int)) (v := 0) h (by omega) (by omega) ?_⟩⟩
    rw [gI_z (hs _)]
    exact ih (i + 1) (by omega)
theorem P_clearsG {G : GS} {K : GS → Prop} (h : MdG G) (hs : ∀ j, G.2.1 349 j = 0) (hz : ∀ j, G.2.2.1 350 j = 0) (hK : K (gI (gI G 349 1 4) 349 2 100)) : v_X10_clears_g [.inr (.inr 348)] G K := by
  refine ⟨cs8 rfl, rfl, ?_⟩
  exact clr1 h hs hz ⟨⟨rfl, rfl⟩, hK⟩ 2080 0 rfl
theorem k_X10 : kd 348 = 10 ∧ kd 349 = 11 ∧ kd 350 = 12 ∧ kd 351 = 11 ∧ kd 352 = 11 ∧ kd 353 = 11 ∧ kd 354 = 11 ∧ ln 349 = 20800 ∧ ln 350 = 60 ∧ ln 351 = 600 ∧ ln 352 = 4 ∧ ln 353 = 4 ∧ ln 354 = 3500 ∧ SL (348 + 1) + 24968 = SL (348 + 1 + 6) := by decide +kernel
theorem PK_X10 {G : GS} {K : GS → Prop} (hf : Fr 348 G) (hK : ∀ G', Dn 348 355 G G' → K (gI (gI G' 349 1 4) 349 2 100)) : v_X10_init_g [.inr (.inr 348)] G K := by
  have e1 := hf.1
  obtain ⟨k0, k1, k2, k3, k4, k5, k6, l1, l2, l3, l4, l5, l6, s0⟩ := k_X10
  have B0 : Bd 348 (348 + 1) 348 (fun _ => none) G (List.replicate 26 0) (List.replicate 26 none) G := Bd.start hf (fun j => gr0) (fun j => gr0)
  refine ⟨by show 1 ≤ 1; decide, by rw [e1]; exact s0, ?_⟩
  rw [e1]
  refine ⟨cs8 rfl, Bs_arr B0 (by omega) (t := 11) k1 (Or.inl rfl) (by rw [l1]; rfl) (by omega) k0 (by show 1 < 26; decide) rfl (fun G1 B1 => Bs_arr B1 (by omega) (t := 12) k2 (Or.inr rfl) (by rw [l2]; rfl) (by omega) k0 (by show 2 < 26; decide) rfl (fun G2 B2 => Bs_arr B2 (by omega) (t := 11) k3 (Or.inl rfl) (by rw [l3]; rfl) (by omega) k0 (by show 4 < 26; decide) rfl (fun G3 B3 => Bs_putI B3 k0 (by show 11 < 26; decide) rfl (fun G4 B4 => ?_))))⟩
  refine Bs_arr B4 (by omega) (t := 11) k4 (Or.inl rfl) (by rw [l4]; rfl) (by omega) k0 (by show 21 < 26; decide) rfl (fun G5 B5 => Bs_arr B5 (by omega) (t := 11) k5 (Or.inl rfl) (by rw [l5]; rfl) (by omega) k0 (by show 22 < 26; decide) rfl (fun G6 B6 => Bs_arr B6 (by omega) (t := 11) k6 (Or.inl rfl) (by rw [l6]; rfl) (by omega) k0 (by show 23 < 26; decide) rfl (fun G7 B7 => ?_)))
  have h7 : G7.1 = 355 := B7.1
  have h7s : SL G7.1 = SL (348 + 1 + 6) := congrArg SL (show G7.1 = 348 + 1 + 6 from B7.1)
  have D : Dn 348 355 G G7 := B7.done (fun j => ?_) (fun j => ?_) (fun z => absurd z (Nat.lt_irrefl 348))
  · have hm : MdG G7 := by
      obtain ⟨d1, d2, d3⟩ := D
      obtain ⟨f1, f2, f3⟩ := d3 348 (by decide) (by decide)
      refine ⟨⟨by omega, k0⟩, by rw [f3]; decide +kernel, by rw [f3]; decide +kernel, by rw [f1]; decide +kernel, ⟨by omega, k1⟩, ⟨by omega, k2⟩⟩
    refine ⟨⟨by omega, k0⟩, by omega, cs8 rfl, ⟨by omega, Nat.le_of_eq h7s⟩, P_clearsG hm (fun j => ?_) (fun j => ?_) ⟨rfl, h7, ⟨h7, ?_⟩, hK _ D⟩⟩
    · rw [(D.2.2 349 (by decide) (by decide)).1, cI_0 (by rw [k1]; decide)]
    · rw [(D.2.2 350 (by decide) (by decide)).2.1]
    · show SL G7.1 = _
      rw [h7s, ← s0]
  · rw [getD_set (by show 11 < 26; decide), gr0]
    unfold cI
    rw [k0]
    rfl
  · rw [RS_l k0 (by decide)]; rfl
