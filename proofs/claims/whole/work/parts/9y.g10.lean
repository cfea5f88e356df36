/-! GROWTH 10: the constructors of Switch, History and CellLoans -/
theorem lay_sw {e o n : Nat} {kl ll : List Nat} (he : e ∈ swL) (hn : o + n ≤ 37) (hd : ∀ j ∈ List.range n, kdSw.getD (o + j) 99 = kl.getD j 99 ∧ lnSw.getD (o + j) 0 = ll.getD j 0) : ∀ j, j < n → kd (e + o + j) = kl.getD j 99 ∧ ln (e + o + j) = ll.getD j 0 := by
  intro j hj
  have h1 := sw_k e he (o + j) (by omega)
  have h2 := hd j (List.mem_range.mpr hj)
  rw [show e + o + j = e + (o + j) by omega]
  exact ⟨h1.1.trans h2.1, h1.2.trans h2.2⟩
theorem lay_pt {e : Nat} (he : e ∈ swL) {p : Nat} (hp : p < 6) : ∀ j, j < 4 → kd (e + 13 + 4 * p + j) = [2, 11, 11, 11].getD j 99 ∧ ln (e + 13 + 4 * p + j) = [0, 240, 240, 240].getD j 0 := by
  have key : ∀ p ∈ List.range 6, ∀ j ∈ List.range 4, kdSw.getD (13 + 4 * p + j) 99 = [2, 11, 11, 11].getD j 99 ∧ lnSw.getD (13 + 4 * p + j) 0 = [0, 240, 240, 240].getD j 0 := by decide +kernel
  have h := lay_sw (o := 13 + 4 * p) (n := 4) he (by omega) (key p (List.mem_range.mpr hp))
  intro j hj
  rw [show e + 13 + 4 * p + j = e + (13 + 4 * p) + j by omega]
  exact h j hj
abbrev L6 : List Int := ((List.replicate 8 0).set 2 4).set 3 100
abbrev X6l (e : Nat) : List (Option Nat) := (((List.replicate 8 none).set 0 (some (e + 1))).set 6 (some (e + 1 + 1))).set 7 (some (e + 1 + 1 + 1 + 4))
theorem RS_13 {e i : Nat} (h : kd (e + 1) = 13) (hi : i < 6) : RS (e + 1) i = some (e + 13 + 4 * i) := by
  unfold RS
  rw [h, if_pos rfl, if_pos hi, show e + 1 + 12 + 4 * i = e + 13 + 4 * i by omega]
theorem RS_13n {e j : Nat} (h : kd (e + 1) = 13) (hi : ¬ j < 6) : RS (e + 1) j = none := by
  unfold RS
  rw [h, if_pos rfl, if_neg hi]
theorem x6_lp {e : Nat} (he : e ∈ swL) {G0 : GS} {post : GS → Prop} (hK : ∀ G', Dn e (e + 1 + 36) G0 G' → post G') : ∀ (k i : Nat) (G : GS), i + k = 6 → Bd e (e + 13 + 4 * i) (e + 1) (fun j => if j < i then RS (e + 1) j else none) G0 L6 (X6l e) G → C_X6_init_48 (e + 1 + 36) post [some (.inr (.inr e)), some (.inl (i : Int))] [] G := by
  have k0 : kd e = 6 := (sw_k e he 0 (by decide)).1
  have k1 : kd (e + 1) = 13 := (sw_k e he 1 (by decide)).1
  have l1 : ln (e + 1) = 6 := (sw_k e he 1 (by decide)).2
  intro k
  induction k with
  | zero =>
    intro i G hi B
    have e6 : i = 6 := by omega
    subst e6
    have hz := B.1
    refine lfg_in ⟨⟨by omega, by omega⟩, ⟨by decide, by decide⟩, fun _ => ⟨rfl, by rw [hz], hK G ?_⟩, fun z => absurd (Int.le_refl _) z⟩
    refine B.done (fun j => ?_) (fun j => ?_) (fun _ => ⟨cI_0 (by omega), funext fun j => ?_⟩)
    · rw [getD_set (by show 3 < 8; decide), getD_set (by show 2 < 8; decide), gr0]
      unfold cI
      rw [k0, if_pos rfl]
      by_cases q : j = 3
      · subst q; rfl
      · rw [if_neg q]
        by_cases q2 : j = 2
        · subst q2; rfl
        · rw [if_neg q2, if_neg q2, if_neg q]
    · rw [RS_l k0 (by decide)]; rfl
    · by_cases q : j < 6
      · rw [if_pos q]
      · rw [if_neg q, RS_13n k1 q]
  | succ k ih =>
    intro i G hi B
    have hG : G.1 = e + 13 + 4 * i := B.1
    have hi6 : i < 6 := by omega
    have lp := lay_pt he hi6
    have kb : kd G.1 = 2 := by rw [hG]; exact (lp 0 (by decide)).1
    have hx0 : G.2.2.2 e 0 = some (e + 1) := B.2.2.2.2.2.2.2 0
    have hsl : SL (G.1 + 1) + 720 = SL (G.1 + 1 + 3) := by
      have := (SL_sw e he).2.2.2 i (List.mem_range.mpr hi6)
      rw [hG, show e + 13 + 4 * i + 1 = e + 14 + 4 * i by omega]
      exact this
    have htop : G.1 + 1 + 3 ≤ e + 1 + 36 := by omega
    have hmo := SL_mono htop
    have B' : Bd e G.1 (e + 1) (fun j => if j < i then RS (e + 1) j else none) G0 L6 (X6l e) G := by rw [hG]; exact B
    refine lfg_in ⟨⟨by omega, by omega⟩, ⟨by decide, by decide⟩, fun z => absurd (show (6 : Int) ≤ (i : Int) from z) (by omega), fun _ => ⟨⟨by omega, k0⟩, e + 1, hx0, kb, by omega, trivial, Nat.succ_pos _, cs8 rfl, ⟨htop, by show SL (G.1 + 1) + 720 ≤ _; omega⟩, PK_X2 (a := G.1) (fun j hj => by rw [hG]; exact lp j hj) hsl ⟨rfl, fun j => ?_, fun j => ?_, fun j => ?_⟩ (fun G' D => ⟨Or.inl ⟨⟨by rw [D.1]; omega, k1⟩, ⟨by rw [D.1]; omega, kb⟩⟩, by omega, by rw [l1]; show (i : Int) < ((6 : Nat) : Int); omega, ?_⟩)⟩⟩
    · show (if G.1 = G.1 then fun _ => (0 : Int) else G.2.1 G.1) j = 0
      rw [if_pos rfl]
    · show (if G.1 = G.1 then fun _ => (0 : Int) else G.2.2.1 G.1) j = 0
      rw [if_pos rfl]
    · show (if G.1 = G.1 then fun _ => none else G.2.2.2 G.1) j = none
      rw [if_pos rfl]
    · have B2 := Bs_el (i := i) B' D (by omega)
      rw [show G.1 + 1 + 3 = e + 13 + 4 * (i + 1) by omega, show (fun j => if j = i then some G.1 else (fun j => if j < i then RS (e + 1) j else none) j) = (fun j => if j < i + 1 then RS (e + 1) j else none) from funext fun j => by
        by_cases q : j = i
        · subst q
          rw [if_pos rfl, if_pos (by omega), RS_13 k1 hi6, hG]
        · rw [if_neg q]
          by_cases z : j < i
          · rw [if_pos (by omega)]
            exact if_pos z
          · rw [if_neg (by omega)]
            exact if_neg z] at B2
      exact ih (i + 1) _ (by omega) B2
theorem PK_X6 {e : Nat} {G : GS} {K : GS → Prop} (he : e ∈ swL) (hf : Fr e G) (hK : ∀ G', Dn e (e + 1 + 36) G G' → K G') : v_X6_init_g [.inr (.inr e)] G K := by
  have e1 := hf.1
  have k0 : kd e = 6 := (sw_k e he 0 (by decide)).1
  have k1 : kd (e + 1) = 13 := (sw_k e he 1 (by decide)).1
  have l1 : ln (e + 1) = 6 := (sw_k e he 1 (by decide)).2
  obtain ⟨s1, s2, s3, s4⟩ := SL_sw e he
  have B0 : Bd e (e + 1) e (fun _ => none) G (List.replicate 8 0) (List.replicate 8 none) G := Bd.start hf (fun j => gr0) (fun j => gr0)
  refine ⟨by show 1 ≤ 2; decide, by rw [e1]; exact s1, ?_⟩
  rw [e1]
  refine ⟨cs8 rfl, Bs_arq B0 k1 (Or.inl rfl) (by rw [l1]; rfl) (by omega) k0 (by show 0 < 8; decide) rfl (fun G1 B1 => Bs_putI B1 k0 (by show 2 < 8; decide) rfl (fun G2 B2 => Bs_putI B2 k0 (by show 3 < 8; decide) rfl (fun G3 B3 => Bs_obj B3 (by omega) (sw_k e he 2 (by decide)).1 (by omega) s2 k0 (by show 6 < 8; decide) rfl (fun G1 K1 f hD => PK_X3 (lay_sw (o := 2) he (by decide) (by decide +kernel)) s2 f hD) (fun G4 B4 => Bs_obj B4 (by omega) (sw_k e he 7 (by decide)).1 (by omega) s3 k0 (by show 7 < 8; decide) rfl (fun G1 K1 f hD => PK_X1 (lay_sw (o := 7) he (by decide) (by decide +kernel)) s3 f hD) (fun G5 B5 => x6_lp he (fun G' D => ⟨⟨D.1, by rw [D.1]; exact s1.symm⟩, hK G' D⟩) 6 0 G5 rfl ?_)))))⟩
  rw [show (fun j => if j < 0 then RS (e + 1) j else none) = (fun _ => none) from funext fun j => if_neg (Nat.not_lt_zero j)]
  exact B5
