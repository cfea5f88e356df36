/-! PURE 66: the class reads a switch -/
def FR (μ μ' : MM) : Prop := (∀ a, a ≠ 1 → a ≠ 3 → (a < 48 ∨ 85 ≤ a) → μ'.1 a = μ.1 a) ∧ μ'.1 1 1 = μ.1 1 1 ∧ (∀ a, a ≠ 1 → (a < 48 ∨ 85 ≤ a) → μ'.2 a = μ.2 a)
theorem FR.refl {μ : MM} : FR μ μ := ⟨fun _ _ _ _ => rfl, rfl, fun _ _ _ => rfl⟩
theorem FR.trans {μ μ1 μ2 : MM} (h : FR μ μ1) (h' : FR μ1 μ2) : FR μ μ2 := ⟨fun a x y z => (h'.1 a x y z).trans (h.1 a x y z), h'.2.1.trans h.2.1, fun a x y => (h'.2.2 a x y).trans (h.2.2 a x y)⟩
theorem F1.fr {ks : List Nat} {μ μ' : MM} (h : F1 ks μ μ') (hk : 1 ∉ ks) : FR μ μ' := ⟨fun a x _ _ => h.1 a x, h.2.1 1 hk, fun a x _ => h.2.2 a x⟩
theorem FK.fr {μ μ' : MM} (h : FK 48 μ μ') : FR μ μ' := ⟨fun a _ _ z => (h a (by omega)).1, by rw [(h 1 (by omega)).1], fun a _ z => (h a (by omega)).2⟩
theorem FR.put3 {I J : Mi} {k : Nat} {v : Int} : FR (I, J) (uM I 3 k v, J) := ⟨fun a _ y _ => uM_r y, uM_e (I := I) (e := 3) (k := k) (e' := 1) (k' := 1) (v := v) (by decide), fun _ _ _ => rfl⟩
theorem RA_nil {α : Type} {I : Mi} {a n : Nat} {w : α → Nat → Int} : RA I a n w ([] : List α) := fun i r hr => by simp at hr
theorem h3R : isK 3 7 := ⟨by decide, by decide +kernel⟩
/-- the class, reading a switch -/
def RD (μ : MM) (B : List Int) (S : AS) (ht hk : Int) : Prop := TBc μ B ∧ HC 48 μ S ∧ Fsh S ∧ ErC μ (0, -1) ∧ μ.1 3 0 = ht ∧ μ.1 3 1 = hk
theorem RD.f1 {ks : List Nat} {μ μ' : MM} {B : List Int} {S : AS} {ht hk : Int} (h : RD μ B S ht hk) (hf : F1 ks μ μ') (hn : 1 ∉ ks ∧ 2 ∉ ks ∧ 3 ∉ ks) : RD μ' B S ht hk := by
  obtain ⟨a1, a2, a3, a4, a5, a6⟩ := h
  exact ⟨a1.f1 hf hn.1, HC_fr a2 (fun a x y => ⟨hf.1 a (by omega), hf.2.2 a (by omega)⟩), a3, a4.f1 hf hn.2.1 hn.2.2, by rw [hf.1 3 (by decide)]; exact a5, by rw [hf.1 3 (by decide)]; exact a6⟩
theorem P_X6_addPort {I J : Mi} {K : Option AV → MM → Prop} {S : AS} {w : List Nat} {sh rt f : Int} (h : HC 48 (I, J) S) (hf : Fsh S) (hn : zN S < 6) (hw : wOk w) (h1 : 0 ≤ sh ∧ sh ≤ 40) (h2 : 0 ≤ rt ∧ rt ≤ 9) (h3 : 0 ≤ f ∧ f ≤ 40) (hK : ∀ I' J', HC 48 (I', J') (adP S w sh rt f) → FK 48 (I, J) (I', J') → K none (I', J')) : w_X6_addPort [.inr (.inr 48), .inr (.inl (pk8 w)), .inl sh, .inl rt, .inl f] (I, J) K := by
  have n1 : I 48 1 = (zN S : Int) := h.n
  have hq := sw_pt sw48 (p := zN S) hn
  refine ⟨cs8 rfl, sw_s sw48, ?_⟩
  show o_ci 6 _ _ [.inl (I 48 1)] (I, J)
  rw [n1]
  refine ⟨⟨by omega, by omega⟩, ⟨by omega, by omega⟩, fun z => absurd z (by show ¬ (6 : Int) ≤ (zN S : Int); omega), fun _ => ⟨sw_s sw48, sw_s sw48, ?_⟩⟩
  show o_aald _ _ [.inl (I 48 1), .inr (.inr (48 + ro 6 0))] (I, J)
  rw [n1]
  refine aq (e := 48) sw48 hn ⟨hq, cs8 rfl, ⟨cs8 rfl, hq, hq, hq, hq, hq, hq, hq, hq, hq, hq, hq, hq, ⟨sw_s sw48, sw_s sw48, ?_⟩⟩⟩
  generalize hq0 : 48 + 13 + 4 * zN S = q at *
  have hql : q < 85 ∧ 61 ≤ q := by omega
  show K none (uM (uM (uM (uM (uM (uM (uM (uM (uM (uM (uM (uM I q 1 sh) q 2 rt) q 3 (f * 16)) q 4 0) q 5 0) q 6 0) q 7 0) q 8 0) q 9 0) q 10 0) q 11 0) 48 1 (uM (uM (uM (uM (uM (uM (uM (uM (uM (uM (uM I q 1 sh) q 2 rt) q 3 (f * 16)) q 4 0) q 5 0) q 6 0) q 7 0) q 8 0) q 9 0) q 10 0) q 11 0 48 1 + 1), uM J q 0 (pk8 w))
  have eX : ∃ X : Mi, (uM (uM (uM (uM (uM (uM (uM (uM (uM (uM (uM I q 1 sh) q 2 rt) q 3 (f * 16)) q 4 0) q 5 0) q 6 0) q 7 0) q 8 0) q 9 0) q 10 0) q 11 0) = X ∧ (∀ a, a ≠ q → X a = I a) ∧ X q 1 = sh ∧ X q 2 = rt ∧ X q 3 = 16 * f ∧ (∀ j, 4 ≤ j → j ≤ 11 → X q j = 0) := by
    refine ⟨_, rfl, fun a ha => ?_, ?_, ?_, ?_, fun j j1 j2 => ?_⟩
    · simp only [uM_r ha]
    · simp [uM]
    · simp [uM]
    · simp [uM]; omega
    · have hh : j = 4 ∨ j = 5 ∨ j = 6 ∨ j = 7 ∨ j = 8 ∨ j = 9 ∨ j = 10 ∨ j = 11 := by omega
      rcases hh with rfl | rfl | rfl | rfl | rfl | rfl | rfl | rfl <;> simp [uM]
  obtain ⟨X, e0, x0, x1, x2, x3, x4⟩ := eX
  rw [e0, x0 48 (by omega), n1]
  obtain ⟨a1, a2, a3, a4, a5, a6, a7, a8, a9, a10⟩ := hf
  obtain ⟨c0, c1, c2, c3, c4, c5, c6, c7, c8, c9, c10, c11, c12⟩ := h.2.2
  have e8 : (zR S).length = 0 := by rw [a8]; rfl
  have Y : ∀ a, a ≠ q → a ≠ 48 → uM X 48 1 ((zN S : Int) + 1) a = I a := fun a y1 y2 => by rw [uM_r y2, x0 a y1]
  have Y48 : ∀ j, j ≠ 1 → uM X 48 1 ((zN S : Int) + 1) 48 j = I 48 j := fun j hj => by rw [uM_k hj, x0 48 (by omega)]
  have Yq : ∀ j, uM X 48 1 ((zN S : Int) + 1) q j = X q j := fun j => by rw [uM_e (by omega)]
  refine hK _ _ ⟨sw48, (adP_F ⟨a1, a2, a3, a4, a5, a6, a7, a8, a9, a10⟩ hn hw h1 h2 h3).gd.1, (show CR 48 (uM X 48 1 ((zN S : Int) + 1)) (uM J q 0 (pk8 w)) (adP S w sh rt f) from ⟨?_, ?_, ?_, ?_, ?_, fun p hp => ?_, ?_, ?_, ?_, ?_, ?_, ?_, ?_⟩)⟩ (fun a ha => ⟨Y a (by omega) (by omega), uM_r (by omega)⟩)
  · show uM X 48 1 ((zN S : Int) + 1) 48 1 = ((zN S + 1 : Nat) : Int)
    rw [uM_s]; omega
  · rw [Y48 2 (by decide)]; exact c1
  · rw [Y48 3 (by decide)]; exact c2
  · rw [Y48 4 (by decide)]; exact c3
  · rw [Y48 5 (by decide)]; exact c4
  · by_cases z : p = zN S
    · subst z
      rw [hq0]
      have u0 : usd (adP S w sh rt f) (zN S) = 0 := by show sm ((zQ S (zN S)).map _) = 0; rw [a7]; rfl
      have l0 : lnt (adP S w sh rt f) (zN S) = 0 := by show sm ((zR S).map _) = 0; rw [a8]; rfl
      have b0 : brw (adP S w sh rt f) (zN S) = 0 := by show sm ((zR S).map _) = 0; rw [a8]; rfl
      have pe : ∀ j, zP (adP S w sh rt f) (zN S) j = (if j = 0 then sh else if j = 1 then rt else if j = 2 then 16 * f else 0) := fun j => if_pos rfl
      have q0 : zQ (adP S w sh rt f) (zN S) = [] := by show zQ S (zN S) = []; rw [a7]
      refine ⟨?_, ?_, ?_, ?_, ?_, ?_, ?_, ?_, ?_, ?_, ?_, ?_, ?_⟩
      · rw [uM_s]; show pk8 w = pk8 (if zN S = zN S then w else zM S (zN S)); rw [if_pos rfl]
      · rw [Yq, x1, pe]; rfl
      · rw [Yq, x2, pe]; rfl
      · rw [Yq, x3, pe]; rfl
      · rw [Yq, x4 4 (by decide) (by decide), pe]; rfl
      · rw [Yq, x4 5 (by decide) (by decide), u0]
      · rw [Yq, x4 6 (by decide) (by decide), l0]
      · rw [Yq, x4 7 (by decide) (by decide), b0]
      · rw [Yq, x4 8 (by decide) (by decide), pe]; rfl
      · rw [Yq, x4 9 (by decide) (by decide), pe]; rfl
      · rw [Yq, x4 10 (by decide) (by decide), pe]; rfl
      · rw [Yq, x4 11 (by decide) (by decide), q0]; rfl
      · rw [q0]; exact RA_nil
    · have hp' : p < zN S := by have : p < zN S + 1 := hp; omega
      obtain ⟨d0, d1, d2, d3, d4, d5, d6, d7, d8, d9, d10, d11, d12⟩ := c5 p hp'
      have pe : ∀ j, zP (adP S w sh rt f) p j = zP S p j := fun j => if_neg z
      have ne : 48 + 13 + 4 * p ≠ q := by omega
      have E : ∀ j, uM X 48 1 ((zN S : Int) + 1) (48 + 13 + 4 * p) j = I (48 + 13 + 4 * p) j := fun j => by rw [Y _ ne (by omega)]
      refine ⟨?_, ?_, ?_, ?_, ?_, ?_, ?_, ?_, ?_, ?_, ?_, ?_, ?_⟩
      · rw [uM_e ne]; show J (48 + 13 + 4 * p) 0 = pk8 (if p = zN S then w else zM S p); rw [if_neg z]; exact d0
      · rw [E, pe]; exact d1
      · rw [E, pe]; exact d2
      · rw [E, pe]; exact d3
      · rw [E, pe]; exact d4
      · rw [E]; exact d5
      · rw [E]; exact d6
      · rw [E]; exact d7
      · rw [E, pe]; exact d8
      · rw [E, pe]; exact d9
      · rw [E, pe]; exact d10
      · rw [E]; exact d11
      · intro i r hr j hj
        rw [Y _ (by omega) (by omega)]
        exact d12 i r hr j hj
  · rw [Y (48 + 2) (by omega) (by omega)]; exact c6
  · intro i r hr j hj
    rw [Y (48 + 3 + j) (by omega) (by omega)]
    exact c7 i r hr j hj
  · rw [Y (48 + 7) (by omega) (by omega)]; exact c8
  · intro i d hi hd j hj
    rw [Y (48 + 8 + j) (by omega) (by omega)]
    exact c9 i d hi hd j hj
  · rw [Y (48 + 12) (by omega) (by omega)]; exact c10
  · rw [Y (48 + 12) (by omega) (by omega)]; exact c11
  · rw [Y (48 + 12) (by omega) (by omega)]; exact c12
theorem P_X6_clear {I J : Mi} {K : Option AV → MM → Prop} (hK : ∀ I' J', HC 48 (I', J') emS → FK 48 (I, J) (I', J') → K none (I', J')) : w_X6_clear [.inr (.inr 48)] (I, J) K := by
  have s := sw_s sw48
  have b := sw_by sw48
  have l : ∀ r : Int, r ≤ 3 → r < ((ln (48 + 12) : Nat) : Int) := fun r hr => by rw [b.2]; omega
  refine ⟨cs8 rfl, s, s, s, s, s, s, sw_pm sw48, s, sw_ld sw48, cs8 rfl, ⟨cs8 rfl, sw_ld sw48, ?_⟩⟩
  refine lfp_in ⟨⟨by omega, by omega⟩, ⟨by omega, by omega⟩, fun z => absurd z (by decide), fun _ => ⟨sw_ld sw48, b.1, by decide, l _ (by decide), ?_⟩⟩
  refine lfp_in ⟨⟨by omega, by omega⟩, ⟨by omega, by omega⟩, fun z => absurd z (by decide), fun _ => ⟨sw_ld sw48, b.1, by decide, l _ (by decide), ?_⟩⟩
  refine lfp_in ⟨⟨by omega, by omega⟩, ⟨by omega, by omega⟩, fun z => absurd z (by decide), fun _ => ⟨sw_ld sw48, b.1, by decide, l _ (by decide), ?_⟩⟩
  refine lfp_in ⟨⟨by omega, by omega⟩, ⟨by omega, by omega⟩, fun _ => ?_, fun z => absurd (by decide) z⟩
  show K none (uM (uM (uM (uM (uM (uM (uM (uM (uM (uM I 48 1 0) 48 2 4) 48 3 100) 48 4 0) 48 5 0) 50 4 0) 55 5 0) 60 1 0) 60 2 0) 60 3 0, J)
  have eX : ∃ X : Mi, (uM (uM (uM (uM (uM (uM (uM (uM (uM (uM I 48 1 0) 48 2 4) 48 3 100) 48 4 0) 48 5 0) 50 4 0) 55 5 0) 60 1 0) 60 2 0) 60 3 0) = X ∧ (∀ a, a ≠ 48 → a ≠ 50 → a ≠ 55 → a ≠ 60 → X a = I a) ∧ (X 48 1 = 0 ∧ X 48 2 = 4 ∧ X 48 3 = 100 ∧ X 48 4 = 0 ∧ X 48 5 = 0) ∧ X 50 4 = 0 ∧ X 55 5 = 0 ∧ X 60 1 = 0 ∧ X 60 2 = 0 ∧ X 60 3 = 0 := by
    refine ⟨_, rfl, fun a h1 h2 h3 h4 => ?_, ⟨?_, ?_, ?_, ?_, ?_⟩, ?_, ?_, ?_, ?_, ?_⟩
    · simp only [uM_r h1, uM_r h2, uM_r h3, uM_r h4]
    all_goals simp [uM]
  obtain ⟨X, e0, x0, ⟨x1, x2, x3, x4, x5⟩, x6, x7, x8, x9, x10⟩ := eX
  rw [e0]
  refine hK X J ⟨sw48, emS_F.gd.1, x1, x2, x3, x4, x5, fun p hp => absurd hp (Nat.not_lt_zero _), x6, RA_nil, x7, (fun i d _ hd => by have hd : ([] : List Drp)[i]? = some d := hd; simp at hd), x8, x9, x10⟩ (fun a ha => ⟨x0 a (by omega) (by omega) (by omega) (by omega), rfl⟩)
