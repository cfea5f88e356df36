/-! PURE 76: the class reads commands -/
def FSc (μ μ' : MM) : Prop := (∀ a, a ≠ 1 → (a < 4 ∨ 11 ≤ a) → μ'.1 a = μ.1 a) ∧ μ'.1 1 1 = μ.1 1 1 ∧ (∀ a, a ≠ 1 → μ'.2 a = μ.2 a)
theorem FSc.refl {μ : MM} : FSc μ μ := ⟨fun _ _ _ => rfl, rfl, fun _ _ => rfl⟩
theorem FSc.trans {μ μ1 μ2 : MM} (h : FSc μ μ1) (h' : FSc μ1 μ2) : FSc μ μ2 := ⟨fun a x y => (h'.1 a x y).trans (h.1 a x y), h'.2.1.trans h.2.1, fun a x => (h'.2.2 a x).trans (h.2.2 a x)⟩
theorem F1.fs {ks : List Nat} {μ μ' : MM} (h : F1 ks μ μ') (hk : 1 ∉ ks) : FSc μ μ' := ⟨fun a x _ => h.1 a x, h.2.1 1 hk, fun a x => h.2.2 a x⟩
theorem FSc.put {I J : Mi} {a k : Nat} {v : Int} (ha : 4 ≤ a ∧ a < 11) : FSc (I, J) (uM I a k v, J) := ⟨fun b _ y => uM_r (by omega), uM_e (by omega), fun _ _ => rfl⟩
/-- the class, reading a script -/
def SD (μ : MM) (B : List Int) (S : AS) : Prop := TBc μ B ∧ HC 11 μ S ∧ ErC μ (0, -1)
theorem SD.f1 {ks : List Nat} {μ μ' : MM} {B : List Int} {S : AS} (h : SD μ B S) (hf : F1 ks μ μ') (hn : 1 ∉ ks ∧ 2 ∉ ks ∧ 3 ∉ ks) : SD μ' B S := ⟨h.1.f1 hf hn.1, HC_fr h.2.1 (fun a x y => ⟨hf.1 a (by omega), hf.2.2 a (by omega)⟩), h.2.2.f1 hf hn.2.1 hn.2.2⟩
theorem SD.put {I J : Mi} {B : List Int} {S : AS} {a k : Nat} {v : Int} (h : SD (I, J) B S) (ha : 4 ≤ a ∧ a < 11) : SD (uM I a k v, J) B S := ⟨⟨(uM_e (I := I) (e := a) (k := k) (v := v) (e' := 1) (k' := 1) (by omega)).trans h.1.1, h.1.2.1, h.1.2.2.1.eq (uM_r (by omega)), h.1.2.2.2⟩, HC_put h.2.1 (by omega), ⟨(uM_e (by omega)).trans h.2.2.1, (uM_e (by omega)).trans h.2.2.2⟩⟩
/-- the commands that the class's script holds -/
def SC (μ : MM) (L : List Cm) : Prop := L.length ≤ 40 ∧ μ.1 4 4 = (L.length : Int) ∧ ∀ (i : Nat) (c : Cm), L[i]? = some c → μ.1 5 i = (cV c : Int) ∧ μ.1 6 i = cP c ∧ μ.1 7 i = cO c ∧ μ.1 8 i = cN c
/-- all of it but the commands is as it was -/
def FCm (μ μ' : MM) : Prop := (∀ j, j ≠ 4 → μ'.1 4 j = μ.1 4 j) ∧ μ'.1 9 = μ.1 9 ∧ μ'.1 10 = μ.1 10
theorem FCm.refl {μ : MM} : FCm μ μ := ⟨fun _ _ => rfl, rfl, rfl⟩
theorem FCm.trans {μ μ1 μ2 : MM} (h : FCm μ μ1) (h' : FCm μ1 μ2) : FCm μ μ2 := ⟨fun j hj => (h'.1 j hj).trans (h.1 j hj), h'.2.1.trans h.2.1, h'.2.2.trans h.2.2⟩
theorem F1.fcm {ks : List Nat} {μ μ' : MM} (h : F1 ks μ μ') : FCm μ μ' := ⟨fun j _ => by rw [h.1 4 (by decide)], h.1 9 (by decide), h.1 10 (by decide)⟩
theorem SC.f1 {ks : List Nat} {μ μ' : MM} {L : List Cm} (h : SC μ L) (hf : F1 ks μ μ') : SC μ' L := ⟨h.1, by rw [hf.1 4 (by decide)]; exact h.2.1, fun i c hc => by rw [hf.1 5 (by decide), hf.1 6 (by decide), hf.1 7 (by decide), hf.1 8 (by decide)]; exact h.2.2 i c hc⟩
theorem h4S : isK 4 5 := ⟨by decide, by decide +kernel⟩
theorem h5a : ∀ j, j < 4 → isK (5 + j) 11 ∧ ln (5 + j) = 40 := fun j hj => by
  have hh : j = 0 ∨ j = 1 ∨ j = 2 ∨ j = 3 := by omega
  rcases hh with rfl | rfl | rfl | rfl <;> exact ⟨⟨by decide, by decide +kernel⟩, by decide +kernel⟩
theorem h9a : isK 9 11 ∧ ln 9 = 2 := ⟨⟨by decide, by decide +kernel⟩, by decide +kernel⟩
theorem h10a : isK 10 11 ∧ ln 10 = 2 := ⟨⟨by decide, by decide +kernel⟩, by decide +kernel⟩
theorem P_X5_add {I J : Mi} {K : Option AV → MM → Prop} {L : List Cm} {v p o n : Int} {c : Cm} (h : SC (I, J) L) (hc : (cV c : Int) = v ∧ cP c = p ∧ cO c = o ∧ cN c = n) (hK : ∀ I', SC (I', J) ((L ++ [c]).take 40) → FSc (I, J) (I', J) → FCm (I, J) (I', J) → (∀ a, (a < 4 ∨ 9 ≤ a) → I' a = I a) → K none (I', J)) : w_X5_add [.inr (.inr 4), .inl v, .inl p, .inl o, .inl n] (I, J) K := by
  obtain ⟨hl, h4, hh⟩ := h
  have h4 : I 4 4 = (L.length : Int) := h4
  refine ⟨cs8 rfl, h4S, ?_⟩
  show o_ci 40 _ _ [.inl (I 4 4)] (I, J)
  rw [h4]
  refine ⟨⟨by omega, by omega⟩, ⟨by omega, by omega⟩, fun q => ?_, fun q => ?_⟩
  · have e : (L ++ [c]).take 40 = L := by
      have : L.length = 40 := by have q : (40 : Int) ≤ (L.length : Int) := q; omega
      rw [List.take_append_of_le_length (by omega), List.take_of_length_le (by omega)]
    have key := hK I (by rw [e]; exact ⟨hl, h4, hh⟩) FSc.refl FCm.refl (fun _ _ => rfl)
    exact key
  · have hl' : L.length < 40 := by have q : ¬ (40 : Int) ≤ (L.length : Int) := q; omega
    have A := fun j (hj : j < 4) => (h5a j hj).1
    have B := fun j (hj : j < 4) => (h5a j hj).2
    have l0 : ∀ j, j < 4 → (L.length : Int) < ((ln (5 + j) : Nat) : Int) := fun j hj => by rw [B j hj]; omega
    generalize hn : L.length = m at *
    refine ⟨h4S, h4S, ?_⟩
    show o_iload 1 _ _ [.inl (I 4 4), .inr (.inr 5)] (I, J)
    rw [h4]
    refine ⟨A 0 (by decide), by omega, l0 0 (by decide), h4S, h4S, ?_⟩
    show o_iload 2 _ _ [.inl (uM I 5 m v 4 4), .inr (.inr 6)] (uM I 5 m v, J)
    rw [uM_e (by decide), h4]
    refine ⟨A 1 (by decide), by omega, l0 1 (by decide), h4S, h4S, ?_⟩
    show o_iload 3 _ _ [.inl (uM (uM I 5 m v) 6 m p 4 4), .inr (.inr 7)] (uM (uM I 5 m v) 6 m p, J)
    rw [uM_e (by decide), uM_e (by decide), h4]
    refine ⟨A 2 (by decide), by omega, l0 2 (by decide), h4S, h4S, ?_⟩
    show o_iload 4 _ _ [.inl (uM (uM (uM I 5 m v) 6 m p) 7 m o 4 4), .inr (.inr 8)] (uM (uM (uM I 5 m v) 6 m p) 7 m o, J)
    rw [uM_e (by decide), uM_e (by decide), uM_e (by decide), h4]
    refine ⟨A 3 (by decide), by omega, l0 3 (by decide), h4S, h4S, ?_⟩
    have e4 : uM (uM (uM (uM I 5 m v) 6 m p) 7 m o) 8 m n 4 4 + 1 = (m : Int) + 1 := by rw [uM_e (by decide), uM_e (by decide), uM_e (by decide), uM_e (by decide), h4]
    show K none (uM (uM (uM (uM (uM I 5 m v) 6 m p) 7 m o) 8 m n) 4 4 (uM (uM (uM (uM I 5 m v) 6 m p) 7 m o) 8 m n 4 4 + 1), J)
    rw [e4]
    have et : (L ++ [c]).take 40 = L ++ [c] := List.take_of_length_le (by rw [List.length_append]; show L.length + 1 ≤ 40; omega)
    have fr : ∀ a, (a < 4 ∨ 9 ≤ a) → uM (uM (uM (uM (uM I 5 m v) 6 m p) 7 m o) 8 m n) 4 4 ((m : Int) + 1) a = I a := fun a ha => by rw [uM_r (by omega), uM_r (by omega), uM_r (by omega), uM_r (by omega), uM_r (by omega)]
    refine hK _ ⟨?_, ?_, fun i x hx => ?_⟩ ⟨fun a _ y => fr a (by omega), by show uM (uM (uM (uM (uM I 5 m v) 6 m p) 7 m o) 8 m n) 4 4 ((m : Int) + 1) 1 1 = _; rw [fr 1 (by omega)], fun _ _ => rfl⟩ ⟨fun j hj => ?_, fr 9 (by omega), fr 10 (by omega)⟩ fr
    · rw [et, List.length_append]; show L.length + 1 ≤ 40; omega
    · show uM (uM (uM (uM (uM I 5 m v) 6 m p) 7 m o) 8 m n) 4 4 ((m : Int) + 1) 4 4 = _
      rw [uM_s, et, List.length_append, hn]; rfl
    · rw [et, List.getElem?_append] at hx
      show uM (uM (uM (uM (uM I 5 m v) 6 m p) 7 m o) 8 m n) 4 4 ((m : Int) + 1) 5 i = _ ∧ uM (uM (uM (uM (uM I 5 m v) 6 m p) 7 m o) 8 m n) 4 4 ((m : Int) + 1) 6 i = _ ∧ uM (uM (uM (uM (uM I 5 m v) 6 m p) 7 m o) 8 m n) 4 4 ((m : Int) + 1) 7 i = _ ∧ uM (uM (uM (uM (uM I 5 m v) 6 m p) 7 m o) 8 m n) 4 4 ((m : Int) + 1) 8 i = _
      split at hx
      · rename_i z
        obtain ⟨y1, y2, y3, y4⟩ := hh i x hx
        have ni : i ≠ m := by omega
        refine ⟨?_, ?_, ?_, ?_⟩
        · rw [uM_e (by decide), uM_e (by decide), uM_e (by decide), uM_e (by decide), uM_k ni]; exact y1
        · rw [uM_e (by decide), uM_e (by decide), uM_e (by decide), uM_k ni, uM_e (by decide)]; exact y2
        · rw [uM_e (by decide), uM_e (by decide), uM_k ni, uM_e (by decide), uM_e (by decide)]; exact y3
        · rw [uM_e (by decide), uM_k ni, uM_e (by decide), uM_e (by decide), uM_e (by decide)]; exact y4
      · rename_i z
        have him : i - L.length < 1 := (List.getElem?_eq_some_iff.mp hx).1
        have im : i = m := by omega
        subst im
        rw [show i - L.length = 0 by omega] at hx
        cases hx
        refine ⟨?_, ?_, ?_, ?_⟩
        · rw [uM_e (by decide), uM_e (by decide), uM_e (by decide), uM_e (by decide), uM_s]; exact hc.1.symm
        · rw [uM_e (by decide), uM_e (by decide), uM_e (by decide), uM_s]; exact hc.2.1.symm
        · rw [uM_e (by decide), uM_e (by decide), uM_s]; exact hc.2.2.1.symm
        · rw [uM_e (by decide), uM_s]; exact hc.2.2.2.symm
    · show uM (uM (uM (uM (uM I 5 m v) 6 m p) 7 m o) 8 m n) 4 4 ((m : Int) + 1) 4 j = I 4 j
      rw [uM_k hj, uM_e (by decide), uM_e (by decide), uM_e (by decide), uM_e (by decide)]
theorem P_X5_verbOf {I J : Mi} {K : Option AV → MM → Prop} {B : List Int} {e : Nat} (t : TC (I, J) B e) (hK : K (some (.inl (vrb (sc B e)))) (I, J)) : w_X5_verbOf [.inr (.inr 1)] (I, J) K := by
  unfold vrb at hK
  refine ⟨cs8 rfl, t.isW (i := 4) (by decide) (cs8 rfl) (fun z => ⟨⟨by omega, by omega⟩, fun y => absurd y (by decide), fun _ => by rw [if_pos z] at hK; exact hK⟩) (fun z => ⟨⟨by omega, by omega⟩, fun _ => ?_, fun y => absurd rfl y⟩)⟩
  rw [if_neg z] at hK
  refine t.isW (i := 5) (by decide) (cs8 rfl) (fun z => ⟨⟨by omega, by omega⟩, fun y => absurd y (by decide), fun _ => by rw [if_pos z] at hK; exact hK⟩) (fun z => ⟨⟨by omega, by omega⟩, fun _ => ?_, fun y => absurd rfl y⟩)
  rw [if_neg z] at hK
  refine t.isW (i := 6) (by decide) (cs8 rfl) (fun z => ⟨⟨by omega, by omega⟩, fun y => absurd y (by decide), fun _ => by rw [if_pos z] at hK; exact hK⟩) (fun z => ⟨⟨by omega, by omega⟩, fun _ => ?_, fun y => absurd rfl y⟩)
  rw [if_neg z] at hK
  refine t.isW (i := 7) (by decide) (cs8 rfl) (fun z => ⟨⟨by omega, by omega⟩, fun y => absurd y (by decide), fun _ => by rw [if_pos z] at hK; exact hK⟩) (fun z => ⟨⟨by omega, by omega⟩, fun _ => ?_, fun y => absurd rfl y⟩)
  rw [if_neg z] at hK
  refine t.isW (i := 2) (by decide) (cs8 rfl) (fun z => ⟨⟨by omega, by omega⟩, fun y => absurd y (by decide), fun _ => by rw [if_pos z] at hK; exact hK⟩) (fun z => ⟨⟨by omega, by omega⟩, fun _ => ?_, fun y => absurd rfl y⟩)
  rw [if_neg z] at hK
  refine t.isW (i := 3) (by decide) (cs8 rfl) (fun z => ⟨⟨by omega, by omega⟩, fun y => absurd y (by decide), fun _ => by rw [if_pos z] at hK; exact hK⟩) (fun z => ⟨⟨by omega, by omega⟩, fun _ => ?_, fun y => absurd rfl y⟩)
  rw [if_neg z] at hK
  refine t.isW (i := 8) (by decide) (cs8 rfl) (fun z => ⟨⟨by omega, by omega⟩, fun y => absurd y (by decide), fun _ => by rw [if_pos z] at hK; exact hK⟩) (fun z => ⟨⟨by omega, by omega⟩, fun _ => by rw [if_neg z] at hK; exact hK, fun y => absurd rfl y⟩)
theorem P_X5_takePort {I J : Mi} {K : Option AV → MM → Prop} {B : List Int} {e : Nat} {S : AS} (sd : SD (I, J) B S) (hn : NM S) (u : I 1 4 = e) (he : e ≤ B.length) (k1 : ∀ x e', nam B S e = .inr (x, e') → ∀ I' J', F1 [4, 5, 6, 7, 8] (I, J) (I', J') → I' 1 4 = ((e' : Nat) : Int) → K (some (.inl x)) (I', J')) (k0 : ∀ x, nam B S e = .inl x → ∀ μ', F1 [2, 3, 4, 5, 6, 7, 8] (I, J) μ' → ErC μ' x → K (some (.inl (-1))) μ') : w_X5_takePort [.inr (.inr 1), .inr (.inr 11)] (I, J) K := by
  have hB := sd.1.2.2.2
  refine ⟨cs8 rfl, h1T, cs8 rfl, C_adv sd.1 u he (fun I1 J1 f t => ⟨h1T, ?_⟩)⟩
  have e5 : I1 1 5 = (ckd (tkK (sc B e)) : Int) := t.2.2.2.2.1
  have c1 := ckd_lt (n := 1) (k := tkK (sc B e)) (by decide)
  have cr : ckd (tkK (sc B e)) ≤ 5 := by
    have hk := (sc_facts hB he).2.2.2.1
    unfold ckd; split <;> omega
  have s1 := sd.f1 f (by decide)
  show o_ci 1 _ _ [.inl (I1 1 5)] (I1, J1)
  rw [e5]
  refine ⟨⟨by omega, by omega⟩, ⟨by omega, by omega⟩, fun q => ⟨h1T, ?_⟩, fun q => ⟨h1T, cs8 rfl, t.fail (fun μ' f' er => k0 _ (if_neg (fun z => q (by rw [c1.mpr z]; rfl))) μ' ((f.mono (by decide)).trans (f'.mono (by decide))) er)⟩⟩
  have kw : tkK (sc B e) = 1 := c1.mp (by omega)
  have e7 : J1 1 7 = pk8 (tkW (sc B e)) := t.2.2.2.2.2.1 kw
  have nr := nmd_R s1.2.1.2.1.n6 (tkW (sc B e))
  show _ ∧ _ ∧ w_X6_portNamed [.inr (.inr 11), .inr (.inl (J1 1 7))] (I1, J1) _
  rw [e7]
  refine ⟨sw_s (by decide), cs8 rfl, P_X6_portNamed s1.2.1 hn (sc_W hB he kw) rfl (st_i (L' := [some (.inr (.inr 1)), some (.inr (.inr 11)), some (.inl (nmd S (tkW (sc B e))))]) rfl ⟨nr, ⟨by omega, by omega⟩, fun q2 => ?_, fun q2 => ⟨h1T, cs8 rfl, t.fail (fun μ' f' er => ?_)⟩⟩)⟩
  · exact k1 _ _ ((if_pos kw).trans (if_neg q2)) I1 J1 f t.2.2.2.1
  · have q2 : nmd S (tkW (sc B e)) = -1 := q2
    have key := k0 _ ((if_pos kw).trans (if_pos q2)) μ' ((f.mono (by decide)).trans (f'.mono (by decide))) er
    show K (some (.inl (nmd S (tkW (sc B e))))) μ'
    rw [q2]
    exact key
