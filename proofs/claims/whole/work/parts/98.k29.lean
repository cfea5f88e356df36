/-! PURE 86: the model's commands, the first time -/
section
variable {I J : Mi} {K : Option AV → MM → Prop} {B : List Int} {e d w : Nat}
/-- behind a plain command's reading -/
def TL (K : Option AV → MM → Prop) (c : Cm) (μ : MM) : Prop := (cV c = 0 → tlA K [some (.inr (.inr 348)), some (.inl (cP c)), some (.inl (cN c))] [] μ) ∧ (cV c = 2 → tlB K [some (.inr (.inr 348)), some (.inl (cP c)), some (.inl (cO c)), some (.inl (cN c)), none, none] [] μ) ∧ (∀ a b d : Int, (cV c = 1 ∧ a = 1 ∨ cV c = 3 ∧ a = 0 ∧ b = 1 ∨ cV c = 4 ∧ a = 0 ∧ b = 0 ∧ d = 1 ∨ cV c = 5 ∧ a = 0 ∧ b = 0 ∧ d = 0) → tlN K [some (.inr (.inr 348)), some (.inl a), some (.inl b), some (.inl d), some (.inl (cN c))] [] μ)
abbrev K187 (K : Option AV → MM → Prop) (L : List (Option AV)) : Option AV → MM → Prop := fun v μ' => o_kil [1, 2, 3] (B_X10_readsCommand_187 K) L (v.toList ++ []) μ'
theorem k187 {t : Tk} {μ : MM} (h : B_X10_readsCommand_187 K [some (.inr (.inr 348)), none, none, none] [] μ) : K187 K (lcC t) none μ := c_kil rfl h
theorem B144_g {S : AS} {G : List (Nat × Pkt)} {p : Int} (t : TM (I, J) B e) (er : ErM (I, J) (0, p)) (g : HG 0 (I, J) S G) (hn : NM S) (h16 : I 348 16 = 0 ∨ I 348 16 = 1) (h17 : I 348 17 = 0) (h18 : I 348 18 = (d : Int)) (hd : d ≤ 2) (hv : vrb (sc B e) ≠ -1) (kr : vrb (sc B e) = 6 → ∀ e' n, rpt B (tkE (sc B e)) = .inr (e', n) → ∀ I' J', F9 [6, 7, 8, 9] (I, J) (I', J') → TM (I', J') B e' → K none (uM (uM (uM I' 348 18 ((d : Int) + 1)) 352 (d + 1) (tkA (sc B e') : Int)) 353 (d + 1) (n : Int), J')) (kp : vrb (sc B e) ≠ 6 → ∀ e' c, pln B S (vrb (sc B e)).toNat (tkE (sc B e)) = .inr (e', c) → ∀ I' J', F9 [6, 7, 8, 9] (I, J) (I', J') → TM (I', J') B e' → TL (K187 K (lcC (sc B e))) c (I', J')) (k0 : ∀ x, cmd2 B S e = .inl x → ∀ I' J', FQ (I, J) (I', J') → EBd (I', J') x → K none (I', J')) : B_X10_readsCommand_144 K (lcC (sc B e)) [] (I, J) := by
  have hB := t.1.2.2.2.1
  have n9 : ∀ k ∈ [6, 7, 8, 9], (6 ≤ k ∧ k < 12) ∨ (16 ≤ k ∧ k < 21) := by decide
  have n11 : ∀ k ∈ [6, 7, 8, 9, 10, 11], (6 ≤ k ∧ k < 12) ∨ (16 ≤ k ∧ k < 21) := by decide
  obtain ⟨i4, i5, i6, i7, i2, i3, i8⟩ := vrb_iff (sc B e)
  -- an error in a plain command
  have bad : vrb (sc B e) ≠ 6 → ∀ x, pln B S (vrb (sc B e)).toNat (tkE (sc B e)) = .inl x → ∀ I' J' e', F9 [6, 7, 8, 9, 10, 11] (I, J) (I', J') → TM (I', J') B e' → ErM (I', J') x → R32 x.1 → x.1 ≠ 0 → K187 K (lcC (sc B e)) none (I', J') := fun h6 x hx I' J' e' f t' er' r b => k187 ⟨hM, cs8 rfl, sign_b t' er' r b ⟨by decide, by decide⟩ (fun I2 J2 f2 t2 => k0 x ((if_neg h6).trans (bnd_l hx)) I2 J2 ((f.fq n11).trans (f2.fq n9)) ⟨er'.f9 f2 (by decide) (by decide), r, b, (f2.2.1 17 (by decide)).trans ((f.2.1 17 (by decide)).trans h17), by show R32 (I2 348 18); rw [show I2 348 18 = (d : Int) from (f2.2.1 18 (by decide)).trans ((f.2.1 18 (by decide)).trans h18)]; exact ⟨by omega, by omega⟩⟩)⟩
  refine ⟨hM, cs8 rfl, P_X10_isGood er R32_0 (fun _ => ⟨R32_1, fun _ => ⟨b01 (b2_01 _), fun q8 => ⟨b01 (b2_01 _), fun q4 => ⟨b01 (b2_01 _), fun q6 => ?_, fun q6 => ?_⟩, fun q4 => ?_⟩, fun q8 => ?_⟩, fun z => absurd z (by decide)⟩) (fun z => absurd rfl z)⟩
  all_goals have n8 := fun (z : isw (sc B e) 8) => b2_t z
  · -- a number
    have m8 : vrb (sc B e) ≠ 6 := fun z => absurd ((b2_t (i8.mpr z)).symm.trans q8) (by decide)
    have m4 : vrb (sc B e) ≠ 0 := fun z => absurd ((b2_t (i4.mpr z)).symm.trans q4) (by decide)
    have m6 : vrb (sc B e) ≠ 2 := fun z => absurd ((b2_t (i6.mpr z)).symm.trans q6) (by decide)
    have vr := vrb_r (sc B e)
    refine ⟨hM, cs8 rfl, readsNumber_r (v := (vrb (sc B e)).toNat) (by omega) (by omega) t er h16 (fun e' c hc I' J' f t' => (kp m8 e' c hc I' J' f t').2.2 _ _ _ ?_) (bad m8)⟩
    have cv : cV c = (vrb (sc B e)).toNat := (pln_r hB (by omega) (sc_facts hB t.2.1).2.2.1 hc).2.1
    have hh : vrb (sc B e) = 1 ∨ vrb (sc B e) = 3 ∨ vrb (sc B e) = 4 ∨ vrb (sc B e) = 5 := by omega
    rcases hh with z | z | z | z
    · exact Or.inl ⟨by rw [cv, z]; rfl, b2_t (i5.mpr z)⟩
    · exact Or.inr (Or.inl ⟨by rw [cv, z]; rfl, b2_f (fun y => absurd ((i5.mp y).symm.trans z) (by decide)), b2_t (i7.mpr z)⟩)
    · exact Or.inr (Or.inr (Or.inl ⟨by rw [cv, z]; rfl, b2_f (fun y => absurd ((i5.mp y).symm.trans z) (by decide)), b2_f (fun y => absurd ((i7.mp y).symm.trans z) (by decide)), b2_t (i2.mpr z)⟩))
    · exact Or.inr (Or.inr (Or.inr ⟨by rw [cv, z]; rfl, b2_f (fun y => absurd ((i5.mp y).symm.trans z) (by decide)), b2_f (fun y => absurd ((i7.mp y).symm.trans z) (by decide)), b2_f (fun y => absurd ((i2.mp y).symm.trans z) (by decide))⟩))
  · have v2 : vrb (sc B e) = 2 := by
      by_cases z : isw (sc B e) 6
      · exact i6.mp z
      · exact absurd (b2_f z) q6
    have m8 : vrb (sc B e) ≠ 6 := by omega
    have e2 : (vrb (sc B e)).toNat = 2 := by omega
    have kp := kp m8
    have bad := bad m8
    rw [e2] at kp bad
    exact ⟨hM, cs8 rfl, readsBack_r t er g hn h16 (fun e' c hc I' J' f t' => (kp e' c hc I' J' f t').2.1 (pln_r hB (by decide) (sc_facts hB t.2.1).2.2.1 hc).2.1) bad⟩
  · have v0 : vrb (sc B e) = 0 := by
      by_cases z : isw (sc B e) 4
      · exact i4.mp z
      · exact absurd (b2_f z) q4
    have m8 : vrb (sc B e) ≠ 6 := by omega
    have e2 : (vrb (sc B e)).toNat = 0 := by omega
    have kp := kp m8
    have bad := bad m8
    rw [e2] at kp bad
    exact ⟨hM, cs8 rfl, readsArrive_r t er g hn h16 (fun e' c hc I' J' f t' => (kp e' c hc I' J' f t').1 (pln_r hB (by decide) (sc_facts hB t.2.1).2.2.1 hc).2.1) bad⟩
  · have v6 : vrb (sc B e) = 6 := by
      by_cases z : isw (sc B e) 8
      · exact i8.mp z
      · exact absurd (b2_f z) q8
    exact ⟨hM, cs8 rfl, P_X10_opensRepeat t er hd h18 h17 (kr v6) (fun x hx I' J' F b => k0 x ((if_pos v6).trans (bnd_l hx)) I' J' F b)⟩
theorem TL_n {c : Cm} {μ : MM} {x : Er} (er : ErM μ x) (hx : R32 x.1) (h16 : μ.1 348 16 = 0) (hK : K none μ) : TL K c μ := ⟨fun _ => tlA_n er hx (Or.inl h16) (Or.inl h16) hK, fun _ => tlB_n er hx (Or.inl h16) (Or.inl h16) hK, fun _ _ _ _ => tlN_n er hx (Or.inl h16) (Or.inl h16) hK⟩
/-- the first time: what is kept -/
def Q1 (μ : MM) (B : List Int) (e d w : Nat) : Prop := TM μ B e ∧ ErM μ (0, -1) ∧ μ.1 348 16 = 0 ∧ μ.1 348 17 = 0 ∧ μ.1 348 18 = (d : Int) ∧ μ.1 348 19 = (w : Int)
theorem EBd.f9 {ks : List Nat} {μ μ' : MM} {x : Er} (h : EBd μ x) (hf : F9 ks μ μ') (hk : 10 ∉ ks ∧ 11 ∉ ks ∧ 17 ∉ ks ∧ 18 ∉ ks) : EBd μ' x := ⟨h.1.f9 hf hk.1 hk.2.1, h.2.1, h.2.2.1, (hf.2.1 17 hk.2.2.1).trans h.2.2.2.1, by rw [hf.2.1 18 hk.2.2.2]; exact h.2.2.2.2⟩
theorem EBd.put {x : Er} {v : Int} (h : EBd (I, J) x) : EBd (uM I 348 19 v, J) x := h.f9 (F9.put (ks := [19]) (by decide)) (by decide)
end
