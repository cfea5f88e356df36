/-! PURE 83: the model reads plain commands -/
section
variable {I J : Mi} {K : Option AV → MM → Prop} {B : List Int} {e : Nat} {x : Er}
theorem tlA_n {L : List (Option AV)} {μ : MM} (er : ErM μ x) (hx : R32 x.1) (h16 : μ.1 348 16 = 0 ∨ μ.1 348 16 = 1) (h : μ.1 348 16 = 0 ∨ x.1 ≠ 0) (hK : K none μ) : tlA K (some (.inr (.inr 348)) :: L) [] μ := ⟨hM, cs8 rfl, isDoing_n er hx h16 h ⟨R32_0, fun _ => hK, fun z => absurd rfl z⟩⟩
theorem tlB_n {L : List (Option AV)} {μ : MM} (er : ErM μ x) (hx : R32 x.1) (h16 : μ.1 348 16 = 0 ∨ μ.1 348 16 = 1) (h : μ.1 348 16 = 0 ∨ x.1 ≠ 0) (hK : K none μ) : tlB K (some (.inr (.inr 348)) :: L) [] μ := ⟨hM, cs8 rfl, isDoing_n er hx h16 h ⟨R32_0, fun z => absurd rfl z, fun _ => hK⟩⟩
theorem tlN_n {L : List (Option AV)} {μ : MM} (er : ErM μ x) (hx : R32 x.1) (h16 : μ.1 348 16 = 0 ∨ μ.1 348 16 = 1) (h : μ.1 348 16 = 0 ∨ x.1 ≠ 0) (hK : K none μ) : tlN K (some (.inr (.inr 348)) :: L) [] μ := ⟨hM, cs8 rfl, isDoing_n er hx h16 h ⟨R32_0, fun z => absurd rfl z, fun _ => hK⟩⟩
theorem F9.k16 {ks : List Nat} {μ μ' : MM} (h : F9 ks μ μ') (hk : 16 ∉ ks) (h16 : μ.1 348 16 = 0 ∨ μ.1 348 16 = 1) : μ'.1 348 16 = 0 ∨ μ'.1 348 16 = 1 := by rw [h.2.1 16 hk]; exact h16
theorem HG.f9 {b : Nat} {ks : List Nat} {μ μ' : MM} {S : AS} {G : List (Nat × Pkt)} (h : HG b μ S G) (hf : F9 ks μ μ') (h3 : 3 ∉ ks) : HG b μ' S G := h.cong (hf.2.1 3 h3) (hf.1 349 (by decide)) (hf.2.2 350 (by decide))
theorem readsArrive_r {S : AS} {G : List (Nat × Pkt)} {p : Int} (t : TM (I, J) B e) (er : ErM (I, J) (0, p)) (g : HG 0 (I, J) S G) (hn : NM S) (h16 : I 348 16 = 0 ∨ I 348 16 = 1) (k1 : ∀ e' c, pln B S 0 (tkE (sc B e)) = .inr (e', c) → ∀ I' J', F9 [6, 7, 8, 9] (I, J) (I', J') → TM (I', J') B e' → tlA K [some (.inr (.inr 348)), some (.inl (cP c)), some (.inl (cN c))] [] (I', J')) (k0 : ∀ x, pln B S 0 (tkE (sc B e)) = .inl x → ∀ I' J' e', F9 [6, 7, 8, 9, 10, 11] (I, J) (I', J') → TM (I', J') B e' → ErM (I', J') x → R32 x.1 → x.1 ≠ 0 → K none (I', J')) : w_X10_readsArrive [.inr (.inr 348)] (I, J) K := by
  have E0 : pln B S 0 (tkE (sc B e)) = bnd (nam B S (tkE (sc B e))) (fun x => bnd (num B x.2 0 9999) (fun y => .inr (y.2, (0, x.1, -1, y.1)))) := if_pos rfl
  refine ⟨cs8 rfl, hM, cs8 rfl, M_scan t (fun I1 J1 f1 t1 => ?_)⟩
  have er1 := er.f9 f1 (by decide) (by decide)
  refine ⟨hM, cs8 rfl, P_X10_readsName t1 er1 (g.f9 f1 (by decide)) hn (fun y e2 hy I2 J2 f2 t2 => ?_) (fun x hy I2 J2 f2 t2 er2 hx hb => ?_)⟩
  · have er2 := er1.f9 f2 (by decide) (by decide)
    have E1 := E0.trans (bnd_r hy)
    refine st_i (L' := [some (.inr (.inr 348)), some (.inl y), none]) rfl ⟨hM, cs8 rfl, P_X10_readsAny t2 er2 (fun n e3 hz I3 J3 f3 t3 => ?_) (fun x hz I3 J3 f3 t3 er3 hb hx => ?_)⟩
    · exact st_i (L' := [some (.inr (.inr 348)), some (.inl y), some (.inl n)]) rfl (k1 e3 (0, y, -1, n) (E1.trans (bnd_r hz)) I3 J3 (f1.trans (f2.trans f3)) t3)
    · exact st_i (L' := [some (.inr (.inr 348)), some (.inl y), some (.inl 0)]) rfl (tlA_n er3 hx (f3.k16 (by decide) (f2.k16 (by decide) (f1.k16 (by decide) h16))) (Or.inr hb) (k0 x (E1.trans (bnd_l hz)) I3 J3 _ ((f1.mono (by decide)).trans ((f2.mono (by decide)).trans f3)) t3 er3 hx hb))
  · refine st_i (L' := [some (.inr (.inr 348)), some (.inl 0), none]) rfl ⟨hM, cs8 rfl, readsAny_b t2 er2 hx hb (fun I3 J3 f3 t3 => ?_)⟩
    have er3 := er2.f9 f3 (by decide) (by decide)
    exact st_i (L' := [some (.inr (.inr 348)), some (.inl 0), some (.inl 0)]) rfl (tlA_n er3 hx (f3.k16 (by decide) (f2.k16 (by decide) (f1.k16 (by decide) h16))) (Or.inr hb) (k0 x (E0.trans (bnd_l hy)) I3 J3 _ ((f1.mono (by decide)).trans (f2.trans (f3.mono (by decide)))) t3 er3 hx hb))
theorem readsBack_r {S : AS} {G : List (Nat × Pkt)} {p : Int} (t : TM (I, J) B e) (er : ErM (I, J) (0, p)) (g : HG 0 (I, J) S G) (hn : NM S) (h16 : I 348 16 = 0 ∨ I 348 16 = 1) (k1 : ∀ e' c, pln B S 2 (tkE (sc B e)) = .inr (e', c) → ∀ I' J', F9 [6, 7, 8, 9] (I, J) (I', J') → TM (I', J') B e' → tlB K [some (.inr (.inr 348)), some (.inl (cP c)), some (.inl (cO c)), some (.inl (cN c)), none, none] [] (I', J')) (k0 : ∀ x, pln B S 2 (tkE (sc B e)) = .inl x → ∀ I' J' e', F9 [6, 7, 8, 9, 10, 11] (I, J) (I', J') → TM (I', J') B e' → ErM (I', J') x → R32 x.1 → x.1 ≠ 0 → K none (I', J')) : w_X10_readsBack [.inr (.inr 348)] (I, J) K := by
  have E0 : pln B S 2 (tkE (sc B e)) = bnd (nam B S (tkE (sc B e))) (fun x => bnd (nam B S x.2) (fun z => bnd (num B z.2 0 9999) (fun y => .inr (y.2, (2, x.1, z.1, y.1))))) := (if_neg (by decide)).trans (if_pos rfl)
  refine ⟨cs8 rfl, hM, cs8 rfl, M_scan t (fun I1 J1 f1 t1 => ?_)⟩
  have er1 := er.f9 f1 (by decide) (by decide)
  have g1 := g.f9 f1 (by decide)
  have q1 := f1.k16 (by decide) h16
  refine ⟨hM, cs8 rfl, P_X10_readsName t1 er1 g1 hn (fun y e2 hy I2 J2 f2 t2 => ?_) (fun x hy I2 J2 f2 t2 er2 hx hb => ?_)⟩
  · have er2 := er1.f9 f2 (by decide) (by decide)
    have E1 := E0.trans (bnd_r hy)
    have q2 := f2.k16 (by decide) q1
    refine st_i (L' := [some (.inr (.inr 348)), some (.inl y), none, none, none, none]) rfl ⟨hM, cs8 rfl, P_X10_readsName t2 er2 (g1.f9 f2 (by decide)) hn (fun z e3 hz I3 J3 f3 t3 => ?_) (fun x hz I3 J3 f3 t3 er3 hx hb => ?_)⟩
    · have er3 := er2.f9 f3 (by decide) (by decide)
      have E2 := E1.trans (bnd_r hz)
      refine st_i (L' := [some (.inr (.inr 348)), some (.inl y), some (.inl z), none, none, none]) rfl ⟨hM, cs8 rfl, P_X10_readsAny t3 er3 (fun n e4 hw I4 J4 f4 t4 => ?_) (fun x hw I4 J4 f4 t4 er4 hb hx => ?_)⟩
      · exact st_i (L' := [some (.inr (.inr 348)), some (.inl y), some (.inl z), some (.inl n), none, none]) rfl (k1 e4 (2, y, z, n) (E2.trans (bnd_r hw)) I4 J4 (f1.trans (f2.trans (f3.trans f4))) t4)
      · exact st_i (L' := [some (.inr (.inr 348)), some (.inl y), some (.inl z), some (.inl 0), none, none]) rfl (tlB_n er4 hx (f4.k16 (by decide) (f3.k16 (by decide) q2)) (Or.inr hb) (k0 x (E2.trans (bnd_l hw)) I4 J4 _ ((f1.mono (by decide)).trans ((f2.mono (by decide)).trans ((f3.mono (by decide)).trans f4))) t4 er4 hx hb))
    · refine st_i (L' := [some (.inr (.inr 348)), some (.inl y), some (.inl 0), none, none, none]) rfl ⟨hM, cs8 rfl, readsAny_b t3 er3 hx hb (fun I4 J4 f4 t4 => ?_)⟩
      have er4 := er3.f9 f4 (by decide) (by decide)
      exact st_i (L' := [some (.inr (.inr 348)), some (.inl y), some (.inl 0), some (.inl 0), none, none]) rfl (tlB_n er4 hx (f4.k16 (by decide) (f3.k16 (by decide) q2)) (Or.inr hb) (k0 x (E1.trans (bnd_l hz)) I4 J4 _ ((f1.mono (by decide)).trans ((f2.mono (by decide)).trans (f3.trans (f4.mono (by decide))))) t4 er4 hx hb))
  · have q2 := f2.k16 (by decide) q1
    refine st_i (L' := [some (.inr (.inr 348)), some (.inl 0), none, none, none, none]) rfl ⟨hM, cs8 rfl, readsName_b t2 er2 hx hb (fun I3 J3 f3 t3 => ?_)⟩
    have er3 := er2.f9 f3 (by decide) (by decide)
    refine st_i (L' := [some (.inr (.inr 348)), some (.inl 0), some (.inl 0), none, none, none]) rfl ⟨hM, cs8 rfl, readsAny_b t3 er3 hx hb (fun I4 J4 f4 t4 => ?_)⟩
    have er4 := er3.f9 f4 (by decide) (by decide)
    exact st_i (L' := [some (.inr (.inr 348)), some (.inl 0), some (.inl 0), some (.inl 0), none, none]) rfl (tlB_n er4 hx (f4.k16 (by decide) (f3.k16 (by decide) q2)) (Or.inr hb) (k0 x (E0.trans (bnd_l hy)) I4 J4 _ ((f1.mono (by decide)).trans (f2.trans ((f3.mono (by decide)).trans (f4.mono (by decide))))) t4 er4 hx hb))
/-- truth as a number -/
noncomputable def b2 (P : Prop) : Int := @ite Int P (Classical.propDecidable P) 1 0
theorem b2_t {P : Prop} (h : P) : b2 P = 1 := @if_pos P (Classical.propDecidable P) h _ _ _
theorem b2_f {P : Prop} (h : ¬ P) : b2 P = 0 := @if_neg P (Classical.propDecidable P) h _ _ _
theorem b2_01 (P : Prop) : b2 P = 0 ∨ b2 P = 1 := by
  by_cases h : P
  · exact Or.inr (b2_t h)
  · exact Or.inl (b2_f h)
theorem TM.isWb {μ : MM} {p v : Int} (h : TM μ B e) (er : ErM μ (0, p)) (i : Nat) (hi : i < 9) (hv : v = w5L.getD i 0) (hK : K (some (.inl (b2 (isw (sc B e) i)))) μ) : w_X10_isWord [.inr (.inr 348), .inr (.inl v)] μ K := h.isWord er R32_0 i hi hv (fun _ z => by rw [b2_t z] at hK; exact hK) (fun z => by rw [b2_f (fun y => z ⟨rfl, y⟩)] at hK; exact hK)
theorem readsNumber_r {S : AS} {p : Int} {v : Nat} (hv0 : v ≠ 0) (hv2 : v ≠ 2) (t : TM (I, J) B e) (er : ErM (I, J) (0, p)) (h16 : I 348 16 = 0 ∨ I 348 16 = 1) (k1 : ∀ e' c, pln B S v (tkE (sc B e)) = .inr (e', c) → ∀ I' J', F9 [6, 7, 8, 9] (I, J) (I', J') → TM (I', J') B e' → tlN K [some (.inr (.inr 348)), some (.inl (b2 (isw (sc B e) 5))), some (.inl (b2 (isw (sc B e) 7))), some (.inl (b2 (isw (sc B e) 2))), some (.inl (cN c))] [] (I', J')) (k0 : ∀ x, pln B S v (tkE (sc B e)) = .inl x → ∀ I' J' e', F9 [6, 7, 8, 9, 10, 11] (I, J) (I', J') → TM (I', J') B e' → ErM (I', J') x → R32 x.1 → x.1 ≠ 0 → K none (I', J')) : w_X10_readsNumber [.inr (.inr 348)] (I, J) K := by
  have E0 : pln B S v (tkE (sc B e)) = bnd (num B (tkE (sc B e)) 0 9999) (fun y => .inr (y.2, (v, -1, -1, y.1))) := (if_neg hv0).trans (if_neg hv2)
  refine ⟨cs8 rfl, hM, cs8 rfl, t.isWb er 5 (by decide) rfl (st_i (L' := [some (.inr (.inr 348)), some (.inl (b2 (isw (sc B e) 5))), none, none, none]) rfl ⟨hM, cs8 rfl, t.isWb er 7 (by decide) rfl (st_i (L' := [some (.inr (.inr 348)), some (.inl (b2 (isw (sc B e) 5))), some (.inl (b2 (isw (sc B e) 7))), none, none]) rfl ⟨hM, cs8 rfl, t.isWb er 2 (by decide) rfl (st_i (L' := [some (.inr (.inr 348)), some (.inl (b2 (isw (sc B e) 5))), some (.inl (b2 (isw (sc B e) 7))), some (.inl (b2 (isw (sc B e) 2))), none]) rfl ⟨hM, cs8 rfl, M_scan t (fun I1 J1 f1 t1 => ?_)⟩)⟩)⟩)⟩
  have er1 := er.f9 f1 (by decide) (by decide)
  refine ⟨hM, cs8 rfl, P_X10_readsAny t1 er1 (fun n e2 hz I2 J2 f2 t2 => ?_) (fun x hz I2 J2 f2 t2 er2 hb hx => ?_)⟩
  · exact st_i (L' := [some (.inr (.inr 348)), some (.inl (b2 (isw (sc B e) 5))), some (.inl (b2 (isw (sc B e) 7))), some (.inl (b2 (isw (sc B e) 2))), some (.inl n)]) rfl (k1 e2 (v, -1, -1, n) (E0.trans (bnd_r hz)) I2 J2 (f1.trans f2) t2)
  · exact st_i (L' := [some (.inr (.inr 348)), some (.inl (b2 (isw (sc B e) 5))), some (.inl (b2 (isw (sc B e) 7))), some (.inl (b2 (isw (sc B e) 2))), some (.inl 0)]) rfl (tlN_n er2 hx (f2.k16 (by decide) (f1.k16 (by decide) h16)) (Or.inr hb) (k0 x (E0.trans (bnd_l hz)) I2 J2 _ ((f1.mono (by decide)).trans f2) t2 er2 hx hb))
end
