/-! PURE 45: the class's changes as calls -/
/-- the class does o; E names what is thrown -/
def OY (E : List String) (o : (Int × Int) × TS) (K : Option AV → MM → Prop) (X : String → MM → Prop) (μ : MM) : Prop := (o.1.1 = 0 → ∀ μ', CT μ' o.2 → FY μ μ' → K (some (.inl o.1.2)) μ') ∧ (∀ (j : Nat) (s : String), E[j]? = some s → o.1.1 = ((j + 1 : Nat) : Int) → ∀ μ', CT μ' o.2 → FY μ μ' → X s μ')
theorem OY.k {E : List String} {o : (Int × Int) × TS} {K : Option AV → MM → Prop} {X : String → MM → Prop} {μ μ' : MM} {v : Int} {T : TS} (h : OY E o K X μ) (e : o = ((0, v), T)) (h1 : CT μ' T) (h2 : FY μ μ') : K (some (.inl v)) μ' := by
  subst e
  exact h.1 rfl μ' h1 h2
theorem OY.x {E : List String} {o : (Int × Int) × TS} {K : Option AV → MM → Prop} {X : String → MM → Prop} {μ : MM} {v : Int} {s : String} {T : TS} (h : OY E o K X μ) (j : Nat) (he : E[j]? = some s) (e : o = ((((j + 1 : Nat) : Int), v), T)) (h1 : CT μ T) : X s μ := by
  subst e
  exact h.2 j s he rfl μ h1 FY.refl
/-- what is left when the switch and the history change -/
theorem CT.step {μ μ' : MM} {T : TS} {S : AS} {H : List AS} (h : CT μ T) (hf : ∀ a, (a < 11 ∨ 346 ≤ a) → μ'.1 a = μ.1 a) (h85 : ∀ a, 85 ≤ a → a < 122 → μ'.1 a = μ.1 a ∧ μ'.2 a = μ.2 a) (h0 : HC 11 μ' S) (hH : HY μ' H) : CT μ' (seN T S H) := by
  obtain ⟨a1, a2, a3, a4, a5, a6⟩ := h
  have f := fun a (ha : a < 11 ∨ 346 ≤ a) => hf a ha
  refine ⟨⟨by rw [f 1 (by omega)]; exact a1.1, a1.2.1, a1.2.2.eq (f 2 (by omega))⟩, ⟨by rw [f 1 (by omega)]; exact a2.1, by rw [f 1 (by omega)]; exact a2.2⟩, h0, ?_, hH, ⟨by rw [f 346 (by omega)]; exact a6.1, a6.2.eq (f 347 (by omega))⟩⟩
  show SY μ' (tS T)
  cases e : tS T with
  | none => rw [e] at a4; show μ'.1 0 6 = 0; rw [f 0 (by omega)]; exact a4
  | some s => rw [e] at a4; exact ⟨by rw [f 0 (by omega)]; exact a4.1, HC_fr a4.2 (fun a h1 h2 => h85 a h1 (by omega))⟩
/-- behind 'remember' and a change of the switch -/
theorem CT.rem {I J I1 J1 : Mi} {μ2 : MM} {T : TS} {S' : AS} {H : List AS} (h : CT (I, J) T) (h1 : HY (I1, J1) H) (h2 : ∀ a, (a < 122 ∨ 346 ≤ a) → I1 a = I a ∧ J1 a = J a) (h3 : FC 11 (I1, J1) μ2) (h4 : HC 11 μ2 S') : CT μ2 (seN T S' H) ∧ FY (I, J) μ2 := by
  have f3 : ∀ a, (a < 11 ∨ 11 + 37 ≤ a) → μ2.1 a = I1 a := fun a ha => h3.1 a ha
  have j3 : μ2.2 = J1 := h3.2
  refine ⟨h.step (fun a ha => ?_) (fun a g1 g2 => ⟨?_, ?_⟩) h4 ⟨h1.1, ?_, ?_⟩, fun a ha => ⟨?_, ?_⟩⟩
  · rw [f3 a (by omega)]; exact (h2 a (by omega)).1
  · rw [f3 a (by omega)]; exact (h2 a (by omega)).1
  · rw [j3]; exact (h2 a (by omega)).2
  · rw [f3 122 (by omega)]; exact h1.2.1
  · obtain ⟨l, b1, b2, b3⟩ := h1.2.2
    exact ⟨l, b1, by rw [f3 122 (by omega)]; exact b2, fun i s hs => HC_fk (b3 i s hs) h3.fk (by omega)⟩
  · rw [f3 a (by omega)]; exact (h2 a (by omega)).1
  · rw [j3]; exact (h2 a (by omega)).2
theorem HC11_keep {I J I1 J1 : Mi} {S : AS} (h : HC 11 (I, J) S) (h2 : ∀ a, (a < 122 ∨ 346 ≤ a) → I1 a = I a ∧ J1 a = J a) : HC 11 (I1, J1) S := HC_fr h (fun a g1 g2 => h2 a (by omega))
theorem P_C_arrive {I J : Mi} {K : Option AV → MM → Prop} {X : String → MM → Prop} {t : Nat} {T : TS} {x c : Int} (h : CT (I, J) T) (hT : TG t T) (hx : R32 x) (hc : R32 c) (hK : OY [xI, xA] (oArr T x c) K X (I, J)) : w_X9_arrive [.inr (.inr 0), .inl x, .inl c] (I, J) K X := by
  obtain ⟨ht, ⟨g1, g2, g3, g4⟩, -, -⟩ := hT
  have hn := h.2.2.1
  have h6 := hn.2.1.n6
  refine ⟨cs8 rfl, h0X, cs8 rfl, P_X9_needPort hn hx (fun q1 q2 => ⟨cs8 rfl, cs8 rfl, P_X9_needWithin hc ⟨by omega, by omega⟩ ⟨by omega, by omega⟩ (fun r1 r2 => ?_) (fun q => hK.x 1 rfl (by unfold oArr; rw [if_pos ⟨q1, q2⟩, if_neg q]; rfl) h)⟩) (fun q => hK.x 0 rfl (if_neg q) h)⟩
  obtain ⟨p, rfl⟩ : ∃ p : Nat, x = p := ⟨x.toNat, by omega⟩
  have hp : p < zN (tN T) := by omega
  have e : oArr T p c = ((0, (adm (tN T) p c).2), seN T (adm (tN T) p c).1 (kpH T)) := by unfold oArr; rw [if_pos ⟨q1, q2⟩, if_pos ⟨r1, r2⟩]; rfl
  refine ⟨h0X, h0X, h122, cs8 rfl, P_X0_remember (e := 11) hn (by decide) h.2.2.2.2.1 (fun I1 J1 k1 k2 => ⟨h0X, sw_s hn.1, cs8 rfl, P_X6_admit (e := 11) p (HC11_keep hn k2) g1 rfl hp ⟨r1, r2⟩ (by omega) (fun μ2 H2 F2 => ?_)⟩)⟩
  obtain ⟨m1, m2⟩ := h.rem k1 k2 F2 H2
  exact hK.k e m1 m2
theorem P_C_tick {I J : Mi} {K : Option AV → MM → Prop} {X : String → MM → Prop} {t : Nat} {T : TS} {x : Int} (h : CT (I, J) T) (hT : TG t T) (hx : R32 x) (hK : OY [xA] (oTck T x) K X (I, J)) : w_X9_tick [.inr (.inr 0), .inl x] (I, J) K X := by
  obtain ⟨ht, ⟨g1, g2, g3, g4⟩, -, -⟩ := hT
  have hn := h.2.2.1
  refine ⟨cs8 rfl, cs8 rfl, cs8 rfl, P_X9_needWithin hx ⟨by omega, by omega⟩ ⟨by omega, by omega⟩ (fun r1 r2 => ⟨h0X, sw_s hn.1, cs8 rfl, P_X6_mayPass (e := 11) hn (by omega) (fun q => ⟨⟨by omega, by omega⟩, fun _ => ?_, fun z => absurd z (by decide)⟩) (fun q => ⟨⟨by omega, by omega⟩, fun z => absurd rfl z, fun _ => ?_⟩)⟩) (fun q => hK.x 0 rfl (if_neg q) h)⟩
  · obtain ⟨n, rfl⟩ : ∃ n : Nat, x = n := ⟨x.toNat, by omega⟩
    have e : oTck T n = ((0, zC (tN T) + n), seN T (tkn n (tN T)) (kpH T)) := by unfold oTck; rw [if_pos ⟨r1, r2⟩, if_pos q]; rfl
    refine ⟨h0X, h0X, h122, cs8 rfl, P_X0_remember (e := 11) hn (by decide) h.2.2.2.2.1 (fun I1 J1 k1 k2 => ⟨h0X, sw_s hn.1, cs8 rfl, P_X6_passTicks (e := 11) n (HC11_keep hn k2) g1 rfl (by omega) (by omega) (fun μ2 H2 F2 => ?_)⟩)⟩
    obtain ⟨m1, m2⟩ := h.rem k1 k2 F2 H2
    exact hK.k e m1 m2
  · have e : oTck T x = ((0, -1), T) := by unfold oTck; rw [if_pos ⟨r1, r2⟩, if_neg q]
    exact hK.k e h FY.refl
theorem P_C_giveBack {I J : Mi} {K : Option AV → MM → Prop} {X : String → MM → Prop} {t : Nat} {T : TS} {x y c : Int} (h : CT (I, J) T) (hT : TG t T) (hx : R32 x) (hy : R32 y) (hc : R32 c) (hK : OY [xI, xA, xS] (oGiv T x y c) K X (I, J)) : w_X9_giveBack [.inr (.inr 0), .inl x, .inl y, .inl c] (I, J) K X := by
  obtain ⟨ht, ⟨g1, g2, g3, g4⟩, -, -⟩ := hT
  have hn := h.2.2.1
  have h6 := hn.2.1.n6
  refine ⟨cs8 rfl, h0X, cs8 rfl, P_X9_needPort hn hx (fun q1 q2 => ⟨h0X, cs8 rfl, P_X9_needPort hn hy (fun q3 q4 => ⟨cs8 rfl, cs8 rfl, P_X9_needWithin hc ⟨by omega, by omega⟩ ⟨by omega, by omega⟩ (fun r1 r2 => ?_) (fun q => hK.x 1 rfl (by unfold oGiv; rw [if_pos ⟨⟨q1, q2⟩, q3, q4⟩, if_neg q]; rfl) h)⟩) (fun q => hK.x 0 rfl (if_neg (fun z => q z.2)) h)⟩) (fun q => hK.x 0 rfl (if_neg (fun z => q z.1)) h)⟩
  obtain ⟨p, rfl⟩ : ∃ p : Nat, x = p := ⟨x.toNat, by omega⟩
  obtain ⟨l, rfl⟩ : ∃ l : Nat, y = l := ⟨y.toNat, by omega⟩
  have hp : p < zN (tN T) := by omega
  have hl : l < zN (tN T) := by omega
  refine ⟨h0X, sw_s hn.1, cs8 rfl, P_X6_mayReturn (e := 11) p l hn rfl rfl hp hl hc (fun s1 s2 => ⟨⟨by omega, by omega⟩, fun _ => ?_, fun z => absurd z (by decide)⟩) (fun q => ⟨⟨by omega, by omega⟩, fun z => absurd rfl z, fun _ => ⟨cs8 rfl, hK.x (v := 0) 2 rfl ?_ h⟩⟩)⟩
  · have e : oGiv T p l c = ((0, owd (col (zR (tN T)).length (tN T) l (some p) 0 c) l p), seN T (col (zR (tN T)).length (tN T) l (some p) 0 c) (kpH T)) := by
      unfold oGiv
      rw [if_pos ⟨⟨q1, q2⟩, q3, q4⟩, if_pos ⟨r1, r2⟩]
      simp only [Int.toNat_natCast]
      rw [if_pos ⟨s1, s2⟩]
    refine ⟨h0X, h0X, h122, cs8 rfl, P_X0_remember (e := 11) hn (by decide) h.2.2.2.2.1 (fun I1 J1 k1 k2 => ⟨h0X, sw_s hn.1, cs8 rfl, P_X6_returnCells (e := 11) l p (HC11_keep hn k2) g1 rfl rfl (by omega) (by omega) (by omega) (fun μ2 H2 F2 => ?_)⟩)⟩
    obtain ⟨m1, m2⟩ := h.rem k1 k2 F2 H2
    exact hK.k e m1 m2
  · unfold oGiv
    rw [if_pos ⟨⟨q1, q2⟩, q3, q4⟩, if_pos ⟨r1, r2⟩]
    simp only [Int.toNat_natCast]
    rw [if_neg q]
    rfl
theorem P_C_extend {I J : Mi} {K : Option AV → MM → Prop} {X : String → MM → Prop} {t : Nat} {T : TS} {x : Int} (h : CT (I, J) T) (hT : TG t T) (hx : R32 x) (hK : OY [xI, xS] (oExt T x) K X (I, J)) : w_X9_extend [.inr (.inr 0), .inl x] (I, J) K X := by
  obtain ⟨ht, ⟨g1, g2, g3, g4⟩, -, -⟩ := hT
  have hn := h.2.2.1
  have hpn := hn.2.1.pmn
  have htm := hn.2.1.2.1
  have pn : I (11 + 2) 4 = ((zR (tN T)).length : Int) := hn.pn
  refine ⟨cs8 rfl, h0X, sw_s hn.1, sw_pm hn.1, ?_⟩
  show _ ∧ _ ∧ w_X9_needIndex [.inl x, .inl (I (11 + 2) 4)] _ _ _
  rw [pn]
  refine ⟨cs8 rfl, cs8 rfl, P_X9_needIndex hx ⟨by omega, by omega⟩ (fun q1 q2 => ?_) (fun q => hK.x 0 rfl (if_neg q) h)⟩
  obtain ⟨i, rfl⟩ : ∃ i : Nat, x = i := ⟨x.toNat, by omega⟩
  obtain ⟨m, hm⟩ : ∃ m, (zR (tN T))[i]? = some m := ⟨(zR (tN T))[i]'(by omega), List.getElem?_eq_getElem (by omega)⟩
  have hd := g4 m (List.mem_of_getElem? hm)
  have e0 : oExt T i = if 0 ≤ spr (tN T) m.1 then ((0, m.2.2.2 + zT (tN T)), seN T (ext (tN T) i) (kpH T)) else ((2, 0), T) := by
    unfold oExt
    rw [if_pos ⟨q1, q2⟩, Int.toNat_natCast, hm]
  refine ⟨h0X, sw_s hn.1, cs8 rfl, P_X6_mayProlong (e := 11) i hn rfl hm (fun s => ⟨⟨by omega, by omega⟩, fun _ => ?_, fun z => absurd z (by decide)⟩) (fun s => ⟨⟨by omega, by omega⟩, fun z => absurd rfl z, fun _ => ⟨cs8 rfl, ?_⟩⟩)⟩
  · rw [if_pos s] at e0
    refine ⟨h0X, h0X, h122, cs8 rfl, P_X0_remember (e := 11) hn (by decide) h.2.2.2.2.1 (fun I1 J1 k1 k2 => ⟨h0X, sw_s hn.1, cs8 rfl, P_X6_prolong (e := 11) i (HC11_keep hn k2) g1 rfl hm (by omega) (fun μ2 H2 F2 => ?_)⟩)⟩
    obtain ⟨m1, m2⟩ := h.rem k1 k2 F2 H2
    exact hK.k e0 m1 m2
  · rw [if_neg s] at e0
    exact hK.x 1 rfl e0 h
theorem P_C_setTerm {I J : Mi} {K : Option AV → MM → Prop} {X : String → MM → Prop} {t : Nat} {T : TS} {x : Int} (h : CT (I, J) T) (hT : TG t T) (hx : R32 x) (hK : OY [xA] (oTrm T x) K X (I, J)) : w_X9_setTerm [.inr (.inr 0), .inl x] (I, J) K X := by
  obtain ⟨ht, ⟨g1, g2, g3, g4⟩, -, -⟩ := hT
  have hn := h.2.2.1
  refine ⟨cs8 rfl, cs8 rfl, cs8 rfl, P_X9_needWithin hx ⟨by omega, by omega⟩ ⟨by omega, by omega⟩ (fun r1 r2 => ?_) (fun q => hK.x 0 rfl (if_neg q) h)⟩
  refine ⟨h0X, h0X, h122, cs8 rfl, P_X0_remember (e := 11) hn (by decide) h.2.2.2.2.1 (fun I1 J1 k1 k2 => ⟨h0X, sw_s hn.1, cs8 rfl, P_X6_changeTerm (e := 11) (HC11_keep hn k2) g1 ⟨r1, r2⟩ (fun μ2 H2 F2 => ?_)⟩)⟩
  obtain ⟨m1, m2⟩ := h.rem k1 k2 F2 H2
  exact hK.k (if_pos ⟨r1, r2⟩) m1 m2
theorem P_C_setKeep {I J : Mi} {K : Option AV → MM → Prop} {X : String → MM → Prop} {t : Nat} {T : TS} {x : Int} (h : CT (I, J) T) (hT : TG t T) (hx : R32 x) (hK : OY [xA] (oKep T x) K X (I, J)) : w_X9_setKeep [.inr (.inr 0), .inl x] (I, J) K X := by
  obtain ⟨ht, ⟨g1, g2, g3, g4⟩, -, -⟩ := hT
  have hn := h.2.2.1
  refine ⟨cs8 rfl, cs8 rfl, cs8 rfl, P_X9_needWithin hx ⟨by omega, by omega⟩ ⟨by omega, by omega⟩ (fun r1 r2 => ?_) (fun q => hK.x 0 rfl (if_neg q) h)⟩
  refine ⟨h0X, h0X, h122, cs8 rfl, P_X0_remember (e := 11) hn (by decide) h.2.2.2.2.1 (fun I1 J1 k1 k2 => ⟨h0X, sw_s hn.1, cs8 rfl, P_X6_changeKeep (e := 11) (HC11_keep hn k2) g1 ⟨r1, r2⟩ (fun μ2 H2 F2 => ?_)⟩)⟩
  obtain ⟨m1, m2⟩ := h.rem k1 k2 F2 H2
  exact hK.k (if_pos ⟨r1, r2⟩) m1 m2

