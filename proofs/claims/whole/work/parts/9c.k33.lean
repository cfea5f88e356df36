/-! PURE 90: the model runs a script: stretches of it -/
section
variable {I J : Mi} {K : Option AV → MM → Prop} {B : List Int} {e d : Nat}
theorem TL_y {S : AS} {G : List (Nat × Pkt)} {c : Cm} {n : Nat} {p A D : Int} (g : HG 0 (I, J) S G) (oks : OKb A D S) (hA : A + 1 ≤ 30000) (hD : D + 99 ≤ 3000000) (ok : cOk S c) (er : ErM (I, J) (0, p)) (h16 : I 348 16 = 1) (h17 : I 348 17 = 0) (h20 : I 348 20 = (n : Int)) (hn : n < 40) (k1 : ∀ S', doC c S = some S' → KY K (I, J) n S') (k0 : doC c S = none → KN K (I, J) n S) : TL K c (I, J) := ⟨fun v => tlA_y g oks.1 (by have := oks.2.2.1; omega) v ok er h16 h17 h20 hn k1 k0, fun v => tlB_y g oks.1 v ok er h16 h17 h20 hn k1 k0, fun a b d v => tlN_y g oks hD v ok er h16 h17 h20 hn k1 k0⟩
theorem rc_p2 {p : Int} (t : TM (I, J) B e) (er : ErM (I, J) (0, p)) (h16 : I 348 16 = 1) (h18 : I 348 18 = (d : Int)) (hd : d ≤ 2) (hv : vrb (sc B e) ≠ -1) (h8 : vrb (sc B e) = 6 → d < 2) (h : B_X10_readsCommand_144 (fun v μ' => K v μ') (lcC (sc B e)) [] (I, J)) : w_X10_readsCommand [.inr (.inr 348)] (I, J) K := by
  obtain ⟨i4, i5, i6, i7, i2, i3, i8⟩ := vrb_iff (sc B e)
  have go : B_X10_readsCommand_99 (fun v μ' => K v μ') (lcC (sc B e)) [.inr (.inr 348)] (I, J) := c_ci ⟨hM, cs8 rfl, must_g er ⟨hM, b01 (Or.inr h16), fun _ => h, fun z => absurd (h16.symm.trans z) (by decide)⟩⟩
  refine rc_head t er (fun _ => c_ci ⟨hM, cs8 rfl, must_g er ⟨b01 (b2_01 _), fun _ => go, fun q8 => ⟨hM, by show R32 (I 348 18); rw [h18]; exact ⟨by omega, by omega⟩, R32_2, fun z => ?_, fun _ => go⟩⟩⟩) (fun z => absurd z hv)
  have w8 : isw (sc B e) 8 := by
    by_cases y : isw (sc B e) 8
    · exact y
    · exact absurd (b2_f y) q8
  have := h8 (i8.mp w8)
  have z : (2 : Int) ≤ I 348 18 := z
  omega
theorem g34_o {p : Int} (t : TM (I, J) B e) (er : ErM (I, J) (0, p)) (h17 : I 348 17 = 1) (hK : K none (I, J)) : B_X10_goes_34 K [some (.inr (.inr 348)), none] [] (I, J) := by
  have out : B_X10_goes_78 K [some (.inr (.inr 348)), none] [] (I, J) := g78_g er (Or.inr h17) (fun z => absurd (h17.symm.trans z) (by decide)) hK
  exact lfp_in ⟨hM, cs8 rfl, P_X10_isGood er R32_0 (fun _ => ⟨R32_1, fun z => absurd z (by decide), fun _ => ⟨hM, t.kr, fun _ => c_kil rfl out, fun _ => ⟨hM, b01 (Or.inr h17), fun _ => c_kil rfl out, fun z => absurd (h17.symm.trans z) (by decide)⟩⟩⟩) (fun z => absurd rfl z)⟩
end
/-- what a run of a script leaves -/
def FRR (μ μ' : MM) : Prop := (∀ e, e ≠ 348 → e ≠ 349 → e ≠ 352 → e ≠ 353 → μ'.1 e = μ.1 e) ∧ (∀ k, 2080 ≤ k → μ'.1 349 k = μ.1 349 k) ∧ (∀ j, (j < 6 ∨ (12 ≤ j ∧ j < 16) ∨ 21 ≤ j) → μ'.1 348 j = μ.1 348 j) ∧ (∀ e, e ≠ 348 → μ'.2 e = μ.2 e)
theorem FRR.refl {μ : MM} : FRR μ μ := ⟨fun _ _ _ _ _ => rfl, fun _ _ => rfl, fun _ _ => rfl, fun _ _ => rfl⟩
theorem FRR.trans {μ μ1 μ2 : MM} (h : FRR μ μ1) (h' : FRR μ1 μ2) : FRR μ μ2 := ⟨fun a x y z u => (h'.1 a x y z u).trans (h.1 a x y z u), fun k hk => (h'.2.1 k hk).trans (h.2.1 k hk), fun a x => (h'.2.2.1 a x).trans (h.2.2.1 a x), fun a x => (h'.2.2.2 a x).trans (h.2.2.2 a x)⟩
theorem FQ.fr {μ μ' : MM} (h : FQ μ μ') : FRR μ μ' := ⟨fun a x _ z u => h.1 a x z u, fun k _ => by rw [h.1 349 (by decide) (by decide) (by decide)], h.2.1, h.2.2⟩
theorem FE.fr {μ μ' : MM} (h : FE μ μ') : FRR μ μ' := ⟨fun a x y _ _ => h.1 a x y, h.2.1, fun j hj => h.2.2.1 j (by omega) (by omega), fun a _ => by rw [h.2.2.2]⟩
/-- the repeats that stand around: where the body begins, how often still -/
def STK (μ : MM) : List (Nat × Int) → Prop
  | [] => True
  | q :: st => (μ.1 352 (st.length + 1) = (q.1 : Int) ∧ μ.1 353 (st.length + 1) = q.2) ∧ STK μ st
theorem STK.eq {μ μ' : MM} : ∀ (st : List (Nat × Int)), STK μ st → (∀ j, j ≤ st.length → μ'.1 352 j = μ.1 352 j ∧ μ'.1 353 j = μ.1 353 j) → STK μ' st := by
  intro st
  induction st with
  | nil => intro _ _; exact trivial
  | cons q st ih =>
    intro h hf
    have := hf (st.length + 1) (Nat.le_refl _)
    exact ⟨⟨this.1.trans h.1.1, this.2.trans h.1.2⟩, ih h.2 (fun j hj => hf j (Nat.le_succ_of_le hj))⟩
theorem STK.f9 {ks : List Nat} {μ μ' : MM} {st : List (Nat × Int)} (h : STK μ st) (f : F9 ks μ μ') : STK μ' st := h.eq st (fun j _ => ⟨by rw [f.1 352 (by decide)], by rw [f.1 353 (by decide)]⟩)
theorem STK.fe {μ μ' : MM} {st : List (Nat × Int)} (h : STK μ st) (f : FE μ μ') : STK μ' st := h.eq st (fun j _ => ⟨by rw [f.1 352 (by decide) (by decide)], by rw [f.1 353 (by decide) (by decide)]⟩)
/-- in a run, n commands done, S the switch -/
def P2 (μ0 : MM) (B : List Int) (S0 : AS) (A D : Int) (st : List (Nat × Int)) (e n : Nat) (S : AS) (μ : MM) : Prop := (TM μ B e ∧ ErM μ (0, -1)) ∧ (μ.1 348 16 = 1 ∧ μ.1 348 17 = 0 ∧ μ.1 348 18 = (st.length : Int) ∧ μ.1 348 20 = (n : Int)) ∧ (n < 40 ∧ (∃ G, HG 0 μ S G) ∧ OKb (A + n) (D + 99 * n) S ∧ SM S0 S) ∧ STK μ st ∧ FRR μ0 μ
/-- a run is over -/
def EN (μ0 : MM) (n : Nat) (S : AS) (μ : MM) : Prop := (∃ G, HG 0 μ S G) ∧ FRR μ0 μ ∧ μ.1 348 20 = (n : Int) ∧ ErM μ (0, -1)
abbrev Lp (K : Option AV → MM → Prop) (μ : MM) : Prop := B_X10_goes_34 K [some (.inr (.inr 348)), none] [] μ
/-- the run from e to e' does E -/
def Seg (K : Option AV → MM → Prop) (μ0 : MM) (B : List Int) (S0 : AS) (A D : Int) (st : List (Nat × Int)) (e e' : Nat) (E : List Cm) : Prop := ∀ n S μ, P2 μ0 B S0 A D st e n S μ → (∀ S' n', rn40 E S n = (S', n', true) → ∀ μ', EN μ0 n' S' μ' → K none μ') → (∀ S' n', rn40 E S n = (S', n', false) → ∀ μ', P2 μ0 B S0 A D st e' n' S' μ' → Lp K μ') → Lp K μ
section
variable {K : Option AV → MM → Prop} {μ0 : MM} {B : List Int} {S0 : AS} {A D : Int} {st : List (Nat × Int)} {e e' e2 : Nat} {E E' : List Cm}
theorem Seg.refl : Seg K μ0 B S0 A D st e e [] := fun n S μ h _ k => k S n rfl μ h
theorem Seg.trans (h : Seg K μ0 B S0 A D st e e' E) (h' : Seg K μ0 B S0 A D st e' e2 E') : Seg K μ0 B S0 A D st e e2 (E ++ E') := fun n S μ p kt kf => h n S μ p (fun S' n' r μ' q => kt S' n' (rn40_t r) μ' q) (fun S' n' r μ' q => h' n' S' μ' q (fun S2 n2 r2 μ2 q2 => kt S2 n2 ((rn40_f r).trans r2) μ2 q2) (fun S2 n2 r2 μ2 q2 => kf S2 n2 ((rn40_f r).trans r2) μ2 q2))
theorem nmd_sm {S : AS} (h : SM S0 S) (w : List Nat) : nmd S w = nmd S0 w := by unfold nmd; rw [h.1, h.2]
theorem nam_sm {S : AS} (h : SM S0 S) (e : Nat) : nam B S e = nam B S0 e := by unfold nam; rw [nmd_sm h]
theorem pln_sm {S : AS} (h : SM S0 S) (v e : Nat) : pln B S v e = pln B S0 v e := by
  have q : nam B S = nam B S0 := funext (fun e => nam_sm h e)
  unfold pln
  rw [q]
end
