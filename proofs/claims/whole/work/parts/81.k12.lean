/-! PURE 69: readText of the class -/
def oTxt (T : TS) : (Int × Int) × TS := match rdX 601 (tB T) 0 emS 0 0 with
  | .inl x => ((1, 0), seB T [] x.1 x.2)
  | .inr S => ((0, (zN S : Int)), ([], (0, -1), S, tS T, [], tP T))
theorem oTxt_l {T : TS} {x : Er} (h : rdX 601 (tB T) 0 emS 0 0 = .inl x) : oTxt T = ((1, 0), seB T [] x.1 x.2) := by unfold oTxt; rw [h]
theorem oTxt_r {T : TS} {S : AS} (h : rdX 601 (tB T) 0 emS 0 0 = .inr S) : oTxt T = ((0, (zN S : Int)), ([], (0, -1), S, tS T, [], tP T)) := by unfold oTxt; rw [h]
theorem AI_nil {f : Nat → Int} : AI f [] := fun i x hx => by simp at hx
theorem CT.tb {μ : MM} {T : TS} (h : CT μ T) (hB : TB T) : TBc μ (tB T) := ⟨h.1.1, h.1.2.1, h.1.2.2, hB.1⟩
/-- what a text that was read leaves -/
theorem CT.rdl {I J I1 J1 : Mi} {T : TS} {x : Er} (h : CT (I, J) T) (hF : FR (I, J) (I1, J1)) (hE : ErC (I1, J1) x) : CT (uM I1 1 1 0, J1) (seB T [] x.1 x.2) ∧ FY (I, J) (uM I1 1 1 0, J1) := by
  obtain ⟨a1, a2, a3, a4, a5, a6⟩ := h
  obtain ⟨l, b1, b2, b3⟩ := a5.2.2
  have f : ∀ a, a ≠ 1 → a ≠ 3 → (a < 48 ∨ 85 ≤ a) → uM I1 1 1 0 a = I a := fun a x y z => (uM_r x).trans (hF.1 a x y z)
  have g : ∀ a, a ≠ 1 → (a < 48 ∨ 85 ≤ a) → J1 a = J a := fun a x z => hF.2.2 a x z
  have m : ∀ e s, (e = 11 ∨ 85 ≤ e) → HC e (I, J) s → HC e (uM I1 1 1 0, J1) s := fun e s he hs => HC_fr hs (fun a g1 g2 => ⟨f a (by omega) (by omega) (by omega), g a (by omega) (by omega)⟩)
  refine ⟨⟨⟨by show uM I1 1 1 0 1 1 = _; rw [uM_s]; rfl, by show ([] : List Int).length ≤ 600; decide, AI_nil⟩, ⟨by show uM I1 1 1 0 1 2 = _; rw [uM_k (by decide)]; exact hE.1, by show uM I1 1 1 0 1 3 = _; rw [uM_k (by decide)]; exact hE.2⟩, m 11 _ (Or.inl rfl) a3, ?_, ⟨a5.1, by show uM I1 1 1 0 122 2 = _; rw [f 122 (by decide) (by decide) (by omega)]; exact a5.2.1, l, b1, by show uM I1 1 1 0 122 1 = _; rw [f 122 (by decide) (by decide) (by omega)]; exact b2, fun i s hs => m _ s (by omega) (b3 i s hs)⟩, ⟨by show uM I1 1 1 0 346 1 = _; rw [f 346 (by decide) (by decide) (by omega)]; exact a6.1, a6.2.eq (f 347 (by decide) (by decide) (by omega))⟩⟩, fun a ha => ⟨f a (by omega) (by omega) (by omega), g a (by omega) (by omega)⟩⟩
  show SY _ (tS T)
  cases e : tS T with
  | none => rw [e] at a4; show uM I1 1 1 0 0 6 = 0; rw [f 0 (by decide) (by decide) (by omega)]; exact a4
  | some s => rw [e] at a4; exact ⟨by show uM I1 1 1 0 0 6 = 1; rw [f 0 (by decide) (by decide) (by omega)]; exact a4.1, m 85 s (by omega) a4.2⟩
theorem P_C_readText {I J : Mi} {K : Option AV → MM → Prop} {X : String → MM → Prop} {T : TS} (h : CT (I, J) T) (hB : TB T) (hK : OY [xA] (oTxt T) K X (I, J)) : w_X9_readText [.inr (.inr 0)] (I, J) K X := by
  have h11 : sw 11 := by decide
  have tb := h.tb hB
  refine ⟨cs8 rfl, h0X, h0X, h0X, h3R, cs8 rfl, P_X7_readFrom tb (fun S' hr I1 J1 F H er => ?_) (fun x hr μ' F er => ?_)⟩
  · refine st_i (L' := [some (.inr (.inr 0)), some (.inl 1)]) rfl ⟨h0X, h1T, ⟨by omega, by omega⟩, fun _ => ?_, fun z => absurd z (by decide)⟩
    have HS : HC 48 (uM I1 1 1 0, J1) S' := HC_put H (by omega)
    obtain ⟨⟨a1, a2, a3, a4, a5, a6⟩, fy⟩ := h.rdl F er
    refine ⟨h0X, h0X, sw_s h11, cs8 rfl, P_X6_copyFrom (e := 11) (f := 48) h11 HS (by omega) (fun I2 J2 H2 F2 => ⟨h0X, h122, cs8 rfl, ⟨cs8 rfl, h122, h0X, sw_s h11, ?_⟩⟩)⟩
    have F3 : ∀ a, (a < 11 ∨ 11 + 37 ≤ a) → I2 a = uM I1 1 1 0 a ∧ J2 a = J1 a := F2
    have nn : uM I2 122 2 0 11 1 = (zN S' : Int) := by rw [uM_e (by decide)]; exact H2.n
    show K (some (.inl (uM I2 122 2 0 11 1))) (uM I2 122 2 0, J2)
    rw [nn]
    have f : ∀ a, (a < 11 ∨ 11 + 37 ≤ a) → a ≠ 122 → uM I2 122 2 0 a = uM I1 1 1 0 a ∧ J2 a = J1 a := fun a ha hb => ⟨(uM_r hb).trans (F3 a ha).1, (F3 a ha).2⟩
    obtain ⟨l, b1, b2, b3⟩ := a5.2.2
    refine hK.k (oTxt_r hr) ⟨⟨by show uM I2 122 2 0 1 1 = _; rw [(f 1 (by omega) (by decide)).1]; exact a1.1, by show ([] : List Int).length ≤ 600; decide, AI_nil⟩, ⟨by show uM I2 122 2 0 1 2 = _; rw [(f 1 (by omega) (by decide)).1]; exact a2.1, by show uM I2 122 2 0 1 3 = _; rw [(f 1 (by omega) (by decide)).1]; exact a2.2⟩, HC_put H2 (by omega), ?_, ⟨by show ([] : List AS).length ≤ 6; decide, by show uM I2 122 2 0 122 2 = _; rw [uM_s]; rfl, l, b1, by show uM I2 122 2 0 122 1 = _; rw [uM_k (by decide), (F3 122 (by omega)).1]; exact b2, fun i s hs => by have hs : ([] : List AS)[i]? = some s := hs; simp at hs⟩, ⟨by show uM I2 122 2 0 346 1 = _; rw [(f 346 (by omega) (by decide)).1]; exact a6.1, a6.2.eq (f 347 (by omega) (by decide)).1⟩⟩ (fun a ha => ⟨(f a (by omega) (by omega)).1.trans (fy a ha).1, (f a (by omega) (by omega)).2.trans (fy a ha).2⟩)
    show SY _ (tS T)
    have a4 : SY (uM I1 1 1 0, J1) (tS T) := a4
    cases e : tS T with
    | none => rw [e] at a4; show uM I2 122 2 0 0 6 = 0; rw [(f 0 (by omega) (by decide)).1]; exact a4
    | some s => rw [e] at a4; exact ⟨by show uM I2 122 2 0 0 6 = 1; rw [(f 0 (by omega) (by decide)).1]; exact a4.1, HC_put (HC_fk a4.2 F2 (by omega)) (by omega)⟩
  · refine st_i (L' := [some (.inr (.inr 0)), some (.inl 0)]) rfl ⟨h0X, h1T, ⟨by omega, by omega⟩, fun z => absurd rfl z, fun _ => ⟨cs8 rfl, ?_⟩⟩
    obtain ⟨c, fy⟩ := h.rdl F er
    have := hK.2 0 xA rfl (by rw [oTxt_l hr]; rfl) (uM μ'.1 1 1 0, μ'.2) (by rw [oTxt_l hr]; exact c) fy
    exact this
