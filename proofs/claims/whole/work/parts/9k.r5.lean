/-! PURE 98: the class's report, in whole -/
section
variable {μ0 : MM} {J : Mi} {K : Option AV → MM → Prop} {S : AS}
theorem RK.hc {μ : MM} {out : List Int} (h : RK μ0 μ out) (g : HC 11 μ0 S) : HC 11 μ S := HC_fr g (fun a g1 g2 => ⟨h.1 a (by omega) (by omega), h.2.1 a (by omega)⟩)
theorem cprm_lp {p : Nat} (g0 : HC 11 μ0 S) (hn : NM S) (hp : p < zN S) : ∀ (k i : Nat) (I : Mi) (out : List Int), i + k = (zR S).length → RK μ0 (I, J) out → out.length + (lnP S p ((zR S).drop i)).length ≤ 2742 → (∀ I', RK μ0 (I', J) (out ++ lnP S p ((zR S).drop i)) → K none (I', J)) → B_X4_putPromisesOf_2 K [hR4, some (.inl (p : Int)), some (.inr (.inr 11)), some (.inl (i : Int))] [] (I, J) := by
  have hl := g0.2.1.pmn
  have h6 := g0.2.1.n6
  have hs : isK 11 6 := sw_s g0.1
  have hm : isK 13 3 := sw_pm g0.1
  have a0 := sw_pma g0.1 (j := 0) (by omega)
  have a1 := sw_pma g0.1 (j := 1) (by omega)
  have a2 := sw_pma g0.1 (j := 2) (by omega)
  intro k
  induction k with
  | zero =>
    intro i I out hi h hb hK
    have g := h.hc g0
    have e4 : I 13 4 = ((zR S).length : Int) := g.pn
    rw [List.drop_of_length_le (by omega)] at hK
    refine lfp_in ⟨hs, hm, ?_⟩
    show o_icmp_ge _ _ _ [.inl (I 13 4), .inl (i : Int)] (I, J)
    rw [e4]
    refine ⟨⟨by omega, by omega⟩, ⟨by omega, by omega⟩, fun _ => hK I ?_, fun z => absurd (show ((zR S).length : Int) ≤ (i : Int) by omega) z⟩
    show RK μ0 (I, J) (out ++ [])
    rw [List.append_nil]
    exact h
  | succ k ih =>
    intro i I out hi h hb hK
    have g := h.hc g0
    have e4 : I 13 4 = ((zR S).length : Int) := g.pn
    obtain ⟨r, hr⟩ : ∃ r, (zR S)[i]? = some r := ⟨(zR S)[i]'(by omega), List.getElem?_eq_getElem (by omega)⟩
    have hmr := g.2.1.pmr (List.mem_of_getElem? hr)
    have v0 : I (11 + 3 + 0) i = (r.1 : Int) := g.pm hr (by omega)
    rw [drop_s hr] at hb hK
    have hb : out.length + (prO S p r ++ lnP S p ((zR S).drop (i + 1))).length ≤ 2742 := hb
    have hK : ∀ I', RK μ0 (I', J) (out ++ (prO S p r ++ lnP S p ((zR S).drop (i + 1)))) → K none (I', J) := hK
    rw [List.length_append] at hb
    have nxt : ∀ I', RK μ0 (I', J) (out ++ prO S p r) → B_X4_putPromisesOf_72 K (B_X4_putPromisesOf_2 K) [hR4, some (.inl (p : Int)), some (.inr (.inr 11)), some (.inl (i : Int))] [] (I', J) := fun I' h' => by
      have key := ih (i + 1) I' (out ++ prO S p r) (by omega) h' (by rw [List.length_append]; omega) (fun I2 h2 => hK I2 (by rw [List.append_assoc] at h2; exact h2))
      exact key
    refine lfp_in ⟨hs, hm, ?_⟩
    show o_icmp_ge _ _ _ [.inl (I 13 4), .inl (i : Int)] (I, J)
    rw [e4]
    refine ⟨⟨by omega, by omega⟩, ⟨by omega, by omega⟩, fun z => absurd (show ((zR S).length : Int) ≤ (i : Int) from z) (by omega), fun _ => ⟨hs, hm, a0.1, by omega, ?_, ?_⟩⟩
    · show (i : Int) < ((ln (11 + 3 + 0) : Nat) : Int); rw [a0.2]; omega
    show o_iload 1 _ _ [.inl (I (11 + 3 + 0) i)] (I, J)
    rw [v0]
    refine ⟨⟨by omega, by omega⟩, ⟨by omega, by omega⟩, fun z => ?_, fun z => ?_⟩
    · have z : ¬ (r.1 : Int) = (p : Int) := z
      have e : prO S p r = [] := if_neg (fun y => z (by rw [y]))
      rw [e, List.append_nil] at nxt
      exact nxt I h
    · have z : (r.1 : Int) = (p : Int) := z
      have e : prO S p r = [32] ++ (nmB (zM S r.2.1) ++ ([58] ++ nb r.2.2.1)) := if_pos (by omega)
      rw [e] at hb nxt
      simp only [List.length_append, nmB_l, List.length_cons, List.length_nil] at hb
      refine ⟨h346, cs8 rfl, P_X4_put h (by omega) (fun I1 h1 => ?_)⟩
      have g1 := h1.hc g0
      have v1 : I1 (11 + 3 + 1) i = (r.2.1 : Int) := g1.pm hr (by omega)
      refine ⟨hs, hs, hm, a1.1, by omega, ?_, ?_⟩
      · show (i : Int) < ((ln (11 + 3 + 1) : Nat) : Int); rw [a1.2]; omega
      show o_aald _ _ [.inl (I1 (11 + 3 + 1) i), .inr (.inr (11 + ro 6 0)), .inr (.inr 346)] (I1, J)
      rw [v1]
      have hnm : J (11 + 13 + 4 * r.2.1) 0 = pk8 (zM S r.2.1) := (g1.cp hmr.2.1).1
      refine aq g1.1 (p := r.2.1) (by omega) ⟨sw_pt g1.1 (p := r.2.1) (by omega), ?_⟩
      show o_callV 1 4 w_X4_putName _ _ [.inr (.inl (J (11 + 13 + 4 * r.2.1) 0)), .inr (.inr 346)] (I1, J)
      rw [hnm]
      refine ⟨h346, cs8 rfl, P_X4_putName (hn _ hmr.2.1) h1 ?_ (fun I2 h2 => ⟨h346, cs8 rfl, P_X4_put h2 ?_ (fun I3 h3 => ?_)⟩)⟩
      · simp only [List.length_append, nmB_l, List.length_cons, List.length_nil]; omega
      · simp only [List.length_append, nmB_l, List.length_cons, List.length_nil]; omega
      have g3 := h3.hc g0
      have v2 : I3 (11 + 3 + 2) i = r.2.2.1 := g3.pm hr (by omega)
      refine ⟨hs, hm, a2.1, by omega, ?_, ?_⟩
      · show (i : Int) < ((ln (11 + 3 + 2) : Nat) : Int); rw [a2.2]; omega
      show o_callV 1 4 w_X4_putNumber _ _ [.inl (I3 (11 + 3 + 2) i), .inr (.inr 346)] (I3, J)
      rw [v2]
      refine ⟨h346, cs8 rfl, P_X4_putNumber (v := r.2.2.1) (by omega) h3 ?_ (fun I4 h4 => nxt I4 ?_)⟩
      · simp only [List.length_append, nmB_l, List.length_cons, List.length_nil]; omega
      · simp only [List.append_assoc] at h4
        exact h4
theorem P_X4_putPromisesOf {I : Mi} {out : List Int} {p : Nat} (g0 : HC 11 μ0 S) (hn : NM S) (hp : p < zN S) (h : RK μ0 (I, J) out) (hb : out.length + (lnP S p (zR S)).length ≤ 2742) (hK : ∀ I', RK μ0 (I', J) (out ++ lnP S p (zR S)) → K none (I', J)) : w_X4_putPromisesOf [.inr (.inr 346), .inl (p : Int), .inr (.inr 11)] (I, J) K := by
  have key := cprm_lp (K := fun v μ' => K v μ') g0 hn hp (zR S).length 0 I out (by omega) h (by rw [List.drop_zero]; exact hb) (by rw [List.drop_zero]; exact hK)
  exact ⟨cs8 rfl, c_ci (st_i (L' := [hR4, some (.inl (p : Int)), some (.inr (.inr 11)), some (.inl ((0 : Nat) : Int))]) rfl key)⟩
theorem cport_lp (g0 : HC 11 μ0 S) (gd : Gd S) (hn : NM S) (hK : ∀ I', RK μ0 (I', J) (rpL S (zN S)) → K none (I', J)) : ∀ (k p : Nat) (I : Mi), p + k = zN S → RK μ0 (I, J) (rpL S p) → B_X4_write_7 K [hR4, some (.inr (.inr 11)), some (.inl (p : Int))] [] (I, J) := by
  have h6 := g0.2.1.n6
  have hs : isK 11 6 := sw_s g0.1
  intro k
  induction k with
  | zero =>
    intro p I hp h
    have g := h.hc g0
    have e1 : I 11 1 = (zN S : Int) := g.n
    have e : p = zN S := by omega
    subst e
    refine lfp_in ⟨hs, ?_⟩
    show o_icmp_ge _ _ _ [.inl (I 11 1), .inl (zN S : Int)] (I, J)
    rw [e1]
    exact ⟨⟨by omega, by omega⟩, ⟨by omega, by omega⟩, fun _ => hK I h, fun z => absurd (Int.le_refl _) z⟩
  | succ k ih =>
    intro p I hp h
    have g := h.hc g0
    have e1 : I 11 1 = (zN S : Int) := g.n
    have hpn : p < zN S := by omega
    have hr := gd.rom hpn
    have hl := rpL_l gd hn (p + 1) (by omega)
    have hl : (rpL S p ++ lnB S p).length ≤ 457 * (p + 1) := hl
    rw [List.length_append] at hl
    have el : (lnB S p).length = (zM S p).length + (1 + ((nb (usd S p)).length + (1 + ((nb (rom S p)).length + ((lnP S p (zR S)).length + 1))))) := by
      unfold lnB
      simp only [List.length_append, nmB_l, List.length_cons, List.length_nil]
    have hpt := sw_pt g0.1 (p := p) (by omega)
    refine lfp_in ⟨hs, ?_⟩
    show o_icmp_ge _ _ _ [.inl (I 11 1), .inl (p : Int)] (I, J)
    rw [e1]
    refine ⟨⟨by omega, by omega⟩, ⟨by omega, by omega⟩, fun z => absurd (show (zN S : Int) ≤ (p : Int) from z) (by omega), fun _ => ⟨hs, aq g.1 (p := p) (by omega) ⟨hpt, ?_⟩⟩⟩
    have hnm : J (11 + 13 + 4 * p) 0 = pk8 (zM S p) := (g.cp hpn).1
    show o_callV 1 4 w_X4_putName _ _ [.inr (.inl (J (11 + 13 + 4 * p) 0)), .inr (.inr 346)] (I, J)
    rw [hnm]
    refine ⟨h346, cs8 rfl, P_X4_putName (hn p hpn) h (by omega) (fun I1 h1 => ⟨h346, cs8 rfl, P_X4_put h1 ?_ (fun I2 h2 => ⟨hs, aq g.1 (p := p) (by omega) ⟨hpt, ?_⟩⟩)⟩)⟩
    · simp only [List.length_append, nmB_l, List.length_cons, List.length_nil]; omega
    have g2 := h2.hc g0
    have u2 : I2 (11 + 13 + 4 * p) 5 = usd S p := (g2.cp hpn).2.2.2.2.2.1
    show o_callV 1 4 w_X4_putNumber _ _ [.inl (I2 (11 + 13 + 4 * p) 5), .inr (.inr 346)] (I2, J)
    rw [u2]
    refine ⟨h346, cs8 rfl, P_X4_putNumber (v := usd S p) (by omega) h2 ?_ (fun I3 h3 => ⟨h346, cs8 rfl, P_X4_put h3 ?_ (fun I4 h4 => ⟨hs, aq g.1 (p := p) (by omega) ⟨hpt, cs8 rfl, P_X2_room hpt ?_⟩⟩)⟩)⟩
    · simp only [List.length_append, nmB_l, List.length_cons, List.length_nil]; omega
    · simp only [List.length_append, nmB_l, List.length_cons, List.length_nil]; omega
    have g4 := h4.hc g0
    obtain ⟨c0, c1, c2, c3, c4, c5, c6, c7, c8⟩ := g4.cp hpn
    have u4 : I4 (11 + 13 + 4 * p) 1 - I4 (11 + 13 + 4 * p) 6 + I4 (11 + 13 + 4 * p) 7 = rom S p := by
      rw [show I4 (11 + 13 + 4 * p) 1 = _ from c1, show I4 (11 + 13 + 4 * p) 6 = _ from c6, show I4 (11 + 13 + 4 * p) 7 = _ from c7]
      rfl
    show o_callV 1 4 w_X4_putNumber _ _ [.inl (I4 (11 + 13 + 4 * p) 1 - I4 (11 + 13 + 4 * p) 6 + I4 (11 + 13 + 4 * p) 7), .inr (.inr 346)] (I4, J)
    rw [u4]
    refine ⟨h346, cs8 rfl, P_X4_putNumber (v := rom S p) (by omega) h4 ?_ (fun I5 h5 => ⟨h346, cs8 rfl, P_X4_putPromisesOf (p := p) g0 hn hpn h5 ?_ (fun I6 h6 => ⟨h346, cs8 rfl, P_X4_put h6 ?_ (fun I7 h7 => ?_)⟩)⟩)⟩
    · simp only [List.length_append, nmB_l, List.length_cons, List.length_nil]; omega
    · simp only [List.length_append, nmB_l, List.length_cons, List.length_nil]; omega
    · simp only [List.length_append, nmB_l, List.length_cons, List.length_nil]; omega
    have key := ih (p + 1) I7 (by omega)
    refine key ?_
    show RK μ0 (I7, J) (rpL S p ++ lnB S p)
    unfold lnB
    simp only [List.append_assoc] at h7
    exact h7
theorem P_C_report {I : Mi} {T : TS} {t : Nat} (h : CT (I, J) T) (hT : TG t T) (hN : NG T) (hK : OY [] (oRpt T) K (fun _ _ => True) (I, J)) : w_X9_report [.inr (.inr 0)] (I, J) K := by
  have gd : Gd (tN T) := (OKs_b.mp hT.2.1).1
  have g0 : HC 11 (uM I 346 1 0, J) (tN T) := HC_fr h.2.2.1 (fun a g1 g2 => ⟨uM_r (by omega), rfl⟩)
  refine ⟨cs8 rfl, h0X, h0X, h346, cs8 rfl, ⟨cs8 rfl, h346, c_ci (st_i (L' := [hR4, some (.inr (.inr 11)), some (.inl ((0 : Nat) : Int))]) rfl (cport_lp (μ0 := (uM I 346 1 0, J)) g0 gd hN.1 (fun I' h' => ?_) (zN (tN T)) 0 _ (by omega) ⟨fun _ _ _ => rfl, fun _ _ => rfl, pS, AI_nil⟩))⟩⟩
  obtain ⟨r1, r2, r4, r5⟩ := h'
  have f : ∀ e, e ≠ 346 → e ≠ 347 → I' e = I e := fun e a b => (r1 e a b).trans (uM_r a)
  obtain ⟨a1, a2, a3, a4, a5, a6⟩ := h
  refine ⟨h0X, h346, ?_⟩
  show K (some (.inl (I' 346 1))) (I', J)
  rw [show I' 346 1 = _ from r4]
  obtain ⟨l, b1, b2, b3⟩ := a5.2.2
  have ff : ∀ a, (a < 346 ∨ 348 ≤ a) → I' a = I a := fun a ha => f a (by omega) (by omega)
  have m : ∀ e s, e + 37 ≤ 346 → HC e (I, J) s → HC e (I', J) s := fun e s he hs => HC_fr hs (fun a g1 g2 => ⟨ff a (by omega), rfl⟩)
  refine hK.k rfl ⟨⟨by show I' 1 1 = _; rw [ff 1 (by omega)]; exact a1.1, a1.2.1, a1.2.2.eq (ff 2 (by omega))⟩, ⟨by show I' 1 2 = _; rw [ff 1 (by omega)]; exact a2.1, by show I' 1 3 = _; rw [ff 1 (by omega)]; exact a2.2⟩, m 11 _ (by decide) a3, ?_, ⟨a5.1, by show I' 122 2 = _; rw [ff 122 (by omega)]; exact a5.2.1, l, b1, by show I' 122 1 = _; rw [ff 122 (by omega)]; exact b2, fun i s hs => m _ s (by omega) (b3 i s hs)⟩, ⟨r4, r5⟩⟩ (fun a ha => ⟨ff a (by omega), rfl⟩)
  show SY (I', J) (tS T)
  cases e : tS T with
  | none => rw [e] at a4; show I' 0 6 = 0; rw [ff 0 (by omega)]; exact a4
  | some s => rw [e] at a4; exact ⟨by show I' 0 6 = 1; rw [ff 0 (by omega)]; exact a4.1, m 85 s (by decide) a4.2⟩
theorem TG_rpt {t : Nat} {T : TS} (h : TG t T) (ht : t < 512) : TG (t + 1) (oRpt T).2 := h.up ht
theorem NG_rpt {T : TS} (h : NG T) : NG (oRpt T).2 := h
theorem TB_rpt {t : Nat} {T : TS} (hB : TB T) (hT : TG t T) (hN : NG T) : TB (oRpt T).2 := ⟨hB.1, hB.2.1, by
  have gd : Gd (tN T) := (OKs_b.mp hT.2.1).1
  have := rpL_l gd hN.1 (zN (tN T)) (Nat.le_refl _)
  have := gd.1.n6
  show (rpL (tN T) (zN (tN T))).length ≤ 2742
  omega⟩
end
