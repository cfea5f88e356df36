/-! PURE 96: the model's report, in whole -/
section
variable {μ0 : MM} {J : Mi} {K : Option AV → MM → Prop} {S : AS} {G : List (Nat × Pkt)}
theorem RM.hg {μ : MM} {out : List Int} (h : RM μ0 μ out) (g : HG 0 μ0 S G) : HG 0 μ S G := g.cong (h.2.1 3 (by decide)) (h.1 349 (by decide) (by decide)) (by rw [h.2.2.1])
theorem drop_s {α : Type} {l : List α} {i : Nat} {r : α} (h : l[i]? = some r) : l.drop i = r :: l.drop (i + 1) := by
  obtain ⟨hi, e⟩ := List.getElem?_eq_some_iff.mp h
  rw [List.drop_eq_getElem_cons hi, e]
theorem HG.nm {b : Nat} {I J : Mi} (h : HG b (I, J) S G) {p : Nat} (hp : p < zN S) : J 350 (6 * b + p) = pk5 (zM S p) := h.2.2.2.2.2.1 p hp
theorem P_X10_nm {I : Mi} {x : Int} {p : Nat} (g : HG 0 (I, J) S G) (hx : x = p) (hp : p < zN S) (hK : K (some (.inr (.inl (pk5 (zM S p))))) (I, J)) : w_X10_name [.inr (.inr 348), .inl x] (I, J) K := by
  have h6 := g.2.2.1.n6
  refine P_X10_name 0 p g.1 hx g.2.1 (by omega) ?_
  show K (some (.inr (.inl (J 350 (6 * 0 + p))))) (I, J)
  rw [g.nm hp]
  exact hK
theorem P_X10_mw {I : Mi} {x y : Int} {i j : Nat} {m : Prm} (g : HG 0 (I, J) S G) (hm : (zR S)[i]? = some m) (hx : x = i) (hy : y = j) (hj : j < 4) (hK : K (some (.inl (mw m j))) (I, J)) : w_X10_m [.inr (.inr 348), .inl x, .inl y] (I, J) K := by
  have hl := g.2.2.1.pmn
  have hi := (List.getElem?_eq_some_iff.mp hm).1
  refine P_X10_m i j g.1 hx hy (by omega) ?_
  rw [g.pm hm hj]
  exact hK
theorem rprm_lp {K12 : PT} {p : Nat} (g0 : HG 0 μ0 S G) (hn : NM S) (hp : p < zN S) : ∀ (k i : Nat) (I : Mi) (out : List Int), i + k = (zR S).length → RM μ0 (I, J) out → out.length + (lnP S p ((zR S).drop i)).length + 1 ≤ 2742 → (∀ I', RM μ0 (I', J) (out ++ (lnP S p ((zR S).drop i) ++ [10])) → K12 [some (.inr (.inr 348)), some (.inl ((p : Int) + 1)), none] [] (I', J)) → B_X10_report_62 K K12 [some (.inr (.inr 348)), some (.inl (p : Int)), some (.inl (i : Int))] [] (I, J) := by
  have hl := g0.2.2.1.pmn
  intro k
  induction k with
  | zero =>
    intro i I out hi h hb hK
    have g := h.hg g0
    rw [List.drop_of_length_le (by omega)] at hb hK
    refine lfp_in ⟨hM, cs8 rfl, g.ofo 6 rfl (by decide) ⟨⟨by omega, by omega⟩, by show R32 ((zR S).length : Int); exact ⟨by omega, by omega⟩, fun _ => ⟨hM, cs8 rfl, P_X10_writes h (by show out.length + 1 ≤ 2742; exact hb) (fun I' h' => c_kil rfl (hK I' h'))⟩, fun z => absurd (show ((zR S).length : Int) ≤ (i : Int) by omega) z⟩⟩
  | succ k ih =>
    intro i I out hi h hb hK
    have g := h.hg g0
    obtain ⟨r, hr⟩ : ∃ r, (zR S)[i]? = some r := ⟨(zR S)[i]'(by omega), List.getElem?_eq_getElem (by omega)⟩
    have hmr := g.2.2.1.pmr (List.mem_of_getElem? hr)
    have h6 := g.2.2.1.n6
    rw [drop_s hr] at hb hK
    have hb : out.length + (prO S p r ++ lnP S p ((zR S).drop (i + 1))).length + 1 ≤ 2742 := hb
    have hK : ∀ I', RM μ0 (I', J) (out ++ ((prO S p r ++ lnP S p ((zR S).drop (i + 1))) ++ [10])) → K12 [some (.inr (.inr 348)), some (.inl ((p : Int) + 1)), none] [] (I', J) := hK
    rw [List.length_append] at hb
    have nxt : ∀ I', RM μ0 (I', J) (out ++ prO S p r) → B_X10_report_121 K K12 (B_X10_report_62 K K12) [some (.inr (.inr 348)), some (.inl (p : Int)), some (.inl (i : Int))] [] (I', J) := fun I' h' => by
      have key := ih (i + 1) I' (out ++ prO S p r) (by omega) h' (by rw [List.length_append]; omega) (fun I2 h2 => hK I2 (by rw [List.append_assoc, ← List.append_assoc (prO S p r)] at h2; exact h2))
      exact key
    refine lfp_in ⟨hM, cs8 rfl, g.ofo 6 rfl (by decide) ⟨⟨by omega, by omega⟩, by show R32 ((zR S).length : Int); exact ⟨by omega, by omega⟩, fun z => absurd (show ((zR S).length : Int) ≤ (i : Int) from z) (by omega), fun _ => ⟨hM, cs8 rfl, P_X10_mw (j := 0) g hr rfl rfl (by decide) ⟨?_, ?_, fun z => ?_, fun z => ?_⟩⟩⟩⟩
    · show R32 (r.1 : Int); exact ⟨by omega, by omega⟩
    · exact ⟨by omega, by omega⟩
    · have z : (r.1 : Int) = (p : Int) := z
      have e : prO S p r = [32] ++ (nmB (zM S r.2.1) ++ ([58] ++ nb r.2.2.1)) := if_pos (by omega)
      rw [e] at hb nxt
      simp only [List.length_append, nmB_l, List.length_cons, List.length_nil] at hb
      refine ⟨hM, cs8 rfl, P_X10_writes h (by omega) (fun I1 h1 => ⟨hM, cs8 rfl, P_X10_mw (j := 1) (h1.hg g0) hr rfl rfl (by decide) ⟨hM, cs8 rfl, P_X10_nm (p := r.2.1) (h1.hg g0) rfl hmr.2.1 ⟨hM, cs8 rfl, P_X10_writesName (hn _ hmr.2.1) h1 ?_ (fun I2 h2 => ⟨hM, cs8 rfl, P_X10_writes h2 ?_ (fun I3 h3 => ⟨hM, cs8 rfl, P_X10_mw (j := 2) (h3.hg g0) hr rfl rfl (by decide) ⟨hM, cs8 rfl, P_X10_writesNumber (v := r.2.2.1) (by omega) h3 ?_ (fun I4 h4 => nxt I4 ?_)⟩⟩)⟩)⟩⟩⟩)⟩
      · simp only [List.length_append, nmB_l, List.length_cons, List.length_nil]; omega
      · simp only [List.length_append, nmB_l, List.length_cons, List.length_nil]; omega
      · simp only [List.length_append, nmB_l, List.length_cons, List.length_nil]; omega
      · simp only [List.append_assoc] at h4
        exact h4
    · have e : prO S p r = [] := if_neg (fun y => z (by show (r.1 : Int) = (p : Int); rw [y]))
      rw [e, List.append_nil] at nxt
      exact nxt I h
theorem rport_lp (g0 : HG 0 μ0 S G) (gd : Gd S) (hn : NM S) (hK : ∀ I', RM μ0 (I', J) (rpL S (zN S)) → K (some (.inl ((rpL S (zN S)).length : Int))) (I', J)) : ∀ (k p : Nat) (I : Mi), p + k = zN S → RM μ0 (I, J) (rpL S p) → B_X10_report_12 K [some (.inr (.inr 348)), some (.inl (p : Int)), none] [] (I, J) := by
  have h6 := g0.2.2.1.n6
  intro k
  induction k with
  | zero =>
    intro p I hp h
    have g := h.hg g0
    have e : p = zN S := by omega
    subst e
    refine lfp_in ⟨hM, cs8 rfl, g.ofo 0 rfl (by decide) ⟨⟨by omega, by omega⟩, by show R32 (zN S : Int); exact ⟨by omega, by omega⟩, fun _ => ⟨hM, ?_⟩, fun z => absurd (Int.le_refl _) z⟩⟩
    show K (some (.inl (I 348 24))) (I, J)
    rw [show I 348 24 = _ from h.2.2.2.1]
    exact hK I h
  | succ k ih =>
    intro p I hp h
    have g := h.hg g0
    have hpn : p < zN S := by omega
    have hr := gd.rom hpn
    have hl := rpL_l gd hn (p + 1) (by omega)
    have hl : (rpL S p ++ lnB S p).length ≤ 457 * (p + 1) := hl
    rw [List.length_append] at hl
    have el : (lnB S p).length = (zM S p).length + (1 + ((nb (usd S p)).length + (1 + ((nb (rom S p)).length + ((lnP S p (zR S)).length + 1))))) := by
      unfold lnB
      simp only [List.length_append, nmB_l, List.length_cons, List.length_nil]
    refine lfp_in ⟨hM, cs8 rfl, g.ofo 0 rfl (by decide) ⟨⟨by omega, by omega⟩, by show R32 (zN S : Int); exact ⟨by omega, by omega⟩, fun z => absurd (show (zN S : Int) ≤ (p : Int) from z) (by omega), fun _ => ?_⟩⟩
    refine ⟨hM, cs8 rfl, P_X10_nm g rfl hpn ⟨hM, cs8 rfl, P_X10_writesName (hn p hpn) h (by omega) (fun I1 h1 => ⟨hM, cs8 rfl, P_X10_writes h1 ?_ (fun I2 h2 => ⟨hM, cs8 rfl, P_X10_usedBy p (h2.hg g0) rfl hpn ⟨hM, cs8 rfl, P_X10_writesNumber (v := usd S p) (by omega) h2 ?_ (fun I3 h3 => ⟨hM, cs8 rfl, P_X10_writes h3 ?_ (fun I4 h4 => ⟨hM, cs8 rfl, P_X10_roomOf p (h4.hg g0) rfl hpn ⟨hM, cs8 rfl, P_X10_writesNumber (v := rom S p) (by omega) h4 ?_ (fun I5 h5 => c_ci (st_i (L' := [some (.inr (.inr 348)), some (.inl (p : Int)), some (.inl ((0 : Nat) : Int))]) rfl (rprm_lp (p := p) g0 hn hpn (zR S).length 0 I5 _ (by omega) h5 ?_ (fun I6 h6 => ?_))))⟩⟩)⟩)⟩⟩)⟩)⟩⟩
    · simp only [List.length_append, nmB_l, List.length_cons, List.length_nil]; omega
    · simp only [List.length_append, nmB_l, List.length_cons, List.length_nil]; omega
    · simp only [List.length_append, nmB_l, List.length_cons, List.length_nil]; omega
    · simp only [List.length_append, nmB_l, List.length_cons, List.length_nil]; omega
    · rw [List.drop_zero]
      simp only [List.length_append, nmB_l, List.length_cons, List.length_nil]; omega
    · rw [List.drop_zero] at h6
      have key := ih (p + 1) I6 (by omega)
      refine key ?_
      show RM μ0 (I6, J) (rpL S p ++ lnB S p)
      unfold lnB
      simp only [List.append_assoc] at h6
      exact h6
theorem P_M_report {I : Mi} {T : TS} {t : Nat} (h : MT (I, J) T) (hT : TG t T) (hN : NG T) (hK : OM (oRpt T) K (I, J)) : w_X10_report [.inr (.inr 348)] (I, J) K := by
  obtain ⟨G, g⟩ := h.hg
  have gd : Gd (tN T) := (OKs_b.mp hT.2.1).1
  have g0 : HG 0 (uM (uM I 348 0 0) 348 24 0, J) (tN T) G := g.cong (by show uM (uM I 348 0 0) 348 24 0 348 3 = _; rw [uM_k (by decide), uM_k (by decide)]) (by show uM (uM I 348 0 0) 348 24 0 349 = _; rw [uM_r (by decide), uM_r (by decide)]) rfl
  refine ⟨cs8 rfl, hM, hM, c_ci (st_i (L' := [some (.inr (.inr 348)), some (.inl ((0 : Nat) : Int)), none]) rfl (c_kil rfl (rport_lp (μ0 := (uM (uM I 348 0 0) 348 24 0, J)) g0 gd hN.1 (fun I' h' => ?_) (zN (tN T)) 0 _ (by omega) ⟨fun _ _ _ => rfl, fun _ _ => rfl, rfl, pS, AI_nil⟩)))⟩
  obtain ⟨r1, r2, r3, r4, r5⟩ := h'
  have f : ∀ e, e ≠ 348 → e ≠ 354 → I' e = I e := fun e a b => (r1 e a b).trans ((uM_r a).trans (uM_r a))
  have k : ∀ j, j ≠ 24 → j ≠ 0 → I' 348 j = I 348 j := fun j a b => (r2 j a).trans ((pK a).trans (uM_k b))
  obtain ⟨a1, a2, a3, a4, a5, a6, a7⟩ := h
  have m : ∀ b s, MB b (I, J) s → MB b (I', J) s := fun b s hs => hs.eq (f 349 (by decide) (by decide)) rfl
  refine hK.k rfl ⟨(k 3 (by decide) (by decide)).trans a1, m 0 _ a2, ⟨(k 5 (by decide) (by decide)).trans a3.1, a3.2.1, a3.2.2.eq (f 351 (by decide) (by decide))⟩, ⟨(k 10 (by decide) (by decide)).trans a4.1, (k 11 (by decide) (by decide)).trans a4.2⟩, ?_, ⟨(k 15 (by decide) (by decide)).trans a6.1, a6.2.f (fun b s _ hs => m b s hs)⟩, ⟨r4, r5⟩⟩ ((r2 0 (by decide)).trans ((pK (by decide)).trans uM_s)) ⟨fun e he => f e (by omega) (by omega), fun e he => rfl⟩
  show SB (I', J) (tS T)
  cases e : tS T with
  | none => rw [e] at a5; exact (k 25 (by decide) (by decide)).trans a5
  | some s => rw [e] at a5; exact ⟨(k 25 (by decide) (by decide)).trans a5.1, m 1 s a5.2⟩
end
