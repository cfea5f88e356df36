/-! PURE 91: stretches of a run: commands and repeats -/
section
variable {K : Option AV → MM → Prop} {μ0 : MM} {B : List Int} {S0 : AS} {A D : Int} {st : List (Nat × Int)} {e e' e2 : Nat} {E E' : List Cm}
theorem g34_cmd {I J : Mi} {p : Int} (t : TM (I, J) B e) (er : ErM (I, J) (0, p)) (h17 : I 348 17 = 0) (k1 : tkK (sc B e) = 1) (h : ∀ K', (∀ μ', Lp K μ' → K' none μ') → w_X10_readsCommand [.inr (.inr 348)] (I, J) K') : Lp K (I, J) := by
  have e8 : I 348 8 = (tkK (sc B e) : Int) := t.2.2.2.2.1
  refine lfp_in ⟨hM, cs8 rfl, P_X10_isGood er R32_0 (fun _ => ⟨R32_1, fun z => absurd z (by decide), fun _ => ⟨hM, t.kr, fun z => ?_, fun _ => ⟨hM, b01 (Or.inl h17), fun z => absurd h17 z, fun _ => ⟨hM, cs8 rfl, t.isSign er R32_0 ⟨by decide, by decide⟩ (fun _ k3 _ => absurd (k1.symm.trans k3) (by decide)) (fun _ => ⟨R32_0, fun _ => ⟨hM, cs8 rfl, h _ (fun μ' q => c_kil rfl q)⟩, fun z => absurd rfl z⟩)⟩⟩⟩⟩) (fun z => absurd rfl z)⟩
  have z : I 348 8 = 0 := z
  omega
theorem g34_cls {I J : Mi} {p : Int} (t : TM (I, J) B e) (er : ErM (I, J) (0, p)) (h17 : I 348 17 = 0) (k3 : tkK (sc B e) = 3 ∧ tkN (sc B e) = 41) (h : ∀ K' : Option AV → MM → Prop, (∀ μ', Lp K μ' → K' none μ') → w_X10_closesRepeat [.inr (.inr 348)] (I, J) (fun v μ' => K' v μ')) : Lp K (I, J) := by
  have e8 : I 348 8 = (tkK (sc B e) : Int) := t.2.2.2.2.1
  refine lfp_in ⟨hM, cs8 rfl, P_X10_isGood er R32_0 (fun _ => ⟨R32_1, fun z => absurd z (by decide), fun _ => ⟨hM, t.kr, fun z => ?_, fun _ => ⟨hM, b01 (Or.inl h17), fun z => absurd h17 z, fun _ => ⟨hM, cs8 rfl, t.isSign er R32_0 ⟨by decide, by decide⟩ (fun _ _ _ => ⟨R32_1, fun z => absurd z (by decide), fun _ => ⟨hM, cs8 rfl, h _ (fun μ' q => c_kil rfl q)⟩⟩) (fun z => absurd ⟨rfl, k3⟩ z)⟩⟩⟩⟩) (fun z => absurd rfl z)⟩
  have z : I 348 8 = 0 := z
  omega
theorem tk_v {t : Tk} (h : vrb t ≠ -1) : tkK t = 1 := by
  by_cases z : tkK t = 1
  · exact z
  · exact absurd (vrb_k z) h
theorem FE.tm {μ μ' : MM} (f : FE μ μ') (t : TM μ B e) : TM μ' B e := t.eq (fun j h5 h9 => f.2.2.1 j (by omega) (by omega)) (f.1 351 (by decide) (by decide)) (by rw [f.2.2.2])
theorem FE.er {μ μ' : MM} {x : Er} (f : FE μ μ') (h : ErM μ x) : ErM μ' x := ⟨(f.2.2.1 10 (by decide) (by decide)).trans h.1, (f.2.2.1 11 (by decide) (by decide)).trans h.2⟩
theorem n9q : ∀ k ∈ [6, 7, 8, 9], (6 ≤ k ∧ k < 12) ∨ (16 ≤ k ∧ k < 21) := by decide
theorem Seg_plain {e1 : Nat} {c : Cm} (hn : NM S0) (hA : A + 40 ≤ 30000) (hD0 : 10098 ≤ D) (hD : D + 3960 ≤ 3000000) (hst : st.length ≤ 2) (v : vrb (sc B e) ≠ -1) (v6 : vrb (sc B e) ≠ 6) (hc : pln B S0 (vrb (sc B e)).toNat (tkE (sc B e)) = .inr (e1, c)) (hs : sgn B e1 59 = .inr e') (ok : cOk S0 c) : Seg K μ0 B S0 A D st e e' [c] := by
  intro n S μ p kt kf
  obtain ⟨I, J⟩ := μ
  obtain ⟨⟨t, er⟩, ⟨q16, q17, q18, q20⟩, ⟨hn40, ⟨G, g⟩, oks, sm⟩, stk, fr⟩ := p
  have bnd1 : A + (n : Int) + 1 ≤ 30000 := by omega
  have bnd2 : D + 99 * (n : Int) + 99 ≤ 3000000 := by omega
  refine g34_cmd t er q17 (tk_v v) (fun K' hK' => rc_p2 t er q16 q18 hst v (fun z => absurd z v6) (B144_g t er g (sm.nm hn) (Or.inr q16) q17 q18 hst v (fun z => absurd z v6) (fun _ e2 c2 hc2 I' J' f t' => ?_) (fun x hx => ?_)))
  · rw [pln_sm sm, hc] at hc2
    cases hc2
    -- behind the sign
    have fin : ∀ μ1, TM μ1 B e1 → ErM μ1 (0, -1) → (∀ μ2, F9 [6, 7, 8, 9] μ1 μ2 → TM μ2 B e' → Lp K μ2) → K187 K' (lcC (sc B e)) none μ1 := fun μ1 t1 r1 h => k187 ⟨hM, cs8 rfl, sign_g (I := μ1.1) (J := μ1.2) t1 r1 ⟨by decide, by decide⟩ (fun e3 h3 I3 J3 f3 t3 => hK' _ (by rw [hs] at h3; cases h3; exact h _ f3 t3)) (fun x h3 => by rw [hs] at h3; cases h3)⟩
    refine TL_y (g.f9 f (by decide)) oks bnd1 bnd2 (ok.sm sm) (er.f9 f (by decide) (by decide)) ((f.2.1 16 (by decide)).trans q16) ((f.2.1 17 (by decide)).trans q17) ((f.2.1 20 (by decide)).trans q20) hn40 (fun S' hd μ1 G1 h1 fe c20 c17 => ?_) (fun hd μ1 G1 h1 fe c20 c17 => ?_)
    · refine fin μ1 (fe.tm t') (fe.er (er.f9 f (by decide) (by decide))) (fun μ2 f2 t2 => ?_)
      have F : FRR μ0 μ2 := fr.trans ((f.fq n9q).fr.trans (fe.fr.trans (f2.fq n9q).fr))
      have r2 : ErM μ2 (0, -1) := (fe.er (er.f9 f (by decide) (by decide))).f9 f2 (by decide) (by decide)
      have d20 : μ2.1 348 20 = (n : Int) + 1 := (f2.2.1 20 (by decide)).trans c20
      have h2 := h1.f9 f2 (by decide)
      by_cases z : n + 1 = 40
      · exact g34_o t2 r2 ((f2.2.1 17 (by decide)).trans (c17.trans (if_pos z))) (kt S' 40 (rn40_o hd z) μ2 ⟨⟨G1, h2⟩, F, by rw [d20]; omega, r2⟩)
      · obtain ⟨o1, o2⟩ := doC_ok oks (ok.sm sm) bnd1 (by omega) bnd2 hd
        refine kf S' (n + 1) (rn40_s hd z) μ2 ⟨⟨t2, r2⟩, ⟨?_, (f2.2.1 17 (by decide)).trans (c17.trans (if_neg z)), ?_, by rw [d20]; omega⟩, ⟨by omega, ⟨G1, h2⟩, o1.mono (by omega) (by omega), sm.trans o2⟩, ((stk.f9 f).fe fe).f9 f2, F⟩
        · exact (f2.2.1 16 (by decide)).trans ((fe.2.2.1 16 (by decide) (by decide)).trans ((f.2.1 16 (by decide)).trans q16))
        · exact (f2.2.1 18 (by decide)).trans ((fe.2.2.1 18 (by decide) (by decide)).trans ((f.2.1 18 (by decide)).trans q18))
    · refine fin μ1 (fe.tm t') (fe.er (er.f9 f (by decide) (by decide))) (fun μ2 f2 t2 => ?_)
      have F : FRR μ0 μ2 := fr.trans ((f.fq n9q).fr.trans (fe.fr.trans (f2.fq n9q).fr))
      have r2 : ErM μ2 (0, -1) := (fe.er (er.f9 f (by decide) (by decide))).f9 f2 (by decide) (by decide)
      exact g34_o t2 r2 ((f2.2.1 17 (by decide)).trans c17) (kt S n (rn40_n hd) μ2 ⟨⟨G1, h1.f9 f2 (by decide)⟩, F, (f2.2.1 20 (by decide)).trans c20, r2⟩)
  · have E0 : cmd2 B S e = .inr (.inr (e', c)) := (if_neg v6).trans ((bnd_r ((pln_sm sm _ _).trans hc)).trans (bnd_r hs))
    rw [E0] at hx
    cases hx
theorem rp_cm (E : List Cm) : ∀ m, rp (m + 1) E = E ++ rp m E := by
  intro m
  induction m with
  | zero => show [] ++ E = E ++ []; rw [List.append_nil]; rfl
  | succ m ih =>
    show rp (m + 1) E ++ E = E ++ (rp m E ++ E)
    rw [ih, List.append_assoc]
theorem rep_lp {q e3 : Nat} (hd : st.length ≤ 1) (hq : q ≤ B.length) (body : ∀ m, Seg K μ0 B S0 A D ((tkA (sc B q), m) :: st) q e2 E) (c : tkK (sc B e2) = 3 ∧ tkN (sc B e2) = 41) (hs : sgn B (tkE (sc B e2)) 59 = .inr e3) : ∀ (m n : Nat) (S : AS) (μ : MM), m < 30 → P2 μ0 B S0 A D ((tkA (sc B q), ((m + 1 : Nat) : Int)) :: st) q n S μ → (∀ S' n', rn40 (rp (m + 1) E) S n = (S', n', true) → ∀ μ', EN μ0 n' S' μ' → K none μ') → (∀ S' n', rn40 (rp (m + 1) E) S n = (S', n', false) → ∀ μ', P2 μ0 B S0 A D st e3 n' S' μ' → Lp K μ') → Lp K μ := by
  intro m
  induction m with
  | zero =>
    intro n S μ _ p kt kf
    refine body _ n S μ p (fun S' n' r => kt S' n' r) (fun S' n' r μ1 p1 => ?_)
    obtain ⟨I, J⟩ := μ1
    obtain ⟨⟨t, er⟩, ⟨q16, q17, q18, q20⟩, ⟨hn40, ⟨G, g⟩, oks, sm⟩, stk, fr⟩ := p1
    refine g34_cls t er q17 c (fun K' hK' => closes_h (m := ((0 + 1 : Nat) : Int)) er hd q18 stk.1.2 (Or.inr q16) (fun z => absurd (q16.symm.trans z) (by decide)) (fun _ => ⟨by show R32 (((0 + 1 : Nat) : Int) - 1); exact R32_0, fun _ => ?_, fun z => absurd z (by decide)⟩))
    refine closes_75 (t.arr (by decide)) ⟨(pE (by decide)).trans er.1, (pE (by decide)).trans er.2⟩ ((uM_e (by decide)).trans q18) (fun e' hs' I' J' f t' h => hK' _ ?_) (fun x hx => by rw [hs] at hx; cases hx)
    rw [hs] at hs'
    cases hs'
    have F : FPr _ _ (I, J) (I', J') := FPr.f9 f
    have fq := F.fq (by decide)
    exact kf S' n' r (I', J') ⟨⟨t', ⟨(F.2.1 10 (by decide)).trans er.1, (F.2.1 11 (by decide)).trans er.2⟩⟩, ⟨(F.2.1 16 (by decide)).trans q16, (F.2.1 17 (by decide)).trans q17, h, (F.2.1 20 (by decide)).trans q20⟩, ⟨hn40, ⟨G, g.fq fq⟩, oks, sm⟩, stk.2.eq st (fun j hj => ⟨by rw [F.1 352 (by decide) (by decide)], F.2.2.1 j (by omega)⟩), fr.trans fq.fr⟩
  | succ m ih =>
    intro n S μ hm p kt kf
    rw [rp_cm] at kt kf
    refine body _ n S μ p (fun S' n' r => kt S' n' (rn40_t r)) (fun S' n' r μ1 p1 => ?_)
    obtain ⟨I, J⟩ := μ1
    obtain ⟨⟨t, er⟩, ⟨q16, q17, q18, q20⟩, ⟨hn40, ⟨G, g⟩, oks, sm⟩, stk, fr⟩ := p1
    refine g34_cls t er q17 c (fun K' hK' => closes_h (m := ((m + 1 + 1 : Nat) : Int)) er hd q18 stk.1.2 (Or.inr q16) (fun z => absurd (q16.symm.trans z) (by decide)) (fun _ => ⟨⟨by omega, by omega⟩, fun z => absurd z (by omega), fun _ => ?_⟩))
    have e352 : I 352 (st.length + 1) = (tkA (sc B q) : Int) := stk.1.1
    rw [e352]
    have f0 : F9 [7] (uM I 353 (st.length + 1) (((m + 1 + 1 : Nat) : Int) - 1), J) (uM (uM I 353 (st.length + 1) (((m + 1 + 1 : Nat) : Int) - 1)) 348 7 (tkA (sc B q) : Int), J) := F9.put (by decide)
    have tb : TBm (uM (uM I 353 (st.length + 1) (((m + 1 + 1 : Nat) : Int) - 1)) 348 7 (tkA (sc B q) : Int), J) B := (t.arr (a := 353) (r := st.length + 1) (v := ((m + 1 + 1 : Nat) : Int) - 1) (by decide)).1.f9 (f0.mono (by decide))
    refine P_X10_scans (e := tkA (sc B q)) tb uM_s (by have := sc_facts t.1.2.2.2.1 hq; omega) (fun μ2 f2 t2 t3 => hK' _ ?_)
    rw [sc_at] at t3
    have F : FPr [6, 7, 8, 9] (st.length + 1) (I, J) μ2 := FPr.f9 ((f0.mono (by decide)).trans f2)
    have fq := F.fq (by decide)
    refine ih n' S' μ2 (by omega) ⟨⟨⟨t2, hq, t3⟩, ⟨(F.2.1 10 (by decide)).trans er.1, (F.2.1 11 (by decide)).trans er.2⟩⟩, ⟨(F.2.1 16 (by decide)).trans q16, (F.2.1 17 (by decide)).trans q17, (F.2.1 18 (by decide)).trans q18, (F.2.1 20 (by decide)).trans q20⟩, ⟨hn40, ⟨G, g.fq fq⟩, oks, sm⟩, ⟨⟨?_, ?_⟩, stk.2.eq st (fun j hj => ⟨by rw [F.1 352 (by decide) (by decide)], F.2.2.1 j (by omega)⟩)⟩, fr.trans fq.fr⟩ (fun S2 n2 r2 => kt S2 n2 ((rn40_f r).trans r2)) (fun S2 n2 r2 => kf S2 n2 ((rn40_f r).trans r2))
    · rw [F.1 352 (by decide) (by decide)]; exact e352
    · rw [f2.1 353 (by decide)]
      show uM (uM I 353 (st.length + 1) (((m + 1 + 1 : Nat) : Int) - 1)) 348 7 (tkA (sc B q) : Int) 353 (st.length + 1) = ((m + 1 : Nat) : Int)
      rw [uM_e (by decide), uM_s]
      omega
end
