/-! PURE 93: runScript of the model -/
section
variable {I J : Mi} {K : Option AV → MM → Prop}
theorem goes_h {B : List Int} {v : Int} (tb : TBm (I, J) B) (er : ErM (I, J) (0, -1)) (hv : v = 0 ∨ v = 1) (h : ∀ μ', FQ (I, J) μ' → TM μ' B 0 → ErM μ' (0, -1) → μ'.1 348 16 = v → μ'.1 348 17 = 0 → μ'.1 348 18 = 0 → μ'.1 348 19 = 0 → μ'.1 348 20 = 0 → Lp K μ') : w_X10_goes [.inr (.inr 348), .inl v] (I, J) K := by
  have f0 : F9 [16, 17, 18, 19, 20, 7] (I, J) (uM (uM (uM (uM (uM (uM I 348 16 v) 348 17 0) 348 18 0) 348 19 0) 348 20 0) 348 7 0, J) := (F9.put (ks := [16, 17, 18, 19, 20, 7]) (by decide)).trans ((F9.put (by decide)).trans ((F9.put (by decide)).trans ((F9.put (by decide)).trans ((F9.put (by decide)).trans (F9.put (by decide))))))
  have c16 : uM (uM (uM (uM (uM (uM I 348 16 v) 348 17 0) 348 18 0) 348 19 0) 348 20 0) 348 7 0 348 16 = v := by rw [uM_k (by decide), uM_k (by decide), uM_k (by decide), uM_k (by decide), uM_k (by decide), uM_s]
  have c17 : uM (uM (uM (uM (uM (uM I 348 16 v) 348 17 0) 348 18 0) 348 19 0) 348 20 0) 348 7 0 348 17 = 0 := by rw [uM_k (by decide), uM_k (by decide), uM_k (by decide), uM_k (by decide), uM_s]
  have c18 : uM (uM (uM (uM (uM (uM I 348 16 v) 348 17 0) 348 18 0) 348 19 0) 348 20 0) 348 7 0 348 18 = 0 := by rw [uM_k (by decide), uM_k (by decide), uM_k (by decide), uM_s]
  have c19 : uM (uM (uM (uM (uM (uM I 348 16 v) 348 17 0) 348 18 0) 348 19 0) 348 20 0) 348 7 0 348 19 = 0 := by rw [uM_k (by decide), uM_k (by decide), uM_s]
  have c20 : uM (uM (uM (uM (uM (uM I 348 16 v) 348 17 0) 348 18 0) 348 19 0) 348 20 0) 348 7 0 348 20 = 0 := by rw [uM_k (by decide), uM_s]
  have c7 : uM (uM (uM (uM (uM (uM I 348 16 v) 348 17 0) 348 18 0) 348 19 0) 348 20 0) 348 7 0 348 7 = 0 := uM_s
  refine ⟨cs8 rfl, hM, hv, hM, Or.inl rfl, hM, hM, hM, hM, hM, cs8 rfl, ?_⟩
  generalize uM (uM (uM (uM (uM (uM I 348 16 v) 348 17 0) 348 18 0) 348 19 0) 348 20 0) 348 7 0 = X at *
  have tb2 : TBm (X, J) B := ⟨(f0.2.1 5 (by decide)).trans tb.1, tb.2.1, tb.2.2.1.eq (f0.1 351 (by decide)), tb.2.2.2.1, by show R32 (X 348 9); rw [show X 348 9 = I 348 9 from f0.2.1 9 (by decide)]; exact tb.2.2.2.2⟩
  refine P_X10_scans (e := 0) tb2 c7 (Nat.zero_le _) (fun μ1 f1 t1 t2 => c_kil rfl ?_)
  exact h μ1 ((f0.fq (by decide)).trans (f1.fq n9q)) ⟨t1, Nat.zero_le _, t2⟩ ((er.f9 f0 (by decide) (by decide)).f9 f1 (by decide) (by decide)) ((f1.2.1 16 (by decide)).trans c16) ((f1.2.1 17 (by decide)).trans c17) ((f1.2.1 18 (by decide)).trans c18) ((f1.2.1 19 (by decide)).trans c19) ((f1.2.1 20 (by decide)).trans c20)
theorem MB.frr {b : Nat} {μ μ' : MM} {s : AS} (h : MB b μ s) (f : FRR μ μ') (hb : b ≠ 0) : MB b μ' s := h.tr (fun k _ => f.2.1 _ (by omega)) (fun k _ => by rw [f.2.2.2 350 (by decide)])
theorem MB.fq {b : Nat} {μ μ' : MM} {s : AS} (h : MB b μ s) (f : FQ μ μ') : MB b μ' s := h.eq (f.1 349 (by decide) (by decide) (by decide)) (f.2.2 350 (by decide))
theorem FRR.fx {μ μ' : MM} (f : FRR μ μ') : FX μ μ' := ⟨fun e he => f.1 e (by omega) (by omega) (by omega) (by omega), fun e he => f.2.2.2 e (by omega)⟩
theorem MT.frr {μ μ' : MM} {T : TS} {S : AS} {x : Er} (h : MT μ T) (f : FRR μ μ') (h0 : MB 0 μ' S) (er : ErM μ' x) : MT μ' (seB (seN T S (tH T)) (tB T) x.1 x.2) := by
  obtain ⟨a1, a2, a3, a4, a5, a6, a7⟩ := h
  refine ⟨(f.2.2.1 3 (by omega)).trans a1, h0, ⟨(f.2.2.1 5 (by omega)).trans a3.1, a3.2.1, a3.2.2.eq (f.1 351 (by decide) (by decide) (by decide) (by decide))⟩, er, ?_, ⟨(f.2.2.1 15 (by omega)).trans a6.1, a6.2.f (fun b s hb hs => hs.frr f (by omega))⟩, ⟨(f.2.2.1 24 (by omega)).trans a7.1, a7.2.eq (f.1 354 (by decide) (by decide) (by decide) (by decide))⟩⟩
  show SB μ' (tS T)
  cases e : tS T with
  | none => rw [e] at a5; exact (f.2.2.1 25 (by omega)).trans a5
  | some s => rw [e] at a5; exact ⟨(f.2.2.1 25 (by omega)).trans a5.1, a5.2.frr f (by decide)⟩
theorem MT.len {T : TS} (h : MT (I, J) T) : MT (uM I 348 5 0, J) (seB T [] (tE T) (tW T)) := h.txt (fun e he _ => uM_r he) (fun _ => rfl) (fun j hj => uM_k (by omega)) ⟨pS, by show ([] : List Int).length ≤ 600; decide, AI_nil⟩ ⟨(pK (by decide)).trans h.2.2.2.1.1, (pK (by decide)).trans h.2.2.2.1.2⟩
theorem P_M_runScript {t : Nat} {T : TS} (h : MT (I, J) T) (hT : TG t T) (ht : t < 512) (hB : TB T) (hN : NG T) (h9 : R32 (I 348 9)) (hK : OM (oScr T) K (I, J)) : w_X10_runScript [.inr (.inr 348)] (I, J) K := by
  have tb := h.tbm hB h9
  refine ⟨cs8 rfl, hM, cs8 rfl, P_X10_starts (fun μ1 f1 _ er1 _ => ?_)⟩
  have F1 : FQ (I, J) μ1 := f1.fq (by decide)
  have tb1 : TBm μ1 (tB T) := ⟨(f1.2.1 5 (by decide)).trans tb.1, tb.2.1, tb.2.2.1.eq (f1.1 351 (by decide)), tb.2.2.2.1, by rw [f1.2.1 9 (by decide)]; exact h9⟩
  obtain ⟨G, g⟩ := h.hg
  have h0 : MB 0 (I, J) (tN T) := h.2.1
  refine ⟨hM, cs8 rfl, goes_h (I := μ1.1) (J := μ1.2) tb1 er1 (Or.inl rfl) (fun μ2 f2 t2 er2 c16 c17 c18 c19 _ => ?_)⟩
  have F2 : FQ (I, J) μ2 := F1.trans f2
  have hl := tb.2.1
  refine goes1_lp hN.1 601 0 0 [] [] μ2.1 μ2.2 (by omega) (by show (0 : Nat) ≤ 2; decide) (by decide) ⟨t2, er2, c16, c17, c18, c19⟩ (g.fq F2) (fun L hr I3 J3 f3 er3 tb3 => ?_) (fun x hr I3 J3 f3 b => ?_)
  · -- good
    have F3 : FQ (I, J) (I3, J3) := F2.trans f3
    have m3 := h.frr F3.fr (h0.fq F3) er3
    refine ⟨hM, cs8 rfl, P_X10_isGood er3 R32_0 (fun _ => st_i (L' := [some (.inr (.inr 348)), some (.inl 1)]) rfl ⟨R32_1, fun z => absurd z (by decide), fun _ => ⟨hM, cs8 rfl, P_X10_remembers ?_⟩⟩) (fun z => absurd rfl z)⟩
    have hcp : F8 [] (I3, J3) (cpI I3 0 3 2080, cpJ J3 0 3 6) := F8.cp
    have k3 : MB 3 (cpI I3 0 3 2080, cpJ J3 0 3 6) (tN T) := MB.cp m3.2.1
    have h15 : cpI I3 0 3 2080 348 15 = (tH T).length := (hcp.2.1 15 (fun z => by cases z)).trans m3.2.2.2.2.2.1.1
    have hH : HB (cpI I3 0 3 2080, cpJ J3 0 3 6) (tH T) := m3.2.2.2.2.2.1.2.f (fun b s hb hs => MB.cpo (f := 0) hs (by omega))
    refine ⟨hM, cs8 rfl, P_X10_keeps h15 hH k3 (fun I4 J4 f4 g4 d15 dH => ?_)⟩
    have f8 : F8 [15] (I3, J3) (I4, J4) := (hcp.mono (fun k hk => by cases hk)).trans f4
    have h34 : I4 348 3 = 0 := (f8.2.1 3 (by decide)).trans m3.1
    have m4 : MT (I4, J4) _ := m3.step f8 (fun k hk => Or.inr (Or.inr (List.mem_singleton.mp hk))) h34 (g4 0 (tN T) (by decide) (MB.cpo (f := 0) m3.2.1 (by decide))) (fun s hs => g4 1 s (by decide) (MB.cpo (f := 0) hs (by decide))) d15 dH
    have tb4 : TBm (I4, J4) (tB T) := ⟨(f8.2.1 5 (by decide)).trans tb3.1, tb3.2.1, tb3.2.2.1.eq (f8.1 351 (by decide) (by decide)), tb3.2.2.2.1, by show R32 (I4 348 9); rw [show I4 348 9 = I3 348 9 from f8.2.1 9 (by decide)]; exact tb3.2.2.2.2⟩
    have er4 : ErM (I4, J4) (0, -1) := m4.2.2.2.1
    obtain ⟨t1, t2', -, -⟩ := hT
    have ok : OKb (41 * (t : Int)) (20000 + 4100 * (t : Int)) (tN T) := OKs_b.mp t2'
    refine ⟨hM, cs8 rfl, goes_h tb4 er4 (Or.inr rfl) (fun μ5 f5 t5 er5 e16 e17 e18 _ e20 => ?_)⟩
    obtain ⟨G4, g4'⟩ := m4.hg
    refine run_lp (μ0 := μ5) hB.1 hN.1 (A := 41 * (t : Int)) (D := 20000 + 4100 * (t : Int)) (by omega) (by omega) (by omega) hr ⟨⟨t5, er5⟩, ⟨e16, e17, e18, e20⟩, ⟨by decide, ⟨G4, g4'.fq f5⟩, ok.mono (by omega) (by omega), SM.refl⟩, trivial, FRR.refl⟩ (fun μ6 en => ?_)
    obtain ⟨⟨G6, g6⟩, f6, h20, er6⟩ := en
    obtain ⟨I6, J6⟩ := μ6
    have m6 := (m4.frr (f5.fr.trans f6) g6.mb er6).len
    have FF : FX (I, J) (I6, J6) := F3.fr.fx.trans (f8.fx.trans ((f5.fr.trans f6).fx))
    refine ⟨hM, ⟨R32_1, fun z => absurd z (by decide), fun _ => c_ci ⟨hM, R32_1, fun z => absurd z (by decide), fun _ => ⟨hM, c_kil rfl ?_⟩⟩⟩⟩
    show K (some (.inl (uM (uM I6 348 5 0) 348 0 0 348 20))) _
    rw [uM_k (by decide), uM_k (by decide), show I6 348 20 = _ from h20]
    exact hK.k (oScr_r hr) (m6.thr 0) t348 (FF.trans (FX.put.trans FX.put))
  · -- an error
    have F3 : FQ (I, J) (I3, J3) := F2.trans f3
    have m3 := (h.frr F3.fr (h0.fq F3) b.1).len
    refine ⟨hM, cs8 rfl, P_X10_isGood b.1 b.2.1 (fun y => absurd y b.2.2.1) (fun _ => st_i (L' := [some (.inr (.inr 348)), some (.inl 0)]) rfl ⟨R32_0, fun _ => ⟨hM, ⟨R32_0, fun _ => c_ci ⟨hM, R32_0, fun _ => c_ci (c_kil rfl ?_), fun z => absurd rfl z⟩, fun z => absurd rfl z⟩⟩, fun z => absurd rfl z⟩)⟩
    exact hK.k (oScr_l hr) (m3.thr 1) t348 (F3.fr.fx.trans (FX.put.trans FX.put))
end
