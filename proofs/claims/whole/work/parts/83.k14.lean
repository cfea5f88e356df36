/-! PURE 71: the model reads statements -/
/-- behind the name of a port, which is the token at e -/
def rdL (B : List Int) (e : Nat) (S : AS) (w : List Nat) : Er ⊕ (Nat × AS) := bnd (num B (tkE (sc B e)) 0 40) (fun x => bnd (num B x.2 0 9) (fun y => if isw (sc B y.2) 1 then bnd (num B (tkE (sc B y.2)) 0 40) (fun z => .inr (z.2, adP S w x.1 y.1 z.1)) else .inr (y.2, adP S w x.1 y.1 0)))
theorem rp93_g {I J : Mi} {K : Option AV → MM → Prop} {B : List Int} {e : Nat} {S : AS} {w : List Nat} {p ht hk : Int} (t : TM (I, J) B e) (er : ErM (I, J) (0, p)) (r : MD (I, J) S ht hk) (hn : zN S < 6) (hw : wOk w) (hnm : J 350 (12 + zN S) = pk5 w) (k1 : ∀ e' S', rdL B e S w = .inr (e', S') → ∀ I' J', F2M (I, J) (I', J') → TM (I', J') B e' → ErM (I', J') (0, p) → MD (I', J') S' ht hk → K none (I', J')) (k0 : ∀ x, rdL B e S w = .inl x → ∀ I' J' e', F2M (I, J) (I', J') → TM (I', J') B e' → ErM (I', J') x → R32 x.1 → x.1 ≠ 0 → K none (I', J')) : B_X10_readsPort_93 K [some (.inr (.inr 348)), some (.inl (zN S : Int)), none, none, none] [] (I, J) := by
  have hB := t.1.2.2.2.1
  have n9 : ∀ k ∈ [6, 7, 8, 9], 6 ≤ k ∧ k < 15 := by decide
  have n11 : ∀ k ∈ [6, 7, 8, 9, 10, 11], 6 ≤ k ∧ k < 15 := by decide
  refine ⟨hM, cs8 rfl, M_scan t (fun I1 J1 f1 t1 => ?_)⟩
  have er1 := er.f9 f1 (by decide) (by decide)
  have r1 := r.f9 f1 (by decide)
  have F1a := f1.f2 n9
  refine ⟨hM, cs8 rfl, reads_g t1 er1 R32_0 ⟨by decide, by decide⟩ (fun sh e2 hx I2 J2 f2 t2 => ?_) (fun x hx I2 J2 f2 t2 er2 hb hr => ?_)⟩
  rotate_left
  · exact st_i (L' := [some (.inr (.inr 348)), some (.inl (zN S : Int)), some (.inl 0), none, none]) rfl (rp_b_b t2 er2 hr hb (fun I3 J3 e3 f3 t3 er3 => k0 x (bnd_l hx) I3 J3 e3 (F1a.trans ((f2.f2 n11).trans (f3.f2 n9))) t3 er3 hr hb))
  obtain ⟨x1, x2, x3, x4, x5, x6⟩ := num_r hB t1.2.1 hx
  have er2 := er1.f9 f2 (by decide) (by decide)
  have r2 := r1.f9 f2 (by decide)
  have F2a := F1a.trans (f2.f2 n9)
  refine st_i (L' := [some (.inr (.inr 348)), some (.inl (zN S : Int)), some (.inl sh), none, none]) rfl ⟨hM, cs8 rfl, reads_g t2 er2 R32_0 ⟨by decide, by decide⟩ (fun rt e3 hy I3 J3 f3 t3 => ?_) (fun x hy I3 J3 f3 t3 er3 hb hr => ?_)⟩
  rotate_left
  · exact st_i (L' := [some (.inr (.inr 348)), some (.inl (zN S : Int)), some (.inl sh), some (.inl 0), none]) rfl (st_i (L' := [some (.inr (.inr 348)), some (.inl (zN S : Int)), some (.inl sh), some (.inl 0), some (.inl 0)]) rfl (rp_c_b t3 er3 hr hb (k0 x ((bnd_r hx).trans (bnd_l hy)) I3 J3 _ (F2a.trans (f3.f2 n11)) t3 er3 hr hb)))
  obtain ⟨y1, y2, y3, y4, y5, y6⟩ := num_r hB x4 hy
  have er3 := er2.f9 f3 (by decide) (by decide)
  have r3 := r2.f9 f3 (by decide)
  have F3a := F2a.trans (f3.f2 n9)
  have E0 : rdL B e S w = if isw (sc B e3) 1 then bnd (num B (tkE (sc B e3)) 0 40) (fun z => .inr (z.2, adP S w sh rt z.1)) else .inr (e3, adP S w sh rt 0) := (bnd_r hx).trans (bnd_r hy)
  have hn3 : J3 350 (12 + zN S) = pk5 w := by
    have : J3 350 = J 350 := ((f3.2.2 350 (by decide)).trans (f2.2.2 350 (by decide))).trans (f1.2.2 350 (by decide))
    rw [this]; exact hnm
  refine st_i (L' := [some (.inr (.inr 348)), some (.inl (zN S : Int)), some (.inl sh), some (.inl rt), none]) rfl (st_i (L' := [some (.inr (.inr 348)), some (.inl (zN S : Int)), some (.inl sh), some (.inl rt), some (.inl 0)]) rfl ⟨hM, cs8 rfl, t3.isWord er3 R32_0 1 (by decide) rfl (fun _ z => ⟨⟨by omega, by omega⟩, fun y => absurd y (by decide), fun _ => ?_⟩) (fun z => ⟨⟨by omega, by omega⟩, fun _ => ?_, fun y => absurd rfl y⟩)⟩)
  · have E0 := E0.trans (if_pos z)
    refine ⟨hM, cs8 rfl, M_scan t3 (fun I4 J4 f4 t4 => ?_)⟩
    have er4 := er3.f9 f4 (by decide) (by decide)
    have r4 := r3.f9 f4 (by decide)
    have F4a := F3a.trans (f4.f2 n9)
    refine ⟨hM, cs8 rfl, reads_g t4 er4 R32_0 ⟨by decide, by decide⟩ (fun f e5 hz I5 J5 f5 t5 => ?_) (fun x hz I5 J5 f5 t5 er5 hb hr => ?_)⟩
    · obtain ⟨z1, z2, z3, z4, z5, z6⟩ := num_r hB t4.2.1 hz
      have er5 := er4.f9 f5 (by decide) (by decide)
      have r5 := r4.f9 f5 (by decide)
      have F5a := F4a.trans (f5.f2 n9)
      have hn5 : J5 350 (12 + zN S) = pk5 w := by
        have : J5 350 = J3 350 := (f5.2.2 350 (by decide)).trans (f4.2.2 350 (by decide))
        rw [this]; exact hn3
      exact st_i (L' := [some (.inr (.inr 348)), some (.inl (zN S : Int)), some (.inl sh), some (.inl rt), some (.inl f)]) rfl (rp139_g t5 er5 r5 hn hw hn5 ⟨x1, x2⟩ ⟨y1, y2⟩ ⟨z1, z2⟩ (fun I' J' F' t' er' r' => k1 e5 _ (E0.trans (bnd_r hz)) I' J' (F5a.trans F') t' er' r'))
    · exact st_i (L' := [some (.inr (.inr 348)), some (.inl (zN S : Int)), some (.inl sh), some (.inl rt), some (.inl 0)]) rfl (rp139_b er5 hr hb (k0 x (E0.trans (bnd_l hz)) I5 J5 _ (F4a.trans (f5.f2 n11)) t5 er5 hr hb))
  · have E0 := E0.trans (if_neg (fun y => z ⟨rfl, y⟩))
    exact rp139_g t3 er3 r3 hn hw hn3 ⟨x1, x2⟩ ⟨y1, y2⟩ ⟨by decide, by decide⟩ (fun I' J' F' t' er' r' => k1 e3 _ E0 I' J' (F3a.trans F') t' er' r')
theorem P_X10_readsPort {I J : Mi} {K : Option AV → MM → Prop} {B : List Int} {e0 : Nat} {S : AS} {p ht hk : Int} (t : TM (I, J) B e0) (er : ErM (I, J) (0, p)) (r : MD (I, J) S ht hk) (hk1 : tkK (sc B e0) = 1) (k1 : ∀ e' S', rdP B e0 S = .inr (e', S') → ∀ I' J', F2M (I, J) (I', J') → TM (I', J') B e' → ErM (I', J') (0, p) → MD (I', J') S' ht hk → K none (I', J')) (k0 : ∀ x, rdP B e0 S = .inl x → ∀ I' J' e', F2M (I, J) (I', J') → TM (I', J') B e' → ErM (I', J') x → R32 x.1 → x.1 ≠ 0 → K none (I', J')) : w_X10_readsPort [.inr (.inr 348)] (I, J) K := by
  have hB := t.1.2.2.2.1
  have n9 : ∀ k ∈ [6, 7, 8, 9], 6 ≤ k ∧ k < 15 := by decide
  have n1 : ∀ k ∈ [10, 11], 6 ≤ k ∧ k < 15 := by decide
  have h6 := r.2.1.1
  refine ⟨cs8 rfl, hM, cs8 rfl, r.1.ofo 0 rfl (by omega) ?_⟩
  refine st_i (L' := [some (.inr (.inr 348)), some (.inl (zN S : Int)), none, none, none]) rfl ⟨⟨by omega, by omega⟩, ⟨by omega, by omega⟩, fun q => ⟨hM, cs8 rfl, must_n er t (fun z => absurd z (by omega)) (fun I1 f1 t1 e1 => ⟨hM, cs8 rfl, P_X10_isGood e1 R32_4 (fun z => absurd z (show (4 : Int) ≠ 0 by decide)) (fun _ => ⟨⟨by omega, by omega⟩, fun z => absurd rfl z, fun _ => ?_⟩)⟩)⟩, fun q => ⟨hM, cs8 rfl, must_g er ⟨hM, cs8 rfl, P_X10_isGood er R32_0 (fun _ => ⟨⟨by omega, by omega⟩, fun _ => ?_, fun z => absurd z (by decide)⟩) (fun z => absurd rfl z)⟩⟩⟩
  · exact k0 _ (if_pos (by have q : (6 : Int) ≤ (zN S : Int) := q; omega)) I1 J e0 (f1.f2 n1) t1 e1 R32_4 (show (4 : Int) ≠ 0 by decide)
  have hn : ¬ 6 ≤ zN S := by have q : ¬ (6 : Int) ≤ (zN S : Int) := q; omega
  refine ⟨hM, cs8 rfl, M_scan t (fun I2 J2 f2 t2 => ⟨hM, ?_⟩)⟩
  have er2 := er.f9 f2 (by decide) (by decide)
  have r2 := r.f9 f2 (by decide)
  have F2a := f2.f2 n9
  have e8 : I2 348 8 = (tkK (sc B (tkE (sc B e0))) : Int) := t2.2.2.2.2.1
  obtain ⟨-, -, -, kr, -⟩ := sc_facts hB t2.2.1
  show o_ci 1 _ _ [.inl (I2 348 8), .inr (.inr 348)] (I2, J2)
  rw [e8]
  refine ⟨⟨by omega, by omega⟩, ⟨by omega, by omega⟩, fun q => ⟨hM, cs8 rfl, must_n er2 t2 (fun _ => rfl) (fun I3 f3 t3 e3 => ⟨hM, cs8 rfl, P_X10_isGood e3 R32_1 (fun z => absurd z (show (1 : Int) ≠ 0 by decide)) (fun _ => ⟨⟨by omega, by omega⟩, fun _ => ⟨hM, cs8 rfl, must_b e3 R32_1 (show (1 : Int) ≠ 0 by decide) ⟨hM, cs8 rfl, P_X10_isGood e3 R32_1 (fun z => absurd z (show (1 : Int) ≠ 0 by decide)) (fun _ => ⟨⟨by omega, by omega⟩, fun _ => ?_, fun z => absurd rfl z⟩)⟩⟩, fun z => absurd rfl z⟩)⟩)⟩, fun q => ⟨hM, cs8 rfl, must_g er2 ⟨hM, cs8 rfl, P_X10_isGood er2 R32_0 (fun _ => ⟨⟨by omega, by omega⟩, fun z => absurd z (by decide), fun _ => ?_⟩) (fun z => absurd rfl z)⟩⟩⟩
  · have c1 : ¬ tkK (sc B (tkE (sc B e0))) = 1 := fun z => q (by rw [z]; rfl)
    exact rp93_b t3 e3 R32_1 (show (1 : Int) ≠ 0 by decide) (fun I' J' e' f' t' er' => k0 _ ((if_neg hn).trans (if_neg c1)) I' J' e' (F2a.trans ((f3.f2 n1).trans (f'.f2 n9))) t' er' R32_1 (show (1 : Int) ≠ 0 by decide))
  have c1 : tkK (sc B (tkE (sc B e0))) = 1 := by omega
  have hw := sc_W hB t2.2.1 c1
  have h12 : J2 348 12 = pk5 (tkW (sc B (tkE (sc B e0)))) := t2.2.2.2.2.2.1 c1
  have nr := nmd_R h6 (tkW (sc B (tkE (sc B e0))))
  refine ⟨hM, cs8 rfl, P_X10_named r2.1 r.2.1.2.2.2.2.2.2.2.2.2 hw h12 ⟨nr, ⟨by omega, by omega⟩, fun q2 => ⟨hM, cs8 rfl, must_n er2 t2 (fun z => absurd z (by omega)) (fun I3 f3 t3 e3 => ⟨hM, cs8 rfl, P_X10_isGood e3 R32_3 (fun z => absurd z (show (3 : Int) ≠ 0 by decide)) (fun _ => ⟨⟨by omega, by omega⟩, fun _ => ?_, fun z => absurd rfl z⟩)⟩)⟩, fun q2 => ⟨hM, cs8 rfl, must_g er2 ⟨hM, cs8 rfl, P_X10_isGood er2 R32_0 (fun _ => ⟨⟨by omega, by omega⟩, fun z => absurd z (by decide), fun _ => ⟨hM, hM, cs8 rfl, P_X10_setName 2 (zN S) r2.1.1 rfl (by decide) (by omega) ?_⟩⟩) (fun z => absurd rfl z)⟩⟩⟩⟩
  · exact rp93_b t3 e3 R32_3 (show (3 : Int) ≠ 0 by decide) (fun I' J' e' f' t' er' => k0 _ ((if_neg hn).trans ((if_pos c1).trans (if_neg q2))) I' J' e' (F2a.trans ((f3.f2 n1).trans (f'.f2 n9))) t' er' R32_3 (show (3 : Int) ≠ 0 by decide))
  have E0 : rdP B e0 S = rdL B (tkE (sc B e0)) S (tkW (sc B (tkE (sc B e0)))) := (if_neg hn).trans ((if_pos c1).trans (if_pos q2))
  have J9 : ∀ e, e ≠ 350 → uM J2 350 (6 * 2 + zN S) (J2 348 12) e = J2 e := fun e he => uM_r he
  have Fn : F2M (I2, J2) (I2, uM J2 350 (6 * 2 + zN S) (J2 348 12)) := F2M.nam (by omega)
  have t3 : TM (I2, uM J2 350 (6 * 2 + zN S) (J2 348 12)) B (tkE (sc B e0)) := t2.eq (fun _ _ _ => rfl) rfl (by show uM J2 350 (6 * 2 + zN S) (J2 348 12) 348 12 = _; rw [J9 348 (by decide)])
  have r3 : MD (I2, uM J2 350 (6 * 2 + zN S) (J2 348 12)) S ht hk := by
    obtain ⟨⟨g1, g2, g3, m1, m2, m3, m4⟩, b2, b3, b4⟩ := r2
    refine ⟨⟨g1, g2, g3, m1, m2, fun q hq => ?_, m4⟩, b2, b3, b4⟩
    show uM J2 350 (6 * 2 + zN S) (J2 348 12) 350 (6 * 2 + q) = _
    rw [uM_k (by omega)]
    exact m3 q hq
  exact rp93_g t3 er2 r3 (by omega) hw (by rw [show 12 + zN S = 6 * 2 + zN S by omega, uM_s]; exact h12) (fun e' S' hr I' J' F' t' er' r' => k1 e' S' (E0.trans hr) I' J' (F2a.trans (Fn.trans F')) t' er' r') (fun x hr I' J' e' F' t' er' h1 h2 => k0 x (E0.trans hr) I' J' e' (F2a.trans (Fn.trans F')) t' er' h1 h2)
