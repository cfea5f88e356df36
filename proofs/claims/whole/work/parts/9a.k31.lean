/-! PURE 88: the model's loop, the first time -/
section
variable {I J : Mi} {K : Option AV → MM → Prop} {B : List Int} {e d w : Nat}
theorem pE {I J : Mi} {a k e j : Nat} {v : Int} (h : e ≠ a) : ((uM I a k v, J) : MM).1 e j = I e j := uM_e h
theorem pK {I J : Mi} {k e j : Nat} {v : Int} (h : j ≠ k) : ((uM I e k v, J) : MM).1 e j = I e j := uM_k h
def FPr (ks : List Nat) (r : Nat) (μ μ' : MM) : Prop := (∀ e, e ≠ 348 → e ≠ 353 → μ'.1 e = μ.1 e) ∧ (∀ j, j ∉ ks → μ'.1 348 j = μ.1 348 j) ∧ (∀ j, j ≠ r → μ'.1 353 j = μ.1 353 j) ∧ (∀ e, e ≠ 348 → μ'.2 e = μ.2 e)
theorem FPr.fq {ks : List Nat} {r : Nat} {μ μ' : MM} (h : FPr ks r μ μ') (hk : ∀ k ∈ ks, (6 ≤ k ∧ k < 12) ∨ (16 ≤ k ∧ k < 21)) : FQ μ μ' := ⟨fun e x _ z => h.1 e x z, fun j hj => h.2.1 j (fun z => by have := hk j z; omega), h.2.2.2⟩
theorem FPr.f9 {ks : List Nat} {r : Nat} {v : Int} {μ' : MM} (f : F9 ks (uM I 353 r v, J) μ') : FPr ks r (I, J) μ' := ⟨fun e x y => (f.1 e x).trans (uM_r y), fun j hj => (f.2.1 j hj).trans (pE (by decide)), fun j hj => by rw [f.1 353 (by decide)]; exact uM_k hj, f.2.2⟩
theorem TM.arr {a r : Nat} {v : Int} (t : TM (I, J) B e) (ha : a ≠ 348 ∧ a ≠ 351) : TM (uM I a r v, J) B e := t.eq (fun j _ _ => uM_e (by omega)) (uM_r (fun z => ha.2 z.symm)) rfl
theorem closes_75 {p : Int} (t : TM (I, J) B e) (er : ErM (I, J) (0, p)) (h18 : I 348 18 = (d : Int) + 1) (k1 : ∀ e', sgn B (tkE (sc B e)) 59 = .inr e' → ∀ I' J', F9 [6, 7, 8, 9, 18] (I, J) (I', J') → TM (I', J') B e' → I' 348 18 = (d : Int) → K none (I', J')) (k0 : ∀ x, sgn B (tkE (sc B e)) 59 = .inl x → ∀ I' J', F9 [6, 7, 8, 9, 10, 11, 18] (I, J) (I', J') → ErM (I', J') x → I' 348 18 = (d : Int) → K none (I', J')) : B_X10_closesRepeat_75 K [some (.inr (.inr 348))] [] (I, J) := by
  refine ⟨hM, hM, ?_⟩
  show o_aload 0 _ [some (.inr (.inr 348))] [] (uM I 348 18 (I 348 18 - 1), J)
  rw [h18, show (d : Int) + 1 - 1 = d by omega]
  have f0 : F9 [6, 7, 8, 9, 18] (I, J) (uM I 348 18 (d : Int), J) := F9.put (by decide)
  have t0 : TM (uM I 348 18 (d : Int), J) B e := t.f9 (F9.put (ks := [18]) (by decide)) (by decide) rfl
  have e0 : ErM (uM I 348 18 (d : Int), J) (0, p) := er.f9 f0 (by decide) (by decide)
  refine ⟨hM, cs8 rfl, M_scan t0 (fun I1 J1 f1 t1 => ⟨hM, cs8 rfl, sign_g t1 (e0.f9 f1 (by decide) (by decide)) ⟨by decide, by decide⟩ (fun e' hs I2 J2 f2 t2 => ?_) (fun x hs I2 J2 f2 t2 er2 => ?_)⟩)⟩
  · exact k1 e' hs I2 J2 (f0.trans ((f1.mono (by decide)).trans (f2.mono (by decide)))) t2 ((f2.2.1 18 (by decide)).trans ((f1.2.1 18 (by decide)).trans pS))
  · exact k0 x hs I2 J2 ((f0.mono (by decide)).trans ((f1.mono (by decide)).trans (f2.mono (by decide)))) er2 ((f2.2.1 18 (by decide)).trans ((f1.2.1 18 (by decide)).trans pS))
theorem closes_0 {p : Int} (t : TM (I, J) B e) (er : ErM (I, J) (0, p)) (h18 : I 348 18 = 0) (hK : ∀ I', F9 [10, 11] (I, J) (I', J) → ErM (I', J) (1, (tkA (sc B e) : Int)) → K none (I', J)) : w_X10_closesRepeat [.inr (.inr 348)] (I, J) K := by
  refine ⟨cs8 rfl, hM, b01 (Or.inl h18), fun _ => ⟨hM, cs8 rfl, must_n er t (fun _ => rfl) (fun I1 f1 t1 er1 => ⟨hM, cs8 rfl, P_X10_isGood er1 R32_1 (fun y => absurd y (show (1 : Int) ≠ 0 by decide)) (fun _ => ⟨R32_0, fun z => absurd rfl z, fun _ => hK I1 f1 er1⟩)⟩)⟩, fun z => absurd (show I 348 18 ≤ 0 by rw [h18]; exact Int.le_refl _) z⟩
theorem closes_h {p : Int} {m : Int} (er : ErM (I, J) (0, p)) (hd : d ≤ 1) (h18 : I 348 18 = (d : Int) + 1) (hm : I 353 (d + 1) = m) (h16 : I 348 16 = 0 ∨ I 348 16 = 1) (k0 : I 348 16 = 0 → B_X10_closesRepeat_75 K [some (.inr (.inr 348))] [] (uM I 353 (d + 1) (m - 1), J)) (k1 : I 348 16 = 1 → (R32 (m - 1)) ∧ (m - 1 ≤ 0 → B_X10_closesRepeat_75 K [some (.inr (.inr 348))] [] (uM I 353 (d + 1) (m - 1), J)) ∧ (0 < m - 1 → w_X10_scans [.inr (.inr 348)] (uM (uM I 353 (d + 1) (m - 1)) 348 7 (I 352 (d + 1)), J) K)) : w_X10_closesRepeat [.inr (.inr 348)] (I, J) (fun v μ' => K v μ') := by
  have r18 : R32 (I 348 18) := by rw [h18]; exact ⟨by omega, by omega⟩
  have ed : ((d : Int) + 1).toNat = d + 1 := by omega
  refine ⟨cs8 rfl, hM, r18, fun z => absurd (show I 348 18 ≤ 0 from z) (by omega), fun _ => ⟨hM, cs8 rfl, must_g er ⟨hM, cs8 rfl, P_X10_isGood er R32_0 (fun _ => ⟨R32_1, fun _ => ⟨hM, hM, ?_⟩, fun z => absurd z (by decide)⟩) (fun z => absurd rfl z)⟩⟩⟩
  show o_dup2 _ _ [.inl (I 348 18), .inr (.inr 353)] (I, J)
  rw [h18]
  have l1 : (d : Int) + 1 < ((ln 353 : Nat) : Int) := by rw [h353.2]; omega
  have l2 : (d : Int) + 1 < ((ln 352 : Nat) : Int) := by rw [h352.2]; omega
  refine ⟨h353.1, by omega, l1, ?_⟩
  rw [ed]
  show o_ci 1 _ _ [.inl (I 353 (d + 1)), _, _] (I, J)
  rw [hm]
  refine ⟨h353.1, by omega, l1, ?_⟩
  rw [ed]
  have c16 : uM I 353 (d + 1) (m - 1) 348 16 = I 348 16 := uM_e (by decide)
  have c18 : uM I 353 (d + 1) (m - 1) 348 18 = (d : Int) + 1 := (uM_e (by decide)).trans h18
  refine ⟨hM, ?_⟩
  show o_if_eq _ _ _ [.inl (uM I 353 (d + 1) (m - 1) 348 16)] _
  rw [c16]
  refine ⟨b01 h16, k0, fun q => ?_⟩
  obtain ⟨rm, ka, kb⟩ := k1 (h16.resolve_left q)
  refine ⟨hM, hM, ?_⟩
  show o_iald _ _ [.inl (uM I 353 (d + 1) (m - 1) 348 18), .inr (.inr 353)] _
  rw [c18]
  refine ⟨h353.1, by omega, l1, ?_⟩
  rw [ed]
  show o_if_le _ _ _ [.inl (uM I 353 (d + 1) (m - 1) 353 (d + 1))] _
  rw [uM_s]
  refine ⟨rm, ka, fun z => ⟨hM, hM, ?_⟩⟩
  show o_iald _ _ [.inl (uM I 353 (d + 1) (m - 1) 348 18), .inr (.inr 352), .inr (.inr 348)] _
  rw [c18]
  refine ⟨h352.1, by omega, l2, ?_⟩
  rw [ed]
  show o_putI 10 7 _ _ [.inl (uM I 353 (d + 1) (m - 1) 352 (d + 1)), .inr (.inr 348)] _
  rw [uM_e (by decide)]
  exact ⟨hM, hM, cs8 rfl, kb (by have z : ¬ m - 1 ≤ 0 := z; omega)⟩
theorem closes_p1 {p : Int} (t : TM (I, J) B e) (er : ErM (I, J) (0, p)) (hd : d ≤ 1) (h18 : I 348 18 = (d : Int) + 1) (h16 : I 348 16 = 0) (k1 : ∀ e', sgn B (tkE (sc B e)) 59 = .inr e' → ∀ I' J', FPr [6, 7, 8, 9, 18] (d + 1) (I, J) (I', J') → TM (I', J') B e' → I' 348 18 = (d : Int) → K none (I', J')) (k0 : ∀ x, sgn B (tkE (sc B e)) 59 = .inl x → ∀ I' J', FPr [6, 7, 8, 9, 10, 11, 18] (d + 1) (I, J) (I', J') → ErM (I', J') x → I' 348 18 = (d : Int) → K none (I', J')) : w_X10_closesRepeat [.inr (.inr 348)] (I, J) (fun v μ' => K v μ') := by
  refine closes_h er hd h18 rfl (Or.inl h16) (fun _ => ?_) (fun z => absurd (h16.symm.trans z) (by decide))
  refine closes_75 (t.arr (by decide)) ⟨(pE (by decide)).trans er.1, (pE (by decide)).trans er.2⟩ ((uM_e (by decide)).trans h18) (fun e' hs I' J' f t' h => k1 e' hs I' J' (FPr.f9 f) t' h) (fun x hs I' J' f er' h => k0 x hs I' J' (FPr.f9 f) er' h)
theorem vrb_k {t : Tk} (h : tkK t ≠ 1) : vrb t = -1 := by
  obtain ⟨i4, i5, i6, i7, i2, i3, i8⟩ := vrb_iff t
  have vr := vrb_r t
  have hh : vrb t = -1 ∨ vrb t = 0 ∨ vrb t = 1 ∨ vrb t = 2 ∨ vrb t = 3 ∨ vrb t = 4 ∨ vrb t = 5 ∨ vrb t = 6 := by omega
  rcases hh with x | x | x | x | x | x | x | x
  · exact x
  · exact absurd (i4.mpr x).1 h
  · exact absurd (i5.mpr x).1 h
  · exact absurd (i6.mpr x).1 h
  · exact absurd (i7.mpr x).1 h
  · exact absurd (i2.mpr x).1 h
  · exact absurd (i3.mpr x).1 h
  · exact absurd (i8.mpr x).1 h
end
