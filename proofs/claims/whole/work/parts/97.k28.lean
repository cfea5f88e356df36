/-! PURE 85: the model's commands, from their verbs on -/
def FQ (μ μ' : MM) : Prop := (∀ e, e ≠ 348 → e ≠ 352 → e ≠ 353 → μ'.1 e = μ.1 e) ∧ (∀ j, (j < 6 ∨ (12 ≤ j ∧ j < 16) ∨ 21 ≤ j) → μ'.1 348 j = μ.1 348 j) ∧ (∀ e, e ≠ 348 → μ'.2 e = μ.2 e)
theorem FQ.refl {μ : MM} : FQ μ μ := ⟨fun _ _ _ _ => rfl, fun _ _ => rfl, fun _ _ => rfl⟩
theorem FQ.trans {μ μ1 μ2 : MM} (h : FQ μ μ1) (h' : FQ μ1 μ2) : FQ μ μ2 := ⟨fun a x y z => (h'.1 a x y z).trans (h.1 a x y z), fun a x => (h'.2.1 a x).trans (h.2.1 a x), fun a x => (h'.2.2 a x).trans (h.2.2 a x)⟩
theorem F9.fq {ks : List Nat} {μ μ' : MM} (h : F9 ks μ μ') (hk : ∀ k ∈ ks, (6 ≤ k ∧ k < 12) ∨ (16 ≤ k ∧ k < 21)) : FQ μ μ' := ⟨fun e x _ _ => h.1 e x, fun j hj => h.2.1 j (fun z => by have := hk j z; omega), h.2.2⟩
theorem FQ.put {I J : Mi} {k : Nat} {v : Int} (hk : (6 ≤ k ∧ k < 12) ∨ (16 ≤ k ∧ k < 21)) : FQ (I, J) (uM I 348 k v, J) := ⟨fun e x _ _ => uM_r x, fun j hj => uM_k (by omega), fun _ _ => rfl⟩
theorem FQ.arr {I J : Mi} {a k : Nat} {v : Int} (ha : a = 352 ∨ a = 353) : FQ (I, J) (uM I a k v, J) := ⟨fun e _ y z => uM_r (by omega), fun j _ => uM_e (by omega), fun _ _ => rfl⟩
theorem HG.fq {μ μ' : MM} {S : AS} {G : List (Nat × Pkt)} {b : Nat} (h : HG b μ S G) (hf : FQ μ μ') : HG b μ' S G := h.cong (hf.2.1 3 (by omega)) (hf.1 349 (by decide) (by decide) (by decide)) (hf.2.2 350 (by decide))
/-- an error was found -/
def EBd (μ : MM) (x : Er) : Prop := ErM μ x ∧ R32 x.1 ∧ x.1 ≠ 0 ∧ μ.1 348 17 = 0 ∧ R32 (μ.1 348 18)
noncomputable abbrev lcC (t : Tk) : List (Option AV) := [some (.inr (.inr 348)), some (.inl (b2 (isw t 8))), some (.inl (b2 (isw t 4))), some (.inl (b2 (isw t 6)))]
theorem h352 : isK 352 11 ∧ ln 352 = 4 := ⟨⟨by decide, by decide +kernel⟩, by decide +kernel⟩
theorem h353 : isK 353 11 ∧ ln 353 = 4 := ⟨⟨by decide, by decide +kernel⟩, by decide +kernel⟩
theorem rc_head {μ : MM} {K : Option AV → MM → Prop} {B : List Int} {e : Nat} {p : Int} (t : TM μ B e) (er : ErM μ (0, p)) (h1 : vrb (sc B e) ≠ -1 → B_X10_readsCommand_82 (fun v μ' => K v μ') (lcC (sc B e)) [.inl 1, .inr (.inr 348)] μ) (h0 : vrb (sc B e) = -1 → B_X10_readsCommand_82 (fun v μ' => K v μ') (lcC (sc B e)) [.inl 0, .inr (.inr 348)] μ) : w_X10_readsCommand [.inr (.inr 348)] μ K := by
  obtain ⟨i4, i5, i6, i7, i2, i3, i8⟩ := vrb_iff (sc B e)
  have yes : ∀ {v : Int}, vrb (sc B e) = v → v ≠ -1 → B_X10_readsCommand_77 (fun v μ' => K v μ') (lcC (sc B e)) [.inr (.inr 348)] μ := fun hv hn => h1 (by rw [hv]; exact hn)
  refine ⟨cs8 rfl, hM, cs8 rfl, t.isWb er 8 (by decide) rfl (st_i (L' := [some (.inr (.inr 348)), some (.inl (b2 (isw (sc B e) 8))), none, none]) rfl ⟨hM, cs8 rfl, t.isWb er 4 (by decide) rfl (st_i (L' := [some (.inr (.inr 348)), some (.inl (b2 (isw (sc B e) 8))), some (.inl (b2 (isw (sc B e) 4))), none]) rfl ⟨hM, cs8 rfl, t.isWb er 6 (by decide) rfl (st_i (L' := lcC (sc B e)) rfl ⟨b01 (b2_01 _), fun q => ?_, fun q => ⟨b01 (b2_01 _), fun q2 => ?_, fun q2 => ⟨b01 (b2_01 _), fun q3 => ?_, fun q3 => ?_⟩⟩⟩)⟩)⟩)⟩
  · by_cases z : isw (sc B e) 8
    · exact yes (i8.mp z) (by decide)
    · exact absurd (b2_f z) q
  · by_cases z : isw (sc B e) 4
    · exact yes (i4.mp z) (by decide)
    · exact absurd (b2_f z) q2
  · by_cases z : isw (sc B e) 6
    · exact yes (i6.mp z) (by decide)
    · exact absurd (b2_f z) q3
  have n8 : ¬ isw (sc B e) 8 := fun z => absurd ((b2_t z).symm.trans q) (by decide)
  have n4 : ¬ isw (sc B e) 4 := fun z => absurd ((b2_t z).symm.trans q2) (by decide)
  have n6 : ¬ isw (sc B e) 6 := fun z => absurd ((b2_t z).symm.trans q3) (by decide)
  refine ⟨hM, cs8 rfl, t.isWord er R32_0 5 (by decide) rfl (fun _ z => ⟨R32_1, fun _ => yes (i5.mp z) (by decide), fun y => absurd y (by decide)⟩) (fun n5 => ⟨R32_0, fun y => absurd rfl y, fun _ => ?_⟩)⟩
  refine ⟨hM, cs8 rfl, t.isWord er R32_0 7 (by decide) rfl (fun _ z => ⟨R32_1, fun _ => yes (i7.mp z) (by decide), fun y => absurd y (by decide)⟩) (fun n7 => ⟨R32_0, fun y => absurd rfl y, fun _ => ?_⟩)⟩
  refine ⟨hM, cs8 rfl, t.isWord er R32_0 2 (by decide) rfl (fun _ z => ⟨R32_1, fun _ => yes (i2.mp z) (by decide), fun y => absurd y (by decide)⟩) (fun n2 => ⟨R32_0, fun y => absurd rfl y, fun _ => ?_⟩)⟩
  refine ⟨hM, cs8 rfl, t.isWord er R32_0 3 (by decide) rfl (fun _ z => ⟨R32_1, fun y => absurd y (by decide), fun _ => yes (i3.mp z) (by decide)⟩) (fun n3 => ⟨R32_0, fun _ => h0 ?_, fun y => absurd rfl y⟩)⟩
  exact (if_neg n4).trans ((if_neg (fun z => n5 ⟨rfl, z⟩)).trans ((if_neg n6).trans ((if_neg (fun z => n7 ⟨rfl, z⟩)).trans ((if_neg (fun z => n2 ⟨rfl, z⟩)).trans ((if_neg (fun z => n3 ⟨rfl, z⟩)).trans (if_neg n8))))))
theorem k348 {X J : Mi} {a c d : Int} {b b' j : Nat} (h : j ≠ 18) : ((uM (uM (uM X 348 18 a) 352 b c) 353 b' d, J) : MM).1 348 j = X 348 j := by
  show uM (uM (uM X 348 18 a) 352 b c) 353 b' d 348 j = _
  rw [uM_e (by decide), uM_e (by decide), uM_k h]
theorem k348s {X : Mi} {a c d : Int} {b b' : Nat} : uM (uM (uM X 348 18 a) 352 b c) 353 b' d 348 18 = a := by rw [uM_e (by decide), uM_e (by decide), uM_s]
theorem k348r {X J : Mi} {a c d : Int} {b b' : Nat} (h : R32 a) : R32 (((uM (uM (uM X 348 18 a) 352 b c) 353 b' d, J) : MM).1 348 18) := by
  show R32 (uM (uM (uM X 348 18 a) 352 b c) 353 b' d 348 18)
  rw [k348s]
  exact h
/-- opensRepeat's end -/
def oR_e (K : Option AV → MM → Prop) : PT := o_aload 0 (o_callV 0 10 w_X10_scans (o_aload 0 (o_dup (o_getI 10 18 (o_ci 1 (o_iadd (o_putI 10 18 (o_aload 0 (o_getR 10 21 (o_aload 0 (o_getI 10 18 (o_aload 0 (o_getI 10 6 (o_iast (o_aload 0 (o_getR 10 22 (o_aload 0 (o_getI 10 18 (o_iload 1 (o_iast (o_vret K)))))))))))))))))))))
theorem oR_end {I J : Mi} {K : Option AV → MM → Prop} {B : List Int} {e d : Nat} {n : Int} (t : TM (I, J) B e) (hd : d ≤ 2) (h18 : I 348 18 = (d : Int)) (hK : ∀ I' J', F9 [6, 7, 8, 9] (I, J) (I', J') → TM (I', J') B (tkE (sc B e)) → K none (uM (uM (uM I' 348 18 ((d : Int) + 1)) 352 (d + 1) (tkA (sc B (tkE (sc B e))) : Int)) 353 (d + 1) n, J')) : oR_e K [some (.inr (.inr 348)), some (.inl n)] [] (I, J) := by
  refine ⟨hM, cs8 rfl, M_scan t (fun I1 J1 f1 t1 => ⟨hM, hM, ?_⟩)⟩
  have g18 : I1 348 18 = (d : Int) := (f1.2.1 18 (by decide)).trans h18
  have e6 : I1 348 6 = (tkA (sc B (tkE (sc B e))) : Int) := t1.2.2.1
  show o_aload 0 _ _ [] (uM I1 348 18 (I1 348 18 + 1), J1)
  rw [g18]
  refine ⟨hM, hM, ?_⟩
  show o_aload 0 _ _ [.inl (uM I1 348 18 ((d : Int) + 1) 348 18), .inr (.inr 352)] (uM I1 348 18 ((d : Int) + 1), J1)
  rw [uM_s]
  refine ⟨hM, ?_⟩
  show o_iast _ _ [.inl (uM I1 348 18 ((d : Int) + 1) 348 6), .inl ((d : Int) + 1), .inr (.inr 352)] (uM I1 348 18 ((d : Int) + 1), J1)
  rw [uM_k (by decide), e6]
  refine ⟨h352.1, by omega, by show (d : Int) + 1 < ((ln 352 : Nat) : Int); rw [h352.2]; omega, hM, hM, ?_⟩
  have ed : ((d : Int) + 1).toNat = d + 1 := by omega
  rw [ed]
  show o_iload 1 _ _ [.inl (uM (uM I1 348 18 ((d : Int) + 1)) 352 (d + 1) (tkA (sc B (tkE (sc B e))) : Int) 348 18), .inr (.inr 353)] _
  rw [uM_e (by decide), uM_s]
  refine ⟨h353.1, by omega, by show (d : Int) + 1 < ((ln 353 : Nat) : Int); rw [h353.2]; omega, ?_⟩
  rw [ed]
  exact hK I1 J1 f1 t1
theorem P_X10_opensRepeat {I J : Mi} {K : Option AV → MM → Prop} {B : List Int} {e d : Nat} {p : Int} (t : TM (I, J) B e) (er : ErM (I, J) (0, p)) (hd : d ≤ 2) (h18 : I 348 18 = (d : Int)) (h17 : I 348 17 = 0) (k1 : ∀ e' n, rpt B (tkE (sc B e)) = .inr (e', n) → ∀ I' J', F9 [6, 7, 8, 9] (I, J) (I', J') → TM (I', J') B e' → K none (uM (uM (uM I' 348 18 ((d : Int) + 1)) 352 (d + 1) (tkA (sc B e') : Int)) 353 (d + 1) (n : Int), J')) (k0 : ∀ x, rpt B (tkE (sc B e)) = .inl x → ∀ I' J', FQ (I, J) (I', J') → EBd (I', J') x → K none (I', J')) : w_X10_opensRepeat [.inr (.inr 348)] (I, J) K := by
  have hB := t.1.2.2.2.1
  have n9 : ∀ k ∈ [6, 7, 8, 9], (6 ≤ k ∧ k < 12) ∨ (16 ≤ k ∧ k < 21) := by decide
  have n11 : ∀ k ∈ [6, 7, 8, 9, 10, 11], (6 ≤ k ∧ k < 12) ∨ (16 ≤ k ∧ k < 21) := by decide
  -- the end, where an error was found
  have bad : ∀ (x : Er) (I2 J2 : Mi) (e2 : Nat) (n : Int), rpt B (tkE (sc B e)) = .inl x → FQ (I, J) (I2, J2) → TM (I2, J2) B e2 → ErM (I2, J2) x → R32 x.1 → x.1 ≠ 0 → I2 348 18 = (d : Int) → I2 348 17 = 0 → oR_e (fun v μ' => K v μ') [some (.inr (.inr 348)), some (.inl n)] [] (I2, J2) := fun x I2 J2 e2 n hr F t2 er2 hx hb g18 g17 => oR_end t2 hd g18 (fun I3 J3 f3 t3 => k0 x hr _ _ (F.trans ((f3.fq n9).trans ((FQ.put (by omega)).trans ((FQ.arr (Or.inl rfl)).trans (FQ.arr (Or.inr rfl)))))) ⟨⟨(k348 (by decide)).trans ((f3.2.1 10 (by decide)).trans er2.1), (k348 (by decide)).trans ((f3.2.1 11 (by decide)).trans er2.2)⟩, hx, hb, (k348 (by decide)).trans ((f3.2.1 17 (by decide)).trans g17), k348r ⟨by omega, by omega⟩⟩)
  refine ⟨cs8 rfl, hM, cs8 rfl, M_scan t (fun I1 J1 f1 t1 => ?_)⟩
  have er1 := er.f9 f1 (by decide) (by decide)
  have a18 : I1 348 18 = (d : Int) := (f1.2.1 18 (by decide)).trans h18
  have a17 : I1 348 17 = 0 := (f1.2.1 17 (by decide)).trans h17
  refine ⟨hM, cs8 rfl, reads_g t1 er1 R32_1 ⟨by decide, by decide⟩ (fun n e2 hx I2 J2 f2 t2 => ?_) (fun x hx I2 J2 f2 t2 er2 hb hr => ?_)⟩
  · have er2 := er1.f9 f2 (by decide) (by decide)
    obtain ⟨x1, x2, x3, x4, x5, x6⟩ := num_r hB t1.2.1 hx
    have b18 : I2 348 18 = (d : Int) := (f2.2.1 18 (by decide)).trans a18
    have b17 : I2 348 17 = 0 := (f2.2.1 17 (by decide)).trans a17
    refine st_i (L' := [some (.inr (.inr 348)), some (.inl n)]) rfl ⟨hM, cs8 rfl, t2.isSign er2 R32_0 ⟨by decide, by decide⟩ (fun _ k3 n3 => ⟨hM, cs8 rfl, must_g er2 ?_⟩) (fun q => ⟨hM, cs8 rfl, must_n er2 t2 (fun _ => rfl) (fun I3 f3 t3 er3 => ?_)⟩)⟩
    · have E0 : rpt B (tkE (sc B e)) = .inr (tkE (sc B e2), n.toNat) := (bnd_r hx).trans (bnd_r (if_pos ⟨k3, n3⟩))
      refine oR_end t2 hd b18 (fun I3 J3 f3 t3 => ?_)
      have key := k1 _ _ E0 I3 J3 (f1.trans (f2.trans f3)) t3
      rw [show ((n.toNat : Nat) : Int) = n by omega] at key
      exact key
    · have E0 : rpt B (tkE (sc B e)) = .inl (1, (tkA (sc B e2) : Int)) := (bnd_r hx).trans (bnd_l (if_neg (fun z => q ⟨rfl, z.1, z.2⟩)))
      exact bad _ I3 J2 e2 n E0 ((f1.fq n9).trans ((f2.fq n9).trans (f3.fq (by decide)))) t3 er3 R32_1 (show (1 : Int) ≠ 0 by decide) ((f3.2.1 18 (by decide)).trans b18) ((f3.2.1 17 (by decide)).trans b17)
  · have b18 : I2 348 18 = (d : Int) := (f2.2.1 18 (by decide)).trans a18
    have b17 : I2 348 17 = 0 := (f2.2.1 17 (by decide)).trans a17
    exact st_i (L' := [some (.inr (.inr 348)), some (.inl 1)]) rfl ⟨hM, cs8 rfl, t2.isSign er2 hr ⟨by decide, by decide⟩ (fun z => absurd z hb) (fun _ => ⟨hM, cs8 rfl, must_b er2 hr hb (bad x I2 J2 _ 1 (bnd_l hx) ((f1.fq n9).trans (f2.fq n11)) t2 er2 hr hb b18 b17)⟩)⟩
