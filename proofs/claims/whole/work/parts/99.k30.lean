/-! PURE 87: the model reads a script the first time -/
section
variable {I J : Mi} {K : Option AV → MM → Prop} {B : List Int} {e d w : Nat}
theorem err144 {x : Er} {L : List (Option AV)} (b : EBd (I, J) x) (hK : K none (I, J)) : B_X10_readsCommand_144 K (some (.inr (.inr 348)) :: L) [] (I, J) := ⟨hM, cs8 rfl, P_X10_isGood b.1 b.2.1 (fun y => absurd y b.2.2.1) (fun _ => ⟨R32_0, fun z => absurd rfl z, fun _ => hK⟩)⟩
theorem err130 {x : Er} {v : Int} {L : List (Option AV)} (b : EBd (I, J) x) (hK : ∀ v, K none (uM I 348 19 v, J)) : B_X10_readsCommand_130 K (some (.inr (.inr 348)) :: L) [.inl v, .inr (.inr 348)] (I, J) := ⟨hM, cs8 rfl, must_b b.1 b.2.1 b.2.2.1 ⟨hM, hM, err144 b.put (hK _)⟩⟩
theorem err104 {x : Er} {v : Int} {L : List (Option AV)} (b : EBd (I, J) x) (h16 : I 348 16 = 0) (h19 : R32 (I 348 19)) (hK : ∀ v, K none (uM I 348 19 v, J)) : B_X10_readsCommand_104 K (some (.inr (.inr 348)) :: L) [.inl v, .inr (.inr 348)] (I, J) := ⟨hM, cs8 rfl, must_b b.1 b.2.1 b.2.2.1 ⟨hM, b01 (Or.inl h16), fun z => absurd h16 z, fun _ => ⟨hM, h19, ⟨by decide, by decide⟩, fun _ => err130 b hK, fun _ => err130 b hK⟩⟩⟩
theorem EBd.mk {I1 : Mi} {c : Int} {a : Nat} (f : F9 [10, 11] (I, J) (I1, J)) (h17 : I 348 17 = 0) (h18 : R32 (I 348 18)) (er : ErM (I1, J) (c, (a : Int))) (hc : R32 c) (h0 : c ≠ 0) : EBd (I1, J) (c, (a : Int)) := ⟨er, hc, h0, (f.2.1 17 (by decide)).trans h17, by show R32 (I1 348 18); rw [show I1 348 18 = I 348 18 from f.2.1 18 (by decide)]; exact h18⟩
theorem Q1.h18 (q : Q1 (I, J) B e d w) (hd : d ≤ 2) : R32 (I 348 18) := by rw [show I 348 18 = (d : Int) from q.2.2.2.2.1]; exact ⟨by omega, by omega⟩
theorem Q1.h19 (q : Q1 (I, J) B e d w) (hw : w ≤ 30) : R32 (I 348 19) := by rw [show I 348 19 = (w : Int) from q.2.2.2.2.2]; exact ⟨by omega, by omega⟩
theorem FQ.e19 {I1 : Mi} {v : Int} (f : F9 [10, 11] (I, J) (I1, J)) : FQ (I, J) (uM I1 348 19 v, J) := (f.fq (by decide)).trans (FQ.put (by omega))
theorem rc_p1 {S : AS} {G : List (Nat × Pkt)} (q : Q1 (I, J) B e d w) (g : HG 0 (I, J) S G) (hn : NM S) (hd : d ≤ 2) (hw : w ≤ 30) (kr : ∀ e' n, cmdR B S e w d = .inr (.inl (e', n)) → ∀ I' J', FQ (I, J) (I', J') → Q1 (I', J') B e' (d + 1) (w + 1) → K none (I', J')) (kp : ∀ e' c, cmdR B S e w d = .inr (.inr (e', c)) → ∀ I' J', FQ (I, J) (I', J') → Q1 (I', J') B e' d (w + 1) → K none (I', J')) (k0 : ∀ x, cmdR B S e w d = .inl x → ∀ I' J', FQ (I, J) (I', J') → EBd (I', J') x → K none (I', J')) : w_X10_readsCommand [.inr (.inr 348)] (I, J) K := by
  have h18 := q.h18 hd
  have h19 := q.h19 hw
  obtain ⟨t, er, q16, q17, q18, q19⟩ := q
  have q16 : I 348 16 = 0 := q16
  have q17 : I 348 17 = 0 := q17
  have q18 : I 348 18 = (d : Int) := q18
  have q19 : I 348 19 = (w : Int) := q19
  have hB := t.1.2.2.2.1
  obtain ⟨i4, i5, i6, i7, i2, i3, i8⟩ := vrb_iff (sc B e)
  refine rc_head t er (fun hv => ?_) (fun hv => ?_)
  · -- a verb
    have go : ∀ (h82 : ¬ (vrb (sc B e) = 6 ∧ 2 ≤ d)), B_X10_readsCommand_99 K (lcC (sc B e)) [.inr (.inr 348)] (I, J) := fun h82 => by
      have E1 : cmdR B S e w d = if 30 ≤ w then .inl (4, (tkA (sc B e) : Int)) else cmd2 B S e := (if_neg hv).trans (if_neg h82)
      refine c_ci ⟨hM, cs8 rfl, must_g er ⟨hM, b01 (Or.inl q16), fun z => absurd q16 z, fun _ => ⟨hM, h19, ⟨by decide, by decide⟩, fun z => ?_, fun z => ?_⟩⟩⟩
      · have z : (30 : Int) ≤ I 348 19 := z
        rw [q19] at z
        have k4 : tkK (sc B e) = 4 → (4 : Int) = 1 := fun y => by
          have y1 : tkK (sc B e) = 1 := by
            have vr := vrb_r (sc B e)
            have hh : vrb (sc B e) = 0 ∨ vrb (sc B e) = 1 ∨ vrb (sc B e) = 2 ∨ vrb (sc B e) = 3 ∨ vrb (sc B e) = 4 ∨ vrb (sc B e) = 5 ∨ vrb (sc B e) = 6 := by omega
            rcases hh with x | x | x | x | x | x | x
            · exact (i4.mpr x).1
            · exact (i5.mpr x).1
            · exact (i6.mpr x).1
            · exact (i7.mpr x).1
            · exact (i2.mpr x).1
            · exact (i3.mpr x).1
            · exact (i8.mpr x).1
          omega
        exact ⟨hM, cs8 rfl, must_n er t k4 (fun I1 f1 t1 er1 => ⟨hM, hM, err144 (EBd.mk f1 q17 h18 er1 R32_4 (by decide)).put (k0 _ (E1.trans (if_pos (by omega))) _ _ (FQ.e19 f1) (EBd.mk f1 q17 h18 er1 R32_4 (by decide)).put)⟩)⟩
      · have z : ¬ (30 : Int) ≤ I 348 19 := fun y => z y
        rw [q19] at z
        have E1 := E1.trans (if_neg (by omega))
        refine ⟨hM, cs8 rfl, must_g er ⟨hM, hM, ?_⟩⟩
        show B_X10_readsCommand_144 K (lcC (sc B e)) [] (uM I 348 19 (I 348 19 + 1), J)
        rw [q19]
        have f0 : F9 [19] (I, J) (uM I 348 19 ((w : Int) + 1), J) := F9.put (by decide)
        have tt : TM (uM I 348 19 ((w : Int) + 1), J) B e := t.f9 f0 (by decide) rfl
        have ee : ErM (uM I 348 19 ((w : Int) + 1), J) (0, -1) := er.f9 f0 (by decide) (by decide)
        have n19 : ∀ k ∈ [19], (6 ≤ k ∧ k < 12) ∨ (16 ≤ k ∧ k < 21) := by decide
        have n9 : ∀ k ∈ [6, 7, 8, 9], (6 ≤ k ∧ k < 12) ∨ (16 ≤ k ∧ k < 21) := by decide
        have c16 : uM I 348 19 ((w : Int) + 1) 348 16 = 0 := (uM_k (by decide)).trans q16
        have c17 : uM I 348 19 ((w : Int) + 1) 348 17 = 0 := (uM_k (by decide)).trans q17
        have c18 : uM I 348 19 ((w : Int) + 1) 348 18 = (d : Int) := (uM_k (by decide)).trans q18
        have c19 : uM I 348 19 ((w : Int) + 1) 348 19 = (w : Int) + 1 := uM_s
        refine B144_g tt ee (g.f9 f0 (by decide)) hn (Or.inl c16) c17 c18 hd hv (fun v6 e' n hr I' J' f t' => ?_) (fun v6 e' c hc I' J' f t' => ?_) (fun x hx I' J' F b => k0 x (E1.trans hx) I' J' ((f0.fq n19).trans F) b)
        · refine kr e' n (E1.trans ((if_pos v6).trans (bnd_r hr))) _ _ ((f0.fq n19).trans ((f.fq n9).trans ((FQ.put (by omega)).trans ((FQ.arr (Or.inl rfl)).trans (FQ.arr (Or.inr rfl)))))) ⟨t'.eq (fun j h5 h9 => k348 (by omega)) ?_ rfl, ⟨(k348 (by decide)).trans ((f.2.1 10 (by decide)).trans ee.1), (k348 (by decide)).trans ((f.2.1 11 (by decide)).trans ee.2)⟩, (k348 (by decide)).trans ((f.2.1 16 (by decide)).trans c16), (k348 (by decide)).trans ((f.2.1 17 (by decide)).trans c17), ?_, (k348 (by decide)).trans ((f.2.1 19 (by decide)).trans c19)⟩
          · show uM (uM (uM I' 348 18 ((d : Int) + 1)) 352 (d + 1) (tkA (sc B e') : Int)) 353 (d + 1) (n : Int) 351 = I' 351
            rw [uM_r (by decide), uM_r (by decide), uM_r (by decide)]
          · show uM (uM (uM I' 348 18 ((d : Int) + 1)) 352 (d + 1) (tkA (sc B e') : Int)) 353 (d + 1) (n : Int) 348 18 = ((d + 1 : Nat) : Int)
            rw [k348s]
            omega
        · have q2 : Q1 (I', J') B e' d (w + 1) := ⟨t', ee.f9 f (by decide) (by decide), (f.2.1 16 (by decide)).trans c16, (f.2.1 17 (by decide)).trans c17, (f.2.1 18 (by decide)).trans c18, (f.2.1 19 (by decide)).trans c19⟩
          have F2 : FQ (I, J) (I', J') := (f0.fq n19).trans (f.fq n9)
          have E2 : cmd2 B S e = bnd (sgn B e' 59) (fun e2 => .inr (.inr (e2, c))) := (if_neg v6).trans (bnd_r hc)
          refine TL_n q2.2.1 R32_0 q2.2.2.1 (k187 ⟨hM, cs8 rfl, sign_g t' q2.2.1 ⟨by decide, by decide⟩ (fun e2 hs I2 J2 f2 t2 => ?_) (fun x hs I2 J2 f2 t2 er2 => ?_)⟩)
          · exact kp e2 c (E1.trans (E2.trans (bnd_r hs))) I2 J2 (F2.trans (f2.fq n9)) ⟨t2, q2.2.1.f9 f2 (by decide) (by decide), (f2.2.1 16 (by decide)).trans q2.2.2.1, (f2.2.1 17 (by decide)).trans q2.2.2.2.1, (f2.2.1 18 (by decide)).trans q2.2.2.2.2.1, (f2.2.1 19 (by decide)).trans q2.2.2.2.2.2⟩
          · have x1 := sgn_l hs
            exact k0 x (E1.trans (E2.trans (bnd_l hs))) I2 J2 (F2.trans (f2.fq (by decide))) ⟨er2, by rw [x1]; exact R32_1, by rw [x1]; decide, (f2.2.1 17 (by decide)).trans q2.2.2.2.1, by show R32 (I2 348 18); rw [show I2 348 18 = (d : Int) from (f2.2.1 18 (by decide)).trans q2.2.2.2.2.1]; exact ⟨by omega, by omega⟩⟩
    refine c_ci ⟨hM, cs8 rfl, must_g er ⟨b01 (b2_01 _), fun q8 => go (fun z => absurd ((b2_t (i8.mpr z.1)).symm.trans q8) (by decide)), fun q8 => ⟨hM, h18, R32_2, fun z => ?_, fun z => go (fun y => z ?_)⟩⟩⟩
    · have z : (2 : Int) ≤ I 348 18 := z
      rw [q18] at z
      have w8 : isw (sc B e) 8 := by
        by_cases y : isw (sc B e) 8
        · exact y
        · exact absurd (b2_f y) q8
      have k1 := w8.1
      exact c_ci ⟨hM, cs8 rfl, must_n er t (fun y => by omega) (fun I1 f1 t1 er1 => ⟨hM, b01 (Or.inl ((f1.2.1 16 (by decide)).trans q16)), fun z => absurd ((f1.2.1 16 (by decide)).trans q16) z, fun _ => ⟨hM, by show R32 (I1 348 19); rw [show I1 348 19 = I 348 19 from f1.2.1 19 (by decide)]; exact h19, ⟨by decide, by decide⟩, fun _ => err130 (EBd.mk f1 q17 h18 er1 R32_3 (by decide)) (fun v => k0 _ ((if_neg hv).trans (if_pos ⟨i8.mp w8, by omega⟩)) _ _ (FQ.e19 f1) (EBd.mk f1 q17 h18 er1 R32_3 (by decide)).put), fun _ => err130 (EBd.mk f1 q17 h18 er1 R32_3 (by decide)) (fun v => k0 _ ((if_neg hv).trans (if_pos ⟨i8.mp w8, by omega⟩)) _ _ (FQ.e19 f1) (EBd.mk f1 q17 h18 er1 R32_3 (by decide)).put)⟩⟩)⟩
    · show (2 : Int) ≤ I 348 18
      rw [q18]
      have := y.2
      omega
  · -- no verb
    refine c_ci ⟨hM, cs8 rfl, must_n er t (fun _ => rfl) (fun I1 f1 t1 er1 => ⟨b01 (b2_01 _), fun _ => c_ci (err104 (EBd.mk f1 q17 h18 er1 R32_1 (by decide)) ((f1.2.1 16 (by decide)).trans q16) (by rw [show I1 348 19 = I 348 19 from f1.2.1 19 (by decide)]; exact h19) (fun v => k0 _ (if_pos hv) _ _ (FQ.e19 f1) (EBd.mk f1 q17 h18 er1 R32_1 (by decide)).put)), fun q8 => absurd (b2_f (fun y => absurd ((i8.mp y).symm.trans hv) (by decide))) q8⟩)⟩
end
