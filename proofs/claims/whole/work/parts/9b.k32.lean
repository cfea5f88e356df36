/-! PURE 89: the model's loop, the first time, in whole -/
section
variable {I J : Mi} {K : Option AV → MM → Prop} {B : List Int} {e d w : Nat}
theorem g78_b {x : Er} {L : List (Option AV)} (b : EBd (I, J) x) (hK : K none (I, J)) : B_X10_goes_78 K (some (.inr (.inr 348)) :: L) [] (I, J) := ⟨hM, b01 (Or.inl b.2.2.2.1), fun z => absurd b.2.2.2.1 z, fun _ => ⟨hM, b.2.2.2.2, fun _ => ⟨hM, cs8 rfl, must_b b.1 b.2.1 b.2.2.1 hK⟩, fun _ => ⟨hM, cs8 rfl, must_b b.1 b.2.1 b.2.2.1 hK⟩⟩⟩
theorem g78_g {p : Int} {L : List (Option AV)} (er : ErM (I, J) (0, p)) (h17 : I 348 17 = 0 ∨ I 348 17 = 1) (h : I 348 17 = 0 → I 348 18 = 0) (hK : K none (I, J)) : B_X10_goes_78 K (some (.inr (.inr 348)) :: L) [] (I, J) := ⟨hM, b01 h17, fun _ => ⟨hM, cs8 rfl, must_g er hK⟩, fun z => ⟨hM, b01 (Or.inl (h z)), fun y => absurd (h z) y, fun _ => ⟨hM, cs8 rfl, must_g er hK⟩⟩⟩
theorem g78_n {p : Int} {L : List (Option AV)} (t : TM (I, J) B e) (er : ErM (I, J) (0, p)) (h17 : I 348 17 = 0) (h18 : R32 (I 348 18)) (hn : I 348 18 ≠ 0) (hK : ∀ I', F9 [10, 11] (I, J) (I', J) → ErM (I', J) (1, (tkA (sc B e) : Int)) → K none (I', J)) : B_X10_goes_78 K (some (.inr (.inr 348)) :: L) [] (I, J) := ⟨hM, b01 (Or.inl h17), fun z => absurd h17 z, fun _ => ⟨hM, h18, fun _ => ⟨hM, cs8 rfl, must_n er t (fun _ => rfl) (fun I' f _ er' => hK I' f er')⟩, fun z => absurd z hn⟩⟩
/-- an error ends the loop -/
theorem g34_b {x : Er} {L : List (Option AV)} (b : EBd (I, J) x) (hK : K none (I, J)) : B_X10_goes_34 K [some (.inr (.inr 348)), none] [] (I, J) := lfp_in ⟨hM, cs8 rfl, P_X10_isGood b.1 b.2.1 (fun y => absurd y b.2.2.1) (fun _ => ⟨R32_0, fun _ => c_kil rfl (g78_b b hK), fun z => absurd rfl z⟩)⟩
theorem goes1_lp {S : AS} {G : List (Nat × Pkt)} (hn : NM S) : ∀ (k e w : Nat) (stk : List (Nat × List Cm)) (cur : List Cm) (I J : Mi), B.length < e + k → stk.length ≤ 2 → w ≤ 30 → Q1 (I, J) B e stk.length w → HG 0 (I, J) S G → (∀ L, prs k B S e w stk cur = .inr L → ∀ I' J', FQ (I, J) (I', J') → ErM (I', J') (0, -1) → TBm (I', J') B → K none (I', J')) → (∀ x, prs k B S e w stk cur = .inl x → ∀ I' J', FQ (I, J) (I', J') → EBd (I', J') x → K none (I', J')) → B_X10_goes_34 K [some (.inr (.inr 348)), none] [] (I, J) := by
  have n9 : ∀ k ∈ [6, 7, 8, 9, 18], (6 ≤ k ∧ k < 12) ∨ (16 ≤ k ∧ k < 21) := by decide
  have n11 : ∀ k ∈ [6, 7, 8, 9, 10, 11, 18], (6 ≤ k ∧ k < 12) ∨ (16 ≤ k ∧ k < 21) := by decide
  intro k
  induction k with
  | zero =>
    intro e w stk cur I J hl _ _ q
    have := q.1.2.1
    omega
  | succ k ih =>
    intro e w stk cur I J hl hs hw q g k1 k0
    obtain ⟨t, er, q16, q17, q18, q19⟩ := q
    have hB := t.1.2.2.2.1
    have e8 : I 348 8 = (tkK (sc B e) : Int) := t.2.2.2.2.1
    have kr := (sc_facts hB t.2.1).2.2.2.1
    have q17 : I 348 17 = 0 := q17
    have q18 : I 348 18 = (stk.length : Int) := q18
    refine lfp_in ⟨hM, cs8 rfl, P_X10_isGood er R32_0 (fun _ => ⟨R32_1, fun z => absurd z (by decide), fun _ => ⟨hM, ?_⟩⟩) (fun z => absurd rfl z)⟩
    show o_if_eq _ _ _ [.inl (I 348 8)] (I, J)
    rw [e8]
    refine ⟨⟨by omega, by omega⟩, fun z => ?_, fun z => ⟨hM, b01 (Or.inl q17), fun y => absurd q17 y, fun _ => ⟨hM, cs8 rfl, t.isSign er R32_0 ⟨by decide, by decide⟩ (fun _ k3 n3 => ⟨R32_1, fun y => absurd y (by decide), fun _ => ⟨hM, cs8 rfl, ?_⟩⟩) (fun y => ⟨R32_0, fun _ => ⟨hM, cs8 rfl, ?_⟩, fun y => absurd rfl y⟩)⟩⟩⟩
    · -- the end
      have z : (tkK (sc B e) : Int) = 0 := z
      have k0' : tkK (sc B e) = 0 := by omega
      refine c_kil rfl ?_
      cases stk with
      | nil => exact g78_g er (Or.inl q17) (fun _ => q18) (k1 cur (prs_0 k0') I J FQ.refl er t.1)
      | cons a st =>
        have q18 : I 348 18 = ((st.length + 1 : Nat) : Int) := q18
        have hs : st.length + 1 ≤ 2 := hs
        refine g78_n t er q17 (by rw [q18]; exact ⟨by omega, by omega⟩) (by rw [q18]; omega) (fun I' f er' => k0 _ ((prs_m (fun y => by cases y) (fun _ y => absurd (k0'.symm.trans y.1) (by decide))).trans (bnd_l (if_pos (vrb_k (by omega))))) _ _ (f.fq (by decide)) (EBd.mk f q17 (by show R32 (I 348 18); rw [q18]; exact ⟨by omega, by omega⟩) er' R32_1 (by decide)))
    · -- the end of a repeat
      have nz : tkK (sc B e) ≠ 0 := by omega
      cases stk with
      | nil =>
        exact closes_0 t er q18 (fun I' f er' => c_kil rfl (g34_b (L := []) (EBd.mk f q17 (by show R32 (I 348 18); rw [q18]; exact R32_0) er' R32_1 (by decide)) (k0 _ ((prs_m (fun _ => nz) (fun y => absurd rfl y)).trans (bnd_l (if_pos (vrb_k (by omega))))) _ _ (f.fq (by decide)) (EBd.mk f q17 (by show R32 (I 348 18); rw [q18]; exact R32_0) er' R32_1 (by decide)))))
      | cons a st =>
        obtain ⟨n0, out⟩ := a
        have q18 : I 348 18 = (st.length : Int) + 1 := q18
        have hs : st.length + 1 ≤ 2 := hs
        have E0 : prs (k + 1) B S e w ((n0, out) :: st) cur = _ := prs_c ⟨k3, n3⟩
        refine closes_p1 t er (by omega) q18 q16 (fun e' hse I' J' f t' h => c_kil rfl ?_) (fun x hse I' J' f er' h => c_kil rfl ?_)
        · have := (sgn_r hB (sc_facts hB t.2.1).2.2.1 hse).1
          have := (sc_facts hB t.2.1).1
          have := (sc_facts hB t.2.1).2.1
          have E1 := E0.trans (bnd_r hse)
          have F := f.fq n9
          exact ih e' w st _ I' J' (by omega) (by omega) hw ⟨t', ⟨(f.2.1 10 (by decide)).trans er.1, (f.2.1 11 (by decide)).trans er.2⟩, (f.2.1 16 (by decide)).trans q16, (f.2.1 17 (by decide)).trans q17, h, (f.2.1 19 (by decide)).trans q19⟩ (g.fq F) (fun L hL I2 J2 F2 => k1 L (E1.trans hL) I2 J2 (F.trans F2)) (fun x hx I2 J2 F2 => k0 x (E1.trans hx) I2 J2 (F.trans F2))
        · have x1 := sgn_l hse
          have b : EBd (I', J') x := ⟨er', by rw [x1]; exact R32_1, by rw [x1]; decide, (f.2.1 17 (by decide)).trans q17, by show R32 (I' 348 18); rw [h]; exact ⟨by omega, by omega⟩⟩
          exact g34_b (L := []) b (k0 x (E0.trans (bnd_l hse)) _ _ (f.fq n11) b)
    · -- a command
      have nz : tkK (sc B e) ≠ 0 := fun x => z (by rw [x]; rfl)
      have E0 := prs_m (k := k) (B := B) (S := S) (e := e) (w := w) (cur := cur) (stk := stk) (fun _ => nz) (fun _ x => y ⟨rfl, x⟩)
      refine rc_p1 ⟨t, er, q16, q17, q18, q19⟩ g hn hs hw (fun e' n hr I' J' F q' => c_kil rfl ?_) (fun e' c hr I' J' F q' => c_kil rfl ?_) (fun x hr I' J' F b => c_kil rfl (g34_b (L := []) b (k0 x (E0.trans (bnd_l hr)) I' J' F b)))
      · obtain ⟨-, r2, r3, r4, r5, r6, r7, r8⟩ := cmdR_r hB t.2.1 hr
        have E1 := E0.trans (bnd_r hr)
        exact ih e' (w + 1) ((n, cur) :: stk) [] I' J' (by omega) (by show stk.length + 1 ≤ 2; omega) (by omega) q' (g.fq F) (fun L hL I2 J2 F2 => k1 L (E1.trans hL) I2 J2 (F.trans F2)) (fun x hx I2 J2 F2 => k0 x (E1.trans hx) I2 J2 (F.trans F2))
      · obtain ⟨-, r2, r3, r4, r5, r6, r7, r8⟩ := cmdR_r hB t.2.1 hr
        have E1 := E0.trans (bnd_r hr)
        exact ih e' (w + 1) stk (cur ++ [c]) I' J' (by omega) hs (by omega) q' (g.fq F) (fun L hL I2 J2 F2 => k1 L (E1.trans hL) I2 J2 (F.trans F2)) (fun x hx I2 J2 F2 => k0 x (E1.trans hx) I2 J2 (F.trans F2))
end
