/-! PURE 79: the class reads scripts, further -/
theorem c_kil {ks : List Nat} {k : PT} {L L' : List (Option AV)} {st : List AV} {μ : MM} (e : kil L ks = L') (h : k L' st μ) : o_kil ks k L st μ := by
  subst e
  exact h
/-- what reading on from a command finds -/
def CR2 (μ : MM) (stk : List (Nat × List Cm)) (cur : List Cm) (w : Nat) : Nat × Nat ⊕ Nat × Cm → Prop
  | .inl (e', n) => μ.1 1 4 = ((e' : Nat) : Int) ∧ CS μ ((n, cur) :: stk) [] (w + 1)
  | .inr (e', c) => μ.1 1 4 = ((e' : Nat) : Int) ∧ CS μ stk (cur ++ [c]) (w + 1)
theorem SD.put4 {I J : Mi} {B : List Int} {S : AS} {k : Nat} {v : Int} (h : SD (I, J) B S) : SD (uM I 4 k v, J) B S := h.far (fun a q => uM_r (by omega))
theorem P_X5_readCommand {I J : Mi} {K : Option AV → MM → Prop} {B : List Int} {e w : Nat} {S : AS} {stk : List (Nat × List Cm)} {cur : List Cm} (t : TC (I, J) B e) (sd : SD (I, J) B S) (hn : NM S) (cs : CS (I, J) stk cur w) (hd : stk.length ≤ 2) (hw : w ≤ 30) (k1 : ∀ r, cmdR B S e w stk.length = .inr r → ∀ I' J', FSc (I, J) (I', J') → SD (I', J') B S → CR2 (I', J') stk cur w r → K (some (.inl 1)) (I', J')) (k0 : ∀ x, cmdR B S e w stk.length = .inl x → ∀ μ', FSc (I, J) μ' → ErC μ' x → K (some (.inl 0)) μ') : w_X5_readCommand [.inr (.inr 4), .inr (.inr 1), .inr (.inr 11)] (I, J) K := by
  have hB := sd.1.2.2.2
  have vr := vrb_r (sc B e)
  obtain ⟨f1, f2, f3, -⟩ := sc_facts hB t.2.1
  have g8 : I 4 8 = (stk.length : Int) := cs.2.1
  have g5 : I 4 5 = (w : Int) := cs.2.2.1
  have fl : ∀ (c : Int), cmdR B S e w stk.length = .inl (c, (tkA (sc B e) : Int)) → w_X8_fail [.inr (.inr 1), .inl c] (I, J) (fun v μ' => o_zret (fun v μ' => K v μ') [] (v.toList ++ []) μ') := fun c hc => t.fail (fun μ' f' er => ⟨Or.inl rfl, k0 _ hc μ' (f'.fs (by decide)) er⟩)
  have s36 : ¬ vrb (sc B e) = -1 → ¬ (vrb (sc B e) = 6 ∧ 2 ≤ stk.length) → B_X5_readCommand_36 (fun v μ' => K v μ') [some (.inr (.inr 4)), some (.inr (.inr 1)), some (.inr (.inr 11)), some (.inl (vrb (sc B e)))] [] (I, J) := by
    intro h1 h6
    refine ⟨h4S, ?_⟩
    show o_ci 30 _ _ [.inl (I 4 5)] (I, J)
    rw [g5]
    refine ⟨⟨by omega, by omega⟩, ⟨by omega, by omega⟩, fun q => ?_, fun q => ⟨h1T, cs8 rfl, t.fail (fun μ' f' er => ⟨Or.inl rfl, k0 _ ((if_neg h1).trans ((if_neg h6).trans (if_pos (by have q : ¬ (w : Int) < 30 := q; omega)))) μ' (f'.fs (by decide)) er⟩)⟩⟩
    have hw30 : ¬ 30 ≤ w := by have q : (w : Int) < 30 := q; omega
    have E0 : cmdR B S e w stk.length = cmd2 B S e := (if_neg h1).trans ((if_neg h6).trans (if_neg hw30))
    refine ⟨h4S, h4S, ?_⟩
    show o_iload 3 _ _ [] (uM I 4 5 (I 4 5 + 1), J)
    rw [g5, show (w : Int) + 1 = ((w + 1 : Nat) : Int) by omega]
    have sd2 : SD (uM I 4 5 ((w + 1 : Nat) : Int), J) B S := sd.put4
    have u2 : uM I 4 5 ((w + 1 : Nat) : Int) 1 4 = (tkE (sc B e) : Int) := (uM_e (by decide)).trans t.2.2.2.1
    have F2a : FSc (I, J) (uM I 4 5 ((w + 1 : Nat) : Int), J) := FSc.far (fun a q => uM_r (by omega))
    have sc2 : SC (uM I 4 5 ((w + 1 : Nat) : Int), J) ((full stk cur).take 40) := ⟨cs.1.1, (uM_k (I := I) (e := 4) (k := 5) (k' := 4) (v := ((w + 1 : Nat) : Int)) (by decide)).trans cs.1.2.1, fun i c hc => by
      have z : ∀ a, a ≠ 4 → uM I 4 5 ((w + 1 : Nat) : Int) a = I a := fun a q => uM_r q
      rw [show (uM I 4 5 ((w + 1 : Nat) : Int), J).1 = uM I 4 5 ((w + 1 : Nat) : Int) from rfl, z 5 (by decide), z 6 (by decide), z 7 (by decide), z 8 (by decide)]
      exact cs.1.2.2 i c hc⟩
    have g8' : uM I 4 5 ((w + 1 : Nat) : Int) 4 8 = (stk.length : Int) := (uM_k (by decide)).trans g8
    have g5' : uM I 4 5 ((w + 1 : Nat) : Int) 4 5 = ((w + 1 : Nat) : Int) := uM_s
    have sk2 : SK (uM I 4 5 ((w + 1 : Nat) : Int), J) stk := by
      have z : ∀ a, a ≠ 4 → uM I 4 5 ((w + 1 : Nat) : Int) a = I a := fun a q => uM_r q
      exact SK.eq (μ := (I, J)) (μ' := (uM I 4 5 ((w + 1 : Nat) : Int), J)) (z 9 (by decide)) (z 10 (by decide)) cs.2.2.2
    refine ⟨⟨by omega, by omega⟩, ⟨by omega, by omega⟩, fun q6 => ?_, fun q6 => ?_⟩
    · have E1 : cmd2 B S e = bnd (pln B S (vrb (sc B e)).toNat (tkE (sc B e))) (fun y => bnd (sgn B y.1 59) (fun e' => .inr (.inr (e', y.2)))) := if_neg q6
      obtain ⟨v, hv⟩ : ∃ v : Nat, vrb (sc B e) = v := ⟨(vrb (sc B e)).toNat, by omega⟩
      rw [hv, Int.toNat_natCast] at E1
      have E2 : cmd2 B S e = bnd (plS B (pln B S v (tkE (sc B e)))) (fun y => .inr (.inr y)) := by
        rw [E1]
        unfold plS
        cases pln B S v (tkE (sc B e)) with
        | inl x => rfl
        | inr y => show bnd (sgn B y.1 59) _ = bnd (bnd (sgn B y.1 59) _) _; cases sgn B y.1 59 <;> rfl
      rw [hv]
      refine ⟨h4S, cs8 rfl, P_X5_readPlain (v := v) (by omega) sd2 hn u2 f3 sc2 (fun e' c hr I' J' F C sd' u' s' => ⟨Or.inr rfl, k1 (.inr (e', c)) (E0.trans (E2.trans (bnd_r hr))) I' J' (F2a.trans F) sd' ⟨u', ?_⟩⟩) (fun x hr μ' F er => ⟨Or.inl rfl, k0 x (E0.trans (E2.trans (bnd_l hr))) μ' (F2a.trans F) er⟩)⟩
      refine ⟨?_, (C.1 8 (by decide)).trans g8', (C.1 5 (by decide)).trans g5', SK.eq C.2.1 C.2.2 sk2⟩
      rw [full_app, ← t40]
      exact s'
    · have q6 : vrb (sc B e) = 6 := q6
      have E1 : cmd2 B S e = bnd (rpt B (tkE (sc B e))) (fun r => .inr (.inl r)) := if_pos q6
      refine ⟨h4S, cs8 rfl, P_X5_openRepeat (w := ((w + 1 : Nat) : Int)) sd2 u2 f3 sc2 g8' g5' sk2 (by omega) (fun e' n hr I' J' F sd' u' s' s8 s5 sk' => ⟨Or.inr rfl, k1 (.inl (e', n)) (E0.trans (E1.trans (bnd_r hr))) I' J' (F2a.trans F) sd' ⟨u', s', s8, s5, sk'⟩⟩) (fun x hr μ' F er => ⟨Or.inl rfl, k0 x (E0.trans (E1.trans (bnd_l hr))) μ' (F2a.trans F) er⟩)⟩
  refine ⟨cs8 rfl, by decide, cs8 rfl, P_X5_verbOf t (st_i (L' := [some (.inr (.inr 4)), some (.inr (.inr 1)), some (.inr (.inr 11)), some (.inl (vrb (sc B e)))]) rfl ⟨⟨by omega, by omega⟩, ⟨by omega, by omega⟩, fun q => ⟨⟨by omega, by omega⟩, ⟨by omega, by omega⟩, fun q6 => s36 q (fun z => q6 z.1), fun q6 => ⟨h4S, ?_⟩⟩, fun q => ⟨h1T, cs8 rfl, t.fail (fun μ' f' er => ⟨Or.inl rfl, k0 _ (if_pos q) μ' (f'.fs (by decide)) er⟩)⟩⟩)⟩
  show o_ci 2 _ _ [.inl (I 4 8)] (I, J)
  rw [g8]
  refine ⟨⟨by omega, by omega⟩, ⟨by omega, by omega⟩, fun q2 => s36 q (fun z => by have q2 : (stk.length : Int) < 2 := q2; omega), fun q2 => ⟨h1T, cs8 rfl, t.fail (fun μ' f' er => ⟨Or.inl rfl, k0 _ ((if_neg q).trans (if_pos ⟨q6, by have q2 : ¬ (stk.length : Int) < 2 := q2; omega⟩)) μ' (f'.fs (by decide)) er⟩)⟩⟩
theorem scriptFrom_lp {K : Option AV → MM → Prop} {B : List Int} {S : AS} (hn : NM S) : ∀ (k i e w : Nat) (I J : Mi) (stk : List (Nat × List Cm)) (cur : List Cm), i + k = 601 → B.length < e + k → e ≤ B.length → SD (I, J) B S → I 1 4 = e → CS (I, J) stk cur w → stk.length ≤ 2 → w ≤ 30 → (∀ L, prs k B S e w stk cur = .inr L → ∀ I' J', FSc (I, J) (I', J') → SD (I', J') B S → SC (I', J') (L.take 40) → K (some (.inl 1)) (I', J')) → (∀ x, prs k B S e w stk cur = .inl x → ∀ μ', FSc (I, J) μ' → ErC μ' x → K (some (.inl 0)) μ') → B_X5_readFrom_21 K [some (.inr (.inr 4)), some (.inr (.inr 1)), some (.inr (.inr 11)), some (.inl (i : Int)), none] [] (I, J) := by
  intro k
  induction k with
  | zero => intro i e w I J stk cur hi hl he; omega
  | succ k ih =>
    intro i e w I J stk cur hi hl he sd u cs hd hw k1 k0
    have hB := sd.1.2.2.2
    refine lfp_in ⟨⟨by omega, by omega⟩, ⟨by omega, by omega⟩, fun z => absurd z (by show ¬ (600 : Int) < (i : Int); omega), fun _ => ⟨h1T, cs8 rfl, C_adv sd.1 u he (fun I1 J1 F t => ⟨h4S, ?_⟩)⟩⟩
    have sd1 := sd.f1 F (by decide)
    have cs1 := cs.f1 F
    have F1a : FSc (I, J) (I1, J1) := F.fs (by decide)
    have g8 : I1 4 8 = (stk.length : Int) := cs1.2.1
    have e5 : I1 1 5 = (ckd (tkK (sc B e)) : Int) := t.2.2.2.2.1
    have c0 := ckd_lt (n := 0) (k := tkK (sc B e)) (by decide)
    obtain ⟨f1, f2, f3, f4, f5, f6, f7, f8, f9⟩ := sc_facts hB he
    have cr : ckd (tkK (sc B e)) ≤ 5 := by unfold ckd; split <;> omega
    have er0 : B_X5_readFrom_96 K (kil [some (.inr (.inr 4)), some (.inr (.inr 1)), some (.inr (.inr 11)), some (.inl (i : Int)), none] [0, 1, 2, 3, 4]) [] = fun μ' => o_zret K (kil [some (.inr (.inr 4)), some (.inr (.inr 1)), some (.inr (.inr 11)), some (.inl (i : Int)), none] [0, 1, 2, 3, 4]) [.inl 0] μ' := rfl
    -- a command
    have cmd : (stk = [] → ¬ tkK (sc B e) = 0) → (stk ≠ [] → ¬ (tkK (sc B e) = 3 ∧ tkN (sc B e) = 41)) → B_X5_readFrom_68 K (B_X5_readFrom_21 K) [some (.inr (.inr 4)), some (.inr (.inr 1)), some (.inr (.inr 11)), some (.inl (i : Int)), none] [] (I1, J1) := by
      intro m0 m1
      have E0 := prs_m (k := k) (S := S) (w := w) (cur := cur) m0 m1
      refine c_ci (c_kil (L' := [some (.inr (.inr 4)), some (.inr (.inr 1)), some (.inr (.inr 11)), some (.inl (i : Int)), none]) rfl (st_i (L' := [some (.inr (.inr 4)), some (.inr (.inr 1)), some (.inr (.inr 11)), some (.inl (i : Int)), some (.inl 0)]) rfl ⟨⟨by omega, by omega⟩, fun _ => ⟨h4S, cs8 rfl, P_X5_readCommand t sd1 hn cs1 hd hw (fun r hr I2 J2 F2 sd2 cr2 => ⟨⟨by omega, by omega⟩, fun _ => ?_, fun z => absurd z (by decide)⟩) (fun x hr μ' F2 er => ⟨⟨by omega, by omega⟩, fun z => absurd rfl z, fun _ => ⟨Or.inl rfl, k0 x (E0.trans (bnd_l hr)) μ' (F1a.trans F2) er⟩⟩)⟩, fun z => absurd rfl z⟩))
      have FF := F1a.trans F2
      obtain ⟨c2, hw30, hrr⟩ := cmdR_r hB he hr
      cases r with
      | inl q =>
        obtain ⟨e', n⟩ := q
        obtain ⟨r1, r2, r3, r4, r5, r6⟩ := hrr
        obtain ⟨u2, cs2⟩ := cr2
        exact ih (i + 1) e' (w + 1) I2 J2 ((n, cur) :: stk) [] (by omega) (by omega) r6 sd2 u2 cs2 (by rw [List.length_cons]; omega) hw30 (fun L hL I' J' F' => k1 L (E0.trans ((bnd_r hr).trans hL)) I' J' (FF.trans F')) (fun x hx μ' F' => k0 x (E0.trans ((bnd_r hr).trans hx)) μ' (FF.trans F'))
      | inr q =>
        obtain ⟨e', c⟩ := q
        obtain ⟨r1, r2, r3, r4, r5, r6⟩ := hrr
        obtain ⟨u2, cs2⟩ := cr2
        exact ih (i + 1) e' (w + 1) I2 J2 stk (cur ++ [c]) (by omega) (by omega) r6 sd2 u2 cs2 hd hw30 (fun L hL I' J' F' => k1 L (E0.trans ((bnd_r hr).trans hL)) I' J' (FF.trans F')) (fun x hx μ' F' => k0 x (E0.trans ((bnd_r hr).trans hx)) μ' (FF.trans F'))
    -- behind the question for the end
    have s48 : (stk = [] → ¬ tkK (sc B e) = 0) → B_X5_readFrom_48 K (B_X5_readFrom_21 K) [some (.inr (.inr 4)), some (.inr (.inr 1)), some (.inr (.inr 11)), some (.inl (i : Int)), none] [] (I1, J1) := by
      intro m0
      refine ⟨h4S, ?_⟩
      show o_if_le _ _ _ [.inl (I1 4 8)] (I1, J1)
      rw [g8]
      refine ⟨⟨by omega, by omega⟩, fun q => cmd m0 (fun z => absurd (List.length_eq_zero_iff.mp (by have q : (stk.length : Int) ≤ 0 := q; omega)) z), fun q => ⟨h1T, cs8 rfl, t.isSign ⟨by decide, by decide⟩ (fun k3 n3 => ⟨⟨by omega, by omega⟩, fun z => absurd z (by decide), fun _ => ?_⟩) (fun z => ⟨⟨by omega, by omega⟩, fun _ => cmd m0 (fun _ => z), fun y => absurd rfl y⟩)⟩⟩
      obtain ⟨n0, out, st, rfl⟩ : ∃ n0 out st, stk = (n0, out) :: st := by
        cases stk with
        | nil => exact absurd (by show ((0 : Nat) : Int) ≤ 0; decide) q
        | cons y st => exact ⟨y.1, y.2, st, rfl⟩
      have E0 := prs_c (k := k) (S := S) (w := w) (n0 := n0) (out := out) (cur := cur) (st := st) ⟨k3, n3⟩
      refine c_ci (c_kil (L' := [some (.inr (.inr 4)), some (.inr (.inr 1)), some (.inr (.inr 11)), some (.inl (i : Int)), none]) rfl (st_i (L' := [some (.inr (.inr 4)), some (.inr (.inr 1)), some (.inr (.inr 11)), some (.inl (i : Int)), some (.inl 1)]) rfl ⟨⟨by omega, by omega⟩, fun z => absurd z (by decide), fun _ => ⟨h4S, cs8 rfl, P_X5_closeRepeat (e := tkE (sc B e)) sd1 t.2.2.2.1 f3 cs1 (by rw [List.length_cons] at hd; omega) (fun e' hs I2 J2 F2 sd2 u2 cs2 => ⟨⟨by omega, by omega⟩, fun z => absurd z (by decide), fun _ => ?_⟩) (fun x hs μ' F2 er => ⟨⟨by omega, by omega⟩, fun _ => ⟨Or.inl rfl, k0 x (E0.trans (bnd_l hs)) μ' (F1a.trans F2) er⟩, fun z => absurd rfl z⟩)⟩⟩))
      have FF := F1a.trans F2
      obtain ⟨s1, s2⟩ := sgn_r hB f3 hs
      exact ih (i + 1) e' w I2 J2 st (out ++ rp n0 cur) (by omega) (by omega) s2 sd2 u2 cs2 (by rw [List.length_cons] at hd; omega) hw (fun L hL I' J' F' => k1 L (E0.trans ((bnd_r hs).trans hL)) I' J' (FF.trans F')) (fun x hx μ' F' => k0 x (E0.trans ((bnd_r hs).trans hx)) μ' (FF.trans F'))
    show o_if_ne _ _ _ [.inl (I1 4 8)] (I1, J1)
    rw [g8]
    refine ⟨⟨by omega, by omega⟩, fun q => s48 (fun z => absurd (by rw [z]; rfl) q), fun q => ⟨h1T, ?_⟩⟩
    have s0 : stk = [] := List.length_eq_zero_iff.mp (by have q : (stk.length : Int) = 0 := q; omega)
    show o_if_ne _ _ _ [.inl (I1 1 5)] (I1, J1)
    rw [e5]
    refine ⟨⟨by omega, by omega⟩, fun q2 => s48 (fun _ z => q2 (by rw [c0.mpr z]; rfl)), fun q2 => ⟨Or.inr rfl, ?_⟩⟩
    have kz : tkK (sc B e) = 0 := c0.mp (by omega)
    subst s0
    exact k1 cur (prs_0 kz) I1 J1 F1a sd1 cs1.1
theorem P_X5_readFrom {I J : Mi} {K : Option AV → MM → Prop} {B : List Int} {S : AS} (hn : NM S) (h : TBc (I, J) B) (hS : HC 11 (I, J) S) (k1 : ∀ L, prs 601 B S 0 0 [] [] = .inr L → ∀ I' J', FSc (I, J) (I', J') → SD (I', J') B S → SC (I', J') (L.take 40) → K (some (.inl 1)) (I', J')) (k0 : ∀ x, prs 601 B S 0 0 [] [] = .inl x → ∀ μ', FSc (I, J) μ' → ErC μ' x → K (some (.inl 0)) μ') : w_X5_readFrom [.inr (.inr 4), .inr (.inr 1), .inr (.inr 11)] (I, J) K := by
  have hl := h.2.1
  refine ⟨cs8 rfl, h4S, h4S, h4S, h1T, cs8 rfl, P_X8_begin (fun μ2 F2 u2 er => ?_)⟩
  have F2 : F1 [2, 3, 4] (uM (uM (uM I 4 4 0) 4 5 0) 4 8 0, J) μ2 := F2
  have z : ∀ a, a ≠ 4 → uM (uM (uM I 4 4 0) 4 5 0) 4 8 0 a = I a := fun a q => by rw [uM_r q, uM_r q, uM_r q]
  have F0 : FSc (I, J) (uM (uM (uM I 4 4 0) 4 5 0) 4 8 0, J) := FSc.far (fun a q => z a (by omega))
  have tb : TBc (uM (uM (uM I 4 4 0) 4 5 0) 4 8 0, J) B := ⟨by show uM (uM (uM I 4 4 0) 4 5 0) 4 8 0 1 1 = _; rw [z 1 (by decide)]; exact h.1, h.2.1, h.2.2.1.eq (z 2 (by decide)), h.2.2.2⟩
  have hS2 : HC 11 (uM (uM (uM I 4 4 0) 4 5 0) 4 8 0, J) S := HC_fr hS (fun a x y => ⟨z a (by omega), rfl⟩)
  have sd2 : SD μ2 B S := ⟨tb.f1 F2 (by decide), HC_fr hS2 (fun a x y => ⟨F2.1 a (by omega), F2.2.2 a (by omega)⟩), er⟩
  have i4 : μ2.1 4 = uM (uM (uM I 4 4 0) 4 5 0) 4 8 0 4 := F2.1 4 (by decide)
  have cs2 : CS μ2 [] [] 0 := ⟨⟨by decide, by rw [i4, uM_k (by decide), uM_k (by decide), uM_s]; rfl, fun i c hc => by have hc : ([] : List Cm)[i]? = some c := hc; simp at hc⟩, by rw [i4, uM_s]; rfl, by rw [i4, uM_k (by decide), uM_s]; rfl, trivial⟩
  have FF := F0.trans (F2.fs (by decide))
  exact c_ci (st_i (L' := [some (.inr (.inr 4)), some (.inr (.inr 1)), some (.inr (.inr 11)), some (.inl ((0 : Nat) : Int)), none]) rfl (scriptFrom_lp hn 601 0 0 0 μ2.1 μ2.2 [] [] rfl (by omega) (Nat.zero_le _) sd2 u2 cs2 (by decide) (by decide) (fun L hL I' J' F' => k1 L hL I' J' (FF.trans F')) (fun x hx μ' F' => k0 x hx μ' (FF.trans F'))))
