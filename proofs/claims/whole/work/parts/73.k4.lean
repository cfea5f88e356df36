/-! PURE 61: the class reads tokens, further -/
theorem kOf_L (x : Int) : isL x = true ↔ kOf x = 1 := by
  unfold kOf
  constructor
  · intro z
    have := isL_iff.mp z
    rw [if_neg (fun y => absurd (isB_iff.mp y) (by omega)), if_pos z]
  · intro z
    split at z
    · exact absurd z (by decide)
    · split at z
      · assumption
      · split at z
        · exact absurd z (by decide)
        · split at z <;> exact absurd z (by decide)
theorem kOf_D (x : Int) : isD x = true ↔ kOf x = 2 := by
  unfold kOf
  constructor
  · intro z
    have := isD_iff.mp z
    rw [if_neg (fun y => absurd (isB_iff.mp y) (by omega)), if_neg (fun y => absurd (isL_iff.mp y) (by omega)), if_pos z]
  · intro z
    split at z
    · exact absurd z (by decide)
    · split at z
      · exact absurd z (by decide)
      · split at z
        · assumption
        · split at z <;> exact absurd z (by decide)
/-- behind the first byte of a token that is no run -/
theorem adv_one {I J : Mi} {K : Option AV → MM → Prop} {B : List Int} {a k : Nat} (h : TBc (I, J) B) (ha : a ≤ B.length) (h6 : I 1 6 = a) (h4 : I 1 4 = a) (h5 : I 1 5 = k) (hk : k = 0 ∨ k = 3 ∨ k = 5) (hk0 : k = 0 ↔ B.length ≤ a) (h7 : J 1 7 = 0) (hK : ∀ μ', F1 [4, 5, 7, 8] (I, J) μ' → μ'.1 1 4 = ((if k = 0 then a else a + 1 : Nat) : Int) → μ'.1 1 5 = k → (k ≠ 0 → μ'.2 1 7 = bA B a) → K none μ') : B_X8_advance_111 K [some (.inr (.inr 1)), some (.inl 0)] [] (I, J) := by
  have hl6 := h.2.1
  refine lfp_in ⟨h1T, h1T, ?_⟩
  show o_icmp_ge _ _ _ [.inl (I 1 1), .inl (I 1 4)] (I, J)
  rw [show I 1 1 = (B.length : Int) from h.1, h4]
  refine ⟨⟨by omega, by omega⟩, ⟨by omega, by omega⟩, fun q => ?_, fun q => ⟨h1T, h1T, ?_⟩⟩
  · have k0 : k = 0 := hk0.mpr (by have q : (B.length : Int) ≤ (a : Int) := q; omega)
    refine adv215 h4 h6 h5 (by omega) (by omega) (Nat.le_refl _) (fun _ => hK _ F1.refl (by rw [if_pos k0]; exact h4) h5 (fun z => absurd k0 z)) (fun z => absurd (by omega) z)
  · have q : ¬ (B.length : Int) ≤ (a : Int) := q
    have hal : a < B.length := by omega
    have k0 : k ≠ 0 := fun z => absurd (hk0.mp z) (by omega)
    show o_icmp_eq _ _ _ [.inl (I 1 6), .inl (I 1 4)] (I, J)
    rw [h6, h4]
    refine ⟨⟨by omega, by omega⟩, ⟨by omega, by omega⟩, fun _ => adv156 h h4 hal ?_, fun z => absurd rfl z⟩
    have fr : F1 [4, 5, 7, 8] (I, J) (uM (uM I 1 8 (10 * I 1 8 + bA B a - 48)) 1 4 ((a : Int) + 1), uM J 1 7 (J 1 7 * 256 + bA B a)) := ((F1.put (ks := [4, 5, 7, 8]) (I := I) (J := J) (by decide)).trans (F1.put (by decide))).trans F1.putL
    have h' := h.f1 fr (by decide)
    have g6 : uM (uM I 1 8 (10 * I 1 8 + bA B a - 48)) 1 4 ((a : Int) + 1) 1 6 = (a : Int) := by rw [uM_k (by decide), uM_k (by decide)]; exact h6
    have g4 : uM (uM I 1 8 (10 * I 1 8 + bA B a - 48)) 1 4 ((a : Int) + 1) 1 4 = ((a + 1 : Nat) : Int) := by rw [uM_s]; omega
    have g5 : uM (uM I 1 8 (10 * I 1 8 + bA B a - 48)) 1 4 ((a : Int) + 1) 1 5 = (k : Int) := by rw [uM_k (by decide), uM_k (by decide)]; exact h5
    have fin : B_X8_advance_215 K [some (.inr (.inr 1)), none] [] (uM (uM I 1 8 (10 * I 1 8 + bA B a - 48)) 1 4 ((a : Int) + 1), uM J 1 7 (J 1 7 * 256 + bA B a)) := by
      refine adv215 g4 g6 g5 (by omega) (by omega) (by omega) (fun _ => hK _ fr (by rw [if_neg k0]; exact g4) g5 (fun _ => ?_)) (fun z => absurd (by split <;> omega) z)
      show uM J 1 7 (J 1 7 * 256 + bA B a) 1 7 = _
      rw [uM_s, h7]
      omega
    refine lfp_in ⟨h1T, h1T, ?_⟩
    show o_icmp_ge _ _ _ [.inl (uM (uM I 1 8 (10 * I 1 8 + bA B a - 48)) 1 4 ((a : Int) + 1) 1 1), .inl (uM (uM I 1 8 (10 * I 1 8 + bA B a - 48)) 1 4 ((a : Int) + 1) 1 4)] _
    rw [show uM (uM I 1 8 (10 * I 1 8 + bA B a - 48)) 1 4 ((a : Int) + 1) 1 1 = (B.length : Int) from h'.1, g4]
    refine ⟨⟨by omega, by omega⟩, ⟨by omega, by omega⟩, fun _ => fin, fun q2 => ⟨h1T, h1T, ?_⟩⟩
    show o_icmp_eq _ _ _ [.inl (uM (uM I 1 8 (10 * I 1 8 + bA B a - 48)) 1 4 ((a : Int) + 1) 1 6), .inl (uM (uM I 1 8 (10 * I 1 8 + bA B a - 48)) 1 4 ((a : Int) + 1) 1 4)] _
    rw [g6, g4]
    exact ⟨⟨by omega, by omega⟩, ⟨by omega, by omega⟩, fun z => absurd z (by omega), fun _ => ⟨⟨by omega, by omega⟩, fun _ => fin, fun z => absurd rfl z⟩⟩
theorem adv76 {I J : Mi} {K : Option AV → MM → Prop} {B : List Int} {a k : Nat} (h : TBc (I, J) B) (ha : a ≤ B.length) (h6 : I 1 6 = a) (h4 : I 1 4 = a) (hnb : isB (bA B a) = false) (hk : k = if B.length ≤ a then 0 else kOf (bA B a)) (hK : ∀ μ', F1 [4, 5, 6, 7, 8] (I, J) μ' → TkC μ' (tka B a) → K none μ') : B_X8_advance_76 K [some (.inr (.inr 1)), none] [.inl (k : Int), .inr (.inr 1)] (I, J) := by
  have hr := bA_r h.2.2.2 a
  have ko := kOf_r (bA B a)
  have hk5 : k ≤ 5 := by rw [hk]; split <;> omega
  have fr : F1 [4, 5, 7, 8] (I, J) (uM (uM I 1 5 (k : Int)) 1 8 0, uM J 1 7 0) := ((F1.put (ks := [4, 5, 7, 8]) (I := I) (J := J) (by decide)).trans (F1.put (by decide))).trans F1.putL
  have h' := h.f1 fr (by decide)
  have g6 : uM (uM I 1 5 (k : Int)) 1 8 0 1 6 = (a : Int) := by rw [uM_k (by decide), uM_k (by decide)]; exact h6
  have g4 : uM (uM I 1 5 (k : Int)) 1 8 0 1 4 = ((a + 0 : Nat) : Int) := by rw [uM_k (by decide), uM_k (by decide)]; exact h4
  have g5 : uM (uM I 1 5 (k : Int)) 1 8 0 1 5 = (k : Int) := by rw [uM_k (by decide), uM_s]
  have g8 : uM (uM I 1 5 (k : Int)) 1 8 0 1 8 = 0 := uM_s
  have g7 : uM J 1 7 0 1 7 = 0 := uM_s
  have m6 : ∀ μ', F1 [4, 5, 7, 8] (uM (uM I 1 5 (k : Int)) 1 8 0, uM J 1 7 0) μ' → F1 [4, 5, 6, 7, 8] (I, J) μ' ∧ μ'.1 1 6 = a := fun μ' f => ⟨(fr.trans f).mono (by decide), (f.2.1 6 (by decide)).trans g6⟩
  have kB : ¬ isB (bA B a) = true := by rw [hnb]; exact Bool.false_ne_true
  refine ⟨h1T, h1T, h1T, h1T, ?_⟩
  show o_ci 1 _ _ [.inl (uM (uM I 1 5 (k : Int)) 1 8 0 1 5)] _
  rw [g5]
  refine ⟨⟨by omega, by omega⟩, ⟨by omega, by omega⟩, fun q => ?_, fun q => ⟨h1T, ?_⟩⟩
  · -- a word
    have k1 : k = 1 := by omega
    have hal : a < B.length := by
      refine Nat.not_le.mp (fun z => ?_)
      rw [if_pos z] at hk
      omega
    rw [if_neg (by omega)] at hk
    have hL : isL (bA B a) = true := (kOf_L _).mpr (by omega)
    have hp := rn_pos hal hL
    refine advR_lp (f := isL) (kk := 1) kOf_L (by decide) (by decide) hal (rn isL B a).length 0 _ _ (Nat.zero_add _) hp h' g6 g4 (by rw [k1] at g5; rw [k1]; exact g5) g7 g8 (fun μ' f e4 e5 e7 e8 => ?_)
    obtain ⟨f2, e6⟩ := m6 μ' f
    refine hK μ' f2 ?_
    have et : tka B a = (if (rn isL B a).length ≤ 8 then 1 else 4, a, a + (rn isL B a).length, let5 (rn isL B a), 0) := if_pos hL
    rw [et]
    refine ⟨e6, e4, ?_, fun z => ?_, fun z => ?_, fun z => ?_⟩
    · rw [e5]
      show (if (rn isL B a).length ≤ (if 1 = 1 then 8 else 4) then ((1 : Nat) : Int) else 5) = ((ckd (if (rn isL B a).length ≤ 8 then 1 else 4) : Nat) : Int)
      rw [if_pos rfl]
      split <;> rfl
    · rw [e7, v8_pk rn_all]
    · have z : (if (rn isL B a).length ≤ 8 then 1 else 4) = 2 := z
      split at z <;> omega
    · have z : (if (rn isL B a).length ≤ 8 then 1 else 4) = 3 := z
      split at z <;> omega
  · have k1 : k ≠ 1 := by have q : ¬ (k : Int) = 1 := q; omega
    show o_ci 2 _ _ [.inl (uM (uM I 1 5 (k : Int)) 1 8 0 1 5)] _
    rw [g5]
    refine ⟨⟨by omega, by omega⟩, ⟨by omega, by omega⟩, fun q2 => ?_, fun q2 => ?_⟩
    · have k2 : k ≠ 2 := by have q2 : ¬ (k : Int) = 2 := q2; omega
      have hL : ¬ (isL (bA B a) = true) := fun z => by
        have hal : ¬ B.length ≤ a := fun y => by rw [bA_no y] at z; exact absurd z (by decide)
        rw [if_neg hal, (kOf_L _).mp z] at hk
        omega
      have hD : ¬ (isD (bA B a) = true) := fun z => by
        have hal : ¬ B.length ≤ a := fun y => by rw [bA_no y] at z; exact absurd z (by decide)
        rw [if_neg hal, (kOf_D _).mp z] at hk
        omega
      have kv : k = if B.length ≤ a then 0 else if bA B a = 59 ∨ bA B a = 40 ∨ bA B a = 41 then 3 else 5 := by
        rw [hk]
        unfold kOf
        rw [if_neg kB, if_neg hL, if_neg hD]
      refine adv_one (k := k) h' ha g6 g4 g5 (by rw [kv]; split; exact Or.inl rfl; split; exact Or.inr (Or.inl rfl); exact Or.inr (Or.inr rfl)) ⟨fun z => ?_, fun z => by rw [kv, if_pos z]⟩ g7 (fun μ' f e4 e5 e7 => ?_)
      · rw [kv] at z
        split at z
        · assumption
        · split at z <;> omega
      obtain ⟨f2, e6⟩ := m6 μ' f
      refine hK μ' f2 ?_
      unfold tka
      rw [if_neg hL, if_neg hD]
      by_cases c3 : bA B a = 59 ∨ bA B a = 40 ∨ bA B a = 41
      · rw [if_pos c3]
        have hal : ¬ B.length ≤ a := fun y => by have := hr.2.2.mpr y; omega
        rw [if_neg hal, if_pos c3] at kv
        subst kv
        exact ⟨e6, e4, e5, fun z => absurd (show (3 : Nat) = 1 from z) (by decide), fun z => absurd (show (3 : Nat) = 2 from z) (by decide), fun _ => e7 (by decide)⟩
      · rw [if_neg c3]
        by_cases c4 : bA B a = -1
        · rw [if_pos c4]
          rw [if_pos (hr.2.2.mp c4)] at kv
          subst kv
          exact ⟨e6, e4, e5, fun z => absurd (show (0 : Nat) = 1 from z) (by decide), fun z => absurd (show (0 : Nat) = 2 from z) (by decide), fun z => absurd (show (0 : Nat) = 3 from z) (by decide)⟩
        · rw [if_neg c4]
          rw [if_neg (fun y => c4 (hr.2.2.mpr y)), if_neg c3] at kv
          subst kv
          exact ⟨e6, e4, e5, fun z => absurd (show (4 : Nat) = 1 from z) (by decide), fun z => absurd (show (4 : Nat) = 2 from z) (by decide), fun z => absurd (show (4 : Nat) = 3 from z) (by decide)⟩
    · -- a number
      have k2 : k = 2 := by omega
      have hal : a < B.length := by
        refine Nat.not_le.mp (fun z => ?_)
        rw [if_pos z] at hk
        omega
      rw [if_neg (by omega)] at hk
      have hD : isD (bA B a) = true := (kOf_D _).mpr (by omega)
      have hL : ¬ isL (bA B a) = true := fun z => by
        have := (kOf_L _).mp z
        omega
      have hp := rn_pos hal hD
      refine advR_lp (f := isD) (kk := 2) kOf_D (by decide) (by decide) hal (rn isD B a).length 0 _ _ (Nat.zero_add _) hp h' g6 g4 (by rw [k2] at g5; rw [k2]; exact g5) g7 g8 (fun μ' f e4 e5 e7 e8 => ?_)
      obtain ⟨f2, e6⟩ := m6 μ' f
      refine hK μ' f2 ?_
      have et : tka B a = (if (rn isD B a).length ≤ 4 then 2 else 4, a, a + (rn isD B a).length, [], nv (rn isD B a)) := (if_neg hL).trans (if_pos hD)
      rw [et]
      refine ⟨e6, e4, ?_, fun z => ?_, fun z => e8, fun z => ?_⟩
      · rw [e5]
        show (if (rn isD B a).length ≤ (if 2 = 1 then 8 else 4) then ((2 : Nat) : Int) else 5) = ((ckd (if (rn isD B a).length ≤ 4 then 2 else 4) : Nat) : Int)
        rw [if_neg (show ¬ 2 = 1 by decide)]
        split <;> rfl
      · have z : (if (rn isD B a).length ≤ 4 then 2 else 4) = 1 := z
        split at z <;> omega
      · have z : (if (rn isD B a).length ≤ 4 then 2 else 4) = 3 := z
        split at z <;> omega
theorem adv40 {I J : Mi} {K : Option AV → MM → Prop} {B : List Int} {a : Nat} (h : TBc (I, J) B) (ha : a ≤ B.length) (h4 : I 1 4 = a) (hnb : isB (bA B a) = false) (hK : ∀ μ', F1 [4, 5, 6, 7, 8] (I, J) μ' → TkC μ' (tka B a) → K none μ') : B_X8_advance_40 K [some (.inr (.inr 1)), none] [] (I, J) := by
  have hl6 := h.2.1
  have fr : F1 [4, 5, 6, 7, 8] (I, J) (uM I 1 6 (a : Int), J) := F1.put (by decide)
  have h' := h.f1 fr (by decide)
  have g4 : uM I 1 6 (a : Int) 1 4 = (a : Int) := by rw [uM_k (by decide)]; exact h4
  refine ⟨h1T, h1T, h1T, h1T, ?_⟩
  show o_icmp_ge _ _ _ [.inl (uM I 1 6 (I 1 4) 1 1), .inl (uM I 1 6 (I 1 4) 1 4), .inr (.inr 1)] (uM I 1 6 (I 1 4), J)
  rw [h4, g4, show uM I 1 6 (a : Int) 1 1 = (B.length : Int) from h'.1]
  refine ⟨⟨by omega, by omega⟩, ⟨by omega, by omega⟩, fun q => ?_, fun q => ⟨h1T, h1T, ?_⟩⟩
  · have q : (B.length : Int) ≤ (a : Int) := q
    exact adv76 (k := 0) h' ha uM_s g4 hnb (by rw [if_pos (by omega)]) (fun μ' f t => hK μ' (fr.trans f) t)
  · have q : ¬ (B.length : Int) ≤ (a : Int) := q
    have hal : a < B.length := by omega
    have hb := h.2.2.2 _ (List.mem_of_getElem? (bA_at hal))
    show o_iald _ _ [.inl (uM I 1 6 (a : Int) 1 4), .inr (.inr 2), .inr (.inr 1)] (uM I 1 6 (a : Int), J)
    rw [g4]
    refine ⟨h2b.1, by omega, by show (a : Int) < ((ln 2 : Nat) : Int); rw [h2b.2]; omega, ?_⟩
    show _ ∧ _ ∧ w_X8_kindOf [.inl (uM I 1 6 (a : Int) 2 a)] _ _
    have hv : uM I 1 6 (a : Int) 2 a = bA B a := h'.2.2.1 _ _ (bA_at hal)
    rw [hv]
    refine ⟨cs8 rfl, cs8 rfl, P_X8_kindOf ⟨by omega, by omega⟩ ?_⟩
    exact adv76 (k := kOf (bA B a)) h' ha uM_s g4 hnb (by rw [if_neg (by omega)]) (fun μ' f t => hK μ' (fr.trans f) t)
theorem adv_lp {K : Option AV → MM → Prop} {B : List Int} : ∀ (k e : Nat) (I J : Mi), (rn isB B e).length = k → e ≤ B.length → TBc (I, J) B → I 1 4 = e → (∀ μ', F1 [4, 5, 6, 7, 8] (I, J) μ' → TkC μ' (sc B e) → K none μ') → B_X8_advance_0 K [some (.inr (.inr 1)), none] [] (I, J) := by
  intro k
  induction k with
  | zero =>
    intro e I J hk he h h4 hK
    have hl6 := h.2.1
    have hnb : isB (bA B e) = false := rn_end (f := isB) (by decide) 0 e hk
    rw [sc_n hnb] at hK
    refine lfp_in ⟨h1T, h1T, ?_⟩
    show o_icmp_ge _ _ _ [.inl (I 1 1), .inl (I 1 4)] (I, J)
    rw [show I 1 1 = (B.length : Int) from h.1, h4]
    refine ⟨⟨by omega, by omega⟩, ⟨by omega, by omega⟩, fun _ => adv40 h he h4 hnb hK, fun q => ⟨h1T, h1T, ?_⟩⟩
    have q : ¬ (B.length : Int) ≤ (e : Int) := q
    have hal : e < B.length := by omega
    have hb := h.2.2.2 _ (List.mem_of_getElem? (bA_at hal))
    show o_iald _ _ [.inl (I 1 4), .inr (.inr 2)] (I, J)
    rw [h4]
    refine ⟨h2b.1, by omega, by show (e : Int) < ((ln 2 : Nat) : Int); rw [h2b.2]; omega, ?_⟩
    show _ ∧ _ ∧ w_X8_kindOf [.inl (I 2 e)] _ _
    have hv : I 2 e = bA B e := h.2.2.1 _ _ (bA_at hal)
    rw [hv]
    have ko := kOf_r (bA B e)
    refine ⟨cs8 rfl, cs8 rfl, P_X8_kindOf ⟨by omega, by omega⟩ ⟨⟨by omega, by omega⟩, ⟨by omega, by omega⟩, fun _ => adv40 h he h4 hnb hK, fun z => ?_⟩⟩
    exfalso
    have z : kOf (bA B e) = 4 := by have z : ((kOf (bA B e) : Nat) : Int) = 4 := z; omega
    unfold kOf at z
    rw [if_neg (by rw [hnb]; exact Bool.false_ne_true)] at z
    split at z
    · exact absurd z (by decide)
    · split at z
      · exact absurd z (by decide)
      · split at z <;> exact absurd z (by decide)
  | succ k ih =>
    intro e I J hk he h h4 hK
    have hl6 := h.2.1
    have hb : isB (bA B e) = true := by
      cases hh : isB (bA B e) with
      | true => rfl
      | false => rw [rn_e (Or.inr hh)] at hk; exact absurd hk.symm (Nat.succ_ne_zero _)
    have hal : e < B.length := by
      refine Nat.not_le.mp (fun z => ?_)
      rw [bA_no z] at hb
      exact absurd hb (by decide)
    have hby := h.2.2.2 _ (List.mem_of_getElem? (bA_at hal))
    rw [sc_b hb] at hK
    rw [rn_s hal hb, List.length_cons] at hk
    refine lfp_in ⟨h1T, h1T, ?_⟩
    show o_icmp_ge _ _ _ [.inl (I 1 1), .inl (I 1 4)] (I, J)
    rw [show I 1 1 = (B.length : Int) from h.1, h4]
    refine ⟨⟨by omega, by omega⟩, ⟨by omega, by omega⟩, fun z => absurd z (by show ¬ (B.length : Int) ≤ (e : Int); omega), fun q => ⟨h1T, h1T, ?_⟩⟩
    show o_iald _ _ [.inl (I 1 4), .inr (.inr 2)] (I, J)
    rw [h4]
    refine ⟨h2b.1, by omega, by show (e : Int) < ((ln 2 : Nat) : Int); rw [h2b.2]; omega, ?_⟩
    show _ ∧ _ ∧ w_X8_kindOf [.inl (I 2 e)] _ _
    have hv : I 2 e = bA B e := h.2.2.1 _ _ (bA_at hal)
    rw [hv]
    have ko : kOf (bA B e) = 4 := by unfold kOf; rw [if_pos hb]
    refine ⟨cs8 rfl, cs8 rfl, P_X8_kindOf ⟨by omega, by omega⟩ ?_⟩
    rw [ko]
    refine ⟨⟨by omega, by omega⟩, ⟨by omega, by omega⟩, fun z => absurd rfl z, fun _ => ⟨h1T, h1T, ?_⟩⟩
    show B_X8_advance_0 K [some (.inr (.inr 1)), none] [] (uM I 1 4 (I 1 4 + 1), J)
    rw [h4]
    have fr : F1 [4, 5, 6, 7, 8] (I, J) (uM I 1 4 ((e : Int) + 1), J) := F1.put (by decide)
    exact ih (e + 1) _ _ (by omega) (by omega) (h.f1 fr (by decide)) uM_s (fun μ' f t => hK μ' (fr.trans f) t)
theorem P_X8_advance {I J : Mi} {K : Option AV → MM → Prop} {B : List Int} {e : Nat} (h : TBc (I, J) B) (h4 : I 1 4 = e) (he : e ≤ B.length) (hK : ∀ μ', F1 [4, 5, 6, 7, 8] (I, J) μ' → TBc μ' B → TkC μ' (sc B e) → K none μ') : w_X8_advance [.inr (.inr 1)] (I, J) K :=
  ⟨cs8 rfl, adv_lp _ e I J rfl he h h4 (fun μ' f t => hK μ' f (h.f1 f (by decide)) t)⟩
