/-! PURE 77: the class reads plain commands and repeats -/
theorem sw11 : sw 11 := by decide
theorem c_ci {v : Int} {k : PT} {L : List (Option AV)} {st : List AV} {μ : MM} (h : k L (.inl v :: st) μ) : o_ci v k L st μ := h
theorem SD.far {I J I' : Mi} {B : List Int} {S : AS} (h : SD (I, J) B S) (f : ∀ a, (a < 4 ∨ 11 ≤ a) → I' a = I a) : SD (I', J) B S := by
  have i1 : I' 1 = I 1 := f 1 (by omega)
  obtain ⟨⟨a1, a2, a3, a4⟩, b, c1, c2⟩ := h
  exact ⟨⟨by show I' 1 1 = _; rw [i1]; exact a1, a2, a3.eq (f 2 (by omega)), a4⟩, HC_fr b (fun a x y => ⟨f a (by omega), rfl⟩), by show I' 1 2 = _; rw [i1]; exact c1, by show I' 1 3 = _; rw [i1]; exact c2⟩
theorem FSc.far {I J I' : Mi} (f : ∀ a, (a < 4 ∨ 11 ≤ a) → I' a = I a) : FSc (I, J) (I', J) := ⟨fun a _ y => f a y, by show I' 1 1 = _; rw [f 1 (by omega)], fun _ _ => rfl⟩
abbrev lcQ (v : Int) (a b : Int) : List (Option AV) := [some (.inr (.inr 4)), some (.inl v), some (.inr (.inr 1)), some (.inr (.inr 11)), some (.inl a), some (.inl b)]
abbrev lcR (v : Int) (a b : Int) : List (Option AV) := [some (.inr (.inr 4)), some (.inl v), some (.inr (.inr 1)), none, some (.inl a), some (.inl b)]
def plS (B : List Int) (r : Er ⊕ (Nat × Cm)) : Er ⊕ (Nat × Cm) := bnd r (fun y => bnd (sgn B y.1 59) (fun e' => .inr (e', y.2)))
theorem plS_l {B : List Int} {r : Er ⊕ (Nat × Cm)} {x : Er} (h : r = .inl x) : plS B r = .inl x := bnd_l h
theorem plS_x {B : List Int} {r : Er ⊕ (Nat × Cm)} {e : Nat} {c : Cm} {x : Er} (h : r = .inr (e, c)) (hs : sgn B e 59 = .inl x) : plS B r = .inl x := (bnd_r h).trans (bnd_l hs)
theorem plS_r {B : List Int} {r : Er ⊕ (Nat × Cm)} {e e' : Nat} {c : Cm} (h : r = .inr (e, c)) (hs : sgn B e 59 = .inr e') : plS B r = .inr (e', c) := (bnd_r h).trans (bnd_r hs)
theorem readPlain_50 {I J : Mi} {K : Option AV → MM → Prop} {B : List Int} {e v : Nat} {a b : Int} {S : AS} {L : List Cm} {R : Er ⊕ (Nat × Cm)} (sd : SD (I, J) B S) (u : I 1 4 = e) (he : e ≤ B.length) (sc0 : SC (I, J) L) (hR : R = bnd (num B e 0 9999) (fun y => .inr (y.2, (v, a, b, y.1)))) (k1 : ∀ e' c, plS B R = .inr (e', c) → ∀ I' J', FSc (I, J) (I', J') → FCm (I, J) (I', J') → SD (I', J') B S → I' 1 4 = ((e' : Nat) : Int) → SC (I', J') ((L ++ [c]).take 40) → K (some (.inl 1)) (I', J')) (k0 : ∀ x, plS B R = .inl x → ∀ μ', FSc (I, J) μ' → ErC μ' x → K (some (.inl 0)) μ') : B_X5_readPlain_50 K (lcR v a b) [] (I, J) := by
  have hB := sd.1.2.2.2
  refine ⟨h1T, cs8 rfl, P_X8_takeNumber sd.1 u he R32_0 ⟨by decide, by decide⟩ (fun n e1 hx I1 J1 f1 t1 u1 v1 => ⟨⟨by omega, by omega⟩, fun _ => ⟨h1T, ?_⟩, fun z => absurd z (by decide)⟩) (fun x hx μ' f er => ⟨⟨by omega, by omega⟩, fun z => absurd rfl z, fun _ => ⟨Or.inl rfl, k0 x (plS_l (hR.trans (bnd_l hx))) μ' (f.fs (by decide)) er⟩⟩)⟩
  obtain ⟨x1, x2, x3, x4, x5, x6⟩ := num_r hB he hx
  have E0 : R = .inr (e1, (v, a, b, n)) := hR.trans (bnd_r hx)
  have s1 := sd.f1 f1 (by decide)
  show _ ∧ _ ∧ w_X5_add [.inr (.inr 4), .inl (v : Int), .inl a, .inl b, .inl (I1 1 8)] (I1, J1) _
  rw [v1]
  refine ⟨h4S, cs8 rfl, P_X5_add (c := (v, a, b, n)) (sc0.f1 f1) ⟨rfl, rfl, rfl, rfl⟩ (fun I2 sc2 F2 C2 fr => ?_)⟩
  have i1 : I2 1 = I1 1 := fr 1 (by omega)
  have s2 : SD (I2, J1) B S := ⟨⟨by show I2 1 1 = _; rw [i1]; exact s1.1.1, s1.1.2.1, s1.1.2.2.1.eq (fr 2 (by omega)), hB⟩, HC_fr s1.2.1 (fun y y1 y2 => ⟨fr y (by omega), rfl⟩), ⟨by show I2 1 2 = _; rw [i1]; exact s1.2.2.1, by show I2 1 3 = _; rw [i1]; exact s1.2.2.2⟩⟩
  have F02 : FSc (I, J) (I2, J1) := (f1.fs (by decide)).trans F2
  have C02 : FCm (I, J) (I2, J1) := f1.fcm.trans C2
  exact ⟨h1T, cs8 rfl, P_X8_takeSign s2.1 (by rw [i1]; exact u1) x4 ⟨by decide, by decide⟩ (fun e' hs I3 J3 f3 t3 u3 => ⟨Or.inr rfl, k1 e' _ (plS_r E0 hs) I3 J3 (F02.trans (f3.fs (by decide))) (C02.trans f3.fcm) (s2.f1 f3 (by decide)) u3 (sc2.f1 f3)⟩) (fun x hs μ' f3 er => ⟨Or.inl rfl, k0 x (plS_x E0 hs) μ' (F02.trans (f3.fs (by decide))) er⟩)⟩
theorem P_X5_readPlain {I J : Mi} {K : Option AV → MM → Prop} {B : List Int} {e v : Nat} {S : AS} {L : List Cm} (hv : v ≤ 5) (sd : SD (I, J) B S) (hn : NM S) (u : I 1 4 = e) (he : e ≤ B.length) (sc0 : SC (I, J) L) (k1 : ∀ e' c, plS B (pln B S v e) = .inr (e', c) → ∀ I' J', FSc (I, J) (I', J') → FCm (I, J) (I', J') → SD (I', J') B S → I' 1 4 = ((e' : Nat) : Int) → SC (I', J') ((L ++ [c]).take 40) → K (some (.inl 1)) (I', J')) (k0 : ∀ x, plS B (pln B S v e) = .inl x → ∀ μ', FSc (I, J) μ' → ErC μ' x → K (some (.inl 0)) μ') : w_X5_readPlain [.inr (.inr 4), .inl (v : Int), .inr (.inr 1), .inr (.inr 11)] (I, J) K := by
  have hB := sd.1.2.2.2
  have h6 := sd.2.1.2.1.n6
  have s15 : (v = 0 ∨ v = 2) → B_X5_readPlain_15 (fun v μ' => K v μ') [some (.inr (.inr 4)), some (.inl (v : Int)), some (.inr (.inr 1)), some (.inr (.inr 11)), none, some (.inl (-1))] [] (I, J) := by
    intro hv2
    have E1 : pln B S v e = bnd (nam B S e) (fun x => if v = 0 then bnd (num B x.2 0 9999) (fun y => .inr (y.2, (0, x.1, -1, y.1))) else bnd (nam B S x.2) (fun z => bnd (num B z.2 0 9999) (fun y => .inr (y.2, (2, x.1, z.1, y.1))))) := by
      rcases hv2 with rfl | rfl
      · rfl
      · rfl
    refine ⟨by decide, cs8 rfl, P_X5_takePort sd hn u he (fun x e1 hx I1 J1 f1 u1 => ?_) (fun x hx μ' f er => ?_)⟩
    · obtain ⟨x1, x2, x3⟩ := nam_r hB he hx
      have E2 := E1.trans (bnd_r hx)
      dsimp only at E2
      have s1 := sd.f1 f1 (by decide)
      refine st_i (L' := lcQ v x (-1)) rfl ⟨⟨by omega, by omega⟩, ⟨by omega, by omega⟩, fun _ => ⟨⟨by omega, by omega⟩, ⟨by omega, by omega⟩, fun q => ?_, fun q => ?_⟩, fun z => absurd (show x = -1 from z) (by omega)⟩
      · have v0 : v = 0 := by have q : ¬ (v : Int) = 2 := q; omega
        have E3 : pln B S v e = bnd (num B e1 0 9999) (fun y => .inr (y.2, (v, x, -1, y.1))) := by rw [E2, if_pos v0, v0]
        exact readPlain_50 s1 u1 x3 (sc0.f1 f1) E3 (fun e' c hc I' J' F C => k1 e' c hc I' J' ((f1.fs (by decide)).trans F) (f1.fcm.trans C)) (fun x hx μ' F => k0 x hx μ' ((f1.fs (by decide)).trans F))
      · have v2 : v = 2 := by have q : (v : Int) = 2 := q; omega
        have E3 : pln B S v e = bnd (nam B S e1) (fun z => bnd (num B z.2 0 9999) (fun y => .inr (y.2, (2, x, z.1, y.1)))) := by rw [E2, if_neg (by omega)]
        refine ⟨by decide, cs8 rfl, P_X5_takePort s1 hn u1 x3 (fun z e2 hz I2 J2 f2 u2 => ?_) (fun z hz μ' f er => ?_)⟩
        · obtain ⟨z1, z2, z3⟩ := nam_r hB x3 hz
          have E4 : pln B S v e = bnd (num B e2 0 9999) (fun y => .inr (y.2, (v, x, z, y.1))) := by rw [E3, bnd_r hz, v2]
          refine st_i (L' := lcQ v x z) rfl ⟨⟨by omega, by omega⟩, ⟨by omega, by omega⟩, fun _ => ?_, fun y => absurd (show z = -1 from y) (by omega)⟩
          have F2a := (f1.fs (by decide)).trans (f2.fs (by decide))
          exact readPlain_50 (s1.f1 f2 (by decide)) u2 z3 ((sc0.f1 f1).f1 f2) E4 (fun e' c hc I' J' F C => k1 e' c hc I' J' (F2a.trans F) ((f1.fcm.trans f2.fcm).trans C)) (fun x hx μ' F => k0 x hx μ' (F2a.trans F))
        · exact st_i (L' := lcQ v x (-1)) rfl ⟨⟨by omega, by omega⟩, ⟨by omega, by omega⟩, fun y => absurd rfl y, fun _ => ⟨Or.inl rfl, k0 z (plS_l (E3.trans (bnd_l hz))) μ' ((f1.fs (by decide)).trans (f.fs (by decide))) er⟩⟩
    · exact st_i (L' := lcQ v (-1) (-1)) rfl ⟨⟨by omega, by omega⟩, ⟨by omega, by omega⟩, fun y => absurd rfl y, fun _ => ⟨Or.inl rfl, k0 x (plS_l (E1.trans (bnd_l hx))) μ' (f.fs (by decide)) er⟩⟩
  refine ⟨cs8 rfl, c_ci (st_i (L' := [some (.inr (.inr 4)), some (.inl (v : Int)), some (.inr (.inr 1)), some (.inr (.inr 11)), some (.inl (-1)), none]) rfl (c_ci (st_i (L' := lcQ v (-1) (-1)) rfl ⟨⟨by omega, by omega⟩, fun q => s15 (Or.inl (by omega)), fun q => ⟨⟨by omega, by omega⟩, ⟨by omega, by omega⟩, fun q2 => ⟨⟨by omega, by omega⟩, ⟨by omega, by omega⟩, fun _ => ?_, fun y => absurd y q2⟩, fun q2 => s15 (Or.inr (by omega))⟩⟩)))⟩
  have v0 : ¬ v = 0 := by have q : ¬ (v : Int) = 0 := q; omega
  have v2 : ¬ v = 2 := by have q2 : ¬ (v : Int) = 2 := q2; omega
  exact readPlain_50 sd u he sc0 ((if_neg v0).trans (if_neg v2)) k1 k0
/-- the class's repeats that stand around -/
def full : List (Nat × List Cm) → List Cm → List Cm
  | [], cur => cur
  | (_, out) :: st, cur => full st out ++ cur
def SK (μ : MM) : List (Nat × List Cm) → Prop
  | [] => True
  | (n, out) :: st => (μ.1 10 st.length = (n : Int) ∧ μ.1 9 st.length = ((min 40 (full st out).length : Nat) : Int)) ∧ (1 ≤ n ∧ n ≤ 20) ∧ SK μ st
theorem SK.eq {μ μ' : MM} (h9 : μ'.1 9 = μ.1 9) (h10 : μ'.1 10 = μ.1 10) : ∀ {stk : List (Nat × List Cm)}, SK μ stk → SK μ' stk
  | [], h => h
  | (n, out) :: st, h => ⟨⟨by rw [h10]; exact h.1.1, by rw [h9]; exact h.1.2⟩, h.2.1, SK.eq h9 h10 h.2.2⟩
/-- rows from the depth on are free -/
theorem SK.up {I J : Mi} {a v w : Int} {n : Nat} : ∀ {stk : List (Nat × List Cm)}, stk.length ≤ n → SK (I, J) stk → SK (uM (uM I 10 n v) 9 n w, J) stk
  | [], _, h => h
  | (m, out) :: st, hl, h => ⟨⟨by show uM (uM I 10 n v) 9 n w 10 st.length = _; rw [uM_e (by decide), uM_k (by have : st.length + 1 ≤ n := hl; omega)]; exact h.1.1, by show uM (uM I 10 n v) 9 n w 9 st.length = _; rw [uM_k (by have : st.length + 1 ≤ n := hl; omega), uM_e (by decide)]; exact h.1.2⟩, h.2.1, SK.up (a := a) (by have : st.length + 1 ≤ n := hl; omega) h.2.2⟩
theorem P_X5_openRepeat {I J : Mi} {K : Option AV → MM → Prop} {B : List Int} {e : Nat} {S : AS} {stk : List (Nat × List Cm)} {cur : List Cm} {w : Int} (sd : SD (I, J) B S) (u : I 1 4 = e) (he : e ≤ B.length) (sc0 : SC (I, J) ((full stk cur).take 40)) (s8 : I 4 8 = (stk.length : Int)) (s5 : I 4 5 = w) (sk : SK (I, J) stk) (hd : stk.length < 2) (k1 : ∀ e' n, rpt B e = .inr (e', n) → ∀ I' J', FSc (I, J) (I', J') → SD (I', J') B S → I' 1 4 = ((e' : Nat) : Int) → SC (I', J') ((full ((n, cur) :: stk) []).take 40) → I' 4 8 = ((stk.length + 1 : Nat) : Int) → I' 4 5 = w → SK (I', J') ((n, cur) :: stk) → K (some (.inl 1)) (I', J')) (k0 : ∀ x, rpt B e = .inl x → ∀ μ', FSc (I, J) μ' → ErC μ' x → K (some (.inl 0)) μ') : w_X5_openRepeat [.inr (.inr 4), .inr (.inr 1)] (I, J) K := by
  have hB := sd.1.2.2.2
  refine ⟨cs8 rfl, h1T, cs8 rfl, P_X8_takeNumber sd.1 u he R32_1 ⟨by decide, by decide⟩ (fun n e1 hx I1 J1 f1 t1 u1 v1 => ⟨⟨by omega, by omega⟩, fun _ => ⟨h4S, h4S, ?_⟩, fun z => absurd z (by decide)⟩) (fun x hx μ' f er => ⟨⟨by omega, by omega⟩, fun z => absurd rfl z, fun _ => ⟨Or.inl rfl, k0 x (bnd_l hx) μ' (f.fs (by decide)) er⟩⟩)⟩
  obtain ⟨x1, x2, x3, x4, x5, x6⟩ := num_r hB he hx
  obtain ⟨n, rfl⟩ : ∃ m : Nat, n = m := ⟨n.toNat, by omega⟩
  have s1 := sd.f1 f1 (by decide)
  have i4 : I1 4 = I 4 := f1.1 4 (by decide)
  have g8 : I1 4 8 = (stk.length : Int) := by rw [i4]; exact s8
  have sc1 := sc0.f1 f1
  have g4 : I1 4 4 = (((full stk cur).take 40).length : Int) := sc1.2.1
  show o_aload 1 _ _ [.inl (I1 4 8), .inr (.inr 10)] (I1, J1)
  rw [g8]
  refine ⟨h1T, ?_⟩
  show o_iast _ _ [.inl (I1 1 8), .inl (stk.length : Int), .inr (.inr 10)] (I1, J1)
  rw [v1]
  refine ⟨h10a.1, by omega, by show (stk.length : Int) < ((ln 10 : Nat) : Int); rw [h10a.2]; omega, h4S, h4S, ?_⟩
  show o_aload 0 _ _ [.inl (uM I1 10 stk.length (n : Int) 4 8), .inr (.inr 9)] (uM I1 10 stk.length (n : Int), J1)
  rw [uM_e (by decide), g8]
  refine ⟨h4S, ?_⟩
  show o_iast _ _ [.inl (uM I1 10 stk.length (n : Int) 4 4), .inl (stk.length : Int), .inr (.inr 9)] (uM I1 10 stk.length (n : Int), J1)
  rw [uM_e (by decide), g4]
  refine ⟨h9a.1, by omega, by show (stk.length : Int) < ((ln 9 : Nat) : Int); rw [h9a.2]; omega, h4S, h4S, ?_⟩
  show o_aload 1 _ _ [] (uM (uM (uM I1 10 stk.length (n : Int)) 9 stk.length (((full stk cur).take 40).length : Int)) 4 8 (uM (uM I1 10 stk.length (n : Int)) 9 stk.length (((full stk cur).take 40).length : Int) 4 8 + 1), J1)
  generalize hX : uM (uM I1 10 stk.length (n : Int)) 9 stk.length (((full stk cur).take 40).length : Int) = X
  have x : ∀ a, a ≠ 9 → a ≠ 10 → X a = I1 a := fun a h9 h10 => by rw [← hX, uM_r h9, uM_r h10]
  have e8 : X 4 8 + 1 = ((stk.length + 1 : Nat) : Int) := by rw [x 4 (by decide) (by decide), g8]; rfl
  rw [e8]
  have y : ∀ a, (a < 4 ∨ 11 ≤ a) → uM X 4 8 ((stk.length + 1 : Nat) : Int) a = I1 a := fun a q => (uM_r (by omega)).trans (x a (by omega) (by omega))
  have F1a : FSc (I, J) (uM X 4 8 ((stk.length + 1 : Nat) : Int), J1) := (f1.fs (by decide)).trans (FSc.far y)
  have i1 : uM X 4 8 ((stk.length + 1 : Nat) : Int) 1 = I1 1 := y 1 (by omega)
  have s2 : SD (uM X 4 8 ((stk.length + 1 : Nat) : Int), J1) B S := s1.far y
  have sc2 : SC (uM X 4 8 ((stk.length + 1 : Nat) : Int), J1) ((full ((n, cur) :: stk) []).take 40) := by
    have e : full ((n, cur) :: stk) [] = full stk cur := List.append_nil _
    rw [e]
    refine ⟨sc1.1, ?_, fun i c hc => ?_⟩
    · show uM X 4 8 ((stk.length + 1 : Nat) : Int) 4 4 = _; rw [uM_k (by decide), x 4 (by decide) (by decide)]; exact g4
    · obtain ⟨y1, y2, y3, y4⟩ := sc1.2.2 i c hc
      have z : ∀ a, a ≠ 4 → a ≠ 9 → a ≠ 10 → uM X 4 8 ((stk.length + 1 : Nat) : Int) a i = I1 a i := fun a q1 q2 q3 => by rw [uM_e q1, x a q2 q3]
      exact ⟨(z 5 (by decide) (by decide) (by decide)).trans y1, (z 6 (by decide) (by decide) (by decide)).trans y2, (z 7 (by decide) (by decide) (by decide)).trans y3, (z 8 (by decide) (by decide) (by decide)).trans y4⟩
  have sk2 : SK (uM X 4 8 ((stk.length + 1 : Nat) : Int), J1) ((n, cur) :: stk) := by
    refine ⟨⟨?_, ?_⟩, ⟨by omega, by omega⟩, ?_⟩
    · show uM X 4 8 ((stk.length + 1 : Nat) : Int) 10 stk.length = _
      rw [uM_e (by decide), ← hX, uM_e (by decide), uM_s]
    · show uM X 4 8 ((stk.length + 1 : Nat) : Int) 9 stk.length = _
      rw [uM_e (by decide), ← hX, uM_s, List.length_take]
    · have a1 : SK (I1, J1) stk := SK.eq (μ := (I, J)) (μ' := (I1, J1)) (f1.1 9 (by decide)) (f1.1 10 (by decide)) sk
      have a2 : SK (X, J1) stk := by rw [← hX]; exact SK.up (a := 0) (Nat.le_refl _) a1
      have z : ∀ a, a ≠ 4 → uM X 4 8 ((stk.length + 1 : Nat) : Int) a = X a := fun a q => uM_r q
      exact SK.eq (μ := (X, J1)) (μ' := (uM X 4 8 ((stk.length + 1 : Nat) : Int), J1)) (z 9 (by decide)) (z 10 (by decide)) a2
  have g82 : uM X 4 8 ((stk.length + 1 : Nat) : Int) 4 8 = ((stk.length + 1 : Nat) : Int) := uM_s
  have g52 : uM X 4 8 ((stk.length + 1 : Nat) : Int) 4 5 = w := by rw [uM_k (by decide), x 4 (by decide) (by decide), i4]; exact s5
  refine ⟨h1T, cs8 rfl, P_X8_takeSign s2.1 (by rw [i1]; exact u1) x4 ⟨by decide, by decide⟩ (fun e' hs I3 J3 f3 t3 u3 => ⟨Or.inr rfl, ?_⟩) (fun x' hs μ' f3 er => ⟨Or.inl rfl, k0 x' ((bnd_r hx).trans (bnd_l hs)) μ' (F1a.trans (f3.fs (by decide))) er⟩)⟩
  have j4 : I3 4 = uM X 4 8 ((stk.length + 1 : Nat) : Int) 4 := f3.1 4 (by decide)
  exact k1 e' n ((bnd_r hx).trans (bnd_r hs)) I3 J3 (F1a.trans (f3.fs (by decide))) (s2.f1 f3 (by decide)) u3 (sc2.f1 f3) (by rw [j4]; exact g82) (by rw [j4]; exact g52) (SK.eq (μ := (uM X 4 8 ((stk.length + 1 : Nat) : Int), J1)) (f3.1 9 (by decide)) (f3.1 10 (by decide)) sk2)
