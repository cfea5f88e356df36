/-! PURE 63: what the readers of texts ask for; of the class -/
abbrev Er : Type := Int × Int
def num (B : List Int) (e : Nat) (lo hi : Int) : Er ⊕ (Int × Nat) := if tkK (sc B e) = 2 then (if lo ≤ tkN (sc B e) ∧ tkN (sc B e) ≤ hi then .inr (tkN (sc B e), tkE (sc B e)) else .inl (2, (tkA (sc B e) : Int))) else .inl (1, (tkA (sc B e) : Int))
def sgn (B : List Int) (e : Nat) (c : Int) : Er ⊕ Nat := if tkK (sc B e) = 3 ∧ tkN (sc B e) = c then .inr (tkE (sc B e)) else .inl (1, (tkA (sc B e) : Int))
theorem num_r {B : List Int} (hB : BR B) {e : Nat} (he : e ≤ B.length) {lo hi v : Int} {e' : Nat} (h : num B e lo hi = .inr (v, e')) : lo ≤ v ∧ v ≤ hi ∧ e < e' ∧ e' ≤ B.length ∧ 0 ≤ v ∧ v ≤ 9999 := by
  obtain ⟨f1, f2, f3, f4, f5, f6, f7, f8, f9⟩ := sc_facts hB he
  unfold num at h
  split at h
  · rename_i k2
    split at h
    · rename_i q
      cases h
      have := f5 (by omega)
      have := f8 k2
      exact ⟨q.1, q.2, by omega, f3, by omega, by omega⟩
    · cases h
  · cases h
theorem sgn_r {B : List Int} (hB : BR B) {e : Nat} (he : e ≤ B.length) {c : Int} {e' : Nat} (h : sgn B e c = .inr e') : e < e' ∧ e' ≤ B.length := by
  obtain ⟨f1, f2, f3, f4, f5, f6, f7, f8, f9⟩ := sc_facts hB he
  unfold sgn at h
  split at h
  · rename_i q
    cases h
    have := f5 (by omega)
    exact ⟨by omega, f3⟩
  · cases h
def ErC (μ : MM) (x : Er) : Prop := μ.1 1 2 = x.1 ∧ μ.1 1 3 = x.2
theorem ErC.f1 {ks : List Nat} {μ μ' : MM} {x : Er} (h : ErC μ x) (hf : F1 ks μ μ') (h2 : 2 ∉ ks) (h3 : 3 ∉ ks) : ErC μ' x := ⟨(hf.2.1 2 h2).trans h.1, (hf.2.1 3 h3).trans h.2⟩
theorem ckd_3 (k : Nat) : ckd k = 3 ↔ k = 3 := by
  unfold ckd
  split
  · constructor <;> intro z <;> omega
  · exact Iff.rfl
theorem ckd_lt {n k : Nat} (hn : n ≤ 3) : ckd k = n ↔ k = n := by
  unfold ckd
  split
  · constructor <;> intro z <;> omega
  · exact Iff.rfl
theorem P_X8_begin {I J : Mi} {K : Option AV → MM → Prop} (hK : ∀ μ', F1 [2, 3, 4] (I, J) μ' → μ'.1 1 4 = 0 → ErC μ' (0, -1) → K none μ') : w_X8_begin [.inr (.inr 1)] (I, J) K := by
  refine ⟨cs8 rfl, h1T, h1T, h1T, ?_⟩
  refine hK (uM (uM (uM I 1 4 0) 1 2 0) 1 3 (-1), J) (((F1.put (ks := [2, 3, 4]) (I := I) (J := J) (by decide)).trans (F1.put (by decide))).trans (F1.put (by decide))) ?_ ⟨?_, pS⟩
  · show uM (uM (uM I 1 4 0) 1 2 0) 1 3 (-1) 1 4 = 0
    rw [uM_k (by decide), uM_k (by decide), uM_s]
  · show uM (uM (uM I 1 4 0) 1 2 0) 1 3 (-1) 1 2 = 0
    rw [uM_k (by decide), uM_s]
theorem P_X8_fail {I J : Mi} {K : Option AV → MM → Prop} {c a : Int} (h6 : I 1 6 = a) (hK : ∀ μ', F1 [2, 3] (I, J) μ' → ErC μ' (c, a) → K (some (.inl 0)) μ') : w_X8_fail [.inr (.inr 1), .inl c] (I, J) K := by
  refine ⟨cs8 rfl, h1T, h1T, h1T, Or.inl rfl, ?_⟩
  show K (some (.inl 0)) (uM (uM I 1 2 c) 1 3 (uM I 1 2 c 1 6), J)
  rw [uM_k (by decide), h6]
  exact hK _ ((F1.put (ks := [2, 3]) (I := I) (J := J) (by decide)).trans (F1.put (by decide))) ⟨by show uM (uM I 1 2 c) 1 3 a 1 2 = c; rw [uM_k (by decide), uM_s], pS⟩
/-- the token scanned from e is what the class's text holds -/
def TC (μ : MM) (B : List Int) (e : Nat) : Prop := TBc μ B ∧ e ≤ B.length ∧ TkC μ (sc B e)
theorem TC.f1 {ks : List Nat} {μ μ' : MM} {B : List Int} {e : Nat} (h : TC μ B e) (hf : F1 ks μ μ') (hk : 1 ∉ ks ∧ 4 ∉ ks ∧ 5 ∉ ks ∧ 6 ∉ ks ∧ 8 ∉ ks) (h7 : μ'.2 1 7 = μ.2 1 7) : TC μ' B e := by
  obtain ⟨a, b, c1, c2, c3, c4, c5, c6⟩ := h
  exact ⟨a.f1 hf hk.1, b, (hf.2.1 6 hk.2.2.2.1).trans c1, (hf.2.1 4 hk.2.1).trans c2, (hf.2.1 5 hk.2.2.1).trans c3, fun q => by rw [h7]; exact c4 q, fun q => (hf.2.1 8 hk.2.2.2.2).trans (c5 q), fun q => by rw [h7]; exact c6 q⟩
/-- advance, told so -/
theorem C_adv {I J : Mi} {K : Option AV → MM → Prop} {B : List Int} {e : Nat} (h : TBc (I, J) B) (h4 : I 1 4 = e) (he : e ≤ B.length) (hK : ∀ I' J', F1 [4, 5, 6, 7, 8] (I, J) (I', J') → TC (I', J') B e → K none (I', J')) : w_X8_advance [.inr (.inr 1)] (I, J) K := P_X8_advance h h4 he (fun μ' f t1 t2 => hK μ'.1 μ'.2 f ⟨t1, he, t2⟩)
theorem TC.fail {I J : Mi} {K : Option AV → MM → Prop} {B : List Int} {e : Nat} {c : Int} (h : TC (I, J) B e) (hK : ∀ μ', F1 [2, 3] (I, J) μ' → ErC μ' (c, (tkA (sc B e) : Int)) → K (some (.inl 0)) μ') : w_X8_fail [.inr (.inr 1), .inl c] (I, J) K := P_X8_fail h.2.2.1 hK
theorem P_X8_takeName {I J : Mi} {K : Option AV → MM → Prop} {B : List Int} {e : Nat} (h : TBc (I, J) B) (h4 : I 1 4 = e) (he : e ≤ B.length) (h1 : tkK (sc B e) = 1 → ∀ I' J', F1 [4, 5, 6, 7, 8] (I, J) (I', J') → TC (I', J') B e → K (some (.inl 1)) (I', J')) (h0 : ¬ tkK (sc B e) = 1 → ∀ μ', F1 [2, 3, 4, 5, 6, 7, 8] (I, J) μ' → ErC μ' (1, (tkA (sc B e) : Int)) → K (some (.inl 0)) μ') : w_X8_takeName [.inr (.inr 1)] (I, J) K := by
  refine ⟨cs8 rfl, h1T, cs8 rfl, C_adv h h4 he (fun I' J' f t => ⟨h1T, ?_⟩)⟩
  have hk := (sc_facts h.2.2.2 he).2.2.2.1
  have e5 : I' 1 5 = (ckd (tkK (sc B e)) : Int) := t.2.2.2.2.1
  have c1 := ckd_lt (n := 1) (k := tkK (sc B e)) (by decide)
  have cr : ckd (tkK (sc B e)) ≤ 5 := by unfold ckd; split <;> omega
  show o_ci 1 _ _ [.inl (I' 1 5)] (I', J')
  rw [e5]
  refine ⟨⟨by omega, by omega⟩, ⟨by omega, by omega⟩, fun q => ⟨Or.inr rfl, h1 (c1.mp (by omega)) I' J' f t⟩, fun q => ⟨h1T, cs8 rfl, t.fail (fun μ' f' er => ⟨⟨by omega, by omega⟩, fun _ => ⟨Or.inl rfl, h0 (fun z => q (by rw [c1.mpr z]; rfl)) μ' ((f.mono (by decide)).trans (f'.mono (by decide))) er⟩, fun z => absurd rfl z⟩)⟩⟩
theorem P_X8_takeNumber {I J : Mi} {K : Option AV → MM → Prop} {B : List Int} {e : Nat} {lo hi : Int} (h : TBc (I, J) B) (h4 : I 1 4 = e) (he : e ≤ B.length) (hlo : R32 lo) (hhi : R32 hi) (h1 : ∀ v e', num B e lo hi = .inr (v, e') → ∀ I' J', F1 [4, 5, 6, 7, 8] (I, J) (I', J') → TC (I', J') B e → I' 1 4 = ((e' : Nat) : Int) → I' 1 8 = v → K (some (.inl 1)) (I', J')) (h0 : ∀ x, num B e lo hi = .inl x → ∀ μ', F1 [2, 3, 4, 5, 6, 7, 8] (I, J) μ' → ErC μ' x → K (some (.inl 0)) μ') : w_X8_takeNumber [.inr (.inr 1), .inl lo, .inl hi] (I, J) K := by
  refine ⟨cs8 rfl, h1T, cs8 rfl, C_adv h h4 he (fun I' J' f t => ⟨h1T, ?_⟩)⟩
  obtain ⟨f1, f2, f3, f4, f5, f6, f7, f8, f9⟩ := sc_facts h.2.2.2 he
  have e5 : I' 1 5 = (ckd (tkK (sc B e)) : Int) := t.2.2.2.2.1
  have c1 := ckd_lt (n := 2) (k := tkK (sc B e)) (by decide)
  have cr : ckd (tkK (sc B e)) ≤ 5 := by unfold ckd; split <;> omega
  show o_ci 2 _ _ [.inl (I' 1 5)] (I', J')
  rw [e5]
  refine ⟨⟨by omega, by omega⟩, ⟨by omega, by omega⟩, fun q => ⟨h1T, ?_⟩, fun q => ⟨h1T, cs8 rfl, t.fail (fun μ' f' er => ⟨Or.inl rfl, h0 (1, (tkA (sc B e) : Int)) (if_neg (fun z => q (by rw [c1.mpr z]; rfl))) μ' ((f.mono (by decide)).trans (f'.mono (by decide))) er⟩)⟩⟩
  have k2 : tkK (sc B e) = 2 := c1.mp (by omega)
  have e8 : I' 1 8 = tkN (sc B e) := t.2.2.2.2.2.2.1 k2
  have nr := f8 k2
  show _ ∧ _ ∧ w_X9_within [.inl (I' 1 8), .inl lo, .inl hi] (I', J') _
  rw [e8]
  refine ⟨cs8 rfl, cs8 rfl, P_X9_within ⟨by omega, by omega⟩ hlo hhi (fun q1 q2 => ⟨⟨by omega, by omega⟩, fun _ => ⟨Or.inr rfl, h1 (tkN (sc B e)) (tkE (sc B e)) ((if_pos k2).trans (if_pos ⟨q1, q2⟩)) I' J' f t t.2.2.2.1 e8⟩, fun z => absurd z (by decide)⟩) (fun q2 => ⟨⟨by omega, by omega⟩, fun z => absurd rfl z, fun _ => ⟨h1T, cs8 rfl, t.fail (fun μ' f' er => ⟨⟨by omega, by omega⟩, fun _ => ⟨Or.inl rfl, h0 (2, (tkA (sc B e) : Int)) ((if_pos k2).trans (if_neg q2)) μ' ((f.mono (by decide)).trans (f'.mono (by decide))) er⟩, fun z => absurd rfl z⟩)⟩⟩)⟩
theorem TC.isSign {I J : Mi} {K : Option AV → MM → Prop} {B : List Int} {e : Nat} {c : Int} (h : TC (I, J) B e) (hc : R32 c) (h1 : tkK (sc B e) = 3 → tkN (sc B e) = c → K (some (.inl 1)) (I, J)) (h0 : ¬ (tkK (sc B e) = 3 ∧ tkN (sc B e) = c) → K (some (.inl 0)) (I, J)) : w_X8_isSign [.inr (.inr 1), .inl c] (I, J) K := by
  obtain ⟨f1, f2, f3, f4, f5, f6, f7, f8, f9⟩ := sc_facts h.1.2.2.2 h.2.1
  have e5 : I 1 5 = (ckd (tkK (sc B e)) : Int) := h.2.2.2.2.1
  have c1 := ckd_lt (n := 3) (k := tkK (sc B e)) (by decide)
  have cr : ckd (tkK (sc B e)) ≤ 5 := by unfold ckd; split <;> omega
  refine ⟨cs8 rfl, h1T, ?_⟩
  show o_ci 3 _ _ [.inl (I 1 5)] (I, J)
  rw [e5]
  refine ⟨⟨by omega, by omega⟩, ⟨by omega, by omega⟩, fun q => ⟨Or.inl rfl, h0 (fun z => q (by rw [c1.mpr z.1]; rfl))⟩, fun q => ⟨h1T, ?_⟩⟩
  have k3 : tkK (sc B e) = 3 := c1.mp (by omega)
  have e7 : J 1 7 = tkN (sc B e) := h.2.2.2.2.2.2.2 k3
  have hb := bA_r h.1.2.2.2 (tkA (sc B e))
  have n3 := (f9 k3).1
  show _ ∧ R64 (J 1 7) ∧ _
  rw [e7]
  refine ⟨hc, ⟨by omega, by omega⟩, r64 hc, ?_⟩
  show o_if_ne _ _ _ [.inl (cmpL (J 1 7) c)] (I, J)
  rw [e7]
  exact ⟨cm_r, fun z => ⟨Or.inl rfl, h0 (fun y => z (cmp_z.mpr y.2))⟩, fun z => ⟨Or.inr rfl, h1 k3 (cmp_z.mp z)⟩⟩
theorem P_X8_takeSign {I J : Mi} {K : Option AV → MM → Prop} {B : List Int} {e : Nat} {c : Int} (h : TBc (I, J) B) (h4 : I 1 4 = e) (he : e ≤ B.length) (hc : R32 c) (h1 : ∀ e', sgn B e c = .inr e' → ∀ I' J', F1 [4, 5, 6, 7, 8] (I, J) (I', J') → TC (I', J') B e → I' 1 4 = ((e' : Nat) : Int) → K (some (.inl 1)) (I', J')) (h0 : ∀ x, sgn B e c = .inl x → ∀ μ', F1 [2, 3, 4, 5, 6, 7, 8] (I, J) μ' → ErC μ' x → K (some (.inl 0)) μ') : w_X8_takeSign [.inr (.inr 1), .inl c] (I, J) K := by
  refine ⟨cs8 rfl, h1T, cs8 rfl, C_adv h h4 he (fun I' J' f t => ⟨h1T, cs8 rfl, t.isSign hc (fun k3 n3 => ⟨⟨by omega, by omega⟩, fun _ => ⟨Or.inr rfl, h1 (tkE (sc B e)) (if_pos ⟨k3, n3⟩) I' J' f t t.2.2.2.1⟩, fun z => absurd z (by decide)⟩) (fun q => ⟨⟨by omega, by omega⟩, fun z => absurd rfl z, fun _ => ⟨h1T, cs8 rfl, t.fail (fun μ' f' er => ⟨⟨by omega, by omega⟩, fun _ => ⟨Or.inl rfl, h0 (1, (tkA (sc B e) : Int)) (if_neg q) μ' ((f.mono (by decide)).trans (f'.mono (by decide))) er⟩, fun z => absurd rfl z⟩)⟩⟩)⟩)⟩
/-- whether the token is word i -/
abbrev isw (t : Tk) (i : Nat) : Prop := tkK t = 1 ∧ tkW t = wd i
theorem TC.isW {I J : Mi} {B : List Int} {e : Nat} (h : TC (I, J) B e) {i : Nat} (hi : i < 9) {kk : PT} {L : List (Option AV)} {r : List AV} (hr : catS r ≤ 8) (h1 : isw (sc B e) i → kk L (.inl 1 :: r) (I, J)) (h0 : ¬ isw (sc B e) i → kk L (.inl 0 :: r) (I, J)) : o_isW i kk L (.inr (.inr 1) :: r) (I, J) := by
  have e5 : I 1 5 = (ckd (tkK (sc B e)) : Int) := h.2.2.2.2.1
  have c1 := ckd_lt (n := 1) (k := tkK (sc B e)) (by decide)
  have cr : ckd (tkK (sc B e)) ≤ 5 := by
    have hk := (sc_facts h.1.2.2.2 h.2.1).2.2.2.1
    unfold ckd; split <;> omega
  refine ⟨h1T, by show R32 (I 1 5); rw [e5]; exact ⟨by omega, by omega⟩, fun q => ?_, hr, ?_⟩
  · have q : I 1 5 = 1 := q
    have k1 : tkK (sc B e) = 1 := c1.mp (by omega)
    show R64 (J 1 7)
    rw [show J 1 7 = _ from h.2.2.2.2.2.1 k1]
    exact (pk8_64 (sc_W h.1.2.2.2 h.2.1 k1)).1
  · by_cases z : isw (sc B e) i
    · have hv : isWv i 1 (I, J) = 1 := by
        unfold isWv
        refine if_pos ⟨?_, ?_⟩
        · show I 1 5 = 1; rw [e5, c1.mpr z.1]; rfl
        · show J 1 7 = _
          rw [show J 1 7 = _ from h.2.2.2.2.2.1 z.1, z.2, wd_8 i hi]
      rw [hv]
      exact h1 z
    · have hv : isWv i 1 (I, J) = 0 := by
        unfold isWv
        refine if_neg (fun y => z ?_)
        have y1 : I 1 5 = 1 := y.1
        have k1 : tkK (sc B e) = 1 := c1.mp (by omega)
        have y2 : J 1 7 = wdL.getD i 0 := y.2
        rw [show J 1 7 = _ from h.2.2.2.2.2.1 k1, ← wd_8 i hi] at y2
        exact ⟨k1, (pk8_eq (sc_W h.1.2.2.2 h.2.1 k1) (wd_ok i hi)).mp y2⟩
      rw [hv]
      exact h0 z
