/-! PURE 64: what the readers of texts ask for; of the model -/
theorem R32_1 : R32 1 := ⟨by decide, by decide⟩
theorem R32_2 : R32 2 := ⟨by decide, by decide⟩
theorem R32_3 : R32 3 := ⟨by decide, by decide⟩
theorem R32_4 : R32 4 := ⟨by decide, by decide⟩
theorem R32_5 : R32 5 := ⟨by decide, by decide⟩
def ErM (μ : MM) (x : Er) : Prop := μ.1 348 10 = x.1 ∧ μ.1 348 11 = x.2
/-- the token scanned from e is what the model holds -/
def TM (μ : MM) (B : List Int) (e : Nat) : Prop := TBm μ B ∧ e ≤ B.length ∧ TkM μ (sc B e)
theorem ErM.f9 {ks : List Nat} {μ μ' : MM} {x : Er} (h : ErM μ x) (hf : F9 ks μ μ') (h2 : 10 ∉ ks) (h3 : 11 ∉ ks) : ErM μ' x := ⟨(hf.2.1 10 h2).trans h.1, (hf.2.1 11 h3).trans h.2⟩
theorem TM.f9 {ks : List Nat} {μ μ' : MM} {B : List Int} {e : Nat} (h : TM μ B e) (hf : F9 ks μ μ') (hk : 5 ∉ ks ∧ 6 ∉ ks ∧ 7 ∉ ks ∧ 8 ∉ ks ∧ 9 ∉ ks) (h12 : μ'.2 348 12 = μ.2 348 12) : TM μ' B e := by
  obtain ⟨⟨a1, a2, a3, a4, a5⟩, b, c1, c2, c3, c4, c5⟩ := h
  exact ⟨⟨(hf.2.1 5 hk.1).trans a1, a2, a3.eq (hf.1 351 (by decide)), a4, by rw [hf.2.1 9 hk.2.2.2.2]; exact a5⟩, b, (hf.2.1 6 hk.2.1).trans c1, (hf.2.1 7 hk.2.2.1).trans c2, (hf.2.1 8 hk.2.2.2.1).trans c3, fun q => by rw [h12]; exact c4 q, fun q => (hf.2.1 9 hk.2.2.2.2).trans (c5 q)⟩
/-- nothing that a text needs has changed -/
theorem TM.eq {μ μ' : MM} {B : List Int} {e : Nat} (h : TM μ B e) (h8 : ∀ j, 5 ≤ j → j ≤ 9 → μ'.1 348 j = μ.1 348 j) (h51 : μ'.1 351 = μ.1 351) (h12 : μ'.2 348 12 = μ.2 348 12) : TM μ' B e := by
  obtain ⟨⟨a1, a2, a3, a4, a5⟩, b, c1, c2, c3, c4, c5⟩ := h
  exact ⟨⟨(h8 5 (by decide) (by decide)).trans a1, a2, a3.eq h51, a4, by rw [h8 9 (by decide) (by decide)]; exact a5⟩, b, (h8 6 (by decide) (by decide)).trans c1, (h8 7 (by decide) (by decide)).trans c2, (h8 8 (by decide) (by decide)).trans c3, fun q => by rw [h12]; exact c4 q, fun q => (h8 9 (by decide) (by decide)).trans (c5 q)⟩
theorem TM.kr {μ : MM} {B : List Int} {e : Nat} (h : TM μ B e) : R32 (μ.1 348 8) := by
  have := (sc_facts h.1.2.2.2.1 h.2.1).2.2.2.1
  rw [h.2.2.2.2.1]
  exact ⟨by omega, by omega⟩
theorem P_X10_starts {I J : Mi} {K : Option AV → MM → Prop} (hK : ∀ μ', F9 [7, 10, 11] (I, J) μ' → μ'.1 348 7 = 0 → ErM μ' (0, -1) → μ'.2 = J → K none μ') : w_X10_starts [.inr (.inr 348)] (I, J) K := by
  refine ⟨cs8 rfl, hM, hM, hM, ?_⟩
  refine hK (uM (uM (uM I 348 10 0) 348 11 (-1)) 348 7 0, J) (((F9.put (ks := [7, 10, 11]) (I := I) (J := J) (by decide)).trans (F9.put (by decide))).trans (F9.put (by decide))) pS ⟨?_, ?_⟩ rfl
  · show uM (uM (uM I 348 10 0) 348 11 (-1)) 348 7 0 348 10 = 0
    rw [uM_k (by decide), uM_k (by decide), uM_s]
  · show uM (uM (uM I 348 10 0) 348 11 (-1)) 348 7 0 348 11 = -1
    rw [uM_k (by decide), uM_s]
theorem P_X10_isGood {μ : MM} {K : Option AV → MM → Prop} {x : Er} (h : ErM μ x) (hx : R32 x.1) (h1 : x.1 = 0 → K (some (.inl 1)) μ) (h0 : x.1 ≠ 0 → K (some (.inl 0)) μ) : w_X10_isGood [.inr (.inr 348)] μ K := by
  refine ⟨cs8 rfl, hM, ?_⟩
  show o_if_ne _ _ _ [.inl (μ.1 348 10)] μ
  rw [h.1]
  exact ⟨hx, fun q => ⟨Or.inl rfl, h0 q⟩, fun q => ⟨Or.inr rfl, h1 q⟩⟩
/-- 'must', where an error was found before -/
theorem must_b {μ : MM} {K : Option AV → MM → Prop} {x : Er} {v c : Int} (h : ErM μ x) (hx : R32 x.1) (hb : x.1 ≠ 0) (hK : K none μ) : w_X10_must [.inr (.inr 348), .inl v, .inl c] μ K := ⟨cs8 rfl, hM, cs8 rfl, P_X10_isGood h hx (fun q => absurd q hb) (fun _ => ⟨⟨by omega, by omega⟩, fun _ => hK, fun q => absurd rfl q⟩)⟩
theorem must_g {μ : MM} {K : Option AV → MM → Prop} {p c : Int} (h : ErM μ (0, p)) (hK : K none μ) : w_X10_must [.inr (.inr 348), .inl 1, .inl c] μ K := ⟨cs8 rfl, hM, cs8 rfl, P_X10_isGood h R32_0 (fun _ => ⟨⟨by omega, by omega⟩, fun q => absurd q (by decide), fun _ => ⟨⟨by omega, by omega⟩, fun _ => hK, fun q => absurd q (by decide)⟩⟩) (fun q => absurd rfl q)⟩
theorem must_n {I J : Mi} {K : Option AV → MM → Prop} {B : List Int} {e : Nat} {p c : Int} (h : ErM (I, J) (0, p)) (ht : TM (I, J) B e) (hc : tkK (sc B e) = 4 → c = 1) (hK : ∀ I', F9 [10, 11] (I, J) (I', J) → TM (I', J) B e → ErM (I', J) (c, (tkA (sc B e) : Int)) → K none (I', J)) : w_X10_must [.inr (.inr 348), .inl 0, .inl c] (I, J) K := by
  have e8 : I 348 8 = (tkK (sc B e) : Int) := ht.2.2.2.2.1
  have e6 : I 348 6 = (tkA (sc B e) : Int) := ht.2.2.1
  have kr := (sc_facts ht.1.2.2.2.1 ht.2.1).2.2.2.1
  refine ⟨cs8 rfl, hM, cs8 rfl, P_X10_isGood h R32_0 (fun _ => ⟨⟨by omega, by omega⟩, fun q => absurd q (by decide), fun _ => ⟨⟨by omega, by omega⟩, fun q => absurd rfl q, fun _ => ⟨hM, ?_⟩⟩⟩) (fun q => absurd rfl q)⟩
  have fin : ∀ v : Int, v = c → K none (uM (uM I 348 10 v) 348 11 (uM I 348 10 v 348 6), J) := fun v hv => by
    rw [uM_k (I := I) (e := 348) (k := 10) (k' := 6) (by decide), e6]
    have f : F9 [10, 11] (I, J) (uM (uM I 348 10 v) 348 11 (tkA (sc B e) : Int), J) := (F9.put (ks := [10, 11]) (I := I) (J := J) (by decide)).trans (F9.put (by decide))
    refine hK _ f (ht.f9 f (by decide) rfl) ⟨?_, pS⟩
    show uM (uM I 348 10 v) 348 11 (tkA (sc B e) : Int) 348 10 = c
    rw [uM_k (by decide), uM_s, hv]
  show o_ci 4 _ _ [.inl (I 348 8), _] (I, J)
  rw [e8]
  refine ⟨⟨by omega, by omega⟩, ⟨by omega, by omega⟩, fun q => ⟨hM, hM, hM, fin c rfl⟩, fun q => ⟨hM, hM, hM, fin 1 (hc (by omega)).symm⟩⟩
/-- scans, told so; from the token scanned at e -/
theorem M_scan {I J : Mi} {K : Option AV → MM → Prop} {B : List Int} {e : Nat} (h : TM (I, J) B e) (hK : ∀ I' J', F9 [6, 7, 8, 9] (I, J) (I', J') → TM (I', J') B (tkE (sc B e)) → K none (I', J')) : w_X10_scans [.inr (.inr 348)] (I, J) K := by
  have f3 := (sc_facts h.1.2.2.2.1 h.2.1).2.2.1
  exact P_X10_scans h.1 h.2.2.2.1 f3 (fun μ' f t1 t2 => hK μ'.1 μ'.2 f ⟨t1, f3, t2⟩)
theorem TM.isWord {μ : MM} {K : Option AV → MM → Prop} {B : List Int} {e : Nat} {x : Er} {v : Int} (h : TM μ B e) (he : ErM μ x) (hx : R32 x.1) (i : Nat) (hi : i < 9) (hv : v = w5L.getD i 0) (h1 : x.1 = 0 → isw (sc B e) i → K (some (.inl 1)) μ) (h0 : ¬ (x.1 = 0 ∧ isw (sc B e) i) → K (some (.inl 0)) μ) : w_X10_isWord [.inr (.inr 348), .inr (.inl v)] μ K := by
  have e8 : μ.1 348 8 = (tkK (sc B e) : Int) := h.2.2.2.2.1
  refine ⟨cs8 rfl, hM, cs8 rfl, P_X10_isGood he hx (fun q => ⟨⟨by omega, by omega⟩, fun z => absurd z (by decide), fun _ => ⟨hM, ?_⟩⟩) (fun q => ⟨⟨by omega, by omega⟩, fun _ => ⟨Or.inl rfl, h0 (fun z => q z.1)⟩, fun z => absurd rfl z⟩)⟩
  have kr := h.kr
  show o_ci 1 _ _ [.inl (μ.1 348 8)] μ
  refine ⟨kr, ⟨by omega, by omega⟩, fun z => ⟨Or.inl rfl, h0 (fun y => z ?_)⟩, fun z => ⟨hM, ?_⟩⟩
  · show μ.1 348 8 = 1
    rw [e8, y.2.1]; rfl
  have k1 : tkK (sc B e) = 1 := by have z : μ.1 348 8 = 1 := z; omega
  have hw := sc_W h.1.2.2.2.1 h.2.1 k1
  have e12 : μ.2 348 12 = pk5 (tkW (sc B e)) := h.2.2.2.2.2.1 k1
  have w9 := wd_5 i hi
  show o_lcmp _ _ [.inr (.inl v), .inr (.inl (μ.2 348 12))] μ
  rw [e12, hv, ← w9]
  refine ⟨(pk5_64 hw).1, (pk5_64 (wd_ok i hi)).1, cm_r, fun z => ⟨Or.inl rfl, h0 (fun y => z (cmp_z.mpr (by rw [y.2.2])))⟩, fun z => ⟨Or.inr rfl, h1 q ⟨k1, (pk5_eq hw (wd_ok i hi)).mp (cmp_z.mp z)⟩⟩⟩
theorem TM.isSign {μ : MM} {K : Option AV → MM → Prop} {B : List Int} {e : Nat} {x : Er} {c : Int} (h : TM μ B e) (he : ErM μ x) (hx : R32 x.1) (hc : R32 c) (h1 : x.1 = 0 → tkK (sc B e) = 3 → tkN (sc B e) = c → K (some (.inl 1)) μ) (h0 : ¬ (x.1 = 0 ∧ tkK (sc B e) = 3 ∧ tkN (sc B e) = c) → K (some (.inl 0)) μ) : w_X10_isSign [.inr (.inr 348), .inl c] μ K := by
  have e8 : μ.1 348 8 = (tkK (sc B e) : Int) := h.2.2.2.2.1
  have e6 : μ.1 348 6 = (tkA (sc B e) : Int) := h.2.2.1
  obtain ⟨f1, f2, f3, f4, f5, f6, f7, f8, f9⟩ := sc_facts h.1.2.2.2.1 h.2.1
  have hl := h.1.2.1
  refine ⟨cs8 rfl, hM, cs8 rfl, P_X10_isGood he hx (fun q => ⟨⟨by omega, by omega⟩, fun z => absurd z (by decide), fun _ => ⟨hM, ?_⟩⟩) (fun q => ⟨⟨by omega, by omega⟩, fun _ => ⟨Or.inl rfl, h0 (fun z => q z.1)⟩, fun z => absurd rfl z⟩)⟩
  have kr := h.kr
  show o_ci 3 _ _ [.inl (μ.1 348 8)] μ
  refine ⟨kr, ⟨by omega, by omega⟩, fun z => ⟨Or.inl rfl, h0 (fun y => z ?_)⟩, fun z => ⟨hM, hM, ?_⟩⟩
  · show μ.1 348 8 = 3
    rw [e8, y.2.1]; rfl
  have k3 : tkK (sc B e) = 3 := by have z : μ.1 348 8 = 3 := z; omega
  have l3 := f5 (by omega)
  show o_iald _ _ [.inl (μ.1 348 6), .inr (.inr 351)] μ
  rw [e6]
  have hv : μ.1 351 (tkA (sc B e)) = bA B (tkA (sc B e)) := h.1.2.2.1 _ _ (bA_at (by omega))
  have hb := bA_r h.1.2.2.2.1 (tkA (sc B e))
  have n3 := (f9 k3).1
  refine ⟨h351.1, by omega, by show ((tkA (sc B e) : Nat) : Int) < ((ln 351 : Nat) : Int); rw [h351.2]; omega, ?_⟩
  show o_iload 1 _ _ [.inl (μ.1 351 (tkA (sc B e)))] μ
  rw [hv]
  exact ⟨⟨by omega, by omega⟩, hc, fun z => ⟨Or.inl rfl, h0 (fun y => z (by rw [← n3]; exact y.2.2))⟩, fun z => ⟨Or.inr rfl, h1 q k3 (by rw [n3]; exact z)⟩⟩
/-- sign, where an error was found before -/
theorem sign_b {I J : Mi} {K : Option AV → MM → Prop} {B : List Int} {e : Nat} {x : Er} {c : Int} (h : TM (I, J) B e) (he : ErM (I, J) x) (hx : R32 x.1) (hb : x.1 ≠ 0) (hc : R32 c) (hK : ∀ I' J', F9 [6, 7, 8, 9] (I, J) (I', J') → TM (I', J') B (tkE (sc B e)) → K none (I', J')) : w_X10_sign [.inr (.inr 348), .inl c] (I, J) K :=
  ⟨cs8 rfl, hM, cs8 rfl, h.isSign he hx hc (fun q => absurd q hb) (fun _ => ⟨hM, cs8 rfl, must_b he hx hb ⟨hM, cs8 rfl, M_scan h (fun I' J' f t => hK I' J' f t)⟩⟩)⟩
theorem sign_g {I J : Mi} {K : Option AV → MM → Prop} {B : List Int} {e : Nat} {p c : Int} (h : TM (I, J) B e) (he : ErM (I, J) (0, p)) (hc : R32 c) (h1 : ∀ e', sgn B e c = .inr e' → ∀ I' J', F9 [6, 7, 8, 9] (I, J) (I', J') → TM (I', J') B e' → K none (I', J')) (h0 : ∀ x, sgn B e c = .inl x → ∀ I' J', F9 [6, 7, 8, 9, 10, 11] (I, J) (I', J') → TM (I', J') B (tkE (sc B e)) → ErM (I', J') x → K none (I', J')) : w_X10_sign [.inr (.inr 348), .inl c] (I, J) K :=
  ⟨cs8 rfl, hM, cs8 rfl, h.isSign he R32_0 hc (fun _ k3 n3 => ⟨hM, cs8 rfl, must_g he ⟨hM, cs8 rfl, M_scan h (fun I' J' f t => h1 (tkE (sc B e)) (if_pos ⟨k3, n3⟩) I' J' f t)⟩⟩) (fun q => ⟨hM, cs8 rfl, must_n he h (fun _ => rfl) (fun I1 f1 t1 e1 => ⟨hM, cs8 rfl, M_scan t1 (fun I' J' f t => h0 (1, (tkA (sc B e) : Int)) (if_neg (fun z => q ⟨rfl, z.1, z.2⟩)) I' J' ((f1.mono (by decide)).trans (f.mono (by decide))) t (e1.f9 f (by decide) (by decide)))⟩)⟩)⟩
/-- reads, where an error was found before -/
theorem reads_b {I J : Mi} {K : Option AV → MM → Prop} {B : List Int} {e : Nat} {x : Er} {lo hi : Int} (h : TM (I, J) B e) (he : ErM (I, J) x) (hx : R32 x.1) (hb : x.1 ≠ 0) (hlo : R32 lo) (hhi : R32 hi) (hK : ∀ I' J', F9 [6, 7, 8, 9] (I, J) (I', J') → TM (I', J') B (tkE (sc B e)) → K (some (.inl lo)) (I', J')) : w_X10_reads [.inr (.inr 348), .inl lo, .inl hi] (I, J) K := by
  have s2 : ∀ v : Int, B_X10_reads_14 (fun v μ' => K v μ') [some (.inr (.inr 348)), some (.inl lo), some (.inl hi), none] [.inl v, .inr (.inr 348)] (I, J) := fun v => by
    have tl : ∀ v2 : Int, w_X10_must [.inr (.inr 348), .inl v2, .inl 2] (I, J) (fun v μ' => (o_aload 0 (o_getI 10 9 (o_istore 3 (o_aload 0 (o_callV 0 10 w_X10_scans (o_aload 0 (o_callV 0 10 w_X10_isGood (o_if_eq (o_iload 1 (o_kil [0, 1, 2, 3] (B_X10_reads_56 (fun v μ' => K v μ')))) (o_iload 3 (o_kil [0, 1, 2, 3] (B_X10_reads_56 (fun v μ' => K v μ')))))))))))) [some (.inr (.inr 348)), some (.inl lo), some (.inl hi), none] (v.toList ++ []) μ') := fun v2 => must_b he hx hb ⟨hM, ⟨hM, cs8 rfl, M_scan h (fun I' J' f t => ⟨hM, cs8 rfl, P_X10_isGood (he.f9 f (by decide) (by decide)) hx (fun q => absurd q hb) (fun _ => ⟨⟨by omega, by omega⟩, fun _ => hK I' J' f t, fun q => absurd rfl q⟩)⟩)⟩⟩
    refine ⟨hM, cs8 rfl, must_b he hx hb ⟨hM, h.1.2.2.2.2, hlo, hhi, cs8 rfl, cs8 rfl, P_X10_in (r64 h.1.2.2.2.2) (r64 hlo) (r64 hhi) (fun _ _ => ⟨hM, cs8 rfl, tl 1⟩) (fun _ => ⟨hM, cs8 rfl, tl 0⟩)⟩⟩
  exact ⟨cs8 rfl, hM, h.kr, ⟨by omega, by omega⟩, fun _ => s2 0, fun _ => s2 1⟩
theorem reads_g {I J : Mi} {K : Option AV → MM → Prop} {B : List Int} {e : Nat} {p lo hi : Int} (h : TM (I, J) B e) (he : ErM (I, J) (0, p)) (hlo : R32 lo) (hhi : R32 hi) (h1 : ∀ v e', num B e lo hi = .inr (v, e') → ∀ I' J', F9 [6, 7, 8, 9] (I, J) (I', J') → TM (I', J') B e' → K (some (.inl v)) (I', J')) (h0 : ∀ x, num B e lo hi = .inl x → ∀ I' J', F9 [6, 7, 8, 9, 10, 11] (I, J) (I', J') → TM (I', J') B (tkE (sc B e)) → ErM (I', J') x → x.1 ≠ 0 → R32 x.1 → K (some (.inl lo)) (I', J')) : w_X10_reads [.inr (.inr 348), .inl lo, .inl hi] (I, J) K := by
  have e8 : I 348 8 = (tkK (sc B e) : Int) := h.2.2.2.2.1
  obtain ⟨f1, f2, f3, f4, f5, f6, f7, f8, f9⟩ := sc_facts h.1.2.2.2.1 h.2.1
  refine ⟨cs8 rfl, hM, ?_⟩
  show o_ci 2 _ _ [.inl (I 348 8), .inr (.inr 348)] (I, J)
  rw [e8]
  refine ⟨⟨by omega, by omega⟩, ⟨by omega, by omega⟩, fun q => ⟨hM, cs8 rfl, must_n he h (fun _ => rfl) (fun I1 g1 t1 e1 => ?_)⟩, fun q => ⟨hM, cs8 rfl, must_g he ?_⟩⟩
  · -- no number
    have hn : num B e lo hi = .inl (1, (tkA (sc B e) : Int)) := if_neg (by omega)
    have r1 : R32 ((1 : Int), (tkA (sc B e) : Int)).1 := R32_1
    have b1 : ((1 : Int), (tkA (sc B e) : Int)).1 ≠ 0 := by show (1 : Int) ≠ 0; decide
    have tl : ∀ v2 : Int, w_X10_must [.inr (.inr 348), .inl v2, .inl 2] (I1, J) (fun v μ' => (o_aload 0 (o_getI 10 9 (o_istore 3 (o_aload 0 (o_callV 0 10 w_X10_scans (o_aload 0 (o_callV 0 10 w_X10_isGood (o_if_eq (o_iload 1 (o_kil [0, 1, 2, 3] (B_X10_reads_56 (fun v μ' => K v μ')))) (o_iload 3 (o_kil [0, 1, 2, 3] (B_X10_reads_56 (fun v μ' => K v μ')))))))))))) [some (.inr (.inr 348)), some (.inl lo), some (.inl hi), none] (v.toList ++ []) μ') := fun v2 => must_b e1 r1 b1 ⟨hM, ⟨hM, cs8 rfl, M_scan t1 (fun I' J' f t => ⟨hM, cs8 rfl, P_X10_isGood (e1.f9 f (by decide) (by decide)) r1 (fun q => absurd q b1) (fun _ => ⟨⟨by omega, by omega⟩, fun _ => h0 _ hn I' J' ((g1.mono (by decide)).trans (f.mono (by decide))) t (e1.f9 f (by decide) (by decide)) b1 r1, fun q => absurd rfl q⟩)⟩)⟩⟩
    exact ⟨hM, t1.1.2.2.2.2, hlo, hhi, cs8 rfl, cs8 rfl, P_X10_in (r64 t1.1.2.2.2.2) (r64 hlo) (r64 hhi) (fun _ _ => ⟨hM, cs8 rfl, tl 1⟩) (fun _ => ⟨hM, cs8 rfl, tl 0⟩)⟩
  · have k2 : tkK (sc B e) = 2 := by omega
    have e9 : I 348 9 = tkN (sc B e) := h.2.2.2.2.2.2 k2
    have nr := f8 k2
    refine ⟨hM, ?_⟩
    show o_i2l _ _ [.inl (I 348 9), _] (I, J)
    rw [e9]
    refine ⟨⟨by omega, by omega⟩, hlo, hhi, cs8 rfl, cs8 rfl, P_X10_in ⟨by omega, by omega⟩ (r64 hlo) (r64 hhi) (fun q1 q2 => ⟨hM, cs8 rfl, must_g he ⟨hM, ?_⟩⟩) (fun q3 => ⟨hM, cs8 rfl, must_n he h (fun z => absurd z (by omega)) (fun I1 g1 t1 e1 => ⟨hM, ⟨hM, cs8 rfl, M_scan t1 (fun I' J' f t => ⟨hM, cs8 rfl, P_X10_isGood (e1.f9 f (by decide) (by decide)) R32_2 (fun q => absurd q (show (2 : Int) ≠ 0 by decide)) (fun _ => ⟨⟨by omega, by omega⟩, fun _ => h0 (2, (tkA (sc B e) : Int)) ((if_pos k2).trans (if_neg q3)) I' J' ((g1.mono (by decide)).trans (f.mono (by decide))) t (e1.f9 f (by decide) (by decide)) (show (2 : Int) ≠ 0 by decide) R32_2, fun q => absurd rfl q⟩)⟩)⟩⟩)⟩)⟩
    show o_istore 3 _ _ [.inl (I 348 9)] (I, J)
    rw [e9]
    exact ⟨hM, cs8 rfl, M_scan h (fun I' J' f t => ⟨hM, cs8 rfl, P_X10_isGood (he.f9 f (by decide) (by decide)) R32_0 (fun _ => ⟨⟨by omega, by omega⟩, fun z => absurd z (by decide), fun _ => h1 (tkN (sc B e)) (tkE (sc B e)) ((if_pos k2).trans (if_pos ⟨q1, q2⟩)) I' J' f t⟩) (fun z => absurd rfl z)⟩)⟩
