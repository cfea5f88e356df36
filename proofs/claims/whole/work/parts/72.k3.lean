/-! PURE 60: the class reads tokens -/
def F1 (ks : List Nat) (μ μ' : MM) : Prop := (∀ e, e ≠ 1 → μ'.1 e = μ.1 e) ∧ (∀ j, j ∉ ks → μ'.1 1 j = μ.1 1 j) ∧ (∀ e, e ≠ 1 → μ'.2 e = μ.2 e)
theorem F1.refl {ks : List Nat} {μ : MM} : F1 ks μ μ := ⟨fun _ _ => rfl, fun _ _ => rfl, fun _ _ => rfl⟩
theorem F1.trans {ks : List Nat} {μ μ1 μ2 : MM} (h : F1 ks μ μ1) (h' : F1 ks μ1 μ2) : F1 ks μ μ2 := ⟨fun e he => (h'.1 e he).trans (h.1 e he), fun j hj => (h'.2.1 j hj).trans (h.2.1 j hj), fun e he => (h'.2.2 e he).trans (h.2.2 e he)⟩
theorem F1.put {ks : List Nat} {k : Nat} {v : Int} {I J : Mi} (hk : k ∈ ks) : F1 ks (I, J) (uM I 1 k v, J) := ⟨fun e he => uM_r he, fun j hj => uM_k (fun q => hj (q ▸ hk)), fun _ _ => rfl⟩
theorem F1.putL {ks : List Nat} {k : Nat} {v : Int} {I J : Mi} : F1 ks (I, J) (I, uM J 1 k v) := ⟨fun e he => rfl, fun j hj => rfl, fun e he => uM_r he⟩
theorem F1.mono {ks ks' : List Nat} {μ μ' : MM} (h : F1 ks μ μ') (hs : ∀ k ∈ ks, k ∈ ks') : F1 ks' μ μ' := ⟨h.1, fun j hj => h.2.1 j (fun q => hj (hs j q)), h.2.2⟩
def TBc (μ : MM) (B : List Int) : Prop := μ.1 1 1 = B.length ∧ B.length ≤ 600 ∧ AI (μ.1 2) B ∧ BR B
theorem TBc.f1 {ks : List Nat} {μ μ' : MM} {B : List Int} (h : TBc μ B) (hf : F1 ks μ μ') (hk : 1 ∉ ks) : TBc μ' B := ⟨(hf.2.1 1 hk).trans h.1, h.2.1, h.2.2.1.eq (hf.1 2 (by decide)), h.2.2.2⟩
/-- the class's kinds: 0 end, 1 word, 2 number, 3 sign, 5 wrong -/
def ckd (k : Nat) : Nat := if k = 4 then 5 else k
def TkC (μ : MM) (t : Tk) : Prop := μ.1 1 6 = tkA t ∧ μ.1 1 4 = tkE t ∧ μ.1 1 5 = ckd (tkK t) ∧ (tkK t = 1 → μ.2 1 7 = pk8 (tkW t)) ∧ (tkK t = 2 → μ.1 1 8 = tkN t) ∧ (tkK t = 3 → μ.2 1 7 = tkN t)
def kOf (x : Int) : Nat := if isB x = true then 4 else if isL x = true then 1 else if isD x = true then 2 else if x = 59 ∨ x = 40 ∨ x = 41 then 3 else 5
theorem isB_iff {x : Int} : isB x = true ↔ (x = 32 ∨ x = 10) := decide_eq_true_iff
theorem kOf_r (x : Int) : kOf x ≤ 5 := by
  unfold kOf
  split
  · decide
  · split
    · decide
    · split
      · decide
      · split <;> decide
theorem P_X8_kindOf {μ : MM} {K : Option AV → MM → Prop} {x : Int} (hx : R32 x) (hK : K (some (.inl (kOf x : Int))) μ) : w_X8_kindOf [.inl x] μ K := by
  have k12 : (x = 32 ∨ x = 10) → K (some (.inl 4)) μ := fun z => by
    unfold kOf at hK
    rw [if_pos (isB_iff.mpr z)] at hK
    exact hK
  have k42 : ¬ (x = 32 ∨ x = 10) → ¬ (97 ≤ x ∧ x ≤ 122) → ¬ (48 ≤ x ∧ x ≤ 57) → B_X8_kindOf_42 (fun v μ' => K v μ') [some (.inl x)] [] μ := fun z1 z2 z3 => by
    unfold kOf at hK
    rw [if_neg (fun z => z1 (isB_iff.mp z)), if_neg (fun z => z2 (isL_iff.mp z)), if_neg (fun z => z3 (isD_iff.mp z))] at hK
    refine ⟨hx, ⟨by omega, by omega⟩, fun q => ?_, fun q => ⟨hx, ⟨by omega, by omega⟩, fun q2 => ?_, fun q2 => ⟨hx, ⟨by omega, by omega⟩, fun q3 => ?_, fun q3 => ?_⟩⟩⟩
    · rw [if_pos (Or.inl q)] at hK; exact hK
    · rw [if_pos (Or.inr (Or.inl q2))] at hK; exact hK
    · rw [if_neg (by omega)] at hK; exact hK
    · rw [if_pos (Or.inr (Or.inr q3))] at hK; exact hK
  have k28 : ¬ (x = 32 ∨ x = 10) → ¬ (97 ≤ x ∧ x ≤ 122) → B_X8_kindOf_28 (fun v μ' => K v μ') [some (.inl x)] [] μ := fun z1 z2 => by
    refine ⟨hx, ⟨by omega, by omega⟩, fun q => k42 z1 z2 (by omega), fun q => ⟨hx, ⟨by omega, by omega⟩, fun q2 => k42 z1 z2 (by omega), fun q2 => ?_⟩⟩
    unfold kOf at hK
    rw [if_neg (fun z => z1 (isB_iff.mp z)), if_neg (fun z => z2 (isL_iff.mp z)), if_pos (isD_iff.mpr ⟨by omega, by omega⟩)] at hK
    exact hK
  refine ⟨cs8 rfl, hx, ⟨by omega, by omega⟩, fun q => k12 (Or.inl q), fun q => ⟨hx, ⟨by omega, by omega⟩, fun q2 => ⟨hx, ⟨by omega, by omega⟩, fun q3 => k28 (by omega) (by omega), fun q3 => ⟨hx, ⟨by omega, by omega⟩, fun q4 => k28 (by omega) (by omega), fun q4 => ?_⟩⟩, fun q2 => k12 (Or.inr q2)⟩⟩
  unfold kOf at hK
  rw [if_neg (fun z => absurd (isB_iff.mp z) (by omega)), if_pos (isL_iff.mpr ⟨by omega, by omega⟩)] at hK
  exact hK
theorem isTooLong_14 {I J : Mi} {K : Option AV → MM → Prop} {a n : Nat} {m : Int} (h4 : I 1 4 = n) (h6 : I 1 6 = a) (hn : n ≤ 600) (ha : a ≤ n) (hm : 0 ≤ m ∧ m ≤ 8) (hK : K (some (.inl (if m < (n : Int) - a then 1 else 0))) (I, J)) : B_X8_isTooLong_14 K [some (.inr (.inr 1)), none] [.inl m] (I, J) := by
  refine ⟨h1T, h1T, ?_⟩
  show o_isub _ _ [.inl (I 1 6), .inl (I 1 4)] (I, J)
  rw [h6, h4]
  refine ⟨⟨by omega, by omega⟩, ⟨by omega, by omega⟩, fun q => ⟨Or.inl rfl, ?_⟩, fun q => ⟨Or.inr rfl, ?_⟩⟩
  · rw [if_neg (by omega)] at hK; exact hK
  · rw [if_pos (by omega)] at hK; exact hK
theorem P_X8_isTooLong {I J : Mi} {K : Option AV → MM → Prop} {a n k : Nat} (h4 : I 1 4 = n) (h6 : I 1 6 = a) (h5 : I 1 5 = k) (hk : k ≤ 5) (hn : n ≤ 600) (ha : a ≤ n) (hK : K (some (.inl (if (if k = 1 then 8 else 4) < (n : Int) - a then 1 else 0))) (I, J)) : w_X8_isTooLong [.inr (.inr 1)] (I, J) K := by
  refine ⟨cs8 rfl, h1T, ?_⟩
  show o_ci 1 _ _ [.inl (I 1 5)] (I, J)
  rw [h5]
  refine ⟨⟨by omega, by omega⟩, ⟨by omega, by omega⟩, fun q => isTooLong_14 h4 h6 hn ha (by decide) ?_, fun q => isTooLong_14 h4 h6 hn ha (by decide) ?_⟩
  · rw [if_neg (show ¬ k = 1 by omega)] at hK; exact hK
  · rw [if_pos (show k = 1 by omega)] at hK; exact hK
theorem adv215 {I J : Mi} {K : Option AV → MM → Prop} {a n k : Nat} (h4 : I 1 4 = n) (h6 : I 1 6 = a) (h5 : I 1 5 = k) (hk : k ≤ 5) (hn : n ≤ 600) (ha : a ≤ n) (h0 : n ≤ a + (if k = 1 then 8 else 4) → K none (I, J)) (h1 : ¬ n ≤ a + (if k = 1 then 8 else 4) → K none (uM I 1 5 5, J)) : B_X8_advance_215 K [some (.inr (.inr 1)), none] [] (I, J) := by
  refine ⟨h1T, cs8 rfl, P_X8_isTooLong h4 h6 h5 hk hn ha ⟨?_, fun q => ?_, fun q => ⟨h1T, ?_⟩⟩⟩
  · split <;> exact ⟨by omega, by omega⟩
  · by_cases z : (if k = 1 then (8 : Int) else 4) < (n : Int) - a
    · rw [if_pos z] at q; exact absurd q (by decide)
    · exact h0 (by split at z <;> split <;> omega)
  · by_cases z : (if k = 1 then (8 : Int) else 4) < (n : Int) - a
    · exact h1 (by split at z <;> split <;> omega)
    · rw [if_neg z] at q; exact absurd rfl q
theorem adv156 {I J : Mi} {K : Option AV → MM → Prop} {K1 : PT} {B : List Int} {n : Nat} {r : Int} (h : TBc (I, J) B) (h4 : I 1 4 = n) (hn : n < B.length) (hK : K1 [some (.inr (.inr 1)), some (.inl r)] [] (uM (uM I 1 8 (10 * I 1 8 + bA B n - 48)) 1 4 ((n : Int) + 1), uM J 1 7 (J 1 7 * 256 + bA B n))) : B_X8_advance_156 K K1 [some (.inr (.inr 1)), some (.inl r)] [] (I, J) := by
  have hl := h.2.1
  have hb := h.2.2.2 _ (List.mem_of_getElem? (bA_at hn))
  have hv : I 2 n = bA B n := h.2.2.1 n _ (bA_at hn)
  refine ⟨h1T, ⟨by omega, by omega, h1T, h1T, ?_⟩⟩
  show o_iald _ _ [.inl (I 1 4), .inr (.inr 2), .inr (.inl (J 1 7 * 256)), .inr (.inr 1)] (I, J)
  rw [h4]
  refine ⟨h2b.1, by omega, by show (n : Int) < ((ln 2 : Nat) : Int); rw [h2b.2]; omega, ?_⟩
  show o_i2l _ _ [.inl (I 2 n), .inr (.inl (J 1 7 * 256)), .inr (.inr 1)] (I, J)
  rw [hv]
  refine ⟨⟨by omega, by omega⟩, ⟨by omega, hb.1, by omega, h1T, h1T, h1T, h1T, ?_⟩⟩
  show o_iald _ _ [.inl (I 1 4), .inr (.inr 2), .inl (I 1 8 * 10), .inr (.inr 1)] (I, uM J 1 7 (J 1 7 * 256 + bA B n))
  rw [h4]
  refine ⟨h2b.1, by omega, by show (n : Int) < ((ln 2 : Nat) : Int); rw [h2b.2]; omega, ?_⟩
  show o_iadd _ _ [.inl (I 2 n), .inl (I 1 8 * 10), .inr (.inr 1)] (I, uM J 1 7 (J 1 7 * 256 + bA B n))
  rw [hv, Int.mul_comm]
  refine ⟨h1T, h1T, h1T, ?_⟩
  show K1 _ [] (uM (uM I 1 8 (10 * I 1 8 + bA B n - 48)) 1 4 (uM I 1 8 (10 * I 1 8 + bA B n - 48) 1 4 + 1), uM J 1 7 (J 1 7 * 256 + bA B n))
  rw [uM_k (I := I) (e := 1) (k := 8) (k' := 4) (by decide), h4]
  exact hK
/-- a run of letters or digits; kk is its kind -/
theorem advR_lp {K : Option AV → MM → Prop} {f : Int → Bool} {kk : Nat} {B : List Int} {a : Nat} (hf : ∀ x, f x = true ↔ kOf x = kk) (hf1 : f (-1) = false) (hkk : kk ≤ 5) (ha : a < B.length) : ∀ (k j : Nat) (I J : Mi), j + k = (rn f B a).length → 1 ≤ (rn f B a).length → TBc (I, J) B → I 1 6 = a → I 1 4 = ((a + j : Nat) : Int) → I 1 5 = kk → J 1 7 = v8 ((rn f B a).take j) → I 1 8 = nv ((rn f B a).take j) → (∀ μ', F1 [4, 5, 7, 8] (I, J) μ' → μ'.1 1 4 = ((a + (rn f B a).length : Nat) : Int) → μ'.1 1 5 = (if (rn f B a).length ≤ (if kk = 1 then 8 else 4) then (kk : Int) else 5) → μ'.2 1 7 = v8 (rn f B a) → μ'.1 1 8 = nv (rn f B a) → K none μ') → B_X8_advance_111 K [some (.inr (.inr 1)), some (.inl 1)] [] (I, J) := by
  have rl := rn_le (f := f) (B := B) (a := a)
  intro k
  induction k with
  | zero =>
    intro j I J hj h1 h h6 h4 h5 h7 h8 hK
    have hl6 := h.2.1
    have hjL : j = (rn f B a).length := by omega
    have hne := rn_end hf1 _ a hjL.symm
    have e7 : J 1 7 = v8 (rn f B a) := by rw [h7, List.take_of_length_le (by omega)]
    have e8 : I 1 8 = nv (rn f B a) := by rw [h8, List.take_of_length_le (by omega)]
    have fin : B_X8_advance_215 K [some (.inr (.inr 1)), none] [] (I, J) := by
      refine adv215 h4 h6 h5 hkk (by omega) (by omega) (fun q => hK _ F1.refl (by rw [← hjL]; exact h4) ?_ e7 e8) (fun q => hK _ (F1.put (by decide)) ?_ ?_ e7 ?_)
      · show I 1 5 = _
        rw [if_pos (by omega)]; exact h5
      · show uM I 1 5 5 1 4 = _
        rw [uM_k (by decide), ← hjL]; exact h4
      · show uM I 1 5 5 1 5 = _
        rw [uM_s, if_neg (by omega)]
      · show uM I 1 5 5 1 8 = _
        rw [uM_k (by decide)]; exact e8
    refine lfp_in ⟨h1T, h1T, ?_⟩
    show o_icmp_ge _ _ _ [.inl (I 1 1), .inl (I 1 4)] (I, J)
    rw [show I 1 1 = (B.length : Int) from h.1, h4]
    refine ⟨⟨by omega, by omega⟩, ⟨by omega, by omega⟩, fun _ => fin, fun q => ⟨h1T, h1T, ?_⟩⟩
    show o_icmp_eq _ _ _ [.inl (I 1 6), .inl (I 1 4)] (I, J)
    rw [h6, h4]
    refine ⟨⟨by omega, by omega⟩, ⟨by omega, by omega⟩, fun z => absurd z (by omega), fun _ => ⟨⟨by omega, by omega⟩, fun z => absurd z (by decide), fun _ => ⟨h1T, h1T, ?_⟩⟩⟩
    show o_iald _ _ [.inl (I 1 4), .inr (.inr 2)] (I, J)
    rw [h4]
    refine ⟨h2b.1, by omega, by show ((a + j : Nat) : Int) < ((ln 2 : Nat) : Int); rw [h2b.2]; omega, ?_⟩
    show _ ∧ _ ∧ w_X8_kindOf [.inl (I 2 (a + j))] (I, J) _
    have hi : a + j < B.length := by omega
    have hv : I 2 (a + j) = bA B (a + j) := h.2.2.1 _ _ (bA_at hi)
    have hb := h.2.2.2 _ (List.mem_of_getElem? (bA_at hi))
    rw [hv]
    refine ⟨cs8 rfl, cs8 rfl, P_X8_kindOf ⟨by omega, by omega⟩ ⟨h1T, ?_⟩⟩
    have hko := kOf_r (bA B (a + j))
    show o_icmp_ne _ _ _ [.inl (I 1 5), .inl (kOf (bA B (a + j)) : Int)] (I, J)
    rw [h5]
    refine ⟨⟨by omega, by omega⟩, ⟨by omega, by omega⟩, fun _ => fin, fun z => ?_⟩
    rw [(hf _).mpr (by omega)] at hne
    exact Bool.noConfusion hne
  | succ k ih =>
    intro j I J hj h1 h h6 h4 h5 h7 h8 hK
    have hl6 := h.2.1
    obtain ⟨b1, b2, b3⟩ := rn_at j a (show j < (rn f B a).length by omega)
    have hv : I 2 (a + j) = bA B (a + j) := h.2.2.1 _ _ (bA_at b1)
    have hb := h.2.2.2 _ (List.mem_of_getElem? (bA_at b1))
    have nx : B_X8_advance_156 K (B_X8_advance_111 K) [some (.inr (.inr 1)), some (.inl 1)] [] (I, J) := by
      refine adv156 h h4 b1 ?_
      have fr : F1 [4, 5, 7, 8] (I, J) (uM (uM I 1 8 (10 * I 1 8 + bA B (a + j) - 48)) 1 4 (((a + j : Nat) : Int) + 1), uM J 1 7 (J 1 7 * 256 + bA B (a + j))) := ((F1.put (ks := [4, 5, 7, 8]) (I := I) (J := J) (by decide)).trans (F1.put (by decide))).trans F1.putL
      refine ih (j + 1) _ _ (by omega) h1 (h.f1 fr (by decide)) ?_ ?_ ?_ ?_ ?_ (fun μ' f' => hK μ' (fr.trans f'))
      · rw [uM_k (by decide), uM_k (by decide)]; exact h6
      · rw [uM_s]; omega
      · rw [uM_k (by decide), uM_k (by decide)]; exact h5
      · rw [uM_s, h7, take_s b3, v8_app]
      · rw [uM_k (by decide), uM_s, h8, take_s b3, nv_app]
    refine lfp_in ⟨h1T, h1T, ?_⟩
    show o_icmp_ge _ _ _ [.inl (I 1 1), .inl (I 1 4)] (I, J)
    rw [show I 1 1 = (B.length : Int) from h.1, h4]
    refine ⟨⟨by omega, by omega⟩, ⟨by omega, by omega⟩, fun z => absurd z (by show ¬ ((B.length : Int) ≤ _); omega), fun q => ⟨h1T, h1T, ?_⟩⟩
    show o_icmp_eq _ _ _ [.inl (I 1 6), .inl (I 1 4)] (I, J)
    rw [h6, h4]
    refine ⟨⟨by omega, by omega⟩, ⟨by omega, by omega⟩, fun _ => nx, fun _ => ⟨⟨by omega, by omega⟩, fun z => absurd z (by decide), fun _ => ⟨h1T, h1T, ?_⟩⟩⟩
    show o_iald _ _ [.inl (I 1 4), .inr (.inr 2)] (I, J)
    rw [h4]
    refine ⟨h2b.1, by omega, by show ((a + j : Nat) : Int) < ((ln 2 : Nat) : Int); rw [h2b.2]; omega, ?_⟩
    show _ ∧ _ ∧ w_X8_kindOf [.inl (I 2 (a + j))] (I, J) _
    rw [hv]
    refine ⟨cs8 rfl, cs8 rfl, P_X8_kindOf ⟨by omega, by omega⟩ ⟨h1T, ?_⟩⟩
    have hko := kOf_r (bA B (a + j))
    show o_icmp_ne _ _ _ [.inl (I 1 5), .inl (kOf (bA B (a + j)) : Int)] (I, J)
    rw [h5, (hf _).mp b2]
    exact ⟨⟨by omega, by omega⟩, ⟨by omega, by omega⟩, fun z => absurd rfl z, fun _ => nx⟩
