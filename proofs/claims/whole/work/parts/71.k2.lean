/-! PURE 59: the model reads tokens -/
/-- the model's own numbers of ks and its word change -/
def F9 (ks : List Nat) (μ μ' : MM) : Prop := (∀ e, e ≠ 348 → μ'.1 e = μ.1 e) ∧ (∀ j, j ∉ ks → μ'.1 348 j = μ.1 348 j) ∧ (∀ e, e ≠ 348 → μ'.2 e = μ.2 e)
theorem F9.refl {ks : List Nat} {μ : MM} : F9 ks μ μ := ⟨fun _ _ => rfl, fun _ _ => rfl, fun _ _ => rfl⟩
theorem F9.trans {ks : List Nat} {μ μ1 μ2 : MM} (h : F9 ks μ μ1) (h' : F9 ks μ1 μ2) : F9 ks μ μ2 := ⟨fun e he => (h'.1 e he).trans (h.1 e he), fun j hj => (h'.2.1 j hj).trans (h.2.1 j hj), fun e he => (h'.2.2 e he).trans (h.2.2 e he)⟩
theorem F9.put {ks : List Nat} {k : Nat} {v : Int} {I J : Mi} (hk : k ∈ ks) : F9 ks (I, J) (uM I 348 k v, J) := ⟨fun e he => uM_r he, fun j hj => uM_k (fun q => hj (q ▸ hk)), fun _ _ => rfl⟩
theorem F9.putL {ks : List Nat} {k : Nat} {v : Int} {I J : Mi} : F9 ks (I, J) (I, uM J 348 k v) := ⟨fun e he => rfl, fun j hj => rfl, fun e he => uM_r he⟩
theorem F9.mono {ks ks' : List Nat} {μ μ' : MM} (h : F9 ks μ μ') (hs : ∀ k ∈ ks, k ∈ ks') : F9 ks' μ μ' := ⟨h.1, fun j hj => h.2.1 j (fun q => hj (hs j q)), h.2.2⟩
/-- the model's buffer -/
def TBm (μ : MM) (B : List Int) : Prop := μ.1 348 5 = B.length ∧ B.length ≤ 600 ∧ AI (μ.1 351) B ∧ BR B ∧ R32 (μ.1 348 9)
/-- the model has read token t -/
def TkM (μ : MM) (t : Tk) : Prop := μ.1 348 6 = tkA t ∧ μ.1 348 7 = tkE t ∧ μ.1 348 8 = tkK t ∧ (tkK t = 1 → μ.2 348 12 = pk5 (tkW t)) ∧ (tkK t = 2 → μ.1 348 9 = tkN t)
theorem P_X10_byteAt {μ : MM} {K : Option AV → MM → Prop} {B : List Int} {x : Int} (i : Nat) (h : TBm μ B) (hx : x = i) (hi : i ≤ 600) (hK : K (some (.inl (bA B i))) μ) : w_X10_byteAt [.inr (.inr 348), .inl x] μ K := by
  subst hx
  obtain ⟨h1, h2, h3, -, -⟩ := h
  refine ⟨cs8 rfl, hM, ?_⟩
  show o_icmp_ge _ _ _ [.inl (μ.1 348 5), .inl (i : Int)] μ
  rw [h1]
  refine ⟨by constructor <;> omega, by constructor <;> omega, fun q => ?_, fun q => ⟨hM, h351.1, by omega, ?_, ?_⟩⟩
  · rw [bA_no (by omega)] at hK
    exact hK
  · show (i : Int) < ((ln 351 : Nat) : Int); rw [h351.2]; omega
  · have := h3 i _ (bA_at (by omega))
    show K (some (.inl (μ.1 351 i))) μ
    rw [this]
    exact hK
theorem TBm.f9 {μ μ' : MM} {B : List Int} (h : TBm μ B) (hf : F9 [6, 7, 8] μ μ') : TBm μ' B := ⟨(hf.2.1 5 (by decide)).trans h.1, h.2.1, h.2.2.1.eq (hf.1 351 (by decide)), h.2.2.2.1, by rw [hf.2.1 9 (by decide)]; exact h.2.2.2.2⟩
theorem TBm.f9n {μ μ' : MM} {B : List Int} (h : TBm μ B) (hf : F9 [6, 7, 8, 9] μ μ') (hn : R32 (μ'.1 348 9)) : TBm μ' B := ⟨(hf.2.1 5 (by decide)).trans h.1, h.2.1, h.2.2.1.eq (hf.1 351 (by decide)), h.2.2.2.1, hn⟩
theorem isL_iff {x : Int} : isL x = true ↔ (97 ≤ x ∧ x ≤ 122) := decide_eq_true_iff
theorem isD_iff {x : Int} : isD x = true ↔ (48 ≤ x ∧ x ≤ 57) := decide_eq_true_iff
theorem scansW_lp {K : Option AV → MM → Prop} {B : List Int} {a : Nat} (hL : isL (bA B a) = true) (ha : a < B.length) : ∀ (k j : Nat) (I J : Mi), j + k = (rn isL B a).length → TBm (I, J) B → I 348 6 = a → I 348 7 = ((a + j : Nat) : Int) → J 348 12 = v5 ((rn isL B a).take (min j 8)) → (∀ μ', F9 [6, 7, 8, 9] (I, J) μ' → R32 (μ'.1 348 9) → TkM μ' (tka B a) → K none μ') → B_X10_scans_138 K [some (.inr (.inr 348)), none] [] (I, J) := by
  have rl := rn_le (f := isL) (B := B) (a := a)
  intro k
  induction k with
  | zero =>
    intro j I J hj h h6 h7 hw hK
    have hl6 := h.2.1
    have hjL : j = (rn isL B a).length := by omega
    have ne : ¬ (97 ≤ bA B (a + j) ∧ bA B (a + j) ≤ 122) := fun z => by
      have := rn_end (f := isL) (by decide) _ a hjL.symm
      rw [isL_iff.mpr z] at this
      exact Bool.noConfusion this
    have hr := bA_r h.2.2.2.1 (a + j)
    refine lfp_in ⟨hM, hM, cs8 rfl, P_X10_byteAt (a + j) h h7 (by omega) ⟨by constructor <;> omega, cs8 rfl, cs8 rfl, P_X10_in (by constructor <;> omega) ⟨by omega, by omega⟩ ⟨by omega, by omega⟩ (fun q1 q2 => absurd ⟨q1, q2⟩ ne) (fun _ => ⟨⟨by omega, by omega⟩, fun _ => ⟨hM, hM, ?_⟩, fun q => absurd rfl q⟩)⟩⟩
    show o_isub _ _ [.inl (I 348 6), .inl (I 348 7), .inr (.inr 348)] (I, J)
    rw [h6, h7]
    have e8 : ∀ v : Int, F9 [6, 7, 8, 9] (I, J) (uM I 348 8 v, J) := fun v => F9.put (by decide)
    have g : ∀ v : Int, (v = if (rn isL B a).length ≤ 8 then 1 else 4) → K none (uM I 348 8 v, J) := fun v hv => by
      have et : tka B a = (if (rn isL B a).length ≤ 8 then 1 else 4, a, a + (rn isL B a).length, let5 (rn isL B a), 0) := if_pos hL
      refine hK _ (e8 v) (by show R32 (uM I 348 8 v 348 9); rw [uM_k (by decide)]; exact h.2.2.2.2) ?_
      rw [et]
      refine ⟨?_, ?_, ?_, fun q => ?_, fun q => ?_⟩
      · show uM I 348 8 v 348 6 = _; rw [uM_k (by decide)]; exact h6
      · show uM I 348 8 v 348 7 = _; rw [uM_k (by decide), h7, hjL]
      · show uM I 348 8 v 348 8 = _; rw [uM_s, hv]; split <;> rfl
      · have q : (if (rn isL B a).length ≤ 8 then 1 else 4) = 1 := q
        have q8 : (rn isL B a).length ≤ 8 := by
          by_cases z : (rn isL B a).length ≤ 8
          · exact z
          · rw [if_neg z] at q; omega
        show J 348 12 = pk5 (let5 (rn isL B a))
        rw [hw, List.take_of_length_le (by omega), v5_pk rn_all]
      · have q : (if (rn isL B a).length ≤ 8 then 1 else 4) = 2 := q
        split at q <;> omega
    refine ⟨by constructor <;> omega, by constructor <;> omega, fun q => ⟨hM, g 1 (by rw [if_pos (by omega)])⟩, fun q => ⟨hM, g 4 (by rw [if_neg (by omega)])⟩⟩
    
  | succ k ih =>
    intro j I J hj h h6 h7 hw hK
    have hl6 := h.2.1
    obtain ⟨b1, b2, b3⟩ := rn_at j a (show j < (rn isL B a).length by omega)
    have b2 := isL_iff.mp b2
    refine lfp_in ⟨hM, hM, cs8 rfl, P_X10_byteAt (a + j) h h7 (by omega) ⟨by constructor <;> omega, cs8 rfl, cs8 rfl, P_X10_in (by constructor <;> omega) ⟨by omega, by omega⟩ ⟨by omega, by omega⟩ (fun _ _ => ⟨⟨by omega, by omega⟩, fun q => absurd q (by decide), fun _ => ⟨hM, hM, ?_⟩⟩) (fun q => absurd b2 q)⟩⟩
    show o_isub _ _ [.inl (I 348 6), .inl (I 348 7), .inr (.inr 348)] (I, J)
    rw [h6, h7]
    have nx : ∀ v : Int, v = v5 ((rn isL B a).take (min (j + 1) 8)) → B_X10_scans_138 K [some (.inr (.inr 348)), none] [] (uM I 348 7 (I 348 7 + 1), uM J 348 12 v) := fun v hv => by
      have f : F9 [6, 7, 8, 9] (I, J) (uM I 348 7 (I 348 7 + 1), uM J 348 12 v) := (F9.put (ks := [6, 7, 8, 9]) (I := I) (J := J) (by decide)).trans F9.putL
      refine ih (j + 1) _ _ (by omega) (h.f9n f (by show R32 (uM I 348 7 (I 348 7 + 1) 348 9); rw [uM_k (by decide)]; exact h.2.2.2.2)) ?_ ?_ ?_ (fun μ' f' r' t' => hK μ' (f.trans f') r' t')
      · rw [uM_k (by decide)]; exact h6
      · rw [uM_s, h7]; omega
      · rw [uM_s]; exact hv
    refine ⟨by constructor <;> omega, by constructor <;> omega, fun q => ⟨hM, hM, hM, hM, nx _ ?_⟩, fun q => ⟨hM, hM, hM, cs8 rfl, P_X10_byteAt (a + j) h h7 (by omega) ⟨by constructor <;> omega, hM, hM, hM, nx _ ?_⟩⟩⟩
    · show J 348 12 = _
      rw [hw, show min (j + 1) 8 = min j 8 by omega]
    · show 32 * J 348 12 + bA B (a + j) - 96 = _
      rw [hw, show min (j + 1) 8 = j + 1 by omega, show min j 8 = j by omega, take_s b3, v5_app]
theorem scansD_lp {K : Option AV → MM → Prop} {B : List Int} {a : Nat} (hL : isL (bA B a) = false) (hD : isD (bA B a) = true) (ha : a < B.length) : ∀ (k j : Nat) (I J : Mi), j + k = (rn isD B a).length → TBm (I, J) B → I 348 6 = a → I 348 7 = ((a + j : Nat) : Int) → I 348 9 = nv ((rn isD B a).take (min j 4)) → (∀ μ', F9 [6, 7, 8, 9] (I, J) μ' → R32 (μ'.1 348 9) → TkM μ' (tka B a) → K none μ') → B_X10_scans_272 K [some (.inr (.inr 348)), none] [] (I, J) := by
  have rl := rn_le (f := isD) (B := B) (a := a)
  have nr : ∀ j, R32 (nv ((rn isD B a).take (min j 4))) := fun j => by
    have := nv_r 4 ((rn isD B a).take (min j 4)) (by rw [List.length_take]; omega) (fun x hx => rn_all x (List.mem_of_mem_take hx))
    have h2 : nv ((rn isD B a).take (min j 4)) < 10000 := this.2
    exact ⟨by omega, by omega⟩
  intro k
  induction k with
  | zero =>
    intro j I J hj h h6 h7 hw hK
    have hl6 := h.2.1
    have hjL : j = (rn isD B a).length := by omega
    have ne : ¬ (48 ≤ bA B (a + j) ∧ bA B (a + j) ≤ 57) := fun z => by
      have := rn_end (f := isD) (by decide) _ a hjL.symm
      rw [isD_iff.mpr z] at this
      exact Bool.noConfusion this
    have hr := bA_r h.2.2.2.1 (a + j)
    refine lfp_in ⟨hM, hM, cs8 rfl, P_X10_byteAt (a + j) h h7 (by omega) ⟨by constructor <;> omega, cs8 rfl, cs8 rfl, P_X10_in (by constructor <;> omega) ⟨by omega, by omega⟩ ⟨by omega, by omega⟩ (fun q1 q2 => absurd ⟨q1, q2⟩ ne) (fun _ => ⟨⟨by omega, by omega⟩, fun _ => ⟨hM, hM, ?_⟩, fun q => absurd rfl q⟩)⟩⟩
    show o_isub _ _ [.inl (I 348 6), .inl (I 348 7), .inr (.inr 348)] (I, J)
    rw [h6, h7]
    have e8 : ∀ v : Int, F9 [6, 7, 8, 9] (I, J) (uM I 348 8 v, J) := fun v => F9.put (by decide)
    have g : ∀ v : Int, (v = if (rn isD B a).length ≤ 4 then 2 else 4) → K none (uM I 348 8 v, J) := fun v hv => by
      have et : tka B a = (if (rn isD B a).length ≤ 4 then 2 else 4, a, a + (rn isD B a).length, [], nv (rn isD B a)) := (if_neg (by rw [hL]; exact Bool.false_ne_true)).trans (if_pos hD)
      refine hK _ (e8 v) (by show R32 (uM I 348 8 v 348 9); rw [uM_k (by decide)]; exact h.2.2.2.2) ?_
      rw [et]
      refine ⟨?_, ?_, ?_, fun q => ?_, fun q => ?_⟩
      · show uM I 348 8 v 348 6 = _; rw [uM_k (by decide)]; exact h6
      · show uM I 348 8 v 348 7 = _; rw [uM_k (by decide), h7, hjL]
      · show uM I 348 8 v 348 8 = _; rw [uM_s, hv]; split <;> rfl
      · have q : (if (rn isD B a).length ≤ 4 then 2 else 4) = 1 := q
        split at q <;> omega
      · have q : (if (rn isD B a).length ≤ 4 then 2 else 4) = 2 := q
        have q8 : (rn isD B a).length ≤ 4 := by
          by_cases z : (rn isD B a).length ≤ 4
          · exact z
          · rw [if_neg z] at q; omega
        show uM I 348 8 v 348 9 = nv (rn isD B a)
        rw [uM_k (by decide), hw, List.take_of_length_le (by omega)]
    refine ⟨by constructor <;> omega, by constructor <;> omega, fun q => ⟨hM, g 2 (by rw [if_pos (by omega)])⟩, fun q => ⟨hM, g 4 (by rw [if_neg (by omega)])⟩⟩
  | succ k ih =>
    intro j I J hj h h6 h7 hw hK
    have hl6 := h.2.1
    obtain ⟨b1, b2, b3⟩ := rn_at j a (show j < (rn isD B a).length by omega)
    have b2 := isD_iff.mp b2
    refine lfp_in ⟨hM, hM, cs8 rfl, P_X10_byteAt (a + j) h h7 (by omega) ⟨by constructor <;> omega, cs8 rfl, cs8 rfl, P_X10_in (by constructor <;> omega) ⟨by omega, by omega⟩ ⟨by omega, by omega⟩ (fun _ _ => ⟨⟨by omega, by omega⟩, fun q => absurd q (by decide), fun _ => ⟨hM, hM, ?_⟩⟩) (fun q => absurd b2 q)⟩⟩
    show o_isub _ _ [.inl (I 348 6), .inl (I 348 7), .inr (.inr 348)] (I, J)
    rw [h6, h7]
    have nx : ∀ v : Int, v = nv ((rn isD B a).take (min (j + 1) 4)) → B_X10_scans_272 K [some (.inr (.inr 348)), none] [] (uM (uM I 348 9 v) 348 7 (uM I 348 9 v 348 7 + 1), J) := fun v hv => by
      have f : F9 [6, 7, 8, 9] (I, J) (uM (uM I 348 9 v) 348 7 (uM I 348 9 v 348 7 + 1), J) := (F9.put (ks := [6, 7, 8, 9]) (I := I) (J := J) (by decide)).trans (F9.put (by decide))
      refine ih (j + 1) _ _ (by omega) (h.f9n f (by show R32 (uM (uM I 348 9 v) 348 7 (uM I 348 9 v 348 7 + 1) 348 9); rw [uM_k (by decide), uM_s, hv]; exact nr (j + 1))) ?_ ?_ ?_ (fun μ' f' r' t' => hK μ' (f.trans f') r' t')
      · rw [uM_k (by decide), uM_k (by decide)]; exact h6
      · rw [uM_s, uM_k (by decide), h7]; omega
      · rw [uM_k (by decide), uM_s]; exact hv
    refine ⟨by constructor <;> omega, by constructor <;> omega, fun q => ⟨hM, hM, hM, hM, nx _ ?_⟩, fun q => ⟨hM, hM, hM, cs8 rfl, P_X10_byteAt (a + j) h h7 (by omega) ⟨hM, hM, hM, nx _ ?_⟩⟩⟩
    · show I 348 9 = _
      rw [hw, show min (j + 1) 4 = min j 4 by omega]
    · show 10 * I 348 9 + bA B (a + j) - 48 = _
      rw [hw, show min (j + 1) 4 = j + 1 by omega, show min j 4 = j by omega, take_s b3, nv_app]
theorem scans89 {I J : Mi} {K : Option AV → MM → Prop} {B : List Int} {a k0 : Nat} (h : TBm (I, J) B) (ha : a ≤ B.length) (h6 : I 348 6 = a) (h7 : I 348 7 = a) (hk : k0 = if bA B a = -1 then 0 else if bA B a = 59 ∨ bA B a = 40 ∨ bA B a = 41 then 3 else 4) (hK : ∀ μ', F9 [6, 7, 8, 9] (I, J) μ' → R32 (μ'.1 348 9) → TkM μ' (tka B a) → K none μ') : B_X10_scans_89 K [some (.inr (.inr 348)), some (.inl (bA B a))] [.inl (k0 : Int), .inr (.inr 348)] (I, J) := by
  have hr := bA_r h.2.2.2.1 a
  have hl6 := h.2.1
  -- behind the first look: end is a + 1, or a at the end
  have key : ∀ d : Nat, d = (if bA B a = -1 then 0 else 1) → B_X10_scans_107 K [some (.inr (.inr 348)), some (.inl (bA B a))] [.inl (d : Int), .inl (uM I 348 8 (k0 : Int) 348 7), .inr (.inr 348)] (uM I 348 8 (k0 : Int), J) := by
    intro d hd
    have e7 : uM I 348 8 (k0 : Int) 348 7 = (a : Int) := by rw [uM_k (by decide)]; exact h7
    rw [e7]
    have f : F9 [6, 7, 8, 9] (I, J) (uM (uM I 348 8 (k0 : Int)) 348 7 ((a : Int) + d), J) := (F9.put (ks := [6, 7, 8, 9]) (I := I) (J := J) (by decide)).trans (F9.put (by decide))
    have hn : R32 (uM (uM I 348 8 (k0 : Int)) 348 7 ((a : Int) + d) 348 9) := by rw [uM_k (by decide), uM_k (by decide)]; exact h.2.2.2.2
    have g6 : uM (uM I 348 8 (k0 : Int)) 348 7 ((a : Int) + d) 348 6 = (a : Int) := by rw [uM_k (by decide), uM_k (by decide)]; exact h6
    refine ⟨hM, ⟨by omega, by omega⟩, cs8 rfl, cs8 rfl, P_X10_in ⟨by omega, by omega⟩ ⟨by omega, by omega⟩ ⟨by omega, by omega⟩ (fun q1 q2 => ?_) (fun q => ?_)⟩
    · -- letters
      refine ⟨⟨by omega, by omega⟩, fun z => absurd z (by decide), fun _ => ⟨hM, hM, hM, ?_⟩⟩
      show B_X10_scans_138 K _ [] (uM (uM (uM I 348 8 (k0 : Int)) 348 7 ((a : Int) + d)) 348 7 (uM (uM I 348 8 (k0 : Int)) 348 7 ((a : Int) + d) 348 6), uM J 348 12 0)
      rw [g6]
      have f2 : F9 [6, 7, 8, 9] (I, J) (uM (uM (uM I 348 8 (k0 : Int)) 348 7 ((a : Int) + d)) 348 7 (a : Int), uM J 348 12 0) := (f.trans (F9.put (by decide))).trans F9.putL
      have hn2 : R32 (uM (uM (uM I 348 8 (k0 : Int)) 348 7 ((a : Int) + d)) 348 7 (a : Int) 348 9) := by rw [uM_k (by decide)]; exact hn
      have hL := isL_iff.mpr ⟨q1, q2⟩
      have hal : a < B.length := by
        refine Nat.not_le.mp (fun z => ?_)
        rw [bA_no z] at q1
        omega
      exact scansW_lp hL hal (rn isL B a).length 0 _ _ (Nat.zero_add _) (h.f9n f2 hn2) (by rw [uM_k (by decide)]; exact g6) uM_s uM_s (fun μ' f' r' t' => hK μ' (f2.trans f') r' t')
    · refine ⟨⟨by omega, by omega⟩, fun _ => ⟨⟨by omega, by omega⟩, cs8 rfl, cs8 rfl, P_X10_in ⟨by omega, by omega⟩ ⟨by omega, by omega⟩ ⟨by omega, by omega⟩ (fun q1 q2 => ?_) (fun q3 => ?_)⟩, fun z => absurd rfl z⟩
      · -- digits
        refine ⟨⟨by omega, by omega⟩, fun z => absurd z (by decide), fun _ => ⟨hM, hM, hM, ?_⟩⟩
        show B_X10_scans_272 K _ [] (uM (uM (uM (uM I 348 8 (k0 : Int)) 348 7 ((a : Int) + d)) 348 9 0) 348 7 (uM (uM (uM I 348 8 (k0 : Int)) 348 7 ((a : Int) + d)) 348 9 0 348 6), J)
        rw [uM_k (I := uM (uM I 348 8 (k0 : Int)) 348 7 ((a : Int) + d)) (e := 348) (k := 9) (k' := 6) (by decide), g6]
        have f2 : F9 [6, 7, 8, 9] (I, J) (uM (uM (uM (uM I 348 8 (k0 : Int)) 348 7 ((a : Int) + d)) 348 9 0) 348 7 (a : Int), J) := (f.trans (F9.put (by decide))).trans (F9.put (by decide))
        have e9 : uM (uM (uM (uM I 348 8 (k0 : Int)) 348 7 ((a : Int) + d)) 348 9 0) 348 7 (a : Int) 348 9 = 0 := by rw [uM_k (by decide), uM_s]
        have hD := isD_iff.mpr ⟨q1, q2⟩
        have hL : isL (bA B a) = false := by
          cases hh : isL (bA B a) with
          | false => rfl
          | true => exact absurd (isL_iff.mp hh) q
        have hal : a < B.length := by
          refine Nat.not_le.mp (fun z => ?_)
          rw [bA_no z] at q1
          omega
        exact scansD_lp hL hD hal (rn isD B a).length 0 _ _ (Nat.zero_add _) (h.f9n f2 (by show R32 (uM (uM (uM (uM I 348 8 (k0 : Int)) 348 7 ((a : Int) + d)) 348 9 0) 348 7 (a : Int) 348 9); rw [e9]; exact R32_0)) (by rw [uM_k (by decide), uM_k (by decide)]; exact g6) uM_s e9 (fun μ' f' r' t' => hK μ' (f2.trans f') r' t')
      · -- a sign, the end, or wrong
        refine ⟨⟨by omega, by omega⟩, fun _ => hK _ f hn ?_, fun z => absurd rfl z⟩
        have hL : ¬ isL (bA B a) = true := fun z => q (isL_iff.mp z)
        have hD : ¬ isD (bA B a) = true := fun z => q3 (isD_iff.mp z)
        have e8 : uM (uM I 348 8 (k0 : Int)) 348 7 ((a : Int) + d) 348 8 = (k0 : Int) := by rw [uM_k (by decide), uM_s]
        unfold tka
        rw [if_neg hL, if_neg hD]
        by_cases c3 : bA B a = 59 ∨ bA B a = 40 ∨ bA B a = 41
        · have cn : ¬ bA B a = -1 := by omega
          rw [if_neg cn] at hd
          rw [if_neg cn, if_pos c3] at hk
          rw [if_pos c3]
          exact ⟨g6, by show uM (uM I 348 8 (k0 : Int)) 348 7 ((a : Int) + d) 348 7 = _; rw [uM_s, hd]; rfl, e8.trans (by rw [hk]), fun z => absurd (show (3 : Nat) = 1 from z) (by decide), fun z => absurd (show (3 : Nat) = 2 from z) (by decide)⟩
        · rw [if_neg c3]
          by_cases c4 : bA B a = -1
          · rw [if_pos c4] at hd hk
            rw [if_pos c4]
            exact ⟨g6, by show uM (uM I 348 8 (k0 : Int)) 348 7 ((a : Int) + d) 348 7 = _; rw [uM_s, hd]; show (a : Int) + 0 = a; omega, e8.trans (by rw [hk]), fun z => absurd (show (0 : Nat) = 1 from z) (by decide), fun z => absurd (show (0 : Nat) = 2 from z) (by decide)⟩
          · rw [if_neg c4] at hd hk
            rw [if_neg c3] at hk
            rw [if_neg c4]
            exact ⟨g6, by show uM (uM I 348 8 (k0 : Int)) 348 7 ((a : Int) + d) 348 7 = _; rw [uM_s, hd]; rfl, e8.trans (by rw [hk]), fun z => absurd (show (4 : Nat) = 1 from z) (by decide), fun z => absurd (show (4 : Nat) = 2 from z) (by decide)⟩
  refine ⟨hM, hM, ⟨by omega, by omega⟩, ⟨by omega, by omega⟩, fun q => ?_, fun q => ?_⟩
  · exact key 1 (by rw [if_neg q])
  · exact key 0 (by rw [if_pos q])
theorem scans_lp {K : Option AV → MM → Prop} {B : List Int} : ∀ (k e : Nat) (I J : Mi), (rn isB B e).length = k → e ≤ B.length → TBm (I, J) B → I 348 7 = e → (∀ μ', F9 [6, 7, 8, 9] (I, J) μ' → R32 (μ'.1 348 9) → TkM μ' (sc B e) → K none μ') → B_X10_scans_0 K [some (.inr (.inr 348)), none] [] (I, J) := by
  intro k
  induction k with
  | zero =>
    intro e I J hk he h h7 hK
    have hl6 := h.2.1
    have hr := bA_r h.2.2.2.1 e
    have hb : isB (bA B e) = false := rn_end (f := isB) (by decide) 0 e hk
    have hb2 : ¬ (bA B e = 32 ∨ bA B e = 10) := of_decide_eq_false hb
    rw [sc_n hb] at hK
    refine lfp_in ⟨hM, hM, cs8 rfl, P_X10_byteAt e h h7 (by omega) ⟨⟨by omega, by omega⟩, ⟨by omega, by omega⟩, fun q => absurd (Or.inl q) hb2, fun _ => ⟨hM, hM, cs8 rfl, P_X10_byteAt e h h7 (by omega) ⟨⟨by omega, by omega⟩, ⟨by omega, by omega⟩, fun _ => ⟨hM, hM, hM, ?_⟩, fun q => absurd (Or.inr q) hb2⟩⟩⟩⟩
    have f : F9 [6, 7, 8] (I, J) (uM I 348 6 (e : Int), J) := F9.put (by decide)
    have h1 := h.f9 f
    have g6 : uM I 348 6 (e : Int) 348 6 = (e : Int) := uM_s
    have g7 : uM I 348 6 (e : Int) 348 7 = (e : Int) := by rw [uM_k (by decide)]; exact h7
    show _ ∧ _ ∧ w_X10_byteAt [.inr (.inr 348), .inl (uM I 348 6 (I 348 7) 348 6)] (uM I 348 6 (I 348 7), J) _
    rw [h7, g6]
    have fin := fun (k0 : Nat) (hk : k0 = if bA B e = -1 then 0 else if bA B e = 59 ∨ bA B e = 40 ∨ bA B e = 41 then 3 else 4) => scans89 (K := K) (k0 := k0) h1 he g6 g7 hk (fun μ' f' r' t' => hK μ' ((f.mono (by decide)).trans f') r' t')
    refine ⟨hM, cs8 rfl, P_X10_byteAt e h1 rfl (by omega) ⟨⟨by omega, by omega⟩, ⟨by omega, by omega⟩, fun q => ⟨⟨by omega, by omega⟩, ⟨by omega, by omega⟩, fun q1 => ?_, fun q1 => ⟨⟨by omega, by omega⟩, ⟨by omega, by omega⟩, fun q2 => ?_, fun q2 => ⟨⟨by omega, by omega⟩, ⟨by omega, by omega⟩, fun q3 => ?_, fun q3 => ?_⟩⟩⟩, fun q => ?_⟩⟩
    · exact fin 3 (by rw [if_neg q, if_pos (Or.inl q1)])
    · exact fin 3 (by rw [if_neg q, if_pos (Or.inr (Or.inl q2))])
    · exact fin 4 (by rw [if_neg q, if_neg (by omega)])
    · exact fin 3 (by rw [if_neg q, if_pos (Or.inr (Or.inr q3))])
    · exact fin 0 (by rw [if_pos q])
  | succ k ih =>
    intro e I J hk he h h7 hK
    have hl6 := h.2.1
    have hr := bA_r h.2.2.2.1 e
    have hb : isB (bA B e) = true := by
      cases hh : isB (bA B e) with
      | true => rfl
      | false => rw [rn_e (Or.inr hh)] at hk; exact absurd hk.symm (Nat.succ_ne_zero _)
    have hb2 : bA B e = 32 ∨ bA B e = 10 := of_decide_eq_true hb
    have hl : e < B.length := by
      refine Nat.not_le.mp (fun z => ?_)
      rw [bA_no z] at hb2
      omega
    rw [sc_b hb] at hK
    rw [rn_s hl hb, List.length_cons] at hk
    have nx : B_X10_scans_26 K (B_X10_scans_0 K) [some (.inr (.inr 348)), none] [] (I, J) := by
      refine ⟨hM, hM, ?_⟩
      show B_X10_scans_0 K [some (.inr (.inr 348)), none] [] (uM I 348 7 (I 348 7 + 1), J)
      rw [h7]
      have f : F9 [6, 7, 8] (I, J) (uM I 348 7 ((e : Int) + 1), J) := F9.put (by decide)
      exact ih (e + 1) _ _ (by omega) (by omega) (h.f9 f) uM_s (fun μ' f' r' t' => hK μ' ((f.mono (by decide)).trans f') r' t')
    refine lfp_in ⟨hM, hM, cs8 rfl, P_X10_byteAt e h h7 (by omega) ⟨⟨by omega, by omega⟩, ⟨by omega, by omega⟩, fun _ => nx, fun q1 => ⟨hM, hM, cs8 rfl, P_X10_byteAt e h h7 (by omega) ⟨⟨by omega, by omega⟩, ⟨by omega, by omega⟩, fun q2 => absurd hb2 (by omega), fun _ => nx⟩⟩⟩⟩
theorem P_X10_scans {I J : Mi} {K : Option AV → MM → Prop} {B : List Int} {e : Nat} (h : TBm (I, J) B) (h7 : I 348 7 = e) (he : e ≤ B.length) (hK : ∀ μ', F9 [6, 7, 8, 9] (I, J) μ' → TBm μ' B → TkM μ' (sc B e) → K none μ') : w_X10_scans [.inr (.inr 348)] (I, J) K :=
  ⟨cs8 rfl, scans_lp _ e I J rfl he h h7 (fun μ' f r t => hK μ' f (h.f9n f r) t)⟩
