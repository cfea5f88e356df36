/-! PURE 8: the model's further questions -/
theorem P_X10_promise {μ : MM} {K : Option AV → MM → Prop} {b : Nat} {S : AS} {G : List (Nat × Pkt)} {i y : Int} (h : HG b μ S G) (hi : R32 i) (hy : R32 y) (hK : K (some (.inl (aPrm S i y).2)) (uM μ.1 348 0 (aPrm S i y).1, μ.2)) : w_X10_promise [.inr (.inr 348), .inl i, .inl y] μ K := by
  have h6 := h.2.2.1.pmn
  have hb := h.2.1
  have h' := h.thr 0
  refine ⟨cs8 rfl, hM, cs8 rfl, P_X10_isPromise h hi (fun q1 q2 => ?_) (fun q => ?_)⟩
  · refine ⟨hy, cs8 rfl, cs8 rfl, P_X10_in (r64 hy) ⟨by omega, by omega⟩ ⟨by omega, by omega⟩ (fun r1 r2 => ⟨hM, cs8 rfl, P_X10_allGood (Or.inr rfl) (Or.inr rfl) (fun _ _ => ⟨⟨by omega, by omega⟩, fun q => absurd q (by decide), fun _ => ?_⟩) (fun _ q => absurd q (by decide)) (fun q => absurd q (by decide))⟩) (fun q => ⟨hM, cs8 rfl, P_X10_allGood (Or.inr rfl) (Or.inl rfl) (fun _ q => absurd q (by decide)) (fun _ _ => ⟨⟨by omega, by omega⟩, fun _ => ?_, fun q => absurd rfl q⟩) (fun q => absurd q (by decide))⟩)⟩
    · obtain ⟨n, rfl⟩ : ∃ n : Nat, i = n := ⟨i.toNat, by omega⟩
      obtain ⟨w, rfl⟩ : ∃ w : Nat, y = w := ⟨y.toNat, by omega⟩
      obtain ⟨m, hm⟩ : ∃ m, (zR S)[n]? = some m := ⟨(zR S)[n]'(by omega), List.getElem?_eq_getElem (by omega)⟩
      rw [show aPrm S n w = (0, mw m w) by unfold aPrm; rw [if_pos ⟨q1, q2⟩, if_pos ⟨r1, r2⟩]; simp only [Int.toNat_natCast]; rw [hm]] at hK
      refine ⟨hM, cs8 rfl, P_X10_m n w h'.1 rfl rfl (by omega) ?_⟩
      rw [h'.pm hm (by omega)]
      exact hK
    · rw [show aPrm S i y = (2, 0) by unfold aPrm; rw [if_pos ⟨q1, q2⟩, if_neg q]] at hK
      exact hK
  · rw [show aPrm S i y = (1, 0) from if_neg q] at hK
    refine ⟨hy, cs8 rfl, cs8 rfl, P_X10_in (r64 hy) ⟨by omega, by omega⟩ ⟨by omega, by omega⟩ (fun r1 r2 => ⟨hM, cs8 rfl, P_X10_allGood (Or.inl rfl) (Or.inr rfl) (fun q _ => absurd q (by decide)) (fun q _ => absurd q (by decide)) (fun _ => ⟨⟨by omega, by omega⟩, fun _ => hK, fun q => absurd rfl q⟩)⟩) (fun q => ⟨hM, cs8 rfl, P_X10_allGood (Or.inl rfl) (Or.inl rfl) (fun q _ => absurd q (by decide)) (fun q _ => absurd q (by decide)) (fun _ => ⟨⟨by omega, by omega⟩, fun _ => hK, fun q => absurd rfl q⟩)⟩)⟩
theorem P_X10_owed {μ : MM} {K : Option AV → MM → Prop} {b : Nat} {S : AS} {G : List (Nat × Pkt)} {x y : Int} (h : HG b μ S G) (hx : R32 x) (hy : R32 y) (hK : K (some (.inl (aOwd S x y).2)) (uM μ.1 348 0 (aOwd S x y).1, μ.2)) : w_X10_owed [.inr (.inr 348), .inl x, .inl y] μ K := by
  have h6 := h.2.2.1.n6
  have h' := h.thr 0
  have bad : aOwd S x y = (1, 0) → B_X10_owed_21 (fun v μ' => K v μ') [some (.inr (.inr 348)), some (.inl x), some (.inl y)] [.inr (.inr 348)] μ := by
    intro e
    rw [e] at hK
    exact ⟨hM, cs8 rfl, P_X10_good (Or.inl rfl) (fun q => absurd q (by decide)) (fun _ => ⟨⟨by omega, by omega⟩, fun _ => hK, fun q => absurd rfl q⟩)⟩
  refine ⟨cs8 rfl, hM, cs8 rfl, P_X10_isPort h hx (fun q1 q2 => ⟨⟨by omega, by omega⟩, fun q => absurd q (by decide), fun _ => ⟨hM, cs8 rfl, P_X10_isPort h hy (fun r1 r2 => ⟨⟨by omega, by omega⟩, fun q => absurd q (by decide), fun _ => ⟨hM, cs8 rfl, P_X10_good (Or.inr rfl) (fun _ => ⟨⟨by omega, by omega⟩, fun q => absurd q (by decide), fun _ => ?_⟩) (fun q => absurd q (by decide))⟩⟩) (fun q => ⟨⟨by omega, by omega⟩, fun _ => bad (if_neg (fun z => q z.2)), fun q => absurd rfl q⟩)⟩⟩) (fun q => ⟨⟨by omega, by omega⟩, fun _ => bad (if_neg (fun z => q z.1)), fun q => absurd rfl q⟩)⟩
  obtain ⟨p, rfl⟩ : ∃ p : Nat, x = p := ⟨x.toNat, by omega⟩
  obtain ⟨r, rfl⟩ : ∃ r : Nat, y = r := ⟨y.toNat, by omega⟩
  rw [show aOwd S p r = (0, owd S p r) by unfold aOwd; rw [if_pos ⟨⟨q1, q2⟩, r1, r2⟩]; rfl] at hK
  exact ⟨hM, cs8 rfl, P_X10_owedTo p r h' rfl rfl (by omega) (by omega) hK⟩
theorem HG.dr {b : Nat} {μ : MM} {S : AS} {G : List (Nat × Pkt)} (h : HG b μ S G) {i j : Nat} {d : Drp} (hd : (zD S)[i]? = some d) (hi : i < 20) (hj : j < 5) : μ.1 349 (2080 * b + 1980 + 5 * (min 20 (zD S).length - 1 - i) + j) = dw d j := h.2.2.2.2.2.2.2.2.1 i d hi hd j hj
theorem P_X10_drop {μ : MM} {K : Option AV → MM → Prop} {b : Nat} {S : AS} {G : List (Nat × Pkt)} {i y : Int} (h : HG b μ S G) (hi : R32 i) (hy : R32 y) (hK : K (some (.inl (aDrp S i y).2)) (uM μ.1 348 0 (aDrp S i y).1, μ.2)) : w_X10_drop [.inr (.inr 348), .inl i, .inl y] μ K := by
  have hb := h.2.1
  have h' := h.thr 0
  have e8 : hdm S G.length 8 = ((min 20 (zD S).length : Nat) : Int) := rfl
  refine ⟨cs8 rfl, hy, cs8 rfl, cs8 rfl, P_X10_in (r64 hy) ⟨by omega, by omega⟩ ⟨by omega, by omega⟩ (fun r1 r2 => ⟨hM, cs8 rfl, P_X10_good (Or.inr rfl) (fun _ => ⟨⟨by omega, by omega⟩, fun _ => ⟨hi, hM, cs8 rfl, h'.ofo 8 rfl (by omega) ⟨by show R32 (((min 20 (zD S).length : Nat) : Int) - 1); exact ⟨by omega, by omega⟩, cs8 rfl, cs8 rfl, P_X10_in (r64 hi) ⟨by omega, by omega⟩ (by show R64 (((min 20 (zD S).length : Nat) : Int) - 1); exact ⟨by omega, by omega⟩) (fun q1 q2 => ⟨⟨by omega, by omega⟩, fun q => absurd q (by decide), fun _ => ⟨hM, cs8 rfl, h'.ofo 8 rfl (by omega) ?_⟩⟩) (fun q => ⟨⟨by omega, by omega⟩, fun _ => ?_, fun q => absurd rfl q⟩)⟩⟩, fun q => absurd q (by decide)⟩) (fun q => absurd q (by decide))⟩) (fun q => ⟨hM, cs8 rfl, P_X10_good (Or.inl rfl) (fun q => absurd q (by decide)) (fun _ => ⟨⟨by omega, by omega⟩, fun q => absurd rfl q, fun _ => ?_⟩)⟩)⟩
  · have q2' : i ≤ ((min 20 (zD S).length : Nat) : Int) - 1 := q2
    obtain ⟨n, rfl⟩ : ∃ n : Nat, i = n := ⟨i.toNat, by omega⟩
    obtain ⟨w, rfl⟩ : ∃ w : Nat, y = w := ⟨y.toNat, by omega⟩
    obtain ⟨d, hd⟩ : ∃ d, (zD S)[n]? = some d := ⟨(zD S)[n]'(by omega), List.getElem?_eq_getElem (by omega)⟩
    rw [show aDrp S n w = (0, dw d w) by unfold aDrp; rw [if_pos ⟨r1, r2⟩, if_pos ⟨q1, by omega, by omega⟩]; simp only [Int.toNat_natCast]; rw [hd]] at hK
    refine ⟨hM, cs8 rfl, P_X10_of (1980 + 5 * (min 20 (zD S).length - 1 - n) + w) h'.1 ?_ (by omega) ?_⟩
    · show (1980 : Int) + 5 * (((min 20 (zD S).length : Nat) : Int) - 1 - n) + w = _
      omega
    · rw [show 2080 * b + (1980 + 5 * (min 20 (zD S).length - 1 - n) + w) = 2080 * b + 1980 + 5 * (min 20 (zD S).length - 1 - n) + w by omega, h'.dr hd (by omega) (by omega)]
      exact hK
  · have q' : ¬ (0 ≤ i ∧ i ≤ ((min 20 (zD S).length : Nat) : Int) - 1) := q
    rw [show aDrp S i y = (0, -1) by unfold aDrp; rw [if_pos ⟨r1, r2⟩, if_neg (by omega)]] at hK
    exact hK
  · rw [show aDrp S i y = (1, 0) from if_neg q] at hK
    exact hK
theorem P_X10_dropsBy {μ : MM} {K : Option AV → MM → Prop} {b : Nat} {S : AS} {G : List (Nat × Pkt)} {x : Int} (h : HG b μ S G) (hx : R32 x) (hK : K (some (.inl (aDby S x).2)) (uM μ.1 348 0 (aDby S x).1, μ.2)) : w_X10_dropsBy [.inr (.inr 348), .inl x] μ K := by
  have h' := h.thr 0
  refine ⟨cs8 rfl, hx, cs8 rfl, cs8 rfl, P_X10_in (r64 hx) ⟨by omega, by omega⟩ ⟨by omega, by omega⟩ (fun q1 q2 => ⟨hM, cs8 rfl, P_X10_good (Or.inr rfl) (fun _ => ⟨⟨by omega, by omega⟩, fun q => absurd q (by decide), fun _ => ?_⟩) (fun q => absurd q (by decide))⟩) (fun q => ⟨hM, cs8 rfl, P_X10_good (Or.inl rfl) (fun q => absurd q (by decide)) (fun _ => ⟨⟨by omega, by omega⟩, fun _ => ?_, fun q => absurd rfl q⟩)⟩)⟩
  · obtain ⟨w, rfl⟩ : ∃ w : Nat, x = w := ⟨x.toNat, by omega⟩
    rw [show aDby S w = (0, cnt (zD S) w) from if_pos ⟨q1, q2⟩] at hK
    refine ⟨hM, cs8 rfl, h'.ofo (8 + w) (by omega) (by omega) ?_⟩
    rw [show hdm S G.length (8 + w) = cnt (zD S) w by (have : w = 1 ∨ w = 2 ∨ w = 3 := by omega); rcases this with rfl | rfl | rfl <;> rfl]
    exact hK
  · rw [show aDby S x = (1, 0) from if_neg q] at hK
    exact hK
theorem mcg_r (S : AS) : ∀ k, -1 ≤ mcg S k ∧ mcg S k < k ∧ (0 < k → 0 ≤ mcg S k) := by
  intro k
  induction k with
  | zero => exact ⟨by show (-1 : Int) ≤ -1; decide, by show (-1 : Int) < 0; decide, fun q => absurd q (by decide)⟩
  | succ k ih =>
    unfold mcg
    split
    · exact ⟨by omega, by omega, fun _ => by omega⟩
    · rename_i hn
      exact ⟨by omega, by omega, fun _ => by omega⟩
theorem mostCharged_lp {μ : MM} {post : Option AV → MM → Prop} {b : Nat} {S : AS} {G : List (Nat × Pkt)} (h : HG b μ S G) (hK : post (some (.inl (mcg S (zN S)))) μ) : ∀ (k i : Nat), i + k = zN S → B_X10_mostCharged_9 post [some (.inr (.inr 348)), some (.inl (mcg S i)), some (.inl (i : Int))] [] μ := by
  have h6 := h.2.2.1.n6
  intro k
  induction k with
  | zero =>
    intro i hi
    have : i = zN S := by omega
    subst this
    refine lfp_in ⟨hM, cs8 rfl, h.ofo 0 rfl (by omega) ?_⟩
    exact ⟨⟨by omega, by omega⟩, by show R32 (zN S : Int); exact ⟨by omega, by omega⟩, fun _ => hK, fun q => absurd (by show (zN S : Int) ≤ _; omega) q⟩
  | succ k ih =>
    intro i hi
    have key := ih (i + 1) (by omega)
    have hr := mcg_r S i
    have hd := h.2.2.1.dl
    have hpi := (h.2.2.1.pp (p := i) (by omega)).2.2.2.2.1
    refine lfp_in ⟨hM, cs8 rfl, h.ofo 0 rfl (by omega) ?_⟩
    refine ⟨⟨by omega, by omega⟩, by show R32 (zN S : Int); exact ⟨by omega, by omega⟩, fun q => absurd (show (zN S : Int) ≤ i from q) (by omega), fun _ => ⟨⟨by omega, by omega⟩, ⟨by omega, by omega⟩, fun q => ?_, fun q => ?_⟩⟩
    · unfold mcg at key
      rw [if_pos (Or.inl q)] at key
      exact key
    · have hpm := (h.2.2.1.pp (p := (mcg S i).toNat) (by omega)).2.2.2.2.1
      refine ⟨hM, cs8 rfl, h.po i 6 rfl rfl (by omega) (by omega) (by omega) ⟨hM, cs8 rfl, h.po (mcg S i).toNat 6 (by omega) rfl (by omega) (by omega) (by omega) ⟨⟨by omega, by omega⟩, ⟨by omega, by omega⟩, fun q2 => ?_, fun q2 => ?_⟩⟩⟩
      · unfold mcg at key
        rw [if_neg (fun z => z.elim q (fun z => by omega))] at key
        exact key
      · unfold mcg at key
        rw [if_pos (Or.inr (by omega))] at key
        exact key
theorem P_X10_mostCharged {μ : MM} {K : Option AV → MM → Prop} {b : Nat} {S : AS} {G : List (Nat × Pkt)} (h : HG b μ S G) (hK : K (some (.inl (mcg S (zN S)))) (uM μ.1 348 0 0, μ.2)) : w_X10_mostCharged [.inr (.inr 348)] μ K := ⟨cs8 rfl, hM, mostCharged_lp (h.thr 0) hK (zN S) 0 (by omega)⟩
theorem P_X10_errorCode {μ : MM} {K : Option AV → MM → Prop} (hK : K (some (.inl (μ.1 348 10))) (uM μ.1 348 0 0, μ.2)) : w_X10_errorCode [.inr (.inr 348)] μ K := by
  refine ⟨cs8 rfl, hM, hM, ?_⟩
  show K (some (.inl (uM μ.1 348 0 0 348 10))) _
  rw [uM_k (by decide)]
  exact hK
theorem P_X10_errorPosition {μ : MM} {K : Option AV → MM → Prop} (hK : K (some (.inl (μ.1 348 11))) (uM μ.1 348 0 0, μ.2)) : w_X10_errorPosition [.inr (.inr 348)] μ K := by
  refine ⟨cs8 rfl, hM, hM, ?_⟩
  show K (some (.inl (uM μ.1 348 0 0 348 11))) _
  rw [uM_k (by decide)]
  exact hK
theorem P_X10_thrown {μ : MM} {K : Option AV → MM → Prop} (hK : K (some (.inl (μ.1 348 0))) μ) : w_X10_thrown [.inr (.inr 348)] μ K := ⟨cs8 rfl, hM, hK⟩
theorem way_r (S : AS) (p : Nat) (c : Int) : way S p c ≤ 3 := by
  unfold way
  split
  · omega
  · split
    · omega
    · split <;> omega
theorem P_X10_wouldBorrow {μ : MM} {K : Option AV → MM → Prop} {b : Nat} {S : AS} {G : List (Nat × Pkt)} {x c : Int} (h : HG b μ S G) (hx : R32 x) (hc : R32 c) (hK : K (some (.inl (aWb S x c).2)) (uM μ.1 348 0 (aWb S x c).1, μ.2)) : w_X10_wouldBorrow [.inr (.inr 348), .inl x, .inl c] μ K := by
  have h6 := h.2.2.1.n6
  have h' := h.thr 0
  refine ⟨cs8 rfl, hM, cs8 rfl, P_X10_isPort h hx (fun q1 q2 => ?_) (fun q => ?_)⟩
  · refine ⟨cs8 rfl, cs8 rfl, P_X10_isCells hc (fun r1 r2 => ⟨hM, cs8 rfl, P_X10_allGood (Or.inr rfl) (Or.inr rfl) (fun _ _ => ⟨⟨by omega, by omega⟩, fun _ => ?_, fun q => absurd q (by decide)⟩) (fun _ q => absurd q (by decide)) (fun q => absurd q (by decide))⟩) (fun q => ⟨hM, cs8 rfl, P_X10_allGood (Or.inr rfl) (Or.inl rfl) (fun _ q => absurd q (by decide)) (fun _ _ => ⟨⟨by omega, by omega⟩, fun q => absurd rfl q, fun _ => ?_⟩) (fun q => absurd q (by decide))⟩)⟩
    · obtain ⟨p, rfl⟩ : ∃ p : Nat, x = p := ⟨x.toNat, by omega⟩
      have hp : p < zN S := by omega
      have hw := way_r S p c
      have hv : aWb S p c = (0, if way S p c = 3 then -1 else if way S p c = 2 then c - fre S p else 0) := by
        unfold aWb
        rw [if_pos ⟨q1, q2⟩, if_pos ⟨r1, r2⟩]
        rfl
      rw [hv] at hK
      refine ⟨hM, cs8 rfl, P_X10_wayIn p h' rfl hp ⟨by omega, by omega⟩ ⟨⟨by omega, by omega⟩, ⟨by omega, by omega⟩, fun q3 => ⟨⟨by omega, by omega⟩, ⟨by omega, by omega⟩, fun q4 => ?_, fun q4 => ⟨hM, cs8 rfl, P_X10_freeOf p h' rfl hp ?_⟩⟩, fun q3 => ?_⟩⟩
      · rw [if_neg (by omega), if_neg (by omega)] at hK
        exact hK
      · rw [if_neg (by omega), if_pos (by omega)] at hK
        exact hK
      · rw [if_pos (by omega)] at hK
        exact hK
    · rw [show aWb S x c = (2, 0) by unfold aWb; rw [if_pos ⟨q1, q2⟩, if_neg q]] at hK
      exact hK
  · rw [show aWb S x c = (1, 0) from if_neg q] at hK
    refine ⟨cs8 rfl, cs8 rfl, P_X10_isCells hc (fun r1 r2 => ⟨hM, cs8 rfl, P_X10_allGood (Or.inl rfl) (Or.inr rfl) (fun q _ => absurd q (by decide)) (fun q _ => absurd q (by decide)) (fun _ => ⟨⟨by omega, by omega⟩, fun q => absurd rfl q, fun _ => hK⟩)⟩) (fun q => ⟨hM, cs8 rfl, P_X10_allGood (Or.inl rfl) (Or.inl rfl) (fun q _ => absurd q (by decide)) (fun q _ => absurd q (by decide)) (fun _ => ⟨⟨by omega, by omega⟩, fun q => absurd rfl q, fun _ => hK⟩)⟩)⟩
theorem P_X10_wouldCall {μ : MM} {K : Option AV → MM → Prop} {b : Nat} {S : AS} {G : List (Nat × Pkt)} {x c : Int} (h : HG b μ S G) (hx : R32 x) (hc : R32 c) (hK : K (some (.inl (aWc S x c).2)) (uM μ.1 348 0 (aWc S x c).1, μ.2)) : w_X10_wouldCall [.inr (.inr 348), .inl x, .inl c] μ K := by
  have h6 := h.2.2.1.n6
  have h' := h.thr 0
  refine ⟨cs8 rfl, hM, cs8 rfl, P_X10_isPort h hx (fun q1 q2 => ?_) (fun q => ?_)⟩
  · refine ⟨cs8 rfl, cs8 rfl, P_X10_isCells hc (fun r1 r2 => ⟨hM, cs8 rfl, P_X10_allGood (Or.inr rfl) (Or.inr rfl) (fun _ _ => ⟨⟨by omega, by omega⟩, fun _ => ?_, fun q => absurd q (by decide)⟩) (fun _ q => absurd q (by decide)) (fun q => absurd q (by decide))⟩) (fun q => ⟨hM, cs8 rfl, P_X10_allGood (Or.inr rfl) (Or.inl rfl) (fun _ q => absurd q (by decide)) (fun _ _ => ⟨⟨by omega, by omega⟩, fun q => absurd rfl q, fun _ => ?_⟩) (fun q => absurd q (by decide))⟩)⟩
    · obtain ⟨p, rfl⟩ : ∃ p : Nat, x = p := ⟨x.toNat, by omega⟩
      have hp : p < zN S := by omega
      have hw := way_r S p c
      have hv : aWc S p c = (0, if way S p c = 1 then c - fre S p else 0) := by
        unfold aWc
        rw [if_pos ⟨q1, q2⟩, if_pos ⟨r1, r2⟩]
        rfl
      rw [hv] at hK
      refine ⟨hM, cs8 rfl, P_X10_wayIn p h' rfl hp ⟨by omega, by omega⟩ ⟨⟨by omega, by omega⟩, ⟨by omega, by omega⟩, fun q3 => ?_, fun q3 => ⟨hM, cs8 rfl, P_X10_freeOf p h' rfl hp ?_⟩⟩⟩
      · rw [if_neg (by omega)] at hK
        exact hK
      · rw [if_pos (by omega)] at hK
        exact hK
    · rw [show aWc S x c = (2, 0) by unfold aWc; rw [if_pos ⟨q1, q2⟩, if_neg q]] at hK
      exact hK
  · rw [show aWc S x c = (1, 0) from if_neg q] at hK
    refine ⟨cs8 rfl, cs8 rfl, P_X10_isCells hc (fun r1 r2 => ⟨hM, cs8 rfl, P_X10_allGood (Or.inl rfl) (Or.inr rfl) (fun q _ => absurd q (by decide)) (fun q _ => absurd q (by decide)) (fun _ => ⟨⟨by omega, by omega⟩, fun q => absurd rfl q, fun _ => hK⟩)⟩) (fun q => ⟨hM, cs8 rfl, P_X10_allGood (Or.inl rfl) (Or.inl rfl) (fun q _ => absurd q (by decide)) (fun q _ => absurd q (by decide)) (fun _ => ⟨⟨by omega, by omega⟩, fun q => absurd rfl q, fun _ => hK⟩)⟩)⟩
theorem greatest_lp {μ : MM} {post : Option AV → MM → Prop} {b : Nat} {S : AS} {G : List (Nat × Pkt)} (h : HG b μ S G) {p : Nat} (hp : p < zN S) : ∀ (k : Nat), k ≤ 40 → post (some (.inl (gdn S p k : Nat))) μ → B_X10_greatest_17 post [some (.inr (.inr 348)), some (.inl (p : Int)), some (.inl (k : Int))] [] μ := by
  intro k
  induction k with
  | zero =>
    intro hk hK
    exact lfp_in ⟨⟨by omega, by omega⟩, fun _ => hK, fun q => absurd (by omega) q⟩
  | succ k ih =>
    intro hk hK
    have hw := way_r S p ((k + 1 : Nat) : Int)
    refine lfp_in ⟨⟨by omega, by omega⟩, fun q => absurd q (by omega), fun _ => ⟨hM, cs8 rfl, P_X10_wayIn p h rfl hp ⟨by omega, by omega⟩ ⟨⟨by omega, by omega⟩, ⟨by omega, by omega⟩, fun q => ?_, fun q => ?_⟩⟩⟩
    · unfold gdn at hK
      rw [if_neg (by omega)] at hK
      exact hK
    · unfold gdn at hK
      rw [if_pos (by omega)] at hK
      have e : ((k + 1 : Nat) : Int) + -1 = (k : Int) := by omega
      have key := ih (by omega) hK
      rw [← e] at key
      exact key
theorem P_X10_greatest {μ : MM} {K : Option AV → MM → Prop} {b : Nat} {S : AS} {G : List (Nat × Pkt)} {x : Int} (h : HG b μ S G) (hx : R32 x) (hK : K (some (.inl (aGrt S x).2)) (uM μ.1 348 0 (aGrt S x).1, μ.2)) : w_X10_greatest [.inr (.inr 348), .inl x] μ K := by
  have h6 := h.2.2.1.n6
  have h' := h.thr 0
  refine ⟨cs8 rfl, hM, cs8 rfl, P_X10_isPort h hx (fun q1 q2 => ⟨hM, cs8 rfl, P_X10_good (Or.inr rfl) (fun _ => ⟨⟨by omega, by omega⟩, fun _ => ?_, fun q => absurd q (by decide)⟩) (fun q => absurd q (by decide))⟩) (fun q => ⟨hM, cs8 rfl, P_X10_good (Or.inl rfl) (fun q => absurd q (by decide)) (fun _ => ⟨⟨by omega, by omega⟩, fun q => absurd rfl q, fun _ => ?_⟩)⟩)⟩
  · obtain ⟨p, rfl⟩ : ∃ p : Nat, x = p := ⟨x.toNat, by omega⟩
    rw [show aGrt S p = (0, ((gdn S p 40 : Nat) : Int)) from if_pos ⟨q1, q2⟩] at hK
    exact greatest_lp h' (p := p) (by omega) 40 (by omega) hK
  · rw [show aGrt S x = (1, 0) from if_neg q] at hK
    exact hK
