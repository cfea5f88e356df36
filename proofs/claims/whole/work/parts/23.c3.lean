/-! PURE 11: the class's further questions -/
theorem gdn_eq {S : AS} {p : Nat} {M : Int} (hM : ∀ n : Nat, 1 ≤ n → n ≤ 40 → (way S p n = 3 ↔ M < n)) (h0 : 0 ≤ M) : ∀ k : Nat, k ≤ 40 → ((gdn S p k : Nat) : Int) = min (k : Int) M := by
  intro k
  induction k with
  | zero => intro _; show (0 : Int) = _; omega
  | succ k ih =>
    intro hk
    have h1 := hM (k + 1) (by omega) hk
    have h2 := ih (by omega)
    unfold gdn
    split
    · rename_i q
      have := h1.mp q
      omega
    · rename_i q
      have : ¬ M < ((k + 1 : Nat) : Int) := fun z => q (h1.mpr z)
      omega
theorem way3 (S : AS) (p : Nat) (c : Int) : way S p c = 3 ↔ fre S p < c ∧ zP S p 0 < usd S p + c ∧ oth S p < c - fre S p := by
  unfold way
  split
  · constructor
    · intro q; exact absurd q (by decide)
    · rintro ⟨a, b, c⟩; omega
  · split
    · constructor
      · intro q; exact absurd q (by decide)
      · rintro ⟨a, b, c⟩; omega
    · split
      · constructor
        · intro q; exact absurd q (by decide)
        · rintro ⟨a, b, c⟩; omega
      · exact ⟨fun _ => ⟨by omega, by omega, by omega⟩, fun _ => rfl⟩
theorem P_X9_greatest {μ : MM} {K : Option AV → MM → Prop} {X : String → MM → Prop} {S : AS} {x : Int} (h : HC 11 μ S) (hg : Gd S) (hx : R32 x) (hK : OC [xI] (aGrt S x) K X μ) : w_X9_greatest [.inr (.inr 0), .inl x] μ K X := by
  have hs := sw_s h.1
  have h6 := h.2.1.n6
  refine ⟨cs8 rfl, h0X, cs8 rfl, P_X9_needPort h hx (fun q1 q2 => ?_) (fun q => hK.x 0 rfl (if_neg q))⟩
  obtain ⟨p, rfl⟩ : ∃ p : Nat, x = p := ⟨x.toNat, by omega⟩
  have hp : p < zN S := by omega
  have hpt := sw_pt h.1 (p := p) (by omega)
  obtain ⟨c0, c1, c2, c3, c4, c5, c6, c7, c8, c9, c10, c11, c12⟩ := h.cp hp
  have hu := h.2.1.usdR hp
  have hr := h.2.1.spR hp
  have ho := oth_le h.2.1 p
  have hf := hg.2.1 p hp
  have ef : fre S p = rom S p - usd S p := rfl
  have hv : aGrt S p = (0, min 40 (max (zP S p 0 - usd S p) (fre S p + oth S p))) := by
    unfold aGrt
    rw [if_pos ⟨q1, q2⟩, Int.toNat_natCast, gdn_eq (M := max (zP S p 0 - usd S p) (fre S p + oth S p)) (fun n _ _ => by rw [way3]; constructor <;> omega) (by omega) 40 (by omega)]
    rfl
  have hK := hK.k hv
  refine ⟨h0X, hs, aq (e := 11) h.1 (p := p) (by omega) ⟨hpt, hpt, ?_⟩⟩
  rw [c1, c5]
  exact ⟨hpt, cs8 rfl, h.free hp ⟨h0X, hs, cs8 rfl, P_X6_lendableTo h p rfl (by omega) ⟨⟨by omega, by omega⟩, ⟨by omega, by omega⟩, cs8 rfl, ⟨by omega, by omega⟩, ⟨by omega, by omega⟩, cs8 rfl, hK⟩⟩⟩
theorem P_X9_wouldBorrow {μ : MM} {K : Option AV → MM → Prop} {X : String → MM → Prop} {S : AS} {x c : Int} (h : HC 11 μ S) (hx : R32 x) (hc : R32 c) (hK : OC [xI, xA] (aWb S x c) K X μ) : w_X9_wouldBorrow [.inr (.inr 0), .inl x, .inl c] μ K X := by
  have hs := sw_s h.1
  have h6 := h.2.1.n6
  refine ⟨cs8 rfl, h0X, cs8 rfl, P_X9_needPort h hx (fun q1 q2 => ?_) (fun q => hK.x 0 rfl (if_neg q))⟩
  refine ⟨cs8 rfl, cs8 rfl, P_X9_needWithin hc ⟨by omega, by omega⟩ ⟨by omega, by omega⟩ (fun r1 r2 => ?_) (fun q => hK.x 1 rfl (by unfold aWb; rw [if_pos ⟨q1, q2⟩, if_neg q]; rfl))⟩
  obtain ⟨p, rfl⟩ : ∃ p : Nat, x = p := ⟨x.toNat, by omega⟩
  have hp : p < zN S := by omega
  have hw := way_r S p c
  have hK := hK.k (v := if way S p c = 3 then -1 else if way S p c = 2 then c - fre S p else 0) (by unfold aWb; rw [if_pos ⟨q1, q2⟩, if_pos ⟨r1, r2⟩]; rfl)
  refine ⟨h0X, hs, cs8 rfl, P_X6_wayOf (e := 11) h p rfl hp ⟨r1, r2⟩ ⟨⟨by omega, by omega⟩, ⟨by omega, by omega⟩, fun q => ⟨⟨by omega, by omega⟩, ⟨by omega, by omega⟩, fun q3 => ?_, fun q3 => ⟨h0X, hs, cs8 rfl, P_X6_missing (e := 11) h p rfl hp ?_⟩⟩, fun q => ?_⟩⟩
  · rw [if_neg (by omega), if_neg (by omega)] at hK
    exact hK
  · rw [if_neg (by omega), if_pos (by omega)] at hK
    exact hK
  · rw [if_pos (by omega)] at hK
    exact hK
theorem P_X9_wouldCall {μ : MM} {K : Option AV → MM → Prop} {X : String → MM → Prop} {S : AS} {x c : Int} (h : HC 11 μ S) (hx : R32 x) (hc : R32 c) (hK : OC [xI, xA] (aWc S x c) K X μ) : w_X9_wouldCall [.inr (.inr 0), .inl x, .inl c] μ K X := by
  have hs := sw_s h.1
  have h6 := h.2.1.n6
  refine ⟨cs8 rfl, h0X, cs8 rfl, P_X9_needPort h hx (fun q1 q2 => ?_) (fun q => hK.x 0 rfl (if_neg q))⟩
  refine ⟨cs8 rfl, cs8 rfl, P_X9_needWithin hc ⟨by omega, by omega⟩ ⟨by omega, by omega⟩ (fun r1 r2 => ?_) (fun q => hK.x 1 rfl (by unfold aWc; rw [if_pos ⟨q1, q2⟩, if_neg q]; rfl))⟩
  obtain ⟨p, rfl⟩ : ∃ p : Nat, x = p := ⟨x.toNat, by omega⟩
  have hp : p < zN S := by omega
  have hw := way_r S p c
  have hK := hK.k (v := if way S p c = 1 then c - fre S p else 0) (by unfold aWc; rw [if_pos ⟨q1, q2⟩, if_pos ⟨r1, r2⟩]; rfl)
  refine ⟨h0X, hs, cs8 rfl, P_X6_wayOf (e := 11) h p rfl hp ⟨r1, r2⟩ ⟨⟨by omega, by omega⟩, ⟨by omega, by omega⟩, fun q => ?_, fun q => ⟨h0X, hs, cs8 rfl, P_X6_missing (e := 11) h p rfl hp ?_⟩⟩⟩
  · rw [if_neg (by omega)] at hK
    exact hK
  · rw [if_pos (by omega)] at hK
    exact hK
theorem P_X9_dropsBy {μ : MM} {K : Option AV → MM → Prop} {X : String → MM → Prop} {S : AS} {x : Int} (h : HC 11 μ S) (hx : R32 x) (hK : OC [xA] (aDby S x) K X μ) : w_X9_dropsBy [.inr (.inr 0), .inl x] μ K X := by
  have hs := sw_s h.1
  have hb := sw_by h.1
  refine ⟨cs8 rfl, cs8 rfl, cs8 rfl, P_X9_needWithin hx ⟨by omega, by omega⟩ ⟨by omega, by omega⟩ (fun q1 q2 => ?_) (fun q => hK.x 0 rfl (if_neg q))⟩
  have hK := hK.k (if_pos ⟨q1, q2⟩)
  obtain ⟨w, rfl⟩ : ∃ w : Nat, x = w := ⟨x.toNat, by omega⟩
  refine ⟨h0X, hs, sw_ld h.1, hb.1, by omega, ?_, ?_⟩
  · show (w : Int) < (ln (11 + 12) : Nat); rw [hb.2]; omega
  · show K (some (.inl (μ.1 (11 + 12) w))) μ
    have e : μ.1 (11 + 12) w = cnt (zD S) w := by
      have hh : w = 1 ∨ w = 2 ∨ w = 3 := by omega
      rcases hh with rfl | rfl | rfl
      · exact h.2.2.2.2.2.2.2.2.2.2.2.2.1
      · exact h.2.2.2.2.2.2.2.2.2.2.2.2.2.1
      · exact h.2.2.2.2.2.2.2.2.2.2.2.2.2.2
    rw [e]
    exact hK
theorem P_X1_number {μ : MM} {K : Option AV → MM → Prop} {e : Nat} {S : AS} {i y : Int} (h : HC e μ S) (hi : R32 i) (hy : 0 ≤ y ∧ y ≤ 4) (hK : K (some (.inl (aDrp S i y).2)) μ) : w_X1_number [.inr (.inr (e + 7)), .inl i, .inl y] μ K := by
  have hl := sw_ld h.1
  have hd := h.2.1.dl
  have e5 := h.dn
  rw [show aDrp S i y = (0, if 0 ≤ i ∧ i < 20 ∧ i < (zD S).length then (match (zD S)[i.toNat]? with
  | some d => dw d y.toNat
  | none => 0) else -1) from if_pos hy] at hK
  refine ⟨cs8 rfl, hi, fun q => ?_, fun q => ⟨hi, ⟨by omega, by omega⟩, fun q2 => ?_, fun q2 => ⟨hl, ?_⟩⟩⟩
  · rw [if_neg (by omega)] at hK
    exact hK
  · rw [if_neg (by omega)] at hK
    exact hK
  rw [e5]
  refine ⟨hi, ⟨by omega, by omega⟩, fun q3 => ⟨hl, ?_⟩, fun q3 => ?_⟩
  · rw [e5]
    rw [if_pos ⟨by omega, by omega, q3⟩] at hK
    obtain ⟨n, rfl⟩ : ∃ n : Nat, i = n := ⟨i.toNat, by omega⟩
    have hn : n < (zD S).length := by omega
    obtain ⟨d, hq⟩ : ∃ d, (zD S)[n]? = some d := ⟨(zD S)[n], List.getElem?_eq_getElem hn⟩
    rw [Int.toNat_natCast, hq] at hK
    have em : (((zD S).length : Int) - 1 - n).tmod 20 = ((((zD S).length - 1 - n) % 20 : Nat) : Int) := by
      rw [Int.tmod_eq_emod_of_nonneg (by omega)]
      omega
    have a0 := sw_lda h.1 (j := 0) (by omega)
    have a1 := sw_lda h.1 (j := 1) (by omega)
    have a2 := sw_lda h.1 (j := 2) (by omega)
    have a3 := sw_lda h.1 (j := 3) (by omega)
    have b0 := h.dr (by omega) hq (j := 0) (by omega)
    have b1 := h.dr (by omega) hq (j := 1) (by omega)
    have b2 := h.dr (by omega) hq (j := 2) (by omega)
    have b3 := h.dr (by omega) hq (j := 3) (by omega)
    refine ⟨⟨by omega, by omega⟩, ⟨by omega, by omega⟩, by decide, ?_⟩
    rw [em]
    have hlt : ((((zD S).length - 1 - n) % 20 : Nat) : Int) < 20 := by omega
    have key85 : K (some (.inl (dv d 0))) μ → B_X1_number_85 (fun v μ' => K v μ') [some (.inr (.inr (e + 7))), none, none, some (.inl ((((zD S).length - 1 - n) % 20 : Nat) : Int))] [] μ := fun hK => by
      refine ⟨hl, a0.1, by omega, ?_, ?_⟩
      · show _ < ((ln (e + 8 + 0) : Nat) : Int); rw [a0.2]; exact hlt
      · show K (some (.inl (μ.1 (e + 8 + 0) (((zD S).length - 1 - n) % 20)))) μ; rw [b0]; exact hK
    refine ⟨⟨by omega, by omega⟩, swc (fun z => ?_) (swc (fun z => ?_) (swc (fun z => ?_) (swc (fun z => ?_) swn))), fun hd => ?_⟩
    · subst z
      refine ⟨hl, a1.1, by omega, ?_, ?_⟩
      · show _ < ((ln (e + 8 + 1) : Nat) : Int); rw [a1.2]; exact hlt
      · show K (some (.inl (μ.1 (e + 8 + 1) (((zD S).length - 1 - n) % 20)))) μ; rw [b1]; exact hK
    · subst z
      refine ⟨hl, a2.1, by omega, ?_, ?_⟩
      · show _ < ((ln (e + 8 + 2) : Nat) : Int); rw [a2.2]; exact hlt
      · show K (some (.inl (μ.1 (e + 8 + 2) (((zD S).length - 1 - n) % 20)))) μ; rw [b2]; exact hK
    · subst z; exact key85 hK
    · subst z
      refine ⟨hl, a3.1, by omega, ?_, ?_⟩
      · show _ < ((ln (e + 8 + 3) : Nat) : Int); rw [a3.2]; exact hlt
      · show K (some (.inl (μ.1 (e + 8 + 3) (((zD S).length - 1 - n) % 20)))) μ; rw [b3]; exact hK
    · simp only [List.forall_mem_cons] at hd
      have e : y = 0 := by omega
      subst e
      exact key85 hK
  · rw [if_neg (by omega)] at hK
    exact hK
theorem P_X9_drop {μ : MM} {K : Option AV → MM → Prop} {X : String → MM → Prop} {S : AS} {i y : Int} (h : HC 11 μ S) (hi : R32 i) (hy : R32 y) (hK : OC [xA] (aDrp S i y) K X μ) : w_X9_drop [.inr (.inr 0), .inl i, .inl y] μ K X := by
  refine ⟨cs8 rfl, cs8 rfl, cs8 rfl, P_X9_needWithin hy ⟨by omega, by omega⟩ ⟨by omega, by omega⟩ (fun q1 q2 => ?_) (fun q => hK.x 0 rfl (if_neg q))⟩
  refine ⟨h0X, sw_s h.1, sw_ld h.1, cs8 rfl, P_X1_number (e := 11) h hi ⟨q1, q2⟩ ?_⟩
  exact hK.1 (by unfold aDrp; rw [if_pos ⟨q1, q2⟩])
theorem mostCharged9_lp {μ : MM} {post : Option AV → MM → Prop} {S : AS} (h : HC 11 μ S) (hK : post (some (.inl (mcg S (zN S)))) μ) : ∀ (k i : Nat), i + k = zN S → B_X9_mostCharged_4 post [some (.inr (.inr 0)), some (.inl (mcg S i)), some (.inl (i : Int))] [] μ := by
  have h6 := h.2.1.n6
  have hs := sw_s h.1
  have e1 := h.n
  intro k
  induction k with
  | zero =>
    intro i hi
    have : i = zN S := by omega
    subst this
    refine lfp_in ⟨h0X, hs, ?_⟩
    show o_icmp_ge _ _ _ [.inl (μ.1 11 1), _] _
    rw [e1]
    exact ⟨⟨by omega, by omega⟩, ⟨by omega, by omega⟩, fun _ => hK, fun q => absurd (by omega) q⟩
  | succ k ih =>
    intro i hi
    have key := ih (i + 1) (by omega)
    have hr := mcg_r S i
    have hd := h.2.1.dl
    have hpi := (h.2.1.pp (p := i) (by omega)).2.2.2.2.1
    obtain ⟨-, -, -, -, -, -, -, -, -, ci, -⟩ := h.cp (p := i) (by omega)
    refine lfp_in ⟨h0X, hs, ?_⟩
    show o_icmp_ge _ _ _ [.inl (μ.1 11 1), _] _
    rw [e1]
    refine ⟨⟨by omega, by omega⟩, ⟨by omega, by omega⟩, fun q => absurd q (by omega), fun _ => ⟨⟨by omega, by omega⟩, ⟨by omega, by omega⟩, fun q => ?_, fun q => ?_⟩⟩
    · unfold mcg at key
      rw [if_pos (Or.inl q)] at key
      exact key
    · have hpm := (h.2.1.pp (p := (mcg S i).toNat) (by omega)).2.2.2.2.1
      obtain ⟨w, hw⟩ : ∃ w : Nat, mcg S i = w := ⟨(mcg S i).toNat, by omega⟩
      obtain ⟨-, -, -, -, -, -, -, -, -, cm, -⟩ := h.cp (p := w) (by omega)
      rw [hw, Int.toNat_natCast] at hpm
      rw [hw] at q hr
      unfold mcg at key
      rw [hw] at key
      rw [hw]
      refine ⟨h0X, hs, aq (e := 11) h.1 (p := i) (by omega) ⟨sw_pt (e := 11) h.1 (p := i) (by omega), h0X, hs, aq (e := 11) h.1 (p := w) (by omega) ⟨sw_pt (e := 11) h.1 (p := w) (by omega), ?_⟩⟩⟩
      rw [ci, cm]
      refine ⟨⟨by omega, by omega⟩, ⟨by omega, by omega⟩, fun q2 => ?_, fun q2 => ?_⟩
      · rw [if_neg (fun z => z.elim q (fun z => by rw [Int.toNat_natCast] at z; omega))] at key
        exact key
      · rw [if_pos (Or.inr (by rw [Int.toNat_natCast]; omega))] at key
        exact key
theorem P_X9_mostCharged {μ : MM} {K : Option AV → MM → Prop} {S : AS} (h : HC 11 μ S) (hK : K (some (.inl (mcg S (zN S)))) μ) : w_X9_mostCharged [.inr (.inr 0)] μ K := ⟨cs8 rfl, mostCharged9_lp h hK (zN S) 0 (by omega)⟩
