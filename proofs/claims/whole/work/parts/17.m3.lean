/-! PURE 5: the model's further sums and questions -/
theorem lentBy_lp {μ : MM} {post : Option AV → MM → Prop} {b : Nat} {S : AS} {G : List (Nat × Pkt)} (h : HG b μ S G) {p : Nat} (hp : p < 6) : ∀ (k i : Nat) (n : Int), i + k = (zR S).length → post (some (.inl (n + sm (((zR S).drop i).map (fun r => if r.1 = p then r.2.2.1 else 0))))) μ → B_X10_lentBy_4 post [some (.inr (.inr 348)), some (.inl (p : Int)), some (.inl n), some (.inl (i : Int))] [] μ := by
  have ho := h.1
  have hb := h.2.1
  have hl := h.2.2.1.pmn
  have e6 : μ.1 349 (2080 * b + 6) = ((zR S).length : Int) := h.hd (by omega)
  intro k
  induction k with
  | zero =>
    intro i n hi hK
    rw [sm_end (by omega), Int.add_zero] at hK
    refine lfp_in ⟨hM, cs8 rfl, P_X10_of 6 ho rfl (by omega) ?_⟩
    rw [e6]
    exact ⟨⟨by omega, by omega⟩, ⟨by omega, by omega⟩, fun _ => hK, fun q => absurd (by omega) q⟩
  | succ k ih =>
    intro i n hi hK
    obtain ⟨m, hm⟩ : ∃ m, (zR S)[i]? = some m := ⟨(zR S)[i], List.getElem?_eq_getElem (by omega)⟩
    have hr := h.2.2.1.pmr (List.mem_of_getElem? hm)
    have h6 := h.2.2.1.n6
    rw [sm_drop hm] at hK
    have a0 : μ.1 349 (2080 * b + 1020 + 4 * i + 0) = (m.1 : Int) := h.pm hm (by omega)
    have a2 : μ.1 349 (2080 * b + 1020 + 4 * i + 2) = m.2.2.1 := h.pm hm (by omega)
    refine lfp_in ⟨hM, cs8 rfl, P_X10_of 6 ho rfl (by omega) ?_⟩
    rw [e6]
    refine ⟨⟨by omega, by omega⟩, ⟨by omega, by omega⟩, fun q => absurd q (by omega), fun _ => ⟨hM, cs8 rfl, P_X10_m i 0 ho rfl rfl (by omega) ?_⟩⟩
    rw [a0]
    refine ⟨⟨by omega, by omega⟩, ⟨by omega, by omega⟩, fun q => ?_, fun q => ⟨hM, cs8 rfl, P_X10_m i 2 ho rfl rfl (by omega) ?_⟩⟩
    · rw [if_neg (by omega), ← Int.add_assoc] at hK
      exact ih (i + 1) _ (by omega) hK
    · rw [a2]
      rw [if_pos (by omega), ← Int.add_assoc] at hK
      exact ih (i + 1) _ (by omega) hK
theorem P_X10_lentBy {μ : MM} {K : Option AV → MM → Prop} {b : Nat} {S : AS} {G : List (Nat × Pkt)} {x : Int} (p : Nat) (h : HG b μ S G) (hx : x = p) (hp : p < 6) (hK : K (some (.inl (lnt S p))) μ) : w_X10_lentBy [.inr (.inr 348), .inl x] μ K := by
  subst hx
  refine ⟨cs8 rfl, lentBy_lp h hp (zR S).length 0 0 (by omega) ?_⟩
  rw [List.drop_zero, Int.zero_add]
  exact hK
theorem borrowedBy_lp {μ : MM} {post : Option AV → MM → Prop} {b : Nat} {S : AS} {G : List (Nat × Pkt)} (h : HG b μ S G) {p : Nat} (hp : p < 6) : ∀ (k i : Nat) (n : Int), i + k = (zR S).length → post (some (.inl (n + sm (((zR S).drop i).map (fun r => if r.2.1 = p then r.2.2.1 else 0))))) μ → B_X10_borrowedBy_4 post [some (.inr (.inr 348)), some (.inl (p : Int)), some (.inl n), some (.inl (i : Int))] [] μ := by
  have ho := h.1
  have hb := h.2.1
  have hl := h.2.2.1.pmn
  have e6 : μ.1 349 (2080 * b + 6) = ((zR S).length : Int) := h.hd (by omega)
  intro k
  induction k with
  | zero =>
    intro i n hi hK
    rw [sm_end (by omega), Int.add_zero] at hK
    refine lfp_in ⟨hM, cs8 rfl, P_X10_of 6 ho rfl (by omega) ?_⟩
    rw [e6]
    exact ⟨⟨by omega, by omega⟩, ⟨by omega, by omega⟩, fun _ => hK, fun q => absurd (by omega) q⟩
  | succ k ih =>
    intro i n hi hK
    obtain ⟨m, hm⟩ : ∃ m, (zR S)[i]? = some m := ⟨(zR S)[i], List.getElem?_eq_getElem (by omega)⟩
    have hr := h.2.2.1.pmr (List.mem_of_getElem? hm)
    have h6 := h.2.2.1.n6
    rw [sm_drop hm] at hK
    have a0 : μ.1 349 (2080 * b + 1020 + 4 * i + 1) = (m.2.1 : Int) := h.pm hm (by omega)
    have a2 : μ.1 349 (2080 * b + 1020 + 4 * i + 2) = m.2.2.1 := h.pm hm (by omega)
    refine lfp_in ⟨hM, cs8 rfl, P_X10_of 6 ho rfl (by omega) ?_⟩
    rw [e6]
    refine ⟨⟨by omega, by omega⟩, ⟨by omega, by omega⟩, fun q => absurd q (by omega), fun _ => ⟨hM, cs8 rfl, P_X10_m i 1 ho rfl rfl (by omega) ?_⟩⟩
    rw [a0]
    refine ⟨⟨by omega, by omega⟩, ⟨by omega, by omega⟩, fun q => ?_, fun q => ⟨hM, cs8 rfl, P_X10_m i 2 ho rfl rfl (by omega) ?_⟩⟩
    · rw [if_neg (by omega), ← Int.add_assoc] at hK
      exact ih (i + 1) _ (by omega) hK
    · rw [a2]
      rw [if_pos (by omega), ← Int.add_assoc] at hK
      exact ih (i + 1) _ (by omega) hK
theorem P_X10_borrowedBy {μ : MM} {K : Option AV → MM → Prop} {b : Nat} {S : AS} {G : List (Nat × Pkt)} {x : Int} (p : Nat) (h : HG b μ S G) (hx : x = p) (hp : p < 6) (hK : K (some (.inl (brw S p))) μ) : w_X10_borrowedBy [.inr (.inr 348), .inl x] μ K := by
  subst hx
  refine ⟨cs8 rfl, borrowedBy_lp h hp (zR S).length 0 0 (by omega) ?_⟩
  rw [List.drop_zero, Int.zero_add]
  exact hK

theorem owedTo_lp {μ : MM} {post : Option AV → MM → Prop} {b : Nat} {S : AS} {G : List (Nat × Pkt)} (h : HG b μ S G) {p r : Nat} (hp : p < 6) (hr : r < 6) : ∀ (k i : Nat) (n : Int), i + k = (zR S).length → post (some (.inl (n + sm (((zR S).drop i).map (fun m => if m.1 = p ∧ m.2.1 = r then m.2.2.1 else 0))))) μ → B_X10_owedTo_5 post [some (.inr (.inr 348)), some (.inl (p : Int)), some (.inl (r : Int)), some (.inl n), some (.inl (i : Int))] [] μ := by
  have ho := h.1
  have hb := h.2.1
  have hl := h.2.2.1.pmn
  have e6 : μ.1 349 (2080 * b + 6) = ((zR S).length : Int) := h.hd (by omega)
  intro k
  induction k with
  | zero =>
    intro i n hi hK
    rw [sm_end (by omega), Int.add_zero] at hK
    refine lfp_in ⟨hM, cs8 rfl, P_X10_of 6 ho rfl (by omega) ?_⟩
    rw [e6]
    exact ⟨⟨by omega, by omega⟩, ⟨by omega, by omega⟩, fun _ => hK, fun q => absurd (by omega) q⟩
  | succ k ih =>
    intro i n hi hK
    obtain ⟨m, hm⟩ : ∃ m, (zR S)[i]? = some m := ⟨(zR S)[i], List.getElem?_eq_getElem (by omega)⟩
    have hq := h.2.2.1.pmr (List.mem_of_getElem? hm)
    have h6 := h.2.2.1.n6
    rw [sm_drop hm] at hK
    have a0 : μ.1 349 (2080 * b + 1020 + 4 * i + 0) = (m.1 : Int) := h.pm hm (by omega)
    have a1 : μ.1 349 (2080 * b + 1020 + 4 * i + 1) = (m.2.1 : Int) := h.pm hm (by omega)
    have a2 : μ.1 349 (2080 * b + 1020 + 4 * i + 2) = m.2.2.1 := h.pm hm (by omega)
    refine lfp_in ⟨hM, cs8 rfl, P_X10_of 6 ho rfl (by omega) ?_⟩
    rw [e6]
    refine ⟨⟨by omega, by omega⟩, ⟨by omega, by omega⟩, fun q => absurd q (by omega), fun _ => ⟨hM, cs8 rfl, P_X10_m i 0 ho rfl rfl (by omega) ?_⟩⟩
    rw [a0]
    refine ⟨⟨by omega, by omega⟩, ⟨by omega, by omega⟩, fun q => ?_, fun q => ⟨hM, cs8 rfl, P_X10_m i 1 ho rfl rfl (by omega) ?_⟩⟩
    · rw [if_neg (by omega), ← Int.add_assoc] at hK
      exact ih (i + 1) _ (by omega) hK
    · rw [a1]
      refine ⟨⟨by omega, by omega⟩, ⟨by omega, by omega⟩, fun q => ?_, fun q => ⟨hM, cs8 rfl, P_X10_m i 2 ho rfl rfl (by omega) ?_⟩⟩
      · rw [if_neg (by omega), ← Int.add_assoc] at hK
        exact ih (i + 1) _ (by omega) hK
      · rw [a2]
        rw [if_pos (by omega), ← Int.add_assoc] at hK
        exact ih (i + 1) _ (by omega) hK
theorem P_X10_owedTo {μ : MM} {K : Option AV → MM → Prop} {b : Nat} {S : AS} {G : List (Nat × Pkt)} {x y : Int} (p r : Nat) (h : HG b μ S G) (hx : x = p) (hy : y = r) (hp : p < 6) (hr : r < 6) (hK : K (some (.inl (owd S p r))) μ) : w_X10_owedTo [.inr (.inr 348), .inl x, .inl y] μ K := by
  subst hx
  subst hy
  refine ⟨cs8 rfl, owedTo_lp h hp hr (zR S).length 0 0 (by omega) ?_⟩
  rw [List.drop_zero, Int.zero_add]
  exact hK
theorem HG.po {μ : MM} {K : Option AV → MM → Prop} {b : Nat} {S : AS} {G : List (Nat × Pkt)} (h : HG b μ S G) {x y : Int} (p j : Nat) (hx : x = p) (hy : y = j) (hp : p < zN S) (hj : j < 8) (hj5 : j ≠ 5) (hK : K (some (.inl (zP S p j))) μ) : w_X10_p [.inr (.inr 348), .inl x, .inl y] μ K := by
  have h6 := h.2.2.1.n6
  have hb := h.2.1
  refine P_X10_p p j h.1 hx hy (by omega) ?_
  rw [h.pr hp hj hj5]
  exact hK
theorem HG.ofo {μ : MM} {K : Option AV → MM → Prop} {b : Nat} {S : AS} {G : List (Nat × Pkt)} (h : HG b μ S G) {x : Int} (j : Nat) (hx : x = j) (hj : j < 12) (hK : K (some (.inl (hdm S G.length j))) μ) : w_X10_of [.inr (.inr 348), .inl x] μ K := by
  have hb := h.2.1
  refine P_X10_of j h.1 hx (by omega) ?_
  rw [h.hd hj]
  exact hK
theorem P_X10_roomOf {μ : MM} {K : Option AV → MM → Prop} {b : Nat} {S : AS} {G : List (Nat × Pkt)} {x : Int} (p : Nat) (h : HG b μ S G) (hx : x = p) (hp : p < zN S) (hK : K (some (.inl (rom S p))) μ) : w_X10_roomOf [.inr (.inr 348), .inl x] μ K := by
  subst hx
  have h6 := h.2.2.1.n6
  exact ⟨cs8 rfl, hM, cs8 rfl, h.po p 0 rfl rfl hp (by omega) (by omega) ⟨hM, cs8 rfl, P_X10_lentBy p h rfl (by omega) ⟨hM, cs8 rfl, P_X10_borrowedBy p h rfl (by omega) hK⟩⟩⟩
theorem P_X10_freeOf {μ : MM} {K : Option AV → MM → Prop} {b : Nat} {S : AS} {G : List (Nat × Pkt)} {x : Int} (p : Nat) (h : HG b μ S G) (hx : x = p) (hp : p < zN S) (hK : K (some (.inl (fre S p))) μ) : w_X10_freeOf [.inr (.inr 348), .inl x] μ K := by
  subst hx
  exact ⟨cs8 rfl, hM, cs8 rfl, P_X10_roomOf p h rfl hp ⟨hM, cs8 rfl, P_X10_usedBy p h rfl hp hK⟩⟩
theorem Rg.kp {S : AS} (h : Rg S) {p : Nat} (hp : p < zN S) : (0 ≤ zP S p 2 * zK S ∧ zP S p 2 * zK S ≤ 960128000) ∧ 0 ≤ kpt S p ∧ kpt S p ≤ 600081 := by
  obtain ⟨-, -, ⟨a, c, d⟩, -⟩ := h.pp hp
  have h1 := h.2.2.1
  have h2 := h.2.2.2.2.1
  have h3 : 0 ≤ zP S p 2 * zK S := Int.mul_nonneg a h1.1
  have h4 : zP S p 2 * zK S ≤ 4800640 * 200 := Int.mul_le_mul (by omega) h1.2 h1.1 (by omega)
  have h5 : kpt S p = (zP S p 2 * zK S + 1599) / 1600 := td (by omega)
  exact ⟨⟨h3, by omega⟩, by omega, by omega⟩
theorem P_X10_keptBack {μ : MM} {K : Option AV → MM → Prop} {b : Nat} {S : AS} {G : List (Nat × Pkt)} {x : Int} (p : Nat) (h : HG b μ S G) (hx : x = p) (hp : p < zN S) (hK : K (some (.inl (kpt S p))) μ) : w_X10_keptBack [.inr (.inr 348), .inl x] μ K := by
  subst hx
  have hk := h.2.2.1.kp hp
  exact ⟨cs8 rfl, hM, cs8 rfl, h.po p 2 rfl rfl hp (by omega) (by omega) ⟨hM, cs8 rfl, h.ofo 2 rfl (by omega) ⟨by show R32 (zP S p 2 * zK S + 1599); exact ⟨by omega, by omega⟩, by decide, by decide, hK⟩⟩⟩
theorem P_X10_spareOf {μ : MM} {K : Option AV → MM → Prop} {b : Nat} {S : AS} {G : List (Nat × Pkt)} {x : Int} (p : Nat) (h : HG b μ S G) (hx : x = p) (hp : p < zN S) (hK : K (some (.inl (spr S p))) μ) : w_X10_spareOf [.inr (.inr 348), .inl x] μ K := by
  subst hx
  have h6 := h.2.2.1.n6
  exact ⟨cs8 rfl, hM, cs8 rfl, h.po p 0 rfl rfl hp (by omega) (by omega) ⟨hM, cs8 rfl, P_X10_lentBy p h rfl (by omega) ⟨hM, cs8 rfl, P_X10_usedBy p h rfl hp ⟨hM, cs8 rfl, P_X10_keptBack p h rfl hp hK⟩⟩⟩⟩
theorem Rg.spR {S : AS} (h : Rg S) {p : Nat} (hp : p < zN S) : -700000 ≤ spr S p ∧ spr S p ≤ 40 ∧ 0 ≤ cln S p ∧ cln S p ≤ 40 ∧ (0 ≤ zP S p 0 ∧ zP S p 0 ≤ 40) ∧ (-9600 ≤ rom S p ∧ rom S p ≤ 9640) ∧ (-19200 ≤ fre S p ∧ fre S p ≤ 9640) := by
  obtain ⟨a, -⟩ := h.pp hp
  have h1 := h.lntR p
  have h2 := h.brwR p
  have h3 := h.usdR hp
  have h4 := (h.kp hp).2
  have e1 : spr S p = zP S p 0 - lnt S p - usd S p - kpt S p := rfl
  have e2 : rom S p = zP S p 0 - lnt S p + brw S p := rfl
  have e3 : fre S p = rom S p - usd S p := rfl
  have e4 : cln S p = if spr S p < 0 then 0 else spr S p := rfl
  refine ⟨by omega, by omega, ?_, ?_, a, ⟨by omega, by omega⟩, ⟨by omega, by omega⟩⟩
  · rw [e4]; split <;> omega
  · rw [e4]; split <;> omega
theorem P_X10_canLend {μ : MM} {K : Option AV → MM → Prop} {b : Nat} {S : AS} {G : List (Nat × Pkt)} {x : Int} (p : Nat) (h : HG b μ S G) (hx : x = p) (hp : p < zN S) (hK : K (some (.inl (cln S p))) μ) : w_X10_canLend [.inr (.inr 348), .inl x] μ K := by
  subst hx
  have hr := h.2.2.1.spR hp
  refine ⟨cs8 rfl, hM, cs8 rfl, P_X10_spareOf p h rfl hp ⟨⟨by omega, by omega⟩, fun q => ?_, fun q => ?_⟩⟩
  · have e : cln S p = spr S p := if_neg (by omega)
    rw [e] at hK
    exact hK
  · have e : cln S p = 0 := if_pos (by omega)
    rw [e] at hK
    exact hK
theorem oth_le {S : AS} (h : Rg S) (p : Nat) : 0 ≤ oth S p ∧ oth S p ≤ 240 := by
  have h1 : 0 ≤ oth S p := sg_nn (fun i hi => by
    have := h.spR hi
    split <;> omega)
  have h2 : oth S p ≤ sg (zN S) (fun _ => 40) := sg_le (fun i hi => by
    have := h.spR hi
    split <;> omega)
  rw [sg_c] at h2
  have := h.n6
  omega
theorem othersCanLend_lp {μ : MM} {post : Option AV → MM → Prop} {b : Nat} {S : AS} {G : List (Nat × Pkt)} (h : HG b μ S G) {p : Nat} (hp : p < 6) (hK : post (some (.inl (oth S p))) μ) : ∀ (k i : Nat) , i + k = zN S → B_X10_othersCanLend_4 post [some (.inr (.inr 348)), some (.inl (p : Int)), some (.inl (sg i (fun i => if i = p then 0 else cln S i))), some (.inl (i : Int))] [] μ := by
  have h6 := h.2.2.1.n6
  intro k
  induction k with
  | zero =>
    intro i hi
    have : i = zN S := by omega
    subst this
    refine lfp_in ⟨hM, cs8 rfl, h.ofo 0 rfl (by omega) ?_⟩
    exact ⟨⟨by omega, by omega⟩, by show R32 (zN S : Int); exact ⟨by omega, by omega⟩, fun _ => hK, fun q => absurd (by show (zN S : Int) ≤ _; omega) q⟩
  | succ k ih =>
    intro i hi
    refine lfp_in ⟨hM, cs8 rfl, h.ofo 0 rfl (by omega) ?_⟩
    refine ⟨⟨by omega, by omega⟩, by show R32 (zN S : Int); exact ⟨by omega, by omega⟩, fun q => absurd (show (zN S : Int) ≤ i from q) (by omega), fun _ => ⟨⟨by omega, by omega⟩, ⟨by omega, by omega⟩, fun q => ⟨hM, cs8 rfl, P_X10_canLend i h rfl (by omega) ?_⟩, fun q => ?_⟩⟩
    · have e : sg (i + 1) (fun i => if i = p then 0 else cln S i) = sg i (fun i => if i = p then 0 else cln S i) + cln S i := by simp only [sg]; rw [if_neg (by omega)]
      have := ih (i + 1) (by omega)
      rw [e] at this
      exact this
    · have e : sg (i + 1) (fun i => if i = p then 0 else cln S i) = sg i (fun i => if i = p then 0 else cln S i) + 0 := by simp only [sg]; rw [if_pos (by omega)]
      have := ih (i + 1) (by omega)
      rw [e] at this
      exact this
theorem P_X10_othersCanLend {μ : MM} {K : Option AV → MM → Prop} {b : Nat} {S : AS} {G : List (Nat × Pkt)} {x : Int} (p : Nat) (h : HG b μ S G) (hx : x = p) (hp : p < 6) (hK : K (some (.inl (oth S p))) μ) : w_X10_othersCanLend [.inr (.inr 348), .inl x] μ K := by
  subst hx
  exact ⟨cs8 rfl, othersCanLend_lp h hp hK (zN S) 0 (by omega)⟩
theorem P_X10_wayIn {μ : MM} {K : Option AV → MM → Prop} {b : Nat} {S : AS} {G : List (Nat × Pkt)} {x : Int} {c : Int} (p : Nat) (h : HG b μ S G) (hx : x = p) (hp : p < zN S) (hc : 1 ≤ c ∧ c ≤ 40) (hK : K (some (.inl (way S p c : Nat))) μ) : w_X10_wayIn [.inr (.inr 348), .inl x, .inl c] μ K := by
  subst hx
  have h6 := h.2.2.1.n6
  have hr := h.2.2.1.spR hp
  have hu := h.2.2.1.usdR hp
  have hq := oth_le h.2.2.1 p
  refine ⟨cs8 rfl, hM, cs8 rfl, P_X10_freeOf p h rfl hp ⟨⟨by omega, by omega⟩, ⟨by omega, by omega⟩, fun q => ⟨hM, cs8 rfl, P_X10_usedBy p h rfl hp ⟨hM, cs8 rfl, h.po p 0 rfl rfl hp (by omega) (by omega) ⟨⟨by omega, by omega⟩, ⟨by omega, by omega⟩, fun q2 => ⟨hM, cs8 rfl, P_X10_othersCanLend p h rfl (by omega) ⟨hM, cs8 rfl, P_X10_freeOf p h rfl hp ⟨⟨by omega, by omega⟩, ⟨by omega, by omega⟩, fun q3 => ?_, fun q3 => ?_⟩⟩⟩, fun q2 => ?_⟩⟩⟩, fun q => ?_⟩⟩
  · have e : way S p c = 3 := by unfold way; rw [if_neg (by omega), if_neg (by omega), if_neg (by omega)]
    rw [e] at hK; exact hK
  · have e : way S p c = 2 := by unfold way; rw [if_neg (by omega), if_neg (by omega), if_pos (by omega)]
    rw [e] at hK; exact hK
  · have e : way S p c = 1 := by unfold way; rw [if_neg (by omega), if_pos (by omega)]
    rw [e] at hK; exact hK
  · have e : way S p c = 0 := by unfold way; rw [if_pos (by omega)]
    rw [e] at hK; exact hK
