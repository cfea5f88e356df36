/-! PURE 4: the model's sums -/
def HG (b : Nat) (μ : MM) (S : AS) (G : List (Nat × Pkt)) : Prop := μ.1 348 3 = (2080 * b : Nat) ∧ b < 10 ∧ Rg S ∧ MR b μ.1 μ.2 S G
theorem MR_len {b : Nat} {I J : Mi} {S : AS} {G : List (Nat × Pkt)} (h : MR b I J S G) : (G.length : Int) = wtn S := by
  obtain ⟨h1, h2, h3, h4, h5, h6, h7, h8⟩ := h
  rw [fo_len h7]
  exact sg_congr (fun p hp => by rw [h8 p hp])
theorem HG.len {b : Nat} {μ : MM} {S : AS} {G : List (Nat × Pkt)} (h : HG b μ S G) : G.length ≤ 240 := by
  have h1 := MR_len h.2.2.2
  have h2 := h.2.2.1.2.2.2.2.2.2.2.1
  omega
theorem HG.hd {b : Nat} {μ : MM} {S : AS} {G : List (Nat × Pkt)} (h : HG b μ S G) {j : Nat} (hj : j < 12) : μ.1 349 (2080 * b + j) = hdm S G.length j := h.2.2.2.1 j hj
theorem HG.pr {b : Nat} {μ : MM} {S : AS} {G : List (Nat × Pkt)} (h : HG b μ S G) {p j : Nat} (hp : p < zN S) (hj : j < 8) (hj5 : j ≠ 5) : μ.1 349 (2080 * b + 12 + 8 * p + j) = zP S p j := h.2.2.2.2.1 p hp j hj hj5
theorem HG.pk {b : Nat} {μ : MM} {S : AS} {G : List (Nat × Pkt)} (h : HG b μ S G) {i j : Nat} {g : Nat × Pkt} (hg : G[i]? = some g) (hj : j < 4) : μ.1 349 (2080 * b + 60 + 4 * i + j) = gw g j := h.2.2.2.2.2.2.1 i g hg j hj
theorem HG.pm {b : Nat} {μ : MM} {S : AS} {G : List (Nat × Pkt)} (h : HG b μ S G) {i j : Nat} {m : Prm} (hm : (zR S)[i]? = some m) (hj : j < 4) : μ.1 349 (2080 * b + 1020 + 4 * i + j) = mw m j := h.2.2.2.2.2.2.2.1 i m hm j hj
/-- the ranges of a packet in the row -/
theorem HG.pkr {b : Nat} {μ : MM} {S : AS} {G : List (Nat × Pkt)} (h : HG b μ S G) {g : Nat × Pkt} (hg : g ∈ G) : g.1 < zN S ∧ g.1 < 6 ∧ (1 ≤ g.2.1 ∧ g.2.1 ≤ 40) ∧ (1 ≤ g.2.2.1 ∧ g.2.2.1 ≤ 40) ∧ (0 ≤ g.2.2.2 ∧ g.2.2.2 ≤ 12000) := by
  obtain ⟨h1, h2, h3, h4, h5, h6, h7, h8⟩ := h.2.2.2
  have hn := h7 g hg
  have h6' := h.2.2.1.1
  have hq : g.2 ∈ zQ S g.1 := by rw [← h8 g.1 hn]; exact fo_mem.mpr hg
  obtain ⟨a, c, d⟩ := h.2.2.1.2.2.2.2.2.2.1 g.1 hn g.2 hq
  exact ⟨hn, by omega, a, c, d⟩
theorem Rg.pmr {S : AS} (h : Rg S) {m : Prm} (hm : m ∈ zR S) : m.1 < zN S ∧ m.2.1 < zN S ∧ (1 ≤ m.2.2.1 ∧ m.2.2.1 ≤ 40) ∧ (0 ≤ m.2.2.2 ∧ m.2.2.2 ≤ 3000000) := h.2.2.2.2.2.2.2.2.2.1 m hm
theorem Rg.n6 {S : AS} (h : Rg S) : zN S ≤ 6 := h.1
theorem Rg.pmn {S : AS} (h : Rg S) : (zR S).length ≤ 240 := h.2.2.2.2.2.2.2.2.1
theorem Rg.pp {S : AS} (h : Rg S) {p : Nat} (hp : p < zN S) : PR (zP S p) (zA S) (zC S) (zD S).length := h.2.2.2.2.2.1 p hp
theorem Rg.dl {S : AS} (h : Rg S) : ((zD S).length : Int) ≤ 30000 := by
  have h1 := h.2.2.2.2.2.2.2.2.2.2.1
  have h2 := h.2.2.2.2.1.2
  have h3 : 0 ≤ wtn S := sg_nn (fun _ _ => by omega)
  omega
theorem Rg.ql {S : AS} (h : Rg S) {p : Nat} (hp : p < zN S) : (zQ S p).length ≤ 240 := by
  have h1 := h.2.2.2.2.2.2.2.1
  have h2 := sg_ge (n := zN S) (p := p) (f := fun p => ((zQ S p).length : Int)) hp (fun _ _ => by omega)
  have h3 : sg (zN S) (fun p => ((zQ S p).length : Int)) = wtn S := rfl
  have h4 : (fun p => ((zQ S p).length : Int)) p = ((zQ S p).length : Int) := rfl
  omega
theorem Rg.qr {S : AS} (h : Rg S) {p : Nat} (hp : p < zN S) {q : Pkt} (hq : q ∈ zQ S p) : (1 ≤ q.1 ∧ q.1 ≤ 40) ∧ (1 ≤ q.2.1 ∧ q.2.1 ≤ 40) ∧ (0 ≤ q.2.2 ∧ q.2.2 ≤ 12000) := h.2.2.2.2.2.2.1 p hp q hq
theorem Rg.usdR {S : AS} (h : Rg S) {p : Nat} (hp : p < zN S) : 0 ≤ usd S p ∧ usd S p ≤ 9600 := by
  have h1 := h.ql hp
  have h2 : 0 ≤ usd S p := sm_nn (fun x hx => by
    obtain ⟨q, hq, rfl⟩ := List.mem_map.mp hx
    have := h.qr hp hq
    omega)
  have h3 : usd S p ≤ 40 * ((zQ S p).map (fun q => q.1)).length := sm_le (fun x hx => by
    obtain ⟨q, hq, rfl⟩ := List.mem_map.mp hx
    have := h.qr hp hq
    omega)
  rw [List.length_map] at h3
  omega
theorem pm_sum {S : AS} (h : Rg S) {c : Prm → Bool} : 0 ≤ sm ((zR S).map (fun r => if c r = true then r.2.2.1 else 0)) ∧ sm ((zR S).map (fun r => if c r = true then r.2.2.1 else 0)) ≤ 9600 := by
  have h1 := h.pmn
  have h2 : 0 ≤ sm ((zR S).map (fun r => if c r = true then r.2.2.1 else 0)) := sm_nn (fun x hx => by
    obtain ⟨m, hm, rfl⟩ := List.mem_map.mp hx
    have := h.pmr hm
    split <;> omega)
  have h3 : sm ((zR S).map (fun r => if c r = true then r.2.2.1 else 0)) ≤ 40 * ((zR S).map (fun r => if c r = true then r.2.2.1 else 0)).length := sm_le (fun x hx => by
    obtain ⟨m, hm, rfl⟩ := List.mem_map.mp hx
    have := h.pmr hm
    split <;> omega)
  rw [List.length_map] at h3
  omega
theorem Rg.lntR {S : AS} (h : Rg S) (p : Nat) : 0 ≤ lnt S p ∧ lnt S p ≤ 9600 := by
  have := pm_sum h (c := fun r => decide (r.1 = p))
  simp only [decide_eq_true_eq] at this
  exact this
theorem Rg.brwR {S : AS} (h : Rg S) (p : Nat) : 0 ≤ brw S p ∧ brw S p ≤ 9600 := by
  have := pm_sum h (c := fun r => decide (r.2.1 = p))
  simp only [decide_eq_true_eq] at this
  exact this
theorem Rg.owdR {S : AS} (h : Rg S) (l p : Nat) : 0 ≤ owd S l p ∧ owd S l p ≤ 9600 := by
  have := pm_sum h (c := fun r => decide (r.1 = l ∧ r.2.1 = p))
  simp only [decide_eq_true_eq] at this
  exact this
theorem usedBy_lp {μ : MM} {post : Option AV → MM → Prop} {b : Nat} {S : AS} {G : List (Nat × Pkt)} (h : HG b μ S G) {p : Nat} (hp : p < 6) : ∀ (k i : Nat) (n : Int), i + k = G.length → post (some (.inl (n + sm ((G.drop i).map (fun g => if g.1 = p then g.2.1 else 0))))) μ → B_X10_usedBy_4 post [some (.inr (.inr 348)), some (.inl (p : Int)), some (.inl n), some (.inl (i : Int))] [] μ := by
  have ho := h.1
  have hb := h.2.1
  have hl := h.len
  have e7 : μ.1 349 (2080 * b + 7) = (G.length : Int) := h.hd (by omega)
  intro k
  induction k with
  | zero =>
    intro i n hi hK
    rw [sm_end (by omega), Int.add_zero] at hK
    refine lfp_in ⟨hM, cs8 rfl, P_X10_of 7 ho rfl (by omega) ?_⟩
    rw [e7]
    exact ⟨by constructor <;> omega, by constructor <;> omega, fun _ => hK, fun q => absurd (by omega) q⟩
  | succ k ih =>
    intro i n hi hK
    obtain ⟨g, hg⟩ : ∃ g, G[i]? = some g := ⟨G[i], List.getElem?_eq_getElem (by omega)⟩
    have hr := h.pkr (List.mem_of_getElem? hg)
    rw [sm_drop hg] at hK
    have a0 : μ.1 349 (2080 * b + 60 + 4 * i + 0) = (g.1 : Int) := h.pk hg (by omega)
    have a1 : μ.1 349 (2080 * b + 60 + 4 * i + 1) = g.2.1 := h.pk hg (by omega)
    refine lfp_in ⟨hM, cs8 rfl, P_X10_of 7 ho rfl (by omega) ?_⟩
    rw [e7]
    refine ⟨by constructor <;> omega, by constructor <;> omega, fun q => absurd q (by omega), fun _ => ⟨hM, cs8 rfl, P_X10_k i 0 ho rfl rfl (by omega) ?_⟩⟩
    rw [a0]
    refine ⟨by constructor <;> omega, by constructor <;> omega, fun q => ?_, fun q => ⟨hM, cs8 rfl, P_X10_k i 1 ho rfl rfl (by omega) ?_⟩⟩
    · rw [if_neg (by omega), ← Int.add_assoc] at hK
      exact ih (i + 1) _ (by omega) hK
    · rw [a1]
      rw [if_pos (by omega), ← Int.add_assoc] at hK
      exact ih (i + 1) _ (by omega) hK
theorem P_X10_usedBy {μ : MM} {K : Option AV → MM → Prop} {b : Nat} {S : AS} {G : List (Nat × Pkt)} {x : Int} (p : Nat) (h : HG b μ S G) (hx : x = p) (hp : p < zN S) (hK : K (some (.inl (usd S p))) μ) : w_X10_usedBy [.inr (.inr 348), .inl x] μ K := by
  subst hx
  have h6 := h.2.2.1.n6
  refine ⟨cs8 rfl, usedBy_lp h (p := p) (by omega) G.length 0 0 (by omega) ?_⟩
  rw [List.drop_zero, Int.zero_add, ← fo_sm (f := fun q => q.1), h.2.2.2.2.2.2.2.2.2.2 p hp]
  exact hK
