/-! PURE 3: the model's getters and setters -/
theorem P_X10_of {μ : MM} {K : Option AV → MM → Prop} {o : Nat} {x : Int} (w : Nat) (h : μ.1 348 3 = o) (hx : x = w) (hb : o + w < 20800) (hK : K (some (.inl (μ.1 349 (o + w)))) μ) : w_X10_of [.inr (.inr 348), .inl x] μ K := by
  subst hx
  have e : (μ.1 348 3 + (w : Int)).toNat = o + w := by omega
  refine ⟨cs8 rfl, hM, hM, hS9, ?_, ?_, ?_⟩
  · show (0 : Int) ≤ μ.1 348 3 + w; omega
  · exact lnS (by omega)
  · show K (some (.inl (μ.1 349 (μ.1 348 3 + (w : Int)).toNat))) μ
    rw [e]; exact hK
theorem P_X10_set {μ : MM} {K : Option AV → MM → Prop} {o : Nat} {x v : Int} (w : Nat) (h : μ.1 348 3 = o) (hx : x = w) (hb : o + w < 20800) (hK : K none (uM μ.1 349 (o + w) v, μ.2)) : w_X10_set [.inr (.inr 348), .inl x, .inl v] μ K := by
  subst hx
  have e : (μ.1 348 3 + (w : Int)).toNat = o + w := by omega
  refine ⟨cs8 rfl, hM, hM, hS9, ?_, ?_, ?_⟩
  · show (0 : Int) ≤ μ.1 348 3 + w; omega
  · exact lnS (by omega)
  · show K none (uM μ.1 349 (μ.1 348 3 + (w : Int)).toNat v, μ.2)
    rw [e]; exact hK
theorem P_X10_grows {μ : MM} {K : Option AV → MM → Prop} {o : Nat} {x v : Int} (w : Nat) (h : μ.1 348 3 = o) (hx : x = w) (hb : o + w < 20800) (hK : K none (uM μ.1 349 (o + w) (μ.1 349 (o + w) + v), μ.2)) : w_X10_grows [.inr (.inr 348), .inl x, .inl v] μ K := by
  subst hx
  have e : (μ.1 348 3 + (w : Int)).toNat = o + w := by omega
  have b1 : (0 : Int) ≤ μ.1 348 3 + w := by omega
  have b2 : (μ.1 348 3 + w : Int) < (ln 349 : Nat) := by rw [ln349]; omega
  refine ⟨cs8 rfl, hM, hM, hS9, b1, b2, hS9, b1, b2, ?_⟩
  show K none (uM μ.1 349 (μ.1 348 3 + (w : Int)).toNat (μ.1 349 (μ.1 348 3 + (w : Int)).toNat + v), μ.2)
  rw [e]; exact hK
theorem P_X10_p {μ : MM} {K : Option AV → MM → Prop} {o : Nat} {x y : Int} (p j : Nat) (h : μ.1 348 3 = o) (hx : x = p) (hy : y = j) (hb : o + 12 + 8 * p + j < 20800) (hK : K (some (.inl (μ.1 349 (o + 12 + 8 * p + j)))) μ) : w_X10_p [.inr (.inr 348), .inl x, .inl y] μ K := by
  subst hx; subst hy
  refine ⟨cs8 rfl, hM, cs8 rfl, P_X10_of (12 + 8 * p + j) h (by omega) (by omega) ?_⟩
  rw [show o + (12 + 8 * p + j) = o + 12 + 8 * p + j by omega]
  exact hK
theorem P_X10_k {μ : MM} {K : Option AV → MM → Prop} {o : Nat} {x y : Int} (p j : Nat) (h : μ.1 348 3 = o) (hx : x = p) (hy : y = j) (hb : o + 60 + 4 * p + j < 20800) (hK : K (some (.inl (μ.1 349 (o + 60 + 4 * p + j)))) μ) : w_X10_k [.inr (.inr 348), .inl x, .inl y] μ K := by
  subst hx; subst hy
  refine ⟨cs8 rfl, hM, cs8 rfl, P_X10_of (60 + 4 * p + j) h (by omega) (by omega) ?_⟩
  rw [show o + (60 + 4 * p + j) = o + 60 + 4 * p + j by omega]
  exact hK
theorem P_X10_m {μ : MM} {K : Option AV → MM → Prop} {o : Nat} {x y : Int} (p j : Nat) (h : μ.1 348 3 = o) (hx : x = p) (hy : y = j) (hb : o + 1020 + 4 * p + j < 20800) (hK : K (some (.inl (μ.1 349 (o + 1020 + 4 * p + j)))) μ) : w_X10_m [.inr (.inr 348), .inl x, .inl y] μ K := by
  subst hx; subst hy
  refine ⟨cs8 rfl, hM, cs8 rfl, P_X10_of (1020 + 4 * p + j) h (by omega) (by omega) ?_⟩
  rw [show o + (1020 + 4 * p + j) = o + 1020 + 4 * p + j by omega]
  exact hK
theorem P_X10_setP {μ : MM} {K : Option AV → MM → Prop} {o : Nat} {x y v : Int} (p j : Nat) (h : μ.1 348 3 = o) (hx : x = p) (hy : y = j) (hb : o + 12 + 8 * p + j < 20800) (hK : K none (uM μ.1 349 (o + 12 + 8 * p + j) v, μ.2)) : w_X10_setP [.inr (.inr 348), .inl x, .inl y, .inl v] μ K := by
  subst hx; subst hy
  refine ⟨cs8 rfl, hM, cs8 rfl, P_X10_set (12 + 8 * p + j) h (by omega) (by omega) ?_⟩
  rw [show o + (12 + 8 * p + j) = o + 12 + 8 * p + j by omega]
  exact hK
theorem P_X10_growsP {μ : MM} {K : Option AV → MM → Prop} {o : Nat} {x y v : Int} (p j : Nat) (h : μ.1 348 3 = o) (hx : x = p) (hy : y = j) (hb : o + 12 + 8 * p + j < 20800) (hK : K none (uM μ.1 349 (o + 12 + 8 * p + j) (μ.1 349 (o + 12 + 8 * p + j) + v), μ.2)) : w_X10_growsP [.inr (.inr 348), .inl x, .inl y, .inl v] μ K := by
  subst hx; subst hy
  refine ⟨cs8 rfl, hM, cs8 rfl, P_X10_grows (12 + 8 * p + j) h (by omega) (by omega) ?_⟩
  rw [show o + (12 + 8 * p + j) = o + 12 + 8 * p + j by omega]
  exact hK
theorem P_X10_name {μ : MM} {K : Option AV → MM → Prop} {x : Int} (b p : Nat) (h : μ.1 348 3 = (2080 * b : Nat)) (hx : x = p) (hb : b < 10) (hp : p < 6) (hK : K (some (.inr (.inl (μ.2 350 (6 * b + p))))) μ) : w_X10_name [.inr (.inr 348), .inl x] μ K := by
  subst hx
  have d : (μ.1 348 3).tdiv 2080 = (b : Int) := by rw [td (by omega), h]; omega
  have e : (6 * (μ.1 348 3).tdiv 2080 + (p : Int)).toNat = 6 * b + p := by rw [d]; omega
  refine ⟨cs8 rfl, hM, hM, ?_, ?_, by decide, hN0, ?_, ?_, ?_⟩
  · show R32 (μ.1 348 3); rw [h]; constructor <;> omega
  · decide
  · show (0 : Int) ≤ 6 * (μ.1 348 3).tdiv 2080 + p; rw [d]; omega
  · exact lnN (by rw [d]; omega)
  · show K (some (.inr (.inl (μ.2 350 (6 * (μ.1 348 3).tdiv 2080 + (p : Int)).toNat)))) μ
    rw [e]; exact hK
theorem P_X10_setName {μ : MM} {K : Option AV → MM → Prop} {x v : Int} (b p : Nat) (h : μ.1 348 3 = (2080 * b : Nat)) (hx : x = p) (hb : b < 10) (hp : p < 6) (hK : K none (μ.1, uM μ.2 350 (6 * b + p) v)) : w_X10_setName [.inr (.inr 348), .inl x, .inr (.inl v)] μ K := by
  subst hx
  have d : (μ.1 348 3).tdiv 2080 = (b : Int) := by rw [td (by omega), h]; omega
  have e : (6 * (μ.1 348 3).tdiv 2080 + (p : Int)).toNat = 6 * b + p := by rw [d]; omega
  refine ⟨cs8 rfl, hM, hM, ?_, ?_, by decide, hN0, ?_, ?_, ?_⟩
  · show R32 (μ.1 348 3); rw [h]; constructor <;> omega
  · decide
  · show (0 : Int) ≤ 6 * (μ.1 348 3).tdiv 2080 + p; rw [d]; omega
  · exact lnN (by rw [d]; omega)
  · show K none (μ.1, uM μ.2 350 (6 * (μ.1 348 3).tdiv 2080 + (p : Int)).toNat v)
    rw [e]; exact hK
