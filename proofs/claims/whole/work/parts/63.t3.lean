/-! PURE 51: feed, both sides -/
def by4 (v : Int) : List Int := [byV v 24, byV v 16, byV v 8, byV v 0]
theorem AI_p4 {I : Mi} {a : Nat} {B : List Int} {v : Int} (h : AI (I a) B) : AI (p4 I a B.length v a) (B ++ by4 v) := by
  intro i x hx
  unfold p4
  rw [List.getElem?_append] at hx
  split at hx
  · rw [uM_k (by omega), uM_k (by omega), uM_k (by omega), uM_k (by omega)]
    exact h i x hx
  · rename_i q
    obtain ⟨j, rfl⟩ : ∃ j, i = B.length + j := ⟨i - B.length, by omega⟩
    rw [Nat.add_sub_cancel_left] at hx
    have hj : j < 4 := (List.getElem?_eq_some_iff.mp hx).1
    have hh : j = 0 ∨ j = 1 ∨ j = 2 ∨ j = 3 := by omega
    rcases hh with rfl | rfl | rfl | rfl
    · cases hx
      rw [uM_k (by omega), uM_k (by omega), uM_k (by omega)]
      exact uM_s
    · cases hx
      rw [uM_k (by omega), uM_k (by omega), uM_s]
    · cases hx
      rw [uM_k (by omega), uM_s]
    · cases hx
      rw [uM_s]
theorem p4_e {I : Mi} {a n e : Nat} {v : Int} (h : e ≠ a) : p4 I a n v e = I e := by
  unfold p4
  rw [uM_r h, uM_r h, uM_r h, uM_r h]
def oFed (T : TS) (a b c d e : Int) : (Int × Int) × TS := if (tB T).length + 20 ≤ 600 then ((0, ((tB T).length : Int) + 20), seB T (((((tB T ++ by4 a) ++ by4 b) ++ by4 c) ++ by4 d) ++ by4 e) (tE T) (tW T)) else ((1, 0), T)
/-- the model's buffer holds B; all else is as in μ -/
def FB (μ μ' : MM) (B : List Int) : Prop := (∀ e, e ≠ 348 → e ≠ 351 → μ'.1 e = μ.1 e) ∧ (∀ e, μ'.2 e = μ.2 e) ∧ (∀ j, j ≠ 5 → μ'.1 348 j = μ.1 348 j) ∧ μ'.1 348 5 = B.length ∧ AI (μ'.1 351) B
theorem FB_four {μ : MM} {I J : Mi} {K : Option AV → MM → Prop} {B : List Int} {v : Int} (h : FB μ (I, J) B) (hv : R32 v) (hl : B.length + 4 ≤ 600) (hK : ∀ I', FB μ (I', J) (B ++ by4 v) → K none (I', J)) : w_X10_four [.inr (.inr 348), .inl v] (I, J) K := by
  obtain ⟨a1, a2, a3, a4, a5⟩ := h
  refine P_X10_four hv a4 hl (fun I' b1 b2 b3 => hK I' ⟨fun e e1 e2 => ?_, a2, fun j hj => (b2 j hj).trans (a3 j hj), ?_, ?_⟩)
  · show I' e = _
    rw [b1 e e1, p4_e e2]
    exact a1 e e1 e2
  · show I' 348 5 = _
    rw [b3, List.length_append]
    rfl
  · show AI (I' 351) _
    rw [b1 351 (by decide)]
    exact AI_p4 a5
theorem P_M_feed {μ : MM} {K : Option AV → MM → Prop} {T : TS} {a b c d e : Int} (h : MT μ T) (ha : R32 a) (hb : R32 b) (hc : R32 c) (hd : R32 d) (he : R32 e) (hK : OM (oFed T a b c d e) K μ) : w_X10_feed [.inr (.inr 348), .inl a, .inl b, .inl c, .inl d, .inl e] μ K := by
  have h5 := h.2.2.1.1
  have hl := h.2.2.1.2.1
  have l4 : ∀ v, (by4 v).length = 4 := fun _ => rfl
  refine ⟨cs8 rfl, hM, ?_⟩
  show o_ci 20 _ _ [.inl (μ.1 348 5), _] μ
  rw [h5]
  refine ⟨by show R32 (((tB T).length : Int) + 20); exact ⟨by omega, by omega⟩, ⟨by omega, by omega⟩, fun q => ⟨hM, cs8 rfl, P_X10_good (Or.inl rfl) (fun z => absurd z (by decide)) (fun _ => ⟨⟨by omega, by omega⟩, fun z => absurd rfl z, fun _ => hK.t (if_neg (by omega)) h⟩)⟩, fun q => ⟨hM, cs8 rfl, P_X10_good (Or.inr rfl) (fun _ => ⟨⟨by omega, by omega⟩, fun _ => ?_, fun z => absurd z (by decide)⟩) (fun z => absurd z (by decide))⟩⟩
  have hle : (tB T).length + 20 ≤ 600 := by omega
  have g := h.thr 0
  have f0 : FB (uM μ.1 348 0 0, μ.2) (uM μ.1 348 0 0, μ.2) (tB T) := ⟨fun _ _ _ => rfl, fun _ => rfl, fun _ _ => rfl, g.2.2.1.1, g.2.2.1.2.2⟩
  refine ⟨hM, cs8 rfl, FB_four f0 ha (by omega) (fun I1 f1 => ⟨hM, cs8 rfl, FB_four f1 hb (by simp only [List.length_append, l4]; omega) (fun I2 f2 => ⟨hM, cs8 rfl, FB_four f2 hc (by simp only [List.length_append, l4]; omega) (fun I3 f3 => ⟨hM, cs8 rfl, FB_four f3 hd (by simp only [List.length_append, l4]; omega) (fun I4 f4 => ⟨hM, cs8 rfl, FB_four f4 he (by simp only [List.length_append, l4]; omega) (fun I5 f5 => ⟨hM, ?_⟩)⟩)⟩)⟩)⟩)⟩
  obtain ⟨a1, a2, a3, a4, a5⟩ := f5
  have hv : I5 348 5 = ((tB T).length : Int) + 20 := by
    have a4 : I5 348 5 = _ := a4
    rw [a4]
    simp only [List.length_append, l4]
    omega
  show K (some (.inl (I5 348 5))) (I5, μ.2)
  rw [hv]
  exact hK.k (μ' := (I5, μ.2)) (if_pos hle) (g.txt a1 a2 (fun j hj => a3 j (by omega)) ⟨a4, by simp only [List.length_append, l4]; omega, a5⟩ ⟨(a3 10 (by decide)).trans g.2.2.2.1.1, (a3 11 (by decide)).trans g.2.2.2.1.2⟩) ((a3 0 (by decide)).trans t348) (FX.put.trans ⟨fun e he => a1 e (by omega) (by omega), fun e _ => a2 e⟩)
