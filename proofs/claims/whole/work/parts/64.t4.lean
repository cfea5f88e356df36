/-! PURE 52: feed of the class -/
theorem usr (v s : Int) (h : s = 24 ∨ s = 16 ∨ s = 8 ∨ s = 0) : v % 4294967296 / ((2 ^ s.toNat : Nat) : Int) % ((2 ^ 8 : Nat) : Int) = byV v s := by
  rcases h with rfl | rfl | rfl | rfl
  · show v % 4294967296 / 16777216 % 256 = v / 16777216 % 256
    omega
  · show v % 4294967296 / 65536 % 256 = v / 65536 % 256
    omega
  · show v % 4294967296 / 256 % 256 = v / 256 % 256
    omega
  · show v % 4294967296 / 1 % 256 = v / 1 % 256
    omega
theorem append_step {I J : Mi} {K : Option AV → MM → Prop} {v s : Int} {n : Nat} (hs : s = 24 ∨ s = 16 ∨ s = 8 ∨ s = 0) (hn : I 1 1 = (n : Int)) (hn2 : n < 600) (hK : B_X8_append_3 K [some (.inr (.inr 1)), some (.inl v), some (.inl (s + -8))] [] (uM (uM I 2 n (byV v s)) 1 1 ((n : Int) + 1), J)) : B_X8_append_3 K [some (.inr (.inr 1)), some (.inl v), some (.inl s)] [] (I, J) := by
  refine lfp_in ⟨⟨by omega, by omega⟩, fun z => absurd z (by omega), fun _ => ⟨h1T, ?_⟩⟩
  show o_ci 600 _ _ [.inl (I 1 1)] (I, J)
  rw [hn]
  refine ⟨⟨by omega, by omega⟩, ⟨by omega, by omega⟩, fun z => absurd z (by omega), fun _ => ⟨h1T, h1T, ?_⟩⟩
  show o_iload 1 _ _ [.inl (I 1 1), .inr (.inr 2)] (I, J)
  rw [hn]
  refine ⟨by omega, by omega, rfl, h2b.1, by omega, ?_, h1T, h1T, ?_⟩
  · show (n : Int) < ((ln 2 : Nat) : Int); rw [h2b.2]; omega
  show B_X8_append_3 K _ [] (uM (uM I 2 n (v % 4294967296 / ((2 ^ s.toNat : Nat) : Int) % ((2 ^ 8 : Nat) : Int))) 1 1 (uM I 2 n (v % 4294967296 / ((2 ^ s.toNat : Nat) : Int) % ((2 ^ 8 : Nat) : Int)) 1 1 + 1), J)
  rw [usr v s hs, uM_e (by decide), hn]
  exact hK
theorem P_X8_append {I J : Mi} {K : Option AV → MM → Prop} {v : Int} {n : Nat} (hn : I 1 1 = (n : Int)) (hn2 : n + 4 ≤ 600) (hK : ∀ I' : Mi, (∀ e, e ≠ 1 → I' e = p4 I 2 n v e) → (∀ j, j ≠ 1 → I' 1 j = I 1 j) → I' 1 1 = ((n + 4 : Nat) : Int) → K none (I', J)) : w_X8_append [.inr (.inr 1), .inl v] (I, J) K := by
  refine ⟨cs8 rfl, ?_⟩
  refine append_step (by omega) hn (by omega) (append_step (n := n + 1) (by omega) uM_s (by omega) (append_step (n := n + 2) (by omega) ?_ (by omega) (append_step (n := n + 3) (by omega) ?_ (by omega) (lfp_in ⟨by decide, fun _ => hK _ (fun e he => ?_) (fun j hj => ?_) ?_, fun z => absurd (by decide) z⟩))))
  · rw [uM_s]; omega
  · rw [uM_s]; omega
  · unfold p4
    funext k
    simp only [uM, he, false_and, if_false]
    rfl
  · simp only [uM_k hj]
    simp only [uM_e (show (1 : Nat) ≠ 2 by decide), uM_k hj]
  · rw [uM_s]; omega
def FBc (μ μ' : MM) (B : List Int) : Prop := (∀ e, e ≠ 1 → e ≠ 2 → μ'.1 e = μ.1 e) ∧ (∀ e, μ'.2 e = μ.2 e) ∧ (∀ j, j ≠ 1 → μ'.1 1 j = μ.1 1 j) ∧ μ'.1 1 1 = B.length ∧ AI (μ'.1 2) B
theorem FBc_append {μ : MM} {I J : Mi} {K : Option AV → MM → Prop} {B : List Int} {v : Int} (h : FBc μ (I, J) B) (hl : B.length + 4 ≤ 600) (hK : ∀ I', FBc μ (I', J) (B ++ by4 v) → K none (I', J)) : w_X8_append [.inr (.inr 1), .inl v] (I, J) K := by
  obtain ⟨a1, a2, a3, a4, a5⟩ := h
  refine P_X8_append a4 hl (fun I' b1 b2 b3 => hK I' ⟨fun e e1 e2 => ?_, a2, fun j hj => (b2 j hj).trans (a3 j hj), ?_, ?_⟩)
  · show I' e = _
    rw [b1 e e1, p4_e e2]
    exact a1 e e1 e2
  · show I' 1 1 = _
    rw [b3, List.length_append]
    rfl
  · show AI (I' 2) _
    rw [b1 2 (by decide)]
    exact AI_p4 a5
theorem P_C_feed {I J : Mi} {K : Option AV → MM → Prop} {X : String → MM → Prop} {T : TS} {a b c d e : Int} (h : CT (I, J) T) (hK : OY [xS] (oFed T a b c d e) K X (I, J)) : w_X9_feed [.inr (.inr 0), .inl a, .inl b, .inl c, .inl d, .inl e] (I, J) K X := by
  have h5 : I 1 1 = ((tB T).length : Int) := h.1.1
  have hl := h.1.2.1
  have l4 : ∀ v, (by4 v).length = 4 := fun _ => rfl
  refine ⟨cs8 rfl, h0X, h1T, ?_⟩
  show o_ci 20 _ _ [.inl (I 1 1)] (I, J)
  rw [h5]
  refine ⟨by show R32 (((tB T).length : Int) + 20); exact ⟨by omega, by omega⟩, ⟨by omega, by omega⟩, fun q => ?_, fun q => ⟨cs8 rfl, hK.x (v := 0) 0 rfl (if_neg (by omega)) h⟩⟩
  have hle : (tB T).length + 20 ≤ 600 := by omega
  have f0 : FBc (I, J) (I, J) (tB T) := ⟨fun _ _ _ => rfl, fun _ => rfl, fun _ _ => rfl, h5, h.1.2.2⟩
  refine ⟨h0X, h1T, cs8 rfl, FBc_append f0 (by omega) (fun I1 f1 => ⟨h0X, h1T, cs8 rfl, FBc_append f1 (by simp only [List.length_append, l4]; omega) (fun I2 f2 => ⟨h0X, h1T, cs8 rfl, FBc_append f2 (by simp only [List.length_append, l4]; omega) (fun I3 f3 => ⟨h0X, h1T, cs8 rfl, FBc_append f3 (by simp only [List.length_append, l4]; omega) (fun I4 f4 => ⟨h0X, h1T, cs8 rfl, FBc_append f4 (by simp only [List.length_append, l4]; omega) (fun I5 f5 => ⟨h0X, h1T, ?_⟩)⟩)⟩)⟩)⟩)⟩
  obtain ⟨a1, a2, a3, a4, a5⟩ := f5
  have hv : I5 1 1 = ((tB T).length : Int) + 20 := by
    have a4 : I5 1 1 = _ := a4
    rw [a4]
    simp only [List.length_append, l4]
    omega
  show K (some (.inl (I5 1 1))) (I5, J)
  rw [hv]
  exact hK.k (μ' := (I5, J)) (if_pos hle) (h.txt a1 (fun a _ => a2 a) ⟨a4, by simp only [List.length_append, l4]; omega, a5⟩ ⟨(a3 2 (by decide)).trans h.2.1.1, (a3 3 (by decide)).trans h.2.1.2⟩) (fun e he => ⟨a1 e (by omega) (by omega), a2 e⟩)
theorem P_M_reportByte {μ : MM} {K : Option AV → MM → Prop} {T : TS} {x : Int} (h : MT μ T) (hl : (tP T).length ≤ 2742) (hx : R32 x) (hK : OM (oRpb T x) K μ) : w_X10_reportByte [.inr (.inr 348), .inl x] μ K := by
  have h5 := h.2.2.2.2.2.2.1
  refine ⟨cs8 rfl, hx, hM, ?_⟩
  show o_ci 1 _ _ [.inl (μ.1 348 24), _, _, _] μ
  rw [h5]
  refine ⟨by show R32 (((tP T).length : Int) - 1); exact ⟨by omega, by omega⟩, cs8 rfl, cs8 rfl, P_X10_in (r64 hx) ⟨by omega, by omega⟩ (by show R64 (((tP T).length : Int) - 1); exact ⟨by omega, by omega⟩) (fun q1 q2 => ⟨hM, cs8 rfl, P_X10_good (Or.inr rfl) (fun _ => ⟨⟨by omega, by omega⟩, fun q => absurd q (by decide), fun _ => ⟨hM, h354.1, q1, ?_, ?_⟩⟩) (fun q => absurd q (by decide))⟩) (fun q => ⟨hM, cs8 rfl, P_X10_good (Or.inl rfl) (fun q => absurd q (by decide)) (fun _ => ⟨⟨by omega, by omega⟩, fun _ => hK.t (if_neg (fun z => q ⟨z.1, by show x ≤ ((tP T).length : Int) - 1; omega⟩)) h, fun q => absurd rfl q⟩)⟩)⟩
  · have q2 : x ≤ ((tP T).length : Int) - 1 := q2
    show x < ((ln 354 : Nat) : Int); rw [h354.2]; omega
  have q2 : x ≤ ((tP T).length : Int) - 1 := q2
  obtain ⟨n, rfl⟩ : ∃ n : Nat, x = n := ⟨x.toNat, by omega⟩
  obtain ⟨y, hy⟩ : ∃ y, (tP T)[n]? = some y := ⟨(tP T)[n]'(by omega), List.getElem?_eq_getElem (by omega)⟩
  have e : oRpb T n = ((0, y), T) := by unfold oRpb; rw [if_pos ⟨q1, by omega⟩, Int.toNat_natCast, hy]
  have hv : uM μ.1 348 0 0 354 n = y := by rw [uM_e (by decide)]; exact h.2.2.2.2.2.2.2 n y hy
  show K (some (.inl (uM μ.1 348 0 0 354 n))) _
  rw [hv]
  exact hK.t e h
