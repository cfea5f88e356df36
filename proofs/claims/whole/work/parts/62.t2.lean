/-! PURE 50: feed's four bytes, both sides; reportByte -/
theorem h351 : isK 351 11 ∧ ln 351 = 600 := ⟨⟨by decide, by decide +kernel⟩, by decide +kernel⟩
theorem h2b : isK 2 11 ∧ ln 2 = 600 := ⟨⟨by decide, by decide +kernel⟩, by decide +kernel⟩
theorem h354 : isK 354 11 ∧ ln 354 = 3500 := ⟨⟨by decide, by decide +kernel⟩, by decide +kernel⟩
theorem h347 : isK 347 11 ∧ ln 347 = 2742 := ⟨⟨by decide, by decide +kernel⟩, by decide +kernel⟩
theorem h346 : isK 346 4 := ⟨by decide, by decide +kernel⟩
def byV (v s : Int) : Int := v / ((2 ^ s.toNat : Nat) : Int) % ((2 ^ 8 : Nat) : Int)
theorem four_step {I J : Mi} {K : Option AV → MM → Prop} {v s : Int} {n : Nat} (hv : R32 v) (hs : 0 ≤ s ∧ s < 32) (hn : I 348 5 = (n : Int)) (hn2 : n < 600) (hK : B_X10_four_3 K [some (.inr (.inr 348)), some (.inl v), some (.inl (s + -8))] [] (uM (uM I 351 n (byV v s)) 348 5 ((n : Int) + 1), J)) : B_X10_four_3 K [some (.inr (.inr 348)), some (.inl v), some (.inl s)] [] (I, J) := by
  refine lfp_in ⟨⟨by omega, by omega⟩, fun z => absurd z (by omega), fun _ => ⟨hM, hM, ?_⟩⟩
  show o_iload 1 _ _ [.inl (I 348 5), .inr (.inr 351)] (I, J)
  rw [hn]
  refine ⟨hv, hs.1, hs.2, rfl, h351.1, by omega, ?_, hM, hM, ?_⟩
  · show (n : Int) < ((ln 351 : Nat) : Int); rw [h351.2]; omega
  show B_X10_four_3 K _ [] (uM (uM I 351 n (byV v s)) 348 5 (uM I 351 n (byV v s) 348 5 + 1), J)
  rw [uM_e (by decide), hn]
  exact hK
/-- four bytes from place n on -/
def p4 (I : Mi) (a n : Nat) (v : Int) : Mi := uM (uM (uM (uM I a n (byV v 24)) a (n + 1) (byV v 16)) a (n + 2) (byV v 8)) a (n + 3) (byV v 0)
theorem P_X10_four {I J : Mi} {K : Option AV → MM → Prop} {v : Int} {n : Nat} (hv : R32 v) (hn : I 348 5 = (n : Int)) (hn2 : n + 4 ≤ 600) (hK : ∀ I' : Mi, (∀ e, e ≠ 348 → I' e = p4 I 351 n v e) → (∀ j, j ≠ 5 → I' 348 j = I 348 j) → I' 348 5 = ((n + 4 : Nat) : Int) → K none (I', J)) : w_X10_four [.inr (.inr 348), .inl v] (I, J) K := by
  refine ⟨cs8 rfl, ?_⟩
  refine four_step hv (by decide) hn (by omega) (four_step (n := n + 1) hv (by decide) uM_s (by omega) (four_step (n := n + 2) hv (by decide) ?_ (by omega) (four_step (n := n + 3) hv (by decide) ?_ (by omega) (lfp_in ⟨by decide, fun _ => hK _ (fun e he => ?_) (fun j hj => ?_) ?_, fun z => absurd (by decide) z⟩))))
  · rw [uM_s]; omega
  · rw [uM_s]; omega
  · unfold p4
    funext k
    simp only [uM, he, false_and, if_false]
    rfl
  · simp only [uM_k hj]
    simp only [uM_e (show (348 : Nat) ≠ 351 by decide), uM_k hj]
  · rw [uM_s]; omega
