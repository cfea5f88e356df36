/-! PURE 53: reportByte of the class; texts keep the bounds -/
theorem P_C_reportByte {I J : Mi} {K : Option AV → MM → Prop} {X : String → MM → Prop} {T : TS} {x : Int} (h : CT (I, J) T) (hl : (tP T).length ≤ 2742) (hx : R32 x) (hK : OY [xI] (oRpb T x) K X (I, J)) : w_X9_reportByte [.inr (.inr 0), .inl x] (I, J) K X := by
  have h5 : I 346 1 = ((tP T).length : Int) := h.2.2.2.2.2.1
  refine ⟨cs8 rfl, h0X, h346, ?_⟩
  show _ ∧ _ ∧ w_X9_needIndex [.inl x, .inl (I 346 1)] _ _ _
  rw [h5]
  refine ⟨cs8 rfl, cs8 rfl, P_X9_needIndex hx ⟨by omega, by omega⟩ (fun q1 q2 => ⟨h0X, h346, h347.1, q1, ?_, ?_⟩) (fun q => hK.x 0 rfl (if_neg q) h)⟩
  · show x < ((ln 347 : Nat) : Int); rw [h347.2]; omega
  obtain ⟨n, rfl⟩ : ∃ n : Nat, x = n := ⟨x.toNat, by omega⟩
  obtain ⟨y, hy⟩ : ∃ y, (tP T)[n]? = some y := ⟨(tP T)[n]'(by omega), List.getElem?_eq_getElem (by omega)⟩
  have e : oRpb T n = ((0, y), T) := by unfold oRpb; rw [if_pos ⟨q1, q2⟩, Int.toNat_natCast, hy]
  have hv : I 347 n = y := h.2.2.2.2.2.2 n y hy
  show K (some (.inl (I 347 n))) _
  rw [hv]
  exact hK.k e h FY.refl
theorem TG_fed {t : Nat} {T : TS} {a b c d e : Int} (h : TG t T) (ht : t < 512) : TG (t + 1) (oFed T a b c d e).2 := by
  unfold oFed
  split
  · exact h.up ht
  · exact h.up ht
theorem TG_trn {t : Nat} {T : TS} {n : Int} (h : TG t T) (ht : t < 512) : TG (t + 1) (oTrn T n).2 := by
  unfold oTrn
  split
  · exact h.up ht
  · exact h.up ht
/-- bytes are bytes, a report has room -/
def TB (T : TS) : Prop := (∀ x ∈ tB T, 0 ≤ x ∧ x ≤ 255) ∧ (tB T).length ≤ 600 ∧ (tP T).length ≤ 2742
theorem byV_r (v s : Int) : 0 ≤ byV v s ∧ byV v s ≤ 255 := by
  show 0 ≤ v / ((2 ^ s.toNat : Nat) : Int) % 256 ∧ v / ((2 ^ s.toNat : Nat) : Int) % 256 ≤ 255
  generalize v / ((2 ^ s.toNat : Nat) : Int) = w
  omega
theorem by4_r (v : Int) : ∀ x ∈ by4 v, 0 ≤ x ∧ x ≤ 255 := by
  intro x hx
  unfold by4 at hx
  simp only [List.mem_cons, List.not_mem_nil, or_false] at hx
  rcases hx with rfl | rfl | rfl | rfl <;> exact byV_r _ _
theorem TB_fed {T : TS} {a b c d e : Int} (h : TB T) : TB (oFed T a b c d e).2 := by
  unfold oFed
  split
  · rename_i q
    refine ⟨fun x hx => ?_, ?_, h.2.2⟩
    · have hx : x ∈ ((((tB T ++ by4 a) ++ by4 b) ++ by4 c) ++ by4 d) ++ by4 e := hx
      rcases List.mem_append.mp hx with hx | hx
      · rcases List.mem_append.mp hx with hx | hx
        · rcases List.mem_append.mp hx with hx | hx
          · rcases List.mem_append.mp hx with hx | hx
            · rcases List.mem_append.mp hx with hx | hx
              · exact h.1 x hx
              · exact by4_r _ x hx
            · exact by4_r _ x hx
          · exact by4_r _ x hx
        · exact by4_r _ x hx
      · exact by4_r _ x hx
    · have l4 : ∀ v, (by4 v).length = 4 := fun _ => rfl
      show (((((tB T ++ by4 a) ++ by4 b) ++ by4 c) ++ by4 d) ++ by4 e).length ≤ 600
      simp only [List.length_append, l4]
      omega
  · exact h
theorem TB_trn {T : TS} {n : Int} (h : TB T) : TB (oTrn T n).2 := by
  unfold oTrn
  split
  · refine ⟨fun x hx => h.1 x (List.mem_of_mem_take hx), ?_, h.2.2⟩
    have := h.2.1
    show ((tB T).take n.toNat).length ≤ 600
    rw [List.length_take]
    omega
  · exact h
