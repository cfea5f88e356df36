/-! PURE 97: the class's report -/
/-- the class has written out -/
def RK (μ0 μ : MM) (out : List Int) : Prop := (∀ e, e ≠ 346 → e ≠ 347 → μ.1 e = μ0.1 e) ∧ (∀ e, e ≠ 346 → μ.2 e = μ0.2 e) ∧ μ.1 346 1 = (out.length : Int) ∧ AI (μ.1 347) out
abbrev hR4 : Option AV := some (.inr (.inr 346))
section
variable {μ0 : MM} {I J : Mi} {K : Option AV → MM → Prop} {out : List Int}
theorem P_X4_put {c : Int} (h : RK μ0 (I, J) out) (hl : out.length + 1 ≤ 2742) (hK : ∀ I', RK μ0 (I', J) (out ++ [c]) → K none (I', J)) : w_X4_put [.inr (.inr 346), .inl c] (I, J) K := by
  obtain ⟨a1, a2, a4, a5⟩ := h
  have a4 : I 346 1 = (out.length : Int) := a4
  refine ⟨cs8 rfl, h346, ?_⟩
  show o_ci 2742 _ _ [.inl (I 346 1)] (I, J)
  rw [a4]
  refine ⟨⟨by omega, by omega⟩, ⟨by decide, by decide⟩, fun z => absurd (show (2742 : Int) ≤ (out.length : Int) from z) (by omega), fun _ => ⟨h346, h346, ?_⟩⟩
  show o_iload 1 _ _ [.inl (I 346 1), .inr (.inr 347)] (I, J)
  rw [a4]
  refine ⟨h347.1, by omega, by show (out.length : Int) < ((ln 347 : Nat) : Int); rw [h347.2]; omega, h346, h346, ?_⟩
  refine c_kil rfl ?_
  show K none (uM (uM I 347 out.length c) 346 1 (uM I 347 out.length c 346 1 + 1), J)
  rw [uM_e (by decide), a4]
  refine hK _ ⟨fun e h1 h2 => (uM_r h1).trans ((uM_r h2).trans (a1 e h1 h2)), a2, ?_, ?_⟩
  · show uM (uM I 347 out.length c) 346 1 ((out.length : Int) + 1) 346 1 = _
    rw [uM_s, List.length_append]
    rfl
  · show AI (uM (uM I 347 out.length c) 346 1 ((out.length : Int) + 1) 347) _
    rw [uM_r (by decide)]
    exact AI_one a5 (fun k hk => uM_k (by omega)) uM_s
theorem P_X4_putNumber {v : Int} (hv : 0 ≤ v ∧ v < 1000) (h : RK μ0 (I, J) out) (hl : out.length + (nb v).length ≤ 2742) (hK : ∀ I', RK μ0 (I', J) (out ++ nb v) → K none (I', J)) : w_X4_putNumber [.inr (.inr 346), .inl v] (I, J) K := by
  have rv : R32 v := ⟨by omega, by omega⟩
  have r10 : R32 10 := ⟨by decide, by decide⟩
  have r100 : R32 100 := ⟨by decide, by decide⟩
  have e1 : v.tmod 10 = v % 10 := Int.tmod_eq_emod_of_nonneg hv.1
  have e2 : v.tdiv 10 = v / 10 := td hv.1
  have e3 : v.tdiv 100 = v / 100 := td hv.1
  have e4 : (v / 10).tmod 10 = v / 10 % 10 := Int.tmod_eq_emod_of_nonneg (by omega)
  have e5 : (v / 100).tmod 10 = v / 100 % 10 := Int.tmod_eq_emod_of_nonneg (by omega)
  -- the last digit
  have s1 : ∀ (I : Mi) (out : List Int), RK μ0 (I, J) out → out.length + 1 ≤ 2742 → (∀ I', RK μ0 (I', J) (out ++ [48 + v % 10]) → K none (I', J)) → B_X4_putNumber_40 (fun v μ' => K v μ') [hR4, some (.inl v)] [] (I, J) := fun I out h hl hK => by
    refine ⟨rv, r10, by decide, ?_⟩
    show o_callV 1 4 w_X4_put _ _ [.inl (48 + v.tmod 10), .inr (.inr 346)] (I, J)
    rw [e1]
    exact ⟨h346, cs8 rfl, P_X4_put h hl (fun I' h' => hK I' h')⟩
  have s2 : ∀ (I : Mi) (out : List Int), 10 ≤ v → RK μ0 (I, J) out → out.length + 2 ≤ 2742 → (∀ I', RK μ0 (I', J) (out ++ [48 + v / 10 % 10, 48 + v % 10]) → K none (I', J)) → B_X4_putNumber_20 (fun v μ' => K v μ') [hR4, some (.inl v)] [] (I, J) := fun I out h10 h hl hK => by
    refine ⟨rv, r10, fun z => absurd (show v < 10 from z) (by omega), fun _ => ⟨rv, r10, by decide, by rw [e2]; exact ⟨by omega, by omega⟩, r10, by decide, ?_⟩⟩
    show o_callV 1 4 w_X4_put _ _ [.inl (48 + (v.tdiv 10).tmod 10), .inr (.inr 346)] (I, J)
    rw [e2, e4]
    exact ⟨h346, cs8 rfl, P_X4_put h (by omega) (fun I' h' => s1 I' _ h' (by rw [List.length_append]; show out.length + 1 + 1 ≤ 2742; omega) (fun I2 h2 => hK I2 (by rw [List.append_assoc] at h2; exact h2)))⟩
  refine ⟨cs8 rfl, rv, r100, fun z => ?_, fun z => ?_⟩
  · have z : v < 100 := z
    by_cases y : v < 10
    · have en : nb v = [48 + v % 10] := by unfold nb; rw [if_pos y, Int.emod_eq_of_lt hv.1 (by omega)]
      rw [en] at hl hK
      exact ⟨rv, r10, fun _ => s1 I out h hl hK, fun x => absurd y x⟩
    · have en : nb v = [48 + v / 10 % 10, 48 + v % 10] := by unfold nb; rw [if_neg y, if_pos z, show v / 10 % 10 = v / 10 by omega]
      rw [en] at hl hK
      exact s2 I out (by omega) h hl hK
  · have z : ¬ v < 100 := z
    have en : nb v = [48 + v / 100 % 10, 48 + v / 10 % 10, 48 + v % 10] := by unfold nb; rw [if_neg (by omega), if_neg (by omega), show v / 100 % 10 = v / 100 by omega]
    rw [en] at hl hK
    have hl : out.length + 3 ≤ 2742 := hl
    refine ⟨rv, r100, by decide, by rw [e3]; exact ⟨by omega, by omega⟩, r10, by decide, ?_⟩
    show o_callV 1 4 w_X4_put _ _ [.inl (48 + (v.tdiv 100).tmod 10), .inr (.inr 346)] (I, J)
    rw [e3, e5]
    exact ⟨h346, cs8 rfl, P_X4_put h (by omega) (fun I' h' => s2 I' _ (by omega) h' (by rw [List.length_append]; show out.length + 1 + 2 ≤ 2742; omega) (fun I2 h2 => hK I2 (by rw [List.append_assoc] at h2; exact h2)))⟩
theorem pnm_lp {w : List Nat} (hw : wOk w) (hl : out.length + w.length ≤ 2742) (hK : ∀ I', RK μ0 (I', J) (out ++ nmB w) → K none (I', J)) : ∀ (j : Nat) (I : Mi) (s : Int), j ≤ 8 → s = 8 * (j : Int) - 8 → RK μ0 (I, J) (out ++ nmB (lt w j)) → B_X4_putName_3 K [hR4, some (.inr (.inl (pk8 w))), none, some (.inl s), none] [] (I, J) := by
  have hc : ∀ c ∈ w, 0 ≤ (96 : Int) + (c : Int) ∧ (96 : Int) + (c : Int) < 256 := fun c h => by have := hw.2.2 c h; omega
  have h64 := pk8_64 hw
  have em : pk8 w % 18446744073709551616 = pk8 w := by have := h64.1.2; have := h64.2; exact Int.emod_eq_of_lt h64.2 (by omega)
  intro j
  induction j with
  | zero =>
    intro I s _ hs h
    rw [nmB_lt] at h
    exact lfp_in ⟨⟨by omega, by omega⟩, fun _ => hK I h, fun z => absurd (show s < 0 by omega) z⟩
  | succ j ih =>
    intro I s hj hs h
    have hs : s = ((8 * j : Nat) : Int) := by omega
    subst hs
    refine lfp_in ⟨⟨by omega, by omega⟩, fun z => absurd (show ((8 * j : Nat) : Int) < 0 from z) (by omega), fun _ => ⟨by omega, by omega, rfl, ?_⟩⟩
    rw [p8_j j (by omega), show ((2 ^ 8 : Nat) : Int) = 256 from rfl, em]
    refine c_l2i ?_
    by_cases z : j < w.length
    · obtain ⟨c, c1, c2, c3⟩ := lt_lo z
      have hd := dig_lo (F := pk8) (o := 96) (by decide) pk8_app j w hc c z c1
      rw [hd, Int.add_comm]
      have c4 := hw.2.2 c c2
      refine st_i (L' := [hR4, some (.inr (.inl (pk8 w))), none, some (.inl ((8 * j : Nat) : Int)), some (.inl ((c : Int) + 96))]) rfl ⟨⟨by omega, by omega⟩, fun y => absurd (show (c : Int) + 96 = 0 from y) (by omega), fun _ => ⟨h346, cs8 rfl, P_X4_put h ?_ (fun I' h' => c_kil rfl (c_kil rfl (ih I' _ (by omega) ?_ ?_)))⟩⟩
      · rw [List.length_append, nmB_l]
        have := congrArg List.length c3
        rw [List.length_append] at this
        have this : (lt w j).length = (lt w (j + 1)).length + 1 := this
        have := lt_le (w := w) (j := j)
        omega
      · omega
      · rw [List.append_assoc] at h'
        rw [c3, nmB_app]
        exact h'
    · have hd := dig_hi (F := pk8) (o := 96) (by decide) rfl pk8_app j w hc (by omega)
      rw [hd]
      obtain ⟨c1, c2⟩ := lt_hi (w := w) (j := j) (by omega)
      rw [c1] at h
      refine st_i (L' := [hR4, some (.inr (.inl (pk8 w))), none, some (.inl ((8 * j : Nat) : Int)), some (.inl 0)]) rfl ⟨R32_0, fun _ => c_kil rfl (c_kil rfl (ih I _ (by omega) (by omega) (by rw [c2]; exact h))), fun y => absurd rfl y⟩
theorem P_X4_putName {w : List Nat} (hw : wOk w) (h : RK μ0 (I, J) out) (hl : out.length + w.length ≤ 2742) (hK : ∀ I', RK μ0 (I', J) (out ++ nmB w) → K none (I', J)) : w_X4_putName [.inr (.inr 346), .inr (.inl (pk8 w))] (I, J) K := by
  refine ⟨cs8 rfl, c_ci (st_i (L' := [hR4, some (.inr (.inl (pk8 w))), none, some (.inl 56), none]) rfl (c_kil rfl (pnm_lp hw hl hK 8 I 56 (by decide) (by decide) ?_)))⟩
  rw [lt_8 hw.2.1]
  show RK μ0 (I, J) (out ++ [])
  rw [List.append_nil]
  exact h
end
