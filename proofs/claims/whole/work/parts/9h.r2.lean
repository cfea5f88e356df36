/-! PURE 95: the model's report -/
theorem AI_one {f g : Nat → Int} {L : List Int} {c : Int} (h : AI f L) (hg : ∀ k, k < L.length → g k = f k) (hc : g L.length = c) : AI g (L ++ [c]) := by
  intro i x hx
  by_cases z : i < L.length
  · rw [List.getElem?_append_left z] at hx
    rw [hg i z]
    exact h i x hx
  · have := (List.getElem?_eq_some_iff.mp hx).1
    rw [List.length_append] at this
    have : i < L.length + 1 := this
    have e : i = L.length := by omega
    subst e
    rw [List.getElem?_concat_length] at hx
    rw [hc]
    exact Option.some.inj hx
/-- the model has written out -/
def RM (μ0 μ : MM) (out : List Int) : Prop := (∀ e, e ≠ 348 → e ≠ 354 → μ.1 e = μ0.1 e) ∧ (∀ j, j ≠ 24 → μ.1 348 j = μ0.1 348 j) ∧ μ.2 = μ0.2 ∧ μ.1 348 24 = (out.length : Int) ∧ AI (μ.1 354) out
section
variable {μ0 : MM} {I J : Mi} {K : Option AV → MM → Prop} {out : List Int}
theorem P_X10_writes {c : Int} (h : RM μ0 (I, J) out) (hl : out.length + 1 ≤ 2742) (hK : ∀ I', RM μ0 (I', J) (out ++ [c]) → K none (I', J)) : w_X10_writes [.inr (.inr 348), .inl c] (I, J) K := by
  obtain ⟨a1, a2, a3, a4, a5⟩ := h
  have a4 : I 348 24 = (out.length : Int) := a4
  refine ⟨cs8 rfl, hM, hM, ?_⟩
  show o_iload 1 _ _ [.inl (I 348 24), .inr (.inr 354)] (I, J)
  rw [a4]
  refine ⟨h354.1, by omega, by show (out.length : Int) < ((ln 354 : Nat) : Int); rw [h354.2]; omega, hM, hM, ?_⟩
  show K none (uM (uM I 354 out.length c) 348 24 (uM I 354 out.length c 348 24 + 1), J)
  rw [uM_e (by decide), a4]
  refine hK _ ⟨fun e h1 h2 => (uM_r h1).trans ((uM_r h2).trans (a1 e h1 h2)), fun j hj => (pK hj).trans ((uM_e (by decide)).trans (a2 j hj)), a3, ?_, ?_⟩
  · show uM (uM I 354 out.length c) 348 24 ((out.length : Int) + 1) 348 24 = _
    rw [uM_s, List.length_append]
    rfl
  · show AI (uM (uM I 354 out.length c) 348 24 ((out.length : Int) + 1) 354) _
    rw [uM_r (by decide)]
    exact AI_one a5 (fun k hk => uM_k (by omega)) uM_s
theorem wn18 {v : Int} (hv : 0 ≤ v ∧ v < 1000) : (∀ {I : Mi} {out : List Int}, RM μ0 (I, J) out → out.length + 1 ≤ 2742 → (∀ I', RM μ0 (I', J) (out ++ [48 + v % 10]) → K none (I', J)) → B_X10_writesNumber_18 K [some (.inr (.inr 348)), some (.inl v), some (.inl 1)] [] (I, J)) ∧ (∀ {I : Mi} {out : List Int}, RM μ0 (I, J) out → out.length + 2 ≤ 2742 → (∀ I', RM μ0 (I', J) (out ++ [48 + v / 10 % 10, 48 + v % 10]) → K none (I', J)) → B_X10_writesNumber_18 K [some (.inr (.inr 348)), some (.inl v), some (.inl 10)] [] (I, J)) ∧ (∀ {I : Mi} {out : List Int}, RM μ0 (I, J) out → out.length + 3 ≤ 2742 → (∀ I', RM μ0 (I', J) (out ++ [48 + v / 100 % 10, 48 + v / 10 % 10, 48 + v % 10]) → K none (I', J)) → B_X10_writesNumber_18 K [some (.inr (.inr 348)), some (.inl v), some (.inl 100)] [] (I, J)) := by
  have rv : R32 v := ⟨by omega, by omega⟩
  have r10 : R32 10 := ⟨by decide, by decide⟩
  have r100 : R32 100 := ⟨by decide, by decide⟩
  have dv : ∀ u : Int, 0 < u → 48 + (v.tdiv u).tmod 10 = 48 + v / u % 10 := fun u hu => by
    have h0 : 0 ≤ v / u := Int.ediv_nonneg hv.1 (by omega)
    rw [td hv.1, Int.tmod_eq_emod_of_nonneg h0]
  have rd : ∀ u : Int, 0 < u → R32 (v.tdiv u) := fun u hu => by
    have h0 : 0 ≤ v / u := Int.ediv_nonneg hv.1 (by omega)
    have h1 : v / u ≤ v := Int.ediv_le_self _ hv.1
    rw [td hv.1]
    exact ⟨by omega, by omega⟩
  have s1 : ∀ {I : Mi} {out : List Int}, RM μ0 (I, J) out → out.length + 1 ≤ 2742 → (∀ I', RM μ0 (I', J) (out ++ [48 + v % 10]) → K none (I', J)) → B_X10_writesNumber_18 K [some (.inr (.inr 348)), some (.inl v), some (.inl 1)] [] (I, J) := fun {I out} h hl hK => by
    refine lfp_in ⟨R32_1, fun z => absurd z (by decide), fun _ => ⟨rv, R32_1, by decide, rd 1 (by decide), r10, by decide, hM, cs8 rfl, ?_⟩⟩
    rw [dv 1 (by decide), Int.ediv_one]
    exact P_X10_writes h hl (fun I' h' => ⟨R32_1, r10, by decide, st_i (L' := [some (.inr (.inr 348)), some (.inl v), some (.inl 0)]) rfl (lfp_in ⟨R32_0, fun _ => hK I' h', fun z => absurd (Int.le_refl 0) z⟩)⟩)
  have s2 : ∀ {I : Mi} {out : List Int}, RM μ0 (I, J) out → out.length + 2 ≤ 2742 → (∀ I', RM μ0 (I', J) (out ++ [48 + v / 10 % 10, 48 + v % 10]) → K none (I', J)) → B_X10_writesNumber_18 K [some (.inr (.inr 348)), some (.inl v), some (.inl 10)] [] (I, J) := fun {I out} h hl hK => by
    refine lfp_in ⟨r10, fun z => absurd z (by decide), fun _ => ⟨rv, r10, by decide, rd 10 (by decide), r10, by decide, hM, cs8 rfl, ?_⟩⟩
    rw [dv 10 (by decide)]
    exact P_X10_writes h (by omega) (fun I' h' => ⟨r10, r10, by decide, st_i (L' := [some (.inr (.inr 348)), some (.inl v), some (.inl 1)]) rfl (s1 h' (by rw [List.length_append]; show out.length + 1 + 1 ≤ 2742; omega) (fun I2 h2 => hK I2 (by rw [List.append_assoc] at h2; exact h2)))⟩)
  refine ⟨s1, s2, fun {I out} h hl hK => ?_⟩
  refine lfp_in ⟨r100, fun z => absurd z (by decide), fun _ => ⟨rv, r100, by decide, rd 100 (by decide), r10, by decide, hM, cs8 rfl, ?_⟩⟩
  rw [dv 100 (by decide)]
  exact P_X10_writes h (by omega) (fun I' h' => ⟨r100, r10, by decide, st_i (L' := [some (.inr (.inr 348)), some (.inl v), some (.inl 10)]) rfl (s2 h' (by rw [List.length_append]; show out.length + 1 + 2 ≤ 2742; omega) (fun I2 h2 => hK I2 (by rw [List.append_assoc] at h2; exact h2)))⟩)
theorem P_X10_writesNumber {v : Int} (hv : 0 ≤ v ∧ v < 1000) (h : RM μ0 (I, J) out) (hl : out.length + (nb v).length ≤ 2742) (hK : ∀ I', RM μ0 (I', J) (out ++ nb v) → K none (I', J)) : w_X10_writesNumber [.inr (.inr 348), .inl v] (I, J) K := by
  have rv : R32 v := ⟨by omega, by omega⟩
  have r10 : R32 10 := ⟨by decide, by decide⟩
  have r100 : R32 100 := ⟨by decide, by decide⟩
  have r9 : R32 9 := ⟨by decide, by decide⟩
  obtain ⟨s1, s2, s3⟩ := wn18 (μ0 := μ0) (J := J) (K := K) hv
  have e1 : v.tdiv 1 = v := by rw [td hv.1, Int.ediv_one]
  have e2 : v.tdiv 10 = v / 10 := td hv.1
  have e3 : v.tdiv 100 = v / 100 := td hv.1
  have key : B_X10_writesNumber_2 (fun v μ' => K v μ') [some (.inr (.inr 348)), some (.inl v), some (.inl 1)] [] (I, J) := by
    refine lfp_in ⟨rv, R32_1, by decide, ?_⟩
    rw [e1]
    refine ⟨rv, r9, fun z => ?_, fun z => ?_⟩
    · have z : v ≤ 9 := z
      have en : nb v = [48 + v % 10] := by unfold nb; rw [if_pos (by omega), Int.emod_eq_of_lt hv.1 (by omega)]
      rw [en] at hl hK
      exact s1 h hl hK
    · have z : ¬ v ≤ 9 := z
      refine st_i (L' := [some (.inr (.inr 348)), some (.inl v), some (.inl 10)]) rfl (lfp_in ⟨rv, r10, by decide, ?_⟩)
      rw [e2]
      refine ⟨⟨by omega, by omega⟩, r9, fun y => ?_, fun y => ?_⟩
      · have y : v / 10 ≤ 9 := y
        have en : nb v = [48 + v / 10 % 10, 48 + v % 10] := by unfold nb; rw [if_neg (by omega), if_pos (by omega), show v / 10 % 10 = v / 10 by omega]
        rw [en] at hl hK
        exact s2 h hl hK
      · have y : ¬ v / 10 ≤ 9 := y
        refine st_i (L' := [some (.inr (.inr 348)), some (.inl v), some (.inl 100)]) rfl (lfp_in ⟨rv, r100, by decide, ?_⟩)
        rw [e3]
        refine ⟨⟨by omega, by omega⟩, r9, fun x => ?_, fun x => absurd (show v / 100 ≤ 9 by omega) x⟩
        have en : nb v = [48 + v / 100 % 10, 48 + v / 10 % 10, 48 + v % 10] := by unfold nb; rw [if_neg (by omega), if_neg (by omega), show v / 100 % 10 = v / 100 by omega]
        rw [en] at hl hK
        exact s3 h hl hK
  exact ⟨cs8 rfl, c_ci (st_i (L' := [some (.inr (.inr 348)), some (.inl v), some (.inl 1)]) rfl key)⟩
theorem c_l2i {x : Int} {k : PT} {L : List (Option AV)} {st : List AV} {μ : MM} (h : k L (.inl x :: st) μ) : o_l2i k L (.inr (.inl x) :: st) μ := h
theorem wnm_lp {w : List Nat} (hw : wOk w) (hl : out.length + w.length ≤ 2742) (hK : ∀ I', RM μ0 (I', J) (out ++ nmB w) → K none (I', J)) : ∀ (j : Nat) (I : Mi) (s : Int), j ≤ 8 → s = 5 * (j : Int) - 5 → RM μ0 (I, J) (out ++ nmB (lt w j)) → B_X10_writesName_3 K [some (.inr (.inr 348)), some (.inr (.inl (pk5 w))), none, some (.inl s), none] [] (I, J) := by
  have hF : ∀ (v : List Nat) (c : Nat), pk5 (v ++ [c]) = 32 * pk5 v + (0 + (c : Int)) := fun v c => by rw [pk5_app, Int.zero_add]
  have hc : ∀ c ∈ w, 0 ≤ (0 : Int) + (c : Int) ∧ (0 : Int) + (c : Int) < 32 := fun c h => by have := hw.2.2 c h; omega
  intro j
  induction j with
  | zero =>
    intro I s _ hs h
    rw [nmB_lt] at h
    exact lfp_in ⟨⟨by omega, by omega⟩, fun _ => hK I h, fun z => absurd (show s < 0 by omega) z⟩
  | succ j ih =>
    intro I s hj hs h
    have hs : s = ((5 * j : Nat) : Int) := by omega
    subst hs
    refine lfp_in ⟨⟨by omega, by omega⟩, fun z => absurd (show ((5 * j : Nat) : Int) < 0 from z) (by omega), fun _ => ⟨(pk5_64 hw).1, by omega, by omega, rfl, ?_⟩⟩
    rw [p5_j j (by omega), show ((2 ^ 5 : Nat) : Int) = 32 from rfl]
    refine c_l2i ?_
    by_cases z : j < w.length
    · obtain ⟨c, c1, c2, c3⟩ := lt_lo z
      have hd := dig_lo (F := pk5) (by decide) hF j w hc c z c1
      rw [hd, Int.zero_add]
      have c4 := hw.2.2 c c2
      refine st_i (L' := [some (.inr (.inr 348)), some (.inr (.inl (pk5 w))), none, some (.inl ((5 * j : Nat) : Int)), some (.inl (c : Int))]) rfl ⟨⟨by omega, by omega⟩, fun y => absurd (show (c : Int) ≤ 0 from y) (by omega), fun _ => ⟨hM, cs8 rfl, P_X10_writes h ?_ (fun I' h' => c_kil rfl (c_kil rfl (ih I' _ (by omega) ?_ ?_)))⟩⟩
      · rw [List.length_append, nmB_l]
        have := congrArg List.length c3
        rw [List.length_append] at this
        have this : (lt w j).length = (lt w (j + 1)).length + 1 := this
        have := lt_le (w := w) (j := j)
        omega
      · omega
      · rw [List.append_assoc] at h'
        rw [c3, nmB_app]
        exact h'
    · have hd := dig_hi (F := pk5) (by decide) rfl hF j w hc (by omega)
      rw [hd]
      obtain ⟨c1, c2⟩ := lt_hi (w := w) (j := j) (by omega)
      rw [c1] at h
      refine st_i (L' := [some (.inr (.inr 348)), some (.inr (.inl (pk5 w))), none, some (.inl ((5 * j : Nat) : Int)), some (.inl 0)]) rfl ⟨R32_0, fun _ => c_kil rfl (c_kil rfl (ih I _ (by omega) (by omega) (by rw [c2]; exact h))), fun y => absurd (Int.le_refl 0) y⟩
theorem P_X10_writesName {w : List Nat} (hw : wOk w) (h : RM μ0 (I, J) out) (hl : out.length + w.length ≤ 2742) (hK : ∀ I', RM μ0 (I', J) (out ++ nmB w) → K none (I', J)) : w_X10_writesName [.inr (.inr 348), .inr (.inl (pk5 w))] (I, J) K := by
  refine ⟨cs8 rfl, c_ci (st_i (L' := [some (.inr (.inr 348)), some (.inr (.inl (pk5 w))), none, some (.inl 35), none]) rfl (c_kil rfl (wnm_lp hw hl hK 8 I 35 (by decide) (by decide) ?_)))⟩
  rw [lt_8 hw.2.1]
  show RM μ0 (I, J) (out ++ [])
  rw [List.append_nil]
  exact h
end
