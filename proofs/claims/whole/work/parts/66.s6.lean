/-! PURE 54: prefixes of queues (for sentIn) -/
/-- the cells of the first n packets -/
def pfx (L : List Pkt) (n : Nat) : Int := sm ((L.take n).map (fun q => q.1))
theorem pfx_0 (L : List Pkt) : pfx L 0 = 0 := rfl
theorem pfx_c (q : Pkt) (t : List Pkt) (n : Nat) : pfx (q :: t) (n + 1) = q.1 + pfx t n := rfl
theorem pfx_nn {L : List Pkt} (h : ∀ y ∈ L, 1 ≤ y.1) (n : Nat) : 0 ≤ pfx L n := sm_nn (fun x hx => by
  obtain ⟨y, hy, rfl⟩ := List.mem_map.mp hx
  have := h y (List.mem_of_mem_take hy)
  omega)
/-- which packets are gone, and what is left ahead of the others -/
theorem sdq_pfx : ∀ (L : List Pkt) (s : Int) (n : Nat), 0 ≤ s → (∀ y ∈ L, 1 ≤ y.1) → n < L.length → (pfx L (n + 1) ≤ s → n + (sdq s L).length < L.length) ∧ (s < pfx L (n + 1) → L.length ≤ n + (sdq s L).length ∧ pfx (sdq s L) (n + (sdq s L).length - L.length + 1) = pfx L (n + 1) - s) := by
  intro L
  induction L with
  | nil => intro s n _ _ hn; exact absurd hn (Nat.not_lt_zero _)
  | cons q t ih =>
    intro s n hs h hn
    have hq := h q List.mem_cons_self
    have ht := fun y hy => h y (List.mem_cons_of_mem q hy)
    have hp := pfx_nn (L := t) ht n
    rw [pfx_c]
    by_cases c : s ≤ 0
    · have s0 : s = 0 := by omega
      subst s0
      rw [sdq_0 (Int.le_refl _)]
      refine ⟨fun z => by omega, fun _ => ⟨by omega, ?_⟩⟩
      rw [show n + (q :: t).length - (q :: t).length + 1 = n + 1 by omega, pfx_c]
      omega
    · by_cases c2 : q.1 ≤ s
      · have e : sdq s (q :: t) = sdq (s - q.1) t := by
          conv => lhs; unfold sdq
          rw [if_neg c, if_pos c2]
        rw [e, List.length_cons]
        cases n with
        | zero =>
          rw [pfx_0]
          have hle : (sdq (s - q.1) t).length ≤ t.length := by
            have : ∀ (M : List Pkt) (u : Int), (sdq u M).length ≤ M.length := by
              intro M
              induction M with
              | nil => intro u; exact Nat.le_refl _
              | cons a M ihM =>
                intro u
                unfold sdq
                split
                · exact Nat.le_refl _
                · split
                  · exact Nat.le_succ_of_le (ihM _)
                  · exact Nat.le_refl _
            exact this t _
          exact ⟨fun _ => by omega, fun z => absurd z (by omega)⟩
        | succ n =>
          rw [List.length_cons] at hn
          obtain ⟨i1, i2⟩ := ih (s - q.1) n (by omega) ht (by omega)
          refine ⟨fun z => ?_, fun z => ?_⟩
          · have := i1 (by omega)
            omega
          · obtain ⟨j1, j2⟩ := i2 (by omega)
            refine ⟨by omega, ?_⟩
            rw [show n + 1 + (sdq (s - q.1) t).length - (t.length + 1) + 1 = n + (sdq (s - q.1) t).length - t.length + 1 by omega, j2]
            omega
      · have e : sdq s (q :: t) = (q.1 - s, q.2) :: t := by
          conv => lhs; unfold sdq
          rw [if_neg c, if_neg c2]
        rw [e]
        refine ⟨fun z => by omega, fun _ => ⟨by rw [List.length_cons, List.length_cons]; omega, ?_⟩⟩
        rw [show n + ((q.1 - s, q.2) :: t).length - (q :: t).length + 1 = n + 1 by rw [List.length_cons, List.length_cons]; omega, pfx_c]
        show q.1 - s + _ = _
        omega
/-- what falls due takes packets from the back alone -/
def PQ (Q Q' : List Pkt) : Prop := ∃ m, Q' = Q.take m
theorem PQ.refl {Q : List Pkt} : PQ Q Q := ⟨Q.length, (List.take_of_length_le (Nat.le_refl _)).symm⟩
theorem PQ.trans {Q Q' Q2 : List Pkt} (h : PQ Q Q') (h' : PQ Q' Q2) : PQ Q Q2 := by
  obtain ⟨m, rfl⟩ := h
  obtain ⟨n, rfl⟩ := h'
  exact ⟨min n m, by rw [List.take_take]⟩
theorem PQ_drn {S : AS} {p : Nat} {r : Int} (q : Nat) : PQ (zQ S q) (zQ (drn S p r) q) := by
  cases h : (zQ S p).getLast? with
  | none =>
    unfold drn
    rw [h]
    exact PQ.refl
  | some x =>
    rw [drn_eq h]
    show PQ _ (if q = p then (zQ S p).dropLast else zQ S q)
    by_cases z : q = p
    · rw [if_pos z, z]
      exact ⟨(zQ S p).length - 1, List.dropLast_eq_take⟩
    · rw [if_neg z]
      exact PQ.refl
theorem PQ_shr {p : Nat} {r : Int} (q : Nat) : ∀ (k : Nat) (S : AS), PQ (zQ S q) (zQ (shr k S p r) q) := by
  intro k
  induction k with
  | zero => intro S; exact PQ.refl
  | succ k ih =>
    intro S
    unfold shr
    split
    · exact PQ.refl
    · exact (PQ_drn q).trans (ih _)
theorem PQ_fls (q : Nat) : ∀ (k : Nat) (S : AS), PQ (zQ S q) (zQ (fls k S) q) := by
  intro k
  induction k with
  | zero => intro S; exact PQ.refl
  | succ k ih =>
    intro S
    cases hm : (zR S)[0]? with
    | none =>
      have e : fls (k + 1) S = S := by
        conv => lhs; unfold fls
        rw [hm]
      rw [e]; exact PQ.refl
    | some m =>
      by_cases hd : m.2.2.2 ≤ zC S
      · rw [fls_s hm hd, tkb_eq hm]
        have e : zQ (les S 0 m.2.2.1) q = zQ S q := by rw [(les_N hm).2.2.2.2.2.2.2.1]
        rw [← e]
        exact (PQ_shr q _ _).trans (ih _)
      · rw [fls_e hm hd]; exact PQ.refl
