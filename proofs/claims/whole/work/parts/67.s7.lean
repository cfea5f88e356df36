/-! PURE 55: a tick at one port (for sentIn) -/
theorem sal_p1 {S : AS} {p : Nat} : ∀ k j, j ≠ 7 → zP (sal k S) p j = zP S p j := by
  intro k
  induction k with
  | zero => intro j _; rfl
  | succ k ih =>
    intro j hj
    show uM (zP (sal k S)) k 7 _ p j = _
    rw [uM_k hj]
    exact ih j hj
theorem sal_at {S : AS} {p : Nat} : ∀ k, (k ≤ p → zQ (sal k S) p = zQ S p ∧ zP (sal k S) p 7 = zP S p 7) ∧ (p < k → zQ (sal k S) p = sdq (zP S p 1) (zQ S p) ∧ zP (sal k S) p 7 = zP S p 7 + (if zP S p 1 < usd S p then zP S p 1 else usd S p)) := by
  intro k
  induction k with
  | zero => exact ⟨fun _ => ⟨rfl, rfl⟩, fun h => absurd h (Nat.not_lt_zero _)⟩
  | succ k ih =>
    refine ⟨fun h => ?_, fun h => ?_⟩
    · obtain ⟨a, b⟩ := ih.1 (by omega)
      refine ⟨(sal_le k (by omega)).trans a, ?_⟩
      show uM (zP (sal k S)) k 7 _ p 7 = _
      rw [uM_e (by omega)]
      exact b
    · by_cases z : p = k
      · subst z
        obtain ⟨a, b⟩ := ih.1 (Nat.le_refl _)
        have hu : usd (sal p S) p = usd S p := by
          show sm ((zQ (sal p S) p).map _) = _
          rw [a]
          rfl
        have h1 : zP (sal p S) p 1 = zP S p 1 := sal_p1 p 1 (by decide)
        refine ⟨?_, ?_⟩
        · show (if p = p then sdq (zP (sal p S) p 1) (zQ (sal p S) p) else _) = _
          rw [if_pos rfl, h1, a]
        · show uM (zP (sal p S)) p 7 (zP (sal p S) p 7 + (if zP (sal p S) p 1 < usd (sal p S) p then zP (sal p S) p 1 else usd (sal p S) p)) p 7 = _
          rw [uM_s, h1, hu, b]
      · obtain ⟨a, b⟩ := ih.2 (by omega)
        refine ⟨(sal_le k z).trans a, ?_⟩
        show uM (zP (sal k S)) k 7 _ p 7 = _
        rw [uM_e (by omega)]
        exact b
theorem pfx_take {L : List Pkt} {m n : Nat} (h : n ≤ m) : pfx (L.take m) n = pfx L n := by
  unfold pfx
  rw [List.take_take, Nat.min_eq_left h]
theorem pfx_all (L : List Pkt) (n : Nat) (h : L.length ≤ n) : pfx L n = sm (L.map (fun q => q.1)) := by
  unfold pfx
  rw [List.take_of_length_le h]
theorem pfx_mono {L : List Pkt} (h : ∀ y ∈ L, 1 ≤ y.1) : ∀ (n : Nat), pfx L n ≤ pfx L (n + 1) ∧ (n < L.length → pfx L n + 1 ≤ pfx L (n + 1)) := by
  induction L with
  | nil => intro n; exact ⟨by rw [pfx_all [] n (Nat.zero_le _), pfx_all [] (n + 1) (Nat.zero_le _)]; exact Int.le_refl _, fun q => absurd q (Nat.not_lt_zero _)⟩
  | cons q t ih =>
    intro n
    have hq := h q List.mem_cons_self
    have ht := fun y hy => h y (List.mem_cons_of_mem q hy)
    cases n with
    | zero =>
      rw [pfx_0, pfx_c, pfx_0]
      exact ⟨by omega, fun _ => by omega⟩
    | succ n =>
      obtain ⟨a, b⟩ := ih ht n
      rw [pfx_c, pfx_c]
      refine ⟨by omega, fun z => ?_⟩
      rw [List.length_cons] at z
      have := b (by omega)
      omega
theorem pfx_le {L : List Pkt} (h : ∀ y ∈ L, 1 ≤ y.1) {m n : Nat} (hmn : m ≤ n) : pfx L m ≤ pfx L n := by
  induction n with
  | zero =>
    have : m = 0 := by omega
    subst this
    exact Int.le_refl _
  | succ n ih =>
    by_cases z : m = n + 1
    · rw [z]; exact Int.le_refl _
    · exact Int.le_trans (ih (by omega)) (pfx_mono h n).1
