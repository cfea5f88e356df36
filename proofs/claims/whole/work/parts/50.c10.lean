/-! PURE 38: a port sends and learns (class) -/
/-- three columns from a on are moved down by n -/
def dc (I : Mi) (a n m : Nat) : Mi := fun e k => if a ≤ e ∧ e < a + 3 ∧ k < m then I e (k + n) else I e k
theorem dc_0 {I : Mi} {a n : Nat} : dc I a n 0 = I := by
  funext e k
  unfold dc
  rw [if_neg (by omega)]
theorem dc_e {I : Mi} {a n m e : Nat} (h : e < a ∨ a + 3 ≤ e) : dc I a n m e = I e := funext fun k => if_neg (by omega)
theorem dc_i {I : Mi} {a n m j k : Nat} (hj : j < 3) (h : k < m) : dc I a n m (a + j) k = I (a + j) (k + n) := if_pos ⟨by omega, by omega, h⟩
theorem dc_o {I : Mi} {a n m e k : Nat} (h : m ≤ k) : dc I a n m e k = I e k := if_neg (by omega)
theorem three {I : Mi} {a t s : Nat} (hts : t ≠ s) : uM (uM (uM I (a + 0) t (I (a + 0) s)) (a + 1) t (uM I (a + 0) t (I (a + 0) s) (a + 1) s)) (a + 2) t (uM (uM I (a + 0) t (I (a + 0) s)) (a + 1) t (uM I (a + 0) t (I (a + 0) s) (a + 1) s) (a + 2) s) = fun e k => if a ≤ e ∧ e < a + 3 ∧ k = t then I e s else I e k := by
  funext e k
  have hs : s ≠ t := fun q => hts q.symm
  simp only [uM_k hs]
  by_cases z : k = t
  · subst z
    by_cases q : a ≤ e ∧ e < a + 3
    · rw [if_pos ⟨q.1, q.2, rfl⟩]
      have hh : e = a + 0 ∨ e = a + 1 ∨ e = a + 2 := by omega
      rcases hh with rfl | rfl | rfl
      · rw [uM_e (by omega), uM_e (by omega)]
        exact uM_s
      · rw [uM_e (by omega), uM_s]
      · rw [uM_s]
    · rw [if_neg (fun y => q ⟨y.1, y.2.1⟩), uM_e (by omega), uM_e (by omega), uM_e (by omega)]
  · rw [if_neg (fun y => z y.2.2), uM_k z, uM_k z, uM_k z]
theorem dc_s {I : Mi} {a n m : Nat} (hn : 1 ≤ n) : (fun e k => if a ≤ e ∧ e < a + 3 ∧ k = m then dc I a n m e (m + n) else dc I a n m e k) = dc I a n (m + 1) := by
  funext e k
  by_cases z : a ≤ e ∧ e < a + 3 ∧ k = m
  · rw [if_pos z, dc_o (by omega)]
    unfold dc
    rw [if_pos ⟨z.1, z.2.1, by omega⟩, z.2.2]
  · rw [if_neg z]
    unfold dc
    by_cases y : a ≤ e ∧ e < a + 3 ∧ k < m
    · rw [if_pos y, if_pos ⟨y.1, y.2.1, by omega⟩]
    · rw [if_neg y, if_neg (fun q => y ⟨q.1, q.2.1, by
        have : k ≠ m := fun r => z ⟨q.1, q.2.1, r⟩
        omega⟩)]
theorem removeFirst_lp {I J : Mi} {K : Option AV → MM → Prop} {q n w : Nat} (hq : isK q 2) (hA : ∀ j, j < 3 → isK (q + 1 + j) 11 ∧ ln (q + 1 + j) = 240) (hw : I q 11 = (w : Int)) (hw2 : w ≤ 240) (hn : 1 ≤ n) (hnw : n ≤ w) (hK : K none (uM (dc I (q + 1) n (w - n)) q 11 ((w : Int) - n), J)) : ∀ k m : Nat, n + m + k = w → B_X2_removeFirst_7 K [some (.inr (.inr q)), some (.inl (n : Int)), some (.inl ((n + m : Nat) : Int))] [] (dc I (q + 1) n m, J) := by
  have e11 : ∀ m, dc I (q + 1) n m q 11 = (w : Int) := fun m => by rw [dc_e (by omega)]; exact hw
  intro k
  induction k with
  | zero =>
    intro m hm
    have : m = w - n := by omega
    subst this
    refine lfp_in ⟨hq, ?_⟩
    show o_icmp_ge _ _ _ [.inl (dc I (q + 1) n (w - n) q 11), _] _
    rw [e11]
    refine ⟨⟨by omega, by omega⟩, ⟨by omega, by omega⟩, fun _ => ⟨hq, hq, ?_⟩, fun z => absurd (by omega) z⟩
    show K none (uM (dc I (q + 1) n (w - n)) q 11 (dc I (q + 1) n (w - n) q 11 - n), J)
    rw [e11]
    exact hK
  | succ k ih =>
    intro m hm
    have a0 := hA 0 (by decide)
    have a1 := hA 1 (by decide)
    have a2 := hA 2 (by decide)
    have l1 : ∀ j, j < 3 → ((n + m : Nat) : Int) < ((ln (q + 1 + j) : Nat) : Int) := fun j hj => by rw [(hA j hj).2]; omega
    have l2 : ∀ j, j < 3 → ((n + m : Nat) : Int) - n < ((ln (q + 1 + j) : Nat) : Int) := fun j hj => by rw [(hA j hj).2]; omega
    refine lfp_in ⟨hq, ?_⟩
    show o_icmp_ge _ _ _ [.inl (dc I (q + 1) n m q 11), _] _
    rw [e11]
    refine ⟨⟨by omega, by omega⟩, ⟨by omega, by omega⟩, fun z => absurd z (by omega), fun _ => ⟨hq, hq, a0.1, by omega, l1 0 (by decide), a0.1, by show (0 : Int) ≤ ((n + m : Nat) : Int) - n; omega, l2 0 (by decide), hq, hq, a1.1, by omega, l1 1 (by decide), a1.1, by show (0 : Int) ≤ ((n + m : Nat) : Int) - n; omega, l2 1 (by decide), hq, hq, a2.1, by omega, l1 2 (by decide), a2.1, by show (0 : Int) ≤ ((n + m : Nat) : Int) - n; omega, l2 2 (by decide), ?_⟩⟩
    have key := ih (m + 1) (by omega)
    rw [← dc_s hn, ← three (I := dc I (q + 1) n m) (a := q + 1) (t := m) (s := m + n) (by omega)] at key
    have e1 : (((n + m : Nat) : Int) - (n : Int)).toNat = m := by omega
    have e2 : m + n = ((n + m : Nat) : Int).toNat := by omega
    rw [e2] at key
    show B_X2_removeFirst_7 K _ [] (uM (uM (uM (dc I (q + 1) n m) (q + 1 + 0) (((n + m : Nat) : Int) - (n : Int)).toNat _) (q + 1 + 1) (((n + m : Nat) : Int) - (n : Int)).toNat _) (q + 1 + 2) (((n + m : Nat) : Int) - (n : Int)).toNat _, J)
    rw [e1]
    exact key
theorem Q_removeFirst {I J : Mi} {K : Option AV → MM → Prop} {q w : Nat} (n : Nat) (hq : isK q 2) (hA : ∀ j, j < 3 → isK (q + 1 + j) 11 ∧ ln (q + 1 + j) = 240) (hw : I q 11 = (w : Int)) (hw2 : w ≤ 240) (hnw : n ≤ w) (hK : ∀ I', (∀ a, a ≠ q → (a < q + 1 ∨ q + 4 ≤ a) → I' a = I a) → (∀ k, k ≠ 11 → I' q k = I q k) → I' q 11 = (w : Int) - n → (∀ j k, j < 3 → k < w - n → I' (q + 1 + j) k = I (q + 1 + j) (k + n)) → K none (I', J)) : w_X2_removeFirst [.inr (.inr q), .inl (n : Int)] (I, J) K := by
  refine ⟨cs8 rfl, ⟨by omega, by omega⟩, fun z => ?_, fun z => ?_⟩
  · have key := removeFirst_lp (J := J) (K := K) (n := n) hq hA hw hw2 (by omega) hnw (hK _ (fun a h1 h2 => ?_) (fun k hk => ?_) uM_s (fun j k hj hk => ?_)) (w - n) 0 (by omega)
    · rw [dc_0] at key
      exact key
    · rw [uM_r h1, dc_e (by omega)]
    · rw [uM_k hk, dc_e (by omega)]
    · rw [uM_e (by omega), dc_i hj hk]
  · have hn0 : n = 0 := by omega
    subst hn0
    exact hK I (fun _ _ _ => rfl) (fun _ _ => rfl) (by rw [hw]; omega) (fun _ _ _ _ => rfl)
theorem sdq_at : ∀ (L : List Pkt) (s : Int) (k : Nat) (x : Pkt), (sdq s L)[k]? = some x → ∃ y, L[L.length - (sdq s L).length + k]? = some y ∧ y.2 = x.2 := by
  intro L
  induction L with
  | nil => intro s k x h; cases h
  | cons q t ih =>
    intro s k x h
    unfold sdq at h ⊢
    split at h
    · rename_i c
      rw [if_pos c, Nat.sub_self, Nat.zero_add]
      exact ⟨x, h, rfl⟩
    · rename_i c
      rw [if_neg c]
      split at h
      · rename_i c2
        rw [if_pos c2]
        obtain ⟨y, hy, hy2⟩ := ih (s - q.1) k x h
        have hk := (List.getElem?_eq_some_iff.mp hy).1
        have hle : (sdq (s - q.1) t).length ≤ t.length ∨ t.length < (sdq (s - q.1) t).length := by omega
        rcases hle with hle | hle
        · refine ⟨y, ?_, hy2⟩
          rw [List.length_cons, show t.length + 1 - (sdq (s - q.1) t).length + k = (t.length - (sdq (s - q.1) t).length + k) + 1 by omega, List.getElem?_cons_succ]
          exact hy
        · exfalso
          have : ∀ (M : List Pkt) (u : Int), (sdq u M).length ≤ M.length := by
            intro M
            induction M with
            | nil => intro u; exact Nat.le_refl _
            | cons a M ihM =>
              intro u
              unfold sdq
              split
              · exact Nat.le_refl _
              · split
                · exact Nat.le_succ_of_le (ihM _)
                · exact Nat.le_refl _
          have := this t (s - q.1)
          omega
      · rename_i c2
        rw [if_neg c2, List.length_cons, List.length_cons, Nat.sub_self, Nat.zero_add]
        cases k with
        | zero =>
          cases h
          exact ⟨q, rfl, rfl⟩
        | succ k => exact ⟨x, h, rfl⟩
theorem sendFirst_lp {J : Mi} {K : Option AV → MM → Prop} {q : Nat} {Q : List Pkt} {x1 : Option AV} (hq : isK q 2) (hA : ∀ j, j < 3 → isK (q + 1 + j) 11 ∧ ln (q + 1 + j) = 240) (hQ : Q.length ≤ 240) (hQ1 : ∀ y ∈ Q, 1 ≤ y.1 ∧ y.1 ≤ 40) : ∀ (k i : Nat) (s : Int) (I : Mi), i + k = Q.length → 0 ≤ s ∧ s ≤ 9 → I q 11 = (Q.length : Int) → (∀ (j : Nat) (y : Pkt), i ≤ j → Q[j]? = some y → I (q + 1 + 0) j = y.1) → (∀ (I' : Mi) (wh : Nat), (∀ a, a ≠ q + 1 + 0 → I' a = I a) → wh + (sdq s (Q.drop i)).length = Q.length → (∀ (j : Nat) (y : Pkt), (sdq s (Q.drop i))[j]? = some y → I' (q + 1 + 0) (wh + j) = y.1) → B_X2_sendFirst_94 K [some (.inr (.inr q)), none, some (.inl (wh : Int)), none, none] [] (I', J)) → B_X2_sendFirst_36 K [some (.inr (.inr q)), some (.inl s), some (.inl (i : Int)), some (.inl (i : Int)), none] [] (I, J) := by
  have a0 := hA 0 (by decide)
  intro k
  induction k with
  | zero =>
    intro i s I hi hs h11 hr hK
    have hd : Q.drop i = [] := List.drop_eq_nil_of_le (by omega)
    rw [hd] at hK
    refine lfp_in ⟨hq, ?_⟩
    show o_icmp_ge _ _ _ [.inl (I q 11), _] _
    rw [h11]
    refine ⟨⟨by omega, by omega⟩, ⟨by omega, by omega⟩, fun _ => ?_, fun z => absurd (by omega) z⟩
    exact hK I i (fun _ _ => rfl) (by show i + 0 = Q.length; omega) (fun j y hy => by cases hy)
  | succ k ih =>
    intro i s I hi hs h11 hr hK
    obtain ⟨y, hy⟩ : ∃ y, Q[i]? = some y := ⟨Q[i]'(by omega), List.getElem?_eq_getElem (by omega)⟩
    have hy1 := hQ1 y (List.mem_of_getElem? hy)
    have hv := hr i y (Nat.le_refl _) hy
    have hdr : Q.drop i = y :: Q.drop (i + 1) := by
      obtain ⟨b1, b2⟩ := List.getElem?_eq_some_iff.mp hy
      rw [List.drop_eq_getElem_cons b1, b2]
    have hdl : (Q.drop i).length = Q.length - i := List.length_drop
    have il : (i : Int) < ((ln (q + 1 + 0) : Nat) : Int) := by rw [a0.2]; omega
    refine lfp_in ⟨hq, ?_⟩
    show o_icmp_ge _ _ _ [.inl (I q 11), _] _
    rw [h11]
    refine ⟨⟨by omega, by omega⟩, ⟨by omega, by omega⟩, fun z => absurd z (by omega), fun _ => ⟨⟨by omega, by omega⟩, fun z => ?_, fun z => ⟨hq, a0.1, by omega, il, ?_⟩⟩⟩
    · rw [sdq_0 z] at hK
      exact hK I i (fun _ _ => rfl) (by omega) (fun j x hx => by
        rw [List.getElem?_drop] at hx
        exact hr (i + j) x (by omega) hx)
    show o_mmin _ _ [.inl (I (q + 1 + 0) i), .inl s] (I, J)
    rw [hv]
    refine ⟨⟨by omega, by omega⟩, ⟨by omega, by omega⟩, cs8 rfl, ?_⟩
    show o_istore 4 _ _ [.inl (min s y.1)] (I, J)
    refine ⟨hq, a0.1, by omega, il, a0.1, by omega, il, hq, a0.1, by omega, il, ?_⟩
    show o_if_ne _ _ _ [.inl (uM I (q + 1 + 0) i (I (q + 1 + 0) i - min s y.1) (q + 1 + 0) i)] (uM I (q + 1 + 0) i (I (q + 1 + 0) i - min s y.1), J)
    rw [uM_s, hv]
    have h11' : ∀ v, uM I (q + 1 + 0) i v q 11 = (Q.length : Int) := fun v => by rw [uM_e (by omega)]; exact h11
    refine ⟨⟨by omega, by omega⟩, fun z0 => ?_, fun z0 => ?_⟩
    · -- in part
      have hlt : s < y.1 := by omega
      have e : sdq s (Q.drop i) = (y.1 - s, y.2) :: Q.drop (i + 1) := by
        rw [hdr]
        unfold sdq
        rw [if_neg z, if_neg (by omega)]
      have hmin : min s y.1 = s := by omega
      rw [e] at hK
      have fin := hK (uM I (q + 1 + 0) i (y.1 - s)) i (fun a ha => uM_r ha) (by rw [List.length_cons, List.length_drop]; omega) (fun j x hx => by
        cases j with
        | zero => cases hx; exact uM_s
        | succ j =>
          rw [List.getElem?_cons_succ, List.getElem?_drop] at hx
          rw [uM_k (by omega)]
          exact hr (i + (j + 1)) x (by omega) (by rw [← hx]; congr 1; omega))
      have key : B_X2_sendFirst_36 K [some (.inr (.inr q)), some (.inl 0), some (.inl (i : Int)), some (.inl ((i + 1 : Nat) : Int)), none] [] (uM I (q + 1 + 0) i (y.1 - s), J) := by
        refine lfp_in ⟨hq, ?_⟩
        show o_icmp_ge _ _ _ [.inl (uM I (q + 1 + 0) i (y.1 - s) q 11), _] _
        rw [h11']
        exact ⟨⟨by omega, by omega⟩, ⟨by omega, by omega⟩, fun _ => fin, fun _ => ⟨⟨by omega, by omega⟩, fun _ => fin, fun z => absurd (by decide) z⟩⟩
      rw [hmin]
      rw [show (0 : Int) = s - min s y.1 by omega] at key
      rw [hmin] at key
      exact key
    · -- whole
      have hge : y.1 ≤ s := by omega
      have hmin : min s y.1 = y.1 := by omega
      have e : sdq s (Q.drop i) = sdq (s - y.1) (Q.drop (i + 1)) := by
        rw [hdr]
        conv => lhs; unfold sdq
        rw [if_neg z, if_pos hge]
      rw [e] at hK
      have key := ih (i + 1) (s - y.1) (uM I (q + 1 + 0) i (y.1 - y.1)) (by omega) (by omega) (h11' _) (fun j x hj hx => by rw [uM_k (by omega)]; exact hr j x (by omega) hx) (fun I' wh b1 b2 b3 => hK I' wh (fun a ha => (b1 a ha).trans (uM_r ha)) b2 b3)
      rw [hmin]
      exact key
