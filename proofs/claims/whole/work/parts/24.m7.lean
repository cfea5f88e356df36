/-! PURE 12: the model's changes: the ledger, packets -/
theorem uS {I : Mi} {k j : Nat} {v : Int} : uM I 349 k v 348 j = I 348 j := uM_e (by decide)
/-- a stretch of the model's numbers moved down -/
def sd (I : Mi) (lo hi d : Nat) : Mi := fun e k => if e = 349 ∧ lo ≤ k ∧ k < hi then I e (k + d) else I e k
def su (I : Mi) (lo hi d : Nat) : Mi := fun e k => if e = 349 ∧ lo + d ≤ k ∧ k < hi + d then I e (k - d) else I e k
theorem sd_0 {I : Mi} {lo d : Nat} : sd I lo lo d = I := by
  funext e k
  unfold sd
  rw [if_neg (by omega)]
theorem su_0 {I : Mi} {lo d : Nat} : su I lo lo d = I := by
  funext e k
  unfold su
  rw [if_neg (by omega)]
theorem sd_s {I : Mi} {lo m d : Nat} (h : lo ≤ m) (hd : 1 ≤ d) : uM (sd I lo m d) 349 m (sd I lo m d 349 (m + d)) = sd I lo (m + 1) d := by
  funext e k
  unfold uM
  split
  · rename_i q
    obtain ⟨rfl, rfl⟩ := q
    unfold sd
    rw [if_neg (by omega), if_pos ⟨rfl, by omega, by omega⟩]
  · rename_i q
    unfold sd
    by_cases z : e = 349 ∧ lo ≤ k ∧ k < m
    · rw [if_pos z, if_pos ⟨z.1, z.2.1, by omega⟩]
    · rw [if_neg z, if_neg (fun y => z ⟨y.1, y.2.1, by
        have : k ≠ m := fun y2 => q ⟨y.1, y2⟩
        omega⟩)]
theorem su_s {I : Mi} {m hi d : Nat} (h : m < hi) (hd : 1 ≤ d) : uM (su I (m + 1) hi d) 349 (m + d) (su I (m + 1) hi d 349 m) = su I m hi d := by
  funext e k
  unfold uM
  split
  · rename_i q
    obtain ⟨rfl, rfl⟩ := q
    unfold su
    rw [if_neg (by omega), if_pos ⟨rfl, by omega, by omega⟩, show m + d - d = m by omega]
  · rename_i q
    unfold su
    by_cases z : e = 349 ∧ m + 1 + d ≤ k ∧ k < hi + d
    · rw [if_pos z, if_pos ⟨z.1, by omega, z.2.2⟩]
    · rw [if_neg z, if_neg (fun y => z ⟨y.1, by
        have : k ≠ m + d := fun y2 => q ⟨y.1, y2⟩
        omega, y.2.2⟩)]
theorem sdS {I : Mi} {lo hi d j : Nat} : sd I lo hi d 348 j = I 348 j := if_neg (fun h => absurd h.1 (by decide))
theorem suS {I : Mi} {lo hi d j : Nat} : su I lo hi d 348 j = I 348 j := if_neg (fun h => absurd h.1 (by decide))
theorem sd_i {I : Mi} {lo hi d k : Nat} (h1 : lo ≤ k) (h2 : k < hi) : sd I lo hi d 349 k = I 349 (k + d) := if_pos ⟨rfl, h1, h2⟩
theorem sd_o {I : Mi} {lo hi d k : Nat} (h : k < lo ∨ hi ≤ k) : sd I lo hi d 349 k = I 349 k := if_neg (by omega)
theorem su_i {I : Mi} {lo hi d k : Nat} (h1 : lo + d ≤ k) (h2 : k < hi + d) : su I lo hi d 349 k = I 349 (k - d) := if_pos ⟨rfl, h1, h2⟩
theorem su_o {I : Mi} {lo hi d k : Nat} (h : k < lo + d ∨ hi + d ≤ k) : su I lo hi d 349 k = I 349 k := if_neg (by omega)
theorem sd_e {I : Mi} {lo hi d e : Nat} (h : e ≠ 349) : sd I lo hi d e = I e := funext fun k => if_neg (fun q => h q.1)
theorem su_e {I : Mi} {lo hi d e : Nat} (h : e ≠ 349) : su I lo hi d e = I e := funext fun k => if_neg (fun q => h q.1)
theorem FM.refl {b : Nat} {μ : MM} : FM b μ μ := ⟨fun _ _ => rfl, fun _ _ => rfl, rfl⟩
theorem FM.trans {b : Nat} {μ μ1 μ2 : MM} (h : FM b μ μ1) (h' : FM b μ1 μ2) : FM b μ μ2 := ⟨fun e he => (h'.1 e he).trans (h.1 e he), fun k hk => (h'.2.1 k hk).trans (h.2.1 k hk), h'.2.2.trans h.2.2⟩
theorem Q_of {I J : Mi} {K : Option AV → MM → Prop} {o : Nat} {x : Int} (w : Nat) (h : I 348 3 = o) (hx : x = w) (hb : o + w < 20800) (hK : K (some (.inl (I 349 (o + w)))) (I, J)) : w_X10_of [.inr (.inr 348), .inl x] (I, J) K := P_X10_of (μ := (I, J)) w h hx hb hK
theorem Q_set {I J : Mi} {K : Option AV → MM → Prop} {o : Nat} {x v : Int} (w : Nat) (h : I 348 3 = o) (hx : x = w) (hb : o + w < 20800) (hK : K none (uM I 349 (o + w) v, J)) : w_X10_set [.inr (.inr 348), .inl x, .inl v] (I, J) K := P_X10_set (μ := (I, J)) w h hx hb hK
theorem Q_grows {I J : Mi} {K : Option AV → MM → Prop} {o : Nat} {x v : Int} (w : Nat) (h : I 348 3 = o) (hx : x = w) (hb : o + w < 20800) (hK : K none (uM I 349 (o + w) (I 349 (o + w) + v), J)) : w_X10_grows [.inr (.inr 348), .inl x, .inl v] (I, J) K := P_X10_grows (μ := (I, J)) w h hx hb hK
theorem Q_p {I J : Mi} {K : Option AV → MM → Prop} {o : Nat} {x y : Int} (p j : Nat) (h : I 348 3 = o) (hx : x = p) (hy : y = j) (hb : o + 12 + 8 * p + j < 20800) (hK : K (some (.inl (I 349 (o + 12 + 8 * p + j)))) (I, J)) : w_X10_p [.inr (.inr 348), .inl x, .inl y] (I, J) K := P_X10_p (μ := (I, J)) p j h hx hy hb hK
theorem Q_k {I J : Mi} {K : Option AV → MM → Prop} {o : Nat} {x y : Int} (p j : Nat) (h : I 348 3 = o) (hx : x = p) (hy : y = j) (hb : o + 60 + 4 * p + j < 20800) (hK : K (some (.inl (I 349 (o + 60 + 4 * p + j)))) (I, J)) : w_X10_k [.inr (.inr 348), .inl x, .inl y] (I, J) K := P_X10_k (μ := (I, J)) p j h hx hy hb hK
theorem Q_m {I J : Mi} {K : Option AV → MM → Prop} {o : Nat} {x y : Int} (p j : Nat) (h : I 348 3 = o) (hx : x = p) (hy : y = j) (hb : o + 1020 + 4 * p + j < 20800) (hK : K (some (.inl (I 349 (o + 1020 + 4 * p + j)))) (I, J)) : w_X10_m [.inr (.inr 348), .inl x, .inl y] (I, J) K := P_X10_m (μ := (I, J)) p j h hx hy hb hK
theorem Q_setP {I J : Mi} {K : Option AV → MM → Prop} {o : Nat} {x y v : Int} (p j : Nat) (h : I 348 3 = o) (hx : x = p) (hy : y = j) (hb : o + 12 + 8 * p + j < 20800) (hK : K none (uM I 349 (o + 12 + 8 * p + j) v, J)) : w_X10_setP [.inr (.inr 348), .inl x, .inl y, .inl v] (I, J) K := P_X10_setP (μ := (I, J)) p j h hx hy hb hK
theorem Q_growsP {I J : Mi} {K : Option AV → MM → Prop} {o : Nat} {x y v : Int} (p j : Nat) (h : I 348 3 = o) (hx : x = p) (hy : y = j) (hb : o + 12 + 8 * p + j < 20800) (hK : K none (uM I 349 (o + 12 + 8 * p + j) (I 349 (o + 12 + 8 * p + j) + v), J)) : w_X10_growsP [.inr (.inr 348), .inl x, .inl y, .inl v] (I, J) K := P_X10_growsP (μ := (I, J)) p j h hx hy hb hK

/-- the five writings and five countings of a drop -/
theorem notes_56 {μ : MM} {K : Option AV → MM → Prop} {o n p r : Nat} {c : Int} (ho : μ.1 348 3 = o) (hob : o ≤ 18720) (hn : μ.1 349 (o + 8) = n) (hn19 : n ≤ 19) (hp : p < 6) (hr : 1 ≤ r ∧ r ≤ 3)
    (hK : ∀ I' : Mi, (∀ e, e ≠ 349 → I' e = μ.1 e) → I' 349 (o + 1980 + 5 * n) = p → I' 349 (o + 1980 + 5 * n + 1) = c → I' 349 (o + 1980 + 5 * n + 2) = r → I' 349 (o + 1980 + 5 * n + 3) = p → I' 349 (o + 1980 + 5 * n + 4) = μ.1 349 (o + 3) → I' 349 (o + 8) = n + 1 → I' 349 (o + 4) = μ.1 349 (o + 4) + 1 → I' 349 (o + 8 + r) = μ.1 349 (o + 8 + r) + 1 → I' 349 (o + 12 + 8 * p + 4) = μ.1 349 (o + 12 + 8 * p + 4) + 1 → I' 349 (o + 12 + 8 * p + 6) = μ.1 349 (o + 12 + 8 * p + 6) + c → (∀ k, ¬ (o + 1980 + 5 * n ≤ k ∧ k ≤ o + 1980 + 5 * n + 4) → k ≠ o + 8 → k ≠ o + 4 → k ≠ o + 8 + r → k ≠ o + 12 + 8 * p + 4 → k ≠ o + 12 + 8 * p + 6 → I' 349 k = μ.1 349 k) → K none (I', μ.2)) :
    B_X10_notes_56 K [some (.inr (.inr 348)), some (.inl (p : Int)), some (.inl c), some (.inl (r : Int)), some (.inl (p : Int)), none] [] μ := by
  refine ⟨hM, cs8 rfl, Q_of 8 ho rfl (by omega) ?_⟩
  rw [hn]
  refine ⟨hM, cs8 rfl, Q_set (1980 + 5 * n) ho (by omega) (by omega) ⟨hM, cs8 rfl, Q_set (1980 + 5 * n + 1) (by simp only [uS, sdS, suS]; exact ho) (by omega) (by omega) ⟨hM, cs8 rfl, Q_set (1980 + 5 * n + 2) (by simp only [uS, sdS, suS]; exact ho) (by omega) (by omega) ⟨hM, cs8 rfl, Q_set (1980 + 5 * n + 3) (by simp only [uS, sdS, suS]; exact ho) (by omega) (by omega) ⟨hM, cs8 rfl, Q_of 3 (by simp only [uS, sdS, suS]; exact ho) rfl (by omega) ⟨hM, cs8 rfl, Q_set (1980 + 5 * n + 4) (by simp only [uS, sdS, suS]; exact ho) (by omega) (by omega) ⟨hM, cs8 rfl, Q_grows 8 (by simp only [uS, sdS, suS]; exact ho) rfl (by omega) ⟨hM, cs8 rfl, Q_grows 4 (by simp only [uS, sdS, suS]; exact ho) rfl (by omega) ⟨hM, cs8 rfl, Q_grows (8 + r) (by simp only [uS, sdS, suS]; exact ho) (by omega) (by omega) ⟨hM, cs8 rfl, Q_growsP p 4 (by simp only [uS, sdS, suS]; exact ho) rfl rfl (by omega) ⟨hM, cs8 rfl, Q_growsP p 6 (by simp only [uS, sdS, suS]; exact ho) rfl rfl (by omega) ?_⟩⟩⟩⟩⟩⟩⟩⟩⟩⟩⟩
  refine hK _ ?_ ?_ ?_ ?_ ?_ ?_ ?_ ?_ ?_ ?_ ?_ ?_
  · intro e he
    repeat rw [uM_r he]
  · repeat rw [uM_k (by omega)]
    rw [show o + 1980 + 5 * n = o + (1980 + 5 * n) by omega, uM_s]
  · repeat rw [uM_k (by omega)]
    rw [show o + 1980 + 5 * n + 1 = o + (1980 + 5 * n + 1) by omega, uM_s]
  · repeat rw [uM_k (by omega)]
    rw [show o + 1980 + 5 * n + 2 = o + (1980 + 5 * n + 2) by omega, uM_s]
  · repeat rw [uM_k (by omega)]
    rw [show o + 1980 + 5 * n + 3 = o + (1980 + 5 * n + 3) by omega, uM_s]
  · repeat rw [uM_k (by omega)]
    rw [show o + 1980 + 5 * n + 4 = o + (1980 + 5 * n + 4) by omega, uM_s]
    repeat rw [uM_k (by omega)]
  · repeat rw [uM_k (by omega)]
    rw [uM_s]
    repeat rw [uM_k (by omega)]
    rw [hn]
  · repeat rw [uM_k (by omega)]
    rw [uM_s]
    repeat rw [uM_k (by omega)]
  · repeat rw [uM_k (by omega)]
    rw [show o + 8 + r = o + (8 + r) by omega, uM_s]
    repeat rw [uM_k (by omega)]
  · repeat rw [uM_k (by omega)]
    rw [uM_s]
    repeat rw [uM_k (by omega)]
  · rw [uM_s]
    repeat rw [uM_k (by omega)]
  · intro k h1 h2 h3 h4 h5 h6
    repeat rw [uM_k (by omega)]
theorem notes_lp {μ : MM} {K : Option AV → MM → Prop} {o p : Nat} {c r : Int} (ho : μ.1 348 3 = o) (hob : o ≤ 18720) (hK : ∀ (v : Option AV), B_X10_notes_56 K [some (.inr (.inr 348)), some (.inl (p : Int)), some (.inl c), some (.inl r), some (.inl (p : Int)), none] [] (uM (sd μ.1 (o + 1980) (o + 2075) 5) 349 (o + 8) (μ.1 349 (o + 8) + -1), μ.2)) : ∀ k i : Nat, i + k = 95 → B_X10_notes_14 K [some (.inr (.inr 348)), some (.inl (p : Int)), some (.inl c), some (.inl r), some (.inl (p : Int)), some (.inl (i : Int))] [] (sd μ.1 (o + 1980) (o + 1980 + i) 5, μ.2) := by
  intro k
  induction k with
  | zero =>
    intro i hi
    have : i = 95 := by omega
    subst this
    refine lfp_in ⟨⟨by omega, by omega⟩, ⟨by omega, by omega⟩, fun _ => ⟨hM, cs8 rfl, Q_grows 8 (sdS.trans ho) rfl (by omega) ?_⟩, fun q => absurd (by decide) q⟩
    have key := hK none
    have e : sd μ.1 (o + 1980) (o + 2075) 5 349 (o + 8) = μ.1 349 (o + 8) := sd_o (by omega)
    rw [← e] at key
    exact key
  | succ k ih =>
    intro i hi
    refine lfp_in ⟨⟨by omega, by omega⟩, ⟨by omega, by omega⟩, fun q => absurd q (by omega), fun _ => ⟨hM, cs8 rfl, Q_of (1980 + i + 5) (sdS.trans ho) (by omega) (by omega) ⟨hM, cs8 rfl, Q_set (1980 + i) (sdS.trans ho) (by omega) (by omega) ?_⟩⟩⟩
    have key := ih (i + 1) (by omega)
    have e := sd_s (I := μ.1) (lo := o + 1980) (m := o + 1980 + i) (d := 5) (by omega) (by omega)
    rw [show o + 1980 + (i + 1) = o + 1980 + i + 1 by omega, ← e, show o + 1980 + i = o + (1980 + i) by omega, show o + (1980 + i) + 5 = o + (1980 + i + 5) by omega] at key
    rw [show o + 1980 + i = o + (1980 + i) by omega]
    exact key
