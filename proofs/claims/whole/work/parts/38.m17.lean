/-! PURE 26: blocks are copied (model) -/
def cpI (I : Mi) (f t n : Nat) : Mi := fun e k => if e = 349 ∧ 2080 * t ≤ k ∧ k < 2080 * t + n then I 349 (k - 2080 * t + 2080 * f) else I e k
def cpJ (J : Mi) (f t n : Nat) : Mi := fun e k => if e = 350 ∧ 6 * t ≤ k ∧ k < 6 * t + n then J 350 (k - 6 * t + 6 * f) else J e k
theorem cpI_0 {I : Mi} {f t : Nat} : cpI I f t 0 = I := by
  funext e k
  unfold cpI
  rw [if_neg (by omega)]
theorem cpJ_0 {J : Mi} {f t : Nat} : cpJ J f t 0 = J := by
  funext e k
  unfold cpJ
  rw [if_neg (by omega)]
theorem cpI_i {I : Mi} {f t n k : Nat} (h : k < n) : cpI I f t n 349 (2080 * t + k) = I 349 (2080 * f + k) := by
  unfold cpI
  rw [if_pos ⟨rfl, by omega, by omega⟩, show 2080 * t + k - 2080 * t + 2080 * f = 2080 * f + k by omega]
theorem cpI_o {I : Mi} {f t n k : Nat} (h : k < 2080 * t ∨ 2080 * t + n ≤ k) : cpI I f t n 349 k = I 349 k := if_neg (by omega)
theorem cpI_e {I : Mi} {f t n e : Nat} (h : e ≠ 349) : cpI I f t n e = I e := funext fun k => if_neg (fun q => h q.1)
theorem cpJ_i {J : Mi} {f t n k : Nat} (h : k < n) : cpJ J f t n 350 (6 * t + k) = J 350 (6 * f + k) := by
  unfold cpJ
  rw [if_pos ⟨rfl, by omega, by omega⟩, show 6 * t + k - 6 * t + 6 * f = 6 * f + k by omega]
theorem cpJ_o {J : Mi} {f t n k : Nat} (h : k < 6 * t ∨ 6 * t + n ≤ k) : cpJ J f t n 350 k = J 350 k := if_neg (by omega)
theorem cpJ_e {J : Mi} {f t n e : Nat} (h : e ≠ 350) : cpJ J f t n e = J e := funext fun k => if_neg (fun q => h q.1)
theorem cpI_s {I : Mi} {f t n : Nat} (h : f ≠ t) (hn : n < 2080) : uM (cpI I f t n) 349 (2080 * t + n) (cpI I f t n 349 (2080 * f + n)) = cpI I f t (n + 1) := by
  funext e k
  unfold uM
  split
  · rename_i q
    obtain ⟨rfl, rfl⟩ := q
    rw [cpI_i (by omega), cpI_o (by omega)]
  · rename_i q
    unfold cpI
    by_cases z : e = 349 ∧ 2080 * t ≤ k ∧ k < 2080 * t + n
    · rw [if_pos z, if_pos ⟨z.1, z.2.1, by omega⟩]
    · rw [if_neg z, if_neg (fun y => z ⟨y.1, y.2.1, by
        have : k ≠ 2080 * t + n := fun y2 => q ⟨y.1, y2⟩
        omega⟩)]
theorem cpJ_s {J : Mi} {f t n : Nat} (h : f ≠ t) (hn : n < 6) : uM (cpJ J f t n) 350 (6 * t + n) (cpJ J f t n 350 (6 * f + n)) = cpJ J f t (n + 1) := by
  funext e k
  unfold uM
  split
  · rename_i q
    obtain ⟨rfl, rfl⟩ := q
    rw [cpJ_i (by omega), cpJ_o (by omega)]
  · rename_i q
    unfold cpJ
    by_cases z : e = 350 ∧ 6 * t ≤ k ∧ k < 6 * t + n
    · rw [if_pos z, if_pos ⟨z.1, z.2.1, by omega⟩]
    · rw [if_neg z, if_neg (fun y => z ⟨y.1, y.2.1, by
        have : k ≠ 6 * t + n := fun y2 => q ⟨y.1, y2⟩
        omega⟩)]
theorem ln349' : ln (348 + ro 10 1) = 20800 := ln349
theorem ln350' : ln (348 + ro 10 2) = 60 := ln350
theorem copies33_lp {I J : Mi} {K : Option AV → MM → Prop} {f t : Nat} (hf : f < 10) (ht : t < 10) (hft : f ≠ t) (hK : K none (I, cpJ J f t 6)) : ∀ k i : Nat, i + k = 6 → B_X10_copies_33 K [some (.inr (.inr 348)), some (.inl ((2080 * f : Nat) : Int)), some (.inl ((2080 * t : Nat) : Int)), some (.inl (i : Int))] [] (I, cpJ J f t i) := by
  have df : ((2080 * f : Nat) : Int).tdiv 2080 = (f : Int) := by rw [td (by omega)]; omega
  have dt : ((2080 * t : Nat) : Int).tdiv 2080 = (t : Int) := by rw [td (by omega)]; omega
  intro k
  induction k with
  | zero =>
    intro i hi
    have : i = 6 := by omega
    subst this
    exact lfp_in ⟨⟨by omega, by omega⟩, ⟨by omega, by omega⟩, fun _ => hK, fun q => absurd (by decide) q⟩
  | succ k ih =>
    intro i hi
    have key := ih (i + 1) (by omega)
    refine lfp_in ⟨⟨by omega, by omega⟩, ⟨by omega, by omega⟩, fun q => absurd q (by omega), fun _ => ⟨hM, ⟨by omega, by omega⟩, ⟨by omega, by omega⟩, by decide, hM, ⟨by omega, by omega⟩, ⟨by omega, by omega⟩, by decide, ?_⟩⟩
    rw [df, dt]
    refine ⟨hN0, by show (0 : Int) ≤ 6 * (f : Int) + i; omega, by show 6 * (f : Int) + i < (ln (348 + ro 10 2) : Nat); rw [ln350']; omega, hN0, by show (0 : Int) ≤ 6 * (t : Int) + i; omega, by show 6 * (t : Int) + i < (ln (348 + ro 10 2) : Nat); rw [ln350']; omega, ?_⟩
    have e1 : (6 * (f : Int) + (i : Int)).toNat = 6 * f + i := by omega
    have e2 : (6 * (t : Int) + (i : Int)).toNat = 6 * t + i := by omega
    rw [← cpJ_s hft (by omega), ← e1, ← e2] at key
    exact key
theorem copies2_lp {I J : Mi} {K : Option AV → MM → Prop} {f t : Nat} (hf : f < 10) (ht : t < 10) (hft : f ≠ t) (hK : K none (cpI I f t 2080, cpJ J f t 6)) : ∀ k i : Nat, i + k = 2080 → B_X10_copies_2 K [some (.inr (.inr 348)), some (.inl ((2080 * f : Nat) : Int)), some (.inl ((2080 * t : Nat) : Int)), some (.inl (i : Int))] [] (cpI I f t i, J) := by
  intro k
  induction k with
  | zero =>
    intro i hi
    have : i = 2080 := by omega
    subst this
    refine lfp_in ⟨⟨by omega, by omega⟩, ⟨by omega, by omega⟩, fun _ => ?_, fun q => absurd (by decide) q⟩
    have key := copies33_lp (I := cpI I f t 2080) (J := J) hf ht hft hK 6 0 (by omega)
    rw [cpJ_0] at key
    exact key
  | succ k ih =>
    intro i hi
    have key := ih (i + 1) (by omega)
    refine lfp_in ⟨⟨by omega, by omega⟩, ⟨by omega, by omega⟩, fun q => absurd q (by omega), fun _ => ⟨hM, hM, hS9, by show (0 : Int) ≤ ((2080 * f : Nat) : Int) + i; omega, by show ((2080 * f : Nat) : Int) + i < (ln (348 + ro 10 1) : Nat); rw [ln349']; omega, hS9, by show (0 : Int) ≤ ((2080 * t : Nat) : Int) + i; omega, by show ((2080 * t : Nat) : Int) + i < (ln (348 + ro 10 1) : Nat); rw [ln349']; omega, ?_⟩⟩
    have e1 : (((2080 * f : Nat) : Int) + (i : Int)).toNat = 2080 * f + i := by omega
    have e2 : (((2080 * t : Nat) : Int) + (i : Int)).toNat = 2080 * t + i := by omega
    rw [← cpI_s hft (by omega), ← e1, ← e2] at key
    exact key
theorem P_X10_copies {I J : Mi} {K : Option AV → MM → Prop} {x y : Int} (f t : Nat) (hx : x = (2080 * f : Nat)) (hy : y = (2080 * t : Nat)) (hf : f < 10) (ht : t < 10) (hft : f ≠ t) (hK : K none (cpI I f t 2080, cpJ J f t 6)) : w_X10_copies [.inr (.inr 348), .inl x, .inl y] (I, J) K := by
  subst hx
  subst hy
  have key := copies2_lp (I := I) (J := J) (K := K) hf ht hft hK 2080 0 (by omega)
  rw [cpI_0] at key
  exact ⟨cs8 rfl, key⟩
/-- a block, moved -/
theorem MR_tr {f t : Nat} {I J I' J' : Mi} {S : AS} {G : List (Nat × Pkt)} (h : MR f I J S G) (hR : Rg S) (h1 : ∀ k, k < 2080 → I' 349 (2080 * t + k) = I 349 (2080 * f + k)) (h2 : ∀ k, k < 6 → J' 350 (6 * t + k) = J 350 (6 * f + k)) : MR t I' J' S G := by
  have hl := MR_len h
  have hw := hR.2.2.2.2.2.2.2.1
  have hn := hR.pmn
  have h6 := hR.n6
  obtain ⟨m1, m2, m3, m4, m5, m6, m7, m8⟩ := h
  refine ⟨fun j hj => ?_, fun p hp j hj hj5 => ?_, fun p hp => ?_, fun i r hr j hj => ?_, fun i r hr j hj => ?_, fun i d hi hd j hj => ?_, m7, m8⟩
  · rw [h1 j (by omega)]; exact m1 j hj
  · rw [show 2080 * t + 12 + 8 * p + j = 2080 * t + (12 + 8 * p + j) by omega, h1 _ (by omega), show 2080 * f + (12 + 8 * p + j) = 2080 * f + 12 + 8 * p + j by omega]
    exact m2 p hp j hj hj5
  · rw [h2 p (by omega)]; exact m3 p hp
  · have := (List.getElem?_eq_some_iff.mp hr).1
    rw [show 2080 * t + 60 + 4 * i + j = 2080 * t + (60 + 4 * i + j) by omega, h1 _ (by omega), show 2080 * f + (60 + 4 * i + j) = 2080 * f + 60 + 4 * i + j by omega]
    exact m4 i r hr j hj
  · have := (List.getElem?_eq_some_iff.mp hr).1
    rw [show 2080 * t + 1020 + 4 * i + j = 2080 * t + (1020 + 4 * i + j) by omega, h1 _ (by omega), show 2080 * f + (1020 + 4 * i + j) = 2080 * f + 1020 + 4 * i + j by omega]
    exact m5 i r hr j hj
  · rw [show 2080 * t + 1980 + 5 * (min 20 (zD S).length - 1 - i) + j = 2080 * t + (1980 + 5 * (min 20 (zD S).length - 1 - i) + j) by omega, h1 _ (by omega), show 2080 * f + (1980 + 5 * (min 20 (zD S).length - 1 - i) + j) = 2080 * f + 1980 + 5 * (min 20 (zD S).length - 1 - i) + j by omega]
    exact m6 i d hi hd j hj
/-- block b holds S, in some order of its packets -/
def MB (b : Nat) (μ : MM) (S : AS) : Prop := Rg S ∧ ∃ G, MR b μ.1 μ.2 S G
theorem MB.tr {f t : Nat} {μ μ' : MM} {S : AS} (h : MB f μ S) (h1 : ∀ k, k < 2080 → μ'.1 349 (2080 * t + k) = μ.1 349 (2080 * f + k)) (h2 : ∀ k, k < 6 → μ'.2 350 (6 * t + k) = μ.2 350 (6 * f + k)) : MB t μ' S := by
  obtain ⟨hR, G, h⟩ := h
  exact ⟨hR, G, MR_tr h hR h1 h2⟩
theorem MB.cp {f t : Nat} {I J : Mi} {S : AS} (h : MB f (I, J) S) : MB t (cpI I f t 2080, cpJ J f t 6) S := h.tr (fun _ hk => cpI_i hk) (fun _ hk => cpJ_i hk)
theorem MB.cpo {f t b : Nat} {I J : Mi} {S : AS} (h : MB b (I, J) S) (hb : b ≠ t) : MB b (cpI I f t 2080, cpJ J f t 6) S := h.tr (fun k hk => cpI_o (by omega)) (fun k hk => cpJ_o (by omega))
theorem MB.fm {b b' : Nat} {μ μ' : MM} {S : AS} (h : MB b' μ S) (hf : FM b μ μ') (hb : b' ≠ b) : MB b' μ' S := h.tr (fun k hk => hf.2.1 _ (by omega)) (fun k hk => by rw [hf.2.2])
theorem MB.eq {b : Nat} {μ μ' : MM} {S : AS} (h : MB b μ S) (h1 : μ'.1 349 = μ.1 349) (h2 : μ'.2 350 = μ.2 350) : MB b μ' S := h.tr (fun k _ => by rw [h1]) (fun k _ => by rw [h2])
theorem HG.mb {b : Nat} {μ : MM} {S : AS} {G : List (Nat × Pkt)} (h : HG b μ S G) : MB b μ S := ⟨h.2.2.1, G, h.2.2.2⟩
theorem MB.hg {b : Nat} {μ : MM} {S : AS} (h : MB b μ S) (ho : μ.1 348 3 = (2080 * b : Nat)) (hb : b < 10) : ∃ G, HG b μ S G := by
  obtain ⟨hR, G, h⟩ := h
  exact ⟨G, ho, hb, hR, h⟩
