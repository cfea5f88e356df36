/-! PURE 32: the class's rows: placed, removed, inserted -/
theorem P_X3_place {I J : Mi} {K : Option AV → MM → Prop} {a a' t s : Nat} {x y : Int} (h : isK a 3) (h' : isK a' 3) (hx : x = t) (hy : y = s) (hA : ∀ j, j < 4 → isK (a + 1 + j) 11 ∧ ln (a + 1 + j) = 240) (hB : ∀ j, j < 4 → isK (a' + 1 + j) 11 ∧ ln (a' + 1 + j) = 240) (ht : t < 240) (hs : s < 240) (hK : K none (uM (uM (uM (uM I (a + 1 + 0) t (I (a' + 1 + 0) s)) (a + 1 + 1) t (uM I (a + 1 + 0) t (I (a' + 1 + 0) s) (a' + 1 + 1) s)) (a + 1 + 2) t (uM (uM I (a + 1 + 0) t (I (a' + 1 + 0) s)) (a + 1 + 1) t (uM I (a + 1 + 0) t (I (a' + 1 + 0) s) (a' + 1 + 1) s) (a' + 1 + 2) s)) (a + 1 + 3) t (uM (uM (uM I (a + 1 + 0) t (I (a' + 1 + 0) s)) (a + 1 + 1) t (uM I (a + 1 + 0) t (I (a' + 1 + 0) s) (a' + 1 + 1) s)) (a + 1 + 2) t (uM (uM I (a + 1 + 0) t (I (a' + 1 + 0) s)) (a + 1 + 1) t (uM I (a + 1 + 0) t (I (a' + 1 + 0) s) (a' + 1 + 1) s) (a' + 1 + 2) s) (a' + 1 + 3) s), J)) : w_X3_place [.inr (.inr a), .inl x, .inr (.inr a'), .inl y] (I, J) K := by
  subst hx
  subst hy
  have l : ∀ j, j < 4 → (t : Int) < ((ln (a + 1 + j) : Nat) : Int) := fun j hj => by rw [(hA j hj).2]; omega
  have l' : ∀ j, j < 4 → (s : Int) < ((ln (a' + 1 + j) : Nat) : Int) := fun j hj => by rw [(hB j hj).2]; omega
  exact ⟨cs8 rfl, h, h', (hB 0 (by decide)).1, by omega, l' 0 (by decide), (hA 0 (by decide)).1, by omega, l 0 (by decide), h, h', (hB 1 (by decide)).1, by omega, l' 1 (by decide), (hA 1 (by decide)).1, by omega, l 1 (by decide), h, h', (hB 2 (by decide)).1, by omega, l' 2 (by decide), (hA 2 (by decide)).1, by omega, l 2 (by decide), h, h', (hB 3 (by decide)).1, by omega, l' 3 (by decide), (hA 3 (by decide)).1, by omega, l 3 (by decide), hK⟩
/-- four columns from a on are moved down, or up, by one -/
def dn (I : Mi) (a lo m : Nat) : Mi := fun e k => if a ≤ e ∧ e < a + 4 ∧ lo ≤ k ∧ k < m then I e (k + 1) else I e k
def up (I : Mi) (a m hi : Nat) : Mi := fun e k => if a ≤ e ∧ e < a + 4 ∧ m < k ∧ k ≤ hi then I e (k - 1) else I e k
theorem dn_0 {I : Mi} {a lo : Nat} : dn I a lo lo = I := by
  funext e k
  unfold dn
  rw [if_neg (by omega)]
theorem up_0 {I : Mi} {a m : Nat} : up I a m m = I := by
  funext e k
  unfold up
  rw [if_neg (by omega)]
theorem dn_e {I : Mi} {a lo m e : Nat} (h : e < a ∨ a + 4 ≤ e) : dn I a lo m e = I e := funext fun k => if_neg (by omega)
theorem up_e {I : Mi} {a lo m e : Nat} (h : e < a ∨ a + 4 ≤ e) : up I a lo m e = I e := funext fun k => if_neg (by omega)
theorem dn_i {I : Mi} {a lo m j k : Nat} (hj : j < 4) (h1 : lo ≤ k) (h2 : k < m) : dn I a lo m (a + j) k = I (a + j) (k + 1) := if_pos ⟨by omega, by omega, h1, h2⟩
theorem dn_o {I : Mi} {a lo m e k : Nat} (h : k < lo ∨ m ≤ k) : dn I a lo m e k = I e k := if_neg (by omega)
theorem up_i {I : Mi} {a lo m j k : Nat} (hj : j < 4) (h1 : lo < k) (h2 : k ≤ m) : up I a lo m (a + j) k = I (a + j) (k - 1) := if_pos ⟨by omega, by omega, h1, h2⟩
theorem up_o {I : Mi} {a lo m e k : Nat} (h : k ≤ lo ∨ m < k) : up I a lo m e k = I e k := if_neg (by omega)
theorem four {I : Mi} {a t s : Nat} (hts : t ≠ s) : uM (uM (uM (uM I (a + 0) t (I (a + 0) s)) (a + 1) t (uM I (a + 0) t (I (a + 0) s) (a + 1) s)) (a + 2) t (uM (uM I (a + 0) t (I (a + 0) s)) (a + 1) t (uM I (a + 0) t (I (a + 0) s) (a + 1) s) (a + 2) s)) (a + 3) t (uM (uM (uM I (a + 0) t (I (a + 0) s)) (a + 1) t (uM I (a + 0) t (I (a + 0) s) (a + 1) s)) (a + 2) t (uM (uM I (a + 0) t (I (a + 0) s)) (a + 1) t (uM I (a + 0) t (I (a + 0) s) (a + 1) s) (a + 2) s) (a + 3) s) = fun e k => if a ≤ e ∧ e < a + 4 ∧ k = t then I e s else I e k := by
  funext e k
  have hs : s ≠ t := fun q => hts q.symm
  simp only [uM_k hs]
  by_cases z : k = t
  · subst z
    by_cases q : a ≤ e ∧ e < a + 4
    · rw [if_pos ⟨q.1, q.2, rfl⟩]
      have hh : e = a + 0 ∨ e = a + 1 ∨ e = a + 2 ∨ e = a + 3 := by omega
      rcases hh with rfl | rfl | rfl | rfl
      · rw [uM_e (by omega), uM_e (by omega), uM_e (by omega)]
        exact uM_s
      · rw [uM_e (by omega), uM_e (by omega), uM_s]
      · rw [uM_e (by omega), uM_s]
      · rw [uM_s]
    · rw [if_neg (fun y => q ⟨y.1, y.2.1⟩), uM_e (by omega), uM_e (by omega), uM_e (by omega), uM_e (by omega)]
  · rw [if_neg (fun y => z y.2.2), uM_k z, uM_k z, uM_k z, uM_k z]
theorem dn_s {I : Mi} {a lo m : Nat} (h : lo ≤ m) : (fun e k => if a ≤ e ∧ e < a + 4 ∧ k = m then dn I a lo m e (m + 1) else dn I a lo m e k) = dn I a lo (m + 1) := by
  funext e k
  by_cases z : a ≤ e ∧ e < a + 4 ∧ k = m
  · rw [if_pos z, dn_o (by omega)]
    unfold dn
    rw [if_pos ⟨z.1, z.2.1, by omega, by omega⟩, z.2.2]
  · rw [if_neg z]
    unfold dn
    by_cases y : a ≤ e ∧ e < a + 4 ∧ lo ≤ k ∧ k < m
    · rw [if_pos y, if_pos ⟨y.1, y.2.1, y.2.2.1, by omega⟩]
    · rw [if_neg y, if_neg (fun q => y ⟨q.1, q.2.1, q.2.2.1, by
        have : k ≠ m := fun r => z ⟨q.1, q.2.1, r⟩
        omega⟩)]
theorem up_s {I : Mi} {a m hi : Nat} (h : m < hi) : (fun e k => if a ≤ e ∧ e < a + 4 ∧ k = m + 1 then up I a (m + 1) hi e m else up I a (m + 1) hi e k) = up I a m hi := by
  funext e k
  by_cases z : a ≤ e ∧ e < a + 4 ∧ k = m + 1
  · rw [if_pos z, up_o (by omega)]
    unfold up
    rw [if_pos ⟨z.1, z.2.1, by omega, by omega⟩, z.2.2]
    rfl
  · rw [if_neg z]
    unfold up
    by_cases y : a ≤ e ∧ e < a + 4 ∧ m + 1 < k ∧ k ≤ hi
    · rw [if_pos y, if_pos ⟨y.1, y.2.1, by omega, y.2.2.2⟩]
    · rw [if_neg y, if_neg (fun q => y ⟨q.1, q.2.1, by
        have : k ≠ m + 1 := fun r => z ⟨q.1, q.2.1, r⟩
        omega, q.2.2.2⟩)]
theorem remove_lp {I J : Mi} {K : Option AV → MM → Prop} {e i n : Nat} (hs : sw e) (hn : I (e + 2) 4 = (n : Int)) (hn2 : n < 240) (hK : K none (dn I (e + 3) i n, J)) : ∀ k m : Nat, m + k = n → i ≤ m → B_X3_remove_19 K [some (.inr (.inr (e + 2))), none, some (.inl (m : Int))] [] (dn I (e + 3) i m, J) := by
  have hp := sw_pm hs
  have hA : ∀ j, j < 4 → isK (e + 2 + 1 + j) 11 ∧ ln (e + 2 + 1 + j) = 240 := fun j hj => sw_pma hs hj
  have e4 : ∀ m, dn I (e + 3) i m (e + 2) 4 = (n : Int) := fun m => by rw [dn_e (by omega)]; exact hn
  intro k
  induction k with
  | zero =>
    intro m hm him
    have : m = n := by omega
    subst this
    refine lfp_in ⟨hp, ?_⟩
    show o_icmp_ge _ _ _ [.inl (dn I (e + 3) i m (e + 2) 4), _] _
    rw [e4]
    exact ⟨⟨by omega, by omega⟩, ⟨by omega, by omega⟩, fun _ => hK, fun q => absurd (by omega) q⟩
  | succ k ih =>
    intro m hm him
    refine lfp_in ⟨hp, ?_⟩
    show o_icmp_ge _ _ _ [.inl (dn I (e + 3) i m (e + 2) 4), _] _
    rw [e4]
    refine ⟨⟨by omega, by omega⟩, ⟨by omega, by omega⟩, fun q => absurd q (by omega), fun _ => ⟨hp, cs8 rfl, P_X3_place (a := e + 2) (a' := e + 2) (t := m) (s := m + 1) hp hp rfl (by omega) hA hA (by omega) (by omega) ?_⟩⟩
    have key := ih (m + 1) (by omega) (by omega)
    rw [← dn_s him, ← four (I := dn I (e + 3) i m) (a := e + 3) (t := m) (s := m + 1) (by omega)] at key
    exact key
theorem Q_X3_remove {I J : Mi} {K : Option AV → MM → Prop} {e i n : Nat} {x : Int} (hs : sw e) (hn : I (e + 2) 4 = (n : Int)) (hn2 : n ≤ 240) (hx : x = i) (hi : i < n) (hK : K none (dn (uM I (e + 2) 4 ((n : Int) - 1)) (e + 3) i (n - 1), J)) : w_X3_remove [.inr (.inr (e + 2)), .inl x] (I, J) K := by
  subst hx
  have hp := sw_pm hs
  refine ⟨cs8 rfl, hp, ?_⟩
  show o_if_le _ _ _ [.inl (I (e + 2) 4)] _
  rw [hn]
  refine ⟨⟨by omega, by omega⟩, fun q => absurd q (by omega), fun _ => ⟨hp, hp, ?_⟩⟩
  have key := remove_lp (I := uM I (e + 2) 4 ((n : Int) - 1)) (J := J) (K := K) (i := i) (n := n - 1) hs (by rw [uM_s]; omega) (by omega) hK (n - 1 - i) i (by omega) (Nat.le_refl _)
  rw [dn_0] at key
  show B_X3_remove_19 K _ [] (uM I (e + 2) 4 (I (e + 2) 4 - 1), J)
  rw [hn]
  exact key
theorem insert_lp {I J : Mi} {K : Option AV → MM → Prop} {e n : Nat} {R : List Prm} {x y c d : Int} (hs : sw e) (hn : n = R.length) (hn2 : n < 240) (hd : R32 d) (hR : RA I (e + 3) 4 mw R) (hr : ∀ m ∈ R, 0 ≤ m.2.2.2 ∧ m.2.2.2 ≤ 3000000) (hK : B_X3_insert_53 K [some (.inr (.inr (e + 2))), some (.inl x), some (.inl y), some (.inl c), some (.inl d), some (.inl ((pos R d n : Nat) : Int))] [] (up I (e + 3) (pos R d n) n, J)) : ∀ t : Nat, t ≤ n → pos R d t = pos R d n → B_X3_insert_17 K [some (.inr (.inr (e + 2))), some (.inl x), some (.inl y), some (.inl c), some (.inl d), some (.inl (t : Int))] [] (up I (e + 3) t n, J) := by
  have hp := sw_pm hs
  have hA : ∀ j, j < 4 → isK (e + 2 + 1 + j) 11 ∧ ln (e + 2 + 1 + j) = 240 := fun j hj => sw_pma hs hj
  have a3 := sw_pma hs (j := 3) (by decide)
  intro t
  induction t with
  | zero =>
    intro ht hpos
    have : pos R d n = 0 := hpos.symm
    rw [this] at hK
    exact lfp_in ⟨⟨by omega, by omega⟩, fun _ => hK, fun q => absurd (by omega) q⟩
  | succ t ih =>
    intro ht hpos
    obtain ⟨m, hm⟩ : ∃ m, R[t]? = some m := ⟨R[t]'(by omega), List.getElem?_eq_getElem (by omega)⟩
    have hmr := hr m (List.mem_of_getElem? hm)
    have v3 : up I (e + 3) (t + 1) n (e + 3 + 3) (((t + 1 : Nat) : Int) - 1).toNat = m.2.2.2 := by
      rw [show (((t + 1 : Nat) : Int) - 1).toNat = t by omega, up_o (by omega)]
      exact hR t m hm 3 (by decide)
    refine lfp_in ⟨⟨by omega, by omega⟩, fun q => absurd q (by omega), fun _ => ⟨hp, a3.1, by omega, ?_, ?_⟩⟩
    · show ((t + 1 : Nat) : Int) - 1 < ((ln (e + 3 + 3) : Nat) : Int); rw [a3.2]; omega
    show o_iload 4 _ _ [.inl (up I (e + 3) (t + 1) n (e + 3 + 3) (((t + 1 : Nat) : Int) - 1).toNat)] _
    rw [v3]
    have hp1 : pos R d (t + 1) = if d < m.2.2.2 then pos R d t else t + 1 := by
      show (match R[t]? with
        | none => t + 1
        | some m => if d < m.2.2.2 then pos R d t else t + 1) = _
      rw [hm]
    refine ⟨⟨by omega, by omega⟩, hd, fun q => ?_, fun q => ⟨hp, cs8 rfl, P_X3_place (a := e + 2) (a' := e + 2) (t := t + 1) (s := t) hp hp rfl (by omega) hA hA (by omega) (by omega) ?_⟩⟩
    · rw [if_neg (by omega)] at hp1
      rw [hp1] at hpos
      rw [← hpos] at hK
      exact hK
    · rw [if_pos (by omega)] at hp1
      have key := ih (by omega) (by rw [← hp1]; exact hpos)
      rw [← up_s (I := I) (a := e + 3) (m := t) (hi := n) (by omega), ← four (I := up I (e + 3) (t + 1) n) (a := e + 3) (t := t + 1) (s := t) (by omega)] at key
      rw [show (t : Int) = ((t + 1 : Nat) : Int) + -1 by omega] at key
      exact key
theorem Q_X3_insert {I J : Mi} {K : Option AV → MM → Prop} {e : Nat} {R : List Prm} {x y : Int} {c d : Int} (l p : Nat) (hs : sw e) (hx : x = l) (hy : y = p) (hn : I (e + 2) 4 = (R.length : Int)) (hn2 : R.length < 240) (hd : R32 d) (hR : RA I (e + 3) 4 mw R) (hr : ∀ m ∈ R, 0 ≤ m.2.2.2 ∧ m.2.2.2 ≤ 3000000) (hK : ∀ I', (∀ a, a < e + 2 ∨ e + 7 ≤ a → I' a = I a) → (∀ k, k ≠ 4 → I' (e + 2) k = I (e + 2) k) → I' (e + 2) 4 = (R.length : Int) + 1 → RA I' (e + 3) 4 mw (pin R (l, p, c, d)) → K none (I', J)) : w_X3_insert [.inr (.inr (e + 2)), .inl x, .inl y, .inl c, .inl d] (I, J) K := by
  subst hx
  subst hy
  have hp := sw_pm hs
  have hpl := pos_le R d R.length
  have a0 := sw_pma hs (j := 0) (by decide)
  have a1 := sw_pma hs (j := 1) (by decide)
  have a2 := sw_pma hs (j := 2) (by decide)
  have a3 := sw_pma hs (j := 3) (by decide)
  refine ⟨cs8 rfl, hp, ?_⟩
  show o_ci 240 _ _ [.inl (I (e + 2) 4)] _
  rw [hn]
  refine ⟨⟨by omega, by omega⟩, ⟨by omega, by omega⟩, fun _ => ⟨hp, ?_⟩, fun q => absurd (by omega) q⟩
  have key := insert_lp (I := I) (J := J) (K := K) (x := (l : Int)) (y := (p : Int)) (c := c) (d := d) hs rfl hn2 hd hR hr ?_ R.length (Nat.le_refl _) rfl
  · rw [up_0] at key
    show B_X3_insert_17 K (stI _ 5 (.inl (I (e + 2) 4))) [] (I, J)
    rw [hn]
    exact key
  · refine ⟨hp, a0.1, by omega, ?_, hp, a1.1, by omega, ?_, hp, a2.1, by omega, ?_, hp, a3.1, by omega, ?_, hp, hp, ?_⟩
    · show _ < ((ln (e + 3 + 0) : Nat) : Int); rw [a0.2]; omega
    · show _ < ((ln (e + 3 + 1) : Nat) : Int); rw [a1.2]; omega
    · show _ < ((ln (e + 3 + 2) : Nat) : Int); rw [a2.2]; omega
    · show _ < ((ln (e + 3 + 3) : Nat) : Int); rw [a3.2]; omega
    · show K none (uM (uM (uM (uM (uM (up I (e + 3) (pos R d R.length) R.length) (e + 3 + 0) (pos R d R.length) (l : Int)) (e + 3 + 1) (pos R d R.length) (p : Int)) (e + 3 + 2) (pos R d R.length) c) (e + 3 + 3) (pos R d R.length) d) (e + 2) 4 (uM (uM (uM (uM (up I (e + 3) (pos R d R.length) R.length) (e + 3 + 0) (pos R d R.length) (l : Int)) (e + 3 + 1) (pos R d R.length) (p : Int)) (e + 3 + 2) (pos R d R.length) c) (e + 3 + 3) (pos R d R.length) d (e + 2) 4 + 1), J)
      have v : uM (uM (uM (uM (up I (e + 3) (pos R d R.length) R.length) (e + 3 + 0) (pos R d R.length) (l : Int)) (e + 3 + 1) (pos R d R.length) (p : Int)) (e + 3 + 2) (pos R d R.length) c) (e + 3 + 3) (pos R d R.length) d (e + 2) 4 = (R.length : Int) := by
        rw [uM_e (by omega), uM_e (by omega), uM_e (by omega), uM_e (by omega), up_e (by omega)]
        exact hn
      rw [v]
      refine hK _ (fun a ha => ?_) (fun k hk => ?_) uM_s (fun i r hr' j hj => ?_)
      · rw [uM_r (by omega), uM_r (by omega), uM_r (by omega), uM_r (by omega), uM_r (by omega), up_e (by omega)]
      · rw [uM_k hk, uM_e (by omega), uM_e (by omega), uM_e (by omega), uM_e (by omega), up_e (by omega)]
      · unfold pin at hr'
        rw [List.getElem?_insertIdx] at hr'
        dsimp only at hr'
        rw [uM_e (by omega)]
        split at hr'
        · have q : i < pos R d R.length := by assumption
          rw [uM_k (by omega), uM_k (by omega), uM_k (by omega), uM_k (by omega), up_o (by omega)]
          exact hR i r hr' j hj
        · split at hr'
          · have q : i = pos R d R.length := by assumption
            subst q
            rw [if_pos hpl] at hr'
            cases hr'
            have hh : j = 0 ∨ j = 1 ∨ j = 2 ∨ j = 3 := by omega
            rcases hh with rfl | rfl | rfl | rfl
            · rw [uM_e (by omega), uM_e (by omega), uM_e (by omega), uM_s]; rfl
            · rw [uM_e (by omega), uM_e (by omega), uM_s]; rfl
            · rw [uM_e (by omega), uM_s]; rfl
            · rw [uM_s]; rfl
          · have q : ¬ i < pos R d R.length := by assumption
            have q2 : ¬ i = pos R d R.length := by assumption
            have hi := (List.getElem?_eq_some_iff.mp hr').1
            rw [uM_k q2, uM_k q2, uM_k q2, uM_k q2, up_i hj (by omega) (by omega)]
            exact hR (i - 1) r hr' j hj
