/-! PURE 42: ports, promises and ledgers are copied (class) -/
theorem cc3 {I : Mi} {a a' m : Nat} (hd : a + 3 ≤ a' ∨ a' + 3 ≤ a) : uM (uM (uM (cc I a a' 3 m) (a + 0) m (cc I a a' 3 m (a' + 0) m)) (a + 1) m (uM (cc I a a' 3 m) (a + 0) m (cc I a a' 3 m (a' + 0) m) (a' + 1) m)) (a + 2) m (uM (uM (cc I a a' 3 m) (a + 0) m (cc I a a' 3 m (a' + 0) m)) (a + 1) m (uM (cc I a a' 3 m) (a + 0) m (cc I a a' 3 m (a' + 0) m) (a' + 1) m) (a' + 2) m) = cc I a a' 3 (m + 1) := by
  refine cc_s hd (fun j hj => ?_) (fun e k h => ?_)
  · have hh : j = 0 ∨ j = 1 ∨ j = 2 := by omega
    rcases hh with rfl | rfl | rfl
    · rw [uM_e (by omega), uM_e (by omega), uM_s]
    · rw [uM_e (by omega), uM_s, uM_e (by omega)]
    · rw [uM_s, uM_e (by omega), uM_e (by omega)]
  · by_cases z : k = m
    · rw [uM_e (by omega), uM_e (by omega), uM_e (by omega)]
    · rw [uM_k z, uM_k z, uM_k z]
theorem cc4 {I : Mi} {a a' m : Nat} (hd : a + 4 ≤ a' ∨ a' + 4 ≤ a) : uM (uM (uM (uM (cc I a a' 4 m) (a + 0) m (cc I a a' 4 m (a' + 0) m)) (a + 1) m (uM (cc I a a' 4 m) (a + 0) m (cc I a a' 4 m (a' + 0) m) (a' + 1) m)) (a + 2) m (uM (uM (cc I a a' 4 m) (a + 0) m (cc I a a' 4 m (a' + 0) m)) (a + 1) m (uM (cc I a a' 4 m) (a + 0) m (cc I a a' 4 m (a' + 0) m) (a' + 1) m) (a' + 2) m)) (a + 3) m (uM (uM (uM (cc I a a' 4 m) (a + 0) m (cc I a a' 4 m (a' + 0) m)) (a + 1) m (uM (cc I a a' 4 m) (a + 0) m (cc I a a' 4 m (a' + 0) m) (a' + 1) m)) (a + 2) m (uM (uM (cc I a a' 4 m) (a + 0) m (cc I a a' 4 m (a' + 0) m)) (a + 1) m (uM (cc I a a' 4 m) (a + 0) m (cc I a a' 4 m (a' + 0) m) (a' + 1) m) (a' + 2) m) (a' + 3) m) = cc I a a' 4 (m + 1) := by
  refine cc_s hd (fun j hj => ?_) (fun e k h => ?_)
  · have hh : j = 0 ∨ j = 1 ∨ j = 2 ∨ j = 3 := by omega
    rcases hh with rfl | rfl | rfl | rfl
    · rw [uM_e (by omega), uM_e (by omega), uM_e (by omega), uM_s]
    · rw [uM_e (by omega), uM_e (by omega), uM_s, uM_e (by omega)]
    · rw [uM_e (by omega), uM_s, uM_e (by omega), uM_e (by omega)]
    · rw [uM_s, uM_e (by omega), uM_e (by omega), uM_e (by omega)]
  · by_cases z : k = m
    · rw [uM_e (by omega), uM_e (by omega), uM_e (by omega), uM_e (by omega)]
    · rw [uM_k z, uM_k z, uM_k z, uM_k z]
theorem copyP_lp {I J : Mi} {K : Option AV → MM → Prop} {q q2 w : Nat} (h1 : isK q 2) (h2 : isK q2 2) (hA : ∀ j, j < 3 → isK (q + 1 + j) 11 ∧ ln (q + 1 + j) = 240) (hB : ∀ j, j < 3 → isK (q2 + 1 + j) 11 ∧ ln (q2 + 1 + j) = 240) (hw : I q 11 = (w : Int)) (hw2 : w ≤ 240) (hd : q + 4 ≤ q2 ∨ q2 + 4 ≤ q) (hK : K none (cc I (q + 1) (q2 + 1) 3 w, J)) : ∀ k i : Nat, i + k = w → B_X2_copyFrom_98 K [some (.inr (.inr q)), some (.inr (.inr q2)), some (.inl (i : Int))] [] (cc I (q + 1) (q2 + 1) 3 i, J) := by
  have e11 : ∀ i, cc I (q + 1) (q2 + 1) 3 i q 11 = (w : Int) := fun i => by rw [cc_e (by omega)]; exact hw
  intro k
  induction k with
  | zero =>
    intro i hi
    have : i = w := by omega
    subst this
    refine lfp_in ⟨h1, ?_⟩
    show o_icmp_ge _ _ _ [.inl (cc I (q + 1) (q2 + 1) 3 i q 11), _] _
    rw [e11]
    exact ⟨⟨by omega, by omega⟩, ⟨by omega, by omega⟩, fun _ => hK, fun z => absurd (by omega) z⟩
  | succ k ih =>
    intro i hi
    have la : ∀ j, j < 3 → (i : Int) < ((ln (q + 1 + j) : Nat) : Int) := fun j hj => by rw [(hA j hj).2]; omega
    have lb : ∀ j, j < 3 → (i : Int) < ((ln (q2 + 1 + j) : Nat) : Int) := fun j hj => by rw [(hB j hj).2]; omega
    refine lfp_in ⟨h1, ?_⟩
    show o_icmp_ge _ _ _ [.inl (cc I (q + 1) (q2 + 1) 3 i q 11), _] _
    rw [e11]
    refine ⟨⟨by omega, by omega⟩, ⟨by omega, by omega⟩, fun z => absurd z (by omega), fun _ => ⟨h1, h2, (hB 0 (by decide)).1, by omega, lb 0 (by decide), (hA 0 (by decide)).1, by omega, la 0 (by decide), h1, h2, (hB 1 (by decide)).1, by omega, lb 1 (by decide), (hA 1 (by decide)).1, by omega, la 1 (by decide), h1, h2, (hB 2 (by decide)).1, by omega, lb 2 (by decide), (hA 2 (by decide)).1, by omega, la 2 (by decide), ?_⟩⟩
    have key := ih (i + 1) (by omega)
    rw [← cc3 (by omega)] at key
    exact key
theorem Q_X2_copyFrom {I J : Mi} {K : Option AV → MM → Prop} {q q2 w : Nat} (h1 : isK q 2) (h2 : isK q2 2) (hA : ∀ j, j < 3 → isK (q + 1 + j) 11 ∧ ln (q + 1 + j) = 240) (hB : ∀ j, j < 3 → isK (q2 + 1 + j) 11 ∧ ln (q2 + 1 + j) = 240) (hw : I q2 11 = (w : Int)) (hw2 : w ≤ 240) (hd : q + 4 ≤ q2 ∨ q2 + 4 ≤ q) (hK : ∀ I' : Mi, (∀ a, (a < q ∨ q + 4 ≤ a) → I' a = I a) → (∀ k, 1 ≤ k → k ≤ 11 → I' q k = I q2 k) → (∀ j k, j < 3 → k < w → I' (q + 1 + j) k = I (q2 + 1 + j) k) → K none (I', uM J q 0 (J q2 0))) : w_X2_copyFrom [.inr (.inr q), .inr (.inr q2)] (I, J) K := by
  have hne : q2 ≠ q := by omega
  have fin : ∀ X : Mi, (∀ a, a ≠ q → X a = I a) → (∀ k, 1 ≤ k → k ≤ 11 → X q k = I q2 k) → B_X2_copyFrom_98 K [some (.inr (.inr q)), some (.inr (.inr q2)), some (.inl 0)] [] (X, uM J q 0 (J q2 0)) := by
    intro X x1 x2
    have key := copyP_lp (I := X) (J := uM J q 0 (J q2 0)) (K := K) h1 h2 hA hB ((x2 11 (by decide) (by decide)).trans hw) hw2 hd (hK _ (fun a ha => by rw [cc_e (by omega), x1 a (by omega)]) (fun k k1 k2 => by rw [cc_e (by omega)]; exact x2 k k1 k2) (fun j k hj hk => by rw [cc_i hj hk, x1 _ (by omega)])) w 0 (by omega)
    rw [cc_0] at key
    exact key
  refine ⟨cs8 rfl, h2, h1, h2, h1, h2, h1, h2, h1, h2, h1, h2, h1, h2, h1, h2, h1, h2, h1, h2, h1, h2, h1, h2, h1, ?_⟩
  refine fin _ (fun a ha => ?_) (fun k k1 k2 => ?_)
  · simp only [uM_r ha]
  · have hh : k = 1 ∨ k = 2 ∨ k = 3 ∨ k = 4 ∨ k = 5 ∨ k = 6 ∨ k = 7 ∨ k = 8 ∨ k = 9 ∨ k = 10 ∨ k = 11 := by omega
    rcases hh with rfl | rfl | rfl | rfl | rfl | rfl | rfl | rfl | rfl | rfl | rfl <;> simp [uM, hne]
theorem copyR_lp {I J : Mi} {K : Option AV → MM → Prop} {e f w : Nat} (hs : sw e) (hs2 : sw f) (hw : I (e + 2) 4 = (w : Int)) (hw2 : w ≤ 240) (hd : e + 37 ≤ f ∨ f + 37 ≤ e) (hK : K none (cc I (e + 3) (f + 3) 4 w, J)) : ∀ k i : Nat, i + k = w → B_X3_copyFrom_10 K [some (.inr (.inr (e + 2))), some (.inr (.inr (f + 2))), some (.inl (i : Int))] [] (cc I (e + 3) (f + 3) 4 i, J) := by
  have hp := sw_pm hs
  have hp2 := sw_pm hs2
  have hA : ∀ j, j < 4 → isK (e + 2 + 1 + j) 11 ∧ ln (e + 2 + 1 + j) = 240 := fun j hj => sw_pma hs hj
  have hB : ∀ j, j < 4 → isK (f + 2 + 1 + j) 11 ∧ ln (f + 2 + 1 + j) = 240 := fun j hj => sw_pma hs2 hj
  have e4 : ∀ i, cc I (e + 3) (f + 3) 4 i (e + 2) 4 = (w : Int) := fun i => by rw [cc_e (by omega)]; exact hw
  intro k
  induction k with
  | zero =>
    intro i hi
    have : i = w := by omega
    subst this
    refine lfp_in ⟨hp, ?_⟩
    show o_icmp_ge _ _ _ [.inl (cc I (e + 3) (f + 3) 4 i (e + 2) 4), _] _
    rw [e4]
    exact ⟨⟨by omega, by omega⟩, ⟨by omega, by omega⟩, fun _ => hK, fun z => absurd (by omega) z⟩
  | succ k ih =>
    intro i hi
    refine lfp_in ⟨hp, ?_⟩
    show o_icmp_ge _ _ _ [.inl (cc I (e + 3) (f + 3) 4 i (e + 2) 4), _] _
    rw [e4]
    refine ⟨⟨by omega, by omega⟩, ⟨by omega, by omega⟩, fun z => absurd z (by omega), fun _ => ⟨hp, cs8 rfl, P_X3_place (a := e + 2) (a' := f + 2) (t := i) (s := i) hp hp2 rfl rfl hA hB (by omega) (by omega) ?_⟩⟩
    have key := ih (i + 1) (by omega)
    rw [← cc4 (by omega)] at key
    exact key
theorem Q_X3_copyFrom {I J : Mi} {K : Option AV → MM → Prop} {e f w : Nat} (hs : sw e) (hs2 : sw f) (hw : I (f + 2) 4 = (w : Int)) (hw2 : w ≤ 240) (hd : e + 37 ≤ f ∨ f + 37 ≤ e) (hK : ∀ I' : Mi, (∀ a, (a < e + 2 ∨ e + 7 ≤ a) → I' a = I a) → I' (e + 2) 4 = w → (∀ j k, j < 4 → k < w → I' (e + 3 + j) k = I (f + 3 + j) k) → K none (I', J)) : w_X3_copyFrom [.inr (.inr (e + 2)), .inr (.inr (f + 2))] (I, J) K := by
  have hp := sw_pm hs
  have hp2 := sw_pm hs2
  refine ⟨cs8 rfl, hp2, hp, ?_⟩
  show B_X3_copyFrom_10 K _ [] (uM I (e + 2) 4 (I (f + 2) 4), J)
  rw [hw]
  have key := copyR_lp (I := uM I (e + 2) 4 (w : Int)) (J := J) (K := K) hs hs2 uM_s hw2 hd (hK _ (fun a ha => by rw [cc_e (by omega), uM_r (by omega)]) (by rw [cc_e (by omega), uM_s]) (fun j k hj hk => by rw [cc_i hj hk, uM_e (by omega)])) w 0 (by omega)
  rw [cc_0] at key
  exact key
