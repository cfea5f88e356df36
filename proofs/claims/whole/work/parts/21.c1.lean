/-! PURE 9: the class's switch: its shape, a port's numbers, sums -/
def swL : List Nat := [11, 48, 85, 124, 161, 198, 235, 272, 309]
abbrev sw (e : Nat) : Prop := e ∈ swL
theorem sw_lt : ∀ e ∈ swL, e + 37 ≤ 356 := by decide +kernel
theorem sw_k : ∀ e ∈ swL, ∀ k, k < 37 → kd (e + k) = kdSw.getD k 99 ∧ ln (e + k) = lnSw.getD k 0 := by
  have : ∀ e ∈ swL, ∀ k ∈ List.range 37, kd (e + k) = kdSw.getD k 99 ∧ ln (e + k) = lnSw.getD k 0 := by decide +kernel
  exact fun e he k hk => this e he k (List.mem_range.mpr hk)
theorem sw_at {e : Nat} (h : sw e) {k c : Nat} (hk : k < 37) (hc : kdSw.getD k 99 = c) : isK (e + k) c := ⟨by have := sw_lt e h; omega, by rw [(sw_k e h k hk).1]; exact hc⟩
theorem sw_s {e : Nat} (h : sw e) : isK e 6 := sw_at h (k := 0) (by decide) rfl
theorem sw_ps {e : Nat} (h : sw e) : isK (e + 1) 13 := sw_at h (k := 1) (by decide) rfl
theorem sw_pm {e : Nat} (h : sw e) : isK (e + 2) 3 := sw_at h (k := 2) (by decide) rfl
theorem sw_ld {e : Nat} (h : sw e) : isK (e + 7) 1 := sw_at h (k := 7) (by decide) rfl
theorem sw_pma {e : Nat} (h : sw e) {j : Nat} (hj : j < 4) : isK (e + 3 + j) 11 ∧ ln (e + 3 + j) = 240 := by
  have := sw_k e h (3 + j) (by omega)
  have := sw_lt e h
  rw [show e + 3 + j = e + (3 + j) by omega]
  have hh : j = 0 ∨ j = 1 ∨ j = 2 ∨ j = 3 := by omega
  rcases hh with rfl | rfl | rfl | rfl <;> exact ⟨⟨by omega, by simp_all; rfl⟩, by simp_all; rfl⟩
theorem sw_lda {e : Nat} (h : sw e) {j : Nat} (hj : j < 4) : isK (e + 8 + j) 11 ∧ ln (e + 8 + j) = 20 := by
  have := sw_k e h (8 + j) (by omega)
  have := sw_lt e h
  rw [show e + 8 + j = e + (8 + j) by omega]
  have hh : j = 0 ∨ j = 1 ∨ j = 2 ∨ j = 3 := by omega
  rcases hh with rfl | rfl | rfl | rfl <;> exact ⟨⟨by omega, by simp_all; rfl⟩, by simp_all; rfl⟩
theorem sw_by {e : Nat} (h : sw e) : isK (e + 12) 11 ∧ ln (e + 12) = 4 := ⟨sw_at h (k := 12) (by decide) rfl, (sw_k e h 12 (by decide)).2⟩
theorem kdp : ∀ p, p < 6 → kdSw.getD (13 + 4 * p) 99 = 2 ∧ (∀ j, j < 3 → kdSw.getD (14 + 4 * p + j) 99 = 11 ∧ lnSw.getD (14 + 4 * p + j) 0 = 240) := by
  have : ∀ p ∈ List.range 6, kdSw.getD (13 + 4 * p) 99 = 2 ∧ (∀ j ∈ List.range 3, kdSw.getD (14 + 4 * p + j) 99 = 11 ∧ lnSw.getD (14 + 4 * p + j) 0 = 240) := by decide +kernel
  exact fun p hp => ⟨(this p (List.mem_range.mpr hp)).1, fun j hj => (this p (List.mem_range.mpr hp)).2 j (List.mem_range.mpr hj)⟩
theorem sw_pt {e : Nat} (h : sw e) {p : Nat} (hp : p < 6) : isK (e + 13 + 4 * p) 2 := by
  rw [show e + 13 + 4 * p = e + (13 + 4 * p) by omega]
  exact sw_at h (by omega) (kdp p hp).1
theorem sw_pa {e : Nat} (h : sw e) {p : Nat} (hp : p < 6) {j : Nat} (hj : j < 3) : isK (e + 13 + 4 * p + 1 + j) 11 ∧ ln (e + 13 + 4 * p + 1 + j) = 240 := by
  rw [show e + 13 + 4 * p + 1 + j = e + (14 + 4 * p + j) by omega]
  exact ⟨sw_at h (by omega) ((kdp p hp).2 j hj).1, by rw [(sw_k e h _ (by omega)).2]; exact ((kdp p hp).2 j hj).2⟩
/-- from the row of ports to port p -/
theorem aq {e : Nat} (h : sw e) {p : Nat} (hp : p < 6) {kk : PT} {L : List (Option AV)} {r : List AV} {μ : MM} (hk : kk L (.inr (.inr (e + 13 + 4 * p)) :: r) μ) : (0 : Int) ≤ (p : Int) ∧ (p : Int) < 6 ∧ ((isK (e + ro 6 0) 13 ∧ kk L (.inr (.inr (e + ro 6 0 + 12 + 4 * (p : Int).toNat)) :: r) μ) ∨ (isK (e + ro 6 0) 14 ∧ kk L (.inr (.inr (e + ro 6 0 + 1 + 37 * (p : Int).toNat)) :: r) μ)) := by
  refine ⟨by omega, by omega, Or.inl ⟨sw_ps h, ?_⟩⟩
  rw [Int.toNat_natCast, show e + ro 6 0 + 12 + 4 * p = e + 13 + 4 * p from by show e + 1 + 12 + 4 * p = _; omega]
  exact hk
def HC (e : Nat) (μ : MM) (S : AS) : Prop := sw e ∧ Rg S ∧ CR e μ.1 μ.2 S
theorem HC.n {e : Nat} {μ : MM} {S : AS} (h : HC e μ S) : μ.1 e 1 = zN S := h.2.2.1
theorem HC.t {e : Nat} {μ : MM} {S : AS} (h : HC e μ S) : μ.1 e 2 = zT S := h.2.2.2.1
theorem HC.kp {e : Nat} {μ : MM} {S : AS} (h : HC e μ S) : μ.1 e 3 = zK S := h.2.2.2.2.1
theorem HC.cl {e : Nat} {μ : MM} {S : AS} (h : HC e μ S) : μ.1 e 4 = zC S := h.2.2.2.2.2.1
theorem HC.ar {e : Nat} {μ : MM} {S : AS} (h : HC e μ S) : μ.1 e 5 = zA S := h.2.2.2.2.2.2.1
theorem HC.cp {e : Nat} {μ : MM} {S : AS} (h : HC e μ S) {p : Nat} (hp : p < zN S) : CP (e + 13 + 4 * p) μ.1 μ.2 S p := h.2.2.2.2.2.2.2.1 p hp
theorem HC.pn {e : Nat} {μ : MM} {S : AS} (h : HC e μ S) : μ.1 (e + 2) 4 = (zR S).length := h.2.2.2.2.2.2.2.2.1
theorem HC.pm {e : Nat} {μ : MM} {S : AS} (h : HC e μ S) {i j : Nat} {m : Prm} (hm : (zR S)[i]? = some m) (hj : j < 4) : μ.1 (e + 3 + j) i = mw m j := h.2.2.2.2.2.2.2.2.2.1 i m hm j hj
theorem HC.dn {e : Nat} {μ : MM} {S : AS} (h : HC e μ S) : μ.1 (e + 7) 5 = (zD S).length := h.2.2.2.2.2.2.2.2.2.2.1
theorem HC.dr {e : Nat} {μ : MM} {S : AS} (h : HC e μ S) {i j : Nat} {d : Drp} (hi : i < 20) (hd : (zD S)[i]? = some d) (hj : j < 4) : μ.1 (e + 8 + j) (((zD S).length - 1 - i) % 20) = dv d j := h.2.2.2.2.2.2.2.2.2.2.2.1 i d hi hd j hj
theorem HC.qr {e : Nat} {μ : MM} {S : AS} (h : HC e μ S) {p : Nat} (hp : p < zN S) {i j : Nat} {q : Pkt} (hq : (zQ S p)[i]? = some q) (hj : j < 3) : μ.1 (e + 13 + 4 * p + 1 + j) i = qw q j := (h.cp hp).2.2.2.2.2.2.2.2.2.2.2.2 i q hq j hj
theorem P_X2_room {μ : MM} {K : Option AV → MM → Prop} {q : Nat} (h : isK q 2) (hK : K (some (.inl (μ.1 q 1 - μ.1 q 6 + μ.1 q 7))) μ) : w_X2_room [.inr (.inr q)] μ K := ⟨cs8 rfl, h, h, h, hK⟩
theorem P_X2_free {μ : MM} {K : Option AV → MM → Prop} {q : Nat} (h : isK q 2) (hK : K (some (.inl (μ.1 q 1 - μ.1 q 6 + μ.1 q 7 - μ.1 q 5))) μ) : w_X2_free [.inr (.inr q)] μ K := ⟨cs8 rfl, h, cs8 rfl, P_X2_room h ⟨h, hK⟩⟩
theorem P_X2_ownLeft {μ : MM} {K : Option AV → MM → Prop} {q : Nat} (h : isK q 2) (hK : K (some (.inl (μ.1 q 1 - μ.1 q 6 - μ.1 q 5))) μ) : w_X2_ownLeft [.inr (.inr q)] μ K := ⟨cs8 rfl, h, h, h, hK⟩
theorem P_X2_keptBack {μ : MM} {K : Option AV → MM → Prop} {q : Nat} {x : Int} (h : isK q 2) (h1 : 0 ≤ μ.1 q 3 ∧ μ.1 q 3 ≤ 4800640) (h2 : 0 ≤ x ∧ x ≤ 200) (hK : K (some (.inl ((μ.1 q 3 * x + 1599).tdiv 1600))) μ) : w_X2_keptBack [.inr (.inr q), .inl x] μ K := by
  have h3 : 0 ≤ μ.1 q 3 * x := Int.mul_nonneg h1.1 h2.1
  have h4 : μ.1 q 3 * x ≤ 4800640 * 200 := Int.mul_le_mul h1.2 h2.2 h2.1 (by omega)
  refine ⟨cs8 rfl, h, ⟨by omega, by omega⟩, ⟨by omega, by omega⟩, ?_, ⟨by omega, by omega⟩, by decide, ?_⟩
  · show R64 (μ.1 q 3 * x + 1600 - 1)
    exact ⟨by omega, by omega⟩
  · rw [show μ.1 q 3 * x + 1599 = μ.1 q 3 * x + 1600 - 1 by omega] at hK
    exact hK
theorem P_X2_canLend {μ : MM} {K : Option AV → MM → Prop} {q : Nat} {x : Int} (h : isK q 2) (h1 : 0 ≤ μ.1 q 3 ∧ μ.1 q 3 ≤ 4800640) (h2 : 0 ≤ x ∧ x ≤ 200) (h3 : -20000 ≤ μ.1 q 1 - μ.1 q 6 - μ.1 q 5 ∧ μ.1 q 1 - μ.1 q 6 - μ.1 q 5 ≤ 20000) (hK : K (some (.inl (if μ.1 q 1 - μ.1 q 6 - μ.1 q 5 - (μ.1 q 3 * x + 1599).tdiv 1600 < 0 then 0 else μ.1 q 1 - μ.1 q 6 - μ.1 q 5 - (μ.1 q 3 * x + 1599).tdiv 1600))) μ) : w_X2_canLend [.inr (.inr q), .inl x] μ K := by
  have h4 : 0 ≤ μ.1 q 3 * x := Int.mul_nonneg h1.1 h2.1
  have h5 : μ.1 q 3 * x ≤ 4800640 * 200 := Int.mul_le_mul h1.2 h2.2 h2.1 (by omega)
  have h6 := td (x := μ.1 q 3 * x + 1599) (y := 1600) (by omega)
  refine ⟨cs8 rfl, h, cs8 rfl, P_X2_ownLeft h ⟨h, cs8 rfl, P_X2_keptBack h h1 h2 ⟨⟨by omega, by omega⟩, ⟨by omega, by omega⟩, cs8 rfl, ?_⟩⟩⟩
  rw [show (if μ.1 q 1 - μ.1 q 6 - μ.1 q 5 - (μ.1 q 3 * x + 1599).tdiv 1600 < 0 then 0 else μ.1 q 1 - μ.1 q 6 - μ.1 q 5 - (μ.1 q 3 * x + 1599).tdiv 1600) = max 0 (μ.1 q 1 - μ.1 q 6 - μ.1 q 5 - (μ.1 q 3 * x + 1599).tdiv 1600) by split <;> omega] at hK
  exact hK
theorem HC.free {K : Option AV → MM → Prop} {e : Nat} {μ : MM} {S : AS} (h : HC e μ S) {p : Nat} (hp : p < zN S) (hK : K (some (.inl (fre S p))) μ) : w_X2_free [.inr (.inr (e + 13 + 4 * p))] μ K := by
  have h6 := h.2.1.n6
  obtain ⟨c0, c1, c2, c3, c4, c5, c6, c7, c8, c9, c10, c11, c12⟩ := h.cp hp
  refine P_X2_free (sw_pt h.1 (by omega)) ?_
  rw [c1, c5, c6, c7]
  exact hK
theorem HC.kept {K : Option AV → MM → Prop} {e : Nat} {μ : MM} {S : AS} (h : HC e μ S) {p : Nat} (hp : p < zN S) (hK : K (some (.inl (kpt S p))) μ) : w_X2_keptBack [.inr (.inr (e + 13 + 4 * p)), .inl (zK S)] μ K := by
  have h6 := h.2.1.n6
  have hk := h.2.1.2.2.1
  have ha := h.2.1.2.2.2.2.1
  obtain ⟨-, -, hf, -⟩ := h.2.1.pp hp
  obtain ⟨c0, c1, c2, c3, c4, c5, c6, c7, c8, c9, c10, c11, c12⟩ := h.cp hp
  refine P_X2_keptBack (sw_pt h.1 (by omega)) (by rw [c3]; omega) hk ?_
  rw [c3]
  exact hK
theorem HC.lend {K : Option AV → MM → Prop} {e : Nat} {μ : MM} {S : AS} (h : HC e μ S) {p : Nat} (hp : p < zN S) (hK : K (some (.inl (cln S p))) μ) : w_X2_canLend [.inr (.inr (e + 13 + 4 * p)), .inl (zK S)] μ K := by
  have h6 := h.2.1.n6
  have hk := h.2.1.2.2.1
  have ha := h.2.1.2.2.2.2.1
  have hs := h.2.1.spR hp
  have hl := h.2.1.lntR p
  have hu := h.2.1.usdR hp
  obtain ⟨-, -, hf, -⟩ := h.2.1.pp hp
  obtain ⟨c0, c1, c2, c3, c4, c5, c6, c7, c8, c9, c10, c11, c12⟩ := h.cp hp
  refine P_X2_canLend (sw_pt h.1 (by omega)) (by rw [c3]; omega) hk (by rw [c1, c5, c6]; omega) ?_
  rw [c1, c3, c5, c6]
  exact hK
theorem HC.own {K : Option AV → MM → Prop} {e : Nat} {μ : MM} {S : AS} (h : HC e μ S) {p : Nat} (hp : p < zN S) (hK : K (some (.inl (zP S p 0 - lnt S p - usd S p))) μ) : w_X2_ownLeft [.inr (.inr (e + 13 + 4 * p))] μ K := by
  have h6 := h.2.1.n6
  obtain ⟨c0, c1, c2, c3, c4, c5, c6, c7, c8, c9, c10, c11, c12⟩ := h.cp hp
  refine P_X2_ownLeft (sw_pt h.1 (by omega)) ?_
  rw [c1, c5, c6]
  exact hK
theorem HC.num {K : Option AV → MM → Prop} {e : Nat} {μ : MM} {S : AS} (h : HC e μ S) {p : Nat} {x : Int} (hp : p < zN S) (hx : 0 ≤ x ∧ x ≤ 12) (hK : K (some (.inl (prtV S p x.toNat))) μ) : w_X2_number [.inr (.inr (e + 13 + 4 * p)), .inl x, .inl (zK S)] μ K := by
  have h6 := h.2.1.n6
  have hq := sw_pt h.1 (p := p) (by omega)
  obtain ⟨c0, c1, c2, c3, c4, c5, c6, c7, c8, c9, c10, c11, c12⟩ := h.cp hp
  refine ⟨cs8 rfl, ⟨by omega, by omega⟩, swc (fun e => ?_) (swc (fun e => ?_) (swc (fun e => ?_) (swc (fun e => ?_) (swc (fun e => ?_) (swc (fun e => ?_) (swc (fun e => ?_) (swc (fun e => ?_) (swc (fun e => ?_) (swc (fun e => ?_) (swc (fun e => ?_) (swc (fun e => ?_) swn))))))))))), fun hd => ?_⟩
  · subst e; refine ⟨hq, ?_⟩; rw [c1]; exact hK
  · subst e; refine ⟨hq, ?_⟩; rw [c2]; exact hK
  · subst e; refine ⟨hq, ?_⟩; rw [c5]; exact hK
  · subst e; exact ⟨hq, cs8 rfl, h.free hp hK⟩
  · subst e; refine ⟨hq, ?_⟩; rw [c6]; exact hK
  · subst e; refine ⟨hq, ?_⟩; rw [c7]; exact hK
  · subst e; exact ⟨hq, cs8 rfl, h.lend hp hK⟩
  · subst e; refine ⟨hq, ?_⟩; rw [c3]; exact hK
  · subst e; exact ⟨hq, cs8 rfl, h.kept hp hK⟩
  · subst e; refine ⟨hq, ?_⟩; rw [c11]; exact hK
  · subst e; refine ⟨hq, ?_⟩; rw [c8]; exact hK
  · subst e; refine ⟨hq, ?_⟩; rw [c9]; exact hK
  · simp only [List.forall_mem_cons] at hd
    have e : x = 12 := by omega
    subst e; refine ⟨hq, ?_⟩; rw [c10]; exact hK
theorem sumOfPorts_lp {μ : MM} {post : Option AV → MM → Prop} {e : Nat} {S : AS} (h : HC e μ S) {x : Int} (hx : 0 ≤ x ∧ x ≤ 12) (hK : post (some (.inl (sg (zN S) (fun p => prtV S p x.toNat)))) μ) : ∀ (k i : Nat), i + k = zN S → B_X6_sumOfPorts_4 post [some (.inr (.inr e)), some (.inl x), some (.inl (sg i (fun p => prtV S p x.toNat))), some (.inl (i : Int))] [] μ := by
  have h6 := h.2.1.n6
  have e1 := h.n
  have e3 := h.kp
  intro k
  induction k with
  | zero =>
    intro i hi
    have : i = zN S := by omega
    subst this
    refine lfp_in ⟨sw_s h.1, ?_⟩
    rw [e1]
    exact ⟨⟨by omega, by omega⟩, ⟨by omega, by omega⟩, fun _ => hK, fun q => absurd (by omega) q⟩
  | succ k ih =>
    intro i hi
    refine lfp_in ⟨sw_s h.1, ?_⟩
    rw [e1]
    refine ⟨⟨by omega, by omega⟩, ⟨by omega, by omega⟩, fun q => absurd q (by omega), fun _ => ⟨sw_s h.1, aq h.1 (by omega) ⟨sw_s h.1, ?_⟩⟩⟩
    rw [e3]
    exact ⟨sw_pt h.1 (by omega), cs8 rfl, h.num (by omega) hx (ih (i + 1) (by omega))⟩
theorem P_X6_sumOfPorts {μ : MM} {K : Option AV → MM → Prop} {e : Nat} {S : AS} (h : HC e μ S) {x : Int} (hx : 0 ≤ x ∧ x ≤ 12) (hK : K (some (.inl (sg (zN S) (fun p => prtV S p x.toNat)))) μ) : w_X6_sumOfPorts [.inr (.inr e), .inl x] μ K := ⟨cs8 rfl, sumOfPorts_lp h hx hK (zN S) 0 (by omega)⟩
theorem lendableTo_lp {μ : MM} {post : Option AV → MM → Prop} {e : Nat} {S : AS} (h : HC e μ S) {p : Nat} (hp : p < 6) (hK : post (some (.inl (oth S p))) μ) : ∀ (k i : Nat), i + k = zN S → B_X6_lendableTo_4 post [some (.inr (.inr e)), some (.inl (p : Int)), some (.inl (sg i (fun i => if i = p then 0 else cln S i))), some (.inl (i : Int))] [] μ := by
  have h6 := h.2.1.n6
  have e1 := h.n
  have e3 := h.kp
  intro k
  induction k with
  | zero =>
    intro i hi
    have : i = zN S := by omega
    subst this
    refine lfp_in ⟨sw_s h.1, ?_⟩
    rw [e1]
    exact ⟨⟨by omega, by omega⟩, ⟨by omega, by omega⟩, fun _ => hK, fun q => absurd (by omega) q⟩
  | succ k ih =>
    intro i hi
    have key := ih (i + 1) (by omega)
    simp only [sg] at key
    refine lfp_in ⟨sw_s h.1, ?_⟩
    rw [e1]
    refine ⟨⟨by omega, by omega⟩, ⟨by omega, by omega⟩, fun q => absurd q (by omega), fun _ => ⟨⟨by omega, by omega⟩, ⟨by omega, by omega⟩, fun q => ?_, fun q => ⟨sw_s h.1, aq h.1 (by omega) ⟨sw_s h.1, ?_⟩⟩⟩⟩
    · rw [if_pos (by omega), Int.add_zero] at key
      exact key
    · rw [e3]
      rw [if_neg (by omega)] at key
      exact ⟨sw_pt h.1 (by omega), cs8 rfl, h.lend (by omega) key⟩
theorem P_X6_lendableTo {μ : MM} {K : Option AV → MM → Prop} {e : Nat} {S : AS} (h : HC e μ S) {x : Int} (p : Nat) (hx : x = p) (hp : p < 6) (hK : K (some (.inl (oth S p))) μ) : w_X6_lendableTo [.inr (.inr e), .inl x] μ K := by
  subst hx
  exact ⟨cs8 rfl, lendableTo_lp h hp hK (zN S) 0 (by omega)⟩
theorem P_X6_missing {μ : MM} {K : Option AV → MM → Prop} {e : Nat} {S : AS} (h : HC e μ S) {x c : Int} (p : Nat) (hx : x = p) (hp : p < zN S) (hK : K (some (.inl (c - fre S p))) μ) : w_X6_missing [.inr (.inr e), .inl x, .inl c] μ K := by
  subst hx
  have h6 := h.2.1.n6
  exact ⟨cs8 rfl, sw_s h.1, aq h.1 (by omega) ⟨sw_pt h.1 (by omega), cs8 rfl, h.free hp hK⟩⟩
theorem P_X6_wayOf {μ : MM} {K : Option AV → MM → Prop} {e : Nat} {S : AS} (h : HC e μ S) {x c : Int} (p : Nat) (hx : x = p) (hp : p < zN S) (hc : 1 ≤ c ∧ c ≤ 40) (hK : K (some (.inl (way S p c : Nat))) μ) : w_X6_wayOf [.inr (.inr e), .inl x, .inl c] μ K := by
  subst hx
  have h6 := h.2.1.n6
  have hr := h.2.1.spR hp
  have hu := h.2.1.usdR hp
  have hq := oth_le h.2.1 p
  have hpt := sw_pt h.1 (p := p) (by omega)
  obtain ⟨c0, c1, c2, c3, c4, c5, c6, c7, c8, c9, c10, c11, c12⟩ := h.cp hp
  refine ⟨cs8 rfl, sw_s h.1, aq h.1 (by omega) ⟨sw_s h.1, cs8 rfl, P_X6_missing h p rfl hp ⟨⟨by omega, by omega⟩, fun q => ⟨hpt, hpt, ?_⟩, fun q => ?_⟩⟩⟩
  · rw [c5, c1]
    refine ⟨⟨by omega, by omega⟩, ⟨by omega, by omega⟩, fun q2 => ⟨sw_s h.1, cs8 rfl, P_X6_missing h p rfl hp ⟨sw_s h.1, cs8 rfl, P_X6_lendableTo h p rfl (by omega) ⟨⟨by omega, by omega⟩, ⟨by omega, by omega⟩, fun q3 => ?_, fun q3 => ?_⟩⟩⟩, fun q2 => ?_⟩
    · have e : way S p c = 3 := by unfold way; rw [if_neg (by omega), if_neg (by omega), if_neg (by omega)]
      rw [e] at hK; exact hK
    · have e : way S p c = 2 := by unfold way; rw [if_neg (by omega), if_neg (by omega), if_pos (by omega)]
      rw [e] at hK; exact hK
    · have e : way S p c = 1 := by unfold way; rw [if_neg (by omega), if_pos (by omega)]
      rw [e] at hK; exact hK
  · have e : way S p c = 0 := by unfold way; rw [if_pos (by omega)]
    rw [e] at hK; exact hK
