/-! PURE 10: the class's questions -/
abbrev xI : String := "java/lang/IndexOutOfBoundsException"
abbrev xA : String := "java/lang/IllegalArgumentException"
abbrev xS : String := "java/lang/IllegalStateException"
/-- the class's outcome is the answer a; E names what is thrown -/
def OC (E : List String) (a : Int × Int) (K : Option AV → MM → Prop) (X : String → MM → Prop) (μ : MM) : Prop := (a.1 = 0 → K (some (.inl a.2)) μ) ∧ ∀ (j : Nat) (s : String), E[j]? = some s → a.1 = ((j + 1 : Nat) : Int) → X s μ
theorem OC.k {E : List String} {a : Int × Int} {K : Option AV → MM → Prop} {X : String → MM → Prop} {μ : MM} {v : Int} (h : OC E a K X μ) (e : a = (0, v)) : K (some (.inl v)) μ := by
  subst e
  exact h.1 rfl
theorem OC.x {E : List String} {a : Int × Int} {K : Option AV → MM → Prop} {X : String → MM → Prop} {μ : MM} {v : Int} {s : String} (h : OC E a K X μ) (j : Nat) (he : E[j]? = some s) (e : a = (((j + 1 : Nat) : Int), v)) : X s μ := by
  subst e
  exact h.2 j s he rfl
theorem h0X : isK 0 9 := ⟨by decide, by decide +kernel⟩
theorem P_X9_within {μ : MM} {K : Option AV → MM → Prop} {x l u : Int} (hx : R32 x) (hl : R32 l) (hu : R32 u) (h1 : l ≤ x → x ≤ u → K (some (.inl 1)) μ) (h0 : ¬ (l ≤ x ∧ x ≤ u) → K (some (.inl 0)) μ) : w_X9_within [.inl x, .inl l, .inl u] μ K :=
  ⟨cs8 rfl, hx, hl, fun q => ⟨Or.inl rfl, h0 (by omega)⟩, fun q => ⟨hx, hu, fun q2 => ⟨Or.inl rfl, h0 (by omega)⟩, fun q2 => ⟨Or.inr rfl, h1 (by omega) (by omega)⟩⟩⟩
theorem P_X9_needWithin {μ : MM} {K : Option AV → MM → Prop} {X : String → MM → Prop} {x l u : Int} (hx : R32 x) (hl : R32 l) (hu : R32 u) (h1 : l ≤ x → x ≤ u → K none μ) (h0 : ¬ (l ≤ x ∧ x ≤ u) → X xA μ) : w_X9_needWithin [.inl x, .inl l, .inl u] μ K X :=
  ⟨cs8 rfl, cs8 rfl, cs8 rfl, P_X9_within hx hl hu (fun q1 q2 => ⟨⟨by omega, by omega⟩, fun _ => h1 q1 q2, fun q => absurd q (by decide)⟩) (fun q => ⟨⟨by omega, by omega⟩, fun q => absurd rfl q, fun _ => ⟨cs8 rfl, h0 q⟩⟩)⟩
theorem P_X9_needIndex {μ : MM} {K : Option AV → MM → Prop} {X : String → MM → Prop} {x n : Int} (hx : R32 x) (hn : R32 n) (h1 : 0 ≤ x → x < n → K none μ) (h0 : ¬ (0 ≤ x ∧ x < n) → X xI μ) : w_X9_needIndex [.inl x, .inl n] μ K X :=
  ⟨cs8 rfl, hx, fun q => ⟨cs8 rfl, h0 (by omega)⟩, fun q => ⟨hx, hn, fun q2 => h1 (by omega) q2, fun q2 => ⟨cs8 rfl, h0 (by omega)⟩⟩⟩
theorem P_X9_needPort {μ : MM} {K : Option AV → MM → Prop} {X : String → MM → Prop} {S : AS} {x : Int} (h : HC 11 μ S) (hx : R32 x) (h1 : 0 ≤ x → x < zN S → K none μ) (h0 : ¬ (0 ≤ x ∧ x < zN S) → X xI μ) : w_X9_needPort [.inr (.inr 0), .inl x] μ K X := by
  have h6 := h.2.1.n6
  have e1 := h.n
  refine ⟨cs8 rfl, h0X, sw_s h.1, ?_⟩
  show _ ∧ _ ∧ w_X9_needIndex [.inl x, .inl (μ.1 11 1)] _ _ _
  rw [e1]
  exact ⟨cs8 rfl, cs8 rfl, P_X9_needIndex hx ⟨by omega, by omega⟩ h1 h0⟩
theorem sg_eq {S : AS} {f g : Nat → Int} (h : ∀ p, f p = g p) : sg (zN S) f = sg (zN S) g := sg_congr (fun p _ => h p)
theorem P_X9_setting {μ : MM} {K : Option AV → MM → Prop} {X : String → MM → Prop} {S : AS} {x : Int} (h : HC 11 μ S) (hx : R32 x) (hK : OC [xA] (aSet S x) K X μ) : w_X9_setting [.inr (.inr 0), .inl x] μ K X := by
  have hs := sw_s h.1
  refine ⟨cs8 rfl, cs8 rfl, cs8 rfl, P_X9_needWithin hx ⟨by omega, by omega⟩ ⟨by omega, by omega⟩ (fun q1 q2 => ?_) (fun q => hK.x 0 rfl (if_neg q))⟩
  have hK := hK.k (if_pos ⟨q1, q2⟩)
  refine ⟨hx, swc (fun e => ?_) (swc (fun e => ?_) (swc (fun e => ?_) (swc (fun e => ?_) (swc (fun e => ?_) (swc (fun e => ?_) (swc (fun e => ?_) (swc (fun e => ?_) (swc (fun e => ?_) (swc (fun e => ?_) (swc (fun e => ?_) swn)))))))))), fun hd => ?_⟩
  · subst e; refine ⟨h0X, hs, ?_⟩; show K (some (.inl (μ.1 11 1))) μ; rw [h.n]; exact hK
  · subst e; refine ⟨h0X, hs, ?_⟩; show K (some (.inl (μ.1 11 2))) μ; rw [h.t]; exact hK
  · subst e; refine ⟨h0X, hs, ?_⟩; show K (some (.inl (μ.1 11 3))) μ; rw [h.kp]; exact hK
  · subst e; refine ⟨h0X, hs, ?_⟩; show K (some (.inl (μ.1 11 4))) μ; rw [h.cl]; exact hK
  · subst e; exact ⟨h0X, hs, cs8 rfl, P_X6_sumOfPorts h ⟨by omega, by omega⟩ hK⟩
  · subst e; exact ⟨h0X, hs, cs8 rfl, P_X6_sumOfPorts h ⟨by omega, by omega⟩ hK⟩
  · subst e; exact ⟨h0X, hs, cs8 rfl, P_X6_sumOfPorts h ⟨by omega, by omega⟩ hK⟩
  · subst e; exact ⟨h0X, hs, cs8 rfl, P_X6_sumOfPorts h ⟨by omega, by omega⟩ hK⟩
  · subst e; refine ⟨h0X, hs, sw_pm h.1, ?_⟩; show K (some (.inl (μ.1 (11 + 2) 4))) μ; rw [h.pn]; exact hK
  · subst e; exact ⟨h0X, hs, cs8 rfl, P_X6_sumOfPorts h ⟨by omega, by omega⟩ hK⟩
  · subst e; refine ⟨h0X, hs, sw_ld h.1, ?_⟩; show K (some (.inl (μ.1 (11 + 7) 5))) μ; rw [h.dn]; exact hK
  · simp only [List.forall_mem_cons] at hd
    have e : x = 11 := by omega
    subst e; refine ⟨h0X, hs, ?_⟩; show K (some (.inl (μ.1 11 5))) μ; rw [h.ar]; exact hK
theorem P_X9_port {μ : MM} {K : Option AV → MM → Prop} {X : String → MM → Prop} {S : AS} {x y : Int} (h : HC 11 μ S) (hx : R32 x) (hy : R32 y) (hK : OC [xI, xA] (aPort S x y) K X μ) : w_X9_port [.inr (.inr 0), .inl x, .inl y] μ K X := by
  have hs := sw_s h.1
  have h6 := h.2.1.n6
  refine ⟨cs8 rfl, h0X, cs8 rfl, P_X9_needPort h hx (fun q1 q2 => ?_) (fun q => hK.x 0 rfl (if_neg q))⟩
  refine ⟨cs8 rfl, cs8 rfl, P_X9_needWithin hy ⟨by omega, by omega⟩ ⟨by omega, by omega⟩ (fun r1 r2 => ?_) (fun q => hK.x 1 rfl (by unfold aPort; rw [if_pos ⟨q1, q2⟩, if_neg q]; rfl))⟩
  obtain ⟨p, rfl⟩ : ∃ p : Nat, x = p := ⟨x.toNat, by omega⟩
  have hK := hK.k (by unfold aPort; rw [if_pos ⟨q1, q2⟩, if_pos ⟨r1, r2⟩])
  refine ⟨h0X, hs, aq (e := 11) h.1 (p := p) (by omega) ⟨h0X, hs, ?_⟩⟩
  show _ ∧ _ ∧ w_X2_number [.inr (.inr (11 + 13 + 4 * p)), .inl y, .inl (μ.1 11 3)] _ _
  rw [h.kp]
  exact ⟨sw_pt h.1 (by omega), cs8 rfl, h.num (by omega) ⟨r1, r2⟩ hK⟩
theorem P_X9_packet {μ : MM} {K : Option AV → MM → Prop} {X : String → MM → Prop} {S : AS} {x i y : Int} (h : HC 11 μ S) (hx : R32 x) (hi : R32 i) (hy : R32 y) (hK : OC [xI, xA] (aPkt S x i y) K X μ) : w_X9_packet [.inr (.inr 0), .inl x, .inl i, .inl y] μ K X := by
  have hs := sw_s h.1
  have h6 := h.2.1.n6
  refine ⟨cs8 rfl, h0X, cs8 rfl, P_X9_needPort h hx (fun q1 q2 => ?_) (fun q => hK.x 0 rfl (if_neg (fun z => q ⟨z.1, z.2.1⟩)))⟩
  obtain ⟨p, rfl⟩ : ∃ p : Nat, x = p := ⟨x.toNat, by omega⟩
  have hp : p < zN S := by omega
  have hpt := sw_pt h.1 (p := p) (by omega)
  have hl := h.2.1.ql hp
  obtain ⟨c0, c1, c2, c3, c4, c5, c6, c7, c8, c9, c10, c11, c12⟩ := h.cp hp
  refine ⟨h0X, hs, aq (e := 11) h.1 (p := p) (by omega) ⟨hpt, ?_⟩⟩
  rw [c11]
  refine ⟨cs8 rfl, cs8 rfl, P_X9_needIndex hi ⟨by omega, by omega⟩ (fun r1 r2 => ?_) (fun q => hK.x 0 rfl (if_neg (fun z => q ⟨z.2.2.1, z.2.2.2⟩)))⟩
  refine ⟨cs8 rfl, cs8 rfl, P_X9_needWithin hy ⟨by omega, by omega⟩ ⟨by omega, by omega⟩ (fun s1 s2 => ?_) (fun q => hK.x 1 rfl (by unfold aPkt; rw [if_pos ⟨q1, q2, r1, r2⟩, if_neg q]; rfl))⟩
  obtain ⟨n, rfl⟩ : ∃ n : Nat, i = n := ⟨i.toNat, by omega⟩
  have hn : n < (zQ S p).length := by omega
  obtain ⟨q, hq⟩ : ∃ q, (zQ S p)[n]? = some q := ⟨(zQ S p)[n], List.getElem?_eq_getElem hn⟩
  have hK := hK.k (v := qw q y.toNat) (by unfold aPkt; rw [if_pos ⟨q1, q2, r1, r2⟩, if_pos ⟨s1, s2⟩]; simp only [Int.toNat_natCast]; rw [hq])
  have a0 := sw_pa h.1 (p := p) (by omega) (j := 0) (by omega)
  have a1 := sw_pa h.1 (p := p) (by omega) (j := 1) (by omega)
  have a2 := sw_pa h.1 (p := p) (by omega) (j := 2) (by omega)
  refine ⟨hy, swc (fun e => ?_) (swc (fun e => ?_) swn), fun hd => ?_⟩
  · subst e
    refine ⟨hpt, a0.1, by omega, ?_, ?_⟩
    · show (n : Int) < (ln (11 + 13 + 4 * p + 1 + 0) : Nat); rw [a0.2]; omega
    · show K (some (.inl (μ.1 (11 + 13 + 4 * p + 1 + 0) n))) μ; rw [h.qr hp hq (by omega)]; exact hK
  · subst e
    refine ⟨hpt, a1.1, by omega, ?_, ?_⟩
    · show (n : Int) < (ln (11 + 13 + 4 * p + 1 + 1) : Nat); rw [a1.2]; omega
    · show K (some (.inl (μ.1 (11 + 13 + 4 * p + 1 + 1) n))) μ; rw [h.qr hp hq (by omega)]; exact hK
  · simp only [List.forall_mem_cons] at hd
    have e : y = 2 := by omega
    subst e
    refine ⟨hpt, a2.1, by omega, ?_, ?_⟩
    · show (n : Int) < (ln (11 + 13 + 4 * p + 1 + 2) : Nat); rw [a2.2]; omega
    · show K (some (.inl (μ.1 (11 + 13 + 4 * p + 1 + 2) n))) μ; rw [h.qr hp hq (by omega)]; exact hK
theorem P_X9_promise {μ : MM} {K : Option AV → MM → Prop} {X : String → MM → Prop} {S : AS} {i y : Int} (h : HC 11 μ S) (hi : R32 i) (hy : R32 y) (hK : OC [xI, xA] (aPrm S i y) K X μ) : w_X9_promise [.inr (.inr 0), .inl i, .inl y] μ K X := by
  have hs := sw_s h.1
  have hm := sw_pm h.1
  have h6 := h.2.1.pmn
  refine ⟨cs8 rfl, h0X, hs, hm, ?_⟩
  show _ ∧ _ ∧ w_X9_needIndex [.inl i, .inl (μ.1 (11 + 2) 4)] _ _ _
  rw [h.pn]
  refine ⟨cs8 rfl, cs8 rfl, P_X9_needIndex hi ⟨by omega, by omega⟩ (fun r1 r2 => ?_) (fun q => hK.x 0 rfl (if_neg q))⟩
  refine ⟨cs8 rfl, cs8 rfl, P_X9_needWithin hy ⟨by omega, by omega⟩ ⟨by omega, by omega⟩ (fun s1 s2 => ?_) (fun q => hK.x 1 rfl (by unfold aPrm; rw [if_pos ⟨r1, r2⟩, if_neg q]; rfl))⟩
  obtain ⟨n, rfl⟩ : ∃ n : Nat, i = n := ⟨i.toNat, by omega⟩
  have hn : n < (zR S).length := by omega
  obtain ⟨m, hq⟩ : ∃ m, (zR S)[n]? = some m := ⟨(zR S)[n], List.getElem?_eq_getElem hn⟩
  have hK := hK.k (v := mw m y.toNat) (by unfold aPrm; rw [if_pos ⟨r1, r2⟩, if_pos ⟨s1, s2⟩]; simp only [Int.toNat_natCast]; rw [hq])
  have a0 := sw_pma h.1 (j := 0) (by omega)
  have a1 := sw_pma h.1 (j := 1) (by omega)
  have a2 := sw_pma h.1 (j := 2) (by omega)
  have a3 := sw_pma h.1 (j := 3) (by omega)
  refine ⟨hy, swc (fun e => ?_) (swc (fun e => ?_) (swc (fun e => ?_) swn)), fun hd => ?_⟩
  · subst e
    refine ⟨h0X, hs, hm, a0.1, by omega, ?_, ?_⟩
    · show (n : Int) < (ln (11 + 3 + 0) : Nat); rw [a0.2]; omega
    · show K (some (.inl (μ.1 (11 + 3 + 0) n))) μ; rw [h.pm hq (by omega)]; exact hK
  · subst e
    refine ⟨h0X, hs, hm, a1.1, by omega, ?_, ?_⟩
    · show (n : Int) < (ln (11 + 3 + 1) : Nat); rw [a1.2]; omega
    · show K (some (.inl (μ.1 (11 + 3 + 1) n))) μ; rw [h.pm hq (by omega)]; exact hK
  · subst e
    refine ⟨h0X, hs, hm, a2.1, by omega, ?_, ?_⟩
    · show (n : Int) < (ln (11 + 3 + 2) : Nat); rw [a2.2]; omega
    · show K (some (.inl (μ.1 (11 + 3 + 2) n))) μ; rw [h.pm hq (by omega)]; exact hK
  · simp only [List.forall_mem_cons] at hd
    have e : y = 3 := by omega
    subst e
    refine ⟨h0X, hs, hm, a3.1, by omega, ?_, ?_⟩
    · show (n : Int) < (ln (11 + 3 + 3) : Nat); rw [a3.2]; omega
    · show K (some (.inl (μ.1 (11 + 3 + 3) n))) μ; rw [h.pm hq (by omega)]; exact hK
theorem P_X3_isBetween {μ : MM} {K : Option AV → MM → Prop} {e : Nat} {S : AS} (h : HC e μ S) {i : Nat} {m : Prm} {l b : Int} (hm : (zR S)[i]? = some m) (hl : R32 l) (hb : R32 b) (h1 : m.1 = l → (b = -1 ∨ m.2.1 = b) → K (some (.inl 1)) μ) (h0 : ¬ (m.1 = l ∧ (b = -1 ∨ m.2.1 = b)) → K (some (.inl 0)) μ) : w_X3_isBetween [.inr (.inr (e + 2)), .inl (i : Int), .inl l, .inl b] μ K := by
  have hi := (List.getElem?_eq_some_iff.mp hm).1
  have h6 := h.2.1.pmn
  have hr := h.2.1.pmr (List.mem_of_getElem? hm)
  have h66 := h.2.1.n6
  have a0 := sw_pma h.1 (j := 0) (by omega)
  have a1 := sw_pma h.1 (j := 1) (by omega)
  have v0 : μ.1 (e + 3 + 0) i = (m.1 : Int) := h.pm hm (by omega)
  have v1 : μ.1 (e + 3 + 1) i = (m.2.1 : Int) := h.pm hm (by omega)
  refine ⟨cs8 rfl, sw_pm h.1, a0.1, by omega, ?_, ?_⟩
  · show (i : Int) < (ln (e + 3 + 0) : Nat); rw [a0.2]; omega
  show o_iload 2 _ _ [.inl (μ.1 (e + 3 + 0) i)] _
  rw [v0]
  refine ⟨⟨by omega, by omega⟩, hl, fun q => ⟨Or.inl rfl, h0 (fun z => q z.1)⟩, fun q => ⟨hb, ⟨by omega, by omega⟩, fun q2 => ⟨Or.inr rfl, h1 q (Or.inl q2)⟩, fun q2 => ⟨sw_pm h.1, a1.1, by omega, ?_, ?_⟩⟩⟩
  · show (i : Int) < (ln (e + 3 + 1) : Nat); rw [a1.2]; omega
  show o_iload 3 _ _ [.inl (μ.1 (e + 3 + 1) i)] _
  rw [v1]
  exact ⟨⟨by omega, by omega⟩, hb, fun q3 => ⟨Or.inl rfl, h0 (fun z => z.2.elim q2 q3)⟩, fun q3 => ⟨Or.inr rfl, h1 q (Or.inr q3)⟩⟩
theorem cellsBetween_lp {μ : MM} {post : Option AV → MM → Prop} {e : Nat} {S : AS} (h : HC e μ S) {p r : Nat} (hp : p < 6) (hr : r < 6) : ∀ (k i : Nat) (n : Int), i + k = (zR S).length → post (some (.inl (n + sm (((zR S).drop i).map (fun m => if m.1 = p ∧ m.2.1 = r then m.2.2.1 else 0))))) μ → B_X3_cellsBetween_5 post [some (.inr (.inr (e + 2))), some (.inl (p : Int)), some (.inl (r : Int)), some (.inl n), some (.inl (i : Int))] [] μ := by
  have hl := h.2.1.pmn
  have e4 := h.pn
  have hm3 := sw_pm h.1
  have a2 := sw_pma h.1 (j := 2) (by omega)
  intro k
  induction k with
  | zero =>
    intro i n hi hK
    rw [sm_end (by omega), Int.add_zero] at hK
    refine lfp_in ⟨hm3, ?_⟩
    rw [e4]
    exact ⟨⟨by omega, by omega⟩, ⟨by omega, by omega⟩, fun _ => hK, fun q => absurd (by omega) q⟩
  | succ k ih =>
    intro i n hi hK
    obtain ⟨m, hm⟩ : ∃ m, (zR S)[i]? = some m := ⟨(zR S)[i], List.getElem?_eq_getElem (by omega)⟩
    rw [sm_drop hm] at hK
    have v2 : μ.1 (e + 3 + 2) i = m.2.2.1 := h.pm hm (by omega)
    refine lfp_in ⟨hm3, ?_⟩
    rw [e4]
    refine ⟨⟨by omega, by omega⟩, ⟨by omega, by omega⟩, fun q => absurd q (by omega), fun _ => ⟨hm3, cs8 rfl, P_X3_isBetween h hm ⟨by omega, by omega⟩ ⟨by omega, by omega⟩ (fun q1 q2 => ⟨⟨by omega, by omega⟩, fun q => absurd q (by decide), fun _ => ⟨hm3, a2.1, by omega, ?_, ?_⟩⟩) (fun q => ⟨⟨by omega, by omega⟩, fun _ => ?_, fun q => absurd rfl q⟩)⟩⟩
    · show (i : Int) < (ln (e + 3 + 2) : Nat); rw [a2.2]; omega
    · have key := ih (i + 1) (n + m.2.2.1) (by omega) (by
        rw [if_pos (by omega), ← Int.add_assoc] at hK
        exact hK)
      rw [← v2] at key
      exact key
    · rw [if_neg (by omega), Int.zero_add] at hK
      exact ih (i + 1) n (by omega) hK
theorem P_X3_cellsBetween {μ : MM} {K : Option AV → MM → Prop} {e : Nat} {S : AS} (h : HC e μ S) {x y : Int} (p r : Nat) (hx : x = p) (hy : y = r) (hp : p < 6) (hr : r < 6) (hK : K (some (.inl (owd S p r))) μ) : w_X3_cellsBetween [.inr (.inr (e + 2)), .inl x, .inl y] μ K := by
  subst hx
  subst hy
  refine ⟨cs8 rfl, cellsBetween_lp h hp hr (zR S).length 0 0 (by omega) ?_⟩
  rw [List.drop_zero, Int.zero_add]
  exact hK
theorem P_X9_owed {μ : MM} {K : Option AV → MM → Prop} {X : String → MM → Prop} {S : AS} {x y : Int} (h : HC 11 μ S) (hx : R32 x) (hy : R32 y) (hK : OC [xI] (aOwd S x y) K X μ) : w_X9_owed [.inr (.inr 0), .inl x, .inl y] μ K X := by
  have h6 := h.2.1.n6
  refine ⟨cs8 rfl, h0X, cs8 rfl, P_X9_needPort h hx (fun q1 q2 => ⟨h0X, cs8 rfl, P_X9_needPort h hy (fun r1 r2 => ?_) (fun q => hK.x 0 rfl (if_neg (fun z => q z.2)))⟩) (fun q => hK.x 0 rfl (if_neg (fun z => q z.1)))⟩
  obtain ⟨p, rfl⟩ : ∃ p : Nat, x = p := ⟨x.toNat, by omega⟩
  obtain ⟨r, rfl⟩ : ∃ r : Nat, y = r := ⟨y.toNat, by omega⟩
  have hK := hK.k (v := owd S p r) (if_pos ⟨⟨q1, q2⟩, r1, r2⟩)
  exact ⟨h0X, sw_s h.1, sw_pm h.1, cs8 rfl, P_X3_cellsBetween (e := 11) h p r rfl rfl (by omega) (by omega) hK⟩
