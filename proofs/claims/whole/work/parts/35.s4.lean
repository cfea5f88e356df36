/-! PURE 23: what a tick keeps -/
theorem fls_s {k : Nat} {S : AS} {m : Prm} (hm : (zR S)[0]? = some m) (hd : m.2.2.2 ≤ zC S) : fls (k + 1) S = fls k (tkb S 0 m.2.2.1 3) := by
  conv => lhs; unfold fls
  rw [hm]
  dsimp only
  rw [if_pos hd, tkb_eq hm, les_eq hm, if_pos (by omega)]
theorem fls_e {k : Nat} {S : AS} {m : Prm} (hm : (zR S)[0]? = some m) (hd : ¬ m.2.2.2 ≤ zC S) : fls k S = S := by
  cases k with
  | zero => rfl
  | succ k =>
    unfold fls
    rw [hm]
    dsimp only
    rw [if_neg hd]
theorem fls_keep : ∀ (k : Nat) (S : AS), (zR S).length = k → Ge (zC S) S → Gd (fls k S) ∧ zN (fls k S) = zN S ∧ zC (fls k S) = zC S ∧ zA (fls k S) = zA S ∧ zT (fls k S) = zT S ∧ zK (fls k S) = zK S ∧ arr (fls k S) = arr S ∧ (∀ q j, j ≠ 4 → j ≠ 6 → zP (fls k S) q j = zP S q j) := by
  intro k
  induction k with
  | zero =>
    intro S hk h
    have e : zR S = [] := List.length_eq_zero_iff.mp hk
    exact ⟨⟨h.1, h.2.1, fun r hr => by have hr : r ∈ zR S := hr; rw [e] at hr; exact (List.not_mem_nil hr).elim, h.2.2.2⟩, rfl, rfl, rfl, rfl, rfl, rfl, fun _ _ _ _ => rfl⟩
  | succ k ih =>
    intro S hk h
    obtain ⟨m, hm⟩ : ∃ m, (zR S)[0]? = some m := ⟨(zR S)[0]'(by omega), List.getElem?_eq_getElem (by omega)⟩
    have hmr := h.1.pmr (List.mem_of_getElem? hm)
    by_cases hd : m.2.2.2 ≤ zC S
    · rw [fls_s hm hd]
      obtain ⟨g1, g2, g3⟩ := tkb_Ge (c := m.2.2.1) (r := 3) h hm (by omega) (by omega)
      obtain ⟨n1, n2, n3, n4, n5, n6, n7, n8, n9⟩ := les_N (c := m.2.2.1) hm
      obtain ⟨s1, s2, s3, s4, s5, s6, s7, s8, s9⟩ := g2
      have hl := les_len (c := m.2.2.1) hm
      rw [if_pos (by omega)] at hl
      obtain ⟨a1, a2, a3, a4, a5, a6, a7, a8⟩ := ih (tkb S 0 m.2.2.1 3) (by rw [s7, hl]; omega) (by rw [s4, n4]; exact g1)
      exact ⟨a1, a2.trans (s1.trans n1), a3.trans (s4.trans n4), a4.trans (s5.trans n5), a5.trans (s2.trans n2), a6.trans (s3.trans n3), a7.trans (arr_tkb hm hmr.2.1), fun q j e1 e2 => (a8 q j e1 e2).trans ((s8 q j e1 e2).trans (by rw [n7]))⟩
    · rw [fls_e hm hd]
      refine ⟨⟨h.1, h.2.1, fun r hr => ⟨?_, (h.2.2.1 r hr).2⟩, h.2.2.2⟩, rfl, rfl, rfl, rfl, rfl, rfl, fun _ _ _ _ => rfl⟩
      obtain ⟨i, hi⟩ := List.mem_iff_getElem?.mp hr
      by_cases z : i = 0
      · subst z
        rw [hm] at hi
        cases hi
        omega
      · obtain ⟨a1, a2⟩ := List.getElem?_eq_some_iff.mp hm
        obtain ⟨b1, b2⟩ := List.getElem?_eq_some_iff.mp hi
        have := List.pairwise_iff_getElem.mp h.2.2.2 0 i a1 b1 (by omega)
        rw [a2, b2] at this
        omega
/-- sending so many cells of a port -/
def snl (left : Int) (S : AS) (p : Nat) : AS := stP (stQ S (uQq (zQ S) p (sdq left (zQ S p)))) (uM (zP S) p 7 (zP S p 7 + (if left < usd S p then left else usd S p)))
theorem uM_id {P : Nat → Nat → Int} {p j : Nat} {v : Int} (h : v = P p j) : uM P p j v = P := by
  funext a b
  unfold uM
  split
  · rename_i q
    rw [q.1, q.2, h]
  · rfl
theorem uM_uM {P : Nat → Nat → Int} {p j : Nat} {v w : Int} : uM (uM P p j v) p j w = uM P p j w := by
  funext a b
  unfold uM
  split
  · rfl
  · rfl
theorem uQ_id {Q : Nat → List Pkt} {p : Nat} {L : List Pkt} (h : L = Q p) : uQq Q p L = Q := by
  funext a
  unfold uQq
  split
  · rename_i q
    rw [q, h]
  · rfl
theorem uQ_uQ {Q : Nat → List Pkt} {p : Nat} {L M : List Pkt} : uQq (uQq Q p L) p M = uQq Q p M := by
  funext a
  unfold uQq
  split
  · rfl
  · rfl
theorem sdq_0 {left : Int} (h : left ≤ 0) (L : List Pkt) : sdq left L = L := by
  cases L with
  | nil => rfl
  | cons q t => unfold sdq; rw [if_pos h]
theorem snl_0 {left : Int} {S : AS} {p : Nat} (h : left = 0 ∨ (0 ≤ left ∧ zQ S p = [])) (hu : 0 ≤ usd S p) : snl left S p = S := by
  unfold snl
  have e1 : sdq left (zQ S p) = zQ S p := by
    rcases h with rfl | h
    · exact sdq_0 (Int.le_refl _) _
    · rw [h.2]; rfl
  have e2 : (if left < usd S p then left else usd S p) = 0 := by
    rcases h with rfl | ⟨h1, h2⟩
    · split <;> omega
    · have : usd S p = 0 := by unfold usd; rw [h2]; rfl
      rw [this, if_neg (by omega)]
  rw [e1, e2, uQ_id rfl, uM_id (by omega)]
/-- one packet is sent whole, or in part -/
def sn1 (by' : Int) (L : List Pkt) (S : AS) (p : Nat) : AS := stP (stQ S (uQq (zQ S) p L)) (uM (zP S) p 7 (zP S p 7 + by'))
theorem usd_c {S : AS} {p : Nat} {q : Pkt} {t : List Pkt} (h : zQ S p = q :: t) : usd S p = q.1 + sm (t.map (fun q => q.1)) := by
  unfold usd
  rw [h]
  rfl
theorem sn1_usd {S : AS} {p : Nat} {by' : Int} {L : List Pkt} : usd (sn1 by' L S p) p = sm (L.map (fun q => q.1)) := by
  show sm ((if p = p then L else zQ S p).map _) = _
  rw [if_pos rfl]
theorem snl_w {left : Int} {S : AS} {p : Nat} {q : Pkt} {t : List Pkt} (h : zQ S p = q :: t) (hl : 0 < left) (hq : q.1 ≤ left) : snl left S p = snl (left - q.1) (sn1 q.1 t S p) p := by
  have e1 : sdq left (zQ S p) = sdq (left - q.1) t := by
    rw [h]
    conv => lhs; unfold sdq
    rw [if_neg (by omega), if_pos hq]
  have hu := usd_c h
  have hu2 := sn1_usd (S := S) (p := p) (by' := q.1) (L := t)
  have e2 : uM (zP S) p 7 (zP S p 7 + q.1) p 7 = zP S p 7 + q.1 := uM_s
  have e3 : zP S p 7 + (if left < usd S p then left else usd S p) = zP S p 7 + q.1 + (if left - q.1 < usd (sn1 q.1 t S p) p then left - q.1 else usd (sn1 q.1 t S p) p) := by
    rw [hu2, hu]
    split <;> split <;> omega
  unfold snl
  rw [e1, e3]
  show stP (stQ S _) _ = stP (stQ (sn1 q.1 t S p) (uQq (uQq (zQ S) p t) p (sdq (left - q.1) (if p = p then t else zQ S p)))) (uM (uM (zP S) p 7 (zP S p 7 + q.1)) p 7 (uM (zP S) p 7 (zP S p 7 + q.1) p 7 + _))
  rw [uQ_uQ, uM_uM, e2, if_pos rfl]
  rfl
theorem snl_p {left : Int} {S : AS} {p : Nat} {q : Pkt} {t : List Pkt} (h : zQ S p = q :: t) (hl : 0 < left) (hq : left < q.1) (ht : 0 ≤ sm (t.map (fun q => q.1))) : snl left S p = sn1 left ((q.1 - left, q.2) :: t) S p := by
  have e1 : sdq left (zQ S p) = (q.1 - left, q.2) :: t := by
    rw [h]
    unfold sdq
    rw [if_neg (by omega), if_neg (by omega)]
  have hu := usd_c h
  unfold snl sn1
  rw [e1, if_pos (by omega)]
theorem sn1_Rg {S : AS} {p : Nat} {by' : Int} {L : List Pkt} (h : Rg S) (hp : p < zN S) (h0 : 0 ≤ by') (hc : zP S p 7 + by' ≤ 9 * zC S) (hL : ∀ q ∈ L, (1 ≤ q.1 ∧ q.1 ≤ 40) ∧ (1 ≤ q.2.1 ∧ q.2.1 ≤ 40) ∧ (0 ≤ q.2.2 ∧ q.2.2 ≤ 12000)) (hl : L.length ≤ (zQ S p).length) : Rg (sn1 by' L S p) := by
  obtain ⟨r1, r2, r3, r4, r5, r6, r7, r8, r9, r10, r11, r12⟩ := Rg_Q h hp hL hl
  refine ⟨r1, r2, r3, r4, r5, fun q hq => ?_, r7, r8, r9, r10, r11, r12⟩
  obtain ⟨g0, g1, g2, g3, g4, g5⟩ := r6 q hq
  show PR (uM (zP S) p 7 (zP S p 7 + by') q) (zA S) (zC S) (zD S).length
  by_cases z : q = p
  · subst z
    refine ⟨?_, ?_, ?_, ?_, ?_, ?_⟩
    · simp only [uMP]; exact g0
    · simp only [uMP]; exact g1
    · simp only [uMP]; exact g2
    · simp only [uMP]; exact g3
    · simp only [uMP]; exact g4
    · simp only [uMP]
      have g5 : 0 ≤ zP S q 7 ∧ zP S q 7 ≤ 9 * zC S := g5
      show 0 ≤ zP S q 7 + by' ∧ zP S q 7 + by' ≤ 9 * zC S
      omega
  · rw [uM_r z]
    exact ⟨g0, g1, g2, g3, g4, g5⟩
theorem sdq_sub : ∀ (L : List Pkt) (left : Int), 0 ≤ left → (∀ q ∈ L, 1 ≤ q.1 ∧ q.1 ≤ 40) → (sdq left L).length ≤ L.length ∧ (∀ x ∈ sdq left L, ∃ q ∈ L, x.2 = q.2 ∧ 1 ≤ x.1 ∧ x.1 ≤ q.1) ∧ sm ((sdq left L).map (fun q => q.1)) = (if left < sm (L.map (fun q => q.1)) then sm (L.map (fun q => q.1)) - left else 0) := by
  intro L
  induction L with
  | nil =>
    intro left h0 _
    refine ⟨Nat.le_refl _, fun x hx => (List.not_mem_nil hx).elim, ?_⟩
    show (0 : Int) = if left < 0 then 0 - left else 0
    rw [if_neg (by omega)]
  | cons q t ih =>
    intro left h0 h
    have hq := h q List.mem_cons_self
    have ht : 0 ≤ sm (t.map (fun q => q.1)) := sm_nn (fun x hx => by
      obtain ⟨y, hy, rfl⟩ := List.mem_map.mp hx
      have := h y (List.mem_cons_of_mem _ hy)
      omega)
    unfold sdq
    simp only [List.map_cons, sm]
    split
    · have : left = 0 := by omega
      subst this
      refine ⟨Nat.le_refl _, fun x hx => ⟨x, hx, rfl, (h x hx).1, Int.le_refl _⟩, ?_⟩
      simp only [List.map_cons, sm]
      rw [if_pos (by omega)]
      omega
    · split
      · obtain ⟨a, b, c⟩ := ih (left - q.1) (by omega) (fun x hx => h x (List.mem_cons_of_mem _ hx))
        refine ⟨by rw [List.length_cons]; omega, fun x hx => ?_, ?_⟩
        · obtain ⟨y, hy, hz⟩ := b x hx
          exact ⟨y, List.mem_cons_of_mem _ hy, hz⟩
        · rw [c]
          split <;> split <;> omega
      · refine ⟨Nat.le_refl _, fun x hx => ?_, ?_⟩
        · rcases List.mem_cons.mp hx with rfl | hx
          · exact ⟨q, List.mem_cons_self, rfl, (by show 1 ≤ q.1 - left; omega), (by show q.1 - left ≤ q.1; omega)⟩
          · exact ⟨x, List.mem_cons_of_mem _ hx, rfl, (h x (List.mem_cons_of_mem _ hx)).1, Int.le_refl _⟩
        · simp only [List.map_cons, sm]
          rw [if_pos (by omega)]
          omega
theorem snt_snl (S : AS) (p : Nat) : snt S p = snl (zP S p 1) S p := rfl
theorem snt_Gd {S : AS} {p : Nat} (h : Gd S) (hp : p < zN S) (hc : zP S p 7 + 9 ≤ 9 * zC S) : Gd (snt S p) := by
  obtain ⟨-, g1, -⟩ := h.1.pp hp
  have hu := h.1.usdR hp
  have hL := fun q hq => h.1.qr hp (q := q) hq
  obtain ⟨a, b, c⟩ := sdq_sub (zQ S p) (zP S p 1) g1.1 (fun q hq => (hL q hq).1)
  have hR : Rg (snt S p) := sn1_Rg (L := sdq (zP S p 1) (zQ S p)) (by' := if zP S p 1 < usd S p then zP S p 1 else usd S p) h.1 hp (by split <;> omega) (by split <;> omega) (fun x hx => by
    obtain ⟨q, hq, e1, e2, e3⟩ := b x hx
    have := hL q hq
    rw [e1]
    exact ⟨by omega, this.2⟩) a
  refine ⟨hR, fun q hq => ?_, h.2.2.1, h.2.2.2⟩
  have h1 := h.2.1 q hq
  have e0 : zP (snt S p) q 0 = zP S q 0 := uM_k (by decide)
  refine ⟨by rw [e0]; exact h1.1, ?_⟩
  have e1 : rom (snt S p) q = rom S q := by
    show zP (snt S p) q 0 - lnt S q + brw S q = _
    rw [e0]
    rfl
  rw [e1]
  show sm ((if q = p then sdq (zP S p 1) (zQ S p) else zQ S q).map _) ≤ _
  by_cases z : q = p
  · subst z
    rw [if_pos rfl, c]
    have : sm ((zQ S q).map (fun q => q.1)) = usd S q := rfl
    split <;> omega
  · rw [if_neg z]
    exact h1.2
theorem sal_keep : ∀ (k : Nat) (S : AS), Gd S → k ≤ zN S → (∀ p, p < zN S → zP S p 7 + 9 ≤ 9 * zC S) → Gd (sal k S) ∧ zN (sal k S) = zN S ∧ zC (sal k S) = zC S ∧ zA (sal k S) = zA S ∧ zT (sal k S) = zT S ∧ zK (sal k S) = zK S ∧ (∀ p, k ≤ p → p < zN S → zP (sal k S) p 7 + 9 ≤ 9 * zC S) ∧ zR (sal k S) = zR S ∧ zD (sal k S) = zD S := by
  intro k
  induction k with
  | zero => intro S h _ h7; exact ⟨h, rfl, rfl, rfl, rfl, rfl, fun p _ hp => h7 p hp, rfl, rfl⟩
  | succ k ih =>
    intro S h hk h7
    obtain ⟨a1, a2, a3, a4, a5, a6, a7, a8, a9⟩ := ih S h (by omega) h7
    refine ⟨snt_Gd a1 (by rw [a2]; omega) (by rw [a3]; exact a7 k (Nat.le_refl _) (by omega)), a2, a3, a4, a5, a6, fun p hkp hp => ?_, a8, a9⟩
    show uM (zP (sal k S)) k 7 _ p 7 + 9 ≤ _
    rw [uM_e (by omega)]
    exact a7 p (by omega) hp
theorem td4 (x : Int) : (0 ≤ x → x.tdiv 4 = x / 4) ∧ (x < 0 → x.tdiv 4 = -(-x / 4)) := by
  refine ⟨fun h => td h, fun h => ?_⟩
  have e : x.tdiv 4 = -((-x).tdiv 4) := by rw [Int.neg_tdiv, Int.neg_neg]
  rw [e, td (by omega)]
/-- the first k ports have learned -/
def lrk (S : AS) (k : Nat) : AS := stP S (fun p j => if p < k then (if j = 2 then zP S p 2 + (16 * zP S p 3 - zP S p 2).tdiv 4 else if j = 3 then 0 else zP S p j) else zP S p j)
theorem lrk_0 (S : AS) : lrk S 0 = S := rfl
theorem lrk_n (S : AS) : lrk S (zN S) = lrn S := rfl
theorem lrn_b {f b A : Int} (h1 : 0 ≤ f) (h2 : 0 ≤ b) (h3 : f + 4 * b ≤ A) : 0 ≤ f + (16 * b - f).tdiv 4 ∧ f + (16 * b - f).tdiv 4 ≤ A := by
  obtain ⟨t1, t2⟩ := td4 (16 * b - f)
  by_cases h : 0 ≤ 16 * b - f
  · rw [t1 h]; omega
  · rw [t2 (by omega)]; omega
theorem lrk_Rg {S : AS} (k : Nat) (h : Rg S) : Rg (lrk S k) := by
  obtain ⟨r1, r2, r3, r4, r5, r6, r7, r8, r9, r10, r11, r12⟩ := h
  refine ⟨r1, r2, r3, r4, r5, fun q hq => ?_, r7, r8, r9, r10, r11, r12⟩
  obtain ⟨g0, g1, g2, g3, g4, g5⟩ := r6 q hq
  have hb := lrn_b g2.1 g2.2.1 g2.2.2
  show PR (fun j => if q < k then (if j = 2 then zP S q 2 + (16 * zP S q 3 - zP S q 2).tdiv 4 else if j = 3 then 0 else zP S q j) else zP S q j) (zA S) (zC S) (zD S).length
  by_cases z : q < k
  · simp only [PR, if_pos z]
    refine ⟨g0, g1, ⟨hb.1, Int.le_refl _, ?_⟩, g3, g4, g5⟩
    show zP S q 2 + (16 * zP S q 3 - zP S q 2).tdiv 4 + 4 * 0 ≤ _
    omega
  · simp only [PR, if_neg z]
    exact ⟨g0, g1, g2, g3, g4, g5⟩
theorem lrn_Gd {S : AS} (h : Gd S) : Gd (lrn S) := by
  refine ⟨lrk_Rg (zN S) h.1, fun q hq => ?_, h.2.2.1, h.2.2.2⟩
  have e : zP (lrn S) q 0 = zP S q 0 := by
    show (if q < zN S then (if (0 : Nat) = 2 then _ else if (0 : Nat) = 3 then 0 else zP S q 0) else zP S q 0) = _
    split <;> rfl
  have h1 := h.2.1 q hq
  refine ⟨by rw [e]; exact h1.1, ?_⟩
  have e1 : rom (lrn S) q = rom S q := by
    show zP (lrn S) q 0 - lnt S q + brw S q = _
    rw [e]
    rfl
  rw [e1]
  exact h1.2
/-- behind the clock's step -/
def clk (S : AS) : AS := stG S (zT S) (zK S) (zC S + 1) (zA S)
theorem clk_Rg {S : AS} (h : Rg S) (hc : zC S + 1 ≤ 12000) : Rg (clk S) := by
  obtain ⟨r1, r2, r3, r4, r5, r6, r7, r8, r9, r10, r11, r12⟩ := h
  refine ⟨r1, r2, r3, (by show 0 ≤ zC S + 1 ∧ zC S + 1 ≤ 12000; omega), r5, fun q hq => ?_, r7, r8, r9, r10, r11, r12⟩
  obtain ⟨g0, g1, g2, g3, g4, g5⟩ := r6 q hq
  exact ⟨g0, g1, g2, g3, g4, (by show 0 ≤ zP S q 7 ∧ zP S q 7 ≤ 9 * (zC S + 1); omega)⟩
theorem clk_Ge {S : AS} (h : Gd S) (hc : zC S + 1 ≤ 12000) : Ge (zC (clk S)) (clk S) := ⟨clk_Rg h.1 hc, h.2.1, fun r hr => ⟨by have := (h.2.2.1 r hr).1; show zC S + 1 ≤ _; omega, (h.2.2.1 r hr).2⟩, h.2.2.2⟩
theorem tck_keep {S : AS} (h : Gd S) (hc : zC S + 1 ≤ 12000) : Gd (fls (zR S).length (clk S)) ∧ (∀ p, p < zN (fls (zR S).length (clk S)) → zP (fls (zR S).length (clk S)) p 7 + 9 ≤ 9 * zC (fls (zR S).length (clk S))) ∧ Gd (sal (zN S) (fls (zR S).length (clk S))) ∧ Gd (tck S) ∧ zN (tck S) = zN S ∧ zC (tck S) = zC S + 1 ∧ zA (tck S) = zA S ∧ zT (tck S) = zT S ∧ zK (tck S) = zK S ∧ zN (fls (zR S).length (clk S)) = zN S := by
  obtain ⟨a1, a2, a3, a4, a5, a6, a7, a8⟩ := fls_keep (zR S).length (clk S) rfl (clk_Ge h hc)
  have h7 : ∀ p, p < zN (fls (zR S).length (clk S)) → zP (fls (zR S).length (clk S)) p 7 + 9 ≤ 9 * zC (fls (zR S).length (clk S)) := by
    intro p hp
    rw [a2] at hp
    obtain ⟨-, -, -, -, -, g5⟩ := h.1.pp (p := p) hp
    rw [a8 p 7 (by decide) (by decide), a3]
    show zP S p 7 + 9 ≤ 9 * (zC S + 1)
    omega
  have a2' : zN (fls (zR S).length (clk S)) = zN S := a2
  obtain ⟨b1, b2, b3, b4, b5, b6, b7, b8, b9⟩ := sal_keep (zN S) _ a1 (by omega) h7
  have et : tck S = lrn (sal (zN S) (fls (zR S).length (clk S))) := rfl
  rw [et]
  exact ⟨a1, h7, b1, lrn_Gd b1, b2.trans a2, b3.trans a3, b4.trans a4, b5.trans a5, b6.trans a6, a2'⟩
