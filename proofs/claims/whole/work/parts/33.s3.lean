/-! PURE 21: an arriving packet keeps all in order -/
def arr (S : AS) : Int := ((zD S).length : Int) + wtn S
theorem arr_drn {S : AS} {p : Nat} {r : Int} (hp : p < zN S) : arr (drn S p r) = arr S := by
  by_cases hne : zQ S p = []
  · unfold drn
    rw [hne]
    rfl
  · obtain ⟨L, q, hL⟩ : ∃ L q, zQ S p = L ++ [q] := ⟨(zQ S p).dropLast, (zQ S p).getLast hne, (List.dropLast_concat_getLast hne).symm⟩
    have hg : (zQ S p).getLast? = some q := by rw [hL, List.getLast?_concat]
    have hd : (zQ S p).dropLast = L := by rw [hL, List.dropLast_concat]
    rw [drn_eq hg, hd]
    have hw := wtn_uQ (S := S) (L := L) hp
    have hl : (zQ S p).length = L.length + 1 := by rw [hL, List.length_append]; rfl
    show (((zD S).length + 1 : Nat) : Int) + wtn (stQ S (uQq (zQ S) p L)) = ((zD S).length : Int) + wtn S
    omega
theorem arr_shr {p : Nat} {r : Int} : ∀ (k : Nat) (S : AS), p < zN S → arr (shr k S p r) = arr S ∧ zN (shr k S p r) = zN S := by
  intro k
  induction k with
  | zero => intro S _; exact ⟨rfl, rfl⟩
  | succ k ih =>
    intro S hp
    unfold shr
    split
    · exact ⟨rfl, rfl⟩
    · have h1 := arr_drn (r := r) hp
      have h2 : zN (drn S p r) = zN S := by
        unfold drn
        split <;> rfl
      obtain ⟨a, b⟩ := ih (drn S p r) (by rw [h2]; exact hp)
      exact ⟨a.trans h1, b.trans h2⟩
theorem arr_les {S : AS} {i : Nat} {m : Prm} {c : Int} (hm : (zR S)[i]? = some m) : arr (les S i c) = arr S := by
  rw [les_eq hm]
  rfl
theorem arr_tkb {S : AS} {i : Nat} {m : Prm} {c r : Int} (hm : (zR S)[i]? = some m) (hp : m.2.1 < zN S) : arr (tkb S i c r) = arr S := by
  rw [tkb_eq hm, (arr_shr _ _ (by rw [(les_N hm).1]; exact hp)).1, arr_les hm]
theorem by_r {x left : Int} (h1 : 1 ≤ x) (h2 : 0 < left) : 1 ≤ (if x < left then x else left) ∧ (if x < left then x else left) ≤ x ∧ (if x < left then x else left) ≤ left ∧ ((if x < left then x else left) = x ∨ (if x < left then x else left) = left) := by
  split <;> omega
theorem drop_er {α : Type} (L : List α) (i : Nat) : (L.eraseIdx i).drop i = L.drop (i + 1) := by
  apply List.ext_getElem?
  intro j
  rw [List.getElem?_drop, List.getElem?_drop, List.getElem?_eraseIdx, if_neg (by omega)]
  congr 1
  omega
theorem les_drop {S : AS} {i : Nat} {m : Prm} {c : Int} (hm : (zR S)[i]? = some m) (h0 : m.2.2.1 - c = 0) : (zR (les S i c)).drop i = (zR S).drop (i + 1) := by
  rw [les_eq hm]
  show (if m.2.2.1 - c = 0 then (zR S).eraseIdx i else (zR S).set i (m.1, m.2.1, m.2.2.1 - c, m.2.2.2)).drop i = _
  rw [if_pos h0, drop_er]
/-- what calling in keeps; and, for all promises of a lender, what it brings -/
theorem col_keep (l : Nat) (b : Option Nat) : ∀ (k : Nat) (S : AS) (i : Nat) (left : Int), Gd S → Gd (col k S l b i left) ∧ zN (col k S l b i left) = zN S ∧ zC (col k S l b i left) = zC S ∧ zA (col k S l b i left) = zA S ∧ zT (col k S l b i left) = zT S ∧ zK (col k S l b i left) = zK S ∧ arr (col k S l b i left) = arr S ∧ (∀ q j, j ≠ 4 → j ≠ 6 → zP (col k S l b i left) q j = zP S q j) := by
  intro k
  induction k with
  | zero => intro S i left h; exact ⟨h, rfl, rfl, rfl, rfl, rfl, rfl, fun _ _ _ _ => rfl⟩
  | succ k ih =>
    intro S i left h
    by_cases h0 : left ≤ 0
    · rw [col_0 h0]
      exact ⟨h, rfl, rfl, rfl, rfl, rfl, rfl, fun _ _ _ _ => rfl⟩
    · by_cases hi : i < (zR S).length
      · obtain ⟨m, hm⟩ : ∃ m, (zR S)[i]? = some m := ⟨(zR S)[i], List.getElem?_eq_getElem hi⟩
        have hmr := h.1.pmr (List.mem_of_getElem? hm)
        by_cases hb : mch m l b = true
        · rw [col_s (by omega) hm hb]
          obtain ⟨c1, c2, c3, c4⟩ := by_r (x := m.2.2.1) (left := left) (by omega) (by omega)
          generalize (if m.2.2.1 < left then m.2.2.1 else left) = c at c1 c2 c3 c4 ⊢
          obtain ⟨g1, g2, g3⟩ := tkb_Gd (r := 2) h hm ⟨c1, c2⟩ (by omega)
          obtain ⟨n1, n2, n3, n4, n5, n6, n7, n8, n9⟩ := les_N (c := c) hm
          obtain ⟨s1, s2, s3, s4, s5, s6, s7, s8, s9⟩ := g2
          have ha := arr_tkb (c := c) (r := 2) hm hmr.2.1
          have := ih (tkb S i c 2) (if m.2.2.1 - c = 0 then i else i + 1) (left - c) g1
          obtain ⟨a1, a2, a3, a4, a5, a6, a7, a8⟩ := this
          exact ⟨a1, a2.trans (s1.trans n1), a3.trans (s4.trans n4), a4.trans (s5.trans n5), a5.trans (s2.trans n2), a6.trans (s3.trans n3), a7.trans ha, fun q j e1 e2 => (a8 q j e1 e2).trans ((s8 q j e1 e2).trans (by rw [n7]))⟩
        · rw [col_n (by omega) hm hb]
          exact ih S (i + 1) left h
      · have e : col (k + 1) S l b i left = S := by
          conv => lhs; unfold col
          rw [if_neg h0, List.getElem?_eq_none (by omega)]
        rw [e]
        exact ⟨h, rfl, rfl, rfl, rfl, rfl, rfl, fun _ _ _ _ => rfl⟩
theorem col_fre (l : Nat) : ∀ (k : Nat) (S : AS) (i : Nat) (left : Int), Gd S → i + k = (zR S).length → 0 ≤ left → left ≤ sm (((zR S).drop i).map (fun r => if r.1 = l then r.2.2.1 else 0)) → fre (col k S l none i left) l = fre S l + left ∧ usd (col k S l none i left) l = usd S l := by
  intro k
  induction k with
  | zero =>
    intro S i left h hi h0 hs
    rw [sm_end (by omega)] at hs
    have : left = 0 := by omega
    subst this
    exact ⟨(Int.add_zero _).symm, rfl⟩
  | succ k ih =>
    intro S i left h hi h0 hs
    by_cases h00 : left ≤ 0
    · rw [col_0 h00]
      exact ⟨by omega, rfl⟩
    · obtain ⟨m, hm⟩ : ∃ m, (zR S)[i]? = some m := ⟨(zR S)[i]'(by omega), List.getElem?_eq_getElem (by omega)⟩
      have hmr := h.1.pmr (List.mem_of_getElem? hm)
      have hne := (h.2.2.1 m (List.mem_of_getElem? hm)).2
      rw [sm_drop hm] at hs
      by_cases hb : m.1 = l
      · rw [if_pos hb] at hs
        rw [col_s (by omega) hm ((mch_n m l).mpr hb)]
        obtain ⟨c1, c2, c3, c4⟩ := by_r (x := m.2.2.1) (left := left) (by omega) (by omega)
        generalize (if m.2.2.1 < left then m.2.2.1 else left) = c at c1 c2 c3 c4 ⊢
        obtain ⟨g1, g2, g3⟩ := tkb_Gd (r := 2) h hm ⟨c1, c2⟩ (by omega)
        have hu : usd (tkb S i c 2) l = usd S l := by rw [g2.usd (by omega), les_usd hm]
        have hro : rom (tkb S i c 2) l = rom S l + c := by rw [g2.rom, les_rom hm, if_pos hb, if_neg (by omega)]; omega
        have hf : fre (tkb S i c 2) l = fre S l + c := by
          show rom (tkb S i c 2) l - usd (tkb S i c 2) l = rom S l - usd S l + c
          omega
        rcases c4 with c4 | c4
        · have h0' : m.2.2.1 - c = 0 := by omega
          rw [if_pos h0']
          have hl := les_len (c := c) hm
          rw [if_pos h0'] at hl
          have eR : zR (tkb S i c 2) = zR (les S i c) := g2.2.2.2.2.2.2.1
          obtain ⟨a, b⟩ := ih (tkb S i c 2) i (left - c) g1 (by rw [eR]; omega) (by omega) (by rw [eR, les_drop hm h0']; omega)
          exact ⟨by omega, b.trans hu⟩
        · rw [col_0 (by omega)]
          exact ⟨by omega, hu⟩
      · rw [if_neg hb] at hs
        rw [col_n (by omega) hm (fun z => hb ((mch_n m l).mp z))]
        exact ih S (i + 1) left h (by omega) h0 (by omega)
theorem bor_keep (p : Nat) : ∀ (k : Nat) (S : AS) (left : Int), Gd S → p < zN S → zcn S p ≤ k → 0 ≤ left → left ≤ oth S p → Gd (bor k S p left) ∧ zN (bor k S p left) = zN S ∧ zC (bor k S p left) = zC S ∧ zA (bor k S p left) = zA S ∧ zT (bor k S p left) = zT S ∧ zK (bor k S p left) = zK S ∧ arr (bor k S p left) = arr S ∧ zP (bor k S p left) = zP S ∧ usd (bor k S p left) p = usd S p ∧ fre (bor k S p left) p = fre S p + left := by
  intro k
  induction k with
  | zero =>
    intro S left h hp hz h0 ho
    have := zcn_0 (S := S) (p := p) hz
    have : left = 0 := by omega
    subst this
    exact ⟨h, rfl, rfl, rfl, rfl, rfl, rfl, rfl, rfl, (Int.add_zero _).symm⟩
  | succ k ih =>
    intro S left h hp hz h0 ho
    by_cases h00 : left ≤ 0
    · rw [bor_0 h00]
      exact ⟨h, rfl, rfl, rfl, rfl, rfl, rfl, rfl, rfl, by omega⟩
    · obtain ⟨z, e1, e2, e3, e4⟩ := oth_best (S := S) (p := p) (by omega)
      rw [bor_s (by omega) e1]
      obtain ⟨c1, c2, c3, c4⟩ := by_r (x := cln S z) (left := left) e4 (by omega)
      generalize (if cln S z < left then cln S z else left) = c at c1 c2 c3 c4 ⊢
      have g1 := lnd_Gd h e2 hp e3 c2 c1
      have hf : fre (lnd S z p c) p = fre S p + c := by
        show rom (lnd S z p c) p - usd S p = rom S p - usd S p + c
        rw [lnd_rom, if_neg e3, if_pos rfl]
        omega
      rcases c4 with c4 | c4
      · have hz' := zcn_lnd (S := S) (p := p) e2 e3 c1 c4
        obtain ⟨a1, a2, a3, a4, a5, a6, a7, a8, a9, a10⟩ := ih (lnd S z p c) (left - c) g1 hp (by omega) (by omega) (by rw [lnd_oth c2 c1 e2 e3]; omega)
        exact ⟨a1, a2, a3, a4, a5, a6, a7, a8, a9, by omega⟩
      · rw [bor_0 (by omega)]
        exact ⟨g1, rfl, rfl, rfl, rfl, rfl, rfl, rfl, rfl, by omega⟩
theorem tks_Gd {S : AS} {p : Nat} {c : Int} (h : Gd S) (hp : p < zN S) (hc : 1 ≤ c ∧ c ≤ 40) (hf : c ≤ fre S p) (ha : arr S + 1 ≤ zA S) : Gd (tks S p c) := by
  obtain ⟨hR, hU, hC, hP⟩ := h
  obtain ⟨r1, r2, r3, r4, r5, r6, r7, r8, r9, r10, r11, r12⟩ := hR
  have hw : wtn (tks S p c) = wtn S - (zQ S p).length + (zQ S p ++ [(c, c, zC S)]).length := wtn_uQ hp
  rw [List.length_append, List.length_singleton] at hw
  have hq : ∀ p', p' < zN S → ∀ q ∈ zQ (tks S p c) p', (1 ≤ q.1 ∧ q.1 ≤ 40) ∧ (1 ≤ q.2.1 ∧ q.2.1 ≤ 40) ∧ (0 ≤ q.2.2 ∧ q.2.2 ≤ 12000) := by
    intro p' hp' q hq
    have hq : q ∈ (if p' = p then zQ S p ++ [(c, c, zC S)] else zQ S p') := hq
    split at hq
    · rcases List.mem_append.mp hq with hq | hq
      · exact r7 p hp q hq
      · rw [List.mem_singleton.mp hq]
        exact ⟨hc, hc, r4⟩
    · exact r7 p' hp' q hq
  have hu : ∀ p', p' < zN S → usd (tks S p c) p' ≤ rom S p' := by
    intro p' hp'
    show sm ((if p' = p then zQ S p ++ [(c, c, zC S)] else zQ S p').map (fun q => q.1)) ≤ _
    by_cases z : p' = p
    · subst z
      rw [if_pos rfl, List.map_append, sm_app]
      have e1 : sm (([(c, c, zC S)] : List Pkt).map (fun q => q.1)) = c := by show c + 0 = c; omega
      have e2 : sm ((zQ S p').map (fun q => q.1)) = usd S p' := rfl
      have e3 : fre S p' = rom S p' - usd S p' := rfl
      omega
    · rw [if_neg z]
      exact (hU p' hp').2
  have cap : wtn (tks S p c) ≤ 240 := capQ (S := tks S p c) r1 (fun p' hp' => (r6 p' hp').1) (fun r hr => ⟨(r10 r hr).1, (r10 r hr).2.1⟩) (fun p' hp' q hq' => (hq p' hp' q hq').1.1) hu
  have ha' : ((zD S).length : Int) + wtn S + 1 ≤ zA S := ha
  exact ⟨⟨r1, r2, r3, r4, r5, r6, hq, cap, r9, r10, (by show ((zD S).length : Int) + wtn (tks S p c) ≤ zA S; omega), r12⟩, fun p' hp' => ⟨(hU p' hp').1, hu p' hp'⟩, hC, hP⟩
/-- behind the counting of an arrival -/
def cmd (S : AS) (p : Nat) (c : Int) : AS := stP (stG S (zT S) (zK S) (zC S) (zA S + 1)) (uM (zP S) p 3 (zP S p 3 + c))
theorem cmd_P {S : AS} {p : Nat} {c : Int} (q j : Nat) (h : j ≠ 3) : zP (cmd S p c) q j = zP S q j := uM_k h
theorem cmd_fre {S : AS} {p : Nat} {c : Int} (q : Nat) : fre (cmd S p c) q = fre S q := by
  show uM (zP S) p 3 _ q 0 - lnt S q + brw S q - usd S q = _
  rw [uM_k (by decide)]
  rfl
theorem cmd_cln {S : AS} {p : Nat} {c : Int} (q : Nat) : cln (cmd S p c) q = cln S q := by
  have e : spr (cmd S p c) q = spr S q := by
    show uM (zP S) p 3 _ q 0 - lnt S q - usd S q - (uM (zP S) p 3 _ q 2 * zK S + 1599).tdiv 1600 = _
    rw [uM_k (by decide), uM_k (by decide)]
    rfl
  unfold cln
  rw [e]
theorem cmd_oth {S : AS} {p : Nat} {c : Int} (q : Nat) : oth (cmd S p c) q = oth S q := sg_congr (fun i _ => by
  rw [cmd_cln])
theorem cmd_Gd {S : AS} {p : Nat} {c : Int} (h : Gd S) (hc : 1 ≤ c ∧ c ≤ 40) (ha : zA S + 1 ≤ 30000) : Gd (cmd S p c) := by
  obtain ⟨hR, hU, hC, hP⟩ := h
  obtain ⟨r1, r2, r3, r4, r5, r6, r7, r8, r9, r10, r11, r12⟩ := hR
  refine ⟨⟨r1, r2, r3, r4, (by show 0 ≤ zA S + 1 ∧ zA S + 1 ≤ 30000; omega), fun q hq => ?_, r7, r8, r9, r10, (by show ((zD S).length : Int) + wtn S ≤ zA S + 1; omega), r12⟩, fun q hq => ?_, hC, hP⟩
  · obtain ⟨g0, g1, g2, g3, g4, g5⟩ := r6 q hq
    show PR (uM (zP S) p 3 (zP S p 3 + c) q) (zA S + 1) (zC S) (zD S).length
    by_cases z : q = p
    · subst z
      refine ⟨?_, ?_, ?_, ?_, ?_, ?_⟩
      · simp only [uMP]; exact g0
      · simp only [uMP]; exact g1
      · simp only [uMP]
        show 0 ≤ zP S q 2 ∧ 0 ≤ zP S q 3 + c ∧ zP S q 2 + 4 * (zP S q 3 + c) ≤ _
        omega
      · simp only [uMP]; exact g3
      · simp only [uMP]; exact g4
      · simp only [uMP]; exact g5
    · rw [uM_r z]
      exact ⟨g0, g1, by omega, g3, g4, g5⟩
  · have h1 := hU q hq
    refine ⟨?_, ?_⟩
    · show lnt S q ≤ uM (zP S) p 3 _ q 0
      rw [uM_k (by decide)]
      exact h1.1
    · show usd S q ≤ uM (zP S) p 3 _ q 0 - lnt S q + brw S q
      rw [uM_k (by decide)]
      exact h1.2
theorem nte_Gd {S : AS} {p : Nat} {c r : Int} (h : Gd S) (hR : Rg (nte S p c r)) : Gd (nte S p c r) := by
  refine ⟨hR, fun q hq => ?_, h.2.2.1, h.2.2.2⟩
  have h1 := h.2.1 q hq
  have e : uM (uM (zP S) p 4 (zP S p 4 + 1)) p 6 (zP S p 6 + c) q 0 = zP S q 0 := by rw [uM_k (by decide), uM_k (by decide)]
  refine ⟨?_, ?_⟩
  · show lnt S q ≤ uM (uM (zP S) p 4 (zP S p 4 + 1)) p 6 (zP S p 6 + c) q 0
    rw [e]
    exact h1.1
  · show usd S q ≤ uM (uM (zP S) p 4 (zP S p 4 + 1)) p 6 (zP S p 6 + c) q 0 - lnt S q + brw S q
    rw [e]
    exact h1.2
/-- the four ways of an arriving packet, with what each needs -/
theorem adm_ways {S : AS} {p : Nat} {c : Int} (h : Gd S) (hp : p < zN S) (hc : 1 ≤ c ∧ c ≤ 40) (ha : zA S + 1 ≤ 30000) :
    (way S p c = 0 → adm S p c = (tks (cmd S p c) p c, 0) ∧ Gd (tks (cmd S p c) p c)) ∧
    (way S p c = 1 → adm S p c = (tks (col (zR S).length (cmd S p c) p none 0 (c - fre S p)) p c, 0) ∧ Gd (tks (col (zR S).length (cmd S p c) p none 0 (c - fre S p)) p c) ∧ (0 ≤ c - fre S p ∧ c - fre S p ≤ 10000)) ∧
    (way S p c = 2 → adm S p c = (tks (bor (zN S) (cmd S p c) p (c - fre S p)) p c, c - fre S p) ∧ Gd (tks (bor (zN S) (cmd S p c) p (c - fre S p)) p c) ∧ (0 ≤ c - fre S p ∧ c - fre S p ≤ 10000) ∧ c - fre S p ≤ oth (cmd S p c) p) ∧
    (way S p c = 3 → adm S p c = (nte (cmd S p c) p c 1, -2) ∧ Gd (nte (cmd S p c) p c 1)) := by
  have g := cmd_Gd (p := p) h hc ha
  have hfr := cmd_fre (S := S) (p := p) (c := c) p
  have hot := cmd_oth (S := S) (p := p) (c := c) p
  have hA : arr (cmd S p c) + 1 ≤ zA (cmd S p c) := by
    have := h.1.2.2.2.2.2.2.2.2.2.2.1
    show ((zD S).length : Int) + wtn S + 1 ≤ zA S + 1
    omega
  have hf0 := h.1.spR hp
  have hU := h.2.1 p hp
  have ef : fre S p = zP S p 0 - lnt S p + brw S p - usd S p := rfl
  have hb := h.1.brwR p
  have hlt := h.1.lntR p
  refine ⟨fun w => ?_, fun w => ?_, fun w => ?_, fun w => ?_⟩
  · have hw : c ≤ fre S p := by
      unfold way at w
      split at w
      · assumption
      · split at w
        · exact absurd w (by decide)
        · split at w <;> exact absurd w (by decide)
    refine ⟨?_, tks_Gd g hp hc (by rw [hfr]; exact hw) hA⟩
    unfold adm
    dsimp only
    rw [w]
    rfl
  · have hw : fre S p < c ∧ usd S p + c ≤ zP S p 0 := by
      unfold way at w
      split at w
      · exact absurd w (by decide)
      · split at w
        · omega
        · split at w <;> exact absurd w (by decide)
    obtain ⟨k1, k2, k3, k4, k5, k6, k7, k8⟩ := col_keep p none (zR S).length (cmd S p c) 0 (c - fre S p) g
    obtain ⟨f1, f2⟩ := col_fre p (zR S).length (cmd S p c) 0 (c - fre S p) g (by show 0 + _ = (zR S).length; omega) (by omega) (by
      rw [List.drop_zero]
      show c - fre S p ≤ lnt S p
      omega)
    refine ⟨?_, tks_Gd k1 (by rw [k2]; exact hp) hc (by rw [f1, hfr]; omega) (by rw [k7, k4]; exact hA), by omega, by omega⟩
    unfold adm
    dsimp only
    rw [w]
    rfl
  · have hw : fre S p < c ∧ c - fre S p ≤ oth S p := by
      unfold way at w
      split at w
      · exact absurd w (by decide)
      · split at w
        · exact absurd w (by decide)
        · split at w
          · omega
          · exact absurd w (by decide)
    obtain ⟨k1, k2, k3, k4, k5, k6, k7, k8, k9, k10⟩ := bor_keep p (zN S) (cmd S p c) (c - fre S p) g hp (zcn_le (cmd S p c) p) (by omega) (by rw [hot]; exact hw.2)
    refine ⟨?_, tks_Gd k1 (by rw [k2]; exact hp) hc (by rw [k10, hfr]; omega) (by rw [k7, k4]; exact hA), ⟨by omega, by omega⟩, by rw [hot]; exact hw.2⟩
    unfold adm
    dsimp only
    rw [w]
    rfl
  · refine ⟨?_, nte_Gd g (Rg_nte g.1 hp hc (by omega) (by
      have e : ((zD (cmd S p c)).length : Int) + 1 + wtn (cmd S p c) = arr (cmd S p c) + 1 := by
        show ((zD S).length : Int) + 1 + wtn S = ((zD S).length : Int) + wtn S + 1
        omega
      omega))⟩
    unfold adm
    dsimp only
    rw [w]
    rfl
theorem adm_Gd {S : AS} {p : Nat} {c : Int} (h : Gd S) (hp : p < zN S) (hc : 1 ≤ c ∧ c ≤ 40) (ha : zA S + 1 ≤ 30000) : Gd (adm S p c).1 := by
  obtain ⟨w0, w1, w2, w3⟩ := adm_ways h hp hc ha
  have hw := way_r S p c
  have hh : way S p c = 0 ∨ way S p c = 1 ∨ way S p c = 2 ∨ way S p c = 3 := by omega
  rcases hh with q | q | q | q
  · rw [(w0 q).1]; exact (w0 q).2
  · rw [(w1 q).1]; exact (w1 q).2.1
  · rw [(w2 q).1]; exact (w2 q).2.1
  · rw [(w3 q).1]; exact (w3 q).2
