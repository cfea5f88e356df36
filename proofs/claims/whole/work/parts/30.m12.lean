/-! PURE 18: cells are called in and given back (model) -/
theorem les_len {S : AS} {i : Nat} {m : Prm} {c : Int} (h : (zR S)[i]? = some m) : (zR (les S i c)).length = if m.2.2.1 - c = 0 then (zR S).length - 1 else (zR S).length := by
  have hi := (List.getElem?_eq_some_iff.mp h).1
  rw [les_eq h]
  show (if m.2.2.1 - c = 0 then (zR S).eraseIdx i else (zR S).set i (m.1, m.2.1, m.2.2.1 - c, m.2.2.2)).length = _
  split
  · rw [List.length_eraseIdx, if_pos hi]
  · rw [List.length_set]
theorem col_s {k : Nat} {S : AS} {l : Nat} {b : Option Nat} {i : Nat} {left : Int} {m : Prm} (hl : 0 < left) (hm : (zR S)[i]? = some m) (hb : mch m l b = true) : col (k + 1) S l b i left = col k (tkb S i (if m.2.2.1 < left then m.2.2.1 else left) 2) l b (if m.2.2.1 - (if m.2.2.1 < left then m.2.2.1 else left) = 0 then i else i + 1) (left - (if m.2.2.1 < left then m.2.2.1 else left)) := by
  conv => lhs; unfold col
  rw [if_neg (by omega), hm]
  dsimp only
  rw [if_pos hb]
theorem col_n {k : Nat} {S : AS} {l : Nat} {b : Option Nat} {i : Nat} {left : Int} {m : Prm} (hl : 0 < left) (hm : (zR S)[i]? = some m) (hb : ¬ mch m l b = true) : col (k + 1) S l b i left = col k S l b (i + 1) left := by
  conv => lhs; unfold col
  rw [if_neg (by omega), hm]
  dsimp only
  rw [if_neg hb]
theorem col_0 {k : Nat} {S : AS} {l : Nat} {b : Option Nat} {i : Nat} {left : Int} (hl : left ≤ 0) : col k S l b i left = S := by
  cases k with
  | zero => rfl
  | succ k => unfold col; rw [if_pos hl]
theorem mch_n (m : Prm) (l : Nat) : mch m l none = true ↔ m.1 = l := by simp [mch]
theorem mch_s (m : Prm) (l b : Nat) : mch m l (some b) = true ↔ m.1 = l ∧ m.2.1 = b := by simp [mch]
set_option maxHeartbeats 8000000 in
theorem calls_lp {K : Option AV → MM → Prop} {b l : Nat} (hl6 : l < 6) : ∀ (k : Nat) (μ : MM) (S : AS) (G : List (Nat × Pkt)) (i : Nat) (left : Int), HG b μ S G → Gd S → i + k = (zR S).length → (0 ≤ left ∧ left ≤ 10000) → (∀ μ' G', HG b μ' (col k S l none i left) G' → FM b μ μ' → K none μ') → B_X10_calls_5 K [some (.inr (.inr 348)), some (.inl (l : Int)), none, some (.inl left), some (.inl (i : Int)), none, none] [] μ := by
  intro k
  induction k with
  | zero =>
    intro μ S G i left h hg hi hl hK
    have hn := h.2.2.1.pmn
    refine lfp_in ⟨hM, cs8 rfl, h.ofo 6 rfl (by omega) ⟨⟨by omega, by omega⟩, by show R32 ((zR S).length : Int); exact ⟨by omega, by omega⟩, fun _ => hK μ G h FM.refl, fun z => absurd (by show ((zR S).length : Int) ≤ i; omega) z⟩⟩
  | succ k ih =>
    intro μ S G i left h hg hi hl hK
    have hn := h.2.2.1.pmn
    have hb := h.2.1
    have ho := h.1
    obtain ⟨m, hm⟩ : ∃ m, (zR S)[i]? = some m := ⟨(zR S)[i], List.getElem?_eq_getElem (by omega)⟩
    have hmr := h.2.2.1.pmr (List.mem_of_getElem? hm)
    have h6 := h.2.2.1.n6
    have a0 : μ.1 349 (2080 * b + 1020 + 4 * i + 0) = (m.1 : Int) := h.pm hm (by omega)
    have a1 : μ.1 349 (2080 * b + 1020 + 4 * i + 1) = (m.2.1 : Int) := h.pm hm (by omega)
    have a2 : μ.1 349 (2080 * b + 1020 + 4 * i + 2) = m.2.2.1 := h.pm hm (by omega)
    refine lfp_in ⟨hM, cs8 rfl, h.ofo 6 rfl (by omega) ⟨⟨by omega, by omega⟩, by show R32 ((zR S).length : Int); exact ⟨by omega, by omega⟩, fun z => absurd (show ((zR S).length : Int) ≤ i from z) (by omega), fun _ => ⟨⟨by omega, by omega⟩, fun q => ?_, fun q => ⟨hM, cs8 rfl, P_X10_m i 0 ho rfl rfl (by omega) ?_⟩⟩⟩⟩
    · rw [col_0 q] at hK
      exact hK μ G h FM.refl
    rw [a0]
    have fin : ∀ by' : Int, by' = (if m.2.2.1 < left then m.2.2.1 else left) → m.1 = l → B_X10_calls_59 K (B_X10_calls_5 K) [some (.inr (.inr 348)), some (.inl (l : Int)), none, some (.inl left), some (.inl (i : Int)), none, none] [.inl by'] μ := by
      intro by' hby hml
      have hc : 1 ≤ by' ∧ by' ≤ m.2.2.1 := by rw [hby]; split <;> omega
      obtain ⟨g1, g2, g3⟩ := tkb_Gd (r := 2) hg hm hc (by omega)
      have et := tkb_eq (c := by') (r := 2) hm
      have hlen := les_len (c := by') hm
      rw [col_s (by omega) hm ((mch_n m l).mpr hml), ← hby] at hK
      refine ⟨hM, cs8 rfl, P_X10_m i 1 ho rfl rfl (by omega) ?_⟩
      rw [a1]
      refine ⟨hM, cs8 rfl, P_X10_lessens i h rfl hm hc (fun μ1 H1 F1 => ?_)⟩
      have hmn : m.2.1 < zN (les S i by') := by rw [(les_N hm).1]; exact hmr.2.1
      by_cases q0 : m.2.2.1 - by' = 0
      · rw [if_pos q0]
        rw [if_pos q0] at hK hlen
        refine ⟨⟨by omega, by omega⟩, fun z => absurd z (by decide), fun _ => ⟨hM, cs8 rfl, P_X10_shrinks m.2.1 2 H1 rfl rfl hmn (by omega) g3 (fun μ2 G2 H2 F2 => ?_)⟩⟩
        have H2 : HG b μ2 (tkb S i by' 2) G2 := by rw [et]; exact H2
        have key := ih μ2 (tkb S i by' 2) G2 i (left - by') H2 g1 (by rw [g2.2.2.2.2.2.2.1, hlen]; omega) (by rw [hby]; split <;> omega) (fun μ' G' H' F' => hK μ' G' H' (F1.trans (F2.trans F')))
        rw [show (i : Int) = (i : Int) + 0 by omega] at key
        exact key
      · rw [if_neg q0]
        rw [if_neg q0] at hK hlen
        refine ⟨⟨by omega, by omega⟩, fun _ => ⟨hM, cs8 rfl, P_X10_shrinks m.2.1 2 H1 rfl rfl hmn (by omega) g3 (fun μ2 G2 H2 F2 => ?_)⟩, fun z => absurd rfl z⟩
        have H2 : HG b μ2 (tkb S i by' 2) G2 := by rw [et]; exact H2
        exact ih μ2 (tkb S i by' 2) G2 (i + 1) (left - by') H2 g1 (by rw [g2.2.2.2.2.2.2.1, hlen]; omega) (by rw [hby]; split <;> omega) (fun μ' G' H' F' => hK μ' G' H' (F1.trans (F2.trans F')))
    refine ⟨⟨by omega, by omega⟩, ⟨by omega, by omega⟩, fun q2 => ⟨hM, cs8 rfl, P_X10_m i 2 ho rfl rfl (by omega) ?_⟩, fun q2 => ?_⟩
    · rw [a2]
      refine ⟨⟨by omega, by omega⟩, ⟨by omega, by omega⟩, fun q3 => fin left (by rw [if_neg (by omega)]) (by omega), fun q3 => ⟨hM, cs8 rfl, P_X10_m i 2 ho rfl rfl (by omega) ?_⟩⟩
      rw [a2]
      exact fin m.2.2.1 (by rw [if_pos (by omega)]) (by omega)
    · rw [col_n (by omega) hm (fun z => q2 (by rw [(mch_n m l).mp z]))] at hK
      exact ih μ S G (i + 1) left h hg (by omega) hl hK
theorem P_X10_calls {μ : MM} {K : Option AV → MM → Prop} {b : Nat} {S : AS} {G : List (Nat × Pkt)} {x c : Int} (l : Nat) (h : HG b μ S G) (hg : Gd S) (hx : x = l) (hl6 : l < 6) (hc : 0 ≤ c ∧ c ≤ 10000) (hK : ∀ μ' G', HG b μ' (col (zR S).length S l none 0 c) G' → FM b μ μ' → K none μ') : w_X10_calls [.inr (.inr 348), .inl x, .inl c] μ K := by
  subst hx
  exact ⟨cs8 rfl, calls_lp hl6 _ μ S G 0 c h hg (by omega) hc hK⟩
theorem shr_id {k : Nat} {S : AS} {p : Nat} {r : Int} (h : usd S p ≤ rom S p) : shr k S p r = S := by
  cases k with
  | zero => rfl
  | succ k => unfold shr; rw [if_pos h]
theorem les_usd {S : AS} {i : Nat} {m : Prm} {c : Int} (h : (zR S)[i]? = some m) (p : Nat) : usd (les S i c) p = usd S p := by
  show sm ((zQ (les S i c) p).map _) = _
  rw [(les_N h).2.2.2.2.2.2.2.1]
  rfl
set_option maxHeartbeats 8000000 in
theorem gives_lp {K : Option AV → MM → Prop} {b l p : Nat} (hl6 : l < 6) (hp6 : p < 6) : ∀ (k : Nat) (μ : MM) (S : AS) (G : List (Nat × Pkt)) (i : Nat) (left : Int), HG b μ S G → Gd S → i + k = (zR S).length → (0 ≤ left ∧ left ≤ 10000) → left ≤ fre S p → (∀ μ' G', HG b μ' (col k S l (some p) i left) G' → FM b μ μ' → B_X10_gives_107 K [some (.inr (.inr 348)), some (.inl (p : Int)), some (.inl (l : Int)), none, none, none, none] [] μ') → B_X10_gives_6 K [some (.inr (.inr 348)), some (.inl (p : Int)), some (.inl (l : Int)), none, some (.inl left), some (.inl (i : Int)), none] [] μ := by
  intro k
  induction k with
  | zero =>
    intro μ S G i left h hg hi hl hf hK
    have hn := h.2.2.1.pmn
    refine lfp_in ⟨hM, cs8 rfl, h.ofo 6 rfl (by omega) ⟨⟨by omega, by omega⟩, by show R32 ((zR S).length : Int); exact ⟨by omega, by omega⟩, fun _ => hK μ G h FM.refl, fun z => absurd (by show ((zR S).length : Int) ≤ i; omega) z⟩⟩
  | succ k ih =>
    intro μ S G i left h hg hi hl hf hK
    have hn := h.2.2.1.pmn
    have hb := h.2.1
    have ho := h.1
    obtain ⟨m, hm⟩ : ∃ m, (zR S)[i]? = some m := ⟨(zR S)[i], List.getElem?_eq_getElem (by omega)⟩
    have hmr := h.2.2.1.pmr (List.mem_of_getElem? hm)
    have hne := (hg.2.2.1 m (List.mem_of_getElem? hm)).2
    have h6 := h.2.2.1.n6
    have a0 : μ.1 349 (2080 * b + 1020 + 4 * i + 0) = (m.1 : Int) := h.pm hm (by omega)
    have a1 : μ.1 349 (2080 * b + 1020 + 4 * i + 1) = (m.2.1 : Int) := h.pm hm (by omega)
    have a2 : μ.1 349 (2080 * b + 1020 + 4 * i + 2) = m.2.2.1 := h.pm hm (by omega)
    refine lfp_in ⟨hM, cs8 rfl, h.ofo 6 rfl (by omega) ⟨⟨by omega, by omega⟩, by show R32 ((zR S).length : Int); exact ⟨by omega, by omega⟩, fun z => absurd (show ((zR S).length : Int) ≤ i from z) (by omega), fun _ => ⟨⟨by omega, by omega⟩, fun q => ?_, fun q => ⟨hM, cs8 rfl, P_X10_m i 0 ho rfl rfl (by omega) ?_⟩⟩⟩⟩
    · rw [col_0 q] at hK
      exact hK μ G h FM.refl
    rw [a0]
    have fin : ∀ by' : Int, by' = (if m.2.2.1 < left then m.2.2.1 else left) → m.1 = l → m.2.1 = p → B_X10_gives_74 K (B_X10_gives_6 K) [some (.inr (.inr 348)), some (.inl (p : Int)), some (.inl (l : Int)), none, some (.inl left), some (.inl (i : Int)), none] [.inl by'] μ := by
      intro by' hby hml hmp
      have hc : 1 ≤ by' ∧ by' ≤ m.2.2.1 := by rw [hby]; split <;> omega
      obtain ⟨g1, g2, g3⟩ := tkb_Gd (r := 2) hg hm hc (by omega)
      have hlen := les_len (c := by') hm
      have hbl : by' ≤ left := by rw [hby]; split <;> omega
      have hro : rom (les S i by') p = rom S p - by' := by
        rw [les_rom hm, if_neg (by omega), if_pos hmp]; omega
      have hfe : fre S p = rom S p - usd S p := rfl
      have et : tkb S i by' 2 = les S i by' := by
        rw [tkb_eq hm]
        refine shr_id ?_
        rw [hmp, les_usd hm, hro]
        omega
      rw [et] at g1
      rw [col_s (by omega) hm ((mch_s m l p).mpr ⟨hml, hmp⟩), ← hby, et] at hK
      have hfl : left - by' ≤ fre (les S i by') p := by
        show _ ≤ rom (les S i by') p - usd (les S i by') p
        rw [hro, les_usd hm]
        omega
      refine ⟨hM, cs8 rfl, P_X10_lessens i h rfl hm hc (fun μ1 H1 F1 => ?_)⟩
      by_cases q0 : m.2.2.1 - by' = 0
      · rw [if_pos q0]
        rw [if_pos q0] at hK hlen
        refine ⟨⟨by omega, by omega⟩, fun z => absurd z (by decide), fun _ => ?_⟩
        have key := ih μ1 (les S i by') G i (left - by') H1 g1 (by rw [hlen]; omega) (by rw [hby]; split <;> omega) hfl (fun μ' G' H' F' => hK μ' G' H' (F1.trans F'))
        rw [show (i : Int) = (i : Int) + 0 by omega] at key
        exact key
      · rw [if_neg q0]
        rw [if_neg q0] at hK hlen
        refine ⟨⟨by omega, by omega⟩, fun _ => ?_, fun z => absurd rfl z⟩
        exact ih μ1 (les S i by') G (i + 1) (left - by') H1 g1 (by rw [hlen]; omega) (by rw [hby]; split <;> omega) hfl (fun μ' G' H' F' => hK μ' G' H' (F1.trans F'))
    have nxt : ¬ (m.1 = l ∧ m.2.1 = p) → B_X10_gives_44 K (B_X10_gives_6 K) [some (.inr (.inr 348)), some (.inl (p : Int)), some (.inl (l : Int)), none, some (.inl left), some (.inl (i : Int)), none] [] μ := by
      intro q2
      rw [col_n (by omega) hm (fun z => q2 ((mch_s m l p).mp z))] at hK
      exact ih μ S G (i + 1) left h hg (by omega) hl hf hK
    refine ⟨⟨by omega, by omega⟩, ⟨by omega, by omega⟩, fun q2 => nxt (fun z => q2 (by rw [z.1])), fun q2 => ⟨hM, cs8 rfl, P_X10_m i 1 ho rfl rfl (by omega) ?_⟩⟩
    rw [a1]
    refine ⟨⟨by omega, by omega⟩, ⟨by omega, by omega⟩, fun q3 => ⟨hM, cs8 rfl, P_X10_m i 2 ho rfl rfl (by omega) ?_⟩, fun q3 => nxt (fun z => q3 (by rw [z.2]))⟩
    rw [a2]
    refine ⟨⟨by omega, by omega⟩, ⟨by omega, by omega⟩, fun q4 => fin left (by rw [if_neg (by omega)]) (by omega) (by omega), fun q4 => ⟨hM, cs8 rfl, P_X10_m i 2 ho rfl rfl (by omega) ?_⟩⟩
    rw [a2]
    exact fin m.2.2.1 (by rw [if_pos (by omega)]) (by omega) (by omega)
theorem P_X10_gives {μ : MM} {K : Option AV → MM → Prop} {b : Nat} {S : AS} {G : List (Nat × Pkt)} {x y c : Int} (l p : Nat) (h : HG b μ S G) (hg : Gd S) (hx : x = p) (hy : y = l) (hl6 : l < 6) (hp6 : p < 6) (hc : 0 ≤ c ∧ c ≤ 10000) (hf : c ≤ fre S p) (hK : ∀ μ' G', HG b μ' (col (zR S).length S l (some p) 0 c) G' → FM b μ μ' → K (some (.inl (owd (col (zR S).length S l (some p) 0 c) l p))) μ') : w_X10_gives [.inr (.inr 348), .inl x, .inl y, .inl c] μ K := by
  subst hx
  subst hy
  exact ⟨cs8 rfl, gives_lp hl6 hp6 _ μ S G 0 c h hg (by omega) hc hf (fun μ' G' H' F' => ⟨hM, cs8 rfl, P_X10_owedTo l p H' rfl rfl hl6 hp6 (hK μ' G' H' F')⟩)⟩
