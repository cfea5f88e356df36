/-! PURE 17: what changes keep: sums over promises, shrinking, calling in -/
theorem sm_er {α : Type} {f : α → Int} {L : List α} {i : Nat} {m : α} (h : L[i]? = some m) : sm ((L.eraseIdx i).map f) = sm (L.map f) - f m := by
  rw [erase_at, List.map_append, sm_app]
  conv => rhs; rw [split_at h, List.map_append, sm_app]
  simp only [List.map_cons, sm]
  omega
theorem sm_set {α : Type} {f : α → Int} {L : List α} {i : Nat} {m x : α} (h : L[i]? = some m) : sm ((L.set i x).map f) = sm (L.map f) - f m + f x := by
  have hi := (List.getElem?_eq_some_iff.mp h).1
  have h2 : (L.set i x)[i]? = some x := by rw [List.getElem?_set, if_pos rfl, if_pos hi]
  have e1 := sm_er (f := f) h
  have e2 := sm_er (f := f) h2
  rw [List.eraseIdx_set_eq] at e2
  omega
theorem sm_ins {α : Type} {f : α → Int} {L : List α} {i : Nat} {x : α} (h : i ≤ L.length) : sm ((L.insertIdx i x).map f) = sm (L.map f) + f x := by
  have h2 : (L.insertIdx i x)[i]? = some x := by rw [List.getElem?_insertIdx, if_neg (by omega), if_pos rfl, if_pos h]
  have e2 := sm_er (f := f) h2
  rw [List.eraseIdx_insertIdx_self] at e2
  omega
theorem les_lnt {S : AS} {i : Nat} {m : Prm} {c : Int} (h : (zR S)[i]? = some m) (p : Nat) : lnt (les S i c) p = lnt S p - (if m.1 = p then c else 0) := by
  rw [les_eq h]
  unfold lnt
  show sm ((if m.2.2.1 - c = 0 then (zR S).eraseIdx i else (zR S).set i (m.1, m.2.1, m.2.2.1 - c, m.2.2.2)).map (fun r => if r.1 = p then r.2.2.1 else 0)) = _
  split
  · rw [sm_er h]
    split <;> omega
  · rw [sm_set h]
    show _ - (if m.1 = p then m.2.2.1 else 0) + (if m.1 = p then m.2.2.1 - c else 0) = _
    split <;> omega
theorem les_brw {S : AS} {i : Nat} {m : Prm} {c : Int} (h : (zR S)[i]? = some m) (p : Nat) : brw (les S i c) p = brw S p - (if m.2.1 = p then c else 0) := by
  rw [les_eq h]
  unfold brw
  show sm ((if m.2.2.1 - c = 0 then (zR S).eraseIdx i else (zR S).set i (m.1, m.2.1, m.2.2.1 - c, m.2.2.2)).map (fun r => if r.2.1 = p then r.2.2.1 else 0)) = _
  split
  · rw [sm_er h]
    split <;> omega
  · rw [sm_set h]
    show _ - (if m.2.1 = p then m.2.2.1 else 0) + (if m.2.1 = p then m.2.2.1 - c else 0) = _
    split <;> omega
theorem les_owd {S : AS} {i : Nat} {m : Prm} {c : Int} (h : (zR S)[i]? = some m) (l p : Nat) : owd (les S i c) l p = owd S l p - (if m.1 = l ∧ m.2.1 = p then c else 0) := by
  rw [les_eq h]
  unfold owd
  show sm ((if m.2.2.1 - c = 0 then (zR S).eraseIdx i else (zR S).set i (m.1, m.2.1, m.2.2.1 - c, m.2.2.2)).map (fun r => if r.1 = l ∧ r.2.1 = p then r.2.2.1 else 0)) = _
  split
  · rw [sm_er h]
    split <;> omega
  · rw [sm_set h]
    show _ - (if m.1 = l ∧ m.2.1 = p then m.2.2.1 else 0) + (if m.1 = l ∧ m.2.1 = p then m.2.2.1 - c else 0) = _
    split <;> omega
/-- all but port p's queue and the countings of drops is the same -/
def Sm (p : Nat) (S S' : AS) : Prop := zN S' = zN S ∧ zT S' = zT S ∧ zK S' = zK S ∧ zC S' = zC S ∧ zA S' = zA S ∧ zM S' = zM S ∧ zR S' = zR S ∧ (∀ q j, j ≠ 4 → j ≠ 6 → zP S' q j = zP S q j) ∧ (∀ q, q ≠ p → zQ S' q = zQ S q)
theorem Sm.refl {p : Nat} {S : AS} : Sm p S S := ⟨rfl, rfl, rfl, rfl, rfl, rfl, rfl, fun _ _ _ _ => rfl, fun _ _ => rfl⟩
theorem Sm.trans {p : Nat} {S S' S2 : AS} (h : Sm p S S') (h' : Sm p S' S2) : Sm p S S2 := by
  obtain ⟨a1, a2, a3, a4, a5, a6, a7, a8, a9⟩ := h
  obtain ⟨b1, b2, b3, b4, b5, b6, b7, b8, b9⟩ := h'
  exact ⟨b1.trans a1, b2.trans a2, b3.trans a3, b4.trans a4, b5.trans a5, b6.trans a6, b7.trans a7, fun q j h1 h2 => (b8 q j h1 h2).trans (a8 q j h1 h2), fun q h => (b9 q h).trans (a9 q h)⟩
theorem Sm.rom {p : Nat} {S S' : AS} (h : Sm p S S') (q : Nat) : rom S' q = rom S q := by
  obtain ⟨a1, a2, a3, a4, a5, a6, a7, a8, a9⟩ := h
  show zP S' q 0 - sm ((zR S').map _) + sm ((zR S').map _) = _
  rw [a7, a8 q 0 (by decide) (by decide)]
  rfl
theorem Sm.usd {p : Nat} {S S' : AS} (h : Sm p S S') {q : Nat} (hq : q ≠ p) : usd S' q = usd S q := by
  show sm ((zQ S' q).map _) = sm ((zQ S q).map _)
  rw [h.2.2.2.2.2.2.2.2 q hq]
theorem Sm_drn {S : AS} {p : Nat} {r : Int} {q : Pkt} (h : (zQ S p).getLast? = some q) : Sm p S (drn S p r) := by
  rw [drn_eq h]
  refine ⟨rfl, rfl, rfl, rfl, rfl, rfl, rfl, fun q' j h4 h6 => ?_, fun q' hq => ?_⟩
  · show uM (uM (zP S) p 4 _) p 6 _ q' j = _
    rw [uM_k h6, uM_k h4]
  · show (if q' = p then _ else zQ S q') = _
    rw [if_neg hq]
theorem shr_spec {p : Nat} {r : Int} (hr : 1 ≤ r ∧ r ≤ 3) : ∀ (k : Nat) (S : AS), (zQ S p).length = k → Rg S → p < zN S → 0 ≤ rom S p → Sm p S (shr k S p r) ∧ Rg (shr k S p r) ∧ usd (shr k S p r) p ≤ rom (shr k S p r) p := by
  intro k
  induction k with
  | zero =>
    intro S hk h hp hrm
    refine ⟨Sm.refl, h, ?_⟩
    show usd S p ≤ rom S p
    have hu : usd S p = 0 := by
      unfold usd
      rw [List.length_eq_zero_iff.mp hk]
      rfl
    omega
  | succ k ih =>
    intro S hk h hp hrm
    unfold shr
    split
    · rename_i q
      exact ⟨Sm.refl, h, q⟩
    · obtain ⟨L, q, hL⟩ : ∃ L q, zQ S p = L ++ [q] := by
        have hne : zQ S p ≠ [] := fun z => by rw [z] at hk; exact absurd hk (by simp)
        exact ⟨(zQ S p).dropLast, (zQ S p).getLast hne, (List.dropLast_concat_getLast hne).symm⟩
      have hg : (zQ S p).getLast? = some q := by rw [hL, List.getLast?_concat]
      have hd : (zQ S p).dropLast = L := by rw [hL, List.dropLast_concat]
      have hs := Sm_drn (r := r) hg
      have hR := (Rg_drp (r := r) h hp hL hr).2
      have e := drn_eq (r := r) hg
      rw [hd] at e
      rw [← e] at hR
      have hlen : (zQ (drn S p r) p).length = k := by
        rw [e]
        show ((if p = p then L else zQ S p)).length = k
        rw [if_pos rfl]
        rw [hL, List.length_append] at hk
        exact Nat.succ.inj hk
      obtain ⟨b1, b2, b3⟩ := ih (drn S p r) hlen hR (by rw [hs.1]; exact hp) (by rw [hs.rom]; exact hrm)
      exact ⟨hs.trans b1, b2, b3⟩
/-- what a change of one promise leaves -/
theorem les_N {S : AS} {i : Nat} {m : Prm} {c : Int} (h : (zR S)[i]? = some m) : zN (les S i c) = zN S ∧ zT (les S i c) = zT S ∧ zK (les S i c) = zK S ∧ zC (les S i c) = zC S ∧ zA (les S i c) = zA S ∧ zM (les S i c) = zM S ∧ zP (les S i c) = zP S ∧ zQ (les S i c) = zQ S ∧ zD (les S i c) = zD S := by
  rw [les_eq h]
  exact ⟨rfl, rfl, rfl, rfl, rfl, rfl, rfl, rfl, rfl⟩
theorem tkb_eq {S : AS} {i : Nat} {m : Prm} {c r : Int} (h : (zR S)[i]? = some m) : tkb S i c r = shr (zQ (les S i c) m.2.1).length (les S i c) m.2.1 r := by
  unfold tkb
  rw [h]
  show shr (zQ S m.2.1).length _ _ _ = _
  rw [(les_N h).2.2.2.2.2.2.2.1]
theorem les_rom {S : AS} {i : Nat} {m : Prm} {c : Int} (h : (zR S)[i]? = some m) (p : Nat) : rom (les S i c) p = rom S p + (if m.1 = p then c else 0) - (if m.2.1 = p then c else 0) := by
  show zP (les S i c) p 0 - lnt (les S i c) p + brw (les S i c) p = zP S p 0 - lnt S p + brw S p + _ - _
  rw [les_lnt h, les_brw h, (les_N h).2.2.2.2.2.2.1]
  omega
/-- all in order, and no promise falls due ahead of d -/
def Ge (d : Int) (S : AS) : Prop := Rg S ∧ (∀ p, p < zN S → lnt S p ≤ zP S p 0 ∧ usd S p ≤ rom S p) ∧ (∀ r ∈ zR S, d ≤ r.2.2.2 ∧ r.1 ≠ r.2.1) ∧ (zR S).Pairwise (fun a b => a.2.2.2 ≤ b.2.2.2)
theorem Gd_Ge {S : AS} (h : Gd S) : Ge (zC S + 1) S := ⟨h.1, h.2.1, fun r hr => ⟨by have := (h.2.2.1 r hr).1; omega, (h.2.2.1 r hr).2⟩, h.2.2.2⟩
theorem Ge_Gd {S : AS} {d : Int} (h : Ge d S) (hd : zC S < d) : Gd S := ⟨h.1, h.2.1, fun r hr => ⟨by have := (h.2.2.1 r hr).1; omega, (h.2.2.1 r hr).2⟩, h.2.2.2⟩
theorem tkb_Ge {S : AS} {d : Int} {i : Nat} {m : Prm} {c r : Int} (h : Ge d S) (hm : (zR S)[i]? = some m) (hc : 1 ≤ c ∧ c ≤ m.2.2.1) (hr : 1 ≤ r ∧ r ≤ 3) : Ge d (tkb S i c r) ∧ Sm m.2.1 (les S i c) (tkb S i c r) ∧ 0 ≤ rom (les S i c) m.2.1 := by
  obtain ⟨hR, hU, hC, hP⟩ := h
  have hmr := hR.pmr (List.mem_of_getElem? hm)
  obtain ⟨n1, n2, n3, n4, n5, n6, n7, n8, n9⟩ := les_N (c := c) hm
  have hRl := Rg_les hR hm hc
  have hrm : 0 ≤ rom (les S i c) m.2.1 := by
    show 0 ≤ zP (les S i c) m.2.1 0 - lnt (les S i c) m.2.1 + brw (les S i c) m.2.1
    have h1 := (hU m.2.1 hmr.2.1).1
    have h2 := (hRl.brwR m.2.1).1
    rw [n7, les_lnt hm]
    split <;> omega
  obtain ⟨s1, s2, s3⟩ := shr_spec hr (zQ (les S i c) m.2.1).length (les S i c) rfl hRl (by rw [n1]; exact hmr.2.1) hrm
  rw [← tkb_eq hm] at s1 s2 s3
  refine ⟨⟨s2, fun p hp => ?_, ?_, ?_⟩, s1, hrm⟩
  · have hp : p < zN S := by rw [s1.1, n1] at hp; exact hp
    have h1 := hU p hp
    have hl := les_lnt (c := c) hm p
    have hro := les_rom (c := c) hm p
    refine ⟨?_, ?_⟩
    · show sm ((zR (tkb S i c r)).map _) ≤ zP (tkb S i c r) p 0
      rw [s1.2.2.2.2.2.2.1, s1.2.2.2.2.2.2.2.1 p 0 (by decide) (by decide), n7]
      show lnt (les S i c) p ≤ _
      rw [hl]
      split <;> omega
    · by_cases q : p = m.2.1
      · rw [q]; exact s3
      · rw [s1.usd q, s1.rom, hro]
        show sm ((zQ (les S i c) p).map _) ≤ _
        rw [n8]
        show usd S p ≤ _
        rw [if_neg (show ¬ m.2.1 = p from fun z => q z.symm)]
        split <;> omega
  · intro x hx
    rw [s1.2.2.2.2.2.2.1, les_eq hm] at hx
    have hx : x ∈ (if m.2.2.1 - c = 0 then (zR S).eraseIdx i else (zR S).set i (m.1, m.2.1, m.2.2.1 - c, m.2.2.2)) := hx
    split at hx
    · exact hC x (List.mem_of_mem_eraseIdx hx)
    · rcases List.mem_or_eq_of_mem_set hx with hx | rfl
      · exact hC x hx
      · exact hC m (List.mem_of_getElem? hm)
  · rw [s1.2.2.2.2.2.2.1, les_eq hm]
    show (if m.2.2.1 - c = 0 then (zR S).eraseIdx i else (zR S).set i (m.1, m.2.1, m.2.2.1 - c, m.2.2.2)).Pairwise (fun a b => a.2.2.2 ≤ b.2.2.2)
    split
    · exact List.Pairwise.sublist (List.eraseIdx_sublist _ _) hP
    · have hi := (List.getElem?_eq_some_iff.mp hm).1
      have key : ((zR S).set i (m.1, m.2.1, m.2.2.1 - c, m.2.2.2)).map (fun a => a.2.2.2) = (zR S).map (fun a => a.2.2.2) := by
        apply List.ext_getElem?
        intro j
        rw [List.getElem?_map, List.getElem?_map, List.getElem?_set]
        by_cases q : i = j
        · subst q
          rw [if_pos rfl, if_pos hi, hm]
          rfl
        · rw [if_neg q]
      rw [← List.pairwise_map (f := fun a : Prm => a.2.2.2) (R := fun a b => a ≤ b), key, List.pairwise_map]
      exact hP
theorem tkb_Gd {S : AS} {i : Nat} {m : Prm} {c r : Int} (h : Gd S) (hm : (zR S)[i]? = some m) (hc : 1 ≤ c ∧ c ≤ m.2.2.1) (hr : 1 ≤ r ∧ r ≤ 3) : Gd (tkb S i c r) ∧ Sm m.2.1 (les S i c) (tkb S i c r) ∧ 0 ≤ rom (les S i c) m.2.1 := by
  obtain ⟨g1, g2, g3⟩ := tkb_Ge (Gd_Ge h) hm hc hr
  refine ⟨Ge_Gd g1 ?_, g2, g3⟩
  rw [g2.2.2.2.1, (les_N hm).2.2.2.1]
  omega
