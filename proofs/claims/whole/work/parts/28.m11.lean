/-! PURE 16: promises lessen and come (model) -/
theorem Rg_R {S : AS} {R : List Prm} (h : Rg S) (hl : R.length ≤ 240) (hs : ∀ r ∈ R, r.1 < zN S ∧ r.2.1 < zN S ∧ (1 ≤ r.2.2.1 ∧ r.2.2.1 ≤ 40) ∧ (0 ≤ r.2.2.2 ∧ r.2.2.2 ≤ 3000000)) : Rg (stR S R) := by
  obtain ⟨r1, r2, r3, r4, r5, r6, r7, r8, r9, r10, r11, r12⟩ := h
  exact ⟨r1, r2, r3, r4, r5, r6, r7, r8, hl, hs, r11, r12⟩
theorem les_eq {S : AS} {i : Nat} {m : Prm} {c : Int} (h : (zR S)[i]? = some m) : les S i c = stR S (if m.2.2.1 - c = 0 then (zR S).eraseIdx i else (zR S).set i (m.1, m.2.1, m.2.2.1 - c, m.2.2.2)) := by
  unfold les
  rw [h]
theorem Rg_les {S : AS} {i : Nat} {m : Prm} {c : Int} (h : Rg S) (hm : (zR S)[i]? = some m) (hc : 1 ≤ c ∧ c ≤ m.2.2.1) : Rg (les S i c) := by
  have hi := (List.getElem?_eq_some_iff.mp hm).1
  have hl := h.pmn
  have hmr := h.pmr (List.mem_of_getElem? hm)
  rw [les_eq hm]
  split
  · refine Rg_R h (by rw [List.length_eraseIdx, if_pos hi]; omega) (fun r hr => h.pmr (List.mem_of_mem_eraseIdx hr))
  · refine Rg_R h (by rw [List.length_set]; exact hl) (fun r hr => ?_)
    rcases List.mem_or_eq_of_mem_set hr with hr | rfl
    · exact h.pmr hr
    · exact ⟨hmr.1, hmr.2.1, (by show 1 ≤ m.2.2.1 - c ∧ m.2.2.1 - c ≤ 40; omega), hmr.2.2.2⟩
theorem P_X10_lessens {μ : MM} {K : Option AV → MM → Prop} {b : Nat} {S : AS} {G : List (Nat × Pkt)} {x c : Int} {m : Prm} (i : Nat) (h : HG b μ S G) (hx : x = i) (hm : (zR S)[i]? = some m) (hc : 1 ≤ c ∧ c ≤ m.2.2.1) (hK : ∀ μ', HG b μ' (les S i c) G → FM b μ μ' → K (some (.inl (if m.2.2.1 - c = 0 then 1 else 0))) μ') : w_X10_lessens [.inr (.inr 348), .inl x, .inl c] μ K := by
  subst hx
  have ho := h.1
  have hb := h.2.1
  have hi := (List.getElem?_eq_some_iff.mp hm).1
  have hl := h.2.2.1.pmn
  have h6 := h.2.2.1.n6
  have hmr := h.2.2.1.pmr (List.mem_of_getElem? hm)
  have hRl := Rg_les h.2.2.1 hm hc
  rw [les_eq hm] at hRl hK
  have e6 : μ.1 349 (2080 * b + 6) = ((zR S).length : Int) := h.hd (by omega)
  have a2 : μ.1 349 (2080 * b + 1020 + 4 * i + 2) = m.2.2.1 := h.pm hm (by omega)
  have M1 := MR_setP (v := m.2.2.1 - c) h.2.2.2 hm h.len hl h6
  refine ⟨cs8 rfl, hM, cs8 rfl, Q_grows (1020 + 4 * i + 2) ho (by omega) (by omega) ?_⟩
  rw [show 2080 * b + (1020 + 4 * i + 2) = 2080 * b + 1020 + 4 * i + 2 by omega, a2, show m.2.2.1 + -c = m.2.2.1 - c by omega]
  have far : ∀ k, k ≠ 2080 * b + 1020 + 4 * i + 2 → uM μ.1 349 (2080 * b + 1020 + 4 * i + 2) (m.2.2.1 - c) 349 k = μ.1 349 k := fun k h1 => uM_k h1
  refine ⟨hM, cs8 rfl, Q_m i 2 (by simp only [uS, sdS, suS]; exact ho) rfl rfl (by omega) ?_⟩
  rw [uM_s]
  refine ⟨⟨by omega, by omega⟩, fun q => ⟨⟨by omega, by omega⟩, fun _ => ⟨Or.inl rfl, ?_⟩, fun q2 => absurd rfl q2⟩, fun q => ⟨⟨by omega, by omega⟩, fun q2 => absurd q2 (by decide), fun _ => ⟨hM, cs8 rfl, Q_removesPromise i (by simp only [uS, sdS, suS]; exact ho) (by omega) ((far _ (by omega)).trans e6) hl rfl hi ⟨Or.inr rfl, ?_⟩⟩⟩⟩
  · rw [if_neg q, if_neg q] at hK
    rw [if_neg q] at hRl
    refine hK _ ⟨(by simp only [uS, sdS, suS]; exact ho), hb, hRl, M1⟩ ⟨fun e he => uM_r he, fun k hk => far k (by omega), rfl⟩
  · rw [if_pos q, if_pos q] at hK
    rw [if_pos q] at hRl
    have hs : ((zR S).set i (m.1, m.2.1, m.2.2.1 - c, m.2.2.2)).length = (zR S).length := List.length_set
    have M2 := MR_rmP (q := i) M1 (by show i < ((zR S).set i (m.1, m.2.1, m.2.2.1 - c, m.2.2.2)).length; omega) h.len (by show ((zR S).set i (m.1, m.2.1, m.2.2.1 - c, m.2.2.2)).length ≤ 240; omega) h6
    have es : stR (stR S ((zR S).set i (m.1, m.2.1, m.2.2.1 - c, m.2.2.2))) ((zR (stR S ((zR S).set i (m.1, m.2.1, m.2.2.1 - c, m.2.2.2)))).eraseIdx i) = stR S ((zR S).eraseIdx i) := by
      show stR S (((zR S).set i (m.1, m.2.1, m.2.2.1 - c, m.2.2.2)).eraseIdx i) = _
      rw [List.eraseIdx_set_eq]
    rw [es] at M2
    have el : (zR (stR S ((zR S).set i (m.1, m.2.1, m.2.2.1 - c, m.2.2.2)))).length = (zR S).length := hs
    rw [el] at M2
    refine hK _ ⟨(by simp only [uS, sdS, suS]; exact ho), hb, hRl, M2⟩ ⟨fun e he => ?_, fun k hk => ?_, rfl⟩
    · show uM (sd (uM μ.1 _ _ _) _ _ _) _ _ _ e = _
      rw [uM_r he, sd_e he, uM_r he]
    · show uM (sd (uM μ.1 _ _ _) _ _ _) _ _ _ 349 k = _
      rw [uM_k (by omega), sd_o (by omega), uM_k (by omega)]
theorem pos_le (R : List Prm) (d : Int) : ∀ k, pos R d k ≤ k := by
  intro k
  induction k with
  | zero => exact Nat.le_refl 0
  | succ k ih =>
    unfold pos
    split
    · exact Nat.le_refl _
    · split <;> omega
theorem promises45_lp {I J : Mi} {K : Option AV → MM → Prop} {o n t l p : Nat} {c d : Int} (ho : I 348 3 = o) (hob : o ≤ 18720) (hn : I 349 (o + 6) = n) (hn2 : n < 240) (ht : t ≤ n)
    (hK : ∀ I' : Mi, (∀ e, e ≠ 349 → I' e = I e) → I' 349 (o + 1020 + 4 * t + 0) = l → I' 349 (o + 1020 + 4 * t + 1) = p → I' 349 (o + 1020 + 4 * t + 2) = c → I' 349 (o + 1020 + 4 * t + 3) = d → I' 349 (o + 6) = (n : Int) + 1 → (∀ k, o + 1020 + 4 * t + 4 ≤ k → k < o + 1020 + 4 * n + 4 → I' 349 k = I 349 (k - 4)) → (∀ k, k ≠ o + 6 → (k < o + 1020 + 4 * t ∨ o + 1020 + 4 * n + 4 ≤ k) → I' 349 k = I 349 k) → K (some (.inl (t : Int))) (I', J)) :
    ∀ k m : Nat, m = 4 * t + k → m ≤ 4 * n → B_X10_promises_45 K [some (.inr (.inr 348)), some (.inl (l : Int)), some (.inl (p : Int)), some (.inl c), some (.inl d), some (.inl (t : Int)), some (.inl ((m : Int) - 1))] [] (su I (o + 1020 + m) (o + 1020 + 4 * n) 4, J) := by
  intro k
  induction k with
  | zero =>
    intro m hm hm4
    have : m = 4 * t := hm
    subst this
    refine lfp_in ⟨⟨by omega, by omega⟩, ⟨by omega, by omega⟩, fun _ => ⟨hM, cs8 rfl, Q_set (1020 + 4 * t + 0) (by simp only [uS, sdS, suS]; exact ho) (by omega) (by omega) ⟨hM, cs8 rfl, Q_set (1020 + 4 * t + 1) (by simp only [uS, sdS, suS]; exact ho) (by omega) (by omega) ⟨hM, cs8 rfl, Q_set (1020 + 4 * t + 2) (by simp only [uS, sdS, suS]; exact ho) (by omega) (by omega) ⟨hM, cs8 rfl, Q_set (1020 + 4 * t + 3) (by simp only [uS, sdS, suS]; exact ho) (by omega) (by omega) ⟨hM, cs8 rfl, Q_grows 6 (by simp only [uS, sdS, suS]; exact ho) rfl (by omega) ?_⟩⟩⟩⟩⟩, fun z => absurd (by omega) z⟩
    refine hK _ ?_ ?_ ?_ ?_ ?_ ?_ ?_ ?_
    · intro e he
      repeat rw [uM_r he]
      rw [su_e he]
    · repeat rw [uM_k (by omega)]
      rw [show o + 1020 + 4 * t + 0 = o + (1020 + 4 * t + 0) by omega, uM_s]
    · repeat rw [uM_k (by omega)]
      rw [show o + 1020 + 4 * t + 1 = o + (1020 + 4 * t + 1) by omega, uM_s]
    · repeat rw [uM_k (by omega)]
      rw [show o + 1020 + 4 * t + 2 = o + (1020 + 4 * t + 2) by omega, uM_s]
    · repeat rw [uM_k (by omega)]
      rw [show o + 1020 + 4 * t + 3 = o + (1020 + 4 * t + 3) by omega, uM_s]
    · rw [uM_s]
      repeat rw [uM_k (by omega)]
      rw [su_o (by omega), hn]
    · intro k k1 k2
      repeat rw [uM_k (by omega)]
      rw [su_i (by omega) (by omega)]
    · intro k k1 k2
      repeat rw [uM_k (by omega)]
      rw [su_o (by omega)]
  | succ k ih =>
    intro m hm hm4
    obtain ⟨w, rfl⟩ : ∃ w, m = w + 1 := ⟨m - 1, by omega⟩
    refine lfp_in ⟨⟨by omega, by omega⟩, ⟨by omega, by omega⟩, fun z => absurd z (by omega), fun _ => ⟨hM, cs8 rfl, Q_of (1020 + w) (by simp only [uS, sdS, suS]; exact ho) (by omega) (by omega) ⟨hM, cs8 rfl, Q_set (1020 + w + 4) (by simp only [uS, sdS, suS]; exact ho) (by omega) (by omega) ?_⟩⟩⟩
    have key := ih w (by omega) (by omega)
    have e := su_s (I := I) (m := o + 1020 + w) (hi := o + 1020 + 4 * n) (d := 4) (by omega) (by omega)
    rw [← e, show o + 1020 + w + 1 = o + 1020 + (w + 1) by omega, show o + 1020 + w + 4 = o + (1020 + w + 4) by omega, show o + 1020 + w = o + (1020 + w) by omega] at key
    have ew : (w : Int) - 1 = (((w + 1 : Nat) : Int) - 1) + -1 := by omega
    rw [ew] at key
    exact key
theorem R4_ins {α : Type} {f f' : Nat → Int} {b q : Nat} {w : α → Nat → Int} {L : List α} {r : α} (h : R4 f b w L) (hq : q ≤ L.length) (h0 : ∀ j, j < 4 → f' (b + 4 * q + j) = w r j) (h1 : ∀ k, b ≤ k → k < b + 4 * q → f' k = f k) (h2 : ∀ k, b + 4 * q + 4 ≤ k → k < b + 4 * L.length + 4 → f' k = f (k - 4)) : R4 f' b w (L.insertIdx q r) := by
  intro i x hx j hj
  rw [List.getElem?_insertIdx] at hx
  split at hx
  · rw [h1 _ (by omega) (by omega)]
    exact h i x hx j hj
  · split at hx
    · rename_i y
      subst y
      rw [if_pos hq] at hx
      cases hx
      exact h0 j hj
    · have hi := (List.getElem?_eq_some_iff.mp hx).1
      rw [h2 _ (by omega) (by omega), show b + 4 * i + j - 4 = b + 4 * (i - 1) + j by omega]
      exact h (i - 1) x hx j hj
theorem P_X10_promises {μ : MM} {K : Option AV → MM → Prop} {b : Nat} {S : AS} {G : List (Nat × Pkt)} {x y c d : Int} (l p : Nat) (h : HG b μ S G) (hx : x = l) (hy : y = p) (hd : R32 d) (hR : Rg (stR S (pin (zR S) (l, p, c, d)))) (hK : ∀ μ' v, HG b μ' (stR S (pin (zR S) (l, p, c, d))) G → FM b μ μ' → K (some (.inl v)) μ') : w_X10_promises [.inr (.inr 348), .inl x, .inl y, .inl c, .inl d] μ K := by
  subst hx
  subst hy
  have ho := h.1
  have hb := h.2.1
  have hl := h.2.2.1.pmn
  have h6 := h.2.2.1.n6
  have hg := h.len
  have e6 : μ.1 349 (2080 * b + 6) = ((zR S).length : Int) := h.hd (by omega)
  have hpl := pos_le (zR S) d (zR S).length
  have hlen : (pin (zR S) (l, p, c, d)).length = (zR S).length + 1 := List.length_insertIdx_of_le_length hpl _
  have hlt : (zR S).length < 240 := by
    have := hR.pmn
    have : (pin (zR S) (l, p, c, d)).length ≤ 240 := this
    omega
  have fin : B_X10_promises_33 K [some (.inr (.inr 348)), some (.inl (l : Int)), some (.inl (p : Int)), some (.inl c), some (.inl d), some (.inl ((pos (zR S) d (zR S).length : Nat) : Int)), none] [] μ := by
    refine ⟨hM, cs8 rfl, P_X10_of 6 ho rfl (by omega) ?_⟩
    rw [e6]
    have key := promises45_lp (J := μ.2) (K := K) (l := l) (p := p) (c := c) (d := d) ho (by omega) e6 hlt hpl (fun I' b0 b1 b2 b3 b4 b5 b6 b7 => ?_) (4 * (zR S).length - 4 * pos (zR S) d (zR S).length) (4 * (zR S).length) (by omega) (by omega)
    · rw [su_0] at key
      have e4 : ((4 * (zR S).length : Nat) : Int) - 1 = 4 * ((zR S).length : Int) - 1 := by omega
      rw [e4] at key
      exact key
    · refine hK (I', μ.2) _ ⟨by show I' 348 3 = _; rw [b0 348 (by decide)]; exact ho, hb, hR, ?_⟩ ⟨b0, fun k hk => b7 k (by omega) (by omega), rfl⟩
      obtain ⟨m1, m2, m3, m4, m5, m6, m7, m8⟩ := h.2.2.2
      refine ⟨?_, ?_, m3, ?_, ?_, ?_, m7, m8⟩
      · intro j hj
        by_cases q7 : j = 6
        · subst q7
          show I' 349 (2080 * b + 6) = (((pin (zR S) (l, p, c, d)).length : Nat) : Int)
          rw [b5, hlen]
          omega
        · show I' 349 (2080 * b + j) = _
          rw [b7 _ (by omega) (by omega), m1 j hj]
          have hh : j = 0 ∨ j = 1 ∨ j = 2 ∨ j = 3 ∨ j = 4 ∨ j = 5 ∨ j = 7 ∨ j = 8 ∨ j = 9 ∨ j = 10 ∨ j = 11 := by omega
          rcases hh with rfl | rfl | rfl | rfl | rfl | rfl | rfl | rfl | rfl | rfl | rfl <;> rfl
      · intro p' hp' j hj hj5
        have hp' : p' < zN S := hp'
        show I' 349 _ = _
        rw [b7 _ (by omega) (by omega)]
        exact m2 p' hp' j hj hj5
      · exact R4_F m4 (fun k k1 k2 => b7 k (by omega) (by omega))
      · refine R4_ins (q := pos (zR S) d (zR S).length) m5 hpl (fun j hj => ?_) (fun k k1 k2 => b7 k (by omega) (by omega)) (fun k k1 k2 => b6 k k1 k2)
        have hh : j = 0 ∨ j = 1 ∨ j = 2 ∨ j = 3 := by omega
        rcases hh with rfl | rfl | rfl | rfl
        · exact b1
        · exact b2
        · exact b3
        · exact b4
      · intro i d' hi hd' j hj
        show I' 349 _ = _
        rw [b7 _ (by omega) (by omega)]
        exact m6 i d' hi hd' j hj
  have lp : ∀ t, t ≤ (zR S).length → B_X10_promises_33 K [some (.inr (.inr 348)), some (.inl (l : Int)), some (.inl (p : Int)), some (.inl c), some (.inl d), some (.inl ((pos (zR S) d t : Nat) : Int)), none] [] μ → B_X10_promises_8 K [some (.inr (.inr 348)), some (.inl (l : Int)), some (.inl (p : Int)), some (.inl c), some (.inl d), some (.inl (t : Int)), none] [] μ := by
    intro t
    induction t with
    | zero =>
      intro _ hf
      exact lfp_in ⟨⟨by omega, by omega⟩, fun _ => hf, fun z => absurd (by omega) z⟩
    | succ t ih =>
      intro ht hf
      obtain ⟨m, hm⟩ : ∃ m, (zR S)[t]? = some m := ⟨(zR S)[t], List.getElem?_eq_getElem (by omega)⟩
      have hmr := h.2.2.1.pmr (List.mem_of_getElem? hm)
      have a3 : μ.1 349 (2080 * b + 1020 + 4 * t + 3) = m.2.2.2 := h.pm hm (by omega)
      unfold pos at hf
      rw [hm] at hf
      refine lfp_in ⟨⟨by omega, by omega⟩, fun z => absurd z (by omega), fun _ => ⟨hM, cs8 rfl, P_X10_m t 3 ho (by omega) rfl (by omega) ?_⟩⟩
      rw [a3]
      refine ⟨⟨by omega, by omega⟩, hd, fun q => ?_, fun q => ?_⟩
      · dsimp only at hf
        rw [if_neg (by omega)] at hf
        exact hf
      · dsimp only at hf
        rw [if_pos (by omega)] at hf
        have key := ih (by omega) hf
        rw [show (t : Int) = ((t + 1 : Nat) : Int) + -1 by omega] at key
        exact key
  refine ⟨cs8 rfl, hM, cs8 rfl, P_X10_of 6 ho rfl (by omega) ?_⟩
  rw [e6]
  exact lp (zR S).length (Nat.le_refl _) fin
