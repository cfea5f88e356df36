/-! PURE 20: cells are borrowed, a packet arrives (model) -/
def bI : Option Nat → Int
  | none => -1
  | some b => b
theorem bI_r {S : AS} {p : Nat} {k : Nat} : -1 ≤ bI (bst S p k) ∧ bI (bst S p k) < k + 0 ∨ bI (bst S p k) = -1 := by
  have := bst_spec S p k
  split at this
  · rename_i e
    rw [e]
    exact Or.inr rfl
  · rename_i b e
    rw [e]
    refine Or.inl ⟨?_, ?_⟩
    · show (-1 : Int) ≤ (b : Int); omega
    · show (b : Int) < k + 0; omega
theorem bst_s (S : AS) (p k : Nat) : bst S p (k + 1) = match bst S p k with
  | none => if k = p then none else some k
  | some b => if k ≠ p ∧ cln S b < cln S k then some k else some b := rfl
theorem borrows12_lp {K2 : PT} {K : Option AV → MM → Prop} {μ : MM} {b p : Nat} {S : AS} {G : List (Nat × Pkt)} {left : Int} (h : HG b μ S G) (hp : p < 6) (hl : 1 ≤ left ∧ left ≤ 10000) (hne : ∃ z, bst S p (zN S) = some z) (hK : ∀ z, bst S p (zN S) = some z → B_X10_borrows_84 K K2 [some (.inr (.inr 348)), some (.inl (p : Int)), none, some (.inl left), some (.inl (z : Int)), none, none] [.inl (if cln S z < left then cln S z else left)] μ) : ∀ k i : Nat, i + k = zN S → B_X10_borrows_12 K K2 [some (.inr (.inr 348)), some (.inl (p : Int)), none, some (.inl left), some (.inl (bI (bst S p i))), some (.inl (i : Int)), none] [] μ := by
  have h6 := h.2.2.1.n6
  intro k
  induction k with
  | zero =>
    intro i hi
    have : i = zN S := by omega
    subst this
    obtain ⟨z, hz⟩ := hne
    have hs := bst_spec S p (zN S)
    rw [hz] at hs
    have hs : z < zN S ∧ z ≠ p ∧ ∀ i, i < zN S → i ≠ p → cln S i ≤ cln S z := hs
    have hr := h.2.2.1.spR hs.1
    have key := hK z hz
    rw [hz]
    refine lfp_in ⟨hM, cs8 rfl, h.ofo 0 rfl (by omega) ⟨⟨by omega, by omega⟩, by show R32 (zN S : Int); exact ⟨by omega, by omega⟩, fun _ => ⟨hM, cs8 rfl, P_X10_canLend z h rfl hs.1 ⟨⟨by omega, by omega⟩, ⟨by omega, by omega⟩, fun q => ?_, fun q => ⟨hM, cs8 rfl, P_X10_canLend z h rfl hs.1 ?_⟩⟩⟩, fun q => absurd (by show (zN S : Int) ≤ _; omega) q⟩⟩
    · rw [if_neg (by omega)] at key
      exact key
    · rw [if_pos (by omega)] at key
      exact key
  | succ k ih =>
    intro i hi
    have key := ih (i + 1) (by omega)
    have hri := h.2.2.1.spR (p := i) (by omega)
    refine lfp_in ⟨hM, cs8 rfl, h.ofo 0 rfl (by omega) ⟨⟨by omega, by omega⟩, by show R32 (zN S : Int); exact ⟨by omega, by omega⟩, fun q => absurd (show (zN S : Int) ≤ i from q) (by omega), fun _ => ⟨⟨by omega, by omega⟩, ⟨by omega, by omega⟩, fun q => ?_, fun q => ?_⟩⟩⟩
    · have e : bst S p (i + 1) = bst S p i := by
        rw [bst_s]
        cases bst S p i with
        | none => exact if_pos (by omega)
        | some z => exact if_neg (fun y => y.1 (by omega))
      rw [e] at key
      exact key
    · have hs := bst_spec S p i
      split at hs
      · rename_i e
        have e2 : bst S p (i + 1) = some i := by
          rw [bst_s, e]
          dsimp only
          rw [if_neg (by omega)]
        rw [e2] at key
        rw [e]
        exact ⟨by show R32 (-1); exact ⟨by omega, by omega⟩, ⟨by omega, by omega⟩, fun _ => key, fun q2 => absurd rfl q2⟩
      · rename_i z e
        have hrz := h.2.2.1.spR (p := z) (by omega)
        rw [e]
        refine ⟨by show R32 ((z : Int)); exact ⟨by omega, by omega⟩, ⟨by omega, by omega⟩, fun q2 => absurd (show (z : Int) = -1 from q2) (by omega), fun _ => ⟨hM, cs8 rfl, P_X10_canLend i h rfl (by omega) ⟨hM, cs8 rfl, P_X10_canLend z h rfl (by omega) ⟨⟨by omega, by omega⟩, ⟨by omega, by omega⟩, fun q3 => ?_, fun q3 => ?_⟩⟩⟩⟩
        · have e2 : bst S p (i + 1) = some z := by
            rw [bst_s, e]
            dsimp only
            rw [if_neg (by omega)]
          rw [e2] at key
          exact key
        · have e2 : bst S p (i + 1) = some i := by
            rw [bst_s, e]
            dsimp only
            rw [if_pos (by omega)]
          rw [e2] at key
          exact key
theorem bor_0 {k : Nat} {S : AS} {p : Nat} {left : Int} (h : left ≤ 0) : bor k S p left = S := by
  cases k with
  | zero => rfl
  | succ k => unfold bor; rw [if_pos h]
theorem bor_s {k : Nat} {S : AS} {p z : Nat} {left : Int} (h : 0 < left) (hz : bst S p (zN S) = some z) : bor (k + 1) S p left = bor k (lnd S z p (if cln S z < left then cln S z else left)) p (left - (if cln S z < left then cln S z else left)) := by
  conv => lhs; unfold bor
  rw [if_neg (by omega), hz]
  rfl
set_option maxHeartbeats 8000000 in
theorem borrows_lp {K : Option AV → MM → Prop} {b p : Nat} {G : List (Nat × Pkt)} (hp6 : p < 6) : ∀ (k : Nat) (μ : MM) (S : AS) (left : Int), HG b μ S G → Gd S → p < zN S → zcn S p ≤ k → (0 ≤ left ∧ left ≤ 10000) → left ≤ oth S p → (∀ μ', HG b μ' (bor k S p left) G → FM b μ μ' → K none μ') → B_X10_borrows_2 K [some (.inr (.inr 348)), some (.inl (p : Int)), none, some (.inl left), none, none, none] [] μ := by
  intro k
  induction k with
  | zero =>
    intro μ S left h hg hp hz hl ho hK
    have := zcn_0 (S := S) (p := p) hz
    exact lfp_in ⟨⟨by omega, by omega⟩, fun _ => hK μ h FM.refl, fun q => absurd (by omega) q⟩
  | succ k ih =>
    intro μ S left h hg hp hz hl ho hK
    refine lfp_in ⟨⟨by omega, by omega⟩, fun q => ?_, fun q => ?_⟩
    · rw [bor_0 q] at hK
      exact hK μ h FM.refl
    obtain ⟨z, e1, e2, e3, e4⟩ := oth_best (S := S) (p := p) (by omega)
    have hrz := h.2.2.1.spR e2
    refine borrows12_lp h hp6 (by omega) ⟨z, e1⟩ (fun z' hz' => ?_) (zN S) 0 (by omega)
    rw [e1] at hz'
    cases hz'
    rw [bor_s (by omega) e1] at hK
    have c1 : 1 ≤ (if cln S z < left then cln S z else left) := by split <;> omega
    have c2 : (if cln S z < left then cln S z else left) ≤ cln S z := by split <;> omega
    have c3 : (if cln S z < left then cln S z else left) ≤ left := by split <;> omega
    have c4 : (if cln S z < left then cln S z else left) = left ∨ (if cln S z < left then cln S z else left) = cln S z := by split <;> omega
    generalize (if cln S z < left then cln S z else left) = c at c1 c2 c3 c4 hK ⊢
    have g1 := lnd_Gd hg e2 hp e3 c2 c1
    have hcl := h.2.2.1.2.2.2.1
    have htm := h.2.2.1.2.1
    refine ⟨hM, cs8 rfl, h.ofo 3 rfl (by omega) ⟨hM, cs8 rfl, h.ofo 1 rfl (by omega) ⟨hM, cs8 rfl, P_X10_promises z p h rfl rfl (by show R32 (zC S + zT S); exact ⟨by omega, by omega⟩) g1.1 (fun μ1 v H1 F1 => ?_)⟩⟩⟩
    have zl : zcn (lnd S z p c) p ≤ k ∨ left - c ≤ 0 := by
      rcases c4 with c4 | c4
      · exact Or.inr (by omega)
      · left
        have := zcn_lnd (S := S) (p := p) e2 e3 c1 c4
        omega
    rcases zl with zl | zl
    · exact ih μ1 (lnd S z p c) (left - c) H1 g1 hp zl (by omega) (by rw [lnd_oth c2 c1 e2 e3]; omega) (fun μ' H' F' => hK μ' H' (F1.trans F'))
    · rw [bor_0 zl] at hK
      exact lfp_in ⟨⟨by omega, by omega⟩, fun _ => hK μ1 H1 F1, fun q => absurd zl q⟩
theorem zcn_le (S : AS) (p : Nat) : zcn S p ≤ zN S := by
  have : zcn S p ≤ sg (zN S) (fun _ => 1) := sg_le (fun i _ => by split <;> omega)
  rw [sg_c] at this
  omega
theorem P_X10_borrows {μ : MM} {K : Option AV → MM → Prop} {b : Nat} {S : AS} {G : List (Nat × Pkt)} {x c : Int} (p : Nat) (h : HG b μ S G) (hg : Gd S) (hx : x = p) (hp : p < zN S) (hc : 0 ≤ c ∧ c ≤ 10000) (ho : c ≤ oth S p) (hK : ∀ μ', HG b μ' (bor (zN S) S p c) G → FM b μ μ' → K none μ') : w_X10_borrows [.inr (.inr 348), .inl x, .inl c] μ K := by
  subst hx
  have h6 := h.2.2.1.n6
  exact ⟨cs8 rfl, borrows_lp (by omega) _ μ S c h hg hp (zcn_le S p) hc ho hK⟩
theorem R4_app {α : Type} {f f' : Nat → Int} {b : Nat} {w : α → Nat → Int} {L : List α} {r : α} (h : R4 f b w L) (h0 : ∀ j, j < 4 → f' (b + 4 * L.length + j) = w r j) (h1 : ∀ k, b ≤ k → k < b + 4 * L.length → f' k = f k) : R4 f' b w (L ++ [r]) := by
  intro i x hx j hj
  rw [List.getElem?_append] at hx
  split at hx
  · rw [h1 _ (by omega) (by omega)]
    exact h i x hx j hj
  · rename_i q
    have : i = L.length := by
      have := (List.getElem?_eq_some_iff.mp hx).1
      rw [List.length_singleton] at this
      omega
    subst this
    rw [Nat.sub_self] at hx
    cases hx
    exact h0 j hj
theorem P_X10_takes {μ : MM} {K : Option AV → MM → Prop} {b : Nat} {S : AS} {G : List (Nat × Pkt)} {x c : Int} (p : Nat) (h : HG b μ S G) (hx : x = p) (hp : p < zN S) (hR : Rg (tks S p c)) (hK : ∀ μ' G', HG b μ' (tks S p c) G' → FM b μ μ' → K none μ') : w_X10_takes [.inr (.inr 348), .inl x, .inl c] μ K := by
  subst hx
  have ho := h.1
  have hb := h.2.1
  have h6 := h.2.2.1.n6
  have hl := h.len
  have hpm := h.2.2.1.pmn
  have hwt := MR_len h.2.2.2
  have e7 : μ.1 349 (2080 * b + 7) = (G.length : Int) := h.hd (by omega)
  have e3 : μ.1 349 (2080 * b + 3) = zC S := h.hd (by omega)
  have hw2 : wtn (tks S p c) = wtn S - (zQ S p).length + (zQ S p ++ [(c, c, zC S)]).length := wtn_uQ hp
  rw [List.length_append, List.length_singleton] at hw2
  have hw3 := hR.2.2.2.2.2.2.2.1
  have hlt : G.length < 240 := by omega
  refine ⟨cs8 rfl, hM, cs8 rfl, Q_of 7 ho rfl (by omega) ?_⟩
  rw [e7]
  refine ⟨hM, cs8 rfl, Q_set (60 + 4 * G.length + 0) ho (by omega) (by omega) ⟨hM, cs8 rfl, Q_set (60 + 4 * G.length + 1) (by simp only [uS, sdS, suS]; exact ho) (by omega) (by omega) ⟨hM, cs8 rfl, Q_set (60 + 4 * G.length + 2) (by simp only [uS, sdS, suS]; exact ho) (by omega) (by omega) ⟨hM, cs8 rfl, Q_of 3 (by simp only [uS, sdS, suS]; exact ho) rfl (by omega) ⟨hM, cs8 rfl, Q_set (60 + 4 * G.length + 3) (by simp only [uS, sdS, suS]; exact ho) (by omega) (by omega) ⟨hM, cs8 rfl, Q_grows 7 (by simp only [uS, sdS, suS]; exact ho) rfl (by omega) ?_⟩⟩⟩⟩⟩⟩
  have far : ∀ I' : Mi, I' = uM (uM (uM (uM (uM μ.1 349 (2080 * b + (60 + 4 * G.length + 0)) (p : Int)) 349 (2080 * b + (60 + 4 * G.length + 1)) c) 349 (2080 * b + (60 + 4 * G.length + 2)) c) 349 (2080 * b + (60 + 4 * G.length + 3)) (zC S)) 349 (2080 * b + 7) ((G.length : Int) + 1) → K none (I', μ.2) := by
    intro I' hI
    have f : ∀ k, k ≠ 2080 * b + 7 → (k < 2080 * b + 60 + 4 * G.length ∨ 2080 * b + 60 + 4 * G.length + 4 ≤ k) → I' 349 k = μ.1 349 k := by
      intro k k1 k2
      rw [hI]
      repeat rw [uM_k (by omega)]
    obtain ⟨m1, m2, m3, m4, m5, m6, m7, m8⟩ := h.2.2.2
    refine hK (I', μ.2) (G ++ [(p, c, c, zC S)]) ⟨?_, hb, hR, ?_, ?_, m3, ?_, ?_, ?_, ?_, ?_⟩ ⟨?_, fun k hk => f k (by omega) (by omega), rfl⟩
    · show I' 348 3 = _
      rw [hI]
      simp only [uS]
      exact ho
    · intro j hj
      by_cases q7 : j = 7
      · subst q7
        show I' 349 (2080 * b + 7) = (((G ++ [(p, c, c, zC S)]).length : Nat) : Int)
        rw [hI, uM_s, List.length_append, List.length_singleton]
        omega
      · show I' 349 (2080 * b + j) = _
        rw [f _ (by omega) (by omega), m1 j hj]
        have hh : j = 0 ∨ j = 1 ∨ j = 2 ∨ j = 3 ∨ j = 4 ∨ j = 5 ∨ j = 6 ∨ j = 8 ∨ j = 9 ∨ j = 10 ∨ j = 11 := by omega
        rcases hh with rfl | rfl | rfl | rfl | rfl | rfl | rfl | rfl | rfl | rfl | rfl <;> rfl
    · intro p' hp' j hj hj5
      have hp' : p' < zN S := hp'
      show I' 349 _ = _
      rw [f _ (by omega) (by omega)]
      exact m2 p' hp' j hj hj5
    · refine R4_app m4 (fun j hj => ?_) (fun k k1 k2 => f k (by omega) (by omega))
      have hh : j = 0 ∨ j = 1 ∨ j = 2 ∨ j = 3 := by omega
      rcases hh with rfl | rfl | rfl | rfl
      · show I' 349 _ = (p : Int)
        rw [hI]
        repeat rw [uM_k (by omega)]
        rw [show 2080 * b + 60 + 4 * G.length + 0 = 2080 * b + (60 + 4 * G.length + 0) by omega, uM_s]
      · show I' 349 _ = c
        rw [hI]
        repeat rw [uM_k (by omega)]
        rw [show 2080 * b + 60 + 4 * G.length + 1 = 2080 * b + (60 + 4 * G.length + 1) by omega, uM_s]
      · show I' 349 _ = c
        rw [hI]
        repeat rw [uM_k (by omega)]
        rw [show 2080 * b + 60 + 4 * G.length + 2 = 2080 * b + (60 + 4 * G.length + 2) by omega, uM_s]
      · show I' 349 _ = zC S
        rw [hI]
        repeat rw [uM_k (by omega)]
        rw [show 2080 * b + 60 + 4 * G.length + 3 = 2080 * b + (60 + 4 * G.length + 3) by omega, uM_s]
    · refine R4_F m5 (fun k k1 k2 => ?_)
      have k2 : k < 2080 * b + 1020 + 4 * (zR S).length := k2
      exact f k (by omega) (by omega)
    · intro i d hi hd j hj
      show I' 349 _ = _
      rw [f _ (by omega) (by show _ ∨ 2080 * b + 60 + 4 * G.length + 4 ≤ 2080 * b + 1980 + 5 * (min 20 (zD S).length - 1 - i) + j; omega)]
      exact m6 i d hi hd j hj
    · intro g hg
      rcases List.mem_append.mp hg with hg | hg
      · exact m7 g hg
      · rw [List.mem_singleton.mp hg]
        exact hp
    · intro p' hp'
      show _ = (if p' = p then zQ S p ++ [(c, c, zC S)] else zQ S p')
      rw [fo_app, m8 p' hp']
      by_cases q : p' = p
      · subst q
        simp only [fo, if_true]
      · simp only [fo, if_neg q, if_neg (fun z : p = p' => q z.symm), List.append_nil]
    · intro e he
      show I' e = _
      rw [hI]
      repeat rw [uM_r he]
  have key := far _ rfl
  have v7 : uM (uM (uM (uM μ.1 349 (2080 * b + (60 + 4 * G.length + 0)) (p : Int)) 349 (2080 * b + (60 + 4 * G.length + 1)) c) 349 (2080 * b + (60 + 4 * G.length + 2)) c) 349 (2080 * b + (60 + 4 * G.length + 3)) (zC S) 349 (2080 * b + 7) = (G.length : Int) := by
    repeat rw [uM_k (by omega)]
    exact e7
  have v3 : uM (uM (uM μ.1 349 (2080 * b + (60 + 4 * G.length + 0)) (p : Int)) 349 (2080 * b + (60 + 4 * G.length + 1)) c) 349 (2080 * b + (60 + 4 * G.length + 2)) c 349 (2080 * b + 3) = zC S := by
    repeat rw [uM_k (by omega)]
    exact e3
  rw [v3, v7]
  exact key
