/-! PURE 15: a port shrinks; promises go, come and lessen (model) -/
theorem drn_eq {S : AS} {p : Nat} {r : Int} {q : Pkt} (h : (zQ S p).getLast? = some q) : drn S p r = nte (stQ S (uQq (zQ S) p (zQ S p).dropLast)) p q.1 r := by
  unfold drn
  rw [h]
theorem Rg_drp {S : AS} {p : Nat} {L : List Pkt} {q : Pkt} {r : Int} (h : Rg S) (hp : p < zN S) (hq : zQ S p = L ++ [q]) (hr : 1 ≤ r ∧ r ≤ 3) : Rg (stQ S (uQq (zQ S) p L)) ∧ Rg (nte (stQ S (uQq (zQ S) p L)) p q.1 r) := by
  have hl : (zQ S p).length = L.length + 1 := by rw [hq, List.length_append]; rfl
  have h1 : Rg (stQ S (uQq (zQ S) p L)) := Rg_Q h hp (fun x hx => h.qr hp (by rw [hq]; exact List.mem_append_left _ hx)) (by omega)
  have hw := wtn_uQ (S := S) (L := L) hp
  refine ⟨h1, Rg_nte h1 hp (h.qr hp (by rw [hq]; exact List.mem_append_right _ List.mem_cons_self)).1 hr ?_⟩
  have := h.2.2.2.2.2.2.2.2.2.2.1
  show ((zD S).length : Int) + 1 + wtn (stQ S (uQq (zQ S) p L)) ≤ zA S
  omega
theorem FM_rm {b lo hi a : Nat} {μ : MM} {v : Int} (h1 : 2080 * b ≤ lo) (h2 : hi ≤ 2080 * b + 2080) (h3 : 2080 * b ≤ a ∧ a < 2080 * b + 2080) : FM b μ (uM (sd μ.1 lo hi 4) 349 a v, μ.2) := by
  refine ⟨fun e he => ?_, fun k hk => ?_, rfl⟩
  · show uM (sd μ.1 lo hi 4) 349 a v e = _
    rw [uM_r he, sd_e he]
  · show uM (sd μ.1 lo hi 4) 349 a v 349 k = _
    rw [uM_k (by omega), sd_o (by omega)]
theorem shrinks_lp {K : Option AV → MM → Prop} {b p r : Nat} (hr : 1 ≤ r ∧ r ≤ 3) : ∀ (k : Nat) (μ : MM) (S : AS) (G : List (Nat × Pkt)), (zQ S p).length = k → HG b μ S G → p < zN S → 0 ≤ rom S p → (∀ μ' G', HG b μ' (shr k S p r) G' → FM b μ μ' → K none μ') → B_X10_shrinks_0 K [some (.inr (.inr 348)), some (.inl (p : Int)), some (.inl (r : Int)), none, none] [] μ := by
  intro k
  induction k with
  | zero =>
    intro μ S G hk h hp hrm hK
    have hu : usd S p = 0 := by
      unfold usd
      rw [List.length_eq_zero_iff.mp hk]
      rfl
    have hs := h.2.2.1.spR hp
    refine lfp_in ⟨hM, cs8 rfl, P_X10_usedBy p h rfl hp ⟨hM, cs8 rfl, P_X10_roomOf p h rfl hp ⟨⟨by omega, by omega⟩, ⟨by omega, by omega⟩, fun _ => ?_, fun q => absurd (by omega) q⟩⟩⟩
    exact hK μ G h FM.refl
  | succ k ih =>
    intro μ S G hk h hp hrm hK
    have hs := h.2.2.1.spR hp
    have hu := h.2.2.1.usdR hp
    have hl := h.len
    have hb := h.2.1
    have h6 := h.2.2.1.n6
    have ho := h.1
    have e7 : μ.1 349 (2080 * b + 7) = (G.length : Int) := h.hd (by omega)
    refine lfp_in ⟨hM, cs8 rfl, P_X10_usedBy p h rfl hp ⟨hM, cs8 rfl, P_X10_roomOf p h rfl hp ⟨⟨by omega, by omega⟩, ⟨by omega, by omega⟩, fun q => ?_, fun q => ⟨hM, cs8 rfl, P_X10_newest p h rfl hp (fun z => ?_) (fun i g hg hgp hlast => ⟨hM, cs8 rfl, P_X10_k i 1 ho rfl rfl ?_ ?_⟩)⟩⟩⟩⟩
    · have e : shr (k + 1) S p r = S := if_pos q
      rw [e] at hK
      exact hK μ G h FM.refl
    · rw [z] at hk
      exact absurd hk (by simp)
    · have := (List.getElem?_eq_some_iff.mp hg).1
      omega
    have hi := (List.getElem?_eq_some_iff.mp hg).1
    have a1 : μ.1 349 (2080 * b + 60 + 4 * i + 1) = g.2.1 := h.pk hg (by omega)
    rw [a1]
    have hf := h.2.2.2.2.2.2.2.2.2.2
    have hQ : zQ S p = fo p (G.eraseIdx i) ++ [g.2] := by
      rw [← hf p hp]
      have := fo_last hg (fun q' g' e1 e2 => by rw [hgp]; exact hlast q' g' e1 e2)
      rw [hgp] at this
      exact this
    have hd : (zQ S p).dropLast = fo p (G.eraseIdx i) := by rw [hQ, List.dropLast_concat]
    have hg2 : (zQ S p).getLast? = some g.2 := by rw [hQ, List.getLast?_concat]
    obtain ⟨R1, R2⟩ := Rg_drp (r := (r : Int)) h.2.2.1 hp hQ (by omega)
    have ed : drn S p r = nte (stQ S (uQq (zQ S) p (fo p (G.eraseIdx i)))) p g.2.1 r := by rw [drn_eq hg2, hd]
    have es : shr (k + 1) S p r = shr k (drn S p r) p r := if_neg q
    rw [es, ed] at hK
    refine ⟨hM, cs8 rfl, Q_removesPacket i ho (by omega) e7 hl rfl hi ?_⟩
    have hm := MR_rm (Q' := uQq (zQ S) p (fo p (G.eraseIdx i))) h.2.2.2 hi hl h6 (fun p' hp' => by
      show _ = if p' = p then _ else _
      by_cases y : p' = p
      · rw [if_pos y, y]
      · rw [if_neg y, fo_er hg (by omega)]
        exact hf p' hp')
    have H1 : HG b (uM (sd μ.1 (2080 * b + 60 + 4 * i) (2080 * b + 60 + 4 * G.length - 4) 4) 349 (2080 * b + 7) ((G.length : Int) - 1), μ.2) (stQ S (uQq (zQ S) p (fo p (G.eraseIdx i)))) (G.eraseIdx i) := ⟨(by simp only [uS, sdS, suS]; exact ho), hb, R1, hm⟩
    have F1 : FM b μ (uM (sd μ.1 (2080 * b + 60 + 4 * i) (2080 * b + 60 + 4 * G.length - 4) 4) 349 (2080 * b + 7) ((G.length : Int) - 1), μ.2) := FM_rm (by omega) (by omega) (by omega)
    refine ⟨hM, cs8 rfl, P_X10_notes p r H1 rfl rfl hp hr R2 (fun μ2 H2 F2 => ?_)⟩
    have hlen : (zQ (nte (stQ S (uQq (zQ S) p (fo p (G.eraseIdx i)))) p g.2.1 r) p).length = k := by
      show ((if p = p then fo p (G.eraseIdx i) else zQ S p)).length = k
      rw [if_pos rfl]
      rw [hQ, List.length_append] at hk
      exact Nat.succ.inj hk
    have hrm2 : 0 ≤ rom (nte (stQ S (uQq (zQ S) p (fo p (G.eraseIdx i)))) p g.2.1 r) p := by
      show 0 ≤ uM (uM (zP S) p 4 (zP S p 4 + 1)) p 6 (zP S p 6 + g.2.1) p 0 - lnt S p + brw S p
      simp only [uMP]
      exact hrm
    exact ih μ2 _ _ hlen H2 hp hrm2 (fun μ' G' H' F' => hK μ' G' H' (F1.trans (F2.trans F')))
theorem P_X10_shrinks {μ : MM} {K : Option AV → MM → Prop} {b : Nat} {S : AS} {G : List (Nat × Pkt)} {x y : Int} (p r : Nat) (h : HG b μ S G) (hx : x = p) (hy : y = r) (hp : p < zN S) (hr : 1 ≤ r ∧ r ≤ 3) (hrm : 0 ≤ rom S p) (hK : ∀ μ' G', HG b μ' (shr (zQ S p).length S p r) G' → FM b μ μ' → K none μ') : w_X10_shrinks [.inr (.inr 348), .inl x, .inl y] μ K := by
  subst hx
  subst hy
  exact ⟨cs8 rfl, shrinks_lp hr _ μ S G rfl h hp hrm hK⟩
/-! promises -/
theorem removesPromise_lp {I J : Mi} {K : Option AV → MM → Prop} {o q n : Nat} (ho : I 348 3 = o) (hob : o ≤ 18720) (hn : I 349 (o + 6) = n) (hn1 : 1 ≤ n) (hn2 : n ≤ 240) (hq : q < n) (hK : K none (uM (sd I (o + 1020 + 4 * q) (o + 1020 + 4 * n - 4) 4) 349 (o + 6) ((n : Int) - 1), J)) : ∀ k i : Nat, i + k = 4 * n - 4 → 4 * q ≤ i → B_X10_removesPromise_4 K [some (.inr (.inr 348)), none, some (.inl (i : Int))] [] (sd I (o + 1020 + 4 * q) (o + 1020 + i) 4, J) := by
  have e7 : ∀ hi, sd I (o + 1020 + 4 * q) hi 4 349 (o + 6) = n := fun hi => by rw [sd_o (by omega)]; exact hn
  intro k
  induction k with
  | zero =>
    intro i hi h4
    have : i = 4 * n - 4 := by omega
    subst this
    refine lfp_in ⟨hM, cs8 rfl, Q_of 6 (by simp only [uS, sdS, suS]; exact ho) rfl (by omega) ?_⟩
    rw [e7]
    refine ⟨⟨by omega, by omega⟩, ⟨by omega, by omega⟩, fun _ => ⟨hM, cs8 rfl, Q_grows 6 (by simp only [uS, sdS, suS]; exact ho) rfl (by omega) ?_⟩, fun z => absurd (by omega) z⟩
    rw [e7]
    rw [show o + 1020 + 4 * n - 4 = o + 1020 + (4 * n - 4) by omega] at hK
    exact hK
  | succ k ih =>
    intro i hi h4
    refine lfp_in ⟨hM, cs8 rfl, Q_of 6 (by simp only [uS, sdS, suS]; exact ho) rfl (by omega) ?_⟩
    rw [e7]
    refine ⟨⟨by omega, by omega⟩, ⟨by omega, by omega⟩, fun z => absurd z (by omega), fun _ => ⟨hM, cs8 rfl, Q_of (1020 + i + 4) (by simp only [uS, sdS, suS]; exact ho) (by omega) (by omega) ⟨hM, cs8 rfl, Q_set (1020 + i) (by simp only [uS, sdS, suS]; exact ho) (by omega) (by omega) ?_⟩⟩⟩
    have key := ih (i + 1) (by omega) (by omega)
    have e := sd_s (I := I) (lo := o + 1020 + 4 * q) (m := o + 1020 + i) (d := 4) (by omega) (by omega)
    rw [show o + 1020 + (i + 1) = o + 1020 + i + 1 by omega, ← e, show o + 1020 + i = o + (1020 + i) by omega, show o + (1020 + i) + 4 = o + (1020 + i + 4) by omega] at key
    rw [show o + 1020 + i = o + (1020 + i) by omega]
    exact key
theorem Q_removesPromise {I J : Mi} {K : Option AV → MM → Prop} {o n : Nat} {x : Int} (q : Nat) (ho : I 348 3 = o) (hob : o ≤ 18720) (hn : I 349 (o + 6) = n) (hn2 : n ≤ 240) (hx : x = q) (hq : q < n) (hK : K none (uM (sd I (o + 1020 + 4 * q) (o + 1020 + 4 * n - 4) 4) 349 (o + 6) ((n : Int) - 1), J)) : w_X10_removesPromise [.inr (.inr 348), .inl x] (I, J) K := by
  subst hx
  have key := removesPromise_lp (J := J) ho hob hn (by omega) hn2 hq hK (4 * n - 4 - 4 * q) (4 * q) (by omega) (by omega)
  rw [sd_0] at key
  refine ⟨cs8 rfl, ?_⟩
  show B_X10_removesPromise_4 K [some (.inr (.inr 348)), none, some (.inl (4 * (q : Int)))] [] (I, J)
  rw [show 4 * (q : Int) = ((4 * q : Nat) : Int) by omega]
  exact key
theorem MR_rmP {b q : Nat} {I J : Mi} {S : AS} {G : List (Nat × Pkt)} (hm : MR b I J S G) (hq : q < (zR S).length) (hl : G.length ≤ 240) (hl2 : (zR S).length ≤ 240) (h6 : zN S ≤ 6) : MR b (uM (sd I (2080 * b + 1020 + 4 * q) (2080 * b + 1020 + 4 * (zR S).length - 4) 4) 349 (2080 * b + 6) (((zR S).length : Int) - 1)) J (stR S ((zR S).eraseIdx q)) G := by
  obtain ⟨m1, m2, m3, m4, m5, m6, m7, m8⟩ := hm
  have hle : ((zR S).eraseIdx q).length = (zR S).length - 1 := by rw [List.length_eraseIdx, if_pos hq]
  have far : ∀ k, k ≠ 2080 * b + 6 → (k < 2080 * b + 1020 + 4 * q ∨ 2080 * b + 1020 + 4 * (zR S).length - 4 ≤ k) → uM (sd I (2080 * b + 1020 + 4 * q) (2080 * b + 1020 + 4 * (zR S).length - 4) 4) 349 (2080 * b + 6) (((zR S).length : Int) - 1) 349 k = I 349 k := fun k h1 h2 => by rw [uM_k h1, sd_o h2]
  refine ⟨?_, ?_, m3, ?_, ?_, ?_, m7, m8⟩
  · intro j hj
    by_cases q7 : j = 6
    · subst q7
      rw [uM_s]
      show _ = ((((zR S).eraseIdx q).length : Nat) : Int)
      omega
    · rw [far _ (by omega) (by omega), m1 j hj]
      have hh : j = 0 ∨ j = 1 ∨ j = 2 ∨ j = 3 ∨ j = 4 ∨ j = 5 ∨ j = 7 ∨ j = 8 ∨ j = 9 ∨ j = 10 ∨ j = 11 := by omega
      rcases hh with rfl | rfl | rfl | rfl | rfl | rfl | rfl | rfl | rfl | rfl | rfl <;> rfl
  · intro p hp j hj hj5
    have hp : p < zN S := hp
    rw [far _ (by omega) (by omega)]
    exact m2 p hp j hj hj5
  · exact R4_F m4 (fun k k1 k2 => far k (by omega) (by omega))
  · refine R4_rm m5 hq (fun k k1 k2 => far k (by omega) (by omega)) (fun k k1 k2 => ?_)
    rw [uM_k (by omega), sd_i (by omega) (by omega)]
  · intro i d hi hd j hj
    rw [far _ (by omega) (by omega)]
    exact m6 i d hi hd j hj
theorem R4_set {α : Type} {f f' : Nat → Int} {b q j0 : Nat} {w : α → Nat → Int} {L : List α} {r r' : α} (h : R4 f b w L) (hq : L[q]? = some r) (hw : ∀ j, j < 4 → j ≠ j0 → w r' j = w r j) (h0 : f' (b + 4 * q + j0) = w r' j0) (h1 : ∀ k, b ≤ k → k < b + 4 * L.length → k ≠ b + 4 * q + j0 → f' k = f k) (hj0 : j0 < 4) : R4 f' b w (L.set q r') := by
  intro i x hx j hj
  have hql := (List.getElem?_eq_some_iff.mp hq).1
  rw [List.getElem?_set] at hx
  split at hx
  · rename_i y
    subst y
    cases hx
    by_cases y : j = j0
    · subst y
      exact h0
    · rw [h1 _ (by omega) (by omega) (by omega), hw j hj y]
      exact h q r hq j hj
  · have hi := (List.getElem?_eq_some_iff.mp hx).1
    rw [h1 _ (by omega) (by omega) (by omega)]
    exact h i x hx j hj
theorem MR_setP {b q : Nat} {I J : Mi} {S : AS} {G : List (Nat × Pkt)} {m : Prm} {v : Int} (hm : MR b I J S G) (hq : (zR S)[q]? = some m) (hl : G.length ≤ 240) (hl2 : (zR S).length ≤ 240) (h6 : zN S ≤ 6) : MR b (uM I 349 (2080 * b + 1020 + 4 * q + 2) v) J (stR S ((zR S).set q (m.1, m.2.1, v, m.2.2.2))) G := by
  obtain ⟨m1, m2, m3, m4, m5, m6, m7, m8⟩ := hm
  have hql := (List.getElem?_eq_some_iff.mp hq).1
  have far : ∀ k, k ≠ 2080 * b + 1020 + 4 * q + 2 → uM I 349 (2080 * b + 1020 + 4 * q + 2) v 349 k = I 349 k := fun k h1 => uM_k h1
  refine ⟨?_, ?_, m3, ?_, ?_, ?_, m7, m8⟩
  · intro j hj
    rw [far _ (by omega), m1 j hj]
    have hh : j = 0 ∨ j = 1 ∨ j = 2 ∨ j = 3 ∨ j = 4 ∨ j = 5 ∨ j = 6 ∨ j = 7 ∨ j = 8 ∨ j = 9 ∨ j = 10 ∨ j = 11 := by omega
    rcases hh with rfl | rfl | rfl | rfl | rfl | rfl | rfl | rfl | rfl | rfl | rfl | rfl
    all_goals first | rfl | (show ((zR S).length : Int) = ((((zR S).set q (m.1, m.2.1, v, m.2.2.2)).length : Nat) : Int); rw [List.length_set])
  · intro p hp j hj hj5
    have hp : p < zN S := hp
    rw [far _ (by omega)]
    exact m2 p hp j hj hj5
  · exact R4_F m4 (fun k k1 k2 => far k (by omega))
  · refine R4_set m5 hq (j0 := 2) (fun j hj hj2 => ?_) uM_s (fun k k1 k2 k3 => far k k3) (by decide)
    have hh : j = 0 ∨ j = 1 ∨ j = 3 := by omega
    rcases hh with rfl | rfl | rfl <;> rfl
  · intro i d hi hd j hj
    rw [far _ (by omega)]
    exact m6 i d hi hd j hj
