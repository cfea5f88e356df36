/-! PURE 49: truncate and reportByte, both sides -/
abbrev seB (T : TS) (B : List Int) (E W : Int) : TS := (B, (E, W), T.2.2)
theorem MT.txt {μ μ' : MM} {T : TS} {B : List Int} {E W : Int} (h : MT μ T) (f1 : ∀ e, e ≠ 348 → e ≠ 351 → μ'.1 e = μ.1 e) (f2 : ∀ e, μ'.2 e = μ.2 e) (f3 : ∀ j, j = 3 ∨ j = 15 ∨ j = 24 ∨ j = 25 → μ'.1 348 j = μ.1 348 j) (hB : μ'.1 348 5 = B.length ∧ B.length ≤ 600 ∧ AI (μ'.1 351) B) (hE : μ'.1 348 10 = E ∧ μ'.1 348 11 = W) : MT μ' (seB T B E W) := by
  obtain ⟨a1, a2, a3, a4, a5, a6, a7⟩ := h
  have m : ∀ b s, MB b μ s → MB b μ' s := fun b s hs => hs.eq (f1 349 (by decide) (by decide)) (f2 350)
  refine ⟨(f3 3 (by omega)).trans a1, m 0 _ a2, hB, hE, ?_, ⟨(f3 15 (by omega)).trans a6.1, a6.2.1, fun i s hs => m _ s (a6.2.2 i s hs)⟩, ⟨(f3 24 (by omega)).trans a7.1, a7.2.eq (f1 354 (by decide) (by decide))⟩⟩
  show SB μ' (tS T)
  cases e : tS T with
  | none => rw [e] at a5; exact (f3 25 (by omega)).trans a5
  | some s => rw [e] at a5; exact ⟨(f3 25 (by omega)).trans a5.1, m 1 s a5.2⟩
theorem CT.txt {μ μ' : MM} {T : TS} {B : List Int} {E W : Int} (h : CT μ T) (f1 : ∀ a, a ≠ 1 → a ≠ 2 → μ'.1 a = μ.1 a) (f2 : ∀ a, 11 ≤ a → μ'.2 a = μ.2 a) (hB : μ'.1 1 1 = B.length ∧ B.length ≤ 600 ∧ AI (μ'.1 2) B) (hE : μ'.1 1 2 = E ∧ μ'.1 1 3 = W) : CT μ' (seB T B E W) := by
  obtain ⟨a1, a2, a3, a4, a5, a6⟩ := h
  obtain ⟨l, b1, b2, b3⟩ := a5.2.2
  have m : ∀ e s, 11 ≤ e → HC e μ s → HC e μ' s := fun e s he hs => HC_fr hs (fun a g1 g2 => ⟨f1 a (by omega) (by omega), f2 a (by omega)⟩)
  refine ⟨hB, hE, m 11 _ (by decide) a3, ?_, ⟨a5.1, by rw [f1 122 (by decide) (by decide)]; exact a5.2.1, l, b1, by rw [f1 122 (by decide) (by decide)]; exact b2, fun i s hs => m _ s (by omega) (b3 i s hs)⟩, ⟨by rw [f1 346 (by decide) (by decide)]; exact a6.1, a6.2.eq (f1 347 (by decide) (by decide))⟩⟩
  show SY μ' (tS T)
  cases e : tS T with
  | none => rw [e] at a4; show μ'.1 0 6 = 0; rw [f1 0 (by decide) (by decide)]; exact a4
  | some s => rw [e] at a4; exact ⟨by rw [f1 0 (by decide) (by decide)]; exact a4.1, m 85 s (by decide) a4.2⟩
def oTrn (T : TS) (n : Int) : (Int × Int) × TS := if 0 ≤ n ∧ n ≤ (tB T).length then ((0, n), seB T ((tB T).take n.toNat) (tE T) (tW T)) else ((1, 0), T)
def oRpb (T : TS) (i : Int) : (Int × Int) × TS := if 0 ≤ i ∧ i < (tP T).length then ((0, match (tP T)[i.toNat]? with
  | some x => x
  | none => 0), T) else ((1, 0), T)
theorem AI_take {f : Nat → Int} {L : List Int} {n : Nat} (h : AI f L) : AI f (L.take n) := fun i x hx => by
  rw [List.getElem?_take] at hx
  split at hx
  · exact h i x hx
  · cases hx
theorem P_M_truncate {μ : MM} {K : Option AV → MM → Prop} {T : TS} {x : Int} (h : MT μ T) (hx : R32 x) (hK : OM (oTrn T x) K μ) : w_X10_truncate [.inr (.inr 348), .inl x] μ K := by
  have h5 := h.2.2.1.1
  have hl := h.2.2.1.2.1
  refine ⟨cs8 rfl, hx, hM, ?_⟩
  show o_i2l _ _ [.inl (μ.1 348 5), _, _, _] μ
  rw [h5]
  refine ⟨⟨by omega, by omega⟩, cs8 rfl, cs8 rfl, P_X10_in (r64 hx) ⟨by omega, by omega⟩ ⟨by omega, by omega⟩ (fun q1 q2 => ⟨hM, cs8 rfl, P_X10_good (Or.inr rfl) (fun _ => ⟨⟨by omega, by omega⟩, fun _ => ⟨hM, ?_⟩, fun q => absurd q (by decide)⟩) (fun q => absurd q (by decide))⟩) (fun q => ⟨hM, cs8 rfl, P_X10_good (Or.inl rfl) (fun q => absurd q (by decide)) (fun _ => ⟨⟨by omega, by omega⟩, fun q => absurd rfl q, fun _ => hK.t (if_neg q) h⟩)⟩)⟩
  obtain ⟨n, rfl⟩ : ∃ n : Nat, x = n := ⟨x.toNat, by omega⟩
  have e : oTrn T n = ((0, (n : Int)), seB T ((tB T).take n) (tE T) (tW T)) := if_pos ⟨q1, q2⟩
  have hlen : ((tB T).take n).length = n := by rw [List.length_take]; omega
  refine hK.k (μ' := (uM (uM μ.1 348 0 0) 348 5 (n : Int), μ.2)) e (h.txt (fun e h1 _ => ?_) (fun _ => rfl) (fun j hj => ?_) ⟨?_, by rw [hlen]; omega, ?_⟩ ⟨?_, ?_⟩) ?_ (FX.put.trans FX.put)
  · show uM (uM μ.1 348 0 0) 348 5 (n : Int) e = _; rw [uM_r h1, uM_r h1]
  · show uM (uM μ.1 348 0 0) 348 5 (n : Int) 348 j = _; rw [uM_k (by omega), uM_k (by omega)]
  · rw [hlen]; exact pS
  · exact (AI_take h.2.2.1.2.2).eq (by show uM (uM μ.1 348 0 0) 348 5 (n : Int) 351 = _; rw [uM_r (by decide), uM_r (by decide)])
  · show uM (uM μ.1 348 0 0) 348 5 (n : Int) 348 10 = _; rw [uM_k (by decide), uM_k (by decide)]; exact h.2.2.2.1.1
  · show uM (uM μ.1 348 0 0) 348 5 (n : Int) 348 11 = _; rw [uM_k (by decide), uM_k (by decide)]; exact h.2.2.2.1.2
  · show uM (uM μ.1 348 0 0) 348 5 (n : Int) 348 0 = _; rw [uM_k (by decide), uM_s]
theorem P_C_truncate {I J : Mi} {K : Option AV → MM → Prop} {X : String → MM → Prop} {T : TS} {x : Int} (h : CT (I, J) T) (hx : R32 x) (hK : OY [xA] (oTrn T x) K X (I, J)) : w_X9_truncate [.inr (.inr 0), .inl x] (I, J) K X := by
  have h5 : I 1 1 = ((tB T).length : Int) := h.1.1
  have hl := h.1.2.1
  refine ⟨cs8 rfl, h0X, h1T, ?_⟩
  show _ ∧ _ ∧ w_X9_needWithin [.inl x, .inl 0, .inl (I 1 1)] _ _ _
  rw [h5]
  refine ⟨cs8 rfl, cs8 rfl, P_X9_needWithin hx ⟨by omega, by omega⟩ ⟨by omega, by omega⟩ (fun q1 q2 => ⟨h0X, h1T, ?_⟩) (fun q => hK.x 0 rfl (if_neg q) h)⟩
  obtain ⟨n, rfl⟩ : ∃ n : Nat, x = n := ⟨x.toNat, by omega⟩
  have e : oTrn T n = ((0, (n : Int)), seB T ((tB T).take n) (tE T) (tW T)) := if_pos ⟨q1, q2⟩
  have hlen : ((tB T).take n).length = n := by rw [List.length_take]; omega
  refine hK.k (μ' := (uM I 1 1 (n : Int), J)) e (h.txt (fun a h1 _ => uM_r h1) (fun _ _ => rfl) ⟨?_, by rw [hlen]; omega, ?_⟩ ⟨?_, ?_⟩) (fun a ha => ⟨uM_r (by omega), rfl⟩)
  · rw [hlen]; exact pS
  · exact (AI_take h.1.2.2).eq (uM_r (I := I) (e := 1) (k := 1) (v := (n : Int)) (e' := 2) (by decide))
  · show uM I 1 1 (n : Int) 1 2 = _; rw [uM_k (by decide)]; exact h.2.1.1
  · show uM I 1 1 (n : Int) 1 3 = _; rw [uM_k (by decide)]; exact h.2.1.2
