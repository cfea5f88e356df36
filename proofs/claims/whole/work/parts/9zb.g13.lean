/-! GROWTH 13: all that is made, and what both sides hold at the start -/
theorem PG_PW {cA : Nat → ClassId} {G : GS} {b0 : Nat} (h1 : G.1 = 356) (h2 : ∀ e, e < 356 → G.2.2.2 e = RS e) : PG cA G b0 = PW cA G.2.1 G.2.2.1 b0 := by
  unfold PG PW
  rw [h1]
  refine List.map_congr_left (fun e he => ?_)
  have h := h2 e (List.mem_range.mp he)
  have hf : fvG G b0 e = fv G.2.1 G.2.2.1 b0 e := by
    funext k
    unfold fvG fv
    rw [h]
  have he : enG cA G b0 e = en cA G.2.1 G.2.2.1 b0 e := by
    unfold enG en
    rw [hf, h]
  rw [he]
def T0 : TS := ([], (0, -1), emS, none, [], [])
theorem cI_at (e k : Nat) (ci : Nat) (h : kd e = ci) : cI e k = (if ci = 6 then (if k = 2 then 4 else if k = 3 then 100 else 0) else if ci = 8 then (if k = 3 then -1 else 0) else if ci = 10 then (if k = 11 then -1 else 0) else 0) := by
  unfold cI
  rw [h]
theorem CT_0 {μ : MM} (h1 : ∀ e, e < 348 → μ.1 e = cI e) : CT μ T0 := by
  have c : ∀ e k v, e < 348 → cI e k = v → μ.1 e k = v := fun e k v he h => by rw [h1 e he]; exact h
  refine ⟨⟨c 1 1 _ (by decide) (by decide +kernel), by show ([] : List Int).length ≤ 600; decide, AI_nil⟩, ⟨c 1 2 _ (by decide) (by decide +kernel), c 1 3 _ (by decide) (by decide +kernel)⟩, ?_, c 0 6 _ (by decide) (by decide +kernel), ⟨by show ([] : List AS).length ≤ 6; decide, c 122 2 _ (by decide) (by decide +kernel), 0, by decide, c 122 1 _ (by decide) (by decide +kernel), fun i s hs => by have hs : ([] : List AS)[i]? = some s := hs; simp at hs⟩, ⟨c 346 1 _ (by decide) (by decide +kernel), AI_nil⟩⟩
  exact ⟨by decide, emS_F.gd.1, c 11 1 _ (by decide) (by decide +kernel), c 11 2 _ (by decide) (by decide +kernel), c 11 3 _ (by decide) (by decide +kernel), c 11 4 _ (by decide) (by decide +kernel), c 11 5 _ (by decide) (by decide +kernel), fun p hp => absurd hp (Nat.not_lt_zero _), c 13 4 _ (by decide) (by decide +kernel), RA_nil, c 18 5 _ (by decide) (by decide +kernel), (fun i d _ hd => by have hd : ([] : List Drp)[i]? = some d := hd; simp at hd), c 23 1 _ (by decide) (by decide +kernel), c 23 2 _ (by decide) (by decide +kernel), c 23 3 _ (by decide) (by decide +kernel)⟩
theorem MT_0 {μ : MM} (h8 : ∀ k, μ.1 348 k = if k = 11 then -1 else 0) (h9 : ∀ k, μ.1 349 k = if k = 1 then 4 else if k = 2 then 100 else 0) : MT μ T0 := by
  have c : ∀ k v, (if k = 11 then (-1 : Int) else 0) = v → μ.1 348 k = v := fun k v h => by rw [h8 k]; exact h
  refine ⟨c 3 _ rfl, ⟨emS_F.gd.1, [], fun j hj => ?_, fun q hq => absurd hq (Nat.not_lt_zero _), fun q hq => absurd hq (Nat.not_lt_zero _), fun i r hr => by simp at hr, fun i r hr => ?_, fun i d _ hd => ?_, fun g hg => absurd hg List.not_mem_nil, fun q hq => absurd hq (Nat.not_lt_zero _)⟩, ⟨c 5 _ rfl, by show ([] : List Int).length ≤ 600; decide, AI_nil⟩, ⟨c 10 _ rfl, c 11 _ rfl⟩, c 25 _ rfl, ⟨c 15 _ rfl, by show ([] : List AS).length ≤ 6; decide, fun i s hs => by have hs : ([] : List AS)[i]? = some s := hs; simp at hs⟩, ⟨c 24 _ rfl, AI_nil⟩⟩
  · show μ.1 349 (2080 * 0 + j) = _
    rw [h9]
    rcases j12 hj with rfl | rfl | rfl | rfl | rfl | rfl | rfl | rfl | rfl | rfl | rfl | rfl <;> rfl
  · have hr : ([] : List Prm)[i]? = some r := hr
    simp at hr
  · have hd : ([] : List Drp)[i]? = some d := hd
    simp at hd
theorem TG_0 : TG 0 T0 := by
  have h : OKs 0 emS := ⟨emS_F.gd, by decide, by decide, fun r hr => absurd hr List.not_mem_nil⟩
  exact ⟨by decide, h, (fun s hs => by cases hs), fun s hs => absurd hs List.not_mem_nil⟩
theorem NG_0 : NG T0 := ⟨emS_F.2.2.2.2.2.2.2.2.2, (fun s hs => by cases hs), fun s hs => absurd hs List.not_mem_nil⟩
theorem TB_0 : TB T0 := ⟨fun x hx => absurd hx List.not_mem_nil, by show ([] : List Int).length ≤ 600; decide, by show ([] : List Int).length ≤ 2742; decide⟩
/-- what one side holds stays when the other moves -/
theorem CT.low {μ μ' : MM} {T : TS} (h : CT μ T) (hf : ∀ a, a < 348 → μ'.1 a = μ.1 a ∧ μ'.2 a = μ.2 a) : CT μ' T := by
  obtain ⟨a1, a2, a3, a4, ⟨b1, b2, l, b3, b4, b5⟩, a6⟩ := h
  refine ⟨⟨by rw [(hf 1 (by decide)).1]; exact a1.1, a1.2.1, a1.2.2.eq (hf 2 (by decide)).1⟩, ⟨by rw [(hf 1 (by decide)).1]; exact a2.1, by rw [(hf 1 (by decide)).1]; exact a2.2⟩, HC_fr a3 (fun a g1 g2 => hf a (by omega)), ?_, ⟨b1, by rw [(hf 122 (by decide)).1]; exact b2, l, b3, by rw [(hf 122 (by decide)).1]; exact b4, fun i s hs => HC_fr (b5 i s hs) (fun a g1 g2 => hf a (by omega))⟩, ⟨by rw [(hf 346 (by decide)).1]; exact a6.1, a6.2.eq (hf 347 (by decide)).1⟩⟩
  cases hs : tS T with
  | none =>
    rw [hs] at a4
    show μ'.1 0 6 = 0
    rw [(hf 0 (by decide)).1]
    exact a4
  | some s =>
    rw [hs] at a4
    exact ⟨by rw [(hf 0 (by decide)).1]; exact a4.1, HC_fr a4.2 (fun a g1 g2 => hf a (by omega))⟩
theorem MT.hi {μ μ' : MM} {T : TS} (h : MT μ T) (hj : ∀ j, j ≠ 9 → μ'.1 348 j = μ.1 348 j) (hf : ∀ a, 349 ≤ a → a < 355 → μ'.1 a = μ.1 a ∧ μ'.2 a = μ.2 a) : MT μ' T := by
  obtain ⟨a1, a2, a3, a4, a5, a6, a7⟩ := h
  have mb : ∀ b s, MB b μ s → MB b μ' s := fun b s hs => hs.eq (hf 349 (by decide) (by decide)).1 (hf 350 (by decide) (by decide)).2
  refine ⟨(hj 3 (by decide)).trans a1, mb _ _ a2, ⟨(hj 5 (by decide)).trans a3.1, a3.2.1, a3.2.2.eq (hf 351 (by decide) (by decide)).1⟩, ⟨(hj 10 (by decide)).trans a4.1, (hj 11 (by decide)).trans a4.2⟩, ?_, ⟨(hj 15 (by decide)).trans a6.1, a6.2.f (fun b s _ hs => mb b s hs)⟩, ⟨(hj 24 (by decide)).trans a7.1, a7.2.eq (hf 354 (by decide) (by decide)).1⟩⟩
  cases hs : tS T with
  | none =>
    rw [hs] at a5
    exact (hj 25 (by decide)).trans a5
  | some s =>
    rw [hs] at a5
    exact ⟨(hj 25 (by decide)).trans a5.1, mb _ _ a5.2⟩
