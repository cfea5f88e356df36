/-! PURE 27: all that the model holds; what is remembered and kept -/
/-- bytes; error (code, position); the switch; the saved one; what can be had again, the newest first; the report -/
abbrev TS : Type := List Int × (Int × Int) × AS × Option AS × List AS × List Int
abbrev tB (T : TS) : List Int := T.1
abbrev tE (T : TS) : Int := T.2.1.1
abbrev tW (T : TS) : Int := T.2.1.2
abbrev tN (T : TS) : AS := T.2.2.1
abbrev tS (T : TS) : Option AS := T.2.2.2.1
abbrev tH (T : TS) : List AS := T.2.2.2.2.1
abbrev tP (T : TS) : List Int := T.2.2.2.2.2
abbrev seN (T : TS) (S : AS) (H : List AS) : TS := (T.1, T.2.1, S, T.2.2.2.1, H, T.2.2.2.2.2)
/-- the blocks of what can be had again -/
def HB (μ : MM) (H : List AS) : Prop := H.length ≤ 6 ∧ ∀ (i : Nat) (s : AS), H[i]? = some s → MB (4 + (H.length - 1 - i)) μ s
def SB (μ : MM) : Option AS → Prop
  | none => μ.1 348 25 = 0
  | some s => μ.1 348 25 = 1 ∧ MB 1 μ s
def AI (f : Nat → Int) (L : List Int) : Prop := ∀ (i : Nat) (x : Int), L[i]? = some x → f i = x
def MT (μ : MM) (T : TS) : Prop := μ.1 348 3 = 0 ∧ MB 0 μ (tN T) ∧ (μ.1 348 5 = (tB T).length ∧ (tB T).length ≤ 600 ∧ AI (μ.1 351) (tB T)) ∧ (μ.1 348 10 = tE T ∧ μ.1 348 11 = tW T) ∧ SB μ (tS T) ∧ (μ.1 348 15 = (tH T).length ∧ HB μ (tH T)) ∧ (μ.1 348 24 = (tP T).length ∧ AI (μ.1 354) (tP T))
/-- the model's calls leave the class's memory -/
def FX (μ μ' : MM) : Prop := (∀ e, e < 348 ∨ 354 < e → μ'.1 e = μ.1 e) ∧ (∀ e, e < 348 ∨ 354 < e → μ'.2 e = μ.2 e)
theorem FX.refl {μ : MM} : FX μ μ := ⟨fun _ _ => rfl, fun _ _ => rfl⟩
theorem FX.trans {μ μ1 μ2 : MM} (h : FX μ μ1) (h' : FX μ1 μ2) : FX μ μ2 := ⟨fun e he => (h'.1 e he).trans (h.1 e he), fun e he => (h'.2 e he).trans (h.2 e he)⟩
theorem FM.fx {b : Nat} {μ μ' : MM} (h : FM b μ μ') : FX μ μ' := ⟨fun e he => h.1 e (by omega), fun e _ => by rw [h.2.2]⟩
theorem FX.put {μ : MM} {k : Nat} {v : Int} : FX μ (uM μ.1 348 k v, μ.2) := ⟨fun e he => uM_r (by omega), fun _ _ => rfl⟩
theorem FX.cp {I J : Mi} {f t : Nat} : FX (I, J) (cpI I f t 2080, cpJ J f t 6) := ⟨fun e he => cpI_e (by omega), fun e he => cpJ_e (by omega)⟩
/-- the model's memory but for its blocks and some numbers of its own -/
def F8 (ks : List Nat) (μ μ' : MM) : Prop := (∀ e, e ≠ 348 → e ≠ 349 → μ'.1 e = μ.1 e) ∧ (∀ j, j ∉ ks → μ'.1 348 j = μ.1 348 j) ∧ (∀ e, e ≠ 350 → μ'.2 e = μ.2 e)
theorem F8.trans {ks : List Nat} {μ μ1 μ2 : MM} (h : F8 ks μ μ1) (h' : F8 ks μ1 μ2) : F8 ks μ μ2 := ⟨fun e h1 h2 => (h'.1 e h1 h2).trans (h.1 e h1 h2), fun j hj => (h'.2.1 j hj).trans (h.2.1 j hj), fun e he => (h'.2.2 e he).trans (h.2.2 e he)⟩
theorem F8.fx {ks : List Nat} {μ μ' : MM} (h : F8 ks μ μ') : FX μ μ' := ⟨fun e he => h.1 e (by omega) (by omega), fun e he => h.2.2 e (by omega)⟩
theorem F8.cp {ks : List Nat} {I J : Mi} {f t : Nat} : F8 ks (I, J) (cpI I f t 2080, cpJ J f t 6) := ⟨fun e _ h2 => cpI_e h2, fun j _ => by show cpI I f t 2080 348 j = _; rw [cpI_e (by decide)], fun e he => cpJ_e he⟩
theorem F8.fm {ks : List Nat} {b : Nat} {μ μ' : MM} (h : FM b μ μ') : F8 ks μ μ' := ⟨fun e _ h2 => h.1 e h2, fun j _ => by rw [h.1 348 (by decide)], fun e _ => by rw [h.2.2]⟩
theorem F8.put {ks : List Nat} {k : Nat} {v : Int} {μ : MM} (hk : k ∈ ks) : F8 ks μ (uM μ.1 348 k v, μ.2) := ⟨fun e h1 _ => uM_r h1, fun j hj => uM_k (fun q => hj (q ▸ hk)), fun _ _ => rfl⟩
theorem F8.mono {ks ks' : List Nat} {μ μ' : MM} (h : F8 ks μ μ') (hs : ∀ k ∈ ks, k ∈ ks') : F8 ks' μ μ' := ⟨h.1, fun j hj => h.2.1 j (fun q => hj (hs j q)), h.2.2⟩
theorem SB.f {ks : List Nat} {μ μ' : MM} {o : Option AS} (h : SB μ o) (hf : F8 ks μ μ') (h25 : 25 ∉ ks) (hm : ∀ s, MB 1 μ s → MB 1 μ' s) : SB μ' o := by
  cases o with
  | none => exact (hf.2.1 25 h25).trans h
  | some s => exact ⟨(hf.2.1 25 h25).trans h.1, hm s h.2⟩
theorem AI.eq {f g : Nat → Int} {L : List Int} (h : AI f L) (e : g = f) : AI g L := by rw [e]; exact h
/-- what is left when the switch and what can be had again change -/
theorem MT.step {ks : List Nat} {μ μ' : MM} {T : TS} {S : AS} {H : List AS} (h : MT μ T) (hf : F8 ks μ μ') (hks : ∀ k ∈ ks, k = 0 ∨ k = 3 ∨ k = 15) (h3 : μ'.1 348 3 = 0) (h0 : MB 0 μ' S) (h1 : ∀ s, MB 1 μ s → MB 1 μ' s) (h15 : μ'.1 348 15 = H.length) (hH : HB μ' H) : MT μ' (seN T S H) := by
  obtain ⟨a1, a2, a3, a4, a5, a6, a7⟩ := h
  have n : ∀ k, k ≠ 0 → k ≠ 3 → k ≠ 15 → k ∉ ks := fun k q1 q2 q3 z => by rcases hks k z with r | r | r <;> omega
  exact ⟨h3, h0, ⟨(hf.2.1 5 (n 5 (by decide) (by decide) (by decide))).trans a3.1, a3.2.1, a3.2.2.eq (hf.1 351 (by decide) (by decide))⟩, ⟨(hf.2.1 10 (n 10 (by decide) (by decide) (by decide))).trans a4.1, (hf.2.1 11 (n 11 (by decide) (by decide) (by decide))).trans a4.2⟩, a5.f hf (n 25 (by decide) (by decide) (by decide)) h1, ⟨h15, hH⟩, ⟨(hf.2.1 24 (n 24 (by decide) (by decide) (by decide))).trans a7.1, a7.2.eq (hf.1 354 (by decide) (by decide))⟩⟩
theorem HB.f {μ μ' : MM} {H : List AS} (h : HB μ H) (hm : ∀ b s, 4 ≤ b → MB b μ s → MB b μ' s) : HB μ' H := ⟨h.1, fun i s hs => hm _ s (by omega) (h.2 i s hs)⟩
theorem MB.put {b k : Nat} {v : Int} {I J : Mi} {s : AS} (h : MB b (I, J) s) : MB b (uM I 348 k v, J) s := h.eq (μ := (I, J)) (μ' := (uM I 348 k v, J)) (uM_r (I := I) (e := 348) (k := k) (v := v) (e' := 349) (by decide)) rfl
theorem MT.thr {μ : MM} {T : TS} (h : MT μ T) (v : Int) : MT (uM μ.1 348 0 v, μ.2) T := by
  have e9 : (uM μ.1 348 0 v) 349 = μ.1 349 := uM_r (by decide)
  exact h.step (S := tN T) (H := tH T) (F8.put (ks := [0]) (by decide)) (fun k hk => by simp at hk; exact Or.inl hk) ((uM_k (I := μ.1) (e := 348) (k := 0) (v := v) (e' := 348) (k' := 3) (by decide)).trans h.1) (h.2.1.eq e9 rfl) (fun s hs => hs.eq e9 rfl) ((uM_k (I := μ.1) (e := 348) (k := 0) (v := v) (e' := 348) (k' := 15) (by decide)).trans h.2.2.2.2.2.1.1) (h.2.2.2.2.2.1.2.f (fun b s _ hs => hs.eq e9 rfl))
theorem MT.hg {μ : MM} {T : TS} (h : MT μ T) : ∃ G, HG 0 μ (tN T) G := h.2.1.hg h.1 (by decide)
theorem P_X10_remembers {I J : Mi} {K : Option AV → MM → Prop} (hK : K none (cpI I 0 3 2080, cpJ J 0 3 6)) : w_X10_remembers [.inr (.inr 348)] (I, J) K := ⟨cs8 rfl, hM, cs8 rfl, P_X10_copies 0 3 rfl rfl (by decide) (by decide) (by decide) hK⟩
/-- the blocks of what can be had again, the first i - 1 moved down -/
def HS (i : Nat) (μ : MM) (H : List AS) : Prop := ∀ (q : Nat) (s : AS), q < 5 → H[q]? = some s → if 5 - q < i then MB (8 - q) μ s else MB (9 - q) μ s
theorem keeps_lp {K : Option AV → MM → Prop} {H : List AS} : ∀ (k i : Nat) (I J : Mi), i + k = 6 → 1 ≤ i → I 348 15 = 6 → HS i (I, J) H → (∀ I' J', F8 [] (I, J) (I', J') → (∀ b s, b < 4 → MB b (I, J) s → MB b (I', J') s) → HS 6 (I', J') H → B_X10_keeps_57 K [some (.inr (.inr 348)), none] [] (uM I' 348 15 5, J')) → B_X10_keeps_11 K [some (.inr (.inr 348)), some (.inl (i : Int))] [] (I, J) := by
  intro k
  induction k with
  | zero =>
    intro i I J hi h1 h15 hs hK
    have : i = 6 := by omega
    subst this
    refine lfp_in ⟨⟨by omega, by omega⟩, ⟨by omega, by omega⟩, fun _ => ⟨hM, hM, ?_⟩, fun q => absurd (by decide) q⟩
    have key := hK I J ⟨fun _ _ _ => rfl, fun _ _ => rfl, fun _ _ => rfl⟩ (fun _ _ _ h => h) hs
    have e : (5 : Int) = I 348 15 - 1 := by rw [h15]; rfl
    rw [e] at key
    exact key
  | succ k ih =>
    intro i I J hi h1 h15 hs hK
    refine lfp_in ⟨⟨by omega, by omega⟩, ⟨by omega, by omega⟩, fun q => absurd q (by omega), fun _ => ⟨hM, cs8 rfl, P_X10_copies (4 + i) (4 + (i - 1)) (by omega) (by omega) (by omega) (by omega) (by omega) ?_⟩⟩
    refine ih (i + 1) _ _ (by omega) (by omega) (by rw [cpI_e (by decide)]; exact h15) (fun q s hq hH => ?_) (fun I' J' f1 f2 f3 => hK I' J' ((F8.cp).trans f1) (fun b s hb h => f2 b s hb (h.cpo (by omega))) f3)
    have g := hs q s hq hH
    by_cases z : 5 - q < i
    · rw [if_pos z] at g
      rw [if_pos (by omega)]
      exact g.cpo (by omega)
    · rw [if_neg z] at g
      by_cases y : 5 - q = i
      · rw [if_pos (by omega)]
        have := MB.cp (f := 4 + i) (t := 4 + (i - 1)) (I := I) (J := J) (S := s) (by rw [show 4 + i = 9 - q by omega]; exact g)
        rw [show 4 + (i - 1) = 8 - q by omega] at this ⊢
        exact this
      · rw [if_neg (by omega)]
        exact g.cpo (by omega)
theorem keeps_57 {K : Option AV → MM → Prop} {I J : Mi} {n : Nat} (hn : I 348 15 = n) (hn6 : n < 6) (hK : K none (uM (cpI I 3 (4 + n) 2080) 348 15 ((n : Int) + 1), cpJ J 3 (4 + n) 6)) : B_X10_keeps_57 K [some (.inr (.inr 348)), none] [] (I, J) := by
  refine ⟨hM, ?_⟩
  show _ ∧ _ ∧ w_X10_copies [.inr (.inr 348), .inl 6240, .inl (8320 + 2080 * I 348 15)] _ _
  rw [hn]
  refine ⟨hM, cs8 rfl, P_X10_copies 3 (4 + n) rfl (by omega) (by decide) (by omega) (by omega) ⟨hM, hM, ?_⟩⟩
  show K none (uM (cpI I 3 (4 + n) 2080) 348 15 (cpI I 3 (4 + n) 2080 348 15 + 1), cpJ J 3 (4 + n) 6)
  rw [cpI_e (by decide), hn]
  exact hK
theorem P_X10_keeps {K : Option AV → MM → Prop} {I J : Mi} {H : List AS} {S0 : AS} (h15 : I 348 15 = H.length) (hH : HB (I, J) H) (h3 : MB 3 (I, J) S0) (hK : ∀ I' J', F8 [15] (I, J) (I', J') → (∀ b s, b < 4 → MB b (I, J) s → MB b (I', J') s) → I' 348 15 = ((S0 :: H).take 6).length → HB (I', J') ((S0 :: H).take 6) → K none (I', J')) : w_X10_keeps [.inr (.inr 348)] (I, J) K := by
  have fin : ∀ (I1 J1 : Mi) (H1 : List AS), I1 348 15 = H1.length → H1.length < 6 → F8 [15] (I, J) (I1, J1) → (∀ b s, b < 4 → MB b (I, J) s → MB b (I1, J1) s) → HB (I1, J1) H1 → (S0 :: H).take 6 = S0 :: H1 → B_X10_keeps_57 K [some (.inr (.inr 348)), none] [] (I1, J1) := by
    intro I1 J1 H1 a1 a2 a3 a4 a5 a6
    refine keeps_57 a1 a2 (hK _ _ (a3.trans ⟨fun e q1 q2 => ?_, fun j hj => ?_, fun e he => cpJ_e he⟩) (fun b s hb h => ?_) ?_ ?_)
    · show uM (cpI I1 3 (4 + H1.length) 2080) 348 15 _ e = _
      rw [uM_r q1, cpI_e q2]
    · show uM (cpI I1 3 (4 + H1.length) 2080) 348 15 _ 348 j = _
      rw [uM_k (fun z => hj (by rw [z]; exact List.mem_cons_self)), cpI_e (by decide)]
    · exact ((a4 b s hb h).cpo (t := 4 + H1.length) (f := 3) (by omega)).put
    · rw [uM_s, a6, List.length_cons]
      omega
    · rw [a6]
      refine ⟨by rw [List.length_cons]; omega, fun i s hs => ?_⟩
      cases i with
      | zero =>
        cases hs
        rw [show 4 + ((S0 :: H1).length - 1 - 0) = 4 + H1.length by rw [List.length_cons]; omega]
        exact (MB.cp (a4 3 S0 (by decide) h3)).put
      | succ i =>
        rw [List.getElem?_cons_succ] at hs
        have hi := (List.getElem?_eq_some_iff.mp hs).1
        rw [show 4 + ((S0 :: H1).length - 1 - (i + 1)) = 4 + (H1.length - 1 - i) by rw [List.length_cons]; omega]
        exact ((a5.2 i s hs).cpo (by omega)).put
  have hl := hH.1
  refine ⟨cs8 rfl, hM, ?_⟩
  show o_ci 6 _ _ [.inl (I 348 15)] _
  rw [h15]
  refine ⟨⟨by omega, by omega⟩, ⟨by omega, by omega⟩, fun q => ?_, fun q => ?_⟩
  · exact fin I J H h15 (by omega) ⟨fun _ _ _ => rfl, fun _ _ => rfl, fun _ _ => rfl⟩ (fun _ _ _ h => h) hH (List.take_of_length_le (by rw [List.length_cons]; omega))
  · have h6 : H.length = 6 := by omega
    refine keeps_lp (H := H) 5 1 I J (by decide) (by decide) (by rw [h15, h6]; rfl) (fun p s hp hs => ?_) (fun I' J' f1 f2 f3 => ?_)
    · have := hH.2 p s hs
      rw [h6] at this
      rw [if_neg (by omega), show 9 - p = 4 + (6 - 1 - p) by omega]
      exact this
    · refine fin _ _ (H.take 5) (by rw [uM_s, List.length_take, h6]; rfl) (by rw [List.length_take, h6]; decide) ⟨fun e q1 q2 => ?_, fun j hj => ?_, fun e he => f1.2.2 e he⟩ (fun b s hb h => (f2 b s hb h).put) ⟨by rw [List.length_take, h6]; decide, fun i s hs => ?_⟩ rfl
      · show uM I' 348 15 5 e = _
        rw [uM_r q1]
        exact f1.1 e q1 q2
      · show uM I' 348 15 5 348 j = _
        rw [uM_k (fun z => hj (by rw [z]; exact List.mem_cons_self))]
        exact f1.2.1 j (fun z => by cases z)
      · have hi := (List.getElem?_eq_some_iff.mp hs).1
        rw [List.length_take, h6] at hi
        have hi : i < 5 := hi
        rw [List.getElem?_take, if_pos hi] at hs
        have g := f3 i s hi hs
        rw [if_pos (by omega)] at g
        rw [List.length_take, h6, show 4 + (min 5 6 - 1 - i) = 8 - i by omega]
        exact g.put
