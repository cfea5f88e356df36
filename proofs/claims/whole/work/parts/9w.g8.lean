/-! GROWTH 8: what constructors make -/
def cI (e k : Nat) : Int := if kd e = 6 then (if k = 2 then 4 else if k = 3 then 100 else 0) else if kd e = 8 then (if k = 3 then -1 else 0) else if kd e = 10 then (if k = 11 then -1 else 0) else 0
theorem cI_0 {e : Nat} (h : kd e ≠ 6 ∧ kd e ≠ 8 ∧ kd e ≠ 10) : cI e = fun _ => 0 := funext fun k => by
  unfold cI
  rw [if_neg h.1, if_neg h.2.1, if_neg h.2.2]
def RSl (ci a : Nat) : List (Option Nat) := ((fkL.getD ci []).zip (roL.getD ci [])).map (fun p => if p.1 = 2 then some (a + p.2) else none)
theorem fkro : ∀ ci < 11, (fkL.getD ci []).length = (roL.getD ci []).length := by decide
theorem RS_l {a ci : Nat} (h : kd a = ci) (hc : ci < 11) (j : Nat) : RS a j = (RSl ci a).getD j none := by
  have hl := fkro ci hc
  unfold RS RSl
  rw [h, if_neg (by omega), if_neg (by omega), List.getD_eq_getElem?_getD, List.getElem?_map]
  by_cases hj : j < (fkL.getD ci []).length
  · have hz : ((fkL.getD ci []).zip (roL.getD ci []))[j]? = some ((fkL.getD ci [])[j], (roL.getD ci [])[j]) := by
      rw [List.getElem?_eq_getElem (by rw [List.length_zip]; omega), List.getElem_zip]
    have e1 : fk ci j = (fkL.getD ci [])[j] := by
      unfold fk
      rw [List.getD_eq_getElem?_getD, List.getElem?_eq_getElem hj]
      rfl
    have e2 : ro ci j = (roL.getD ci [])[j] := by
      unfold ro
      rw [List.getD_eq_getElem?_getD, List.getElem?_eq_getElem (by omega)]
      rfl
    rw [hz, e1, e2]
    rfl
  · have hz : ((fkL.getD ci []).zip (roL.getD ci []))[j]? = none := List.getElem?_eq_none (by rw [List.length_zip]; omega)
    have e1 : fk ci j = 99 := by
      unfold fk
      rw [List.getD_eq_getElem?_getD, List.getElem?_eq_none (by omega)]
      rfl
    rw [hz, e1]
    rfl
/-- a row is the same -/
def SmR (G G' : GS) (e : Nat) : Prop := G'.2.1 e = G.2.1 e ∧ G'.2.2.1 e = G.2.2.1 e ∧ G'.2.2.2 e = G.2.2.2 e
theorem SmR.trans {G G1 G2 : GS} {e : Nat} (h : SmR G G1 e) (h' : SmR G1 G2 e) : SmR G G2 e := ⟨h'.1.trans h.1, h'.2.1.trans h.2.1, h'.2.2.trans h.2.2⟩
theorem SmR.gX {G : GS} {a k v e : Nat} (h : e ≠ a) : SmR G (gX G a k v) e := ⟨rfl, rfl, funext fun j => if_neg (fun q => h q.1)⟩
theorem SmR.gN {G : GS} {e : Nat} (h : e ≠ G.1) : SmR G (gN G) e := ⟨if_neg h, if_neg h, if_neg h⟩
theorem SmR.gI {G : GS} {a k e : Nat} {v : Int} (h : e ≠ a) : SmR G (gI G a k v) e := ⟨uM_r h, rfl, rfl⟩
/-- it is done -/
def fin (G : GS) (e : Nat) : Prop := G.2.1 e = cI e ∧ G.2.2.1 e = (fun _ => 0) ∧ G.2.2.2 e = RS e
theorem fin.sm {G G' : GS} {e : Nat} (h : fin G e) (s : SmR G G' e) : fin G' e := ⟨s.1.trans h.1, s.2.1.trans h.2.1, s.2.2.trans h.2.2⟩
def Dn (b c : Nat) (G G' : GS) : Prop := G'.1 = c ∧ (∀ e, e < b → SmR G G' e) ∧ (∀ e, b ≤ e → e < c → fin G' e)
def Fr (a : Nat) (G : GS) : Prop := G.1 = a + 1 ∧ (∀ j, G.2.1 a j = 0) ∧ (∀ j, G.2.2.1 a j = 0) ∧ (∀ j, G.2.2.2 a j = none)
/-- object a is made, b entities are there; x: an array of references (none, where x is a), its row rX; the numbers li and references lx of a -/
def Bd (a b x : Nat) (rX : Nat → Option Nat) (G0 : GS) (li : List Int) (lx : List (Option Nat)) (G : GS) : Prop :=
  G.1 = b ∧ a < b ∧ (∀ e, e < a → SmR G0 G e) ∧ (∀ e, a < e → e < b → e ≠ x → fin G e) ∧ (a < x → x < b ∧ (G.2.1 x = fun _ => 0) ∧ (G.2.2.1 x = fun _ => 0) ∧ G.2.2.2 x = rX) ∧ (∀ j, G.2.1 a j = li.getD j 0) ∧ (∀ j, G.2.2.1 a j = 0) ∧ (∀ j, G.2.2.2 a j = lx.getD j none)
section
variable {a b x : Nat} {rX : Nat → Option Nat} {G0 G : GS} {li : List Int} {lx : List (Option Nat)} {L : List (Option AV)} {top : Nat} {kk : PTG}
theorem getD_set {α : Type} {l : List α} {k j : Nat} {v d : α} (hk : k < l.length) : (l.set k v).getD j d = if j = k then v else l.getD j d := by
  rw [List.getD_eq_getElem?_getD, List.getD_eq_getElem?_getD, List.getElem?_set]
  by_cases h : k = j
  · subst h
    rw [if_pos rfl, if_pos hk, if_pos rfl]
    rfl
  · rw [if_neg h, if_neg (fun q => h q.symm)]
theorem Bd.start (h : Fr a G) (hi : ∀ j, li.getD j 0 = 0) (hx : ∀ j, lx.getD j none = none) : Bd a (a + 1) a rX G li lx G := ⟨h.1, Nat.lt_succ_self a, fun e _ => ⟨rfl, rfl, rfl⟩, fun e h1 h2 _ => absurd h1 (by omega), fun z => absurd z (Nat.lt_irrefl a), fun j => (h.2.1 j).trans (hi j).symm, h.2.2.1, fun j => (h.2.2.2 j).trans (hx j).symm⟩
theorem Bd.sm {G' : GS} {c k : Nat} (B : Bd a b x rX G0 li lx G) (hc : G'.1 = c) (hbc : b < c) (hs : ∀ e, e < b → SmR G G' e) (hf : ∀ e, b ≤ e → e < c → fin G' e) (hk : k < lx.length) (v : Nat) (hx : x ≠ a → x < b) : Bd a c x rX G0 li (lx.set k (some v)) (gX G' a k v) := by
  obtain ⟨h1, h2, h3, h4, h5, h6, h7, h8⟩ := B
  refine ⟨hc, by omega, fun e he => (h3 e he).trans ((hs e (by omega)).trans (SmR.gX (by omega))), fun e e1 e2 e3 => ?_, fun z => ?_, fun j => ?_, fun j => ?_, fun j => ?_⟩
  · by_cases q : e < b
    · exact ((h4 e e1 q e3).sm (hs e q)).sm (SmR.gX (by omega))
    · exact (hf e (by omega) e2).sm (SmR.gX (by omega))
  · obtain ⟨p1, p2, p3, p4⟩ := h5 z
    have s := (hs x p1).trans (SmR.gX (G := G') (a := a) (k := k) (v := v) (by omega))
    exact ⟨by omega, s.1.trans p2, s.2.1.trans p3, s.2.2.trans p4⟩
  · have s := hs a h2
    show G'.2.1 a j = _
    rw [s.1]; exact h6 j
  · have s := hs a h2
    show G'.2.2.1 a j = _
    rw [s.2.1]; exact h7 j
  · have s := hs a h2
    rw [getD_set hk]
    show (if a = a ∧ j = k then some v else G'.2.2.2 a j) = _
    by_cases q : j = k
    · rw [if_pos ⟨rfl, q⟩, if_pos q]
    · rw [if_neg (fun y => q y.2), if_neg q, s.2.2]; exact h8 j
/-- an array of numbers -/
theorem Bs_arr {k ci t : Nat} {n : Int} (B : Bd a b x rX G0 li lx G) (hx : x < b) (ht : kd b = t) (ht2 : t = 11 ∨ t = 12) (hn : n = (ln b : Nat)) (htop : b + 1 ≤ top) (ha : kd a = ci) (hk : k < lx.length) (hL : L[0]? = some (some (.inr (.inr a)))) (h : ∀ G', Bd a (b + 1) x rX G0 li (lx.set k (some b)) G' → kk L [] G') : g_aload 0 (g_ci n (g_newa t top (g_putR ci k kk))) L [] G := by
  have h1 := B.1
  have h2 := B.2.1
  unfold g_aload
  rw [hL]
  subst h1
  refine ⟨ht, hn, htop, ⟨Nat.lt_succ_of_lt h2, ha⟩, h _ (B.sm (G' := gN G) rfl (Nat.lt_succ_self _) (fun e he => SmR.gN (by omega)) (fun e e1 e2 => ?_) hk G.1 (fun _ => hx))⟩
  have e2 : e < G.1 + 1 := e2
  have e3 : e = G.1 := by omega
  subst e3
  refine ⟨?_, ?_, ?_⟩
  · rw [cI_0 (by omega)]
    exact if_pos rfl
  · exact if_pos rfl
  · rw [show RS G.1 = fun _ => none from funext fun j => by
      unfold RS
      rw [if_neg (by omega), if_neg (by omega), if_neg]
      rcases ht2 with q | q <;> rw [ht, q] <;> (show ¬ ((99 : Nat) = 2); decide)]
    exact if_pos rfl
/-- an array of references -/
theorem Bs_arq {k ci t : Nat} {n : Int} (B : Bd a b a rX G0 li lx G) (ht : kd b = t) (ht2 : t = 13 ∨ t = 14) (hn : n = (ln b : Nat)) (htop : b + 1 ≤ top) (ha : kd a = ci) (hk : k < lx.length) (hL : L[0]? = some (some (.inr (.inr a)))) (h : ∀ G', Bd a (b + 1) b (fun _ => none) G0 li (lx.set k (some b)) G' → kk L [] G') : g_aload 0 (g_ci n (g_newa t top (g_putR ci k kk))) L [] G := by
  obtain ⟨h1, h2, h3, h4, h5, h6, h7, h8⟩ := B
  unfold g_aload
  rw [hL]
  subst h1
  have s : ∀ e, e < G.1 → e ≠ a → SmR G (gX (gN G) a k G.1) e := fun e e1 e2 => (SmR.gN (by omega)).trans (SmR.gX e2)
  refine ⟨ht, hn, htop, ⟨Nat.lt_succ_of_lt h2, ha⟩, h _ ⟨rfl, Nat.lt_succ_of_lt h2, fun e he => (h3 e he).trans (s e (by omega) (by omega)), fun e e1 e2 e3 => (h4 e e1 (by omega) (by omega)).sm (s e (by omega) (by omega)), fun z => ⟨Nat.lt_succ_self _, ?_, ?_, ?_⟩, fun j => ?_, fun j => ?_, fun j => ?_⟩⟩
  · exact if_pos rfl
  · exact if_pos rfl
  · funext j
    show (if G.1 = a ∧ j = k then some G.1 else (gN G).2.2.2 G.1 j) = none
    rw [if_neg (fun q => by omega)]
    show (if G.1 = G.1 then fun _ => none else G.2.2.2 G.1) j = none
    rw [if_pos rfl]
  · have q := (SmR.gN (G := G) (e := a) (by omega)).1
    show (gN G).2.1 a j = _
    rw [q]; exact h6 j
  · have q := (SmR.gN (G := G) (e := a) (by omega)).2.1
    show (gN G).2.2.1 a j = _
    rw [q]; exact h7 j
  · have q := (SmR.gN (G := G) (e := a) (by omega)).2.2
    rw [getD_set hk]
    show (if a = a ∧ j = k then some G.1 else (gN G).2.2.2 a j) = _
    by_cases z : j = k
    · rw [if_pos ⟨rfl, z⟩, if_pos z]
    · rw [if_neg (fun y => z y.2), if_neg z, q]; exact h8 j
theorem Bs_putI {k ci : Nat} {v : Int} (B : Bd a b x rX G0 li lx G) (ha : kd a = ci) (hk : k < li.length) (hL : L[0]? = some (some (.inr (.inr a)))) (h : ∀ G', Bd a b x rX G0 (li.set k v) lx G' → kk L [] G') : g_aload 0 (g_ci v (g_putI ci k kk)) L [] G := by
  obtain ⟨h1, h2, h3, h4, h5, h6, h7, h8⟩ := B
  unfold g_aload
  rw [hL]
  refine ⟨⟨by rw [h1]; exact h2, ha⟩, h _ ⟨h1, h2, fun e he => (h3 e he).trans (SmR.gI (by omega)), fun e e1 e2 e3 => (h4 e e1 e2 e3).sm (SmR.gI (by omega)), fun z => ?_, fun j => ?_, h7, h8⟩⟩
  · obtain ⟨p1, p2, p3, p4⟩ := h5 z
    exact ⟨p1, (SmR.gI (G := G) (a := a) (k := k) (v := v) (show x ≠ a by omega)).1.trans p2, p3, p4⟩
  · rw [getD_set hk]
    show uM G.2.1 a k v a j = _
    by_cases q : j = k
    · subst q
      rw [uM_s, if_pos rfl]
    · rw [uM_k q, if_neg q]
      exact h6 j
/-- an object of another class -/
theorem Bs_obj {k ci cj dn ds : Nat} {wp : List AV → GS → (GS → Prop) → Prop} (B : Bd a b x rX G0 li lx G) (hx : x < b) (ht : kd b = cj) (htop : b + 1 + dn ≤ top) (hs : SL (b + 1) + ds = SL (b + 1 + dn)) (ha : kd a = ci) (hk : k < lx.length) (hL : L[0]? = some (some (.inr (.inr a)))) (hw : ∀ (G1 : GS) (K1 : GS → Prop), Fr b G1 → (∀ G', Dn b (b + 1 + dn) G1 G' → K1 G') → wp [.inr (.inr b)] G1 K1) (h : ∀ G', Bd a (b + 1 + dn) x rX G0 li (lx.set k (some b)) G' → kk L [] G') : g_aload 0 (g_new cj top (g_dup (g_call 0 dn ds top (fun _ _ => True) wp (g_putR ci k kk)))) L [] G := by
  have h1 := B.1
  have h2 := B.2.1
  unfold g_aload
  rw [hL]
  subst h1
  have hmo := SL_mono htop
  refine ⟨ht, by omega, trivial, Nat.succ_pos _, cs8 rfl, ⟨htop, by show SL (G.1 + 1) + ds ≤ SL top; omega⟩, hw (gN G) _ ⟨rfl, fun j => ?_, fun j => ?_, fun j => ?_⟩ (fun G' D => ⟨⟨by rw [D.1]; omega, ha⟩, h _ (B.sm (G' := G') D.1 (by omega) (fun e he => (SmR.gN (by omega)).trans (D.2.1 e he)) (fun e e1 e2 => D.2.2 e e1 e2) hk G.1 (fun _ => hx))⟩)⟩
  · show (if G.1 = G.1 then fun _ => (0 : Int) else G.2.1 G.1) j = 0
    rw [if_pos rfl]
  · show (if G.1 = G.1 then fun _ => (0 : Int) else G.2.2.1 G.1) j = 0
    rw [if_pos rfl]
  · show (if G.1 = G.1 then fun _ => none else G.2.2.2 G.1) j = none
    rw [if_pos rfl]
theorem Bd.done (B : Bd a b x rX G0 li lx G) (hi : ∀ j, li.getD j 0 = cI a j) (hx : ∀ j, lx.getD j none = RS a j) (hq : a < x → cI x = (fun _ => 0) ∧ rX = RS x) : Dn a b G0 G := by
  obtain ⟨h1, h2, h3, h4, h5, h6, h7, h8⟩ := B
  refine ⟨h1, h3, fun e e1 e2 => ?_⟩
  by_cases q : e = a
  · subst q
    exact ⟨funext fun j => (h6 j).trans (hi j), funext fun j => h7 j, funext fun j => (h8 j).trans (hx j)⟩
  · by_cases z : e = x
    · subst z
      obtain ⟨p1, p2, p3, p4⟩ := h5 (by omega)
      obtain ⟨q1, q2⟩ := hq (by omega)
      exact ⟨p2.trans q1.symm, p3, p4.trans q2⟩
    · exact h4 e (by omega) e2 z
end
