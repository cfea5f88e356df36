/-! LAW 3: a call of the law on both sides -/
/-- the class's calls, with the law's own row, leave the model's memory -/
def FO (μ μ' : MM) : Prop := ∀ a, 348 ≤ a → a < 355 → μ'.1 a = μ.1 a ∧ μ'.2 a = μ.2 a
def OH (o : (Int × Int) × TS) (K : Option AV → MM → Prop) (μ : MM) : Prop := ∀ μ', CT μ' o.2 → FO μ μ' → (o.1.1 = 0 ∧ μ'.2 355 0 = (jI o.1.2).toInt ∨ 1 ≤ o.1.1 ∧ o.1.1 ≤ 3) → K (some (.inl o.1.1)) μ'
theorem h355 : isK 355 12 := ⟨by decide, by decide +kernel⟩
theorem ln355 : ln 355 = 1 := by decide +kernel
theorem OH.oy {E : List String} {o : (Int × Int) × TS} {K : Option AV → MM → Prop} {μ : MM} {hs : List Hnd} {L : List (Option AV)} (h : OH o K μ) (hE : E.length ≤ 3) (hm : ∀ (j : Nat) (s : String), E[j]? = some s → ∃ x, hs[j]? = some x ∧ x.2.1 = s ∧ x.2.2 = fun μ => K (some (.inl ((j + 1 : Nat) : Int))) μ) : OY E o (fun v μ' => o_i2lw (o_last (o_ci 0 (o_iret K))) L (v.toList ++ [.inl 0, .inr (.inr 355)]) μ') (fun s μ' => ∃ (j : Nat) (x : Hnd), hs[j]? = some x ∧ x.2.1 = s ∧ x.2.2 μ') μ := by
  refine ⟨fun h0 μ' hC hF => ?_, fun j s hj e μ' hC hF => ?_⟩
  · refine ⟨h355, Int.le_refl 0, by rw [ln355]; decide, ?_⟩
    have key := h (μ'.1, uM μ'.2 355 0 (jI o.1.2).toInt) (hC.low (fun a ha => ⟨rfl, uM_r (by omega)⟩)) (fun a h1 h2 => ⟨(hF a h1).1, (uM_r (by omega)).trans (hF a h1).2⟩) (Or.inl ⟨h0, (show uM μ'.2 355 0 (jI o.1.2).toInt 355 0 = (jI o.1.2).toInt from uM_s)⟩)
    rw [h0] at key
    exact key
  · obtain ⟨x, h1, h2, h3⟩ := hm j s hj
    refine ⟨j, x, h1, h2, ?_⟩
    have hl := (List.getElem?_eq_some_iff.mp hj).1
    have key := h μ' hC (fun a h1 _ => hF a h1) (Or.inr ⟨by omega, by omega⟩)
    rw [e] at key
    rw [h3]
    exact key
theorem hm1 {K : Option AV → MM → Prop} {q1 : Nat × Nat × Nat × Nat} {s1 : String} : ∀ (j : Nat) (s : String), [s1][j]? = some s → ∃ x, ([(q1, s1, fun μ => K (some (.inl 1)) μ)] : List Hnd)[j]? = some x ∧ x.2.1 = s ∧ x.2.2 = fun μ => K (some (.inl ((j + 1 : Nat) : Int))) μ := fun j s hj => by
  match j, hj with
  | 0, hj => cases hj; exact ⟨_, rfl, rfl, rfl⟩
  | j + 1, hj => simp at hj
theorem hm2 {K : Option AV → MM → Prop} {q1 q2 : Nat × Nat × Nat × Nat} {s1 s2 : String} : ∀ (j : Nat) (s : String), [s1, s2][j]? = some s → ∃ x, ([(q1, s1, fun μ => K (some (.inl 1)) μ), (q2, s2, fun μ => K (some (.inl 2)) μ)] : List Hnd)[j]? = some x ∧ x.2.1 = s ∧ x.2.2 = fun μ => K (some (.inl ((j + 1 : Nat) : Int))) μ := fun j s hj => by
  match j, hj with
  | 0, hj => cases hj; exact ⟨_, rfl, rfl, rfl⟩
  | 1, hj => cases hj; exact ⟨_, rfl, rfl, rfl⟩
  | j + 2, hj => simp at hj
theorem hm3 {K : Option AV → MM → Prop} {q1 q2 q3 : Nat × Nat × Nat × Nat} {s1 s2 s3 : String} : ∀ (j : Nat) (s : String), [s1, s2, s3][j]? = some s → ∃ x, ([(q1, s1, fun μ => K (some (.inl 1)) μ), (q2, s2, fun μ => K (some (.inl 2)) μ), (q3, s3, fun μ => K (some (.inl 3)) μ)] : List Hnd)[j]? = some x ∧ x.2.1 = s ∧ x.2.2 = fun μ => K (some (.inl ((j + 1 : Nat) : Int))) μ := fun j s hj => by
  match j, hj with
  | 0, hj => cases hj; exact ⟨_, rfl, rfl, rfl⟩
  | 1, hj => cases hj; exact ⟨_, rfl, rfl, rfl⟩
  | 2, hj => cases hj; exact ⟨_, rfl, rfl, rfl⟩
  | j + 3, hj => simp at hj
/-- what both sides hold behind t calls -/
def LI (t : Nat) (μ : MM) (T : TS) : Prop := CT μ T ∧ MT μ T ∧ TG t T ∧ TB T ∧ NG T
/-- a helper's call and the model's, at the law -/
def LCK (wM : List AV → MM → (Option AV → MM → Prop) → Prop) (av : List AV) (t : Nat) : Option AV → MM → Prop := fun r μ1 => ∃ k, r = some (.inl k) ∧ wM av μ1 (fun r2 μ2 => ∃ v, r2 = some (.inl v) ∧ μ2.1 348 0 = k ∧ (k = 0 ∧ μ2.2 355 0 = (jI v).toInt ∨ 1 ≤ k ∧ k ≤ 3) ∧ ∃ T', LI (t + 1) μ2 T')
theorem LC {o : (Int × Int) × TS} {μ : MM} {T : TS} {t : Nat} {wM : List AV → MM → (Option AV → MM → Prop) → Prop} {av : List AV} (h : LI t μ T) (h9 : R32 (μ.1 348 9)) (hM : ∀ (μ1 : MM) (K : Option AV → MM → Prop), MT μ1 T → R32 (μ1.1 348 9) → OM o K μ1 → wM av μ1 K) (hT : TG (t + 1) o.2) (hB : TB o.2) (hN : NG o.2) : OH o (LCK wM av t) μ := by
  intro μ1 hC hF hor
  have e8 := (hF 348 (by decide) (by decide)).1
  refine ⟨o.1.1, rfl, hM μ1 _ (h.2.1.hi (fun j _ => by rw [e8]) (fun a h1 h2 => hF a (by omega) h2)) (by rw [e8]; exact h9) (fun μ2 hM2 h0 hX => ⟨o.1.2, rfl, h0, ?_, o.2, hC.low (fun a ha => ⟨hX.1 a (Or.inl ha), hX.2 a (Or.inl ha)⟩), hM2, hT, hB, hN⟩)⟩
  rw [hX.2 355 (by decide)]
  exact hor
theorem TB.sw {T : TS} {S : AS} {H : List AS} (h : TB T) : TB (seN T S H) := h
theorem TB_arr {T : TS} {x c : Int} (h : TB T) : TB (oArr T x c).2 := by unfold oArr; split <;> (try split) <;> exact h
theorem TB_tck {T : TS} {x : Int} (h : TB T) : TB (oTck T x).2 := by unfold oTck; split <;> (try split) <;> exact h
theorem TB_giv {T : TS} {x y c : Int} (h : TB T) : TB (oGiv T x y c).2 := by unfold oGiv; split <;> (try split) <;> (try split) <;> exact h
theorem TB_ext {T : TS} {x : Int} (h : TB T) : TB (oExt T x).2 := by unfold oExt; repeat' (first | exact h | split)
theorem TB_trm {T : TS} {x : Int} (h : TB T) : TB (oTrm T x).2 := by unfold oTrm; split <;> exact h
theorem TB_kep {T : TS} {x : Int} (h : TB T) : TB (oKep T x).2 := by unfold oKep; split <;> exact h
theorem TB_und {T : TS} (h : TB T) : TB (oUnd T).2 := by unfold oUnd; split <;> exact h
theorem TB_sav {T : TS} (h : TB T) : TB (oSav T).2 := h
theorem TB_rst {T : TS} (h : TB T) : TB (oRst T).2 := by unfold oRst; split <;> exact h
theorem wd_T {T : TS} {x c : Int} : (oWd T x c).2 = T := by unfold oWd; split <;> (try split) <;> rfl
theorem di_T {T : TS} {x : Int} : (oDi T x).2 = T := by unfold oDi; split <;> rfl
theorem si_T {T : TS} {x i : Int} : (oSi T x i).2 = T := by unfold oSi; split <;> rfl
theorem rpb_T {T : TS} {x : Int} : (oRpb T x).2 = T := by unfold oRpb; split <;> rfl

theorem P_L_feed {I J : Mi} {K : Option AV → MM → Prop} {t : Nat} {T : TS} {a b c d e : Int} (h : CT (I, J) T) (hT : TG t T) (hB : TB T) (hN : NG T) (ha : R32 a) (hb : R32 b) (hc : R32 c) (hd : R32 d) (he : R32 e) (hK : OH (oFed T a b c d e) K (I, J)) : w_L_feed [.inr (.inr 0), .inl a, .inl b, .inl c, .inl d, .inl e, .inr (.inr 355)] (I, J) K := ⟨cs8 rfl, h0X, cs8 rfl, P_C_feed h (hK.oy (hs := H_L_feed K) (by decide) hm1)⟩
theorem LC_feed {μ : MM} {t : Nat} {T : TS} {a b c d e : Int} (h : LI t μ T) (ht : t < 512) (h9 : R32 (μ.1 348 9)) (ha : R32 a) (hb : R32 b) (hc : R32 c) (hd : R32 d) (he : R32 e) : w_L_feed [.inr (.inr 0), .inl a, .inl b, .inl c, .inl d, .inl e, .inr (.inr 355)] μ (LCK w_X10_feed [.inr (.inr 348), .inl a, .inl b, .inl c, .inl d, .inl e] t) := by
  obtain ⟨hC, hM, hT, hB, hN⟩ := id h
  exact P_L_feed (I := μ.1) (J := μ.2) hC hT hB hN ha hb hc hd he (LC h h9 (fun μ1 K h1 h19 hK => P_M_feed h1 ha hb hc hd he hK) (TG_fed hT ht) (TB_fed hB) (NG_fed hN))
theorem P_L_truncate {I J : Mi} {K : Option AV → MM → Prop} {t : Nat} {T : TS} {a : Int} (h : CT (I, J) T) (hT : TG t T) (hB : TB T) (hN : NG T) (ha : R32 a) (hK : OH (oTrn T a) K (I, J)) : w_L_truncate [.inr (.inr 0), .inl a, .inr (.inr 355)] (I, J) K := ⟨cs8 rfl, h0X, cs8 rfl, P_C_truncate h ha (hK.oy (hs := H_L_truncate K) (by decide) hm1)⟩
theorem LC_truncate {μ : MM} {t : Nat} {T : TS} {a : Int} (h : LI t μ T) (ht : t < 512) (h9 : R32 (μ.1 348 9)) (ha : R32 a) : w_L_truncate [.inr (.inr 0), .inl a, .inr (.inr 355)] μ (LCK w_X10_truncate [.inr (.inr 348), .inl a] t) := by
  obtain ⟨hC, hM, hT, hB, hN⟩ := id h
  exact P_L_truncate (I := μ.1) (J := μ.2) hC hT hB hN ha (LC h h9 (fun μ1 K h1 h19 hK => P_M_truncate h1 ha hK) (TG_trn hT ht) (TB_trn hB) (NG_trn hN))
theorem P_L_readText {I J : Mi} {K : Option AV → MM → Prop} {t : Nat} {T : TS} (h : CT (I, J) T) (hT : TG t T) (hB : TB T) (hN : NG T) (hK : OH (oTxt T) K (I, J)) : w_L_readText [.inr (.inr 0), .inr (.inr 355)] (I, J) K := ⟨cs8 rfl, h0X, cs8 rfl, P_C_readText h hB (hK.oy (hs := H_L_readText K) (by decide) hm1)⟩
theorem LC_readText {μ : MM} {t : Nat} {T : TS} (h : LI t μ T) (ht : t < 512) (h9 : R32 (μ.1 348 9)) : w_L_readText [.inr (.inr 0), .inr (.inr 355)] μ (LCK w_X10_readText [.inr (.inr 348)] t) := by
  obtain ⟨hC, hM, hT, hB, hN⟩ := id h
  exact P_L_readText (I := μ.1) (J := μ.2) hC hT hB hN (LC h h9 (fun μ1 K h1 h19 hK => P_M_readText h1 hB h19 hK) (TG_txt hT ht hB) (TB_txt hB) (NG_txt hN hB))
theorem P_L_runScript {I J : Mi} {K : Option AV → MM → Prop} {t : Nat} {T : TS} (h : CT (I, J) T) (hT : TG t T) (hB : TB T) (hN : NG T) (hK : OH (oScr T) K (I, J)) : w_L_runScript [.inr (.inr 0), .inr (.inr 355)] (I, J) K := ⟨cs8 rfl, h0X, cs8 rfl, P_C_runScript h hT hB hN (hK.oy (hs := H_L_runScript K) (by decide) hm1)⟩
theorem LC_runScript {μ : MM} {t : Nat} {T : TS} (h : LI t μ T) (ht : t < 512) (h9 : R32 (μ.1 348 9)) : w_L_runScript [.inr (.inr 0), .inr (.inr 355)] μ (LCK w_X10_runScript [.inr (.inr 348)] t) := by
  obtain ⟨hC, hM, hT, hB, hN⟩ := id h
  exact P_L_runScript (I := μ.1) (J := μ.2) hC hT hB hN (LC h h9 (fun μ1 K h1 h19 hK => P_M_runScript h1 hT ht hB hN h19 hK) (TG_scr hT ht hB) (TB_scr hB) (NG_scr hN hT hB))
theorem P_L_setting {I J : Mi} {K : Option AV → MM → Prop} {t : Nat} {T : TS} {a : Int} (h : CT (I, J) T) (hT : TG t T) (hB : TB T) (hN : NG T) (ha : R32 a) (hK : OH ((aSet (tN T) a, T)) K (I, J)) : w_L_setting [.inr (.inr 0), .inl a, .inr (.inr 355)] (I, J) K := ⟨cs8 rfl, h0X, cs8 rfl, P_C_setting h hT ha (hK.oy (hs := H_L_setting K) (by decide) hm1)⟩
theorem LC_setting {μ : MM} {t : Nat} {T : TS} {a : Int} (h : LI t μ T) (ht : t < 512) (h9 : R32 (μ.1 348 9)) (ha : R32 a) : w_L_setting [.inr (.inr 0), .inl a, .inr (.inr 355)] μ (LCK w_X10_setting [.inr (.inr 348), .inl a] t) := by
  obtain ⟨hC, hM, hT, hB, hN⟩ := id h
  exact P_L_setting (I := μ.1) (J := μ.2) hC hT hB hN ha (LC h h9 (fun μ1 K h1 h19 hK => P_M_setting h1 ha hK) (hT.up ht) (hB) (hN))
theorem P_L_port {I J : Mi} {K : Option AV → MM → Prop} {t : Nat} {T : TS} {a b : Int} (h : CT (I, J) T) (hT : TG t T) (hB : TB T) (hN : NG T) (ha : R32 a) (hb : R32 b) (hK : OH ((aPort (tN T) a b, T)) K (I, J)) : w_L_port [.inr (.inr 0), .inl a, .inl b, .inr (.inr 355)] (I, J) K := ⟨cs8 rfl, h0X, cs8 rfl, P_C_port h hT ha hb (hK.oy (hs := H_L_port K) (by decide) hm2)⟩
theorem LC_port {μ : MM} {t : Nat} {T : TS} {a b : Int} (h : LI t μ T) (ht : t < 512) (h9 : R32 (μ.1 348 9)) (ha : R32 a) (hb : R32 b) : w_L_port [.inr (.inr 0), .inl a, .inl b, .inr (.inr 355)] μ (LCK w_X10_port [.inr (.inr 348), .inl a, .inl b] t) := by
  obtain ⟨hC, hM, hT, hB, hN⟩ := id h
  exact P_L_port (I := μ.1) (J := μ.2) hC hT hB hN ha hb (LC h h9 (fun μ1 K h1 h19 hK => P_M_port h1 ha hb hK) (hT.up ht) (hB) (hN))
theorem P_L_packet {I J : Mi} {K : Option AV → MM → Prop} {t : Nat} {T : TS} {a b c : Int} (h : CT (I, J) T) (hT : TG t T) (hB : TB T) (hN : NG T) (ha : R32 a) (hb : R32 b) (hc : R32 c) (hK : OH ((aPkt (tN T) a b c, T)) K (I, J)) : w_L_packet [.inr (.inr 0), .inl a, .inl b, .inl c, .inr (.inr 355)] (I, J) K := ⟨cs8 rfl, h0X, cs8 rfl, P_C_packet h hT ha hb hc (hK.oy (hs := H_L_packet K) (by decide) hm2)⟩
theorem LC_packet {μ : MM} {t : Nat} {T : TS} {a b c : Int} (h : LI t μ T) (ht : t < 512) (h9 : R32 (μ.1 348 9)) (ha : R32 a) (hb : R32 b) (hc : R32 c) : w_L_packet [.inr (.inr 0), .inl a, .inl b, .inl c, .inr (.inr 355)] μ (LCK w_X10_packet [.inr (.inr 348), .inl a, .inl b, .inl c] t) := by
  obtain ⟨hC, hM, hT, hB, hN⟩ := id h
  exact P_L_packet (I := μ.1) (J := μ.2) hC hT hB hN ha hb hc (LC h h9 (fun μ1 K h1 h19 hK => P_M_packet h1 ha hb hc hK) (hT.up ht) (hB) (hN))
theorem P_L_promise {I J : Mi} {K : Option AV → MM → Prop} {t : Nat} {T : TS} {a b : Int} (h : CT (I, J) T) (hT : TG t T) (hB : TB T) (hN : NG T) (ha : R32 a) (hb : R32 b) (hK : OH ((aPrm (tN T) a b, T)) K (I, J)) : w_L_promise [.inr (.inr 0), .inl a, .inl b, .inr (.inr 355)] (I, J) K := ⟨cs8 rfl, h0X, cs8 rfl, P_C_promise h hT ha hb (hK.oy (hs := H_L_promise K) (by decide) hm2)⟩
theorem LC_promise {μ : MM} {t : Nat} {T : TS} {a b : Int} (h : LI t μ T) (ht : t < 512) (h9 : R32 (μ.1 348 9)) (ha : R32 a) (hb : R32 b) : w_L_promise [.inr (.inr 0), .inl a, .inl b, .inr (.inr 355)] μ (LCK w_X10_promise [.inr (.inr 348), .inl a, .inl b] t) := by
  obtain ⟨hC, hM, hT, hB, hN⟩ := id h
  exact P_L_promise (I := μ.1) (J := μ.2) hC hT hB hN ha hb (LC h h9 (fun μ1 K h1 h19 hK => P_M_promise h1 ha hb hK) (hT.up ht) (hB) (hN))
theorem P_L_owed {I J : Mi} {K : Option AV → MM → Prop} {t : Nat} {T : TS} {a b : Int} (h : CT (I, J) T) (hT : TG t T) (hB : TB T) (hN : NG T) (ha : R32 a) (hb : R32 b) (hK : OH ((aOwd (tN T) a b, T)) K (I, J)) : w_L_owed [.inr (.inr 0), .inl a, .inl b, .inr (.inr 355)] (I, J) K := ⟨cs8 rfl, h0X, cs8 rfl, P_C_owed h hT ha hb (hK.oy (hs := H_L_owed K) (by decide) hm1)⟩
theorem LC_owed {μ : MM} {t : Nat} {T : TS} {a b : Int} (h : LI t μ T) (ht : t < 512) (h9 : R32 (μ.1 348 9)) (ha : R32 a) (hb : R32 b) : w_L_owed [.inr (.inr 0), .inl a, .inl b, .inr (.inr 355)] μ (LCK w_X10_owed [.inr (.inr 348), .inl a, .inl b] t) := by
  obtain ⟨hC, hM, hT, hB, hN⟩ := id h
  exact P_L_owed (I := μ.1) (J := μ.2) hC hT hB hN ha hb (LC h h9 (fun μ1 K h1 h19 hK => P_M_owed h1 ha hb hK) (hT.up ht) (hB) (hN))
theorem P_L_drop {I J : Mi} {K : Option AV → MM → Prop} {t : Nat} {T : TS} {a b : Int} (h : CT (I, J) T) (hT : TG t T) (hB : TB T) (hN : NG T) (ha : R32 a) (hb : R32 b) (hK : OH ((aDrp (tN T) a b, T)) K (I, J)) : w_L_drop [.inr (.inr 0), .inl a, .inl b, .inr (.inr 355)] (I, J) K := ⟨cs8 rfl, h0X, cs8 rfl, P_C_drop h hT ha hb (hK.oy (hs := H_L_drop K) (by decide) hm1)⟩
theorem LC_drop {μ : MM} {t : Nat} {T : TS} {a b : Int} (h : LI t μ T) (ht : t < 512) (h9 : R32 (μ.1 348 9)) (ha : R32 a) (hb : R32 b) : w_L_drop [.inr (.inr 0), .inl a, .inl b, .inr (.inr 355)] μ (LCK w_X10_drop [.inr (.inr 348), .inl a, .inl b] t) := by
  obtain ⟨hC, hM, hT, hB, hN⟩ := id h
  exact P_L_drop (I := μ.1) (J := μ.2) hC hT hB hN ha hb (LC h h9 (fun μ1 K h1 h19 hK => P_M_drop h1 ha hb hK) (hT.up ht) (hB) (hN))
theorem P_L_dropsBy {I J : Mi} {K : Option AV → MM → Prop} {t : Nat} {T : TS} {a : Int} (h : CT (I, J) T) (hT : TG t T) (hB : TB T) (hN : NG T) (ha : R32 a) (hK : OH ((aDby (tN T) a, T)) K (I, J)) : w_L_dropsBy [.inr (.inr 0), .inl a, .inr (.inr 355)] (I, J) K := ⟨cs8 rfl, h0X, cs8 rfl, P_C_dropsBy h hT ha (hK.oy (hs := H_L_dropsBy K) (by decide) hm1)⟩
theorem LC_dropsBy {μ : MM} {t : Nat} {T : TS} {a : Int} (h : LI t μ T) (ht : t < 512) (h9 : R32 (μ.1 348 9)) (ha : R32 a) : w_L_dropsBy [.inr (.inr 0), .inl a, .inr (.inr 355)] μ (LCK w_X10_dropsBy [.inr (.inr 348), .inl a] t) := by
  obtain ⟨hC, hM, hT, hB, hN⟩ := id h
  exact P_L_dropsBy (I := μ.1) (J := μ.2) hC hT hB hN ha (LC h h9 (fun μ1 K h1 h19 hK => P_M_dropsBy h1 ha hK) (hT.up ht) (hB) (hN))
theorem P_L_wouldBorrow {I J : Mi} {K : Option AV → MM → Prop} {t : Nat} {T : TS} {a b : Int} (h : CT (I, J) T) (hT : TG t T) (hB : TB T) (hN : NG T) (ha : R32 a) (hb : R32 b) (hK : OH ((aWb (tN T) a b, T)) K (I, J)) : w_L_wouldBorrow [.inr (.inr 0), .inl a, .inl b, .inr (.inr 355)] (I, J) K := ⟨cs8 rfl, h0X, cs8 rfl, P_C_wouldBorrow h hT ha hb (hK.oy (hs := H_L_wouldBorrow K) (by decide) hm2)⟩
theorem LC_wouldBorrow {μ : MM} {t : Nat} {T : TS} {a b : Int} (h : LI t μ T) (ht : t < 512) (h9 : R32 (μ.1 348 9)) (ha : R32 a) (hb : R32 b) : w_L_wouldBorrow [.inr (.inr 0), .inl a, .inl b, .inr (.inr 355)] μ (LCK w_X10_wouldBorrow [.inr (.inr 348), .inl a, .inl b] t) := by
  obtain ⟨hC, hM, hT, hB, hN⟩ := id h
  exact P_L_wouldBorrow (I := μ.1) (J := μ.2) hC hT hB hN ha hb (LC h h9 (fun μ1 K h1 h19 hK => P_M_wouldBorrow h1 ha hb hK) (hT.up ht) (hB) (hN))
theorem P_L_wouldCall {I J : Mi} {K : Option AV → MM → Prop} {t : Nat} {T : TS} {a b : Int} (h : CT (I, J) T) (hT : TG t T) (hB : TB T) (hN : NG T) (ha : R32 a) (hb : R32 b) (hK : OH ((aWc (tN T) a b, T)) K (I, J)) : w_L_wouldCall [.inr (.inr 0), .inl a, .inl b, .inr (.inr 355)] (I, J) K := ⟨cs8 rfl, h0X, cs8 rfl, P_C_wouldCall h hT ha hb (hK.oy (hs := H_L_wouldCall K) (by decide) hm2)⟩
theorem LC_wouldCall {μ : MM} {t : Nat} {T : TS} {a b : Int} (h : LI t μ T) (ht : t < 512) (h9 : R32 (μ.1 348 9)) (ha : R32 a) (hb : R32 b) : w_L_wouldCall [.inr (.inr 0), .inl a, .inl b, .inr (.inr 355)] μ (LCK w_X10_wouldCall [.inr (.inr 348), .inl a, .inl b] t) := by
  obtain ⟨hC, hM, hT, hB, hN⟩ := id h
  exact P_L_wouldCall (I := μ.1) (J := μ.2) hC hT hB hN ha hb (LC h h9 (fun μ1 K h1 h19 hK => P_M_wouldCall h1 ha hb hK) (hT.up ht) (hB) (hN))
theorem P_L_wouldDrop {I J : Mi} {K : Option AV → MM → Prop} {t : Nat} {T : TS} {a b : Int} (h : CT (I, J) T) (hT : TG t T) (hB : TB T) (hN : NG T) (ha : R32 a) (hb : R32 b) (hK : OH (oWd T a b) K (I, J)) : w_L_wouldDrop [.inr (.inr 0), .inl a, .inl b, .inr (.inr 355)] (I, J) K := ⟨cs8 rfl, h0X, cs8 rfl, P_C_wouldDrop h hT ha hb (hK.oy (hs := H_L_wouldDrop K) (by decide) hm2)⟩
theorem LC_wouldDrop {μ : MM} {t : Nat} {T : TS} {a b : Int} (h : LI t μ T) (ht : t < 512) (h9 : R32 (μ.1 348 9)) (ha : R32 a) (hb : R32 b) : w_L_wouldDrop [.inr (.inr 0), .inl a, .inl b, .inr (.inr 355)] μ (LCK w_X10_wouldDrop [.inr (.inr 348), .inl a, .inl b] t) := by
  obtain ⟨hC, hM, hT, hB, hN⟩ := id h
  exact P_L_wouldDrop (I := μ.1) (J := μ.2) hC hT hB hN ha hb (LC h h9 (fun μ1 K h1 h19 hK => P_M_wouldDrop h1 hT ha hb hK) ((by rw [wd_T]; exact hT.up ht)) ((by rw [wd_T]; exact hB)) ((by rw [wd_T]; exact hN)))
theorem P_L_greatest {I J : Mi} {K : Option AV → MM → Prop} {t : Nat} {T : TS} {a : Int} (h : CT (I, J) T) (hT : TG t T) (hB : TB T) (hN : NG T) (ha : R32 a) (hK : OH ((aGrt (tN T) a, T)) K (I, J)) : w_L_greatest [.inr (.inr 0), .inl a, .inr (.inr 355)] (I, J) K := ⟨cs8 rfl, h0X, cs8 rfl, P_C_greatest h hT ha (hK.oy (hs := H_L_greatest K) (by decide) hm1)⟩
theorem LC_greatest {μ : MM} {t : Nat} {T : TS} {a : Int} (h : LI t μ T) (ht : t < 512) (h9 : R32 (μ.1 348 9)) (ha : R32 a) : w_L_greatest [.inr (.inr 0), .inl a, .inr (.inr 355)] μ (LCK w_X10_greatest [.inr (.inr 348), .inl a] t) := by
  obtain ⟨hC, hM, hT, hB, hN⟩ := id h
  exact P_L_greatest (I := μ.1) (J := μ.2) hC hT hB hN ha (LC h h9 (fun μ1 K h1 h19 hK => P_M_greatest h1 ha hK) (hT.up ht) (hB) (hN))
theorem P_L_dropsIn {I J : Mi} {K : Option AV → MM → Prop} {t : Nat} {T : TS} {a : Int} (h : CT (I, J) T) (hT : TG t T) (hB : TB T) (hN : NG T) (ha : R32 a) (hK : OH (oDi T a) K (I, J)) : w_L_dropsIn [.inr (.inr 0), .inl a, .inr (.inr 355)] (I, J) K := ⟨cs8 rfl, h0X, cs8 rfl, P_C_dropsIn h hT ha (hK.oy (hs := H_L_dropsIn K) (by decide) hm1)⟩
theorem LC_dropsIn {μ : MM} {t : Nat} {T : TS} {a : Int} (h : LI t μ T) (ht : t < 512) (h9 : R32 (μ.1 348 9)) (ha : R32 a) : w_L_dropsIn [.inr (.inr 0), .inl a, .inr (.inr 355)] μ (LCK w_X10_dropsIn [.inr (.inr 348), .inl a] t) := by
  obtain ⟨hC, hM, hT, hB, hN⟩ := id h
  exact P_L_dropsIn (I := μ.1) (J := μ.2) hC hT hB hN ha (LC h h9 (fun μ1 K h1 h19 hK => P_M_dropsIn h1 hT ha hK) ((by rw [di_T]; exact hT.up ht)) ((by rw [di_T]; exact hB)) ((by rw [di_T]; exact hN)))
theorem P_L_sentIn {I J : Mi} {K : Option AV → MM → Prop} {t : Nat} {T : TS} {a b : Int} (h : CT (I, J) T) (hT : TG t T) (hB : TB T) (hN : NG T) (ha : R32 a) (hb : R32 b) (hK : OH (oSi T a b) K (I, J)) : w_L_sentIn [.inr (.inr 0), .inl a, .inl b, .inr (.inr 355)] (I, J) K := ⟨cs8 rfl, h0X, cs8 rfl, P_C_sentIn h hT ha hb (hK.oy (hs := H_L_sentIn K) (by decide) hm1)⟩
theorem LC_sentIn {μ : MM} {t : Nat} {T : TS} {a b : Int} (h : LI t μ T) (ht : t < 512) (h9 : R32 (μ.1 348 9)) (ha : R32 a) (hb : R32 b) : w_L_sentIn [.inr (.inr 0), .inl a, .inl b, .inr (.inr 355)] μ (LCK w_X10_sentIn [.inr (.inr 348), .inl a, .inl b] t) := by
  obtain ⟨hC, hM, hT, hB, hN⟩ := id h
  exact P_L_sentIn (I := μ.1) (J := μ.2) hC hT hB hN ha hb (LC h h9 (fun μ1 K h1 h19 hK => P_M_sentIn h1 hT ha hb hK) ((by rw [si_T]; exact hT.up ht)) ((by rw [si_T]; exact hB)) ((by rw [si_T]; exact hN)))
theorem P_L_arrive {I J : Mi} {K : Option AV → MM → Prop} {t : Nat} {T : TS} {a b : Int} (h : CT (I, J) T) (hT : TG t T) (hB : TB T) (hN : NG T) (ha : R32 a) (hb : R32 b) (hK : OH (oArr T a b) K (I, J)) : w_L_arrive [.inr (.inr 0), .inl a, .inl b, .inr (.inr 355)] (I, J) K := ⟨cs8 rfl, h0X, cs8 rfl, P_C_arrive h hT ha hb (hK.oy (hs := H_L_arrive K) (by decide) hm2)⟩
theorem LC_arrive {μ : MM} {t : Nat} {T : TS} {a b : Int} (h : LI t μ T) (ht : t < 512) (h9 : R32 (μ.1 348 9)) (ha : R32 a) (hb : R32 b) : w_L_arrive [.inr (.inr 0), .inl a, .inl b, .inr (.inr 355)] μ (LCK w_X10_arrive [.inr (.inr 348), .inl a, .inl b] t) := by
  obtain ⟨hC, hM, hT, hB, hN⟩ := id h
  exact P_L_arrive (I := μ.1) (J := μ.2) hC hT hB hN ha hb (LC h h9 (fun μ1 K h1 h19 hK => P_M_arrive h1 hT ha hb hK) (TG_arr hT ht) (TB_arr hB) (NG_arr hN))
theorem P_L_tick {I J : Mi} {K : Option AV → MM → Prop} {t : Nat} {T : TS} {a : Int} (h : CT (I, J) T) (hT : TG t T) (hB : TB T) (hN : NG T) (ha : R32 a) (hK : OH (oTck T a) K (I, J)) : w_L_tick [.inr (.inr 0), .inl a, .inr (.inr 355)] (I, J) K := ⟨cs8 rfl, h0X, cs8 rfl, P_C_tick h hT ha (hK.oy (hs := H_L_tick K) (by decide) hm1)⟩
theorem LC_tick {μ : MM} {t : Nat} {T : TS} {a : Int} (h : LI t μ T) (ht : t < 512) (h9 : R32 (μ.1 348 9)) (ha : R32 a) : w_L_tick [.inr (.inr 0), .inl a, .inr (.inr 355)] μ (LCK w_X10_tick [.inr (.inr 348), .inl a] t) := by
  obtain ⟨hC, hM, hT, hB, hN⟩ := id h
  exact P_L_tick (I := μ.1) (J := μ.2) hC hT hB hN ha (LC h h9 (fun μ1 K h1 h19 hK => P_M_tick h1 hT ha hK) (TG_tck hT ht) (TB_tck hB) (NG_tck hN))
theorem P_L_giveBack {I J : Mi} {K : Option AV → MM → Prop} {t : Nat} {T : TS} {a b c : Int} (h : CT (I, J) T) (hT : TG t T) (hB : TB T) (hN : NG T) (ha : R32 a) (hb : R32 b) (hc : R32 c) (hK : OH (oGiv T a b c) K (I, J)) : w_L_giveBack [.inr (.inr 0), .inl a, .inl b, .inl c, .inr (.inr 355)] (I, J) K := ⟨cs8 rfl, h0X, cs8 rfl, P_C_giveBack h hT ha hb hc (hK.oy (hs := H_L_giveBack K) (by decide) hm3)⟩
theorem LC_giveBack {μ : MM} {t : Nat} {T : TS} {a b c : Int} (h : LI t μ T) (ht : t < 512) (h9 : R32 (μ.1 348 9)) (ha : R32 a) (hb : R32 b) (hc : R32 c) : w_L_giveBack [.inr (.inr 0), .inl a, .inl b, .inl c, .inr (.inr 355)] μ (LCK w_X10_giveBack [.inr (.inr 348), .inl a, .inl b, .inl c] t) := by
  obtain ⟨hC, hM, hT, hB, hN⟩ := id h
  exact P_L_giveBack (I := μ.1) (J := μ.2) hC hT hB hN ha hb hc (LC h h9 (fun μ1 K h1 h19 hK => P_M_giveBack h1 hT ha hb hc hK) (TG_giv hT ht) (TB_giv hB) (NG_giv hN))
theorem P_L_extend {I J : Mi} {K : Option AV → MM → Prop} {t : Nat} {T : TS} {a : Int} (h : CT (I, J) T) (hT : TG t T) (hB : TB T) (hN : NG T) (ha : R32 a) (hK : OH (oExt T a) K (I, J)) : w_L_extend [.inr (.inr 0), .inl a, .inr (.inr 355)] (I, J) K := ⟨cs8 rfl, h0X, cs8 rfl, P_C_extend h hT ha (hK.oy (hs := H_L_extend K) (by decide) hm2)⟩
theorem LC_extend {μ : MM} {t : Nat} {T : TS} {a : Int} (h : LI t μ T) (ht : t < 512) (h9 : R32 (μ.1 348 9)) (ha : R32 a) : w_L_extend [.inr (.inr 0), .inl a, .inr (.inr 355)] μ (LCK w_X10_extend [.inr (.inr 348), .inl a] t) := by
  obtain ⟨hC, hM, hT, hB, hN⟩ := id h
  exact P_L_extend (I := μ.1) (J := μ.2) hC hT hB hN ha (LC h h9 (fun μ1 K h1 h19 hK => P_M_extend h1 hT ha hK) (TG_ext hT ht) (TB_ext hB) (NG_ext hN))
theorem P_L_setTerm {I J : Mi} {K : Option AV → MM → Prop} {t : Nat} {T : TS} {a : Int} (h : CT (I, J) T) (hT : TG t T) (hB : TB T) (hN : NG T) (ha : R32 a) (hK : OH (oTrm T a) K (I, J)) : w_L_setTerm [.inr (.inr 0), .inl a, .inr (.inr 355)] (I, J) K := ⟨cs8 rfl, h0X, cs8 rfl, P_C_setTerm h hT ha (hK.oy (hs := H_L_setTerm K) (by decide) hm1)⟩
theorem LC_setTerm {μ : MM} {t : Nat} {T : TS} {a : Int} (h : LI t μ T) (ht : t < 512) (h9 : R32 (μ.1 348 9)) (ha : R32 a) : w_L_setTerm [.inr (.inr 0), .inl a, .inr (.inr 355)] μ (LCK w_X10_setTerm [.inr (.inr 348), .inl a] t) := by
  obtain ⟨hC, hM, hT, hB, hN⟩ := id h
  exact P_L_setTerm (I := μ.1) (J := μ.2) hC hT hB hN ha (LC h h9 (fun μ1 K h1 h19 hK => P_M_setTerm h1 hT ha hK) (TG_trm hT ht) (TB_trm hB) (NG_trm hN))
theorem P_L_setKeep {I J : Mi} {K : Option AV → MM → Prop} {t : Nat} {T : TS} {a : Int} (h : CT (I, J) T) (hT : TG t T) (hB : TB T) (hN : NG T) (ha : R32 a) (hK : OH (oKep T a) K (I, J)) : w_L_setKeep [.inr (.inr 0), .inl a, .inr (.inr 355)] (I, J) K := ⟨cs8 rfl, h0X, cs8 rfl, P_C_setKeep h hT ha (hK.oy (hs := H_L_setKeep K) (by decide) hm1)⟩
theorem LC_setKeep {μ : MM} {t : Nat} {T : TS} {a : Int} (h : LI t μ T) (ht : t < 512) (h9 : R32 (μ.1 348 9)) (ha : R32 a) : w_L_setKeep [.inr (.inr 0), .inl a, .inr (.inr 355)] μ (LCK w_X10_setKeep [.inr (.inr 348), .inl a] t) := by
  obtain ⟨hC, hM, hT, hB, hN⟩ := id h
  exact P_L_setKeep (I := μ.1) (J := μ.2) hC hT hB hN ha (LC h h9 (fun μ1 K h1 h19 hK => P_M_setKeep h1 hT ha hK) (TG_kep hT ht) (TB_kep hB) (NG_kep hN))
theorem P_L_reportByte {I J : Mi} {K : Option AV → MM → Prop} {t : Nat} {T : TS} {a : Int} (h : CT (I, J) T) (hT : TG t T) (hB : TB T) (hN : NG T) (ha : R32 a) (hK : OH (oRpb T a) K (I, J)) : w_L_reportByte [.inr (.inr 0), .inl a, .inr (.inr 355)] (I, J) K := ⟨cs8 rfl, h0X, cs8 rfl, P_C_reportByte h hB.2.2 ha (hK.oy (hs := H_L_reportByte K) (by decide) hm1)⟩
theorem LC_reportByte {μ : MM} {t : Nat} {T : TS} {a : Int} (h : LI t μ T) (ht : t < 512) (h9 : R32 (μ.1 348 9)) (ha : R32 a) : w_L_reportByte [.inr (.inr 0), .inl a, .inr (.inr 355)] μ (LCK w_X10_reportByte [.inr (.inr 348), .inl a] t) := by
  obtain ⟨hC, hM, hT, hB, hN⟩ := id h
  exact P_L_reportByte (I := μ.1) (J := μ.2) hC hT hB hN ha (LC h h9 (fun μ1 K h1 h19 hK => P_M_reportByte h1 hB.2.2 ha hK) ((by rw [rpb_T]; exact hT.up ht)) ((by rw [rpb_T]; exact hB)) ((by rw [rpb_T]; exact hN)))
theorem P_L_restore {I J : Mi} {K : Option AV → MM → Prop} {t : Nat} {T : TS} (h : CT (I, J) T) (hT : TG t T) (hB : TB T) (hN : NG T) (hK : OH (oRst T) K (I, J)) : w_L_restore [.inr (.inr 0), .inr (.inr 355)] (I, J) K := ⟨cs8 rfl, h0X, cs8 rfl, P_C_restore h (hK.oy (hs := H_L_restore K) (by decide) hm1)⟩
theorem LC_restore {μ : MM} {t : Nat} {T : TS} (h : LI t μ T) (ht : t < 512) (h9 : R32 (μ.1 348 9)) : w_L_restore [.inr (.inr 0), .inr (.inr 355)] μ (LCK w_X10_restore [.inr (.inr 348)] t) := by
  obtain ⟨hC, hM, hT, hB, hN⟩ := id h
  exact P_L_restore (I := μ.1) (J := μ.2) hC hT hB hN (LC h h9 (fun μ1 K h1 h19 hK => P_M_restore h1 hK) (TG_rst hT ht) (TB_rst hB) (NG_rst hN))
/-- a call that doesn't throw: the class's, then the model's -/
def LBK (wM : List AV → MM → (Option AV → MM → Prop) → Prop) (t : Nat) : Option AV → MM → Prop := fun r μ1 => ∃ v, r = some (.inl v) ∧ wM [.inr (.inr 348)] μ1 (fun r2 μ2 => r2 = some (.inl v) ∧ ∃ T', LI (t + 1) μ2 T')
theorem LB {o : (Int × Int) × TS} {μ : MM} {T : TS} {t : Nat} {wM : List AV → MM → (Option AV → MM → Prop) → Prop} (h : LI t μ T) (hM : ∀ (μ1 : MM) (K : Option AV → MM → Prop), MT μ1 T → OM o K μ1 → wM [.inr (.inr 348)] μ1 K) (hT : TG (t + 1) o.2) (hB : TB o.2) (hN : NG o.2) : OY [] o (LBK wM t) (fun _ _ => True) μ := by
  refine ⟨fun _ μ1 hC hF => ?_, fun _ _ _ _ _ _ _ => trivial⟩
  exact ⟨o.1.2, rfl, hM μ1 _ (h.2.1.hi (fun j _ => by rw [(hF 348 (by decide)).1]) (fun a h1 _ => hF a (by omega))) (fun μ2 hM2 _ hX => ⟨rfl, o.2, hC.low (fun a ha => ⟨hX.1 a (Or.inl ha), hX.2 a (Or.inl ha)⟩), hM2, hT, hB, hN⟩)⟩
theorem LB_errorCode {μ : MM} {t : Nat} {T : TS} (h : LI t μ T) (ht : t < 512) : w_X9_errorCode [.inr (.inr 0)] μ (LBK w_X10_errorCode t) := by
  obtain ⟨hC, hM, hT, hB, hN⟩ := id h
  exact P_C_errorCode hC (LB h (fun μ1 K h1 hK => P_M_errorCode h1 hK) (hT.up ht) (hB) (hN))
theorem LB_errorPosition {μ : MM} {t : Nat} {T : TS} (h : LI t μ T) (ht : t < 512) : w_X9_errorPosition [.inr (.inr 0)] μ (LBK w_X10_errorPosition t) := by
  obtain ⟨hC, hM, hT, hB, hN⟩ := id h
  exact P_C_errorPosition hC (LB h (fun μ1 K h1 hK => P_M_errorPosition h1 hK) (hT.up ht) (hB) (hN))
theorem LB_mostCharged {μ : MM} {t : Nat} {T : TS} (h : LI t μ T) (ht : t < 512) : w_X9_mostCharged [.inr (.inr 0)] μ (LBK w_X10_mostCharged t) := by
  obtain ⟨hC, hM, hT, hB, hN⟩ := id h
  exact P_C_mostCharged hC (LB h (fun μ1 K h1 hK => P_M_mostCharged h1 hK) (hT.up ht) (hB) (hN))
theorem LB_emptyIn {μ : MM} {t : Nat} {T : TS} (h : LI t μ T) (ht : t < 512) : w_X9_emptyIn [.inr (.inr 0)] μ (LBK w_X10_emptyIn t) := by
  obtain ⟨hC, hM, hT, hB, hN⟩ := id h
  exact P_C_emptyIn (I := μ.1) (J := μ.2) hC hT (LB h (fun μ1 K h1 hK => P_M_emptyIn h1 hT hK) (hT.up ht) (hB) (hN))
theorem LB_undo {μ : MM} {t : Nat} {T : TS} (h : LI t μ T) (ht : t < 512) : w_X9_undo [.inr (.inr 0)] μ (LBK w_X10_undo t) := by
  obtain ⟨hC, hM, hT, hB, hN⟩ := id h
  exact P_C_undo (I := μ.1) (J := μ.2) hC (LB h (fun μ1 K h1 hK => P_M_undo h1 hK) (TG_und hT ht) (TB_und hB) (NG_und hN))
theorem LB_report {μ : MM} {t : Nat} {T : TS} (h : LI t μ T) (ht : t < 512) : w_X9_report [.inr (.inr 0)] μ (LBK w_X10_report t) := by
  obtain ⟨hC, hM, hT, hB, hN⟩ := id h
  exact P_C_report (I := μ.1) (J := μ.2) hC hT hN (LB h (fun μ1 K h1 hK => P_M_report h1 hT hN hK) (TG_rpt hT ht) (TB_rpt hB hT hN) (NG_rpt hN))
theorem LB_save {μ : MM} {t : Nat} {T : TS} (h : LI t μ T) (ht : t < 512) : w_X9_save [.inr (.inr 0)] μ (LBK w_X10_save t) := by
  obtain ⟨hC, hM, hT, hB, hN⟩ := id h
  exact P_C_save (I := μ.1) (J := μ.2) hC (LB h (fun μ1 K h1 hK => P_M_save h1 hK) (TG_sav hT ht) (TB_sav hB) (NG_sav hN))
