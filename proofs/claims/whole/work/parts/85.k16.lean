/-! PURE 73: readText of the model -/
def zrI (I : Mi) (n : Nat) : Mi := fun e k => if e = 349 ∧ 4160 ≤ k ∧ k < 4160 + n then 0 else I e k
def zrJ (J : Mi) (n : Nat) : Mi := fun e k => if e = 350 ∧ 12 ≤ k ∧ k < 12 + n then 0 else J e k
theorem zrI_0 {I : Mi} : zrI I 0 = I := by
  funext e k
  unfold zrI
  rw [if_neg (by omega)]
theorem zrJ_0 {J : Mi} : zrJ J 0 = J := by
  funext e k
  unfold zrJ
  rw [if_neg (by omega)]
theorem zrI_s {I : Mi} {n : Nat} : uM (zrI I n) 349 (4160 + n) 0 = zrI I (n + 1) := by
  funext e k
  unfold uM zrI
  by_cases z : e = 349 ∧ k = 4160 + n
  · rw [if_pos z, if_pos ⟨z.1, by omega, by omega⟩]
  · rw [if_neg z]
    by_cases y : e = 349 ∧ 4160 ≤ k ∧ k < 4160 + n
    · rw [if_pos y, if_pos ⟨y.1, y.2.1, by omega⟩]
    · rw [if_neg y, if_neg (fun x => y ⟨x.1, x.2.1, by have : k ≠ 4160 + n := fun q => z ⟨x.1, q⟩; omega⟩)]
theorem zrJ_s {J : Mi} {n : Nat} : uM (zrJ J n) 350 (12 + n) 0 = zrJ J (n + 1) := by
  funext e k
  unfold uM zrJ
  by_cases z : e = 350 ∧ k = 12 + n
  · rw [if_pos z, if_pos ⟨z.1, by omega, by omega⟩]
  · rw [if_neg z]
    by_cases y : e = 350 ∧ 12 ≤ k ∧ k < 12 + n
    · rw [if_pos y, if_pos ⟨y.1, y.2.1, by omega⟩]
    · rw [if_neg y, if_neg (fun x => y ⟨x.1, x.2.1, by have : k ≠ 12 + n := fun q => z ⟨x.1, q⟩; omega⟩)]
theorem zrI_e {I : Mi} {n e : Nat} (h : e ≠ 349) : zrI I n e = I e := funext fun k => if_neg (fun q => h q.1)
theorem zrJ_e {J : Mi} {n e : Nat} (h : e ≠ 350) : zrJ J n e = J e := funext fun k => if_neg (fun q => h q.1)
theorem zrI_i {I : Mi} {k : Nat} (h : 4160 ≤ k ∧ k < 6240) : zrI I 2080 349 k = 0 := if_pos ⟨rfl, h.1, by omega⟩
theorem zrI_o {I : Mi} {k : Nat} (h : k < 4160 ∨ 6240 ≤ k) : zrI I 2080 349 k = I 349 k := if_neg (by omega)
theorem zrJ_o {J : Mi} {k : Nat} (h : k < 12 ∨ 18 ≤ k) : zrJ J 6 350 k = J 350 k := if_neg (by omega)
theorem clears23_lp {I J : Mi} {K : Option AV → MM → Prop} (h3 : I 348 3 = ((2080 * 2 : Nat) : Int)) (hK : K none (uM (uM I 349 4161 4) 349 4162 100, zrJ J 6)) : ∀ k i : Nat, i + k = 6 → B_X10_clears_23 K [some (.inr (.inr 348)), some (.inl (i : Int))] [] (I, zrJ J i) := by
  intro k
  induction k with
  | zero =>
    intro i hi
    have : i = 6 := by omega
    subst this
    exact lfp_in ⟨⟨by omega, by omega⟩, ⟨by omega, by omega⟩, fun _ => ⟨hM, cs8 rfl, Q_set (o := 4160) 1 h3 rfl (by omega) ⟨hM, cs8 rfl, Q_set (o := 4160) 2 ((uM_e (by decide)).trans h3) rfl (by omega) hK⟩⟩, fun q => absurd (by decide) q⟩
  | succ k ih =>
    intro i hi
    have key := ih (i + 1) (by omega)
    rw [← zrJ_s] at key
    exact lfp_in ⟨⟨by omega, by omega⟩, ⟨by omega, by omega⟩, fun q => absurd q (by omega), fun _ => ⟨hM, cs8 rfl, P_X10_setName 2 i h3 rfl (by decide) (by omega) key⟩⟩
theorem clears2_lp {I J : Mi} {K : Option AV → MM → Prop} (h3 : I 348 3 = ((2080 * 2 : Nat) : Int)) (hK : K none (uM (uM (zrI I 2080) 349 4161 4) 349 4162 100, zrJ J 6)) : ∀ k i : Nat, i + k = 2080 → B_X10_clears_2 K [some (.inr (.inr 348)), some (.inl (i : Int))] [] (zrI I i, J) := by
  have z3 : ∀ n, zrI I n 348 3 = ((2080 * 2 : Nat) : Int) := fun n => by rw [zrI_e (by decide)]; exact h3
  intro k
  induction k with
  | zero =>
    intro i hi
    have : i = 2080 := by omega
    subst this
    refine lfp_in ⟨⟨by omega, by omega⟩, ⟨by omega, by omega⟩, fun _ => ?_, fun q => absurd (by decide) q⟩
    have key := clears23_lp (I := zrI I 2080) (J := J) (z3 2080) hK 6 0 (by omega)
    rw [zrJ_0] at key
    exact key
  | succ k ih =>
    intro i hi
    have key := ih (i + 1) (by omega)
    rw [← zrI_s] at key
    exact lfp_in ⟨⟨by omega, by omega⟩, ⟨by omega, by omega⟩, fun q => absurd q (by omega), fun _ => ⟨hM, cs8 rfl, Q_set (o := 4160) i (z3 i) rfl (by omega) key⟩⟩
theorem P_X10_clears {I J : Mi} {K : Option AV → MM → Prop} (h3 : I 348 3 = ((2080 * 2 : Nat) : Int)) (hK : K none (uM (uM (zrI I 2080) 349 4161 4) 349 4162 100, zrJ J 6)) : w_X10_clears [.inr (.inr 348)] (I, J) K := by
  have key := clears2_lp (I := I) (J := J) (K := K) h3 hK 2080 0 (by omega)
  rw [zrI_0] at key
  exact ⟨cs8 rfl, key⟩
theorem clr_MD {I J : Mi} {ht hk : Int} (h3 : I 348 3 = ((2080 * 2 : Nat) : Int)) (h13 : I 348 13 = ht) (h14 : I 348 14 = hk) : MD (uM (uM (zrI I 2080) 349 4161 4) 349 4162 100, zrJ J 6) emS ht hk ∧ F2M (I, J) (uM (uM (zrI I 2080) 349 4161 4) 349 4162 100, zrJ J 6) := by
  have e : ∀ a, a ≠ 349 → uM (uM (zrI I 2080) 349 4161 4) 349 4162 100 a = I a := fun a ha => by rw [uM_r ha, uM_r ha, zrI_e ha]
  have k : ∀ j, j ≠ 4161 → j ≠ 4162 → uM (uM (zrI I 2080) 349 4161 4) 349 4162 100 349 j = zrI I 2080 349 j := fun j q1 q2 => by rw [uM_k q2, uM_k q1]
  have i348 : ∀ j, uM (uM (zrI I 2080) 349 4161 4) 349 4162 100 348 j = I 348 j := fun j => by rw [e 348 (by decide)]
  refine ⟨⟨⟨(i348 3).trans h3, by decide, emS_F.gd.1, (show MR 2 (uM (uM (zrI I 2080) 349 4161 4) 349 4162 100) (zrJ J 6) emS [] from ⟨fun j hj => ?_, fun q hq => absurd hq (Nat.not_lt_zero _), fun q hq => absurd hq (Nat.not_lt_zero _), fun i r hr => by simp at hr, fun i r hr => ?_, fun i d _ hd => ?_, fun g hg => absurd hg List.not_mem_nil, fun q hq => absurd hq (Nat.not_lt_zero _)⟩)⟩, emS_F, fun q j _ hq6 hj => ?_, (i348 13).trans h13, (i348 14).trans h14⟩, fun a _ y => e a y, fun j hj => ?_, fun j _ => i348 j, fun a _ y => zrJ_e y, fun j hj => zrJ_o hj⟩
  · by_cases z1 : j = 1
    · subst z1
      show uM (uM (zrI I 2080) 349 4161 4) 349 4162 100 349 4161 = 4
      rw [uM_k (by decide), uM_s]
    · by_cases z2 : j = 2
      · subst z2
        exact uM_s
      · rw [k _ (by omega) (by omega), zrI_i (by omega)]
        rcases j12 hj with rfl | rfl | rfl | rfl | rfl | rfl | rfl | rfl | rfl | rfl | rfl | rfl <;> first | rfl | exact absurd rfl z1 | exact absurd rfl z2
  · have hr : ([] : List Prm)[i]? = some r := hr
    simp at hr
  · have hd : ([] : List Drp)[i]? = some d := hd
    simp at hd
  · show uM (uM (zrI I 2080) 349 4161 4) 349 4162 100 349 (4160 + 12 + 8 * q + j) = 0
    rw [k _ (by omega) (by omega), zrI_i (by omega)]
  · show uM (uM (zrI I 2080) 349 4161 4) 349 4162 100 349 j = I 349 j
    rw [k _ (by omega) (by omega), zrI_o hj]
theorem sgn_l {B : List Int} {e : Nat} {c : Int} {x : Er} (h : sgn B e c = .inl x) : x.1 = 1 := by
  unfold sgn at h
  split at h
  · cases h
  · cases h; rfl
theorem readText_lp {K : Option AV → MM → Prop} {B : List Int} : ∀ (k e : Nat) (I J : Mi) (S : AS) (ht hk : Int), B.length < e + k → TM (I, J) B e → ErM (I, J) (0, -1) → MD (I, J) S ht hk → (ht = 0 ∨ ht = 1) ∧ (hk = 0 ∨ hk = 1) → (∀ S', rdX k B e S ht hk = .inr S' → ∀ I' J', F2M (I, J) (I', J') → ErM (I', J') (0, -1) → HG 2 (I', J') S' [] → B_X10_readText_56 K [some (.inr (.inr 348))] [] (I', J')) → (∀ x, rdX k B e S ht hk = .inl x → ∀ I' J', F2M (I, J) (I', J') → ErM (I', J') x → R32 x.1 → x.1 ≠ 0 → B_X10_readText_56 K [some (.inr (.inr 348))] [] (I', J')) → B_X10_readText_29 K [some (.inr (.inr 348))] [] (I, J) := by
  have n9 : ∀ k ∈ [6, 7, 8, 9], 6 ≤ k ∧ k < 15 := by decide
  have n11 : ∀ k ∈ [6, 7, 8, 9, 10, 11], 6 ≤ k ∧ k < 15 := by decide
  intro k
  induction k with
  | zero =>
    intro e I J S ht hk hl t
    have := t.2.1
    omega
  | succ k ih =>
    intro e I J S ht hk hl t er r hb k1 k0
    have hB := t.1.2.2.2.1
    have e8 : I 348 8 = (tkK (sc B e) : Int) := t.2.2.2.2.1
    have kr := (sc_facts hB t.2.1).2.2.2.1
    have bad : ∀ (x : Er) (I' J' : Mi), rdX (k + 1) B e S ht hk = .inl x → F2M (I, J) (I', J') → ErM (I', J') x → R32 x.1 → x.1 ≠ 0 → B_X10_readText_29 K [some (.inr (.inr 348))] [] (I', J') := fun x I' J' hx F' er' h1 h2 => lfp_in ⟨hM, cs8 rfl, P_X10_isGood er' h1 (fun q => absurd q h2) (fun _ => ⟨⟨by omega, by omega⟩, fun _ => k0 x hx I' J' F' er' h1 h2, fun q => absurd rfl q⟩)⟩
    refine lfp_in ⟨hM, cs8 rfl, P_X10_isGood er R32_0 (fun _ => ⟨⟨by omega, by omega⟩, fun q => absurd q (by decide), fun _ => ⟨hM, ?_⟩⟩) (fun q => absurd rfl q)⟩
    show o_if_eq _ _ _ [.inl (I 348 8)] (I, J)
    rw [e8]
    refine ⟨⟨by omega, by omega⟩, fun q => k1 S (if_pos (by have q : (tkK (sc B e) : Int) = 0 := q; omega)) I J F2M.refl er r.1, fun q => ?_⟩
    have kn : ¬ tkK (sc B e) = 0 := fun z => q (by rw [z]; rfl)
    have E0 : rdX (k + 1) B e S ht hk = bnd (rdQ B e S ht hk) (fun r => rdX k B r.1 r.2.1 r.2.2.1 r.2.2.2) := if_neg kn
    refine ⟨hM, cs8 rfl, P_X10_readsStatement t er r hb (fun q hq I1 J1 F1a t1 er1 r1 => ⟨hM, cs8 rfl, sign_g t1 er1 ⟨by decide, by decide⟩ (fun e' hs I2 J2 f2 t2 => ?_) (fun x hs I2 J2 f2 t2 er2 => ?_)⟩) (fun x hq I1 J1 e1 F1a t1 er1 h1 h2 => ⟨hM, cs8 rfl, sign_b t1 er1 h1 h2 ⟨by decide, by decide⟩ (fun I2 J2 f2 t2 => bad x I2 J2 (E0.trans (bnd_l (bnd_l hq))) (F1a.trans (f2.f2 n9)) (er1.f9 f2 (by decide) (by decide)) h1 h2)⟩)⟩
    · have E1 : rdQ B e S ht hk = .inr (e', q.2) := (bnd_r hq).trans (bnd_r hs)
      obtain ⟨a, b, c, d⟩ := rdQ_F hB t.2.1 r.2.1 hb E1
      have b : e < e' := b
      have FF : F2M (I, J) (I2, J2) := F1a.trans (f2.f2 n9)
      exact ih e' I2 J2 q.2.1 q.2.2.1 q.2.2.2 (by omega) t2 (er1.f9 f2 (by decide) (by decide)) (r1.f9 f2 (by decide)) d (fun S' hr I3 J3 F3 => k1 S' (E0.trans ((bnd_r E1).trans hr)) I3 J3 (FF.trans F3)) (fun x hr I3 J3 F3 => k0 x (E0.trans ((bnd_r E1).trans hr)) I3 J3 (FF.trans F3))
    · have x1 := sgn_l hs
      exact bad x I2 J2 (E0.trans (bnd_l ((bnd_r hq).trans (bnd_l hs)))) (F1a.trans (f2.f2 n11)) er2 (by rw [x1]; exact R32_1) (by rw [x1]; decide)
theorem MB.f2 {b : Nat} {μ μ' : MM} {S : AS} (h : MB b μ S) (hF : F2M μ μ') (hb : b ≠ 2) : MB b μ' S := h.tr (fun k hk => hF.2.1 _ (by omega)) (fun k hk => hF.2.2.2.2 _ (by omega))
theorem F2M.fx {μ μ' : MM} (h : F2M μ μ') : FX μ μ' := ⟨fun e he => h.1 e (by omega) (by omega), fun e he => h.2.2.2.1 e (by omega) (by omega)⟩
theorem MT.tbm {μ : MM} {T : TS} (h : MT μ T) (hB : TB T) (h9 : R32 (μ.1 348 9)) : TBm μ (tB T) := ⟨h.2.2.1.1, h.2.2.1.2.1, h.2.2.1.2.2, hB.1, h9⟩
theorem MT.rdl {I J I1 J1 : Mi} {T : TS} {x : Er} (h : MT (I, J) T) (hF : F2M (uM I 348 3 4160, J) (I1, J1)) (hE : ErM (I1, J1) x) : MT (uM (uM I1 348 3 0) 348 5 0, J1) (seB T [] x.1 x.2) ∧ FX (I, J) (uM (uM I1 348 3 0) 348 5 0, J1) := by
  obtain ⟨a1, a2, a3, a4, a5, a6, a7⟩ := h
  have e9 : uM (uM I1 348 3 0) 348 5 0 349 = I1 349 := by rw [uM_r (by decide), uM_r (by decide)]
  have m : ∀ b s, b ≠ 2 → MB b (I, J) s → MB b (uM (uM I1 348 3 0) 348 5 0, J1) s := fun b s hb hs => (((MB.put (I := I) (J := J) (k := 3) (v := 4160) hs).f2 hF hb).eq (μ' := (uM (uM I1 348 3 0) 348 5 0, J1)) e9 rfl)
  have f : ∀ j, j ≠ 3 → j ≠ 5 → (j < 6 ∨ 15 ≤ j) → uM (uM I1 348 3 0) 348 5 0 348 j = I 348 j := fun j h3 h5 hj => by
    rw [uM_k h5, uM_k h3]
    exact (hF.2.2.1 j hj).trans (uM_k h3)
  have g : ∀ e, e ≠ 348 → e ≠ 349 → uM (uM I1 348 3 0) 348 5 0 e = I e := fun e h1 h2 => by rw [uM_r h1, uM_r h1]; exact (hF.1 e h1 h2).trans (uM_r h1)
  refine ⟨⟨?_, m 0 _ (by decide) a2, ⟨?_, by show ([] : List Int).length ≤ 600; decide, AI_nil⟩, ⟨?_, ?_⟩, ?_, ⟨(f 15 (by decide) (by decide) (by omega)).trans a6.1, a6.2.1, fun i s hs => m _ s (by omega) (a6.2.2 i s hs)⟩, ⟨(f 24 (by decide) (by decide) (by omega)).trans a7.1, a7.2.eq (g 354 (by decide) (by decide))⟩⟩, fun e he => g e (by omega) (by omega), fun e he => hF.2.2.2.1 e (by omega) (by omega)⟩
  · show uM (uM I1 348 3 0) 348 5 0 348 3 = 0
    rw [uM_k (by decide), uM_s]
  · show uM (uM I1 348 3 0) 348 5 0 348 5 = _
    rw [uM_s]; rfl
  · show uM (uM I1 348 3 0) 348 5 0 348 10 = _
    rw [uM_k (by decide), uM_k (by decide)]; exact hE.1
  · show uM (uM I1 348 3 0) 348 5 0 348 11 = _
    rw [uM_k (by decide), uM_k (by decide)]; exact hE.2
  · show SB _ (tS T)
    cases e : tS T with
    | none => rw [e] at a5; exact (f 25 (by decide) (by decide) (by omega)).trans a5
    | some s => rw [e] at a5; exact ⟨(f 25 (by decide) (by decide) (by omega)).trans a5.1, m 1 s (by decide) a5.2⟩
theorem P_M_readText {I J : Mi} {K : Option AV → MM → Prop} {T : TS} (h : MT (I, J) T) (hB : TB T) (h9 : R32 (I 348 9)) (hK : OM (oTxt T) K (I, J)) : w_X10_readText [.inr (.inr 348)] (I, J) K := by
  have tb := h.tbm hB h9
  have n1 : ∀ k ∈ [7, 10, 11], 6 ≤ k ∧ k < 15 := by decide
  have n9 : ∀ k ∈ [6, 7, 8, 9], 6 ≤ k ∧ k < 15 := by decide
  refine ⟨cs8 rfl, hM, cs8 rfl, P_X10_starts (fun μ1 f1 e7 er eJ => ⟨hM, Or.inl rfl, hM, Or.inl rfl, hM, hM, cs8 rfl, P_X10_clears uM_s ?_⟩)⟩
  obtain ⟨m1, F1a⟩ := clr_MD (I := uM (uM (uM μ1.1 348 13 0) 348 14 0) 348 3 4160) (J := μ1.2) (ht := 0) (hk := 0) uM_s (by rw [uM_k (by decide), uM_k (by decide), uM_s]) (by rw [uM_k (by decide), uM_s])
  generalize hX : uM (uM (zrI (uM (uM (uM μ1.1 348 13 0) 348 14 0) 348 3 4160) 2080) 349 4161 4) 349 4162 100 = X at *
  have g : ∀ j, j ≠ 3 → j ≠ 13 → j ≠ 14 → X 348 j = μ1.1 348 j := fun j h3 h13 h14 => by
    rw [← hX, uM_e (by decide), uM_e (by decide), zrI_e (by decide), uM_k h3, uM_k h14, uM_k h13]
  have x351 : X 351 = I 351 := by rw [← hX, uM_r (by decide), uM_r (by decide), zrI_e (by decide), uM_r (by decide), uM_r (by decide), uM_r (by decide)]; exact f1.1 351 (by decide)
  have F0 : F2M (uM I 348 3 4160, J) (uM (uM (uM μ1.1 348 13 0) 348 14 0) 348 3 4160, μ1.2) := by
    refine ⟨fun e q1 q2 => ?_, fun k _ => ?_, fun j hj => ?_, fun e q1 q2 => ?_, fun k _ => ?_⟩
    · show uM (uM (uM μ1.1 348 13 0) 348 14 0) 348 3 4160 e = uM I 348 3 4160 e
      rw [uM_r q1, uM_r q1, uM_r q1, uM_r q1]; exact f1.1 e q1
    · show uM (uM (uM μ1.1 348 13 0) 348 14 0) 348 3 4160 349 k = uM I 348 3 4160 349 k
      rw [uM_r (by decide), uM_r (by decide), uM_r (by decide), uM_r (by decide), f1.1 349 (by decide)]
    · show uM (uM (uM μ1.1 348 13 0) 348 14 0) 348 3 4160 348 j = uM I 348 3 4160 348 j
      by_cases z : j = 3
      · subst z; rw [uM_s, uM_s]
      · rw [uM_k z, uM_k (by omega), uM_k (by omega), uM_k z]
        exact f1.2.1 j (fun y => by have := n1 j y; omega)
    · exact f1.2.2 e q1
    · show μ1.2 350 k = J 350 k; rw [f1.2.2 350 (by decide)]
  have F1b := F0.trans F1a
  have tb2 : TBm (X, zrJ μ1.2 6) (tB T) := ⟨(g 5 (by decide) (by decide) (by decide)).trans ((f1.2.1 5 (by decide)).trans tb.1), tb.2.1, tb.2.2.1.eq x351, tb.2.2.2.1, by show R32 (X 348 9); rw [g 9 (by decide) (by decide) (by decide), f1.2.1 9 (by decide)]; exact h9⟩
  have er2 : ErM (X, zrJ μ1.2 6) (0, -1) := ⟨(g 10 (by decide) (by decide) (by decide)).trans er.1, (g 11 (by decide) (by decide) (by decide)).trans er.2⟩
  refine ⟨hM, cs8 rfl, P_X10_scans (e := 0) tb2 ((g 7 (by decide) (by decide) (by decide)).trans e7) (Nat.zero_le _) (fun μ3 f3 t3 t3' => ?_)⟩
  have T3 : TM μ3 (tB T) 0 := ⟨t3, Nat.zero_le _, t3'⟩
  have F3 := F1b.trans (f3.f2 n9)
  have hl := tb.2.1
  refine readText_lp (B := tB T) 601 0 μ3.1 μ3.2 emS 0 0 (by omega) T3 (er2.f9 f3 (by decide) (by decide)) (m1.f9 f3 (by decide)) ⟨Or.inl rfl, Or.inl rfl⟩ (fun S' hr I4 J4 F4 er4 H4 => ?_) (fun x hr I4 J4 F4 er4 h1 h2 => ?_)
  · obtain ⟨c, fx⟩ := h.rdl (F3.trans F4) er4
    have H4' : MB 2 (uM (uM I4 348 3 0) 348 5 0, J4) S' := MB.put (MB.put H4.mb)
    have er5 : ErM (uM (uM I4 348 3 0) 348 5 0, J4) (0, -1) := ⟨c.2.2.2.1.1, c.2.2.2.1.2⟩
    refine ⟨hM, hM, hM, cs8 rfl, P_X10_isGood er5 R32_0 (fun _ => ⟨hM, cs8 rfl, P_X10_good (Or.inr rfl) (fun _ => ⟨⟨by omega, by omega⟩, fun _ => ⟨hM, cs8 rfl, P_X10_copies 2 0 rfl rfl (by decide) (by decide) (by decide) ⟨hM, hM, cs8 rfl, ?_⟩⟩, fun q => absurd q (by decide)⟩) (fun q => absurd q (by decide))⟩) (fun q => absurd rfl q)⟩
    have c0 := c.thr 0
    generalize hY : uM (uM (uM I4 348 3 0) 348 5 0) 348 0 0 = Y at *
    have hY2 : MB 2 (Y, J4) S' := by rw [← hY]; exact MB.put H4'
    have B0 : MB 0 (uM (cpI Y 2 0 2080) 348 15 0, cpJ J4 2 0 6) S' := MB.put (MB.cp hY2)
    have y : ∀ j, j ≠ 15 → uM (cpI Y 2 0 2080) 348 15 0 348 j = Y 348 j := fun j hj => by rw [uM_k hj, cpI_e (by decide)]
    have n0 : uM (cpI Y 2 0 2080) 348 15 0 349 (2080 * 0 + 0) = (zN S' : Int) := by
      obtain ⟨G, hG⟩ := B0.2
      exact hG.1 0 (by omega)
    refine Q_of (o := 2080 * 0) 0 ((y 3 (by decide)).trans c0.1) rfl (by omega) ?_
    rw [n0]
    obtain ⟨a1, a2, a3, a4, a5, a6, a7⟩ := c0
    have m : ∀ b s, b ≠ 0 → MB b (Y, J4) s → MB b (uM (cpI Y 2 0 2080) 348 15 0, cpJ J4 2 0 6) s := fun b s hb hs => MB.put (MB.cpo hs hb)
    have z : ∀ e, e ≠ 348 → e ≠ 349 → uM (cpI Y 2 0 2080) 348 15 0 e = Y e := fun e q1 q2 => by rw [uM_r q1, cpI_e q2]
    refine hK.k (oTxt_r hr) ⟨(y 3 (by decide)).trans a1, B0, ⟨(y 5 (by decide)).trans a3.1, a3.2.1, AI_nil⟩, ⟨(y 10 (by decide)).trans a4.1, (y 11 (by decide)).trans a4.2⟩, ?_, ⟨pS, by show ([] : List AS).length ≤ 6; decide, fun i s hs => by have hs : ([] : List AS)[i]? = some s := hs; simp at hs⟩, ⟨(y 24 (by decide)).trans a7.1, a7.2.eq (z 354 (by decide) (by decide))⟩⟩ ((y 0 (by decide)).trans (by rw [← hY]; exact uM_s)) (fx.trans ⟨fun e he => ?_, fun e he => cpJ_e (by omega)⟩)
    · show SB _ (tS T)
      have a5 : SB (Y, J4) (tS T) := a5
      cases e : tS T with
      | none => rw [e] at a5; exact (y 25 (by decide)).trans a5
      | some s => rw [e] at a5; exact ⟨(y 25 (by decide)).trans a5.1, m 1 s (by decide) a5.2⟩
    · show uM (cpI Y 2 0 2080) 348 15 0 e = _
      rw [z e (by omega) (by omega), ← hY, uM_r (by omega)]
  · obtain ⟨c, fx⟩ := h.rdl (F3.trans F4) er4
    have er5 : ErM (uM (uM I4 348 3 0) 348 5 0, J4) x := ⟨c.2.2.2.1.1, c.2.2.2.1.2⟩
    exact ⟨hM, hM, hM, cs8 rfl, P_X10_isGood er5 h1 (fun q => absurd q h2) (fun _ => ⟨hM, cs8 rfl, P_X10_good (Or.inl rfl) (fun q => absurd q (by decide)) (fun _ => ⟨⟨by omega, by omega⟩, fun q => absurd rfl q, fun _ => hK.k (oTxt_l hr) (c.thr 1) t348 (fx.trans FX.put)⟩)⟩)⟩
