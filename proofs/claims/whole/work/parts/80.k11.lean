/-! PURE 68: the class reads a switch, further -/
theorem HC_trm {e : Nat} {I J : Mi} {S : AS} {v : Int} (h : HC e (I, J) S) (hv : 1 ≤ v ∧ v ≤ 99) : HC e (uM I e 2 v, J) (stG S v (zK S) (zC S) (zA S)) := by
  obtain ⟨hs, hR, c0, c1, c2, c3, c4, c5, c6, c7, c8, c9, c10, c11, c12⟩ := h
  have E : ∀ a, a ≠ e → uM I e 2 v a = I a := fun a ha => uM_r ha
  have F : ∀ j, j ≠ 2 → uM I e 2 v e j = I e j := fun j hj => uM_k hj
  refine ⟨hs, ⟨hR.1, hv, hR.2.2⟩, (show CR e (uM I e 2 v) J (stG S v (zK S) (zC S) (zA S)) from ⟨(F 1 (by decide)).trans c0, uM_s, (F 3 (by decide)).trans c2, (F 4 (by decide)).trans c3, (F 5 (by decide)).trans c4, fun p hp => ?_, by rw [E _ (by omega)]; exact c6, fun i r hr j hj => by rw [E _ (by omega)]; exact c7 i r hr j hj, by rw [E _ (by omega)]; exact c8, fun i d hi hd j hj => by rw [E _ (by omega)]; exact c9 i d hi hd j hj, by rw [E _ (by omega)]; exact c10, by rw [E _ (by omega)]; exact c11, by rw [E _ (by omega)]; exact c12⟩)⟩
  obtain ⟨d0, d1, d2, d3, d4, d5, d6, d7, d8, d9, d10, d11, d12⟩ := c5 p hp
  have G : ∀ j, uM I e 2 v (e + 13 + 4 * p) j = I (e + 13 + 4 * p) j := fun j => by rw [E _ (by omega)]
  exact ⟨d0, (G 1).trans d1, (G 2).trans d2, (G 3).trans d3, (G 4).trans d4, (G 5).trans d5, (G 6).trans d6, (G 7).trans d7, (G 8).trans d8, (G 9).trans d9, (G 10).trans d10, (G 11).trans d11, fun i r hr j hj => by rw [E _ (by omega)]; exact d12 i r hr j hj⟩
theorem HC_kep {e : Nat} {I J : Mi} {S : AS} {v : Int} (h : HC e (I, J) S) (hv : 0 ≤ v ∧ v ≤ 200) : HC e (uM I e 3 v, J) (stG S (zT S) v (zC S) (zA S)) := by
  obtain ⟨hs, hR, c0, c1, c2, c3, c4, c5, c6, c7, c8, c9, c10, c11, c12⟩ := h
  have E : ∀ a, a ≠ e → uM I e 3 v a = I a := fun a ha => uM_r ha
  have F : ∀ j, j ≠ 3 → uM I e 3 v e j = I e j := fun j hj => uM_k hj
  refine ⟨hs, ⟨hR.1, hR.2.1, hv, hR.2.2.2⟩, (show CR e (uM I e 3 v) J (stG S (zT S) v (zC S) (zA S)) from ⟨(F 1 (by decide)).trans c0, (F 2 (by decide)).trans c1, uM_s, (F 4 (by decide)).trans c3, (F 5 (by decide)).trans c4, fun p hp => ?_, by rw [E _ (by omega)]; exact c6, fun i r hr j hj => by rw [E _ (by omega)]; exact c7 i r hr j hj, by rw [E _ (by omega)]; exact c8, fun i d hi hd j hj => by rw [E _ (by omega)]; exact c9 i d hi hd j hj, by rw [E _ (by omega)]; exact c10, by rw [E _ (by omega)]; exact c11, by rw [E _ (by omega)]; exact c12⟩)⟩
  obtain ⟨d0, d1, d2, d3, d4, d5, d6, d7, d8, d9, d10, d11, d12⟩ := c5 p hp
  have G : ∀ j, uM I e 3 v (e + 13 + 4 * p) j = I (e + 13 + 4 * p) j := fun j => by rw [E _ (by omega)]
  exact ⟨d0, (G 1).trans d1, (G 2).trans d2, (G 3).trans d3, (G 4).trans d4, (G 5).trans d5, (G 6).trans d6, (G 7).trans d7, (G 8).trans d8, (G 9).trans d9, (G 10).trans d10, (G 11).trans d11, fun i r hr j hj => by rw [E _ (by omega)]; exact d12 i r hr j hj⟩
theorem FR.put48 {I J : Mi} {k : Nat} {v : Int} : FR (I, J) (uM I 48 k v, J) := ⟨fun a _ _ z => uM_r (by omega), uM_e (I := I) (e := 48) (k := k) (e' := 1) (k' := 1) (v := v) (by decide), fun _ _ _ => rfl⟩
theorem b01 {x : Int} (h : x = 0 ∨ x = 1) : R32 x := by rcases h with rfl | rfl <;> exact ⟨by decide, by decide⟩
/-- all but what the text's own numbers are is as it was -/
theorem TC.far {I J I' J' : Mi} {B : List Int} {e : Nat} (h : TC (I, J) B e) (h1 : I' 1 = I 1) (h2 : I' 2 = I 2) (j1 : J' 1 = J 1) : TC (I', J') B e := by
  obtain ⟨⟨a1, a2, a3, a4⟩, b, c1, c2, c3, c4, c5, c6⟩ := h
  refine ⟨⟨?_, a2, a3.eq h2, a4⟩, b, ?_, ?_, ?_, fun q => ?_, fun q => ?_, fun q => ?_⟩
  · show I' 1 1 = _; rw [h1]; exact a1
  · show I' 1 6 = _; rw [h1]; exact c1
  · show I' 1 4 = _; rw [h1]; exact c2
  · show I' 1 5 = _; rw [h1]; exact c3
  · show J' 1 7 = _; rw [j1]; exact c4 q
  · show I' 1 8 = _; rw [h1]; exact c5 q
  · show J' 1 7 = _; rw [j1]; exact c6 q
theorem P_X7_readTerm {I J : Mi} {K : Option AV → MM → Prop} {B : List Int} {e0 : Nat} {S : AS} {ht hk : Int} (t : TC (I, J) B e0) (r : RD (I, J) B S ht hk) (hb : ht = 0 ∨ ht = 1) (k1 : ∀ e' S', rdU B (rdT B e0 S ht) = .inr (e', S') → ∀ I' J', FR (I, J) (I', J') → RD (I', J') B S' 1 hk → I' 1 4 = ((e' : Nat) : Int) → K (some (.inl 1)) (I', J')) (k0 : ∀ x, rdU B (rdT B e0 S ht) = .inl x → ∀ μ', FR (I, J) μ' → ErC μ' x → K (some (.inl 0)) μ') : w_X7_readTerm [.inr (.inr 3), .inr (.inr 1), .inr (.inr 48)] (I, J) K := by
  have hB := t.1.2.2.2
  obtain ⟨f1, f2, f3, -⟩ := sc_facts hB t.2.1
  have e3 : I 3 0 = ht := r.2.2.2.2.1
  refine ⟨cs8 rfl, h3R, ?_⟩
  show o_if_eq _ _ _ [.inl (I 3 0)] (I, J)
  rw [e3]
  refine ⟨b01 hb, fun q => ⟨h1T, cs8 rfl, P_X8_takeNumber t.1 t.2.2.2.1 f3 R32_1 ⟨by omega, by omega⟩ (fun v e2 hx I2 J2 F2 t2 u2 v2 => ⟨⟨by omega, by omega⟩, fun _ => ⟨h3R, Or.inr rfl, h1T, ?_⟩, fun z => absurd z (by decide)⟩) (fun x hx μ' F er => ⟨⟨by omega, by omega⟩, fun z => absurd rfl z, fun _ => ⟨Or.inl rfl, k0 _ (rdU_l ((if_neg (by omega)).trans (bnd_l hx))) μ' (F.fr (by decide)) er⟩⟩)⟩, fun q => ⟨h1T, cs8 rfl, t.fail (fun μ' f' er => ⟨Or.inl rfl, k0 _ (rdU_l (if_pos (hb.resolve_left q))) μ' (f'.fr (by decide)) er⟩)⟩⟩
  obtain ⟨x1, x2, x3, x4, x5, x6⟩ := num_r hB f3 hx
  have q : ht = 0 := q
  have E0 : rdT B e0 S ht = .inr (e2, stG S v (zK S) (zC S) (zA S)) := (if_neg (by omega)).trans (bnd_r hx)
  obtain ⟨r1, r2, r3, r4, r5, r6⟩ := r.f1 F2 (by decide)
  show o_putI 6 2 _ _ [.inl (uM I2 3 0 1 1 8), .inr (.inr 48)] (uM I2 3 0 1, J2)
  rw [show uM I2 3 0 1 1 8 = v from (uM_e (by decide)).trans v2]
  have H2 : HC 48 (uM (uM I2 3 0 1) 48 2 v, J2) (stG S v (zK S) (zC S) (zA S)) := HC_trm (HC_fr r2 (fun a x y => ⟨uM_r (by omega), rfl⟩)) ⟨x1, x2⟩
  have FF : FR (I, J) (uM (uM I2 3 0 1) 48 2 v, J2) := ((F2.fr (by decide)).trans FR.put3).trans FR.put48
  have z1 : uM (uM I2 3 0 1) 48 2 v 1 = I2 1 := (uM_r (by decide)).trans (uM_r (by decide))
  have tt : TC (uM (uM I2 3 0 1) 48 2 v, J2) B (tkE (sc B e0)) := t2.far z1 ((uM_r (by decide)).trans (uM_r (by decide))) rfl
  have rr : RD (uM (uM I2 3 0 1) 48 2 v, J2) B (stG S v (zK S) (zC S) (zA S)) 1 hk := ⟨tt.1, H2, stT_F r3 ⟨x1, x2⟩, ⟨by show uM (uM I2 3 0 1) 48 2 v 1 2 = _; rw [z1]; exact r4.1, by show uM (uM I2 3 0 1) 48 2 v 1 3 = _; rw [z1]; exact r4.2⟩, by show uM (uM I2 3 0 1) 48 2 v 3 0 = _; rw [uM_e (by decide), uM_s], by show uM (uM I2 3 0 1) 48 2 v 3 1 = _; rw [uM_e (by decide), uM_k (by decide)]; exact r6⟩
  refine ⟨sw_s sw48, h1T, cs8 rfl, P_X8_takeSign tt.1 (by rw [z1]; exact u2) x4 ⟨by omega, by omega⟩ (fun e' hs I' J' F t' u' => ⟨Or.inr rfl, k1 e' _ (rdU_r E0 hs) I' J' (FF.trans (F.fr (by decide))) (rr.f1 F (by decide)) u'⟩) (fun x hs μ' F er => ⟨Or.inl rfl, k0 x (rdU_x E0 hs) μ' (FF.trans (F.fr (by decide))) er⟩)⟩
theorem P_X7_readKeep {I J : Mi} {K : Option AV → MM → Prop} {B : List Int} {e0 : Nat} {S : AS} {ht hk : Int} (t : TC (I, J) B e0) (r : RD (I, J) B S ht hk) (hb : hk = 0 ∨ hk = 1) (k1 : ∀ e' S', rdU B (rdK B e0 S hk) = .inr (e', S') → ∀ I' J', FR (I, J) (I', J') → RD (I', J') B S' ht 1 → I' 1 4 = ((e' : Nat) : Int) → K (some (.inl 1)) (I', J')) (k0 : ∀ x, rdU B (rdK B e0 S hk) = .inl x → ∀ μ', FR (I, J) μ' → ErC μ' x → K (some (.inl 0)) μ') : w_X7_readKeep [.inr (.inr 3), .inr (.inr 1), .inr (.inr 48)] (I, J) K := by
  have hB := t.1.2.2.2
  obtain ⟨f1, f2, f3, -⟩ := sc_facts hB t.2.1
  have e3 : I 3 1 = hk := r.2.2.2.2.2
  refine ⟨cs8 rfl, h3R, ?_⟩
  show o_if_eq _ _ _ [.inl (I 3 1)] (I, J)
  rw [e3]
  refine ⟨b01 hb, fun q => ⟨h1T, cs8 rfl, P_X8_takeNumber t.1 t.2.2.2.1 f3 R32_0 ⟨by omega, by omega⟩ (fun v e2 hx I2 J2 F2 t2 u2 v2 => ⟨⟨by omega, by omega⟩, fun _ => ⟨h3R, Or.inr rfl, h1T, ?_⟩, fun z => absurd z (by decide)⟩) (fun x hx μ' F er => ⟨⟨by omega, by omega⟩, fun z => absurd rfl z, fun _ => ⟨Or.inl rfl, k0 _ (rdU_l ((if_neg (by omega)).trans (bnd_l hx))) μ' (F.fr (by decide)) er⟩⟩)⟩, fun q => ⟨h1T, cs8 rfl, t.fail (fun μ' f' er => ⟨Or.inl rfl, k0 _ (rdU_l (if_pos (hb.resolve_left q))) μ' (f'.fr (by decide)) er⟩)⟩⟩
  obtain ⟨x1, x2, x3, x4, x5, x6⟩ := num_r hB f3 hx
  have q : hk = 0 := q
  have E0 : rdK B e0 S hk = .inr (e2, stG S (zT S) v (zC S) (zA S)) := (if_neg (by omega)).trans (bnd_r hx)
  obtain ⟨r1, r2, r3, r4, r5, r6⟩ := r.f1 F2 (by decide)
  show o_putI 6 3 _ _ [.inl (uM I2 3 1 1 1 8), .inr (.inr 48)] (uM I2 3 1 1, J2)
  rw [show uM I2 3 1 1 1 8 = v from (uM_e (by decide)).trans v2]
  have H2 : HC 48 (uM (uM I2 3 1 1) 48 3 v, J2) (stG S (zT S) v (zC S) (zA S)) := HC_kep (HC_fr r2 (fun a x y => ⟨uM_r (by omega), rfl⟩)) ⟨x1, x2⟩
  have FF : FR (I, J) (uM (uM I2 3 1 1) 48 3 v, J2) := ((F2.fr (by decide)).trans FR.put3).trans FR.put48
  have z1 : uM (uM I2 3 1 1) 48 3 v 1 = I2 1 := (uM_r (by decide)).trans (uM_r (by decide))
  have tt : TC (uM (uM I2 3 1 1) 48 3 v, J2) B (tkE (sc B e0)) := t2.far z1 ((uM_r (by decide)).trans (uM_r (by decide))) rfl
  have rr : RD (uM (uM I2 3 1 1) 48 3 v, J2) B (stG S (zT S) v (zC S) (zA S)) ht 1 := ⟨tt.1, H2, stK_F r3 ⟨x1, x2⟩, ⟨by show uM (uM I2 3 1 1) 48 3 v 1 2 = _; rw [z1]; exact r4.1, by show uM (uM I2 3 1 1) 48 3 v 1 3 = _; rw [z1]; exact r4.2⟩, by show uM (uM I2 3 1 1) 48 3 v 3 0 = _; rw [uM_e (by decide), uM_k (by decide)]; exact r5, by show uM (uM I2 3 1 1) 48 3 v 3 1 = _; rw [uM_e (by decide), uM_s]⟩
  refine ⟨sw_s sw48, h1T, cs8 rfl, P_X8_takeSign tt.1 (by rw [z1]; exact u2) x4 ⟨by omega, by omega⟩ (fun e' hs I' J' F t' u' => ⟨Or.inr rfl, k1 e' _ (rdU_r E0 hs) I' J' (FF.trans (F.fr (by decide))) (rr.f1 F (by decide)) u'⟩) (fun x hs μ' F er => ⟨Or.inl rfl, k0 x (rdU_x E0 hs) μ' (FF.trans (F.fr (by decide))) er⟩)⟩
/-- rdQ by its three statements -/
theorem rdQ_0 {B : List Int} {e0 : Nat} {S : AS} {ht hk : Int} (h : isw (sc B e0) 0) : rdQ B e0 S ht hk = bnd (rdU B (rdP B e0 S)) (fun r => .inr (r.1, r.2, ht, hk)) := by
  unfold rdQ rdS rdU
  rw [if_pos h]
  cases rdP B e0 S with
  | inl x => rfl
  | inr r => show bnd (sgn B r.1 59) _ = bnd (bnd (sgn B r.1 59) _) _; cases sgn B r.1 59 <;> rfl
theorem rdQ_2 {B : List Int} {e0 : Nat} {S : AS} {ht hk : Int} (h0 : ¬ isw (sc B e0) 0) (h : isw (sc B e0) 2) : rdQ B e0 S ht hk = bnd (rdU B (rdT B e0 S ht)) (fun r => .inr (r.1, r.2, 1, hk)) := by
  unfold rdQ rdS rdU
  rw [if_neg h0, if_pos h]
  cases rdT B e0 S ht with
  | inl x => rfl
  | inr r => show bnd (sgn B r.1 59) _ = bnd (bnd (sgn B r.1 59) _) _; cases sgn B r.1 59 <;> rfl
theorem rdQ_3 {B : List Int} {e0 : Nat} {S : AS} {ht hk : Int} (h0 : ¬ isw (sc B e0) 0) (h2 : ¬ isw (sc B e0) 2) (h : isw (sc B e0) 3) : rdQ B e0 S ht hk = bnd (rdU B (rdK B e0 S hk)) (fun r => .inr (r.1, r.2, ht, 1)) := by
  unfold rdQ rdS rdU
  rw [if_neg h0, if_neg h2, if_pos h]
  cases rdK B e0 S hk with
  | inl x => rfl
  | inr r => show bnd (sgn B r.1 59) _ = bnd (bnd (sgn B r.1 59) _) _; cases sgn B r.1 59 <;> rfl
theorem rdQ_n {B : List Int} {e0 : Nat} {S : AS} {ht hk : Int} (h0 : ¬ isw (sc B e0) 0) (h2 : ¬ isw (sc B e0) 2) (h : ¬ isw (sc B e0) 3) : rdQ B e0 S ht hk = .inl (1, (tkA (sc B e0) : Int)) := by
  unfold rdQ rdS
  rw [if_neg h0, if_neg h2, if_neg h]
  rfl
theorem P_X7_readStatement {I J : Mi} {K : Option AV → MM → Prop} {B : List Int} {e0 : Nat} {S : AS} {ht hk : Int} (t : TC (I, J) B e0) (r : RD (I, J) B S ht hk) (hb : (ht = 0 ∨ ht = 1) ∧ (hk = 0 ∨ hk = 1)) (k1 : ∀ q, rdQ B e0 S ht hk = .inr q → ∀ I' J', FR (I, J) (I', J') → RD (I', J') B q.2.1 q.2.2.1 q.2.2.2 → I' 1 4 = ((q.1 : Nat) : Int) → K (some (.inl 1)) (I', J')) (k0 : ∀ x, rdQ B e0 S ht hk = .inl x → ∀ μ', FR (I, J) μ' → ErC μ' x → K (some (.inl 0)) μ') : w_X7_readStatement [.inr (.inr 3), .inr (.inr 1), .inr (.inr 48)] (I, J) K := by
  refine ⟨cs8 rfl, t.isW (i := 0) (by decide) (cs8 rfl) (fun z => ⟨⟨by omega, by omega⟩, fun y => absurd y (by decide), fun _ => ⟨h3R, cs8 rfl, P_X7_readPort t r (fun e' S' hr I' J' F rd u => ⟨Or.inr rfl, k1 (e', S', ht, hk) ((rdQ_0 z).trans (bnd_r hr)) I' J' F rd u⟩) (fun x hr μ' F er => ⟨Or.inl rfl, k0 x ((rdQ_0 z).trans (bnd_l hr)) μ' F er⟩)⟩⟩) (fun z => ⟨⟨by omega, by omega⟩, fun _ => ?_, fun y => absurd rfl y⟩)⟩
  refine t.isW (i := 2) (by decide) (cs8 rfl) (fun z2 => ⟨⟨by omega, by omega⟩, fun y => absurd y (by decide), fun _ => ⟨h3R, cs8 rfl, P_X7_readTerm t r hb.1 (fun e' S' hr I' J' F rd u => ⟨Or.inr rfl, k1 (e', S', 1, hk) ((rdQ_2 z z2).trans (bnd_r hr)) I' J' F rd u⟩) (fun x hr μ' F er => ⟨Or.inl rfl, k0 x ((rdQ_2 z z2).trans (bnd_l hr)) μ' F er⟩)⟩⟩) (fun z2 => ⟨⟨by omega, by omega⟩, fun _ => ?_, fun y => absurd rfl y⟩)
  refine t.isW (i := 3) (by decide) (cs8 rfl) (fun z3 => ⟨⟨by omega, by omega⟩, fun y => absurd y (by decide), fun _ => ⟨h3R, cs8 rfl, P_X7_readKeep t r hb.2 (fun e' S' hr I' J' F rd u => ⟨Or.inr rfl, k1 (e', S', ht, 1) ((rdQ_3 z z2 z3).trans (bnd_r hr)) I' J' F rd u⟩) (fun x hr μ' F er => ⟨Or.inl rfl, k0 x ((rdQ_3 z z2 z3).trans (bnd_l hr)) μ' F er⟩)⟩⟩) (fun z3 => ⟨⟨by omega, by omega⟩, fun _ => ⟨h1T, cs8 rfl, t.fail (fun μ' f' er => ⟨Or.inl rfl, k0 _ (rdQ_n z z2 z3) μ' (f'.fr (by decide)) er⟩)⟩, fun y => absurd rfl y⟩)
theorem readFrom_lp {K : Option AV → MM → Prop} {B : List Int} : ∀ (k i e : Nat) (I J : Mi) (S : AS) (ht hk : Int), i + k = 601 → B.length < e + k → e ≤ B.length → RD (I, J) B S ht hk → I 1 4 = e → (ht = 0 ∨ ht = 1) ∧ (hk = 0 ∨ hk = 1) → (∀ S', rdX k B e S ht hk = .inr S' → ∀ I' J', FR (I, J) (I', J') → HC 48 (I', J') S' → ErC (I', J') (0, -1) → K (some (.inl 1)) (I', J')) → (∀ x, rdX k B e S ht hk = .inl x → ∀ μ', FR (I, J) μ' → ErC μ' x → K (some (.inl 0)) μ') → B_X7_readFrom_20 K [some (.inr (.inr 3)), some (.inr (.inr 1)), some (.inr (.inr 48)), some (.inl (i : Int))] [] (I, J) := by
  intro k
  induction k with
  | zero => intro i e I J S ht hk hi hl he; omega
  | succ k ih =>
    intro i e I J S ht hk hi hl he r u hb k1 k0
    have hB := r.1.2.2.2
    refine lfp_in ⟨⟨by omega, by omega⟩, ⟨by omega, by omega⟩, fun z => absurd z (by show ¬ (600 : Int) < (i : Int); omega), fun _ => ⟨h1T, cs8 rfl, C_adv r.1 u he (fun I' J' F t => ⟨h1T, ?_⟩)⟩⟩
    have e5 : I' 1 5 = (ckd (tkK (sc B e)) : Int) := t.2.2.2.2.1
    have c1 := ckd_lt (n := 0) (k := tkK (sc B e)) (by decide)
    have cr : ckd (tkK (sc B e)) ≤ 5 := by
      have hk := (sc_facts hB he).2.2.2.1
      unfold ckd; split <;> omega
    have r' := r.f1 F (by decide)
    show o_if_ne _ _ _ [.inl (I' 1 5)] (I', J')
    rw [e5]
    refine ⟨⟨by omega, by omega⟩, fun q => ?_, fun q => ?_⟩
    · have kn : ¬ tkK (sc B e) = 0 := fun z => q (by rw [c1.mpr z]; rfl)
      have E0 : rdX (k + 1) B e S ht hk = bnd (rdQ B e S ht hk) (fun r => rdX k B r.1 r.2.1 r.2.2.1 r.2.2.2) := if_neg kn
      refine ⟨h3R, cs8 rfl, P_X7_readStatement t r' hb (fun q hq I2 J2 F2 r2 u2 => ⟨⟨by omega, by omega⟩, fun _ => ?_, fun z => absurd z (by decide)⟩) (fun x hq μ' F2 er => ⟨⟨by omega, by omega⟩, fun z => absurd rfl z, fun _ => ⟨Or.inl rfl, k0 x (E0.trans (bnd_l hq)) μ' ((F.fr (by decide)).trans F2) er⟩⟩)⟩
      obtain ⟨a, b, c, d⟩ := rdQ_F hB he r.2.2.1 hb hq
      have FF : FR (I, J) (I2, J2) := (F.fr (by decide)).trans F2
      exact ih (i + 1) q.1 I2 J2 q.2.1 q.2.2.1 q.2.2.2 (by omega) (by omega) c r2 u2 d (fun S' hr I3 J3 F3 => k1 S' (E0.trans ((bnd_r hq).trans hr)) I3 J3 (FF.trans F3)) (fun x hr μ' F3 => k0 x (E0.trans ((bnd_r hq).trans hr)) μ' (FF.trans F3))
    · have kn : tkK (sc B e) = 0 := c1.mp (by omega)
      exact ⟨Or.inr rfl, k1 S (if_pos kn) I' J' (F.fr (by decide)) r'.2.1 r'.2.2.2.1⟩
theorem P_X7_readFrom {I J : Mi} {K : Option AV → MM → Prop} {B : List Int} (h : TBc (I, J) B) (k1 : ∀ S', rdX 601 B 0 emS 0 0 = .inr S' → ∀ I' J', FR (I, J) (I', J') → HC 48 (I', J') S' → ErC (I', J') (0, -1) → K (some (.inl 1)) (I', J')) (k0 : ∀ x, rdX 601 B 0 emS 0 0 = .inl x → ∀ μ', FR (I, J) μ' → ErC μ' x → K (some (.inl 0)) μ') : w_X7_readFrom [.inr (.inr 3), .inr (.inr 1), .inr (.inr 48)] (I, J) K := by
  have hl := h.2.1
  refine ⟨cs8 rfl, h3R, Or.inl rfl, h3R, Or.inl rfl, sw_s sw48, cs8 rfl, P_X6_clear (fun I1 J1 H1 F1a => ⟨h1T, cs8 rfl, P_X8_begin (fun μ2 F2 u2 er => ?_)⟩)⟩
  have A : ∀ a, (a < 48 ∨ 48 + 37 ≤ a) → I1 a = uM (uM I 3 0 0) 3 1 0 a ∧ J1 a = J a := F1a
  have FF : FR (I, J) (I1, J1) := (FR.put3.trans FR.put3).trans (FK.fr F1a)
  have tb : TBc (I1, J1) B := ⟨FF.2.1.trans h.1, h.2.1, h.2.2.1.eq (FF.1 2 (by decide) (by decide) (by omega)), h.2.2.2⟩
  have r : RD μ2 B emS 0 0 := ⟨tb.f1 F2 (by decide), HC_fr H1 (fun a x y => ⟨F2.1 a (by omega), F2.2.2 a (by omega)⟩), emS_F, er, by rw [F2.1 3 (by decide)]; show I1 3 0 = 0; rw [(A 3 (by omega)).1, uM_k (by decide), uM_s], by rw [F2.1 3 (by decide)]; show I1 3 1 = 0; rw [(A 3 (by omega)).1, uM_s]⟩
  have FF2 : FR (I, J) μ2 := FF.trans (F2.fr (by decide))
  exact readFrom_lp 601 0 0 μ2.1 μ2.2 emS 0 0 rfl (by omega) (Nat.zero_le _) r u2 ⟨Or.inl rfl, Or.inl rfl⟩ (fun S' hr I' J' F => k1 S' hr I' J' (FF2.trans F)) (fun x hr μ' F => k0 x hr μ' (FF2.trans F))
