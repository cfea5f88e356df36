/-! PURE 82: the model reads commands -/
def tlA (K : Option AV → MM → Prop) : PT := o_aload 0 (o_callV 0 10 w_X10_isDoing (o_if_eq (o_kil [0, 1, 2] (B_X10_readsArrive_47 K)) (o_aload 0 (o_iload 2 (o_callS 1 w_X10_isCells (o_if_eq (o_kil [0, 1, 2] (B_X10_readsArrive_43 K)) (o_aload 0 (o_iload 1 (o_iload 2 (o_callV 2 10 w_X10_arrives (o_ci (-1) (o_icmp_eq (o_kil [0, 1, 2] (B_X10_readsArrive_43 K)) (o_ci 1 (o_kil [0, 1, 2] (B_X10_readsArrive_44 K)))))))))))))))
def tlB (K : Option AV → MM → Prop) : PT := o_aload 0 (o_callV 0 10 w_X10_isDoing (o_if_ne (o_iload 3 (o_callS 1 w_X10_isCells (o_if_eq (o_kil [4, 5] (B_X10_readsBack_48 K)) (o_aload 0 (o_iload 1 (o_iload 2 (o_iload 3 (o_callV 3 10 w_X10_canGive (o_if_eq (o_kil [4, 5] (B_X10_readsBack_48 K)) (o_ci 1 (o_kil [4, 5] (B_X10_readsBack_49 K)))))))))))) (o_vret K)))
def tlN (K : Option AV → MM → Prop) : PT := o_aload 0 (o_callV 0 10 w_X10_isDoing (o_if_ne (o_iload 1 (o_if_eq (o_iload 2 (o_if_eq (o_iload 3 (o_if_eq (o_aload 0 (o_iload 4 (o_callS 1 w_X10_isKeep (o_if_eq (o_kil [0, 1, 2, 3, 4] (B_X10_readsNumber_179 K)) (o_aload 0 (o_ci 2 (o_iload 4 (o_callV 2 10 w_X10_sets (o_ci (-1) (o_icmp_eq (o_kil [0, 1, 2, 3, 4] (B_X10_readsNumber_179 K)) (o_ci 1 (o_kil [0, 1, 2, 3, 4] (B_X10_readsNumber_180 K))))))))))))) (o_aload 0 (o_iload 4 (o_callS 1 w_X10_isTicks (o_if_eq (o_kil [0, 1, 2, 3, 4] (B_X10_readsNumber_148 K)) (o_aload 0 (o_ci 1 (o_iload 4 (o_callV 2 10 w_X10_sets (o_ci (-1) (o_icmp_eq (o_kil [0, 1, 2, 3, 4] (B_X10_readsNumber_148 K)) (o_ci 1 (o_kil [0, 1, 2, 3, 4] (B_X10_readsNumber_149 K))))))))))))))) (o_aload 0 (o_aload 0 (o_iload 4 (o_callV 1 10 w_X10_isPromise (o_if_eq (o_kil [0, 1, 2, 3, 4] (B_X10_readsNumber_113 K)) (o_aload 0 (o_iload 4 (o_callV 1 10 w_X10_canExtend (o_if_eq (o_kil [0, 1, 2, 3, 4] (B_X10_readsNumber_113 K)) (o_aload 0 (o_iload 4 (o_callV 1 10 w_X10_extends1 (o_ci (-1) (o_icmp_eq (o_kil [0, 1, 2, 3, 4] (B_X10_readsNumber_113 K)) (o_ci 1 (o_kil [0, 1, 2, 3, 4] (B_X10_readsNumber_114 K))))))))))))))))))) (o_aload 0 (o_iload 4 (o_callS 1 w_X10_isTicks (o_if_eq (o_kil [0, 1, 2, 3, 4] (B_X10_readsNumber_69 K)) (o_aload 0 (o_iload 4 (o_callV 1 10 w_X10_ticksAll (o_ci (-1) (o_icmp_eq (o_kil [0, 1, 2, 3, 4] (B_X10_readsNumber_69 K)) (o_ci 1 (o_kil [0, 1, 2, 3, 4] (B_X10_readsNumber_70 K)))))))))))))) (o_vret K)))
theorem isw_u {t : Tk} {i j : Nat} (hi : i < 9) (hj : j < 9) (h : isw t i) (h' : isw t j) : i = j := by
  have e : wd i = wd j := h.2.symm.trans h'.2
  have key : ∀ i < 9, ∀ j < 9, wd i = wd j → i = j := by decide
  exact key i hi j hj e
theorem vrb_iff (t : Tk) : (isw t 4 ↔ vrb t = 0) ∧ (isw t 5 ↔ vrb t = 1) ∧ (isw t 6 ↔ vrb t = 2) ∧ (isw t 7 ↔ vrb t = 3) ∧ (isw t 2 ↔ vrb t = 4) ∧ (isw t 3 ↔ vrb t = 5) ∧ (isw t 8 ↔ vrb t = 6) := by
  have U : ∀ {i j : Nat}, i < 9 → j < 9 → i ≠ j → isw t i → ¬ isw t j := fun hi hj hne h h' => hne (isw_u hi hj h h')
  by_cases h4 : isw t 4
  · have e : vrb t = 0 := if_pos h4
    rw [e]
    exact ⟨⟨fun _ => rfl, fun _ => h4⟩, ⟨fun z => absurd z (U (by decide) (by decide) (by decide) h4), fun z => absurd z (by decide)⟩, ⟨fun z => absurd z (U (by decide) (by decide) (by decide) h4), fun z => absurd z (by decide)⟩, ⟨fun z => absurd z (U (by decide) (by decide) (by decide) h4), fun z => absurd z (by decide)⟩, ⟨fun z => absurd z (U (by decide) (by decide) (by decide) h4), fun z => absurd z (by decide)⟩, ⟨fun z => absurd z (U (by decide) (by decide) (by decide) h4), fun z => absurd z (by decide)⟩, ⟨fun z => absurd z (U (by decide) (by decide) (by decide) h4), fun z => absurd z (by decide)⟩⟩
  by_cases h5 : isw t 5
  · have e : vrb t = 1 := (if_neg h4).trans (if_pos h5)
    rw [e]
    exact ⟨⟨fun z => absurd z h4, fun z => absurd z (by decide)⟩, ⟨fun _ => rfl, fun _ => h5⟩, ⟨fun z => absurd z (U (by decide) (by decide) (by decide) h5), fun z => absurd z (by decide)⟩, ⟨fun z => absurd z (U (by decide) (by decide) (by decide) h5), fun z => absurd z (by decide)⟩, ⟨fun z => absurd z (U (by decide) (by decide) (by decide) h5), fun z => absurd z (by decide)⟩, ⟨fun z => absurd z (U (by decide) (by decide) (by decide) h5), fun z => absurd z (by decide)⟩, ⟨fun z => absurd z (U (by decide) (by decide) (by decide) h5), fun z => absurd z (by decide)⟩⟩
  by_cases h6 : isw t 6
  · have e : vrb t = 2 := (if_neg h4).trans ((if_neg h5).trans (if_pos h6))
    rw [e]
    exact ⟨⟨fun z => absurd z h4, fun z => absurd z (by decide)⟩, ⟨fun z => absurd z h5, fun z => absurd z (by decide)⟩, ⟨fun _ => rfl, fun _ => h6⟩, ⟨fun z => absurd z (U (by decide) (by decide) (by decide) h6), fun z => absurd z (by decide)⟩, ⟨fun z => absurd z (U (by decide) (by decide) (by decide) h6), fun z => absurd z (by decide)⟩, ⟨fun z => absurd z (U (by decide) (by decide) (by decide) h6), fun z => absurd z (by decide)⟩, ⟨fun z => absurd z (U (by decide) (by decide) (by decide) h6), fun z => absurd z (by decide)⟩⟩
  by_cases h7 : isw t 7
  · have e : vrb t = 3 := (if_neg h4).trans ((if_neg h5).trans ((if_neg h6).trans (if_pos h7)))
    rw [e]
    exact ⟨⟨fun z => absurd z h4, fun z => absurd z (by decide)⟩, ⟨fun z => absurd z h5, fun z => absurd z (by decide)⟩, ⟨fun z => absurd z h6, fun z => absurd z (by decide)⟩, ⟨fun _ => rfl, fun _ => h7⟩, ⟨fun z => absurd z (U (by decide) (by decide) (by decide) h7), fun z => absurd z (by decide)⟩, ⟨fun z => absurd z (U (by decide) (by decide) (by decide) h7), fun z => absurd z (by decide)⟩, ⟨fun z => absurd z (U (by decide) (by decide) (by decide) h7), fun z => absurd z (by decide)⟩⟩
  by_cases h2 : isw t 2
  · have e : vrb t = 4 := (if_neg h4).trans ((if_neg h5).trans ((if_neg h6).trans ((if_neg h7).trans (if_pos h2))))
    rw [e]
    exact ⟨⟨fun z => absurd z h4, fun z => absurd z (by decide)⟩, ⟨fun z => absurd z h5, fun z => absurd z (by decide)⟩, ⟨fun z => absurd z h6, fun z => absurd z (by decide)⟩, ⟨fun z => absurd z h7, fun z => absurd z (by decide)⟩, ⟨fun _ => rfl, fun _ => h2⟩, ⟨fun z => absurd z (U (by decide) (by decide) (by decide) h2), fun z => absurd z (by decide)⟩, ⟨fun z => absurd z (U (by decide) (by decide) (by decide) h2), fun z => absurd z (by decide)⟩⟩
  by_cases h3 : isw t 3
  · have e : vrb t = 5 := (if_neg h4).trans ((if_neg h5).trans ((if_neg h6).trans ((if_neg h7).trans ((if_neg h2).trans (if_pos h3)))))
    rw [e]
    exact ⟨⟨fun z => absurd z h4, fun z => absurd z (by decide)⟩, ⟨fun z => absurd z h5, fun z => absurd z (by decide)⟩, ⟨fun z => absurd z h6, fun z => absurd z (by decide)⟩, ⟨fun z => absurd z h7, fun z => absurd z (by decide)⟩, ⟨fun z => absurd z h2, fun z => absurd z (by decide)⟩, ⟨fun _ => rfl, fun _ => h3⟩, ⟨fun z => absurd z (U (by decide) (by decide) (by decide) h3), fun z => absurd z (by decide)⟩⟩
  by_cases h8 : isw t 8
  · have e : vrb t = 6 := (if_neg h4).trans ((if_neg h5).trans ((if_neg h6).trans ((if_neg h7).trans ((if_neg h2).trans ((if_neg h3).trans (if_pos h8))))))
    rw [e]
    exact ⟨⟨fun z => absurd z h4, fun z => absurd z (by decide)⟩, ⟨fun z => absurd z h5, fun z => absurd z (by decide)⟩, ⟨fun z => absurd z h6, fun z => absurd z (by decide)⟩, ⟨fun z => absurd z h7, fun z => absurd z (by decide)⟩, ⟨fun z => absurd z h2, fun z => absurd z (by decide)⟩, ⟨fun z => absurd z h3, fun z => absurd z (by decide)⟩, ⟨fun _ => rfl, fun _ => h8⟩⟩
  · have e : vrb t = -1 := (if_neg h4).trans ((if_neg h5).trans ((if_neg h6).trans ((if_neg h7).trans ((if_neg h2).trans ((if_neg h3).trans (if_neg h8))))))
    rw [e]
    exact ⟨⟨fun z => absurd z h4, fun z => absurd z (by decide)⟩, ⟨fun z => absurd z h5, fun z => absurd z (by decide)⟩, ⟨fun z => absurd z h6, fun z => absurd z (by decide)⟩, ⟨fun z => absurd z h7, fun z => absurd z (by decide)⟩, ⟨fun z => absurd z h2, fun z => absurd z (by decide)⟩, ⟨fun z => absurd z h3, fun z => absurd z (by decide)⟩, ⟨fun z => absurd z h8, fun z => absurd z (by decide)⟩⟩
section
variable {I J : Mi} {K : Option AV → MM → Prop} {B : List Int} {e : Nat} {x : Er}
theorem isDoing_n {μ : MM} {K : Option AV → MM → Prop} (er : ErM μ x) (hx : R32 x.1) (h16 : μ.1 348 16 = 0 ∨ μ.1 348 16 = 1) (h : μ.1 348 16 = 0 ∨ x.1 ≠ 0) (hK : K (some (.inl 0)) μ) : w_X10_isDoing [.inr (.inr 348)] μ K := by
  refine ⟨cs8 rfl, hM, b01 h16, fun _ => ⟨Or.inl rfl, hK⟩, fun q => ⟨hM, cs8 rfl, P_X10_isGood er hx (fun y => absurd y (h.resolve_left q)) (fun _ => ⟨R32_0, fun _ => ⟨Or.inl rfl, hK⟩, fun z => absurd rfl z⟩)⟩⟩
theorem isDoing_y {μ : MM} {K : Option AV → MM → Prop} {p : Int} (er : ErM μ (0, p)) (h16 : μ.1 348 16 = 1) (h17 : μ.1 348 17 = 0) (hK : K (some (.inl 1)) μ) : w_X10_isDoing [.inr (.inr 348)] μ K := by
  refine ⟨cs8 rfl, hM, b01 (Or.inr h16), fun q => absurd (h16.symm.trans q) (by decide), fun _ => ⟨hM, cs8 rfl, P_X10_isGood er R32_0 (fun _ => ⟨R32_1, fun z => absurd z (by decide), fun _ => ⟨hM, b01 (Or.inl h17), fun z => absurd h17 z, fun _ => ⟨Or.inr rfl, hK⟩⟩⟩) (fun z => absurd rfl z)⟩⟩
theorem readsName_b (t : TM (I, J) B e) (er : ErM (I, J) x) (hx : R32 x.1) (hb : x.1 ≠ 0) (hK : ∀ I' J', F9 [6, 7, 8, 9] (I, J) (I', J') → TM (I', J') B (tkE (sc B e)) → K (some (.inl 0)) (I', J')) : w_X10_readsName [.inr (.inr 348)] (I, J) K := by
  have fin : ∀ v : Int, B_X10_readsName_14 (fun v μ' => K v μ') [some (.inr (.inr 348)), none] [.inl v, .inr (.inr 348)] (I, J) := fun v => ⟨hM, cs8 rfl, must_b er hx hb ⟨hM, cs8 rfl, P_X10_isGood er hx (fun y => absurd y hb) (fun _ => ⟨R32_0, fun _ => c_ci (c_kil rfl (st_i (L' := [some (.inr (.inr 348)), some (.inl 0)]) rfl ⟨R32_0, ⟨by decide, by decide⟩, fun z => absurd z (by decide), fun _ => ⟨hM, cs8 rfl, must_b er hx hb ⟨hM, cs8 rfl, M_scan t (fun I' J' f t' => ⟨hM, cs8 rfl, P_X10_isGood (er.f9 f (by decide) (by decide)) hx (fun y => absurd y hb) (fun _ => ⟨R32_0, fun _ => hK I' J' f t', fun z => absurd rfl z⟩)⟩)⟩⟩⟩)), fun z => absurd rfl z⟩)⟩⟩
  exact ⟨cs8 rfl, hM, t.kr, R32_1, fun _ => fin 0, fun _ => fin 1⟩
theorem P_X10_readsName {S : AS} {G : List (Nat × Pkt)} {p : Int} (t : TM (I, J) B e) (er : ErM (I, J) (0, p)) (g : HG 0 (I, J) S G) (hn : NM S) (k1 : ∀ y e', nam B S e = .inr (y, e') → ∀ I' J', F9 [6, 7, 8, 9] (I, J) (I', J') → TM (I', J') B e' → K (some (.inl y)) (I', J')) (k0 : ∀ x, nam B S e = .inl x → ∀ I' J', F9 [6, 7, 8, 9, 10, 11] (I, J) (I', J') → TM (I', J') B (tkE (sc B e)) → ErM (I', J') x → R32 x.1 → x.1 ≠ 0 → K (some (.inl 0)) (I', J')) : w_X10_readsName [.inr (.inr 348)] (I, J) K := by
  have e8 : I 348 8 = (tkK (sc B e) : Int) := t.2.2.2.2.1
  have kr := (sc_facts t.1.2.2.2.1 t.2.1).2.2.2.1
  refine ⟨cs8 rfl, hM, ?_⟩
  show o_ci 1 _ _ [.inl (I 348 8), .inr (.inr 348)] (I, J)
  rw [e8]
  refine ⟨⟨by omega, by omega⟩, R32_1, fun q => ⟨hM, cs8 rfl, must_n er t (fun _ => rfl) (fun I1 f1 t1 e1 => ⟨hM, cs8 rfl, P_X10_isGood e1 R32_1 (fun y => absurd y (show (1 : Int) ≠ 0 by decide)) (fun _ => ⟨R32_0, fun _ => c_ci (c_kil rfl (st_i (L' := [some (.inr (.inr 348)), some (.inl 0)]) rfl ⟨R32_0, ⟨by decide, by decide⟩, fun z => absurd z (by decide), fun _ => ⟨hM, cs8 rfl, must_b e1 R32_1 (show (1 : Int) ≠ 0 by decide) ⟨hM, cs8 rfl, M_scan t1 (fun I' J' f t' => ⟨hM, cs8 rfl, P_X10_isGood (e1.f9 f (by decide) (by decide)) R32_1 (fun y => absurd y (show (1 : Int) ≠ 0 by decide)) (fun _ => ⟨R32_0, fun _ => ?_, fun z => absurd rfl z⟩)⟩)⟩⟩⟩)), fun z => absurd rfl z⟩)⟩)⟩, fun q => ⟨hM, cs8 rfl, must_g er ⟨hM, cs8 rfl, P_X10_isGood er R32_0 (fun _ => ⟨R32_1, fun z => absurd z (by decide), fun _ => ?_⟩) (fun z => absurd rfl z)⟩⟩⟩
  · exact k0 _ (if_neg (fun z => q (by rw [z]; rfl))) I' J' ((f1.mono (by decide)).trans (f.mono (by decide))) t' (e1.f9 f (by decide) (by decide)) R32_1 (show (1 : Int) ≠ 0 by decide)
  have k1' : tkK (sc B e) = 1 := by omega
  have hw := sc_W t.1.2.2.2.1 t.2.1 k1'
  have h12 : J 348 12 = pk5 (tkW (sc B e)) := t.2.2.2.2.2.1 k1'
  have nr := nmd_R g.2.2.1.n6 (tkW (sc B e))
  refine ⟨hM, cs8 rfl, P_X10_named g hn hw h12 (c_kil rfl (st_i (L' := [some (.inr (.inr 348)), some (.inl (nmd S (tkW (sc B e))))]) rfl ⟨nr, ⟨by decide, by decide⟩, fun q2 => ⟨hM, cs8 rfl, must_n er t (fun z => absurd (k1'.symm.trans z) (by decide)) (fun I1 f1 t1 e1 => ⟨hM, cs8 rfl, M_scan t1 (fun I' J' f t' => ⟨hM, cs8 rfl, P_X10_isGood (e1.f9 f (by decide) (by decide)) R32_5 (fun y => absurd y (show (5 : Int) ≠ 0 by decide)) (fun _ => ⟨R32_0, fun _ => ?_, fun z => absurd rfl z⟩)⟩)⟩)⟩, fun q2 => ⟨hM, cs8 rfl, must_g er ⟨hM, cs8 rfl, M_scan t (fun I' J' f t' => ⟨hM, cs8 rfl, P_X10_isGood (er.f9 f (by decide) (by decide)) R32_0 (fun _ => ⟨R32_1, fun z => absurd z (by decide), fun _ => ?_⟩) (fun z => absurd rfl z)⟩)⟩⟩⟩))⟩
  · exact k0 _ ((if_pos k1').trans (if_pos q2)) I' J' ((f1.mono (by decide)).trans (f.mono (by decide))) t' (e1.f9 f (by decide) (by decide)) R32_5 (show (5 : Int) ≠ 0 by decide)
  · exact k1 _ _ ((if_pos k1').trans (if_neg q2)) I' J' f t'
theorem readsAny_b (t : TM (I, J) B e) (er : ErM (I, J) x) (hx : R32 x.1) (hb : x.1 ≠ 0) (hK : ∀ I' J', F9 [6, 7, 8, 9] (I, J) (I', J') → TM (I', J') B (tkE (sc B e)) → K (some (.inl 0)) (I', J')) : w_X10_readsAny [.inr (.inr 348)] (I, J) K := ⟨cs8 rfl, hM, cs8 rfl, reads_b t er hx hb R32_0 ⟨by decide, by decide⟩ hK⟩
theorem P_X10_readsAny {p : Int} (t : TM (I, J) B e) (er : ErM (I, J) (0, p)) (k1 : ∀ v e', num B e 0 9999 = .inr (v, e') → ∀ I' J', F9 [6, 7, 8, 9] (I, J) (I', J') → TM (I', J') B e' → K (some (.inl v)) (I', J')) (k0 : ∀ x, num B e 0 9999 = .inl x → ∀ I' J', F9 [6, 7, 8, 9, 10, 11] (I, J) (I', J') → TM (I', J') B (tkE (sc B e)) → ErM (I', J') x → x.1 ≠ 0 → R32 x.1 → K (some (.inl 0)) (I', J')) : w_X10_readsAny [.inr (.inr 348)] (I, J) K := ⟨cs8 rfl, hM, cs8 rfl, reads_g t er R32_0 ⟨by decide, by decide⟩ k1 k0⟩
end
