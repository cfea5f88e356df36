/-! PURE 72: the model reads statements, further -/
theorem MD.put {I J : Mi} {S S' : AS} {ht hk v : Int} {a : Nat} (h : MD (I, J) S ht hk) (ha : a = 1 ∨ a = 2) (hS : S' = if a = 1 then stG S v (zK S) (zC S) (zA S) else stG S (zT S) v (zC S) (zA S)) (hF : Fsh S') : MD (uM I 349 (4160 + a) v, J) S' ht hk := by
  obtain ⟨g, hf, hz, e13, e14⟩ := h
  obtain ⟨gh1, gh2, gh3, m1, m2, m3, m4, m5, m6, m7, m8⟩ := g
  have m1 : ∀ j, j < 12 → I 349 (2080 * 2 + j) = hdm S 0 j := m1
  have m2 : ∀ q, q < zN S → ∀ j, j < 8 → j ≠ 5 → I 349 (2080 * 2 + 12 + 8 * q + j) = zP S q j := m2
  have kk : ∀ k, k ≠ 4160 + a → uM I 349 (4160 + a) v 349 k = I 349 k := fun k hk => uM_k hk
  have e348 : ∀ j, uM I 349 (4160 + a) v 348 j = I 348 j := fun j => uM_e (by decide)
  have sN : zN S' = zN S := by rw [hS]; split <;> rfl
  have sP : zP S' = zP S := by rw [hS]; split <;> rfl
  have sM : zM S' = zM S := by rw [hS]; split <;> rfl
  have sQ : zQ S' = zQ S := by rw [hS]; split <;> rfl
  have sR : zR S' = zR S := by rw [hS]; split <;> rfl
  have sD : zD S' = zD S := by rw [hS]; split <;> rfl
  refine ⟨⟨(e348 3).trans gh1, gh2, hF.gd.1, (show MR 2 (uM I 349 (4160 + a) v) J S' [] from ⟨fun j hj => ?_, fun q hq j hj hj5 => ?_, fun q hq => ?_, fun i r hr => by simp at hr, fun i r hr => ?_, fun i d _ hd => ?_, fun g hg => absurd hg List.not_mem_nil, fun q hq => ?_⟩)⟩, hF, fun q j hq hq6 hj => ?_, (e348 13).trans e13, (e348 14).trans e14⟩
  · by_cases z : j = a
    · subst z
      rw [show 2080 * 2 + j = 4160 + j by omega, uM_s, hS]
      rcases ha with rfl | rfl
      · rfl
      · rfl
    · rw [kk _ (by omega), m1 j hj, hS]
      rcases ha with rfl | rfl
      · rcases j12 hj with rfl | rfl | rfl | rfl | rfl | rfl | rfl | rfl | rfl | rfl | rfl | rfl <;> first | rfl | exact absurd rfl z
      · rcases j12 hj with rfl | rfl | rfl | rfl | rfl | rfl | rfl | rfl | rfl | rfl | rfl | rfl <;> first | rfl | exact absurd rfl z
  · rw [kk _ (by omega), sP]; exact m2 q (by rw [← sN]; exact hq) j hj hj5
  · rw [sM]; exact m3 q (by rw [← sN]; exact hq)
  · rw [sR, hf.2.2.2.2.2.2.2.1] at hr; simp at hr
  · rw [sD, hf.2.2.2.2.2.2.2.2.1] at hd; simp at hd
  · rw [sQ, hf.2.2.2.2.2.2.1]; rfl
  · show uM I 349 (4160 + a) v 349 (4160 + 12 + 8 * q + j) = 0
    rw [kk _ (by omega)]
    exact hz q j (by rw [← sN]; exact hq) hq6 hj
theorem MD.flag {I J : Mi} {S : AS} {ht hk v : Int} (h : MD (I, J) S ht hk) : MD (uM I 348 13 v, J) S v hk ∧ MD (uM I 348 14 v, J) S ht v := by
  obtain ⟨g, hf, hz, e13, e14⟩ := h
  have e9 : ∀ k, uM I 348 k v 349 = I 349 := fun k => uM_r (by decide)
  have k3 : ∀ j, j ≠ 13 → uM I 348 13 v 348 j = I 348 j := fun j hj => uM_k hj
  have k4 : ∀ j, j ≠ 14 → uM I 348 14 v 348 j = I 348 j := fun j hj => uM_k hj
  exact ⟨⟨g.cong (k3 3 (by decide)) (e9 13) rfl, hf, fun q j x y z => by show uM I 348 13 v 349 _ = 0; rw [e9]; exact hz q j x y z, pS, (k3 14 (by decide)).trans e14⟩, ⟨g.cong (k4 3 (by decide)) (e9 14) rfl, hf, fun q j x y z => by show uM I 348 14 v 349 _ = 0; rw [e9]; exact hz q j x y z, (k4 13 (by decide)).trans e13, pS⟩⟩
theorem TM.put {I J : Mi} {B : List Int} {e k : Nat} {v : Int} (h : TM (I, J) B e) (hk : 10 ≤ k) : TM (uM I 348 k v, J) B e := h.eq (fun j _ _ => uM_k (by omega)) (uM_r (I := I) (e := 348) (k := k) (v := v) (e' := 351) (by decide)) rfl
theorem TM.put9 {I J : Mi} {B : List Int} {e k : Nat} {v : Int} (h : TM (I, J) B e) : TM (uM I 349 k v, J) B e := h.eq (fun j _ _ => uM_e (I := I) (e := 349) (k := k) (v := v) (e' := 348) (k' := j) (by decide)) (uM_r (I := I) (e := 349) (k := k) (v := v) (e' := 351) (by decide)) rfl
theorem ErM.put {I J : Mi} {x : Er} {k : Nat} {v : Int} (h : ErM (I, J) x) (hk : 12 ≤ k) : ErM (uM I 348 k v, J) x := ⟨(uM_k (by omega)).trans h.1, (uM_k (by omega)).trans h.2⟩
theorem ErM.put9 {I J : Mi} {x : Er} {k : Nat} {v : Int} (h : ErM (I, J) x) : ErM (uM I 349 k v, J) x := ⟨(uM_e (I := I) (e := 349) (k := k) (v := v) (e' := 348) (k' := 10) (by decide)).trans h.1, (uM_e (I := I) (e := 349) (k := k) (v := v) (e' := 348) (k' := 11) (by decide)).trans h.2⟩
/-- scans; set(a, reads(lo, hi)); of the statements term and keep -/
def rs_a (a lo hi : Int) (K : PT) : PT := o_aload 0 (o_callV 0 10 w_X10_scans (o_aload 0 (o_ci a (o_aload 0 (o_ci lo (o_ci hi (o_callV 2 10 w_X10_reads (o_callV 2 10 w_X10_set (o_kil [0] K)))))))))
theorem rs_a_b {I J : Mi} {K : PT} {B : List Int} {e a : Nat} {x : Er} {lo hi : Int} (t : TM (I, J) B e) (er : ErM (I, J) x) (hx : R32 x.1) (hb : x.1 ≠ 0) (h3 : I 348 3 = (4160 : Nat)) (ha : a = 1 ∨ a = 2) (hlo : R32 lo) (hhi : R32 hi) (hK : ∀ I' J' e', F2M (I, J) (I', J') → TM (I', J') B e' → ErM (I', J') x → K [none] [] (I', J')) : rs_a a lo hi K [some (.inr (.inr 348))] [] (I, J) := by
  have n9 : ∀ k ∈ [6, 7, 8, 9], 6 ≤ k ∧ k < 15 := by decide
  refine ⟨hM, cs8 rfl, M_scan t (fun I1 J1 f1 t1 => ?_)⟩
  have er1 := er.f9 f1 (by decide) (by decide)
  refine ⟨hM, cs8 rfl, reads_b t1 er1 hx hb hlo hhi (fun I2 J2 f2 t2 => ?_)⟩
  have o3 : I2 348 3 = ((4160 : Nat) : Int) := (f2.2.1 3 (by decide)).trans ((f1.2.1 3 (by decide)).trans h3)
  exact ⟨hM, cs8 rfl, Q_set (o := 4160) a o3 rfl (by omega) (hK _ _ _ ((f1.f2 n9).trans ((f2.f2 n9).trans (F2M.put (by omega)))) t2.put9 (er1.f9 f2 (by decide) (by decide)).put9)⟩
theorem rs_a_g {I J : Mi} {K : PT} {B : List Int} {e a : Nat} {p lo hi : Int} (t : TM (I, J) B e) (er : ErM (I, J) (0, p)) (h3 : I 348 3 = (4160 : Nat)) (ha : a = 1 ∨ a = 2) (hlo : R32 lo) (hhi : R32 hi) (k1 : ∀ v e', num B (tkE (sc B e)) lo hi = .inr (v, e') → ∀ I' J', F9 [6, 7, 8, 9] (I, J) (I', J') → TM (uM I' 349 (4160 + a) v, J') B e' → ErM (uM I' 349 (4160 + a) v, J') (0, p) → F2M (I, J) (uM I' 349 (4160 + a) v, J') → K [none] [] (uM I' 349 (4160 + a) v, J')) (k0 : ∀ x, num B (tkE (sc B e)) lo hi = .inl x → ∀ I' J' e', F2M (I, J) (I', J') → TM (I', J') B e' → ErM (I', J') x → R32 x.1 → x.1 ≠ 0 → K [none] [] (I', J')) : rs_a a lo hi K [some (.inr (.inr 348))] [] (I, J) := by
  have n9 : ∀ k ∈ [6, 7, 8, 9], 6 ≤ k ∧ k < 15 := by decide
  have n11 : ∀ k ∈ [6, 7, 8, 9, 10, 11], 6 ≤ k ∧ k < 15 := by decide
  refine ⟨hM, cs8 rfl, M_scan t (fun I1 J1 f1 t1 => ?_)⟩
  have er1 := er.f9 f1 (by decide) (by decide)
  refine ⟨hM, cs8 rfl, reads_g t1 er1 hlo hhi (fun v e2 hx I2 J2 f2 t2 => ?_) (fun x hx I2 J2 f2 t2 er2 hb hr => ?_)⟩
  · have o3 : I2 348 3 = ((4160 : Nat) : Int) := (f2.2.1 3 (by decide)).trans ((f1.2.1 3 (by decide)).trans h3)
    exact ⟨hM, cs8 rfl, Q_set (o := 4160) a o3 rfl (by omega) (k1 v e2 hx I2 J2 (f1.trans f2) t2.put9 (er1.f9 f2 (by decide) (by decide)).put9 ((f1.f2 n9).trans ((f2.f2 n9).trans (F2M.put (by omega)))))⟩
  · have o3 : I2 348 3 = ((4160 : Nat) : Int) := (f2.2.1 3 (by decide)).trans ((f1.2.1 3 (by decide)).trans h3)
    exact ⟨hM, cs8 rfl, Q_set (o := 4160) a o3 rfl (by omega) (k0 x hx _ _ _ ((f1.f2 n9).trans ((f2.f2 n11).trans (F2M.put (by omega)))) t2.put9 er2.put9 hr hb)⟩
theorem F2M.flag {I J : Mi} {k : Nat} {v : Int} (hk : k = 13 ∨ k = 14) : F2M (I, J) (uM I 348 k v, J) := ⟨fun e x _ => uM_r x, fun j _ => uM_e (I := I) (e := 348) (k := k) (v := v) (e' := 349) (k' := j) (by decide), fun j hj => uM_k (by omega), fun _ _ _ => rfl, fun _ _ => rfl⟩
theorem P_X10_readsStatement {I J : Mi} {K : Option AV → MM → Prop} {B : List Int} {e0 : Nat} {S : AS} {p ht hk : Int} (t : TM (I, J) B e0) (er : ErM (I, J) (0, p)) (r : MD (I, J) S ht hk) (hb : (ht = 0 ∨ ht = 1) ∧ (hk = 0 ∨ hk = 1)) (k1 : ∀ q, rdS B e0 S ht hk = .inr q → ∀ I' J', F2M (I, J) (I', J') → TM (I', J') B q.1 → ErM (I', J') (0, p) → MD (I', J') q.2.1 q.2.2.1 q.2.2.2 → K none (I', J')) (k0 : ∀ x, rdS B e0 S ht hk = .inl x → ∀ I' J' e', F2M (I, J) (I', J') → TM (I', J') B e' → ErM (I', J') x → R32 x.1 → x.1 ≠ 0 → K none (I', J')) : w_X10_readsStatement [.inr (.inr 348)] (I, J) K := by
  have o3 : I 348 3 = ((4160 : Nat) : Int) := r.1.1
  have n1 : ∀ k ∈ [10, 11], 6 ≤ k ∧ k < 15 := by decide
  refine ⟨cs8 rfl, hM, cs8 rfl, t.isWord er R32_0 0 (by decide) rfl (fun _ z => ⟨⟨by omega, by omega⟩, fun y => absurd y (by decide), fun _ => ?_⟩) (fun z => ⟨⟨by omega, by omega⟩, fun _ => ?_, fun y => absurd rfl y⟩)⟩
  · have E0 : rdS B e0 S ht hk = bnd (rdP B e0 S) (fun r => .inr (r.1, r.2, ht, hk)) := if_pos z
    exact ⟨hM, cs8 rfl, P_X10_readsPort t er r z.1 (fun e' S' hr I' J' F t' er' r' => k1 (e', S', ht, hk) (E0.trans (bnd_r hr)) I' J' F t' er' r') (fun x hr I' J' e' F t' er' h1 h2 => k0 x (E0.trans (bnd_l hr)) I' J' e' F t' er' h1 h2)⟩
  have z : ¬ isw (sc B e0) 0 := fun y => z ⟨rfl, y⟩
  refine ⟨hM, cs8 rfl, t.isWord er R32_0 2 (by decide) rfl (fun _ z2 => ⟨⟨by omega, by omega⟩, fun y => absurd y (by decide), fun _ => ⟨hM, ?_⟩⟩) (fun z2 => ⟨⟨by omega, by omega⟩, fun _ => ?_, fun y => absurd rfl y⟩)⟩
  · have E0 : rdS B e0 S ht hk = bnd (rdT B e0 S ht) (fun r => .inr (r.1, r.2, 1, hk)) := (if_neg z).trans (if_pos z2)
    have e13 : I 348 13 = ht := r.2.2.2.1
    show o_if_ne _ _ _ [.inl (I 348 13), .inr (.inr 348)] (I, J)
    rw [e13]
    refine ⟨b01 hb.1, fun q => ⟨hM, cs8 rfl, must_n er t (fun y => absurd (z2.1.symm.trans y) (by decide)) (fun I1 f1 t1 e1 => ⟨hM, Or.inr rfl, ?_⟩)⟩, fun q => ⟨hM, cs8 rfl, must_g er ⟨hM, Or.inr rfl, ?_⟩⟩⟩
    · have q : ht = 1 := hb.1.resolve_left q
      exact rs_a_b (a := 1) (t1.put (by decide)) (e1.put (by decide)) R32_3 (show (3 : Int) ≠ 0 by decide) ((uM_k (by decide)).trans ((f1.2.1 3 (by decide)).trans o3)) (Or.inl rfl) R32_1 ⟨by decide, by decide⟩ (fun I' J' e' F t' er' => k0 _ (E0.trans (bnd_l (if_pos q))) I' J' e' ((f1.f2 n1).trans ((F2M.flag (Or.inl rfl)).trans F)) t' er' R32_3 (show (3 : Int) ≠ 0 by decide))
    · have q : ht = 0 := q
      have E1 := E0.trans (congrArg (fun x => bnd x (fun r : Nat × AS => (Sum.inr (r.1, r.2, 1, hk) : Er ⊕ (Nat × AS × Int × Int)))) (if_neg (by omega) : rdT B e0 S ht = _))
      refine rs_a_g (a := 1) (t.put (by decide)) (er.put (by decide)) ((uM_k (by decide)).trans o3) (Or.inl rfl) R32_1 ⟨by decide, by decide⟩ (fun v e' hx I' J' f' t' er' F' => ?_) (fun x hx I' J' e' F t' er' h1 h2 => ?_)
      · have nr := num_r t.1.2.2.2.1 (sc_facts t.1.2.2.2.1 t.2.1).2.2.1 hx
        have m := (r.flag (v := 1)).1.f9 f' (by decide)
        have E2 : rdT B e0 S ht = .inr (e', stG S v (zK S) (zC S) (zA S)) := (if_neg (by omega)).trans (bnd_r hx)
        exact k1 (e', _, 1, hk) (E0.trans (bnd_r E2)) _ _ ((F2M.flag (Or.inl rfl)).trans F') t' er' (m.put (a := 1) (Or.inl rfl) rfl (stT_F r.2.1 ⟨nr.1, nr.2.1⟩))
      · exact k0 x (E1.trans (bnd_l (bnd_l hx))) I' J' e' ((F2M.flag (Or.inl rfl)).trans F) t' er' h1 h2
  refine ⟨hM, cs8 rfl, t.isWord er R32_0 3 (by decide) rfl (fun _ z3 => ⟨hM, cs8 rfl, must_g er ⟨hM, ?_⟩⟩) (fun z3 => ⟨hM, cs8 rfl, must_n er t (fun _ => rfl) (fun I1 f1 t1 e1 => ⟨hM, ?_⟩)⟩)⟩
  · have z2 : ¬ isw (sc B e0) 2 := fun y => z2 ⟨rfl, y⟩
    have E0 : rdS B e0 S ht hk = bnd (rdK B e0 S hk) (fun r => .inr (r.1, r.2, ht, 1)) := (if_neg z).trans ((if_neg z2).trans (if_pos z3))
    have e14 : I 348 14 = hk := r.2.2.2.2
    show o_if_ne _ _ _ [.inl (I 348 14), .inr (.inr 348)] (I, J)
    rw [e14]
    refine ⟨b01 hb.2, fun q => ⟨hM, cs8 rfl, must_n er t (fun y => absurd (z3.1.symm.trans y) (by decide)) (fun I1 f1 t1 e1 => ⟨hM, Or.inr rfl, ?_⟩)⟩, fun q => ⟨hM, cs8 rfl, must_g er ⟨hM, Or.inr rfl, ?_⟩⟩⟩
    · have q : hk = 1 := hb.2.resolve_left q
      exact rs_a_b (a := 2) (t1.put (by decide)) (e1.put (by decide)) R32_3 (show (3 : Int) ≠ 0 by decide) ((uM_k (by decide)).trans ((f1.2.1 3 (by decide)).trans o3)) (Or.inr rfl) R32_0 ⟨by decide, by decide⟩ (fun I' J' e' F t' er' => k0 _ (E0.trans (bnd_l (if_pos q))) I' J' e' ((f1.f2 n1).trans ((F2M.flag (Or.inr rfl)).trans F)) t' er' R32_3 (show (3 : Int) ≠ 0 by decide))
    · have q : hk = 0 := q
      have E1 := E0.trans (congrArg (fun x => bnd x (fun r : Nat × AS => (Sum.inr (r.1, r.2, ht, 1) : Er ⊕ (Nat × AS × Int × Int)))) (if_neg (by omega) : rdK B e0 S hk = _))
      refine rs_a_g (a := 2) (t.put (by decide)) (er.put (by decide)) ((uM_k (by decide)).trans o3) (Or.inr rfl) R32_0 ⟨by decide, by decide⟩ (fun v e' hx I' J' f' t' er' F' => ?_) (fun x hx I' J' e' F t' er' h1 h2 => ?_)
      · have nr := num_r t.1.2.2.2.1 (sc_facts t.1.2.2.2.1 t.2.1).2.2.1 hx
        have m := (r.flag (v := 1)).2.f9 f' (by decide)
        have E2 : rdK B e0 S hk = .inr (e', stG S (zT S) v (zC S) (zA S)) := (if_neg (by omega)).trans (bnd_r hx)
        exact k1 (e', _, ht, 1) (E0.trans (bnd_r E2)) _ _ ((F2M.flag (Or.inr rfl)).trans F') t' er' (m.put (a := 2) (Or.inr rfl) rfl (stK_F r.2.1 ⟨nr.1, nr.2.1⟩))
      · exact k0 x (E1.trans (bnd_l (bnd_l hx))) I' J' e' ((F2M.flag (Or.inr rfl)).trans F) t' er' h1 h2
  · have z2 : ¬ isw (sc B e0) 2 := fun y => z2 ⟨rfl, y⟩
    have z3 : ¬ isw (sc B e0) 3 := fun y => z3 ⟨rfl, y⟩
    have E0 : rdS B e0 S ht hk = .inl (1, (tkA (sc B e0) : Int)) := (if_neg z).trans ((if_neg z2).trans (if_neg z3))
    have e14 : I1 348 14 = hk := (f1.2.1 14 (by decide)).trans r.2.2.2.2
    have fin : B_X10_readsStatement_93 (fun v μ' => K v μ') [some (.inr (.inr 348))] [.inl 0, .inr (.inr 348)] (I1, J) ∧ B_X10_readsStatement_93 (fun v μ' => K v μ') [some (.inr (.inr 348))] [.inl 1, .inr (.inr 348)] (I1, J) := by
      have g : rs_a 2 0 200 (B_X10_readsStatement_119 (fun v μ' => K v μ')) [some (.inr (.inr 348))] [] (uM I1 348 14 1, J) := rs_a_b (a := 2) (t1.put (by decide)) (e1.put (by decide)) R32_1 (show (1 : Int) ≠ 0 by decide) ((uM_k (by decide)).trans ((f1.2.1 3 (by decide)).trans o3)) (Or.inr rfl) R32_0 ⟨by decide, by decide⟩ (fun I' J' e' F t' er' => k0 _ E0 I' J' e' ((f1.f2 n1).trans ((F2M.flag (Or.inr rfl)).trans F)) t' er' R32_1 (show (1 : Int) ≠ 0 by decide))
      exact ⟨⟨hM, cs8 rfl, must_b e1 R32_1 (show (1 : Int) ≠ 0 by decide) ⟨hM, Or.inr rfl, g⟩⟩, ⟨hM, cs8 rfl, must_b e1 R32_1 (show (1 : Int) ≠ 0 by decide) ⟨hM, Or.inr rfl, g⟩⟩⟩
    show o_if_ne _ _ _ [.inl (I1 348 14), .inr (.inr 348)] (I1, J)
    rw [e14]
    exact ⟨b01 hb.2, fun _ => fin.1, fun _ => fin.2⟩
