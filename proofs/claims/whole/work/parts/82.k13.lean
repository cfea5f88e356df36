/-! PURE 70: the model reads ports -/
def F2M (μ μ' : MM) : Prop := (∀ e, e ≠ 348 → e ≠ 349 → μ'.1 e = μ.1 e) ∧ (∀ k, k < 4160 ∨ 6240 ≤ k → μ'.1 349 k = μ.1 349 k) ∧ (∀ j, (j < 6 ∨ 15 ≤ j) → μ'.1 348 j = μ.1 348 j) ∧ (∀ e, e ≠ 348 → e ≠ 350 → μ'.2 e = μ.2 e) ∧ (∀ k, k < 12 ∨ 18 ≤ k → μ'.2 350 k = μ.2 350 k)
theorem F2M.refl {μ : MM} : F2M μ μ := ⟨fun _ _ _ => rfl, fun _ _ => rfl, fun _ _ => rfl, fun _ _ _ => rfl, fun _ _ => rfl⟩
theorem F2M.trans {μ μ1 μ2 : MM} (h : F2M μ μ1) (h' : F2M μ1 μ2) : F2M μ μ2 := ⟨fun a x y => (h'.1 a x y).trans (h.1 a x y), fun a x => (h'.2.1 a x).trans (h.2.1 a x), fun a x => (h'.2.2.1 a x).trans (h.2.2.1 a x), fun a x y => (h'.2.2.2.1 a x y).trans (h.2.2.2.1 a x y), fun a x => (h'.2.2.2.2 a x).trans (h.2.2.2.2 a x)⟩
theorem F9.f2 {ks : List Nat} {μ μ' : MM} (h : F9 ks μ μ') (hk : ∀ k ∈ ks, 6 ≤ k ∧ k < 15) : F2M μ μ' := ⟨fun e x _ => h.1 e x, fun k _ => by rw [h.1 349 (by decide)], fun j hj => h.2.1 j (fun z => by have := hk j z; omega), fun e x _ => h.2.2 e x, fun k _ => by rw [h.2.2 350 (by decide)]⟩
theorem F2M.put {I J : Mi} {k : Nat} {v : Int} (hk : 4160 ≤ k ∧ k < 6240) : F2M (I, J) (uM I 349 k v, J) := ⟨fun e _ y => uM_r y, fun j hj => uM_k (by omega), fun j _ => uM_e (I := I) (e := 349) (k := k) (e' := 348) (k' := j) (v := v) (by decide), fun _ _ _ => rfl, fun _ _ => rfl⟩
theorem F2M.nam {I J : Mi} {k : Nat} {v : Int} (hk : 12 ≤ k ∧ k < 18) : F2M (I, J) (I, uM J 350 k v) := ⟨fun e _ _ => rfl, fun _ _ => rfl, fun _ _ => rfl, fun e _ y => uM_r y, fun j hj => uM_k (by omega)⟩
/-- the model, reading a switch -/
def MD (μ : MM) (S : AS) (ht hk : Int) : Prop := HG 2 μ S [] ∧ Fsh S ∧ (∀ p j, zN S ≤ p → p < 6 → j < 8 → μ.1 349 (4160 + 12 + 8 * p + j) = 0) ∧ μ.1 348 13 = ht ∧ μ.1 348 14 = hk
theorem HG.cong {b : Nat} {μ μ' : MM} {S : AS} {G : List (Nat × Pkt)} (h : HG b μ S G) (h3 : μ'.1 348 3 = μ.1 348 3) (h1 : μ'.1 349 = μ.1 349) (h2 : μ'.2 350 = μ.2 350) : HG b μ' S G := ⟨h3.trans h.1, h.2.1, h.2.2.1, MR_cong h1 h2 h.2.2.2⟩
theorem MD.f9 {ks : List Nat} {μ μ' : MM} {S : AS} {ht hk : Int} (h : MD μ S ht hk) (hf : F9 ks μ μ') (hn : 3 ∉ ks ∧ 13 ∉ ks ∧ 14 ∉ ks) : MD μ' S ht hk := by
  obtain ⟨a1, a2, a3, a4, a5⟩ := h
  have e9 := hf.1 349 (by decide)
  exact ⟨a1.cong (hf.2.1 3 hn.1) e9 (hf.2.2 350 (by decide)), a2, fun p j x y z => by rw [e9]; exact a3 p j x y z, (hf.2.1 13 hn.2.1).trans a4, (hf.2.1 14 hn.2.2).trans a5⟩
def rp_c (K : Option AV → MM → Prop) : PT := o_aload 0 (o_cl 6605428 (o_callV 1 10 w_X10_isWord (o_if_eq (B_X10_readsPort_139 K) (o_aload 0 (o_callV 0 10 w_X10_scans (o_aload 0 (o_ci 0 (o_ci 40 (o_callV 2 10 w_X10_reads (o_istore 4 (B_X10_readsPort_139 K)))))))))))
def rp_b (K : Option AV → MM → Prop) : PT := o_aload 0 (o_ci 0 (o_ci 9 (o_callV 2 10 w_X10_reads (o_istore 3 (o_ci 0 (o_istore 4 (rp_c K)))))))
def rp_a (K : Option AV → MM → Prop) : PT := o_aload 0 (o_ci 0 (o_ci 40 (o_callV 2 10 w_X10_reads (o_istore 2 (rp_b K)))))
section
variable {I J : Mi} {K : Option AV → MM → Prop} {B : List Int} {e : Nat} {x : Er}
/-- where an error was found -/
theorem rp139_b {L : List (Option AV)} {μ : MM} (er : ErM μ x) (hx : R32 x.1) (hb : x.1 ≠ 0) (hK : K none μ) : B_X10_readsPort_139 K (some (.inr (.inr 348)) :: L) [] μ := ⟨hM, cs8 rfl, P_X10_isGood er hx (fun q => absurd q hb) (fun _ => ⟨⟨by omega, by omega⟩, fun q => absurd rfl q, fun _ => hK⟩)⟩
theorem rp_c_b {L : List (Option AV)} (t : TM (I, J) B e) (er : ErM (I, J) x) (hx : R32 x.1) (hb : x.1 ≠ 0) (hK : K none (I, J)) : rp_c K (some (.inr (.inr 348)) :: L) [] (I, J) := ⟨hM, cs8 rfl, t.isWord er hx 1 (by decide) rfl (fun q => absurd q hb) (fun _ => ⟨⟨by omega, by omega⟩, fun _ => rp139_b er hx hb hK, fun q => absurd rfl q⟩)⟩
theorem rp_b_b {a b c d : Option AV} (t : TM (I, J) B e) (er : ErM (I, J) x) (hx : R32 x.1) (hb : x.1 ≠ 0) (hK : ∀ I' J' e', F9 [6, 7, 8, 9] (I, J) (I', J') → TM (I', J') B e' → ErM (I', J') x → K none (I', J')) : rp_b K [some (.inr (.inr 348)), a, b, c, d] [] (I, J) := by
  refine ⟨hM, cs8 rfl, reads_b t er hx hb R32_0 ⟨by decide, by decide⟩ (fun I' J' f t' => ?_)⟩
  have er' := er.f9 f (by decide) (by decide)
  have fin : ∀ L, rp_c K (some (.inr (.inr 348)) :: L) [] (I', J') := fun L => rp_c_b t' er' hx hb (hK I' J' _ f t' er')
  rcases b with _ | (b | b | b) <;> exact fin _
theorem rp_a_b {a b c d : Option AV} (t : TM (I, J) B e) (er : ErM (I, J) x) (hx : R32 x.1) (hb : x.1 ≠ 0) (hK : ∀ I' J' e', F9 [6, 7, 8, 9] (I, J) (I', J') → TM (I', J') B e' → ErM (I', J') x → K none (I', J')) : rp_a K [some (.inr (.inr 348)), a, b, c, d] [] (I, J) := by
  refine ⟨hM, cs8 rfl, reads_b t er hx hb R32_0 ⟨by decide, by decide⟩ (fun I' J' f t' => ?_)⟩
  have er' := er.f9 f (by decide) (by decide)
  have fin : ∀ a b c d, rp_b K [some (.inr (.inr 348)), a, b, c, d] [] (I', J') := fun a b c d => rp_b_b t' er' hx hb (fun I2 J2 e2 f2 t2 er2 => hK I2 J2 e2 (f.trans f2) t2 er2)
  rcases a with _ | (a | a | a) <;> exact fin _ _ _ _
theorem rp93_b {a b c d : Option AV} (t : TM (I, J) B e) (er : ErM (I, J) x) (hx : R32 x.1) (hb : x.1 ≠ 0) (hK : ∀ I' J' e', F9 [6, 7, 8, 9] (I, J) (I', J') → TM (I', J') B e' → ErM (I', J') x → K none (I', J')) : B_X10_readsPort_93 K [some (.inr (.inr 348)), a, b, c, d] [] (I, J) :=
  ⟨hM, cs8 rfl, M_scan t (fun I' J' f t' => (rp_a_b t' (er.f9 f (by decide) (by decide)) hx hb (fun I2 J2 e2 f2 t2 er2 => hK I2 J2 e2 (f.trans f2) t2 er2) : rp_a K [some (.inr (.inr 348)), a, b, c, d] [] (I', J')))⟩
end
theorem rp139_g {I J : Mi} {K : Option AV → MM → Prop} {B : List Int} {e : Nat} {S : AS} {w : List Nat} {p sh rt f ht hk : Int} (t : TM (I, J) B e) (er : ErM (I, J) (0, p)) (r : MD (I, J) S ht hk) (hn : zN S < 6) (hw : wOk w) (hnm : J 350 (12 + zN S) = pk5 w) (h1 : 0 ≤ sh ∧ sh ≤ 40) (h2 : 0 ≤ rt ∧ rt ≤ 9) (h3 : 0 ≤ f ∧ f ≤ 40) (hK : ∀ I' J', F2M (I, J) (I', J') → TM (I', J') B e → ErM (I', J') (0, p) → MD (I', J') (adP S w sh rt f) ht hk → K none (I', J')) : B_X10_readsPort_139 K [some (.inr (.inr 348)), some (.inl (zN S : Int)), some (.inl sh), some (.inl rt), some (.inl f)] [] (I, J) := by
  obtain ⟨g, hF, hz, e13, e14⟩ := r
  have o3 : I 348 3 = ((4160 : Nat) : Int) := g.1
  have P3 : ∀ {X : Mi} {k : Nat} {v : Int}, X 348 3 = ((4160 : Nat) : Int) → uM X 349 k v 348 3 = ((4160 : Nat) : Int) := fun hX => (uM_e (by decide)).trans hX
  refine ⟨hM, cs8 rfl, P_X10_isGood er R32_0 (fun _ => ⟨⟨by omega, by omega⟩, fun _ => ⟨hM, cs8 rfl, Q_setP (o := 4160) (zN S) 0 o3 rfl rfl (by omega) ⟨hM, cs8 rfl, Q_setP (o := 4160) (zN S) 1 (P3 o3) rfl rfl (by omega) ⟨hM, cs8 rfl, Q_setP (o := 4160) (zN S) 2 (P3 (P3 o3)) rfl rfl (by omega) ⟨hM, cs8 rfl, Q_set (o := 4160) 0 (P3 (P3 (P3 o3))) rfl (by omega) ?_⟩⟩⟩⟩, fun q => absurd q (by decide)⟩) (fun q => absurd rfl q)⟩
  show K none (uM (uM (uM (uM I 349 (4160 + 12 + 8 * zN S + 0) sh) 349 (4160 + 12 + 8 * zN S + 1) rt) 349 (4160 + 12 + 8 * zN S + 2) (16 * f)) 349 (4160 + 0) ((zN S : Int) + 1), J)
  have eX : ∃ X : Mi, (uM (uM (uM (uM I 349 (4160 + 12 + 8 * zN S + 0) sh) 349 (4160 + 12 + 8 * zN S + 1) rt) 349 (4160 + 12 + 8 * zN S + 2) (16 * f)) 349 (4160 + 0) ((zN S : Int) + 1)) = X ∧ F2M (I, J) (X, J) ∧ (∀ a, a ≠ 349 → X a = I a) ∧ (∀ k, k ≠ 4160 → k ≠ 4172 + 8 * zN S → k ≠ 4173 + 8 * zN S → k ≠ 4174 + 8 * zN S → X 349 k = I 349 k) ∧ X 349 4160 = (zN S : Int) + 1 ∧ X 349 (4172 + 8 * zN S) = sh ∧ X 349 (4173 + 8 * zN S) = rt ∧ X 349 (4174 + 8 * zN S) = 16 * f := by
    refine ⟨_, rfl, ?_, fun a ha => ?_, fun k k0 k1 k2 k3 => ?_, uM_s, ?_, ?_, ?_⟩
    · exact (((F2M.put (by omega)).trans (F2M.put (by omega))).trans (F2M.put (by omega))).trans (F2M.put (by omega))
    · simp only [uM_r ha]
    · rw [uM_k (by omega), uM_k (by omega), uM_k (by omega), uM_k (by omega)]
    · rw [uM_k (by omega), uM_k (by omega), uM_k (by omega), show 4172 + 8 * zN S = 4160 + 12 + 8 * zN S + 0 by omega, uM_s]
    · rw [uM_k (by omega), uM_k (by omega), show 4173 + 8 * zN S = 4160 + 12 + 8 * zN S + 1 by omega, uM_s]
    · rw [uM_k (by omega), show 4174 + 8 * zN S = 4160 + 12 + 8 * zN S + 2 by omega, uM_s]
  obtain ⟨X, e0, x0, x1, x2, x3, x4, x5, x6⟩ := eX
  rw [e0]
  obtain ⟨gh1, gh2, gh3, m1, m2, m3, m4, m5, m6, m7, m8⟩ := g
  have m1 : ∀ j, j < 12 → I 349 (2080 * 2 + j) = hdm S 0 j := m1
  have m2 : ∀ q, q < zN S → ∀ j, j < 8 → j ≠ 5 → I 349 (2080 * 2 + 12 + 8 * q + j) = zP S q j := m2
  have hF' := adP_F hF hn hw h1 h2 h3
  obtain ⟨a1, a2, a3, a4, a5, a6, a7, a8, a9, a10⟩ := hF
  have i348 : X 348 = I 348 := x1 348 (by decide)
  refine hK X J x0 (t.eq (fun j _ _ => by show X 348 j = _; rw [i348]) (x1 351 (by decide)) rfl) ⟨by show X 348 10 = _; rw [i348]; exact er.1, by show X 348 11 = _; rw [i348]; exact er.2⟩ ⟨⟨by show X 348 3 = _; rw [i348]; exact o3, by decide, hF'.gd.1, (show MR 2 X J (adP S w sh rt f) [] from ⟨fun j hj => ?_, fun q hq j hj hj5 => ?_, fun q hq => ?_, fun i r hr => by simp at hr, fun i r hr => ?_, fun i d _ hd => ?_, fun g hg => absurd hg List.not_mem_nil, fun q hq => by show [] = zQ S q; rw [a7]⟩)⟩, hF', fun q j hq hq6 hj => ?_, by show X 348 13 = _; rw [i348]; exact e13, by show X 348 14 = _; rw [i348]; exact e14⟩
  · by_cases z : j = 0
    · subst z; exact x3
    · rw [x2 _ (by omega) (by omega) (by omega) (by omega), m1 j hj]
      rcases j12 hj with rfl | rfl | rfl | rfl | rfl | rfl | rfl | rfl | rfl | rfl | rfl | rfl <;> first | rfl | exact absurd rfl z
  · by_cases z : q = zN S
    · subst z
      have pe : zP (adP S w sh rt f) (zN S) j = (if j = 0 then sh else if j = 1 then rt else if j = 2 then 16 * f else 0) := if_pos rfl
      have zz := hz (zN S) j (Nat.le_refl _) hn hj
      rw [pe]
      by_cases j0 : j = 0
      · subst j0; exact x4
      · by_cases j1 : j = 1
        · subst j1; rw [if_neg (by decide), if_pos rfl]; exact (by rw [show 2080 * 2 + 12 + 8 * zN S + 1 = 4173 + 8 * zN S by omega]; exact x5)
        · by_cases j2 : j = 2
          · subst j2; rw [if_neg (by decide), if_neg (by decide), if_pos rfl, show 2080 * 2 + 12 + 8 * zN S + 2 = 4174 + 8 * zN S by omega]; exact x6
          · rw [if_neg j0, if_neg j1, if_neg j2, x2 _ (by omega) (by omega) (by omega) (by omega)]
            exact zz
    · have hq' : q < zN S := by have : q < zN S + 1 := hq; omega
      have pe : zP (adP S w sh rt f) q j = zP S q j := if_neg z
      rw [pe, x2 _ (by omega) (by omega) (by omega) (by omega)]
      exact m2 q hq' j hj hj5
  · show J 350 (6 * 2 + q) = pk5 (if q = zN S then w else zM S q)
    by_cases z : q = zN S
    · rw [if_pos z, z]; exact hnm
    · rw [if_neg z]; exact m3 q (by have : q < zN S + 1 := hq; omega)
  · have hr : (zR S)[i]? = some r := hr
    rw [a8] at hr
    simp at hr
  · have hd : (zD S)[i]? = some d := hd
    rw [a9] at hd
    simp at hd
  · have hq' : zN S + 1 ≤ q := hq
    show X 349 (4160 + 12 + 8 * q + j) = 0
    rw [x2 _ (by omega) (by omega) (by omega) (by omega)]
    exact hz q j (by omega) hq6 hj
