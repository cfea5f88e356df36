/-! PURE 84: the model does commands -/
def FE (μ μ' : MM) : Prop := (∀ e, e ≠ 348 → e ≠ 349 → μ'.1 e = μ.1 e) ∧ (∀ k, 2080 ≤ k → μ'.1 349 k = μ.1 349 k) ∧ (∀ j, j ≠ 17 → j ≠ 20 → μ'.1 348 j = μ.1 348 j) ∧ μ'.2 = μ.2
theorem P_X10_counts {I J : Mi} {K : Option AV → MM → Prop} {v : Int} {n : Nat} (hv : v = 0 ∨ v = 1) (h20 : I 348 20 = (n : Int)) (hn : n < 40) (k1 : v = 1 → K none (uM (uM I 348 20 ((n : Int) + 1)) 348 17 (if n + 1 = 40 then 1 else 0), J)) (k0 : v = 0 → K none (uM (uM I 348 20 (n : Int)) 348 17 1, J)) : w_X10_counts [.inr (.inr 348), .inl v] (I, J) K := by
  refine ⟨cs8 rfl, hM, b01 hv, fun q => ?_, fun q => ?_⟩
  · show o_putI 10 20 _ _ [.inl (I 348 20 + 0), .inr (.inr 348)] (I, J)
    rw [h20, Int.add_zero]
    exact ⟨hM, b01 hv, fun _ => ⟨hM, Or.inr rfl, k0 q⟩, fun z => absurd q z⟩
  · have v1 : v = 1 := hv.resolve_left q
    show o_putI 10 20 _ _ [.inl (I 348 20 + 1), .inr (.inr 348)] (I, J)
    rw [h20]
    refine ⟨hM, b01 hv, fun z => absurd z q, fun _ => ⟨hM, ?_⟩⟩
    show o_ci 40 _ _ [.inl (uM I 348 20 ((n : Int) + 1) 348 20), .inr (.inr 348)] (uM I 348 20 ((n : Int) + 1), J)
    rw [uM_s]
    have k1 := k1 v1
    refine ⟨⟨by omega, by omega⟩, ⟨by omega, by omega⟩, fun z => ⟨hM, Or.inl rfl, ?_⟩, fun z => ⟨hM, Or.inr rfl, ?_⟩⟩
    · rw [if_neg (by have z : ¬ (n : Int) + 1 = 40 := z; omega)] at k1
      exact k1
    · rw [if_pos (by have z : (n : Int) + 1 = 40 := z; omega)] at k1
      exact k1
theorem c20 {X J : Mi} {a b : Int} : ((uM (uM X 348 20 a) 348 17 b, J) : MM).1 348 20 = a := by
  show uM (uM X 348 20 a) 348 17 b 348 20 = a
  rw [uM_k (by decide), uM_s]
theorem FE_mk {I J I1 J1 : Mi} {a b : Int} (F : FM 0 (I, J) (I1, J1)) : FE (I, J) (uM (uM I1 348 20 a) 348 17 b, J1) := by
  refine ⟨fun e h1 h2 => ?_, fun k hk => ?_, fun j h1 h2 => ?_, F.2.2⟩
  · show uM (uM I1 348 20 a) 348 17 b e = I e
    rw [uM_r h1, uM_r h1]; exact F.1 e h2
  · show uM (uM I1 348 20 a) 348 17 b 349 k = I 349 k
    rw [uM_e (by decide), uM_e (by decide)]; exact F.2.1 k (by omega)
  · show uM (uM I1 348 20 a) 348 17 b 348 j = I 348 j
    rw [uM_k h1, uM_k h2, show I1 348 = I 348 from F.1 348 (by decide)]
theorem HG.cnt {I J : Mi} {S : AS} {G : List (Nat × Pkt)} {a b : Int} (h : HG 0 (I, J) S G) : HG 0 (uM (uM I 348 20 a) 348 17 b, J) S G := h.cong (by show uM (uM I 348 20 a) 348 17 b 348 3 = I 348 3; rw [uM_k (by decide), uM_k (by decide)]) (by show uM (uM I 348 20 a) 348 17 b 349 = I 349; rw [uM_r (by decide), uM_r (by decide)]) rfl
/-- what follows a command that could be done, and one that could not -/
abbrev KY (K : Option AV → MM → Prop) (μ : MM) (n : Nat) (S' : AS) : Prop := ∀ μ' G', HG 0 μ' S' G' → FE μ μ' → μ'.1 348 20 = (n : Int) + 1 → μ'.1 348 17 = (if n + 1 = 40 then 1 else 0) → K none μ'
abbrev KN (K : Option AV → MM → Prop) (μ : MM) (n : Nat) (S : AS) : Prop := ∀ μ' G', HG 0 μ' S G' → FE μ μ' → μ'.1 348 20 = (n : Int) → μ'.1 348 17 = 1 → K none μ'
theorem cnt_y {I J : Mi} {μ1 : MM} {K : Option AV → MM → Prop} {S' : AS} {G' : List (Nat × Pkt)} {n : Nat} (h : HG 0 μ1 S' G') (F : FM 0 (I, J) μ1) (h20 : I 348 20 = (n : Int)) (hn : n < 40) (k : KY K (I, J) n S') : w_X10_counts [.inr (.inr 348), .inl 1] μ1 K := by
  obtain ⟨I1, J1⟩ := μ1
  have e20 : I1 348 20 = (n : Int) := by rw [show I1 348 = I 348 from F.1 348 (by decide)]; exact h20
  exact P_X10_counts (Or.inr rfl) e20 hn (fun _ => k _ G' h.cnt (FE_mk F) c20 pS) (fun q => absurd q (by decide))
theorem cnt_n {I J : Mi} {K : Option AV → MM → Prop} {S : AS} {G : List (Nat × Pkt)} {n : Nat} (h : HG 0 (I, J) S G) (h20 : I 348 20 = (n : Int)) (hn : n < 40) (k : KN K (I, J) n S) : w_X10_counts [.inr (.inr 348), .inl 0] (I, J) K := by
  exact P_X10_counts (Or.inl rfl) h20 hn (fun q => absurd q (by decide)) (fun _ => k _ G h.cnt (FE_mk FM.refl) c20 pS)
section
variable {I J : Mi} {K : Option AV → MM → Prop} {S : AS} {G : List (Nat × Pkt)} {c : Cm} {n : Nat} {p : Int}
theorem tlA_y (g : HG 0 (I, J) S G) (gd : Gd S) (hA : zA S + 1 ≤ 30000) (hv : cV c = 0) (ok : cOk S c) (er : ErM (I, J) (0, p)) (h16 : I 348 16 = 1) (h17 : I 348 17 = 0) (h20 : I 348 20 = (n : Int)) (hn : n < 40) (k1 : ∀ S', doC c S = some S' → KY K (I, J) n S') (k0 : doC c S = none → KN K (I, J) n S) : tlA K [some (.inr (.inr 348)), some (.inl (cP c)), some (.inl (cN c))] [] (I, J) := by
  obtain ⟨o1, o2, o3, o4⟩ := ok
  have e0 := doC_0 (S := S) hv
  have hp := o3 (Or.inl hv)
  have h6 := g.2.2.1.n6
  obtain ⟨q, hq⟩ : ∃ q : Nat, cP c = q := ⟨(cP c).toNat, by omega⟩
  have rn : R32 (cN c) := ⟨by omega, by omega⟩
  refine ⟨hM, cs8 rfl, isDoing_y er h16 h17 ⟨R32_1, fun z => absurd z (by decide), fun _ => ⟨cs8 rfl, cs8 rfl, P_X10_isCells rn (fun q1 q2 => ⟨R32_1, fun z => absurd z (by decide), fun _ => ⟨hM, cs8 rfl, ?_⟩⟩) (fun q => ⟨R32_0, fun _ => ⟨hM, cs8 rfl, cnt_n g h20 hn (k0 (e0.trans (if_neg q)))⟩, fun z => absurd rfl z⟩)⟩⟩⟩
  have e0 := e0.trans (if_pos ⟨q1, q2⟩)
  rw [hq, Int.toNat_natCast] at e0
  obtain ⟨v1, v2⟩ := adm_r g.2.2.1 (p := q) (c := cN c) (by omega) ⟨q1, q2⟩
  exact P_X10_arrives q g gd hq (by omega) ⟨q1, q2⟩ hA (fun μ' G' H F => ⟨v1, ⟨by decide, by decide⟩, fun z => absurd z v2, fun _ => ⟨hM, cs8 rfl, cnt_y H F h20 hn (k1 _ e0)⟩⟩)
theorem tlB_y (g : HG 0 (I, J) S G) (gd : Gd S) (hv : cV c = 2) (ok : cOk S c) (er : ErM (I, J) (0, p)) (h16 : I 348 16 = 1) (h17 : I 348 17 = 0) (h20 : I 348 20 = (n : Int)) (hn : n < 40) (k1 : ∀ S', doC c S = some S' → KY K (I, J) n S') (k0 : doC c S = none → KN K (I, J) n S) : tlB K [some (.inr (.inr 348)), some (.inl (cP c)), some (.inl (cO c)), some (.inl (cN c)), none, none] [] (I, J) := by
  obtain ⟨o1, o2, o3, o4⟩ := ok
  have e0 := doC_2 (S := S) hv
  have hp := o3 (Or.inr hv)
  have ho := o4 hv
  have h6 := g.2.2.1.n6
  obtain ⟨q, hq⟩ : ∃ q : Nat, cP c = q := ⟨(cP c).toNat, by omega⟩
  obtain ⟨o, hoo⟩ : ∃ o : Nat, cO c = o := ⟨(cO c).toNat, by omega⟩
  have rn : R32 (cN c) := ⟨by omega, by omega⟩
  rw [hq, hoo, Int.toNat_natCast, Int.toNat_natCast] at e0
  have no : ¬ ((1 ≤ cN c ∧ cN c ≤ 40) ∧ cN c ≤ owd S o q ∧ cN c ≤ fre S q) → B_X10_readsBack_49 K [some (.inr (.inr 348)), some (.inl (cP c)), some (.inl (cO c)), some (.inl (cN c)), none, none] [.inl 0] (I, J) := fun z => st_i (L' := [some (.inr (.inr 348)), some (.inl (cP c)), some (.inl (cO c)), some (.inl (cN c)), some (.inl 0), none]) rfl ⟨R32_0, fun _ => c_ci (c_kil (L' := [some (.inr (.inr 348)), none, none, none, some (.inl 0), none]) rfl (st_i (L' := [some (.inr (.inr 348)), none, none, none, some (.inl 0), some (.inl 0)]) rfl ⟨hM, cs8 rfl, cnt_n g h20 hn (k0 (e0.trans (if_neg z)))⟩)), fun y => absurd rfl y⟩
  refine ⟨hM, cs8 rfl, isDoing_y er h16 h17 ⟨R32_1, fun _ => ⟨cs8 rfl, cs8 rfl, P_X10_isCells rn (fun q1 q2 => ⟨R32_1, fun z => absurd z (by decide), fun _ => ⟨hM, cs8 rfl, P_X10_canGive q o g hq hoo (by omega) (by omega) rn (fun s1 s2 => ⟨R32_1, fun z => absurd z (by decide), fun _ => ?_⟩) (fun z => ⟨R32_0, fun _ => no (fun y => z y.2), fun y => absurd rfl y⟩)⟩⟩) (fun z => ⟨R32_0, fun _ => no (fun y => z y.1), fun y => absurd rfl y⟩)⟩, fun z => absurd z (by decide)⟩⟩
  have e0 := e0.trans (if_pos ⟨⟨q1, q2⟩, s1, s2⟩)
  have hk := (col_keep o (some q) (zR S).length S 0 (cN c) gd).1.1.owdR o q
  exact c_ci (c_kil rfl (st_i (L' := [some (.inr (.inr 348)), some (.inl (cP c)), some (.inl (cO c)), some (.inl (cN c)), some (.inl 1), none]) rfl ⟨R32_1, fun z => absurd z (by decide), fun _ => ⟨hM, cs8 rfl, P_X10_gives o q g gd hq hoo (by omega) (by omega) (by omega) s2 (fun μ' G' H F => c_kil (L' := [some (.inr (.inr 348)), none, none, none, some (.inl 1), none]) rfl (st_i (L' := [some (.inr (.inr 348)), none, none, none, some (.inl 1), some (.inl (owd (col (zR S).length S o (some q) 0 (cN c)) o q))]) rfl ⟨hM, cs8 rfl, cnt_y H F h20 hn (k1 _ e0)⟩))⟩⟩))
theorem HG.setT {I J : Mi} {S : AS} {G : List (Nat × Pkt)} {v : Int} (h : HG 0 (I, J) S G) (gd : Gd S) (hv : 1 ≤ v ∧ v ≤ 99) : HG 0 (uM I 349 (2080 * 0 + 1) v, J) (stG S v (zK S) (zC S) (zA S)) G := by
  refine h.one (a := 1) (by omega) rfl rfl rfl rfl rfl (fun i hi => ?_) (fun q hq i hi hi5 => ?_) (stT_Gd gd hv).1
  · rcases j12 hi with rfl | rfl | rfl | rfl | rfl | rfl | rfl | rfl | rfl | rfl | rfl | rfl <;> rfl
  · rw [if_neg (by omega)]
theorem HG.setK {I J : Mi} {S : AS} {G : List (Nat × Pkt)} {v : Int} (h : HG 0 (I, J) S G) (gd : Gd S) (hv : 0 ≤ v ∧ v ≤ 200) : HG 0 (uM I 349 (2080 * 0 + 2) v, J) (stG S (zT S) v (zC S) (zA S)) G := by
  refine h.one (a := 2) (by omega) rfl rfl rfl rfl rfl (fun i hi => ?_) (fun q hq i hi hi5 => ?_) (stK_Gd gd hv).1
  · rcases j12 hi with rfl | rfl | rfl | rfl | rfl | rfl | rfl | rfl | rfl | rfl | rfl | rfl <;> rfl
  · rw [if_neg (by omega)]
theorem tlN_y {a b d : Int} {A D : Int} (g : HG 0 (I, J) S G) (oks : OKb A D S) (hD : D + 99 ≤ 3000000) (hv : cV c = 1 ∧ a = 1 ∨ cV c = 3 ∧ a = 0 ∧ b = 1 ∨ cV c = 4 ∧ a = 0 ∧ b = 0 ∧ d = 1 ∨ cV c = 5 ∧ a = 0 ∧ b = 0 ∧ d = 0) (ok : cOk S c) (er : ErM (I, J) (0, p)) (h16 : I 348 16 = 1) (h17 : I 348 17 = 0) (h20 : I 348 20 = (n : Int)) (hn : n < 40) (k1 : ∀ S', doC c S = some S' → KY K (I, J) n S') (k0 : doC c S = none → KN K (I, J) n S) : tlN K [some (.inr (.inr 348)), some (.inl a), some (.inl b), some (.inl d), some (.inl (cN c))] [] (I, J) := by
  obtain ⟨o1, o2, o3, o4⟩ := ok
  obtain ⟨gd, g2, g3, g4⟩ := oks
  have rn : R32 (cN c) := ⟨by omega, by omega⟩
  have no : doC c S = none → w_X10_counts [.inr (.inr 348), .inl 0] (I, J) (fun v μ' => o_kil [0, 1, 2, 3, 4] (B_X10_readsNumber_183 K) [] (v.toList ++ []) μ') := fun hd => cnt_n g h20 hn (k0 hd)
  refine ⟨hM, cs8 rfl, isDoing_y er h16 h17 ⟨R32_1, fun _ => ?_, fun z => absurd z (by decide)⟩⟩
  rcases hv with ⟨v, rfl⟩ | ⟨v, rfl, rfl⟩ | ⟨v, rfl, rfl, rfl⟩ | ⟨v, rfl, rfl, rfl⟩
  · have e0 := doC_1 (S := S) v
    refine ⟨R32_1, fun z => absurd z (by decide), fun _ => ⟨cs8 rfl, cs8 rfl, P_X10_isTicks rn (fun q1 q2 => ⟨R32_1, fun z => absurd z (by decide), fun _ => ?_⟩) (fun q => ⟨R32_0, fun _ => ⟨hM, cs8 rfl, cnt_n g h20 hn (k0 (e0.trans (if_neg (fun z => q z.1))))⟩, fun z => absurd rfl z⟩)⟩⟩
    obtain ⟨m, hm⟩ : ∃ m : Nat, cN c = m := ⟨(cN c).toNat, by omega⟩
    have hcl := g.2.2.1.2.2.2.1
    refine ⟨hM, cs8 rfl, P_X10_ticksAll m g gd hm (by omega) g2 (fun q μ' G' H F => ⟨⟨by omega, by omega⟩, ⟨by decide, by decide⟩, fun z => absurd (show zC S + (m : Int) = -1 from z) (by omega), fun _ => ⟨hM, cs8 rfl, cnt_y H F h20 hn (k1 _ ?_)⟩⟩) (fun q => ⟨⟨by decide, by decide⟩, ⟨by decide, by decide⟩, fun _ => ⟨hM, cs8 rfl, cnt_n g h20 hn (k0 (e0.trans (if_neg (fun z => q (by omega)))))⟩, fun z => absurd rfl z⟩)⟩
    have e0 := e0.trans (if_pos ⟨⟨q1, q2⟩, by omega⟩)
    rw [hm, Int.toNat_natCast] at e0
    exact e0
  · have e0 := doC_3 (S := S) v
    have hpm := g.2.2.1.pmn
    have htm := g.2.2.1.2.1
    refine ⟨R32_0, fun _ => ⟨R32_1, fun z => absurd z (by decide), fun _ => ⟨hM, cs8 rfl, P_X10_isPromise g rn (fun q1 q2 => ⟨R32_1, fun z => absurd z (by decide), fun _ => ?_⟩) (fun q => ⟨R32_0, fun _ => ⟨hM, cs8 rfl, cnt_n g h20 hn (k0 (e0.trans (by rw [List.getElem?_eq_none (by omega)])))⟩, fun z => absurd rfl z⟩)⟩⟩, fun z => absurd rfl z⟩
    obtain ⟨m, hm⟩ : ∃ m : Nat, cN c = m := ⟨(cN c).toNat, by omega⟩
    obtain ⟨r, hr⟩ : ∃ r, (zR S)[m]? = some r := ⟨(zR S)[m]'(by omega), List.getElem?_eq_getElem (by omega)⟩
    rw [hm, Int.toNat_natCast, hr] at e0
    have e0 : doC c S = if 0 ≤ spr S r.1 then some (ext S m) else none := e0
    have hmd := g4 r (List.mem_of_getElem? hr)
    have hmr := g.2.2.1.pmr (List.mem_of_getElem? hr)
    exact ⟨hM, cs8 rfl, P_X10_canExtend m g hm hr (fun s => ⟨R32_1, fun z => absurd z (by decide), fun _ => ⟨hM, cs8 rfl, P_X10_extends1 m g gd hm hr (by omega) (fun μ' H F => ⟨⟨by omega, by omega⟩, ⟨by decide, by decide⟩, fun z => absurd (show r.2.2.2 + zT S = -1 from z) (by omega), fun _ => ⟨hM, cs8 rfl, cnt_y H F h20 hn (k1 _ (e0.trans (if_pos s)))⟩⟩)⟩⟩) (fun s => ⟨R32_0, fun _ => ⟨hM, cs8 rfl, cnt_n g h20 hn (k0 (e0.trans (if_neg s)))⟩, fun z => absurd rfl z⟩)⟩
  · have e0 := doC_4 (S := S) v
    have htm := g.2.2.1.2.1
    refine ⟨R32_0, fun _ => ⟨R32_0, fun _ => ⟨R32_1, fun z => absurd z (by decide), fun _ => ⟨cs8 rfl, cs8 rfl, P_X10_isTicks rn (fun q1 q2 => ⟨R32_1, fun z => absurd z (by decide), fun _ => ⟨hM, cs8 rfl, P_X10_sets 1 g rfl (by decide) ?_⟩⟩) (fun q => ⟨R32_0, fun _ => ⟨hM, cs8 rfl, cnt_n g h20 hn (k0 (e0.trans (if_neg q)))⟩, fun z => absurd rfl z⟩)⟩⟩, fun z => absurd rfl z⟩, fun z => absurd rfl z⟩
    refine ⟨by show R32 (zT S); exact ⟨by omega, by omega⟩, ⟨by decide, by decide⟩, fun z => absurd (show zT S = -1 from z) (by omega), fun _ => ⟨hM, cs8 rfl, cnt_y (g.setT gd ⟨q1, q2⟩) (FM_one (b := 0) (a := 1) (by omega)) h20 hn (k1 _ (e0.trans (if_pos ⟨q1, q2⟩)))⟩⟩
  · have e0 := doC_5 (S := S) v
    have hkp := g.2.2.1.2.2.1
    refine ⟨R32_0, fun _ => ⟨R32_0, fun _ => ⟨R32_0, fun _ => ⟨cs8 rfl, cs8 rfl, P_X10_isKeep rn (fun q1 q2 => ⟨R32_1, fun z => absurd z (by decide), fun _ => ⟨hM, cs8 rfl, P_X10_sets 2 g rfl (by decide) ?_⟩⟩) (fun q => ⟨R32_0, fun _ => ⟨hM, cs8 rfl, cnt_n g h20 hn (k0 (e0.trans (if_neg q)))⟩, fun z => absurd rfl z⟩)⟩, fun z => absurd rfl z⟩, fun z => absurd rfl z⟩, fun z => absurd rfl z⟩
    refine ⟨by show R32 (zK S); exact ⟨by omega, by omega⟩, ⟨by decide, by decide⟩, fun z => absurd (show zK S = -1 from z) (by omega), fun _ => ⟨hM, cs8 rfl, cnt_y (g.setK gd ⟨q1, q2⟩) (FM_one (b := 0) (a := 2) (by omega)) h20 hn (k1 _ (e0.trans (if_pos ⟨q1, q2⟩)))⟩⟩
end
