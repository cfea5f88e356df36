/-! PURE 80: the class does commands; runScript of the class -/
theorem P_X9_doCommand {μ : MM} {K : Option AV → MM → Prop} {A D : Int} {S : AS} {L : List Cm} {c : Cm} {i : Nat} (h : HC 11 μ S) (ok : OKb A D S) (hA : A + 1 ≤ 30000) (hD2 : D + 99 ≤ 3000000) (s : SC μ L) (hc : L[i]? = some c) (hok : cOk S c) (k1 : ∀ S', doC c S = some S' → ∀ μ' v, HC 11 μ' S' → FC 11 μ μ' → R32 v → v ≠ -1 → K (some (.inl v)) μ') (k0 : doC c S = none → K (some (.inl (-1))) μ) : w_X9_doCommand [.inr (.inr 0), .inl (i : Int)] μ K := by
  obtain ⟨hl, h4, hh⟩ := s
  obtain ⟨y1, y2, y3, y4⟩ := hh i c hc
  have hi : i < 40 := by
    have := (List.getElem?_eq_some_iff.mp hc).1
    omega
  obtain ⟨o1, o2, o3, o4⟩ := hok
  obtain ⟨g1, g2, g3, g4⟩ := ok
  have h6 := h.2.1.n6
  have hs := sw_s h.1
  have A0 := fun j (hj : j < 4) => (h5a j hj).1
  have l0 : ∀ j, j < 4 → (i : Int) < ((ln (5 + j) : Nat) : Int) := fun j hj => by rw [(h5a j hj).2]; omega
  have rn : R32 (cN c) := ⟨by omega, by omega⟩
  refine ⟨cs8 rfl, h0X, h4S, A0 3 (by decide), by omega, l0 3 (by decide), ?_⟩
  show o_istore 2 _ _ [.inl (μ.1 8 i)] μ
  rw [y4]
  refine st_i (L' := [some (.inr (.inr 0)), some (.inl (i : Int)), some (.inl (cN c))]) rfl ⟨h0X, h4S, A0 0 (by decide), by omega, l0 0 (by decide), ?_⟩
  show o_sw _ _ _ [.inl (μ.1 5 i)] μ
  rw [y1]
  refine ⟨⟨by omega, by omega⟩, swc (fun e => ?_) (swc (fun e => ?_) (swc (fun e => ?_) (swc (fun e => ?_) (swc (fun e => ?_) (swc (fun e => ?_) swn))))), fun hd => ?_⟩
  · have v : cV c = 0 := by have e : (cV c : Int) = 0 := e; omega
    have e0 := doC_0 (S := S) v
    have hp := o3 (Or.inl v)
    obtain ⟨p, hpp⟩ : ∃ p : Nat, cP c = p := ⟨(cP c).toNat, by omega⟩
    refine ⟨cs8 rfl, cs8 rfl, P_X9_within rn R32_1 ⟨by decide, by decide⟩ (fun q1 q2 => ⟨R32_1, fun z => absurd z (by decide), fun _ => ⟨h0X, h0X, h4S, A0 1 (by decide), by omega, l0 1 (by decide), ?_⟩⟩) (fun q => ⟨R32_0, fun _ => k0 (e0.trans (if_neg q)), fun z => absurd rfl z⟩)⟩
    show _ ∧ _ ∧ w_X6_admit [.inr (.inr 11), .inl (μ.1 6 i), .inl (cN c)] μ _
    rw [y2]
    have e0 := e0.trans (if_pos ⟨q1, q2⟩)
    rw [hpp, Int.toNat_natCast] at e0
    obtain ⟨v1, v2⟩ := adm_r h.2.1 (p := p) (c := cN c) (by omega) ⟨q1, q2⟩
    exact ⟨hs, cs8 rfl, P_X6_admit (e := 11) p h g1 hpp (by omega) ⟨q1, q2⟩ (by omega) (fun μ' H F => k1 _ e0 μ' _ H F v1 v2)⟩
  · have v : cV c = 1 := by have e : (cV c : Int) = 1 := e; omega
    have e0 := doC_1 (S := S) v
    refine ⟨cs8 rfl, cs8 rfl, P_X9_within rn R32_1 ⟨by decide, by decide⟩ (fun q1 q2 => ⟨R32_1, fun z => absurd z (by decide), fun _ => ⟨h0X, hs, cs8 rfl, P_X6_mayPass (e := 11) h (by omega) (fun q3 => ⟨R32_1, fun z => absurd z (by decide), fun _ => ?_⟩) (fun q3 => ⟨R32_0, fun _ => k0 (e0.trans (if_neg (fun z => q3 z.2))), fun z => absurd rfl z⟩)⟩⟩) (fun q => ⟨R32_0, fun _ => k0 (e0.trans (if_neg (fun z => q z.1))), fun z => absurd rfl z⟩)⟩
    have e0 := e0.trans (if_pos ⟨⟨q1, q2⟩, q3⟩)
    obtain ⟨n, hnn⟩ : ∃ n : Nat, cN c = n := ⟨(cN c).toNat, by omega⟩
    rw [hnn, Int.toNat_natCast] at e0
    have hcl := h.2.1.2.2.2.1
    exact ⟨h0X, hs, cs8 rfl, P_X6_passTicks (e := 11) n h g1 hnn (by omega) (by omega) (fun μ' H F => k1 _ e0 μ' _ H F ⟨by omega, by omega⟩ (by omega))⟩
  · have v : cV c = 2 := by have e : (cV c : Int) = 2 := e; omega
    have e0 := doC_2 (S := S) v
    have hp := o3 (Or.inr v)
    have ho := o4 v
    obtain ⟨p, hpp⟩ : ∃ p : Nat, cP c = p := ⟨(cP c).toNat, by omega⟩
    obtain ⟨o, hoo⟩ : ∃ o : Nat, cO c = o := ⟨(cO c).toNat, by omega⟩
    rw [hpp, hoo, Int.toNat_natCast, Int.toNat_natCast] at e0
    have no : ¬ ((1 ≤ cN c ∧ cN c ≤ 40) ∧ cN c ≤ owd S o p ∧ cN c ≤ fre S p) → K (some (.inl (-1))) μ := fun z => k0 (e0.trans (if_neg z))
    refine ⟨h0X, cs8 rfl, ⟨cs8 rfl, h0X, h4S, A0 3 (by decide), by omega, l0 3 (by decide), ?_⟩⟩
    show _ ∧ _ ∧ w_X9_within [.inl (μ.1 8 i), .inl 1, .inl 40] μ _
    rw [y4]
    refine ⟨cs8 rfl, cs8 rfl, P_X9_within rn R32_1 ⟨by decide, by decide⟩ (fun q1 q2 => ⟨R32_1, fun z => absurd z (by decide), fun _ => ⟨h0X, h0X, h4S, A0 1 (by decide), by omega, l0 1 (by decide), h0X, h4S, A0 2 (by decide), by omega, l0 2 (by decide), h0X, h4S, A0 3 (by decide), by omega, l0 3 (by decide), ?_⟩⟩) (fun q => ⟨R32_0, fun _ => ⟨Or.inl rfl, ⟨R32_0, fun _ => no (fun z => q z.1), fun z => absurd rfl z⟩⟩, fun z => absurd rfl z⟩)⟩
    show _ ∧ _ ∧ w_X6_mayReturn [.inr (.inr 11), .inl (μ.1 6 i), .inl (μ.1 7 i), .inl (μ.1 8 i)] μ _
    rw [y2, y3, y4]
    refine ⟨hs, cs8 rfl, P_X6_mayReturn (e := 11) p o h hpp hoo (by omega) (by omega) rn (fun s1 s2 => ⟨R32_1, fun z => absurd z (by decide), fun _ => ⟨Or.inr rfl, ⟨R32_1, fun z => absurd z (by decide), fun _ => ⟨h0X, h0X, h4S, A0 1 (by decide), by omega, l0 1 (by decide), h0X, h4S, A0 2 (by decide), by omega, l0 2 (by decide), ?_⟩⟩⟩⟩) (fun q => ⟨R32_0, fun _ => ⟨Or.inl rfl, ⟨R32_0, fun _ => no (fun z => q z.2), fun z => absurd rfl z⟩⟩, fun z => absurd rfl z⟩)⟩
    show _ ∧ _ ∧ w_X6_returnCells [.inr (.inr 11), .inl (μ.1 6 i), .inl (μ.1 7 i), .inl (cN c)] μ _
    rw [y2, y3]
    have e0 := e0.trans (if_pos ⟨⟨q1, q2⟩, s1, s2⟩)
    have hk := (col_keep o (some p) (zR S).length S 0 (cN c) g1).1.1.owdR o p
    exact ⟨hs, cs8 rfl, P_X6_returnCells (e := 11) o p h g1 hpp hoo (by omega) (by omega) (by omega) (fun μ' H F => k1 _ e0 μ' _ H F ⟨by omega, by omega⟩ (by omega))⟩
  · have v : cV c = 3 := by have e : (cV c : Int) = 3 := e; omega
    have e0 := doC_3 (S := S) v
    have hpm := h.2.1.pmn
    have pn : μ.1 (11 + 2) 4 = ((zR S).length : Int) := h.pn
    have htm := h.2.1.2.1
    refine ⟨h0X, hs, sw_pm h.1, ?_⟩
    show o_icmp_ge _ _ _ [.inl (μ.1 (11 + 2) 4), .inl (cN c)] μ
    rw [pn]
    refine ⟨rn, ⟨by omega, by omega⟩, fun q => k0 (e0.trans (by rw [List.getElem?_eq_none (by omega)])), fun q => ?_⟩
    obtain ⟨n, hnn⟩ : ∃ n : Nat, cN c = n := ⟨(cN c).toNat, by omega⟩
    obtain ⟨m, hm⟩ : ∃ m, (zR S)[n]? = some m := ⟨(zR S)[n]'(by omega), List.getElem?_eq_getElem (by omega)⟩
    rw [hnn, Int.toNat_natCast, hm] at e0
    have e0 : doC c S = if 0 ≤ spr S m.1 then some (ext S n) else none := e0
    have hmd := g4 m (List.mem_of_getElem? hm)
    have hmr := h.2.1.pmr (List.mem_of_getElem? hm)
    exact ⟨h0X, hs, cs8 rfl, P_X6_mayProlong (e := 11) n h hnn hm (fun s => ⟨R32_1, fun z => absurd z (by decide), fun _ => ⟨h0X, hs, cs8 rfl, P_X6_prolong (e := 11) n h g1 hnn hm (by omega) (fun μ' H F => k1 _ (e0.trans (if_pos s)) μ' _ H F ⟨by omega, by omega⟩ (by omega))⟩⟩) (fun s => ⟨R32_0, fun _ => k0 (e0.trans (if_neg s)), fun z => absurd rfl z⟩)⟩
  · have v : cV c = 4 := by have e : (cV c : Int) = 4 := e; omega
    have e0 := doC_4 (S := S) v
    have htm := h.2.1.2.1
    exact ⟨cs8 rfl, cs8 rfl, P_X9_within rn R32_1 ⟨by decide, by decide⟩ (fun q1 q2 => ⟨R32_1, fun z => absurd z (by decide), fun _ => ⟨h0X, hs, cs8 rfl, P_X6_changeTerm (e := 11) h g1 ⟨q1, q2⟩ (fun μ' H F => k1 _ (e0.trans (if_pos ⟨q1, q2⟩)) μ' _ H F ⟨by omega, by omega⟩ (by omega))⟩⟩) (fun q => ⟨R32_0, fun _ => k0 (e0.trans (if_neg q)), fun z => absurd rfl z⟩)⟩
  · have v : cV c = 5 := by have e : (cV c : Int) = 5 := e; omega
    have e0 := doC_5 (S := S) v
    have hkp := h.2.1.2.2.1
    exact ⟨cs8 rfl, cs8 rfl, P_X9_within rn R32_0 ⟨by decide, by decide⟩ (fun q1 q2 => ⟨R32_1, fun z => absurd z (by decide), fun _ => ⟨h0X, hs, cs8 rfl, P_X6_changeKeep (e := 11) h g1 ⟨q1, q2⟩ (fun μ' H F => k1 _ (e0.trans (if_pos ⟨q1, q2⟩)) μ' _ H F ⟨by omega, by omega⟩ (by omega))⟩⟩) (fun q => ⟨R32_0, fun _ => k0 (e0.trans (if_neg q)), fun z => absurd rfl z⟩)⟩
  · simp only [List.forall_mem_cons] at hd
    omega
/-- a script, done -/
noncomputable def oScr (T : TS) : (Int × Int) × TS := match prs 601 (tB T) (tN T) 0 0 [] [] with
  | .inl x => ((1, 0), seB T [] x.1 x.2)
  | .inr L => ((0, ((rnC (L.take 40) (tN T)).2 : Int)), ([], (0, -1), (rnC (L.take 40) (tN T)).1, tS T, kpH T, tP T))
theorem oScr_l {T : TS} {x : Er} (h : prs 601 (tB T) (tN T) 0 0 [] [] = .inl x) : oScr T = ((1, 0), seB T [] x.1 x.2) := by unfold oScr; rw [h]
theorem oScr_r {T : TS} {L : List Cm} (h : prs 601 (tB T) (tN T) 0 0 [] [] = .inr L) : oScr T = ((0, ((rnC (L.take 40) (tN T)).2 : Int)), ([], (0, -1), (rnC (L.take 40) (tN T)).1, tS T, kpH T, tP T)) := by unfold oScr; rw [h]
theorem SC.fc {μ μ' : MM} {L : List Cm} (h : SC μ L) (hf : ∀ a, a < 11 → μ'.1 a = μ.1 a) : SC μ' L := ⟨h.1, by rw [hf 4 (by decide)]; exact h.2.1, fun i c hc => by rw [hf 5 (by decide), hf 6 (by decide), hf 7 (by decide), hf 8 (by decide)]; exact h.2.2 i c hc⟩
theorem runScript9_lp {K : Option AV → MM → Prop} {X : String → MM → Prop} {L : List Cm} : ∀ (k i : Nat) (A D : Int) (μ : MM) (S : AS), i + k = L.length → HC 11 μ S → OKb A D S → A + k ≤ 30000 → 10098 ≤ D → D + 99 * k ≤ 3000000 → SC μ L → (∀ c ∈ L, cOk S c) → (∀ μ', HC 11 μ' (rnC (L.drop i) S).1 → FC 11 μ μ' → K (some (.inl ((((rnC (L.drop i) S).2 + i : Nat)) : Int))) μ') → B_X9_runScript_51 K X [some (.inr (.inr 0)), none, some (.inl (i : Int))] [] μ := by
  intro k
  induction k with
  | zero =>
    intro i A D μ S hi h ok hA hD hD2 s hc hK
    have g4 : μ.1 4 4 = (L.length : Int) := s.2.1
    have hl := s.1
    refine lfp_in ⟨h0X, h4S, ?_⟩
    show o_icmp_ge _ _ _ [.inl (μ.1 4 4), .inl (i : Int)] μ
    rw [g4]
    refine ⟨⟨by omega, by omega⟩, ⟨by omega, by omega⟩, fun _ => ?_, fun z => absurd (by show (L.length : Int) ≤ (i : Int); omega) z⟩
    rw [List.drop_eq_nil_of_le (by omega)] at hK
    have key := hK μ h ⟨fun _ _ => rfl, rfl⟩
    have e : (((rnC [] S).2 + i : Nat) : Int) = (i : Int) := by show ((0 + i : Nat) : Int) = i; omega
    rw [e] at key
    exact key
  | succ k ih =>
    intro i A D μ S hi h ok hA hD hD2 s hc hK
    have g4 : μ.1 4 4 = (L.length : Int) := s.2.1
    have hl := s.1
    obtain ⟨c, hcc⟩ : ∃ c, L[i]? = some c := ⟨L[i]'(by omega), List.getElem?_eq_getElem (by omega)⟩
    have hdr : L.drop i = c :: L.drop (i + 1) := by
      rw [List.drop_eq_getElem_cons (by omega)]
      congr 1
      have := List.getElem?_eq_getElem (l := L) (i := i) (by omega)
      rw [hcc] at this
      exact (Option.some.inj this).symm
    have hco := hc c (List.mem_of_getElem? hcc)
    refine lfp_in ⟨h0X, h4S, ?_⟩
    show o_icmp_ge _ _ _ [.inl (μ.1 4 4), .inl (i : Int)] μ
    rw [g4]
    refine ⟨⟨by omega, by omega⟩, ⟨by omega, by omega⟩, fun z => absurd z (by show ¬ (L.length : Int) ≤ (i : Int); omega), fun _ => ⟨h0X, cs8 rfl, P_X9_doCommand h ok (by omega) (by omega) s hcc hco (fun S' hd μ' v H F v1 v2 => ⟨v1, ⟨by omega, by omega⟩, fun z => absurd z v2, fun _ => ?_⟩) (fun hd => ⟨⟨by omega, by omega⟩, ⟨by omega, by omega⟩, fun _ => ?_, fun z => absurd rfl z⟩)⟩⟩
    · obtain ⟨o, m⟩ := doC_ok ok hco (by omega) hD (by omega) hd
      have e1 : rnC (L.drop i) S = ((rnC (L.drop (i + 1)) S').1, (rnC (L.drop (i + 1)) S').2 + 1) := by rw [hdr, rnC_s hd]
      rw [e1] at hK
      refine ih (i + 1) (A + 1) (D + 99) μ' S' (by omega) H o (by omega) (by omega) (by omega) (s.fc (fun a ha => F.1 a (by omega))) (fun x hx => (hc x hx).sm m) (fun μ2 H2 F2 => ?_)
      have key := hK μ2 H2 (F.trans F2)
      have e2 : (((rnC (L.drop (i + 1)) S').2 + 1 + i : Nat) : Int) = (((rnC (L.drop (i + 1)) S').2 + (i + 1) : Nat) : Int) := by omega
      rw [e2] at key
      exact key
    · have e1 : rnC (L.drop i) S = (S, 0) := by rw [hdr, rnC_n hd]
      rw [e1] at hK
      have key := hK μ h ⟨fun _ _ => rfl, rfl⟩
      have e : (((0 : Nat) + i : Nat) : Int) = (i : Int) := by omega
      rw [e] at key
      exact key
