/-! PURE 28: the model's changes as calls -/
/-- a switch within t calls -/
def OKs (t : Nat) (S : AS) : Prop := Gd S ∧ zC S ≤ 9999 ∧ zA S ≤ 41 * t ∧ ∀ r ∈ zR S, r.2.2.2 ≤ 20000 + 4100 * t
def TG (t : Nat) (T : TS) : Prop := t ≤ 512 ∧ OKs t (tN T) ∧ (∀ s, tS T = some s → OKs t s) ∧ (∀ s ∈ tH T, OKs t s)
abbrev kpH (T : TS) : List AS := (tN T :: tH T).take 6
def oArr (T : TS) (p c : Int) : (Int × Int) × TS := if 0 ≤ p ∧ p < zN (tN T) then (if 1 ≤ c ∧ c ≤ 40 then ((0, (adm (tN T) p.toNat c).2), seN T (adm (tN T) p.toNat c).1 (kpH T)) else ((2, 0), T)) else ((1, 0), T)
def oTck (T : TS) (n : Int) : (Int × Int) × TS := if 1 ≤ n ∧ n ≤ 99 then (if zC (tN T) + n ≤ 9999 then ((0, zC (tN T) + n), seN T (tkn n.toNat (tN T)) (kpH T)) else ((0, -1), T)) else ((1, 0), T)
def oGiv (T : TS) (p l c : Int) : (Int × Int) × TS := if (0 ≤ p ∧ p < zN (tN T)) ∧ (0 ≤ l ∧ l < zN (tN T)) then (if 1 ≤ c ∧ c ≤ 40 then (if c ≤ owd (tN T) l.toNat p.toNat ∧ c ≤ fre (tN T) p.toNat then ((0, owd (col (zR (tN T)).length (tN T) l.toNat (some p.toNat) 0 c) l.toNat p.toNat), seN T (col (zR (tN T)).length (tN T) l.toNat (some p.toNat) 0 c) (kpH T)) else ((3, 0), T)) else ((2, 0), T)) else ((1, 0), T)
def oExt (T : TS) (i : Int) : (Int × Int) × TS := if 0 ≤ i ∧ i < (zR (tN T)).length then (match (zR (tN T))[i.toNat]? with
  | none => ((1, 0), T)
  | some m => if 0 ≤ spr (tN T) m.1 then ((0, m.2.2.2 + zT (tN T)), seN T (ext (tN T) i.toNat) (kpH T)) else ((2, 0), T)) else ((1, 0), T)
def oTrm (T : TS) (t : Int) : (Int × Int) × TS := if 1 ≤ t ∧ t ≤ 99 then ((0, zT (tN T)), seN T (stG (tN T) t (zK (tN T)) (zC (tN T)) (zA (tN T))) (kpH T)) else ((1, 0), T)
def oKep (T : TS) (k : Int) : (Int × Int) × TS := if 0 ≤ k ∧ k ≤ 200 then ((0, zK (tN T)), seN T (stG (tN T) (zT (tN T)) k (zC (tN T)) (zA (tN T))) (kpH T)) else ((1, 0), T)
/-- the model does o -/
def OM (o : (Int × Int) × TS) (K : Option AV → MM → Prop) (μ : MM) : Prop := ∀ μ', MT μ' o.2 → μ'.1 348 0 = o.1.1 → FX μ μ' → K (some (.inl o.1.2)) μ'
theorem OM.k {o : (Int × Int) × TS} {k v : Int} {T : TS} {K : Option AV → MM → Prop} {μ μ' : MM} (h : OM o K μ) (e : o = ((k, v), T)) (h1 : MT μ' T) (h2 : μ'.1 348 0 = k) (h3 : FX μ μ') : K (some (.inl v)) μ' := by
  subst e
  exact h μ' h1 h2 h3
theorem t348 {I J : Mi} {v : Int} : ((uM I 348 0 v, J) : MM).1 348 0 = v := uM_s (I := I) (e := 348) (k := 0) (v := v)
theorem OM.t {o : (Int × Int) × TS} {k v : Int} {T : TS} {K : Option AV → MM → Prop} {μ : MM} (h : OM o K μ) (e : o = ((k, v), T)) (h1 : MT μ T) : K (some (.inl v)) (uM μ.1 348 0 k, μ.2) := h.k e (h1.thr k) t348 FX.put
/-- behind 'remembers' and a change of the switch -/
theorem P_X10_kept {μ μ2 : MM} {T : TS} {S' : AS} {K : Option AV → MM → Prop} {v : Int} (hT : MT μ T) (hf : FM 0 (cpI μ.1 0 3 2080, cpJ μ.2 0 3 6) μ2) (h0 : MB 0 μ2 S') (hv : R32 v) (hv1 : v ≠ -1) (hK : ∀ μ', MT μ' (seN T S' (kpH T)) → μ'.1 348 0 = μ.1 348 0 → FX μ μ' → K (some (.inl v)) μ') : w_X10_kept [.inr (.inr 348), .inl v] μ2 K := by
  have hcp : F8 [] μ (cpI μ.1 0 3 2080, cpJ μ.2 0 3 6) := F8.cp (I := μ.1) (J := μ.2)
  have hf8 : F8 [] (cpI μ.1 0 3 2080, cpJ μ.2 0 3 6) μ2 := F8.fm hf
  have m1 : ∀ b s, b ≠ 0 → b ≠ 3 → MB b μ s → MB b μ2 s := fun b s q0 q3 hs => (MB.cpo (f := 0) (t := 3) (I := μ.1) (J := μ.2) hs q3).fm hf q0
  have m3 : MB 3 μ2 (tN T) := (MB.cp (f := 0) (t := 3) (I := μ.1) (J := μ.2) hT.2.1).fm hf (by decide)
  have h15 : μ2.1 348 15 = (tH T).length := (hf8.2.1 15 (fun z => by cases z)).trans ((hcp.2.1 15 (fun z => by cases z)).trans hT.2.2.2.2.2.1.1)
  have hH : HB μ2 (tH T) := hT.2.2.2.2.2.1.2.f (fun b s hb hs => m1 b s (by omega) (by omega) hs)
  refine ⟨cs8 rfl, hv, ⟨by omega, by omega⟩, fun q => absurd q hv1, fun _ => ⟨hM, cs8 rfl, P_X10_keeps (I := μ2.1) (J := μ2.2) h15 hH m3 (fun I' J' f1 f2 f3 f4 => ?_)⟩⟩
  have f8 : F8 [15] μ (I', J') := ((hcp.mono (fun k hk => by cases hk)).trans (hf8.mono (fun k hk => by cases hk))).trans f1
  have e3 : I' 348 3 = 0 := (f8.2.1 3 (by decide)).trans hT.1
  exact hK (I', J') (hT.step f8 (fun k hk => Or.inr (Or.inr (List.mem_singleton.mp hk))) e3 (f2 0 S' (by decide) h0) (fun s hs => f2 1 s (by decide) (m1 1 s (by decide) (by decide) hs)) f3 f4) (f8.2.1 0 (by decide)) f8.fx
theorem cp_MT {μ : MM} {T : TS} (h : MT μ T) : MT (cpI μ.1 0 3 2080, cpJ μ.2 0 3 6) T := by
  have hcp : F8 [] μ (cpI μ.1 0 3 2080, cpJ μ.2 0 3 6) := F8.cp (I := μ.1) (J := μ.2)
  exact h.step (S := tN T) (H := tH T) hcp (fun k hk => by cases hk) ((hcp.2.1 3 (fun z => by cases z)).trans h.1) (MB.cpo (I := μ.1) (J := μ.2) h.2.1 (by decide)) (fun s hs => MB.cpo (I := μ.1) (J := μ.2) hs (by decide)) ((hcp.2.1 15 (fun z => by cases z)).trans h.2.2.2.2.2.1.1) (h.2.2.2.2.2.1.2.f (fun b s hb hs => MB.cpo (I := μ.1) (J := μ.2) hs (by omega)))
theorem adm_r {S : AS} {p : Nat} {c : Int} (h : Rg S) (hp : p < zN S) (hc : 1 ≤ c ∧ c ≤ 40) : R32 (adm S p c).2 ∧ (adm S p c).2 ≠ -1 := by
  have hf := h.spR hp
  have hw := way_r S p c
  have hh : way S p c = 0 ∨ way S p c = 1 ∨ way S p c = 2 ∨ way S p c = 3 := by omega
  unfold adm
  dsimp only
  rcases hh with q | q | q | q
  · rw [q]; exact ⟨by show R32 0; exact R32_0, by show (0 : Int) ≠ -1; decide⟩
  · rw [q]; exact ⟨by show R32 0; exact R32_0, by show (0 : Int) ≠ -1; decide⟩
  · have hw : fre S p < c := by
      unfold way at q
      split at q
      · exact absurd q (by decide)
      · omega
    rw [q]
    exact ⟨by show R32 (c - fre S p); exact ⟨by omega, by omega⟩, by show c - fre S p ≠ -1; omega⟩
  · rw [q]; exact ⟨by show R32 (-2); exact ⟨by omega, by omega⟩, by show (-2 : Int) ≠ -1; decide⟩
theorem P_M_arrive {μ : MM} {K : Option AV → MM → Prop} {t : Nat} {T : TS} {x c : Int} (h : MT μ T) (hT : TG t T) (hx : R32 x) (hc : R32 c) (hK : OM (oArr T x c) K μ) : w_X10_arrive [.inr (.inr 348), .inl x, .inl c] μ K := by
  obtain ⟨G, hG⟩ := h.hg
  have h6 := hG.2.2.1.n6
  obtain ⟨ht, ⟨g1, g2, g3, g4⟩, -, -⟩ := hT
  refine ⟨cs8 rfl, hM, cs8 rfl, P_X10_isPort hG hx (fun q1 q2 => ?_) (fun q => ?_)⟩
  · refine ⟨cs8 rfl, cs8 rfl, P_X10_isCells hc (fun r1 r2 => ⟨hM, cs8 rfl, P_X10_allGood (Or.inr rfl) (Or.inr rfl) (fun _ _ => ⟨⟨by omega, by omega⟩, fun _ => ⟨hM, cs8 rfl, P_X10_remembers ?_⟩, fun q => absurd q (by decide)⟩) (fun _ q => absurd q (by decide)) (fun q => absurd q (by decide))⟩) (fun q => ⟨hM, cs8 rfl, P_X10_allGood (Or.inr rfl) (Or.inl rfl) (fun _ q => absurd q (by decide)) (fun _ _ => ⟨⟨by omega, by omega⟩, fun q => absurd rfl q, fun _ => ?_⟩) (fun q => absurd q (by decide))⟩)⟩
    · obtain ⟨p, rfl⟩ : ∃ p : Nat, x = p := ⟨x.toNat, by omega⟩
      have hp : p < zN (tN T) := by omega
      have e : oArr T p c = ((0, (adm (tN T) p c).2), seN T (adm (tN T) p c).1 (kpH T)) := by unfold oArr; rw [if_pos ⟨q1, q2⟩, if_pos ⟨r1, r2⟩]; rfl
      have h1 := h.thr 0
      have hc1 := cp_MT h1
      obtain ⟨G1, H1⟩ := hc1.hg
      obtain ⟨v1, v2⟩ := adm_r hG.2.2.1 hp ⟨r1, r2⟩
      exact ⟨hM, cs8 rfl, P_X10_arrives p H1 g1 rfl hp ⟨r1, r2⟩ (by omega) (fun μ2 G2 H2 F2 => ⟨hM, cs8 rfl, P_X10_kept h1 F2 H2.mb v1 v2 (fun μ' m1 m2 m3 => hK.k e m1 (m2.trans t348) (FX.put.trans m3))⟩)⟩
    · exact hK.t (by unfold oArr; rw [if_pos ⟨q1, q2⟩, if_neg q]) h
  · have e : oArr T x c = ((1, 0), T) := if_neg q
    refine ⟨cs8 rfl, cs8 rfl, P_X10_isCells hc (fun r1 r2 => ⟨hM, cs8 rfl, P_X10_allGood (Or.inl rfl) (Or.inr rfl) (fun q _ => absurd q (by decide)) (fun q _ => absurd q (by decide)) (fun _ => ⟨⟨by omega, by omega⟩, fun q => absurd rfl q, fun _ => hK.t e h⟩)⟩) (fun q => ⟨hM, cs8 rfl, P_X10_allGood (Or.inl rfl) (Or.inl rfl) (fun q _ => absurd q (by decide)) (fun q _ => absurd q (by decide)) (fun _ => ⟨⟨by omega, by omega⟩, fun q => absurd rfl q, fun _ => hK.t e h⟩)⟩)⟩
theorem P_M_tick {μ : MM} {K : Option AV → MM → Prop} {t : Nat} {T : TS} {x : Int} (h : MT μ T) (hT : TG t T) (hx : R32 x) (hK : OM (oTck T x) K μ) : w_X10_tick [.inr (.inr 348), .inl x] μ K := by
  obtain ⟨ht, ⟨g1, g2, g3, g4⟩, -, -⟩ := hT
  refine ⟨cs8 rfl, cs8 rfl, cs8 rfl, P_X10_isTicks hx (fun r1 r2 => ⟨hM, cs8 rfl, P_X10_good (Or.inr rfl) (fun _ => ⟨⟨by omega, by omega⟩, fun _ => ⟨hM, cs8 rfl, P_X10_remembers ?_⟩, fun q => absurd q (by decide)⟩) (fun q => absurd q (by decide))⟩) (fun q => ⟨hM, cs8 rfl, P_X10_good (Or.inl rfl) (fun q => absurd q (by decide)) (fun _ => ⟨⟨by omega, by omega⟩, fun q => absurd rfl q, fun _ => ?_⟩)⟩)⟩
  · obtain ⟨n, rfl⟩ : ∃ n : Nat, x = n := ⟨x.toNat, by omega⟩
    have h1 := h.thr 0
    have hc1 := cp_MT h1
    obtain ⟨G1, H1⟩ := hc1.hg
    have hcl := H1.2.2.1.2.2.2.1
    refine ⟨hM, cs8 rfl, P_X10_ticksAll n H1 g1 rfl (by omega) g2 (fun q μ2 G2 H2 F2 => ⟨hM, cs8 rfl, P_X10_kept h1 F2 H2.mb (by constructor <;> omega) (by omega) (fun μ' m1 m2 m3 => ?_)⟩) (fun q => ⟨hM, cs8 rfl, ?_⟩)⟩
    · have e : oTck T n = ((0, zC (tN T) + n), seN T (tkn n (tN T)) (kpH T)) := by unfold oTck; rw [if_pos ⟨r1, r2⟩, if_pos q]; rfl
      exact hK.k e m1 (m2.trans t348) (FX.put.trans m3)
    · have e : oTck T n = ((0, -1), T) := by unfold oTck; rw [if_pos ⟨r1, r2⟩, if_neg q]
      refine ⟨cs8 rfl, ⟨by omega, by omega⟩, ⟨by omega, by omega⟩, fun _ => ?_, fun z => absurd rfl z⟩
      exact hK.k e hc1 (by show cpI (uM μ.1 348 0 0) 0 3 2080 348 0 = 0; rw [cpI_e (by decide)]; exact uM_s) (FX.put.trans FX.cp)
  · exact hK.t (if_neg q) h
theorem P_M_giveBack {μ : MM} {K : Option AV → MM → Prop} {t : Nat} {T : TS} {x y c : Int} (h : MT μ T) (hT : TG t T) (hx : R32 x) (hy : R32 y) (hc : R32 c) (hK : OM (oGiv T x y c) K μ) : w_X10_giveBack [.inr (.inr 348), .inl x, .inl y, .inl c] μ K := by
  obtain ⟨G, hG⟩ := h.hg
  have h6 := hG.2.2.1.n6
  obtain ⟨ht, ⟨g1, g2, g3, g4⟩, -, -⟩ := hT
  have bad : oGiv T x y c = ((1, 0), T) → B_X10_giveBack_21 (fun v μ' => K v μ') [some (.inr (.inr 348)), some (.inl x), some (.inl y), some (.inl c)] [.inr (.inr 348)] μ := by
    intro e
    refine ⟨cs8 rfl, cs8 rfl, P_X10_isCells hc (fun r1 r2 => ⟨hM, cs8 rfl, P_X10_allGood (Or.inl rfl) (Or.inr rfl) (fun q _ => absurd q (by decide)) (fun q _ => absurd q (by decide)) (fun _ => ⟨⟨by omega, by omega⟩, fun q => absurd rfl q, fun _ => hK.t e h⟩)⟩) (fun q => ⟨hM, cs8 rfl, P_X10_allGood (Or.inl rfl) (Or.inl rfl) (fun q _ => absurd q (by decide)) (fun q _ => absurd q (by decide)) (fun _ => ⟨⟨by omega, by omega⟩, fun q => absurd rfl q, fun _ => hK.t e h⟩)⟩)⟩
  refine ⟨cs8 rfl, hM, cs8 rfl, P_X10_isPort hG hx (fun q1 q2 => ⟨⟨by omega, by omega⟩, fun z => absurd z (by decide), fun _ => ⟨hM, cs8 rfl, P_X10_isPort hG hy (fun q3 q4 => ⟨⟨by omega, by omega⟩, fun z => absurd z (by decide), fun _ => ?_⟩) (fun q => ⟨⟨by omega, by omega⟩, fun _ => bad (if_neg (fun z => q z.2)), fun z => absurd rfl z⟩)⟩⟩) (fun q => ⟨⟨by omega, by omega⟩, fun _ => bad (if_neg (fun z => q z.1)), fun z => absurd rfl z⟩)⟩
  obtain ⟨p, rfl⟩ : ∃ p : Nat, x = p := ⟨x.toNat, by omega⟩
  obtain ⟨l, rfl⟩ : ∃ l : Nat, y = l := ⟨y.toNat, by omega⟩
  have hp : p < zN (tN T) := by omega
  have hl : l < zN (tN T) := by omega
  refine ⟨cs8 rfl, cs8 rfl, P_X10_isCells hc (fun r1 r2 => ⟨hM, cs8 rfl, P_X10_allGood (Or.inr rfl) (Or.inr rfl) (fun _ _ => ⟨⟨by omega, by omega⟩, fun _ => ?_, fun q => absurd q (by decide)⟩) (fun _ q => absurd q (by decide)) (fun q => absurd q (by decide))⟩) (fun q => ⟨hM, cs8 rfl, P_X10_allGood (Or.inr rfl) (Or.inl rfl) (fun _ q => absurd q (by decide)) (fun _ _ => ⟨⟨by omega, by omega⟩, fun q => absurd rfl q, fun _ => ?_⟩) (fun q => absurd q (by decide))⟩)⟩
  · have h1 := h.thr 0
    obtain ⟨G0, H0⟩ := h1.hg
    refine ⟨hM, cs8 rfl, P_X10_canGive p l H0 rfl rfl hp hl hc (fun s1 s2 => ⟨⟨by omega, by omega⟩, fun _ => ⟨hM, cs8 rfl, P_X10_remembers ?_⟩, fun q => absurd q (by decide)⟩) (fun q => ⟨⟨by omega, by omega⟩, fun z => absurd rfl z, fun _ => ⟨hM, ?_⟩⟩)⟩
    · have e : oGiv T p l c = ((0, owd (col (zR (tN T)).length (tN T) l (some p) 0 c) l p), seN T (col (zR (tN T)).length (tN T) l (some p) 0 c) (kpH T)) := by
        unfold oGiv
        rw [if_pos ⟨⟨q1, q2⟩, q3, q4⟩, if_pos ⟨r1, r2⟩]
        simp only [Int.toNat_natCast]
        rw [if_pos ⟨s1, s2⟩]
      have hc1 := cp_MT h1
      obtain ⟨G1, H1⟩ := hc1.hg
      have hk := (col_keep l (some p) (zR (tN T)).length (tN T) 0 c g1).1.1.owdR l p
      exact ⟨hM, cs8 rfl, P_X10_gives l p H1 g1 rfl rfl (by omega) (by omega) ⟨by omega, by omega⟩ s2 (fun μ2 G2 H2 F2 => ⟨hM, cs8 rfl, P_X10_kept h1 F2 H2.mb (by constructor <;> omega) (by omega) (fun μ' m1 m2 m3 => hK.k e m1 (m2.trans t348) (FX.put.trans m3))⟩)⟩
    · have e : oGiv T p l c = ((3, 0), T) := by
        unfold oGiv
        rw [if_pos ⟨⟨q1, q2⟩, q3, q4⟩, if_pos ⟨r1, r2⟩]
        simp only [Int.toNat_natCast]
        rw [if_neg q]
      have := hK.k (μ' := (uM (uM μ.1 348 0 0) 348 0 3, μ.2)) e (h1.thr 3) t348 (FX.put.trans FX.put)
      exact this
  · exact hK.t (by unfold oGiv; rw [if_pos ⟨⟨q1, q2⟩, q3, q4⟩, if_neg q]) h
theorem P_M_extend {μ : MM} {K : Option AV → MM → Prop} {t : Nat} {T : TS} {x : Int} (h : MT μ T) (hT : TG t T) (hx : R32 x) (hK : OM (oExt T x) K μ) : w_X10_extend [.inr (.inr 348), .inl x] μ K := by
  obtain ⟨G, hG⟩ := h.hg
  obtain ⟨ht, ⟨g1, g2, g3, g4⟩, -, -⟩ := hT
  have hn := hG.2.2.1.pmn
  have htm := hG.2.2.1.2.1
  refine ⟨cs8 rfl, hM, cs8 rfl, P_X10_isPromise hG hx (fun q1 q2 => ⟨hM, cs8 rfl, P_X10_isPromise hG hx (fun _ _ => ⟨⟨by omega, by omega⟩, fun z => absurd z (by decide), fun _ => ?_⟩) (fun q => absurd ⟨q1, q2⟩ q)⟩) (fun q => ⟨hM, cs8 rfl, P_X10_isPromise hG hx (fun q1 q2 => absurd ⟨q1, q2⟩ q) (fun _ => ⟨⟨by omega, by omega⟩, fun _ => ?_, fun z => absurd rfl z⟩)⟩)⟩
  · obtain ⟨i, rfl⟩ : ∃ i : Nat, x = i := ⟨x.toNat, by omega⟩
    obtain ⟨m, hm⟩ : ∃ m, (zR (tN T))[i]? = some m := ⟨(zR (tN T))[i]'(by omega), List.getElem?_eq_getElem (by omega)⟩
    have hd := g4 m (List.mem_of_getElem? hm)
    have hmr := hG.2.2.1.pmr (List.mem_of_getElem? hm)
    have e0 : oExt T i = if 0 ≤ spr (tN T) m.1 then ((0, m.2.2.2 + zT (tN T)), seN T (ext (tN T) i) (kpH T)) else ((2, 0), T) := by
      unfold oExt
      rw [if_pos ⟨q1, q2⟩, Int.toNat_natCast, hm]
    refine ⟨hM, cs8 rfl, P_X10_canExtend i hG rfl hm (fun s => ⟨⟨by omega, by omega⟩, fun z => absurd z (by decide), fun _ => ⟨hM, cs8 rfl, P_X10_allGood (Or.inr rfl) (Or.inr rfl) (fun _ _ => ⟨⟨by omega, by omega⟩, fun _ => ⟨hM, cs8 rfl, P_X10_remembers ?_⟩, fun q => absurd q (by decide)⟩) (fun _ q => absurd q (by decide)) (fun q => absurd q (by decide))⟩⟩) (fun s => ⟨⟨by omega, by omega⟩, fun _ => ⟨hM, cs8 rfl, P_X10_allGood (Or.inr rfl) (Or.inl rfl) (fun _ q => absurd q (by decide)) (fun _ _ => ⟨⟨by omega, by omega⟩, fun q => absurd rfl q, fun _ => ?_⟩) (fun q => absurd q (by decide))⟩, fun z => absurd rfl z⟩)⟩
    · rw [if_pos s] at e0
      have h1 := h.thr 0
      have hc1 := cp_MT h1
      obtain ⟨G1, H1⟩ := hc1.hg
      exact ⟨hM, cs8 rfl, P_X10_extends1 i H1 g1 rfl hm (by omega) (fun μ2 H2 F2 => ⟨hM, cs8 rfl, P_X10_kept h1 F2 H2.mb (by constructor <;> omega) (by omega) (fun μ' m1 m2 m3 => hK.k e0 m1 (m2.trans t348) (FX.put.trans m3))⟩)⟩
    · rw [if_neg s] at e0
      exact hK.t e0 h
  · have e : oExt T x = ((1, 0), T) := if_neg q
    exact ⟨hM, cs8 rfl, P_X10_allGood (Or.inl rfl) (Or.inl rfl) (fun q _ => absurd q (by decide)) (fun q _ => absurd q (by decide)) (fun _ => ⟨⟨by omega, by omega⟩, fun q => absurd rfl q, fun _ => hK.t e h⟩)⟩
