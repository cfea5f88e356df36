/-! PURE 67: the class reads statements -/
def rdU (B : List Int) (r : Er ⊕ (Nat × AS)) : Er ⊕ (Nat × AS) := bnd r (fun r => bnd (sgn B r.1 59) (fun e => .inr (e, r.2)))
theorem rdU_l {B : List Int} {r : Er ⊕ (Nat × AS)} {x : Er} (h : r = .inl x) : rdU B r = .inl x := bnd_l h
theorem rdU_x {B : List Int} {r : Er ⊕ (Nat × AS)} {e : Nat} {S : AS} {x : Er} (h : r = .inr (e, S)) (hs : sgn B e 59 = .inl x) : rdU B r = .inl x := (bnd_r h).trans (bnd_l hs)
theorem rdU_r {B : List Int} {r : Er ⊕ (Nat × AS)} {e e' : Nat} {S : AS} (h : r = .inr (e, S)) (hs : sgn B e 59 = .inr e') : rdU B r = .inr (e', S) := (bnd_r h).trans (bnd_r hs)
theorem nmd_R {S : AS} (h : zN S ≤ 6) (w : List Nat) : R32 (nmd S w) := by
  rcases nmd_r S w with e | ⟨p, e, hp⟩
  · rw [e]; exact ⟨by decide, by decide⟩
  · rw [e]; exact ⟨by omega, by omega⟩
theorem st_i {i : Nat} {kk : PT} {L L' : List (Option AV)} {x : Int} {r : List AV} {μ : MM} (e : stI L i (.inl x) = L') (h : kk L' r μ) : o_istore i kk L (.inl x :: r) μ := by
  subst e
  exact h
theorem st_l {i : Nat} {kk : PT} {L L' : List (Option AV)} {x : Int} {r : List AV} {μ : MM} (e : stL L i (.inr (.inl x)) = L') (h : kk L' r μ) : o_lstore i kk L (.inr (.inl x) :: r) μ := by
  subst e
  exact h
abbrev lcP (a b c d : Option AV) : List (Option AV) := [some (.inr (.inr 3)), some (.inr (.inr 1)), some (.inr (.inr 48)), a, none, b, c, d]
theorem readPort_118 {I J : Mi} {K : Option AV → MM → Prop} {B : List Int} {e : Nat} {S : AS} {w : List Nat} {sh rt f ht hk : Int} {R : Er ⊕ (Nat × AS)} (t : TC (I, J) B e) (r : RD (I, J) B S ht hk) (hn : zN S < 6) (hw : wOk w) (h1 : 0 ≤ sh ∧ sh ≤ 40) (h2 : 0 ≤ rt ∧ rt ≤ 9) (h3 : 0 ≤ f ∧ f ≤ 40) (hR : R = .inr (e, adP S w sh rt f)) (k1 : ∀ e' S', rdU B R = .inr (e', S') → ∀ I' J', FR (I, J) (I', J') → RD (I', J') B S' ht hk → I' 1 4 = ((e' : Nat) : Int) → K (some (.inl 1)) (I', J')) (k0 : ∀ x, rdU B R = .inl x → ∀ μ', FR (I, J) μ' → ErC μ' x → K (some (.inl 0)) μ') : B_X7_readPort_118 K [none, some (.inr (.inr 1)), some (.inr (.inr 48)), some (.inr (.inl (pk8 w))), none, some (.inl sh), some (.inl rt), some (.inl f)] [] (I, J) := by
  obtain ⟨r1, r2, r3, r4, r5, r6⟩ := r
  refine ⟨sw_s sw48, cs8 rfl, P_X6_addPort r2 r3 hn hw h1 h2 h3 (fun I' J' H F => ?_)⟩
  have g1 : ∀ a, a < 48 → I' a = I a ∧ J' a = J a := fun a ha => F a (by omega)
  have t' : TC (I', J') B e := by
    obtain ⟨⟨a1, a2, a3, a4⟩, b, c1, c2, c3, c4, c5, c6⟩ := t
    have i1 : I' 1 = I 1 := (g1 1 (by decide)).1
    have j1 : J' 1 = J 1 := (g1 1 (by decide)).2
    refine ⟨⟨?_, a2, a3.eq (g1 2 (by decide)).1, a4⟩, b, ?_, ?_, ?_, fun q => ?_, fun q => ?_, fun q => ?_⟩
    · show I' 1 1 = _; rw [i1]; exact a1
    · show I' 1 6 = _; rw [i1]; exact c1
    · show I' 1 4 = _; rw [i1]; exact c2
    · show I' 1 5 = _; rw [i1]; exact c3
    · show J' 1 7 = _; rw [j1]; exact c4 q
    · show I' 1 8 = _; rw [i1]; exact c5 q
    · show J' 1 7 = _; rw [j1]; exact c6 q
  have rd' : RD (I', J') B (adP S w sh rt f) ht hk := ⟨t'.1, H, adP_F r3 hn hw h1 h2 h3, ⟨by show I' 1 2 = _; rw [(g1 1 (by decide)).1]; exact r4.1, by show I' 1 3 = _; rw [(g1 1 (by decide)).1]; exact r4.2⟩, by show I' 3 0 = _; rw [(g1 3 (by decide)).1]; exact r5, by show I' 3 1 = _; rw [(g1 3 (by decide)).1]; exact r6⟩
  refine ⟨h1T, cs8 rfl, t'.isSign ⟨by omega, by omega⟩ (fun k3 n3 => ⟨⟨by omega, by omega⟩, fun _ => ⟨Or.inr rfl, ?_⟩, fun z => absurd z (by decide)⟩) (fun q => ⟨⟨by omega, by omega⟩, fun z => absurd rfl z, fun _ => ⟨h1T, cs8 rfl, t'.fail (fun μ' f' er => ⟨⟨by omega, by omega⟩, fun _ => ⟨Or.inl rfl, ?_⟩, fun z => absurd rfl z⟩)⟩⟩)⟩
  · exact k1 _ _ (rdU_r hR (if_pos ⟨k3, n3⟩)) I' J' F.fr rd' t'.2.2.2.1
  · exact k0 _ (rdU_x hR (if_neg q)) μ' (F.fr.trans (f'.fr (by decide))) er
theorem P_X7_readPort {I J : Mi} {K : Option AV → MM → Prop} {B : List Int} {e0 : Nat} {S : AS} {ht hk : Int} (t : TC (I, J) B e0) (r : RD (I, J) B S ht hk) (k1 : ∀ e' S', rdU B (rdP B e0 S) = .inr (e', S') → ∀ I' J', FR (I, J) (I', J') → RD (I', J') B S' ht hk → I' 1 4 = ((e' : Nat) : Int) → K (some (.inl 1)) (I', J')) (k0 : ∀ x, rdU B (rdP B e0 S) = .inl x → ∀ μ', FR (I, J) μ' → ErC μ' x → K (some (.inl 0)) μ') : w_X7_readPort [.inr (.inr 3), .inr (.inr 1), .inr (.inr 48)] (I, J) K := by
  have hB := t.1.2.2.2
  have he := t.2.1
  obtain ⟨f1, f2, f3, -⟩ := sc_facts hB he
  obtain ⟨g1, g2, g3, g4, g5, g6, g7, -⟩ := sc_facts hB f3
  have h6 := r.2.2.1.1
  have n1 : I 48 1 = (zN S : Int) := r.2.1.n
  refine ⟨cs8 rfl, sw_s sw48, ?_⟩
  show o_ci 6 _ _ [.inl (I 48 1)] (I, J)
  rw [n1]
  refine ⟨⟨by omega, by omega⟩, ⟨by omega, by omega⟩, fun q => ?_, fun q => ⟨h1T, cs8 rfl, t.fail (fun μ' f' er => ⟨Or.inl rfl, k0 _ (rdU_l (if_pos (by have q : ¬ (zN S : Int) < 6 := q; omega))) μ' (f'.fr (by decide)) er⟩)⟩⟩
  have hn : ¬ 6 ≤ zN S := by have q : (zN S : Int) < 6 := q; omega
  refine ⟨h1T, cs8 rfl, P_X8_takeName t.1 t.2.2.2.1 f3 (fun c1 I1 J1 F1a t1 => ⟨⟨by omega, by omega⟩, fun _ => ⟨h1T, ?_⟩, fun z => absurd z (by decide)⟩) (fun c1 μ' F er => ⟨⟨by omega, by omega⟩, fun z => absurd rfl z, fun _ => ⟨Or.inl rfl, k0 _ (rdU_l ((if_neg hn).trans (if_neg c1))) μ' (F.fr (by decide)) er⟩⟩)⟩
  have hw := sc_W hB f3 c1
  have ew : J1 1 7 = pk8 (tkW (sc B (tkE (sc B e0)))) := t1.2.2.2.2.2.1 c1
  have ra := r.f1 F1a (by decide)
  generalize hgw : tkW (sc B (tkE (sc B e0))) = w at *
  show o_lstore 3 _ _ [.inr (.inl (J1 1 7))] (I1, J1)
  rw [ew]
  refine st_l (L' := lcP (some (.inr (.inl (pk8 w)))) none none none) rfl ⟨sw_s sw48, cs8 rfl, P_X6_portNamed ra.2.1 ra.2.2.1.2.2.2.2.2.2.2.2.2 hw rfl ?_⟩
  have nr := nmd_R h6 w
  have E0 : ∀ q : nmd S w = -1, rdP B e0 S = bnd (num B (tkE (sc B (tkE (sc B e0)))) 0 40) (fun x => bnd (num B x.2 0 9) (fun y => if isw (sc B y.2) 1 then bnd (num B (tkE (sc B y.2)) 0 40) (fun z => .inr (z.2, adP S w x.1 y.1 z.1)) else .inr (y.2, adP S w x.1 y.1 0))) := fun q => by
    refine (if_neg hn).trans ((if_pos c1).trans ?_)
    rw [hgw]
    exact if_pos q
  have E1 : ¬ nmd S w = -1 → rdP B e0 S = .inl (3, (tkA (sc B (tkE (sc B e0))) : Int)) := fun q => by
    refine (if_neg hn).trans ((if_pos c1).trans ?_)
    rw [hgw]
    exact if_neg q
  refine ⟨nr, ⟨by omega, by omega⟩, fun q => ?_, fun q => ⟨h1T, cs8 rfl, t1.fail (fun μ' f' er => ⟨Or.inl rfl, k0 _ (rdU_l (E1 q)) μ' ((F1a.fr (by decide)).trans (f'.fr (by decide))) er⟩)⟩⟩
  have E0 := E0 q
  refine ⟨h1T, cs8 rfl, P_X8_takeNumber t1.1 t1.2.2.2.1 g3 R32_0 ⟨by omega, by omega⟩ (fun sh e2 hx I2 J2 F2 t2 u2 v2 => ⟨⟨by omega, by omega⟩, fun _ => ⟨h1T, ?_⟩, fun z => absurd z (by decide)⟩) (fun x hx μ' F er => ⟨⟨by omega, by omega⟩, fun z => absurd rfl z, fun _ => ⟨Or.inl rfl, k0 _ (rdU_l (E0.trans (bnd_l hx))) μ' ((F1a.fr (by decide)).trans (F.fr (by decide))) er⟩⟩)⟩
  obtain ⟨x1, x2, x3, x4, x5, x6⟩ := num_r hB g3 hx
  have E0 := E0.trans (bnd_r hx)
  dsimp only at E0
  have rb := ra.f1 F2 (by decide)
  show o_istore 5 _ _ [.inl (I2 1 8)] (I2, J2)
  rw [v2]
  refine st_i (L' := lcP (some (.inr (.inl (pk8 w)))) (some (.inl sh)) none none) rfl ⟨h1T, cs8 rfl, P_X8_takeNumber t2.1 u2 x4 R32_0 ⟨by omega, by omega⟩ (fun rt e3 hy I3 J3 F3 t3 u3 v3 => ⟨⟨by omega, by omega⟩, fun _ => ⟨h1T, ?_⟩, fun z => absurd z (by decide)⟩) (fun x hy μ' F er => ⟨⟨by omega, by omega⟩, fun z => absurd rfl z, fun _ => ⟨Or.inl rfl, k0 _ (rdU_l (E0.trans (bnd_l hy))) μ' (((F1a.fr (by decide)).trans (F2.fr (by decide))).trans (F.fr (by decide))) er⟩⟩)⟩
  obtain ⟨y1, y2, y3, y4, y5, y6⟩ := num_r hB x4 hy
  have E0 := E0.trans (bnd_r hy)
  dsimp only at E0
  have rc := rb.f1 F3 (by decide)
  have Fc : FR (I, J) (I3, J3) := ((F1a.fr (by decide)).trans (F2.fr (by decide))).trans (F3.fr (by decide))
  show o_istore 6 _ _ [.inl (I3 1 8)] (I3, J3)
  rw [v3]
  refine st_i (L' := lcP (some (.inr (.inl (pk8 w)))) (some (.inl sh)) (some (.inl rt)) none) rfl (st_i (L' := lcP (some (.inr (.inl (pk8 w)))) (some (.inl sh)) (some (.inl rt)) (some (.inl 0))) rfl ⟨h1T, cs8 rfl, C_adv t3.1 u3 y4 (fun I4 J4 F4 t4 => ?_)⟩)
  have rd := rc.f1 F4 (by decide)
  have Fd : FR (I, J) (I4, J4) := Fc.trans (F4.fr (by decide))
  refine t4.isW (i := 1) (by decide) (cs8 rfl) (fun z => ⟨⟨by omega, by omega⟩, fun y => absurd y (by decide), fun _ => ?_⟩) (fun z => ⟨⟨by omega, by omega⟩, fun _ => ?_, fun y => absurd rfl y⟩)
  · have E0 := E0.trans (if_pos z)
    obtain ⟨-, -, m3, -⟩ := sc_facts hB y4
    refine ⟨h1T, cs8 rfl, P_X8_takeNumber t4.1 t4.2.2.2.1 m3 R32_0 ⟨by omega, by omega⟩ (fun f e4 hz I5 J5 F5 t5 u5 v5 => ⟨⟨by omega, by omega⟩, fun _ => ⟨h1T, ?_⟩, fun z => absurd z (by decide)⟩) (fun x hz μ' F er => ⟨⟨by omega, by omega⟩, fun z => absurd rfl z, fun _ => ⟨Or.inl rfl, k0 _ (rdU_l (E0.trans (bnd_l hz))) μ' (Fd.trans (F.fr (by decide))) er⟩⟩)⟩
    obtain ⟨z1, z2, z3, z4, z5, z6⟩ := num_r hB m3 hz
    have E0 := E0.trans (bnd_r hz)
    have re := rd.f1 F5 (by decide)
    have Fe : FR (I, J) (I5, J5) := Fd.trans (F5.fr (by decide))
    show o_istore 7 _ _ [.inl (I5 1 8)] (I5, J5)
    rw [v5]
    refine st_i (L' := lcP (some (.inr (.inl (pk8 w)))) (some (.inl sh)) (some (.inl rt)) (some (.inl f))) rfl ⟨h1T, cs8 rfl, C_adv t5.1 u5 z4 (fun I6 J6 F6 t6 => ?_)⟩
    have Ff : FR (I, J) (I6, J6) := Fe.trans (F6.fr (by decide))
    exact readPort_118 t6 (re.f1 F6 (by decide)) (by omega) hw ⟨x1, x2⟩ ⟨y1, y2⟩ ⟨z1, z2⟩ E0 (fun e' S' hr I' J' F' => k1 e' S' hr I' J' (Ff.trans F')) (fun x hr μ' F' => k0 x hr μ' (Ff.trans F'))
  · have E0 := E0.trans (if_neg z)
    exact readPort_118 t4 rd (by omega) hw ⟨x1, x2⟩ ⟨y1, y2⟩ ⟨by decide, by decide⟩ E0 (fun e' S' hr I' J' F' => k1 e' S' hr I' J' (Fd.trans F')) (fun x hr μ' F' => k0 x hr μ' (Fd.trans F'))
