/-! PURE 34: the class takes a promise back -/
theorem CR_pt {e p : Nat} {I I' J : Mi} {S S' : AS} (h : CR e I J S) (hp : p < zN S) (h6 : zN S ≤ 6) (b1 : ∀ a, (a < e + 13 + 4 * p ∨ e + 13 + 4 * p + 4 ≤ a) → I' a = I a) (e1 : zN S' = zN S) (e2 : zT S' = zT S) (e3 : zK S' = zK S) (e4 : zC S' = zC S) (e5 : zA S' = zA S) (e6 : zM S' = zM S) (e7 : zR S' = zR S) (e8 : zD S' = zD S) (eP : ∀ q, q ≠ p → zP S' q = zP S q) (eQ : ∀ q, q ≠ p → zQ S' q = zQ S q) (hC : CP (e + 13 + 4 * p) I' J S' p) : CR e I' J S' := by
  obtain ⟨c1, c2, c3, c4, c5, cp, c7, c8, c9, c10, c11, c12, c13⟩ := h
  have f : ∀ a, a < e + 13 → I' a = I a := fun a ha => b1 a (by omega)
  unfold CR
  rw [e1, e2, e3, e4, e5, e7, e8, f e (by omega), f (e + 2) (by omega), f (e + 7) (by omega), f (e + 12) (by omega)]
  refine ⟨c1, c2, c3, c4, c5, fun p' hp' => ?_, c7, fun i m hm j hj => by rw [f _ (by omega)]; exact c8 i m hm j hj, c9, fun i d hi hd j hj => by rw [f _ (by omega)]; exact c10 i d hi hd j hj, c11, c12, c13⟩
  by_cases q : p' = p
  · rw [q]; exact hC
  · refine CP_tr (cp p' hp') (b1 _ (by omega)) (fun j hj => b1 _ (by omega)) rfl (by rw [e6]) (eP p' q) ?_ ?_ ?_ (eQ p' q)
    · show sm ((zQ S' p').map _) = sm ((zQ S p').map _)
      rw [eQ p' q]
    · show sm ((zR S').map _) = sm ((zR S).map _)
      rw [e7]
    · show sm ((zR S').map _) = sm ((zR S).map _)
      rw [e7]
theorem CR_R {e : Nat} {I I' J : Mi} {S : AS} {R' : List Prm} (h : CR e I J S) (b0 : I' e = I e) (b1 : ∀ p, p < zN S → ∀ k, k ≠ 6 → k ≠ 7 → I' (e + 13 + 4 * p) k = I (e + 13 + 4 * p) k) (b2 : ∀ p, p < zN S → I' (e + 13 + 4 * p) 6 = lnt (stR S R') p) (b3 : ∀ p, p < zN S → I' (e + 13 + 4 * p) 7 = brw (stR S R') p) (b4 : ∀ p, p < zN S → ∀ j, j < 3 → I' (e + 13 + 4 * p + 1 + j) = I (e + 13 + 4 * p + 1 + j)) (b5 : I' (e + 2) 4 = R'.length) (b6 : RA I' (e + 3) 4 mw R') (b7 : ∀ a, e + 7 ≤ a → a < e + 13 → I' a = I a) : CR e I' J (stR S R') := by
  obtain ⟨c1, c2, c3, c4, c5, cp, c7, c8, c9, c10, c11, c12, c13⟩ := h
  unfold CR
  rw [b0, b7 (e + 7) (by omega) (by omega), b7 (e + 12) (by omega) (by omega)]
  refine ⟨c1, c2, c3, c4, c5, fun p hp => ?_, b5, b6, c9, fun i d hi hd j hj => by rw [b7 _ (by omega) (by omega)]; exact c10 i d hi hd j hj, c11, c12, c13⟩
  have hp : p < zN S := hp
  obtain ⟨d0, d1, d2, d3, d4, d5, d6, d7, d8, d9, d10, d11, d12⟩ := cp p hp
  have g := b1 p hp
  refine ⟨d0, ?_, ?_, ?_, ?_, ?_, b2 p hp, b3 p hp, ?_, ?_, ?_, ?_, fun i r hr j hj => by rw [b4 p hp j hj]; exact d12 i r hr j hj⟩
  · rw [g 1 (by decide) (by decide)]; exact d1
  · rw [g 2 (by decide) (by decide)]; exact d2
  · rw [g 3 (by decide) (by decide)]; exact d3
  · rw [g 4 (by decide) (by decide)]; exact d4
  · rw [g 5 (by decide) (by decide)]; exact d5
  · rw [g 8 (by decide) (by decide)]; exact d8
  · rw [g 9 (by decide) (by decide)]; exact d9
  · rw [g 10 (by decide) (by decide)]; exact d10
  · rw [g 11 (by decide) (by decide)]; exact d11
theorem P_X2_removeNewest {μ : MM} {K : Option AV → MM → Prop} {e p : Nat} {S : AS} {L : List Pkt} {q : Pkt} (h : HC e μ S) (hp : p < zN S) (hL : zQ S p = L ++ [q]) (hK : ∀ μ', HC e μ' (stQ S (uQq (zQ S) p L)) → FC e μ μ' → K (some (.inl q.1)) μ') : w_X2_removeNewest [.inr (.inr (e + 13 + 4 * p))] μ K := by
  have hs := h.1
  have h6 := h.2.1.n6
  have hq := sw_pt hs (p := p) (by omega)
  have a0 := sw_pa hs (p := p) (by omega) (j := 0) (by decide)
  have hl := h.2.1.ql hp
  have hlen : (zQ S p).length = L.length + 1 := by rw [hL, List.length_append]; rfl
  obtain ⟨d0, d1, d2, d3, d4, d5, d6, d7, d8, d9, d10, d11, d12⟩ := h.cp hp
  have vq : μ.1 (e + 13 + 4 * p + 1 + 0) L.length = q.1 := d12 L.length q (by rw [hL, List.getElem?_append_right (Nat.le_refl _), Nat.sub_self]; rfl) 0 (by decide)
  have Rq := (Rg_drp (r := 1) h.2.1 hp hL (by decide)).1
  have hn : ((zQ S p).length : Int) - 1 = (L.length : Int) := by omega
  refine ⟨cs8 rfl, hq, ?_⟩
  rw [d11]
  refine ⟨⟨by omega, by omega⟩, fun _ => ⟨hq, hq, ?_⟩, fun z => absurd z (by omega)⟩
  rw [d11, hn]
  refine ⟨hq, hq, hq, a0.1, ?_, ?_, hq, hq, hq, a0.1, ?_, ?_, ?_⟩
  · show (0 : Int) ≤ uM μ.1 (e + 13 + 4 * p) 11 (L.length : Int) (e + 13 + 4 * p) 11; rw [uM_s]; omega
  · show uM μ.1 (e + 13 + 4 * p) 11 (L.length : Int) (e + 13 + 4 * p) 11 < ((ln (e + 13 + 4 * p + 1 + 0) : Nat) : Int); rw [uM_s, a0.2]; omega
  · show (0 : Int) ≤ uM (uM μ.1 (e + 13 + 4 * p) 11 (L.length : Int)) (e + 13 + 4 * p) 5 _ (e + 13 + 4 * p) 11; rw [uM_k (by decide), uM_s]; omega
  · show uM (uM μ.1 (e + 13 + 4 * p) 11 (L.length : Int)) (e + 13 + 4 * p) 5 _ (e + 13 + 4 * p) 11 < ((ln (e + 13 + 4 * p + 1 + 0) : Nat) : Int); rw [uM_k (by decide), uM_s, a0.2]; omega
  · show K (some (.inl (uM (uM μ.1 (e + 13 + 4 * p) 11 (L.length : Int)) (e + 13 + 4 * p) 5 (uM μ.1 (e + 13 + 4 * p) 11 (L.length : Int) (e + 13 + 4 * p) 5 - uM μ.1 (e + 13 + 4 * p) 11 (L.length : Int) (e + 13 + 4 * p + 1 + 0) (uM μ.1 (e + 13 + 4 * p) 11 (L.length : Int) (e + 13 + 4 * p) 11).toNat) (e + 13 + 4 * p + 1 + 0) (uM (uM μ.1 (e + 13 + 4 * p) 11 (L.length : Int)) (e + 13 + 4 * p) 5 (uM μ.1 (e + 13 + 4 * p) 11 (L.length : Int) (e + 13 + 4 * p) 5 - uM μ.1 (e + 13 + 4 * p) 11 (L.length : Int) (e + 13 + 4 * p + 1 + 0) (uM μ.1 (e + 13 + 4 * p) 11 (L.length : Int) (e + 13 + 4 * p) 11).toNat) (e + 13 + 4 * p) 11).toNat))) (uM (uM μ.1 (e + 13 + 4 * p) 11 (L.length : Int)) (e + 13 + 4 * p) 5 (uM μ.1 (e + 13 + 4 * p) 11 (L.length : Int) (e + 13 + 4 * p) 5 - uM μ.1 (e + 13 + 4 * p) 11 (L.length : Int) (e + 13 + 4 * p + 1 + 0) (uM μ.1 (e + 13 + 4 * p) 11 (L.length : Int) (e + 13 + 4 * p) 11).toNat), μ.2)
    have e1 : uM μ.1 (e + 13 + 4 * p) 11 (L.length : Int) (e + 13 + 4 * p) 5 - uM μ.1 (e + 13 + 4 * p) 11 (L.length : Int) (e + 13 + 4 * p + 1 + 0) (uM μ.1 (e + 13 + 4 * p) 11 (L.length : Int) (e + 13 + 4 * p) 11).toNat = usd S p - q.1 := by
      rw [uM_k (by decide), uM_s, uM_e (by omega), Int.toNat_natCast, vq, d5]
    rw [e1, uM_k (k' := 11) (by decide), uM_s, Int.toNat_natCast, uM_e (by omega), uM_e (by omega), vq]
    refine hK _ ⟨hs, Rq, ?_⟩ ⟨fun a ha => ?_, rfl⟩
    · refine CR_pt h.2.2 hp h6 (fun a ha => ?_) rfl rfl rfl rfl rfl rfl rfl rfl (fun _ _ => rfl) (fun q' hq' => if_neg hq') ?_
      · show uM (uM μ.1 _ _ _) _ _ _ a = _
        rw [uM_r (by omega), uM_r (by omega)]
      · have zq : zQ (stQ S (uQq (zQ S) p L)) p = L := if_pos rfl
        have zu : usd (stQ S (uQq (zQ S) p L)) p = usd S p - q.1 := by
          show sm ((zQ (stQ S (uQq (zQ S) p L)) p).map _) = sm ((zQ S p).map _) - q.1
          rw [zq, hL, List.map_append, sm_app]
          show _ = _ + (q.1 + 0) - q.1
          omega
        unfold CP
        rw [zq, zu]
        refine ⟨d0, ?_, ?_, ?_, ?_, uM_s, ?_, ?_, ?_, ?_, ?_, ?_, fun i r hr j hj => ?_⟩
        · exact ((uM_k (by decide)).trans (uM_k (by decide))).trans d1
        · exact ((uM_k (by decide)).trans (uM_k (by decide))).trans d2
        · exact ((uM_k (by decide)).trans (uM_k (by decide))).trans d3
        · exact ((uM_k (by decide)).trans (uM_k (by decide))).trans d4
        · exact ((uM_k (by decide)).trans (uM_k (by decide))).trans d6
        · exact ((uM_k (by decide)).trans (uM_k (by decide))).trans d7
        · exact ((uM_k (by decide)).trans (uM_k (by decide))).trans d8
        · exact ((uM_k (by decide)).trans (uM_k (by decide))).trans d9
        · exact ((uM_k (by decide)).trans (uM_k (by decide))).trans d10
        · exact (uM_k (by decide)).trans uM_s
        · show uM (uM μ.1 _ _ _) _ _ _ (e + 13 + 4 * p + 1 + j) i = _
          rw [uM_e (by omega), uM_e (by omega)]
          have hi := (List.getElem?_eq_some_iff.mp hr).1
          exact d12 i r (by rw [hL, List.getElem?_append_left hi]; exact hr) j hj
    · show uM (uM μ.1 _ _ _) _ _ _ a = _
      rw [uM_r (by omega), uM_r (by omega)]
theorem takeBack98_lp {K : Option AV → MM → Prop} {e b r : Nat} (hr : 1 ≤ r ∧ r ≤ 3) : ∀ (k : Nat) (μ : MM) (S : AS), (zQ S b).length = k → HC e μ S → b < zN S → 0 ≤ rom S b → (∀ μ', HC e μ' (shr k S b r) → FC e μ μ' → K none μ') → B_X6_takeBack_98 K [some (.inr (.inr e)), none, none, some (.inl (r : Int)), none, some (.inl (b : Int)), some (.inr (.inr (e + 13 + 4 * b))), some (.inl (k : Int))] [] μ := by
  intro k
  induction k with
  | zero =>
    intro μ S hk h hb hrm hK
    exact lfp_in ⟨⟨by omega, by omega⟩, fun _ => hK μ h FC.refl, fun z => absurd (by decide) z⟩
  | succ k ih =>
    intro μ S hk h hb hrm hK
    have h6 := h.2.1.n6
    have hl := h.2.1.ql hb
    have hf := h.2.1.spR hb
    have hfe : fre S b = rom S b - usd S b := rfl
    have hq := sw_pt h.1 (p := b) (by omega)
    refine lfp_in ⟨⟨by omega, by omega⟩, fun z => absurd z (by omega), fun _ => ⟨hq, cs8 rfl, h.free hb ⟨⟨by omega, by omega⟩, fun q => ?_, fun q => ?_⟩⟩⟩
    · have es : shr (k + 1) S b r = S := if_pos (by omega)
      rw [es] at hK
      exact hK μ h FC.refl
    · have es : shr (k + 1) S b r = shr k (drn S b r) b r := if_neg (by omega)
      rw [es] at hK
      have hne : zQ S b ≠ [] := fun z => by rw [z] at hk; exact absurd hk (by simp)
      obtain ⟨L, x, hL⟩ : ∃ L x, zQ S b = L ++ [x] := ⟨(zQ S b).dropLast, (zQ S b).getLast hne, (List.dropLast_concat_getLast hne).symm⟩
      have hg2 : (zQ S b).getLast? = some x := by rw [hL, List.getLast?_concat]
      have hd : (zQ S b).dropLast = L := by rw [hL, List.dropLast_concat]
      obtain ⟨R1, R2⟩ := Rg_drp (r := (r : Int)) h.2.1 hb hL (by omega)
      have ed : drn S b r = nte (stQ S (uQq (zQ S) b L)) b x.1 r := by rw [drn_eq hg2, hd]
      have hs := Sm_drn (r := (r : Int)) hg2
      refine ⟨hq, cs8 rfl, P_X2_removeNewest h hb hL (fun μ1 H1 F1 => ⟨sw_s h.1, cs8 rfl, P_X6_recordDrop b r H1 rfl rfl hb hr R2 (fun μ2 H2 F2 => ?_)⟩)⟩
      rw [← ed] at H2
      have hlen : (zQ (drn S b r) b).length = k := by
        rw [ed]
        show ((if b = b then L else zQ S b)).length = k
        rw [if_pos rfl]
        rw [hL, List.length_append] at hk
        exact Nat.succ.inj hk
      have key := ih μ2 (drn S b r) hlen H2 (by rw [hs.1]; exact hb) (by rw [hs.rom]; exact hrm) (fun μ' H' F' => hK μ' H' (F1.trans (F2.trans F')))
      rw [show (k : Int) = ((k + 1 : Nat) : Int) + -1 by omega] at key
      exact key
