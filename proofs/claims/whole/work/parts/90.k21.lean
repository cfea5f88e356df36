/-! PURE 78: the class reads scripts -/
theorem rp_c' (E : List Cm) : ∀ n, rp n E ++ E = E ++ rp n E := by
  intro n
  induction n with
  | zero => show [] ++ E = E ++ []; rw [List.nil_append, List.append_nil]
  | succ n ih => show (rp n E ++ E) ++ E = E ++ (rp n E ++ E); rw [ih, List.append_assoc, ih]
theorem t40 (X : List Cm) (Y : List Cm) : (X.take 40 ++ Y).take 40 = (X ++ Y).take 40 := by
  by_cases h : 40 ≤ X.length
  · rw [List.take_append_of_le_length (by rw [List.length_take]; omega), List.take_append_of_le_length h, List.take_take, Nat.min_self]
  · rw [List.take_of_length_le (by omega : X.length ≤ 40)]
theorem t40_l {X : List Cm} (Y : List Cm) (h : 40 ≤ X.length) : (X ++ Y).take 40 = X.take 40 := List.take_append_of_le_length h
theorem rp_len (E : List Cm) : ∀ n, 1 ≤ n → E.length ≤ (rp n E).length := by
  intro n hn
  cases n with
  | zero => omega
  | succ n => show E.length ≤ (rp n E ++ E).length; rw [List.length_append]; omega
/-- body copied up to j -/
def zC' (F cur : List Cm) (d j : Nat) : List Cm := (F ++ rp d cur ++ cur.take j).take 40
theorem zC_s {F cur : List Cm} {d i : Nat} {x : Cm} (hd : 1 ≤ d) (h1 : min 40 F.length ≤ i) (h2 : i < min 40 (F.length + cur.length)) (hx : (zC' F cur d (i - min 40 F.length))[i]? = some x) : (zC' F cur d (i - min 40 F.length) ++ [x]).take 40 = zC' F cur d (i + 1 - min 40 F.length) := by
  unfold zC' at *
  rw [t40]
  have hl := rp_len cur d hd
  by_cases c : F.length + cur.length ≤ 40
  · rw [show min 40 F.length = F.length by omega] at *
    have hi : i < 40 := by omega
    obtain ⟨d, rfl⟩ : ∃ m, d = m + 1 := ⟨d - 1, by omega⟩
    have e1 : F ++ rp (d + 1) cur ++ cur.take (i - F.length) = F ++ (cur ++ (rp d cur ++ cur.take (i - F.length))) := by
      show F ++ (rp d cur ++ cur) ++ cur.take (i - F.length) = _
      rw [rp_c', List.append_assoc, List.append_assoc]
    rw [List.getElem?_take, if_pos hi, e1, List.getElem?_append, if_neg (by omega), List.getElem?_append, if_pos (by omega)] at hx
    have e2 : cur.take (i - F.length + 1) = cur.take (i - F.length) ++ [x] := by rw [List.take_add_one, hx]; rfl
    rw [show i + 1 - F.length = i - F.length + 1 by omega, e2, List.append_assoc (F ++ rp (d + 1) cur)]
  · have hb : 40 ≤ (F ++ rp d cur).length := by rw [List.length_append]; omega
    rw [t40_l _ hb, List.append_assoc, t40_l _ hb]
theorem zC_e {F cur : List Cm} {d : Nat} (hd : 1 ≤ d) : zC' F cur d (min 40 (F.length + cur.length) - min 40 F.length) = (F ++ rp (d + 1) cur).take 40 := by
  unfold zC'
  have hl := rp_len cur d hd
  by_cases c : F.length + cur.length ≤ 40
  · rw [show min 40 (F.length + cur.length) - min 40 F.length = cur.length by omega, List.take_of_length_le (Nat.le_refl _), List.append_assoc]
    rfl
  · have hb : 40 ≤ (F ++ rp d cur).length := by rw [List.length_append]; omega
    rw [t40_l _ hb]
    show _ = (F ++ (rp d cur ++ cur)).take 40
    rw [← List.append_assoc, t40_l _ hb]
theorem zC_l {F cur : List Cm} {d i j : Nat} (hd : 1 ≤ d) (h2 : i < min 40 (F.length + cur.length)) : i < (zC' F cur d j).length := by
  unfold zC'
  have hl := rp_len cur d hd
  rw [List.length_take, List.length_append, List.length_append]
  omega
theorem zC_0 (F cur : List Cm) (d : Nat) : zC' F cur d 0 = (F ++ rp d cur).take 40 := by
  unfold zC'
  rw [List.take_zero, List.append_nil]
theorem full_app (st : List (Nat × List Cm)) (X Y : List Cm) : full st (X ++ Y) = full st X ++ Y := by
  cases st with
  | nil => rfl
  | cons q s => show full s q.2 ++ (X ++ Y) = full s q.2 ++ X ++ Y; rw [List.append_assoc]
def CS (μ : MM) (stk : List (Nat × List Cm)) (cur : List Cm) (w : Nat) : Prop := SC μ ((full stk cur).take 40) ∧ μ.1 4 8 = (stk.length : Int) ∧ μ.1 4 5 = (w : Int) ∧ SK μ stk
theorem CS.f1 {ks : List Nat} {μ μ' : MM} {stk : List (Nat × List Cm)} {cur : List Cm} {w : Nat} (h : CS μ stk cur w) (hf : F1 ks μ μ') : CS μ' stk cur w := ⟨h.1.f1 hf, by rw [hf.1 4 (by decide)]; exact h.2.1, by rw [hf.1 4 (by decide)]; exact h.2.2.1, SK.eq (hf.1 9 (by decide)) (hf.1 10 (by decide)) h.2.2.2⟩
/-- the body of a repeat is written out once more -/
theorem close45_lp {K : Option AV → MM → Prop} {K28 : PT} {F cur : List Cm} {d : Nat} {J : Mi} (hd : 1 ≤ d) : ∀ (k i : Nat) (I : Mi), i + k = min 40 (F.length + cur.length) → min 40 F.length ≤ i → SC (I, J) (zC' F cur d (i - min 40 F.length)) → (∀ I', SC (I', J) ((F ++ rp (d + 1) cur).take 40) → FSc (I, J) (I', J) → FCm (I, J) (I', J) → (∀ a, (a < 4 ∨ 9 ≤ a) → I' a = I a) → K28 [some (.inr (.inr 4)), some (.inr (.inr 1)), some (.inl ((min 40 F.length : Nat) : Int)), some (.inl ((min 40 (F.length + cur.length) : Nat) : Int)), some (.inl ((d : Int) + 1)), none] [] (I', J)) → B_X5_closeRepeat_45 K K28 [some (.inr (.inr 4)), some (.inr (.inr 1)), some (.inl ((min 40 F.length : Nat) : Int)), some (.inl ((min 40 (F.length + cur.length) : Nat) : Int)), some (.inl (d : Int)), some (.inl (i : Int))] [] (I, J) := by
  intro k
  induction k with
  | zero =>
    intro i I hi h1 h hK
    refine lfp_in ⟨⟨by omega, by omega⟩, ⟨by omega, by omega⟩, fun _ => ?_, fun z => absurd (by show ((min 40 (F.length + cur.length) : Nat) : Int) ≤ (i : Int); omega) z⟩
    refine hK I ?_ FSc.refl FCm.refl (fun _ _ => rfl)
    rw [← zC_e hd, ← hi]
    exact h
  | succ k ih =>
    intro i I hi h1 h hK
    have h2 : i < min 40 (F.length + cur.length) := by omega
    have hz := zC_l (j := i - min 40 F.length) hd h2
    obtain ⟨x, hx⟩ : ∃ x, (zC' F cur d (i - min 40 F.length))[i]? = some x := ⟨_, List.getElem?_eq_getElem hz⟩
    obtain ⟨y1, y2, y3, y4⟩ := h.2.2 i x hx
    have A := fun j (hj : j < 4) => (h5a j hj).1
    have l0 : ∀ j, j < 4 → (i : Int) < ((ln (5 + j) : Nat) : Int) := fun j hj => by rw [(h5a j hj).2]; omega
    refine lfp_in ⟨⟨by omega, by omega⟩, ⟨by omega, by omega⟩, fun z => absurd z (by show ¬ ((min 40 (F.length + cur.length) : Nat) : Int) ≤ (i : Int); omega), fun _ => ⟨h4S, A 0 (by decide), by omega, l0 0 (by decide), h4S, A 1 (by decide), by omega, l0 1 (by decide), h4S, A 2 (by decide), by omega, l0 2 (by decide), h4S, A 3 (by decide), by omega, l0 3 (by decide), h4S, cs8 rfl, ?_⟩⟩
    refine P_X5_add (c := x) h ⟨y1.symm, y2.symm, y3.symm, y4.symm⟩ (fun I1 s1 F1a C1 fr1 => ?_)
    rw [zC_s hd h1 h2 hx] at s1
    exact ih (i + 1) I1 (by omega) (by omega) s1 (fun I' s' F' C' fr' => hK I' s' (F1a.trans F') (C1.trans C') (fun a ha => (fr' a ha).trans (fr1 a ha)))
theorem close28_lp {K : Option AV → MM → Prop} {F cur : List Cm} {dp n : Nat} {J : Mi} (hn : n ≤ 20) (hdp : dp < 2) : ∀ (k d : Nat) (I : Mi), d + k = n → 1 ≤ d → SC (I, J) ((F ++ rp d cur).take 40) → I 4 8 = (dp : Int) → I 10 dp = (n : Int) → (∀ I', SC (I', J) ((F ++ rp n cur).take 40) → FSc (I, J) (I', J) → FCm (I, J) (I', J) → (∀ a, (a < 4 ∨ 9 ≤ a) → I' a = I a) → o_aload 1 (o_ci 59 (o_callV 1 8 w_X8_takeSign (o_zret K))) [some (.inr (.inr 4)), some (.inr (.inr 1)), some (.inl ((min 40 F.length : Nat) : Int)), some (.inl ((min 40 (F.length + cur.length) : Nat) : Int)), some (.inl (n : Int)), none] [] (I', J)) → B_X5_closeRepeat_28 K [some (.inr (.inr 4)), some (.inr (.inr 1)), some (.inl ((min 40 F.length : Nat) : Int)), some (.inl ((min 40 (F.length + cur.length) : Nat) : Int)), some (.inl (d : Int)), none] [] (I, J) := by
  intro k
  induction k with
  | zero =>
    intro d I hd h1 h g8 g10 hK
    have : d = n := by omega
    subst this
    refine lfp_in ⟨h4S, h4S, ?_⟩
    show o_iald _ _ [.inl (I 4 8), .inr (.inr 10), .inl (d : Int)] (I, J)
    rw [g8]
    refine ⟨h10a.1, by omega, by show (dp : Int) < ((ln 10 : Nat) : Int); rw [h10a.2]; omega, ?_⟩
    show o_icmp_ge _ _ _ [.inl (I 10 dp), .inl (d : Int)] (I, J)
    rw [g10]
    exact ⟨⟨by omega, by omega⟩, ⟨by omega, by omega⟩, fun _ => hK I h FSc.refl FCm.refl (fun _ _ => rfl), fun z => absurd (Int.le_refl _) z⟩
  | succ k ih =>
    intro d I hd h1 h g8 g10 hK
    refine lfp_in ⟨h4S, h4S, ?_⟩
    show o_iald _ _ [.inl (I 4 8), .inr (.inr 10), .inl (d : Int)] (I, J)
    rw [g8]
    refine ⟨h10a.1, by omega, by show (dp : Int) < ((ln 10 : Nat) : Int); rw [h10a.2]; omega, ?_⟩
    show o_icmp_ge _ _ _ [.inl (I 10 dp), .inl (d : Int)] (I, J)
    rw [g10]
    refine ⟨⟨by omega, by omega⟩, ⟨by omega, by omega⟩, fun z => absurd z (by show ¬ (n : Int) ≤ (d : Int); omega), fun _ => ?_⟩
    have key := close45_lp (K := K) (K28 := B_X5_closeRepeat_28 K) (F := F) (cur := cur) (J := J) h1 (min 40 (F.length + cur.length) - min 40 F.length) (min 40 F.length) I (by omega) (Nat.le_refl _) (by rw [Nat.sub_self, zC_0]; exact h) (fun I' s' F' C' fr' => ih (d + 1) I' (by omega) (by omega) s' ((C'.1 8 (by decide)).trans g8) (by show I' 10 dp = _; rw [fr' 10 (by omega)]; exact g10) (fun I2 s2 F2 C2 fr2 => hK I2 s2 (F'.trans F2) (C'.trans C2) (fun a ha => (fr2 a ha).trans (fr' a ha))))
    exact st_i (L' := [some (.inr (.inr 4)), some (.inr (.inr 1)), some (.inl ((min 40 F.length : Nat) : Int)), some (.inl ((min 40 (F.length + cur.length) : Nat) : Int)), some (.inl (d : Int)), some (.inl ((min 40 F.length : Nat) : Int))]) rfl key
theorem P_X5_closeRepeat {I J : Mi} {K : Option AV → MM → Prop} {B : List Int} {e w n : Nat} {S : AS} {st : List (Nat × List Cm)} {out cur : List Cm} (sd : SD (I, J) B S) (u : I 1 4 = e) (he : e ≤ B.length) (cs : CS (I, J) ((n, out) :: st) cur w) (hd : st.length < 2) (k1 : ∀ e', sgn B e 59 = .inr e' → ∀ I' J', FSc (I, J) (I', J') → SD (I', J') B S → I' 1 4 = ((e' : Nat) : Int) → CS (I', J') st (out ++ rp n cur) w → K (some (.inl 1)) (I', J')) (k0 : ∀ x, sgn B e 59 = .inl x → ∀ μ', FSc (I, J) μ' → ErC μ' x → K (some (.inl 0)) μ') : w_X5_closeRepeat [.inr (.inr 4), .inr (.inr 1)] (I, J) K := by
  have hB := sd.1.2.2.2
  obtain ⟨c1, c2, c3, ⟨c4, c5⟩, ⟨c6, c7⟩, c8⟩ := cs
  have c2 : I 4 8 = ((st.length + 1 : Nat) : Int) := c2
  have c4 : I 10 st.length = (n : Int) := c4
  have c5 : I 9 st.length = ((min 40 (full st out).length : Nat) : Int) := c5
  generalize hF : full st out = F at *
  have hfull : full ((n, out) :: st) cur = F ++ cur := by rw [← hF]; rfl
  rw [hfull] at c1
  have c44 : I 4 4 = ((min 40 (F.length + cur.length) : Nat) : Int) := by
    have := c1.2.1
    rw [List.length_take, List.length_append] at this
    exact this
  refine ⟨cs8 rfl, h4S, h4S, ?_⟩
  show o_aload 0 _ _ [] (uM I 4 8 (I 4 8 - 1), J)
  rw [c2, show ((st.length + 1 : Nat) : Int) - 1 = (st.length : Int) by omega]
  generalize hY : uM I 4 8 (st.length : Int) = Y
  have y : ∀ a, a ≠ 4 → Y a = I a := fun a q => by rw [← hY]; exact uM_r q
  have y4 : ∀ j, j ≠ 8 → Y 4 j = I 4 j := fun j q => by rw [← hY]; exact uM_k q
  have y8 : Y 4 8 = (st.length : Int) := by rw [← hY]; exact uM_s
  refine ⟨h4S, h4S, ?_⟩
  show o_iald _ _ [.inl (Y 4 8), .inr (.inr 9)] (Y, J)
  rw [y8]
  refine ⟨h9a.1, by omega, by show (st.length : Int) < ((ln 9 : Nat) : Int); rw [h9a.2]; omega, ?_⟩
  show o_istore 2 _ _ [.inl (Y 9 st.length)] (Y, J)
  rw [y 9 (by decide), c5]
  refine st_i (L' := [some (.inr (.inr 4)), some (.inr (.inr 1)), some (.inl ((min 40 F.length : Nat) : Int)), none, none, none]) rfl ⟨h4S, ?_⟩
  show o_istore 3 _ _ [.inl (Y 4 4)] (Y, J)
  rw [y4 4 (by decide), c44]
  refine st_i (L' := [some (.inr (.inr 4)), some (.inr (.inr 1)), some (.inl ((min 40 F.length : Nat) : Int)), some (.inl ((min 40 (F.length + cur.length) : Nat) : Int)), none, none]) rfl (c_ci (st_i (L' := [some (.inr (.inr 4)), some (.inr (.inr 1)), some (.inl ((min 40 F.length : Nat) : Int)), some (.inl ((min 40 (F.length + cur.length) : Nat) : Int)), some (.inl ((1 : Nat) : Int)), none]) rfl ?_))
  have sdY : SD (Y, J) B S := sd.far (fun a q => y a (by omega))
  have scY : SC (Y, J) ((F ++ rp 1 cur).take 40) := by
    show SC (Y, J) ((F ++ ([] ++ cur)).take 40)
    rw [List.nil_append]
    exact ⟨c1.1, by show Y 4 4 = _; rw [y4 4 (by decide)]; exact c1.2.1, fun i c hc => by rw [show (Y, J).1 = Y from rfl, y 5 (by decide), y 6 (by decide), y 7 (by decide), y 8 (by decide)]; exact c1.2.2 i c hc⟩
  refine close28_lp (K := K) (F := F) (cur := cur) (dp := st.length) (n := n) (J := J) c7 hd (n - 1) 1 Y (by omega) (Nat.le_refl _) scY y8 (by rw [y 10 (by decide)]; exact c4) (fun I' s' F' C' fr' => ?_)
  have f0 : FSc (I, J) (I', J) := (FSc.far (fun a q => y a (by omega))).trans F'
  have sd' : SD (I', J) B S := sdY.far (fun a q => fr' a (by omega))
  have u' : I' 1 4 = (e : Int) := by rw [fr' 1 (by omega), y 1 (by decide)]; exact u
  have cs' : CS (I', J) st (out ++ rp n cur) w := ⟨by rw [full_app, hF]; exact s', (C'.1 8 (by decide)).trans y8, (C'.1 5 (by decide)).trans ((y4 5 (by decide)).trans c3), SK.eq (μ := (I, J)) (by show I' 9 = _; rw [fr' 9 (by omega), y 9 (by decide)]) (by show I' 10 = _; rw [fr' 10 (by omega), y 10 (by decide)]) c8⟩
  exact ⟨h1T, cs8 rfl, P_X8_takeSign sd'.1 u' he ⟨by decide, by decide⟩ (fun e' hs I2 J2 f2 t2 u2 => ⟨Or.inr rfl, k1 e' hs I2 J2 (f0.trans (f2.fs (by decide))) (sd'.f1 f2 (by decide)) u2 (cs'.f1 f2)⟩) (fun x hs μ' f2 er => ⟨Or.inl rfl, k0 x hs μ' (f0.trans (f2.fs (by decide))) er⟩)⟩
