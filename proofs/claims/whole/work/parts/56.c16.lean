/-! PURE 44: all that the class holds; its history -/
theorem HC_fr {e : Nat} {μ μ' : MM} {S : AS} (h : HC e μ S) (hf : ∀ a, e ≤ a → a < e + 37 → μ'.1 a = μ.1 a ∧ μ'.2 a = μ.2 a) : HC e μ' S := by
  have h6 := h.2.1.n6
  obtain ⟨c1, c2, c3, c4, c5, cp, c7, c8, c9, c10, c11, c12, c13⟩ := h.2.2
  have g : ∀ a, e ≤ a → a < e + 37 → μ'.1 a = μ.1 a := fun a h1 h2 => (hf a h1 h2).1
  refine ⟨h.1, h.2.1, ?_⟩
  unfold CR
  rw [g e (by omega) (by omega), g (e + 2) (by omega) (by omega), g (e + 7) (by omega) (by omega), g (e + 12) (by omega) (by omega)]
  exact ⟨c1, c2, c3, c4, c5, fun p hp => CP_tr (cp p hp) (g _ (by omega) (by omega)) (fun j hj => g _ (by omega) (by omega)) (hf _ (by omega) (by omega)).2 rfl rfl rfl rfl rfl rfl, c7, fun i m hm j hj => by rw [g _ (by omega) (by omega)]; exact c8 i m hm j hj, c9, fun i d hi hd j hj => by rw [g _ (by omega) (by omega)]; exact c10 i d hi hd j hj, c11, c12, c13⟩
theorem HC_fk {e e' : Nat} {μ μ' : MM} {S : AS} (h : HC e μ S) (hf : FK e' μ μ') (hd : e + 37 ≤ e' ∨ e' + 37 ≤ e) : HC e μ' S := HC_fr h (fun a h1 h2 => hf a (by omega))
/-- what can be had again, in the class: the latest at l -/
def HY (μ : MM) (H : List AS) : Prop := H.length ≤ 6 ∧ μ.1 122 2 = H.length ∧ ∃ l : Nat, l < 6 ∧ μ.1 122 1 = l ∧ ∀ (i : Nat) (s : AS), H[i]? = some s → HC (124 + 37 * ((l + 6 - i) % 6)) μ s
def SY (μ : MM) : Option AS → Prop
  | none => μ.1 0 6 = 0
  | some s => μ.1 0 6 = 1 ∧ HC 85 μ s
def CT (μ : MM) (T : TS) : Prop := (μ.1 1 1 = (tB T).length ∧ (tB T).length ≤ 600 ∧ AI (μ.1 2) (tB T)) ∧ (μ.1 1 2 = tE T ∧ μ.1 1 3 = tW T) ∧ HC 11 μ (tN T) ∧ SY μ (tS T) ∧ HY μ (tH T) ∧ (μ.1 346 1 = (tP T).length ∧ AI (μ.1 347) (tP T))
/-- the class's calls leave the model's memory -/
def FY (μ μ' : MM) : Prop := ∀ a, 348 ≤ a → μ'.1 a = μ.1 a ∧ μ'.2 a = μ.2 a
theorem FY.refl {μ : MM} : FY μ μ := fun _ _ => ⟨rfl, rfl⟩
theorem FY.trans {μ μ1 μ2 : MM} (h : FY μ μ1) (h' : FY μ1 μ2) : FY μ μ2 := fun a ha => ⟨(h' a ha).1.trans (h a ha).1, (h' a ha).2.trans (h a ha).2⟩
theorem FK.fy {e : Nat} {μ μ' : MM} (h : FK e μ μ') (he : e ≤ 311) : FY μ μ' := fun a ha => h a (by omega)
theorem h122 : isK 122 0 := ⟨by decide, by decide +kernel⟩
theorem h123 : isK 123 14 := ⟨by decide, by decide +kernel⟩
theorem sw_h (l : Nat) (h : l < 6) : sw (124 + 37 * l) := by
  have hh : l = 0 ∨ l = 1 ∨ l = 2 ∨ l = 3 ∨ l = 4 ∨ l = 5 := by omega
  rcases hh with rfl | rfl | rfl | rfl | rfl | rfl <;> decide
/-- from the row of switches to the one at l -/
theorem ah {l : Nat} (hl : l < 6) {kk : PT} {L : List (Option AV)} {r : List AV} {μ : MM} (hk : kk L (.inr (.inr (124 + 37 * l)) :: r) μ) : (0 : Int) ≤ (l : Int) ∧ (l : Int) < 6 ∧ ((isK (122 + ro 0 0) 13 ∧ kk L (.inr (.inr (122 + ro 0 0 + 12 + 4 * (l : Int).toNat)) :: r) μ) ∨ (isK (122 + ro 0 0) 14 ∧ kk L (.inr (.inr (122 + ro 0 0 + 1 + 37 * (l : Int).toNat)) :: r) μ)) := by
  refine ⟨by omega, by omega, Or.inr ⟨h123, ?_⟩⟩
  rw [Int.toNat_natCast, show 122 + ro 0 0 + 1 + 37 * l = 124 + 37 * l from by show 122 + 1 + 1 + 37 * l = _; omega]
  exact hk
theorem HC_put {e : Nat} {I J : Mi} {S : AS} {a k : Nat} {v : Int} (h : HC e (I, J) S) (ha : a < e ∨ e + 37 ≤ a) : HC e (uM I a k v, J) S := HC_fr h (fun b h1 h2 => ⟨uM_r (by omega), rfl⟩)
theorem sw_122 : ∀ e ∈ swL, e < 122 → e + 37 ≤ 122 := by decide
theorem P_X0_remember {I J : Mi} {K : Option AV → MM → Prop} {e : Nat} {S : AS} {H : List AS} (h : HC e (I, J) S) (he : e < 122) (hH : HY (I, J) H) (hK : ∀ I' J', HY (I', J') ((S :: H).take 6) → (∀ a, (a < 122 ∨ 346 ≤ a) → I' a = I a ∧ J' a = J a) → K none (I', J')) : w_X0_remember [.inr (.inr 122), .inr (.inr e)] (I, J) K := by
  obtain ⟨hl6, hn, l, hl, hla, hh⟩ := hH
  have hn : I 122 2 = (H.length : Int) := hn
  have hla : I 122 1 = (l : Int) := hla
  have hhe : e + 37 ≤ 122 := sw_122 e h.1 he
  have em : ((l : Int) + 1).tmod 6 = (((l + 1) % 6 : Nat) : Int) := by
    rw [Int.tmod_eq_emod_of_nonneg (by omega)]
    omega
  have hl' : (l + 1) % 6 < 6 := Nat.mod_lt _ (by decide)
  refine ⟨cs8 rfl, h122, ?_⟩
  show o_ci 1 _ _ [.inl (I 122 1), .inr (.inr 122)] (I, J)
  rw [hla]
  refine ⟨⟨by omega, by omega⟩, ⟨by omega, by omega⟩, by decide, ?_⟩
  show o_putI 0 1 _ _ [.inl (((l : Int) + 1).tmod 6), .inr (.inr 122)] (I, J)
  rw [em]
  refine ⟨h122, h122, h122, ?_⟩
  show o_aald _ _ [.inl (uM I 122 1 (((l + 1) % 6 : Nat) : Int) 122 1), .inr (.inr (122 + ro 0 0))] (uM I 122 1 (((l + 1) % 6 : Nat) : Int), J)
  rw [uM_s]
  refine ah hl' ⟨sw_s (sw_h _ hl'), cs8 rfl, P_X6_copyFrom (sw_h _ hl') (HC_put h (by omega)) (by omega) (fun I' J' hC hF => ⟨h122, ?_⟩)⟩
  have hF1 : ∀ a, (a < 124 + 37 * ((l + 1) % 6) ∨ 124 + 37 * ((l + 1) % 6) + 37 ≤ a) → I' a = uM I 122 1 (((l + 1) % 6 : Nat) : Int) a ∧ J' a = J a := hF
  have k2 : I' 122 2 = (H.length : Int) := by
    rw [(hF1 122 (by omega)).1, uM_k (by decide)]
    exact hn
  show o_ci 1 _ _ [.inl (I' 122 2), .inl 6, .inr (.inr 122)] (I', J')
  rw [k2]
  refine ⟨⟨by omega, by omega⟩, ⟨by omega, by omega⟩, cs8 rfl, h122, ?_⟩
  have hlen : ((S :: H).take 6).length = min 6 (H.length + 1) := by rw [List.length_take, List.length_cons]
  refine hK _ _ ⟨by rw [hlen]; omega, ?_, (l + 1) % 6, hl', ?_, fun i s hs => ?_⟩ (fun a ha => ⟨?_, ?_⟩)
  · show uM I' 122 2 (min 6 ((H.length : Int) + 1)) 122 2 = _
    rw [uM_s, hlen]
    omega
  · show uM I' 122 2 (min 6 ((H.length : Int) + 1)) 122 1 = _
    rw [uM_k (by decide), (hF1 122 (by omega)).1]
    exact uM_s
  · have hi := (List.getElem?_eq_some_iff.mp hs).1
    rw [hlen] at hi
    rw [List.getElem?_take, if_pos (by omega)] at hs
    cases i with
    | zero =>
      cases hs
      rw [show ((l + 1) % 6 + 6 - 0) % 6 = (l + 1) % 6 by omega]
      exact HC_put hC (by omega)
    | succ i =>
      rw [List.getElem?_cons_succ] at hs
      have g := hh i s hs
      have e1 : ((l + 1) % 6 + 6 - (i + 1)) % 6 = (l + 6 - i) % 6 := by omega
      have e2 : (l + 6 - i) % 6 ≠ (l + 1) % 6 := by omega
      rw [e1]
      exact HC_put (HC_fk (HC_put g (by omega)) hF (by omega)) (by omega)
  · show uM I' 122 2 (min 6 ((H.length : Int) + 1)) a = _
    rw [uM_r (by omega), (hF1 a (by omega)).1]
    exact uM_r (by omega)
  · exact (hF1 a (by omega)).2
