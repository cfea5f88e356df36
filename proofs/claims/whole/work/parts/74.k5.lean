/-! PURE 62: words as numbers -/
def wOk (w : List Nat) : Prop := 1 ≤ w.length ∧ w.length ≤ 8 ∧ ∀ c ∈ w, 1 ≤ c ∧ c ≤ 26
theorem pk5_app (w : List Nat) (c : Nat) : pk5 (w ++ [c]) = 32 * pk5 w + (c : Int) := by
  unfold pk5
  rw [List.foldl_append]
  rfl
theorem pk8_app (w : List Nat) (c : Nat) : pk8 (w ++ [c]) = 256 * pk8 w + (96 + (c : Int)) := by
  unfold pk8
  rw [List.foldl_append]
  rfl
theorem snoc (w : List Nat) : w = [] ∨ ∃ v c, w = v ++ [c] := by
  cases h : w.reverse with
  | nil => exact Or.inl (List.reverse_eq_nil_iff.mp h)
  | cons c v => exact Or.inr ⟨v.reverse, c, by rw [← List.reverse_reverse w, h, List.reverse_cons]⟩
theorem pk5_r : ∀ (n : Nat) (w : List Nat), w.length = n → (∀ c ∈ w, 1 ≤ c ∧ c ≤ 26) → 0 ≤ pk5 w ∧ pk5 w < ((32 ^ n : Nat) : Int) := by
  intro n
  induction n with
  | zero =>
    intro w hw _
    have : w = [] := List.length_eq_zero_iff.mp hw
    subst this
    exact ⟨by decide, by decide⟩
  | succ n ih =>
    intro w hw h
    rcases snoc w with rfl | ⟨v, c, rfl⟩
    · exact absurd hw (Nat.succ_ne_zero n).symm
    · have hc := h c (List.mem_append_right _ List.mem_cons_self)
      obtain ⟨a, b⟩ := ih v (by rw [List.length_append] at hw; exact Nat.succ.inj hw) (fun x hx => h x (List.mem_append_left _ hx))
      rw [pk5_app]
      have e : ((32 ^ (n + 1) : Nat) : Int) = 32 * ((32 ^ n : Nat) : Int) := by rw [Nat.pow_succ]; omega
      rw [e]
      exact ⟨by omega, by omega⟩
theorem pk8_r : ∀ (n : Nat) (w : List Nat), w.length = n → (∀ c ∈ w, 1 ≤ c ∧ c ≤ 26) → 0 ≤ pk8 w ∧ 255 * pk8 w ≤ 122 * ((256 ^ n : Nat) : Int) - 122 := by
  intro n
  induction n with
  | zero =>
    intro w hw _
    have : w = [] := List.length_eq_zero_iff.mp hw
    subst this
    exact ⟨by decide, by decide⟩
  | succ n ih =>
    intro w hw h
    rcases snoc w with rfl | ⟨v, c, rfl⟩
    · exact absurd hw (Nat.succ_ne_zero n).symm
    · have hc := h c (List.mem_append_right _ List.mem_cons_self)
      obtain ⟨a, b⟩ := ih v (by rw [List.length_append] at hw; exact Nat.succ.inj hw) (fun x hx => h x (List.mem_append_left _ hx))
      rw [pk8_app]
      have e : ((256 ^ (n + 1) : Nat) : Int) = 256 * ((256 ^ n : Nat) : Int) := by rw [Nat.pow_succ]; omega
      rw [e]
      exact ⟨by omega, by omega⟩
theorem pk5_64 {w : List Nat} (h : wOk w) : R64 (pk5 w) ∧ 0 ≤ pk5 w := by
  obtain ⟨a, b⟩ := pk5_r _ w rfl h.2.2
  have : 32 ^ w.length ≤ 32 ^ 8 := Nat.pow_le_pow_right (by decide) h.2.1
  have e : (32 : Nat) ^ 8 = 1099511627776 := by decide
  exact ⟨⟨by omega, by omega⟩, a⟩
theorem pk8_64 {w : List Nat} (h : wOk w) : R64 (pk8 w) ∧ 0 ≤ pk8 w := by
  obtain ⟨a, b⟩ := pk8_r _ w rfl h.2.2
  have : 256 ^ w.length ≤ 256 ^ 8 := Nat.pow_le_pow_right (by decide) h.2.1
  have e : (256 : Nat) ^ 8 = 18446744073709551616 := by decide
  exact ⟨⟨by omega, by omega⟩, a⟩
theorem pk5_inj : ∀ (n : Nat) (w w' : List Nat), w.length ≤ n → (∀ c ∈ w, 1 ≤ c ∧ c ≤ 26) → (∀ c ∈ w', 1 ≤ c ∧ c ≤ 26) → pk5 w = pk5 w' → w = w' := by
  intro n
  induction n with
  | zero =>
    intro w w' hl h h' e
    have : w = [] := List.length_eq_zero_iff.mp (by omega)
    subst this
    rcases snoc w' with rfl | ⟨v, c, rfl⟩
    · rfl
    · have hc := h' c (List.mem_append_right _ List.mem_cons_self)
      have hv := (pk5_r _ v rfl (fun x hx => h' x (List.mem_append_left _ hx))).1
      rw [pk5_app] at e
      have e : (0 : Int) = 32 * pk5 v + c := e
      omega
  | succ n ih =>
    intro w w' hl h h' e
    rcases snoc w with rfl | ⟨u, d, rfl⟩
    · rcases snoc w' with rfl | ⟨v, c, rfl⟩
      · rfl
      · have hc := h' c (List.mem_append_right _ List.mem_cons_self)
        have hv := (pk5_r _ v rfl (fun x hx => h' x (List.mem_append_left _ hx))).1
        rw [pk5_app] at e
        have e : (0 : Int) = 32 * pk5 v + c := e
        omega
    · have hd := h d (List.mem_append_right _ List.mem_cons_self)
      have hu := (pk5_r _ u rfl (fun x hx => h x (List.mem_append_left _ hx))).1
      rw [pk5_app] at e
      rcases snoc w' with rfl | ⟨v, c, rfl⟩
      · have e : 32 * pk5 u + d = 0 := e
        omega
      · have hc := h' c (List.mem_append_right _ List.mem_cons_self)
        have hv := (pk5_r _ v rfl (fun x hx => h' x (List.mem_append_left _ hx))).1
        rw [pk5_app] at e
        have e1 : d = c := by omega
        have e2 : pk5 u = pk5 v := by omega
        rw [e1, ih u v (by rw [List.length_append] at hl; simp only [List.length_cons, List.length_nil] at hl; omega) (fun x hx => h x (List.mem_append_left _ hx)) (fun x hx => h' x (List.mem_append_left _ hx)) e2]
theorem pk8_inj : ∀ (n : Nat) (w w' : List Nat), w.length ≤ n → (∀ c ∈ w, 1 ≤ c ∧ c ≤ 26) → (∀ c ∈ w', 1 ≤ c ∧ c ≤ 26) → pk8 w = pk8 w' → w = w' := by
  intro n
  induction n with
  | zero =>
    intro w w' hl h h' e
    have : w = [] := List.length_eq_zero_iff.mp (by omega)
    subst this
    rcases snoc w' with rfl | ⟨v, c, rfl⟩
    · rfl
    · have hc := h' c (List.mem_append_right _ List.mem_cons_self)
      have hv := (pk8_r _ v rfl (fun x hx => h' x (List.mem_append_left _ hx))).1
      rw [pk8_app] at e
      have e : (0 : Int) = 256 * pk8 v + (96 + c) := e
      omega
  | succ n ih =>
    intro w w' hl h h' e
    rcases snoc w with rfl | ⟨u, d, rfl⟩
    · rcases snoc w' with rfl | ⟨v, c, rfl⟩
      · rfl
      · have hc := h' c (List.mem_append_right _ List.mem_cons_self)
        have hv := (pk8_r _ v rfl (fun x hx => h' x (List.mem_append_left _ hx))).1
        rw [pk8_app] at e
        have e : (0 : Int) = 256 * pk8 v + (96 + c) := e
        omega
    · have hd := h d (List.mem_append_right _ List.mem_cons_self)
      have hu := (pk8_r _ u rfl (fun x hx => h x (List.mem_append_left _ hx))).1
      rw [pk8_app] at e
      rcases snoc w' with rfl | ⟨v, c, rfl⟩
      · have e : 256 * pk8 u + (96 + d) = 0 := e
        omega
      · have hc := h' c (List.mem_append_right _ List.mem_cons_self)
        have hv := (pk8_r _ v rfl (fun x hx => h' x (List.mem_append_left _ hx))).1
        rw [pk8_app] at e
        have e1 : d = c := by omega
        have e2 : pk8 u = pk8 v := by omega
        rw [e1, ih u v (by rw [List.length_append] at hl; simp only [List.length_cons, List.length_nil] at hl; omega) (fun x hx => h x (List.mem_append_left _ hx)) (fun x hx => h' x (List.mem_append_left _ hx)) e2]
theorem pk5_eq {w w' : List Nat} (h : wOk w) (h' : wOk w') : pk5 w = pk5 w' ↔ w = w' := ⟨pk5_inj _ w w' (Nat.le_refl _) h.2.2 h'.2.2, fun e => by rw [e]⟩
theorem pk8_eq {w w' : List Nat} (h : wOk w) (h' : wOk w') : pk8 w = pk8 w' ↔ w = w' := ⟨pk8_inj _ w w' (Nat.le_refl _) h.2.2 h'.2.2, fun e => by rw [e]⟩
/-- the nine words of the grammars: port first term keep arrive tick back extend repeat -/
def wdN : List (List Nat) := [[16, 15, 18, 20], [6, 9, 18, 19, 20], [20, 5, 18, 13], [11, 5, 5, 16], [1, 18, 18, 9, 22, 5], [20, 9, 3, 11], [2, 1, 3, 11], [5, 24, 20, 5, 14, 4], [18, 5, 16, 5, 1, 20]]
def wd (i : Nat) : List Nat := wdN.getD i []
def w5L : List Int := [540244, 6605428, 661069, 365744, 53028549, 664683, 66667, 193598916, 609752116]
theorem wd_ok : ∀ i < 9, wOk (wd i) := by
  have : ∀ i < 9, 1 ≤ (wd i).length ∧ (wd i).length ≤ 8 ∧ ∀ c ∈ wd i, 1 ≤ c ∧ c ≤ 26 := by decide
  exact this
theorem wd_8 : ∀ i < 9, pk8 (wd i) = wdL.getD i 0 := by decide
theorem wd_5 : ∀ i < 9, pk5 (wd i) = w5L.getD i 0 := by decide
theorem sc_W {B : List Int} (hB : BR B) {e : Nat} (he : e ≤ B.length) (h : tkK (sc B e) = 1) : wOk (tkW (sc B e)) := (sc_facts hB he).2.2.2.2.2.2.1 h
/-- all names are words -/
def NM (S : AS) : Prop := ∀ p, p < zN S → wOk (zM S p)
/-- the port with a name, from i on -/
def fnd (M : Nat → List Nat) (w : List Nat) : Nat → Nat → Int
  | 0, _ => -1
  | k + 1, i => if M i = w then (i : Int) else fnd M w k (i + 1)
def nmd (S : AS) (w : List Nat) : Int := fnd (zM S) w (zN S) 0
theorem fnd_r (M : Nat → List Nat) (w : List Nat) : ∀ (k i : Nat), fnd M w k i = -1 ∨ ∃ p : Nat, fnd M w k i = p ∧ i ≤ p ∧ p < i + k := by
  intro k
  induction k with
  | zero => intro i; exact Or.inl rfl
  | succ k ih =>
    intro i
    unfold fnd
    split
    · exact Or.inr ⟨i, rfl, Nat.le_refl _, by omega⟩
    · rcases ih (i + 1) with h | ⟨p, h1, h2, h3⟩
      · exact Or.inl h
      · exact Or.inr ⟨p, h1, by omega, by omega⟩
theorem nmd_r (S : AS) (w : List Nat) : nmd S w = -1 ∨ ∃ p : Nat, nmd S w = p ∧ p < zN S := by
  rcases fnd_r (zM S) w (zN S) 0 with h | ⟨p, h1, h2, h3⟩
  · exact Or.inl h
  · exact Or.inr ⟨p, h1, by omega⟩
theorem portNamed_lp {μ : MM} {post : Option AV → MM → Prop} {e : Nat} {S : AS} (h : HC e μ S) (hn : NM S) {w : List Nat} (hw : wOk w) : ∀ (k i : Nat), i + k = zN S → post (some (.inl (fnd (zM S) w k i))) μ → B_X6_portNamed_2 post [some (.inr (.inr e)), some (.inr (.inl (pk8 w))), none, some (.inl (i : Int))] [] μ := by
  have h6 := h.2.1.n6
  intro k
  induction k with
  | zero =>
    intro i hi hK
    refine lfp_in ⟨sw_s h.1, ?_⟩
    show o_icmp_ge _ _ _ [.inl (μ.1 e 1), .inl (i : Int)] μ
    rw [h.n]
    exact ⟨⟨by omega, by omega⟩, ⟨by omega, by omega⟩, fun _ => hK, fun z => absurd (by show (zN S : Int) ≤ (i : Int); omega) z⟩
  | succ k ih =>
    intro i hi hK
    have hp : i < zN S := by omega
    have hnm : μ.2 (e + 13 + 4 * i) 0 = pk8 (zM S i) := (h.cp hp).1
    have r1 := pk8_64 (hn i hp)
    have r2 := pk8_64 hw
    refine lfp_in ⟨sw_s h.1, ?_⟩
    show o_icmp_ge _ _ _ [.inl (μ.1 e 1), .inl (i : Int)] μ
    rw [h.n]
    refine ⟨⟨by omega, by omega⟩, ⟨by omega, by omega⟩, fun z => absurd z (by show ¬ (zN S : Int) ≤ (i : Int); omega), fun _ => ⟨sw_s h.1, aq h.1 (p := i) (by omega) ⟨sw_pt h.1 (p := i) (by omega), ?_⟩⟩⟩
    show _ ∧ _ ∧ _
    rw [hnm]
    refine ⟨r1.1, r2.1, cm_r, fun z => ?_, fun z => ?_⟩
    · have : ¬ zM S i = w := fun y => z (cmp_z.mpr (by rw [y]))
      unfold fnd at hK
      rw [if_neg this] at hK
      exact ih (i + 1) (by omega) hK
    · have : zM S i = w := (pk8_eq (hn i hp) hw).mp (cmp_z.mp z)
      unfold fnd at hK
      rw [if_pos this] at hK
      exact hK
theorem P_X6_portNamed {μ : MM} {K : Option AV → MM → Prop} {e : Nat} {S : AS} {x : Int} {w : List Nat} (h : HC e μ S) (hn : NM S) (hw : wOk w) (hx : x = pk8 w) (hK : K (some (.inl (nmd S w))) μ) : w_X6_portNamed [.inr (.inr e), .inr (.inl x)] μ K := by
  subst hx
  exact ⟨cs8 rfl, portNamed_lp h hn hw (zN S) 0 (by omega) hK⟩
theorem named_lp {I J : Mi} {post : Option AV → MM → Prop} {b : Nat} {S : AS} {G : List (Nat × Pkt)} (h : HG b (I, J) S G) (hn : NM S) {w : List Nat} (hw : wOk w) (h12 : J 348 12 = pk5 w) : ∀ (k i : Nat), i + k = zN S → post (some (.inl (fnd (zM S) w k i))) (I, J) → B_X10_named_2 post [some (.inr (.inr 348)), some (.inl (i : Int))] [] (I, J) := by
  have h6 := h.2.2.1.n6
  intro k
  induction k with
  | zero =>
    intro i hi hK
    exact lfp_in ⟨hM, cs8 rfl, h.ofo 0 rfl (by omega) ⟨⟨by omega, by omega⟩, by show R32 (zN S : Int); exact ⟨by omega, by omega⟩, fun _ => hK, fun z => absurd (by show (zN S : Int) ≤ (i : Int); omega) z⟩⟩
  | succ k ih =>
    intro i hi hK
    have hp : i < zN S := by omega
    have hnm : J 350 (6 * b + i) = pk5 (zM S i) := h.2.2.2.2.2.1 i hp
    have r1 := pk5_64 (hn i hp)
    have r2 := pk5_64 hw
    refine lfp_in ⟨hM, cs8 rfl, h.ofo 0 rfl (by omega) ⟨⟨by omega, by omega⟩, by show R32 (zN S : Int); exact ⟨by omega, by omega⟩, fun z => absurd z (by show ¬ (zN S : Int) ≤ (i : Int); omega), fun _ => ⟨hM, cs8 rfl, P_X10_name b i h.1 rfl h.2.1 (by omega) ⟨hM, ?_⟩⟩⟩⟩
    show o_lcmp _ _ [.inr (.inl (J 348 12)), .inr (.inl (J 350 (6 * b + i)))] (I, J)
    rw [hnm, h12]
    refine ⟨r1.1, r2.1, cm_r, fun z => ?_, fun z => ?_⟩
    · have : ¬ zM S i = w := fun y => z (cmp_z.mpr (by rw [y]))
      unfold fnd at hK
      rw [if_neg this] at hK
      exact ih (i + 1) (by omega) hK
    · have : zM S i = w := (pk5_eq (hn i hp) hw).mp (cmp_z.mp z)
      unfold fnd at hK
      rw [if_pos this] at hK
      exact hK
theorem P_X10_named {I J : Mi} {K : Option AV → MM → Prop} {b : Nat} {S : AS} {G : List (Nat × Pkt)} {w : List Nat} (h : HG b (I, J) S G) (hn : NM S) (hw : wOk w) (h12 : J 348 12 = pk5 w) (hK : K (some (.inl (nmd S w))) (I, J)) : w_X10_named [.inr (.inr 348)] (I, J) K := ⟨cs8 rfl, named_lp h hn hw h12 (zN S) 0 (by omega) hK⟩
