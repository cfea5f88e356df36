/-! PURE 2: how the two memories hold a switch -/
theorem cs8 {n m : Nat} (h : Nat.ble n m = true) : n ≤ m := Nat.le_of_ble_eq_true h
theorem hM : isK 348 10 := ⟨by decide, by decide +kernel⟩
theorem hS9 : isK 349 11 := ⟨by decide, by decide +kernel⟩
theorem hN0 : isK 350 12 := ⟨by decide, by decide +kernel⟩
theorem ln349 : ln 349 = 20800 := by decide +kernel
theorem ln350 : ln 350 = 60 := by decide +kernel
theorem lnS {x : Int} (h : x < 20800) : x < ((ln 349 : Nat) : Int) := by rw [ln349]; exact h
theorem lnN {x : Int} (h : x < 60) : x < ((ln 350 : Nat) : Int) := by rw [ln350]; exact h
theorem td {x y : Int} (h : 0 ≤ x) : x.tdiv y = x / y := Int.tdiv_eq_ediv_of_nonneg h
def pk5 (w : List Nat) : Int := w.foldl (fun (a : Int) (c : Nat) => 32 * a + (c : Int)) 0
def pk8 (w : List Nat) : Int := w.foldl (fun (a : Int) (c : Nat) => 256 * a + (96 + (c : Int))) 0
def gw (r : Nat × Pkt) : Nat → Int
  | 0 => r.1
  | 1 => r.2.1
  | 2 => r.2.2.1
  | _ => r.2.2.2
def mw (m : Prm) : Nat → Int
  | 0 => m.1
  | 1 => m.2.1
  | 2 => m.2.2.1
  | _ => m.2.2.2
def dw (d : Drp) : Nat → Int
  | 0 => d.1
  | 1 => d.2.1
  | 2 => d.2.2.1
  | 3 => d.1
  | _ => d.2.2.2
def dv (d : Drp) : Nat → Int
  | 0 => d.1
  | 1 => d.2.1
  | 2 => d.2.2.1
  | _ => d.2.2.2
def qw (q : Pkt) : Nat → Int
  | 0 => q.1
  | 1 => q.2.1
  | _ => q.2.2
/-- rows of four in one array from b on -/
def R4 {α : Type} (f : Nat → Int) (b : Nat) (w : α → Nat → Int) (L : List α) : Prop := ∀ (i : Nat) (r : α), L[i]? = some r → ∀ j, j < 4 → f (b + 4 * i + j) = w r j
/-- columns in n arrays from entity a on -/
def RA {α : Type} (I : Mi) (a n : Nat) (w : α → Nat → Int) (L : List α) : Prop := ∀ (i : Nat) (r : α), L[i]? = some r → ∀ j, j < n → I (a + j) i = w r j
/-- what of a row of packets is a port's -/
def fo (p : Nat) : List (Nat × Pkt) → List Pkt
  | [] => []
  | g :: G => if g.1 = p then g.2 :: fo p G else fo p G
def hdm (S : AS) (g : Nat) : Nat → Int
  | 0 => zN S
  | 1 => zT S
  | 2 => zK S
  | 3 => zC S
  | 4 => (zD S).length
  | 5 => zA S
  | 6 => (zR S).length
  | 7 => g
  | 8 => (min 20 (zD S).length : Nat)
  | 9 => cnt (zD S) 1
  | 10 => cnt (zD S) 2
  | 11 => cnt (zD S) 3
  | _ => 0
/-- block b of the model holds S, its packets in the order G -/
def MR (b : Nat) (I J : Mi) (S : AS) (G : List (Nat × Pkt)) : Prop :=
  (∀ j, j < 12 → I 349 (2080 * b + j) = hdm S G.length j) ∧
  (∀ p, p < zN S → ∀ j, j < 8 → j ≠ 5 → I 349 (2080 * b + 12 + 8 * p + j) = zP S p j) ∧
  (∀ p, p < zN S → J 350 (6 * b + p) = pk5 (zM S p)) ∧
  R4 (I 349) (2080 * b + 60) gw G ∧ R4 (I 349) (2080 * b + 1020) mw (zR S) ∧
  (∀ i d, i < 20 → (zD S)[i]? = some d → ∀ j, j < 5 → I 349 (2080 * b + 1980 + 5 * (min 20 (zD S).length - 1 - i) + j) = dw d j) ∧
  (∀ g ∈ G, g.1 < zN S) ∧ (∀ p, p < zN S → fo p G = zQ S p)
def CP (q : Nat) (I J : Mi) (S : AS) (p : Nat) : Prop :=
  J q 0 = pk8 (zM S p) ∧ I q 1 = zP S p 0 ∧ I q 2 = zP S p 1 ∧ I q 3 = zP S p 2 ∧ I q 4 = zP S p 3 ∧ I q 5 = usd S p ∧ I q 6 = lnt S p ∧ I q 7 = brw S p ∧ I q 8 = zP S p 4 ∧ I q 9 = zP S p 6 ∧ I q 10 = zP S p 7 ∧ I q 11 = (zQ S p).length ∧ RA I (q + 1) 3 qw (zQ S p)
/-- the class's switch at entity e holds S -/
def CR (e : Nat) (I J : Mi) (S : AS) : Prop :=
  I e 1 = zN S ∧ I e 2 = zT S ∧ I e 3 = zK S ∧ I e 4 = zC S ∧ I e 5 = zA S ∧
  (∀ p, p < zN S → CP (e + 13 + 4 * p) I J S p) ∧
  I (e + 2) 4 = (zR S).length ∧ RA I (e + 3) 4 mw (zR S) ∧
  I (e + 7) 5 = (zD S).length ∧ (∀ i d, i < 20 → (zD S)[i]? = some d → ∀ j, j < 4 → I (e + 8 + j) (((zD S).length - 1 - i) % 20) = dv d j) ∧
  I (e + 12) 1 = cnt (zD S) 1 ∧ I (e + 12) 2 = cnt (zD S) 2 ∧ I (e + 12) 3 = cnt (zD S) 3
/-- the ranges of a port's numbers -/
def PR (P : Nat → Int) (A C D : Int) : Prop := (0 ≤ P 0 ∧ P 0 ≤ 40) ∧ (0 ≤ P 1 ∧ P 1 ≤ 9) ∧ (0 ≤ P 2 ∧ 0 ≤ P 3 ∧ P 2 + 4 * P 3 ≤ 640 + 160 * A) ∧ (0 ≤ P 4 ∧ P 4 ≤ D) ∧ (0 ≤ P 6 ∧ P 6 ≤ 40 * D) ∧ (0 ≤ P 7 ∧ P 7 ≤ 9 * C)
def wtn (S : AS) : Int := sg (zN S) (fun p => ((zQ S p).length : Int))
/-- the ranges of a switch -/
def Rg (S : AS) : Prop :=
  zN S ≤ 6 ∧ (1 ≤ zT S ∧ zT S ≤ 99) ∧ (0 ≤ zK S ∧ zK S ≤ 200) ∧ (0 ≤ zC S ∧ zC S ≤ 12000) ∧ (0 ≤ zA S ∧ zA S ≤ 30000) ∧
  (∀ p, p < zN S → PR (zP S p) (zA S) (zC S) (zD S).length) ∧
  (∀ p, p < zN S → ∀ q ∈ zQ S p, (1 ≤ q.1 ∧ q.1 ≤ 40) ∧ (1 ≤ q.2.1 ∧ q.2.1 ≤ 40) ∧ (0 ≤ q.2.2 ∧ q.2.2 ≤ 12000)) ∧
  wtn S ≤ 240 ∧ (zR S).length ≤ 240 ∧
  (∀ r ∈ zR S, r.1 < zN S ∧ r.2.1 < zN S ∧ (1 ≤ r.2.2.1 ∧ r.2.2.1 ≤ 40) ∧ (0 ≤ r.2.2.2 ∧ r.2.2.2 ≤ 3000000)) ∧
  ((zD S).length : Int) + wtn S ≤ zA S ∧
  (∀ d ∈ zD S, d.1 < zN S ∧ (1 ≤ d.2.1 ∧ d.2.1 ≤ 40) ∧ (1 ≤ d.2.2.1 ∧ d.2.2.1 ≤ 3) ∧ (0 ≤ d.2.2.2 ∧ d.2.2.2 ≤ 12000))
/-- what also holds between changes -/
def Gd (S : AS) : Prop := Rg S ∧ (∀ p, p < zN S → lnt S p ≤ zP S p 0 ∧ usd S p ≤ rom S p) ∧ (∀ r ∈ zR S, zC S < r.2.2.2 ∧ r.1 ≠ r.2.1) ∧ (zR S).Pairwise (fun a b => a.2.2.2 ≤ b.2.2.2)
/-- what a change of the model's block b leaves -/
def FM (b : Nat) (μ μ' : MM) : Prop := (∀ e, e ≠ 349 → μ'.1 e = μ.1 e) ∧ (∀ k, k < 2080 * b ∨ 2080 * b + 2080 ≤ k → μ'.1 349 k = μ.1 349 k) ∧ μ'.2 = μ.2
/-- what a change of the class's switch e leaves -/
def FC (e : Nat) (μ μ' : MM) : Prop := (∀ a, a < e ∨ e + 37 ≤ a → μ'.1 a = μ.1 a) ∧ μ'.2 = μ.2
/-! sums -/
theorem sm_app (a b : List Int) : sm (a ++ b) = sm a + sm b := by
  induction a with
  | nil => simp [sm]
  | cons x a ih => simp only [List.cons_append, sm, ih]; omega
theorem sm_nn {l : List Int} (h : ∀ x ∈ l, 0 ≤ x) : 0 ≤ sm l := by
  induction l with
  | nil => exact Int.le_refl 0
  | cons x l ih =>
    have h1 := h x List.mem_cons_self
    have h2 := ih (fun y hy => h y (List.mem_cons_of_mem _ hy))
    simp only [sm]; omega
theorem sm_le {l : List Int} {m : Int} (h : ∀ x ∈ l, x ≤ m) : sm l ≤ m * l.length := by
  induction l with
  | nil => simp [sm]
  | cons x l ih =>
    have h1 := h x List.mem_cons_self
    have h2 := ih (fun y hy => h y (List.mem_cons_of_mem _ hy))
    simp only [sm, List.length_cons]
    have e : m * ((l.length + 1 : Nat) : Int) = m * l.length + m := by rw [Int.natCast_add, Int.mul_add]; simp
    omega
theorem sm_ge {l : List Int} {m : Int} (h : ∀ x ∈ l, m ≤ x) : m * l.length ≤ sm l := by
  induction l with
  | nil => simp [sm]
  | cons x l ih =>
    have h1 := h x List.mem_cons_self
    have h2 := ih (fun y hy => h y (List.mem_cons_of_mem _ hy))
    simp only [sm, List.length_cons]
    have e : m * ((l.length + 1 : Nat) : Int) = m * l.length + m := by rw [Int.natCast_add, Int.mul_add]; simp
    omega
theorem sm_drop {α : Type} {L : List α} {f : α → Int} {i : Nat} {r : α} (h : L[i]? = some r) : sm ((L.drop i).map f) = f r + sm ((L.drop (i + 1)).map f) := by
  obtain ⟨hi, e⟩ := List.getElem?_eq_some_iff.mp h
  rw [List.drop_eq_getElem_cons hi, e]
  rfl
theorem sm_end {α : Type} {L : List α} {f : α → Int} {i : Nat} (h : L.length ≤ i) : sm ((L.drop i).map f) = 0 := by
  rw [List.drop_eq_nil_of_le h]
  rfl
theorem sg_congr {n : Nat} {f g : Nat → Int} (h : ∀ i, i < n → f i = g i) : sg n f = sg n g := by
  induction n with
  | zero => rfl
  | succ n ih => simp only [sg]; rw [ih (fun i hi => h i (by omega)), h n (by omega)]
theorem sg_add {n : Nat} {f g : Nat → Int} : sg n (fun i => f i + g i) = sg n f + sg n g := by
  induction n with
  | zero => rfl
  | succ n ih => simp only [sg, ih]; omega
theorem sg_le {n : Nat} {f g : Nat → Int} (h : ∀ i, i < n → f i ≤ g i) : sg n f ≤ sg n g := by
  induction n with
  | zero => exact Int.le_refl _
  | succ n ih =>
    have h1 := ih (fun i hi => h i (by omega))
    have h2 := h n (by omega)
    simp only [sg]; omega
theorem sg_0 {n : Nat} : sg n (fun _ => 0) = 0 := by
  induction n with
  | zero => rfl
  | succ n ih => simp only [sg, ih]; omega
theorem sg_c {n : Nat} {m : Int} : sg n (fun _ => m) = m * n := by
  induction n with
  | zero => simp [sg]
  | succ n ih => simp only [sg, ih]; rw [Int.natCast_add, Int.mul_add]; simp
theorem sg_nn {n : Nat} {f : Nat → Int} (h : ∀ i, i < n → 0 ≤ f i) : 0 ≤ sg n f := by
  have := sg_le (n := n) (f := fun _ => 0) (g := f) h
  rw [sg_0] at this
  exact this
theorem sg_one {n p : Nat} {f : Nat → Int} (hp : p < n) (h : ∀ i, i < n → i ≠ p → f i = 0) : sg n f = f p := by
  induction n with
  | zero => omega
  | succ n ih =>
    simp only [sg]
    by_cases hn : p = n
    · subst hn
      have : sg p f = 0 := by rw [sg_congr (g := fun _ => 0) (fun i hi => h i (by omega) (by omega)), sg_0]
      omega
    · have h1 := ih (by omega) (fun i hi => h i (by omega))
      have h2 := h n (by omega) (by omega)
      omega
theorem sg_ge {n p : Nat} {f : Nat → Int} (hp : p < n) (h : ∀ i, i < n → 0 ≤ f i) : f p ≤ sg n f := by
  induction n with
  | zero => omega
  | succ n ih =>
    simp only [sg]
    by_cases hn : p = n
    · subst hn
      have := sg_nn (n := p) (f := f) (fun i hi => h i (by omega))
      omega
    · have h1 := ih (by omega) (fun i hi => h i (by omega))
      have h2 := h n (by omega)
      omega
theorem fo_len {n : Nat} : ∀ {G : List (Nat × Pkt)}, (∀ g ∈ G, g.1 < n) → (G.length : Int) = sg n (fun p => ((fo p G).length : Int)) := by
  intro G
  induction G with
  | nil => intro _; show (0 : Int) = sg n (fun _ => 0); rw [sg_0]
  | cons g G ih =>
    intro h
    have h1 := ih (fun x hx => h x (List.mem_cons_of_mem _ hx))
    have hg := h g List.mem_cons_self
    have e : sg n (fun p => ((fo p (g :: G)).length : Int)) = sg n (fun p => (if p = g.1 then 1 else 0) + ((fo p G).length : Int)) := by
      refine sg_congr (fun i _ => ?_)
      by_cases q : g.1 = i
      · simp only [fo, q, if_true, List.length_cons]; omega
      · have q' : i ≠ g.1 := fun z => q z.symm
        simp only [fo, q, q', if_false]; omega
    rw [e, sg_add, ← h1, sg_one hg (fun i _ hi => if_neg hi), if_pos rfl]
    simp only [List.length_cons]; omega
theorem fo_sm {p : Nat} {f : Pkt → Int} : ∀ {G : List (Nat × Pkt)}, sm ((fo p G).map f) = sm (G.map (fun g => if g.1 = p then f g.2 else 0)) := by
  intro G
  induction G with
  | nil => rfl
  | cons g G ih =>
    by_cases q : g.1 = p
    · simp only [fo, q, if_true, List.map_cons, sm, ih]
    · simp only [fo, q, if_false, List.map_cons, sm, ih]; omega
theorem fo_mem {p : Nat} {q : Pkt} : ∀ {G : List (Nat × Pkt)}, q ∈ fo p G ↔ (p, q) ∈ G := by
  intro G
  induction G with
  | nil => exact Iff.intro (fun h => (List.not_mem_nil h).elim) (fun h => (List.not_mem_nil h).elim)
  | cons g G ih =>
    by_cases z : g.1 = p
    · simp only [fo, z, if_true, List.mem_cons, ih]
      constructor
      · rintro (rfl | h)
        · exact Or.inl (by rw [← z])
        · exact Or.inr h
      · rintro (h | h)
        · exact Or.inl (by rw [← h])
        · exact Or.inr h
    · simp only [fo, z, if_false, List.mem_cons, ih]
      constructor
      · exact Or.inr
      · rintro (h | h)
        · exact absurd (by rw [← h]) z
        · exact h
