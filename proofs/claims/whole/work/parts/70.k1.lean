/-! PURE 58: tokens of a text -/
def bA (B : List Int) (i : Nat) : Int := match B[i]? with
  | some x => x
  | none => -1
abbrev isB (x : Int) : Bool := decide (x = 32 ∨ x = 10)
abbrev isL (x : Int) : Bool := decide (97 ≤ x ∧ x ≤ 122)
abbrev isD (x : Int) : Bool := decide (48 ≤ x ∧ x ≤ 57)
/-- the run of bytes with f from place i on -/
def rn (f : Int → Bool) (B : List Int) (i : Nat) : List Int := (B.drop i).takeWhile f
def skp (B : List Int) (i : Nat) : Nat := i + (rn isB B i).length
def nv (l : List Int) : Int := l.foldl (fun (n : Int) (x : Int) => 10 * n + x - 48) 0
def v5 (l : List Int) : Int := l.foldl (fun (n : Int) (x : Int) => 32 * n + x - 96) 0
def v8 (l : List Int) : Int := l.foldl (fun (n : Int) (x : Int) => n * 256 + x) 0
def let5 (l : List Int) : List Nat := l.map (fun x => (x - 96).toNat)
abbrev Tk : Type := Nat × Nat × Nat × List Nat × Int
abbrev tkK (t : Tk) : Nat := t.1
abbrev tkA (t : Tk) : Nat := t.2.1
abbrev tkE (t : Tk) : Nat := t.2.2.1
abbrev tkW (t : Tk) : List Nat := t.2.2.2.1
abbrev tkN (t : Tk) : Int := t.2.2.2.2
/-- the token at a: 0 end, 1 word, 2 number, 3 sign, 4 wrong -/
def tka (B : List Int) (a : Nat) : Tk :=
  if isL (bA B a) = true then (if (rn isL B a).length ≤ 8 then 1 else 4, a, a + (rn isL B a).length, let5 (rn isL B a), 0)
  else if isD (bA B a) = true then (if (rn isD B a).length ≤ 4 then 2 else 4, a, a + (rn isD B a).length, [], nv (rn isD B a))
  else if bA B a = 59 ∨ bA B a = 40 ∨ bA B a = 41 then (3, a, a + 1, [], bA B a)
  else if bA B a = -1 then (0, a, a, [], 0) else (4, a, a + 1, [], 0)
/-- the token that is read from e on -/
def sc (B : List Int) (e : Nat) : Tk := tka B (skp B e)
abbrev BR (B : List Int) : Prop := ∀ x ∈ B, 0 ≤ x ∧ x ≤ 255
theorem bA_at {B : List Int} {i : Nat} (h : i < B.length) : B[i]? = some (bA B i) := by
  unfold bA
  rw [List.getElem?_eq_getElem h]
theorem bA_no {B : List Int} {i : Nat} (h : B.length ≤ i) : bA B i = -1 := by
  unfold bA
  rw [List.getElem?_eq_none h]
theorem bA_r {B : List Int} (h : BR B) (i : Nat) : -1 ≤ bA B i ∧ bA B i ≤ 255 ∧ (bA B i = -1 ↔ B.length ≤ i) := by
  by_cases hi : i < B.length
  · have := h _ (List.mem_of_getElem? (bA_at hi))
    exact ⟨by omega, by omega, ⟨fun z => by omega, fun z => by omega⟩⟩
  · have := bA_no (B := B) (i := i) (by omega)
    exact ⟨by omega, by omega, ⟨fun z => by omega, fun z => this⟩⟩
theorem rn_s {f : Int → Bool} {B : List Int} {i : Nat} (h : i < B.length) (hf : f (bA B i) = true) : rn f B i = bA B i :: rn f B (i + 1) := by
  have e : B[i] = bA B i := by
    have := bA_at h
    rw [List.getElem?_eq_getElem h] at this
    exact Option.some.inj this
  unfold rn
  rw [List.drop_eq_getElem_cons h, e, List.takeWhile_cons, if_pos hf]
theorem rn_e {f : Int → Bool} {B : List Int} {i : Nat} (h : B.length ≤ i ∨ f (bA B i) = false) : rn f B i = [] := by
  unfold rn
  by_cases hi : i < B.length
  · have e : B[i] = bA B i := by
      have := bA_at hi
      rw [List.getElem?_eq_getElem hi] at this
      exact Option.some.inj this
    rw [List.drop_eq_getElem_cons hi, e, List.takeWhile_cons, if_neg (by rw [h.resolve_left (by omega)]; exact Bool.false_ne_true)]
  · rw [List.drop_eq_nil_of_le (by omega)]
    rfl
theorem rn_at {f : Int → Bool} {B : List Int} : ∀ (j a : Nat), j < (rn f B a).length → a + j < B.length ∧ f (bA B (a + j)) = true ∧ (rn f B a)[j]? = some (bA B (a + j)) := by
  intro j
  induction j with
  | zero =>
    intro a h
    by_cases hi : B.length ≤ a ∨ f (bA B a) = false
    · rw [rn_e hi] at h
      exact absurd h (Nat.not_lt_zero _)
    · have h1 : a < B.length := Nat.not_le.mp (fun z => hi (Or.inl z))
      have h2 : f (bA B a) = true := Bool.not_eq_false _ ▸ (fun z => hi (Or.inr z))
      rw [rn_s h1 h2]
      exact ⟨h1, h2, rfl⟩
  | succ j ih =>
    intro a h
    by_cases hi : B.length ≤ a ∨ f (bA B a) = false
    · rw [rn_e hi] at h
      exact absurd h (Nat.not_lt_zero _)
    · have h1 : a < B.length := Nat.not_le.mp (fun z => hi (Or.inl z))
      have h2 : f (bA B a) = true := Bool.not_eq_false _ ▸ (fun z => hi (Or.inr z))
      rw [rn_s h1 h2] at h ⊢
      have := ih (a + 1) (by rw [List.length_cons] at h; omega)
      rw [show a + 1 + j = a + (j + 1) by omega] at this
      exact this
theorem rn_end {f : Int → Bool} {B : List Int} (hm : f (-1) = false) : ∀ (n a : Nat), (rn f B a).length = n → f (bA B (a + n)) = false := by
  intro n
  induction n with
  | zero =>
    intro a h
    by_cases hi : a < B.length
    · by_cases hf : f (bA B a) = true
      · rw [rn_s hi hf] at h
        exact absurd h (Nat.succ_ne_zero _)
      · exact Bool.eq_false_iff.mpr hf
    · rw [bA_no (by omega)]
      exact hm
  | succ n ih =>
    intro a h
    by_cases hi : B.length ≤ a ∨ f (bA B a) = false
    · rw [rn_e hi] at h
      exact absurd h.symm (Nat.succ_ne_zero _)
    · have h1 : a < B.length := Nat.not_le.mp (fun z => hi (Or.inl z))
      have h2 : f (bA B a) = true := Bool.not_eq_false _ ▸ (fun z => hi (Or.inr z))
      rw [rn_s h1 h2] at h
      have := ih (a + 1) (by rw [List.length_cons] at h; omega)
      rw [show a + 1 + n = a + (n + 1) by omega] at this
      exact this
theorem rn_le {f : Int → Bool} {B : List Int} {a : Nat} : (rn f B a).length ≤ B.length - a := by
  unfold rn
  have := (List.takeWhile_sublist f (l := B.drop a)).length_le
  rw [List.length_drop] at this
  exact this
theorem rn_all {f : Int → Bool} {B : List Int} {a : Nat} : ∀ x ∈ rn f B a, f x = true := fun x hx => by
  unfold rn at hx
  exact List.all_eq_true.mp List.all_takeWhile x hx
theorem skp_b {B : List Int} {e : Nat} (h : isB (bA B e) = true) : skp B e = skp B (e + 1) := by
  have hi : e < B.length := by
    refine Nat.not_le.mp (fun z => ?_)
    rw [bA_no z] at h
    exact absurd h (by decide)
  unfold skp
  rw [rn_s hi h, List.length_cons]
  omega
theorem skp_n {B : List Int} {e : Nat} (h : isB (bA B e) = false) : skp B e = e := by
  unfold skp
  rw [rn_e (Or.inr h)]
  rfl
theorem skp_end {B : List Int} (e : Nat) : isB (bA B (skp B e)) = false := rn_end (f := isB) (by decide) _ e rfl
theorem skp_le {B : List Int} {e : Nat} (h : e ≤ B.length) : e ≤ skp B e ∧ skp B e ≤ B.length := by
  have := rn_le (f := isB) (B := B) (a := e)
  unfold skp
  omega
theorem sc_b {B : List Int} {e : Nat} (h : isB (bA B e) = true) : sc B e = sc B (e + 1) := by unfold sc; rw [skp_b h]
theorem sc_n {B : List Int} {e : Nat} (h : isB (bA B e) = false) : sc B e = tka B e := by unfold sc; rw [skp_n h]
theorem tka_A (B : List Int) (a : Nat) : tkA (tka B a) = a := by
  unfold tka
  split
  · rfl
  · split
    · rfl
    · split
      · rfl
      · split <;> rfl
theorem sc_A (B : List Int) (e : Nat) : tkA (sc B e) = skp B e := tka_A B _
/-- reading from the token's place gives the token -/
theorem sc_at (B : List Int) (e : Nat) : sc B (tkA (sc B e)) = sc B e := by
  rw [sc_A, sc_n (skp_end e)]
  rfl
theorem rn_pos {f : Int → Bool} {B : List Int} {a : Nat} (h : a < B.length) (hf : f (bA B a) = true) : 1 ≤ (rn f B a).length := by
  rw [rn_s h hf, List.length_cons]
  omega
theorem let5_r {l : List Int} (h : ∀ x ∈ l, isL x = true) : ∀ c ∈ let5 l, 1 ≤ c ∧ c ≤ 26 := by
  intro c hc
  obtain ⟨x, hx, rfl⟩ := List.mem_map.mp hc
  have := of_decide_eq_true (h x hx)
  omega
theorem nv_app (l : List Int) (x : Int) : nv (l ++ [x]) = 10 * nv l + x - 48 := by
  unfold nv
  rw [List.foldl_append]
  rfl
theorem v5_app (l : List Int) (x : Int) : v5 (l ++ [x]) = 32 * v5 l + x - 96 := by
  unfold v5
  rw [List.foldl_append]
  rfl
theorem v8_app (l : List Int) (x : Int) : v8 (l ++ [x]) = v8 l * 256 + x := by
  unfold v8
  rw [List.foldl_append]
  rfl
theorem take_s {l : List Int} {j : Nat} {x : Int} (h : l[j]? = some x) : l.take (j + 1) = l.take j ++ [x] := by
  rw [List.take_add_one, h]
  rfl
theorem fold5 : ∀ (l : List Int) (n : Int), (∀ x ∈ l, isL x = true) → l.foldl (fun (n : Int) (x : Int) => 32 * n + x - 96) n = (let5 l).foldl (fun (a : Int) (c : Nat) => 32 * a + (c : Int)) n := by
  intro l
  induction l with
  | nil => intro n _; rfl
  | cons x l ih =>
    intro n h
    have hx := of_decide_eq_true (h x List.mem_cons_self)
    show l.foldl _ (32 * n + x - 96) = (let5 l).foldl _ (32 * n + ((x - 96).toNat : Int))
    rw [show (32 * n + ((x - 96).toNat : Int)) = 32 * n + x - 96 by omega]
    exact ih _ (fun y hy => h y (List.mem_cons_of_mem _ hy))
theorem v5_pk {l : List Int} (h : ∀ x ∈ l, isL x = true) : v5 l = pk5 (let5 l) := fold5 l 0 h
theorem fold8 : ∀ (l : List Int) (n : Int), (∀ x ∈ l, isL x = true) → l.foldl (fun (n : Int) (x : Int) => n * 256 + x) n = (let5 l).foldl (fun (a : Int) (c : Nat) => 256 * a + (96 + (c : Int))) n := by
  intro l
  induction l with
  | nil => intro n _; rfl
  | cons x l ih =>
    intro n h
    have hx := of_decide_eq_true (h x List.mem_cons_self)
    show l.foldl _ (n * 256 + x) = (let5 l).foldl _ (256 * n + (96 + ((x - 96).toNat : Int)))
    rw [show (256 * n + (96 + ((x - 96).toNat : Int))) = n * 256 + x by omega]
    exact ih _ (fun y hy => h y (List.mem_cons_of_mem _ hy))
theorem v8_pk {l : List Int} (h : ∀ x ∈ l, isL x = true) : v8 l = pk8 (let5 l) := fold8 l 0 h
/-- numbers of few digits are small -/
theorem nv_r : ∀ (k : Nat) (l : List Int), l.length ≤ k → (∀ x ∈ l, isD x = true) → 0 ≤ nv l ∧ nv l < ((10 ^ k : Nat) : Int) := by
  have key : ∀ (l : List Int) (n : Int) (m : Nat), 0 ≤ n → n < (m : Int) → (∀ x ∈ l, isD x = true) → 0 ≤ l.foldl (fun (n : Int) (x : Int) => 10 * n + x - 48) n ∧ l.foldl (fun (n : Int) (x : Int) => 10 * n + x - 48) n < ((m * 10 ^ l.length : Nat) : Int) := by
    intro l
    induction l with
    | nil => intro n m h0 h1 _; exact ⟨h0, by show n < ((m * 1 : Nat) : Int); omega⟩
    | cons x l ih =>
      intro n m h0 h1 h
      have hx := of_decide_eq_true (h x List.mem_cons_self)
      have := ih (10 * n + x - 48) (m * 10) (by omega) (by omega) (fun y hy => h y (List.mem_cons_of_mem _ hy))
      rw [Nat.mul_assoc, ← Nat.pow_succ'] at this
      exact this
  intro k l hl h
  have h1 := key l 0 1 (Int.le_refl _) (by decide) h
  refine ⟨h1.1, Int.lt_of_lt_of_le h1.2 ?_⟩
  rw [Nat.one_mul]
  exact Int.ofNat_le.mpr (Nat.pow_le_pow_right (by decide) hl)
/-- what a token is -/
theorem sc_facts {B : List Int} (hB : BR B) {e : Nat} (he : e ≤ B.length) : e ≤ tkA (sc B e) ∧ tkA (sc B e) ≤ tkE (sc B e) ∧ tkE (sc B e) ≤ B.length ∧ tkK (sc B e) ≤ 4 ∧ (tkK (sc B e) ≠ 0 → tkA (sc B e) < tkE (sc B e)) ∧ (tkK (sc B e) = 0 → tkA (sc B e) = B.length ∧ tkE (sc B e) = B.length) ∧ (tkK (sc B e) = 1 → 1 ≤ (tkW (sc B e)).length ∧ (tkW (sc B e)).length ≤ 8 ∧ ∀ c ∈ tkW (sc B e), 1 ≤ c ∧ c ≤ 26) ∧ (tkK (sc B e) = 2 → 0 ≤ tkN (sc B e) ∧ tkN (sc B e) ≤ 9999) ∧ (tkK (sc B e) = 3 → tkN (sc B e) = bA B (tkA (sc B e)) ∧ tkE (sc B e) = tkA (sc B e) + 1) := by
  have hs := skp_le he
  have hr := bA_r hB (skp B e)
  have rl := rn_le (f := isL) (B := B) (a := skp B e)
  have rd := rn_le (f := isD) (B := B) (a := skp B e)
  unfold sc tka
  by_cases c1 : isL (bA B (skp B e)) = true
  · have z := of_decide_eq_true c1
    have hp := rn_pos (f := isL) (B := B) (a := skp B e) (by omega) c1
    rw [if_pos c1]
    refine ⟨hs.1, Nat.le_add_right _ _, by show skp B e + _ ≤ _; omega, ?_, fun _ => by show skp B e < skp B e + _; omega, fun q => ?_, fun q => ?_, fun q => ?_, fun q => ?_⟩
    · show (if _ then 1 else 4) ≤ 4; split <;> omega
    · have q : (if (rn isL B (skp B e)).length ≤ 8 then 1 else 4) = 0 := q
      split at q <;> omega
    · have q : (if (rn isL B (skp B e)).length ≤ 8 then 1 else 4) = 1 := q
      split at q
      · rename_i q8
        refine ⟨?_, ?_, let5_r rn_all⟩
        · show 1 ≤ ((rn isL B (skp B e)).map _).length; rw [List.length_map]; exact hp
        · show ((rn isL B (skp B e)).map _).length ≤ 8; rw [List.length_map]; exact q8
      · omega
    · have q : (if (rn isL B (skp B e)).length ≤ 8 then 1 else 4) = 2 := q
      split at q <;> omega
    · have q : (if (rn isL B (skp B e)).length ≤ 8 then 1 else 4) = 3 := q
      split at q <;> omega
  · rw [if_neg c1]
    by_cases c2 : isD (bA B (skp B e)) = true
    · have z := of_decide_eq_true c2
      have hp := rn_pos (f := isD) (B := B) (a := skp B e) (by omega) c2
      rw [if_pos c2]
      refine ⟨hs.1, Nat.le_add_right _ _, by show skp B e + _ ≤ _; omega, ?_, fun _ => by show skp B e < skp B e + _; omega, fun q => ?_, fun q => ?_, fun q => ?_, fun q => ?_⟩
      · show (if _ then 2 else 4) ≤ 4; split <;> omega
      · have q : (if (rn isD B (skp B e)).length ≤ 4 then 2 else 4) = 0 := q
        split at q <;> omega
      · have q : (if (rn isD B (skp B e)).length ≤ 4 then 2 else 4) = 1 := q
        split at q <;> omega
      · have q : (if (rn isD B (skp B e)).length ≤ 4 then 2 else 4) = 2 := q
        split at q
        · rename_i q4
          have := nv_r 4 (rn isD B (skp B e)) q4 rn_all
          exact ⟨this.1, by have := this.2; show nv _ ≤ 9999; omega⟩
        · omega
      · have q : (if (rn isD B (skp B e)).length ≤ 4 then 2 else 4) = 3 := q
        split at q <;> omega
    · rw [if_neg c2]
      by_cases c3 : bA B (skp B e) = 59 ∨ bA B (skp B e) = 40 ∨ bA B (skp B e) = 41
      · rw [if_pos c3]
        exact ⟨hs.1, Nat.le_succ _, by show skp B e + 1 ≤ _; omega, (by show (3 : Nat) ≤ 4; decide), fun _ => Nat.lt_succ_self _, fun q => absurd q (by show ¬ ((3 : Nat) = 0); decide), fun q => absurd q (by show ¬ ((3 : Nat) = 1); decide), fun q => absurd q (by show ¬ ((3 : Nat) = 2); decide), fun _ => ⟨rfl, rfl⟩⟩
      · rw [if_neg c3]
        by_cases c4 : bA B (skp B e) = -1
        · rw [if_pos c4]
          have hl := hr.2.2.mp c4
          exact ⟨hs.1, Nat.le_refl _, hs.2, (by show (0 : Nat) ≤ 4; decide), fun q => absurd rfl q, fun _ => ⟨by show skp B e = _; omega, by show skp B e = _; omega⟩, fun q => absurd q (by show ¬ ((0 : Nat) = 1); decide), fun q => absurd q (by show ¬ ((0 : Nat) = 2); decide), fun q => absurd q (by show ¬ ((0 : Nat) = 3); decide)⟩
        · rw [if_neg c4]
          have : ¬ B.length ≤ skp B e := fun z => c4 (hr.2.2.mpr z)
          exact ⟨hs.1, Nat.le_succ _, by show skp B e + 1 ≤ _; omega, (by show (4 : Nat) ≤ 4; decide), fun _ => Nat.lt_succ_self _, fun q => absurd q (by show ¬ ((4 : Nat) = 0); decide), fun q => absurd q (by show ¬ ((4 : Nat) = 1); decide), fun q => absurd q (by show ¬ ((4 : Nat) = 2); decide), fun q => absurd q (by show ¬ ((4 : Nat) = 3); decide)⟩
