/-! PURE 75: scripts -/
/-- a command: its verb (0 arrive, 1 tick, 2 back, 3 extend, 4 term, 5 keep), port, other, number -/
abbrev Cm : Type := Nat × Int × Int × Int
abbrev cV (c : Cm) : Nat := c.1
abbrev cP (c : Cm) : Int := c.2.1
abbrev cO (c : Cm) : Int := c.2.2.1
abbrev cN (c : Cm) : Int := c.2.2.2
/-- a command is done, if it can be -/
def doC (c : Cm) (S : AS) : Option AS := match cV c with
  | 0 => if 1 ≤ cN c ∧ cN c ≤ 40 then some (adm S (cP c).toNat (cN c)).1 else none
  | 1 => if (1 ≤ cN c ∧ cN c ≤ 99) ∧ zC S + cN c ≤ 9999 then some (tkn (cN c).toNat S) else none
  | 2 => if (1 ≤ cN c ∧ cN c ≤ 40) ∧ cN c ≤ owd S (cO c).toNat (cP c).toNat ∧ cN c ≤ fre S (cP c).toNat then some (col (zR S).length S (cO c).toNat (some (cP c).toNat) 0 (cN c)) else none
  | 3 => match (zR S)[(cN c).toNat]? with
    | none => none
    | some m => if 0 ≤ spr S m.1 then some (ext S (cN c).toNat) else none
  | 4 => if 1 ≤ cN c ∧ cN c ≤ 99 then some (stG S (cN c) (zK S) (zC S) (zA S)) else none
  | _ => if 0 ≤ cN c ∧ cN c ≤ 200 then some (stG S (zT S) (cN c) (zC S) (zA S)) else none
def rnC : List Cm → AS → AS × Nat
  | [], S => (S, 0)
  | c :: L, S => match doC c S with
    | none => (S, 0)
    | some S' => ((rnC L S').1, (rnC L S').2 + 1)
/-- done so far: n; true when it is over -/
def rn40 : List Cm → AS → Nat → AS × Nat × Bool
  | [], S, n => (S, n, false)
  | c :: L, S, n => match doC c S with
    | none => (S, n, true)
    | some S' => if n + 1 = 40 then (S', 40, true) else rn40 L S' (n + 1)
theorem rn40_n {c : Cm} {L : List Cm} {S : AS} {n : Nat} (h : doC c S = none) : rn40 (c :: L) S n = (S, n, true) := by unfold rn40; rw [h]
theorem rn40_o {c : Cm} {L : List Cm} {S S' : AS} {n : Nat} (h : doC c S = some S') (z : n + 1 = 40) : rn40 (c :: L) S n = (S', 40, true) := by unfold rn40; rw [h]; exact if_pos z
theorem rn40_s {c : Cm} {L : List Cm} {S S' : AS} {n : Nat} (h : doC c S = some S') (z : ¬ n + 1 = 40) : rn40 (c :: L) S n = rn40 L S' (n + 1) := by
  conv => lhs; unfold rn40
  rw [h]
  exact if_neg z
theorem rnC_n {c : Cm} {L : List Cm} {S : AS} (h : doC c S = none) : rnC (c :: L) S = (S, 0) := by unfold rnC; rw [h]
theorem rnC_s {c : Cm} {L : List Cm} {S S' : AS} (h : doC c S = some S') : rnC (c :: L) S = ((rnC L S').1, (rnC L S').2 + 1) := by
  conv => lhs; unfold rnC
  rw [h]
theorem rn40_app : ∀ (E E' : List Cm) (S : AS) (n : Nat), rn40 (E ++ E') S n = (match rn40 E S n with
  | (S', n', true) => (S', n', true)
  | (S', n', false) => rn40 E' S' n') := by
  intro E
  induction E with
  | nil => intro E' S n; rfl
  | cons c E ih =>
    intro E' S n
    rw [List.cons_append]
    cases hd : doC c S with
    | none => rw [rn40_n hd, rn40_n hd]
    | some S' =>
      by_cases z : n + 1 = 40
      · rw [rn40_o hd z, rn40_o hd z]
      · rw [rn40_s hd z, rn40_s hd z]
        exact ih E' S' (n + 1)
theorem rn40_t {E E' : List Cm} {S S' : AS} {n n' : Nat} (h : rn40 E S n = (S', n', true)) : rn40 (E ++ E') S n = (S', n', true) := by rw [rn40_app, h]
theorem rn40_f {E E' : List Cm} {S S' : AS} {n n' : Nat} (h : rn40 E S n = (S', n', false)) : rn40 (E ++ E') S n = rn40 E' S' n' := by rw [rn40_app, h]
theorem rn40_rnC : ∀ (L : List Cm) (S : AS) (k n : Nat), n + k = 40 → 1 ≤ k → ((rn40 L S n).1, (rn40 L S n).2.1) = ((rnC (L.take k) S).1, (rnC (L.take k) S).2 + n) := by
  intro L
  induction L with
  | nil => intro S k n h _; rw [List.take_nil]; show (S, n) = (S, 0 + n); rw [Nat.zero_add]
  | cons c L ih =>
    intro S k n h hk
    obtain ⟨k, rfl⟩ : ∃ j, k = j + 1 := ⟨k - 1, by omega⟩
    rw [List.take_succ_cons]
    cases hd : doC c S with
    | none => rw [rn40_n hd, rnC_n hd]; show (S, n) = (S, 0 + n); rw [Nat.zero_add]
    | some S' =>
      rw [rnC_s hd]
      by_cases z : n + 1 = 40
      · rw [rn40_o hd z]
        have k0 : k = 0 := by omega
        subst k0
        rw [List.take_zero]
        show (S', 40) = (S', 0 + 1 + n)
        rw [show 0 + 1 + n = 40 by omega]
      · rw [rn40_s hd z, ih S' k (n + 1) (by omega) (by omega)]
        show _ = ((rnC (List.take k L) S').1, (rnC (List.take k L) S').2 + 1 + n)
        rw [show (rnC (List.take k L) S').2 + (n + 1) = (rnC (List.take k L) S').2 + 1 + n by omega]
/-- a command as it is read -/
def cOk (S : AS) (c : Cm) : Prop := cV c ≤ 5 ∧ (0 ≤ cN c ∧ cN c ≤ 9999) ∧ (cV c = 0 ∨ cV c = 2 → 0 ≤ cP c ∧ cP c < zN S) ∧ (cV c = 2 → 0 ≤ cO c ∧ cO c < zN S)
theorem cV6 {c : Cm} (h : cV c ≤ 5) : cV c = 0 ∨ cV c = 1 ∨ cV c = 2 ∨ cV c = 3 ∨ cV c = 4 ∨ cV c = 5 := by omega
theorem doC_0 {c : Cm} {S : AS} (h : cV c = 0) : doC c S = if 1 ≤ cN c ∧ cN c ≤ 40 then some (adm S (cP c).toNat (cN c)).1 else none := by unfold doC; rw [h]; rfl
theorem doC_1 {c : Cm} {S : AS} (h : cV c = 1) : doC c S = if (1 ≤ cN c ∧ cN c ≤ 99) ∧ zC S + cN c ≤ 9999 then some (tkn (cN c).toNat S) else none := by unfold doC; rw [h]; rfl
theorem doC_2 {c : Cm} {S : AS} (h : cV c = 2) : doC c S = if (1 ≤ cN c ∧ cN c ≤ 40) ∧ cN c ≤ owd S (cO c).toNat (cP c).toNat ∧ cN c ≤ fre S (cP c).toNat then some (col (zR S).length S (cO c).toNat (some (cP c).toNat) 0 (cN c)) else none := by unfold doC; rw [h]; rfl
theorem doC_3 {c : Cm} {S : AS} (h : cV c = 3) : doC c S = (match (zR S)[(cN c).toNat]? with
    | none => none
    | some m => if 0 ≤ spr S m.1 then some (ext S (cN c).toNat) else none) := by unfold doC; rw [h]; rfl
theorem doC_4 {c : Cm} {S : AS} (h : cV c = 4) : doC c S = if 1 ≤ cN c ∧ cN c ≤ 99 then some (stG S (cN c) (zK S) (zC S) (zA S)) else none := by unfold doC; rw [h]; rfl
theorem doC_5 {c : Cm} {S : AS} (h : cV c = 5) : doC c S = if 0 ≤ cN c ∧ cN c ≤ 200 then some (stG S (zT S) (cN c) (zC S) (zA S)) else none := by unfold doC; rw [h]; rfl
theorem doC_ok {A D : Int} {S S' : AS} {c : Cm} (h : OKb A D S) (hc : cOk S c) (hA : A + 1 ≤ 30000) (hD : 10098 ≤ D) (hD2 : D + 99 ≤ 3000000) (hd : doC c S = some S') : OKb (A + 1) (D + 99) S' ∧ SM S S' := by
  obtain ⟨c1, c2, c3, c4⟩ := hc
  rcases cV6 c1 with v | v | v | v | v | v
  · rw [doC_0 v] at hd
    split at hd
    · rename_i q
      cases hd
      have := c3 (Or.inl v)
      exact ⟨(adm_ok h (by omega) q hA hD).mono (by omega) (by omega), SM_adm⟩
    · cases hd
  · rw [doC_1 v] at hd
    split at hd
    · rename_i q
      cases hd
      exact ⟨(tkn_ok h (by omega)).mono (by omega) (by omega), SM_tkn _ _⟩
    · cases hd
  · rw [doC_2 v] at hd
    split at hd
    · cases hd
      exact ⟨(col_ok h).mono (by omega) (by omega), SM_col _ _ _ _ _ _⟩
    · cases hd
  · rw [doC_3 v] at hd
    split at hd
    · cases hd
    · rename_i m hm
      split at hd
      · cases hd
        exact ⟨(ext_ok h hm hD2).mono (by omega) (by omega), SM_ext⟩
      · cases hd
  · rw [doC_4 v] at hd
    split at hd
    · rename_i q
      cases hd
      exact ⟨(trm_ok h q).mono (by omega) (by omega), ⟨rfl, rfl⟩⟩
    · cases hd
  · rw [doC_5 v] at hd
    split at hd
    · rename_i q
      cases hd
      exact ⟨(kep_ok h q).mono (by omega) (by omega), ⟨rfl, rfl⟩⟩
    · cases hd
theorem cOk.sm {S S' : AS} {c : Cm} (h : cOk S c) (hs : SM S S') : cOk S' c := by
  unfold cOk at *
  rw [hs.1]
  exact h
theorem rnC_ok : ∀ (L : List Cm) (A D : Int) (S : AS), OKb A D S → (∀ c ∈ L, cOk S c) → A + L.length ≤ 30000 → 10098 ≤ D → D + 99 * L.length ≤ 3000000 → OKb (A + L.length) (D + 99 * L.length) (rnC L S).1 ∧ SM S (rnC L S).1 := by
  intro L
  induction L with
  | nil => intro A D S h _ _ _ _; exact ⟨h.mono (by show A ≤ A + 0; omega) (by show D ≤ D + 99 * 0; omega), SM.refl⟩
  | cons c L ih =>
    intro A D S h hc hA hD hD2
    rw [List.length_cons] at *
    cases hd : doC c S with
    | none => rw [rnC_n hd]; exact ⟨h.mono (by omega) (by omega), SM.refl⟩
    | some S' =>
      rw [rnC_s hd]
      obtain ⟨o, m⟩ := doC_ok h (hc c List.mem_cons_self) (by omega) hD (by omega) hd
      obtain ⟨o2, m2⟩ := ih (A + 1) (D + 99) S' o (fun x hx => (hc x (List.mem_cons_of_mem _ hx)).sm m) (by omega) (by omega) (by omega)
      exact ⟨o2.mono (by omega) (by omega), m.trans m2⟩
/-! how a script is read -/
def nam (B : List Int) (S : AS) (e : Nat) : Er ⊕ (Int × Nat) := if tkK (sc B e) = 1 then (if nmd S (tkW (sc B e)) = -1 then .inl (5, (tkA (sc B e) : Int)) else .inr (nmd S (tkW (sc B e)), tkE (sc B e))) else .inl (1, (tkA (sc B e) : Int))
def vrb (t : Tk) : Int := if isw t 4 then 0 else if isw t 5 then 1 else if isw t 6 then 2 else if isw t 7 then 3 else if isw t 2 then 4 else if isw t 3 then 5 else if isw t 8 then 6 else -1
/-- behind a verb but repeat -/
def pln (B : List Int) (S : AS) (v e : Nat) : Er ⊕ (Nat × Cm) :=
  if v = 0 then bnd (nam B S e) (fun x => bnd (num B x.2 0 9999) (fun y => .inr (y.2, (0, x.1, -1, y.1))))
  else if v = 2 then bnd (nam B S e) (fun x => bnd (nam B S x.2) (fun z => bnd (num B z.2 0 9999) (fun y => .inr (y.2, (2, x.1, z.1, y.1)))))
  else bnd (num B e 0 9999) (fun y => .inr (y.2, (v, -1, -1, y.1)))
def rpt (B : List Int) (e : Nat) : Er ⊕ (Nat × Nat) := bnd (num B e 1 20) (fun x => bnd (sgn B x.2 40) (fun e' => .inr (e', x.1.toNat)))
def cmd2 (B : List Int) (S : AS) (e : Nat) : Er ⊕ (Nat × Nat ⊕ Nat × Cm) :=
  if vrb (sc B e) = 6 then bnd (rpt B (tkE (sc B e))) (fun r => .inr (.inl r))
  else bnd (pln B S (vrb (sc B e)).toNat (tkE (sc B e))) (fun y => bnd (sgn B y.1 59) (fun e' => .inr (.inr (e', y.2))))
/-- a command at e, the w-th of the text, in d repeats: a repeat (where its body begins, how often), or a plain one -/
def cmdR (B : List Int) (S : AS) (e w d : Nat) : Er ⊕ (Nat × Nat ⊕ Nat × Cm) :=
  if vrb (sc B e) = -1 then .inl (1, (tkA (sc B e) : Int))
  else if vrb (sc B e) = 6 ∧ 2 ≤ d then .inl (3, (tkA (sc B e) : Int))
  else if 30 ≤ w then .inl (4, (tkA (sc B e) : Int))
  else cmd2 B S e
def rp (n : Nat) (E : List Cm) : List Cm := match n with
  | 0 => []
  | n + 1 => rp n E ++ E
def cls (B : List Int) (e : Nat) : Prop := tkK (sc B e) = 3 ∧ tkN (sc B e) = 41
/-- stk: of each repeat that stands around, how often, and the commands ahead of it -/
noncomputable def prs : Nat → List Int → AS → Nat → Nat → List (Nat × List Cm) → List Cm → Er ⊕ List Cm
  | 0, _, _, _, _, _, _ => .inl (1, 0)
  | k + 1, B, S, e, w, stk, cur => match stk with
    | [] => if tkK (sc B e) = 0 then .inr cur else bnd (cmdR B S e w 0) (fun r => match r with
      | .inl (e', n) => prs k B S e' (w + 1) [(n, cur)] []
      | .inr (e', c) => prs k B S e' (w + 1) [] (cur ++ [c]))
    | (n0, out) :: st => if tkK (sc B e) = 3 ∧ tkN (sc B e) = 41 then bnd (sgn B (tkE (sc B e)) 59) (fun e' => prs k B S e' w st (out ++ rp n0 cur)) else bnd (cmdR B S e w (st.length + 1)) (fun r => match r with
      | .inl (e', n) => prs k B S e' (w + 1) ((n, cur) :: (n0, out) :: st) []
      | .inr (e', c) => prs k B S e' (w + 1) ((n0, out) :: st) (cur ++ [c]))
theorem prs_0 {k : Nat} {B : List Int} {S : AS} {e w : Nat} {cur : List Cm} (h : tkK (sc B e) = 0) : prs (k + 1) B S e w [] cur = .inr cur := if_pos h
theorem prs_c {k : Nat} {B : List Int} {S : AS} {e w n0 : Nat} {out cur : List Cm} {st : List (Nat × List Cm)} (h : tkK (sc B e) = 3 ∧ tkN (sc B e) = 41) : prs (k + 1) B S e w ((n0, out) :: st) cur = bnd (sgn B (tkE (sc B e)) 59) (fun e' => prs k B S e' w st (out ++ rp n0 cur)) := if_pos h
theorem prs_m {k : Nat} {B : List Int} {S : AS} {e w : Nat} {cur : List Cm} {stk : List (Nat × List Cm)} (h0 : stk = [] → ¬ tkK (sc B e) = 0) (h1 : stk ≠ [] → ¬ (tkK (sc B e) = 3 ∧ tkN (sc B e) = 41)) : prs (k + 1) B S e w stk cur = bnd (cmdR B S e w stk.length) (fun r => match r with
      | .inl (e', n) => prs k B S e' (w + 1) ((n, cur) :: stk) []
      | .inr (e', c) => prs k B S e' (w + 1) stk (cur ++ [c])) := by
  cases stk with
  | nil => exact if_neg (h0 rfl)
  | cons q st => exact if_neg (h1 (fun z => by cases z))
theorem nam_r {B : List Int} (hB : BR B) {S : AS} {e : Nat} (he : e ≤ B.length) {x : Int} {e' : Nat} (h : nam B S e = .inr (x, e')) : (0 ≤ x ∧ x < zN S) ∧ e < e' ∧ e' ≤ B.length := by
  obtain ⟨f1, f2, f3, f4, f5, -⟩ := sc_facts hB he
  unfold nam at h
  split at h
  · rename_i k1
    split at h
    · cases h
    · rename_i hn
      cases h
      have := f5 (by omega)
      rcases nmd_r S (tkW (sc B e)) with q | ⟨p, q, hp⟩
      · exact absurd q hn
      · exact ⟨by rw [q]; omega, by omega, f3⟩
  · cases h
theorem pln_r {B : List Int} (hB : BR B) {S : AS} {v e : Nat} (hv : v ≤ 5) (he : e ≤ B.length) {c : Cm} {e' : Nat} (h : pln B S v e = .inr (e', c)) : cOk S c ∧ cV c = v ∧ e < e' ∧ e' ≤ B.length := by
  unfold pln at h
  split at h
  · rename_i v0
    obtain ⟨⟨x, e1⟩, hx, h⟩ := bnd_i h
    obtain ⟨x1, x2, x3⟩ := nam_r hB he hx
    obtain ⟨⟨y, e2⟩, hy, h⟩ := bnd_i h
    obtain ⟨y1, y2, y3, y4, y5, y6⟩ := num_r hB x3 hy
    cases h
    exact ⟨⟨Nat.zero_le _, ⟨y5, y6⟩, fun _ => x1, fun z => absurd (show (0 : Nat) = 2 from z) (by decide)⟩, v0.symm, by omega, y4⟩
  · split at h
    · rename_i v2
      obtain ⟨⟨x, e1⟩, hx, h⟩ := bnd_i h
      obtain ⟨x1, x2, x3⟩ := nam_r hB he hx
      obtain ⟨⟨z, e3⟩, hz, h⟩ := bnd_i h
      obtain ⟨z1, z2, z3⟩ := nam_r hB x3 hz
      obtain ⟨⟨y, e2⟩, hy, h⟩ := bnd_i h
      obtain ⟨y1, y2, y3, y4, y5, y6⟩ := num_r hB z3 hy
      cases h
      exact ⟨⟨(show (2 : Nat) ≤ 5 by decide), ⟨y5, y6⟩, fun _ => x1, fun _ => z1⟩, v2.symm, by omega, y4⟩
    · rename_i v0 v2
      obtain ⟨⟨y, e2⟩, hy, h⟩ := bnd_i h
      obtain ⟨y1, y2, y3, y4, y5, y6⟩ := num_r hB he hy
      cases h
      exact ⟨⟨hv, ⟨y5, y6⟩, fun z => absurd z (by rintro (z | z); exact v0 z; exact v2 z), fun z => absurd z v2⟩, rfl, by omega, y4⟩
theorem vrb_r (t : Tk) : -1 ≤ vrb t ∧ vrb t ≤ 6 := by
  unfold vrb
  split
  · decide
  · split
    · decide
    · split
      · decide
      · split
        · decide
        · split
          · decide
          · split
            · decide
            · split <;> decide
theorem cmdR_r {B : List Int} (hB : BR B) {S : AS} {e w d : Nat} (he : e ≤ B.length) {r : Nat × Nat ⊕ Nat × Cm} (h : cmdR B S e w d = .inr r) : cmd2 B S e = .inr r ∧ w < 30 ∧ (match r with
    | .inl (e', n) => vrb (sc B e) = 6 ∧ rpt B (tkE (sc B e)) = .inr (e', n) ∧ d < 2 ∧ (1 ≤ n ∧ n ≤ 20) ∧ e < e' ∧ e' ≤ B.length
    | .inr (e', c) => (0 ≤ vrb (sc B e) ∧ vrb (sc B e) ≤ 5) ∧ cOk S c ∧ (cV c : Int) = vrb (sc B e) ∧ (∃ e1, pln B S (vrb (sc B e)).toNat (tkE (sc B e)) = .inr (e1, c) ∧ sgn B e1 59 = .inr e') ∧ e < e' ∧ e' ≤ B.length) := by
  obtain ⟨f1, f2, f3, -⟩ := sc_facts hB he
  have vr := vrb_r (sc B e)
  unfold cmdR at h
  split at h
  · cases h
  · rename_i v1
    split at h
    · cases h
    · rename_i v2
      split at h
      · cases h
      · rename_i hw
        refine ⟨h, by omega, ?_⟩
        unfold cmd2 at h
        split at h
        · rename_i v6
          obtain ⟨⟨e', n⟩, hr, h⟩ := bnd_i h
          cases h
          have hr0 := hr
          unfold rpt at hr
          obtain ⟨⟨x, e1⟩, hx, hr⟩ := bnd_i hr
          obtain ⟨x1, x2, x3, x4, x5, x6⟩ := num_r hB f3 hx
          obtain ⟨e2, hs, hr⟩ := bnd_i hr
          obtain ⟨s1, s2⟩ := sgn_r hB x4 hs
          cases hr
          exact ⟨v6, hr0, by omega, ⟨by omega, by omega⟩, by omega, s2⟩
        · rename_i v6
          obtain ⟨⟨e1, c⟩, hp, h⟩ := bnd_i h
          obtain ⟨p1, p2, p3, p4⟩ := pln_r hB (by omega) f3 hp
          obtain ⟨e2, hs, h⟩ := bnd_i h
          obtain ⟨s1, s2⟩ := sgn_r hB p4 hs
          cases h
          exact ⟨⟨by omega, by omega⟩, p1, by rw [p2]; omega, ⟨e1, hp, hs⟩, by omega, s2⟩
