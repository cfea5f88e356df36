/-! PURE 65: a text as a switch -/
def bnd {α β : Type} (x : Er ⊕ α) (f : α → Er ⊕ β) : Er ⊕ β := match x with
  | .inl e => .inl e
  | .inr a => f a
theorem bnd_l {α β : Type} {x : Er ⊕ α} {f : α → Er ⊕ β} {e : Er} (h : x = .inl e) : bnd x f = .inl e := by rw [h]; rfl
theorem bnd_r {α β : Type} {x : Er ⊕ α} {f : α → Er ⊕ β} {a : α} (h : x = .inr a) : bnd x f = f a := by rw [h]; rfl
theorem bnd_i {α β : Type} {x : Er ⊕ α} {f : α → Er ⊕ β} {b : β} (h : bnd x f = .inr b) : ∃ a, x = .inr a ∧ f a = .inr b := by
  cases x with
  | inl e => cases h
  | inr a => exact ⟨a, rfl, h⟩
/-- a new switch -/
def emS : AS := (0, (4, 100, 0, 0), (fun _ _ => 0), (fun _ => []), (fun _ => []), [], [])
def adP (S : AS) (w : List Nat) (sh rt f : Int) : AS := (zN S + 1, S.2.1, (fun p j => if p = zN S then (if j = 0 then sh else if j = 1 then rt else if j = 2 then 16 * f else 0) else zP S p j), (fun p => if p = zN S then w else zM S p), zQ S, zR S, zD S)
/-- behind the word port at e0 -/
def rdP (B : List Int) (e0 : Nat) (S : AS) : Er ⊕ (Nat × AS) :=
  if 6 ≤ zN S then .inl (4, (tkA (sc B e0) : Int)) else
  if tkK (sc B (tkE (sc B e0))) = 1 then
    (if nmd S (tkW (sc B (tkE (sc B e0)))) = -1 then
      bnd (num B (tkE (sc B (tkE (sc B e0)))) 0 40) (fun x => bnd (num B x.2 0 9) (fun y =>
        if isw (sc B y.2) 1 then bnd (num B (tkE (sc B y.2)) 0 40) (fun z => .inr (z.2, adP S (tkW (sc B (tkE (sc B e0)))) x.1 y.1 z.1))
        else .inr (y.2, adP S (tkW (sc B (tkE (sc B e0)))) x.1 y.1 0)))
    else .inl (3, (tkA (sc B (tkE (sc B e0))) : Int)))
  else .inl (1, (tkA (sc B (tkE (sc B e0))) : Int))
def rdT (B : List Int) (e0 : Nat) (S : AS) (ht : Int) : Er ⊕ (Nat × AS) := if ht = 1 then .inl (3, (tkA (sc B e0) : Int)) else bnd (num B (tkE (sc B e0)) 1 99) (fun x => .inr (x.2, stG S x.1 (zK S) (zC S) (zA S)))
def rdK (B : List Int) (e0 : Nat) (S : AS) (hk : Int) : Er ⊕ (Nat × AS) := if hk = 1 then .inl (3, (tkA (sc B e0) : Int)) else bnd (num B (tkE (sc B e0)) 0 200) (fun x => .inr (x.2, stG S (zT S) x.1 (zC S) (zA S)))
/-- a statement without its sign: where it ends, the switch, whether term and keep were read -/
def rdS (B : List Int) (e0 : Nat) (S : AS) (ht hk : Int) : Er ⊕ (Nat × AS × Int × Int) :=
  if isw (sc B e0) 0 then bnd (rdP B e0 S) (fun r => .inr (r.1, r.2, ht, hk))
  else if isw (sc B e0) 2 then bnd (rdT B e0 S ht) (fun r => .inr (r.1, r.2, 1, hk))
  else if isw (sc B e0) 3 then bnd (rdK B e0 S hk) (fun r => .inr (r.1, r.2, ht, 1))
  else .inl (1, (tkA (sc B e0) : Int))
def rdQ (B : List Int) (e0 : Nat) (S : AS) (ht hk : Int) : Er ⊕ (Nat × AS × Int × Int) := bnd (rdS B e0 S ht hk) (fun r => bnd (sgn B r.1 59) (fun e => .inr (e, r.2)))
def rdX : Nat → List Int → Nat → AS → Int → Int → Er ⊕ AS
  | 0, _, _, _, _, _ => .inl (1, 0)
  | k + 1, B, e, S, ht, hk => if tkK (sc B e) = 0 then .inr S else bnd (rdQ B e S ht hk) (fun r => rdX k B r.1 r.2.1 r.2.2.1 r.2.2.2)
/-- a switch that was read -/
def Fsh (S : AS) : Prop := zN S ≤ 6 ∧ (1 ≤ zT S ∧ zT S ≤ 99) ∧ (0 ≤ zK S ∧ zK S ≤ 200) ∧ zC S = 0 ∧ zA S = 0 ∧ (∀ p, p < zN S → (0 ≤ zP S p 0 ∧ zP S p 0 ≤ 40) ∧ (0 ≤ zP S p 1 ∧ zP S p 1 ≤ 9) ∧ (0 ≤ zP S p 2 ∧ zP S p 2 ≤ 640) ∧ zP S p 3 = 0 ∧ zP S p 4 = 0 ∧ zP S p 6 = 0 ∧ zP S p 7 = 0) ∧ zQ S = (fun _ => []) ∧ zR S = [] ∧ zD S = [] ∧ NM S
theorem emS_F : Fsh emS := ⟨by decide, ⟨by decide, by decide⟩, ⟨by decide, by decide⟩, rfl, rfl, fun p hp => absurd hp (Nat.not_lt_zero _), rfl, rfl, rfl, fun p hp => absurd hp (Nat.not_lt_zero _)⟩
theorem Fsh.gd {S : AS} (h : Fsh S) : Gd S := by
  obtain ⟨a1, a2, a3, a4, a5, a6, a7, a8, a9, a10⟩ := h
  have q0 : ∀ p, zQ S p = [] := fun p => by rw [a7]
  have w0 : wtn S = 0 := by
    show sg (zN S) (fun p => ((zQ S p).length : Int)) = 0
    rw [sg_congr (g := fun _ => 0) (fun p _ => by rw [q0 p]; rfl)]
    exact sg_0
  have l0 : ∀ p, lnt S p = 0 := fun p => by unfold lnt; rw [a8]; rfl
  have b0 : ∀ p, brw S p = 0 := fun p => by unfold brw; rw [a8]; rfl
  have u0 : ∀ p, usd S p = 0 := fun p => by unfold usd; rw [q0 p]; rfl
  refine ⟨⟨a1, a2, a3, ⟨by omega, by omega⟩, ⟨by omega, by omega⟩, fun p hp => ?_, fun p hp q hq => ?_, by omega, ?_, fun r hr => ?_, ?_, fun d hd => ?_⟩, fun p hp => ⟨?_, ?_⟩, fun r hr => ?_, ?_⟩
  · obtain ⟨c1, c2, c3, c4, c5, c6, c7⟩ := a6 p hp
    exact ⟨c1, c2, ⟨c3.1, by omega, by omega⟩, ⟨by omega, by omega⟩, ⟨by omega, by omega⟩, ⟨by omega, by omega⟩⟩
  · rw [q0 p] at hq; exact absurd hq List.not_mem_nil
  · rw [a8]; decide
  · rw [a8] at hr; exact absurd hr List.not_mem_nil
  · rw [a9, w0, a5]; decide
  · rw [a9] at hd; exact absurd hd List.not_mem_nil
  · rw [l0]; exact (a6 p hp).1.1
  · have := (a6 p hp).1.1
    unfold rom
    rw [u0, l0, b0]; omega
  · rw [a8] at hr; exact absurd hr List.not_mem_nil
  · rw [a8]; exact List.Pairwise.nil
theorem adP_F {S : AS} {w : List Nat} {sh rt f : Int} (h : Fsh S) (hn : zN S < 6) (hw : wOk w) (h1 : 0 ≤ sh ∧ sh ≤ 40) (h2 : 0 ≤ rt ∧ rt ≤ 9) (h3 : 0 ≤ f ∧ f ≤ 40) : Fsh (adP S w sh rt f) := by
  obtain ⟨a1, a2, a3, a4, a5, a6, a7, a8, a9, a10⟩ := h
  refine ⟨hn, a2, a3, a4, a5, fun p hp => ?_, a7, a8, a9, fun p hp => ?_⟩
  · have e : ∀ j, zP (adP S w sh rt f) p j = if p = zN S then (if j = 0 then sh else if j = 1 then rt else if j = 2 then 16 * f else 0) else zP S p j := fun _ => rfl
    by_cases z : p = zN S
    · simp only [e, if_pos z]
      exact ⟨h1, h2, ⟨by show 0 ≤ 16 * f; omega, by show 16 * f ≤ 640; omega⟩, rfl, rfl, rfl, rfl⟩
    · simp only [e, if_neg z]
      exact a6 p (by have : p < zN S + 1 := hp; omega)
  · show wOk (if p = zN S then w else zM S p)
    by_cases z : p = zN S
    · rw [if_pos z]; exact hw
    · rw [if_neg z]; exact a10 p (by have : p < zN S + 1 := hp; omega)
theorem stT_F {S : AS} {x : Int} (h : Fsh S) (hx : 1 ≤ x ∧ x ≤ 99) : Fsh (stG S x (zK S) (zC S) (zA S)) := ⟨h.1, hx, h.2.2⟩
theorem stK_F {S : AS} {x : Int} (h : Fsh S) (hx : 0 ≤ x ∧ x ≤ 200) : Fsh (stG S (zT S) x (zC S) (zA S)) := ⟨h.1, h.2.1, hx, h.2.2.2⟩
theorem rdP_F {B : List Int} (hB : BR B) {e0 : Nat} (he : e0 ≤ B.length) {S S' : AS} {e' : Nat} (h : Fsh S) (hr : rdP B e0 S = .inr (e', S')) : Fsh S' ∧ e0 ≤ e' ∧ e' ≤ B.length := by
  obtain ⟨f1, f2, f3, f4, f5, f6, f7, f8, f9⟩ := sc_facts hB he
  obtain ⟨g1, g2, g3, g4, g5, g6, g7, g8, g9⟩ := sc_facts hB f3
  unfold rdP at hr
  split at hr
  · cases hr
  · rename_i hn
    split at hr
    · rename_i k1
      split at hr
      · obtain ⟨⟨sh, e2⟩, hx, hr⟩ := bnd_i hr
        obtain ⟨x1, x2, x3, x4, x5, x6⟩ := num_r hB g3 hx
        obtain ⟨⟨rt, e3⟩, hy, hr⟩ := bnd_i hr
        obtain ⟨y1, y2, y3, y4, y5, y6⟩ := num_r hB x4 hy
        dsimp only at hr
        split at hr
        · obtain ⟨⟨f, e4⟩, hz, hr⟩ := bnd_i hr
          obtain ⟨k1', k2', k3', -⟩ := sc_facts hB y4
          obtain ⟨z1, z2, z3, z4, z5, z6⟩ := num_r hB k3' hz
          cases hr
          exact ⟨adP_F h (by omega) (sc_W hB f3 k1) ⟨x1, x2⟩ ⟨y1, y2⟩ ⟨z1, z2⟩, by omega, z4⟩
        · cases hr
          exact ⟨adP_F h (by omega) (sc_W hB f3 k1) ⟨x1, x2⟩ ⟨y1, y2⟩ ⟨by decide, by decide⟩, by omega, y4⟩
      · cases hr
    · cases hr
theorem rdT_F {B : List Int} (hB : BR B) {e0 : Nat} (he : e0 ≤ B.length) {S S' : AS} {ht : Int} {e' : Nat} (h : Fsh S) (hr : rdT B e0 S ht = .inr (e', S')) : Fsh S' ∧ e0 ≤ e' ∧ e' ≤ B.length := by
  obtain ⟨f1, f2, f3, -⟩ := sc_facts hB he
  unfold rdT at hr
  split at hr
  · cases hr
  · obtain ⟨⟨v, e2⟩, hx, hr⟩ := bnd_i hr
    obtain ⟨x1, x2, x3, x4, x5, x6⟩ := num_r hB f3 hx
    cases hr
    exact ⟨stT_F h ⟨x1, x2⟩, by omega, x4⟩
theorem rdK_F {B : List Int} (hB : BR B) {e0 : Nat} (he : e0 ≤ B.length) {S S' : AS} {hk : Int} {e' : Nat} (h : Fsh S) (hr : rdK B e0 S hk = .inr (e', S')) : Fsh S' ∧ e0 ≤ e' ∧ e' ≤ B.length := by
  obtain ⟨f1, f2, f3, -⟩ := sc_facts hB he
  unfold rdK at hr
  split at hr
  · cases hr
  · obtain ⟨⟨v, e2⟩, hx, hr⟩ := bnd_i hr
    obtain ⟨x1, x2, x3, x4, x5, x6⟩ := num_r hB f3 hx
    cases hr
    exact ⟨stK_F h ⟨x1, x2⟩, by omega, x4⟩
theorem rdS_F {B : List Int} (hB : BR B) {e0 : Nat} (he : e0 ≤ B.length) {S : AS} {ht hk : Int} {r : Nat × AS × Int × Int} (h : Fsh S) (h2 : (ht = 0 ∨ ht = 1) ∧ (hk = 0 ∨ hk = 1)) (hr : rdS B e0 S ht hk = .inr r) : Fsh r.2.1 ∧ e0 ≤ r.1 ∧ r.1 ≤ B.length ∧ (r.2.2.1 = 0 ∨ r.2.2.1 = 1) ∧ (r.2.2.2 = 0 ∨ r.2.2.2 = 1) := by
  unfold rdS at hr
  split at hr
  · obtain ⟨⟨e1, S1⟩, hx, hr⟩ := bnd_i hr
    obtain ⟨a, b, c⟩ := rdP_F hB he h hx
    cases hr
    exact ⟨a, b, c, h2⟩
  · split at hr
    · obtain ⟨⟨e1, S1⟩, hx, hr⟩ := bnd_i hr
      obtain ⟨a, b, c⟩ := rdT_F hB he h hx
      cases hr
      exact ⟨a, b, c, Or.inr rfl, h2.2⟩
    · split at hr
      · obtain ⟨⟨e1, S1⟩, hx, hr⟩ := bnd_i hr
        obtain ⟨a, b, c⟩ := rdK_F hB he h hx
        cases hr
        exact ⟨a, b, c, h2.1, Or.inr rfl⟩
      · cases hr
theorem rdQ_F {B : List Int} (hB : BR B) {e0 : Nat} (he : e0 ≤ B.length) {S : AS} {ht hk : Int} {r : Nat × AS × Int × Int} (h : Fsh S) (h2 : (ht = 0 ∨ ht = 1) ∧ (hk = 0 ∨ hk = 1)) (hr : rdQ B e0 S ht hk = .inr r) : Fsh r.2.1 ∧ e0 < r.1 ∧ r.1 ≤ B.length ∧ (r.2.2.1 = 0 ∨ r.2.2.1 = 1) ∧ (r.2.2.2 = 0 ∨ r.2.2.2 = 1) := by
  obtain ⟨q, hx, hr⟩ := bnd_i hr
  obtain ⟨a, b, c, d⟩ := rdS_F hB he h h2 hx
  obtain ⟨e, hy, hr⟩ := bnd_i hr
  obtain ⟨y1, y2⟩ := sgn_r hB c hy
  cases hr
  exact ⟨a, by omega, y2, d⟩
theorem rdX_F {B : List Int} (hB : BR B) : ∀ (k e : Nat) (S S' : AS) (ht hk : Int), e ≤ B.length → Fsh S → (ht = 0 ∨ ht = 1) ∧ (hk = 0 ∨ hk = 1) → rdX k B e S ht hk = .inr S' → Fsh S' := by
  intro k
  induction k with
  | zero => intro e S S' ht hk _ _ _ h; cases h
  | succ k ih =>
    intro e S S' ht hk he h h2 hr
    unfold rdX at hr
    split at hr
    · cases hr; exact h
    · obtain ⟨r, hx, hr⟩ := bnd_i hr
      obtain ⟨a, b, c, d⟩ := rdQ_F hB he h h2 hx
      exact ih r.1 r.2.1 S' r.2.2.1 r.2.2.2 c a d hr
