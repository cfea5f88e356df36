/-! PURE 1: a switch as numbers and lists, and what each change makes of it -/
abbrev Pkt : Type := Int × Int × Int
abbrev Prm : Type := Nat × Nat × Int × Int
abbrev Drp : Type := Nat × Int × Int × Int
/-- ports; term, keep, clock, arrived; a port's numbers (0 share, 1 rate, 2 forecast, 3 came, 4 lost, 6 charged, 7 sent); names; queues (left, had, came); promises (lender, borrower, cells, due); drops, the newest first (port, cells, reason, when) -/
abbrev AS : Type := Nat × (Int × Int × Int × Int) × (Nat → Nat → Int) × (Nat → List Nat) × (Nat → List Pkt) × List Prm × List Drp
abbrev zN (S : AS) : Nat := S.1
abbrev zT (S : AS) : Int := S.2.1.1
abbrev zK (S : AS) : Int := S.2.1.2.1
abbrev zC (S : AS) : Int := S.2.1.2.2.1
abbrev zA (S : AS) : Int := S.2.1.2.2.2
abbrev zP (S : AS) : Nat → Nat → Int := S.2.2.1
abbrev zM (S : AS) : Nat → List Nat := S.2.2.2.1
abbrev zQ (S : AS) : Nat → List Pkt := S.2.2.2.2.1
abbrev zR (S : AS) : List Prm := S.2.2.2.2.2.1
abbrev zD (S : AS) : List Drp := S.2.2.2.2.2.2
abbrev stG (S : AS) (t k c a : Int) : AS := (S.1, (t, k, c, a), S.2.2)
abbrev stP (S : AS) (P : Nat → Nat → Int) : AS := (S.1, S.2.1, P, S.2.2.2)
abbrev stQ (S : AS) (Q : Nat → List Pkt) : AS := (S.1, S.2.1, S.2.2.1, S.2.2.2.1, Q, S.2.2.2.2.2)
abbrev stR (S : AS) (R : List Prm) : AS := (S.1, S.2.1, S.2.2.1, S.2.2.2.1, S.2.2.2.2.1, R, S.2.2.2.2.2.2)
abbrev stD (S : AS) (D : List Drp) : AS := (S.1, S.2.1, S.2.2.1, S.2.2.2.1, S.2.2.2.2.1, S.2.2.2.2.2.1, D)
def sm : List Int → Int
  | [] => 0
  | x :: l => x + sm l
def sg : Nat → (Nat → Int) → Int
  | 0, _ => 0
  | k + 1, f => sg k f + f k
def uQq (Q : Nat → List Pkt) (p : Nat) (L : List Pkt) : Nat → List Pkt := fun p' => if p' = p then L else Q p'
def usd (S : AS) (p : Nat) : Int := sm ((zQ S p).map (fun q => q.1))
def lnt (S : AS) (p : Nat) : Int := sm ((zR S).map (fun r => if r.1 = p then r.2.2.1 else 0))
def brw (S : AS) (p : Nat) : Int := sm ((zR S).map (fun r => if r.2.1 = p then r.2.2.1 else 0))
def owd (S : AS) (l b : Nat) : Int := sm ((zR S).map (fun r => if r.1 = l ∧ r.2.1 = b then r.2.2.1 else 0))
def rom (S : AS) (p : Nat) : Int := zP S p 0 - lnt S p + brw S p
def fre (S : AS) (p : Nat) : Int := rom S p - usd S p
def kpt (S : AS) (p : Nat) : Int := (zP S p 2 * zK S + 1599).tdiv 1600
def spr (S : AS) (p : Nat) : Int := zP S p 0 - lnt S p - usd S p - kpt S p
def cln (S : AS) (p : Nat) : Int := if spr S p < 0 then 0 else spr S p
def oth (S : AS) (p : Nat) : Int := sg (zN S) (fun i => if i = p then 0 else cln S i)
def cnt (D : List Drp) (r : Int) : Int := sm (D.map (fun d => if d.2.2.1 = r then 1 else 0))
/-- a drop is written down -/
def nte (S : AS) (p : Nat) (c r : Int) : AS := stD (stP S (uM (uM (zP S) p 4 (zP S p 4 + 1)) p 6 (zP S p 6 + c))) ((p, c, r, zC S) :: zD S)
/-- the newest packet of a port is dropped -/
def drn (S : AS) (p : Nat) (r : Int) : AS := match (zQ S p).getLast? with
  | none => S
  | some q => nte (stQ S (uQq (zQ S) p (zQ S p).dropLast)) p q.1 r
def shr : Nat → AS → Nat → Int → AS
  | 0, S, _, _ => S
  | k + 1, S, p, r => if usd S p ≤ rom S p then S else shr k (drn S p r) p r
/-- promise i has less cells -/
def les (S : AS) (i : Nat) (c : Int) : AS := match (zR S)[i]? with
  | none => S
  | some m => stR S (if m.2.2.1 - c = 0 then (zR S).eraseIdx i else (zR S).set i (m.1, m.2.1, m.2.2.1 - c, m.2.2.2))
def tkb (S : AS) (i : Nat) (c r : Int) : AS := match (zR S)[i]? with
  | none => S
  | some m => shr (zQ S m.2.1).length (les S i c) m.2.1 r
def mch (m : Prm) (l : Nat) (b : Option Nat) : Bool := decide (m.1 = l) && match b with
  | none => true
  | some b => decide (m.2.1 = b)
def col : Nat → AS → Nat → Option Nat → Nat → Int → AS
  | 0, S, _, _, _, _ => S
  | k + 1, S, l, b, i, left => if left ≤ 0 then S else match (zR S)[i]? with
    | none => S
    | some m => if mch m l b then (let by' := if m.2.2.1 < left then m.2.2.1 else left
        col k (tkb S i by' 2) l b (if m.2.2.1 - by' = 0 then i else i + 1) (left - by')) else col k S l b (i + 1) left
def pos (R : List Prm) (d : Int) : Nat → Nat
  | 0 => 0
  | k + 1 => match R[k]? with
    | none => k + 1
    | some m => if d < m.2.2.2 then pos R d k else k + 1
def pin (R : List Prm) (m : Prm) : List Prm := R.insertIdx (pos R m.2.2.2 R.length) m
/-- the best lender: the first of those that can lend most -/
def bst (S : AS) (p : Nat) : Nat → Option Nat
  | 0 => none
  | k + 1 => match bst S p k with
    | none => if k = p then none else some k
    | some b => if k ≠ p ∧ cln S b < cln S k then some k else some b
def bor : Nat → AS → Nat → Int → AS
  | 0, S, _, _ => S
  | k + 1, S, p, left => if left ≤ 0 then S else match bst S p (zN S) with
    | none => S
    | some b => let by' := if cln S b < left then cln S b else left
      bor k (stR S (pin (zR S) (b, p, by', zC S + zT S))) p (left - by')
def way (S : AS) (p : Nat) (c : Int) : Nat := if c ≤ fre S p then 0 else if usd S p + c ≤ zP S p 0 then 1 else if c - fre S p ≤ oth S p then 2 else 3
def tks (S : AS) (p : Nat) (c : Int) : AS := stQ S (uQq (zQ S) p (zQ S p ++ [(c, c, zC S)]))
def adm (S : AS) (p : Nat) (c : Int) : AS × Int :=
  let S1 := stP (stG S (zT S) (zK S) (zC S) (zA S + 1)) (uM (zP S) p 3 (zP S p 3 + c))
  let ms := c - fre S p
  match way S p c with
  | 0 => (tks S1 p c, 0)
  | 1 => (tks (col (zR S).length S1 p none 0 ms) p c, 0)
  | 2 => (tks (bor (zN S) S1 p ms) p c, ms)
  | _ => (nte S1 p c 1, -2)
def fls : Nat → AS → AS
  | 0, S => S
  | k + 1, S => match (zR S)[0]? with
    | none => S
    | some m => if m.2.2.2 ≤ zC S then fls k (shr (zQ S m.2.1).length (stR S ((zR S).eraseIdx 0)) m.2.1 3) else S
/-- a port sends so many cells from the front of its queue -/
def sdq : Int → List Pkt → List Pkt
  | _, [] => []
  | r, q :: t => if r ≤ 0 then q :: t else if q.1 ≤ r then sdq (r - q.1) t else (q.1 - r, q.2) :: t
def snt (S : AS) (p : Nat) : AS := stP (stQ S (uQq (zQ S) p (sdq (zP S p 1) (zQ S p)))) (uM (zP S) p 7 (zP S p 7 + (if zP S p 1 < usd S p then zP S p 1 else usd S p)))
def sal : Nat → AS → AS
  | 0, S => S
  | k + 1, S => snt (sal k S) k
def lrn (S : AS) : AS := stP S (fun p j => if p < zN S then (if j = 2 then zP S p 2 + (16 * zP S p 3 - zP S p 2).tdiv 4 else if j = 3 then 0 else zP S p j) else zP S p j)
def tck (S : AS) : AS :=
  let S1 := stG S (zT S) (zK S) (zC S + 1) (zA S)
  let S2 := fls (zR S1).length S1
  lrn (sal (zN S) S2)
def tkn : Nat → AS → AS
  | 0, S => S
  | k + 1, S => tkn k (tck S)
def ext (S : AS) (i : Nat) : AS := match (zR S)[i]? with
  | none => S
  | some m => stR S (pin ((zR S).eraseIdx i) (m.1, m.2.1, m.2.2.1, m.2.2.2 + zT S))
