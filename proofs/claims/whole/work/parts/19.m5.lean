/-! PURE 7: the answers of the questions, and the model's -/
def smo (S : AS) (w : Int) : Int := sg (zN S) (fun i => if w = 4 then zP S i 0 else if w = 5 then usd S i else if w = 6 then lnt S i else fre S i)
def setV (S : AS) : Nat → Int
  | 0 => zN S
  | 1 => zT S
  | 2 => zK S
  | 3 => zC S
  | 4 => smo S 4
  | 5 => smo S 5
  | 6 => smo S 6
  | 7 => smo S 7
  | 8 => (zR S).length
  | 9 => wtn S
  | 10 => (zD S).length
  | _ => zA S
def prtV (S : AS) (p : Nat) : Nat → Int
  | 0 => zP S p 0
  | 1 => zP S p 1
  | 2 => usd S p
  | 3 => fre S p
  | 4 => lnt S p
  | 5 => brw S p
  | 6 => cln S p
  | 7 => zP S p 2
  | 8 => kpt S p
  | 9 => (zQ S p).length
  | 10 => zP S p 4
  | 11 => zP S p 6
  | _ => zP S p 7
/-- an answer: how it throws (0: it doesn't), and the number -/
def aSet (S : AS) (x : Int) : Int × Int := if 0 ≤ x ∧ x ≤ 11 then (0, setV S x.toNat) else (1, 0)
def aPort (S : AS) (p x : Int) : Int × Int := if 0 ≤ p ∧ p < zN S then (if 0 ≤ x ∧ x ≤ 12 then (0, prtV S p.toNat x.toNat) else (2, 0)) else (1, 0)
def aPkt (S : AS) (p i x : Int) : Int × Int := if 0 ≤ p ∧ p < zN S ∧ 0 ≤ i ∧ i < (zQ S p.toNat).length then (if 0 ≤ x ∧ x ≤ 2 then (0, match (zQ S p.toNat)[i.toNat]? with
  | some q => qw q x.toNat
  | none => 0) else (2, 0)) else (1, 0)
def aPrm (S : AS) (i x : Int) : Int × Int := if 0 ≤ i ∧ i < (zR S).length then (if 0 ≤ x ∧ x ≤ 3 then (0, match (zR S)[i.toNat]? with
  | some m => mw m x.toNat
  | none => 0) else (2, 0)) else (1, 0)
def aOwd (S : AS) (p q : Int) : Int × Int := if (0 ≤ p ∧ p < zN S) ∧ (0 ≤ q ∧ q < zN S) then (0, owd S p.toNat q.toNat) else (1, 0)
def aDrp (S : AS) (i x : Int) : Int × Int := if 0 ≤ x ∧ x ≤ 4 then (0, if 0 ≤ i ∧ i < 20 ∧ i < (zD S).length then (match (zD S)[i.toNat]? with
  | some d => dw d x.toNat
  | none => 0) else -1) else (1, 0)
def aDby (S : AS) (r : Int) : Int × Int := if 1 ≤ r ∧ r ≤ 3 then (0, cnt (zD S) r) else (1, 0)
def mcg (S : AS) : Nat → Int
  | 0 => -1
  | k + 1 => if mcg S k = -1 ∨ zP S (mcg S k).toNat 6 < zP S k 6 then k else mcg S k
def aWb (S : AS) (p c : Int) : Int × Int := if 0 ≤ p ∧ p < zN S then (if 1 ≤ c ∧ c ≤ 40 then (0, if way S p.toNat c = 3 then -1 else if way S p.toNat c = 2 then c - fre S p.toNat else 0) else (2, 0)) else (1, 0)
def aWc (S : AS) (p c : Int) : Int × Int := if 0 ≤ p ∧ p < zN S then (if 1 ≤ c ∧ c ≤ 40 then (0, if way S p.toNat c = 1 then c - fre S p.toNat else 0) else (2, 0)) else (1, 0)
def gdn (S : AS) (p : Nat) : Nat → Nat
  | 0 => 0
  | k + 1 => if way S p (k + 1 : Nat) = 3 then gdn S p k else k + 1
def aGrt (S : AS) (p : Int) : Int × Int := if 0 ≤ p ∧ p < zN S then (0, (gdn S p.toNat 40 : Nat)) else (1, 0)
theorem swc {c x : Int} {k : PT} {cs : List (Int × PT)} {L : List (Option AV)} {r : List AV} {μ : MM} (h1 : x = c → k L r μ) (h2 : ∀ q ∈ cs, x = q.1 → q.2 L r μ) : ∀ q ∈ (c, k) :: cs, x = q.1 → q.2 L r μ := List.forall_mem_cons.mpr ⟨h1, h2⟩
theorem swn {x : Int} {L : List (Option AV)} {r : List AV} {μ : MM} : ∀ q ∈ ([] : List (Int × PT)), x = q.1 → q.2 L r μ := fun _ h => (List.not_mem_nil h).elim
theorem sumOf_lp {μ : MM} {post : Option AV → MM → Prop} {b : Nat} {S : AS} {G : List (Nat × Pkt)} (h : HG b μ S G) {w : Int} (hw : R32 w) (hK : post (some (.inl (smo S w))) μ) : ∀ (k i : Nat), i + k = zN S → B_X10_sumOf_4 post [some (.inr (.inr 348)), some (.inl w), some (.inl (sg i (fun i => if w = 4 then zP S i 0 else if w = 5 then usd S i else if w = 6 then lnt S i else fre S i))), some (.inl (i : Int))] [] μ := by
  have h6 := h.2.2.1.n6
  intro k
  induction k with
  | zero =>
    intro i hi
    have : i = zN S := by omega
    subst this
    refine lfp_in ⟨hM, cs8 rfl, h.ofo 0 rfl (by omega) ?_⟩
    exact ⟨⟨by omega, by omega⟩, by show R32 (zN S : Int); exact ⟨by omega, by omega⟩, fun _ => hK, fun q => absurd (by show (zN S : Int) ≤ _; omega) q⟩
  | succ k ih =>
    intro i hi
    have key := ih (i + 1) (by omega)
    refine lfp_in ⟨hM, cs8 rfl, h.ofo 0 rfl (by omega) ?_⟩
    refine ⟨⟨by omega, by omega⟩, by show R32 (zN S : Int); exact ⟨by omega, by omega⟩, fun q => absurd (show (zN S : Int) ≤ i from q) (by omega), fun _ => ⟨hw, ⟨by omega, by omega⟩, fun q => ⟨hw, ⟨by omega, by omega⟩, fun q2 => ⟨hw, ⟨by omega, by omega⟩, fun q3 => ⟨hM, cs8 rfl, P_X10_freeOf i h rfl (by omega) ?_⟩, fun q3 => ⟨hM, cs8 rfl, P_X10_lentBy i h rfl (by omega) ?_⟩⟩, fun q2 => ⟨hM, cs8 rfl, P_X10_usedBy i h rfl (by omega) ?_⟩⟩, fun q => ⟨hM, cs8 rfl, h.po i 0 rfl rfl (by omega) (by omega) (by omega) ?_⟩⟩⟩
    · simp only [sg] at key
      rw [if_neg q, if_neg q2, if_neg q3] at key
      exact key
    · simp only [sg] at key
      rw [if_neg q, if_neg q2, if_pos q3] at key
      exact key
    · simp only [sg] at key
      rw [if_neg q, if_pos q2] at key
      exact key
    · simp only [sg] at key
      rw [if_pos q] at key
      exact key
theorem P_X10_sumOf {μ : MM} {K : Option AV → MM → Prop} {b : Nat} {S : AS} {G : List (Nat × Pkt)} {x : Int} (h : HG b μ S G) (hx : R32 x) (hK : K (some (.inl (smo S x))) μ) : w_X10_sumOf [.inr (.inr 348), .inl x] μ K := ⟨cs8 rfl, sumOf_lp h hx hK (zN S) 0 (by omega)⟩
theorem P_X10_setting {μ : MM} {K : Option AV → MM → Prop} {b : Nat} {S : AS} {G : List (Nat × Pkt)} {x : Int} (h : HG b μ S G) (hx : R32 x) (hK : K (some (.inl (aSet S x).2)) (uM μ.1 348 0 (aSet S x).1, μ.2)) : w_X10_setting [.inr (.inr 348), .inl x] μ K := by
  have h' := h.thr 0
  have hw := MR_len h.2.2.2
  refine ⟨cs8 rfl, hx, cs8 rfl, cs8 rfl, P_X10_in (r64 hx) ⟨by omega, by omega⟩ ⟨by omega, by omega⟩ (fun q1 q2 => ⟨hM, cs8 rfl, P_X10_good (Or.inr rfl) (fun _ => ⟨⟨by omega, by omega⟩, fun _ => ?_, fun q => absurd q (by decide)⟩) (fun q => absurd q (by decide))⟩) (fun q => ⟨hM, cs8 rfl, P_X10_good (Or.inl rfl) (fun q => absurd q (by decide)) (fun _ => ⟨⟨by omega, by omega⟩, fun q => absurd rfl q, fun _ => ?_⟩)⟩)⟩
  · rw [show aSet S x = (0, setV S x.toNat) from if_pos ⟨q1, q2⟩] at hK
    refine ⟨hx, swc (fun e => ?_) (swc (fun e => ?_) (swc (fun e => ?_) (swc (fun e => ?_) (swc (fun e => ?_) (swc (fun e => ?_) (swc (fun e => ?_) (swc (fun e => ?_) (swc (fun e => ?_) (swc (fun e => ?_) (swc (fun e => ?_) (swc (fun e => ?_) swn))))))))))), fun hd => ?_⟩
    · subst e; exact ⟨hM, cs8 rfl, h'.ofo 0 rfl (by omega) hK⟩
    · subst e; exact ⟨hM, cs8 rfl, h'.ofo 1 rfl (by omega) hK⟩
    · subst e; exact ⟨hM, cs8 rfl, h'.ofo 2 rfl (by omega) hK⟩
    · subst e; exact ⟨hM, cs8 rfl, h'.ofo 3 rfl (by omega) hK⟩
    · subst e; exact ⟨hM, cs8 rfl, P_X10_sumOf h' ⟨by omega, by omega⟩ hK⟩
    · subst e; exact ⟨hM, cs8 rfl, P_X10_sumOf h' ⟨by omega, by omega⟩ hK⟩
    · subst e; exact ⟨hM, cs8 rfl, P_X10_sumOf h' ⟨by omega, by omega⟩ hK⟩
    · subst e; exact ⟨hM, cs8 rfl, P_X10_sumOf h' ⟨by omega, by omega⟩ hK⟩
    · subst e; exact ⟨hM, cs8 rfl, h'.ofo 6 rfl (by omega) hK⟩
    · subst e; refine ⟨hM, cs8 rfl, h'.ofo 7 rfl (by omega) ?_⟩; show K (some (.inl (G.length : Int))) _; rw [hw]; exact hK
    · subst e; exact ⟨hM, cs8 rfl, h'.ofo 4 rfl (by omega) hK⟩
    · subst e; exact ⟨hM, cs8 rfl, h'.ofo 5 rfl (by omega) hK⟩
    · simp only [List.forall_mem_cons] at hd
      omega
  · rw [show aSet S x = (1, 0) from if_neg q] at hK
    exact hK
theorem P_X10_portMore {μ : MM} {K : Option AV → MM → Prop} {b : Nat} {S : AS} {G : List (Nat × Pkt)} {x y : Int} (p : Nat) (h : HG b μ S G) (hx : x = p) (hp : p < zN S) (hy : 7 ≤ y ∧ y ≤ 12) (hK : K (some (.inl (prtV S p y.toNat))) μ) : w_X10_portMore [.inr (.inr 348), .inl x, .inl y] μ K := by
  subst hx
  refine ⟨cs8 rfl, ⟨by omega, by omega⟩, swc (fun e => ?_) (swc (fun e => ?_) (swc (fun e => ?_) (swc (fun e => ?_) (swc (fun e => ?_) swn)))), fun hd => ?_⟩
  · subst e; exact ⟨hM, cs8 rfl, h.po p 2 rfl rfl hp (by omega) (by omega) hK⟩
  · subst e; exact ⟨hM, cs8 rfl, P_X10_keptBack p h rfl hp hK⟩
  · subst e; exact ⟨hM, cs8 rfl, P_X10_waiting p h rfl hp hK⟩
  · subst e; exact ⟨hM, cs8 rfl, h.po p 4 rfl rfl hp (by omega) (by omega) hK⟩
  · subst e; exact ⟨hM, cs8 rfl, h.po p 6 rfl rfl hp (by omega) (by omega) hK⟩
  · simp only [List.forall_mem_cons] at hd
    have e : y = 12 := by omega
    subst e
    exact ⟨hM, cs8 rfl, h.po p 7 rfl rfl hp (by omega) (by omega) hK⟩
theorem P_X10_port {μ : MM} {K : Option AV → MM → Prop} {b : Nat} {S : AS} {G : List (Nat × Pkt)} {x y : Int} (h : HG b μ S G) (hx : R32 x) (hy : R32 y) (hK : K (some (.inl (aPort S x y).2)) (uM μ.1 348 0 (aPort S x y).1, μ.2)) : w_X10_port [.inr (.inr 348), .inl x, .inl y] μ K := by
  have h' := h.thr 0
  have h6 := h.2.2.1.n6
  refine ⟨cs8 rfl, hM, cs8 rfl, P_X10_isPort h hx (fun q1 q2 => ?_) (fun q => ?_)⟩
  · refine ⟨hy, cs8 rfl, cs8 rfl, P_X10_in (r64 hy) ⟨by omega, by omega⟩ ⟨by omega, by omega⟩ (fun r1 r2 => ⟨hM, cs8 rfl, P_X10_allGood (Or.inr rfl) (Or.inr rfl) (fun _ _ => ?_) (fun _ q => absurd q (by decide)) (fun q => absurd q (by decide))⟩) (fun q => ⟨hM, cs8 rfl, P_X10_allGood (Or.inr rfl) (Or.inl rfl) (fun _ q => absurd q (by decide)) (fun _ _ => ?_) (fun q => absurd q (by decide))⟩)⟩
    · rw [show aPort S x y = (0, prtV S x.toNat y.toNat) by unfold aPort; rw [if_pos ⟨q1, q2⟩, if_pos ⟨r1, r2⟩]] at hK
      obtain ⟨p, rfl⟩ : ∃ p : Nat, x = p := ⟨x.toNat, by omega⟩
      have hp : p < zN S := by omega
      rw [Int.toNat_natCast] at hK
      refine ⟨⟨by omega, by omega⟩, fun _ => ⟨hy, swc (fun e => ?_) (swc (fun e => ?_) (swc (fun e => ?_) (swc (fun e => ?_) (swc (fun e => ?_) (swc (fun e => ?_) (swc (fun e => ?_) swn)))))), fun hd => ?_⟩, fun q => absurd q (by decide)⟩
      · subst e; exact ⟨hM, cs8 rfl, h'.po p 0 rfl rfl hp (by omega) (by omega) hK⟩
      · subst e; exact ⟨hM, cs8 rfl, h'.po p 1 rfl rfl hp (by omega) (by omega) hK⟩
      · subst e; exact ⟨hM, cs8 rfl, P_X10_usedBy p h' rfl hp hK⟩
      · subst e; exact ⟨hM, cs8 rfl, P_X10_freeOf p h' rfl hp hK⟩
      · subst e; exact ⟨hM, cs8 rfl, P_X10_lentBy p h' rfl (by omega) hK⟩
      · subst e; exact ⟨hM, cs8 rfl, P_X10_borrowedBy p h' rfl (by omega) hK⟩
      · subst e; exact ⟨hM, cs8 rfl, P_X10_canLend p h' rfl hp hK⟩
      · simp only [List.forall_mem_cons] at hd
        exact ⟨hM, cs8 rfl, P_X10_portMore p h' rfl hp ⟨by omega, by omega⟩ hK⟩
    · rw [show aPort S x y = (2, 0) by unfold aPort; rw [if_pos ⟨q1, q2⟩, if_neg q]] at hK
      exact ⟨⟨by omega, by omega⟩, fun q => absurd rfl q, fun _ => hK⟩
  · rw [show aPort S x y = (1, 0) from if_neg q] at hK
    refine ⟨hy, cs8 rfl, cs8 rfl, P_X10_in (r64 hy) ⟨by omega, by omega⟩ ⟨by omega, by omega⟩ (fun r1 r2 => ⟨hM, cs8 rfl, P_X10_allGood (Or.inl rfl) (Or.inr rfl) (fun q _ => absurd q (by decide)) (fun q _ => absurd q (by decide)) (fun _ => ⟨⟨by omega, by omega⟩, fun q => absurd rfl q, fun _ => hK⟩)⟩) (fun q => ⟨hM, cs8 rfl, P_X10_allGood (Or.inl rfl) (Or.inl rfl) (fun q _ => absurd q (by decide)) (fun q _ => absurd q (by decide)) (fun _ => ⟨⟨by omega, by omega⟩, fun q => absurd rfl q, fun _ => hK⟩)⟩)⟩
theorem P_X10_packet {μ : MM} {K : Option AV → MM → Prop} {b : Nat} {S : AS} {G : List (Nat × Pkt)} {x i y : Int} (h : HG b μ S G) (hx : R32 x) (hi : R32 i) (hy : R32 y) (hK : K (some (.inl (aPkt S x i y).2)) (uM μ.1 348 0 (aPkt S x i y).1, μ.2)) : w_X10_packet [.inr (.inr 348), .inl x, .inl i, .inl y] μ K := by
  have h6 := h.2.2.1.n6
  have bad : aPkt S x i y = (1, 0) → B_X10_packet_18 (fun v μ' => K v μ') [some (.inr (.inr 348)), none, none, some (.inl y), none] [.inl (-1)] μ := by
    intro e
    rw [e] at hK
    refine ⟨⟨by omega, by omega⟩, ⟨by omega, by omega⟩, fun _ => ?_, fun q => absurd rfl q⟩
    exact ⟨hy, cs8 rfl, cs8 rfl, P_X10_in (r64 hy) ⟨by omega, by omega⟩ ⟨by omega, by omega⟩ (fun r1 r2 => ⟨hM, cs8 rfl, P_X10_allGood (Or.inl rfl) (Or.inr rfl) (fun q _ => absurd q (by decide)) (fun q _ => absurd q (by decide)) (fun _ => ⟨⟨by omega, by omega⟩, fun _ => hK, fun q => absurd rfl q⟩)⟩) (fun q => ⟨hM, cs8 rfl, P_X10_allGood (Or.inl rfl) (Or.inl rfl) (fun q _ => absurd q (by decide)) (fun q _ => absurd q (by decide)) (fun _ => ⟨⟨by omega, by omega⟩, fun _ => hK, fun q => absurd rfl q⟩)⟩)⟩
  refine ⟨cs8 rfl, hM, cs8 rfl, P_X10_isPort h hx (fun q1 q2 => ⟨⟨by omega, by omega⟩, fun q => absurd q (by decide), fun _ => ?_⟩) (fun q => ⟨⟨by omega, by omega⟩, fun _ => bad (if_neg (fun z => q ⟨z.1, z.2.1⟩)), fun q => absurd rfl q⟩)⟩
  obtain ⟨p, rfl⟩ : ∃ p : Nat, x = p := ⟨x.toNat, by omega⟩
  have hp : p < zN S := by omega
  refine ⟨hM, cs8 rfl, P_X10_packetOf p h rfl hp hi (fun q g e1 e2 e3 e4 => ?_) (fun q => bad (if_neg (fun z => q (by rw [Int.toNat_natCast] at z; exact z.2.2)))) ⟩
  have hl := h.len
  have hb := h.2.1
  have hq : q < G.length := (List.getElem?_eq_some_iff.mp e1).1
  have hil : i < (zQ S p).length := by
    have := (List.getElem?_eq_some_iff.mp e4).1
    omega
  have h' := h.thr 0
  refine ⟨⟨by omega, by omega⟩, ⟨by omega, by omega⟩, fun q => absurd q (by omega), fun _ => ⟨hy, cs8 rfl, cs8 rfl, P_X10_in (r64 hy) ⟨by omega, by omega⟩ ⟨by omega, by omega⟩ (fun r1 r2 => ⟨hM, cs8 rfl, P_X10_allGood (Or.inr rfl) (Or.inr rfl) (fun _ _ => ⟨⟨by omega, by omega⟩, fun q => absurd q (by decide), fun _ => ?_⟩) (fun _ q => absurd q (by decide)) (fun q => absurd q (by decide))⟩) (fun q => ⟨hM, cs8 rfl, P_X10_allGood (Or.inr rfl) (Or.inl rfl) (fun _ q => absurd q (by decide)) (fun _ _ => ⟨⟨by omega, by omega⟩, fun _ => ?_, fun q => absurd rfl q⟩) (fun q => absurd q (by decide))⟩)⟩⟩
  · rw [show aPkt S p i y = (0, qw g.2 y.toNat) by unfold aPkt; rw [if_pos ⟨q1, q2, e3, by rw [Int.toNat_natCast]; exact hil⟩, if_pos ⟨r1, r2⟩]; simp only [Int.toNat_natCast]; rw [e4]] at hK
    obtain ⟨w, rfl⟩ : ∃ w : Nat, y = w := ⟨y.toNat, by omega⟩
    refine ⟨hM, cs8 rfl, P_X10_k q (1 + w) h'.1 rfl (by omega) (by omega) ?_⟩
    rw [h'.pk e1 (by omega)]
    rw [show gw g (1 + w) = qw g.2 w by (have : w = 0 ∨ w = 1 ∨ w = 2 := by omega); rcases this with rfl | rfl | rfl <;> rfl]
    exact hK
  · rw [show aPkt S p i y = (2, 0) by unfold aPkt; rw [if_pos ⟨q1, q2, e3, by rw [Int.toNat_natCast]; exact hil⟩, if_neg q]] at hK
    exact hK
