/-! PURE 92: a run of a whole script -/
section
variable {K : Option AV → MM → Prop} {μ0 : MM} {B : List Int} {S0 : AS} {A D : Int}
theorem Seg_rep {st : List (Nat × Int)} {E : List Cm} {p q e2 e3 n0 : Nat} (hn : NM S0) (v6 : vrb (sc B p) = 6) (hr : rpt B (tkE (sc B p)) = .inr (q, n0)) (hd : st.length < 2) (hn0 : 1 ≤ n0 ∧ n0 ≤ 20) (hq : q ≤ B.length) (body : ∀ m, Seg K μ0 B S0 A D ((tkA (sc B q), m) :: st) q e2 E) (c : tkK (sc B e2) = 3 ∧ tkN (sc B e2) = 41) (hs : sgn B (tkE (sc B e2)) 59 = .inr e3) : Seg K μ0 B S0 A D st p e3 (rp n0 E) := by
  intro n S μ pp kt kf
  obtain ⟨I, J⟩ := μ
  have pp0 := pp
  obtain ⟨⟨t, er⟩, ⟨q16, q17, q18, q20⟩, ⟨hn40, ⟨G, g⟩, oks, sm⟩, stk, fr⟩ := pp
  have v : vrb (sc B p) ≠ -1 := by rw [v6]; decide
  obtain ⟨m, rfl⟩ : ∃ m, n0 = m + 1 := ⟨n0 - 1, by omega⟩
  refine g34_cmd t er q17 (tk_v v) (fun K' hK' => rc_p2 t er q16 q18 (by omega) v (fun _ => hd) (B144_g t er g (sm.nm hn) (Or.inr q16) q17 q18 (by omega) v (fun _ e2 c2 hc2 I' J' f t' => hK' _ ?_) (fun z => absurd v6 z) (fun x hx => ?_)))
  · rw [hr] at hc2
    cases hc2
    have F : FQ (I, J) (uM (uM (uM I' 348 18 ((st.length : Int) + 1)) 352 (st.length + 1) (tkA (sc B q) : Int)) 353 (st.length + 1) ((m + 1 : Nat) : Int), J') := (f.fq n9q).trans ((FQ.put (by omega)).trans ((FQ.arr (Or.inl rfl)).trans (FQ.arr (Or.inr rfl))))
    refine rep_lp (by omega) hq body c hs m n S _ (by omega) ⟨⟨t'.eq (fun j h5 h9 => k348 (by omega)) ?_ rfl, ⟨(k348 (by decide)).trans ((f.2.1 10 (by decide)).trans er.1), (k348 (by decide)).trans ((f.2.1 11 (by decide)).trans er.2)⟩⟩, ⟨(k348 (by decide)).trans ((f.2.1 16 (by decide)).trans q16), (k348 (by decide)).trans ((f.2.1 17 (by decide)).trans q17), ?_, (k348 (by decide)).trans ((f.2.1 20 (by decide)).trans q20)⟩, ⟨hn40, ⟨G, g.fq F⟩, oks, sm⟩, ⟨⟨?_, pS⟩, stk.eq st (fun j hj => ⟨?_, ?_⟩)⟩, fr.trans F.fr⟩ kt kf
    · show uM (uM (uM I' 348 18 ((st.length : Int) + 1)) 352 (st.length + 1) (tkA (sc B q) : Int)) 353 (st.length + 1) ((m + 1 : Nat) : Int) 351 = I' 351
      rw [uM_r (by decide), uM_r (by decide), uM_r (by decide)]
    · show uM (uM (uM I' 348 18 ((st.length : Int) + 1)) 352 (st.length + 1) (tkA (sc B q) : Int)) 353 (st.length + 1) ((m + 1 : Nat) : Int) 348 18 = ((st.length + 1 : Nat) : Int)
      rw [k348s]
      omega
    · show uM (uM (uM I' 348 18 ((st.length : Int) + 1)) 352 (st.length + 1) (tkA (sc B q) : Int)) 353 (st.length + 1) ((m + 1 : Nat) : Int) 352 (st.length + 1) = _
      rw [uM_e (by decide), uM_s]
    · show uM (uM (uM I' 348 18 ((st.length : Int) + 1)) 352 (st.length + 1) (tkA (sc B q) : Int)) 353 (st.length + 1) ((m + 1 : Nat) : Int) 352 j = I 352 j
      rw [uM_e (by decide), uM_k (by omega), uM_e (by decide)]
      exact congrFun (f.1 352 (by decide)) j
    · show uM (uM (uM I' 348 18 ((st.length : Int) + 1)) 352 (st.length + 1) (tkA (sc B q) : Int)) 353 (st.length + 1) ((m + 1 : Nat) : Int) 353 j = I 353 j
      rw [uM_k (by omega), uM_e (by decide), uM_e (by decide)]
      exact congrFun (f.1 353 (by decide)) j
  · have E0 : cmd2 B S p = .inr (.inl (q, m + 1)) := (if_pos v6).trans (bnd_r hr)
    rw [E0] at hx
    cases hx
def Head (B : List Int) (p q n0 d : Nat) : Prop := vrb (sc B p) = 6 ∧ rpt B (tkE (sc B p)) = .inr (q, n0) ∧ d < 2 ∧ (1 ≤ n0 ∧ n0 ≤ 20) ∧ q ≤ B.length
def SegD (K : Option AV → MM → Prop) (μ0 : MM) (B : List Int) (S0 : AS) (A D : Int) (d e e' : Nat) (E : List Cm) : Prop := ∀ st : List (Nat × Int), st.length = d → Seg K μ0 B S0 A D st e e' E
def INV (K : Option AV → MM → Prop) (μ0 : MM) (B : List Int) (S0 : AS) (A D : Int) : List (Nat × List Cm) → List Cm → Nat → Prop
  | [], cur, e => SegD K μ0 B S0 A D 0 0 e cur
  | a :: stk, cur, e => ∃ p q, INV K μ0 B S0 A D stk a.2 p ∧ Head B p q a.1 stk.length ∧ SegD K μ0 B S0 A D (stk.length + 1) q e cur
theorem INV_x {stk : List (Nat × List Cm)} {cur E : List Cm} {e e' : Nat} (h : INV K μ0 B S0 A D stk cur e) (h' : SegD K μ0 B S0 A D stk.length e e' E) : INV K μ0 B S0 A D stk (cur ++ E) e' := by
  cases stk with
  | nil => exact fun st hs => (h st hs).trans (h' st hs)
  | cons a stk =>
    obtain ⟨p, q, h1, h2, h3⟩ := h
    exact ⟨p, q, h1, h2, fun st hs => (h3 st hs).trans (h' st hs)⟩
theorem prs_inv (hB : BR B) (hn : NM S0) (hA : A + 40 ≤ 30000) (hD0 : 10098 ≤ D) (hD : D + 3960 ≤ 3000000) : ∀ (k e w : Nat) (stk : List (Nat × List Cm)) (cur L : List Cm), e ≤ B.length → stk.length ≤ 2 → INV K μ0 B S0 A D stk cur e → prs k B S0 e w stk cur = .inr L → ∃ e', tkK (sc B e') = 0 ∧ SegD K μ0 B S0 A D 0 0 e' L := by
  intro k
  induction k with
  | zero => intro e w stk cur L _ _ _ h; cases h
  | succ k ih =>
    intro e w stk cur L he hl hi h
    obtain ⟨f1, f2, f3, -⟩ := sc_facts hB he
    have cmd : (stk = [] → ¬ tkK (sc B e) = 0) → (stk ≠ [] → ¬ (tkK (sc B e) = 3 ∧ tkN (sc B e) = 41)) → ∃ e', tkK (sc B e') = 0 ∧ SegD K μ0 B S0 A D 0 0 e' L := fun a b => by
      rw [prs_m a b] at h
      obtain ⟨r, hr, h⟩ := bnd_i h
      have hrr := cmdR_r hB he hr
      cases r with
      | inl q =>
        obtain ⟨e', n⟩ := q
        obtain ⟨-, -, h1, h2, h3, h4, h5, h6⟩ := hrr
        exact ih e' (w + 1) ((n, cur) :: stk) [] L h6 (by show stk.length + 1 ≤ 2; omega) ⟨e, e', hi, ⟨h1, h2, h3, h4, h6⟩, fun st _ => Seg.refl⟩ h
      | inr q =>
        obtain ⟨e', c⟩ := q
        obtain ⟨-, -, h1, h2, h3, ⟨e1, h4, h4'⟩, h5, h6⟩ := hrr
        exact ih e' (w + 1) stk (cur ++ [c]) L h6 hl (INV_x hi (fun st hs => Seg_plain hn hA hD0 hD (by omega) (by omega) (by omega) h4 h4' h2)) h
    cases stk with
    | nil =>
      by_cases z : tkK (sc B e) = 0
      · rw [prs_0 z] at h
        cases h
        exact ⟨e, z, hi⟩
      · exact cmd (fun _ => z) (fun y => absurd rfl y)
    | cons a st =>
      obtain ⟨n0, out⟩ := a
      by_cases z : tkK (sc B e) = 3 ∧ tkN (sc B e) = 41
      · rw [prs_c z] at h
        obtain ⟨e', hs', h⟩ := bnd_i h
        obtain ⟨s1, s2⟩ := sgn_r hB f3 hs'
        obtain ⟨p, q, h1, ⟨g1, g2, g3, g4, g5⟩, h3⟩ := hi
        have hl : st.length + 1 ≤ 2 := hl
        exact ih e' w st _ L s2 (by omega) (INV_x h1 (fun st' hs => Seg_rep hn g1 g2 (by omega) g4 g5 (fun m => h3 _ (by show st'.length + 1 = _; rw [hs])) z hs')) h
      · exact cmd (fun y => by cases y) (fun _ => z)
/-- the loop, run from the beginning -/
theorem run_lp (hB : BR B) (hn : NM S0) (hA : A + 40 ≤ 30000) (hD0 : 10098 ≤ D) (hD : D + 3960 ≤ 3000000) {k : Nat} {L : List Cm} (h : prs k B S0 0 0 [] [] = .inr L) {μ : MM} (p : P2 μ0 B S0 A D [] 0 0 S0 μ) (hK : ∀ μ', EN μ0 (rnC (L.take 40) S0).2 (rnC (L.take 40) S0).1 μ' → K none μ') : Lp K μ := by
  obtain ⟨e', z, s⟩ := prs_inv (K := K) (μ0 := μ0) hB hn hA hD0 hD k 0 0 [] [] L (Nat.zero_le _) (by show (0 : Nat) ≤ 2; decide) (fun st _ => Seg.refl) h
  have key := rn40_rnC L S0 40 0 rfl (by decide)
  refine s [] rfl 0 S0 μ p (fun S' n' r μ' en => hK μ' ?_) (fun S' n' r μ' pp => ?_)
  · rw [r] at key
    have k1 : S' = _ := congrArg Prod.fst key
    have k2 : n' = _ := congrArg Prod.snd key
    rw [← k1, ← show n' = (rnC (L.take 40) S0).2 from k2]
    exact en
  · rw [r] at key
    have k1 : S' = _ := congrArg Prod.fst key
    have k2 : n' = _ := congrArg Prod.snd key
    obtain ⟨I, J⟩ := μ'
    obtain ⟨⟨t, er⟩, ⟨q16, q17, q18, q20⟩, ⟨hn40, g, oks, sm⟩, stk, fr⟩ := pp
    have e8 : I 348 8 = (tkK (sc B e') : Int) := t.2.2.2.2.1
    have q17 : I 348 17 = 0 := q17
    refine lfp_in ⟨hM, cs8 rfl, P_X10_isGood er R32_0 (fun _ => ⟨R32_1, fun z => absurd z (by decide), fun _ => ⟨hM, t.kr, fun _ => c_kil rfl (g78_g er (Or.inl q17) (fun _ => q18) (hK _ ?_)), fun y => absurd (show I 348 8 = 0 by rw [e8, z]; rfl) y⟩⟩) (fun z => absurd rfl z)⟩
    rw [← k1, ← show n' = (rnC (L.take 40) S0).2 from k2]
    exact ⟨g, fr, q20, er⟩
end
