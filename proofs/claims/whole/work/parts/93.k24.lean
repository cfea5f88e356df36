/-! PURE 81: runScript of the class -/
theorem rp_mem {c : Cm} {E : List Cm} : ∀ {n : Nat}, c ∈ rp n E → c ∈ E := by
  intro n
  induction n with
  | zero => intro h; exact (List.not_mem_nil h).elim
  | succ n ih =>
    intro h
    rcases List.mem_append.mp h with h | h
    · exact ih h
    · exact h
theorem prs_ok {B : List Int} (hB : BR B) {S : AS} : ∀ (k e w : Nat) (stk : List (Nat × List Cm)) (cur L : List Cm), e ≤ B.length → (∀ c ∈ cur, cOk S c) → (∀ q ∈ stk, ∀ c ∈ q.2, cOk S c) → prs k B S e w stk cur = .inr L → ∀ c ∈ L, cOk S c := by
  intro k
  induction k with
  | zero => intro e w stk cur L _ _ _ h; cases h
  | succ k ih =>
    intro e w stk cur L he hc hs h
    obtain ⟨-, -, f3, -⟩ := sc_facts hB he
    have cmd : (stk = [] → ¬ tkK (sc B e) = 0) → (stk ≠ [] → ¬ (tkK (sc B e) = 3 ∧ tkN (sc B e) = 41)) → ∀ c ∈ L, cOk S c := by
      intro m0 m1
      rw [prs_m m0 m1] at h
      obtain ⟨r, hr, h⟩ := bnd_i h
      obtain ⟨-, -, hrr⟩ := cmdR_r hB he hr
      cases r with
      | inl q =>
        obtain ⟨e', n⟩ := q
        refine ih e' (w + 1) _ [] L hrr.2.2.2.2.2 (fun c hc => (List.not_mem_nil hc).elim) (fun q hq => ?_) h
        rcases List.mem_cons.mp hq with rfl | hq
        · exact hc
        · exact hs q hq
      | inr q =>
        obtain ⟨e', c⟩ := q
        refine ih e' (w + 1) stk _ L hrr.2.2.2.2.2 (fun x hx => ?_) hs h
        rcases List.mem_append.mp hx with hx | hx
        · exact hc x hx
        · rcases List.mem_singleton.mp hx with rfl
          exact hrr.2.1
    cases stk with
    | nil =>
      by_cases z : tkK (sc B e) = 0
      · rw [prs_0 z] at h
        cases h
        exact hc
      · exact cmd (fun _ => z) (fun y => absurd rfl y)
    | cons q st =>
      obtain ⟨n0, out⟩ := q
      by_cases z : tkK (sc B e) = 3 ∧ tkN (sc B e) = 41
      · rw [prs_c z] at h
        obtain ⟨e', hs', h⟩ := bnd_i h
        obtain ⟨s1, s2⟩ := sgn_r hB f3 hs'
        refine ih e' w st _ L s2 (fun x hx => ?_) (fun q hq => hs q (List.mem_cons_of_mem _ hq)) h
        rcases List.mem_append.mp hx with hx | hx
        · exact hs (n0, out) List.mem_cons_self x hx
        · exact hc x (rp_mem hx)
      · exact cmd (fun y => by cases y) (fun _ => z)
theorem scr_ok {T : TS} (hB : TB T) {L : List Cm} (h : prs 601 (tB T) (tN T) 0 0 [] [] = .inr L) : ∀ c ∈ L, cOk (tN T) c := prs_ok hB.1 601 0 0 [] [] L (Nat.zero_le _) (fun c hc => (List.not_mem_nil hc).elim) (fun q hq => (List.not_mem_nil hq).elim) h
theorem SC.fd {μ μ' : MM} {L : List Cm} (h : SC μ L) (hf : ∀ a, 4 ≤ a → a ≤ 8 → μ'.1 a = μ.1 a) : SC μ' L := ⟨h.1, by rw [hf 4 (by decide) (by decide)]; exact h.2.1, fun i c hc => by rw [hf 5 (by decide) (by decide), hf 6 (by decide) (by decide), hf 7 (by decide) (by decide), hf 8 (by decide) (by decide)]; exact h.2.2 i c hc⟩
theorem CT.sdl {I J I1 J1 : Mi} {T : TS} {x : Er} (h : CT (I, J) T) (hF : FSc (I, J) (I1, J1)) (hE : ErC (I1, J1) x) : CT (uM I1 1 1 0, J1) (seB T [] x.1 x.2) ∧ FY (I, J) (uM I1 1 1 0, J1) := by
  obtain ⟨a1, a2, a3, a4, a5, a6⟩ := h
  obtain ⟨l, b1, b2, b3⟩ := a5.2.2
  have f : ∀ a, a ≠ 1 → (a < 4 ∨ 11 ≤ a) → uM I1 1 1 0 a = I a := fun a x z => (uM_r x).trans (hF.1 a x z)
  have g : ∀ a, a ≠ 1 → J1 a = J a := fun a x => hF.2.2 a x
  have m : ∀ e s, 11 ≤ e → HC e (I, J) s → HC e (uM I1 1 1 0, J1) s := fun e s he hs => HC_fr hs (fun a g1 g2 => ⟨f a (by omega) (by omega), g a (by omega)⟩)
  refine ⟨⟨⟨by show uM I1 1 1 0 1 1 = _; rw [uM_s]; rfl, by show ([] : List Int).length ≤ 600; decide, AI_nil⟩, ⟨by show uM I1 1 1 0 1 2 = _; rw [uM_k (by decide)]; exact hE.1, by show uM I1 1 1 0 1 3 = _; rw [uM_k (by decide)]; exact hE.2⟩, m 11 _ (by decide) a3, ?_, ⟨a5.1, by show uM I1 1 1 0 122 2 = _; rw [f 122 (by decide) (by omega)]; exact a5.2.1, l, b1, by show uM I1 1 1 0 122 1 = _; rw [f 122 (by decide) (by omega)]; exact b2, fun i s hs => m _ s (by omega) (b3 i s hs)⟩, ⟨by show uM I1 1 1 0 346 1 = _; rw [f 346 (by decide) (by omega)]; exact a6.1, a6.2.eq (f 347 (by decide) (by omega))⟩⟩, fun a ha => ⟨f a (by omega) (by omega), g a (by omega)⟩⟩
  show SY _ (tS T)
  cases e : tS T with
  | none => rw [e] at a4; show uM I1 1 1 0 0 6 = 0; rw [f 0 (by decide) (by omega)]; exact a4
  | some s => rw [e] at a4; exact ⟨by show uM I1 1 1 0 0 6 = 1; rw [f 0 (by decide) (by omega)]; exact a4.1, m 85 s (by decide) a4.2⟩
theorem P_C_runScript {I J : Mi} {K : Option AV → MM → Prop} {X : String → MM → Prop} {t : Nat} {T : TS} (h : CT (I, J) T) (hT : TG t T) (hB : TB T) (hN : NG T) (hK : OY [xA] (oScr T) K X (I, J)) : w_X9_runScript [.inr (.inr 0)] (I, J) K X := by
  have tb := h.tb hB
  refine ⟨cs8 rfl, h0X, h0X, h0X, h4S, cs8 rfl, P_X5_readFrom hN.1 tb h.2.2.1 (fun L hr I1 J1 F sd s => ?_) (fun x hr μ' F er => ?_)⟩
  · refine st_i (L' := [some (.inr (.inr 0)), some (.inl 1), none]) rfl ⟨h0X, h1T, ⟨by omega, by omega⟩, fun _ => ?_, fun z => absurd z (by decide)⟩
    obtain ⟨ct, fy⟩ := h.sdl F sd.2.2
    have ct0 := ct
    obtain ⟨a1, a2, a3, a4, a5, a6⟩ := ct0
    refine ⟨h0X, h0X, h122, cs8 rfl, P_X0_remember (e := 11) a3 (by decide) a5 (fun I2 J2 k1 k2 => ?_)⟩
    have H2 : HC 11 (I2, J2) (tN T) := HC11_keep a3 k2
    have s2 : SC (I2, J2) (L.take 40) := s.fd (fun a h1 h2 => (show I2 a = uM I1 1 1 0 a from (k2 a (by omega)).1).trans (uM_r (by omega)))
    have hl : (L.take 40).length ≤ 40 := by rw [List.length_take]; omega
    obtain ⟨t1, t2, -, -⟩ := hT
    have key := runScript9_lp (K := K) (X := X) (L := L.take 40) (L.take 40).length 0 (41 * (t : Int)) (20000 + 4100 * (t : Int)) (I2, J2) (tN T) (by omega) H2 (OKs_b.mp t2) (by omega) (by omega) (by omega) s2 (fun c hc => scr_ok hB hr c (List.mem_of_mem_take hc)) (fun μ2 H3 F3 => ?_)
    · exact c_ci (st_i (L' := [some (.inr (.inr 0)), some (.inl 1), some (.inl ((0 : Nat) : Int))]) rfl key)
    · rw [List.drop_zero] at H3
      obtain ⟨m1, m2⟩ := ct.rem k1 k2 F3 H3
      rw [List.drop_zero, Nat.add_zero]
      exact hK.k (oScr_r hr) m1 (fy.trans m2)
  · refine st_i (L' := [some (.inr (.inr 0)), some (.inl 0), none]) rfl ⟨h0X, h1T, ⟨by omega, by omega⟩, fun z => absurd rfl z, fun _ => ⟨cs8 rfl, ?_⟩⟩
    obtain ⟨c, fy⟩ := h.sdl F er
    have := hK.2 0 xA rfl (by rw [oScr_l hr]; rfl) (uM μ'.1 1 1 0, μ'.2) (by rw [oScr_l hr]; exact c) fy
    exact this
theorem scr_G {t : Nat} {T : TS} (hT : TG t T) (hB : TB T) {L : List Cm} (h : prs 601 (tB T) (tN T) 0 0 [] [] = .inr L) : OKs (t + 1) (rnC (L.take 40) (tN T)).1 ∧ SM (tN T) (rnC (L.take 40) (tN T)).1 := by
  have hl : (L.take 40).length ≤ 40 := by rw [List.length_take]; omega
  obtain ⟨t1, t2, -, -⟩ := hT
  obtain ⟨o, m⟩ := rnC_ok (L.take 40) (41 * (t : Int)) (20000 + 4100 * (t : Int)) (tN T) (OKs_b.mp t2) (fun c hc => scr_ok hB h c (List.mem_of_mem_take hc)) (by omega) (by omega) (by omega)
  exact ⟨OKs_b.mpr (o.mono (by omega) (by omega)), m⟩
theorem TG_scr {t : Nat} {T : TS} (h : TG t T) (ht : t < 512) (hB : TB T) : TG (t + 1) (oScr T).2 := by
  cases hr : prs 601 (tB T) (tN T) 0 0 [] [] with
  | inl x => rw [oScr_l hr]; exact h.up ht
  | inr L => rw [oScr_r hr]; exact h.step ht (scr_G h hB hr).1
theorem NG_scr {t : Nat} {T : TS} (h : NG T) (hT : TG t T) (hB : TB T) : NG (oScr T).2 := by
  cases hr : prs 601 (tB T) (tN T) 0 0 [] [] with
  | inl x => rw [oScr_l hr]; exact h
  | inr L => rw [oScr_r hr]; exact h.step (scr_G hT hB hr).2
theorem TB_scr {T : TS} (hB : TB T) : TB (oScr T).2 := by
  cases hr : prs 601 (tB T) (tN T) 0 0 [] [] with
  | inl x => rw [oScr_l hr]; exact ⟨fun x hx => (List.not_mem_nil hx).elim, by show ([] : List Int).length ≤ 600; decide, hB.2.2⟩
  | inr L => rw [oScr_r hr]; exact ⟨fun x hx => (List.not_mem_nil hx).elim, by show ([] : List Int).length ≤ 600; decide, hB.2.2⟩
