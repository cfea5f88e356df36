/-! PURE 48: bounds kept by commands and calls -/
def DU (D : Int) (S : AS) : Prop := ∀ r ∈ zR S, r.2.2.2 ≤ D
def OKb (A D : Int) (S : AS) : Prop := Gd S ∧ zC S ≤ 9999 ∧ zA S ≤ A ∧ DU D S
theorem OKs_b {t : Nat} {S : AS} : OKs t S ↔ OKb (41 * t) (20000 + 4100 * t) S := Iff.rfl
theorem OKb.mono {A D A' D' : Int} {S : AS} (h : OKb A D S) (ha : A ≤ A') (hd : D ≤ D') : OKb A' D' S := ⟨h.1, h.2.1, Int.le_trans h.2.2.1 ha, fun r hr => Int.le_trans (h.2.2.2 r hr) hd⟩
theorem DU_les {D : Int} {S : AS} {i : Nat} {m : Prm} {c : Int} (h : DU D S) (hm : (zR S)[i]? = some m) : DU D (les S i c) := by
  rw [les_eq hm]
  intro r hr
  have hr : r ∈ (if m.2.2.1 - c = 0 then (zR S).eraseIdx i else (zR S).set i (m.1, m.2.1, m.2.2.1 - c, m.2.2.2)) := hr
  split at hr
  · exact h r (List.mem_of_mem_eraseIdx hr)
  · rcases List.mem_or_eq_of_mem_set hr with hr | rfl
    · exact h r hr
    · exact h m (List.mem_of_getElem? hm)
theorem shr_R {p : Nat} {r : Int} : ∀ (k : Nat) (S : AS), zR (shr k S p r) = zR S := by
  intro k
  induction k with
  | zero => intro S; rfl
  | succ k ih =>
    intro S
    unfold shr
    split
    · rfl
    · rw [ih]
      unfold drn
      split <;> rfl
theorem DU_tkb {D : Int} {S : AS} {i : Nat} {m : Prm} {c r : Int} (h : DU D S) (hm : (zR S)[i]? = some m) : DU D (tkb S i c r) := by
  rw [tkb_eq hm]
  intro x hx
  rw [shr_R] at hx
  exact DU_les h hm x hx
theorem DU_col {D : Int} (l : Nat) (b : Option Nat) : ∀ (k : Nat) (S : AS) (i : Nat) (left : Int), DU D S → DU D (col k S l b i left) := by
  intro k
  induction k with
  | zero => intro S i left h; exact h
  | succ k ih =>
    intro S i left h
    by_cases h0 : left ≤ 0
    · rw [col_0 h0]; exact h
    · by_cases hi : i < (zR S).length
      · obtain ⟨m, hm⟩ : ∃ m, (zR S)[i]? = some m := ⟨(zR S)[i], List.getElem?_eq_getElem hi⟩
        by_cases hb : mch m l b = true
        · rw [col_s (by omega) hm hb]
          exact ih _ _ _ (DU_tkb h hm)
        · rw [col_n (by omega) hm hb]
          exact ih S (i + 1) left h
      · have e : col (k + 1) S l b i left = S := by
          conv => lhs; unfold col
          rw [if_neg h0, List.getElem?_eq_none (by omega)]
        rw [e]; exact h
theorem DU_bor {D : Int} (p : Nat) : ∀ (k : Nat) (S : AS) (left : Int), DU D S → zC S + zT S ≤ D → DU D (bor k S p left) := by
  intro k
  induction k with
  | zero => intro S left h _; exact h
  | succ k ih =>
    intro S left h hd
    by_cases h0 : left ≤ 0
    · rw [bor_0 h0]; exact h
    · cases hz : bst S p (zN S) with
      | none =>
        have e : bor (k + 1) S p left = S := by
          conv => lhs; unfold bor
          rw [if_neg h0, hz]
        rw [e]; exact h
      | some z =>
        rw [bor_s (by omega) hz]
        refine ih _ _ (fun r hr => ?_) hd
        rcases pin_mem hr with rfl | hr
        · exact hd
        · exact h r hr
theorem DU_fls {D : Int} : ∀ (k : Nat) (S : AS), DU D S → DU D (fls k S) := by
  intro k
  induction k with
  | zero => intro S h; exact h
  | succ k ih =>
    intro S h
    cases hm : (zR S)[0]? with
    | none =>
      have e : fls (k + 1) S = S := by
        conv => lhs; unfold fls
        rw [hm]
      rw [e]; exact h
    | some m =>
      by_cases hd : m.2.2.2 ≤ zC S
      · rw [fls_s hm hd]; exact ih _ (DU_tkb h hm)
      · rw [fls_e hm hd]; exact h
theorem sal_R : ∀ (k : Nat) (S : AS), zR (sal k S) = zR S := by
  intro k
  induction k with
  | zero => intro S; rfl
  | succ k ih => intro S; exact ih S
theorem DU_tck {D : Int} {S : AS} (h : DU D S) : DU D (tck S) := by
  intro r hr
  have hr : r ∈ zR (sal (zN S) (fls (zR S).length (clk S))) := hr
  rw [sal_R] at hr
  exact DU_fls (zR S).length (clk S) h r hr
theorem DU_tkn {D : Int} : ∀ (k : Nat) (S : AS), DU D S → DU D (tkn k S) := by
  intro k
  induction k with
  | zero => intro S h; exact h
  | succ k ih => intro S h; exact ih (tck S) (DU_tck h)
theorem adm_ok {A D : Int} {S : AS} {p : Nat} {c : Int} (h : OKb A D S) (hp : p < zN S) (hc : 1 ≤ c ∧ c ≤ 40) (hA : A + 1 ≤ 30000) (hD : 10098 ≤ D) : OKb (A + 1) D (adm S p c).1 := by
  obtain ⟨g1, g2, g3, g4⟩ := h
  have htm := g1.1.2.1
  have g := cmd_Gd (p := p) g1 hc (by omega)
  refine ⟨adm_Gd g1 hp hc (by omega), ?_⟩
  obtain ⟨w0, w1, w2, w3⟩ := adm_ways g1 hp hc (show zA S + 1 ≤ 30000 by omega)
  have hw := way_r S p c
  have hcm : DU D (cmd S p c) := g4
  have hcA : zA (cmd S p c) ≤ A + 1 := by show zA S + 1 ≤ A + 1; omega
  have hh : way S p c = 0 ∨ way S p c = 1 ∨ way S p c = 2 ∨ way S p c = 3 := by omega
  rcases hh with q | q | q | q
  · rw [(w0 q).1]; exact ⟨g2, hcA, hcm⟩
  · rw [(w1 q).1]
    obtain ⟨k1, k2, k3, k4, k5, k6, k7, k8⟩ := col_keep p none (zR S).length (cmd S p c) 0 (c - fre S p) g
    refine ⟨?_, ?_, DU_col p none _ _ _ _ hcm⟩
    · show zC (col (zR S).length (cmd S p c) p none 0 (c - fre S p)) ≤ 9999; rw [k3]; exact g2
    · show zA (col (zR S).length (cmd S p c) p none 0 (c - fre S p)) ≤ A + 1; rw [k4]; exact hcA
  · rw [(w2 q).1]
    obtain ⟨k1, k2, k3, k4, k5, k6, k7, k8, k9, k10⟩ := bor_keep p (zN S) (cmd S p c) (c - fre S p) g hp (zcn_le (cmd S p c) p) (w2 q).2.2.1.1 (w2 q).2.2.2
    refine ⟨?_, ?_, DU_bor p _ _ _ hcm (by show zC S + zT S ≤ D; omega)⟩
    · show zC (bor (zN S) (cmd S p c) p (c - fre S p)) ≤ 9999; rw [k3]; exact g2
    · show zA (bor (zN S) (cmd S p c) p (c - fre S p)) ≤ A + 1; rw [k4]; exact hcA
  · rw [(w3 q).1]; exact ⟨g2, hcA, hcm⟩
theorem tkn_ok {A D : Int} {S : AS} {n : Nat} (h : OKb A D S) (hn : zC S + n ≤ 9999) : OKb A D (tkn n S) := by
  obtain ⟨g1, g2, g3, g4⟩ := h
  obtain ⟨a1, a2, a3, a4, a5, a6⟩ := tkn_keep n S g1 (by omega)
  exact ⟨a1, by rw [a3]; exact hn, by rw [a4]; exact g3, DU_tkn n S g4⟩
theorem col_ok {A D : Int} {S : AS} {l : Nat} {b : Option Nat} {c : Int} (h : OKb A D S) : OKb A D (col (zR S).length S l b 0 c) := by
  obtain ⟨g1, g2, g3, g4⟩ := h
  obtain ⟨k1, k2, k3, k4, k5, k6, k7, k8⟩ := col_keep l b (zR S).length S 0 c g1
  exact ⟨k1, by rw [k3]; exact g2, by rw [k4]; exact g3, DU_col l b _ _ _ _ g4⟩
theorem ext_ok {A D : Int} {S : AS} {i : Nat} {m : Prm} (h : OKb A D S) (hm : (zR S)[i]? = some m) (hD : D + 99 ≤ 3000000) : OKb A (D + 99) (ext S i) := by
  obtain ⟨g1, g2, g3, g4⟩ := h
  have htm := g1.1.2.1
  have hmd := g4 m (List.mem_of_getElem? hm)
  refine ⟨(ext_Gd g1 hm (by omega)).1, ?_⟩
  rw [ext_eq hm]
  refine ⟨g2, g3, fun r hr => ?_⟩
  rcases pin_mem hr with rfl | hr
  · show m.2.2.2 + zT S ≤ D + 99; omega
  · have := g4 r (List.mem_of_mem_eraseIdx hr)
    omega
theorem trm_ok {A D : Int} {S : AS} {x : Int} (h : OKb A D S) (hx : 1 ≤ x ∧ x ≤ 99) : OKb A D (stG S x (zK S) (zC S) (zA S)) := ⟨stT_Gd h.1 hx, h.2⟩
theorem kep_ok {A D : Int} {S : AS} {x : Int} (h : OKb A D S) (hx : 0 ≤ x ∧ x ≤ 200) : OKb A D (stG S (zT S) x (zC S) (zA S)) := ⟨stK_Gd h.1 hx, h.2⟩
theorem OKs.up {t : Nat} {S : AS} (h : OKs t S) : OKs (t + 1) S := OKb.mono (OKs_b.mp h) (by omega) (by omega)
theorem TG.up {t : Nat} {T : TS} (h : TG t T) (ht : t < 512) : TG (t + 1) T := ⟨ht, h.2.1.up, fun s hs => (h.2.2.1 s hs).up, fun s hs => (h.2.2.2 s hs).up⟩
theorem TG.step {t : Nat} {T : TS} {S : AS} (h : TG t T) (ht : t < 512) (hS : OKs (t + 1) S) : TG (t + 1) (seN T S (kpH T)) := ⟨ht, hS, fun s hs => (h.2.2.1 s hs).up, fun s hs => by
  rcases List.mem_cons.mp (List.mem_of_mem_take hs) with rfl | hs
  · exact h.2.1.up
  · exact (h.2.2.2 s hs).up⟩
theorem TG_arr {t : Nat} {T : TS} {x c : Int} (h : TG t T) (ht : t < 512) : TG (t + 1) (oArr T x c).2 := by
  unfold oArr
  split
  · split
    · rename_i q1 q2
      exact h.step ht (OKb.mono (adm_ok (OKs_b.mp h.2.1) (by omega) q2 (by omega) (by omega)) (by omega) (by omega))
    · exact h.up ht
  · exact h.up ht
theorem TG_tck {t : Nat} {T : TS} {x : Int} (h : TG t T) (ht : t < 512) : TG (t + 1) (oTck T x).2 := by
  unfold oTck
  split
  · split
    · rename_i q1 q2
      exact h.step ht (OKb.mono (tkn_ok (OKs_b.mp h.2.1) (by omega)) (by omega) (by omega))
    · exact h.up ht
  · exact h.up ht
theorem TG_giv {t : Nat} {T : TS} {x y c : Int} (h : TG t T) (ht : t < 512) : TG (t + 1) (oGiv T x y c).2 := by
  unfold oGiv
  split
  · split
    · split
      · exact h.step ht (OKb.mono (col_ok (OKs_b.mp h.2.1)) (by omega) (by omega))
      · exact h.up ht
    · exact h.up ht
  · exact h.up ht
theorem TG_ext {t : Nat} {T : TS} {x : Int} (h : TG t T) (ht : t < 512) : TG (t + 1) (oExt T x).2 := by
  unfold oExt
  split
  · split
    · exact h.up ht
    · rename_i m hm
      split
      · exact h.step ht (OKb.mono (ext_ok (OKs_b.mp h.2.1) hm (by omega)) (by omega) (by omega))
      · exact h.up ht
  · exact h.up ht
theorem TG_trm {t : Nat} {T : TS} {x : Int} (h : TG t T) (ht : t < 512) : TG (t + 1) (oTrm T x).2 := by
  unfold oTrm
  split
  · rename_i q
    exact h.step ht (OKb.mono (trm_ok (OKs_b.mp h.2.1) q) (by omega) (by omega))
  · exact h.up ht
theorem TG_kep {t : Nat} {T : TS} {x : Int} (h : TG t T) (ht : t < 512) : TG (t + 1) (oKep T x).2 := by
  unfold oKep
  split
  · rename_i q
    exact h.step ht (OKb.mono (kep_ok (OKs_b.mp h.2.1) q) (by omega) (by omega))
  · exact h.up ht
theorem TG_und {t : Nat} {T : TS} (h : TG t T) (ht : t < 512) : TG (t + 1) (oUnd T).2 := by
  unfold oUnd
  split
  · exact h.up ht
  · rename_i s H e
    exact ⟨ht, (h.2.2.2 s (by rw [e]; exact List.mem_cons_self)).up, fun s' hs => (h.2.2.1 s' hs).up, fun s' hs => (h.2.2.2 s' (by rw [e]; exact List.mem_cons_of_mem _ hs)).up⟩
theorem TG_sav {t : Nat} {T : TS} (h : TG t T) (ht : t < 512) : TG (t + 1) (oSav T).2 := ⟨ht, h.2.1.up, fun s hs => by
  have hs : some (tN T) = some s := hs
  cases hs
  exact h.2.1.up, fun s hs => (h.2.2.2 s hs).up⟩
theorem TG_rst {t : Nat} {T : TS} (h : TG t T) (ht : t < 512) : TG (t + 1) (oRst T).2 := by
  unfold oRst
  split
  · exact h.up ht
  · rename_i s e
    exact ⟨ht, (h.2.2.1 s e).up, fun s' hs => (h.2.2.1 s' hs).up, fun s' hs => (List.not_mem_nil hs).elim⟩
