/-! PURE 74: names stay words -/
def SM (S S' : AS) : Prop := zN S' = zN S ∧ zM S' = zM S
theorem SM.refl {S : AS} : SM S S := ⟨rfl, rfl⟩
theorem SM.trans {S S1 S2 : AS} (h : SM S S1) (h' : SM S1 S2) : SM S S2 := ⟨h'.1.trans h.1, h'.2.trans h.2⟩
theorem SM.nm {S S' : AS} (h : SM S S') (hn : NM S) : NM S' := fun p hp => by rw [h.2]; exact hn p (by rw [← h.1]; exact hp)
theorem SM_drn {S : AS} {p : Nat} {r : Int} : SM S (drn S p r) := by
  unfold drn
  split <;> exact ⟨rfl, rfl⟩
theorem SM_shr {p : Nat} {r : Int} : ∀ (k : Nat) (S : AS), SM S (shr k S p r) := by
  intro k
  induction k with
  | zero => intro S; exact SM.refl
  | succ k ih =>
    intro S
    unfold shr
    split
    · exact SM.refl
    · exact SM_drn.trans (ih _)
theorem SM_les {S : AS} {i : Nat} {c : Int} : SM S (les S i c) := by
  unfold les
  split <;> exact ⟨rfl, rfl⟩
theorem SM_tkb {S : AS} {i : Nat} {c r : Int} : SM S (tkb S i c r) := by
  unfold tkb
  split
  · exact SM.refl
  · exact SM_les.trans (SM_shr _ _)
theorem SM_col (l : Nat) (b : Option Nat) : ∀ (k : Nat) (S : AS) (i : Nat) (left : Int), SM S (col k S l b i left) := by
  intro k
  induction k with
  | zero => intro S i left; exact SM.refl
  | succ k ih =>
    intro S i left
    unfold col
    split
    · exact SM.refl
    · split
      · exact SM.refl
      · split
        · exact SM_tkb.trans (ih _ _ _)
        · exact ih _ _ _
theorem SM_bor (p : Nat) : ∀ (k : Nat) (S : AS) (left : Int), SM S (bor k S p left) := by
  intro k
  induction k with
  | zero => intro S left; exact SM.refl
  | succ k ih =>
    intro S left
    unfold bor
    split
    · exact SM.refl
    · split
      · exact SM.refl
      · exact SM.trans (S1 := stR S _) ⟨rfl, rfl⟩ (ih _ _)
theorem SM_fls : ∀ (k : Nat) (S : AS), SM S (fls k S) := by
  intro k
  induction k with
  | zero => intro S; exact SM.refl
  | succ k ih =>
    intro S
    unfold fls
    split
    · exact SM.refl
    · split
      · exact SM.trans (S1 := stR S ((zR S).eraseIdx 0)) ⟨rfl, rfl⟩ ((SM_shr _ _).trans (ih _))
      · exact SM.refl
theorem SM_sal : ∀ (k : Nat) (S : AS), SM S (sal k S) := by
  intro k
  induction k with
  | zero => intro S; exact SM.refl
  | succ k ih => intro S; exact ⟨(ih S).1, (ih S).2⟩
theorem SM_tck {S : AS} : SM S (tck S) := by
  have h1 := SM_fls (zR S).length (stG S (zT S) (zK S) (zC S + 1) (zA S))
  have h2 := SM_sal (zN S) (fls (zR S).length (stG S (zT S) (zK S) (zC S + 1) (zA S)))
  exact ⟨h2.1.trans h1.1, h2.2.trans h1.2⟩
theorem SM_tkn : ∀ (k : Nat) (S : AS), SM S (tkn k S) := by
  intro k
  induction k with
  | zero => intro S; exact SM.refl
  | succ k ih => intro S; exact SM_tck.trans (ih _)
theorem SM_adm {S : AS} {p : Nat} {c : Int} : SM S (adm S p c).1 := by
  unfold adm
  dsimp only
  split
  · exact ⟨rfl, rfl⟩
  · have h := SM_col p none (zR S).length (stP (stG S (zT S) (zK S) (zC S) (zA S + 1)) (uM (zP S) p 3 (zP S p 3 + c))) 0 (c - fre S p)
    exact ⟨h.1, h.2⟩
  · have h := SM_bor p (zN S) (stP (stG S (zT S) (zK S) (zC S) (zA S + 1)) (uM (zP S) p 3 (zP S p 3 + c))) (c - fre S p)
    exact ⟨h.1, h.2⟩
  · exact ⟨rfl, rfl⟩
theorem SM_ext {S : AS} {i : Nat} : SM S (ext S i) := by
  unfold ext
  split <;> exact ⟨rfl, rfl⟩
/-- all names are words, wherever a switch is kept -/
def NG (T : TS) : Prop := NM (tN T) ∧ (∀ s, tS T = some s → NM s) ∧ (∀ s ∈ tH T, NM s)
theorem NG.step {T : TS} {S : AS} (h : NG T) (hS : SM (tN T) S) : NG (seN T S (kpH T)) := ⟨hS.nm h.1, h.2.1, fun s hs => by
  rcases List.mem_cons.mp (List.mem_of_mem_take hs) with rfl | hs
  · exact h.1
  · exact h.2.2 s hs⟩
theorem NG_arr {T : TS} {x c : Int} (h : NG T) : NG (oArr T x c).2 := by
  unfold oArr
  split
  · split
    · exact h.step SM_adm
    · exact h
  · exact h
theorem NG_tck {T : TS} {x : Int} (h : NG T) : NG (oTck T x).2 := by
  unfold oTck
  split
  · split
    · exact h.step (SM_tkn _ _)
    · exact h
  · exact h
theorem NG_giv {T : TS} {x y c : Int} (h : NG T) : NG (oGiv T x y c).2 := by
  unfold oGiv
  split
  · split
    · split
      · exact h.step (SM_col _ _ _ _ _ _)
      · exact h
    · exact h
  · exact h
theorem NG_ext {T : TS} {x : Int} (h : NG T) : NG (oExt T x).2 := by
  unfold oExt
  split
  · split
    · exact h
    · split
      · exact h.step SM_ext
      · exact h
  · exact h
theorem NG_trm {T : TS} {x : Int} (h : NG T) : NG (oTrm T x).2 := by
  unfold oTrm
  split
  · exact h.step ⟨rfl, rfl⟩
  · exact h
theorem NG_kep {T : TS} {x : Int} (h : NG T) : NG (oKep T x).2 := by
  unfold oKep
  split
  · exact h.step ⟨rfl, rfl⟩
  · exact h
theorem NG_und {T : TS} (h : NG T) : NG (oUnd T).2 := by
  unfold oUnd
  split
  · exact h
  · rename_i s H e
    exact ⟨h.2.2 s (by rw [e]; exact List.mem_cons_self), h.2.1, fun s' hs => h.2.2 s' (by rw [e]; exact List.mem_cons_of_mem _ hs)⟩
theorem NG_sav {T : TS} (h : NG T) : NG (oSav T).2 := ⟨h.1, fun s hs => by
  have hs : some (tN T) = some s := hs
  cases hs
  exact h.1, h.2.2⟩
theorem NG_rst {T : TS} (h : NG T) : NG (oRst T).2 := by
  unfold oRst
  split
  · exact h
  · rename_i s e
    exact ⟨h.2.1 s e, h.2.1, fun s' hs => (List.not_mem_nil hs).elim⟩
theorem NG_fed {T : TS} {a b c d e : Int} (h : NG T) : NG (oFed T a b c d e).2 := by
  unfold oFed
  split <;> exact h
theorem NG_trn {T : TS} {n : Int} (h : NG T) : NG (oTrn T n).2 := by
  unfold oTrn
  split <;> exact h
theorem txt_F {T : TS} (hB : TB T) {S : AS} (h : rdX 601 (tB T) 0 emS 0 0 = .inr S) : Fsh S := rdX_F hB.1 601 0 emS S 0 0 (Nat.zero_le _) emS_F ⟨Or.inl rfl, Or.inl rfl⟩ h
theorem NG_txt {T : TS} (h : NG T) (hB : TB T) : NG (oTxt T).2 := by
  cases hr : rdX 601 (tB T) 0 emS 0 0 with
  | inl x => rw [oTxt_l hr]; exact h
  | inr S => rw [oTxt_r hr]; exact ⟨(txt_F hB hr).2.2.2.2.2.2.2.2.2, h.2.1, fun s hs => (List.not_mem_nil hs).elim⟩
theorem TB_txt {T : TS} (hB : TB T) : TB (oTxt T).2 := by
  cases hr : rdX 601 (tB T) 0 emS 0 0 with
  | inl x => rw [oTxt_l hr]; exact ⟨fun x hx => (List.not_mem_nil hx).elim, by show ([] : List Int).length ≤ 600; decide, hB.2.2⟩
  | inr S => rw [oTxt_r hr]; exact ⟨fun x hx => (List.not_mem_nil hx).elim, by show ([] : List Int).length ≤ 600; decide, hB.2.2⟩
theorem Fsh.ok {t : Nat} {S : AS} (h : Fsh S) : OKs t S := by
  obtain ⟨a1, a2, a3, a4, a5, a6, a7, a8, a9, a10⟩ := h
  exact ⟨Fsh.gd ⟨a1, a2, a3, a4, a5, a6, a7, a8, a9, a10⟩, by omega, by omega, fun r hr => by rw [a8] at hr; exact absurd hr List.not_mem_nil⟩
theorem TG_txt {t : Nat} {T : TS} (h : TG t T) (ht : t < 512) (hB : TB T) : TG (t + 1) (oTxt T).2 := by
  cases hr : rdX 601 (tB T) 0 emS 0 0 with
  | inl x => rw [oTxt_l hr]; exact h.up ht
  | inr S => rw [oTxt_r hr]; exact ⟨ht, (txt_F hB hr).ok, fun s hs => (h.2.2.1 s hs).up, fun s hs => (List.not_mem_nil hs).elim⟩
