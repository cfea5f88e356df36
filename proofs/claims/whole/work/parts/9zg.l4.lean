/-! LAW 4: the law's own walk, in pieces -/
theorem W_n9 {cA : Nat → ClassId} {I J : Mi} {b0 : Nat} {v : Int} (hv : jI v = jI (I 348 9)) : PW cA (uM I 348 9 v) J b0 = PW cA I J b0 := by
  unfold PW
  refine List.map_congr_left (fun e _ => ?_)
  have he : en cA (uM I 348 9 v) J b0 e = en cA I J b0 e := by
    by_cases q : e = 348
    · subst q
      have hf : fv (uM I 348 9 v) J b0 348 = fv I J b0 348 := by
        funext k
        unfold fv
        by_cases z : k = 9
        · subst z
          rw [uM_s, hv]
        · rw [uM_k z]
      rw [en_ob hM.2 (by decide), en_ob hM.2 (by decide), hf]
    · exact en_other (uM_r q) rfl
  rw [he]
/-- the same memory, one number of the model's brought into its range -/
theorem LI_n9 {t : Nat} {μ : MM} {T : TS} {cA : Nat → ClassId} {D : va_G} {b0 : Nat} {Hs H : Heap} (h : LI t μ T) (hW : Wo cA D b0 Hs μ H) : ∃ μ', LI t μ' T ∧ R32 (μ'.1 348 9) ∧ Wo cA D b0 Hs μ' H := by
  obtain ⟨hC, hM1, h2⟩ := h
  refine ⟨(uM μ.1 348 9 (jI (μ.1 348 9)).toInt, μ.2), ⟨hC.low (fun a ha => ⟨uM_r (by omega), rfl⟩), hM1.hi (fun j hj => uM_k hj) (fun a h1 _ => ⟨uM_r (by omega), rfl⟩), h2⟩, ?_, hW.1, ?_, hW.2.2⟩
  · show R32 (uM μ.1 348 9 (jI (μ.1 348 9)).toInt 348 9)
    rw [uM_s]
    exact toI_r _
  · show va_P D vwCl (PW cA (uM μ.1 348 9 (jI (μ.1 348 9)).toInt) μ.2 b0) H
    rw [W_n9 (jI_back _)]
    exact hW.2.1
/-- the surroundings of the law's body -/
def LE (p : Program) (l : Launch) (s : State) (m : MethodId) (meth : Method) (c : Code) (b L : Nat) (xs : Nat → Int32) (cA : Nat → ClassId) (D : va_G) : Prop := lw_At p s m meth c b L xs ∧ l.stackTraces = false ∧ L ≤ 3072 ∧ va_K D vwCl (tysA cA) s ∧ ZZ cA D s.heap.size s.heap s
theorem AWh_good {y : MethodName} {cc : ByteArray} {maxL : Nat} {ret : Option FieldType} {hh : List (Nat × Nat × Nat × Nat)} (h : Cond.codeWith y cc maxL ret hh ∈ AW) : GoodIn AW (Cond.codeWith y cc maxL ret hh :: AW) := by
  intro w hw
  rcases List.mem_cons.mp hw with rfl | hw
  · exact AW_good _ h
  · exact AW_good w hw
abbrev Dsc (pc k : Nat) : Prop := decode code pc = .ok (.aload_n 0, 1) ∧ decode code (pc + 1) = .ok (.iload 4, 2) ∧ decode code (pc + 3) = .ok (.iconst (k : Int), 1) ∧ decode code (pc + 4) = .ok (.iadd, 1) ∧ decode code (pc + 5) = .ok (.iaload, 1)
def Dscs : Nat → List Nat → Prop
  | _, [] => True
  | pc, k :: ks => Dsc pc k ∧ Dscs (pc + 6) ks
section
variable {p : Program} {l : Launch} {e : Env} {R : Room} {s : State} {m : MethodId} {args : Array Value} {below : List Frame} {meth : Method} {c : Code} {H : Heap} {locs : List Loc} {cells slots : Nat} {Q : State → Prop} {cA : Nat → ClassId} {D : va_G} {b0 : Nat} {Hs : Heap}
theorem bind_callN {mc ms pc : Nat} {ls : Array Slot} {st0 rest : List Value} {a : Array Value} {K : Option AV → MM → Prop} (hb0 : b0 ≤ s.heap.size) (hr : va_Run p l e R s m args below meth c H locs cells slots mc ms (F0 m pc ls st0) rest (QcM cA D b0 Hs K a) (fun q => b0 ≤ q)) (hS : va_S (fun q => b0 ≤ q) s.heap H locs)
    (kk : ∀ (r : Option AV) (μ : MM) (H1 : Heap) (locs1 : List Loc), K r μ → Wo cA D b0 Hs μ H1 → va_S (fun q => b0 ≤ q) s.heap H1 locs1 → W p l e R s m args below meth c H1 locs1 (cells + mc) (slots + ms) Q (F0 m (pc + 3) ls ((r.map (tv b0)).toList ++ rest))) : W p l e R s m args below meth c H locs cells slots Q (F0 m pc ls st0) := by
  intro T hT X
  obtain ⟨v, st₀, t, T', L, h0, X', hL, e1, e2, ⟨⟨r, μ, hv, hp, hb⟩, hz, hk⟩, st⟩ := hr T hT X
  cases hv
  rw [h0] at hz hk
  obtain ⟨t2, a1, b1⟩ := kk r μ T'.heap (locs ++ L) hp (by rw [e1]; exact hb)
    ⟨Nat.le_trans hS.1 (by rw [e1]; exact hz), fun q h1 h2 => by rw [e1, hk q (Nat.lt_of_lt_of_le h1 hS.1) h2]; exact hS.2.1 q h1 h2, fun q hq => by
      rcases List.mem_append.mp hq with h | h
      · exact hS.2.2 q h
      · exact hL q h⟩ T' rfl X'
  exact ⟨t2, st t2 a1, b1⟩
variable {b L i0 : Nat} {xs : Nat → Int32} {ls : Array Slot}
theorem lw_scr (hx : p.tables.exec = Jvm.exec) (hb : c.code = code) (hX : va_X b L xs s s.heap) (hbl : b < s.heap.size) (hS : va_S (fun q => s.heap.size ≤ q) s.heap H locs) (hL : L ≤ 3072) (h0 : ls[0]? = some (.val (.ref b))) (h4 : ls[4]? = some (.val (.int (jI (i0 : Nat))))) {pc k : Nat} {st : List Value} (hk : i0 + k < L) (d : Dsc pc k)
    (kk : W p l e R s m args below meth c H locs cells slots Q (F0 m (pc + 6) ls (.int (jI (xs (i0 + k)).toInt) :: st))) : W p l e R s m args below meth c H locs cells slots Q (F0 m pc ls st) := by
  obtain ⟨d0, d1, d2, d3, d4⟩ := d
  refine lv_aload_n hx hb d0 rfl h0 ?_
  refine lv_iload hx hb d1 h4 ?_
  refine lv_iconst (v := jI (k : Int)) hx hb d2 rfl ?_
  refine lv_iadd hx hb d3 ?_
  rw [jI_add]
  refine va_sld hx hb hX hbl (Nat.not_le.mpr hbl) hS (jI_in (n := L) (by omega) (by omega) (by omega)) d4 ?_
  rw [jI_cl ⟨by omega, by omega⟩, show ((i0 : Int) + (k : Int)).toNat = i0 + k by omega]
  rw [jI_back] at kk
  exact kk
theorem lw_scrs (hx : p.tables.exec = Jvm.exec) (hb : c.code = code) (hX : va_X b L xs s s.heap) (hbl : b < s.heap.size) (hS : va_S (fun q => s.heap.size ≤ q) s.heap H locs) (hL : L ≤ 3072) (h0 : ls[0]? = some (.val (.ref b))) (h4 : ls[4]? = some (.val (.int (jI (i0 : Nat))))) : ∀ (ks : List Nat) (pc : Nat) (st : List Value), (∀ k ∈ ks, i0 + k < L) → Dscs pc ks →
    W p l e R s m args below meth c H locs cells slots Q (F0 m (pc + 6 * ks.length) ls ((ks.map (fun k => Value.int (jI (xs (i0 + k)).toInt))).reverse ++ st)) → W p l e R s m args below meth c H locs cells slots Q (F0 m pc ls st) := by
  intro ks
  induction ks with
  | nil => intro pc st _ _ kk; exact kk
  | cons k ks ih =>
    intro pc st hk d kk
    refine lw_scr hx hb hX hbl hS hL h0 h4 (hk k List.mem_cons_self) d.1 (ih (pc + 6) _ (fun k' h' => hk k' (List.mem_cons_of_mem _ h')) d.2 ?_)
    rw [show pc + 6 + 6 * ks.length = pc + 6 * (k :: ks).length by rw [List.length_cons]; omega]
    rw [List.map_cons, List.reverse_cons, List.append_assoc] at kk
    exact kk
end
