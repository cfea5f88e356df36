/-! LAW 7: what the Statement gives of the start (printed by a program) -/
abbrev gvn : Cond := Jvm.Cond.and given_1 narrow_1
section
variable {s : State} {b : Nat}
theorem gv_at (hgv : gvn.before #[Value.ref b] s = true) (i : Nat) {w : Cond} (h : (flatC gvn)[i]? = some w) : w.before #[Value.ref b] s = true := flat_of_before _ hgv _ (List.mem_of_getElem? h)
theorem tb_at (hts : ∀ w ∈ lw_tbl, w.before #[Value.ref b] s = true) (i : Nat) {w : Cond} (h : tables_1[i]? = some w) : w.before #[Value.ref b] s = true := hts _ (lw_at i h)
theorem st_cls (hA : ∀ w ∈ AW, w.before #[Value.ref b] s = true) : ∃ D : va_G, ∀ (k : Nat) (q : vw_C), vwCl[k]? = some q → u_Kn s q.1 q.2.1 q.2.2 (D.1 k) (D.2 k) := by
  obtain ⟨c0, i0, h0⟩ := u_known (C := RX0) (T := TX0) (N := nf 0) (n := nf 0) hA in_X0 (hA _ ic_X0)
  obtain ⟨c1, i1, h1⟩ := u_known (C := RX1) (T := TX1) (N := nf 1) (n := nf 1) hA in_X1 (hA _ ic_X1)
  obtain ⟨c2, i2, h2⟩ := u_known (C := RX2) (T := TX2) (N := nf 2) (n := nf 2) hA in_X2 (hA _ ic_X2)
  obtain ⟨c3, i3, h3⟩ := u_known (C := RX3) (T := TX3) (N := nf 3) (n := nf 3) hA in_X3 (hA _ ic_X3)
  obtain ⟨c4, i4, h4⟩ := u_known (C := RX4) (T := TX4) (N := nf 4) (n := nf 4) hA in_X4 (hA _ ic_X4)
  obtain ⟨c5, i5, h5⟩ := u_known (C := RX5) (T := TX5) (N := nf 5) (n := nf 5) hA in_X5 (hA _ ic_X5)
  obtain ⟨c6, i6, h6⟩ := u_known (C := RX6) (T := TX6) (N := nf 6) (n := nf 6) hA in_X6 (hA _ ic_X6)
  obtain ⟨c7, i7, h7⟩ := u_known (C := RX7) (T := TX7) (N := nf 7) (n := nf 7) hA in_X7 (hA _ ic_X7)
  obtain ⟨c8, i8, h8⟩ := u_known (C := RX8) (T := TX8) (N := nf 8) (n := nf 8) hA in_X8 (hA _ ic_X8)
  obtain ⟨c9, i9, h9⟩ := u_known (C := RX9) (T := TX9) (N := nf 9) (n := nf 9) hA in_X9 (hA _ ic_X9)
  obtain ⟨c10, i10, h10⟩ := u_known (C := RX10) (T := TX10) (N := nf 10) (n := nf 10) hA in_X10 (hA _ ic_X10)
  refine ⟨(fun k => [c0, c1, c2, c3, c4, c5, c6, c7, c8, c9, c10].getD k 0, fun k => [i0, i1, i2, i3, i4, i5, i6, i7, i8, i9, i10].getD k (fun _ => 0)), fun k q hq => ?_⟩
  match k, hq with
  | 0, hq => cases hq; exact h0
  | 1, hq => cases hq; exact h1
  | 2, hq => cases hq; exact h2
  | 3, hq => cases hq; exact h3
  | 4, hq => cases hq; exact h4
  | 5, hq => cases hq; exact h5
  | 6, hq => cases hq; exact h6
  | 7, hq => cases hq; exact h7
  | 8, hq => cases hq; exact h8
  | 9, hq => cases hq; exact h9
  | 10, hq => cases hq; exact h10
  | k + 11, hq => simp at hq
theorem st_arr {ty : FieldType} {h0 : ∀ C, ty ≠ .object C} (h : (Cond.arrayClass ty).before #[Value.ref b] s = true) : ∃ c : ClassId, ArrOfT s c ty ∧ va_RA s c ty := by
  obtain ⟨c, k, comp, h1, h2, h3⟩ := Cond.arrayClass_spec h
  refine ⟨c, fun n z => ⟨(fun k h => by cases h), k, h2, comp, h3⟩, ?_⟩
  cases ty with
  | object C => exact absurd rfl (h0 C)
  | _ => exact h1
theorem st_arq {C : String} (h : (Cond.arrayOver (.object C)).before #[Value.ref b] s = true) : ∃ c : ClassId, ArrOfT s c (.object C) ∧ va_RA s c (.object C) := by
  obtain ⟨comp, c, k, h1, h2, h3, h4, h5⟩ := Cond.arrayOver_spec h
  exact ⟨c, fun n z => ⟨(fun k h => by cases h), k, h3, comp, h4⟩, k, comp, h3, h4, h1, h5⟩
theorem st_AOP (hts : ∀ w ∈ lw_tbl, w.before #[Value.ref b] s = true) : va_AO "CellLoans$Port" s := va_AO.of (tb_at hts 134 (by decide +kernel : tables_1[134]? = some (Cond.arrayOver (.object "CellLoans$Port"))))
theorem st_AOS (hts : ∀ w ∈ lw_tbl, w.before #[Value.ref b] s = true) : va_AO "CellLoans$Switch" s := va_AO.of (tb_at hts 314 (by decide +kernel : tables_1[314]? = some (Cond.arrayOver (.object "CellLoans$Switch"))))
theorem st_K (hts : ∀ w ∈ lw_tbl, w.before #[Value.ref b] s = true) : ∃ (D : va_G) (cA : Nat → ClassId), va_K D vwCl (tysA cA) s := by
  obtain ⟨D, hD⟩ := st_cls (fun w hw => hts w (List.mem_filter.mp hw).1)
  obtain ⟨c0, a0⟩ := st_arr (h0 := fun C h => by cases h) (tb_at hts 74 (by decide +kernel : tables_1[74]? = some (Cond.arrayClass .int)))
  obtain ⟨c1, a1⟩ := st_arr (h0 := fun C h => by cases h) (tb_at hts 1221 (by decide +kernel : tables_1[1221]? = some (Cond.arrayClass .long)))
  obtain ⟨c2, a2⟩ := st_arq (tb_at hts 134 (by decide +kernel : tables_1[134]? = some (Cond.arrayOver (.object "CellLoans$Port"))))
  obtain ⟨c3, a3⟩ := st_arq (tb_at hts 314 (by decide +kernel : tables_1[314]? = some (Cond.arrayOver (.object "CellLoans$Switch"))))
  refine ⟨D, fun k => [c0, c1, c2, c3].getD (k - 11) 0, hD, fun k q hq => ?_⟩
  match k, hq with
  | 0, hq => cases hq; exact a0
  | 1, hq => cases hq; exact a1
  | 2, hq => cases hq; exact a2
  | 3, hq => cases hq; exact a3
  | k + 4, hq => simp [tysA] at hq
abbrev tmL : List (String × Nat) := [(RX7, 39), (RX7, 84), (RX7, 48), (RX7, 53), (RX5, 78), (RX5, 84), (RX5, 86), (RX5, 88), (RX5, 94)]
abbrev tmS (i : Nat) : Term := .string (tmL.getD i ("", 0)).1 (tmL.getD i ("", 0)).2
abbrev tmB : List Nat := [128, 138, 150, 162, 206, 223, 239, 256, 315]
abbrev tmP : List (List Nat) := [[0, 149, 160, 172, 218, 233, 249, 268, 327], [149, 0, 161, 173, 219, 234, 250, 269, 328], [160, 161, 0, 174, 220, 235, 251, 270, 329], [172, 173, 174, 0, 221, 236, 252, 271, 330], [218, 219, 220, 221, 0, 238, 254, 273, 332], [233, 234, 235, 236, 238, 0, 255, 274, 333], [249, 250, 251, 252, 254, 255, 0, 275, 334], [268, 269, 270, 271, 273, 274, 275, 0, 335], [327, 328, 329, 330, 332, 333, 334, 335, 0]]
set_option maxRecDepth 20000 in
theorem sg_1 : ∀ i ∈ List.range 9, (flatC gvn)[tmB.getD i 0]? = some (Cond.exactly (tmS i) "java/lang/String") ∧ (flatC gvn)[tmB.getD i 0 + 1]? = some (Cond.eq (.field (tmS i) "java/lang/String" "coder" "B") (.int 0)) ∧ (flatC gvn)[tmB.getD i 0 + 2]? = some (Cond.arrayOf (.field (tmS i) "java/lang/String" "value" "[B") .byte) ∧ (flatC gvn)[tmB.getD i 0 + 3]? = some (Cond.eq (.length (.field (tmS i) "java/lang/String" "value" "[B")) (.int (Int32.ofNat (strN.getD i 0)))) := by decide +kernel
set_option maxRecDepth 20000 in
theorem sg_2 : ∀ i ∈ List.range 9, ∀ j ∈ List.range (strN.getD i 0), (flatC gvn)[tmB.getD i 0 + 4 + j]? = some (Cond.eq (.elem (.field (tmS i) "java/lang/String" "value" "[B") (.int (Int32.ofNat j))) (.int ((strB.getD i []).getD j 0))) := by decide +kernel
set_option maxRecDepth 20000 in
theorem sg_3 : ∀ i ∈ List.range 9, ∀ j ∈ List.range 9, i ≠ j → (flatC gvn)[(tmP.getD i []).getD j 0]? = some (Cond.not (Cond.eq (tmS i) (tmS j))) ∨ (flatC gvn)[(tmP.getD i []).getD j 0]? = some (Cond.not (Cond.eq (tmS j) (tmS i))) := by decide +kernel
theorem sg_4 : ∀ i ∈ List.range 9, strN.getD i 0 < 2 ^ 31 := by decide +kernel
theorem st_ex {own : String} {k : Nat} (h : (Cond.exactly (.string own k) "java/lang/String").before #[Value.ref b] s = true) : ∃ a : Nat, (Term.string own k).eval #[Value.ref b] s none [] s = some (.ref a) := by
  obtain ⟨a, c, cA, kA, q1, -⟩ := Cond.exactly_spec (args := #[Value.ref b]) (first := s) (o := none) (s := s) (idx := []) (t := .string own k) (cls := "java/lang/String") h
  exact ⟨a, q1⟩
theorem st_str (hgv : gvn.before #[Value.ref b] s = true) (hts : ∀ w ∈ lw_tbl, w.before #[Value.ref b] s = true) : ∃ sa sv : Nat → Nat, (∀ q ∈ strL, vk_R q.1 q.2.1 (strT.getD q.2.2 "") (sa q.2.2) s) ∧ vk_S 9 strN strB sa sv (fun q => s.heap.size ≤ q) s s.heap := by
  obtain ⟨aK, aV, hS, hT⟩ := vk_Sof (args := #[Value.ref b]) (s := s) (N := 9) (tm := tmS) (len := strN) (byt := strB) (A := fun q => s.heap.size ≤ q) (fun i hi => sg_4 i (List.mem_range.mpr hi)) (fun i hi => gv_at hgv _ (sg_1 i (List.mem_range.mpr hi)).1) (fun i hi => gv_at hgv _ (sg_1 i (List.mem_range.mpr hi)).2.1) (fun i hi => gv_at hgv _ (sg_1 i (List.mem_range.mpr hi)).2.2.1) (fun i hi => gv_at hgv _ (sg_1 i (List.mem_range.mpr hi)).2.2.2) (fun i hi j hj => gv_at hgv _ (sg_2 i (List.mem_range.mpr hi) j (List.mem_range.mpr hj))) (fun i j hi hj hij => (sg_3 i (List.mem_range.mpr hi) j (List.mem_range.mpr hj) hij).elim (fun h => Or.inl (gv_at hgv _ h)) (fun h => Or.inr (gv_at hgv _ h))) (fun a ha => Nat.not_le.mpr ha)
  obtain ⟨e9, h9⟩ := st_ex (gv_at hgv 50 (by decide +kernel : (flatC gvn)[50]? = some (Cond.exactly (.string RX9 63) "java/lang/String")))
  obtain ⟨e10, h10⟩ := st_ex (gv_at hgv 95 (by decide +kernel : (flatC gvn)[95]? = some (Cond.exactly (.string RX9 288) "java/lang/String")))
  obtain ⟨e11, h11⟩ := st_ex (gv_at hgv 175 (by decide +kernel : (flatC gvn)[175]? = some (Cond.exactly (.string RX9 82) "java/lang/String")))
  obtain ⟨e12, h12⟩ := st_ex (gv_at hgv 338 (by decide +kernel : (flatC gvn)[338]? = some (Cond.exactly (.string RX9 96) "java/lang/String")))
  obtain ⟨e13, h13⟩ := st_ex (gv_at hgv 379 (by decide +kernel : (flatC gvn)[379]? = some (Cond.exactly (.string RX9 292) "java/lang/String")))
  obtain ⟨e14, h14⟩ := st_ex (gv_at hgv 426 (by decide +kernel : (flatC gvn)[426]? = some (Cond.exactly (.string RX9 246) "java/lang/String")))
  obtain ⟨e15, h15⟩ := st_ex (gv_at hgv 494 (by decide +kernel : (flatC gvn)[494]? = some (Cond.exactly (.string RX9 255) "java/lang/String")))
  obtain ⟨e16, h16⟩ := st_ex (gv_at hgv 553 (by decide +kernel : (flatC gvn)[553]? = some (Cond.exactly (.string RX9 283) "java/lang/String")))
  refine ⟨fun i => if i < 9 then aK i else [e9, e10, e11, e12, e13, e14, e15, e16].getD (i - 9) 0, aV, ?_, ⟨fun i hi => ?_, fun i j hi hj e => ?_⟩⟩
  · exact (List.forall_mem_cons.mpr ⟨vk_R.of (tb_at hts 574 (by decide +kernel : tables_1[574]? = some (Cond.stringRef RX9 63 "the buffer would hold more than 600 bytes"))) h9, (List.forall_mem_cons.mpr ⟨vk_R.of (tb_at hts 628 (by decide +kernel : tables_1[628]? = some (Cond.stringRef RX9 288 "a number is out of its range"))) h10, (List.forall_mem_cons.mpr ⟨vk_R.of (tb_at hts 673 (by decide +kernel : tables_1[673]? = some (Cond.stringRef RX7 39 "port"))) (hT 0 (by decide)), (List.forall_mem_cons.mpr ⟨vk_R.of (tb_at hts 749 (by decide +kernel : tables_1[749]? = some (Cond.stringRef RX7 84 "first"))) (hT 1 (by decide)), (List.forall_mem_cons.mpr ⟨vk_R.of (tb_at hts 762 (by decide +kernel : tables_1[762]? = some (Cond.stringRef RX7 48 "term"))) (hT 2 (by decide)), (List.forall_mem_cons.mpr ⟨vk_R.of (tb_at hts 772 (by decide +kernel : tables_1[772]? = some (Cond.stringRef RX7 53 "keep"))) (hT 3 (by decide)), (List.forall_mem_cons.mpr ⟨vk_R.of (tb_at hts 777 (by decide +kernel : tables_1[777]? = some (Cond.stringRef RX9 82 "the text has an error"))) h11, (List.forall_mem_cons.mpr ⟨vk_R.of (tb_at hts 812 (by decide +kernel : tables_1[812]? = some (Cond.stringRef RX5 78 "arrive"))) (hT 4 (by decide)), (List.forall_mem_cons.mpr ⟨vk_R.of (tb_at hts 814 (by decide +kernel : tables_1[814]? = some (Cond.stringRef RX5 84 "tick"))) (hT 5 (by decide)), (List.forall_mem_cons.mpr ⟨vk_R.of (tb_at hts 815 (by decide +kernel : tables_1[815]? = some (Cond.stringRef RX5 86 "back"))) (hT 6 (by decide)), (List.forall_mem_cons.mpr ⟨vk_R.of (tb_at hts 816 (by decide +kernel : tables_1[816]? = some (Cond.stringRef RX5 88 "extend"))) (hT 7 (by decide)), (List.forall_mem_cons.mpr ⟨vk_R.of (tb_at hts 817 (by decide +kernel : tables_1[817]? = some (Cond.stringRef RX5 90 "term"))) (va_eqR (gv_at hgv 288 (by decide +kernel : (flatC gvn)[288]? = some (Cond.eq (tmS 2) (.string RX5 90)))) (hT 2 (by decide))), (List.forall_mem_cons.mpr ⟨vk_R.of (tb_at hts 818 (by decide +kernel : tables_1[818]? = some (Cond.stringRef RX5 92 "keep"))) (va_eqR (gv_at hgv 308 (by decide +kernel : (flatC gvn)[308]? = some (Cond.eq (tmS 3) (.string RX5 92)))) (hT 3 (by decide))), (List.forall_mem_cons.mpr ⟨vk_R.of (tb_at hts 819 (by decide +kernel : tables_1[819]? = some (Cond.stringRef RX5 94 "repeat"))) (hT 8 (by decide)), (List.forall_mem_cons.mpr ⟨vk_R.of (tb_at hts 834 (by decide +kernel : tables_1[834]? = some (Cond.stringRef RX9 96 "the script has an error"))) h12, (List.forall_mem_cons.mpr ⟨vk_R.of (tb_at hts 961 (by decide +kernel : tables_1[961]? = some (Cond.stringRef RX9 292 "there is none of this number"))) h13, (List.forall_mem_cons.mpr ⟨vk_R.of (tb_at hts 1082 (by decide +kernel : tables_1[1082]? = some (Cond.stringRef RX9 246 "the port owes fewer cells or has fewer free ones"))) h14, (List.forall_mem_cons.mpr ⟨vk_R.of (tb_at hts 1090 (by decide +kernel : tables_1[1090]? = some (Cond.stringRef RX9 255 "the lender has less than it keeps back"))) h15, (List.forall_mem_cons.mpr ⟨vk_R.of (tb_at hts 1119 (by decide +kernel : tables_1[1119]? = some (Cond.stringRef RX9 283 "nothing was saved"))) h16, (fun _ hq => absurd hq List.not_mem_nil)⟩)⟩)⟩)⟩)⟩)⟩)⟩)⟩)⟩)⟩)⟩)⟩)⟩)⟩)⟩)⟩)⟩)⟩)⟩)
  · have h := hS.1 i hi
    show va_O "java/lang/String" (if i < 9 then aK i else _) _ s s.heap ∧ va_OF "java/lang/String" "coder" "B" (.int 0) (if i < 9 then aK i else _) _ s s.heap ∧ va_OF "java/lang/String" "value" "[B" (.ref (aV i)) (if i < 9 then aK i else _) _ s s.heap ∧ _
    rw [if_pos hi]
    exact h
  · have e : (if i < 9 then aK i else _) = (if j < 9 then aK j else _) := e
    rw [if_pos hi, if_pos hj] at e
    exact hS.2 i j hi hj e
theorem st_nc (hgv : gvn.before #[Value.ref b] s = true) : ∀ a ∈ exC, ∀ c ∈ exC, a ≠ c → va_Nc a c s := by
  have h01 : va_Nc "java/lang/IllegalStateException" "java/lang/IllegalArgumentException" s := va_Nc.of (gv_at hgv 35 (by decide +kernel : (flatC gvn)[35]? = some (Cond.not (.castable "java/lang/IllegalStateException" "java/lang/IllegalArgumentException"))))
  have h02 : va_Nc "java/lang/IllegalStateException" "java/lang/IndexOutOfBoundsException" s := va_Nc.of (gv_at hgv 48 (by decide +kernel : (flatC gvn)[48]? = some (Cond.not (.castable "java/lang/IllegalStateException" "java/lang/IndexOutOfBoundsException"))))
  have h10 : va_Nc "java/lang/IllegalArgumentException" "java/lang/IllegalStateException" s := va_Nc.of (gv_at hgv 22 (by decide +kernel : (flatC gvn)[22]? = some (Cond.not (.castable "java/lang/IllegalArgumentException" "java/lang/IllegalStateException"))))
  have h12 : va_Nc "java/lang/IllegalArgumentException" "java/lang/IndexOutOfBoundsException" s := va_Nc.of (gv_at hgv 49 (by decide +kernel : (flatC gvn)[49]? = some (Cond.not (.castable "java/lang/IllegalArgumentException" "java/lang/IndexOutOfBoundsException"))))
  have h20 : va_Nc "java/lang/IndexOutOfBoundsException" "java/lang/IllegalStateException" s := va_Nc.of (gv_at hgv 23 (by decide +kernel : (flatC gvn)[23]? = some (Cond.not (.castable "java/lang/IndexOutOfBoundsException" "java/lang/IllegalStateException"))))
  have h21 : va_Nc "java/lang/IndexOutOfBoundsException" "java/lang/IllegalArgumentException" s := va_Nc.of (gv_at hgv 36 (by decide +kernel : (flatC gvn)[36]? = some (Cond.not (.castable "java/lang/IndexOutOfBoundsException" "java/lang/IllegalArgumentException"))))
  exact (List.forall_mem_cons.mpr ⟨(List.forall_mem_cons.mpr ⟨fun q => absurd rfl q, (List.forall_mem_cons.mpr ⟨fun _ => h01, (List.forall_mem_cons.mpr ⟨fun _ => h02, (fun _ hq => absurd hq List.not_mem_nil)⟩)⟩)⟩), (List.forall_mem_cons.mpr ⟨(List.forall_mem_cons.mpr ⟨fun _ => h10, (List.forall_mem_cons.mpr ⟨fun q => absurd rfl q, (List.forall_mem_cons.mpr ⟨fun _ => h12, (fun _ hq => absurd hq List.not_mem_nil)⟩)⟩)⟩), (List.forall_mem_cons.mpr ⟨(List.forall_mem_cons.mpr ⟨fun _ => h20, (List.forall_mem_cons.mpr ⟨fun _ => h21, (List.forall_mem_cons.mpr ⟨fun q => absurd rfl q, (fun _ hq => absurd hq List.not_mem_nil)⟩)⟩)⟩), (fun _ hq => absurd hq List.not_mem_nil)⟩)⟩)⟩)
theorem st_ZZ (hgv : gvn.before #[Value.ref b] s = true) (hts : ∀ w ∈ lw_tbl, w.before #[Value.ref b] s = true) {cA : Nat → ClassId} {D : va_G} (hK : va_K D vwCl (tysA cA) s) : ZZ cA D s.heap.size s.heap s := ⟨hK, (List.forall_mem_cons.mpr ⟨va_Nw.of rfl (tb_at hts 33 (by decide +kernel : tables_1[33]? = some (Cond.methodLinkNest RX9 11 yX8_init "CellLoans"))), (List.forall_mem_cons.mpr ⟨va_Nw.of rfl (tb_at hts 77 (by decide +kernel : tables_1[77]? = some (Cond.methodLinkNest RX9 18 yX7_init "CellLoans"))), (List.forall_mem_cons.mpr ⟨va_Nw.of rfl (tb_at hts 90 (by decide +kernel : tables_1[90]? = some (Cond.methodLinkNest RX9 25 yX5_init "CellLoans"))), (List.forall_mem_cons.mpr ⟨va_Nw.of rfl (tb_at hts 137 (by decide +kernel : tables_1[137]? = some (Cond.methodLinkNest RX6 26 yX3_init "CellLoans"))), (List.forall_mem_cons.mpr ⟨va_Nw.of rfl (tb_at hts 173 (by decide +kernel : tables_1[173]? = some (Cond.methodLinkNest RX6 33 yX1_init "CellLoans"))), (List.forall_mem_cons.mpr ⟨va_Nw.of rfl (tb_at hts 199 (by decide +kernel : tables_1[199]? = some (Cond.methodLinkNest RX6 38 yX2_init "CellLoans"))), (List.forall_mem_cons.mpr ⟨va_Nw.of rfl (tb_at hts 329 (by decide +kernel : tables_1[329]? = some (Cond.methodLinkNest RX9 52 yX4_init "CellLoans"))), (List.forall_mem_cons.mpr ⟨va_Nw.of rfl (tb_at hts 748 (by decide +kernel : tables_1[748]? = some (Cond.methodLinkNest RX8 56 yX9_within "CellLoans"))), (fun _ hq => absurd hq List.not_mem_nil)⟩)⟩)⟩)⟩)⟩)⟩)⟩)⟩), (vx_Zqof (tb_at hts 560 (by decide +kernel : tables_1[560]? = some (Cond.laysStatic "java/lang/Throwable" "UNASSIGNED_STACK" "[Ljava/lang/StackTraceElement;"))) (tb_at hts 12 (by decide +kernel : tables_1[12]? = some (Cond.initialized "java/lang/Throwable"))) (gv_at hgv 4 (by decide +kernel : (flatC gvn)[4]? = some (Cond.isRef (.static "java/lang/Throwable" "UNASSIGNED_STACK" "[Ljava/lang/StackTraceElement;")))) (fun a ha => Nat.not_le.mpr ha)), (vx_Zqof (tb_at hts 562 (by decide +kernel : tables_1[562]? = some (Cond.laysStatic "java/lang/Throwable" "SUPPRESSED_SENTINEL" "Ljava/util/List;"))) (tb_at hts 12 (by decide +kernel : tables_1[12]? = some (Cond.initialized "java/lang/Throwable"))) (gv_at hgv 5 (by decide +kernel : (flatC gvn)[5]? = some (Cond.isRef (.static "java/lang/Throwable" "SUPPRESSED_SENTINEL" "Ljava/util/List;")))) (fun a ha => Nat.not_le.mpr ha)), st_str hgv hts, (List.forall_mem_cons.mpr ⟨va_Nw.of rfl (tb_at hts 535 (by decide +kernel : tables_1[535]? = some (Cond.castable "java/lang/IllegalStateException" "java/lang/IllegalStateException"))), (List.forall_mem_cons.mpr ⟨va_Nw.of rfl (tb_at hts 621 (by decide +kernel : tables_1[621]? = some (Cond.castable "java/lang/IllegalArgumentException" "java/lang/IllegalArgumentException"))), (List.forall_mem_cons.mpr ⟨va_Nw.of rfl (tb_at hts 954 (by decide +kernel : tables_1[954]? = some (Cond.castable "java/lang/IndexOutOfBoundsException" "java/lang/IndexOutOfBoundsException"))), (fun _ hq => absurd hq List.not_mem_nil)⟩)⟩)⟩), st_nc hgv, (List.forall_mem_cons.mpr ⟨va_Nw.of rfl (tb_at hts 537 (by decide +kernel : tables_1[537]? = some (Cond.declares (Bundle.initS "java/lang/RuntimeException")))), (List.forall_mem_cons.mpr ⟨va_Nw.of rfl (tb_at hts 539 (by decide +kernel : tables_1[539]? = some (Cond.declares (Bundle.initS "java/lang/Exception")))), (List.forall_mem_cons.mpr ⟨va_Nw.of rfl (tb_at hts 541 (by decide +kernel : tables_1[541]? = some (Cond.declares (Bundle.initS "java/lang/Throwable")))), (fun _ hq => absurd hq List.not_mem_nil)⟩)⟩)⟩), va_Zof (tb_at hts 687 (by decide +kernel : tables_1[687]? = some (Cond.laysStatic "java/lang/String" "COMPACT_STRINGS" "Z"))) (tb_at hts 17 (by decide +kernel : tables_1[17]? = some (Cond.initialized "java/lang/String"))) (va_eqt (gv_at hgv 6 (by decide +kernel : (flatC gvn)[6]? = some (Cond.eq (.static "java/lang/String" "COMPACT_STRINGS" "Z") (.int 1))))) (fun a ha => Nat.not_le.mpr ha), (va_Zqof (tb_at hts 703 (by decide +kernel : tables_1[703]? = some (Cond.laysStatic "jdk/internal/util/Preconditions" "SIOOBE_FORMATTER" "Ljava/util/function/BiFunction;"))) (tb_at hts 19 (by decide +kernel : tables_1[19]? = some (Cond.initialized "jdk/internal/util/Preconditions"))) (gv_at hgv 7 (by decide +kernel : (flatC gvn)[7]? = some (Cond.isRef (.static "jdk/internal/util/Preconditions" "SIOOBE_FORMATTER" "Ljava/util/function/BiFunction;")))) (fun a ha => Nat.not_le.mpr ha))⟩
end
