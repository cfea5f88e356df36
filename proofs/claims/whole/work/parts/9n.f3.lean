/-! FLOATS 3: meanForecast of the class, lossShare and meanForecast of the model -/
def T_X9_meanForecast : List (Nat × Instr × Nat) := [(0, .aload_n 0, 1), (1, .getfield 33, 3), (4, .getfield 92, 3), (7, .ifCond .ne 5, 3), (10, .dconst 0, 1), (11, .dreturn, 1), (12, .aload_n 0, 1), (13, .getfield 33, 3), (16, .bipush 7, 2), (18, .invokevirtual 125, 3), (21, .i2d, 1), (22, .bipush 16, 2), (24, .aload_n 0, 1), (25, .getfield 33, 3), (28, .getfield 92, 3), (31, .imul, 1), (32, .i2d, 1), (33, .ddiv, 1), (34, .dreturn, 1)]
set_option maxRecDepth 20000 in
theorem D_X9_meanForecast : ∀ q ∈ T_X9_meanForecast, decode cX9_meanForecast q.1 = .ok q.2 := by decide +kernel
def E_X9_mean10 (post : Value → MM → Prop) : PT := fun L st μ => st = [] ∧ post (.double FP.dconst0) μ
def E_X9_mean21 (post : Value → MM → Prop) : PT := fun L st μ => ∃ x, st = [.inl x] ∧ ∃ a, L[0]? = some (some (.inr (.inr a))) ∧ isK a 9 ∧ isK (a + ro 9 3) 6 ∧ vf_n64 (dq x (16 * μ.1 (a + ro 9 3) 1)) ∧ post (.double (dq x (16 * μ.1 (a + ro 9 3) 1))) μ
theorem s_X9_mean10 {κ : Kap} {post : Value → MM → Prop} (h : Env1 κ RX9 cX9_meanForecast 1 5) (hr : RetV κ (some .double) post) : Snd κ 10 (E_X9_mean10 post) := by
  obtain ⟨p, l, e, R, s, m, args, below, meth, c, cells, slots, Q, cA, D, b0, Hs⟩ := κ
  obtain ⟨⟨hx, hb, hml, hown, hts, hlk, hK, hb0, hfr, hlo, hc1, hs1⟩, htr, hZ⟩ := h
  intro L st μ H locs ls hB hL hW hS
  obtain ⟨rfl, hB⟩ := hB
  refine lv_dconst0 hx hb (dk D_X9_meanForecast 4 rfl) ?_
  exact hr.2 _ _ _ (W.dret (v := FP.dconst0) hx hb hr.1 (fun t ht hWm => ⟨⟨.double FP.dconst0, μ, rfl, hB, by rw [ht]; exact hW⟩, hS.F ht⟩) hS.2.2 (dk D_X9_meanForecast 5 rfl) hlk)
theorem s_X9_mean21 {κ : Kap} {post : Value → MM → Prop} (h : Env1 κ RX9 cX9_meanForecast 1 5) (hr : RetV κ (some .double) post) : Snd κ 21 (E_X9_mean21 post) := by
  obtain ⟨p, l, e, R, s, m, args, below, meth, c, cells, slots, Q, cA, D, b0, Hs⟩ := κ
  have h1 := h.1
  obtain ⟨⟨hx, hb, hml, hown, hts, hlk, hK, hb0, hfr, hlo, hc1, hs1⟩, htr, hZ⟩ := h
  intro L st μ H locs ls hB hL hW hS
  obtain ⟨x, rfl, a, hLa, k9, k6, hnn, hB⟩ := hB
  refine lv_i2d (x := jI x) (rest := []) hx hb (dk D_X9_meanForecast 10 rfl) ?_
  refine lv_bipush (v := jI 16) hx hb (dk D_X9_meanForecast 11 rfl) (bip_ok (by decide)) ?_
  refine lv_aload_n hx hb (dk D_X9_meanForecast 12 rfl) rfl (hL.2.2 0 _ hLa) ?_
  refine m_getR (T := TX9) h1 (pc := 25) (dk D_X9_meanForecast 13 rfl) ck_X9 rfl fk_X9_3 rfl in_X9 rfl f_X9_33 k9 hW ?_
  refine m_getI (T := TX6) h1 (pc := 28) (dk D_X9_meanForecast 14 rfl) ck_X6 rfl fk_X6_1 (Or.inl rfl) in_X6 rfl f_X9_92 k6 hW ?_
  refine lv_imul hx hb (dk D_X9_meanForecast 15 rfl) ?_
  rw [jI_mul]
  refine lv_i2d hx hb (dk D_X9_meanForecast 16 rfl) ?_
  refine lv_ddiv hx hb (dk D_X9_meanForecast 17 rfl) hnn ?_
  exact hr.2 _ _ _ (W.dret (v := dq x (16 * μ.1 (a + ro 9 3) 1)) hx hb hr.1 (fun t ht hWm => ⟨⟨.double (dq x (16 * μ.1 (a + ro 9 3) 1)), μ, rfl, hB, by rw [ht]; exact hW⟩, hS.F ht⟩) hS.2.2 (dk D_X9_meanForecast 18 rfl) hlk)
def B_X9_mean12 (post : Value → MM → Prop) : PT := o_aload 0 (o_getR 9 3 (o_ci 7 (o_callV 1 6 w_X6_sumOfPorts (E_X9_mean21 post))))
def B_X9_meanForecast_0 (post : Value → MM → Prop) : PT := o_aload 0 (o_getR 9 3 (o_getI 6 1 (o_if_ne (B_X9_mean12 post) (E_X9_mean10 post))))
theorem S_X9_meanForecast_0 {κ : Kap} {post : Value → MM → Prop} (h : Env1 κ RX9 cX9_meanForecast 1 5) (hr : RetV κ (some .double) post) : Snd κ 0 (B_X9_meanForecast_0 post) := s_aload_n h.1 (pc := 0) (dk D_X9_meanForecast 0 rfl) rfl (s_getR (T := TX9) h.1 (pc := 1) (dk D_X9_meanForecast 1 rfl) ck_X9 rfl fk_X9_3 rfl in_X9 rfl f_X9_33 (s_getI (T := TX6) h.1 (pc := 4) (dk D_X9_meanForecast 2 rfl) ck_X6 rfl fk_X6_1 (Or.inl rfl) in_X6 rfl f_X9_92 (s_if_ne h.1 (pc := 7) (dk D_X9_meanForecast 3 rfl) (by decide) (s_aload_n h.1 (pc := 12) (dk D_X9_meanForecast 6 rfl) rfl (s_getR (T := TX9) h.1 (pc := 13) (dk D_X9_meanForecast 7 rfl) ck_X9 rfl fk_X9_3 rfl in_X9 rfl f_X9_33 (s_bipush h.1 (pc := 16) (dk D_X9_meanForecast 8 rfl) (by decide) (s_callV h (pc := 18) (dk D_X9_meanForecast 9 rfl) M_X6_sumOfPorts (by decide) m_X6_sumOfPorts v_X6_sumOfPorts k_X9_125 ck_X6 rfl (s_X9_mean21 h hr))))) (s_X9_mean10 h hr))))
abbrev w_X9_meanForecast : List AV → MM → (Value → MM → Prop) → Prop := fun av μ K => (eL av).length ≤ 1 ∧ B_X9_meanForecast_0 K (eL av ++ List.replicate (1 - (eL av).length) none) [] μ
theorem M_X9_meanForecast : ∀ l : Launch, l.stackTraces = false → MetV l yX9_meanForecast cX9_meanForecast 1 (some .double) 5 w_X9_meanForecast := met_ofV (y := yX9_meanForecast) (by decide +kernel) (fun κ post h hr => S_X9_meanForecast_0 h hr)
/-! the model -/
def T_X10_lossShare : List (Nat × Instr × Nat) := [(0, .aload_n 0, 1), (1, .iconst 0, 1), (2, .putfield 1, 3), (5, .aload_n 0, 1), (6, .iconst 5, 1), (7, .invokevirtual 42, 3), (10, .ifCond .ne 7, 3), (13, .fconst 0, 1), (14, .goto 16, 3), (17, .aload_n 0, 1), (18, .iconst 4, 1), (19, .invokevirtual 42, 3), (22, .i2f, 1), (23, .aload_n 0, 1), (24, .iconst 5, 1), (25, .invokevirtual 42, 3), (28, .i2f, 1), (29, .fdiv, 1), (30, .freturn, 1)]
set_option maxRecDepth 20000 in
theorem D_X10_lossShare : ∀ q ∈ T_X10_lossShare, decode cX10_lossShare q.1 = .ok q.2 := by decide +kernel
def E_X10_loss13 (post : Value → MM → Prop) : PT := fun L st μ => st = [] ∧ post (.float FP.fconst0) μ
def E_X10_loss17 (post : Value → MM → Prop) : PT := fun L st μ => st = [] ∧ ∃ a, L[0]? = some (some (.inr (.inr a))) ∧ isK a 10 ∧ w_X10_of [.inr (.inr a), .inl 4] μ (fun v μ1 => ∃ x, v = some (.inl x) ∧ w_X10_of [.inr (.inr a), .inl 5] μ1 (fun v μ2 => ∃ y, v = some (.inl y) ∧ vf_n32 (fq x y) ∧ post (.float (fq x y)) μ2))
theorem s_X10_loss13 {κ : Kap} {post : Value → MM → Prop} (h : Env1 κ RX10 cX10_lossShare 1 2) (hr : RetV κ (some .float) post) : Snd κ 13 (E_X10_loss13 post) := by
  obtain ⟨p, l, e, R, s, m, args, below, meth, c, cells, slots, Q, cA, D, b0, Hs⟩ := κ
  obtain ⟨⟨hx, hb, hml, hown, hts, hlk, hK, hb0, hfr, hlo, hc1, hs1⟩, htr, hZ⟩ := h
  intro L st μ H locs ls hB hL hW hS
  obtain ⟨rfl, hB⟩ := hB
  refine lv_fconst0 hx hb (dk D_X10_lossShare 7 rfl) ?_
  refine lv_goto (tgt := 30) hx hb (dk D_X10_lossShare 8 rfl) (by decide) ?_
  exact hr.2 _ _ _ (W.fret (v := FP.fconst0) hx hb hr.1 (fun t ht hWm => ⟨⟨.float FP.fconst0, μ, rfl, hB, by rw [ht]; exact hW⟩, hS.F ht⟩) hS.2.2 (dk D_X10_lossShare 18 rfl) hlk)
theorem s_X10_loss17 {κ : Kap} {post : Value → MM → Prop} (h : Env1 κ RX10 cX10_lossShare 1 2) (hr : RetV κ (some .float) post) : Snd κ 17 (E_X10_loss17 post) := by
  obtain ⟨p, l, e, R, s, m, args, below, meth, c, cells, slots, Q, cA, D, b0, Hs⟩ := κ
  have h0 := h
  obtain ⟨⟨hx, hb, hml, hown, hts, hlk, hK, hb0, hfr, hlo, hc1, hs1⟩, htr, hZ⟩ := h
  intro L st μ H locs ls hB hL hW hS
  obtain ⟨rfl, a, hLa, k10, hB⟩ := hB
  refine lv_aload_n hx hb (dk D_X10_lossShare 9 rfl) rfl (hL.2.2 0 _ hLa) ?_
  refine lv_iconst (v := jI 4) hx hb (dk D_X10_lossShare 10 rfl) rfl ?_
  refine m_callV h0 (pc := 19) (V := []) (dk D_X10_lossShare 11 rfl) M_X10_of (by decide) m_X10_of v_X10_of k_X10_42 ck_X10 rfl k10 [.inl 4] rfl (by decide) hB hL.1 hW hS (fun v μ1 H1 locs1 hB hW hS => ?_)
  obtain ⟨x, rfl, hB⟩ := hB
  refine lv_i2f (x := jI x) (rest := []) hx hb (dk D_X10_lossShare 12 rfl) ?_
  refine lv_aload_n hx hb (dk D_X10_lossShare 13 rfl) rfl (hL.2.2 0 _ hLa) ?_
  refine lv_iconst (v := jI 5) hx hb (dk D_X10_lossShare 14 rfl) rfl ?_
  refine m_callV h0 (pc := 25) (V := [.float (FP.i2f (jI x))]) (dk D_X10_lossShare 15 rfl) M_X10_of (by decide) m_X10_of v_X10_of k_X10_42 ck_X10 rfl k10 [.inl 5] rfl (by show 1 + 0 ≤ 8; decide) hB hL.1 hW hS (fun v μ2 H2 locs2 hB hW hS => ?_)
  obtain ⟨y, rfl, hnn, hB⟩ := hB
  refine lv_i2f (x := jI y) (rest := [.float (FP.i2f (jI x))]) hx hb (dk D_X10_lossShare 16 rfl) ?_
  refine lv_fdiv (x := FP.i2f (jI x)) (y := FP.i2f (jI y)) (rest := []) hx hb (dk D_X10_lossShare 17 rfl) hnn ?_
  exact hr.2 _ _ _ (W.fret (v := fq x y) hx hb hr.1 (fun t ht hWm => ⟨⟨.float (fq x y), μ2, rfl, hB, by rw [ht]; exact hW⟩, hS.F ht⟩) hS.2.2 (dk D_X10_lossShare 18 rfl) hlk)
def B_X10_lossShare_0 (post : Value → MM → Prop) : PT := o_aload 0 (o_ci 0 (o_putI 10 0 (o_aload 0 (o_ci 5 (o_callV 1 10 w_X10_of (o_if_ne (E_X10_loss17 post) (E_X10_loss13 post)))))))
theorem S_X10_lossShare_0 {κ : Kap} {post : Value → MM → Prop} (h : Env1 κ RX10 cX10_lossShare 1 2) (hr : RetV κ (some .float) post) : Snd κ 0 (B_X10_lossShare_0 post) := s_aload_n h.1 (pc := 0) (dk D_X10_lossShare 0 rfl) rfl (s_iconst h.1 (pc := 1) (dk D_X10_lossShare 1 rfl) (s_putI (ty0 := tyX10) (T := TX10) h.1 (pc := 2) (dk D_X10_lossShare 2 rfl) ck_X10 rfl fk_X10_0 rfl in_X10 rfl f_X10_1 tyX10_ok nmX10 rfl rfl (s_aload_n h.1 (pc := 5) (dk D_X10_lossShare 3 rfl) rfl (s_iconst h.1 (pc := 6) (dk D_X10_lossShare 4 rfl) (s_callV h (pc := 7) (dk D_X10_lossShare 5 rfl) M_X10_of (by decide) m_X10_of v_X10_of k_X10_42 ck_X10 rfl (s_if_ne h.1 (pc := 10) (dk D_X10_lossShare 6 rfl) (by decide) (s_X10_loss17 h hr) (s_X10_loss13 h hr)))))))
abbrev w_X10_lossShare : List AV → MM → (Value → MM → Prop) → Prop := fun av μ K => (eL av).length ≤ 1 ∧ B_X10_lossShare_0 K (eL av ++ List.replicate (1 - (eL av).length) none) [] μ
theorem M_X10_lossShare : ∀ l : Launch, l.stackTraces = false → MetV l yX10_lossShare cX10_lossShare 1 (some .float) 2 w_X10_lossShare := met_ofV (y := yX10_lossShare) (by decide +kernel) (fun κ post h hr => S_X10_lossShare_0 h hr)
def T_X10_meanForecast : List (Nat × Instr × Nat) := [(0, .aload_n 0, 1), (1, .iconst 0, 1), (2, .putfield 1, 3), (5, .iconst 0, 1), (6, .istore_n 1, 1), (7, .iconst 0, 1), (8, .istore_n 2, 1), (9, .iload_n 2, 1), (10, .aload_n 0, 1), (11, .iconst 0, 1), (12, .invokevirtual 42, 3), (15, .if_icmp .ge 18, 3), (18, .iload_n 1, 1), (19, .aload_n 0, 1), (20, .iload_n 2, 1), (21, .iconst 2, 1), (22, .invokevirtual 183, 3), (25, .iadd, 1), (26, .istore_n 1, 1), (27, .iinc 2 1, 3), (30, .goto (-21), 3), (33, .bipush 16, 2), (35, .aload_n 0, 1), (36, .iconst 0, 1), (37, .invokevirtual 42, 3), (40, .imul, 1), (41, .istore_n 2, 1), (42, .iload_n 2, 1), (43, .ifCond .ne 7, 3), (46, .dconst 0, 1), (47, .goto 8, 3), (50, .iload_n 1, 1), (51, .i2d, 1), (52, .iload_n 2, 1), (53, .i2d, 1), (54, .ddiv, 1), (55, .dreturn, 1)]
set_option maxRecDepth 20000 in
theorem D_X10_meanForecast : ∀ q ∈ T_X10_meanForecast, decode cX10_meanForecast q.1 = .ok q.2 := by decide +kernel
def E_X10_mean46 (post : Value → MM → Prop) : PT := fun L st μ => st = [] ∧ post (.double FP.dconst0) μ
def E_X10_mean50 (post : Value → MM → Prop) : PT := fun L st μ => st = [] ∧ ∃ x y, L[1]? = some (some (.inl x)) ∧ L[2]? = some (some (.inl y)) ∧ vf_n64 (dq x y) ∧ post (.double (dq x y)) μ
theorem s_X10_mean46 {κ : Kap} {post : Value → MM → Prop} (h : Env1 κ RX10 cX10_meanForecast 3 3) (hr : RetV κ (some .double) post) : Snd κ 46 (E_X10_mean46 post) := by
  obtain ⟨p, l, e, R, s, m, args, below, meth, c, cells, slots, Q, cA, D, b0, Hs⟩ := κ
  obtain ⟨⟨hx, hb, hml, hown, hts, hlk, hK, hb0, hfr, hlo, hc1, hs1⟩, htr, hZ⟩ := h
  intro L st μ H locs ls hB hL hW hS
  obtain ⟨rfl, hB⟩ := hB
  refine lv_dconst0 hx hb (dk D_X10_meanForecast 29 rfl) ?_
  refine lv_goto (tgt := 55) hx hb (dk D_X10_meanForecast 30 rfl) (by decide) ?_
  exact hr.2 _ _ _ (W.dret (v := FP.dconst0) hx hb hr.1 (fun t ht hWm => ⟨⟨.double FP.dconst0, μ, rfl, hB, by rw [ht]; exact hW⟩, hS.F ht⟩) hS.2.2 (dk D_X10_meanForecast 36 rfl) hlk)
theorem s_X10_mean50 {κ : Kap} {post : Value → MM → Prop} (h : Env1 κ RX10 cX10_meanForecast 3 3) (hr : RetV κ (some .double) post) : Snd κ 50 (E_X10_mean50 post) := by
  obtain ⟨p, l, e, R, s, m, args, below, meth, c, cells, slots, Q, cA, D, b0, Hs⟩ := κ
  obtain ⟨⟨hx, hb, hml, hown, hts, hlk, hK, hb0, hfr, hlo, hc1, hs1⟩, htr, hZ⟩ := h
  intro L st μ H locs ls hB hL hW hS
  obtain ⟨rfl, x, y, hLx, hLy, hnn, hB⟩ := hB
  refine lv_iload_n (x := jI x) hx hb (dk D_X10_meanForecast 31 rfl) rfl (hL.2.2 1 _ hLx) ?_
  refine lv_i2d hx hb (dk D_X10_meanForecast 32 rfl) ?_
  refine lv_iload_n (x := jI y) hx hb (dk D_X10_meanForecast 33 rfl) rfl (hL.2.2 2 _ hLy) ?_
  refine lv_i2d hx hb (dk D_X10_meanForecast 34 rfl) ?_
  refine lv_ddiv hx hb (dk D_X10_meanForecast 35 rfl) hnn ?_
  exact hr.2 _ _ _ (W.dret (v := dq x y) hx hb hr.1 (fun t ht hWm => ⟨⟨.double (dq x y), μ, rfl, hB, by rw [ht]; exact hW⟩, hS.F ht⟩) hS.2.2 (dk D_X10_meanForecast 36 rfl) hlk)
def B_X10_mean33 (post : Value → MM → Prop) : PT := o_ci 16 (o_aload 0 (o_ci 0 (o_callV 1 10 w_X10_of (o_imul (o_istore 2 (o_iload 2 (o_if_ne (E_X10_mean50 post) (E_X10_mean46 post))))))))
theorem s_X10_mean33 {κ : Kap} {post : Value → MM → Prop} (h : Env1 κ RX10 cX10_meanForecast 3 3) (hr : RetV κ (some .double) post) : Snd κ 33 (B_X10_mean33 post) := s_bipush h.1 (pc := 33) (dk D_X10_meanForecast 21 rfl) (by decide) (s_aload_n h.1 (pc := 35) (dk D_X10_meanForecast 22 rfl) rfl (s_iconst h.1 (pc := 36) (dk D_X10_meanForecast 23 rfl) (s_callV h (pc := 37) (dk D_X10_meanForecast 24 rfl) M_X10_of (by decide) m_X10_of v_X10_of k_X10_42 ck_X10 rfl (s_imul h.1 (pc := 40) (dk D_X10_meanForecast 25 rfl) (s_istore_n h.1 (pc := 41) (dk D_X10_meanForecast 26 rfl) rfl (by decide) (s_iload_n h.1 (pc := 42) (dk D_X10_meanForecast 27 rfl) rfl (s_if_ne h.1 (pc := 43) (dk D_X10_meanForecast 28 rfl) (by decide) (s_X10_mean50 h hr) (s_X10_mean46 h hr))))))))
def B_X10_mean9 (post : Value → MM → Prop) : PT := LFP (fun K9 => o_iload 2 (o_aload 0 (o_ci 0 (o_callV 1 10 w_X10_of (o_icmp_ge (B_X10_mean33 post) (o_iload 1 (o_aload 0 (o_iload 2 (o_ci 2 (o_callV 2 10 w_X10_p (o_iadd (o_istore 1 (o_iinc 2 1 K9)))))))))))))
theorem s_X10_mean9 {κ : Kap} {post : Value → MM → Prop} (h : Env1 κ RX10 cX10_meanForecast 3 3) (hr : RetV κ (some .double) post) : Snd κ 9 (B_X10_mean9 post) := s_lfp (fun K9 hK9 => s_iload_n h.1 (pc := 9) (dk D_X10_meanForecast 7 rfl) rfl (s_aload_n h.1 (pc := 10) (dk D_X10_meanForecast 8 rfl) rfl (s_iconst h.1 (pc := 11) (dk D_X10_meanForecast 9 rfl) (s_callV h (pc := 12) (dk D_X10_meanForecast 10 rfl) M_X10_of (by decide) m_X10_of v_X10_of k_X10_42 ck_X10 rfl (s_icmp_ge h.1 (pc := 15) (dk D_X10_meanForecast 11 rfl) (by decide) (s_X10_mean33 h hr) (s_iload_n h.1 (pc := 18) (dk D_X10_meanForecast 12 rfl) rfl (s_aload_n h.1 (pc := 19) (dk D_X10_meanForecast 13 rfl) rfl (s_iload_n h.1 (pc := 20) (dk D_X10_meanForecast 14 rfl) rfl (s_iconst h.1 (pc := 21) (dk D_X10_meanForecast 15 rfl) (s_callV h (pc := 22) (dk D_X10_meanForecast 16 rfl) M_X10_p (by decide) m_X10_p v_X10_p k_X10_183 ck_X10 rfl (s_iadd h.1 (pc := 25) (dk D_X10_meanForecast 17 rfl) (s_istore_n h.1 (pc := 26) (dk D_X10_meanForecast 18 rfl) rfl (by decide) (s_iinc h.1 (pc := 27) (dk D_X10_meanForecast 19 rfl) (by decide) (s_goto h.1 (pc := 30) (dk D_X10_meanForecast 20 rfl) (by decide) hK9))))))))))))))
def B_X10_meanForecast_0 (post : Value → MM → Prop) : PT := o_aload 0 (o_ci 0 (o_putI 10 0 (o_ci 0 (o_istore 1 (o_ci 0 (o_istore 2 (B_X10_mean9 post)))))))
theorem S_X10_meanForecast_0 {κ : Kap} {post : Value → MM → Prop} (h : Env1 κ RX10 cX10_meanForecast 3 3) (hr : RetV κ (some .double) post) : Snd κ 0 (B_X10_meanForecast_0 post) := s_aload_n h.1 (pc := 0) (dk D_X10_meanForecast 0 rfl) rfl (s_iconst h.1 (pc := 1) (dk D_X10_meanForecast 1 rfl) (s_putI (ty0 := tyX10) (T := TX10) h.1 (pc := 2) (dk D_X10_meanForecast 2 rfl) ck_X10 rfl fk_X10_0 rfl in_X10 rfl f_X10_1 tyX10_ok nmX10 rfl rfl (s_iconst h.1 (pc := 5) (dk D_X10_meanForecast 3 rfl) (s_istore_n h.1 (pc := 6) (dk D_X10_meanForecast 4 rfl) rfl (by decide) (s_iconst h.1 (pc := 7) (dk D_X10_meanForecast 5 rfl) (s_istore_n h.1 (pc := 8) (dk D_X10_meanForecast 6 rfl) rfl (by decide) (s_X10_mean9 h hr)))))))
abbrev w_X10_meanForecast : List AV → MM → (Value → MM → Prop) → Prop := fun av μ K => (eL av).length ≤ 3 ∧ B_X10_meanForecast_0 K (eL av ++ List.replicate (3 - (eL av).length) none) [] μ
theorem M_X10_meanForecast : ∀ l : Launch, l.stackTraces = false → MetV l yX10_meanForecast cX10_meanForecast 3 (some .double) 3 w_X10_meanForecast := met_ofV (y := yX10_meanForecast) (by decide +kernel) (fun κ post h hr => S_X10_meanForecast_0 h hr)
