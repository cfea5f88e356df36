/-! PURE 56: a place in the queue, and the cells up to it, tell alike when a packet is sent -/
theorem sti_tick {S : AS} {p pl k : Nat} {n : Int} (hg : Gd S) (hc : zC S + 1 ≤ 12000) (hp : p < zN S) (hpl : pl < (zQ S p).length) :
    (zP S p 7 + pfx (zQ S p) (pl + 1) ≤ zP (tck S) p 7 → sti (k + 1) n S p pl = n) ∧
    (zP (tck S) p 7 < zP S p 7 + pfx (zQ S p) (pl + 1) → zP (tck S) p 7 + usd (tck S) p < zP S p 7 + pfx (zQ S p) (pl + 1) → sti (k + 1) n S p pl = -1) ∧
    (zP (tck S) p 7 < zP S p 7 + pfx (zQ S p) (pl + 1) → zP S p 7 + pfx (zQ S p) (pl + 1) ≤ zP (tck S) p 7 + usd (tck S) p → ∃ pl' : Nat, pl' < (zQ (tck S) p).length ∧ zP S p 7 + pfx (zQ S p) (pl + 1) = zP (tck S) p 7 + pfx (zQ (tck S) p) (pl' + 1) ∧ sti (k + 1) n S p pl = sti k (n + 1) (tck S) p pl') := by
  obtain ⟨t1, t2, t3, t4, t5, t6, t7, t8, t9, t10⟩ := tck_keep hg hc
  obtain ⟨f1, f2, f3, f4, f5, f6, f7, f8⟩ := fls_keep (zR S).length (clk S) rfl (clk_Ge hg hc)
  obtain ⟨m, hm⟩ := PQ_fls p (zR S).length (clk S)
  have hm : zQ (fls (zR S).length (clk S)) p = (zQ S p).take m := hm
  have e7 : zP (fls (zR S).length (clk S)) p 7 = zP S p 7 := f8 p 7 (by decide) (by decide)
  have hp2 : p < zN (fls (zR S).length (clk S)) := by omega
  obtain ⟨-, g1, -⟩ := t1.1.pp hp2
  have hu2 := t1.1.usdR hp2
  have hq1 : ∀ y ∈ zQ S p, 1 ≤ y.1 := fun y hy => (hg.1.qr hp hy).1.1
  have hq2 : ∀ y ∈ zQ (fls (zR S).length (clk S)) p, 1 ≤ y.1 ∧ y.1 ≤ 40 := fun y hy => (t1.1.qr hp2 hy).1
  obtain ⟨s1, s2⟩ := (sal_at (S := fls (zR S).length (clk S)) (p := p) (zN S)).2 hp
  have q7 : zP (tck S) p 7 = zP (sal (zN S) (fls (zR S).length (clk S))) p 7 := by
    show (if p < zN (sal (zN S) (fls (zR S).length (clk S))) then (if (7 : Nat) = 2 then _ else if (7 : Nat) = 3 then 0 else zP (sal (zN S) (fls (zR S).length (clk S))) p 7) else zP (sal (zN S) (fls (zR S).length (clk S))) p 7) = _
    split <;> rfl
  have qQ : zQ (tck S) p = zQ (sal (zN S) (fls (zR S).length (clk S))) p := rfl
  have hsti : sti (k + 1) n S p pl = if ((zQ (fls (zR S).length (clk S)) p).length : Int) ≤ (pl : Int) then -1
    else if (pl : Int) - (((zQ (fls (zR S).length (clk S)) p).length : Int) - (zQ (sal (zN S) (fls (zR S).length (clk S))) p).length) < 0 then n
    else sti k (n + 1) (tck S) p ((pl : Int) - (((zQ (fls (zR S).length (clk S)) p).length : Int) - (zQ (sal (zN S) (fls (zR S).length (clk S))) p).length)) := rfl
  obtain ⟨a1, a2, a3⟩ := sdq_sub (zQ (fls (zR S).length (clk S)) p) (zP (fls (zR S).length (clk S)) p 1) g1.1 hq2
  have ua : usd (fls (zR S).length (clk S)) p = pfx (zQ (fls (zR S).length (clk S)) p) (zQ (fls (zR S).length (clk S)) p).length := (pfx_all _ _ (Nat.le_refl _)).symm
  have u3 : usd (tck S) p = (if zP (fls (zR S).length (clk S)) p 1 < usd (fls (zR S).length (clk S)) p then usd (fls (zR S).length (clk S)) p - zP (fls (zR S).length (clk S)) p 1 else 0) := by
    show sm ((zQ (tck S) p).map _) = _
    rw [qQ, s1]
    exact a3
  rw [q7, hsti, s1, s2, e7, u3, qQ, s1]
  generalize hQ2 : zQ (fls (zR S).length (clk S)) p = Q2 at *
  generalize zP (fls (zR S).length (clk S)) p 1 = r at *
  generalize usd (fls (zR S).length (clk S)) p = u at *
  have hlen : Q2.length ≤ m := by rw [hm, List.length_take]; omega
  have hq2' : ∀ y ∈ Q2, 1 ≤ y.1 := fun y hy => (hq2 y hy).1
  by_cases cA : Q2.length ≤ pl
  · have b1 : pfx Q2 Q2.length = pfx (zQ S p) Q2.length := by rw [hm]; exact pfx_take (by rw [← hm]; exact hlen)
    have b2 := pfx_le hq1 cA
    have b3 := (pfx_mono hq1 pl).2 hpl
    refine ⟨fun z => ?_, fun _ _ => if_pos (by omega), fun z1 z2 => ?_⟩
    · split at z <;> omega
    · split at z2 <;> omega
  · have b1 : pfx Q2 (pl + 1) = pfx (zQ S p) (pl + 1) := by rw [hm]; exact pfx_take (by omega)
    have b2 := pfx_le hq2' (show pl + 1 ≤ Q2.length by omega)
    obtain ⟨c1, c2⟩ := sdq_pfx Q2 r pl g1.1 hq2' (by omega)
    rw [if_neg (show ¬ (Q2.length : Int) ≤ (pl : Int) by omega)]
    by_cases cB : pfx Q2 (pl + 1) ≤ r
    · have d := c1 cB
      refine ⟨fun _ => if_pos (by omega), fun z1 _ => ?_, fun z1 _ => ?_⟩
      · split at z1 <;> omega
      · split at z1 <;> omega
    · obtain ⟨d1, d2⟩ := c2 (by omega)
      have hru : r < u := by omega
      rw [if_pos hru, if_pos hru, if_neg (show ¬ ((pl : Int) - ((Q2.length : Int) - (sdq r Q2).length) < 0) by omega)]
      refine ⟨fun z => by omega, fun _ z => by omega, fun _ _ => ⟨pl + (sdq r Q2).length - Q2.length, by omega, by omega, ?_⟩⟩
      congr 1
      omega
