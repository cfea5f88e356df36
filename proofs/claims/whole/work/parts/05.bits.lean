/-! BITS, lengths, Math.min and Math.max -/
theorem nI_jI (n : Nat) : nI n = jI (n : Int) := (Int32.ofInt_eq_ofNat (n := n)).symm
theorem lN_jL (n : Nat) : lN n = jL (n : Int) := (Int64.ofInt_eq_ofNat (n := n)).symm
theorem jI_nat (x : Int) : (jI x).toBitVec.toNat = (x % 4294967296).toNat := by
  show (BitVec.ofInt 32 x).toNat = _
  rw [BitVec.toNat_ofInt]
  rfl
theorem jL_nat (x : Int) : (jL x).toBitVec.toNat = (x % 18446744073709551616).toNat := by
  show (BitVec.ofInt 64 x).toNat = _
  rw [BitVec.toNat_ofInt]
  rfl
theorem jI_mod (x : Int) : jI (x % 4294967296) = jI x := by
  apply Int32.toBitVec.inj
  apply BitVec.eq_of_toNat_eq
  rw [jI_nat, jI_nat, Int.emod_emod_of_dvd x (Int.dvd_refl _)]
theorem jL_mod (x : Int) : jL (x % 18446744073709551616) = jL x := by
  apply Int64.toBitVec.inj
  apply BitVec.eq_of_toNat_eq
  rw [jL_nat, jL_nat, Int.emod_emod_of_dvd x (Int.dvd_refl _)]
theorem jI_ofnat {z : Int32} {n : Nat} (h : z.toBitVec.toNat = n) : z = jI (n : Int) := by
  apply Int32.toBitVec.inj
  apply BitVec.eq_of_toNat_eq
  have h2 := z.toBitVec.isLt
  rw [jI_nat, h]
  omega
theorem jL_ofnat {z : Int64} {n : Nat} (h : z.toBitVec.toNat = n) : z = jL (n : Int) := by
  apply Int64.toBitVec.inj
  apply BitVec.eq_of_toNat_eq
  have h2 := z.toBitVec.isLt
  rw [jL_nat, h]
  omega
theorem jI_mask (x : Int) {y : Int} {n : Nat} (hn : n ≤ 32) (hm : (jI y).toBitVec.toNat = 2 ^ n - 1) : jI x &&& jI y = jI (x % (2 ^ n : Nat)) := by
  have h1 : (jI x &&& jI y).toBitVec.toNat = (x % (2 ^ n : Nat)).toNat := by
    show ((jI x).toBitVec &&& (jI y).toBitVec).toNat = _
    rw [BitVec.toNat_and, hm, Nat.and_two_pow_sub_one_eq_mod, jI_nat]
    have hd : ((2 ^ n : Nat) : Int) ∣ 4294967296 := by
      rw [show (4294967296 : Int) = ((2 ^ 32 : Nat) : Int) from rfl]
      exact Int.natCast_dvd_natCast.mpr (Nat.pow_dvd_pow 2 hn)
    have h0 := Int.emod_nonneg x (show (4294967296 : Int) ≠ 0 by decide)
    have e1 : (((x % 4294967296).toNat % 2 ^ n : Nat) : Int) = x % (2 ^ n : Nat) := by
      rw [Int.natCast_emod, Int.toNat_of_nonneg h0, Int.emod_emod_of_dvd x hd]
    omega
  rw [jI_ofnat h1]
  have h0 := Int.emod_nonneg x (show ((2 ^ n : Nat) : Int) ≠ 0 by have := Nat.two_pow_pos n; omega)
  rw [Int.toNat_of_nonneg h0]
theorem jL_mask (x : Int) {y : Int} {n : Nat} (hn : n ≤ 64) (hm : (jL y).toBitVec.toNat = 2 ^ n - 1) : jL x &&& jL y = jL (x % (2 ^ n : Nat)) := by
  have h1 : (jL x &&& jL y).toBitVec.toNat = (x % (2 ^ n : Nat)).toNat := by
    show ((jL x).toBitVec &&& (jL y).toBitVec).toNat = _
    rw [BitVec.toNat_and, hm, Nat.and_two_pow_sub_one_eq_mod, jL_nat]
    have hd : ((2 ^ n : Nat) : Int) ∣ 18446744073709551616 := by
      rw [show (18446744073709551616 : Int) = ((2 ^ 64 : Nat) : Int) from rfl]
      exact Int.natCast_dvd_natCast.mpr (Nat.pow_dvd_pow 2 hn)
    have h0 := Int.emod_nonneg x (show (18446744073709551616 : Int) ≠ 0 by decide)
    have e1 : (((x % 18446744073709551616).toNat % 2 ^ n : Nat) : Int) = x % (2 ^ n : Nat) := by
      rw [Int.natCast_emod, Int.toNat_of_nonneg h0, Int.emod_emod_of_dvd x hd]
    omega
  rw [jL_ofnat h1]
  have h0 := Int.emod_nonneg x (show ((2 ^ n : Nat) : Int) ≠ 0 by have := Nat.two_pow_pos n; omega)
  rw [Int.toNat_of_nonneg h0]
theorem sh5 : ∀ k : Nat, k < 32 → ((jI (k : Int)).toUInt32 &&& Int32.toUInt32 31).toBitVec.toNat = k ∧ (jI (k : Int) &&& 31).toBitVec.smod 32 = BitVec.ofNat 32 k := by decide +kernel
theorem sh6 : ∀ k : Nat, k < 64 → ((jI (k : Int)).toInt64.toUInt64 &&& Int64.toUInt64 63).toBitVec.toNat = k ∧ ((jI (k : Int)).toInt64 &&& 63).toBitVec.smod 64 = BitVec.ofNat 64 k := by decide +kernel
theorem jI_ushr (x : Int) {y : Int} (h0 : 0 ≤ y) (h1 : y < 32) : ((jI x).toUInt32 >>> ((jI y).toUInt32 &&& Int32.toUInt32 31)).toInt32 = jI ((x % 4294967296) / (2 ^ y.toNat : Nat)) := by
  obtain ⟨k, rfl⟩ := Int.eq_ofNat_of_zero_le h0
  have hk : k < 32 := by omega
  have h2 := (sh5 k hk).1
  have e1 : (((jI x).toUInt32 >>> ((jI (k : Int)).toUInt32 &&& Int32.toUInt32 31)).toInt32).toBitVec.toNat = ((x % 4294967296) / (2 ^ k : Nat)).toNat := by
    have := pk_ushr (jI x) (jI (k : Int)) k (by
      show (((jI (k : Int)).toUInt32 &&& Int32.toUInt32 31).toBitVec % 32).toNat = k
      rw [BitVec.toNat_umod, h2]
      exact Nat.mod_eq_of_lt hk)
    rw [this, jI_nat]
    have h0 := Int.emod_nonneg x (show (4294967296 : Int) ≠ 0 by decide)
    have e2 : (((x % 4294967296).toNat / 2 ^ k : Nat) : Int) = (x % 4294967296) / (2 ^ k : Nat) := by
      rw [Int.natCast_ediv, Int.toNat_of_nonneg h0]
    rw [← e2, Int.toNat_natCast]
  rw [jI_ofnat e1]
  have h0 := Int.emod_nonneg x (show (4294967296 : Int) ≠ 0 by decide)
  rw [Int.toNat_of_nonneg (Int.ediv_nonneg h0 (Int.natCast_nonneg _))]
  rfl
theorem jI_shr {x y : Int} (hx : R32 x) (h0 : 0 ≤ y) (h1 : y < 32) : jI x >>> (jI y &&& 31) = jI (x / (2 ^ y.toNat : Nat)) := by
  obtain ⟨k, rfl⟩ := Int.eq_ofNat_of_zero_le h0
  have hk : k < 32 := by omega
  have h2 := (sh5 k hk).2
  have e1 := pk_shr (jI x) (jI (k : Int) &&& 31) k (by rw [h2, BitVec.toNat_ofNat]; exact Nat.mod_eq_of_lt (by omega))
  rw [jI_toInt hx, Int.shiftRight_eq_div_pow] at e1
  rw [← Int32.ofInt_toInt (jI x >>> (jI (k : Int) &&& 31)), e1]
  rfl
theorem jL_ushr (x : Int) {y : Int} (h0 : 0 ≤ y) (h1 : y < 64) : ((jL x).toUInt64 >>> ((jI y).toInt64.toUInt64 &&& Int64.toUInt64 63)).toInt64 = jL ((x % 18446744073709551616) / (2 ^ y.toNat : Nat)) := by
  obtain ⟨k, rfl⟩ := Int.eq_ofNat_of_zero_le h0
  have hk : k < 64 := by omega
  have h2 := (sh6 k hk).1
  have e1 : (((jL x).toUInt64 >>> ((jI (k : Int)).toInt64.toUInt64 &&& Int64.toUInt64 63)).toInt64).toBitVec.toNat = ((x % 18446744073709551616) / (2 ^ k : Nat)).toNat := by
    show ((jL x).toBitVec >>> (((jI (k : Int)).toInt64.toUInt64 &&& Int64.toUInt64 63).toBitVec % 64).toNat).toNat = _
    rw [BitVec.toNat_ushiftRight, BitVec.toNat_umod, h2, jL_nat]
    rw [show k % BitVec.toNat (64 : BitVec 64) = k from Nat.mod_eq_of_lt hk, Nat.shiftRight_eq_div_pow]
    have h0 := Int.emod_nonneg x (show (18446744073709551616 : Int) ≠ 0 by decide)
    have e2 : (((x % 18446744073709551616).toNat / 2 ^ k : Nat) : Int) = (x % 18446744073709551616) / (2 ^ k : Nat) := by
      rw [Int.natCast_ediv, Int.toNat_of_nonneg h0]
    rw [← e2, Int.toNat_natCast]
  rw [jL_ofnat e1]
  have h0 := Int.emod_nonneg x (show (18446744073709551616 : Int) ≠ 0 by decide)
  rw [Int.toNat_of_nonneg (Int.ediv_nonneg h0 (Int.natCast_nonneg _))]
  rfl
theorem jL_shr {x y : Int} (hx : R64 x) (h0 : 0 ≤ y) (h1 : y < 64) : jL x >>> ((jI y).toInt64 &&& 63) = jL (x / (2 ^ y.toNat : Nat)) := by
  obtain ⟨k, rfl⟩ := Int.eq_ofNat_of_zero_le h0
  have hk : k < 64 := by omega
  have h2 := (sh6 k hk).2
  have e1 : (jL x >>> ((jI (k : Int)).toInt64 &&& 63)).toInt = x >>> k := by
    show ((jL x).toBitVec.sshiftRight' (((jI (k : Int)).toInt64 &&& 63).toBitVec.smod 64)).toInt = _
    rw [h2]
    show ((jL x).toBitVec.sshiftRight (BitVec.ofNat 64 k).toNat).toInt = _
    rw [BitVec.toInt_sshiftRight, BitVec.toNat_ofNat, Nat.mod_eq_of_lt (by omega)]
    show (jL x).toInt >>> k = _
    rw [jL_toInt hx]
  rw [Int.shiftRight_eq_div_pow] at e1
  rw [← Int64.ofInt_toInt (jL x >>> ((jI (k : Int)).toInt64 &&& 63)), e1]
  rfl
theorem jL_shl (x : Int) {y : Int} (h0 : 0 ≤ y) (h1 : y < 64) : jL x <<< ((jI y).toInt64 &&& 63) = jL (x * (2 ^ y.toNat : Nat)) := by
  obtain ⟨k, rfl⟩ := Int.eq_ofNat_of_zero_le h0
  have hk : k < 64 := by omega
  have h2 := (sh6 k hk).2
  apply Int64.toBitVec.inj
  apply BitVec.eq_of_toNat_eq
  show ((jL x).toBitVec <<< (((jI (k : Int)).toInt64 &&& 63).toBitVec.smod 64)).toNat = _
  rw [h2]
  show ((jL x).toBitVec <<< (BitVec.ofNat 64 k).toNat).toNat = _
  rw [BitVec.toNat_shiftLeft, BitVec.toNat_ofNat, Nat.mod_eq_of_lt (show k < 2 ^ 64 by omega), jL_nat, jL_nat, Nat.shiftLeft_eq]
  have h0 := Int.emod_nonneg x (show (18446744073709551616 : Int) ≠ 0 by decide)
  have e1 : ((((x % 18446744073709551616).toNat * 2 ^ k) % 2 ^ 64 : Nat) : Int) = (x * (2 ^ k : Nat)) % 18446744073709551616 := by
    rw [Int.natCast_emod, Int.natCast_mul, Int.toNat_of_nonneg h0]
    show (x % 18446744073709551616 * (2 ^ k : Nat)) % 18446744073709551616 = _
    rw [Int.mul_emod, Int.emod_emod_of_dvd _ (Int.dvd_refl _), ← Int.mul_emod]
  show _ = ((x * (2 ^ k : Nat)) % 18446744073709551616).toNat
  omega
theorem jL_or8 {x y : Int} (hx : x % 256 = 0) (h0 : 0 ≤ y) (h1 : y < 256) : jL x ||| jL y = jL (x + y) := by
  apply Int64.toBitVec.inj
  apply BitVec.eq_of_toNat_eq
  show ((jL x).toBitVec ||| (jL y).toBitVec).toNat = _
  rw [BitVec.toNat_or, jL_nat, jL_nat, jL_nat]
  obtain ⟨q, hq⟩ : ∃ q : Nat, (x % 18446744073709551616).toNat = 2 ^ 8 * q := ⟨((x % 18446744073709551616).toNat) / 256, by omega⟩
  have hy : (y % 18446744073709551616).toNat < 2 ^ 8 := by omega
  rw [hq, ← Nat.two_pow_add_eq_or_of_lt hy q]
  omega

def o_iandM (n : Nat) (k : PT) : PT := fun L st μ => match st with
  | .inl y :: .inl x :: r => y = (2 ^ n - 1 : Nat) ∧ k L (.inl (x % (2 ^ n : Nat)) :: r) μ
  | _ => False
theorem s_iandM {κ : Kap} {own : String} {cc : ByteArray} {nL lev : Nat} (h : Amb κ own cc nL lev) {pc : Nat} {n : Nat} {k : PT} (d : decode cc pc = .ok (.iand, 1)) (hn : n ≤ 32) (hm : (jI (2 ^ n - 1 : Nat)).toBitVec.toNat = 2 ^ n - 1) (hk : Snd κ (pc + 1) k) : Snd κ pc (o_iandM n k) := by
  obtain ⟨p, l, e, R, s, m, args, below, meth, c, cells, slots, Q, cA, D, b0, Hs⟩ := κ
  obtain ⟨hx, hb, hml, hown, hts, hlk, hK, hb0, hfr, hlo, hc1, hs1⟩ := h
  intro L st μ H locs ls hB hL hW hS
  unfold o_iandM at hB
  split at hB
  · rename_i y x r
    obtain ⟨h1, hB⟩ := hB
    subst h1
    refine lv_iand (x := jI x) (y := jI (2 ^ n - 1 : Nat)) (rest := r.map (tv b0)) hx hb d ?_
    rw [jI_mask x hn hm]
    exact hk L _ μ H locs ls hB hL hW hS
  · exact hB.elim
def o_landM (n : Nat) (k : PT) : PT := fun L st μ => match st with
  | .inr (.inl y) :: .inr (.inl x) :: r => y = (2 ^ n - 1 : Nat) ∧ k L (.inr (.inl (x % (2 ^ n : Nat))) :: r) μ
  | _ => False
theorem s_landM {κ : Kap} {own : String} {cc : ByteArray} {nL lev : Nat} (h : Amb κ own cc nL lev) {pc : Nat} {n : Nat} {k : PT} (d : decode cc pc = .ok (.land, 1)) (hn : n ≤ 64) (hm : (jL (2 ^ n - 1 : Nat)).toBitVec.toNat = 2 ^ n - 1) (hk : Snd κ (pc + 1) k) : Snd κ pc (o_landM n k) := by
  obtain ⟨p, l, e, R, s, m, args, below, meth, c, cells, slots, Q, cA, D, b0, Hs⟩ := κ
  obtain ⟨hx, hb, hml, hown, hts, hlk, hK, hb0, hfr, hlo, hc1, hs1⟩ := h
  intro L st μ H locs ls hB hL hW hS
  unfold o_landM at hB
  split at hB
  · rename_i y x r
    obtain ⟨h1, hB⟩ := hB
    subst h1
    refine lv_land (x := jL x) (y := jL (2 ^ n - 1 : Nat)) (rest := r.map (tv b0)) hx hb d ?_
    rw [jL_mask x hn hm]
    exact hk L _ μ H locs ls hB hL hW hS
  · exact hB.elim
def o_iushr (k : PT) : PT := fun L st μ => match st with
  | .inl y :: .inl x :: r => 0 ≤ y ∧ y < 32 ∧ k L (.inl ((x % 4294967296) / (2 ^ y.toNat : Nat)) :: r) μ
  | _ => False
theorem s_iushr {κ : Kap} {own : String} {cc : ByteArray} {nL lev : Nat} (h : Amb κ own cc nL lev) {pc : Nat} {k : PT} (d : decode cc pc = .ok (.iushr, 1)) (hk : Snd κ (pc + 1) k) : Snd κ pc (o_iushr k) := by
  obtain ⟨p, l, e, R, s, m, args, below, meth, c, cells, slots, Q, cA, D, b0, Hs⟩ := κ
  obtain ⟨hx, hb, hml, hown, hts, hlk, hK, hb0, hfr, hlo, hc1, hs1⟩ := h
  intro L st μ H locs ls hB hL hW hS
  unfold o_iushr at hB
  split at hB
  · rename_i y x r
    obtain ⟨h1, h2, hB⟩ := hB
    exact lv_iushr (x := jI x) (y := jI y) (rest := r.map (tv b0)) hx hb d (jI_ushr x h1 h2) (hk L _ μ H locs ls hB hL hW hS)
  · exact hB.elim
def o_ishr (k : PT) : PT := fun L st μ => match st with
  | .inl y :: .inl x :: r => R32 x ∧ 0 ≤ y ∧ y < 32 ∧ k L (.inl (x / (2 ^ y.toNat : Nat)) :: r) μ
  | _ => False
theorem s_ishr {κ : Kap} {own : String} {cc : ByteArray} {nL lev : Nat} (h : Amb κ own cc nL lev) {pc : Nat} {k : PT} (d : decode cc pc = .ok (.ishr, 1)) (hk : Snd κ (pc + 1) k) : Snd κ pc (o_ishr k) := by
  obtain ⟨p, l, e, R, s, m, args, below, meth, c, cells, slots, Q, cA, D, b0, Hs⟩ := κ
  obtain ⟨hx, hb, hml, hown, hts, hlk, hK, hb0, hfr, hlo, hc1, hs1⟩ := h
  intro L st μ H locs ls hB hL hW hS
  unfold o_ishr at hB
  split at hB
  · rename_i y x r
    obtain ⟨h0, h1, h2, hB⟩ := hB
    refine lv_ishr (x := jI x) (y := jI y) (rest := r.map (tv b0)) hx hb d ?_
    rw [jI_shr h0 h1 h2]
    exact hk L _ μ H locs ls hB hL hW hS
  · exact hB.elim
def o_lushr (k : PT) : PT := fun L st μ => match st with
  | .inl y :: .inr (.inl x) :: r => 0 ≤ y ∧ y < 64 ∧ k L (.inr (.inl ((x % 18446744073709551616) / (2 ^ y.toNat : Nat))) :: r) μ
  | _ => False
theorem s_lushr {κ : Kap} {own : String} {cc : ByteArray} {nL lev : Nat} (h : Amb κ own cc nL lev) {pc : Nat} {k : PT} (d : decode cc pc = .ok (.lushr, 1)) (hk : Snd κ (pc + 1) k) : Snd κ pc (o_lushr k) := by
  obtain ⟨p, l, e, R, s, m, args, below, meth, c, cells, slots, Q, cA, D, b0, Hs⟩ := κ
  obtain ⟨hx, hb, hml, hown, hts, hlk, hK, hb0, hfr, hlo, hc1, hs1⟩ := h
  intro L st μ H locs ls hB hL hW hS
  unfold o_lushr at hB
  split at hB
  · rename_i y x r
    obtain ⟨h1, h2, hB⟩ := hB
    exact lv_lushr (x := jL x) (y := jI y) (rest := r.map (tv b0)) hx hb d (jL_ushr x h1 h2) (hk L _ μ H locs ls hB hL hW hS)
  · exact hB.elim
def o_lshr (k : PT) : PT := fun L st μ => match st with
  | .inl y :: .inr (.inl x) :: r => R64 x ∧ 0 ≤ y ∧ y < 64 ∧ k L (.inr (.inl (x / (2 ^ y.toNat : Nat))) :: r) μ
  | _ => False
theorem s_lshr {κ : Kap} {own : String} {cc : ByteArray} {nL lev : Nat} (h : Amb κ own cc nL lev) {pc : Nat} {k : PT} (d : decode cc pc = .ok (.lshr, 1)) (hk : Snd κ (pc + 1) k) : Snd κ pc (o_lshr k) := by
  obtain ⟨p, l, e, R, s, m, args, below, meth, c, cells, slots, Q, cA, D, b0, Hs⟩ := κ
  obtain ⟨hx, hb, hml, hown, hts, hlk, hK, hb0, hfr, hlo, hc1, hs1⟩ := h
  intro L st μ H locs ls hB hL hW hS
  unfold o_lshr at hB
  split at hB
  · rename_i y x r
    obtain ⟨h0, h1, h2, hB⟩ := hB
    exact lv_lshr (x := jL x) (y := jI y) (rest := r.map (tv b0)) hx hb d (jL_shr h0 h1 h2) (hk L _ μ H locs ls hB hL hW hS)
  · exact hB.elim
def o_lshl (k : PT) : PT := fun L st μ => match st with
  | .inl y :: .inr (.inl x) :: r => 0 ≤ y ∧ y < 64 ∧ k L (.inr (.inl (x * (2 ^ y.toNat : Nat))) :: r) μ
  | _ => False
theorem s_lshl {κ : Kap} {own : String} {cc : ByteArray} {nL lev : Nat} (h : Amb κ own cc nL lev) {pc : Nat} {k : PT} (d : decode cc pc = .ok (.lshl, 1)) (hk : Snd κ (pc + 1) k) : Snd κ pc (o_lshl k) := by
  obtain ⟨p, l, e, R, s, m, args, below, meth, c, cells, slots, Q, cA, D, b0, Hs⟩ := κ
  obtain ⟨hx, hb, hml, hown, hts, hlk, hK, hb0, hfr, hlo, hc1, hs1⟩ := h
  intro L st μ H locs ls hB hL hW hS
  unfold o_lshl at hB
  split at hB
  · rename_i y x r
    obtain ⟨h1, h2, hB⟩ := hB
    exact lv_lshl (x := jL x) (y := jI y) (rest := r.map (tv b0)) hx hb d (jL_shl x h1 h2) (hk L _ μ H locs ls hB hL hW hS)
  · exact hB.elim
def o_lor8 (k : PT) : PT := fun L st μ => match st with
  | .inr (.inl y) :: .inr (.inl x) :: r => x % 256 = 0 ∧ 0 ≤ y ∧ y < 256 ∧ k L (.inr (.inl (x + y)) :: r) μ
  | _ => False
theorem s_lor8 {κ : Kap} {own : String} {cc : ByteArray} {nL lev : Nat} (h : Amb κ own cc nL lev) {pc : Nat} {k : PT} (d : decode cc pc = .ok (.lor, 1)) (hk : Snd κ (pc + 1) k) : Snd κ pc (o_lor8 k) := by
  obtain ⟨p, l, e, R, s, m, args, below, meth, c, cells, slots, Q, cA, D, b0, Hs⟩ := κ
  obtain ⟨hx, hb, hml, hown, hts, hlk, hK, hb0, hfr, hlo, hc1, hs1⟩ := h
  intro L st μ H locs ls hB hL hW hS
  unfold o_lor8 at hB
  split at hB
  · rename_i y x r
    obtain ⟨h0, h1, h2, hB⟩ := hB
    refine lv_lor (x := jL x) (y := jL y) (rest := r.map (tv b0)) hx hb d ?_
    rw [jL_or8 h0 h1 h2]
    exact hk L _ μ H locs ls hB hL hW hS
  · exact hB.elim
def o_mmax (k : PT) : PT := fun L st μ => match st with
  | .inl y :: .inl x :: r => R32 x ∧ R32 y ∧ catS r ≤ 8 ∧ k L (.inl (max x y) :: r) μ
  | _ => False
theorem s_mmax {κ : Kap} {own : String} {cc : ByteArray} {nL lev : Nat} (h : Amb κ own cc nL lev) {pc : Nat} {ix : Nat} {k : PT} (d : decode cc pc = .ok (.invokestatic ix, 3)) (hlink : Cond.methodLink own ix Lib.Math.max.name ∈ AW) (hstat : Cond.static Lib.Math.max.name ∈ AW) (hini : Cond.initialized "java/lang/Math" ∈ AW) (hcode : Cond.code Lib.Math.max.name Lib.Math.max.code 2 (some .int) ∈ AW) (hlev : 1 ≤ lev) (hk : Snd κ (pc + 3) k) : Snd κ pc (o_mmax k) := by
  obtain ⟨p, l, e, R, s, m, args, below, meth, c, cells, slots, Q, cA, D, b0, Hs⟩ := κ
  obtain ⟨hx, hb, hml, hown, hts, hlk, hK, hb0, hfr, hlo, hc1, hs1⟩ := h
  intro L st μ H locs ls hB hL hW hS
  unfold o_mmax at hB
  split at hB
  · rename_i y x r
    obtain ⟨h1, h2, h3, hB⟩ := hB
    refine va_mmax (x := jI x) (y := jI y) (rest := r.map (tv b0)) hx hb hL.1.symm hown (hts _ hlink) (hts _ hstat) (hts _ hini) (hts _ hcode) (by rw [hfr]; exact hlev) (by rw [catS_ok, hlo]; omega) hc1 hs1 d ?_
    rw [show (if jI x < jI y then jI y else jI x) = jI (max x y) from by
      by_cases q : x < y
      · rw [if_pos ((jI_lt h1 h2).mpr q)]; congr 1; omega
      · rw [if_neg (fun z => q ((jI_lt h1 h2).mp z))]; congr 1; omega]
    exact hk L _ μ H locs ls hB hL hW hS
  · exact hB.elim
def o_mmin (k : PT) : PT := fun L st μ => match st with
  | .inl y :: .inl x :: r => R32 x ∧ R32 y ∧ catS r ≤ 8 ∧ k L (.inl (min x y) :: r) μ
  | _ => False
theorem s_mmin {κ : Kap} {own : String} {cc : ByteArray} {nL lev : Nat} (h : Amb κ own cc nL lev) {pc : Nat} {ix : Nat} {k : PT} (d : decode cc pc = .ok (.invokestatic ix, 3)) (hlink : Cond.methodLink own ix Lib.Math.min.name ∈ AW) (hstat : Cond.static Lib.Math.min.name ∈ AW) (hini : Cond.initialized "java/lang/Math" ∈ AW) (hcode : Cond.code Lib.Math.min.name Lib.Math.min.code 2 (some .int) ∈ AW) (hlev : 1 ≤ lev) (hk : Snd κ (pc + 3) k) : Snd κ pc (o_mmin k) := by
  obtain ⟨p, l, e, R, s, m, args, below, meth, c, cells, slots, Q, cA, D, b0, Hs⟩ := κ
  obtain ⟨hx, hb, hml, hown, hts, hlk, hK, hb0, hfr, hlo, hc1, hs1⟩ := h
  intro L st μ H locs ls hB hL hW hS
  unfold o_mmin at hB
  split at hB
  · rename_i y x r
    obtain ⟨h1, h2, h3, hB⟩ := hB
    refine va_mmin (x := jI x) (y := jI y) (rest := r.map (tv b0)) hx hb hL.1.symm hown (hts _ hlink) (hts _ hstat) (hts _ hini) (hts _ hcode) (by rw [hfr]; exact hlev) (by rw [catS_ok, hlo]; omega) hc1 hs1 d ?_
    rw [show (if jI y < jI x then jI y else jI x) = jI (min x y) from by
      by_cases q : y < x
      · rw [if_pos ((jI_lt h2 h1).mpr q)]; congr 1; omega
      · rw [if_neg (fun z => q ((jI_lt h2 h1).mp z))]; congr 1; omega]
    exact hk L _ μ H locs ls hB hL hW hS
  · exact hB.elim
