/-! FLOATS 1: quotients of whole numbers are numbers -/
theorem nn32 {r : UInt32} (h : FP.Core.val32 r ≠ .nan) : vf_n32 r := by
  unfold vf_n32
  rw [UInt32.le_iff_toNat_le, UInt32.toNat_and]
  show r.toNat &&& (2 ^ 31 - 1) ≤ 2139095040
  rw [Nat.and_two_pow_sub_one_eq_mod]
  refine Nat.le_of_not_lt (fun z => h ?_)
  show FP.Core.decode FP.Core.b32 r.toNat = .nan
  have e1 : FP.Core.fieldE FP.Core.b32 r.toNat = FP.Core.b32.exps - 1 := by
    show r.toNat / 8388608 % 256 = 255
    have : r.toNat % 2147483648 > 2139095040 := z
    omega
  have e2 : ¬ FP.Core.fieldT FP.Core.b32 r.toNat = 0 := by
    show ¬ r.toNat % 8388608 = 0
    have : r.toNat % 2147483648 > 2139095040 := z
    omega
  unfold FP.Core.decode
  rw [if_pos e1, if_neg e2]
theorem nn64 {r : UInt64} (h : FP.Core.val64 r ≠ .nan) : vf_n64 r := by
  unfold vf_n64
  rw [UInt64.le_iff_toNat_le, UInt64.toNat_and]
  show r.toNat &&& (2 ^ 63 - 1) ≤ 9218868437227405312
  rw [Nat.and_two_pow_sub_one_eq_mod]
  refine Nat.le_of_not_lt (fun z => h ?_)
  show FP.Core.decode FP.Core.b64 r.toNat = .nan
  have e1 : FP.Core.fieldE FP.Core.b64 r.toNat = FP.Core.b64.exps - 1 := by
    show r.toNat / 4503599627370496 % 2048 = 2047
    have : r.toNat % 9223372036854775808 > 9218868437227405312 := z
    omega
  have e2 : ¬ FP.Core.fieldT FP.Core.b64 r.toNat = 0 := by
    show ¬ r.toNat % 4503599627370496 = 0
    have : r.toNat % 9223372036854775808 > 9218868437227405312 := z
    omega
  unfold FP.Core.decode
  rw [if_pos e1, if_neg e2]
theorem qt_nn {f : FP.Core.Fmt} {i j : Int} {x y : FP.Core.Datum} (hx : FP.Core.Whole i x) (hy : FP.Core.Whole j y) (hj : j ≠ 0) : FP.Core.quotient f x y ≠ .nan := by
  cases x with
  | nan => exact hx.elim
  | inf s => exact hx.elim
  | fin s c q =>
    cases y with
    | nan => exact hy.elim
    | inf s => exact hy.elim
    | fin t d r =>
      have : ¬ d = 0 := fun z => hj ((FP.Core.whole_zero hy).mp z)
      show (if d = 0 then (if c = 0 then .nan else .inf (s != t)) else FP.Core.roundRatio f (s != t) c d (q - r)) ≠ .nan
      rw [if_neg this]
      exact FP.Core.roundRatio_ne_nan _ _ _ _ _
theorem fd_nn {a b : Int32} (ha : a.toInt.natAbs ≤ 2 ^ 24) (hb : b.toInt.natAbs ≤ 2 ^ 24) (h0 : b.toInt ≠ 0) : FP.Core.val32 (FP.fdiv (FP.i2f a) (FP.i2f b)) ≠ .nan := by
  rw [FP.Core.val32_fdiv]
  exact qt_nn (FP.Core.i2f_int ha) (FP.Core.i2f_int hb) h0
theorem dd_nn {a b : Int32} (h0 : b.toInt ≠ 0) : FP.Core.val64 (FP.ddiv (FP.i2d a) (FP.i2d b)) ≠ .nan := by
  rw [FP.Core.val64_ddiv]
  exact qt_nn (FP.Core.i2d_int a) (FP.Core.i2d_int b) h0
theorem f2d_nn {r : UInt32} (h : FP.Core.val32 r ≠ .nan) : FP.Core.val64 (FP.f2d r) ≠ .nan := by
  have h1 : FP.Core.fIsNaN r = false := (FP.Core.notNaN_iff32 r).mpr h
  have h2 : FP.dIsNaN (FP.f2d r) = FP.fIsNaN r := FP.f2d_nan r
  exact (FP.Core.notNaN_iff (FP.f2d r)).mp (h2.trans h1)
theorem dc_self {x : UInt64} (h : FP.Core.val64 x ≠ .nan) : FP.dcmp x x = some .eq := FP.Core.dcmp_self h
