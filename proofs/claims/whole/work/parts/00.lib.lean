/-! Floats: what the library has of them (this part makes a round read over the whole library from its first minute on). -/
theorem num32 {a : UInt32} (h : a.toNat % 2 ^ 31 < 255 * 2 ^ 23) : a &&& 0x7fffffff ≤ 0x7f800000 := by
  rw [UInt32.le_iff_toNat_le, UInt32.toNat_and]
  show a.toNat &&& 2 ^ 31 - 1 ≤ 2139095040
  rw [Nat.and_two_pow_sub_one_eq_mod]
  omega
theorem num64 {a : UInt64} (h : a.toNat % 2 ^ 63 < 2047 * 2 ^ 52) : a &&& 0x7fffffffffffffff ≤ 0x7ff0000000000000 := by
  rw [UInt64.le_iff_toNat_le, UInt64.toNat_and]
  show a.toNat &&& 2 ^ 63 - 1 ≤ 9218868437227405312
  rw [Nat.and_two_pow_sub_one_eq_mod]
  omega
theorem share_mag (a : Int32) {n : Int32} (hn : n.toInt ≠ 0) : (FP.fdiv (FP.i2f a) (FP.i2f n)).toNat % 2 ^ 31 < 161 * 2 ^ 23 := by
  have h1 := FP.Core.i2f_mag a
  have h2 := FP.Core.i2f_big hn
  have h := FP.Core.fdiv_mag (K := 160) (L := 127) h1 h2.1 h2.2 (by omega) (by omega)
  exact Nat.lt_of_lt_of_le h (by decide)
theorem less_mag (a : Int32) {n : Int32} (hn : n.toInt ≠ 0) : (FP.fsub FP.fconst2 (FP.fdiv (FP.i2f a) (FP.i2f n))).toNat % 2 ^ 31 < 163 * 2 ^ 23 := by
  have h := FP.Core.fsub_mag (K := 161) (a := FP.fconst2) (by decide) (share_mag a hn) (by omega)
  exact Nat.lt_of_lt_of_le h (by decide)
theorem mul_mag (b a : Int32) {n : Int32} (hn : n.toInt ≠ 0) : (FP.fmul (FP.i2f b) (FP.fsub FP.fconst2 (FP.fdiv (FP.i2f a) (FP.i2f n)))).toNat % 2 ^ 31 < 197 * 2 ^ 23 := by
  have h := FP.Core.fmul_mag (Ka := 160) (Kb := 163) (FP.Core.i2f_mag b) (less_mag a hn) (by omega) (by omega)
  exact Nat.lt_of_lt_of_le h (by decide)
theorem f2i_zero {X : UInt32} (h : FP.Core.FFin X) : FP.f2i (FP.fmul (FP.i2f 0) X) = 0 := by
  obtain ⟨s, c, q, h⟩ := h
  have z : FP.Core.val32 (FP.Core.i2f 0) = .fin false 0 (FP.Core.Fmt.qmin FP.Core.b32) := by decide +kernel
  have e : FP.Core.val32 (FP.Core.fmul (FP.Core.i2f 0) X) = .fin (false != s) 0 (FP.Core.Fmt.qmin FP.Core.b32) := by
    rw [FP.Core.val32_fmul, h, z]
    show FP.Core.roundRatio FP.Core.b32 (false != s) (0 * c) 1 (FP.Core.Fmt.qmin FP.Core.b32 + q) = _
    rw [Nat.zero_mul]
    exact if_pos rfl
  show FP.Core.toI (FP.Core.val32 (FP.Core.fmul (FP.Core.i2f 0) X)) = 0
  rw [e]
  cases s <;> decide +kernel
theorem mean_mag (a : Int32) {n : Int32} (hn : n.toInt ≠ 0) : (FP.ddiv (FP.i2d a) (FP.i2d n)).toNat % 2 ^ 63 < 1057 * 2 ^ 52 := by
  have h1 := FP.Core.i2d_mag a
  have h2 := FP.Core.i2d_big hn
  have h := FP.Core.ddiv_mag (K := 1056) (L := 1023) h1 h2.1 h2.2 (by omega) (by omega)
  exact Nat.lt_of_lt_of_le h (by decide)
