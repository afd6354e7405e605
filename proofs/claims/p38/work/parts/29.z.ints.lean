/-! numbers: masks, shifts by constants, bits, as whole numbers -/
theorem oI_bv (x : Int) : (Int32.ofInt x).toBitVec.toNat = (x % 4294967296).toNat := by
  show (BitVec.ofInt 32 x).toNat = _
  rw [BitVec.toNat_ofInt]; rfl
theorem i32_nat (b : Int32) (h : b.toBitVec.toNat < 2147483648) : b.toInt = (b.toBitVec.toNat : Int) := by
  show b.toBitVec.toInt = _
  rw [BitVec.toInt_eq_toNat_cond, if_pos (by omega)]
theorem iand_nat (x y : Int) : ((Int32.ofInt x) &&& (Int32.ofInt y)).toBitVec.toNat = (x % 4294967296).toNat &&& (y % 4294967296).toNat := by
  show ((Int32.ofInt x).toBitVec &&& (Int32.ofInt y).toBitVec).toNat = _
  rw [BitVec.toNat_and, oI_bv, oI_bv]
theorem iand_mask (x : Int) (k : Nat) (hk : k ≤ 31) : iand x ((2 ^ k - 1 : Nat) : Int) = x % (2 ^ k : Nat) := by
  have hp : 2 ^ k ≤ 2 ^ 31 := Nat.pow_le_pow_right (by decide) hk
  have hp0 : 0 < 2 ^ k := Nat.two_pow_pos k
  have e : (((2 ^ k - 1 : Nat) : Int) % 4294967296).toNat = 2 ^ k - 1 := by omega
  have h1 := iand_nat x ((2 ^ k - 1 : Nat) : Int)
  rw [e, Nat.and_two_pow_sub_one_eq_mod] at h1
  have hlt : (x % 4294967296).toNat % 2 ^ k < 2 ^ k := Nat.mod_lt _ hp0
  unfold iand
  rw [i32_nat _ (by omega), h1]
  have hx : 0 ≤ x % 4294967296 := Int.emod_nonneg _ (by decide)
  rw [Int.natCast_emod, Int.toNat_of_nonneg hx]
  exact Int.emod_emod_of_dvd x ⟨((2 ^ (32 - k) : Nat) : Int), by
    rw [← Int.natCast_mul, ← Nat.pow_add, show k + (32 - k) = 32 by omega]; rfl⟩
theorem iand_63 (x : Int) : iand x 63 = x % 64 := iand_mask x 6 (by decide)
