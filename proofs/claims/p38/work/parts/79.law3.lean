/-! THE LAW: bytes put into a long -/
def pk8 (t : Nat → Nat) : Nat → Nat
  | 0 => 0
  | i + 1 => pk8 t i + t i * 2 ^ (8 * i)
theorem pk8_lt {t : Nat → Nat} (h : ∀ i, t i < 128) : ∀ i, pk8 t i < 2 ^ (8 * i)
  | 0 => (by show 0 < 1; decide)
  | i + 1 => by
    have ih := pk8_lt h i
    have e : 2 ^ (8 * (i + 1)) = 2 ^ (8 * i) * 256 := by rw [show 8 * (i + 1) = 8 * i + 8 by omega, Nat.pow_add]
    have m : t i * 2 ^ (8 * i) ≤ 127 * 2 ^ (8 * i) := Nat.mul_le_mul_right _ (by have := h i; omega)
    show pk8 t i + t i * 2 ^ (8 * i) < _
    rw [e]
    omega
theorem pk8_top {t : Nat → Nat} (h : ∀ i, t i < 128) : ∀ i, 1 ≤ i → i ≤ 8 → pk8 t i < 9223372036854775808
  | 0, h1, _ => by omega
  | i + 1, _, h8 => by
    have ih := pk8_lt h i
    have p : 2 ^ (8 * i) ≤ 2 ^ 56 := Nat.pow_le_pow_right (by decide) (by omega)
    have m : t i * 2 ^ (8 * i) ≤ 127 * 2 ^ (8 * i) := Nat.mul_le_mul_right _ (by have := h i; omega)
    have e : (2 : Nat) ^ 56 = 72057594037927936 := by decide
    show pk8 t i + t i * 2 ^ (8 * i) < _
    omega
theorem pk8_byte {t : Nat → Nat} (h : ∀ i, t i < 128) : ∀ i j, j < i → pk8 t i / 2 ^ (8 * j) % 256 = t j
  | 0, j, hj => absurd hj (Nat.not_lt_zero _)
  | i + 1, j, hj => by
    show (pk8 t i + t i * 2 ^ (8 * i)) / 2 ^ (8 * j) % 256 = t j
    by_cases q : j = i
    · rw [q, Nat.add_mul_div_right _ _ (Nat.two_pow_pos _), Nat.div_eq_of_lt (pk8_lt h i), Nat.zero_add]
      exact Nat.mod_eq_of_lt (by have := h i; omega)
    · have e : 2 ^ (8 * i) = 256 * 2 ^ (8 * (i - j - 1)) * 2 ^ (8 * j) := by
        rw [show (256 : Nat) = 2 ^ 8 from rfl, ← Nat.pow_add, ← Nat.pow_add, show 8 + 8 * (i - j - 1) + 8 * j = 8 * i by omega]
      rw [e, ← Nat.mul_assoc, Nat.add_mul_div_right _ _ (Nat.two_pow_pos _), show t i * (256 * 2 ^ (8 * (i - j - 1))) = 256 * (t i * 2 ^ (8 * (i - j - 1))) by rw [← Nat.mul_assoc, Nat.mul_comm (t i) 256, Nat.mul_assoc], Nat.add_mul_mod_self_left]
      exact pk8_byte h i j (by omega)
theorem pk8_step {t : Nat → Nat} (h : ∀ i, t i < 128) {i : Nat} (hi : i < 8) : jor (pk8 t i) (jshl (i2j (t i : Int)) ((8 * i : Nat) : Int)) = pk8 t (i + 1) := by
  have l := pk8_lt h i
  have p : 2 ^ (8 * i) ≤ 2 ^ 56 := Nat.pow_le_pow_right (by decide) (by omega)
  have m : t i * 2 ^ (8 * i) ≤ 127 * 2 ^ (8 * i) := Nat.mul_le_mul_right _ (by have := h i; omega)
  have e : (2 : Nat) ^ 56 = 72057594037927936 := by decide
  have ei : i2j (t i : Int) = t i := i2j_128 ⟨t i, h i⟩
  rw [ei, jshl_nat (by omega), jor_eq, Nat.mod_eq_of_lt (a := pk8 t i) (by omega), Nat.mod_mod, Nat.mod_eq_of_lt (a := t i * 2 ^ (8 * i)) (by omega)]
  show _ = pk8 t i + t i * 2 ^ (8 * i)
  rw [Nat.or_comm, Nat.mul_comm (t i), ← Nat.two_pow_add_eq_or_of_lt l, Nat.add_comm]
