/-! THE SCRIBE: rows of options, days, heaps -/
theorem ior_bit {x g : Nat} (hx : x < 2 ^ 10) (hg : g < 10) : ior (x : Int) (ishl 1 (g : Int)) = ((x ||| 2 ^ g : Nat) : Int) := by
  have h1 : 2 ^ g ≤ 2 ^ 9 := Nat.pow_le_pow_right (by decide) (by omega)
  have e : ishl 1 (g : Int) = ((2 ^ g : Nat) : Int) := by
    have := ishl_nat (a := 1) (k := g) (by omega) (by omega)
    rw [Nat.one_mul] at this
    exact this
  rw [e, ior_nn (by omega) (by omega)]
theorem kI20 (m : Mem) {a : Nat} (h : 19 ≤ a ∧ a ≤ 26) : sKind m a = (1, 10) := by
  rcases (by omega : a = 19 ∨ a = 20 ∨ a = 21 ∨ a = 22 ∨ a = 23 ∨ a = 24 ∨ a = 25 ∨ a = 26) with rfl | rfl | rfl | rfl | rfl | rfl | rfl | rfl <;> rfl
/-- the nodes in their row: v 0, v 1 .. below W -/
def NRow (m : Mem) (N W : Nat) (v : Nat → Nat) : Prop := W ≤ 10 ∧ ∀ j, j < W → v j < N ∧ mGet m 19 j = (v j : Int)
theorem maskOf_ok {n N W f w : Nat} {m : Mem} {v : Nat → Nat} (hn : 300 < n) (Y : YI m N) (hr : NRow m N W v) (hf : f < W) (hw : w < 2) : Ok (f_X4_maskOf n (f : Int) (w : Int) m) (fun a m' => m' = m ∧ ∃ x : Nat, a = (x : Int) ∧ x < 2 ^ f ∧ ∀ g, x.testBit g = true ↔ g < f ∧ op (yden m (v f)) w (yden m (v g)) = true) := by
  obtain ⟨h10, hv⟩ := hr
  unfold f_X4_maskOf
  refine ok_up2 f (fun i a m1 => m1 = m ∧ ∃ x : Nat, a = (x : Int) ∧ x < 2 ^ i ∧ ∀ g, x.testBit g = true ↔ g < i ∧ op (yden m (v f)) w (yden m (v g)) = true) (fun w1 i a m1 hi hI hw1 => ?_) (fun w1 a m1 hI => ?_) n 0 0 m (Nat.zero_le _) ⟨rfl, 0, rfl, by decide, fun g => by rw [Nat.zero_testBit]; exact ⟨(fun h => by cases h), fun h => absurd h.1 (Nat.not_lt_zero _)⟩⟩ (by omega)
  · obtain ⟨rfl, x, rfl, hx, hb⟩ := hI
    dsimp only [jn, nm]
    rw [if_pos (by omega), if_pos (by omega), ldI_ok (kI20 _ (by decide)) (by omega), ldI_ok (kI20 _ (by decide)) (by omega), (hv f hf).2, (hv i (by omega)).2]
    refine ok_calE (isOption_eq Y.1 (hv f hf).1 (hv i (by omega)).1 hw) ?_
    rw [k_1 (by omega)]
    have p10 : 2 ^ i ≤ 2 ^ 9 := Nat.pow_le_pow_right (by decide) (by omega)
    cases e : op (yden m1 (v f)) w (yden m1 (v i))
    · rw [if_pos (by decide)]
      refine hw1 _ _ ⟨rfl, x, rfl, by rw [Nat.pow_succ]; omega, fun g => ?_⟩
      rw [hb]
      constructor
      · rintro ⟨h1, h2⟩; exact ⟨by omega, h2⟩
      · rintro ⟨h1, h2⟩
        rcases (by omega : g < i ∨ g = i) with h3 | rfl
        · exact ⟨h3, h2⟩
        · rw [e] at h2; cases h2
    · rw [if_neg (by decide), ior_bit (by omega) (by omega)]
      refine hw1 _ _ ⟨rfl, _, rfl, ?_, fun g => ?_⟩
      · exact Nat.or_lt_two_pow (by rw [Nat.pow_succ]; omega) (Nat.pow_lt_pow_right (by decide) (by omega))
      · rw [or_bit, hb]
        constructor
        · rintro (⟨h1, h2⟩ | rfl)
          · exact ⟨by omega, h2⟩
          · exact ⟨by omega, e⟩
        · rintro ⟨h1, h2⟩
          rcases (by omega : g < i ∨ g = i) with h3 | rfl
          · exact Or.inl ⟨h3, h2⟩
          · exact Or.inr rfl
  · obtain ⟨rfl, x, rfl, hx, hb⟩ := hI
    dsimp only [jn]
    rw [if_neg (by omega)]
    exact ok_rt ⟨rfl, x, rfl, hx, hb⟩
