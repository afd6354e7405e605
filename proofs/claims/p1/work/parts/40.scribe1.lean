/-! THE SCRIBE: rows of options, days, heaps -/
theorem ior_bit {x g : Nat} (hx : x < 2 ^ 10) (hg : g < 10) : ior (x : Int) (ishl 1 (g : Int)) = ((x ||| 2 ^ g : Nat) : Int) := by
  have h1 : 2 ^ g ≤ 2 ^ 9 := Nat.pow_le_pow_right (by decide) (by omega)
  have e : ishl 1 (g : Int) = ((2 ^ g : Nat) : Int) := by
    have := ishl_nat (a := 1) (k := g) (by omega) (by omega)
    rw [Nat.one_mul] at this
    exact this
  rw [e, ior_nn (by omega) (by omega)]
theorem kI20 (m : Mem) {a : Nat} (h : 19 ≤ a ∧ a ≤ 26) : sKind m a = (1, 10) := by
  rcases (by omega : a = 19 ∨ a = 20 ∨ a = 21 ∨ a = 22 ∨ a = 23 ∨ a = 24 ∨ a = 25 ∨ a = 26) with rfl | rfl | rfl | rfl | rfl | rfl | rfl | rfl <;> rfl
/-- the nodes in their row: v 0, v 1 .. below W -/
def NRow (m : Mem) (N W : Nat) (v : Nat → Nat) : Prop := W ≤ 10 ∧ ∀ j, j < W → v j < N ∧ mGet m 19 j = (v j : Int)
theorem maskOf_ok {n N W f w : Nat} {m : Mem} {v : Nat → Nat} (hn : 300 < n) (Y : YI m N) (hr : NRow m N W v) (hf : f < W) (hw : w < 2) : Ok (f_X4_maskOf n (f : Int) (w : Int) m) (fun a m' => m' = m ∧ ∃ x : Nat, a = (x : Int) ∧ x < 2 ^ f ∧ ∀ g, x.testBit g = true ↔ g < f ∧ op (yden m (v f)) w (yden m (v g)) = true) := by
  obtain ⟨h10, hv⟩ := hr
  unfold f_X4_maskOf
  refine ok_up2 f (fun i a m1 => m1 = m ∧ ∃ x : Nat, a = (x : Int) ∧ x < 2 ^ i ∧ ∀ g, x.testBit g = true ↔ g < i ∧ op (yden m (v f)) w (yden m (v g)) = true) (fun w1 i a m1 hi hI hw1 => ?_) (fun w1 a m1 hI => ?_) n 0 0 m (Nat.zero_le _) ⟨rfl, 0, rfl, by decide, fun g => by rw [Nat.zero_testBit]; exact ⟨(fun h => by cases h), fun h => absurd h.1 (Nat.not_lt_zero _)⟩⟩ (by omega)
  · obtain ⟨rfl, x, rfl, hx, hb⟩ := hI
    dsimp only [jn, nm]
    rw [if_pos (by omega), if_pos (by omega), ldI_ok (kI20 _ (by decide)) (by omega), ldI_ok (kI20 _ (by decide)) (by omega), (hv f hf).2, (hv i (by omega)).2]
    refine ok_calE (isOption_eq Y.1 (hv f hf).1 (hv i (by omega)).1 hw) ?_
    rw [k_1 (by omega)]
    have p10 : 2 ^ i ≤ 2 ^ 9 := Nat.pow_le_pow_right (by decide) (by omega)
    cases e : op (yden m1 (v f)) w (yden m1 (v i))
    · rw [if_pos (by decide)]
      refine hw1 _ _ ⟨rfl, x, rfl, by rw [Nat.pow_succ]; omega, fun g => ?_⟩
      rw [hb]
      constructor
      · rintro ⟨h1, h2⟩; exact ⟨by omega, h2⟩
      · rintro ⟨h1, h2⟩
        rcases (by omega : g < i ∨ g = i) with h3 | rfl
        · exact ⟨h3, h2⟩
        · rw [e] at h2; cases h2
    · rw [if_neg (by decide), ior_bit (by omega) (by omega)]
      refine hw1 _ _ ⟨rfl, _, rfl, ?_, fun g => ?_⟩
      · exact Nat.or_lt_two_pow (by rw [Nat.pow_succ]; omega) (Nat.pow_lt_pow_right (by decide) (by omega))
      · rw [or_bit, hb]
        constructor
        · rintro (⟨h1, h2⟩ | rfl)
          · exact ⟨by omega, h2⟩
          · exact ⟨by omega, e⟩
        · rintro ⟨h1, h2⟩
          rcases (by omega : g < i ∨ g = i) with h3 | rfl
          · exact Or.inl ⟨h3, h2⟩
          · exact Or.inr rfl
  · obtain ⟨rfl, x, rfl, hx, hb⟩ := hI
    dsimp only [jn]
    rw [if_neg (by omega)]
    exact ok_rt ⟨rfl, x, rfl, hx, hb⟩
/-- the masks of options of the f-th, among the games d 0, d 1 .. -/
def Mask (d : Nat → Nat) (f w x : Nat) : Prop := x < 2 ^ f ∧ ∀ g, x.testBit g = true ↔ g < f ∧ op (d f) w (d g) = true
/-- options stand ahead -/
def Ahead (d : Nat → Nat) (f : Nat) : Prop := ∀ w, w < 2 → ∀ x, op (d f) w x = true → ∃ g, g < f ∧ d g = x
theorem p2_10 {f : Nat} (h : f ≤ 10) : 2 ^ f ≤ 1024 := Nat.pow_le_pow_right (by decide) h
theorem dayOf_ok {n f xl xr : Nat} {m : Mem} {d : Nat → Nat} (hn : 300 < n) (hf : f < 10) (hl : mGet m 20 f = (xl : Int)) (hr : mGet m 21 f = (xr : Int)) (ml : Mask d f 0 xl) (mr : Mask d f 1 xr) (hd : ∀ g, g < f → mGet m 22 g = (bd (d g) : Int)) (hA : Ahead d f) (hb9 : ∀ g, g < f → bd (d g) < 1000) : Ok (f_X4_dayOf n (f : Int) m) (fun a m' => m' = m ∧ a = (bd (d f) : Int)) := by
  have p10 := p2_10 (show f ≤ 10 by omega)
  have b1 := ml.1
  have b2 := mr.1
  have orb : ∀ g, (xl ||| xr).testBit g = true ↔ g < f ∧ (op (d f) 0 (d g) = true ∨ op (d f) 1 (d g) = true) := by
    intro g
    rw [Nat.testBit_or, Bool.or_eq_true, ml.2, mr.2]
    exact ⟨fun h => h.elim (fun h => ⟨h.1, Or.inl h.2⟩) (fun h => ⟨h.1, Or.inr h.2⟩), fun h => h.2.imp (fun q => ⟨h.1, q⟩) (fun q => ⟨h.1, q⟩)⟩
  unfold f_X4_dayOf
  refine ok_up2 f (fun i a m1 => m1 = m ∧ -1 ≤ a ∧ a < 1000 ∧ (∀ g, g < i → (op (d f) 0 (d g) = true ∨ op (d f) 1 (d g) = true) → (bd (d g) : Int) ≤ a) ∧ (a = -1 ∨ ∃ g, g < i ∧ (op (d f) 0 (d g) = true ∨ op (d f) 1 (d g) = true) ∧ a = (bd (d g) : Int))) (fun w1 i a m1 hi hI hw1 => ?_) (fun w1 a m1 hI => ?_) n 0 (-1) m (Nat.zero_le _) ⟨rfl, by decide, by decide, fun g h => absurd h (Nat.not_lt_zero _), Or.inl rfl⟩ (by omega)
  · obtain ⟨rfl, a1, a2, i1, i2⟩ := hI
    dsimp only [jn, nm]
    rw [if_pos (by omega), if_pos (by omega), ldI_ok (kI20 _ (by decide)) hf, ldI_ok (kI20 _ (by decide)) hf, hl, hr, ior_nn (by omega) (by omega), k_1 (by omega)]
    have hlt : xl ||| xr < 2147483648 := Nat.lt_of_lt_of_le (Nat.or_lt_two_pow b1 b2) (by omega)
    refine ok_ite (fun q => ?_) (fun q => ?_)
    · have hz := (ibit0 hlt (by omega)).mp q
      have hno : ¬ (op (d f) 0 (d i) = true ∨ op (d f) 1 (d i) = true) := fun h => by rw [(orb i).mpr ⟨hi, h⟩] at hz; cases hz
      refine hw1 _ _ ⟨rfl, a1, a2, fun g hg ho => ?_, i2.imp id (fun ⟨g, h1, h2⟩ => ⟨g, by omega, h2⟩)⟩
      rcases (by omega : g < i ∨ g = i) with h3 | rfl
      · exact i1 g h3 ho
      · exact absurd ho hno
    · have hz : (xl ||| xr).testBit i = true := by
        cases e : (xl ||| xr).testBit i
        · exact absurd ((ibit0 hlt (by omega)).mpr e) q
        · rfl
      have ho := ((orb i).mp hz).2
      have hb := hb9 i hi
      rw [ldI_ok (kI20 _ (by decide)) (by omega), hd i hi]
      have em : imax a (bd (d i) : Int) = if a < (bd (d i) : Int) then (bd (d i) : Int) else a := rfl
      rw [em]
      refine hw1 _ _ ⟨rfl, by split <;> omega, by split <;> omega, fun g hg ho2 => ?_, Or.inr ?_⟩
      · rcases (by omega : g < i ∨ g = i) with h3 | rfl
        · have := i1 g h3 ho2
          split <;> omega
        · split <;> omega
      · by_cases h : a < (bd (d i) : Int)
        · rw [if_pos h]; exact ⟨i, by omega, ho, rfl⟩
        · rw [if_neg h]
          rcases i2 with h2 | ⟨g, h1, h2, h3⟩
          · omega
          · exact ⟨g, by omega, h2, h3⟩
  · obtain ⟨rfl, a1, a2, i1, i2⟩ := hI
    dsimp only [jn]
    rw [if_neg (by omega), w32_id (by omega) (by omega)]
    refine ok_rt ⟨rfl, ?_⟩
    obtain ⟨b, hb⟩ : ∃ b : Nat, a + 1 = (b : Int) := ⟨(a + 1).toNat, by omega⟩
    rw [hb]
    congr 1
    refine (bd_of (fun x hx => ?_) ?_).symm
    · rcases hx with h | h
      · obtain ⟨g, h1, rfl⟩ := hA 0 (by decide) x h
        have := i1 g h1 (Or.inl h)
        omega
      · obtain ⟨g, h1, rfl⟩ := hA 1 (by decide) x h
        have := i1 g h1 (Or.inr h)
        omega
    · rcases i2 with h | ⟨g, h1, h2, h3⟩
      · exact Or.inl (by omega)
      · exact Or.inr ⟨d g, h2, by omega⟩
/-- how many bits are set -/
def pcnt (x : Nat) : Nat := (fr (fun g => x.testBit g) 10).length
def bcI (x : Int) : Int := match f_J6_bitCount_0f7a4 0 x (fun _ _ => 0, fun _ _ => 0, []) with
  | some r => r.1
  | none => -1
theorem bc_all : ∀ x : Fin 1024, bcI (x.val : Int) = (pcnt x.val : Int) := by decide +kernel

