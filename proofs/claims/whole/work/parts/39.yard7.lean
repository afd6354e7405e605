/-! THE YARD: sums with 1 and with -1 -/
theorem op_1L (y : Nat) : op 1 0 y = true ↔ y = 0 := by
  unfold op
  rw [show (1 : Nat) = 2 ^ 0 from rfl, tb_pow, decide_eq_true_iff]
  omega
theorem op_1R (y : Nat) : op 1 1 y = false := by
  unfold op
  rw [show (1 : Nat).testBit (2 * y + 1) = (2 ^ 0).testBit (2 * y + 1) from rfl, tb_pow]
  exact decide_eq_false (by omega)
theorem op_2R (y : Nat) : op 2 1 y = true ↔ y = 0 := by
  unfold op
  rw [show (2 : Nat).testBit (2 * y + 1) = (2 ^ 1).testBit (2 * y + 1) from rfl, tb_pow, decide_eq_true_iff]
  omega
theorem op_2L (y : Nat) : op 2 0 y = false := by
  unfold op
  rw [show (2 : Nat).testBit (2 * y + 0) = (2 ^ 1).testBit (2 * y + 0) from rfl, tb_pow]
  exact decide_eq_false (by omega)
def shg (a : Nat) : Nat := if a = 9 then 1 else 2
/-- what the row of known sums tells -/
theorem RS.at {m : Mem} {N u a : Nat} (R : RS m N) (ha : a = 9 ∨ a = 10) (hu : u < N) : mGet m a u = -1 ∨ ∃ w, w < N ∧ mGet m a u = (w : Int) ∧ geq (yden m w) (gadd (yden m u) (shg a)) := by
  rcases ha with rfl | rfl
  · exact (R u hu).1
  · exact (R u hu).2
theorem kI9or {m : Mem} {a : Nat} (ha : a = 9 ∨ a = 10) : sKind m a = (1, 256) := by
  rcases ha with rfl | rfl <;> rfl
/-- a sum becomes known -/
theorem YI.put {m : Mem} {N u w a : Nat} (Y : YI m N) (ha : a = 9 ∨ a = 10) (hw : w < N) (he : geq (yden m w) (gadd (yden m u) (shg a))) : YI (mSet m a u (w : Int)) N ∧ yden (mSet m a u (w : Int)) = yden m := by
  have h256 := Y.1.2.1
  have hd : yden (mSet m a u (w : Int)) = yden m := rfl
  have g : ∀ b i, mGet (mSet m a u (w : Int)) b i = if b = a ∧ i = u then (w : Int) else mGet m b i := by
    intro b i; rw [mGet_mSet, w32_nat (by omega)]
  obtain ⟨⟨y1, y2, y3, y4, y5, y6, y7⟩, R⟩ := Y
  refine ⟨⟨⟨by rw [g, if_neg (by omega)]; exact y1, y2, y3, y4, y5, y6, y7⟩, fun v hv => ?_⟩, hd⟩
  rw [g, g]
  obtain ⟨r1, r2⟩ := R v hv
  refine ⟨?_, ?_⟩
  · by_cases q : 9 = a ∧ v = u
    · rw [if_pos q]
      refine Or.inr ⟨w, hw, rfl, ?_⟩
      rw [q.2]
      have e : shg a = 1 := by rw [← q.1]; rfl
      rw [← e]; exact he
    · rw [if_neg q]; exact r1
  · by_cases q : 10 = a ∧ v = u
    · rw [if_pos q]
      refine Or.inr ⟨w, hw, rfl, ?_⟩
      rw [q.2]
      have e : shg a = 2 := by rw [← q.1]; rfl
      rw [← e]; exact he
    · rw [if_neg q]; exact r2
/-- the options that a sum with 1 has, so far told: those of the first i -/
def ShL (m : Mem) (a f i : Nat) (g : Nat) : Prop := (a = 9 ∧ g = yden m f) ∨ ∃ o w : Nat, o < i ∧ (row m 5 f).testBit o = true ∧ mGet m a o = (w : Int) ∧ g = yden m w
def ShR (m : Mem) (a f i : Nat) (g : Nat) : Prop := (a = 10 ∧ g = yden m f) ∨ ∃ o w : Nat, o < i ∧ (row m 6 f).testBit o = true ∧ mGet m a o = (w : Int) ∧ g = yden m w
theorem sh_fits {m : Mem} {N a f : Nat} (Y : YI m N) (ha : a = 9 ∨ a = 10) (hf : f < N) (hk : ∀ o, ((row m 5 f).testBit o = true ∨ (row m 6 f).testBit o = true) → ∃ w, w < N ∧ mGet m a o = (w : Int) ∧ geq (yden m w) (gadd (yden m o) (shg a))) : Fits (ShL m a f f) (ShR m a f f) (gadd (yden m f) (shg a)) := by
  have one0 : ∀ y, op (shg a) 0 y = true ↔ a = 9 ∧ y = 0 := by
    intro y
    rcases ha with rfl | rfl
    · show op 1 0 y = true ↔ _
      rw [op_1L]; exact ⟨fun h => ⟨rfl, h⟩, fun h => h.2⟩
    · show op 2 0 y = true ↔ _
      rw [op_2L]; exact ⟨fun h => by (cases h), fun h => absurd h.1 (by decide)⟩
  have one1 : ∀ y, op (shg a) 1 y = true ↔ a = 10 ∧ y = 0 := by
    intro y
    rcases ha with rfl | rfl
    · show op 1 1 y = true ↔ _
      rw [op_1R]; exact ⟨fun h => by (cases h), fun h => absurd h.1 (by decide)⟩
    · show op 2 1 y = true ↔ _
      rw [op_2R]; exact ⟨fun h => ⟨rfl, h⟩, fun h => h.2⟩
  refine ⟨fun x hx => ?_, fun y hy => ?_, fun x hx => ?_, fun y hy => ?_⟩
  · rcases (op_gadd (by decide)).mp hx with ⟨z, h1, rfl⟩ | ⟨z, h1, rfl⟩
    · obtain ⟨o, h2, h3, rfl⟩ := (Y.1.opL hf z).mp h1
      obtain ⟨w, w1, w2, w3⟩ := hk o (Or.inl h3)
      exact ⟨yden m w, Or.inr ⟨o, w, Y.1.2.2.1 f hf o (Or.inl h3), h3, w2, rfl⟩, w3⟩
    · obtain ⟨e1, rfl⟩ := (one0 z).mp h1
      exact ⟨yden m f, Or.inl ⟨e1, rfl⟩, by rw [gadd_0]; exact geq_rfl _⟩
  · rcases hy with ⟨e1, rfl⟩ | ⟨o, w, h1, h2, h3, rfl⟩
    · exact ⟨gadd (yden m f) 0, (op_gadd (by decide)).mpr (Or.inr ⟨0, (one0 0).mpr ⟨e1, rfl⟩, rfl⟩), by rw [gadd_0]; exact geq_rfl _⟩
    · obtain ⟨w', w1, w2, w3⟩ := hk o (Or.inl h2)
      have e : w = w' := by rw [h3] at w2; omega
      subst e
      exact ⟨gadd (yden m o) (shg a), (op_gadd (by decide)).mpr (Or.inl ⟨yden m o, (Y.1.opL hf _).mpr ⟨o, by omega, h2, rfl⟩, rfl⟩), w3⟩
  · rcases (op_gadd (by decide)).mp hx with ⟨z, h1, rfl⟩ | ⟨z, h1, rfl⟩
    · obtain ⟨o, h2, h3, rfl⟩ := (Y.1.opR hf z).mp h1
      obtain ⟨w, w1, w2, w3⟩ := hk o (Or.inr h3)
      exact ⟨yden m w, Or.inr ⟨o, w, Y.1.2.2.1 f hf o (Or.inr h3), h3, w2, rfl⟩, w3⟩
    · obtain ⟨e1, rfl⟩ := (one1 z).mp h1
      exact ⟨yden m f, Or.inl ⟨e1, rfl⟩, by rw [gadd_0]; exact geq_rfl _⟩
  · rcases hy with ⟨e1, rfl⟩ | ⟨o, w, h1, h2, h3, rfl⟩
    · exact ⟨gadd (yden m f) 0, (op_gadd (by decide)).mpr (Or.inr ⟨0, (one1 0).mpr ⟨e1, rfl⟩, rfl⟩), by rw [gadd_0]; exact geq_rfl _⟩
    · obtain ⟨w', w1, w2, w3⟩ := hk o (Or.inr h2)
      have e : w = w' := by rw [h3] at w2; omega
      subst e
      exact ⟨gadd (yden m o) (shg a), (op_gadd (by decide)).mpr (Or.inl ⟨yden m o, (Y.1.opR hf _).mpr ⟨o, by omega, h2, rfl⟩, rfl⟩), w3⟩
/-- the rows of options, too -/
theorem mark_at {n N f a : Nat} {m : Mem} (hf : f < N) (G : YG m N (fun _ => False) (fun _ => False)) (ha : a = 9 ∨ a = 10) : Ok (f_X9_mark n (a + 2) 0 (f : Int) m) (fun _ m' => YG m' N (fun g => a = 9 ∧ g = yden m f) (fun g => a = 10 ∧ g = yden m f) ∧ YF m m' N N ∧ ∀ b r, b < 9 → row m' b r = row m b r) := by
  sorry
