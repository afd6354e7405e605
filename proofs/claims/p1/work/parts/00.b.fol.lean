/-! FOLLOWERS, lists below a number -/
def fol (g x : Nat) : Prop := x = g ∨ ∃ y, ∃ _h : op g 0 y = true ∨ op g 1 y = true, fol y x
termination_by g
decreasing_by exact _h.elim op_lt op_lt
theorem fol_def (g x : Nat) : fol g x ↔ x = g ∨ ∃ y, (op g 0 y = true ∨ op g 1 y = true) ∧ fol y x := by
  rw [fol]
  constructor
  · rintro (h | ⟨y, h1, h2⟩)
    · exact Or.inl h
    · exact Or.inr ⟨y, h1, h2⟩
  · rintro (h | ⟨y, h1, h2⟩)
    · exact Or.inl h
    · exact Or.inr ⟨y, h1, h2⟩
theorem fol_rf (g : Nat) : fol g g := (fol_def g g).mpr (Or.inl rfl)
theorem fol_op {g w y x : Nat} (hw : w < 2) (h : op g w y = true) (hx : fol y x) : fol g x := (fol_def g x).mpr (Or.inr ⟨y, by
  rcases (by omega : w = 0 ∨ w = 1) with rfl | rfl
  · exact Or.inl h
  · exact Or.inr h, hx⟩)
theorem fol_tr_aux : ∀ (n a b c : Nat), a ≤ n → fol a b → fol b c → fol a c
  | n, a, b, c, hn, h1, h2 => by
    rcases (fol_def a b).mp h1 with rfl | ⟨y, hy, h3⟩
    · exact h2
    · have hlt : y < a := hy.elim op_lt op_lt
      match n, hn with
      | 0, hn => omega
      | n + 1, hn => exact (fol_def a c).mpr (Or.inr ⟨y, hy, fol_tr_aux n y b c (by omega) h3 h2⟩)
theorem fol_tr {a b c : Nat} (h1 : fol a b) (h2 : fol b c) : fol a c := fol_tr_aux a a b c (Nat.le_refl _) h1 h2
theorem fol_le_aux : ∀ (n g x : Nat), g ≤ n → fol g x → x ≤ g
  | n, g, x, hn, h => by
    rcases (fol_def g x).mp h with rfl | ⟨y, hy, h3⟩
    · exact Nat.le_refl _
    · have hlt : y < g := hy.elim op_lt op_lt
      match n, hn with
      | 0, hn => omega
      | n + 1, hn => have := fol_le_aux n y x (by omega) h3; omega
theorem fol_le {g x : Nat} (h : fol g x) : x ≤ g := fol_le_aux g g x (Nat.le_refl _) h
theorem can_fol_aux : ∀ (n g x : Nat), g ≤ n → can g → fol g x → can x
  | n, g, x, hn, hc, h => by
    rcases (fol_def g x).mp h with rfl | ⟨y, hy, h3⟩
    · exact hc
    · have hlt : y < g := hy.elim op_lt op_lt
      match n, hn with
      | 0, hn => omega
      | n + 1, hn => exact can_fol_aux n y x (by omega) (hy.elim (fun h => hc.op h) (fun h => hc.op h)) h3
theorem can_fol {g x : Nat} (hc : can g) (h : fol g x) : can x := can_fol_aux g g x (Nat.le_refl _) hc h
theorem op_ex {g : Nat} (h : g ≠ 0) : ∃ y, op g 0 y = true ∨ op g 1 y = true := by
  apply Classical.byContradiction
  intro hn
  apply h
  apply op_ext
  intro w hw x
  rw [op_0]
  cases e : op g w x
  · rfl
  · refine absurd ⟨x, ?_⟩ hn
    rcases (by omega : w = 0 ∨ w = 1) with rfl | rfl
    · exact Or.inl e
    · exact Or.inr e
theorem fol_zero : ∀ g, fol g 0 := by
  intro g
  induction g using Nat.strongRecOn with
  | _ g ih =>
    by_cases h : g = 0
    · subst h; exact fol_rf 0
    · obtain ⟨y, hy⟩ := op_ex h
      exact (fol_def g 0).mpr (Or.inr ⟨y, hy, ih y (hy.elim op_lt op_lt)⟩)
noncomputable def folB (g x : Nat) : Bool := @decide (fol g x) (Classical.propDecidable _)
theorem folB_iff (g x : Nat) : folB g x = true ↔ fol g x := by unfold folB; exact @decide_eq_true_iff _ (Classical.propDecidable _)
noncomputable def gleB (g h : Nat) : Bool := @decide (gle g h) (Classical.propDecidable _)
theorem gleB_iff (g h : Nat) : gleB g h = true ↔ gle g h := by unfold gleB; exact @decide_eq_true_iff _ (Classical.propDecidable _)
/-- one of the two can't move -/
def Bare (g w : Nat) : Prop := ∀ x, op g w x = false
/-- those below i for which p holds -/
def fr (p : Nat → Bool) (i : Nat) : List Nat := (List.range i).filter p
theorem fr_succ (p : Nat → Bool) (i : Nat) : fr p (i + 1) = fr p i ++ (if p i then [i] else []) := by
  unfold fr
  rw [List.range_succ, List.filter_append]
  cases h : p i <;> simp [h]
theorem fr_len (p : Nat → Bool) (i : Nat) : (fr p (i + 1)).length = (fr p i).length + (if p i then 1 else 0) := by
  rw [fr_succ, List.length_append]
  cases p i <;> rfl
theorem fr_mono (p : Nat → Bool) {i k : Nat} (h : i ≤ k) : (fr p i).length ≤ (fr p k).length := by
  induction k with
  | zero => have : i = 0 := by omega
            rw [this]; exact Nat.le_refl _
  | succ k ih =>
    rcases (by omega : i ≤ k ∨ i = k + 1) with h1 | rfl
    · have := ih h1; have := fr_len p k; omega
    · exact Nat.le_refl _
theorem fr_le (p : Nat → Bool) (i : Nat) : (fr p i).length ≤ i := by
  induction i with
  | zero => exact Nat.le_refl _
  | succ k ih => rw [fr_len]; cases p k <;> simp <;> omega
theorem op_1L (y : Nat) : op 1 0 y = true ↔ y = 0 := by
  unfold op
  rw [show (1 : Nat) = 2 ^ 0 from rfl, tb_pow, decide_eq_true_iff]
  omega
theorem op_1R (y : Nat) : op 1 1 y = false := by
  unfold op
  rw [show (1 : Nat).testBit (2 * y + 1) = (2 ^ 0).testBit (2 * y + 1) from rfl, tb_pow]
  exact decide_eq_false (by omega)
theorem op_2R (y : Nat) : op 2 1 y = true ↔ y = 0 := by
  unfold op
  rw [show (2 : Nat).testBit (2 * y + 1) = (2 ^ 1).testBit (2 * y + 1) from rfl, tb_pow, decide_eq_true_iff]
  omega
theorem op_2L (y : Nat) : op 2 0 y = false := by
  unfold op
  rw [show (2 : Nat).testBit (2 * y + 0) = (2 ^ 1).testBit (2 * y + 0) from rfl, tb_pow]
  exact decide_eq_false (by omega)
