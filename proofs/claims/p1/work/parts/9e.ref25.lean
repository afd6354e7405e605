/-! MADE: THE CALL -/
theorem ibit1 {x i : Nat} (hx : x < 2147483648) (hi : i < 32) : iand (ishr (x : Int) (i : Int)) 1 = if x.testBit i then 1 else 0 := by
  have h := ibit0 (x := x) (g := i) hx hi
  have e := iand_1 (ishr (x : Int) (i : Int))
  cases q : x.testBit i
  · rw [h.mpr q]; rfl
  · have : ¬ iand (ishr (x : Int) (i : Int)) 1 = 0 := fun z => by rw [h.mp z] at q; cases q
    rw [if_pos rfl]
    omega
theorem waitsSet_ok {n p f : Nat} {m : Mem} {T : Tb} {F : List Nat} {s : Nat} (hn : BIG < n) (R : RSt m T F s) (hp : p < 256) (ht : mGet m 100 26 = (f : Int)) (hf : f + 10 < 20000) (h129 : ∀ i, i < 8 → mGet m 129 i = 0) : Ok (f_X11_waitsSet n (p : Int) m) (fun _ m' => ∃ A T1 s1, A.length ≤ 8 ∧ Wts m T F s 0 f A (fun z => p ≠ 0 ∧ z = 0) m' T1 s1) := by
  have n4 := BIG_m hn
  have p1 := R.1.1.2.2.1
  have bits : (∃ i, i < 8 ∧ p.testBit i = true) ↔ p ≠ 0 := by
    constructor
    · rintro ⟨i, _, h⟩ rfl
      rw [Nat.zero_testBit] at h
      cases h
    · intro h
      apply Classical.byContradiction
      intro q
      refine h (Nat.eq_of_testBit_eq (fun i => ?_))
      rw [Nat.zero_testBit]
      by_cases hi : i < 8
      · exact Bool.eq_false_iff.mpr (fun e => q ⟨i, hi, e⟩)
      · exact Nat.testBit_lt_two_pow (Nat.lt_of_lt_of_le hp (Nat.pow_le_pow_right (show 0 < 2 by decide) (by omega : 8 ≤ i)))
  unfold f_X11_waitsSet
  refine ok_up1 (i := 0) 8 (fun j m1 => ∃ A T1 s1, A.length ≤ j ∧ Wts m T F s 0 f A (fun z => (∃ i, i < j ∧ p.testBit i = true) ∧ z = 0) m1 T1 s1) (fun w j m1 hj hI hw => ?_) (fun w m1 hI => ?_) n m (Nat.zero_le _) ⟨[], T, s, Nat.le_refl _, (start_wts R ht).g (fun z => ⟨fun h => h.elim, fun ⟨⟨i, h, _⟩, _⟩ => absurd h (Nat.not_lt_zero _)⟩) (Nat.le_refl _)⟩ (by omega)
  · obtain ⟨A, T1, s1, lA, W⟩ := hI
    obtain ⟨w1, w2, w3, w4, w5, w6, w7, w8, w9⟩ := id W
    have ex : ∀ (z : Nat), p.testBit j = false → ((∃ i, i < j ∧ p.testBit i = true) ∧ z = 0 ↔ (∃ i, i < j + 1 ∧ p.testBit i = true) ∧ z = 0) := fun z hb => by
      constructor
      · rintro ⟨⟨i, h1, h2⟩, h3⟩; exact ⟨⟨i, by omega, h2⟩, h3⟩
      · rintro ⟨⟨i, h1, h2⟩, h3⟩
        by_cases q : i = j
        · subst q; rw [hb] at h2; cases h2
        · exact ⟨⟨i, by omega, h2⟩, h3⟩
    rw [if_pos (by omega)]
    refine ok_jn ?_
    rw [ibit1 (by omega) (by omega)]
    cases hb : p.testBit j with
    | true =>
      rw [if_pos rfl]
      rw [if_pos rfl, ldI_ok (len := 8) rfl hj]
      have z0 : mGet m1 129 j = ((0 : Nat) : Int) := (w7.2 _ _ (by unfold SSm SCt SCn; omega)).trans (h129 j hj)
      rw [z0]
      refine W.push (Sumd.self (u := 0) w1 (w2.lt p1)) (by omega) (fun u T4 s4 m4 W4 ex4 => ?_)
      rw [w32_1 (by omega)]
      refine hw m4 ⟨A ++ [u], T4, s4, by rw [List.length_append]; show A.length + 1 ≤ _; omega, W4.g (fun z => ?_) (Nat.le_refl _)⟩
      rw [w1.1.d0]
      constructor
      · rintro (⟨⟨i, h1, h2⟩, h3⟩ | rfl)
        · exact ⟨⟨i, by omega, h2⟩, h3⟩
        · exact ⟨⟨j, by omega, hb⟩, rfl⟩
      · rintro ⟨_, rfl⟩
        exact Or.inr rfl
    | false =>
      rw [if_neg (by decide)]
      show Ok (w (w32 ((j : Int) + 1)) m1) _
      rw [w32_1 (by omega)]
      exact hw m1 ⟨A, T1, s1, by omega, W.g (fun z => ex z hb) (Nat.le_refl _)⟩
  · obtain ⟨A, T1, s1, lA, W⟩ := hI
    rw [if_neg (by decide)]
    exact ok_rt ⟨A, T1, s1, lA, W.g (fun z => by rw [bits]) (Nat.le_refl _)⟩
/-- made of zeros -/
def Mz (p q : Nat) : Nat := if p = 0 then (if q = 0 then 0 else iz (-1)) else if q = 0 then iz 1 else hc 1
theorem can_Mz (p q : Nat) : can (Mz p q) := by
  unfold Mz
  split
  · split
    · exact can_hc 0
    · exact can_iz _
  · split
    · exact can_iz _
    · exact can_hc 1
theorem Mz_L {p q x : Nat} : op (Mz p q) 0 x = true ↔ p ≠ 0 ∧ x = 0 := by
  unfold Mz
  by_cases hp : p = 0
  · rw [if_pos hp]
    by_cases hq : q = 0
    · rw [if_pos hq, op_0]; exact ⟨(fun h => by cases h), fun h => absurd hp h.1⟩
    · rw [if_neg hq, iz_L]; exact ⟨fun h => absurd h.1 (by decide), fun h => absurd hp h.1⟩
  · rw [if_neg hp]
    by_cases hq : q = 0
    · rw [if_pos hq, iz_L, show (1 : Int) - 1 = 0 from rfl, iz_0]; exact ⟨fun h => ⟨hp, h.2⟩, fun h => ⟨by decide, h.2⟩⟩
    · rw [if_neg hq, op_hc (by decide)]
      exact ⟨fun ⟨k, hk, e⟩ => ⟨hp, by rw [e, show k = 0 by omega, hc_0]⟩, fun h => ⟨0, by decide, by rw [h.2, hc_0]⟩⟩
theorem Mz_R {p q x : Nat} : op (Mz p q) 1 x = true ↔ q ≠ 0 ∧ x = 0 := by
  unfold Mz
  by_cases hp : p = 0
  · rw [if_pos hp]
    by_cases hq : q = 0
    · rw [if_pos hq, op_0]; exact ⟨(fun h => by cases h), fun h => absurd hq h.1⟩
    · rw [if_neg hq, iz_R, show (-1 : Int) + 1 = 0 from rfl, iz_0]; exact ⟨fun h => ⟨hq, h.2⟩, fun h => ⟨by decide, h.2⟩⟩
  · rw [if_neg hp]
    by_cases hq : q = 0
    · rw [if_pos hq, iz_R]; exact ⟨fun h => absurd h.1 (by decide), fun h => absurd hq h.1⟩
    · rw [if_neg hq, op_hc (by decide)]
      exact ⟨fun ⟨k, hk, e⟩ => ⟨hq, by rw [e, show k = 0 by omega, hc_0]⟩, fun h => ⟨0, by decide, by rw [h.2, hc_0]⟩⟩
theorem Mz_WF (p q : Nat) : Mz p q ∈ WF := by
  unfold Mz
  split
  · split
    · rw [← hc_0]; exact WF_hc (by decide)
    · exact WF_iz (by decide)
  · split
    · exact WF_iz (by decide)
    · exact WF_hc (by decide)
theorem rmade_ok {n p a b s t q : Nat} {m : Mem} {T : Tb} (hn : BIG < n) (B : RB m T WF s t q) (hp : p < 8) (ha : a < 256) (hb : b < 256) : Ok (f_X11_made n (p : Int) (a : Int) (b : Int) m) (fun v _ => v = ans (Mz a b)) := by
  have B' := B
  obtain ⟨b1, b2, b3, b4, b5, b6, b7, b8⟩ := B'
  unfold f_X11_made
  refine ok_calE rSlot_eq ?_
  refine ok_jn ?_
  rw [decide_eq_true (show (0 : Int) ≤ (p : Int) ∧ (p : Int) ≤ 7 by omega), if_neg (by decide)]
  refine ok_calE in_eq ?_
  rw [decide_eq_true (show (0 : Int) ≤ (a : Int) ∧ (a : Int) ≤ 255 by omega), if_neg (by decide)]
  refine ok_calE in_eq ?_
  rw [decide_eq_true (show (0 : Int) ≤ (b : Int) ∧ (b : Int) ≤ 255 by omega), if_neg (by decide)]
  refine ok_calE (gathers_eq b1) ?_
  rw [gtF_eq, b3]
  refine ok_cal (waitsSet_ok hn b1 ha b3 (by omega) b8) (fun _ m1 hq => ?_)
  obtain ⟨A, T1, s1, lA, W1⟩ := hq
  obtain ⟨w1, w2, w3, w4, w5, w6, w7, w8, w9⟩ := id W1
  rw [gtF_eq, w5.1]
  refine ok_cal (waitsSet_ok hn w1 hb w5.1 (by omega) (fun i hi => (w7.2 _ _ (by unfold SSm SCt SCn; omega)).trans (b8 i hi))) (fun _ m2 hq => ?_)
  obtain ⟨A2, T2, s2, lA2, W2⟩ := hq
  have lAB := app_len A A2
  refine ok_cal (close_ok (K := Mz a b) hn W1 W2 b3 (by omega) (by omega) (fun x hx => ⟨x, Mz_L.mp hx, geq_rfl _⟩) (fun y hy => ⟨y, Mz_L.mpr hy, geq_rfl _⟩) (fun x hx => ⟨x, Mz_R.mp hx, geq_rfl _⟩) (fun y hy => ⟨y, Mz_R.mpr hy, geq_rfl _⟩) (fun K2 hK e => by rw [can_uniq hK (can_Mz a b) e]; exact Mz_WF a b)) (fun v m3 hq => ?_)
  refine ok_cal (holdsS_ok hn B hq (can_Mz a b) hp) (fun v m4 hq => ?_)
  exact ok_rt hq
