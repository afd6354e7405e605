/-! THE CLASS: SHEETS, WHAT IS TOLD, WORDS, GARDENS -/
section CH
variable {n : Nat} {m : Mem}
theorem cf6 (m2 : Mem) : Ok (cal (f_X10_fail n (-1100000006) m2) fun x27 m27 => rt x27 m27) (fun v _ => v = -1100000006) := ok_cal (fail_ok (z := 6) (by decide)) (fun v m3 h => ok_rt h.1)
theorem cSheet_eq {p : Int} (m2 : Mem) : f_X5_isSheet n p m2 = some (b2i (decide (0 ≤ p ∧ p ≤ 3)), m2) := by
  apply rk_eq
  unfold f_X5_isSheet
  refine ok_jn ?_
  refine ok_jn ?_
  by_cases h1 : p < 0
  · rw [if_pos h1, decide_eq_false (by omega)]
    exact ok_rtZ (Or.inl rfl) ⟨rfl, rfl⟩
  · rw [if_neg h1]
    by_cases h2 : p < 4
    · rw [if_pos h2, decide_eq_true (by omega)]
      exact ok_rtZ (Or.inr rfl) ⟨rfl, rfl⟩
    · rw [if_neg h2, decide_eq_false (by omega)]
      exact ok_rtZ (Or.inl rfl) ⟨rfl, rfl⟩
theorem cMissing_eq (h : FZ m) {p : Int} (hp : 0 ≤ p ∧ p ≤ 3) : f_X5_isMissing n p m = some (1, m) := by
  apply rk_eq
  unfold f_X5_isMissing
  refine ok_calE (cSheet_eq m) ?_
  refine ok_jn ?_
  refine ok_jn ?_
  obtain ⟨p', rfl⟩ : ∃ p' : Nat, p = (p' : Int) := ⟨p.toNat, by omega⟩
  rw [decide_eq_true hp, if_neg (by decide), ldI_ok (len := 4) rfl (by omega), h.2 _ _ (by unfold ZC; omega), if_pos rfl]
  exact ok_rtZ (Or.inr rfl) ⟨rfl, rfl⟩
theorem cBit_eq {w : Int} (m2 : Mem) : f_X10_isBit n w m2 = some (b2i (decide (0 ≤ w ∧ w ≤ 1)), m2) := by
  apply rk_eq
  unfold f_X10_isBit
  refine ok_jn ?_
  refine ok_jn ?_
  by_cases h1 : w = 0
  · rw [if_pos h1, decide_eq_true (by omega)]
    exact ok_rtZ (Or.inr rfl) ⟨rfl, rfl⟩
  · rw [if_neg h1]
    by_cases h2 : w = 1
    · rw [if_pos h2, decide_eq_true (by omega)]
      exact ok_rtZ (Or.inr rfl) ⟨rfl, rfl⟩
    · rw [if_neg h2, decide_eq_false (by omega)]
      exact ok_rtZ (Or.inl rfl) ⟨rfl, rfl⟩
theorem Cplays (h : FZ m) {p q w : Int} : Ok (f_X10_plays n p q w m) (fun v _ => v = ansPl p q w) := by
  unfold f_X10_plays ansPl
  refine ok_calE (cSheet_eq m) ?_
  refine ok_jn ?_
  by_cases hp : 0 ≤ p ∧ p ≤ 3
  · rw [decide_eq_true hp, if_neg (by decide)]
    refine ok_calE cSlot_eq ?_
    by_cases hq : 0 ≤ q ∧ q ≤ 7
    · rw [decide_eq_true hq, if_neg (by decide)]
      refine ok_calE (cBit_eq m) ?_
      by_cases hw : 0 ≤ w ∧ w ≤ 1
      · rw [decide_eq_true hw, if_neg (by decide), if_pos ⟨hp, hq, hw⟩]
        refine ok_calE (cMissing_eq h hp) ?_
        rw [if_neg (by decide)]
        exact cf6 m
      · rw [decide_eq_false hw, if_pos rb_f, if_neg (fun z => hw z.2.2)]
        exact cf1 m
    · rw [decide_eq_false hq, if_pos rb_f, if_neg (fun z => hq z.2.1)]
      exact cf1 m
  · rw [decide_eq_false hp, if_pos rb_f, if_neg (fun z => hp z.1)]
    exact cf1 m
theorem Ccopy (h : FZ m) {p a q b c : Int} : Ok (f_X10_copy n p a q b c m) (fun v _ => v = ansC p q) := by
  unfold f_X10_copy ansC
  refine ok_calE (cSheet_eq m) ?_
  refine ok_jn ?_
  by_cases hp : 0 ≤ p ∧ p ≤ 3
  · rw [decide_eq_true hp, if_neg (by decide)]
    refine ok_calE (cSheet_eq m) ?_
    by_cases hq : 0 ≤ q ∧ q ≤ 3
    · rw [decide_eq_true hq, if_neg (by decide), if_pos ⟨hp, hq⟩]
      refine ok_calE (cMissing_eq h hp) ?_
      refine ok_jn ?_
      rw [if_neg (by decide)]
      exact cf6 m
    · rw [decide_eq_false hq, if_pos rb_f, if_neg (fun z => hq z.2)]
      exact cf1 m
  · rw [decide_eq_false hp, if_pos rb_f, if_neg (fun z => hp z.1)]
    exact cf1 m
theorem Ctold (h : FZ m) {p : Int} : Ok (f_X10_told n p m) (fun v _ => v = ansT p) := by
  unfold f_X10_told ansT
  refine ok_calE isWithin_eq ?_
  refine ok_jn ?_
  by_cases hp : 1 ≤ p ∧ p ≤ 6
  · rw [decide_eq_true hp, if_neg (by decide), if_pos hp]
    obtain ⟨p', rfl⟩ : ∃ p' : Nat, p = (p' : Int) := ⟨p.toNat, by omega⟩
    rw [ldI_ok (len := 7) rfl (by omega), h.2 _ _ (by unfold ZC; omega)]
    exact ok_rt rfl
  · rw [decide_eq_false hp, if_pos rb_f, if_neg hp]
    exact cf1 m
theorem Cfight (hn : BIG < n) (h : FZ m) {p q w x : Int} (h0 : ∀ (a b w t : Nat), a < 8 → b < 8 → w < 2 → t < 2 → Ok (f_X10_fight n (a : Int) (b : Int) (w : Int) (t : Int) m) (fun v _ => v = if (t : Int) = 0 then (w : Int) else 0)) : Ok (f_X10_fight n p q w x m) (fun v _ => v = ansR p q w x (if x = 0 then w else 0)) := by
  unfold ansR
  by_cases hp : 0 ≤ p ∧ p ≤ 7
  · by_cases hq : 0 ≤ q ∧ q ≤ 7
    · by_cases hw : 0 ≤ w ∧ w ≤ 1
      · by_cases hx : 0 ≤ x ∧ x ≤ 1
        · rw [if_pos ⟨hp, hq, hw, hx⟩]
          obtain ⟨p', rfl⟩ : ∃ p' : Nat, p = (p' : Int) := ⟨p.toNat, by omega⟩
          obtain ⟨q', rfl⟩ : ∃ q' : Nat, q = (q' : Int) := ⟨q.toNat, by omega⟩
          obtain ⟨w', rfl⟩ : ∃ w' : Nat, w = (w' : Int) := ⟨w.toNat, by omega⟩
          obtain ⟨x', rfl⟩ : ∃ x' : Nat, x = (x' : Int) := ⟨x.toNat, by omega⟩
          exact h0 p' q' w' x' (by omega) (by omega) (by omega) (by omega)
        · rw [if_neg (fun z => hx z.2.2.2)]
          unfold f_X10_fight
          refine ok_calE cSlot_eq ?_
          refine ok_jn ?_
          rw [decide_eq_true hp, if_neg (by decide)]
          refine ok_calE cSlot_eq ?_
          rw [decide_eq_true hq, if_neg (by decide)]
          refine ok_calE (cBit_eq m) ?_
          rw [decide_eq_true hw, if_neg (by decide)]
          refine ok_calE (cBit_eq m) ?_
          rw [decide_eq_false hx, if_pos rb_f]
          exact cf1 m
      · rw [if_neg (fun z => hw z.2.2.1)]
        unfold f_X10_fight
        refine ok_calE cSlot_eq ?_
        refine ok_jn ?_
        rw [decide_eq_true hp, if_neg (by decide)]
        refine ok_calE cSlot_eq ?_
        rw [decide_eq_true hq, if_neg (by decide)]
        refine ok_calE (cBit_eq m) ?_
        rw [decide_eq_false hw, if_pos rb_f]
        exact cf1 m
    · rw [if_neg (fun z => hq z.2.1)]
      unfold f_X10_fight
      refine ok_calE cSlot_eq ?_
      refine ok_jn ?_
      rw [decide_eq_true hp, if_neg (by decide)]
      refine ok_calE cSlot_eq ?_
      rw [decide_eq_false hq, if_pos rb_f]
      exact cf1 m
  · rw [if_neg (fun z => hp z.1)]
    unfold f_X10_fight
    refine ok_calE cSlot_eq ?_
    refine ok_jn ?_
    rw [decide_eq_false hp, if_pos rb_f]
    exact cf1 m
end CH
