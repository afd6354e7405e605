/-! THE CLASS: PUT, AT, RESTORE, WORD, ATOMIC -/
section CI2
variable {n : Nat} {m : Mem}
theorem cNumErr_eq (h : FZ m) {p q : Int} : f_X10_numberError n p q m = some (if 0 ≤ p ∧ p ≤ 3 then -1100000006 else -1100000001, m) := by
  apply rk_eq
  unfold f_X10_numberError
  refine ok_calE (cSheet_eq m) ?_
  by_cases hp : 0 ≤ p ∧ p ≤ 3
  · rw [decide_eq_true hp, if_neg (by decide), if_pos hp]
    refine ok_calE (cMissing_eq h hp) ?_
    rw [if_neg (by decide)]
    exact ok_rt ⟨rfl, rfl⟩
  · rw [decide_eq_false hp, if_pos rb_f, if_neg hp]
    exact ok_rt ⟨rfl, rfl⟩
theorem Cput (h : FZ m) {p q r : Int} : Ok (f_X10_put n p q r m) (fun v _ => v = ansS p) := by
  unfold f_X10_put ansS
  refine ok_calE (cNumErr_eq h) ?_
  refine ok_jn ?_
  by_cases hp : 0 ≤ p ∧ p ≤ 3
  · rw [if_pos hp, if_neg (by decide)]
    exact cf6 m
  · rw [if_neg hp, if_neg (by decide)]
    exact cf1 m
theorem Cat (h : FZ m) {p q : Int} : Ok (f_X10_at n p q m) (fun v _ => v = ansS p) := by
  unfold f_X10_at ansS
  refine ok_calE (cNumErr_eq h) ?_
  refine ok_jn ?_
  by_cases hp : 0 ≤ p ∧ p ≤ 3
  · rw [if_pos hp, if_neg (by decide)]
    exact cf6 m
  · rw [if_neg hp, if_neg (by decide)]
    exact cf1 m
theorem Crestore (h : FZ m) : Ok (f_X10_restore n m) (fun v _ => v = -1100000002) := by
  unfold f_X10_restore
  refine ok_cal (P := fun v _ => v = 0) ?_ (fun v m2 hv => ?_)
  · unfold f_X6_bringImage
    rw [gtF_eq, h.2 45 6 (by unfold ZC; omega), if_pos rfl]
    exact ok_rtZ (Or.inl rfl) rfl
  · rw [hv, if_pos rfl]
    exact cf2 m2
theorem Cword (h : FZ m) {p i : Int} : Ok (f_X10_word n p i m) (fun v _ => v = ansW p i) := by
  unfold ansW
  by_cases hp : 0 ≤ p ∧ p ≤ 7
  · rw [if_pos hp]
    obtain ⟨p', rfl⟩ : ∃ p' : Nat, p = (p' : Int) := ⟨p.toNat, by omega⟩
    by_cases q : i = 0
    · rw [q, if_pos rfl]
      have e := word_eq (n := n) (s := p') (k := 0) h.1.1 (by omega) (by rw [wd_0_len]; decide)
      refine ⟨_, _, e, ?_⟩
      show (((wd 0).getD 0 0 : Nat) : Int) = 48
      rw [wd_0]
      rfl
    · rw [if_neg q]
      obtain ⟨o, O, e⟩ := held_eq (n := n) (show p' < 8 by omega) (h.1.1.1 p' (by omega))
      obtain ⟨_, _, x, ⟨k1, _, _, kw⟩, ⟨q1, _, _, w1, _⟩, ⟨_, _, v2, _⟩, _, tx, _⟩ := O.get
      have l1 : (wd 0).length = 1 := wd_0_len
      unfold f_X10_word
      refine ok_calE cSlot_eq ?_
      rw [decide_eq_true hp, if_neg (by decide)]
      refine ok_calE e ?_
      rw [Int.toNat_natCast, isD_ok q1, gmG_ok k1 v2]
      refine ok_jn ?_
      refine ok_jn ?_
      by_cases q2 : i < 0
      · rw [if_pos q2]
        exact cf2 m
      · rw [if_neg q2, isD_ok w1, lenA_ok kw (by decide) (by decide) (by show (wd 0).length < _; omega), if_neg (by show ¬ i < (((wd 0).length : Nat) : Int); omega)]
        exact cf2 m
  · rw [if_neg hp]
    unfold f_X10_word
    refine ok_calE cSlot_eq ?_
    rw [decide_eq_false hp, if_pos rb_f]
    exact cf1 m
end CI2
