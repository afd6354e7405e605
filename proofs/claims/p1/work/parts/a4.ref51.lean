/-! THE CLASS: NO REPLY IN ZERO -/
section CP
variable {n : Nat} {m : Mem}
theorem nb_00 {w : Nat} {i : Int} {k : Nat} : ¬ nb 0 (wid 0 - 1) w i = (k : Int) := fun hj => by
  have := (nb_lt hj).2
  rw [om_0, Nat.zero_testBit] at this
  cases this
theorem bm_00 (w : Nat) : bm 0 0 (wid 0 - 1) (wid 0 - 1) w = -1 := by
  rcases bm_cases 0 0 (wid 0 - 1) (wid 0 - 1) w with ⟨_, k, _, _, h, _⟩ | ⟨_, k, _, _, h, _⟩ | h
  · exact absurd h nb_00
  · exact absurd h nb_00
  · exact h.1
theorem Creply (hn : BIG < n) (h : FZ m) {p q w x : Int} : Ok (f_X10_reply n p q w x m) (fun v _ => v = ansR p q w x (-1100000002)) := by
  have n4 := BIG_m hn
  unfold ansR
  by_cases hp : 0 ≤ p ∧ p ≤ 7
  · by_cases hq : 0 ≤ q ∧ q ≤ 7
    · by_cases hw : 0 ≤ w ∧ w ≤ 1
      · by_cases hx : 0 ≤ x ∧ x ≤ 1
        · rw [if_pos ⟨hp, hq, hw, hx⟩]
          obtain ⟨p', rfl⟩ : ∃ p' : Nat, p = (p' : Int) := ⟨p.toNat, by omega⟩
          obtain ⟨q', rfl⟩ : ∃ q' : Nat, q = (q' : Int) := ⟨q.toNat, by omega⟩
          obtain ⟨w', rfl⟩ : ∃ w' : Nat, w = (w' : Int) := ⟨w.toNat, by omega⟩
          obtain ⟨x', rfl⟩ : ∃ x' : Nat, x = (x' : Int) := ⟨x.toNat, by omega⟩
          refine ok_mono (reply_ok (by omega) h.1.1 (by omega) (by omega) (by omega) (by omega)) (fun v m2 hv => ?_)
          rw [hv.1, bm_00]
          rfl
        · rw [if_neg (fun z => hx z.2.2.2)]
          unfold f_X10_reply
          refine ok_calE cSlot_eq ?_
          refine ok_jn ?_
          rw [decide_eq_true hp, if_neg (by decide)]
          refine ok_calE cSlot_eq ?_
          rw [decide_eq_true hq, if_neg (by decide)]
          refine ok_calE (cBit_eq m) ?_
          rw [decide_eq_true hw, if_neg (by decide)]
          refine ok_calE (cBit_eq m) ?_
          rw [decide_eq_false hx, if_pos rb_f]
          exact cf1 m
      · rw [if_neg (fun z => hw z.2.2.1)]
        unfold f_X10_reply
        refine ok_calE cSlot_eq ?_
        refine ok_jn ?_
        rw [decide_eq_true hp, if_neg (by decide)]
        refine ok_calE cSlot_eq ?_
        rw [decide_eq_true hq, if_neg (by decide)]
        refine ok_calE (cBit_eq m) ?_
        rw [decide_eq_false hw, if_pos rb_f]
        exact cf1 m
    · rw [if_neg (fun z => hq z.2.1)]
      unfold f_X10_reply
      refine ok_calE cSlot_eq ?_
      refine ok_jn ?_
      rw [decide_eq_true hp, if_neg (by decide)]
      refine ok_calE cSlot_eq ?_
      rw [decide_eq_false hq, if_pos rb_f]
      exact cf1 m
  · rw [if_neg (fun z => hp z.1)]
    unfold f_X10_reply
    refine ok_calE cSlot_eq ?_
    refine ok_jn ?_
    rw [decide_eq_false hp, if_pos rb_f]
    exact cf1 m
end CP
