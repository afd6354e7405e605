/-! THE CLASS: ZERO HAS NO OPTION -/
section CO
variable {n : Nat} {m : Mem}
theorem Coption (hn : BIG < n) (h : FZ m) {p q w i : Int} : Ok (f_X10_option n p q w i m) (fun v _ => v = ansO p q w) := by
  have n4 := BIG_m hn
  have W : wid 0 ≤ 11 := by rw [wid_0']; decide
  unfold f_X10_option ansO
  refine ok_calE cSlot_eq ?_
  refine ok_jn ?_
  by_cases hp : 0 ≤ p ∧ p ≤ 7
  · rw [decide_eq_true hp, if_neg (by decide)]
    refine ok_calE cSlot_eq ?_
    by_cases hq : 0 ≤ q ∧ q ≤ 7
    · rw [decide_eq_true hq, if_neg (by decide)]
      refine ok_calE (cBit_eq m) ?_
      by_cases hw : 0 ≤ w ∧ w ≤ 1
      · rw [decide_eq_true hw, if_neg (by decide), if_pos (show (0 ≤ p ∧ p ≤ 7) ∧ (0 ≤ q ∧ q ≤ 7) ∧ (0 ≤ w ∧ w ≤ 1) from ⟨hp, hq, hw⟩)]
        obtain ⟨q', rfl⟩ : ∃ q' : Nat, q = (q' : Int) := ⟨q.toNat, by omega⟩
        obtain ⟨w', rfl⟩ : ∃ w' : Nat, w = (w' : Int) := ⟨w.toNat, by omega⟩
        obtain ⟨o, ho⟩ := cheld_eq (n := n) (m := m) (p := q') (by omega)
        obtain ⟨e, O, _⟩ := ho h
        refine ok_calE e ?_
        rw [Int.toNat_natCast, isD_ok O.o.1, isG_ok O.o.2.2.1 O.o.1]
        refine ok_calE (top_eq O W) ?_
        rw [isD_ok O.o.1, isG_ok O.o.2.2.1 O.o.1]
        refine ok_calE (numbered_eq (by omega) O W (by omega)) ?_
        have ng : nb 0 (wid 0 - 1) w' i < 0 := nb_neg (fun ⟨j, hj⟩ => by
          have := (nb_lt hj).2
          rw [om_0, Nat.zero_testBit] at this
          cases this)
        rw [if_pos ng]
        exact cf2 m
      · rw [decide_eq_false hw, if_pos rb_f, if_neg (fun z => hw z.2.2)]
        exact cf1 m
    · rw [decide_eq_false hq, if_pos rb_f, if_neg (fun z => hq z.2.1)]
      exact cf1 m
  · rw [decide_eq_false hp, if_pos rb_f, if_neg (fun z => hp z.1)]
    exact cf1 m
end CO
