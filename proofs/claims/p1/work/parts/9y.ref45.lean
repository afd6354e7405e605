/-! THE CLASS: SLOTS, INTEGERS, ATOMIC WEIGHTS -/
section CJ
variable {n : Nat} {m : Mem}
theorem om_0 (w : Nat) : om 0 (wid 0 - 1) w = 0 := by
  have := om_lt 0 (wid 0 - 1) w
  rw [wid_0'] at this ⊢
  have e : (2 : Nat) ^ (1 - 1) = 1 := rfl
  omega
theorem isInteger_0 {o : Nat} (O : GOb m o 0) : f_X1_isInteger n o m = some (1, m) := by
  have W : wid 0 ≤ 11 := by rw [wid_0']; decide
  have hO : f_X1_options n o ((wid 0 - 1 : Nat) : Int) 0 m = some ((om 0 (wid 0 - 1) 0 : Int), m) := options_eq (w := 0) O W (by decide)
  apply rk_eq
  unfold f_X1_isInteger
  rw [isG_ok O.o.2.2.1 O.o.1]
  refine ok_calE (top_eq O W) ?_
  rw [isG_ok O.o.2.2.1 O.o.1]
  refine ok_calE hO ?_
  refine ok_jn ?_
  refine ok_jn ?_
  rw [om_0, if_pos (show ((0 : Nat) : Int) = 0 from rfl)]
  exact ok_rtZ (Or.inr rfl) ⟨rfl, rfl⟩
theorem value_0 {o : Nat} (O : GOb m o 0) : f_X1_value n o m = some (0, m) := by
  have W : wid 0 ≤ 11 := by rw [wid_0']; decide
  have hO : f_X1_options n o ((wid 0 - 1 : Nat) : Int) 1 m = some ((om 0 (wid 0 - 1) 1 : Int), m) := options_eq (w := 1) O W (by decide)
  apply rk_eq
  unfold f_X1_value
  rw [isG_ok O.o.2.2.1 O.o.1]
  refine ok_calE (top_eq O W) ?_
  rw [isG_ok O.o.2.2.1 O.o.1]
  refine ok_calE hO ?_
  refine ok_jn ?_
  rw [om_0, if_pos (show ((0 : Nat) : Int) = 0 from rfl), isG_ok O.o.2.2.1 O.o.1]
  refine ok_calE (top_eq O W) ?_
  rw [wid_0']
  exact ok_rt ⟨rfl, rfl⟩
theorem Cinteger (h : FZ m) {p : Int} : Ok (f_X10_integer n p m) (fun v _ => v = ansInt p) := by
  unfold f_X10_integer ansInt
  refine ok_calE cSlot_eq ?_
  by_cases hp : 0 ≤ p ∧ p ≤ 7
  · rw [decide_eq_true hp, if_neg (by decide), if_pos hp]
    obtain ⟨p', rfl⟩ : ∃ p' : Nat, p = (p' : Int) := ⟨p.toNat, by omega⟩
    obtain ⟨o, ho⟩ := cheld_eq (n := n) (m := m) (p := p') (by omega)
    obtain ⟨e, O, _⟩ := ho h
    refine ok_calE e ?_
    rw [Int.toNat_natCast, isD_ok O.o.1, isG_ok O.o.2.2.1 O.o.1]
    refine ok_calE (isInteger_0 O) ?_
    refine ok_jn ?_
    rw [if_neg (by decide), isD_ok O.o.1, isG_ok O.o.2.2.1 O.o.1]
    exact ok_calE (value_0 O) (ok_rt rfl)
  · rw [decide_eq_false hp, if_pos rb_f, if_neg hp]
    exact cf1 m
theorem Cslot (hn : BIG < n) (h : FZ m) {p f : Int} : Ok (f_X10_slot n p f m) (fun v _ => v = ansSlot p f) := by
  have n4 := BIG_m hn
  have W : wid 0 ≤ 11 := by rw [wid_0']; decide
  unfold ansSlot
  by_cases hp : 0 ≤ p ∧ p ≤ 7
  · obtain ⟨p', rfl⟩ : ∃ p' : Nat, p = (p' : Int) := ⟨p.toNat, by omega⟩
    have hs : p' < 8 := by omega
    obtain ⟨o, ho⟩ := cheld_eq (n := n) (m := m) (p := p') hs
    obtain ⟨e, O, _⟩ := ho h
    by_cases q0 : f = 0
    · rw [q0, if_pos (by omega), if_pos (Or.inl rfl)]
      refine ⟨_, _, slot0_eq h.1.1 hs, ?_⟩
      rw [wid_0']
      rfl
    by_cases q1 : f = 1
    · rw [q1, if_pos (by omega), if_neg (by decide)]
      refine ⟨_, _, slot1_eq h.1.1 hs, ?_⟩
      rw [bd_0]
      rfl
    by_cases q2 : f = 2
    · rw [q2, if_pos (by omega), if_neg (by decide)]
      refine ⟨_, _, slot2_ok h.1.1 hs, ?_⟩
      rw [om_0]
      show ((pcnt 0 : Nat) : Int) = 0
      decide +kernel
    by_cases q4 : f = 4
    · rw [q4, if_pos (by omega), if_neg (by decide)]
      exact ok_mono (slot4_ok (by omega) h.1.1 hs) (fun v m2 hv => hv.1.trans vd_0)
    by_cases q5 : f = 5
    · rw [q5, if_pos (by omega), if_pos (by decide)]
      obtain ⟨b, h1, h2⟩ := slot5_ok (n := n) (by omega) h.1.1 hs
      refine ⟨_, _, h1, ?_⟩
      rw [h2.mpr sm_0]
      rfl
    by_cases q6 : f = 6
    · rw [q6, if_pos (by omega), if_pos (by decide)]
      refine ⟨_, _, slot6_eq h.1.1 hs, ?_⟩
      rw [wd_0_len]
      rfl
    unfold f_X10_slot
    refine ok_calE cSlot_eq ?_
    rw [decide_eq_true hp, if_neg (by decide)]
    refine ok_calE e ?_
    rw [Int.toNat_natCast, if_neg q0, if_neg q1, if_neg q2]
    by_cases q3 : f = 3
    · have hO : f_X1_options n o ((wid 0 - 1 : Nat) : Int) 1 m = some ((om 0 (wid 0 - 1) 1 : Int), m) := options_eq (w := 1) O W (by decide)
      rw [if_pos q3, isD_ok O.o.1, isG_ok O.o.2.2.1 O.o.1, if_pos (by omega), if_neg (by omega)]
      refine ok_calE (top_eq O W) ?_
      rw [isD_ok O.o.1, isG_ok O.o.2.2.1 O.o.1]
      refine ok_calE hO ?_
      refine ok_calE (bitCount_eq (om_lt11 W _ 1)) ?_
      refine ok_rt ?_
      rw [om_0]
      decide +kernel
    rw [if_neg q3, if_neg q4, if_neg q5, if_neg q6]
    by_cases q7 : f = 7
    · obtain ⟨_, _, _, ⟨k1, _⟩, ⟨q1', _⟩, ⟨_, _, _, _, b4⟩, _⟩ := O.get
      rw [if_pos q7, isD_ok O.o.1, gmF_ok k1, b4, if_pos (by omega), if_neg (by omega)]
      exact ok_rt hpv_0
    rw [if_neg q7]
    by_cases q8 : f = 8
    · rw [if_pos q8, isD_ok O.o.1, isG_ok O.o.2.2.1 O.o.1, if_pos (by omega), if_pos (by omega)]
      refine ok_calE (isInteger_0 O) ?_
      refine ok_jn ?_
      rw [if_neg (by decide)]
      exact ok_rt rfl
    · rw [if_neg q8, if_neg (by omega)]
      exact cf1 m
  · rw [if_neg (fun z => hp ⟨z.1, z.2.1⟩)]
    unfold f_X10_slot
    refine ok_calE cSlot_eq ?_
    rw [decide_eq_false hp, if_pos rb_f]
    exact cf1 m
end CJ
