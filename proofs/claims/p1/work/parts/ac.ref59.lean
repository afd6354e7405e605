/-! THE CLASS: ONE CALL ON A NEW OBJECT -/
set_option maxRecDepth 4000 in
theorem stepC_ok {n N : Nat} {a : Nat → Int} {m : Mem} (hn : BIG < n) (hN : 100 < N) (h : FZ2 m) : Ok (stepC n N a m) (fun v _ => v = ANS a) := by
  unfold stepC ANS
  by_cases q0 : iand (a 0) 63 = 0
  · rw [if_pos q0, if_pos q0]
    exact Cslot hn h.1
  rw [if_neg q0, if_neg q0]
  by_cases q1 : iand (a 0) 63 = 1
  · rw [if_pos q1, if_pos q1]
    exact Cinteger h.1
  rw [if_neg q1, if_neg q1]
  by_cases q2 : iand (a 0) 63 = 2
  · rw [if_pos q2, if_pos q2]
    exact Cword h.1
  rw [if_neg q2, if_neg q2]
  by_cases q3 : iand (a 0) 63 = 3
  · rw [if_pos q3, if_pos q3]
    exact Cwhole hn h.1.1
  rw [if_neg q3, if_neg q3]
  by_cases q4 : iand (a 0) 63 = 4
  · rw [if_pos q4, if_pos q4]
    exact Cheap hn h.1.1
  rw [if_neg q4, if_neg q4]
  by_cases q5 : iand (a 0) 63 = 5
  · rw [if_pos q5, if_pos q5]
    exact Cups hn h
  rw [if_neg q5, if_neg q5]
  by_cases q6 : iand (a 0) 63 = 6
  · rw [if_pos q6, if_pos q6]
    exact Cflower hn h.1
  rw [if_neg q6, if_neg q6]
  by_cases q7 : iand (a 0) 63 = 7
  · rw [if_pos q7, if_pos q7]
    exact Cmade hn h.1
  rw [if_neg q7, if_neg q7]
  by_cases q8 : iand (a 0) 63 = 8
  · rw [if_pos q8, if_pos q8]
    exact Cplus hn h.1.1
  rw [if_neg q8, if_neg q8]
  by_cases q9 : iand (a 0) 63 = 9
  · rw [if_pos q9, if_pos q9]
    exact Cminus hn h.1.1
  rw [if_neg q9, if_neg q9]
  by_cases q10 : iand (a 0) 63 = 10
  · rw [if_pos q10, if_pos q10]
    exact Coption hn h.1
  rw [if_neg q10, if_neg q10]
  by_cases q11 : iand (a 0) 63 = 11
  · rw [if_pos q11, if_pos q11]
    exact Cmove hn h.1
  rw [if_neg q11, if_neg q11]
  by_cases q12 : iand (a 0) 63 = 12
  · rw [if_pos q12, if_pos q12]
    exact Cundo h.1
  rw [if_neg q12, if_neg q12]
  by_cases q13 : iand (a 0) 63 = 13
  · rw [if_pos q13, if_pos q13]
    exact Corder hn h.1.1
  rw [if_neg q13, if_neg q13]
  by_cases q14 : iand (a 0) 63 = 14
  · rw [if_pos q14, if_pos q14]
    exact Coutcome hn h.1.1
  rw [if_neg q14, if_neg q14]
  by_cases q15 : iand (a 0) 63 = 15
  · rw [if_pos q15, if_pos q15]
    exact Cfar hn h
  rw [if_neg q15, if_neg q15]
  by_cases q16 : iand (a 0) 63 = 16
  · rw [if_pos q16, if_pos q16]
    exact Cweight hn h.1
  rw [if_neg q16, if_neg q16]
  by_cases q17 : iand (a 0) 63 = 17
  · rw [if_pos q17, if_pos q17]
    exact Catomic hn h.1
  rw [if_neg q17, if_neg q17]
  by_cases q18 : iand (a 0) 63 = 18
  · rw [if_pos q18, if_pos q18]
    exact Cahead hn h.1
  rw [if_neg q18, if_neg q18]
  by_cases q19 : iand (a 0) 63 = 19
  · rw [if_pos q19, if_pos q19]
    exact Cgarden hn h.1
  rw [if_neg q19, if_neg q19]
  by_cases q20 : iand (a 0) 63 = 20
  · rw [if_pos q20, if_pos q20]
    exact Creply hn h.1
  rw [if_neg q20, if_neg q20]
  by_cases q21 : iand (a 0) 63 = 21
  · rw [if_pos q21, if_pos q21]
    exact Cfight' hn h.1
  rw [if_neg q21, if_neg q21]
  by_cases q22 : iand (a 0) 63 = 22
  · rw [if_pos q22, if_pos q22]
    exact Cplays h.1
  rw [if_neg q22, if_neg q22]
  by_cases q23 : iand (a 0) 63 = 23
  · rw [if_pos q23, if_pos q23]
    exact Cborn hn hN h.1
  rw [if_neg q23, if_neg q23]
  by_cases q24 : iand (a 0) 63 = 24
  · rw [if_pos q24, if_pos q24]
    exact Cplace hn hN h.1
  rw [if_neg q24, if_neg q24]
  by_cases q25 : iand (a 0) 63 = 25
  · rw [if_pos q25, if_pos q25]
    exact Cfeed hn h.1
  rw [if_neg q25, if_neg q25]
  by_cases q26 : iand (a 0) 63 = 26
  · rw [if_pos q26, if_pos q26]
    exact Cgame h.1
  rw [if_neg q26, if_neg q26]
  by_cases q27 : iand (a 0) 63 = 27
  · rw [if_pos q27, if_pos q27]
    exact Csheet hn
  rw [if_neg q27, if_neg q27]
  by_cases q28 : iand (a 0) 63 = 28
  · rw [if_pos q28, if_pos q28]
    exact Cput h.1
  rw [if_neg q28, if_neg q28]
  by_cases q29 : iand (a 0) 63 = 29
  · rw [if_pos q29, if_pos q29]
    exact Cat h.1
  rw [if_neg q29, if_neg q29]
  by_cases q30 : iand (a 0) 63 = 30
  · rw [if_pos q30, if_pos q30]
    exact Ccopy h.1
  rw [if_neg q30, if_neg q30]
  by_cases q31 : iand (a 0) 63 = 31
  · rw [if_pos q31, if_pos q31]
    exact Cimage hn h.1
  rw [if_neg q31, if_neg q31]
  by_cases q32 : iand (a 0) 63 = 32
  · rw [if_pos q32, if_pos q32]
    exact Crestore h.1
  rw [if_neg q32, if_neg q32]
  by_cases q33 : iand (a 0) 63 = 33
  · rw [if_pos q33, if_pos q33]
    exact Ccount hn h.1
  rw [if_neg q33, if_neg q33]
  by_cases q34 : iand (a 0) 63 = 34
  · rw [if_pos q34, if_pos q34]
    exact Ctold h.1
  rw [if_neg q34, if_neg q34]
  exact ok_some rfl
theorem cost_le (q : Int) : (costOf 200 q).1 ≤ 400000 ∧ (costOf 200 q).2 ≤ 6000000 := by
  have h : ∀ p, p ∈ costC 200 → p.1 ≤ 400000 ∧ p.2 ≤ 6000000 := by decide +kernel
  unfold costOf
  by_cases hq : q.toNat < (costC 200).length
  · rw [List.getD_eq_getElem?_getD, List.getElem?_eq_getElem hq]
    exact h _ (List.getElem_mem hq)
  · rw [List.getD_eq_getElem?_getD, List.getElem?_eq_none (by omega)]
    exact ⟨Nat.zero_le _, Nat.zero_le _⟩
/-- what is left to show: numbers alone -/
def AllRuns (B : Nat) : Prop := ∀ (Ls : Nat) (xs : Nat → Int32), Ls ≤ B → ∃ (n f : Nat) (rc rr : Rz), f_init n mz = some rc ∧ f_X11_tail n mz = some rr ∧ lawRun n xs Ls f 0 K0 S0 rc.2 rr.2
theorem all_runs : AllRuns 6 := by
  intro Ls xs hL
  obtain ⟨n, hn⟩ : ∃ n, BIG < n := ⟨BIG + 1, Nat.lt_succ_self _⟩
  obtain ⟨v1, m1, e1, h1⟩ := FZ2_of hn
  obtain ⟨v2, m2, e2, h2⟩ := FR_of hn
  refine ⟨n, 2, (v1, m1), (v2, m2), e1, e2, ?_⟩
  unfold lawRun
  by_cases q : 0 + 6 ≤ Ls
  · rw [if_pos q]
    obtain ⟨w1, m3, e3, h3⟩ := stepC_ok (N := 200) (a := fun j => (xs (0 + j)).toInt) hn (by decide) h1
    obtain ⟨w2, m4, e4, h4⟩ := stepR_ok (a := fun j => (xs (0 + j)).toInt) hn h2
    have c := cost_le (iand (xs (0 + 0)).toInt 63)
    have k0 : K0 = 108 := rfl
    have s0 : S0 = 744863 := rfl
    refine ⟨200, (w1, m3), (w2, m4), e3, e4, h3.trans h4.symm, by omega, by omega, ?_⟩
    unfold lawRun
    rw [if_neg (by omega)]
    exact ⟨by omega, by omega⟩
  · rw [if_neg q]
    exact ⟨by decide, by decide⟩
