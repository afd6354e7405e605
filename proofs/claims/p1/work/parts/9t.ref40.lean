/-! WHAT ONE CALL ON A NEW OBJECT ANSWERS -/
noncomputable def ANS (a : Nat → Int) : Int :=
  if iand (a 0) 63 = 0 then ansSlot (a 1) (a 2) else
  if iand (a 0) 63 = 1 then ansInt (a 1) else
  if iand (a 0) 63 = 2 then ansW (a 1) (a 2) else
  if iand (a 0) 63 = 3 then ansWh (a 1) (a 2) else
  if iand (a 0) 63 = 4 then ansHp (a 1) (a 2) else
  if iand (a 0) 63 = 5 then ansU (a 1) (a 2) (a 3) else
  if iand (a 0) 63 = 6 then ansFl (a 1) (a 2) (a 3) (a 4) else
  if iand (a 0) 63 = 7 then ansMd (a 1) (a 2) (a 3) else
  if iand (a 0) 63 = 8 then ans3 (a 1) (a 2) (a 3) 1 else
  if iand (a 0) 63 = 9 then ans2 (a 1) (a 2) 1 else
  if iand (a 0) 63 = 10 then ansO (a 1) (a 2) (a 3) else
  if iand (a 0) 63 = 11 then ans2 (a 1) (a 2) 1 else
  if iand (a 0) 63 = 12 then -1100000002 else
  if iand (a 0) 63 = 13 then ans2 (a 1) (a 2) 0 else
  if iand (a 0) 63 = 14 then ans2 (a 1) (a 2) 0 else
  if iand (a 0) 63 = 15 then ans1 (a 1) 2 else
  if iand (a 0) 63 = 16 then ans2 (a 1) (a 2) 1 else
  if iand (a 0) 63 = 17 then ans1 (a 1) 0 else
  if iand (a 0) 63 = 18 then ans1 (a 1) 0 else
  if iand (a 0) 63 = 19 then ansG (a 1) else
  if iand (a 0) 63 = 20 then ansR (a 1) (a 2) (a 3) (a 4) (-1100000002) else
  if iand (a 0) 63 = 21 then ansR (a 1) (a 2) (a 3) (a 4) (if a 4 = 0 then a 3 else 0) else
  if iand (a 0) 63 = 22 then ansPl (a 1) (a 2) (a 3) else
  if iand (a 0) 63 = 23 then ansB (a 1) (a 2) (a 3) else
  if iand (a 0) 63 = 24 then ansP (a 1) (a 2) else
  if iand (a 0) 63 = 25 then ansF (a 3) else
  if iand (a 0) 63 = 26 then ans1 (a 1) (-10) else
  if iand (a 0) 63 = 27 then ansSh (a 1) (a 2) (a 3) else
  if iand (a 0) 63 = 28 then ansS (a 1) else
  if iand (a 0) 63 = 29 then ansS (a 1) else
  if iand (a 0) 63 = 30 then ansC (a 1) (a 3) else
  if iand (a 0) 63 = 31 then 8 else
  if iand (a 0) 63 = 32 then -1100000002 else
  if iand (a 0) 63 = 33 then ansN (a 1) else
  if iand (a 0) 63 = 34 then ansT (a 1) else
  0
set_option maxRecDepth 4000 in
theorem stepR_ok {n : Nat} {a : Nat → Int} {m : Mem} (hn : BIG < n) (h : FR m) : Ok (stepR n a m) (fun v _ => v = ANS a) := by
  unfold stepR ANS
  by_cases q0 : iand (a 0) 63 = 0
  · rw [if_pos q0, if_pos q0]
    exact rslot_ok hn h
  rw [if_neg q0, if_neg q0]
  by_cases q1 : iand (a 0) 63 = 1
  · rw [if_pos q1, if_pos q1]
    exact rinteger_ok h
  rw [if_neg q1, if_neg q1]
  by_cases q2 : iand (a 0) 63 = 2
  · rw [if_pos q2, if_pos q2]
    exact rword_ok hn h
  rw [if_neg q2, if_neg q2]
  by_cases q3 : iand (a 0) 63 = 3
  · rw [if_pos q3, if_pos q3]
    exact Rwhole hn h
  rw [if_neg q3, if_neg q3]
  by_cases q4 : iand (a 0) 63 = 4
  · rw [if_pos q4, if_pos q4]
    exact Rheap hn h
  rw [if_neg q4, if_neg q4]
  by_cases q5 : iand (a 0) 63 = 5
  · rw [if_pos q5, if_pos q5]
    exact Rups hn h
  rw [if_neg q5, if_neg q5]
  by_cases q6 : iand (a 0) 63 = 6
  · rw [if_pos q6, if_pos q6]
    exact Rflower hn h
  rw [if_neg q6, if_neg q6]
  by_cases q7 : iand (a 0) 63 = 7
  · rw [if_pos q7, if_pos q7]
    exact Rmade hn h
  rw [if_neg q7, if_neg q7]
  by_cases q8 : iand (a 0) 63 = 8
  · rw [if_pos q8, if_pos q8]
    exact rplus_ok hn h
  rw [if_neg q8, if_neg q8]
  by_cases q9 : iand (a 0) 63 = 9
  · rw [if_pos q9, if_pos q9]
    exact rminus_ok hn h
  rw [if_neg q9, if_neg q9]
  by_cases q10 : iand (a 0) 63 = 10
  · rw [if_pos q10, if_pos q10]
    exact roption_ok h
  rw [if_neg q10, if_neg q10]
  by_cases q11 : iand (a 0) 63 = 11
  · rw [if_pos q11, if_pos q11]
    exact rmove_ok hn h
  rw [if_neg q11, if_neg q11]
  by_cases q12 : iand (a 0) 63 = 12
  · rw [if_pos q12, if_pos q12]
    exact rundo_ok h
  rw [if_neg q12, if_neg q12]
  by_cases q13 : iand (a 0) 63 = 13
  · rw [if_pos q13, if_pos q13]
    exact rorder_ok h
  rw [if_neg q13, if_neg q13]
  by_cases q14 : iand (a 0) 63 = 14
  · rw [if_pos q14, if_pos q14]
    exact routcome_ok h
  rw [if_neg q14, if_neg q14]
  by_cases q15 : iand (a 0) 63 = 15
  · rw [if_pos q15, if_pos q15]
    exact rfar_ok hn h
  rw [if_neg q15, if_neg q15]
  by_cases q16 : iand (a 0) 63 = 16
  · rw [if_pos q16, if_pos q16]
    exact rweight_ok hn h
  rw [if_neg q16, if_neg q16]
  by_cases q17 : iand (a 0) 63 = 17
  · rw [if_pos q17, if_pos q17]
    exact ratomic_ok h
  rw [if_neg q17, if_neg q17]
  by_cases q18 : iand (a 0) 63 = 18
  · rw [if_pos q18, if_pos q18]
    exact rahead_ok h
  rw [if_neg q18, if_neg q18]
  by_cases q19 : iand (a 0) 63 = 19
  · rw [if_pos q19, if_pos q19]
    exact rgarden_ok hn h
  rw [if_neg q19, if_neg q19]
  by_cases q20 : iand (a 0) 63 = 20
  · rw [if_pos q20, if_pos q20]
    exact rreply_ok hn h
  rw [if_neg q20, if_neg q20]
  by_cases q21 : iand (a 0) 63 = 21
  · rw [if_pos q21, if_pos q21]
    exact rfight_ok hn h
  rw [if_neg q21, if_neg q21]
  by_cases q22 : iand (a 0) 63 = 22
  · rw [if_pos q22, if_pos q22]
    exact rplays_ok h
  rw [if_neg q22, if_neg q22]
  by_cases q23 : iand (a 0) 63 = 23
  · rw [if_pos q23, if_pos q23]
    exact rborn_ok hn h.bf.1 h.bf.2
  rw [if_neg q23, if_neg q23]
  by_cases q24 : iand (a 0) 63 = 24
  · rw [if_pos q24, if_pos q24]
    exact rplace_ok hn h.bf.1 h.bf.2
  rw [if_neg q24, if_neg q24]
  by_cases q25 : iand (a 0) 63 = 25
  · rw [if_pos q25, if_pos q25]
    exact rfeed_ok hn h
  rw [if_neg q25, if_neg q25]
  by_cases q26 : iand (a 0) 63 = 26
  · rw [if_pos q26, if_pos q26]
    exact rgame_ok hn h
  rw [if_neg q26, if_neg q26]
  by_cases q27 : iand (a 0) 63 = 27
  · rw [if_pos q27, if_pos q27]
    exact rsheet_ok hn
  rw [if_neg q27, if_neg q27]
  by_cases q28 : iand (a 0) 63 = 28
  · rw [if_pos q28, if_pos q28]
    exact rput_ok h
  rw [if_neg q28, if_neg q28]
  by_cases q29 : iand (a 0) 63 = 29
  · rw [if_pos q29, if_pos q29]
    exact rat_ok h
  rw [if_neg q29, if_neg q29]
  by_cases q30 : iand (a 0) 63 = 30
  · rw [if_pos q30, if_pos q30]
    exact rcopy_ok h
  rw [if_neg q30, if_neg q30]
  by_cases q31 : iand (a 0) 63 = 31
  · rw [if_pos q31, if_pos q31]
    exact rimage_ok hn h
  rw [if_neg q31, if_neg q31]
  by_cases q32 : iand (a 0) 63 = 32
  · rw [if_pos q32, if_pos q32]
    exact rrestore_ok h
  rw [if_neg q32, if_neg q32]
  by_cases q33 : iand (a 0) 63 = 33
  · rw [if_pos q33, if_pos q33]
    exact rcount_ok hn h
  rw [if_neg q33, if_neg q33]
  by_cases q34 : iand (a 0) 63 = 34
  · rw [if_pos q34, if_pos q34]
    exact rtold_ok h
  rw [if_neg q34, if_neg q34]
  exact ok_rt rfl
