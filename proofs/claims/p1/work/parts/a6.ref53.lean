/-! THE CLASS: FAR, WEIGHT, AN EMPTY TAPE -/
theorem vd_far : vd (gadd 0 (gneg (hc 10))) = 2 := by
  have b1 : gleB 0 (gadd 0 (gneg (hc 10))) = false := by
    cases q : gleB 0 (gadd 0 (gneg (hc 10)))
    · rfl
    · have h := sub_gle.mp ((gleB_iff _ _).mp q)
      have h2 : gle (hc 10) (hc 0) := by rw [hc_0]; exact h
      exact absurd (hc_le h2) (by decide)
  have b2 : gleB (gadd 0 (gneg (hc 10))) 0 = false := by
    cases q : gleB (gadd 0 (gneg (hc 10))) 0
    · rfl
    · have h := gle_sub.mp ((gleB_iff _ _).mp q)
      have h2 : gle (hc 0) (hc 10) := by rw [hc_0]; exact h
      exact absurd (hc_le h2) (by decide)
  unfold vd
  rw [b1, b2]
  rfl
section CR
variable {n : Nat} {m : Mem}
theorem Cfar (hn : BIG < n) (h : FZ2 m) {p : Int} : Ok (f_X10_far n p m) (fun v _ => v = ans1 p 2) := by
  have n4 := BIG_m hn
  have C := h.1.1.1
  unfold f_X10_far ans1
  refine ok_calE cSlot_eq ?_
  by_cases hp : 0 ≤ p ∧ p ≤ 7
  · rw [decide_eq_true hp, if_neg (by decide), if_pos hp]
    obtain ⟨p', rfl⟩ : ∃ p' : Nat, p = (p' : Int) := ⟨p.toNat, by omega⟩
    obtain ⟨o, ho⟩ := cheld_eq (n := n) (m := m) (p := p') (by omega)
    obtain ⟨e, O, _⟩ := ho h.1
    obtain ⟨_, _, _, ⟨fo, fo1, OF⟩, _⟩ := id C
    have f9 : mGet m 1 9 = (fo : Int) := h.2.1.trans fo1
    have G1 : GX 0 := GX_0 O
    have G2 : GX (hc 10) := GX_far
    have w1 := wid_pos 0
    have w2 := wid_pos (hc 10)
    refine ok_calE e ?_
    dsimp only [gtG]
    rw [f9, Int.toNat_natCast, Int.toNat_natCast]
    refine ok_cal (fill_ok (mir := true) (by omega) O OF G1 G2) (fun _ m1 h1 => ?_)
    obtain ⟨z1, u1, D⟩ := h1
    have g1 : Grow m m1 := hold_fr (S := SD) z1 u1 (fun a ha => by omega)
    have O' := O.mono g1
    have O2' := OF.mono g1
    rw [isD_ok O.o.1, isG_ok O'.o.2.2.1 O.o.1]
    refine ok_calE (top_eq O' G1.1) ?_
    rw [u1 1 9 (by decide), f9, Int.toNat_natCast, isD_ok OF.o.1, isG_ok O2'.o.2.2.1 OF.o.1]
    refine ok_calE (top_eq O2' G2.1) ?_
    refine ok_calE (verdict_eq D G1.1 G2.1 (by omega) (by omega)) ?_
    rw [dpos_top G1 G2, if_pos rfl, vd_far]
    exact ok_rt rfl
  · rw [decide_eq_false hp, if_pos rb_f, if_neg hp]
    exact cf1 m
theorem Cweight (hn : BIG < n) (h : FZ m) {p q : Int} : Ok (f_X10_weight n p q m) (fun v _ => v = ans2 p q 1) := by
  have n4 := BIG_m hn
  have C := h.1.1
  have nx := h.1.2.2
  unfold f_X10_weight ans2
  refine ok_calE cSlot_eq ?_
  refine ok_jn ?_
  by_cases hp : 0 ≤ p ∧ p ≤ 7
  · rw [decide_eq_true hp, if_neg (by decide)]
    refine ok_calE cSlot_eq ?_
    by_cases hq : 0 ≤ q ∧ q ≤ 7
    · rw [decide_eq_true hq, if_neg (by decide), if_pos ⟨hp.1, hp.2, hq.1, hq.2⟩]
      obtain ⟨p', rfl⟩ : ∃ p' : Nat, p = (p' : Int) := ⟨p.toNat, by omega⟩
      obtain ⟨q', rfl⟩ : ∃ q' : Nat, q = (q' : Int) := ⟨q.toNat, by omega⟩
      obtain ⟨o, ho⟩ := cheld_eq (n := n) (m := m) (p := q') (by omega)
      obtain ⟨e, O, _⟩ := ho h
      obtain ⟨b, h1, h2⟩ := isSmall_eq (n := n) (by omega) O can_0 (by rw [wid_0']; decide)
      obtain ⟨_, _, _, ⟨fo, fo1, OF⟩, _⟩ := id C
      refine ok_calE e ?_
      rw [Int.toNat_natCast, isD_ok O.o.1, isG_ok O.o.2.2.1 O.o.1]
      refine ok_calE h1 ?_
      rw [h2.mpr sm_0, if_neg (by decide)]
      refine ok_cal (weigh_ok (by omega) O can_0 fits_0 sm_0 fo1 OF) (fun v m1 hv => ?_)
      obtain ⟨u, N, rfl, hu, Y, s0, W, _, f1, z1⟩ := hv
      have n1 : mNext m1 = mNext m := mNext_eq z1
      have cu := Y.1.2.2.2.2.2.1 u hu
      have eu : yden m1 u = 0 := by
        have ez := Wt_uniq (z := 0) W (by rw [iz_0]; exact Wt_0)
        rw [iz_0] at ez
        exact can_uniq cu can_0 ez
      refine ok_cal (written_ok (by omega) Y hu s0 (by omega)) (fun v m2 hv => ?_)
      obtain ⟨f2, n2, _, _, _, R⟩ := hv
      rw [eu] at R
      obtain ⟨_, o2, rfl, O2⟩ : fits 0 ∧ ∃ o : Nat, v = (o : Int) ∧ GOb m2 o 0 := by
        rcases R with R | R
        · exact R
        · exact absurd fits_0 R.1
      have C2 : CI (fun _ => 0) m2 := (C.fr (f1.weak (fun a h => SX_SC h))).fr (f2.weak (fun a h => Or.inl h))
      rw [Int.toNat_natCast]
      refine ok_cal (settle_o (by omega) C2 (by omega) can_0 fits_0 O2) (fun r m3 h3 => ?_)
      obtain ⟨_, _, g3, _⟩ := h3
      have O3 := O2.mono g3
      rw [if_neg O2.o.2.2.2, isD_ok O3.o.1, isG_ok O3.o.2.2.1 O3.o.1]
      refine ok_calE (isInteger_0 O3) ?_
      refine ok_jn ?_
      rw [if_neg (by decide)]
      exact ok_rt rfl
    · rw [decide_eq_false hq, if_pos rb_f, if_neg (fun z => hq ⟨z.2.2.1, z.2.2.2⟩)]
      exact cf1 m
  · rw [decide_eq_false hp, if_pos rb_f, if_neg (fun z => hp ⟨z.1, z.2.1⟩)]
    exact cf1 m
theorem sign_e (h4 : mGet m 41 4 = 0) (h5 : mGet m 41 5 = 0) : f_X7_sign n m = some (-1, m) := by
  apply rk_eq
  unfold f_X7_sign
  rw [gtF_eq, h5]
  refine ok_jn ?_
  refine ok_jn ?_
  rw [if_neg (by decide), gtF_eq, gtF_eq, h5, h4, if_neg (by decide)]
  exact ok_rt ⟨rfl, rfl⟩
theorem digit_e : f_X7_isDigit n (-1) m = some (0, m) := by
  apply rk_eq
  unfold f_X7_isDigit
  refine ok_jn ?_
  refine ok_jn ?_
  rw [if_pos (by decide)]
  exact ok_rtZ (Or.inl rfl) ⟨rfl, rfl⟩
theorem parse_e (h4 : mGet m 41 4 = 0) : Ok (f_X7_parse n m) (fun v _ => v = 0) := by
  unfold f_X7_parse
  rw [ptF_eq, ptF_eq, ptF_eq]
  obtain ⟨m1, e1⟩ : ∃ m1, m1 = mSet (mSet (mSet m 41 5 0) 41 7 0) 41 6 (-1) := ⟨_, rfl⟩
  rw [← e1]
  have x4 : mGet m1 41 4 = 0 := by rw [e1, mGet_mSet, if_neg (by omega), mGet_mSet, if_neg (by omega), mGet_mSet, if_neg (by omega)]; exact h4
  have x5 : mGet m1 41 5 = 0 := by rw [e1, mGet_mSet, if_neg (by omega), mGet_mSet, if_neg (by omega), mGet_mSet, if_pos ⟨rfl, rfl⟩, w32_0']
  refine ok_cal (P := fun v m2 => v = 0 ∧ mGet m2 41 6 = 0) ?_ (fun v m2 hv => ?_)
  · show Ok (h_X7_parseSum n (39 + 1) 0 m1) _
    rw [h_X7_parseSum_s]
    unfold b_X7_parseSum
    refine ok_cal (P := fun v m2 => v = 0 ∧ mGet m2 41 6 = 0) ?_ (fun v m2 hv => ?_)
    · show Ok (h_X7_parseUnit n (38 + 1) 0 m1) _
      rw [h_X7_parseUnit_s]
      unfold b_X7_parseUnit
      refine ok_calE (sign_e x4 x5) ?_
      refine ok_jn ?_
      rw [if_neg (by decide), if_neg (by decide)]
      refine ok_calE digit_e ?_
      rw [if_pos rfl, if_neg (by decide), if_neg (by decide), gtF_eq, x5]
      refine ok_cal (P := fun v m2 => v = 0 ∧ mGet m2 41 6 = 0) ?_ (fun v m2 hv => ?_)
      · unfold f_X7_failAt
        rw [ptF_eq]
        exact ok_rtZ (Or.inl rfl) ⟨rfl, by rw [mGet_mSet, if_pos ⟨rfl, rfl⟩, w32_0']⟩
      · exact ok_rtZ (Or.inl hv.1) hv
    · rw [hv.1, if_pos rfl]
      exact ok_rtZ (Or.inl rfl) ⟨rfl, hv.2⟩
  · refine ok_jn ?_
    rw [hv.1, if_pos rfl]
    show Ok (gtF m2 41 6 _) _
    rw [gtF_eq, hv.2]
    exact ok_rt rfl
theorem Cgame {N : Nat} (h : FZ m) {p : Int} : Ok (f_X10_game n N p m) (fun v _ => v = ans1 p (-10)) := by
  unfold f_X10_game ans1
  refine ok_calE cSlot_eq ?_
  by_cases hp : 0 ≤ p ∧ p ≤ 7
  · rw [decide_eq_true hp, if_neg (by decide), if_pos hp]
    refine ok_cal (parse_e (h.2 _ _ (by unfold ZC; omega))) (fun v m2 hv => ?_)
    rw [hv]
    refine ok_cal (P := fun _ _ => True) ?_ (fun _ m3 _ => ?_)
    · unfold f_X7_empty
      rw [ptF_eq]
      exact ok_rt trivial
    · rw [if_neg (by decide)]
      refine ok_rt ?_
      decide +kernel
  · rw [decide_eq_false hp, if_pos rb_f, if_neg hp]
    exact cf1 m
end CR
