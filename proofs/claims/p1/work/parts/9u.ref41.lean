/-! THE CLASS: WHAT ONE CALL ON A NEW OBJECT ANSWERS -/
/-- the class's memory, new: all slots zero -/
def FC (m : Mem) : Prop := CI (fun _ => 0) m ∧ (∀ t, TX m 0 t) ∧ mNext m ≤ 1100
theorem FC_of {n : Nat} (hn : BIG < n) : Ok (f_init n mz) (fun _ m => FC m) := by
  have n4 := BIG_m hn
  refine ok_mono (init_ok (m0 := mz) (by omega) (by decide)) (fun _ m h => ⟨h.1, h.2.1, ?_⟩)
  have : mNext mz = 1000 := rfl
  omega
section CF
variable {n : Nat} {m : Mem}
theorem cSlot_eq {x : Int} {m2 : Mem} : f_X10_isSlot n x m2 = some (b2i (decide (0 ≤ x ∧ x ≤ 7)), m2) := by
  apply rk_eq
  unfold f_X10_isSlot
  refine ok_calE isWithin_eq ?_
  exact ok_rtZ (rb_01 _) ⟨rfl, rfl⟩
theorem cf1 (m2 : Mem) : Ok (cal (f_X10_fail n (-1100000001) m2) fun x27 m27 => rt x27 m27) (fun v _ => v = -1100000001) := ok_cal (fail_ok (z := 1) (by decide)) (fun v m3 h => ok_rt h.1)
theorem cf2 (m2 : Mem) : Ok (cal (f_X10_fail n (-1100000002) m2) fun x27 m27 => rt x27 m27) (fun v _ => v = -1100000002) := ok_cal (fail_ok (z := 2) (by decide)) (fun v m3 h => ok_rt h.1)
theorem SRes.ans {γ : Nat → Nat} {s K : Nat} {r : Int} {m' : Mem} (h : SRes γ s K r m') : r = ans K := by
  rcases h with ⟨f, e, _⟩ | ⟨f, e, _⟩
  · rw [e, ans_y f]
  · rw [e, ans_n f]
theorem Cwhole (hn : BIG < n) (h : FC m) {p z : Int} : Ok (f_X10_whole n p z m) (fun v _ => v = ansWh p z) := by
  have n4 := BIG_m hn
  obtain ⟨C, _, nx⟩ := h
  unfold f_X10_whole ansWh
  refine ok_calE cSlot_eq ?_
  refine ok_jn ?_
  by_cases hp : 0 ≤ p ∧ p ≤ 7
  · rw [decide_eq_true hp, if_neg (by decide)]
    refine ok_calE isWithin_eq ?_
    by_cases hz : -9 ≤ z ∧ z ≤ 9
    · rw [decide_eq_true hz, if_neg (by decide), if_pos ⟨hp, hz⟩]
      obtain ⟨p', rfl⟩ : ∃ p' : Nat, p = (p' : Int) := ⟨p.toNat, by omega⟩
      refine ok_cal (integerOf_ok (by omega) (by omega) (by omega)) (fun v m1 h1 => ?_)
      obtain ⟨R, f1, n1⟩ := h1
      refine ok_cal (settle_ok (by omega) (C.fr (f1.weak (fun a h => SM_SC h))) (by omega) (can_iz z) R) (fun r m2 h2 => ok_rt h2.1.ans)
    · rw [decide_eq_false hz, if_pos rb_f, if_neg (fun q => hz q.2)]
      exact cf1 m
  · rw [decide_eq_false hp, if_pos rb_f, if_neg (fun q => hp q.1)]
    exact cf1 m
theorem Cheap (hn : BIG < n) (h : FC m) {p z : Int} : Ok (f_X10_heap n p z m) (fun v _ => v = ansHp p z) := by
  have n4 := BIG_m hn
  obtain ⟨C, _, nx⟩ := h
  unfold f_X10_heap ansHp
  refine ok_calE cSlot_eq ?_
  refine ok_jn ?_
  by_cases hp : 0 ≤ p ∧ p ≤ 7
  · rw [decide_eq_true hp, if_neg (by decide)]
    refine ok_calE isWithin_eq ?_
    by_cases hz : 0 ≤ z ∧ z ≤ 9
    · rw [decide_eq_true hz, if_neg (by decide), if_pos ⟨hp, hz⟩]
      obtain ⟨p', rfl⟩ : ∃ p' : Nat, p = (p' : Int) := ⟨p.toNat, by omega⟩
      obtain ⟨z', rfl⟩ : ∃ z' : Nat, z = (z' : Int) := ⟨z.toNat, by omega⟩
      refine ok_cal (heapOf_ok2 (by omega) (by omega) (by omega)) (fun v m1 h1 => ?_)
      obtain ⟨R, f1, n1⟩ := h1
      rw [Int.toNat_natCast]
      refine ok_cal (settle_ok (by omega) (C.fr (f1.weak (fun a h => SM_SC h))) (by omega) (can_hc z') R) (fun r m2 h2 => ok_rt h2.1.ans)
    · rw [decide_eq_false hz, if_pos rb_f, if_neg (fun q => hz q.2)]
      exact cf1 m
  · rw [decide_eq_false hp, if_pos rb_f, if_neg (fun q => hp q.1)]
    exact cf1 m
theorem ans_0 : ans 0 = 1 := by rw [ans_y fits_0, wid_0']; rfl
theorem Cplus (hn : BIG < n) (h : FC m) {p q r : Int} : Ok (f_X10_plus n p q r m) (fun v _ => v = ans3 p q r 1) := by
  have n4 := BIG_m hn
  unfold ans3
  by_cases hp : 0 ≤ p ∧ p ≤ 7
  · by_cases hq : 0 ≤ q ∧ q ≤ 7
    · by_cases hr : 0 ≤ r ∧ r ≤ 7
      · rw [if_pos ⟨hp, hq, hr⟩]
        obtain ⟨p', rfl⟩ : ∃ p' : Nat, p = (p' : Int) := ⟨p.toNat, by omega⟩
        obtain ⟨q', rfl⟩ : ∃ q' : Nat, q = (q' : Int) := ⟨q.toNat, by omega⟩
        obtain ⟨r', rfl⟩ : ∃ r' : Nat, r = (r' : Int) := ⟨r.toNat, by omega⟩
        refine ok_mono (plus_ok (by omega) h.1 (by omega) (by omega) (by omega) (by have := h.2.2; omega)) (fun v m2 hv => ?_)
        obtain ⟨⟨K, cK, e, S⟩, _⟩ := hv
        rw [gadd_0] at e
        have : K = 0 := by rw [← hc_0]; exact can_uniq cK (can_hc 0) e
        rw [this] at S
        exact S.ans.trans ans_0
      · rw [if_neg (fun z => hr z.2.2)]
        unfold f_X10_plus
        refine ok_calE cSlot_eq ?_
        refine ok_jn ?_
        rw [decide_eq_true hp, if_neg (by decide)]
        refine ok_calE cSlot_eq ?_
        rw [decide_eq_true hq, if_neg (by decide)]
        refine ok_calE cSlot_eq ?_
        rw [decide_eq_false hr, if_pos rb_f]
        exact cf1 m
    · rw [if_neg (fun z => hq z.2.1)]
      unfold f_X10_plus
      refine ok_calE cSlot_eq ?_
      refine ok_jn ?_
      rw [decide_eq_true hp, if_neg (by decide)]
      refine ok_calE cSlot_eq ?_
      rw [decide_eq_false hq, if_pos rb_f]
      exact cf1 m
  · rw [if_neg (fun z => hp z.1)]
    unfold f_X10_plus
    refine ok_calE cSlot_eq ?_
    refine ok_jn ?_
    rw [decide_eq_false hp, if_pos rb_f]
    exact cf1 m
theorem Cminus (hn : BIG < n) (h : FC m) {p q : Int} : Ok (f_X10_minus n p q m) (fun v _ => v = ans2 p q 1) := by
  have n4 := BIG_m hn
  unfold ans2
  by_cases hp : 0 ≤ p ∧ p ≤ 7
  · by_cases hq : 0 ≤ q ∧ q ≤ 7
    · rw [if_pos ⟨hp.1, hp.2, hq.1, hq.2⟩]
      obtain ⟨p', rfl⟩ : ∃ p' : Nat, p = (p' : Int) := ⟨p.toNat, by omega⟩
      obtain ⟨q', rfl⟩ : ∃ q' : Nat, q = (q' : Int) := ⟨q.toNat, by omega⟩
      refine ok_mono (minus_ok (by omega) h.1 (by omega) (by omega) (by have := h.2.2; omega)) (fun v m2 hv => ?_)
      have S := hv.1
      rw [gneg_0] at S
      exact S.ans.trans ans_0
    · rw [if_neg (fun z => hq ⟨z.2.2.1, z.2.2.2⟩)]
      unfold f_X10_minus
      refine ok_calE cSlot_eq ?_
      refine ok_jn ?_
      rw [decide_eq_true hp, if_neg (by decide)]
      refine ok_calE cSlot_eq ?_
      rw [decide_eq_false hq, if_pos rb_f]
      exact cf1 m
  · rw [if_neg (fun z => hp ⟨z.1, z.2.1⟩)]
    unfold f_X10_minus
    refine ok_calE cSlot_eq ?_
    refine ok_jn ?_
    rw [decide_eq_false hp, if_pos rb_f]
    exact cf1 m
theorem vd_0 : vd 0 = 0 := by
  unfold vd
  have : gleB 0 0 = true := (gleB_iff _ _).mpr (gle_rfl 0)
  rw [this]
  rfl
theorem Corder (hn : BIG < n) (h : FC m) {p q : Int} : Ok (f_X10_order n p q m) (fun v _ => v = ans2 p q 0) := by
  have n4 := BIG_m hn
  unfold ans2
  by_cases hp : 0 ≤ p ∧ p ≤ 7
  · by_cases hq : 0 ≤ q ∧ q ≤ 7
    · rw [if_pos ⟨hp.1, hp.2, hq.1, hq.2⟩]
      obtain ⟨p', rfl⟩ : ∃ p' : Nat, p = (p' : Int) := ⟨p.toNat, by omega⟩
      obtain ⟨q', rfl⟩ : ∃ q' : Nat, q = (q' : Int) := ⟨q.toNat, by omega⟩
      refine ok_mono (order_ok (by omega) h.1 (by omega) (by omega)) (fun v m2 hv => ?_)
      have e := hv.1
      rw [gneg_0, gadd_0, vd_0] at e
      exact e
    · rw [if_neg (fun z => hq ⟨z.2.2.1, z.2.2.2⟩)]
      unfold f_X10_order
      refine ok_calE cSlot_eq ?_
      refine ok_jn ?_
      rw [decide_eq_true hp, if_neg (by decide)]
      refine ok_calE cSlot_eq ?_
      rw [decide_eq_false hq, if_pos rb_f]
      exact cf1 m
  · rw [if_neg (fun z => hp ⟨z.1, z.2.1⟩)]
    unfold f_X10_order
    refine ok_calE cSlot_eq ?_
    refine ok_jn ?_
    rw [decide_eq_false hp, if_pos rb_f]
    exact cf1 m
theorem Coutcome (hn : BIG < n) (h : FC m) {p q : Int} : Ok (f_X10_outcome n p q m) (fun v _ => v = ans2 p q 0) := by
  have n4 := BIG_m hn
  unfold ans2
  by_cases hp : 0 ≤ p ∧ p ≤ 7
  · by_cases hq : 0 ≤ q ∧ q ≤ 7
    · rw [if_pos ⟨hp.1, hp.2, hq.1, hq.2⟩]
      obtain ⟨p', rfl⟩ : ∃ p' : Nat, p = (p' : Int) := ⟨p.toNat, by omega⟩
      obtain ⟨q', rfl⟩ : ∃ q' : Nat, q = (q' : Int) := ⟨q.toNat, by omega⟩
      refine ok_mono (outcome_ok (by omega) h.1 (by omega) (by omega)) (fun v m2 hv => ?_)
      have e := hv.1
      rw [gadd_0, vd_0] at e
      exact e
    · rw [if_neg (fun z => hq ⟨z.2.2.1, z.2.2.2⟩)]
      unfold f_X10_outcome
      refine ok_calE cSlot_eq ?_
      refine ok_jn ?_
      rw [decide_eq_true hp, if_neg (by decide)]
      refine ok_calE cSlot_eq ?_
      rw [decide_eq_false hq, if_pos rb_f]
      exact cf1 m
  · rw [if_neg (fun z => hp ⟨z.1, z.2.1⟩)]
    unfold f_X10_outcome
    refine ok_calE cSlot_eq ?_
    refine ok_jn ?_
    rw [decide_eq_false hp, if_pos rb_f]
    exact cf1 m
end CF
