/-! THE CLASS: WHAT IS FED -/
section CL
variable {n : Nat} {m : Mem}
theorem Cfeed (hn : BIG < n) (h : FZ m) {x : Nat} {c : Int} : Ok (f_X10_feed n x c m) (fun v _ => v = ansF c) := by
  have n4 := BIG_m hn
  have z41 : mGet m 41 4 = 0 := h.2 _ _ (by unfold ZC; omega)
  unfold f_X10_feed ansF
  refine ok_calE isWithin_eq ?_
  by_cases hp : 1 ≤ c ∧ c ≤ 8
  · rw [decide_eq_true hp, if_neg (by decide), if_pos hp]
    obtain ⟨c', rfl⟩ : ∃ c' : Nat, c = (c' : Int) := ⟨c.toNat, by omega⟩
    refine ok_cal (P := fun v m2 => v = 1 ∧ m2 = m) ?_ (fun v m2 hv => ?_)
    · unfold f_X7_hasRoom
      rw [gtF_eq, z41, Int.zero_add, w32_nat (by omega)]
      refine ok_jn ?_
      rw [if_neg (by omega)]
      exact ok_rtZ (Or.inr rfl) ⟨rfl, rfl⟩
    · obtain ⟨rfl, rfl⟩ := hv
      refine ok_jn ?_
      rw [if_neg (by decide)]
      refine ok_cal (P := fun v _ => v = (c' : Int)) ?_ (fun v m3 hv => ok_rt hv)
      unfold f_X7_take
      refine ok_up1 (i := 0) c' (fun k m1 => mGet m1 41 4 = (k : Int)) (fun w k m1 hk hI hw => ?_) (fun w m1 hI => ?_) n m2 (Nat.zero_le _) z41 (by omega)
      · refine ok_jn ?_
        rw [if_pos (by omega), gtF_eq, hI, if_neg (by omega), gtF_eq, hI, if_pos (by omega), gtF_eq, hI, stB_ok (len := 120) rfl (by omega), gtF_eq, mGet_mSet, if_neg (by omega), hI, ptF_eq, w32_1 (by omega)]
        refine hw _ ?_
        rw [mGet_mSet, if_pos ⟨rfl, rfl⟩, w32_nat (by omega)]
      · refine ok_jn ?_
        rw [if_neg (by omega)]
        show Ok (gtF m1 41 4 _) _
        rw [gtF_eq, hI]
        exact ok_rt rfl
  · rw [decide_eq_false hp, if_pos rb_f, if_neg hp]
    exact cf1 m
end CL
