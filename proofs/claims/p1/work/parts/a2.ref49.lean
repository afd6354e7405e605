/-! THE CLASS: A SHEET IS LAID -/
section CN
variable {n : Nat} {m : Mem}
theorem cKind_eq {w : Int} (m2 : Mem) : f_X5_isKind n w m2 = some (b2i (decide (w = 0 ∨ w = 8 ∨ w = 16 ∨ w = 32)), m2) := by
  apply rk_eq
  unfold f_X5_isKind
  refine ok_jn ?_
  refine ok_jn ?_
  by_cases h1 : w = 0
  · rw [if_pos h1, decide_eq_true (Or.inl h1)]
    exact ok_rtZ (Or.inr rfl) ⟨rfl, rfl⟩
  rw [if_neg h1]
  by_cases h2 : w = 8
  · rw [if_pos h2, decide_eq_true (Or.inr (Or.inl h2))]
    exact ok_rtZ (Or.inr rfl) ⟨rfl, rfl⟩
  rw [if_neg h2]
  by_cases h3 : w = 16
  · rw [if_pos h3, decide_eq_true (Or.inr (Or.inr (Or.inl h3)))]
    exact ok_rtZ (Or.inr rfl) ⟨rfl, rfl⟩
  rw [if_neg h3]
  by_cases h4 : w = 32
  · rw [if_pos h4, decide_eq_true (Or.inr (Or.inr (Or.inr h4)))]
    exact ok_rtZ (Or.inr rfl) ⟨rfl, rfl⟩
  rw [if_neg h4, decide_eq_false (by omega)]
  exact ok_rtZ (Or.inl rfl) ⟨rfl, rfl⟩
theorem fill_any (hn : BIG < n) {a : Nat} (ha : a = 52 ∨ a = 53 ∨ a = 54 ∨ a = 55) (m2 : Mem) : Ok (f_J7_fill_53178 n a 0 m2) (fun _ _ => True) := by
  have n4 := BIG_m hn
  have k : ∀ m3 : Mem, sKind m3 a = (1, 24) := fun m3 => by rcases ha with rfl | rfl | rfl | rfl <;> rfl
  unfold f_J7_fill_53178
  rw [lenA_ok (k m2) (by decide) (by decide) (by decide)]
  refine ok_up1 (i := 0) 24 (fun _ _ => True) (fun w k2 m1 hk hI hw => ?_) (fun w m1 hI => ?_) n m2 (Nat.zero_le _) trivial (by omega)
  · rw [if_pos (by omega), stI_ok (k m1) hk, w32_1 (by omega)]
    exact hw _ trivial
  · rw [if_neg (by decide)]
    exact ok_rt trivial
theorem ldR51 {p : Nat} {m2 : Mem} {K : Nat → Option Rz} (hp : p < 4) : ldR m2 51 (p : Int) K = K (52 + p) := by
  unfold ldR
  rw [if_pos ⟨rfl, by omega, by show (p : Int) < ((4 : Nat) : Int); omega⟩, Int.toNat_natCast]
theorem lay_ok (hn : BIG < n) {p w l : Int} (hp : 0 ≤ p ∧ p ≤ 3) (m2 : Mem) : Ok (f_X5_lay n p w l m2) (fun v _ => v = 1) := by
  unfold f_X5_lay
  refine ok_calE (cSheet_eq m2) ?_
  refine ok_jn ?_
  rw [decide_eq_true hp, if_neg (by decide)]
  by_cases h1 : l < 0
  · rw [if_pos h1]
    exact ok_rt rfl
  rw [if_neg h1]
  by_cases h2 : 24 < l
  · rw [if_pos h2]
    exact ok_rt rfl
  rw [if_neg h2]
  obtain ⟨p', rfl⟩ : ∃ p' : Nat, p = (p' : Int) := ⟨p.toNat, by omega⟩
  rw [stI_ok (len := 4) rfl (by omega), stI_ok (len := 4) rfl (by omega)]
  rw [ldR51 (by omega)]
  exact ok_cal (fill_any (a := 52 + p') hn (by omega) _) (fun _ m3 _ => ok_rt rfl)
theorem cf3 (m2 : Mem) : Ok (cal (f_X10_fail n (-1100000003) m2) fun x27 m27 => rt x27 m27) (fun v _ => v = -1100000003) := ok_cal (fail_ok (z := 3) (by decide)) (fun v m3 h => ok_rt h.1)
theorem Csheet (hn : BIG < n) {p w l : Int} : Ok (f_X10_sheet n p w l m) (fun v _ => v = ansSh p w l) := by
  unfold f_X10_sheet ansSh
  refine ok_calE (cSheet_eq m) ?_
  refine ok_jn ?_
  by_cases hp : 0 ≤ p ∧ p ≤ 3
  · rw [decide_eq_true hp, if_neg (by decide)]
    refine ok_calE (cKind_eq m) ?_
    by_cases hw : w = 0 ∨ w = 8 ∨ w = 16 ∨ w = 32
    · rw [decide_eq_true hw, if_neg (by decide), if_pos (show (0 ≤ p ∧ p ≤ 3) ∧ (w = 0 ∨ w = 8 ∨ w = 16 ∨ w = 32) from ⟨hp, hw⟩)]
      by_cases q : w = 0
      · rw [if_pos q, if_pos q]
        exact ok_cal (lay_ok hn hp m) (fun v m3 hv => ok_rt hv)
      · rw [if_neg q, if_neg q]
        by_cases q2 : l < 0
        · rw [if_pos q2, if_pos q2]
          exact cf3 m
        · rw [if_neg q2, if_neg q2]
          refine ok_jn ?_
          by_cases q3 : 24 < l
          · rw [if_pos q3, if_pos q3]
            exact cf1 m
          · rw [if_neg q3, if_neg q3]
            exact ok_cal (lay_ok hn hp m) (fun v m3 hv => ok_rt hv)
    · rw [decide_eq_false hw, if_pos rb_f, if_neg (fun z => hw z.2)]
      exact cf1 m
  · rw [decide_eq_false hp, if_pos rb_f, if_neg (fun z => hp z.1)]
    exact cf1 m
end CN
