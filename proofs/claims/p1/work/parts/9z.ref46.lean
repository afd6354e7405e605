/-! THE CLASS: ATOMIC WEIGHTS OF ZERO -/
section CK
variable {n : Nat} {m : Mem}
theorem WV_0 : WV 0 (some 0) := ⟨by rw [iz_0]; exact Wt_0, by decide⟩
theorem Catomic (hn : BIG < n) (h : FZ m) {p : Int} : Ok (f_X10_atomic n p m) (fun v _ => v = ans1 p 0) := by
  have n4 := BIG_m hn
  unfold ans1
  by_cases hp : 0 ≤ p ∧ p ≤ 7
  · rw [if_pos hp]
    obtain ⟨p', rfl⟩ : ∃ p' : Nat, p = (p' : Int) := ⟨p.toNat, by omega⟩
    refine ok_mono (atomic_ok (by omega) h.1.1 (by omega)) (fun v m2 hv => ?_)
    rcases hv.1 with ⟨_, z, hz, e⟩ | ⟨no, _⟩
    · rw [e, WV_uniq hz WV_0]
      rfl
    · exact absurd sm_0 no
  · rw [if_neg hp]
    unfold f_X10_atomic
    refine ok_calE cSlot_eq ?_
    rw [decide_eq_false hp, if_pos rb_f]
    exact cf1 m
theorem Cahead (hn : BIG < n) (h : FZ m) {p : Int} : Ok (f_X10_ahead n p m) (fun v _ => v = ans1 p 0) := by
  have n4 := BIG_m hn
  unfold ans1
  by_cases hp : 0 ≤ p ∧ p ≤ 7
  · rw [if_pos hp]
    obtain ⟨p', rfl⟩ : ∃ p' : Nat, p = (p' : Int) := ⟨p.toNat, by omega⟩
    refine ok_mono (ahead_ok (by omega) h.1.1 (by omega)) (fun v m2 hv => ?_)
    rcases hv.1 with ⟨_, z, hz, e⟩ | ⟨no, _⟩
    · rw [e, WV_uniq hz WV_0]
      rfl
    · exact absurd sm_0 no
  · rw [if_neg hp]
    unfold f_X10_ahead
    refine ok_calE cSlot_eq ?_
    rw [decide_eq_false hp, if_pos rb_f]
    exact cf1 m
theorem gsum_0 (p : Nat) : ∀ i, gsum p (fun _ => 0) i = 0
  | 0 => rfl
  | i + 1 => by
    show gsum p (fun _ => 0) i + (if p.testBit i = true then 0 else 0) = 0
    rw [gsum_0 p i]
    split <;> rfl
theorem Cgarden (hn : BIG < n) (h : FZ m) {p : Int} : Ok (f_X10_garden n p m) (fun v _ => v = ansG p) := by
  have n4 := BIG_m hn
  unfold ansG
  by_cases hp : 0 ≤ p ∧ p ≤ 255
  · rw [if_pos hp]
    obtain ⟨p', rfl⟩ : ∃ p' : Nat, p = (p' : Int) := ⟨p.toNat, by omega⟩
    refine ok_mono (garden_ok (ζ := fun _ => 0) (by omega) h.1.1 (by omega) (fun i => by decide) (fun i hi _ => ⟨sm_0, by rw [iz_0]; exact Wt_0⟩)) (fun v m2 hv => ?_)
    rw [hv.1, gsum_0]
  · rw [if_neg hp]
    unfold f_X10_garden
    refine ok_cal (P := fun v m2 => v = 0 ∧ m2 = m) ?_ (fun v m2 hv => ?_)
    · unfold f_X10_isSet
      refine ok_calE isWithin_eq ?_
      rw [decide_eq_false hp]
      exact ok_rtZ (Or.inl rfl) ⟨rfl, rfl⟩
    · rw [hv.1, if_pos rfl]
      exact cf1 m2
end CK
