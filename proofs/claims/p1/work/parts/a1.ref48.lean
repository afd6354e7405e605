/-! THE CLASS: COUNTS, AN IMAGE -/
section CM
variable {n : Nat} {m : Mem}
/-- each slot holds zero -/
def Z8 (m : Mem) : Prop := ∀ i, i < 8 → ∃ o : Nat, mGet m 46 i = (o : Int) ∧ GOb m o 0
theorem FZ.z8 (h : FZ m) : Z8 m := fun i hi => (h.1.1.1 i hi).2.2
theorem Cwidths (hn : BIG < n) (h : Z8 m) : Ok (f_X6_widths n m) (fun v _ => v = 8) := by
  have n4 := BIG_m hn
  have W : wid 0 ≤ 11 := by rw [wid_0']; decide
  unfold f_X6_widths
  refine ok_up2 (i := 0) 8 (fun k a m1 => m1 = m ∧ a = (k : Int)) (fun w k a m1 hk hI hw => ?_) (fun w a m1 hI => ?_) n 0 m (Nat.zero_le _) ⟨rfl, rfl⟩ (by omega)
  · obtain ⟨rfl, rfl⟩ := hI
    obtain ⟨o, e, O⟩ := h k hk
    rw [if_pos (by omega), ldG_ok (len := 8) rfl hk, e, Int.toNat_natCast, isD_ok O.o.1, isG_ok O.o.2.2.1 O.o.1]
    refine ok_calE (width_eq O W) ?_
    refine ok_nm ?_
    rw [wid_0', show (k : Int) + ((1 : Nat) : Int) = ((k + 1 : Nat) : Int) by omega, w32_nat (by omega), w32_1 (by omega)]
    exact hw _ m1 ⟨rfl, rfl⟩
  · obtain ⟨rfl, rfl⟩ := hI
    rw [if_neg (by decide)]
    exact ok_rt rfl
theorem Csmalls (hn : BIG < n) (h : Z8 m) : Ok (f_X6_smallOnes n m) (fun v _ => v = 8) := by
  have n4 := BIG_m hn
  unfold f_X6_smallOnes
  refine ok_up2 (i := 0) 8 (fun k a m1 => m1 = m ∧ a = (k : Int)) (fun w k a m1 hk hI hw => ?_) (fun w a m1 hI => ?_) n 0 m (Nat.zero_le _) ⟨rfl, rfl⟩ (by omega)
  · obtain ⟨rfl, rfl⟩ := hI
    obtain ⟨o, e, O⟩ := h k hk
    obtain ⟨b, h1, h2⟩ := isSmall_eq (n := n) (by omega) O can_0 (by rw [wid_0']; decide)
    rw [if_pos (by omega), ldG_ok (len := 8) rfl hk, e, Int.toNat_natCast, isD_ok O.o.1, isG_ok O.o.2.2.1 O.o.1]
    refine ok_calE h1 ?_
    refine ok_jn ?_
    rw [h2.mpr sm_0, if_neg (by decide)]
    show Ok (w (w32 ((k : Int) + 1)) (w32 ((k : Int) + 1)) m1) _
    rw [w32_1 (by omega)]
    exact hw _ m1 ⟨rfl, rfl⟩
  · obtain ⟨rfl, rfl⟩ := hI
    rw [if_neg (by decide)]
    exact ok_rt rfl
theorem Claid (hn : BIG < n) (h : FZ m) : Ok (f_X5_laidOnes n m) (fun v _ => v = 0) := by
  have n4 := BIG_m hn
  unfold f_X5_laidOnes
  refine ok_up2 (i := 0) 4 (fun k a m1 => m1 = m ∧ a = 0) (fun w k a m1 hk hI hw => ?_) (fun w a m1 hI => ?_) n 0 m (Nat.zero_le _) ⟨rfl, rfl⟩ (by omega)
  · obtain ⟨rfl, rfl⟩ := hI
    rw [if_pos (by omega)]
    refine ok_calE (cMissing_eq h (p := (k : Int)) ⟨by omega, by omega⟩) ?_
    refine ok_jn ?_
    rw [if_neg (by decide)]
    show Ok (w 0 (w32 ((k : Int) + 1)) m1) _
    rw [w32_1 (by omega)]
    exact hw _ m1 ⟨rfl, rfl⟩
  · obtain ⟨rfl, rfl⟩ := hI
    rw [if_neg (by decide)]
    exact ok_rt rfl
theorem Cimage (hn : BIG < n) (h : FZ m) : Ok (f_X10_image n m) (fun v _ => v = 8) := by
  have n4 := BIG_m hn
  unfold f_X10_image
  refine ok_cal (P := fun _ m2 => Z8 m2) ?_ (fun _ m2 hz => ?_)
  · unfold f_X6_keepImage
    refine ok_up1 (i := 0) 8 (fun k m1 => m1.2 = m.2 ∧ ∀ a i, a ≠ 49 → mGet m1 a i = mGet m a i) (fun w k m1 hk hI hw => ?_) (fun w m1 hI => ?_) n m (Nat.zero_le _) ⟨rfl, fun _ _ _ => rfl⟩ (by omega)
    · obtain ⟨z1, f1⟩ := hI
      obtain ⟨o, e, O⟩ := h.z8 k hk
      have g1 : Grow m m1 := hold_fr (S := fun a => a = 49) z1 (fun a i ha => f1 a i ha) (fun a ha => by omega)
      have O1 := O.mono g1
      rw [if_pos (by omega), ldG_ok (len := 8) rfl hk, f1 _ _ (by decide), e, Int.toNat_natCast, stG_ok (kG49 _) hk (Or.inr ⟨O1.o.1, O1.o.2.1, by rw [O1.o.2.2.1]⟩), w32_1 (by omega)]
      refine hw _ ⟨z1, fun a i ha => ?_⟩
      rw [mGet_mSet, if_neg (by omega)]
      exact f1 a i ha
    · obtain ⟨z1, f1⟩ := hI
      rw [if_neg (by decide)]
      have pz : ∀ K : Mem → Option Rz, ptZ m1 45 6 1 K = K (mSet m1 45 6 1) := fun K => rfl
      rw [pz]
      refine ok_rt (fun i hi => ?_)
      obtain ⟨o, e, O⟩ := h.z8 i hi
      have g2 : ∀ a i, mGet (mSet m1 45 6 1) a i = if a = 45 ∧ i = 6 then w32 1 else mGet m1 a i := fun a i => mGet_mSet _ _ _ _ _ _
      have gr : Grow m (mSet m1 45 6 1) := hold_fr (S := fun a => a = 49 ∨ a = 45) z1 (fun a i ha => by
        rw [g2, if_neg (fun z => ha (Or.inr z.1))]
        exact f1 a i (fun z => ha (Or.inl z))) (fun a ha => by omega)
      exact ⟨o, by rw [g2, if_neg (by omega), f1 _ _ (by decide)]; exact e, O.mono gr⟩
  · exact ok_cal (Cwidths hn hz) (fun v m3 hv => ok_rt hv)
end CM
