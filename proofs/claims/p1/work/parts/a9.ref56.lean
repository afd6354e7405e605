/-! THE CLASS: MADE OF ZEROS -/
section CU
variable {n : Nat} {m : Mem}
theorem bits8 {p : Nat} (hp : p < 256) : p ≠ 0 ↔ ∃ i, i < 8 ∧ p.testBit i = true := by
  constructor
  · intro h
    exact bit_ex (by omega) (show p < 2 ^ 8 from hp)
  · rintro ⟨i, _, h⟩
    have := bit_pos h
    omega
theorem cSet_eq {a : Int} : f_X10_isSet n a m = some (b2i (decide (0 ≤ a ∧ a ≤ 255)), m) := by
  apply rk_eq
  unfold f_X10_isSet
  refine ok_calE isWithin_eq ?_
  exact ok_rtZ (rb_01 _) ⟨rfl, rfl⟩
theorem pick2_ok {p c : Nat} {κ : Nat → Nat} {γ : Nat → Nat} (hn : 300 < n) (C : CI γ m) (hp : p < 256) (hc : c ≤ 8) (H : Pk m c κ) : Ok (f_X10_pick n (p : Int) (c : Int) m) (fun v m' => ∃ (c' : Nat) (κ' : Nat → Nat), v = (c' : Int) ∧ c ≤ c' ∧ c' ≤ c + 8 ∧ Pk m' c' κ' ∧ (c < c' ↔ p ≠ 0) ∧ m'.2 = m.2 ∧ ∀ a i, a ≠ 2 → mGet m' a i = mGet m a i) := by
  unfold f_X10_pick
  refine ok_up2 8 (fun j a m1 => ∃ (c' : Nat) (κ' : Nat → Nat), a = (c' : Int) ∧ c ≤ c' ∧ c' ≤ c + j ∧ Pk m1 c' κ' ∧ (c < c' ↔ ∃ i, i < j ∧ p.testBit i = true) ∧ m1.2 = m.2 ∧ ∀ a i, a ≠ 2 → mGet m1 a i = mGet m a i) (fun w j a m1 hj hI hw => ?_) (fun w a m1 hI => ?_) n 0 (c : Int) m (Nat.zero_le _) ⟨c, κ, rfl, Nat.le_refl _, by omega, H, ⟨fun h => by omega, fun ⟨i, h, _⟩ => by omega⟩, rfl, fun _ _ _ => rfl⟩ (by omega)
  · obtain ⟨c1, κ1, rfl, l1, l2, H1, k1, z1, f1⟩ := hI
    rw [if_pos (by omega)]
    refine ok_calE (isIn_eq hp hj) ?_
    dsimp only [jn]
    cases e : p.testBit j
    · rw [if_pos (show b2i false = 0 from rfl), k_1 (by omega)]
      refine hw _ _ ⟨c1, κ1, rfl, l1, by omega, H1, k1.trans ⟨fun ⟨i, h1, h2⟩ => ⟨i, by omega, h2⟩, fun ⟨i, h1, h2⟩ => ⟨i, ?_, h2⟩⟩, z1, f1⟩
      rcases (by omega : i < j ∨ i = j) with q | rfl
      · exact q
      · rw [e] at h2; cases h2
    · rw [if_neg (show ¬ b2i true = 0 by decide), if_neg (by omega), if_pos (by omega)]
      have C1 : CI γ m1 := C.fr (f2_fr z1 (S := SC) (fun a i ha => f1 a i (by omega)) (fun a ha => by omega))
      obtain ⟨cK, fK, o, o1, O⟩ := C1.1 j hj
      have hh : f_X6_held n (j : Int) m1 = some ((o : Int), m1) := by
        unfold f_X6_held
        dsimp only [jn]
        rw [if_neg (by omega), if_pos (by omega), ldG_ok (kG46 _) hj, o1, Int.toNat_natCast]
        rfl
      refine ok_calE hh ?_
      obtain ⟨q1, q2, q3, q4⟩ := O.o
      rw [Int.toNat_natCast, stG_ok (kG2 _) (by omega) (Or.inr ⟨q1, q2, by rw [q3]⟩), k_1 (by omega), k_1 (by omega)]
      have G8 : ∀ a i, mGet (mSet m1 2 c1 (o : Int)) a i = if a = 2 ∧ i = c1 then (o : Int) else mGet m1 a i := fun a i => by rw [mGet_mSet, w32_nat (by omega)]
      refine hw _ _ ⟨c1 + 1, fun i => if i = c1 then j else κ1 i, rfl, by omega, by omega, fun i hi => ?_, ⟨fun _ => ⟨j, by omega, e⟩, fun _ => by omega⟩, z1, fun a i h => by rw [G8, if_neg (fun e => h e.1)]; exact f1 a i h⟩
      by_cases q : i = c1
      · refine ⟨by show (if i = c1 then j else κ1 i) < 8; rw [if_pos q]; exact hj, ?_⟩
        show _ = mGet _ 46 (if i = c1 then j else κ1 i)
        rw [if_pos q, G8, if_pos ⟨rfl, q⟩, G8, if_neg (by omega), o1]
      · obtain ⟨h1, h2⟩ := H1 i (by omega)
        refine ⟨by show (if i = c1 then j else κ1 i) < 8; rw [if_neg q]; exact h1, ?_⟩
        show _ = mGet _ 46 (if i = c1 then j else κ1 i)
        rw [if_neg q, G8, if_neg (fun e => q e.2), G8, if_neg (by omega), h2]
  · obtain ⟨c1, κ1, rfl, l1, l2, H1, k1, z1, f1⟩ := hI
    rw [if_neg (by omega)]
    exact ok_rt ⟨c1, κ1, rfl, l1, l2, H1, k1.trans (bits8 hp).symm, z1, f1⟩
theorem Cmade (hn : BIG < n) (h : FZ m) {s a b : Int} : Ok (f_X10_made n s a b m) (fun v _ => v = ansMd s a b) := by
  have n4 := BIG_m hn
  have C := h.1.1
  have nx := h.1.2.2
  unfold f_X10_made ansMd
  refine ok_calE cSlot_eq ?_
  refine ok_jn ?_
  by_cases hs : 0 ≤ s ∧ s ≤ 7
  · rw [decide_eq_true hs, if_neg (by decide)]
    refine ok_calE cSet_eq ?_
    by_cases ha : 0 ≤ a ∧ a ≤ 255
    · rw [decide_eq_true ha, if_neg (by decide)]
      refine ok_calE cSet_eq ?_
      by_cases hb : 0 ≤ b ∧ b ≤ 255
      · rw [decide_eq_true hb, if_neg (by decide), if_pos (show (0 ≤ s ∧ s ≤ 7) ∧ (0 ≤ a ∧ a ≤ 255) ∧ (0 ≤ b ∧ b ≤ 255) from ⟨hs, ha, hb⟩)]
        obtain ⟨s', rfl⟩ : ∃ s' : Nat, s = (s' : Int) := ⟨s.toNat, by omega⟩
        obtain ⟨p, rfl⟩ : ∃ p : Nat, a = (p : Int) := ⟨a.toNat, by omega⟩
        obtain ⟨q, rfl⟩ : ∃ q : Nat, b = (q : Int) := ⟨b.toNat, by omega⟩
        rw [Int.toNat_natCast, Int.toNat_natCast]
        refine ok_cal (pick2_ok (c := 0) (κ := fun _ => 0) (by omega) C (by omega) (by decide) (fun i hi => absurd hi (Nat.not_lt_zero _))) (fun v m1 h1 => ?_)
        obtain ⟨md, κ1, rfl, _, l1, H1, b1, z1, f1⟩ := h1
        have C1 : CI (fun _ => 0) m1 := C.fr (f2_fr z1 (S := SC) (fun a i ha => f1 a i (by omega)) (fun a ha => by omega))
        refine ok_cal (pick2_ok (by omega) C1 (by omega) (by omega) H1) (fun v m2 h2 => ?_)
        obtain ⟨to, κ2, rfl, l2, l3, H2, b2, z2, f2⟩ := h2
        have C2 : CI (fun _ => 0) m2 := C1.fr (f2_fr z2 (S := SC) (fun a i ha => f2 a i (by omega)) (fun a ha => by omega))
        have n2 : mNext m2 = mNext m := mNext_eq (by rw [z2, z1])
        have row : GRow m2 2 0 to (fun _ => 0) := fun i _ hi => by
          obtain ⟨h3, h4⟩ := H2 i hi
          obtain ⟨cK, fK, o, o1, O⟩ := C2.1 (κ2 i) h3
          exact ⟨o, h4.trans o1, O, cK, fK⟩
        have fit : Fits (RG (fun _ => 0) 0 md) (RG (fun _ => 0) md to) (Mz p q) := by
          refine ⟨fun x hx => ?_, fun y hy => ?_, fun x hx => ?_, fun y hy => ?_⟩
          · obtain ⟨h3, h4⟩ := Mz_L.mp hx
            exact ⟨x, ⟨0, Nat.le_refl _, b1.mpr h3, h4⟩, geq_rfl _⟩
          · obtain ⟨i, _, h3, h4⟩ := hy
            exact ⟨y, Mz_L.mpr ⟨b1.mp (by omega), h4⟩, geq_rfl _⟩
          · obtain ⟨h3, h4⟩ := Mz_R.mp hx
            exact ⟨x, ⟨md, Nat.le_refl _, b2.mpr h3, h4⟩, geq_rfl _⟩
          · obtain ⟨i, h3, h4, h5⟩ := hy
            exact ⟨y, Mz_R.mpr ⟨b2.mp (by omega), h5⟩, geq_rfl _⟩
        refine ok_cal (gameOf_ok (a := 2) (len := 16) (fr := 0) (F := [0]) (by omega) (kG2 _) (by decide) (by decide) (by decide) (Nat.zero_le _) l2 (by omega) (by omega) row (List.mem_singleton.mpr rfl) (fun i _ hi x hx => by
          have := fol_le hx
          exact List.mem_singleton.mpr (by omega)) (by decide) fit (by omega)) (fun v m3 h3 => ?_)
        obtain ⟨⟨K, cK, eK, R⟩, f3, n3⟩ := h3
        have : K = Mz p q := can_uniq cK (can_Mz p q) eK
        subst this
        exact ok_cal (settle_ok (by omega) (C2.fr (f3.weak (fun a h => SM_SC h))) (by omega) cK R) (fun r m4 h4 => ok_rt h4.1.ans)
      · rw [decide_eq_false hb, if_pos rb_f, if_neg (fun z => hb z.2.2)]
        exact cf1 m
    · rw [decide_eq_false ha, if_pos rb_f, if_neg (fun z => ha z.2.1)]
      exact cf1 m
  · rw [decide_eq_false hs, if_pos rb_f, if_neg (fun z => hs z.1)]
    exact cf1 m
end CU
