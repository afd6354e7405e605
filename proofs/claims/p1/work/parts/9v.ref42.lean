/-! THE CLASS'S START, AND WHAT IS ZERO IN IT -/
/-- the class's cells that are zero at the start -/
def ZC (a i : Nat) : Prop := a = 2 ∨ a = 3 ∨ (39 ≤ a ∧ a ≤ 44) ∨ (a = 45 ∧ i ≠ 0) ∨ a = 47 ∨ a = 48 ∨ (50 ≤ a ∧ a ≤ 57)
/-- UP is made: which game it is -/
theorem up_ok2 {n : Nat} {m : Mem} (hn : 300 < n) (hb : mNext m + 10 < 2147483648) : Ok (f_X2_tail n m) (fun _ m' => VG m' (mGet m' 28 6).toNat ∧ (∃ o : Nat, mGet m' 28 6 = (o : Int) ∧ GOb m' o upg) ∧ Grow m m' ∧ mNext m' ≤ mNext m + 4) := by
  unfold f_X2_tail
  refine ok_cal (clear_ok hn) (fun _ m1 h1 => ?_)
  obtain ⟨Y1, s1, d1, g1, z1⟩ := h1
  have G1 : Grow m m1 := (Fr.of (S := SY) z1 (fun a i q => g1 a i (fun e => q (by omega)) (fun e => q (by omega)) (fun e => q (by omega)))).1
  refine ok_cal (pair_ok (a := 0) (b := 0) hn Y1 (by decide) (by decide) (by decide)) (fun v m2 h2 => ?_)
  obtain ⟨u, N2, rfl, hu, l2, Y2, s2, F2, g2⟩ := h2
  rw [d1] at g2
  have e2 : yden m2 u = ne 1 := can_uniq (Y2.1.2.2.2.2.2.1 u hu) (can_ne 7 1 (by decide) (by decide)) g2
  have z2 : yden m2 0 = 0 := by rw [F2.old (show 0 < 1 by decide)]; exact d1
  refine ok_cal (pair_ok (a := 0) (b := u) hn Y2 (by omega) (by omega) hu) (fun v m3 h3 => ?_)
  obtain ⟨w, N3, rfl, hw, l3, Y3, s3, F3, g3⟩ := h3
  rw [z2, e2] at g3
  have e3 : yden m3 w = ne 2 := can_uniq (Y3.1.2.2.2.2.2.1 w hw) (can_ne 7 2 (by decide) (by decide)) g3
  have n3 : mNext m3 = mNext m := by rw [YB.next F3, YB.next F2, mNext_eq z1]
  have G3 : Grow m m3 := (G1.tr (F2.toFr (by omega)).1).tr (F3.toFr F3.2.2.2.2).1
  have e4 : ne 2 = upg := by
    show mkg [0] [ne1] = upg
    unfold upg
    rw [hc1_ne]
  refine ok_cal (written_ok hn Y3 hw s3 (by omega)) (fun v m4 h4 => ?_)
  obtain ⟨f4, n4, _, _, _, r4⟩ := h4
  have ft : wid (yden m3 w) ≤ 10 ∧ (wd (yden m3 w)).length ≤ 100 := by rw [e3, ne_G 2 (by decide)]; exact fits_nG _ _
  rcases r4 with ⟨_, o, rfl, O⟩ | ⟨no, _⟩
  · obtain ⟨o1, o2, o3, o4⟩ := O.o
    rw [Int.toNat_natCast, ptG_ok o2]
    have G8 : ∀ a i, mGet (mSet m4 28 6 (o : Int)) a i = if a = 28 ∧ i = 6 then (o : Int) else mGet m4 a i := fun a i => by rw [mGet_mSet, w32_nat (by omega)]
    have G5 : Grow m4 (mSet m4 28 6 (o : Int)) := m2_grow rfl (fun a i ha => by rw [G8, if_neg (by omega)])
    have O5 := O.mono G5
    refine ok_rt ⟨?_, ⟨o, by rw [G8, if_pos ⟨rfl, rfl⟩], by rw [e3, e4] at O5; exact O5⟩, (G3.tr f4.1).tr G5, by show mNext m4 ≤ _; omega⟩
    rw [G8, if_pos ⟨rfl, rfl⟩, Int.toNat_natCast]
    exact ⟨_, Y3.1.2.2.2.2.2.1 w hw, ft, O5⟩
  · exact absurd ft no
theorem init2_ok {n : Nat} {m0 : Mem} (hn : 300 < n) (hm0 : mNext m0 + 100 < 2147483648) : Ok (f_init n m0) (fun _ m => CI (fun _ => 0) m ∧ (∀ t, TX m 0 t) ∧ mNext m ≤ mNext m0 + 50 ∧ Grow m0 m ∧ (∀ a i, ZC a i → mGet m a i = 0) ∧ mGet m 1 9 = mGet m 36 2 ∧ ∃ o : Nat, mGet m 28 6 = (o : Int) ∧ GOb m o upg) := by
  unfold f_init
  refine ok_cal (up_ok2 hn (by rw [mg_next, mg_next, mg_next]; omega)) (fun _ m2 h2 => ?_)
  obtain ⟨U2, U2', G2, n2⟩ := h2
  have g02 : Grow m0 m2 := (((mg_grow (by decide)).tr (mg_grow (by decide))).tr (mg_grow (by decide))).tr G2
  rw [mg_next, mg_next, mg_next] at n2
  refine ok_cal (farG_ok hn (by omega)) (fun v m3 h3 => ?_)
  obtain ⟨⟨fo, rfl, FO⟩, f3, n3⟩ := h3
  have U3 := U2.mono f3.1
  have e28 : mGet m3 28 6 = mGet m2 28 6 := f3.2 28 6 (by decide) (fun h => h)
  obtain ⟨F1, F2, _, _⟩ := FO.o
  unfold ok0
  rw [Int.toNat_natCast, if_pos F2]
  obtain ⟨mA, eA⟩ : ∃ mA, mA = mg 41 45 mz (mg 39 41 mz (mg 36 39 (mSet mz 36 2 (fo : Int)) (mg 33 36 mz m3))) := ⟨_, rfl⟩
  have gA : Grow m3 mA := by rw [eA]; exact ((mg_grow (by decide)).tr (mg_grow (by decide))).tr ((mg_grow (by decide)).tr (mg_grow (by decide)))
  have nA : mNext mA = mNext m3 := by rw [eA]; rfl
  have GA : ∀ a i, mGet mA a i = if 41 ≤ a ∧ a < 45 then 0 else if 39 ≤ a ∧ a < 41 then 0 else if 36 ≤ a ∧ a < 39 then (if a = 36 ∧ i = 2 then (fo : Int) else 0) else if 33 ≤ a ∧ a < 36 then 0 else mGet m3 a i := fun a i => by
    rw [eA, mGet_mg, mGet_mg, mGet_mg, mGet_mg, mGet_mSet, mz_0, w32_nat (by omega)]
  rw [← eA]
  refine ok_cal (zeroG_ok (by omega)) (fun v m4 h4 => ?_)
  obtain ⟨⟨zo, rfl, ZO⟩, f4, n4⟩ := h4
  obtain ⟨Z1, Z2, _, _⟩ := ZO.o
  rw [Int.toNat_natCast, if_pos Z2]
  obtain ⟨mB, eB⟩ : ∃ mB, mB = mg 45 50 (mSet mz 45 0 (zo : Int)) m4 := ⟨_, rfl⟩
  have gB : Grow m4 mB := by rw [eB]; exact mg_grow (by decide)
  have GB : ∀ a i, mGet mB a i = if 45 ≤ a ∧ a < 50 then (if a = 45 ∧ i = 0 then (zo : Int) else 0) else mGet m4 a i := fun a i => by
    rw [eB, mGet_mg, mGet_mSet, mz_0, w32_nat (by omega)]
  rw [← eB]
  refine ok_cal (shelf_ok hn (ZO.mono gB)) (fun _ m5 h5 => ?_)
  obtain ⟨z5, f5, r5⟩ := h5
  have g5 : Grow mB m5 := m2_grow z5 (fun a i ha => f5 a i (by omega) (by omega))
  obtain ⟨mC, eC⟩ : ∃ mC, mC = mg 1 4 (mSet mz 1 9 (fo : Int)) (mg 50 58 mz m5) := ⟨_, rfl⟩
  have gC : Grow m5 mC := by rw [eC]; exact (mg_grow (by decide)).tr (mg_grow (by decide))
  have GC : ∀ a i, 4 ≤ a → a < 50 → mGet mC a i = mGet m5 a i := fun a i h1 h2 => by
    rw [eC, mGet_mg, if_neg (by omega), mGet_mg, if_neg (by omega)]
  rw [← eC]
  have g45 : Grow m4 mC := (gB.tr g5).tr gC
  have gAC : Grow m3 mC := (gA.tr f4.1).tr g45
  have f4' : ∀ a i, a < 1000 → mGet m4 a i = mGet mA a i := fun a i h => f4.2 a i h (fun h => h)
  refine ok_rt ⟨⟨fun i hi => ⟨can_0, fits_0, zo, ?_, ZO.mono g45⟩, ⟨0, ?_, by decide⟩, fun i hi => ⟨0, ?_, Or.inl rfl⟩, ⟨fo, ?_, FO.mono gAC⟩, ?_, ⟨zo, ?_, ZO.mono g45⟩, Or.inl ?_⟩, fun t => ⟨?_, fun i hi => absurd hi (Nat.not_lt_zero _)⟩, ?_, (g02.tr f3.1).tr gAC, fun a i hz => ?_, ?_, ?_⟩
  · rw [GC 46 i (by decide) (by decide)]; exact r5 i hi
  · rw [GC 45 5 (by decide) (by decide), f5 45 5 (by decide) (by decide), GB, if_pos (by decide), if_neg (by decide)]; rfl
  · rw [GC 48 i (by decide) (by decide), f5 48 i (by decide) (by decide), GB, if_pos (by decide), if_neg (by omega)]; rfl
  · rw [GC 36 2 (by decide) (by decide), f5 36 2 (by decide) (by decide), GB, if_neg (by decide), f4' 36 2 (by decide), GA, if_neg (by decide), if_neg (by decide), if_pos (by decide), if_pos (by decide)]
  · rw [GC 28 6 (by decide) (by decide), f5 28 6 (by decide) (by decide), GB, if_neg (by decide), f4' 28 6 (by decide), GA, if_neg (by decide), if_neg (by decide), if_neg (by decide), if_neg (by decide), e28]
    exact U3.mono gAC
  · rw [GC 45 0 (by decide) (by decide), f5 45 0 (by decide) (by decide), GB, if_pos (by decide), if_pos (by decide)]
  · rw [GC 39 3 (by decide) (by decide), f5 39 3 (by decide) (by decide), GB, if_neg (by decide), f4' 39 3 (by decide), GA, if_neg (by decide), if_pos (by decide)]
  · rw [GC 41 4 (by decide) (by decide), f5 41 4 (by decide) (by decide), GB, if_neg (by decide), f4' 41 4 (by decide), GA, if_pos (by decide)]; rfl
  · have : mNext mC = mNext m4 := by rw [show mNext mC = mNext m5 by rw [eC]; rfl, mNext_eq (show m5.2.2 = mB.2.2 by rw [z5]), eB]; rfl
    omega
  · unfold ZC at hz
    by_cases q1 : 50 ≤ a ∧ a < 58
    · rw [eC, mGet_mg, if_neg (by omega), mGet_mg, if_pos q1]; exact mz_0 _ _
    · by_cases q2 : 1 ≤ a ∧ a < 4
      · rw [eC, mGet_mg, if_pos q2, mGet_mSet, if_neg (by omega)]; exact mz_0 _ _
      · rw [GC a i (by omega) (by omega), f5 a i (by omega) (by omega), GB]
        by_cases q3 : 45 ≤ a ∧ a < 50
        · rw [if_pos q3, if_neg (by omega)]
        · rw [if_neg q3, f4' a i (by omega), GA]
          by_cases q4 : 41 ≤ a ∧ a < 45
          · rw [if_pos q4]
          · rw [if_neg q4, if_pos (by omega)]
  · have e36 : mGet mC 36 2 = (fo : Int) := by
      rw [GC 36 2 (by decide) (by decide), f5 36 2 (by decide) (by decide), GB, if_neg (by decide), f4' 36 2 (by decide), GA, if_neg (by decide), if_neg (by decide), if_pos (by decide), if_pos (by decide)]
    rw [e36, eC, mGet_mg, if_pos (by decide), mGet_mSet, if_pos ⟨rfl, rfl⟩, w32_nat (by omega)]
  · obtain ⟨uo, eu, UO⟩ := U2'
    refine ⟨uo, ?_, (UO.mono f3.1).mono gAC⟩
    rw [GC 28 6 (by decide) (by decide), f5 28 6 (by decide) (by decide), GB, if_neg (by decide), f4' 28 6 (by decide), GA, if_neg (by decide), if_neg (by decide), if_neg (by decide), if_neg (by decide), e28]
    exact eu

def FZ (m : Mem) : Prop := FC m ∧ ∀ a i, ZC a i → mGet m a i = 0
/-- and the far heap stands in both places, and UP in its own -/
def FZ2 (m : Mem) : Prop := FZ m ∧ mGet m 1 9 = mGet m 36 2 ∧ ∃ o : Nat, mGet m 28 6 = (o : Int) ∧ GOb m o upg
theorem FZ2_of {n : Nat} (hn : BIG < n) : Ok (f_init n mz) (fun _ m => FZ2 m) := by
  have n4 := BIG_m hn
  refine ok_mono (init2_ok (m0 := mz) (by omega) (by decide)) (fun _ m h => ⟨⟨⟨h.1, h.2.1, ?_⟩, h.2.2.2.2.1⟩, h.2.2.2.2.2⟩)
  have : mNext mz = 1000 := rfl
  have := h.2.2.1
  omega
section CG
variable {n : Nat} {m : Mem}
theorem Cundo (h : FZ m) : Ok (f_X10_undo n m) (fun v _ => v = -1100000002) := by
  have z : mGet m 45 5 = 0 := h.2 _ _ (by unfold ZC; omega)
  unfold f_X10_undo
  refine ok_cal (P := fun v m' => v = -1) ?_ (fun v m2 hv => ?_)
  · unfold f_X6_takeBack
    rw [gtF_eq, z]
    refine ok_jn ?_
    rw [if_pos (by decide)]
    exact ok_rt rfl
  · rw [hv]
    refine ok_jn ?_
    rw [if_pos (by decide)]
    exact cf2 m2
theorem cheld_eq {p : Nat} (hp : p < 8) : ∃ o : Nat, FZ m → f_X6_held n (p : Int) m = some ((o : Int), m) ∧ GOb m o 0 ∧ mGet m 46 p = (o : Int) := by
  by_cases h : FZ m
  · obtain ⟨_, _, o, e, O⟩ := h.1.1.1 p hp
    refine ⟨o, fun _ => ⟨?_, O, e⟩⟩
    unfold f_X6_held
    dsimp only [jn]
    rw [if_neg (by omega), if_pos (by omega), ldG_ok (len := 8) rfl hp, e, Int.toNat_natCast]
    rfl
  · exact ⟨0, fun q => absurd q h⟩
theorem Cmove (hn : BIG < n) (h : FZ m) {p q : Int} : Ok (f_X10_move n p q m) (fun v _ => v = ans2 p q 1) := by
  have n4 := BIG_m hn
  unfold f_X10_move ans2
  refine ok_calE cSlot_eq ?_
  refine ok_jn ?_
  by_cases hp : 0 ≤ p ∧ p ≤ 7
  · rw [decide_eq_true hp, if_neg (by decide)]
    refine ok_calE cSlot_eq ?_
    by_cases hq : 0 ≤ q ∧ q ≤ 7
    · rw [decide_eq_true hq, if_neg (by decide), if_pos ⟨hp.1, hp.2, hq.1, hq.2⟩]
      obtain ⟨p', rfl⟩ : ∃ p' : Nat, p = (p' : Int) := ⟨p.toNat, by omega⟩
      obtain ⟨q', rfl⟩ : ∃ q' : Nat, q = (q' : Int) := ⟨q.toNat, by omega⟩
      obtain ⟨o, ho⟩ := cheld_eq (n := n) (m := m) (p := q') (by omega)
      obtain ⟨e, O, _⟩ := ho h
      refine ok_calE e ?_
      rw [Int.toNat_natCast]
      refine ok_cal (settle_o (by omega) h.1.1 (by omega) can_0 fits_0 O) (fun r m2 h2 => ok_rt ?_)
      rw [h2.1, wid_0']
      rfl
    · rw [decide_eq_false hq, if_pos rb_f, if_neg (fun z => hq ⟨z.2.2.1, z.2.2.2⟩)]
      exact cf1 m
  · rw [decide_eq_false hp, if_pos rb_f, if_neg (fun z => hp ⟨z.1, z.2.1⟩)]
    exact cf1 m
end CG
