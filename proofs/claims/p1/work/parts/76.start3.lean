theorem mg_grow {lo hi : Nat} {m1 m : Mem} (h : hi ≤ 1000) : Grow m (mg lo hi m1 m) := ⟨⟨[], (List.append_nil _).symm, rfl⟩, fun a i h1 _ => by rw [mGet_mg, if_neg (by omega)]⟩
theorem mg_next (lo hi : Nat) (m1 m : Mem) : mNext (mg lo hi m1 m) = mNext m := rfl
theorem pair_ok {n N a b : Nat} {m : Mem} (hn : 300 < n) (Y : YI m N) (hN : N < 256) (ha : a < N) (hb : b < N) : Ok (f_X2_pairOf n (a : Int) (b : Int) m) (fun v m' => ∃ u N' : Nat, v = (u : Int) ∧ u < N' ∧ N' ≤ N + 1 ∧ YI m' N' ∧ mGet m' 4 14 = 0 ∧ YF m m' N N' ∧ geq (yden m' u) (mkg [yden m a] [yden m b])) := by
  unfold f_X2_pairOf
  refine ok_cal (begin_ok hn Y) (fun _ m1 h1 => ?_)
  obtain ⟨G1, F1⟩ := h1
  refine ok_cal (addLeft_ok G1 ha) (fun _ m2 h2 => ?_)
  refine ok_cal (addRight_ok h2.1 hb) (fun _ m3 h3 => ?_)
  have G3 : YG m3 N (fun z => z = yden m a) (fun z => z = yden m b) := h3.1.iff (fun z => by rw [F1.old ha]; exact ⟨Or.inr, fun h => h.elim (fun h => h.elim) id⟩) (fun z => by rw [h2.2.old hb, F1.old hb]; exact ⟨Or.inr, fun h => h.elim (fun h => h.elim) id⟩)
  have fit : Fits (fun z => z = yden m a) (fun z => z = yden m b) (mkg [yden m a] [yden m b]) := ⟨fun x hx => ⟨x, List.mem_singleton.mp ((op_mkgL _ _ _).mp hx), geq_rfl _⟩, fun y hy => ⟨y, (op_mkgL _ _ _).mpr (List.mem_singleton.mpr hy), geq_rfl _⟩, fun x hx => ⟨x, List.mem_singleton.mp ((op_mkgR _ _ _).mp hx), geq_rfl _⟩, fun y hy => ⟨y, (op_mkgR _ _ _).mpr (List.mem_singleton.mpr hy), geq_rfl _⟩⟩
  refine ok_cal (gof_ok hn G3 hN fit) (fun v m4 h4 => ?_)
  obtain ⟨u, N', rfl, h5, h6, h7, h8, h9, h10⟩ := h4
  exact ok_rt ⟨u, N', rfl, h5, by omega, h7, h8, (F1.tr (h2.2.tr h3.2)).tr h9, h10⟩
/-- UP is made -/
theorem up_ok {n : Nat} {m : Mem} (hn : 300 < n) (hb : mNext m + 10 < 2147483648) : Ok (f_X2_tail n m) (fun _ m' => VG m' (mGet m' 28 6).toNat ∧ Grow m m' ∧ mNext m' ≤ mNext m + 4) := by
  unfold f_X2_tail
  refine ok_cal (clear_ok hn) (fun _ m1 h1 => ?_)
  obtain ⟨Y1, s1, d1, g1, z1⟩ := h1
  have G1 : Grow m m1 := (Fr.of (S := SY) z1 (fun a i q => g1 a i (fun e => q (by omega)) (fun e => q (by omega)) (fun e => q (by omega)))).1
  refine ok_cal (pair_ok (a := 0) (b := 0) hn Y1 (by decide) (by decide) (by decide)) (fun v m2 h2 => ?_)
  obtain ⟨u, N2, rfl, hu, l2, Y2, s2, F2, g2⟩ := h2
  rw [d1] at g2
  have e2 : yden m2 u = ne 1 := can_uniq (Y2.1.2.2.2.2.2.1 u hu) (can_ne 7 1 (by decide) (by decide)) g2
  have z2 : yden m2 0 = 0 := by rw [F2.old (show 0 < 1 by decide)]; exact d1
  refine ok_cal (pair_ok (a := 0) (b := u) hn Y2 (by omega) (by omega) hu) (fun v m3 h3 => ?_)
  obtain ⟨w, N3, rfl, hw, l3, Y3, s3, F3, g3⟩ := h3
  rw [z2, e2] at g3
  have e3 : yden m3 w = ne 2 := can_uniq (Y3.1.2.2.2.2.2.1 w hw) (can_ne 7 2 (by decide) (by decide)) g3
  have n3 : mNext m3 = mNext m := by rw [YB.next F3, YB.next F2, mNext_eq z1]
  have G3 : Grow m m3 := (G1.tr (F2.toFr (by omega)).1).tr (F3.toFr F3.2.2.2.2).1
  refine ok_cal (written_ok hn Y3 hw s3 (by omega)) (fun v m4 h4 => ?_)
  obtain ⟨f4, n4, _, _, _, r4⟩ := h4
  have ft : wid (yden m3 w) ≤ 10 ∧ (wd (yden m3 w)).length ≤ 100 := by rw [e3, ne_G 2 (by decide)]; exact fits_nG _ _
  rcases r4 with ⟨_, o, rfl, O⟩ | ⟨no, _⟩
  · obtain ⟨o1, o2, o3, o4⟩ := O.o
    rw [Int.toNat_natCast, ptG_ok o2]
    have G8 : ∀ a i, mGet (mSet m4 28 6 (o : Int)) a i = if a = 28 ∧ i = 6 then (o : Int) else mGet m4 a i := fun a i => by rw [mGet_mSet, w32_nat (by omega)]
    have G5 : Grow m4 (mSet m4 28 6 (o : Int)) := m2_grow rfl (fun a i ha => by rw [G8, if_neg (by omega)])
    refine ok_rt ⟨?_, (G3.tr f4.1).tr G5, by show mNext m4 ≤ _; omega⟩
    rw [G8, if_pos ⟨rfl, rfl⟩, Int.toNat_natCast]
    exact ⟨_, Y3.1.2.2.2.2.2.1 w hw, ft, O.mono G5⟩
  · exact absurd ft no
theorem kG49 (m : Mem) : sKind m 49 = (5, 8) := rfl
theorem shelf_ok {n z : Nat} {m : Mem} (hn : 300 < n) (O : GOb m z 0) : Ok (f_X6_tail n z m) (fun _ m' => m'.2 = m.2 ∧ (∀ a i, a ≠ 46 → a ≠ 49 → mGet m' a i = mGet m a i) ∧ ∀ i, i < 8 → mGet m' 46 i = (z : Int)) := by
  obtain ⟨o1, o2, o3, o4⟩ := O.o
  unfold f_X6_tail
  refine ok_up1 8 (fun i m1 => m1.2 = m.2 ∧ (∀ a i, a ≠ 46 → a ≠ 49 → mGet m1 a i = mGet m a i) ∧ ∀ j, j < i → mGet m1 46 j = (z : Int)) (fun w i m1 hi hI hw => ?_) (fun w m1 hI => ?_) n 0 m (Nat.zero_le _) ⟨rfl, fun _ _ _ _ => rfl, fun j hj => absurd hj (Nat.not_lt_zero _)⟩ (by omega)
  · obtain ⟨z1, f1, r1⟩ := hI
    have kz : ∀ m2 : Mem, m2.2 = m1.2 → (sKind m2 z).1 = 11 := fun m2 h => by
      have : sKind m2 z = sKind m z := by unfold sKind; rw [h, z1]
      rw [this, o3]
    rw [if_pos (by omega), stG_ok (kG46 _) hi (Or.inr ⟨o1, o2, kz m1 rfl⟩), stG_ok (kG49 _) hi (Or.inr ⟨o1, o2, kz (mSet m1 46 i (z : Int)) rfl⟩), k_1 (by omega)]
    have G8 : ∀ a j, mGet (mSet (mSet m1 46 i (z : Int)) 49 i (z : Int)) a j = if a = 49 ∧ j = i then (z : Int) else if a = 46 ∧ j = i then (z : Int) else mGet m1 a j := fun a j => by rw [mGet_mSet, mGet_mSet, w32_nat (by omega)]
    refine hw _ ⟨z1, fun a j h1 h2 => by rw [G8, if_neg (fun e => h2 e.1), if_neg (fun e => h1 e.1)]; exact f1 a j h1 h2, fun j hj => ?_⟩
    rw [G8, if_neg (by omega)]
    by_cases q : j = i
    · rw [if_pos ⟨rfl, q⟩]
    · rw [if_neg (fun e => q e.2)]
      exact r1 j (by omega)
  · obtain ⟨z1, f1, r1⟩ := hI
    rw [if_neg (by omega)]
    exact ok_rt ⟨z1, f1, r1⟩
theorem fits_0 : fits 0 := ⟨by rw [← iz_0, wid_iz]; decide, by rw [wd_0_len]; decide⟩
/-- the start -/
theorem init_ok {n : Nat} {m0 : Mem} (hn : 300 < n) (hm0 : mNext m0 + 100 < 2147483648) : Ok (f_init n m0) (fun _ m => CI (fun _ => 0) m ∧ (∀ t, TX m 0 t) ∧ mNext m ≤ mNext m0 + 50 ∧ Grow m0 m) := by
  unfold f_init
  refine ok_cal (up_ok hn (by rw [mg_next, mg_next, mg_next]; omega)) (fun _ m2 h2 => ?_)
  obtain ⟨U2, G2, n2⟩ := h2
  have g02 : Grow m0 m2 := (((mg_grow (by decide)).tr (mg_grow (by decide))).tr (mg_grow (by decide))).tr G2
  rw [mg_next, mg_next, mg_next] at n2
  refine ok_cal (farG_ok hn (by omega)) (fun v m3 h3 => ?_)
  obtain ⟨⟨fo, rfl, FO⟩, f3, n3⟩ := h3
  have U3 := U2.mono f3.1
  have e28 : mGet m3 28 6 = mGet m2 28 6 := f3.2 28 6 (by decide) (fun h => h)
  obtain ⟨F1, F2, _, _⟩ := FO.o
  unfold ok0
  rw [Int.toNat_natCast, if_pos F2]
  obtain ⟨mA, eA⟩ : ∃ mA, mA = mg 41 45 mz (mg 39 41 mz (mg 36 39 (mSet mz 36 2 (fo : Int)) (mg 33 36 mz m3))) := ⟨_, rfl⟩
  have gA : Grow m3 mA := by rw [eA]; exact ((mg_grow (by decide)).tr (mg_grow (by decide))).tr ((mg_grow (by decide)).tr (mg_grow (by decide)))
  have nA : mNext mA = mNext m3 := by rw [eA]; rfl
  have GA : ∀ a i, mGet mA a i = if 41 ≤ a ∧ a < 45 then 0 else if 39 ≤ a ∧ a < 41 then 0 else if 36 ≤ a ∧ a < 39 then (if a = 36 ∧ i = 2 then (fo : Int) else 0) else if 33 ≤ a ∧ a < 36 then 0 else mGet m3 a i := fun a i => by
    rw [eA, mGet_mg, mGet_mg, mGet_mg, mGet_mg, mGet_mSet, mz_0, w32_nat (by omega)]
  rw [← eA]
  refine ok_cal (zeroG_ok (by omega)) (fun v m4 h4 => ?_)
  obtain ⟨⟨zo, rfl, ZO⟩, f4, n4⟩ := h4
  obtain ⟨Z1, Z2, _, _⟩ := ZO.o
  rw [Int.toNat_natCast, if_pos Z2]
  obtain ⟨mB, eB⟩ : ∃ mB, mB = mg 45 50 (mSet mz 45 0 (zo : Int)) m4 := ⟨_, rfl⟩
  have gB : Grow m4 mB := by rw [eB]; exact mg_grow (by decide)
  have GB : ∀ a i, mGet mB a i = if 45 ≤ a ∧ a < 50 then (if a = 45 ∧ i = 0 then (zo : Int) else 0) else mGet m4 a i := fun a i => by
    rw [eB, mGet_mg, mGet_mSet, mz_0, w32_nat (by omega)]
  rw [← eB]
  refine ok_cal (shelf_ok hn (ZO.mono gB)) (fun _ m5 h5 => ?_)
  obtain ⟨z5, f5, r5⟩ := h5
  have g5 : Grow mB m5 := m2_grow z5 (fun a i ha => f5 a i (by omega) (by omega))
  obtain ⟨mC, eC⟩ : ∃ mC, mC = mg 1 4 (mSet mz 1 9 (fo : Int)) (mg 50 58 mz m5) := ⟨_, rfl⟩
  have gC : Grow m5 mC := by rw [eC]; exact (mg_grow (by decide)).tr (mg_grow (by decide))
  have GC : ∀ a i, 4 ≤ a → a < 50 → mGet mC a i = mGet m5 a i := fun a i h1 h2 => by
    rw [eC, mGet_mg, if_neg (by omega), mGet_mg, if_neg (by omega)]
  rw [← eC]
  have g45 : Grow m4 mC := (gB.tr g5).tr gC
  have gAC : Grow m3 mC := (gA.tr f4.1).tr g45
  have f4' : ∀ a i, a < 1000 → mGet m4 a i = mGet mA a i := fun a i h => f4.2 a i h (fun h => h)
  refine ok_rt ⟨⟨fun i hi => ⟨can_0, fits_0, zo, ?_, ZO.mono g45⟩, ⟨0, ?_, by decide⟩, fun i hi => ⟨0, ?_, Or.inl rfl⟩, ⟨fo, ?_, FO.mono gAC⟩, ?_, ⟨zo, ?_, ZO.mono g45⟩, Or.inl ?_⟩, fun t => ⟨?_, fun i hi => absurd hi (Nat.not_lt_zero _)⟩, ?_, (g02.tr f3.1).tr gAC⟩
  · rw [GC 46 i (by decide) (by decide)]; exact r5 i hi
  · rw [GC 45 5 (by decide) (by decide), f5 45 5 (by decide) (by decide), GB, if_pos (by decide), if_neg (by decide)]; rfl
  · rw [GC 48 i (by decide) (by decide), f5 48 i (by decide) (by decide), GB, if_pos (by decide), if_neg (by omega)]; rfl
  · rw [GC 36 2 (by decide) (by decide), f5 36 2 (by decide) (by decide), GB, if_neg (by decide), f4' 36 2 (by decide), GA, if_neg (by decide), if_neg (by decide), if_pos (by decide), if_pos (by decide)]
  · rw [GC 28 6 (by decide) (by decide), f5 28 6 (by decide) (by decide), GB, if_neg (by decide), f4' 28 6 (by decide), GA, if_neg (by decide), if_neg (by decide), if_neg (by decide), if_neg (by decide), e28]
    exact U3.mono gAC
  · rw [GC 45 0 (by decide) (by decide), f5 45 0 (by decide) (by decide), GB, if_pos (by decide), if_pos (by decide)]
  · rw [GC 39 3 (by decide) (by decide), f5 39 3 (by decide) (by decide), GB, if_neg (by decide), f4' 39 3 (by decide), GA, if_neg (by decide), if_pos (by decide)]
  · rw [GC 41 4 (by decide) (by decide), f5 41 4 (by decide) (by decide), GB, if_neg (by decide), f4' 41 4 (by decide), GA, if_pos (by decide)]; rfl
  · have : mNext mC = mNext m4 := by rw [show mNext mC = mNext m5 by rw [eC]; rfl, mNext_eq (show m5.2.2 = mB.2.2 by rw [z5]), eB]; rfl
    omega
