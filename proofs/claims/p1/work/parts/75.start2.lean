theorem mask_hc {k w : Nat} (hw : w < 2) : Mask hc k w (2 ^ k - 1) := by
  have pp : 0 < 2 ^ k := Nat.pow_pos (by decide)
  refine ⟨by omega, fun g => ?_⟩
  rw [Nat.testBit_two_pow_sub_one, decide_eq_true_eq]
  constructor
  · intro h
    exact ⟨h, (op_hc hw).mpr ⟨g, h, rfl⟩⟩
  · exact fun h => h.1
theorem wd_far : wd (hc 10) = [42, 49, 48] := by
  have o : ∀ w, w < 2 → op (hc 10) w (hc 0) = true := fun w hw => (op_hc hw).mpr ⟨0, by decide, rfl⟩
  rw [wd_hp (not_bare (o 0 (by decide))) (not_bare (o 1 (by decide))) (by rw [bd_hc]), bd_hc]
  rfl
set_option maxHeartbeats 1000000 in
theorem farG_ok {n : Nat} {m : Mem} (hn : 300 < n) (hb : mNext m + 10 < 2147483648) : Ok (f_X1_farHeap n m) (fun v m' => (∃ o : Nat, v = (o : Int) ∧ GOb m' o (hc 10)) ∧ Fr m m' (fun _ => False) ∧ mNext m' ≤ mNext m + 4) := by
  have g1 := mNext_ge m
  obtain ⟨q, eq⟩ : ∃ q, q = mNext m := ⟨_, rfl⟩
  unfold f_X1_farHeap
  have i1 : ∀ (mm : Mem) (K : Nat → Mem → Option Rz), nwI mm 11 11 K = K (mNext mm) (mNew mm 1 11) := fun mm K => nwI_ok (x := 11) (by decide)
  have b1 : ∀ (mm : Mem) (K : Nat → Mem → Option Rz), nwB mm 3 11 K = K (mNext mm) (mNew mm 3 3) := fun mm K => nwB_ok (x := 3) (by decide)
  rw [i1, ← eq]
  obtain ⟨m0, e0⟩ : ∃ m0, m0 = mNew m 1 11 := ⟨_, rfl⟩
  have n0 : mNext m0 = q + 1 := by rw [e0, mNext_new, eq]
  rw [← e0]
  have k0 : ∀ a, sKind m0 a = if a = q then (1, 11) else sKind m a := fun a => by rw [e0, sKind_mNew, ← eq]
  have g0 : ∀ a i, mGet m0 a i = if a = q then 0 else mGet m a i := fun a i => by rw [e0, mGet_mNew, ← eq]
  have kk : ∀ m1 : Mem, m1.2 = m0.2 → ∀ a, sKind m1 a = sKind m0 a := fun m1 h a => by unfold sKind; rw [h]
  refine ok_up1 11 (fun i m1 => m1.2 = m0.2 ∧ (∀ a j, a ≠ q → mGet m1 a j = mGet m a j) ∧ ∀ j, j < i → mGet m1 q j = ((2 ^ j - 1 : Nat) : Int)) (fun w i m1 hi hI hw => ?_) (fun w m1 hI => ?_) n 0 m0 (Nat.zero_le _) ⟨rfl, fun a j h => by rw [g0, if_neg h], fun j hj => absurd hj (Nat.not_lt_zero _)⟩ (by omega)
  · obtain ⟨z1, f1, r1⟩ := hI
    have p2 : 2 ^ i ≤ 2 ^ 10 := Nat.pow_le_pow_right (by decide) (by omega)
    have pp : 0 < 2 ^ i := Nat.pow_pos (by decide)
    have p10 : (2 : Nat) ^ 10 = 1024 := rfl
    have hk : sKind m1 q = (1, 11) := by rw [kk m1 z1, k0, if_pos rfl]
    have sh : ishl 1 (i : Int) = ((2 ^ i : Nat) : Int) := by
      have := ishl_nat (a := 1) (k := i) (by omega) (by omega)
      rw [Nat.one_mul] at this
      exact this
    rw [lenA_ok hk (by decide) (by decide) (by decide), if_pos (by omega), sh, w32_id (x := ((2 ^ i : Nat) : Int) - 1) (by omega) (by omega), show ((2 ^ i : Nat) : Int) - 1 = ((2 ^ i - 1 : Nat) : Int) by omega, stI_ok hk hi, k_1 (by omega)]
    have G8 : ∀ a j, mGet (mSet m1 q i ((2 ^ i - 1 : Nat) : Int)) a j = if a = q ∧ j = i then ((2 ^ i - 1 : Nat) : Int) else mGet m1 a j := fun a j => by rw [mGet_mSet, w32_nat (by omega)]
    refine hw _ ⟨z1, fun a j h => by rw [G8, if_neg (fun e => h e.1)]; exact f1 a j h, fun j hj => ?_⟩
    by_cases e : j = i
    · rw [e, G8, if_pos ⟨rfl, rfl⟩]
    · rw [G8, if_neg (fun h => e h.2)]
      exact r1 j (by omega)
  · obtain ⟨z1, f1, r1⟩ := hI
    have hk : sKind m1 q = (1, 11) := by rw [kk m1 z1, k0, if_pos rfl]
    have n1 : mNext m1 = q + 1 := by rw [mNext_eq (show m1.2.2 = m0.2.2 by rw [z1]), n0]
    rw [lenA_ok hk (by decide) (by decide) (by decide), if_neg (by omega)]
    unfold nwG
    rw [n1]
    obtain ⟨m2, e2⟩ : ∃ m2, m2 = mNew m1 11 5 := ⟨_, rfl⟩
    have n2 : mNext m2 = q + 2 := by rw [e2, mNext_new, n1]
    rw [← e2]
    show Ok (nwB m2 3 11 fun q34 m34 => stB m34 q34 0 42 fun m40 => stB m40 q34 1 49 fun m45 => stB m45 q34 2 48 fun m50 => cal (f_X1_init n (q + 1) q q q34 10 10 m50) fun _ m55 => rt ((q + 1 : Nat) : Nat) m55) _
    rw [b1, n2]
    obtain ⟨m3, e3⟩ : ∃ m3, m3 = mNew m2 3 3 := ⟨_, rfl⟩
    have n3 : mNext m3 = q + 3 := by rw [e3, mNext_new, n2]
    rw [← e3]
    have k3 : ∀ a, sKind m3 a = if a = q + 2 then (3, 3) else if a = q + 1 then (11, 5) else if a = q then (1, 11) else sKind m a := fun a => by
      rw [e3, sKind_mNew, n2, e2, sKind_mNew, n1, kk m1 z1, k0]
    have g3 : ∀ a i, mGet m3 a i = if a = q + 2 then 0 else if a = q + 1 then 0 else mGet m1 a i := fun a i => by
      rw [e3, mGet_mNew, n2, e2, mGet_mNew, n1]
    have sB : ∀ (mm : Mem) (i : Nat) (v : Int) (K : Mem → Option Rz), mm.2 = m3.2 → i < 3 → stB mm (q + 2) (i : Int) v K = K (mSet mm (q + 2) i (i8 v)) := fun mm i v K h hi => stB_ok (by rw [show sKind mm (q + 2) = sKind m3 (q + 2) by unfold sKind; rw [h], k3, if_pos rfl]) hi
    show Ok (stB m3 (q + 2) ((0 : Nat) : Int) 42 fun m40 => stB m40 (q + 2) ((1 : Nat) : Int) 49 fun m45 => stB m45 (q + 2) ((2 : Nat) : Int) 48 fun m50 => cal (f_X1_init n (q + 1) q q (q + 2) 10 10 m50) fun _ m55 => rt ((q + 1 : Nat) : Nat) m55) _
    rw [sB m3 0 42 _ rfl (by decide), sB (mSet m3 (q + 2) 0 (i8 42)) 1 49 _ rfl (by decide), sB (mSet (mSet m3 (q + 2) 0 (i8 42)) (q + 2) 1 (i8 49)) 2 48 _ rfl (by decide)]
    obtain ⟨m4, e4⟩ : ∃ m4, m4 = mSet (mSet (mSet m3 (q + 2) 0 (i8 42)) (q + 2) 1 (i8 49)) (q + 2) 2 (i8 48) := ⟨_, rfl⟩
    rw [← e4]
    have k4 : ∀ a, sKind m4 a = sKind m3 a := fun a => by rw [e4]; rfl
    refine ok_calE (game_init_ok (by rw [k4, k3, if_neg (by omega), if_pos rfl]) (by omega) (by omega) (by omega) (by omega)) ?_
    obtain ⟨mG, eG⟩ : ∃ mG, mG = mSet (mSet (mSet (mSet (mSet m4 (q + 1) 0 (q : Int)) (q + 1) 1 (q : Int)) (q + 1) 2 ((q + 2 : Nat) : Int)) (q + 1) 3 10) (q + 1) 4 10 := ⟨_, rfl⟩
    rw [← eG]
    have gG : ∀ a i, mGet mG a i = if a = q + 1 ∧ i = 4 then 10 else if a = q + 1 ∧ i = 3 then 10 else if a = q + 1 ∧ i = 2 then ((q + 2 : Nat) : Int) else if a = q + 1 ∧ i = 1 then (q : Int) else if a = q + 1 ∧ i = 0 then (q : Int) else if a = q + 2 ∧ i = 2 then 48 else if a = q + 2 ∧ i = 1 then 49 else if a = q + 2 ∧ i = 0 then 42 else mGet m3 a i := fun a i => by
      rw [eG, mGet_mSet, mGet_mSet, mGet_mSet, mGet_mSet, mGet_mSet, e4, mGet_mSet, mGet_mSet, mGet_mSet, w32_nat (n := q + 2) (by omega), w32_nat (n := q) (by omega)]
      rfl
    have zG : mG.2.2 = m3.2.2 := by rw [eG, e4]; rfl
    have kG : ∀ a, sKind mG a = sKind m3 a := fun a => by unfold sKind; rw [zG]
    have l3 : m3.2.2 = m.2.2 ++ [(1, 11), (11, 5), (3, 3)] := by
      rw [e3, e2]
      show (m1.2.2 ++ [(11, 5)]) ++ [(3, 3)] = _
      rw [z1, e0]
      show ((m.2.2 ++ [(1, 11)]) ++ [(11, 5)]) ++ [(3, 3)] = _
      rw [List.append_assoc, List.append_assoc]
      rfl
    have fst : ∀ a i, a < q → mGet mG a i = mGet m a i := fun a i h => by
      rw [gG, if_neg (by omega), if_neg (by omega), if_neg (by omega), if_neg (by omega), if_neg (by omega), if_neg (by omega), if_neg (by omega), if_neg (by omega), g3, if_neg (by omega), if_neg (by omega), f1 a i (by omega)]
    have gq : ∀ i, i < 11 → mGet mG q i = ((2 ^ i - 1 : Nat) : Int) := fun i hi => by
      rw [gG, if_neg (by omega), if_neg (by omega), if_neg (by omega), if_neg (by omega), if_neg (by omega), if_neg (by omega), if_neg (by omega), if_neg (by omega), g3, if_neg (by omega), if_neg (by omega), r1 i hi]
    have w11 : wid (hc 10) = 11 := wid_hc 10
    have l1 : (wd (hc 10)).length = 3 := by rw [wd_far]; rfl
    refine ok_rt ⟨⟨q + 1, rfl, q, q, q + 2, hc, ⟨?_, ?_, ?_, ?_⟩, ⟨by omega, by omega, by omega, by omega, by omega⟩, ⟨?_, ?_, ?_, ?_, ?_⟩, enum_hc (by decide), fun k hk => ?_, fun i hi => ?_⟩, ⟨⟨⟨[(1, 11), (11, 5), (3, 3)], by rw [zG]; exact l3, rfl⟩, fun a i h1 h2 => fst a i (by omega)⟩, fun a i h1 _ => fst a i (by omega)⟩, ?_⟩
    · rw [kG, k3, if_neg (by omega), if_pos rfl]
    · rw [kG, k3, if_neg (by omega), if_neg (by omega), if_pos rfl, w11]
    · rw [kG, k3, if_neg (by omega), if_neg (by omega), if_pos rfl, w11]
    · rw [kG, k3, if_pos rfl, l1]
    · rw [gG, if_neg (by omega), if_neg (by omega), if_neg (by omega), if_neg (by omega), if_pos ⟨rfl, rfl⟩]
    · rw [gG, if_neg (by omega), if_neg (by omega), if_neg (by omega), if_pos ⟨rfl, rfl⟩]
    · rw [gG, if_neg (by omega), if_neg (by omega), if_pos ⟨rfl, rfl⟩]
    · rw [gG, if_neg (by omega), if_pos ⟨rfl, rfl⟩, bd_hc]; rfl
    · rw [gG, if_pos ⟨rfl, rfl⟩, hpv_hc]; rfl
    · rw [w11] at hk
      exact ⟨⟨2 ^ k - 1, gq k hk, mask_hc (by decide)⟩, 2 ^ k - 1, gq k hk, mask_hc (by decide)⟩
    · rw [l1] at hi
      rw [wd_far]
      rcases (by omega : i = 0 ∨ i = 1 ∨ i = 2) with rfl | rfl | rfl
      · rw [gG, if_neg (by omega), if_neg (by omega), if_neg (by omega), if_neg (by omega), if_neg (by omega), if_neg (by omega), if_neg (by omega), if_pos ⟨rfl, rfl⟩]; rfl
      · rw [gG, if_neg (by omega), if_neg (by omega), if_neg (by omega), if_neg (by omega), if_neg (by omega), if_neg (by omega), if_pos ⟨rfl, rfl⟩]; rfl
      · rw [gG, if_neg (by omega), if_neg (by omega), if_neg (by omega), if_neg (by omega), if_neg (by omega), if_pos ⟨rfl, rfl⟩]; rfl
    · rw [show mNext mG = mNext m3 by unfold mNext; rw [zG], n3]
      omega
