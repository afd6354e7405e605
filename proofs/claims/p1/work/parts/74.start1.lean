/-! THE START: the game 0, the heap far off, UP -/
theorem mask_0 {e : Nat → Nat} {w : Nat} (h : e 0 = 0) : Mask e 0 w 0 := ⟨by decide, fun g => by
  rw [Nat.zero_testBit]
  exact ⟨fun h => (by cases h), fun h => absurd h.1 (Nat.not_lt_zero _)⟩⟩
theorem zeroG_ok {n : Nat} {m : Mem} (hb : mNext m + 10 < 2147483648) : Ok (f_X1_zero n m) (fun v m' => (∃ o : Nat, v = (o : Int) ∧ GOb m' o 0) ∧ Fr m m' (fun _ => False) ∧ mNext m' ≤ mNext m + 4) := by
  have g1 := mNext_ge m
  obtain ⟨q, eq⟩ : ∃ q, q = mNext m := ⟨_, rfl⟩
  unfold f_X1_zero nwG
  rw [← eq]
  obtain ⟨m0, e0⟩ : ∃ m0, m0 = mNew m 11 5 := ⟨_, rfl⟩
  have n0 : mNext m0 = q + 1 := by rw [e0, mNext_new, eq]
  rw [← e0]
  have i1 : ∀ (mm : Mem) (K : Nat → Mem → Option Rz), nwI mm 1 10 K = K (mNext mm) (mNew mm 1 1) := fun mm K => nwI_ok (x := 1) (by decide)
  have b1 : ∀ (mm : Mem) (K : Nat → Mem → Option Rz), nwB mm 1 10 K = K (mNext mm) (mNew mm 3 1) := fun mm K => nwB_ok (x := 1) (by decide)
  show Ok (nwI m0 1 10 fun q5 m5 => nwI m5 1 10 fun q8 m8 => nwB m8 1 10 fun q11 m11 => stB m11 q11 0 48 fun m17 => cal (f_X1_init n q q5 q8 q11 0 0 m17) fun _ m20 => rt (q : Nat) m20) _
  rw [i1, n0]
  obtain ⟨m5, e5⟩ : ∃ m5, m5 = mNew m0 1 1 := ⟨_, rfl⟩
  have n5 : mNext m5 = q + 2 := by rw [e5, mNext_new, n0]
  rw [← e5]
  show Ok (nwI m5 1 10 fun q8 m8 => nwB m8 1 10 fun q11 m11 => stB m11 q11 0 48 fun m17 => cal (f_X1_init n q (q + 1) q8 q11 0 0 m17) fun _ m20 => rt (q : Nat) m20) _
  rw [i1, n5]
  obtain ⟨m8, e8⟩ : ∃ m8, m8 = mNew m5 1 1 := ⟨_, rfl⟩
  have n8 : mNext m8 = q + 3 := by rw [e8, mNext_new, n5]
  rw [← e8]
  show Ok (nwB m8 1 10 fun q11 m11 => stB m11 q11 0 48 fun m17 => cal (f_X1_init n q (q + 1) (q + 2) q11 0 0 m17) fun _ m20 => rt (q : Nat) m20) _
  rw [b1, n8]
  obtain ⟨m11, e11⟩ : ∃ m11, m11 = mNew m8 3 1 := ⟨_, rfl⟩
  have n11 : mNext m11 = q + 4 := by rw [e11, mNext_new, n8]
  rw [← e11]
  show Ok (stB m11 (q + 3) 0 48 fun m17 => cal (f_X1_init n q (q + 1) (q + 2) (q + 3) 0 0 m17) fun _ m20 => rt (q : Nat) m20) _
  have k11 : ∀ a, sKind m11 a = if a = q + 3 then (3, 1) else if a = q + 2 then (1, 1) else if a = q + 1 then (1, 1) else if a = q then (11, 5) else sKind m a := fun a => by
    rw [e11, sKind_mNew, n8, e8, sKind_mNew, n5, e5, sKind_mNew, n0, e0, sKind_mNew, ← eq]
  have g11 : ∀ a i, mGet m11 a i = if a = q + 3 then 0 else if a = q + 2 then 0 else if a = q + 1 then 0 else if a = q then 0 else mGet m a i := fun a i => by
    rw [e11, mGet_mNew, n8, e8, mGet_mNew, n5, e5, mGet_mNew, n0, e0, mGet_mNew, ← eq]
  have sb : stB m11 (q + 3) 0 48 (fun m17 => cal (f_X1_init n q (q + 1) (q + 2) (q + 3) 0 0 m17) fun _ m20 => rt (q : Nat) m20) = (fun m17 => cal (f_X1_init n q (q + 1) (q + 2) (q + 3) 0 0 m17) fun _ m20 => rt (q : Nat) m20) (mSet m11 (q + 3) 0 (i8 48)) := stB_ok (i := 0) (by rw [k11, if_pos rfl]) (by decide)
  rw [sb]
  dsimp only
  obtain ⟨m17, e17⟩ : ∃ m17, m17 = mSet m11 (q + 3) 0 (i8 48) := ⟨_, rfl⟩
  rw [← e17]
  have k17 : ∀ a, sKind m17 a = sKind m11 a := fun a => by rw [e17]; rfl
  refine ok_calE (game_init_ok (by rw [k17, k11, if_neg (by omega), if_neg (by omega), if_neg (by omega), if_pos rfl]) (by omega) (by omega) (by omega) (by omega)) ?_
  obtain ⟨mG, eG⟩ : ∃ mG, mG = mSet (mSet (mSet (mSet (mSet m17 q 0 ((q + 1 : Nat) : Int)) q 1 ((q + 2 : Nat) : Int)) q 2 ((q + 3 : Nat) : Int)) q 3 0) q 4 0 := ⟨_, rfl⟩
  rw [← eG]
  have gG : ∀ a i, mGet mG a i = if a = q ∧ i = 4 then 0 else if a = q ∧ i = 3 then 0 else if a = q ∧ i = 2 then ((q + 3 : Nat) : Int) else if a = q ∧ i = 1 then ((q + 2 : Nat) : Int) else if a = q ∧ i = 0 then ((q + 1 : Nat) : Int) else if a = q + 3 ∧ i = 0 then 48 else mGet m11 a i := fun a i => by
    rw [eG, mGet_mSet, mGet_mSet, mGet_mSet, mGet_mSet, mGet_mSet, e17, mGet_mSet, w32_nat (n := q + 3) (by omega), w32_nat (n := q + 2) (by omega), w32_nat (n := q + 1) (by omega)]
    rfl
  have zG : mG.2.2 = m11.2.2 := by rw [eG, e17]; rfl
  have kG : ∀ a, sKind mG a = sKind m11 a := fun a => by unfold sKind; rw [zG]
  have w1 : wid 0 = 1 := by rw [← iz_0, wid_iz]; rfl
  have l1 : (wd 0).length = 1 := wd_0_len
  have l11 : m11.2.2 = m.2.2 ++ [(11, 5), (1, 1), (1, 1), (3, 1)] := by
    rw [e11, e8, e5, e0]
    show (((m.2.2 ++ [(11, 5)]) ++ [(1, 1)]) ++ [(1, 1)]) ++ [(3, 1)] = _
    rw [List.append_assoc, List.append_assoc, List.append_assoc]
    rfl
  have e0' : ∀ x, fol 0 x → x = 0 := fun x hx => by
    have := fol_le hx; omega
  have fst : ∀ a i, a < q → mGet mG a i = mGet m a i := fun a i h => by
    rw [gG, if_neg (by omega), if_neg (by omega), if_neg (by omega), if_neg (by omega), if_neg (by omega), if_neg (by omega), g11, if_neg (by omega), if_neg (by omega), if_neg (by omega), if_neg (by omega)]
  have z12 : ∀ i, mGet mG (q + 1) i = 0 ∧ mGet mG (q + 2) i = 0 := fun i => by
    constructor
    · rw [gG, if_neg (by omega), if_neg (by omega), if_neg (by omega), if_neg (by omega), if_neg (by omega), if_neg (by omega), g11, if_neg (by omega), if_neg (by omega), if_pos rfl]
    · rw [gG, if_neg (by omega), if_neg (by omega), if_neg (by omega), if_neg (by omega), if_neg (by omega), if_neg (by omega), g11, if_neg (by omega), if_pos rfl]
  refine ok_rt ⟨⟨q, rfl, q + 1, q + 2, q + 3, fun _ => 0, ⟨?_, ?_, ?_, ?_⟩, ⟨by omega, by omega, by omega, by omega, by omega⟩, ⟨?_, ?_, ?_, ?_, ?_⟩, ⟨fun k hk => fol_rf 0, fun x hx => ⟨0, by omega, (e0' x hx).symm⟩, fun j k h1 h2 => by omega⟩, fun k hk => ?_, fun i hi => ?_⟩, ⟨⟨⟨[(11, 5), (1, 1), (1, 1), (3, 1)], by rw [zG]; exact l11, rfl⟩, fun a i h1 h2 => fst a i (by omega)⟩, fun a i h1 _ => fst a i (by omega)⟩, ?_⟩
  · rw [kG, k11, if_neg (by omega), if_neg (by omega), if_neg (by omega), if_pos rfl]
  · rw [kG, k11, if_neg (by omega), if_neg (by omega), if_pos rfl, w1]
  · rw [kG, k11, if_neg (by omega), if_pos rfl, w1]
  · rw [kG, k11, if_pos rfl, l1]
  · rw [gG, if_neg (by omega), if_neg (by omega), if_neg (by omega), if_neg (by omega), if_pos ⟨rfl, rfl⟩]
  · rw [gG, if_neg (by omega), if_neg (by omega), if_neg (by omega), if_pos ⟨rfl, rfl⟩]
  · rw [gG, if_neg (by omega), if_neg (by omega), if_pos ⟨rfl, rfl⟩]
  · rw [gG, if_neg (by omega), if_pos ⟨rfl, rfl⟩, bd_0]; rfl
  · rw [gG, if_pos ⟨rfl, rfl⟩]
    have := hpv_hc 0
    rw [hc_0] at this
    exact this.symm
  · rw [show k = 0 by omega]
    exact ⟨⟨0, (z12 0).1, mask_0 rfl⟩, 0, (z12 0).2, mask_0 rfl⟩
  · rw [show i = 0 by omega, gG, if_neg (by omega), if_neg (by omega), if_neg (by omega), if_neg (by omega), if_neg (by omega), if_pos ⟨rfl, rfl⟩, wd_0]
    rfl
  · rw [show mNext mG = mNext m11 by unfold mNext; rw [zG], n11]
    omega
