/-! FLOWERS: THE CALL -/
/-- heaps wait, one after the other -/
theorem heaploop {n p : Nat} {K : Mem → Option Rz} {Q : Int → Mem → Prop} {F : List Nat} {m : Mem} {T : Tb} {s c f lA : Nat} {G0 : Nat → Prop} (hn : BIG < n) (hp : p ≤ 9) (hf : f + lA + p + 800 ≤ 20000) (hs : s + c + 100 * p + 100 < 1000000000) (hF : ∀ j, j ≤ 9 → hc j ∈ F) (fin : ∀ m2 T2 s2 A, A.length = lA + p → Wts m T F s (c + 10 * p) f A (fun z => G0 z ∨ ∃ k, k < p ∧ z = hc k) m2 T2 s2 → Ok (K m2) Q) {m1 : Mem} {T1 : Tb} {s1 : Nat} {A0 : List Nat} (lA0 : A0.length = lA) (W : Wts m T F s c f A0 G0 m1 T1 s1) : Ok (lp (F := Int → Mem → Option Rz) (fun _ _ => none) (fun w v mm => if v < (p : Int) then (cal (f_X11_heapOf n v mm) fun x19 m19 => cal (f_X11_waits n x19 m19) fun _ m22 => w (w32 (v + 1)) m22) else K mm) n 0 m1) Q := by
  have n4 := BIG_m hn
  refine ok_row1 (s := 0) (k := 0) p (fun k m2 => ∃ T2 s2 A, A.length = lA + k ∧ Wts m T F s (c + 10 * k) f A (fun z => G0 z ∨ ∃ i, i < k ∧ z = hc i) m2 T2 s2) (fun w k m2 hk hI hw => ?_) (fun w m2 hI => ?_) n m1 (Nat.zero_le _) ⟨T1, s1, A0, lA0, W.g (fun z => ⟨Or.inl, fun h => h.elim id (fun ⟨o, ho, _⟩ => absurd ho (Nat.not_lt_zero _))⟩) (by omega)⟩ (by omega)
  · obtain ⟨T2, s2, A, lA2, W2⟩ := hI
    obtain ⟨w1, w2, w3, w4, w5, w6, w7, w8, w9⟩ := id W2
    rw [if_pos (by omega)]
    refine ok_cal (rheapOf_ok (t := f + A.length) (p := 0 + k) hn w1 w5.1 (by omega) (by omega) (by omega) (fun j hj => hF j (by omega))) (fun v m3 hq => ?_)
    refine W2.push hq (by omega) (fun u T4 s4 m4 W4 ex4 => ?_)
    rw [w32_s (by omega)]
    refine hw m4 ⟨T4, s4, A ++ [u], by rw [List.length_append, lA2]; rfl, W4.g (fun z => ?_) (by omega)⟩
    rw [Nat.zero_add]
    constructor
    · rintro ((h | ⟨o, ho, e⟩) | rfl)
      · exact Or.inl h
      · exact Or.inr ⟨o, by omega, e⟩
      · exact Or.inr ⟨k, by omega, rfl⟩
    · rintro (h | ⟨o, ho, e⟩)
      · exact Or.inl (Or.inl h)
      · by_cases q : o < k
        · exact Or.inl (Or.inr ⟨o, q, e⟩)
        · have : o = k := by omega
          subst this
          exact Or.inr e
  · obtain ⟨T2, s2, A, lA2, W2⟩ := hI
    rw [if_neg (by omega)]
    exact fin m2 T2 s2 A lA2 W2
theorem pow_s (k : Nat) : 2 ^ (k + 1) = 2 * 2 ^ k := by rw [Nat.pow_succ, Nat.mul_comm]
theorem flowerOf_ok {n p : Nat} (hn : BIG < n) (hp : p ≤ 9) : ∀ (D b r : Nat) (T : Tb) (m : Mem) (s t : Nat), RSt m T (FF p) s → b < 4 → r < 4 → b + r + 1 ≤ D → mGet m 100 26 = (t : Int) → t + 100 * (b + r) + 1000 ≤ 20000 → s + 200000 * 2 ^ (b + r) < 900000000 → Ok (h_X11_flowerOf n D (p : Int) (b : Int) (r : Int) m) (Sumd m T (FF p) s (800 * 2 ^ (b + r) - 400) (fl p b r))
  | 0, _, _, _, _, _, _, _, _, _, hD, _, _, _ => by omega
  | D + 1, b, r, T, m, s, t, R, hb, hr, hD, ht, h8, hs => by
    have n4 := BIG_m hn
    have N2 := R.1.nn
    have hF : ∀ j, j ≤ 9 → hc j ∈ FF p := fun j hj => mem_FF.mpr (Or.inl ⟨j, by omega, rfl⟩)
    have pw : 1 ≤ 2 ^ (b + r) := Nat.one_le_two_pow
    have small : 2 ^ (b + r) ≤ 2 ^ 6 := Nat.pow_le_pow_right (by decide) (by omega)
    have e6 : (2 : Nat) ^ 6 = 64 := by decide
    rw [h_X11_flowerOf_s]
    unfold b_X11_flowerOf
    rw [gtF_eq, ht]
    refine heaploop (K := _) (lA := 0) (f := t) hn hp (by omega) (by omega) hF (fun m1 T1 s1 A1 lA1 W1 => ?_) rfl (start_wts R ht)
    obtain ⟨CL, hCL⟩ : ∃ c, c = 0 + 10 * p + (if 0 < b then 800 * 2 ^ (b + r - 1) - 400 else 0) := ⟨_, rfl⟩
    refine ok_jn1 (fun m2 => ∃ T2 s2 A, A.length ≤ p + 1 ∧ Wts m T (FF p) s CL t A (fun z => (∃ k, k < p ∧ z = hc k) ∨ (0 < b ∧ z = fl p (b - 1) r)) m2 T2 s2) (fun m2 hI => ?_) (fun j hj => ?_)
    · obtain ⟨T2, s2, A, lA, W2⟩ := hI
      obtain ⟨w1, w2, w3, w4, w5, w6, w7, w8, w9⟩ := id W2
      have cl : CL ≤ 90 + 800 * 2 ^ (b + r - 1) := by rw [hCL]; split <;> omega
      have hp2 : 0 < b + r → 2 ^ (b + r) = 2 * 2 ^ (b + r - 1) := fun h => by rw [← pow_s]; congr 1; omega
      have pl : 2 ^ (b + r - 1) ≤ 2 ^ (b + r) := Nat.pow_le_pow_right (by decide) (by omega)
      rw [gtF_eq, w5.1]
      refine heaploop (K := _) (lA := 0) (f := t + A.length) hn hp (by omega) (by omega) hF (fun m3 T3 s3 B3 lB3 W3 => ?_) rfl (start_wts w1 w5.1)
      obtain ⟨CR, hCR⟩ : ∃ c, c = 0 + 10 * p + (if 0 < r then 800 * 2 ^ (b + r - 1) - 400 else 0) := ⟨_, rfl⟩
      refine ok_jn1 (fun m4 => ∃ T4 s4 B, B.length ≤ p + 1 ∧ Wts m2 T2 (FF p) s2 CR (t + A.length) B (fun z => (∃ k, k < p ∧ z = hc k) ∨ (0 < r ∧ z = fl p b (r - 1))) m4 T4 s4) (fun m4 hI => ?_) (fun j hj => ?_)
      · obtain ⟨T4, s4, B, lB, W4⟩ := hI
        have cr : CR ≤ 90 + 800 * 2 ^ (b + r - 1) := by rw [hCR]; split <;> omega
        have lAB := app_len A B
        refine ok_cal (close_ok (K := fl p b r) hn W2 W4 ht (by omega) (by omega) (fun x hx => ⟨x, fl_L.mp hx, geq_rfl _⟩) (fun y hy => ⟨y, fl_L.mpr hy, geq_rfl _⟩) (fun x hx => ⟨x, fl_R.mp hx, geq_rfl _⟩) (fun y hy => ⟨y, fl_R.mpr hy, geq_rfl _⟩) (fun K2 hK e => ?_)) (fun v m5 hq => ?_)
        · rw [← cf_of hK e]
          exact mem_FF.mpr (Or.inr ⟨b, r, hb, hr, rfl⟩)
        · refine ok_rt (hq.eqv (geq_rfl _) ?_)
          by_cases z : 0 < b + r
          · have := hp2 z
            have l1 : CL ≤ 90 + 800 * 2 ^ (b + r - 1) := cl
            by_cases zb : 0 < b
            · by_cases zr : 0 < r
              · rw [hCL, hCR, if_pos zb, if_pos zr]
                omega
              · rw [hCL, hCR, if_pos zb, if_neg zr]
                omega
            · rw [hCL, hCR, if_neg zb]
              split <;> omega
          · rw [hCL, hCR, if_neg (by omega), if_neg (by omega)]
            omega
      · by_cases z : 0 < r
        · rw [if_pos (by omega)]
          obtain ⟨v1, v2, v3, v4, v5, v6, v7, v8, v9⟩ := id W3
          have eb : b + r - 1 = b + (r - 1) := by omega
          have := hp2 (by omega)
          rw [show w32 ((r : Int) - 1) = ((r - 1 : Nat) : Int) by rw [show (r : Int) - 1 = ((r - 1 : Nat) : Int) by omega, w32_nat (by omega)]]
          rw [eb] at this pl cl hCR
          refine ok_cal (flowerOf_ok hn hp D b (r - 1) T3 m3 s3 (t + A.length + B3.length) v1 hb (by omega) (by omega) v5.1 (by omega) (by omega)) (fun v m5 hq => ?_)
          refine W3.push hq (by omega) (fun u T6 s6 m6 W6 ex6 => ?_)
          refine hj m6 ⟨T6, s6, B3 ++ [u], by rw [List.length_append, List.length_singleton]; omega, W6.g (fun x => ?_) (by rw [hCR, if_pos z]; omega)⟩
          constructor
          · rintro ((h | h) | rfl)
            · exact h.elim
            · exact Or.inl h
            · exact Or.inr ⟨z, rfl⟩
          · rintro (h | ⟨_, rfl⟩)
            · exact Or.inl (Or.inr h)
            · exact Or.inr rfl
        · rw [if_neg (by omega)]
          refine hj m3 ⟨T3, s3, B3, by omega, W3.g (fun x => ?_) (by rw [hCR]; omega)⟩
          exact ⟨fun h => h.elim (fun h => h.elim) Or.inl, fun h => h.elim Or.inr (fun h => absurd h.1 z)⟩
    · by_cases z : 0 < b
      · rw [if_pos (by omega)]
        obtain ⟨v1, v2, v3, v4, v5, v6, v7, v8, v9⟩ := id W1
        have eb : b + r - 1 = (b - 1) + r := by omega
        have p2 : 2 ^ (b + r) = 2 * 2 ^ ((b - 1) + r) := by rw [← pow_s]; congr 1; omega
        rw [show w32 ((b : Int) - 1) = ((b - 1 : Nat) : Int) by rw [show (b : Int) - 1 = ((b - 1 : Nat) : Int) by omega, w32_nat (by omega)]]
        rw [eb] at hCL
        refine ok_cal (flowerOf_ok hn hp D (b - 1) r T1 m1 s1 (t + A1.length) v1 (by omega) hr (by omega) v5.1 (by omega) (by omega)) (fun v m5 hq => ?_)
        refine W1.push hq (by omega) (fun u T6 s6 m6 W6 ex6 => ?_)
        refine hj m6 ⟨T6, s6, A1 ++ [u], by rw [List.length_append, List.length_singleton]; omega, W6.g (fun x => ?_) (by rw [hCL, if_pos z]; omega)⟩
        constructor
        · rintro ((h | h) | rfl)
          · exact h.elim
          · exact Or.inl h
          · exact Or.inr ⟨z, rfl⟩
        · rintro (h | ⟨_, rfl⟩)
          · exact Or.inl (Or.inr h)
          · exact Or.inr rfl
      · rw [if_neg (by omega)]
        refine hj m1 ⟨T1, s1, A1, by omega, W1.g (fun x => ?_) (by rw [hCL]; omega)⟩
        exact ⟨fun h => h.elim (fun h => h.elim) Or.inl, fun h => h.elim Or.inr (fun h => absurd h.1 z)⟩
theorem rflower_ok {n p a b c s t q : Nat} {m : Mem} {T : Tb} (hn : BIG < n) (B : RB m T (FF a) s t q) (hp : p < 8) (ha : 1 ≤ a ∧ a ≤ 4) (hb : b ≤ 3) (hc3 : c ≤ 3) : Ok (f_X11_flower n (p : Int) (a : Int) (b : Int) (c : Int) m) (fun v _ => v = ans (cf (fl a b c))) := by
  have B' := B
  obtain ⟨b1, b2, b3, b4, b5, b6, b7, b8⟩ := B'
  have small : 2 ^ (b + c) ≤ 2 ^ 6 := Nat.pow_le_pow_right (by decide) (by omega)
  have e6 : (2 : Nat) ^ 6 = 64 := by decide
  unfold f_X11_flower
  refine ok_calE rSlot_eq ?_
  refine ok_jn ?_
  rw [decide_eq_true (show (0 : Int) ≤ (p : Int) ∧ (p : Int) ≤ 7 by omega), if_neg (by decide)]
  refine ok_calE in_eq ?_
  rw [decide_eq_true (show (1 : Int) ≤ (a : Int) ∧ (a : Int) ≤ 4 by omega), if_neg (by decide)]
  refine ok_calE in_eq ?_
  rw [decide_eq_true (show (0 : Int) ≤ (b : Int) ∧ (b : Int) ≤ 3 by omega), if_neg (by decide)]
  refine ok_calE in_eq ?_
  rw [decide_eq_true (show (0 : Int) ≤ (c : Int) ∧ (c : Int) ≤ 3 by omega), if_neg (by decide)]
  refine ok_calE (gathers_eq b1) ?_
  refine ok_cal (flowerOf_ok hn (by omega) 10 b c T m s t b1 (by omega) (by omega) (by omega) b3 (by omega) (by omega)) (fun v m2 hq => ?_)
  refine ok_cal (holdsS_ok hn B (hq.eqv (cf_eq (fl a b c)).sy (Nat.le_refl _)) (can_cf _) hp) (fun v m3 hq => ?_)
  exact ok_rt hq
/-- whole numbers, heaps: the calls -/
noncomputable def WF : List Nat := (List.range 10).map (fun k => pc k) ++ ((List.range 10).map (fun k => nc k) ++ (List.range 10).map hc)
theorem WF_iz {j : Int} (h : j.natAbs ≤ 9) : iz j ∈ WF := by
  unfold WF
  rcases zcases j with ⟨k, rfl⟩ | ⟨k, rfl⟩
  · rw [iz_nn]
    exact List.mem_append_left _ (List.mem_map.mpr ⟨k, List.mem_range.mpr (by omega), rfl⟩)
  · rw [iz_neg]
    exact List.mem_append_right _ (List.mem_append_left _ (List.mem_map.mpr ⟨k + 1, List.mem_range.mpr (by omega), rfl⟩))
theorem WF_hc {j : Nat} (h : j ≤ 9) : hc j ∈ WF := List.mem_append_right _ (List.mem_append_right _ (List.mem_map.mpr ⟨j, List.mem_range.mpr (by omega), rfl⟩))
theorem WF_len : WF.length = 30 := by
  unfold WF
  rw [List.length_append, List.length_append, List.length_map, List.length_map, List.length_map, List.length_range]
theorem WF_bd {x : Nat} (h : x ∈ WF) : bd x ≤ 20 := by
  rcases List.mem_append.mp h with h | h
  · obtain ⟨k, hk, rfl⟩ := List.mem_map.mp h
    have := List.mem_range.mp hk
    rw [bd_pc]; omega
  · rcases List.mem_append.mp h with h | h
    · obtain ⟨k, hk, rfl⟩ := List.mem_map.mp h
      have := List.mem_range.mp hk
      rw [bd_nc]; omega
    · obtain ⟨k, hk, rfl⟩ := List.mem_map.mp h
      have := List.mem_range.mp hk
      rw [bd_hc]; omega
theorem rwhole_ok {n p s t q : Nat} {z : Int} {m : Mem} {T : Tb} (hn : BIG < n) (B : RB m T WF s t q) (hp : p < 8) (hz : z.natAbs ≤ 9) : Ok (f_X11_whole n (p : Int) z m) (fun v _ => v = ans (iz z)) := by
  have B' := B
  obtain ⟨b1, b2, b3, b4, b5, b6, b7, b8⟩ := B'
  unfold f_X11_whole
  refine ok_calE rSlot_eq ?_
  refine ok_jn ?_
  rw [decide_eq_true (show (0 : Int) ≤ (p : Int) ∧ (p : Int) ≤ 7 by omega), if_neg (by decide)]
  refine ok_calE in_eq ?_
  rw [decide_eq_true (show (-9 : Int) ≤ z ∧ z ≤ 9 by omega), if_neg (by decide)]
  refine ok_calE (gathers_eq b1) ?_
  refine ok_cal (wholeOf_ok hn b1 b3 (by omega) (by omega) (by omega) (fun j hj => WF_iz (by omega))) (fun v m2 hq => ?_)
  refine ok_cal (holdsS_ok hn B hq (can_iz z) hp) (fun v m3 hq => ?_)
  exact ok_rt hq
theorem rheap_ok {n p a s t q : Nat} {m : Mem} {T : Tb} (hn : BIG < n) (B : RB m T WF s t q) (hp : p < 8) (ha : a ≤ 9) : Ok (f_X11_heap n (p : Int) (a : Int) m) (fun v _ => v = ans (hc a)) := by
  have B' := B
  obtain ⟨b1, b2, b3, b4, b5, b6, b7, b8⟩ := B'
  unfold f_X11_heap
  refine ok_calE rSlot_eq ?_
  refine ok_jn ?_
  rw [decide_eq_true (show (0 : Int) ≤ (p : Int) ∧ (p : Int) ≤ 7 by omega), if_neg (by decide)]
  refine ok_calE in_eq ?_
  rw [decide_eq_true (show (0 : Int) ≤ (a : Int) ∧ (a : Int) ≤ 9 by omega), if_neg (by decide)]
  refine ok_calE (gathers_eq b1) ?_
  refine ok_cal (rheapOf_ok hn b1 b3 (by omega) (by omega) (by omega) (fun j hj => WF_hc (by omega))) (fun v m2 hq => ?_)
  refine ok_cal (holdsS_ok hn B hq (can_hc a) hp) (fun v m3 hq => ?_)
  exact ok_rt hq
