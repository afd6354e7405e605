/-! THE CLASS: FLOWERS -/
/-- the options of one side, told -/
def FL (w : Nat) (S : Nat → Prop) (g : Nat) : Prop := (∀ x, op g w x = true → ∃ y, S y ∧ geq y x) ∧ (∀ y, S y → ∃ x, op g w x = true ∧ geq y x)
theorem FL.fits {SL SR : Nat → Prop} {g : Nat} (a : FL 0 SL g) (b : FL 1 SR g) : Fits SL SR g := ⟨a.1, a.2, b.1, b.2⟩
theorem flL_0 {s r : Nat} : FL 0 (HS s) (fl s 0 r) := ⟨fun x hx => by
  rcases fl_L.mp hx with h | h
  · exact ⟨x, h, geq_rfl _⟩
  · exact absurd h.1 (by decide), fun y hy => ⟨y, fl_L.mpr (Or.inl hy), geq_rfl _⟩⟩
theorem flR_0 {s b : Nat} : FL 1 (HS s) (fl s b 0) := ⟨fun x hx => by
  rcases fl_R.mp hx with h | h
  · exact ⟨x, h, geq_rfl _⟩
  · exact absurd h.1 (by decide), fun y hy => ⟨y, fl_R.mpr (Or.inl hy), geq_rfl _⟩⟩
theorem flL_s {s b r u : Nat} (hb : 0 < b) (hu : geq u (fl s (b - 1) r)) : FL 0 (fun z => HS s z ∨ z = u) (fl s b r) := ⟨fun x hx => by
  rcases fl_L.mp hx with h | ⟨_, rfl⟩
  · exact ⟨x, Or.inl h, geq_rfl _⟩
  · exact ⟨u, Or.inr rfl, hu⟩, fun y hy => by
  rcases hy with h | rfl
  · exact ⟨y, fl_L.mpr (Or.inl h), geq_rfl _⟩
  · exact ⟨_, fl_L.mpr (Or.inr ⟨hb, rfl⟩), hu⟩⟩
theorem flR_s {s b r u : Nat} (hr : 0 < r) (hu : geq u (fl s b (r - 1))) : FL 1 (fun z => HS s z ∨ z = u) (fl s b r) := ⟨fun x hx => by
  rcases fl_R.mp hx with h | ⟨_, rfl⟩
  · exact ⟨x, Or.inl h, geq_rfl _⟩
  · exact ⟨u, Or.inr rfl, hu⟩, fun y hy => by
  rcases hy with h | rfl
  · exact ⟨y, fl_R.mpr (Or.inl h), geq_rfl _⟩
  · exact ⟨_, fl_R.mpr (Or.inr ⟨hr, rfl⟩), hu⟩⟩
/-- the table of flowers, with their games -/
def FT2 (s : Nat) (m : Mem) (N : Nat) (P : Nat → Nat → Prop) : Prop := ∀ a b, P a b → ∃ c : Nat, c < N ∧ mGet m 30 (11 * a + b) = (c : Int) ∧ geq (yden m c) (fl s a b)
theorem FT2.fr {s : Nat} {m m' : Mem} {N N' : Nat} {P : Nat → Nat → Prop} (h : FT2 s m N P) (f : YF m m' N N') (hN : N ≤ N') : FT2 s m' N' P := fun a b hp => by
  obtain ⟨c, c1, c2, c3⟩ := h a b hp
  exact ⟨c, by omega, by rw [(f.toFr hN).2 30 _ (by decide) (by decide)]; exact c2, by rw [f.old c1]; exact c3⟩
/-- the flower that was laid last -/
def flast (s p3 i j : Nat) : Nat := if j = 0 then fl s (i - 1) p3 else fl s i (j - 1)
set_option maxHeartbeats 1000000 in
theorem flowerA_ok {n p1 p2 p3 : Nat} {m : Mem} (hn : 300 < n) (h1 : p1 ≤ 9) (h2 : p2 ≤ 3) (h3 : p3 ≤ 3) (hb : mNext m + 4 < 2147483648) : Ok (f_X2_flowerOf n (p1 : Int) (p2 : Int) (p3 : Int) m) (fun v m' => Res m' v (cf (fl p1 p2 p3)) ∧ Fr m m' SM ∧ mNext m' ≤ mNext m + 4) := by
  unfold f_X2_flowerOf
  dsimp only [jn]
  obtain ⟨F, eF⟩ : ∃ F, F = FF p1 := ⟨_, rfl⟩
  have mem : ∀ k, k ≤ p1 → hc k ∈ F := fun k hk => by rw [eF]; exact mem_FF.mpr (Or.inl ⟨k, by omega, rfl⟩)
  have lF : F.length ≤ 255 := by rw [eF, FF_len]; decide
  have memf : ∀ i j, i ≤ p2 → j ≤ p3 → ∀ K, can K → geq K (fl p1 i j) → K ∈ F := fun i j hi hj K cK e => by
    rw [eF]
    exact mem_FF.mpr (Or.inr ⟨i, j, by omega, by omega, (cf_of cK e).symm⟩)
  have F0 : 0 ∈ F := by have := mem 0 (Nat.zero_le _); rw [hc_0] at this; exact this
  refine ok_cal (clearB (F := F) hn F0 lF) (fun _ m1 q1 => ?_)
  obtain ⟨Y1, f1, n1, _⟩ := q1
  refine ok_cal (heapNode_ok hn Y1 (by omega) mem) (fun v m2 q2 => ?_)
  obtain ⟨u0, N0, rfl, hu0, _, Y2, f2, z2, _, H2⟩ := q2
  have f2' : Fr m m2 SM := (f1.weak (fun a h => Or.inl h)).tr (f2.weak (fun a h => h.elim Or.inl (fun h => Or.inr (by omega))))
  have n2 : mNext m2 = mNext m := (mNext_eq z2).trans n1
  -- what holds as flowers are laid
  obtain ⟨J, eJ⟩ : ∃ J : Nat → Nat → Int → Mem → Prop, J = fun i j a m3 => ∃ N, YB m3 N F ∧ Fr m m3 SM ∧ mNext m3 = mNext m ∧ HR m3 N (p1 + 1) ∧ FT2 p1 m3 N (fun a b => (a < i ∧ b ≤ p3) ∨ (a = i ∧ b < j)) ∧ (0 < i + j → ∃ c : Nat, a = (c : Int) ∧ c < N ∧ geq (yden m3 c) (flast p1 p3 i j)) := ⟨_, rfl⟩
  refine ok_up2 (p2 + 1) (fun i a m3 => J i 0 a m3) (fun w i a m3 hi hI hw => ?_) (fun w a m3 hI => ?_) n 0 (-1) m2 (Nat.zero_le _) (by
    rw [eJ]
    exact ⟨N0, Y2, f2', n2, H2, fun a b h => by omega, fun h => by omega⟩) (by omega)
  · rw [if_neg (by omega), if_pos (by omega), k_1 (by omega)]
    refine ok_up2 (p3 + 1) (fun j a m4 => J i j a m4) (fun w2 j a m4 hj hJ hw2 => ?_) (fun w2 a m4 hJ => ?_) n 0 a m3 (Nat.zero_le _) hI (by omega)
    · rw [if_neg (by omega), if_pos (by omega), k_1 (by omega)]
      rw [eJ] at hJ
      obtain ⟨N, Y4, f4, n4, H4, T4, _⟩ := hJ
      refine ok_cal (beginHeap_ok hn Y4 (by omega) (fun j hj => H4 j (by omega))) (fun _ m5 q5 => ?_)
      obtain ⟨G5, F5⟩ := q5
      -- the end of one
      have fin : ∀ (m6 : Mem) (SL SR : Nat → Prop), YG m6 N SL SR → YF m5 m6 N N → FL 0 SL (fl p1 i j) → FL 1 SR (fl p1 i j) → Ok (cal (f_X9_end n m6) fun x111 m111 => stI m111 30 (w32 ((w32 ((i : Int) * 11)) + (j : Int))) x111 fun m130 => w2 x111 ((j + 1 : Nat) : Int) m130) (fun v m' => Res m' v (cf (fl p1 p2 p3)) ∧ Fr m m' SM ∧ mNext m' ≤ mNext m + 4) := by
        intro m6 SL SR G6 F6 hL hR
        have F46 := F5.tr F6
        refine ok_cal (endF_ok hn G6 (fun v hv => by rw [F46.old hv]; exact Y4.2.2.1 v hv) lF (hL.fits hR) (memf i j (by omega) (by omega))) (fun v7 m7 q7 => ?_)
        obtain ⟨u, N7, rfl, u1, u2, Y7, F7, g7⟩ := q7
        have F47 := F46.tr F7
        rw [p_ix (by omega) (by omega), stI_ok (kI30 _) (by omega)]
        have G8 : ∀ a b, mGet (mSet m7 30 (11 * i + j) (u : Int)) a b = if a = 30 ∧ b = 11 * i + j then (u : Int) else mGet m7 a b := fun a b => by rw [mGet_mSet, w32_nat (by have := Y7.lt; omega)]
        obtain ⟨Y8, d8⟩ := Y7.1.lg (m' := mSet m7 30 (11 * i + j) (u : Int)) rfl (fun a b q => by rw [G8, if_neg (by omega)])
        have T7 := T4.fr F47 u2
        have H7 := H4.fr F47 u2
        refine hw2 _ _ ?_
        rw [eJ]
        refine ⟨N7, ⟨Y8, by rw [G8, if_neg (by omega)]; exact Y7.2.1, fun v hv => by rw [d8]; exact Y7.2.2.1 v hv, lF⟩, (f4.tr ((F47.toFr u2).weak (fun a h => Or.inl h))).tr (Fr.of rfl (fun a b q => by rw [G8, if_neg (fun h => q ⟨by omega, Or.inr (by omega)⟩)])), by show mNext m7 = _; rw [YB.next F47]; exact n4, fun k hk => ?_, fun a b q => ?_, fun _ => ⟨u, rfl, u1, ?_⟩⟩
        · obtain ⟨c, c1, c2, c3⟩ := H7 k hk
          exact ⟨c, c1, by rw [G8, if_neg (by omega)]; exact c2, by rw [d8]; exact c3⟩
        · by_cases q2 : a = i ∧ b = j
          · exact ⟨u, u1, by rw [G8, if_pos ⟨rfl, by rw [q2.1, q2.2]⟩], by rw [d8, q2.1, q2.2]; exact g7⟩
          · obtain ⟨c, e1, e2, e3⟩ := T7 a b (by omega)
            exact ⟨c, e1, by rw [G8, if_neg (by omega)]; exact e2, by rw [d8]; exact e3⟩
        · rw [d8]
          unfold flast
          rw [if_neg (by omega), Nat.add_sub_cancel]
          exact g7
      have T6 : ∀ m6, YF m5 m6 N N → FT2 p1 m6 N (fun a b => (a < i ∧ b ≤ p3) ∨ (a = i ∧ b < j)) := fun m6 F6 => T4.fr (F5.tr F6) (Nat.le_refl _)
      -- the option of right
      have snd : ∀ (m6 : Mem) (SL : Nat → Prop), YG m6 N SL (HS p1) → YF m5 m6 N N → FL 0 SL (fl p1 i j) → Ok (if 0 < (j : Int) then (
              ldI m6 30 (w32 ((w32 ((w32 ((i : Int) * 11)) + (j : Int))) - 1)) fun x103 =>
              cal (f_X9_addRight n x103 m6) fun _ m104 =>
              cal (f_X9_end n m104) fun x111 m111 =>
              stI m111 30 (w32 ((w32 ((i : Int) * 11)) + (j : Int))) x111 fun m130 =>
              w2 x111 ((j + 1 : Nat) : Int) m130
            ) else
            cal (f_X9_end n m6) fun x111 m111 =>
              stI m111 30 (w32 ((w32 ((i : Int) * 11)) + (j : Int))) x111 fun m130 =>
              w2 x111 ((j + 1 : Nat) : Int) m130) (fun v m' => Res m' v (cf (fl p1 p2 p3)) ∧ Fr m m' SM ∧ mNext m' ≤ mNext m + 4) := by
        intro m6 SL G6 F6 hL
        by_cases q : j = 0
        · rw [if_neg (by omega)]
          exact fin m6 _ _ G6 F6 hL (by rw [q]; exact flR_0)
        · rw [if_pos (by omega), p_ix (by omega) (by omega), w32_id (x := ((11 * i + j : Nat) : Int) - 1) (by omega) (by omega), show ((11 * i + j : Nat) : Int) - 1 = ((11 * i + (j - 1) : Nat) : Int) by omega, ldI_ok (kI30 _) (by omega)]
          obtain ⟨c, c1, c2, c3⟩ := T6 m6 F6 i (j - 1) (Or.inr ⟨rfl, by omega⟩)
          rw [c2]
          refine ok_cal (addRight_ok G6 c1) (fun _ m7 q7 => ?_)
          have := fin m7 _ _ q7.1 (F6.tr q7.2) hL (flR_s (by omega) c3)
          rw [p_ix (by omega) (by omega)] at this
          exact this
      by_cases q : i = 0
      · rw [if_neg (by omega)]
        exact snd m5 _ G5 (YF.rf _ _) (by rw [q]; exact flL_0)
      · rw [if_pos (by omega), w32_id (x := (i : Int) - 1) (by omega) (by omega), show (i : Int) - 1 = ((i - 1 : Nat) : Int) by omega, p_ix (by omega) (by omega), ldI_ok (kI30 _) (by omega)]
        obtain ⟨c, c1, c2, c3⟩ := T6 m5 (YF.rf _ _) (i - 1) j (Or.inl ⟨by omega, by omega⟩)
        rw [c2]
        refine ok_cal (addLeft_ok G5 c1) (fun _ m6 q6 => ?_)
        exact snd m6 _ q6.1 q6.2 (flL_s (by omega) c3)
    · rw [if_pos (by omega)]
      refine hw a m4 ?_
      rw [eJ] at hJ ⊢
      obtain ⟨N, Y4, f4, n4, H4, T4, l4⟩ := hJ
      refine ⟨N, Y4, f4, n4, H4, fun a b q => T4 a b (by omega), fun _ => ?_⟩
      obtain ⟨c, x1, x2, x3⟩ := l4 (by omega)
      refine ⟨c, x1, x2, ?_⟩
      unfold flast at x3 ⊢
      rw [if_neg (by omega), Nat.add_sub_cancel] at x3
      rw [if_pos rfl, Nat.add_sub_cancel]
      exact x3
  · rw [if_pos (by omega)]
    rw [eJ] at hI
    obtain ⟨N, Y4, f4, n4, H4, T4, l4⟩ := hI
    obtain ⟨c, rfl, lc, gc⟩ := l4 (by omega)
    unfold flast at gc
    rw [if_pos rfl, Nat.add_sub_cancel] at gc
    have cc := Y4.1.1.2.2.2.2.2.1 c lc
    have ec : cf (fl p1 p2 p3) = yden m3 c := cf_of cc gc
    rw [ec]
    refine writ_res hn Y4.1 lc Y4.2.1 (by omega) (fun v m' r1 r2 r3 _ _ _ => ?_)
    exact ⟨r1, f4.tr (r2.weak (fun a h => Or.inl h)), by omega⟩
section CT2
variable {n : Nat} {m : Mem}
theorem Cflower (hn : BIG < n) (h : FZ m) {p a b c : Int} : Ok (f_X10_flower n p a b c m) (fun v _ => v = ansFl p a b c) := by
  have n4 := BIG_m hn
  have C := h.1.1
  have nx := h.1.2.2
  unfold f_X10_flower ansFl
  refine ok_calE cSlot_eq ?_
  refine ok_jn ?_
  by_cases hp : 0 ≤ p ∧ p ≤ 7
  · rw [decide_eq_true hp, if_neg (by decide)]
    refine ok_calE isWithin_eq ?_
    by_cases ha : 1 ≤ a ∧ a ≤ 4
    · rw [decide_eq_true ha, if_neg (by decide)]
      refine ok_calE isWithin_eq ?_
      by_cases hb : 0 ≤ b ∧ b ≤ 3
      · rw [decide_eq_true hb, if_neg (by decide)]
        refine ok_calE isWithin_eq ?_
        by_cases hc3 : 0 ≤ c ∧ c ≤ 3
        · rw [decide_eq_true hc3, if_neg (by decide), if_pos (show (0 ≤ p ∧ p ≤ 7) ∧ (1 ≤ a ∧ a ≤ 4) ∧ (0 ≤ b ∧ b ≤ 3) ∧ (0 ≤ c ∧ c ≤ 3) from ⟨hp, ha, hb, hc3⟩)]
          obtain ⟨p', rfl⟩ : ∃ p' : Nat, p = (p' : Int) := ⟨p.toNat, by omega⟩
          obtain ⟨a', rfl⟩ : ∃ a' : Nat, a = (a' : Int) := ⟨a.toNat, by omega⟩
          obtain ⟨b', rfl⟩ : ∃ b' : Nat, b = (b' : Int) := ⟨b.toNat, by omega⟩
          obtain ⟨c', rfl⟩ : ∃ c' : Nat, c = (c' : Int) := ⟨c.toNat, by omega⟩
          rw [Int.toNat_natCast, Int.toNat_natCast, Int.toNat_natCast]
          refine ok_cal (flowerA_ok (by omega) (by omega) (by omega) (by omega) (by omega)) (fun v m1 h1 => ?_)
          obtain ⟨R, f1, n1⟩ := h1
          refine ok_cal (settle_ok (by omega) (C.fr (f1.weak (fun a h => SM_SC h))) (by omega) (can_cf _) R) (fun r m2 h2 => ok_rt h2.1.ans)
        · rw [decide_eq_false hc3, if_pos rb_f, if_neg (fun z => hc3 z.2.2.2)]
          exact cf1 m
      · rw [decide_eq_false hb, if_pos rb_f, if_neg (fun z => hb z.2.2.1)]
        exact cf1 m
    · rw [decide_eq_false ha, if_pos rb_f, if_neg (fun z => ha z.2.1)]
      exact cf1 m
  · rw [decide_eq_false hp, if_pos rb_f, if_neg (fun z => hp z.1)]
    exact cf1 m
end CT2
