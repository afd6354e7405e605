/-! THE WEIGHER: how far one comes -/
theorem kI37 (m : Mem) : sKind m 37 = (1, 10) := rfl
theorem kI38 (m : Mem) : sKind m 38 = (1, 10) := rfl
/-- barred: some option's weight, raised (or lowered), is at most (or at least) this one -/
def Bz (x : Nat) (p : Bool) (d : Nat → Nat) (z : Nat) : Prop := ∃ j, x.testBit j = true ∧ (if p = true then gle (d j) z else gle z (d j))
theorem Bz.mono {x : Nat} {p : Bool} {d : Nat → Nat} {y z : Nat} (h : Bz x p d y) (hyz : if p = true then gle y z else gle z y) : Bz x p d z := by
  obtain ⟨j, h1, h2⟩ := h
  refine ⟨j, h1, ?_⟩
  cases p
  · rw [if_neg (by decide)] at *; exact gle_tr hyz h2
  · rw [if_pos rfl] at *; exact gle_tr h2 hyz
theorem isBarred_ok {n N u x : Nat} {p : Bool} {c : Nat → Nat} {m : Mem} (hn : 300 < n) (Y : YI m N) (hu : u < N) (hx : x < 1024) (hc : ∀ j, x.testBit j = true → c j < N ∧ mGet m (if p = true then 38 else 37) j = (c j : Int)) : Ok (f_X8_isBarred n (x : Int) (u : Int) (b2i p) m) (fun v m' => m' = m ∧ ∃ b, v = b2i b ∧ (b = true ↔ Bz x p (fun j => yden m (c j)) (yden m u))) := by
  unfold f_X8_isBarred
  refine ok_up1 10 (fun i m' => m' = m ∧ ∀ j, j < i → x.testBit j = true → ¬ (if p = true then gle (yden m (c j)) (yden m u) else gle (yden m u) (yden m (c j)))) (fun w i m' hi hI hw => ?_) (fun w m' hI => ?_) n 0 m (Nat.zero_le _) ⟨rfl, fun j hj => absurd hj (Nat.not_lt_zero _)⟩ (by omega)
  · obtain ⟨rfl, no⟩ := hI
    dsimp only [jn]
    rw [if_pos (by omega), k_1 (by omega)]
    cases e : x.testBit i
    · rw [if_pos ((ibit0 (by omega) (by omega)).mpr e)]
      refine hw _ ⟨rfl, fun j hj hb => ?_⟩
      by_cases q : j = i
      · rw [q, e] at hb; cases hb
      · exact no j (by omega) hb
    · rw [if_neg (fun q => by rw [(ibit0 (by omega) (by omega)).mp q] at e; cases e)]
      obtain ⟨c1, c2⟩ := hc i e
      have go : ∀ b : Bool, (b = true ↔ (if p = true then gle (yden m' (c i)) (yden m' u) else gle (yden m' u) (yden m' (c i)))) → Ok (if b2i b = 0 then w ((i + 1 : Nat) : Int) m' else rtZ 1 m') (fun v m'' => m'' = m' ∧ ∃ b, v = b2i b ∧ (b = true ↔ Bz x p (fun j => yden m' (c j)) (yden m' u))) := by
        intro b hb
        cases b
        · rw [if_pos (show b2i false = 0 from rfl)]
          refine hw _ ⟨rfl, fun j hj hb2 q3 => ?_⟩
          by_cases q : j = i
          · rw [q] at q3; exact absurd (hb.mpr q3) (by decide)
          · exact no j (by omega) hb2 q3
        · rw [if_neg (show ¬ b2i true = 0 by decide)]
          exact ok_rtZ (Or.inr rfl) ⟨rfl, true, rfl, ⟨fun _ => ⟨i, e, hb.mp rfl⟩, fun _ => rfl⟩⟩
      cases p
      · rw [if_pos (show b2i false = 0 from rfl)]
        rw [if_neg (by decide)] at c2
        rw [ldI_ok (kI37 _) (by omega), c2]
        refine ok_calE (isAtMost_eq Y.1 hu c1) ?_
        exact go _ (by rw [gleB_iff, if_neg (by decide)])
      · rw [if_neg (show ¬ b2i true = 0 by decide)]
        rw [if_pos rfl] at c2
        rw [ldI_ok (kI38 _) (by omega), c2]
        refine ok_calE (isAtMost_eq Y.1 c1 hu) ?_
        exact go _ (by rw [gleB_iff, if_pos rfl])
  · obtain ⟨rfl, no⟩ := hI
    rw [if_neg (by omega)]
    refine ok_rtZ (Or.inl rfl) ⟨rfl, false, rfl, ⟨fun h => Bool.noConfusion h, fun ⟨j, h1, h2⟩ => ?_⟩⟩
    by_cases q : j < 10
    · exact absurd h2 (no j q h1)
    · rw [Nat.testBit_lt_two_pow (Nat.lt_of_lt_of_le hx (Nat.pow_le_pow_right (n := 2) (i := 10) (j := j) (by decide) (by omega)))] at h1
      cases h1
/-- the way of a walk -/
def sw (p : Bool) : Int := if p = true then 1 else -1
set_option maxHeartbeats 1000000 in
theorem furthest_ok {n N u x k : Nat} {p : Bool} {z : Int} {c : Nat → Nat} {w : Nat → Nat} {m : Mem} (hn : 300 < n) (Y : YI m N) (hs : mGet m 4 14 = 0) (hu : u < N) (hx : x < 1024) (hc : ∀ j, x.testBit j = true → c j < N ∧ mGet m (if p = true then 38 else 37) j = (c j : Int)) (hk : 1 ≤ k ∧ k ≤ 9) (hP : ∀ x, x < N → Fw2 w k k 0 0 (yden m x)) (hz : geq (yden m u) (iz z)) (hzk : z.natAbs ≤ k) (h0 : ¬ Bz x p (fun j => yden m (c j)) (iz z)) (h1 : Bz x p (fun j => yden m (c j)) (iz (sw p * ((k : Int) + 1)))) : Ok (f_X8_furthest n (x : Int) (u : Int) (b2i p) m) (fun v m' => ∃ (u N' : Nat) (y : Int), v = (u : Int) ∧ u < N' ∧ YI m' N' ∧ mGet m' 4 14 = 0 ∧ YD m m' N N' ∧ geq (yden m' u) (iz y) ∧ y.natAbs ≤ k ∧ ¬ Bz x p (fun j => yden m (c j)) (iz y) ∧ Bz x p (fun j => yden m (c j)) (iz (y + sw p)) ∧ ∀ x, x < N' → Fw2 w k k 0 0 (yden m' x)) := by
  unfold f_X8_furthest
  obtain ⟨a, ea⟩ : ∃ a : Nat, a = if p = true then 9 else 10 := ⟨_, rfl⟩
  have ha : a = 9 ∨ a = 10 := by rw [ea]; cases p; exact Or.inr rfl; exact Or.inl rfl
  have shw : shz a = sw p := by rw [ea]; cases p <;> rfl
  have swp : sw p = 1 ∨ sw p = -1 := by cases p; exact Or.inr rfl; exact Or.inl rfl
  have hp2 : (a = 9 ∧ b2i p = 1) ∨ (a = 10 ∧ b2i p = 0) := by rw [ea]; cases p; exact Or.inr ⟨rfl, rfl⟩; exact Or.inl ⟨rfl, rfl⟩
  -- who is not barred is near
  have near : ∀ y : Int, ¬ Bz x p (fun j => yden m (c j)) (iz y) → sw p * y ≤ (k : Int) := by
    intro y hy
    apply Classical.byContradiction
    intro q
    refine hy (h1.mono ?_)
    cases p
    · rw [if_neg (by decide)]
      rw [show sw false = -1 from rfl] at q ⊢
      exact iz_le.mpr (by omega)
    · rw [if_pos rfl]
      rw [show sw true = 1 from rfl] at q ⊢
      exact iz_le.mpr (by omega)
  refine ok_up2 64 (fun i v m1 => ∃ (u N1 : Nat), v = (u : Int) ∧ u < N1 ∧ YI m1 N1 ∧ mGet m1 4 14 = 0 ∧ YD m m1 N N1 ∧ geq (yden m1 u) (iz (z + sw p * (i : Int))) ∧ ¬ Bz x p (fun j => yden m (c j)) (iz (z + sw p * (i : Int))) ∧ ∀ x, x < N1 → Fw2 w k k 0 0 (yden m1 x)) (fun w2 i v m1 hi hI hw => ?_) (fun w2 v m1 hI => ?_) n 0 (u : Int) m (Nat.zero_le _) ⟨u, N, rfl, hu, Y, hs, YD.rf _ _, by rw [show z + sw p * ((0 : Nat) : Int) = z by rcases swp with q | q <;> rw [q] <;> omega]; exact hz, by rw [show z + sw p * ((0 : Nat) : Int) = z by rcases swp with q | q <;> rw [q] <;> omega]; exact h0, hP⟩ (by omega)
  · obtain ⟨u1, N1, rfl, hu1, Y1, s1, d1, g1, b1, P1⟩ := hI
    obtain ⟨y, ey⟩ : ∃ y : Int, y = z + sw p * (i : Int) := ⟨_, rfl⟩
    rw [← ey] at g1 b1
    have ny := near y b1
    have yk : y.natAbs ≤ k := by rcases swp with q | q <;> rw [q] at ny ey <;> omega
    have e1 : yden m1 u1 = iz y := can_uniq (Y1.1.2.2.2.2.2.1 u1 hu1) (can_iz y) g1
    have nextP : ∀ N2 m2, YD m1 m2 N1 N2 → New m1 m2 N1 N2 u1 a → ∀ x, x < N2 → Fw2 w k k 0 0 (yden m2 x) := by
      intro N2 m2 d2 nw x hx
      by_cases q : x < N1
      · rw [d2.2.2.1 x q]; exact P1 x q
      · obtain ⟨o, h2, h3⟩ := nw x (by omega) hx
        rw [e1] at h2
        obtain ⟨y2, rfl, h4⟩ := fol_iz y.natAbs y o (Nat.le_refl _) h2
        rw [shg_z ha, shw] at h3
        refine Or.inl ⟨y2 + sw p, ?_, ?_, h3.tr (iz_add _ _)⟩ <;> rcases swp with q | q <;> rw [q] <;> omega
    rw [if_pos (by omega), k_1 (by omega)]
    refine ok_cal (shift2_ok (a := a) hn Y1 hu1 s1 ha hp2 (fun N2 m2 Y2 d2 nw => by
      have := wN Y2 hk.2 (by omega) (by decide) (by decide) (nextP N2 m2 d2 nw)
      omega)) (fun v2 m2 h2 => ?_)
    obtain ⟨u2, N2, rfl, hu2, nw2, Y2, s2, d2, g2⟩ := h2
    have P2 := nextP N2 m2 d2 nw2
    have d02 := d1.tr d2
    rw [shg_z ha, shw, e1] at g2
    have g2' : geq (yden m2 u2) (iz (y + sw p)) := g2.tr (iz_add _ _)
    have e2 : yden m2 u2 = iz (y + sw p) := can_uniq (Y2.1.2.2.2.2.2.1 u2 hu2) (can_iz _) g2'
    dsimp only [jn]
    rw [if_neg (by omega)]
    have old : ∀ j, x.testBit j = true → yden m2 (c j) = yden m (c j) := fun j hj => d02.2.2.1 _ (hc j hj).1
    have sameB : ∀ q, Bz x p (fun j => yden m2 (c j)) q ↔ Bz x p (fun j => yden m (c j)) q := fun q => by
      constructor
      · rintro ⟨j, h3, h4⟩
        refine ⟨j, h3, ?_⟩
        show if p = true then gle (yden m (c j)) q else gle q (yden m (c j))
        rw [← old j h3]; exact h4
      · rintro ⟨j, h3, h4⟩
        refine ⟨j, h3, ?_⟩
        have h4 : if p = true then gle (yden m (c j)) q else gle q (yden m (c j)) := h4
        rw [← old j h3] at h4; exact h4
    refine ok_cal (isBarred_ok (c := c) hn Y2 hu2 hx (fun j hj => ⟨by have := (hc j hj).1; have := d02.2.2.2; omega, by
      rw [d02.1 _ _ (by cases p <;> decide) (by cases p <;> decide) (by cases p <;> decide)]; exact (hc j hj).2⟩)) (fun v3 m3 h3 => ?_)
    obtain ⟨rfl, b, rfl, hb⟩ := h3
    rw [sameB, e2] at hb
    cases b
    · rw [if_pos (show b2i false = 0 from rfl)]
      have e3 : z + sw p * ((i + 1 : Nat) : Int) = y + sw p := by rw [ey]; rcases swp with q | q <;> rw [q] <;> omega
      refine hw _ _ ⟨u2, N2, rfl, hu2, Y2, s2, d02, ?_, ?_, P2⟩
      · rw [e3]; exact g2'
      · rw [e3]; exact fun q => Bool.noConfusion (hb.mpr q)
    · rw [if_neg (show ¬ b2i true = 0 by decide)]
      refine ok_rt ⟨u1, N2, y, rfl, by have := d2.2.2.2; omega, Y2, s2, d02, ?_, yk, b1, hb.mp rfl, P2⟩
      rw [d2.2.2.1 u1 hu1]; exact g1
  · obtain ⟨u1, N1, rfl, hu1, Y1, s1, d1, g1, b1, P1⟩ := hI
    have ny := near _ b1
    exfalso
    rcases swp with q | q <;> rw [q] at ny <;> omega
