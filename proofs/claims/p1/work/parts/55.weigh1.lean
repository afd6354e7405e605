/-! THE WEIGHER: shifts, by what they add -/
/-- new nodes: followers of one, and one more, or less -/
def New (m m1 : Mem) (N N1 u a : Nat) : Prop := ∀ x, N ≤ x → x < N1 → ∃ o, fol (yden m u) o ∧ geq (yden m1 x) (gadd o (shg a))
theorem shift2_ok {n N u a : Nat} {p2 : Int} {m : Mem} (hn : 300 < n) (Y : YI m N) (hu : u < N) (hs : mGet m 4 14 = 0) (ha : a = 9 ∨ a = 10) (hp2 : (a = 9 ∧ p2 = 1) ∨ (a = 10 ∧ p2 = 0)) (hB : ∀ N1 m1, YI m1 N1 → YD m m1 N N1 → New m m1 N N1 u a → N1 ≤ 255) : Ok (f_X9_shifted n (u : Int) p2 m) (fun v m' => ∃ w N' : Nat, v = (w : Int) ∧ w < N' ∧ New m m' N N' u a ∧ YI m' N' ∧ mGet m' 4 14 = 0 ∧ YD m m' N N' ∧ geq (yden m' w) (gadd (yden m u) (shg a))) := by
  have h256 := Y.1.2.1
  unfold f_X9_shifted
  refine ok_calE (isNode_eq Y.1 hu) ?_
  rw [if_neg (by decide)]
  refine ok_cal (gather_ok hn Y.1 hu) (fun _ mg hg => ?_)
  obtain ⟨fg, wg⟩ := hg
  obtain ⟨Yg, hdg⟩ := Y.w17 fg
  let p : Nat → Bool := fun v => folB (yden m u) (yden m v)
  have hp : ∀ v, v ≤ u → (row mg 17 0).testBit v = p v := by
    intro v hv
    apply Bool.eq_iff_iff.mpr
    rw [wg]
    exact ⟨fun h => (folB_iff _ _).mpr h.2, fun h => ⟨hv, (folB_iff _ _).mp h⟩⟩
  rcases hp2 with ⟨rfl, rfl⟩ | ⟨rfl, rfl⟩
  · dsimp only [jn]
    rw [if_neg (show ¬ ((1 : Int) = 0) by decide)]
    refine ok_up1 (u + 1) (fun i m1 => ∃ N1, YI m1 N1 ∧ New m m1 N N1 u 9 ∧ mGet m1 4 14 = 0 ∧ YD m m1 N N1 ∧ row m1 17 0 = row mg 17 0 ∧ ∀ v, v < i → p v = true → mGet m1 9 v ≠ -1) (fun w i m1 hi hI hw => ?_) (fun w m1 hI => ?_) n 0 mg (Nat.zero_le _) ⟨N, Yg, fun x h5 h6 => by omega, (fg.1.1 4 14).trans hs, ⟨fun a i _ _ _ => fg.1.1 a i, fg.1.2, fun x _ => by rw [hdg], Nat.le_refl _⟩, rfl, fun v h => absurd h (Nat.not_lt_zero _)⟩ (by omega)
    · obtain ⟨N1, Y1, n1, s1, d1, r1, k1⟩ := hI
      have hNN := d1.2.2.2
      rw [if_neg (by omega), lenA_ok (kI9or ha) (by decide) (by decide) (by decide), if_pos (by omega)]
      refine ok_calE (hasS (by decide) (by omega)) ?_
      rw [r1, hp i (by omega), k_1 (by omega)]
      cases e : p i
      · rw [if_pos (by decide)]
        refine hw m1 ⟨N1, Y1, n1, s1, d1, r1, fun v hv hpv => ?_⟩
        rcases (by omega : v < i ∨ v = i) with h | rfl
        · exact k1 v h hpv
        · rw [e] at hpv; cases hpv
      · have hB1 := hB N1 m1 Y1 d1 n1
        rw [if_neg (by decide), ldI_ok (kI9or ha) (by omega)]
        have di : yden m1 i = yden m i := d1.2.2.1 i (by omega)
        by_cases q : mGet m1 9 i < 0
        · rw [if_pos q]
          have hu2 : fol (yden m u) (yden m i) := (folB_iff _ _).mp e
          refine ok_cal (begin_ok hn Y1) (fun _ m2 h2 => ?_)
          obtain ⟨G2, F2⟩ := h2
          rw [if_neg (show ¬ ((1 : Int) = 0) by decide)]
          refine ok_cal (mark_at (a := 9) (by omega) G2 ha) (fun _ m3 h3 => ?_)
          obtain ⟨G3, F3⟩ := h3
          have F23 := F2.tr F3
          have hk : ∀ o, o < i → (op (yden m3 i) 0 (yden m3 o) = true ∨ op (yden m3 i) 1 (yden m3 o) = true) → ∃ w, w < N1 ∧ mGet m3 9 o = (w : Int) ∧ geq (yden m3 w) (gadd (yden m3 o) (shg 9)) := by
            intro o ho hop
            have e3 : ∀ x, x < N1 → yden m3 x = yden m1 x := F23.2.2.2.1
            rw [e3 i (by omega), e3 o (by omega), di, d1.2.2.1 o (by omega)] at hop
            have po : p o = true := (folB_iff _ _).mpr (fol_tr hu2 (by
              rcases hop with h | h
              · exact fol_op (w := 0) (by decide) h (fol_rf _)
              · exact fol_op (w := 1) (by decide) h (fol_rf _)))
            have g3 : mGet m3 9 o = mGet m1 9 o := F23.1 9 o (by decide) (fun _ => by omega)
            rcases Y1.2.at ha (show o < N1 by omega) with h | ⟨w, h1, h2, h3⟩
            · exact absurd h (k1 o ho po)
            · exact ⟨w, h1, by rw [g3]; exact h2, by rw [e3 w h1, e3 o (by omega)]; exact h3⟩
          refine ok_up1 i (fun o m4 => YG m4 N1 (ShL m3 9 i o) (ShR m3 9 i o) ∧ YF m3 m4 N1 N1) (fun w4 o m4 ho hI4 hw4 => ?_) (fun w4 m4 hI4 => ?_) n 0 m3 (Nat.zero_le _) ⟨G3.iff (fun g => by rw [ShL_0, F3.2.2.2.1 i (by omega)]) (fun g => by rw [ShR_0, F3.2.2.2.1 i (by omega)]), YF.rf _ _⟩ (by omega)
          · obtain ⟨G4, F4⟩ := hI4
            rw [if_pos (by omega)]
            have dL := hasL_op G4.1.1 (show i < N1 by omega) (show o < N1 by omega)
            rw [F4.2.2.2.1 i (by omega), F4.2.2.2.1 o (by omega)] at dL
            refine ok_calE (hasL (by decide) (by omega) (by omega)) ?_
            rw [dL, k_1 (by omega)]
            have right : ∀ m5, YG m5 N1 (ShL m3 9 i (o + 1)) (ShR m3 9 i o) → YF m3 m5 N1 N1 → Ok (cal (f_X9_has n 6 (i : Int) (o : Int) m5) fun x132 m132 => if x132 = 0 then w4 ((o + 1 : Nat) : Int) m132 else ldI m132 9 (o : Int) fun x142 => cal (f_X9_addRight n x142 m132) fun _ m143 => w4 ((o + 1 : Nat) : Int) m143) (fun v m' => ∃ w N' : Nat, v = (w : Int) ∧ w < N' ∧ New m m' N N' u 9 ∧ YI m' N' ∧ mGet m' 4 14 = 0 ∧ YD m m' N N' ∧ geq (yden m' w) (gadd (yden m u) (shg 9))) := by
              intro m5 G5 F5
              have dR := hasR_op G5.1.1 (show i < N1 by omega) (show o < N1 by omega)
              rw [F5.2.2.2.1 i (by omega), F5.2.2.2.1 o (by omega)] at dR
              refine ok_calE (hasL (by decide) (by omega) (by omega)) ?_
              rw [dR]
              cases e5 : op (yden m3 i) 1 (yden m3 o)
              · rw [if_pos (by decide)]
                exact hw4 m5 ⟨G5.iff (fun g => Iff.rfl) (fun g => ShR_succ e5 g), F5⟩
              · obtain ⟨w, w1, w2, w3⟩ := hk o ho (Or.inr e5)
                rw [if_neg (by decide), ldI_ok (kI9or ha) (by omega), F5.1 9 o (by decide) (fun _ => by omega), w2]
                refine ok_cal (addRight_ok G5 w1) (fun _ m6 h6 => ?_)
                refine hw4 m6 ⟨h6.1.iff (fun g => Iff.rfl) (fun g => ?_), F5.tr h6.2⟩
                rw [ShR_add e5 w2, F5.2.2.2.1 w w1]
            cases e5 : op (yden m3 i) 0 (yden m3 o)
            · rw [if_pos (by decide)]
              exact right m4 (G4.iff (fun g => ShL_succ e5 g) (fun g => Iff.rfl)) F4
            · obtain ⟨w, w1, w2, w3⟩ := hk o ho (Or.inl e5)
              rw [if_neg (by decide), ldI_ok (kI9or ha) (by omega), F4.1 9 o (by decide) (fun _ => by omega), w2]
              refine ok_cal (addLeft_ok G4 w1) (fun _ m6 h6 => ?_)
              refine right m6 (h6.1.iff (fun g => ?_) (fun g => Iff.rfl)) (F4.tr h6.2)
              rw [ShL_add e5 w2, F4.2.2.2.1 w w1]
          · obtain ⟨G4, F4⟩ := hI4
            rw [if_neg (by omega)]
            have Y3 := G3.1
            refine ok_cal (gof_ok hn G4 (by omega) (sh_fits Y3 ha (show i < N1 by omega) hk)) (fun v5 m5 h5 => ?_)
            obtain ⟨w, N5, rfl, h52, h53, Y5, s5, F5, e5⟩ := h5
            have F15 := F23.tr (F4.tr F5)
            have hi3 : yden m3 i = yden m5 i := (F4.tr F5).2.2.2.1 i (by omega) |>.symm
            rw [hi3] at e5
            rw [stI_ok (kI9or ha) (by omega)]
            obtain ⟨Y6, d6⟩ := Y5.put (u := i) ha h52 e5
            have gN : ∀ b k, mGet (mSet m5 9 i (w : Int)) b k = if b = 9 ∧ k = i then (w : Int) else mGet m5 b k := by
              intro b k
              have := Y5.1.2.1
              rw [mGet_mSet, w32_nat (by omega)]
            have nw : New m (mSet m5 9 i (w : Int)) N N5 u 9 := fun x h5 h6 => by
              rw [d6]
              by_cases ex : x < N1
              · rw [F15.2.2.2.1 x ex]; exact n1 x h5 ex
              · rw [show x = w by omega]
                exact ⟨_, hu2, by rw [← di, ← F15.2.2.2.1 i (by omega)]; exact e5⟩
            refine hw _ ⟨N5, Y6, nw, by rw [gN, if_neg (by omega)]; exact s5, d1.tr ⟨fun b k h1 h2 h3 => by rw [gN, if_neg (by omega)]; exact F15.d.1 b k h1 h2 h3, F15.2.1, F15.2.2.2.1, F15.2.2.2.2⟩, (F15.2.2.1 0).trans r1, fun v hv hpv => ?_⟩
            rw [gN]
            by_cases ev : v = i
            · rw [if_pos ⟨rfl, ev⟩]; omega
            · rw [if_neg (fun h => ev h.2), F15.1 9 v (by decide) (fun _ => by omega)]
              exact k1 v (by omega) hpv
        · rw [if_neg q]
          refine hw m1 ⟨N1, Y1, n1, s1, d1, r1, fun v hv hpv => ?_⟩
          rcases (by omega : v < i ∨ v = i) with h | rfl
          · exact k1 v h hpv
          · omega
    · obtain ⟨N1, Y1, n1, s1, d1, r1, k1⟩ := hI
      have hNN := d1.2.2.2
      rw [if_pos (by omega), lenA_ok (kI9or ha) (by decide) (by decide) (by decide), if_pos (by omega), ldI_ok (kI9or ha) (by omega)]
      have pu : p u = true := (folB_iff _ _).mpr (fol_rf _)
      rcases Y1.2.at ha (show u < N1 by omega) with h | ⟨w, h1, h2, h3⟩
      · exact absurd h (k1 u (by omega) pu)
      · rw [h2]
        exact ok_rt ⟨w, N1, rfl, h1, n1, Y1, s1, d1, by rw [← d1.2.2.1 u hu]; exact h3⟩
  · dsimp only [jn]
    rw [if_pos (show (0 : Int) = 0 from rfl)]
    refine ok_up1 (u + 1) (fun i m1 => ∃ N1, YI m1 N1 ∧ New m m1 N N1 u 10 ∧ mGet m1 4 14 = 0 ∧ YD m m1 N N1 ∧ row m1 17 0 = row mg 17 0 ∧ ∀ v, v < i → p v = true → mGet m1 10 v ≠ -1) (fun w i m1 hi hI hw => ?_) (fun w m1 hI => ?_) n 0 mg (Nat.zero_le _) ⟨N, Yg, fun x h5 h6 => by omega, (fg.1.1 4 14).trans hs, ⟨fun a i _ _ _ => fg.1.1 a i, fg.1.2, fun x _ => by rw [hdg], Nat.le_refl _⟩, rfl, fun v h => absurd h (Nat.not_lt_zero _)⟩ (by omega)
    · obtain ⟨N1, Y1, n1, s1, d1, r1, k1⟩ := hI
      have hNN := d1.2.2.2
      rw [if_neg (by omega), lenA_ok (kI9or ha) (by decide) (by decide) (by decide), if_pos (by omega)]
      refine ok_calE (hasS (by decide) (by omega)) ?_
      rw [r1, hp i (by omega), k_1 (by omega)]
      cases e : p i
      · rw [if_pos (by decide)]
        refine hw m1 ⟨N1, Y1, n1, s1, d1, r1, fun v hv hpv => ?_⟩
        rcases (by omega : v < i ∨ v = i) with h | rfl
        · exact k1 v h hpv
        · rw [e] at hpv; cases hpv
      · have hB1 := hB N1 m1 Y1 d1 n1
        rw [if_neg (by decide), ldI_ok (kI9or ha) (by omega)]
        have di : yden m1 i = yden m i := d1.2.2.1 i (by omega)
        by_cases q : mGet m1 10 i < 0
        · rw [if_pos q]
          have hu2 : fol (yden m u) (yden m i) := (folB_iff _ _).mp e
          refine ok_cal (begin_ok hn Y1) (fun _ m2 h2 => ?_)
          obtain ⟨G2, F2⟩ := h2
          rw [if_pos (show (0 : Int) = 0 from rfl)]
          refine ok_cal (mark_at (a := 10) (by omega) G2 ha) (fun _ m3 h3 => ?_)
          obtain ⟨G3, F3⟩ := h3
          have F23 := F2.tr F3
          have hk : ∀ o, o < i → (op (yden m3 i) 0 (yden m3 o) = true ∨ op (yden m3 i) 1 (yden m3 o) = true) → ∃ w, w < N1 ∧ mGet m3 10 o = (w : Int) ∧ geq (yden m3 w) (gadd (yden m3 o) (shg 10)) := by
            intro o ho hop
            have e3 : ∀ x, x < N1 → yden m3 x = yden m1 x := F23.2.2.2.1
            rw [e3 i (by omega), e3 o (by omega), di, d1.2.2.1 o (by omega)] at hop
            have po : p o = true := (folB_iff _ _).mpr (fol_tr hu2 (by
              rcases hop with h | h
              · exact fol_op (w := 0) (by decide) h (fol_rf _)
              · exact fol_op (w := 1) (by decide) h (fol_rf _)))
            have g3 : mGet m3 10 o = mGet m1 10 o := F23.1 10 o (by decide) (fun _ => by omega)
            rcases Y1.2.at ha (show o < N1 by omega) with h | ⟨w, h1, h2, h3⟩
            · exact absurd h (k1 o ho po)
            · exact ⟨w, h1, by rw [g3]; exact h2, by rw [e3 w h1, e3 o (by omega)]; exact h3⟩
          refine ok_up1 i (fun o m4 => YG m4 N1 (ShL m3 10 i o) (ShR m3 10 i o) ∧ YF m3 m4 N1 N1) (fun w4 o m4 ho hI4 hw4 => ?_) (fun w4 m4 hI4 => ?_) n 0 m3 (Nat.zero_le _) ⟨G3.iff (fun g => by rw [ShL_0, F3.2.2.2.1 i (by omega)]) (fun g => by rw [ShR_0, F3.2.2.2.1 i (by omega)]), YF.rf _ _⟩ (by omega)
          · obtain ⟨G4, F4⟩ := hI4
            rw [if_pos (by omega)]
            have dL := hasL_op G4.1.1 (show i < N1 by omega) (show o < N1 by omega)
            rw [F4.2.2.2.1 i (by omega), F4.2.2.2.1 o (by omega)] at dL
            refine ok_calE (hasL (by decide) (by omega) (by omega)) ?_
            rw [dL, k_1 (by omega)]
            have right : ∀ m5, YG m5 N1 (ShL m3 10 i (o + 1)) (ShR m3 10 i o) → YF m3 m5 N1 N1 → Ok (cal (f_X9_has n 6 (i : Int) (o : Int) m5) fun x132 m132 => if x132 = 0 then w4 ((o + 1 : Nat) : Int) m132 else ldI m132 10 (o : Int) fun x142 => cal (f_X9_addRight n x142 m132) fun _ m143 => w4 ((o + 1 : Nat) : Int) m143) (fun v m' => ∃ w N' : Nat, v = (w : Int) ∧ w < N' ∧ New m m' N N' u 10 ∧ YI m' N' ∧ mGet m' 4 14 = 0 ∧ YD m m' N N' ∧ geq (yden m' w) (gadd (yden m u) (shg 10))) := by
              intro m5 G5 F5
              have dR := hasR_op G5.1.1 (show i < N1 by omega) (show o < N1 by omega)
              rw [F5.2.2.2.1 i (by omega), F5.2.2.2.1 o (by omega)] at dR
              refine ok_calE (hasL (by decide) (by omega) (by omega)) ?_
              rw [dR]
              cases e5 : op (yden m3 i) 1 (yden m3 o)
              · rw [if_pos (by decide)]
                exact hw4 m5 ⟨G5.iff (fun g => Iff.rfl) (fun g => ShR_succ e5 g), F5⟩
              · obtain ⟨w, w1, w2, w3⟩ := hk o ho (Or.inr e5)
                rw [if_neg (by decide), ldI_ok (kI9or ha) (by omega), F5.1 10 o (by decide) (fun _ => by omega), w2]
                refine ok_cal (addRight_ok G5 w1) (fun _ m6 h6 => ?_)
                refine hw4 m6 ⟨h6.1.iff (fun g => Iff.rfl) (fun g => ?_), F5.tr h6.2⟩
                rw [ShR_add e5 w2, F5.2.2.2.1 w w1]
            cases e5 : op (yden m3 i) 0 (yden m3 o)
            · rw [if_pos (by decide)]
              exact right m4 (G4.iff (fun g => ShL_succ e5 g) (fun g => Iff.rfl)) F4
            · obtain ⟨w, w1, w2, w3⟩ := hk o ho (Or.inl e5)
              rw [if_neg (by decide), ldI_ok (kI9or ha) (by omega), F4.1 10 o (by decide) (fun _ => by omega), w2]
              refine ok_cal (addLeft_ok G4 w1) (fun _ m6 h6 => ?_)
              refine right m6 (h6.1.iff (fun g => ?_) (fun g => Iff.rfl)) (F4.tr h6.2)
              rw [ShL_add e5 w2, F4.2.2.2.1 w w1]
          · obtain ⟨G4, F4⟩ := hI4
            rw [if_neg (by omega)]
            have Y3 := G3.1
            refine ok_cal (gof_ok hn G4 (by omega) (sh_fits Y3 ha (show i < N1 by omega) hk)) (fun v5 m5 h5 => ?_)
            obtain ⟨w, N5, rfl, h52, h53, Y5, s5, F5, e5⟩ := h5
            have F15 := F23.tr (F4.tr F5)
            have hi3 : yden m3 i = yden m5 i := (F4.tr F5).2.2.2.1 i (by omega) |>.symm
            rw [hi3] at e5
            rw [stI_ok (kI9or ha) (by omega)]
            obtain ⟨Y6, d6⟩ := Y5.put (u := i) ha h52 e5
            have gN : ∀ b k, mGet (mSet m5 10 i (w : Int)) b k = if b = 10 ∧ k = i then (w : Int) else mGet m5 b k := by
              intro b k
              have := Y5.1.2.1
              rw [mGet_mSet, w32_nat (by omega)]
            have nw : New m (mSet m5 10 i (w : Int)) N N5 u 10 := fun x h5 h6 => by
              rw [d6]
              by_cases ex : x < N1
              · rw [F15.2.2.2.1 x ex]; exact n1 x h5 ex
              · rw [show x = w by omega]
                exact ⟨_, hu2, by rw [← di, ← F15.2.2.2.1 i (by omega)]; exact e5⟩
            refine hw _ ⟨N5, Y6, nw, by rw [gN, if_neg (by omega)]; exact s5, d1.tr ⟨fun b k h1 h2 h3 => by rw [gN, if_neg (by omega)]; exact F15.d.1 b k h1 h2 h3, F15.2.1, F15.2.2.2.1, F15.2.2.2.2⟩, (F15.2.2.1 0).trans r1, fun v hv hpv => ?_⟩
            rw [gN]
            by_cases ev : v = i
            · rw [if_pos ⟨rfl, ev⟩]; omega
            · rw [if_neg (fun h => ev h.2), F15.1 10 v (by decide) (fun _ => by omega)]
              exact k1 v (by omega) hpv
        · rw [if_neg q]
          refine hw m1 ⟨N1, Y1, n1, s1, d1, r1, fun v hv hpv => ?_⟩
          rcases (by omega : v < i ∨ v = i) with h | rfl
          · exact k1 v h hpv
          · omega
    · obtain ⟨N1, Y1, n1, s1, d1, r1, k1⟩ := hI
      have hNN := d1.2.2.2
      rw [if_pos (by omega), lenA_ok (kI9or ha) (by decide) (by decide) (by decide), if_pos (by omega), ldI_ok (kI9or ha) (by omega)]
      have pu : p u = true := (folB_iff _ _).mpr (fol_rf _)
      rcases Y1.2.at ha (show u < N1 by omega) with h | ⟨w, h1, h2, h3⟩
      · exact absurd h (k1 u (by omega) pu)
      · rw [h2]
        exact ok_rt ⟨w, N1, rfl, h1, n1, Y1, s1, d1, by rw [← d1.2.2.1 u hu]; exact h3⟩
