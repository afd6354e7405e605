/-! THE YARD: followers, values, sums with 1 and -1 -/
theorem ok_up2 {body : (Int → Int → Mem → Option Rz) → Int → Int → Mem → Option Rz} {Q : Int → Mem → Prop} (N : Nat) (I : Nat → Int → Mem → Prop) (hstep : ∀ (w : Int → Int → Mem → Option Rz) (i : Nat) a m, i < N → I i a m → (∀ a' m', I (i + 1) a' m' → Ok (w a' ((i + 1 : Nat) : Int) m') Q) → Ok (body w a (i : Int) m) Q) (hend : ∀ (w : Int → Int → Mem → Option Rz) a m, I N a m → Ok (body w a (N : Int) m) Q) : ∀ (n i : Nat) a m, i ≤ N → I i a m → N - i < n → Ok (lp (F := Int → Int → Mem → Option Rz) (fun _ _ _ => none) body n a (i : Int) m) Q
  | 0, i, a, m, _, _, hn => absurd hn (Nat.not_lt_zero _)
  | n + 1, i, a, m, hi, h, hn => by
    by_cases hN : i < N
    · exact hstep _ i a m hN h (fun a' m' h' => ok_up2 N I hstep hend n (i + 1) a' m' (by omega) h' (by omega))
    · have e : i = N := by omega
      subst e
      exact hend _ a m h
theorem YI.w17 {m m' : Mem} {N : Nat} (Y : YI m N) (h : WFr m m' S17) : YI m' N ∧ yden m' = yden m := Y.fr (fun a r ha => h.2 a r (by omega)) (fun a i _ => h.1.1 a i)
/-- the frame of what may also ask for followers -/
def YE (m m' : Mem) (N N' : Nat) : Prop := (∀ a i, a ≠ 4 → (a = 9 ∨ a = 10 → i < N) → mGet m' a i = mGet m a i) ∧ m'.2.2 = m.2.2 ∧ (∀ x, x < N → yden m' x = yden m x) ∧ N ≤ N'
theorem YE.rf (m : Mem) (N : Nat) : YE m m N N := ⟨fun _ _ _ _ => rfl, rfl, fun _ _ => rfl, Nat.le_refl _⟩
theorem YE.tr {a b c : Mem} {N M L : Nat} (h1 : YE a b N M) (h2 : YE b c M L) : YE a c N L := ⟨fun i j h3 h4 => (h2.1 i j h3 (fun q => Nat.lt_of_lt_of_le (h4 q) h1.2.2.2)).trans (h1.1 i j h3 h4), h2.2.1.trans h1.2.1, fun x hx => (h2.2.2.1 x (Nat.lt_of_lt_of_le hx h1.2.2.2)).trans (h1.2.2.1 x hx), Nat.le_trans h1.2.2.2 h2.2.2.2⟩
theorem YF.e {m m' : Mem} {N N' : Nat} (h : YF m m' N N') : YE m m' N N' := ⟨h.1, h.2.1, h.2.2.2.1, h.2.2.2.2⟩
theorem kI19 (m : Mem) : sKind m 19 = (1, 10) := rfl
set_option maxHeartbeats 1000000 in
theorem followers_ok {n N u : Nat} {m : Mem} (hn : 300 < n) (Y : YI m N) (hu : u < N) (hs : mGet m 4 14 = 0) : Ok (f_X9_followers n (u : Int) 19 m) (fun v m' => YI m' N ∧ yden m' = yden m ∧ m'.2.2 = m.2.2 ∧ mGet m' 4 14 = 0 ∧ (∀ a i, a ≠ 19 → mGet m' a i = mGet m a i) ∧ ((v = -1 ∧ 10 < (nl m u).length) ∨ (v = ((nl m u).length : Int) ∧ (nl m u).length ≤ 10 ∧ ∀ j (h : j < (nl m u).length), mGet m' 19 j = ((nl m u)[j] : Int)))) := by
  have h256 := Y.1.2.1
  unfold f_X9_followers
  refine ok_calE (isNode_eq Y.1 hu) ?_
  rw [if_neg (by decide)]
  refine ok_cal (gather_ok hn Y.1 hu) (fun _ m1 h1 => ?_)
  obtain ⟨f1, w1⟩ := h1
  obtain ⟨Y1, hd⟩ := Y.w17 f1
  let p : Nat → Bool := fun v => folB (yden m u) (yden m v)
  have hp : ∀ v, v ≤ u → (row m1 17 0).testBit v = p v := by
    intro v hv
    apply Bool.eq_iff_iff.mpr
    rw [w1]
    exact ⟨fun h => (folB_iff _ _).mpr h.2, fun h => ⟨hv, (folB_iff _ _).mp h⟩⟩
  have hnl : nl m u = fr p (u + 1) := rfl
  rw [hnl]
  refine ok_up2 (u + 1) (fun i a m2 => a = ((fr p i).length : Int) ∧ (fr p i).length ≤ 10 ∧ (∀ a r, row m2 a r = row m1 a r) ∧ m2.2.2 = m.2.2 ∧ (∀ a i, a ≠ 19 → mGet m2 a i = mGet m a i) ∧ ∀ j (h : j < (fr p i).length), mGet m2 19 j = ((fr p i)[j] : Int)) (fun w i a m2 hi hI hw => ?_) (fun w a m2 hI => ?_) n 0 0 m1 (Nat.zero_le _) ⟨rfl, Nat.zero_le _, fun _ _ => rfl, f1.1.2, fun a i _ => f1.1.1 a i, fun j h => absurd h (Nat.not_lt_zero _)⟩ (by omega)
  · obtain ⟨rfl, i1, i2, i3, i4, i5⟩ := hI
    rw [if_neg (by omega)]
    refine ok_calE (hasS (by decide) (by omega)) ?_
    rw [i2 17 0, hp i (by omega), k_1 (by omega)]
    dsimp only [jn]
    cases e : p i
    · rw [if_pos (by decide)]
      have e2 : fr p (i + 1) = fr p i := by rw [fr_succ, e]; exact List.append_nil _
      exact hw _ m2 ⟨by rw [e2], by rw [e2]; exact i1, i2, i3, i4, by rw [e2]; exact i5⟩
    · rw [if_neg (by decide), lenA_ok (kI19 m2) (by decide) (by decide) (by decide)]
      have e2 : fr p (i + 1) = fr p i ++ [i] := by rw [fr_succ, e]; rfl
      have e3 : (fr p (i + 1)).length = (fr p i).length + 1 := by rw [e2, List.length_append]; rfl
      by_cases hl : (fr p i).length < 10
      · rw [if_pos (by omega), stI_ok (kI19 m2) hl, k_1 (by omega)]
        refine hw _ _ ⟨by rw [e3], by omega, fun a r => i2 a r, i3, fun a k ha => ?_, fun j hj => ?_⟩
        · rw [mGet_mSet, if_neg (fun q => ha q.1)]; exact i4 a k ha
        · rw [mGet_mSet]
          by_cases hj2 : j = (fr p i).length
          · rw [if_pos ⟨rfl, hj2⟩, w32_nat (by omega)]
            subst hj2
            congr 1
            simp [e2]
          · rw [if_neg (fun q => hj2 q.2), i5 j (by omega)]
            congr 1
            simp only [e2]
            rw [List.getElem_append_left (by omega)]
      · rw [if_neg (by omega)]
        have := fr_mono p (show i + 1 ≤ u + 1 by omega)
        have hg : ∀ a k, ¬ (a = 19) → mGet m2 a k = mGet m1 a k := fun a k h => (i4 a k h).trans (f1.1.1 a k).symm
        obtain ⟨Y2, hd2⟩ : YI m2 N ∧ yden m2 = yden m := by
          obtain ⟨⟨y1, y2, y3, y4, y5, y6, y7⟩, R⟩ := Y1
          have hd2 : yden m2 = yden m1 := by
            funext v
            exact den_congr v (fun u _ => ⟨i2 5 u, i2 6 u⟩)
          refine ⟨⟨⟨by rw [hg _ _ (by decide)]; exact y1, y2, fun v hv c hc => y3 v hv c (by rw [i2, i2] at hc; exact hc), fun v hv c => by rw [i2, hd2]; exact y4 v hv c, fun v hv c => by rw [i2, hd2]; exact y5 v hv c, fun v hv => by rw [hd2]; exact y6 v hv, fun u v hu hv q => y7 u v hu hv (by rw [hd2] at q; exact q)⟩, fun c hc => by rw [hg _ _ (by decide), hg _ _ (by decide), hd2]; exact R c hc⟩, hd2.trans hd⟩
        exact ok_rt ⟨Y2, hd2, i3, (i4 4 14 (by decide)).trans hs, i4, Or.inl ⟨rfl, by omega⟩⟩
  · obtain ⟨rfl, i1, i2, i3, i4, i5⟩ := hI
    rw [if_pos (by omega)]
    have hg : ∀ a k, ¬ (a = 19) → mGet m2 a k = mGet m1 a k := fun a k h => (i4 a k h).trans (f1.1.1 a k).symm
    obtain ⟨Y2, hd2⟩ : YI m2 N ∧ yden m2 = yden m := by
      obtain ⟨⟨y1, y2, y3, y4, y5, y6, y7⟩, R⟩ := Y1
      have hd2 : yden m2 = yden m1 := by
        funext v
        exact den_congr v (fun u _ => ⟨i2 5 u, i2 6 u⟩)
      refine ⟨⟨⟨by rw [hg _ _ (by decide)]; exact y1, y2, fun v hv c hc => y3 v hv c (by rw [i2, i2] at hc; exact hc), fun v hv c => by rw [i2, hd2]; exact y4 v hv c, fun v hv c => by rw [i2, hd2]; exact y5 v hv c, fun v hv => by rw [hd2]; exact y6 v hv, fun u v hu hv q => y7 u v hu hv (by rw [hd2] at q; exact q)⟩, fun c hc => by rw [hg _ _ (by decide), hg _ _ (by decide), hd2]; exact R c hc⟩, hd2.trans hd⟩
    exact ok_rt ⟨Y2, hd2, i3, (i4 4 14 (by decide)).trans hs, i4, Or.inr ⟨rfl, i1, i5⟩⟩
theorem valueOf_ok {n N u : Nat} {m : Mem} (hn : 300 < n) (Y : YI m N) (hu : u < N) (hs : mGet m 4 14 = 0) : Ok (f_X9_valueOf n (u : Int) m) (fun v m' => YI m' N ∧ YE m m' N N ∧ mGet m' 4 14 = 0 ∧ yden m' = yden m ∧ (Bare (yden m u) 1 → v = ((nl m u).length : Int) - 1) ∧ (¬ Bare (yden m u) 1 → v = 1 - ((nl m u).length : Int))) := by
  have h256 := Y.1.2.1
  unfold f_X9_valueOf
  refine ok_calE (isNode_eq Y.1 hu) ?_
  rw [if_neg (by decide)]
  refine ok_cal (gather_ok hn Y.1 hu) (fun _ m1 h1 => ?_)
  obtain ⟨f1, w1⟩ := h1
  obtain ⟨Y1, hd⟩ := Y.w17 f1
  let p : Nat → Bool := fun v => folB (yden m u) (yden m v)
  have hp : ∀ v, v ≤ u → (row m1 17 0).testBit v = p v := by
    intro v hv
    apply Bool.eq_iff_iff.mpr
    rw [w1]
    exact ⟨fun h => (folB_iff _ _).mpr h.2, fun h => ⟨hv, (folB_iff _ _).mp h⟩⟩
  have hnl : nl m u = fr p (u + 1) := rfl
  rw [hnl]
  refine ok_up2 (u + 1) (fun i a m2 => a = ((fr p i).length : Int) - 1 ∧ m2 = m1) (fun w i a m2 hi hI hw => ?_) (fun w a m2 hI => ?_) n 0 (-1) m1 (Nat.zero_le _) ⟨rfl, rfl⟩ (by omega)
  · obtain ⟨rfl, rfl⟩ := hI
    rw [if_neg (by omega)]
    refine ok_calE (hasS (by decide) (by omega)) ?_
    rw [hp i (by omega), k_1 (by omega)]
    dsimp only [jn]
    have hle := fr_le p i
    have e3 := fr_len p i
    cases e : p i
    · rw [if_pos (by decide)]
      rw [e] at e3
      exact hw _ _ ⟨by rw [e3]; rfl, rfl⟩
    · rw [if_neg (by decide)]
      rw [e, if_pos rfl] at e3
      exact hw _ _ ⟨by rw [e3, w32_id (by omega) (by omega)]; omega, rfl⟩
  · obtain ⟨rfl, rfl⟩ := hI
    rw [if_pos (by omega)]
    have hle := fr_le p (u + 1)
    refine ok_calE (isBare_eq (by omega) (kL _ (by decide)) (by omega) (by decide)) ?_
    obtain ⟨_, q2⟩ := bare_iff Y1.1 hu
    rw [hd] at q2
    dsimp only [jn]
    have fe : YE m m2 N N := ⟨fun a i _ _ => f1.1.1 a i, f1.1.2, fun x _ => by rw [hd], Nat.le_refl _⟩
    have s2 : mGet m2 4 14 = 0 := (f1.1.1 4 14).trans hs
    by_cases e : row m2 6 u = 0
    · rw [decide_eq_true e, if_neg (by decide)]
      exact ok_rt ⟨Y1, fe, s2, hd, fun _ => rfl, fun h => absurd (q2.mp e) h⟩
    · rw [decide_eq_false e, if_pos (by decide)]
      exact ok_rt ⟨Y1, fe, s2, hd, fun h => absurd (q2.mpr h) e, fun _ => by rw [w32_id (by omega) (by omega)]; omega⟩

