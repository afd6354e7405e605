set_option maxRecDepth 100000 in
set_option maxHeartbeats 8000000 in
theorem law_loop {l : Launch} {D : va_G} {base Ls : Nat} {xs : Nat → Int32} {y : MethodName} {ad : Nat → Nat} {hp0 : g_H} (hL : Ls ≤ 3072) (n : Nat) : ∀ (f i k s : Nat) (mc mr : Mem), i ≤ 3072 → lawRun n xs Ls f i k s mc mr → AW l D base (0, Ls, xs) RL y cL_law 4 (some .boolean) 840 600000 7302250 ad hp0 PostL k s (E2 mc mr) 18 [(3, iv (i : Int)), (2, .ref 100), (1, .ref 1), (0, .ref 0)] []
  | 0, _, _, _, _, _, _, h => h.elim
  | f + 1, i, k, s, mc, mr, hi0, h => by
    have ih := law_loop (xs := xs) (l := l) (D := D) (base := base) (y := y) (ad := ad) (hp0 := hp0) hL n f
    have hiR : inR (i : Int) := ⟨by omega, by omega⟩
    refine aw_iload_n (pc := 18) dL_law_18 rfl ?_
    refine aw_aload_n (pc := 19) dL_law_19 rfl ?_
    refine cx_slen (sc := (0, Ls, xs)) (pc := 20) hL dL_law_20 ?_
    refine cx_bipush (pc := 21) dL_law_21 (by decide) ?_
    refine cx_isub (pc := 23) dL_law_23 ?_
    have e6 : w32 ((Ls : Int) - 6) = (Ls : Int) - 6 := w32_id (by omega) (by omega)
    refine AW.eqs (st' := [iv ((Ls : Int) - 6), iv (i : Int)]) (by rw [show w32 (((0, Ls, xs) : g_S).2.1 - 6 : Int) = (Ls : Int) - 6 from e6]) ?_
    unfold lawRun at h
    by_cases h6 : i + 6 ≤ Ls
    · rw [if_pos h6] at h
      obtain ⟨N, r1, r2, H1, H2, he, hk, hs, h⟩ := h
      refine aw_icmp_gt (pc := 24) 1419 dL_law_24 rfl (fun q => absurd q (by rw [oI_lt ⟨by omega, by omega⟩ hiR]; omega)) (fun _ => ?_)
      refine aw_aload_n (pc := 27) dL_law_27 rfl ?_
      refine aw_iload_n (pc := 28) dL_law_28 rfl ?_
      refine cx_sld (sc := (0, Ls, xs)) (pc := 29) (i + 0) (by omega) (by show i + 0 < Ls; omega) hL dL_law_29 ?_
      refine cx_bipush (pc := 30) dL_law_30 (by decide) ?_
      refine cx_iand (pc := 32) dL_law_32 ?_
      have fin : ∀ (k' s' : Nat), k' = k + (costOf N (iand (xs (i + 0)).toInt 63)).1 → s' = s + (costOf N (iand (xs (i + 0)).toInt 63)).2 → AW l D base (0, Ls, xs) RL y cL_law 4 (some .boolean) 840 600000 7302250 ad hp0 PostL k' s' (E2 r1.2 r2.2) 1413 [(3, iv (i : Int)), (2, .ref 100), (1, .ref 1), (0, .ref 0)] [] := by
        intro k' s' e1 e2
        subst e1 e2
        refine cx_iinc (pc := 1413) [(3, iv (w32 ((i : Int) + 6))), (2, .ref 100), (1, .ref 1), (0, .ref 0)] dL_law_1413 rfl rfl (by decide) ?_
        refine aw_goto (pc := 1416) 18 dL_law_1416 rfl ?_
        refine AW.eqL (L' := [(3, iv ((i + 6 : Nat) : Int)), (2, .ref 100), (1, .ref 1), (0, .ref 0)]) (by rw [w32_ij 6 (i + 6) (by omega) (by omega)]) ?_
        exact ih (i + 6) _ _ _ _ (by omega) h
      have hq : inR (iand (xs (i + 0)).toInt 63) := inR_32 _
      unfold stepC at H1
      unfold stepR at H2
      dsimp only at H1 H2
      rcases sw_eq H1 with ⟨q0, H1⟩ | ⟨q0, H1⟩
      · rw [if_pos q0] at H2
        have ec : costOf N (iand (xs (i + 0)).toInt 63) = (0, 0) := by rw [q0]; rfl
        refine cx_tabIn (pc := 33) 188 0 q0 dL_law_33 (by decide) (by decide) rfl rfl ?_
        exact law_0 hL h6 n N r1 r2 H1 H2 he (by rw [ec] at hk; exact hk) (by rw [ec] at hs; exact hs) (fin _ _ (by rw [ec]) (by rw [ec]))
      rw [if_neg q0] at H2
      rcases sw_eq H1 with ⟨q1, H1⟩ | ⟨q1, H1⟩
      · rw [if_pos q1] at H2
        have ec : costOf N (iand (xs (i + 0)).toInt 63) = (0, 0) := by rw [q1]; rfl
        refine cx_tabIn (pc := 33) 221 1 q1 dL_law_33 (by decide) (by decide) rfl rfl ?_
        exact law_1 hL h6 n N r1 r2 H1 H2 he (by rw [ec] at hk; exact hk) (by rw [ec] at hs; exact hs) (fin _ _ (by rw [ec]) (by rw [ec]))
      rw [if_neg q1] at H2
      rcases sw_eq H1 with ⟨q2, H1⟩ | ⟨q2, H1⟩
      · rw [if_pos q2] at H2
        have ec : costOf N (iand (xs (i + 0)).toInt 63) = (0, 0) := by rw [q2]; rfl
        refine cx_tabIn (pc := 33) 244 2 q2 dL_law_33 (by decide) (by decide) rfl rfl ?_
        exact law_2 hL h6 n N r1 r2 H1 H2 he (by rw [ec] at hk; exact hk) (by rw [ec] at hs; exact hs) (fin _ _ (by rw [ec]) (by rw [ec]))
      rw [if_neg q2] at H2
      rcases sw_eq H1 with ⟨q3, H1⟩ | ⟨q3, H1⟩
      · rw [if_pos q3] at H2
        have ec : costOf N (iand (xs (i + 0)).toInt 63) = (4, 125) := by rw [q3]; rfl
        refine cx_tabIn (pc := 33) 277 3 q3 dL_law_33 (by decide) (by decide) rfl rfl ?_
        exact law_3 hL h6 n N r1 r2 H1 H2 he (by rw [ec] at hk; exact hk) (by rw [ec] at hs; exact hs) (fin _ _ (by rw [ec]) (by rw [ec]))
      rw [if_neg q3] at H2
      rcases sw_eq H1 with ⟨q4, H1⟩ | ⟨q4, H1⟩
      · rw [if_pos q4] at H2
        have ec : costOf N (iand (xs (i + 0)).toInt 63) = (4, 125) := by rw [q4]; rfl
        refine cx_tabIn (pc := 33) 310 4 q4 dL_law_33 (by decide) (by decide) rfl rfl ?_
        exact law_4 hL h6 n N r1 r2 H1 H2 he (by rw [ec] at hk; exact hk) (by rw [ec] at hs; exact hs) (fin _ _ (by rw [ec]) (by rw [ec]))
      rw [if_neg q4] at H2
      rcases sw_eq H1 with ⟨q5, H1⟩ | ⟨q5, H1⟩
      · rw [if_pos q5] at H2
        have ec : costOf N (iand (xs (i + 0)).toInt 63) = (64, 2000) := by rw [q5]; rfl
        refine cx_tabIn (pc := 33) 343 5 q5 dL_law_33 (by decide) (by decide) rfl rfl ?_
        exact law_5 hL h6 n N r1 r2 H1 H2 he (by rw [ec] at hk; exact hk) (by rw [ec] at hs; exact hs) (fin _ _ (by rw [ec]) (by rw [ec]))
      rw [if_neg q5] at H2
      rcases sw_eq H1 with ⟨q6, H1⟩ | ⟨q6, H1⟩
      · rw [if_pos q6] at H2
        have ec : costOf N (iand (xs (i + 0)).toInt 63) = (4, 125) := by rw [q6]; rfl
        refine cx_tabIn (pc := 33) 386 6 q6 dL_law_33 (by decide) (by decide) rfl rfl ?_
        exact law_6 hL h6 n N r1 r2 H1 H2 he (by rw [ec] at hk; exact hk) (by rw [ec] at hs; exact hs) (fin _ _ (by rw [ec]) (by rw [ec]))
      rw [if_neg q6] at H2
      rcases sw_eq H1 with ⟨q7, H1⟩ | ⟨q7, H1⟩
      · rw [if_pos q7] at H2
        have ec : costOf N (iand (xs (i + 0)).toInt 63) = (4, 125) := by rw [q7]; rfl
        refine cx_tabIn (pc := 33) 439 7 q7 dL_law_33 (by decide) (by decide) rfl rfl ?_
        exact law_7 hL h6 n N r1 r2 H1 H2 he (by rw [ec] at hk; exact hk) (by rw [ec] at hs; exact hs) (fin _ _ (by rw [ec]) (by rw [ec]))
      rw [if_neg q7] at H2
      rcases sw_eq H1 with ⟨q8, H1⟩ | ⟨q8, H1⟩
      · rw [if_pos q8] at H2
        have ec : costOf N (iand (xs (i + 0)).toInt 63) = (4, 125) := by rw [q8]; rfl
        refine cx_tabIn (pc := 33) 482 8 q8 dL_law_33 (by decide) (by decide) rfl rfl ?_
        exact law_8 hL h6 n N r1 r2 H1 H2 he (by rw [ec] at hk; exact hk) (by rw [ec] at hs; exact hs) (fin _ _ (by rw [ec]) (by rw [ec]))
      rw [if_neg q8] at H2
      rcases sw_eq H1 with ⟨q9, H1⟩ | ⟨q9, H1⟩
      · rw [if_pos q9] at H2
        have ec : costOf N (iand (xs (i + 0)).toInt 63) = (4, 125) := by rw [q9]; rfl
        refine cx_tabIn (pc := 33) 525 9 q9 dL_law_33 (by decide) (by decide) rfl rfl ?_
        exact law_9 hL h6 n N r1 r2 H1 H2 he (by rw [ec] at hk; exact hk) (by rw [ec] at hs; exact hs) (fin _ _ (by rw [ec]) (by rw [ec]))
      rw [if_neg q9] at H2
      rcases sw_eq H1 with ⟨q10, H1⟩ | ⟨q10, H1⟩
      · rw [if_pos q10] at H2
        have ec : costOf N (iand (xs (i + 0)).toInt 63) = (4, 125) := by rw [q10]; rfl
        refine cx_tabIn (pc := 33) 558 10 q10 dL_law_33 (by decide) (by decide) rfl rfl ?_
        exact law_10 hL h6 n N r1 r2 H1 H2 he (by rw [ec] at hk; exact hk) (by rw [ec] at hs; exact hs) (fin _ _ (by rw [ec]) (by rw [ec]))
      rw [if_neg q10] at H2
      rcases sw_eq H1 with ⟨q11, H1⟩ | ⟨q11, H1⟩
      · rw [if_pos q11] at H2
        have ec : costOf N (iand (xs (i + 0)).toInt 63) = (0, 0) := by rw [q11]; rfl
        refine cx_tabIn (pc := 33) 611 11 q11 dL_law_33 (by decide) (by decide) rfl rfl ?_
        exact law_11 hL h6 n N r1 r2 H1 H2 he (by rw [ec] at hk; exact hk) (by rw [ec] at hs; exact hs) (fin _ _ (by rw [ec]) (by rw [ec]))
      rw [if_neg q11] at H2
      rcases sw_eq H1 with ⟨q12, H1⟩ | ⟨q12, H1⟩
      · rw [if_pos q12] at H2
        have ec : costOf N (iand (xs (i + 0)).toInt 63) = (0, 0) := by rw [q12]; rfl
        refine cx_tabIn (pc := 33) 644 12 q12 dL_law_33 (by decide) (by decide) rfl rfl ?_
        exact law_12 hL h6 n N r1 r2 H1 H2 he (by rw [ec] at hk; exact hk) (by rw [ec] at hs; exact hs) (fin _ _ (by rw [ec]) (by rw [ec]))
      rw [if_neg q12] at H2
      rcases sw_eq H1 with ⟨q13, H1⟩ | ⟨q13, H1⟩
      · rw [if_pos q13] at H2
        have ec : costOf N (iand (xs (i + 0)).toInt 63) = (0, 0) := by rw [q13]; rfl
        refine cx_tabIn (pc := 33) 657 13 q13 dL_law_33 (by decide) (by decide) rfl rfl ?_
        exact law_13 hL h6 n N r1 r2 H1 H2 he (by rw [ec] at hk; exact hk) (by rw [ec] at hs; exact hs) (fin _ _ (by rw [ec]) (by rw [ec]))
      rw [if_neg q13] at H2
      rcases sw_eq H1 with ⟨q14, H1⟩ | ⟨q14, H1⟩
      · rw [if_pos q14] at H2
        have ec : costOf N (iand (xs (i + 0)).toInt 63) = (0, 0) := by rw [q14]; rfl
        refine cx_tabIn (pc := 33) 690 14 q14 dL_law_33 (by decide) (by decide) rfl rfl ?_
        exact law_14 hL h6 n N r1 r2 H1 H2 he (by rw [ec] at hk; exact hk) (by rw [ec] at hs; exact hs) (fin _ _ (by rw [ec]) (by rw [ec]))
      rw [if_neg q14] at H2
      rcases sw_eq H1 with ⟨q15, H1⟩ | ⟨q15, H1⟩
      · rw [if_pos q15] at H2
        have ec : costOf N (iand (xs (i + 0)).toInt 63) = (0, 0) := by rw [q15]; rfl
        refine cx_tabIn (pc := 33) 723 15 q15 dL_law_33 (by decide) (by decide) rfl rfl ?_
        exact law_15 hL h6 n N r1 r2 H1 H2 he (by rw [ec] at hk; exact hk) (by rw [ec] at hs; exact hs) (fin _ _ (by rw [ec]) (by rw [ec]))
      rw [if_neg q15] at H2
      rcases sw_eq H1 with ⟨q16, H1⟩ | ⟨q16, H1⟩
      · rw [if_pos q16] at H2
        have ec : costOf N (iand (xs (i + 0)).toInt 63) = (4, 125) := by rw [q16]; rfl
        refine cx_tabIn (pc := 33) 746 16 q16 dL_law_33 (by decide) (by decide) rfl rfl ?_
        exact law_16 hL h6 n N r1 r2 H1 H2 he (by rw [ec] at hk; exact hk) (by rw [ec] at hs; exact hs) (fin _ _ (by rw [ec]) (by rw [ec]))
      rw [if_neg q16] at H2
      rcases sw_eq H1 with ⟨q17, H1⟩ | ⟨q17, H1⟩
      · rw [if_pos q17] at H2
        have ec : costOf N (iand (xs (i + 0)).toInt 63) = (0, 0) := by rw [q17]; rfl
        refine cx_tabIn (pc := 33) 779 17 q17 dL_law_33 (by decide) (by decide) rfl rfl ?_
        exact law_17 hL h6 n N r1 r2 H1 H2 he (by rw [ec] at hk; exact hk) (by rw [ec] at hs; exact hs) (fin _ _ (by rw [ec]) (by rw [ec]))
      rw [if_neg q17] at H2
      rcases sw_eq H1 with ⟨q18, H1⟩ | ⟨q18, H1⟩
      · rw [if_pos q18] at H2
        have ec : costOf N (iand (xs (i + 0)).toInt 63) = (0, 0) := by rw [q18]; rfl
        refine cx_tabIn (pc := 33) 802 18 q18 dL_law_33 (by decide) (by decide) rfl rfl ?_
        exact law_18 hL h6 n N r1 r2 H1 H2 he (by rw [ec] at hk; exact hk) (by rw [ec] at hs; exact hs) (fin _ _ (by rw [ec]) (by rw [ec]))
      rw [if_neg q18] at H2
      rcases sw_eq H1 with ⟨q19, H1⟩ | ⟨q19, H1⟩
      · rw [if_pos q19] at H2
        have ec : costOf N (iand (xs (i + 0)).toInt 63) = (0, 0) := by rw [q19]; rfl
        refine cx_tabIn (pc := 33) 825 19 q19 dL_law_33 (by decide) (by decide) rfl rfl ?_
        exact law_19 hL h6 n N r1 r2 H1 H2 he (by rw [ec] at hk; exact hk) (by rw [ec] at hs; exact hs) (fin _ _ (by rw [ec]) (by rw [ec]))
      rw [if_neg q19] at H2
      rcases sw_eq H1 with ⟨q20, H1⟩ | ⟨q20, H1⟩
      · rw [if_pos q20] at H2
        have ec : costOf N (iand (xs (i + 0)).toInt 63) = (0, 0) := by rw [q20]; rfl
        refine cx_tabIn (pc := 33) 848 20 q20 dL_law_33 (by decide) (by decide) rfl rfl ?_
        exact law_20 hL h6 n N r1 r2 H1 H2 he (by rw [ec] at hk; exact hk) (by rw [ec] at hs; exact hs) (fin _ _ (by rw [ec]) (by rw [ec]))
      rw [if_neg q20] at H2
      rcases sw_eq H1 with ⟨q21, H1⟩ | ⟨q21, H1⟩
      · rw [if_pos q21] at H2
        have ec : costOf N (iand (xs (i + 0)).toInt 63) = (0, 0) := by rw [q21]; rfl
        refine cx_tabIn (pc := 33) 901 21 q21 dL_law_33 (by decide) (by decide) rfl rfl ?_
        exact law_21 hL h6 n N r1 r2 H1 H2 he (by rw [ec] at hk; exact hk) (by rw [ec] at hs; exact hs) (fin _ _ (by rw [ec]) (by rw [ec]))
      rw [if_neg q21] at H2
      rcases sw_eq H1 with ⟨q22, H1⟩ | ⟨q22, H1⟩
      · rw [if_pos q22] at H2
        have ec : costOf N (iand (xs (i + 0)).toInt 63) = (0, 0) := by rw [q22]; rfl
        refine cx_tabIn (pc := 33) 954 22 q22 dL_law_33 (by decide) (by decide) rfl rfl ?_
        exact law_22 hL h6 n N r1 r2 H1 H2 he (by rw [ec] at hk; exact hk) (by rw [ec] at hs; exact hs) (fin _ _ (by rw [ec]) (by rw [ec]))
      rw [if_neg q22] at H2
      rcases sw_eq H1 with ⟨q23, H1⟩ | ⟨q23, H1⟩
      · rw [if_pos q23] at H2
        have ec : costOf N (iand (xs (i + 0)).toInt 63) = ((4 * N), (125 * N)) := by rw [q23]; rfl
        refine cx_tabIn (pc := 33) 997 23 q23 dL_law_33 (by decide) (by decide) rfl rfl ?_
        exact law_23 hL h6 n N r1 r2 H1 H2 he (by rw [ec] at hk; exact hk) (by rw [ec] at hs; exact hs) (fin _ _ (by rw [ec]) (by rw [ec]))
      rw [if_neg q23] at H2
      rcases sw_eq H1 with ⟨q24, H1⟩ | ⟨q24, H1⟩
      · rw [if_pos q24] at H2
        have ec : costOf N (iand (xs (i + 0)).toInt 63) = ((4 * N), (125 * N)) := by rw [q24]; rfl
        refine cx_tabIn (pc := 33) 1040 24 q24 dL_law_33 (by decide) (by decide) rfl rfl ?_
        exact law_24 hL h6 n N r1 r2 H1 H2 he (by rw [ec] at hk; exact hk) (by rw [ec] at hs; exact hs) (fin _ _ (by rw [ec]) (by rw [ec]))
      rw [if_neg q24] at H2
      rcases sw_eq H1 with ⟨q25, H1⟩ | ⟨q25, H1⟩
      · rw [if_pos q25] at H2
        have ec : costOf N (iand (xs (i + 0)).toInt 63) = (0, 0) := by rw [q25]; rfl
        refine cx_tabIn (pc := 33) 1073 25 q25 dL_law_33 (by decide) (by decide) rfl rfl ?_
        exact law_25 hL h6 n N r1 r2 H1 H2 he (by rw [ec] at hk; exact hk) (by rw [ec] at hs; exact hs) (fin _ _ (by rw [ec]) (by rw [ec]))
      rw [if_neg q25] at H2
      rcases sw_eq H1 with ⟨q26, H1⟩ | ⟨q26, H1⟩
      · rw [if_pos q26] at H2
        have ec : costOf N (iand (xs (i + 0)).toInt 63) = ((4 * N), (125 * N)) := by rw [q26]; rfl
        refine cx_tabIn (pc := 33) 1136 26 q26 dL_law_33 (by decide) (by decide) rfl rfl ?_
        exact law_26 hL h6 n N r1 r2 H1 H2 he (by rw [ec] at hk; exact hk) (by rw [ec] at hs; exact hs) (fin _ _ (by rw [ec]) (by rw [ec]))
      rw [if_neg q26] at H2
      rcases sw_eq H1 with ⟨q27, H1⟩ | ⟨q27, H1⟩
      · rw [if_pos q27] at H2
        have ec : costOf N (iand (xs (i + 0)).toInt 63) = (0, 0) := by rw [q27]; rfl
        refine cx_tabIn (pc := 33) 1159 27 q27 dL_law_33 (by decide) (by decide) rfl rfl ?_
        exact law_27 hL h6 n N r1 r2 H1 H2 he (by rw [ec] at hk; exact hk) (by rw [ec] at hs; exact hs) (fin _ _ (by rw [ec]) (by rw [ec]))
      rw [if_neg q27] at H2
      rcases sw_eq H1 with ⟨q28, H1⟩ | ⟨q28, H1⟩
      · rw [if_pos q28] at H2
        have ec : costOf N (iand (xs (i + 0)).toInt 63) = (0, 0) := by rw [q28]; rfl
        refine cx_tabIn (pc := 33) 1202 28 q28 dL_law_33 (by decide) (by decide) rfl rfl ?_
        exact law_28 hL h6 n N r1 r2 H1 H2 he (by rw [ec] at hk; exact hk) (by rw [ec] at hs; exact hs) (fin _ _ (by rw [ec]) (by rw [ec]))
      rw [if_neg q28] at H2
      rcases sw_eq H1 with ⟨q29, H1⟩ | ⟨q29, H1⟩
      · rw [if_pos q29] at H2
        have ec : costOf N (iand (xs (i + 0)).toInt 63) = (0, 0) := by rw [q29]; rfl
        refine cx_tabIn (pc := 33) 1245 29 q29 dL_law_33 (by decide) (by decide) rfl rfl ?_
        exact law_29 hL h6 n N r1 r2 H1 H2 he (by rw [ec] at hk; exact hk) (by rw [ec] at hs; exact hs) (fin _ _ (by rw [ec]) (by rw [ec]))
      rw [if_neg q29] at H2
      rcases sw_eq H1 with ⟨q30, H1⟩ | ⟨q30, H1⟩
      · rw [if_pos q30] at H2
        have ec : costOf N (iand (xs (i + 0)).toInt 63) = (0, 0) := by rw [q30]; rfl
        refine cx_tabIn (pc := 33) 1278 30 q30 dL_law_33 (by decide) (by decide) rfl rfl ?_
        exact law_30 hL h6 n N r1 r2 H1 H2 he (by rw [ec] at hk; exact hk) (by rw [ec] at hs; exact hs) (fin _ _ (by rw [ec]) (by rw [ec]))
      rw [if_neg q30] at H2
      rcases sw_eq H1 with ⟨q31, H1⟩ | ⟨q31, H1⟩
      · rw [if_pos q31] at H2
        have ec : costOf N (iand (xs (i + 0)).toInt 63) = (0, 0) := by rw [q31]; rfl
        refine cx_tabIn (pc := 33) 1341 31 q31 dL_law_33 (by decide) (by decide) rfl rfl ?_
        exact law_31 hL h6 n N r1 r2 H1 H2 he (by rw [ec] at hk; exact hk) (by rw [ec] at hs; exact hs) (fin _ _ (by rw [ec]) (by rw [ec]))
      rw [if_neg q31] at H2
      rcases sw_eq H1 with ⟨q32, H1⟩ | ⟨q32, H1⟩
      · rw [if_pos q32] at H2
        have ec : costOf N (iand (xs (i + 0)).toInt 63) = (0, 0) := by rw [q32]; rfl
        refine cx_tabIn (pc := 33) 1354 32 q32 dL_law_33 (by decide) (by decide) rfl rfl ?_
        exact law_32 hL h6 n N r1 r2 H1 H2 he (by rw [ec] at hk; exact hk) (by rw [ec] at hs; exact hs) (fin _ _ (by rw [ec]) (by rw [ec]))
      rw [if_neg q32] at H2
      rcases sw_eq H1 with ⟨q33, H1⟩ | ⟨q33, H1⟩
      · rw [if_pos q33] at H2
        have ec : costOf N (iand (xs (i + 0)).toInt 63) = (0, 0) := by rw [q33]; rfl
        refine cx_tabIn (pc := 33) 1367 33 q33 dL_law_33 (by decide) (by decide) rfl rfl ?_
        exact law_33 hL h6 n N r1 r2 H1 H2 he (by rw [ec] at hk; exact hk) (by rw [ec] at hs; exact hs) (fin _ _ (by rw [ec]) (by rw [ec]))
      rw [if_neg q33] at H2
      rcases sw_eq H1 with ⟨q34, H1⟩ | ⟨q34, H1⟩
      · rw [if_pos q34] at H2
        have ec : costOf N (iand (xs (i + 0)).toInt 63) = (0, 0) := by rw [q34]; rfl
        refine cx_tabIn (pc := 33) 1390 34 q34 dL_law_33 (by decide) (by decide) rfl rfl ?_
        exact law_34 hL h6 n N r1 r2 H1 H2 he (by rw [ec] at hk; exact hk) (by rw [ec] at hs; exact hs) (fin _ _ (by rw [ec]) (by rw [ec]))
      rw [if_neg q34] at H2
      cases H1
      cases H2
      refine cx_tabOut (pc := 33) 1413 hq dL_law_33 (by have h0 := iand_63 (xs (i + 0)).toInt; show iand (xs (i + 0)).toInt 63 < 0 ∨ 34 < iand (xs (i + 0)).toInt 63; omega) rfl ?_
      have ec : costOf N (iand (xs (i + 0)).toInt 63) = (0, 0) := by
        have h63 := iand_63 (xs (i + 0)).toInt
        unfold costOf
        generalize iand (xs (i + 0)).toInt 63 = z at *
        rcases (by omega : z < 0 ∨ 34 < z) with hz | hz
        · omega
        · rw [List.getD_eq_getElem?_getD, List.getElem?_eq_none (by show 35 ≤ z.toNat; omega)]; rfl
      exact fin _ _ (by rw [ec]; rfl) (by rw [ec]; rfl)
    · rw [if_neg h6] at h
      refine aw_icmp_gt (pc := 24) 1419 dL_law_24 rfl (fun _ => ?_) (fun q => absurd (by rw [oI_lt ⟨by omega, by omega⟩ hiR]; omega) q)
      refine aw_iconst (pc := 1419) 1 dL_law_1419 (by decide) ?_
      exact aw_iret (pc := 1420) rfl (by decide) h.1 h.2 dL_law_1420 rfl
