/-! THE MAKER: sums -/
theorem kI30 (m : Mem) : sKind m 30 = (1, 121) := rfl
theorem addIf_ok {n o g k i c N : Nat} {m : Mem} {SL SR : Nat → Prop} (O : GOb m o g) (Wg : wid g ≤ 11) (hi : i < 32) (G : YG m N SL SR) (hc0 : c < N) : Ok (f_X2_addIf n o (k : Int) (i : Int) (c : Int) m) (fun _ m' => YG m' N (fun z => SL z ∨ ((om g k 0).testBit i = true ∧ z = yden m c)) (fun z => SR z ∨ ((om g k 1).testBit i = true ∧ z = yden m c)) ∧ YF m m' N N) := by
  obtain ⟨a1, a2, a3, _⟩ := O.o
  have o0 := om_lt11 Wg k 0
  have o1 := om_lt11 Wg k 1
  unfold f_X2_addIf
  rw [isD_ok a1, isG_ok a3 a1]
  refine ok_calE (options_eq (w := 0) O Wg (by decide)) ?_
  dsimp only [jn]
  have half : ∀ m1, YG m1 N (fun z => SL z ∨ ((om g k 0).testBit i = true ∧ z = yden m c)) SR → YF m m1 N N → Ok (isD o <| isG m1 o <| cal (f_X1_options n o (k : Int) 1 m1) fun x25 m25 => if iand (ishr x25 (i : Int)) 1 = 0 then rt 0 m25 else cal (f_X9_addRight n (c : Int) m25) fun _ m41 => rt 0 m41) (fun _ m' => YG m' N (fun z => SL z ∨ ((om g k 0).testBit i = true ∧ z = yden m c)) (fun z => SR z ∨ ((om g k 1).testBit i = true ∧ z = yden m c)) ∧ YF m m' N N) := by
    intro m1 G1 F1
    have O1 := (F1.toFr (Nat.le_refl _)).gob O
    rw [isD_ok a1, isG_ok O1.o.2.2.1 a1]
    refine ok_calE (options_eq (w := 1) O1 Wg (by decide)) ?_
    cases e : (om g k 1).testBit i
    · rw [if_pos ((ibit0 (by omega) hi).mpr e)]
      exact ok_rt ⟨G1.iff (fun z => Iff.rfl) (fun z => ⟨fun h => h.elim id (fun h => by cases h.1), Or.inl⟩), F1⟩
    · rw [if_neg (fun q => by rw [(ibit0 (by omega) hi).mp q] at e; cases e)]
      refine ok_cal (addRight_ok G1 hc0) (fun _ m2 h2 => ?_)
      exact ok_rt ⟨h2.1.iff (fun z => Iff.rfl) (fun z => by rw [F1.old hc0]; exact ⟨fun h => h.imp id (fun h => h.2), fun h => h.imp id (fun h => ⟨rfl, h⟩)⟩), F1.tr h2.2⟩
  cases e : (om g k 0).testBit i
  · rw [if_pos ((ibit0 (by omega) hi).mpr e)]
    rw [e] at half
    exact half m (G.iff (fun z => ⟨fun h => h.elim id (fun h => by cases h.1), Or.inl⟩) (fun z => Iff.rfl)) (YF.rf _ _)
  · rw [if_neg (fun q => by rw [(ibit0 (by omega) hi).mp q] at e; cases e)]
    refine ok_cal (addLeft_ok G hc0) (fun _ m2 h2 => ?_)
    rw [e] at half
    exact half m2 (h2.1.iff (fun z => ⟨fun h => h.imp id (fun h => h.2), fun h => h.imp id (fun h => ⟨rfl, h⟩)⟩) (fun z => Iff.rfl)) h2.2
/-- the table of sums: what has been laid -/
def PT (m : Mem) (N : Nat) (P : Nat → Nat → Prop) (V : Nat → Nat → Nat) : Prop := ∀ a b, P a b → ∃ c : Nat, c < N ∧ mGet m 30 (11 * a + b) = (c : Int) ∧ geq (yden m c) (V a b)
theorem PT.fr {m m' : Mem} {N N' : Nat} {P : Nat → Nat → Prop} {V : Nat → Nat → Nat} (h : PT m N P V) (f : YF m m' N N') (hN : N ≤ N') : PT m' N' P V := fun a b hp => by
  obtain ⟨c, c1, c2, c3⟩ := h a b hp
  exact ⟨c, by omega, by rw [(f.toFr hN).2 30 _ (by decide) (by decide)]; exact c2, by rw [f.old c1]; exact c3⟩
theorem p_ix {i j : Nat} (hi : i ≤ 11) (hj : j ≤ 11) : w32 (w32 ((i : Int) * 11) + (j : Int)) = ((11 * i + j : Nat) : Int) := by
  rw [w32_id (x := (i : Int) * 11) (by omega) (by omega), w32_id (by omega) (by omega)]
  omega
abbrev S30 (a : Nat) : Prop := SY a ∨ a = 30
/-- the options of a sum, among the first k of the first game; all of these and the first l of the second -/
def TA (T : Nat → Nat → Nat) (g i j w k : Nat) (z : Nat) : Prop := ∃ a, a < k ∧ (om g i w).testBit a = true ∧ z = T a j
def TB (T : Nat → Nat → Nat) (g h i j w l : Nat) (z : Nat) : Prop := TA T g i j w i z ∨ ∃ b, b < l ∧ (om h j w).testBit b = true ∧ z = T i b
set_option maxHeartbeats 2000000 in
theorem sumOf_ok {n o1 o2 g h : Nat} {m : Mem} (hn : 300 < n) (O1 : GOb m o1 g) (O2 : GOb m o2 h) (cg : can g) (ch : can h) (fg : fits g) (fh : fits h) (hb : mNext m + 4 < 2147483648) : Ok (f_X2_sumOf n o1 o2 m) (fun v m' => (∃ K, can K ∧ geq K (gadd g h) ∧ Res m' v K) ∧ Fr m m' SM ∧ mNext m' ≤ mNext m + 4) := by
  have Gg := fitsGX O1 cg fg
  have Gh := fitsGX O2 ch fh
  have Wg := Gg.1
  have Wh := Gh.1
  have W1 := fg.1
  have W2 := fh.1
  obtain ⟨a1, a2, a3, a4⟩ := O1.o
  obtain ⟨c1, c2, c3, c4⟩ := O2.o
  have wp := wid_pos g
  have wq := wid_pos h
  unfold f_X2_sumOf
  dsimp only [jn]
  rw [if_neg a4, if_neg c4, isD_ok a1, isG_ok a3 a1]
  refine ok_calE (width_eq O1 Wg) ?_
  rw [if_neg (by omega), isD_ok c1, isG_ok c3 c1]
  refine ok_calE (width_eq O2 Wh) ?_
  rw [if_neg (by omega)]
  refine ok_cal (clear_ok hn) (fun _ m1 h1 => ?_)
  obtain ⟨Y1, s1, d1, g1, z1⟩ := h1
  have f1 : Fr m m1 SM := Fr.of z1 (fun a i q => g1 a i (fun e => q (by omega)) (fun e => q (by omega)) (fun e => q (by omega)))
  obtain ⟨V, eV⟩ : ∃ V : Nat → Nat → Nat, V = fun a b => dpos g h false a b := ⟨_, rfl⟩
  refine ok_up2 (wid g) (fun i a m2 => ∃ N, (YI m2 N ∧ mGet m2 4 14 = 0 ∧ 0 < N ∧ N ≤ 1 + i * wid h) ∧ Fr m m2 SM ∧ m2.2.2 = m.2.2 ∧ PT m2 N (fun a b => a < i ∧ b < wid h) V ∧ (0 < i → ∃ c : Nat, a = (c : Int) ∧ c < N ∧ geq (yden m2 c) (V (i - 1) (wid h - 1)))) (fun w i a m2 hi hI hw => ?_) (fun w a m2 hI => ?_) n 0 (-1) m1 (Nat.zero_le _) ⟨1, ⟨Y1, s1, by decide, by omega⟩, f1, z1, fun a b q => absurd q.1 (Nat.not_lt_zero _), fun h => absurd h (Nat.not_lt_zero _)⟩ (by omega)
  · obtain ⟨N, ⟨Y2, s2, N0, NB⟩, f2, z2, T2, _⟩ := hI
    have O12 := f2.gob O1
    have O22 := f2.gob O2
    rw [isD_ok a1, isG_ok O12.o.2.2.1 a1]
    refine ok_calE (width_eq O12 Wg) ?_
    rw [if_pos (by omega), k_1 (by omega)]
    have iW : i * wid h ≤ 9 * 10 := Nat.mul_le_mul (by omega) W2
    refine ok_up2 (wid h) (fun j a m3 => ∃ N, (YI m3 N ∧ mGet m3 4 14 = 0 ∧ 0 < N ∧ N ≤ 1 + i * wid h + j) ∧ Fr m m3 SM ∧ m3.2.2 = m.2.2 ∧ PT m3 N (fun a b => (a < i ∧ b < wid h) ∨ (a = i ∧ b < j)) V ∧ (0 < j → ∃ c : Nat, a = (c : Int) ∧ c < N ∧ geq (yden m3 c) (V i (j - 1)))) (fun w2 j a m3 hj hJ hw2 => ?_) (fun w2 a m3 hJ => ?_) n 0 a m2 (Nat.zero_le _) ⟨N, ⟨Y2, s2, N0, by omega⟩, f2, z2, fun a b q => T2 a b (by omega), fun h => absurd h (Nat.not_lt_zero _)⟩ (by omega)
    · obtain ⟨N3, ⟨Y3, s3, N03, NB3⟩, f3, z3, T3, _⟩ := hJ
      have O23 := f3.gob O2
      rw [isD_ok c1, isG_ok O23.o.2.2.1 c1]
      refine ok_calE (width_eq O23 Wh) ?_
      rw [if_pos (by omega), k_1 (by omega)]
      refine ok_cal (begin_ok hn Y3) (fun _ m4 h4 => ?_)
      obtain ⟨G4, F4⟩ := h4
      have T4 := T3.fr F4 (Nat.le_refl _)
      -- the table's games, as they stand
      obtain ⟨T, eT⟩ : ∃ T : Nat → Nat → Nat, T = fun a b => yden m4 (mGet m4 30 (11 * a + b)).toNat := ⟨_, rfl⟩
      have Tat : ∀ m5, YF m4 m5 N3 N3 → ∀ a b, ((a < i ∧ b < wid h) ∨ (a = i ∧ b < j)) → ∃ c : Nat, c < N3 ∧ mGet m5 30 (11 * a + b) = (c : Int) ∧ yden m5 c = T a b ∧ geq (T a b) (V a b) := by
        intro m5 F5 a b q
        obtain ⟨c, q1, q2, q3⟩ := T4 a b q
        have : T a b = yden m4 c := by rw [eT]; show yden m4 (mGet m4 30 (11 * a + b)).toNat = _; rw [q2, Int.toNat_natCast]
        exact ⟨c, q1, by rw [(F5.toFr (Nat.le_refl _)).2 30 _ (by decide) (by decide)]; exact q2, by rw [F5.old q1, this], by rw [this]; exact q3⟩
      refine ok_up1 i (fun k m5 => YG m5 N3 (TA T g i j 0 k) (TA T g i j 1 k) ∧ YF m4 m5 N3 N3) (fun w3 k m5 hk hK hw3 => ?_) (fun w3 m5 hK => ?_) n 0 m4 (Nat.zero_le _) ⟨G4.iff (fun z => ⟨fun ⟨_, h, _⟩ => absurd h (Nat.not_lt_zero _), fun h => h.elim⟩) (fun z => ⟨fun ⟨_, h, _⟩ => absurd h (Nat.not_lt_zero _), fun h => h.elim⟩), YF.rf _ _⟩ (by omega)
      · obtain ⟨G5, F5⟩ := hK
        have O15 := (f3.tr ((F4.tr F5).toFr (Nat.le_refl _) |>.weak (fun a h => Or.inl h))).gob O1
        obtain ⟨c, q1, q2, q3, _⟩ := Tat m5 F5 k j (Or.inl ⟨hk, hj⟩)
        rw [if_pos (by omega), p_ix (by omega) (by omega), ldI_ok (kI30 _) (by omega), q2, k_1 (by omega)]
        refine ok_cal (addIf_ok O15 Wg (by omega) G5 q1) (fun _ m6 h6 => ?_)
        have up : ∀ w z, TA T g i j w (k + 1) z ↔ TA T g i j w k z ∨ ((om g i w).testBit k = true ∧ z = T k j) := fun w z => by
          constructor
          · rintro ⟨a, h1, h2, h3⟩
            rcases (by omega : a < k ∨ a = k) with q | rfl
            · exact Or.inl ⟨a, q, h2, h3⟩
            · exact Or.inr ⟨h2, h3⟩
          · rintro (⟨a, h1, h2⟩ | ⟨h1, h2⟩)
            · exact ⟨a, by omega, h2⟩
            · exact ⟨k, by omega, h1, h2⟩
        exact hw3 m6 ⟨h6.1.iff (fun z => by rw [up, q3]) (fun z => by rw [up, q3]), F5.tr h6.2⟩
      · obtain ⟨G5, F5⟩ := hK
        rw [if_neg (by omega)]
        refine ok_up1 j (fun l m6 => YG m6 N3 (TB T g h i j 0 l) (TB T g h i j 1 l) ∧ YF m4 m6 N3 N3) (fun w4 l m6 hl hL hw4 => ?_) (fun w4 m6 hL => ?_) n 0 m5 (Nat.zero_le _) ⟨G5.iff (fun z => ⟨fun h => h.elim id (fun ⟨_, h, _⟩ => absurd h (Nat.not_lt_zero _)), Or.inl⟩) (fun z => ⟨fun h => h.elim id (fun ⟨_, h, _⟩ => absurd h (Nat.not_lt_zero _)), Or.inl⟩), F5⟩ (by omega)
        · obtain ⟨G6, F6⟩ := hL
          have O26 := (f3.tr ((F4.tr F6).toFr (Nat.le_refl _) |>.weak (fun a h => Or.inl h))).gob O2
          obtain ⟨c, q1, q2, q3, _⟩ := Tat m6 F6 i l (Or.inr ⟨rfl, hl⟩)
          rw [if_pos (by omega), p_ix (by omega) (by omega), ldI_ok (kI30 _) (by omega), q2, k_1 (by omega)]
          refine ok_cal (addIf_ok O26 Wh (by omega) G6 q1) (fun _ m7 h7 => ?_)
          have up : ∀ w z, TB T g h i j w (l + 1) z ↔ TB T g h i j w l z ∨ ((om h j w).testBit l = true ∧ z = T i l) := fun w z => by
            constructor
            · rintro (h0 | ⟨a, h1, h2, h3⟩)
              · exact Or.inl (Or.inl h0)
              · rcases (by omega : a < l ∨ a = l) with q | rfl
                · exact Or.inl (Or.inr ⟨a, q, h2, h3⟩)
                · exact Or.inr ⟨h2, h3⟩
            · rintro ((h0 | ⟨a, h1, h2⟩) | ⟨h1, h2⟩)
              · exact Or.inl h0
              · exact Or.inr ⟨a, by omega, h2⟩
              · exact Or.inr ⟨l, by omega, h1, h2⟩
          exact hw4 m7 ⟨h7.1.iff (fun z => by rw [up, q3]) (fun z => by rw [up, q3]), F6.tr h7.2⟩
        · obtain ⟨G6, F6⟩ := hL
          rw [if_neg (by omega)]
          have fitsV : Fits (TB T g h i j 0 j) (TB T g h i j 1 j) (V i j) := by
            have one : ∀ w, w < 2 → (∀ x, op (V i j) w x = true → ∃ y, TB T g h i j w j y ∧ geq y x) ∧ ∀ y, TB T g h i j w j y → ∃ x, op (V i j) w x = true ∧ geq y x := by
              intro w hw
              have ho := fun z => dpos_op (z := z) (mir := false) Gg Gh hi hj hw
              rw [show dwho false w = w from rfl] at ho
              rw [eV]
              refine ⟨fun x hx => ?_, fun y hy => ?_⟩
              · rcases (ho x).mp hx with ⟨k, h3, rfl⟩ | ⟨b, h3, rfl⟩
                · have lt := (om_bit.mp h3).2.1
                  obtain ⟨_, _, _, _, q5⟩ := Tat m4 (YF.rf _ _) k j (Or.inl ⟨lt, hj⟩)
                  rw [eV] at q5
                  exact ⟨_, Or.inl ⟨k, lt, h3, rfl⟩, q5⟩
                · have lt := (om_bit.mp h3).2.1
                  obtain ⟨_, _, _, _, q5⟩ := Tat m4 (YF.rf _ _) i b (Or.inr ⟨rfl, lt⟩)
                  rw [eV] at q5
                  exact ⟨_, Or.inr ⟨b, lt, h3, rfl⟩, q5⟩
              · rcases hy with ⟨k, lt, h3, rfl⟩ | ⟨b, lt, h3, rfl⟩
                · obtain ⟨_, _, _, _, q5⟩ := Tat m4 (YF.rf _ _) k j (Or.inl ⟨lt, hj⟩)
                  rw [eV] at q5
                  exact ⟨_, (ho _).mpr (Or.inl ⟨k, h3, rfl⟩), q5⟩
                · obtain ⟨_, _, _, _, q5⟩ := Tat m4 (YF.rf _ _) i b (Or.inr ⟨rfl, lt⟩)
                  rw [eV] at q5
                  exact ⟨_, (ho _).mpr (Or.inr ⟨b, h3, rfl⟩), q5⟩
            exact ⟨(one 0 (by decide)).1, (one 0 (by decide)).2, (one 1 (by decide)).1, (one 1 (by decide)).2⟩
          refine ok_cal (gof_ok hn G6 (by omega) fitsV) (fun v7 m7 h7 => ?_)
          obtain ⟨u, N7, rfl, u1, u2, Y7, s7, F7, g7⟩ := h7
          have F47 := (F4.tr F6).tr F7
          have lN : N3 ≤ N7 := F7.2.2.2.2
          rw [p_ix (by omega) (by omega), stI_ok (kI30 _) (by omega)]
          have G8 : ∀ a b, mGet (mSet m7 30 (11 * i + j) (u : Int)) a b = if a = 30 ∧ b = 11 * i + j then (u : Int) else mGet m7 a b := fun a b => by rw [mGet_mSet, w32_nat (by omega)]
          obtain ⟨Y8, d8⟩ := Y7.lg (m' := mSet m7 30 (11 * i + j) (u : Int)) rfl (fun a b q => by rw [G8, if_neg (by omega)])
          have T7 := T3.fr F47 lN
          refine hw2 _ _ ⟨N7, ⟨Y8, by rw [G8, if_neg (by omega)]; exact s7, by omega, by omega⟩, (f3.tr ((F47.toFr lN).weak (fun a h => Or.inl h))).tr (Fr.of rfl (fun a b q => by rw [G8, if_neg (fun h => q ⟨by omega, Or.inr (by omega)⟩)])), by show m7.2.2 = _; rw [F47.2.1]; exact z3, fun a b q => ?_, fun _ => ⟨u, rfl, u1, by rw [d8, Nat.add_sub_cancel]; exact g7⟩⟩
          by_cases q2 : a = i ∧ b = j
          · exact ⟨u, u1, by rw [G8, if_pos ⟨rfl, by rw [q2.1, q2.2]⟩], by rw [d8, q2.1, q2.2]; exact g7⟩
          · obtain ⟨c, e1, e2, e3⟩ := T7 a b (by omega)
            exact ⟨c, e1, by rw [G8, if_neg (by omega)]; exact e2, by rw [d8]; exact e3⟩
    · obtain ⟨N3, ⟨Y3, s3, N03, NB3⟩, f3, z3, T3, l3⟩ := hJ
      have O23 := f3.gob O2
      rw [isD_ok c1, isG_ok O23.o.2.2.1 c1]
      refine ok_calE (width_eq O23 Wh) ?_
      rw [if_neg (by omega)]
      have e1 : (i + 1) * wid h = i * wid h + wid h := Nat.succ_mul i (wid h)
      refine hw a m3 ⟨N3, ⟨Y3, s3, N03, by omega⟩, f3, z3, fun a b q => T3 a b (by omega), fun _ => ?_⟩
      rw [Nat.add_sub_cancel]
      exact l3 wq
  · obtain ⟨N, ⟨Y2, s2, N0, NB⟩, f2, z2, T2, l2⟩ := hI
    have O12 := f2.gob O1
    rw [isD_ok a1, isG_ok O12.o.2.2.1 a1]
    refine ok_calE (width_eq O12 Wg) ?_
    rw [if_neg (by omega)]
    obtain ⟨c, rfl, lc, gc⟩ := l2 wp
    refine writ_res hn Y2 lc s2 (by rw [mNext_eq z2]; omega) (fun v m' r1 r2 r3 _ _ _ => ?_)
    rw [eV] at gc
    have gc : geq (yden m2 c) (dpos g h false (wid g - 1) (wid h - 1)) := gc
    rw [dpos_top Gg Gh] at gc
    exact ⟨⟨_, Y2.1.2.2.2.2.2.1 c lc, gc, r1⟩, f2.tr (r2.weak (fun a h => Or.inl h)), by rw [mNext_eq z2] at r3; omega⟩
theorem sumOf_null {n o1 o2 : Nat} {m : Mem} (h : o1 = 0 ∨ o2 = 0) : f_X2_sumOf n o1 o2 m = some (0, m) := by
  unfold f_X2_sumOf
  dsimp only [jn]
  by_cases q : o1 = 0
  · rw [if_pos q]; rfl
  · rw [if_neg q, if_pos (h.resolve_left q)]; rfl
