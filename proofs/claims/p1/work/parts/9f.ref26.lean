/-! WHAT IS BORN: sets of games that are not ordered, the games of a day -/
theorem bm32 {x : Nat} (h : x < 2147483648) : (x : Int).bmod (2 ^ 32) = (x : Int) := by
  unfold Int.bmod
  rw [show ((2 ^ 32 : Nat) : Int) = 4294967296 from rfl]
  have : (x : Int) % 4294967296 = (x : Int) := by omega
  rw [this]
  simp only
  rw [if_pos (by omega)]
theorem idiv_nn {a b : Nat} (ha : a < 2147483648) (hb : b < 2147483648) : idiv (a : Int) (b : Int) = ((a / b : Nat) : Int) := by
  unfold idiv
  have e1 : (Int32.ofInt (a : Int)).toInt = (a : Int) := w32_nat ha
  have e2 : (Int32.ofInt (b : Int)).toInt = (b : Int) := w32_nat hb
  rw [Int32.toInt_div, e1, e2]
  have := Nat.div_le_self a b
  exact bm32 (x := a / b) (by omega)
theorem irem_nn {a b : Nat} (ha : a < 2147483648) (hb : b < 2147483648) : irem (a : Int) (b : Int) = ((a % b : Nat) : Int) := by
  have h := idiv_nn ha hb
  unfold idiv at h
  unfold irem
  have e1 : (Int32.ofInt (a : Int)).toInt = (a : Int) := w32_nat ha
  have e2 : (Int32.ofInt (b : Int)).toInt = (b : Int) := w32_nat hb
  rw [Int32.toInt_sub, Int32.toInt_mul, h, e1, e2]
  have h1 := Nat.div_mul_le_self a b
  have h2 := Nat.div_add_mod a b
  have h3 : a / b * b + a % b = a := by rw [Nat.mul_comm]; exact h2
  have h4 := Nat.mod_le a b
  rw [show ((a / b : Nat) : Int) * (b : Int) = ((a / b * b : Nat) : Int) from (Int.natCast_mul _ _).symm, bm32 (by omega), show (a : Int) - ((a / b * b : Nat) : Int) = ((a % b : Nat) : Int) by omega, bm32 (by omega)]
theorem ishl_1 {P : Nat} (h : P ≤ 7) : ishl 1 (P : Int) = ((2 ^ P : Nat) : Int) := by
  have := ishl_nat (a := 1) (k := P) (by
    have := Nat.pow_le_pow_right (show 0 < 2 by decide) h
    have e : (2 : Nat) ^ 7 = 128 := by decide
    omega) (by omega)
  rw [Nat.one_mul] at this
  exact this
/-- what is born stands in a row -/
def BR (m : Mem) (T : Tb) (B : List Nat) : Prop := mGet m 100 44 = (B.length : Int) ∧ Row m 134 0 B ∧ (∀ o, o ∈ B → o < T.N) ∧ B.length ≤ 67
section BB
variable {n : Nat} {m : Mem} {T : Tb} {F B : List Nat} {s v P : Nat}
theorem areApart_ok (hn : BIG < n) (R : RSt m T F s) (hB : BR m T B) (hP : P ≤ B.length) (hP7 : P ≤ 7) (hd : ∀ i, (hi : i < B.length) → i < P → T.d B[i] = ne i) (hv : v < 2 ^ P) : Ok (f_X11_areApart n (v : Int) (P : Int) m) (fun r m' => r = b2i (nanti v) ∧ MP m' T.N T.d ∧ Ch SP m m') := by
  have n4 := BIG_m hn
  have n3 := BIG_n hn
  have N2 := R.1.nn
  obtain ⟨R1, M1, _⟩ := R
  obtain ⟨c44, rB, bN, l67⟩ := hB
  have v128 : v < 128 := Nat.lt_of_lt_of_le hv (Nat.pow_le_pow_right (show 0 < 2 by decide) hP7)
  have bitP : ∀ i, v.testBit i = true → i < P := fun i h => by
    apply Classical.byContradiction
    intro q
    have := Nat.testBit_lt_two_pow (Nat.lt_of_lt_of_le hv (Nat.pow_le_pow_right (show 0 < 2 by decide) (Nat.le_of_not_lt q)))
    rw [this] at h
    cases h
  obtain ⟨C, eC⟩ : ∃ C : Nat → Nat → Prop, C = fun i j => v.testBit i = true → v.testBit j = true → i ≠ j → ¬ gle (ne i) (ne j) := ⟨_, rfl⟩
  have full : (∀ i, i < P → ∀ j, j < P → C i j) ↔ nanti v = true := by
    rw [nanti_ok v128, eC]
    exact ⟨fun h i j hi hj => h i (bitP i hi) j (bitP j hj) hi hj, fun h i _ j _ hi hj => h i j hi hj⟩
  unfold f_X11_areApart
  refine ok_row2 (s := 0) (k := 0) P (fun k a m1 => ∃ b : Bool, a = b2i b ∧ (b = true ↔ ∀ i, i < k → ∀ j, j < P → C i j) ∧ MP m1 T.N T.d ∧ Ch SP m m1) (fun w k a m1 hk hI hw => ?_) (fun w a m1 hI => ?_) n 1 m (Nat.zero_le _) ⟨true, rfl, ⟨fun _ i hi => absurd hi (Nat.not_lt_zero _), fun _ => rfl⟩, M1, Ch.rf _ _⟩ (by omega)
  · obtain ⟨b, rfl, hb, M2, c2⟩ := hI
    refine ok_jn ?_
    rw [if_pos (by omega)]
    cases b with
    | false =>
      rw [if_pos rb_f]
      refine ok_rtZ (rb_01 false) ⟨?_, M2, c2⟩
      have : nanti v = false := Bool.eq_false_iff.mpr (fun q => by
        have := hb.mpr (fun i hi => full.mpr q i (by omega))
        cases this)
      rw [this]
    | true =>
      rw [if_neg (by decide)]
      have all := hb.mp rfl
      have next : ∀ (b2 : Bool) (m3 : Mem), (b2 = true ↔ ∀ j, j < P → C k j) → MP m3 T.N T.d → Ch SP m m3 → Ok (w (b2i b2) (w32 (((0 + k : Nat) : Int) + 1)) m3) (fun r m' => r = b2i (nanti v) ∧ MP m' T.N T.d ∧ Ch SP m m') := fun b2 m3 h1 h2 h3 => by
        rw [w32_s (by omega)]
        refine hw _ m3 ⟨b2, rfl, ?_, h2, h3⟩
        rw [h1]
        constructor
        · intro h i hi j hj
          by_cases q : i < k
          · exact all i q j hj
          · have : i = k := by omega
            subst this
            exact h j hj
        · intro h j hj
          exact h k (by omega) j hj
      refine ok_row2 (s := 0) (k := 0) P (fun j a m2 => ∃ b : Bool, a = b2i b ∧ (b = true ↔ ∀ i, i < j → C k i) ∧ MP m2 T.N T.d ∧ Ch SP m m2) (fun w2 j a m2 hj hJ hw2 => ?_) (fun w2 a m2 hJ => ?_) n (b2i true) m1 (Nat.zero_le _) ⟨true, rfl, ⟨fun _ i hi => absurd hi (Nat.not_lt_zero _), fun _ => rfl⟩, M2, c2⟩ (by omega)
      · obtain ⟨b, rfl, hb2, M3, c3⟩ := hJ
        refine ok_jn ?_
        rw [if_pos (by omega)]
        cases b with
        | false =>
          rw [if_pos rb_f]
          exact next false m2 ⟨(fun h => by cases h), fun h => hb2.mpr (fun i hi => h i (by omega))⟩ M3 c3
        | true =>
          rw [if_neg (by decide)]
          have all2 := hb2.mp rfl
          have nx : ∀ (b2 : Bool) (m3 : Mem), (b2 = true ↔ C k j) → MP m3 T.N T.d → Ch SP m m3 → Ok (w2 (b2i b2) (w32 (((0 + j : Nat) : Int) + 1)) m3) (fun r m' => r = b2i (nanti v) ∧ MP m' T.N T.d ∧ Ch SP m m') := fun b2 m3 h1 h2 h3 => by
            rw [w32_s (by omega)]
            refine hw2 _ m3 ⟨b2, rfl, ?_, h2, h3⟩
            rw [h1]
            constructor
            · intro h i hi
              by_cases q : i < j
              · exact all2 i q
              · have : i = j := by omega
                subst this
                exact h
            · intro h
              exact h j (by omega)
          refine ok_jn ?_
          refine ok_jn ?_
          have t74 : C k j → Ok (w2 1 (w32 (((0 + j : Nat) : Int) + 1)) m2) (fun r m' => r = b2i (nanti v) ∧ MP m' T.N T.d ∧ Ch SP m m') := fun h => nx true m2 ⟨fun _ => h, fun _ => rfl⟩ M3 c3
          by_cases q1 : ((0 + k : Nat) : Int) = ((0 + j : Nat) : Int)
          · rw [if_pos q1]
            exact t74 (by rw [eC]; exact fun _ _ ne => absurd (by omega) ne)
          · rw [if_neg q1, ibit1 (by omega) (by omega)]
            cases k1 : v.testBit (0 + k) with
            | false =>
              rw [if_pos (by decide)]
              rw [Nat.zero_add] at k1
              exact t74 (by rw [eC]; intro h; rw [k1] at h; cases h)
            | true =>
              rw [if_neg (by decide), ibit1 (by omega) (by omega)]
              cases k2 : v.testBit (0 + j) with
              | false =>
                rw [if_pos (by decide)]
                rw [Nat.zero_add] at k2
                exact t74 (by rw [eC]; intro _ h; rw [k2] at h; cases h)
              | true =>
                rw [Nat.zero_add] at k1 k2
                have e1 : mGet m2 134 (0 + k) = (B[k] : Int) := by rw [c3.2 _ _ (by unfold SP; omega)]; exact rB k (by omega)
                have e2 : mGet m2 134 (0 + j) = (B[j] : Int) := by rw [c3.2 _ _ (by unfold SP; omega)]; exact rB j (by omega)
                rw [if_neg (by decide), ldI_ok (len := 200) rfl (by omega), ldI_ok (len := 200) rfl (by omega), e1, e2]
                refine ok_cal (atMost_ok n3 (R1.sp c3) M3 (bN _ (List.getElem_mem (by omega))) (bN _ (List.getElem_mem (by omega)))) (fun r m3 hq => ?_)
                obtain ⟨rfl, M4, c4⟩ := hq
                rw [hd k (by omega) (by omega), hd j (by omega) (by omega)]
                cases g : gleB (ne k) (ne j) with
                | false =>
                  rw [if_pos rb_f]
                  refine nx true m3 ⟨fun _ => ?_, fun _ => rfl⟩ M4 (c3.tr c4)
                  rw [eC]
                  intro _ _ _ q
                  rw [(gleB_iff _ _).mpr q] at g
                  cases g
                | true =>
                  rw [if_neg (by decide)]
                  refine nx false m3 ⟨(fun h => by cases h), fun h => ?_⟩ M4 (c3.tr c4)
                  rw [eC] at h
                  exact absurd ((gleB_iff _ _).mp g) (h k1 k2 (by omega))
      · obtain ⟨b, rfl, hb2, M3, c3⟩ := hJ
        refine ok_jn ?_
        rw [if_neg (by omega)]
        exact next b m2 hb2 M3 c3
  · obtain ⟨b, rfl, hb, M2, c2⟩ := hI
    refine ok_jn ?_
    rw [if_neg (by omega)]
    refine ok_rtZ (rb_01 b) ⟨?_, M2, c2⟩
    congr 1
    exact Bool.eq_iff_iff.mpr (hb.trans full)
/-- the games of a set wait -/
theorem waitsBorn_ok {f : Nat} (hn : BIG < n) (R : RSt m T F s) (hB : BR m T B) (hP : P ≤ B.length) (hP7 : P ≤ 7) (hd : ∀ i, (hi : i < B.length) → i < P → T.d B[i] = ne i) (hv : v < 2 ^ P) (ht : mGet m 100 26 = (f : Int)) (hf : f + 10 < 20000) : Ok (f_X11_waitsBorn n (v : Int) (P : Int) m) (fun _ m' => ∃ A T1 s1, A.length ≤ 7 ∧ Wts m T F s 0 f A (fun z => ∃ i, i < 7 ∧ v.testBit i = true ∧ ne i = z) m' T1 s1) := by
  have n4 := BIG_m hn
  obtain ⟨c44, rB, bN, l67⟩ := hB
  have v128 : v < 128 := Nat.lt_of_lt_of_le hv (Nat.pow_le_pow_right (show 0 < 2 by decide) hP7)
  have bitP : ∀ i, v.testBit i = true → i < P := fun i h => by
    apply Classical.byContradiction
    intro q
    have := Nat.testBit_lt_two_pow (Nat.lt_of_lt_of_le hv (Nat.pow_le_pow_right (show 0 < 2 by decide) (Nat.le_of_not_lt q)))
    rw [this] at h
    cases h
  unfold f_X11_waitsBorn
  refine ok_up1 (i := 0) P (fun j m1 => ∃ A T1 s1, A.length ≤ j ∧ Wts m T F s 0 f A (fun z => ∃ i, i < j ∧ v.testBit i = true ∧ ne i = z) m1 T1 s1) (fun w j m1 hj hI hw => ?_) (fun w m1 hI => ?_) n m (Nat.zero_le _) ⟨[], T, s, Nat.le_refl _, (start_wts R ht).g (fun z => ⟨fun h => h.elim, fun ⟨i, h, _⟩ => absurd h (Nat.not_lt_zero _)⟩) (Nat.le_refl _)⟩ (by omega)
  · obtain ⟨A, T1, s1, lA, W⟩ := hI
    obtain ⟨w1, w2, w3, w4, w5, w6, w7, w8, w9⟩ := id W
    rw [if_pos (by omega)]
    refine ok_jn ?_
    rw [ibit1 (by omega) (by omega)]
    cases hb : v.testBit j with
    | true =>
      rw [if_pos rfl]
      have e1 : mGet m1 134 j = (B[j] : Int) := by
        have := rB j (by omega)
        rw [Nat.zero_add] at this
        rw [w7.2 _ _ (by unfold SSm SCt SCn; omega)]
        exact this
      have bj := bN _ (List.getElem_mem (show j < B.length by omega))
      rw [if_pos rfl, ldI_ok (len := 200) rfl (by omega), e1]
      refine W.push (Sumd.self (u := B[j]) w1 (w2.lt bj)) (by omega) (fun u T4 s4 m4 W4 ex4 => ?_)
      rw [w32_1 (by omega)]
      refine hw m4 ⟨A ++ [u], T4, s4, by rw [List.length_append]; show A.length + 1 ≤ _; omega, W4.g (fun z => ?_) (Nat.le_refl _)⟩
      rw [w2.d bj, hd j (by omega) hj]
      constructor
      · rintro (⟨i, h1, h2, h3⟩ | rfl)
        · exact ⟨i, by omega, h2, h3⟩
        · exact ⟨j, by omega, hb, rfl⟩
      · rintro ⟨i, h1, h2, rfl⟩
        by_cases q : i < j
        · exact Or.inl ⟨i, q, h2, rfl⟩
        · have : i = j := by omega
          subst this
          exact Or.inr rfl
    | false =>
      rw [if_neg (by decide)]
      show Ok (w (w32 ((j : Int) + 1)) m1) _
      rw [w32_1 (by omega)]
      refine hw m1 ⟨A, T1, s1, by omega, W.g (fun z => ?_) (Nat.le_refl _)⟩
      constructor
      · rintro ⟨i, h1, h2, h3⟩; exact ⟨i, by omega, h2, h3⟩
      · rintro ⟨i, h1, h2, h3⟩
        by_cases q : i = j
        · subst q; rw [hb] at h2; cases h2
        · exact ⟨i, by omega, h2, h3⟩
  · obtain ⟨A, T1, s1, lA, W⟩ := hI
    rw [if_neg (by omega)]
    refine ok_rt ⟨A, T1, s1, by omega, W.g (fun z => ?_) (Nat.le_refl _)⟩
    constructor
    · rintro ⟨i, h1, h2, h3⟩; exact ⟨i, by omega, h2, h3⟩
    · rintro ⟨i, h1, h2, h3⟩; exact ⟨i, bitP i h2, h2, h3⟩
end BB
