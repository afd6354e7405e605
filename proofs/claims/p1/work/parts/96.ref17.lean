/-! NEGATIVES, WHOLE NUMBERS, HEAPS -/
theorem Sumd.self {m : Mem} {T : Tb} {F : List Nat} {s u : Nat} (R : RSt m T F s) (hu : u < T.N) : Sumd m T F s 0 (T.d u) (u : Int) m := ⟨⟨u, T, s, rfl, hu, geq_rfl _, Ex.rf T, R, Nat.le_refl _, by omega⟩, rfl, fun _ _ => rfl, Ch.rf _ _⟩
/-- a game known by its number, of the table as it is -/
theorem Sumd.eqv {m m' : Mem} {T : Tb} {F : List Nat} {s c c2 K K2 : Nat} {v : Int} (h : Sumd m T F s c K v m') (e : geq K K2) (hc : c ≤ c2) : Sumd m T F s c2 K2 v m' := by
  obtain ⟨⟨u, T2, s2, a, b, g, x, r, s21, s22⟩, q⟩ := h
  exact ⟨⟨u, T2, s2, a, b, g.tr e, x, r, s21, by omega⟩, q⟩
theorem start_wts {m : Mem} {T : Tb} {F : List Nat} {s t : Nat} (R : RSt m T F s) (ht : mGet m 100 26 = (t : Int)) : Wts m T F s 0 t [] (fun _ => False) m T s := ⟨R, Ex.rf T, Nat.le_refl _, Nat.le_refl _, ⟨ht, fun k hk => by cases hk⟩, fun _ _ => rfl, Ch.rf _ _, (fun o ho => by cases ho), fun x hx => hx.elim⟩
/-- what waits on both sides is made canonical: A first, then B -/
theorem close_ok {n : Nat} {m m3 m5 : Mem} {T T3 T5 : Tb} {F : List Nat} {s c c2 s3 s5 t K : Nat} {A B : List Nat} {GA GB : Nat → Prop} (hn : BIG < n) (W : Wts m T F s c t A GA m3 T3 s3) (V : Wts m3 T3 F s3 c2 (t + A.length) B GB m5 T5 s5) (ht : mGet m 100 26 = (t : Int)) (hf : t + (A ++ B).length ≤ 20000) (hs : s + c + c2 < 1000000000) (f0 : ∀ x, op K 0 x = true → ∃ y, GA y ∧ geq y x) (f1 : ∀ y, GA y → ∃ x, op K 0 x = true ∧ geq y x) (f2 : ∀ x, op K 1 x = true → ∃ y, GB y ∧ geq y x) (f3 : ∀ y, GB y → ∃ x, op K 1 x = true ∧ geq y x) (hF : ∀ K2, can K2 → geq K2 K → K2 ∈ F) : Ok (f_X11_canonicalOf n (t : Int) ((t + A.length : Nat) : Int) m5) (Sumd m T F s (c + c2 + 1) K) := by
  obtain ⟨w1, w2, w3, w4, w5, w6, w7, w8, w9⟩ := W
  obtain ⟨v1, v2, v3, v4, v5, v6, v7, v8, v9⟩ := V
  have lAB := app_len A B
  have K5 : Stk m5 t (A ++ B) := ⟨by rw [v5.1, lAB, Nat.add_assoc], Row.glue (w5.2.ext (fun k hk => v6 _ (by omega))) v5.2⟩
  have ge5 : geq (MK T5.d A B) K := by
    refine geq_of (fun z hz => ?_) (fun z hz => ?_) (fun z hz => ?_) (fun z hz => ?_)
    · obtain ⟨o, ho, rfl⟩ := op_MKL.mp hz
      obtain ⟨q, k, gk, ek⟩ := w8 o ho
      obtain ⟨x, hx, ex⟩ := f1 k gk
      exact ⟨x, hx, by rw [v2.d q]; exact ek.tr ex⟩
    · obtain ⟨y, gy, ey⟩ := f0 z hz
      obtain ⟨o, ho, e⟩ := w9 y gy
      exact ⟨_, op_MKL.mpr ⟨o, ho, rfl⟩, by rw [v2.d (w8 o ho).1]; exact e.tr ey⟩
    · obtain ⟨o, ho, rfl⟩ := op_MKR.mp hz
      obtain ⟨q, k, gk, ek⟩ := v8 o ho
      obtain ⟨x, hx, ex⟩ := f3 k gk
      exact ⟨x, hx, ek.tr ex⟩
    · obtain ⟨y, gy, ey⟩ := f2 z hz
      obtain ⟨o, ho, e⟩ := v9 y gy
      exact ⟨_, op_MKR.mpr ⟨o, ho, rfl⟩, e.tr ey⟩
  have b5 : ∀ o, o ∈ A ++ B → o < T5.N := fun o ho => (List.mem_append.mp ho).elim (fun h => v2.lt (w8 o h).1) (fun h => (v8 o h).1)
  refine ok_mono (canOf_ok hn v1 K5 (by omega) hf b5 (fun K2 hK e => hF K2 hK (e.tr ge5))) (fun v m6 hq => ?_)
  obtain ⟨⟨u, T6, s6, rfl, hu, gu, ex6, R6, s61, s62⟩, t6, c6⟩ := hq
  refine ⟨⟨u, T6, s6, rfl, hu, gu.tr ge5, (w2.tr v2).tr ex6, R6, by omega, by omega⟩, t6.trans ht.symm, fun i hi => ?_, (w7.tr v7).tr (c6.weak (fun a i z => Or.inl z))⟩
  rw [ht] at hi
  rw [c6.2 _ _ (by unfold SCt SCn; omega), v6 _ (by omega), w6 _ (by omega)]
def NI (F : List Nat) (x : Nat) : Prop := ∀ x', fol x x' → ∀ K, can K → geq K (gneg x') → K ∈ F
theorem NI.o {F : List Nat} {x x2 w : Nat} (h : NI F x) (hw : w < 2) (ho : op x w x2 = true) : NI F x2 := fun a ha => h a (fol_op hw ho ha)
theorem neg_ok {n : Nat} {F : List Nat} (hn : BIG < n) : ∀ (D a : Nat) (T : Tb) (m : Mem) (s t : Nat), RSt m T F s → a < T.N → bd (T.d a) + 1 ≤ D → NI F (T.d a) → mGet m 100 26 = (t : Int) → t + 800 * bd (T.d a) ≤ 20000 → s + fz (T.d a) < 1000000000 → Ok (h_X11_negativeOf n D (a : Int) m) (Sumd m T F s (fz (T.d a)) (gneg (T.d a)))
  | 0, _, _, _, _, _, _, _, hD, _, _, _, _ => by omega
  | D + 1, a, T, m, s, t, R, ha, hD, I, ht, h8, hs => by
    have n3 := BIG_n hn
    have N2 := R.1.nn
    have P8 := R.1.pp
    have len := R.1.len ha
    have rA := row_of R (Ex.rf T) ha
    have eA := (R.1.2.1 a ha).2.1
    have lna := app_len (T.lo a) (T.ro a)
    have cost := R.1.fz ha
    obtain ⟨la1, la2, la3, la4, _, _⟩ := R.1.2.2.1 a ha
    rw [h_X11_negativeOf_s]
    unfold b_X11_negativeOf
    rw [ldI_ok (len := 16000) rfl (by omega)]
    rcases R.2.2.2.1 a ha with h0 | ⟨r, hr, er, gr⟩
    · rw [if_neg (by omega), gtF_eq, ht, ldI_ok (len := 16000) rfl (by omega), rA.2.1]
      obtain ⟨x, hx⟩ : ∃ x, x = fz (T.d a) := ⟨_, rfl⟩
      rw [← hx] at cost hs ⊢
      have pA : ∀ {o : Nat}, o ∈ T.lo a ∨ o ∈ T.ro a → bd (T.d o) + 1 ≤ bd (T.d a) ∧ o < T.N ∧ NI F (T.d o) := fun {o} ho => by
        rcases ho with ho | ho
        · have q := (R.1.opL ha).mpr ⟨_, ho, rfl⟩
          exact ⟨bd_op (by decide : 0 < 2) q, Nat.lt_trans (la3 _ (List.mem_append_left _ ho)) ha, I.o (by decide : 0 < 2) q⟩
        · have q := (R.1.opR ha).mpr ⟨_, ho, rfl⟩
          exact ⟨bd_op (by decide : 1 < 2) q, Nat.lt_trans (la3 _ (List.mem_append_right _ ho)) ha, I.o (by decide : 1 < 2) q⟩
      obtain ⟨C1, hC1⟩ : ∃ z, z = ((T.lo a).map (fun o => fz (T.d o))).sum := ⟨_, rfl⟩
      obtain ⟨C2, hC2⟩ : ∃ z, z = ((T.ro a).map (fun o => fz (T.d o))).sum := ⟨_, rfl⟩
      rw [← hC1, ← hC2] at cost
      have mem0 : ∀ {L : List Nat}, L ≠ [] → ∃ o, o ∈ L := fun {L} h => by
        cases L with
        | nil => exact absurd rfl h
        | cons o L => exact ⟨o, List.mem_cons_self ..⟩
      have callA : ∀ {o : Nat}, bd (T.d o) + 1 ≤ bd (T.d a) ∧ o < T.N ∧ NI F (T.d o) → ∀ m2 T2 s2 (t2 : Nat), RSt m2 T2 F s2 → Ex T T2 → mGet m2 100 26 = (t2 : Int) → t2 ≤ t + 800 → s2 + fz (T.d o) < 1000000000 → Ok (h_X11_negativeOf n D (o : Int) m2) (Sumd m2 T2 F s2 (fz (T.d o)) (gneg (T.d o))) := fun {o} ⟨q1, q2, q3⟩ m2 T2 s2 t2 R2 ex h26 ht2 hs2 => by
        have e1 := ex.d q2
        have := neg_ok hn D o T2 m2 s2 t2 R2 (ex.lt q2) (by rw [e1]; omega) (by rw [e1]; exact q3) h26 (by rw [e1]; omega) (by rw [e1]; exact hs2)
        rw [e1] at this
        exact this
      refine wloop (CALL := fun x47 m30 => h_X11_negativeOf n D x47 m30) (fld := 105) (p := a) (s0 := T.st a + (T.lo a).length) (L := T.ro a) (val := fun o => gneg (T.d o)) (cst := fun o => fz (T.d o)) (Or.inr rfl) (by omega) (fun m2 T2 s2 R2 ex => by rw [(row_of R2 ex ha).2.2.1, lna, Nat.add_assoc]) (fun m2 T2 s2 R2 ex => (row_of R2 ex ha).2.2.2.right) (by omega) (by omega) 0 (fun ne => by obtain ⟨o, ho⟩ := mem0 ne; have := (pA (Or.inr ho)).1; omega) (fun o ho m2 T2 s2 t2 R2 ex h26 ht2 hs2 => callA (pA (Or.inr ho)) m2 T2 s2 t2 R2 ex h26 (by omega) (by omega)) (fun m3 T3 s3 A3 lA3 W3 => ?_) rfl (start_wts R ht)
      rw [← hC2] at W3
      have W3' := W3
      obtain ⟨w1, w2, w3, w4, w5, w6, w7, w8, w9⟩ := W3'
      rw [gtF_eq, w5.1, ldI_ok (len := 16000) rfl (by omega), (row_of w1 w2 ha).1]
      refine wloop (CALL := fun x92 m73 => h_X11_negativeOf n D x92 m73) (fld := 104) (p := a) (L := T.lo a) (val := fun o => gneg (T.d o)) (cst := fun o => fz (T.d o)) (Or.inl rfl) (by omega) (fun m2 T2 s2 R2 ex => (row_of R2 (w2.tr ex) ha).2.1) (fun m2 T2 s2 R2 ex => (row_of R2 (w2.tr ex) ha).2.2.2.left) (by omega) (by omega) 0 (fun ne => by obtain ⟨o, ho⟩ := mem0 ne; have := (pA (Or.inl ho)).1; omega) (fun o ho m2 T2 s2 t2 R2 ex h26 ht2 hs2 => callA (pA (Or.inl ho)) m2 T2 s2 t2 R2 (w2.tr ex) h26 (by omega) (by omega)) (fun m5 T5 s5 B5 lB5 W5 => ?_) rfl (start_wts w1 w5.1)
      rw [← hC1] at W5
      have lAB := app_len A3 B5
      have big : t + (A3 ++ B5).length ≤ 20000 := by
        by_cases q : bd (T.d a) = 0
        · have e1 : ∀ {L : List Nat}, (∀ o, ¬ o ∈ L) → L.length = 0 := fun {L} h => by
            cases L with
            | nil => rfl
            | cons o L => exact absurd (List.mem_cons_self ..) (h o)
          have z1 := e1 (L := T.lo a) (fun o ho => by have := (pA (Or.inl ho)).1; omega)
          have z2 := e1 (L := T.ro a) (fun o ho => by have := (pA (Or.inr ho)).1; omega)
          omega
        · omega
      refine ok_cal (close_ok (K := gneg (T.d a)) hn W3 W5 ht big (by omega) (fun z hz => ?_) (fun y hy => ?_) (fun z hz => ?_) (fun y hy => ?_) (fun K2 hK e => I _ (fol_rf _) K2 hK e)) (fun v m6 hq => ?_)
      · obtain ⟨k, hk, rfl⟩ := (op_gneg (by decide)).mp hz
        obtain ⟨o, ho, rfl⟩ := (R.1.opR ha).mp hk
        exact ⟨_, Or.inr ⟨o, ho, rfl⟩, geq_rfl _⟩
      · rcases hy with h | ⟨o, ho, rfl⟩
        · exact h.elim
        · exact ⟨_, (op_gneg (by decide)).mpr ⟨_, (R.1.opR ha).mpr ⟨o, ho, rfl⟩, rfl⟩, geq_rfl _⟩
      · obtain ⟨k, hk, rfl⟩ := (op_gneg (by decide)).mp hz
        obtain ⟨o, ho, rfl⟩ := (R.1.opL ha).mp hk
        exact ⟨_, Or.inr ⟨o, ho, rfl⟩, geq_rfl _⟩
      · rcases hy with h | ⟨o, ho, rfl⟩
        · exact h.elim
        · exact ⟨_, (op_gneg (by decide)).mpr ⟨_, (R.1.opL ha).mpr ⟨o, ho, rfl⟩, rfl⟩, geq_rfl _⟩
      · obtain ⟨⟨u, T6, s6, rfl, hu, gu, ex6, R6, s61, s62⟩, t6, k6, c6⟩ := hq
        have N6 := R6.1.nn
        rw [w32_1 (by omega), stI_ok (len := 16000) rfl (by omega)]
        obtain ⟨m7, e7⟩ : ∃ m7, m7 = mSet m6 112 a ((u + 1 : Nat) : Int) := ⟨_, rfl⟩
        rw [← e7]
        have g7 : ∀ a2 i, mGet m7 a2 i = if a2 = 112 ∧ i = a then ((u + 1 : Nat) : Int) else mGet m6 a2 i := fun a2 i => by rw [e7, mGet_mSet, w32_nat (by omega)]
        obtain ⟨R7, M7, S7, G7, U7, X7⟩ := R6
        refine ok_rt ⟨⟨u, T6, s6, rfl, hu, gu, ex6, ⟨R7.ext (fun a i z => by rw [g7, if_neg (by unfold RCe at z; omega)]), M7.ext (Nat.le_refl _) (fun _ _ => rfl) (fun j => ⟨by rw [g7, if_neg (by omega)], by rw [g7, if_neg (by omega)]⟩), S7.ext (Nat.le_refl _) (fun _ _ => rfl) (fun j => ⟨by rw [g7, if_neg (by omega)], by rw [g7, if_neg (by omega)]⟩), fun g hg => ?_, U7.ext (fun a i z => by rw [g7, if_neg (by omega)]), fun g hg => by rw [g7, if_neg (by omega)]; exact X7 g hg⟩, by omega, by omega⟩, by rw [g7, if_neg (by omega)]; exact t6, fun i hi => by rw [g7, if_neg (by omega)]; exact k6 i hi, c6.tr (by rw [e7]; exact Ch.set (Or.inl (Or.inl (Or.inr (Or.inl ⟨by omega, by omega⟩)))))⟩
        by_cases z : g = a
        · subst z
          exact Or.inr ⟨u, hu, by rw [g7, if_pos ⟨rfl, rfl⟩], by rw [ex6.d ha]; exact gu⟩
        · rw [g7, if_neg (by omega)]
          exact G7 g hg
    · rw [if_pos (by omega)]
      rw [ldI_ok (len := 16000) rfl (by omega), er, show (((r + 1 : Nat) : Int) - 1) = (r : Int) by omega, w32_nat (by omega)]
      exact ok_rt ((Sumd.self R hr).eqv gr (Nat.zero_le _))
theorem fneg_ok {n a s t : Nat} {F : List Nat} {T : Tb} {m : Mem} (hn : BIG < n) (R : RSt m T F s) (ha : a < T.N) (hD : bd (T.d a) + 1 ≤ 50) (I : NI F (T.d a)) (ht : mGet m 100 26 = (t : Int)) (h8 : t + 800 * bd (T.d a) ≤ 20000) (hs : s + fz (T.d a) < 1000000000) : Ok (f_X11_negativeOf n (a : Int) m) (Sumd m T F s (fz (T.d a)) (gneg (T.d a))) := neg_ok hn 50 a T m s t R ha hD I ht h8 hs
theorem gathers_eq {n : Nat} {m : Mem} {T : Tb} {F : List Nat} {s : Nat} (R : RSt m T F s) : f_X11_gathers n m = some (0, m) := by
  have N2 := R.1.nn
  have P8 := R.1.pp
  obtain ⟨⟨a1, a2, _, _⟩, _⟩ := R.1
  apply rk_eq
  unfold f_X11_gathers
  rw [gtF_eq, a1]
  refine ok_jn ?_
  rw [if_pos (by omega), gtF_eq, a2, if_pos (by omega)]
  exact ok_rt ⟨rfl, rfl⟩
