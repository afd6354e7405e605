/-! WHOLE NUMBERS, HEAPS -/
theorem Sumd.tr {m m2 m3 : Mem} {T : Tb} {F : List Nat} {s c c2 K2 : Nat} {s2 : Nat} {T2 : Tb} {v2 : Int} (ex : Ex T T2) (hs : s ≤ s2) (hs2 : s2 ≤ s + c) (t2 : mGet m2 100 26 = mGet m 100 26) (k2 : ∀ i : Nat, (i : Int) < mGet m 100 26 → mGet m2 122 i = mGet m 122 i) (c12 : Ch SSm m m2) (h : Sumd m2 T2 F s2 c2 K2 v2 m3) : Sumd m T F s (c + c2) K2 v2 m3 := by
  obtain ⟨⟨u, T3, s3, a, b, g, x, r, s31, s32⟩, t3, k3, c3⟩ := h
  exact ⟨⟨u, T3, s3, a, b, g, ex.tr x, r, by omega, by omega⟩, t3.trans t2, fun i hi => (k3 i (by rw [t2]; exact hi)).trans (k2 i hi), c12.tr c3⟩
/-- one game waits on one side, then it is closed -/
theorem single_ok {n : Nat} {m : Mem} {T : Tb} {F : List Nat} {s t u K : Nat} (lft : Bool) (hn : BIG < n) (R : RSt m T F s) (hu : u < T.N) (ht : mGet m 100 26 = (t : Int)) (h8 : t + 800 ≤ 20000) (hs : s + 2 < 1000000000) (e0 : ∀ x, op K (if lft then 0 else 1) x = true → geq (T.d u) x) (e1 : ∃ x, op K (if lft then 0 else 1) x = true ∧ geq (T.d u) x) (e2 : ∀ x, ¬ op K (if lft then 1 else 0) x = true) (hF : ∀ K2, can K2 → geq K2 K → K2 ∈ F) {Q : Int → Mem → Prop} {X : Int → Mem → Option Rz} (k : ∀ v m3, Sumd m T F s 1 K v m3 → Ok (X v m3) Q) : Ok (cal (f_X11_waits n (u : Int) m) fun _ m2 => cal (f_X11_canonicalOf n (t : Int) (if lft then ((t + 1 : Nat) : Int) else (t : Int)) m2) fun v m3 => X v m3) Q := by
  refine (start_wts R ht).push (Sumd.self R hu) (by simp; omega) (fun u2 T4 s4 m4 W4 ex4 => ?_)
  have W4' := W4
  obtain ⟨w1, w2, w3, w4, w5, w6, w7, w8, w9⟩ := W4'
  cases lft with
  | true =>
    have t4 : mGet m4 100 26 = ((t + ([] ++ [u2] : List Nat).length : Nat) : Int) := w5.1
    have := close_ok (K := K) (t := t) hn (W4.g (G2 := fun z => z = T.d u) (fun z => ⟨fun h => h.elim (fun h => h.elim) id, Or.inr⟩) (Nat.le_refl _)) (start_wts w1 t4) ht (by simp; omega) (by omega) (fun x hx => ⟨_, rfl, e0 x hx⟩) (fun y hy => by subst hy; exact e1) (fun x hx => absurd hx (e2 x)) (fun y hy => hy.elim) hF
    refine ok_cal this (fun v m5 hq => k v m5 (hq.eqv (geq_rfl _) (Nat.le_refl _)))
  | false =>
    obtain ⟨st0⟩ : Nonempty Unit := ⟨()⟩
    -- nothing of left waits: all that waits is of right
    have := close_ok (K := K) (t := t) (m3 := m) (T3 := T) (s3 := s) (A := []) hn (start_wts R ht) (W4.g (G2 := fun z => z = T.d u) (fun z => ⟨fun h => h.elim (fun h => h.elim) id, Or.inr⟩) (Nat.le_refl _)) ht (by simp; omega) (by omega) (fun x hx => absurd hx (e2 x)) (fun y hy => hy.elim) (fun x hx => ⟨_, rfl, e0 x hx⟩) (fun y hy => by subst hy; exact e1) hF
    refine ok_cal this (fun v m5 hq => k v m5 (hq.eqv (geq_rfl _) (Nat.le_refl _)))
theorem wholeOf_ok {n : Nat} {m : Mem} {T : Tb} {F : List Nat} {s t : Nat} {z : Int} (hn : BIG < n) (R : RSt m T F s) (ht : mGet m 100 26 = (t : Int)) (h8 : t + 800 ≤ 20000) (hz : z.natAbs ≤ 20) (hs : s + 30 < 1000000000) (hF : ∀ j : Int, j.natAbs ≤ z.natAbs → iz j ∈ F) : Ok (f_X11_wholeOf n z m) (Sumd m T F s z.natAbs (iz z)) := by
  have n4 := BIG_m hn
  unfold f_X11_wholeOf
  obtain ⟨sg, hsg⟩ : ∃ sg : Nat → Int, sg = fun k : Nat => if 0 < z then (k : Int) else -(k : Int) := ⟨_, rfl⟩
  have esg : sg z.natAbs = z := by rw [hsg]; dsimp only; split <;> omega
  refine ok_up2 (i := 0) z.natAbs (fun k v m2 => Sumd m T F s k (iz (sg k)) v m2) (fun w k v m2 hk hI hw => ?_) (fun w v m2 hI => ?_) n 0 m (Nat.zero_le _) ⟨⟨0, T, s, rfl, by have := R.1.1.2.2.1; omega, ?_, Ex.rf T, R, Nat.le_refl _, Nat.le_refl _⟩, rfl, fun _ _ => rfl, Ch.rf _ _⟩ (by omega)
  · obtain ⟨⟨u, T2, s2, rfl, hu, gu, ex, R2, s21, s22⟩, t2, k2, c2⟩ := hI
    have N2 := R2.1.nn
    refine ok_jn ?_
    have go : Ok ((fun (m15 : Mem) =>
      gtF m15 100 26 fun x16 =>
      cal (f_X11_waits n (u : Int) m15) fun _ m23 =>
      jn (fun (s0_42 : Int) (m42 : Mem) =>
        cal (f_X11_canonicalOf n x16 s0_42 m42) fun x42 m42 =>
        w x42 (w32 ((k : Int) + 1)) m42
      ) fun (j42 : Int → Mem → Option Rz) =>
      if 0 < z then (
        j42 (w32 (x16 + 1)) m23
      ) else
      j42 x16 m23) m2) (Sumd m T F s z.natAbs (iz z)) := by
      have h26 := t2.trans ht
      show Ok (gtF m2 100 26 _) _
      rw [gtF_eq, h26, show w32 ((t : Int) + 1) = ((t + 1 : Nat) : Int) from w32_1 (by omega), show w32 ((k : Int) + 1) = ((k + 1 : Nat) : Int) from w32_1 (by omega)]
      have fin : ∀ v m3, Sumd m2 T2 F s2 1 (iz (sg (k + 1))) v m3 → Ok (w v ((k + 1 : Nat) : Int) m3) (Sumd m T F s z.natAbs (iz z)) := fun v m3 hq => by
        exact hw v m3 (Sumd.tr ex s21 s22 t2 k2 c2 hq)
      have eF : ∀ K2, can K2 → geq K2 (iz (sg (k + 1))) → K2 ∈ F := fun K2 hK e => by
        rw [can_uniq hK (can_iz _) e]
        refine hF _ ?_
        rw [hsg]; dsimp only; split <;> omega
      by_cases q : 0 < z
      · have es : ∀ j : Nat, sg j = (j : Int) := fun j => by rw [hsg]; dsimp only; rw [if_pos q]
        have := single_ok (X := fun v m3 => w v ((k + 1 : Nat) : Int) m3) (K := iz (sg (k + 1))) true hn R2 hu h26 h8 (by omega) (fun x hx => by
          obtain ⟨_, e⟩ := iz_L.mp hx
          rw [e, es, show ((k + 1 : Nat) : Int) - 1 = (k : Int) by omega, ← es]
          exact gu) ⟨iz (sg k), iz_L.mpr ⟨by rw [es]; omega, by rw [es, es]; congr 1; omega⟩, gu⟩ (fun x hx => by
          obtain ⟨e, _⟩ := iz_R.mp hx
          rw [es] at e
          omega) eF fin
        refine Eq.mp ?_ this
        congr 1
        congr 1
        funext _ m23
        show (cal (f_X11_canonicalOf n (t : Int) ((t + 1 : Nat) : Int) m23) fun v m3 => w v ((k + 1 : Nat) : Int) m3) = if 0 < z then _ else _
        rw [if_pos q]
      · have es : ∀ j : Nat, sg j = -(j : Int) := fun j => by rw [hsg]; dsimp only; rw [if_neg q]
        have := single_ok (X := fun v m3 => w v ((k + 1 : Nat) : Int) m3) (K := iz (sg (k + 1))) false hn R2 hu h26 h8 (by omega) (fun x hx => by
          obtain ⟨_, e⟩ := iz_R.mp hx
          rw [e, es, show -((k + 1 : Nat) : Int) + 1 = -(k : Int) by omega, ← es]
          exact gu) ⟨iz (sg k), iz_R.mpr ⟨by rw [es]; omega, by rw [es, es]; congr 1; omega⟩, gu⟩ (fun x hx => by
          obtain ⟨e, _⟩ := iz_L.mp hx
          rw [es] at e
          omega) eF fin
        refine Eq.mp ?_ this
        congr 1
        congr 1
        funext _ m23
        show (cal (f_X11_canonicalOf n (t : Int) (t : Int) m23) fun v m3 => w v ((k + 1 : Nat) : Int) m3) = if 0 < z then _ else _
        rw [if_neg q]
    by_cases q1 : (k : Int) < z
    · rw [if_pos q1]; exact go
    · rw [if_neg q1, if_pos (by rw [w32_id (by omega) (by omega)]; omega)]; exact go
  · refine ok_jn ?_
    rw [if_neg (by omega), if_neg (by rw [w32_id (by omega) (by omega)]; omega)]
    obtain ⟨⟨u, T2, s2, rfl, q⟩, q2⟩ := hI
    rw [esg] at q
    exact ok_rt ⟨⟨u, T2, s2, rfl, q⟩, q2⟩
  · rw [R.1.d0, hsg]
    dsimp only
    split <;> exact geq_rfl _
/-- a list of numbers is put on what waits -/
def Spu (f : Nat) (a i : Nat) : Prop := (a = 122 ∧ f ≤ i) ∨ (a = 100 ∧ i = 26)
theorem pushU {K : Mem → Option Rz} {Q : Int → Mem → Prop} {N0 N1 f : Nat} {U : List Nat} {m : Mem} (hU : Row m 125 0 U) (hb : ∀ o, o ∈ U → o < 2147483648) (ht : mGet m 100 26 = (f : Int)) (hf : f + U.length < 20000) (hl : U.length < 14) (hN : U.length < N1) (fin : ∀ m', Stk m' f U → Ch (Spu f) m m' → Ok (K m') Q) : Ok (lp (F := Int → Mem → Option Rz) (fun _ _ => none) (fun w v mm => if v < (U.length : Int) then (ldI mm 125 v fun x35 => cal (f_X11_waits N0 x35 mm) fun _ m36 => w (w32 (v + 1)) m36) else K mm) N1 0 m) Q := by
  refine ok_row1 (s := 0) (k := 0) U.length (fun k m2 => Stk m2 f (U.take k) ∧ Ch (Spu f) m m2) (fun w k m2 hk hI hw => ?_) (fun w m2 hI => ?_) N1 m (Nat.zero_le _) ⟨⟨ht, fun k hk => by cases hk⟩, Ch.rf _ _⟩ (by omega)
  · obtain ⟨S, c⟩ := hI
    have lt : (U.take k).length = k := by rw [List.length_take]; omega
    have e : mGet m2 125 (0 + k) = (U[k] : Int) := by rw [c.2 _ _ (by unfold Spu; omega)]; exact hU k hk
    have b := hb _ (List.getElem_mem hk)
    rw [if_pos (by omega), ldI_ok (len := 14) rfl (by omega), e]
    have t2 : mGet m2 100 26 = ((f + k : Nat) : Int) := by rw [S.1, lt]
    refine ok_calE (waits_eq (n := N0) t2 (by omega) b) ?_
    rw [w32_s (by omega)]
    have S2 := S.push (v := U[k]) b (by omega)
    rw [lt] at S2
    refine hw _ ⟨by rw [take_s hk]; exact S2, c.tr ((Ch.set (Or.inl ⟨rfl, by omega⟩)).tr (Ch.set (Or.inr ⟨rfl, rfl⟩)))⟩
  · obtain ⟨S, c⟩ := hI
    rw [List.take_length] at S
    rw [if_neg (by omega)]
    exact fin m2 S c
theorem rheapOf_ok {n : Nat} {m : Mem} {T : Tb} {F : List Nat} {s t p : Nat} (hn : BIG < n) (R : RSt m T F s) (ht : mGet m 100 26 = (t : Int)) (h8 : t + 800 ≤ 20000) (hp : p ≤ 12) (hs : s + 30 < 1000000000) (hF : ∀ j, j ≤ p → hc j ∈ F) : Ok (f_X11_heapOf n (p : Int) m) (Sumd m T F s p (hc p)) := by
  have n4 := BIG_m hn
  unfold f_X11_heapOf
  rw [stI0_ok (len := 14) rfl (by decide)]
  obtain ⟨m0, e0⟩ : ∃ m0, m0 = mSet m 125 0 0 := ⟨_, rfl⟩
  rw [← e0]
  have g0 : ∀ a i, mGet m0 a i = if a = 125 ∧ i = 0 then 0 else mGet m a i := fun a i => by rw [e0, mGet_mSet, w32_0']
  have R0 : RSt m0 T F s := R.ext (fun a i z => by rw [g0, if_neg (by unfold RSc at z; omega)])
  have c0 : Ch SSm m m0 := by rw [e0]; exact Ch.set (Or.inr (Or.inr (Or.inr (Or.inr rfl))))
  refine ok_up1 (i := 1) (p + 1) (fun j m2 => ∃ T2 s2 U, U.length = j ∧ Row m2 125 0 U ∧ (∀ i, (hi : i < U.length) → U[i] < T2.N ∧ geq (T2.d U[i]) (hc i)) ∧ RSt m2 T2 F s2 ∧ Ex T T2 ∧ s ≤ s2 ∧ s2 + 1 ≤ s + j ∧ mGet m2 100 26 = (t : Int) ∧ (∀ i : Nat, i < t → mGet m2 122 i = mGet m 122 i) ∧ Ch SSm m m2) (fun w j m2 hj hI hw => ?_) (fun w m2 hI => ?_) n m0 (by omega) ⟨T, s, [0], rfl, fun k hk => ?_, fun i hi => ?_, R0, Ex.rf T, Nat.le_refl _, Nat.le_refl _, by rw [g0, if_neg (by omega)]; exact ht, fun i _ => by rw [g0, if_neg (by omega)], c0⟩ (by omega)
  · obtain ⟨T2, s2, U, lU, rU, vU, R2, ex, s21, s22, t2, k2, c2⟩ := hI
    have N2 := R2.1.nn
    have mU : ∀ o, o ∈ U → o < T2.N := fun o ho => by
      obtain ⟨i, hi, e⟩ := List.mem_iff_getElem.mp ho
      rw [← e]; exact (vU i hi).1
    subst lU
    rw [if_neg (by omega), gtF_eq, t2]
    refine pushU (U := U) rU (fun o ho => by have := mU o ho; omega) t2 (by omega) (by omega) (by omega) (fun m3 S3 c3 => ?_)
    have t3 := S3.1
    refine pushU (U := U) (f := t + U.length) (rU.ext (fun k hk => c3.2 _ _ (by unfold Spu; omega))) (fun o ho => by have := mU o ho; omega) t3 (by omega) (by omega) (by omega) (fun m4 S4 c4 => ?_)
    have lUU := app_len U U
    have K4 : Stk m4 t (U ++ U) := ⟨by rw [S4.1, lUU, Nat.add_assoc], Row.glue (S3.2.ext (fun k hk => c4.2 _ _ (by unfold Spu; omega))) S4.2⟩
    have R4 : RSt m4 T2 F s2 := (R2.ext (m' := m3) (fun a i z => c3.2 _ _ (by unfold RSc at z; unfold Spu; omega))).ext (fun a i z => c4.2 _ _ (by unfold RSc at z; unfold Spu; omega))
    have geU : geq (MK T2.d U U) (hc U.length) := by
      have h1 : ∀ i, (hi : i < U.length) → ∀ w, w < 2 → op (hc U.length) w (hc i) = true := fun i hi w hw => (op_hc hw).mpr ⟨i, hi, rfl⟩
      refine geq_of (fun z hz => ?_) (fun z hz => ?_) (fun z hz => ?_) (fun z hz => ?_)
      · obtain ⟨o, ho, rfl⟩ := op_MKL.mp hz
        obtain ⟨i, hi, e⟩ := List.mem_iff_getElem.mp ho
        exact ⟨hc i, h1 i hi 0 (by decide), by rw [← e]; exact (vU i hi).2⟩
      · obtain ⟨i, hi, rfl⟩ := (op_hc (by decide)).mp hz
        exact ⟨_, op_MKL.mpr ⟨U[i], List.getElem_mem hi, rfl⟩, (vU i hi).2⟩
      · obtain ⟨o, ho, rfl⟩ := op_MKR.mp hz
        obtain ⟨i, hi, e⟩ := List.mem_iff_getElem.mp ho
        exact ⟨hc i, h1 i hi 1 (by decide), by rw [← e]; exact (vU i hi).2⟩
      · obtain ⟨i, hi, rfl⟩ := (op_hc (by decide)).mp hz
        exact ⟨_, op_MKR.mpr ⟨U[i], List.getElem_mem hi, rfl⟩, (vU i hi).2⟩
    rw [show (t : Int) + (U.length : Int) = ((t + U.length : Nat) : Int) by omega, w32_nat (by omega)]
    refine ok_cal (canOf_ok hn R4 K4 (by omega) (by omega) (fun o ho => (List.mem_append.mp ho).elim (mU o) (mU o)) (fun K hK e => by
      rw [can_uniq hK (can_hc _) (e.tr geU)]
      exact hF _ (by omega))) (fun v m5 hq => ?_)
    obtain ⟨⟨u, T6, s6, rfl, hu, gu, ex6, R6, s61, s62⟩, t6, c6⟩ := hq
    have N6 := R6.1.nn
    rw [stI_ok (len := 14) rfl (by omega), w32_1 (by omega)]
    obtain ⟨m7, e7⟩ : ∃ m7, m7 = mSet m5 125 U.length (u : Int) := ⟨_, rfl⟩
    rw [← e7]
    have g7 : ∀ a i, mGet m7 a i = if a = 125 ∧ i = U.length then (u : Int) else mGet m5 a i := fun a i => by rw [e7, mGet_mSet, w32_nat (by omega)]
    refine hw m7 ⟨T6, s6, U ++ [u], by rw [List.length_append]; rfl, Row.app (rU.ext (fun k hk => ?_)) ?_, fun i hi => ?_, R6.ext (fun a i z => by rw [g7, if_neg (by unfold RSc at z; omega)]), ex.tr ex6, by omega, by omega, by rw [g7, if_neg (by omega)]; exact t6, fun i hi => ?_, ?_⟩
    · rw [g7, if_neg (by omega), c6.2 _ _ (by unfold SCt SCn; omega), c4.2 _ _ (by unfold Spu; omega), c3.2 _ _ (by unfold Spu; omega)]
    · rw [Nat.zero_add, g7, if_pos ⟨rfl, rfl⟩]
    · by_cases q : i < U.length
      · rw [List.getElem_append_left q]
        exact ⟨ex6.lt (vU i q).1, by rw [ex6.d (vU i q).1]; exact (vU i q).2⟩
      · rw [List.length_append, List.length_singleton] at hi
        have : i = U.length := by omega
        subst this
        rw [List.getElem_append_right (Nat.le_refl _)]
        simp only [Nat.sub_self, List.getElem_cons_zero]
        exact ⟨hu, gu.tr geU⟩
    · rw [g7, if_neg (by omega), c6.2 _ _ (by unfold SCt SCn; omega), c4.2 _ _ (by unfold Spu; omega), c3.2 _ _ (by unfold Spu; omega)]
      exact k2 i hi
    · refine (((c2.tr (c3.weak (fun a i z => ?_))).tr (c4.weak (fun a i z => ?_))).tr (c6.weak (fun a i z => Or.inl z))).tr (by rw [e7]; exact Ch.set (Or.inr (Or.inr (Or.inr (Or.inr rfl)))))
      · unfold Spu at z; unfold SSm SCt; omega
      · unfold Spu at z; unfold SSm SCt; omega
  · obtain ⟨T2, s2, U, lU, rU, vU, R2, ex, s21, s22, t2, k2, c2⟩ := hI
    have e := rU p (by omega)
    rw [Nat.zero_add] at e
    rw [if_pos (by omega), ldI_ok (len := 14) rfl (by omega), e]
    refine ok_rt ⟨⟨U[p], T2, s2, rfl, (vU p (by omega)).1, (vU p (by omega)).2, ex, R2, s21, by omega⟩, t2.trans ht.symm, fun i hi => k2 i (by rw [ht] at hi; omega), c2⟩
  · have : k = 0 := by simp at hk; omega
    subst this
    rw [g0, if_pos ⟨rfl, rfl⟩]
    rfl
  · have : i = 0 := by simp at hi; omega
    subst this
    exact ⟨by have := R.1.1.2.2.1; simp; omega, by simp only [List.getElem_cons_zero]; rw [R.1.d0]; exact geq_rfl _⟩
/-- the first up -/
theorem up_ok1 {n : Nat} {m : Mem} {T : Tb} {F : List Nat} {s t : Nat} (hn : BIG < n) (R : RSt m T F s) (ht : mGet m 100 26 = (t : Int)) (h8 : t + 800 ≤ 20000) (hs : s + 40 < 1000000000) (hF : ∀ j, j ≤ 1 → hc j ∈ F) (hU : upg ∈ F) (cu : can upg) : Ok (f_X11_up n m) (Sumd m T F s 2 upg) := by
  unfold f_X11_up
  refine ok_cal (rheapOf_ok (p := 1) hn R ht h8 (by decide) (by omega) (fun j hj => hF j hj)) (fun v m2 hq => ?_)
  obtain ⟨⟨u, T2, s2, rfl, hu, gu, ex, R2, s21, s22⟩, t2, k2, c2⟩ := hq
  have N2 := R2.1.nn
  have p0 := R2.1.1.2.2.1
  have h2 := t2.trans ht
  rw [gtF_eq, h2]
  refine (start_wts R2 h2).push (Sumd.self (u := 0) R2 (by omega)) (by simp; omega) (fun a T4 s4 m4 W4 ex4 => ?_)
  have W4' := W4
  obtain ⟨w1, w2, w3, w4, w5, w6, w7, w8, w9⟩ := W4'
  have l1 : ([] ++ [a] : List Nat).length = 1 := rfl
  refine (start_wts w1 w5.1).push (Sumd.self (u := u) w1 (ex4.lt hu)) (by simp; omega) (fun b T5 s5 m5 W5 ex5 => ?_)
  rw [w32_1 (by omega)]
  refine ok_cal (close_ok (K := upg) (t := t) hn W4 W5 h2 (by simp; omega) (by omega) (fun x hx => ?_) (fun y hy => ?_) (fun x hx => ?_) (fun y hy => ?_) (fun K2 hK e => by rw [can_uniq hK cu e]; exact hU)) (fun v m6 hq => ?_)
  · rw [op_upL.mp hx]
    exact ⟨_, Or.inr rfl, by rw [R2.1.d0]; exact geq_rfl _⟩
  · rcases hy with h | rfl
    · exact h.elim
    · exact ⟨0, op_upL.mpr rfl, by rw [R2.1.d0]; exact geq_rfl _⟩
  · rw [op_upR.mp hx]
    exact ⟨_, Or.inr rfl, by rw [ex4.d hu]; exact gu⟩
  · rcases hy with h | rfl
    · exact h.elim
    · exact ⟨_, op_upR.mpr rfl, by rw [ex4.d hu]; exact gu⟩
  · exact ok_rt (Sumd.tr ex s21 s22 t2 k2 c2 (hq.eqv (geq_rfl _) (Nat.le_refl _)))
