/-! THE TAPE: read -/
def At (t : Nat → Nat) (p : Nat) (w : List Nat) : Prop := ∀ i, i < w.length → t (p + i) = w.getD i 0
theorem At.l {t : Nat → Nat} {p : Nat} {u v : List Nat} (h : At t p (u ++ v)) : At t p u := fun i hi => by
  rw [h i (by rw [List.length_append]; omega), List.getD_eq_getElem?_getD, List.getD_eq_getElem?_getD, List.getElem?_append_left hi]
theorem At.r {t : Nat → Nat} {p : Nat} {u v : List Nat} (h : At t p (u ++ v)) : At t (p + u.length) v := fun i hi => by
  rw [show p + u.length + i = p + (u.length + i) by omega, h _ (by rw [List.length_append]; omega), List.getD_eq_getElem?_getD, List.getD_eq_getElem?_getD, List.getElem?_append_right (by omega), show u.length + i - u.length = i by omega]
theorem At.hd {t : Nat → Nat} {p c : Nat} {w : List Nat} (h : At t p (c :: w)) : t p = c := h 0 (Nat.succ_pos _)
theorem At.tl {t : Nat → Nat} {p c : Nat} {w : List Nat} (h : At t p (c :: w)) : At t (p + 1) w := fun i hi => by
  have := h (i + 1) (by rw [List.length_cons]; omega)
  rw [show p + 1 + i = p + (i + 1) by omega, this]
  rfl
/-- the tape as it is read: the place, the steps so far -/
def PS (m : Mem) (c : Nat) (t : Nat → Nat) (p : Nat) (st : List Nat) : Prop := TX m c t ∧ c ≤ 100 ∧ p ≤ c ∧ mGet m 41 5 = (p : Int) ∧ mGet m 41 7 = (st.length : Int) ∧ st.length ≤ p ∧ ∀ i, i < st.length → mGet m 43 i = (st.getD i 0 : Int)
def PF (m m' : Mem) : Prop := m'.2 = m.2 ∧ ∀ a i, a ≠ 41 → a ≠ 43 → mGet m' a i = mGet m a i
theorem PF.rf (m : Mem) : PF m m := ⟨rfl, fun _ _ _ _ => rfl⟩
theorem PF.tr {a b c : Mem} (h : PF a b) (g : PF b c) : PF a c := ⟨g.1.trans h.1, fun i j h1 h2 => (g.2 i j h1 h2).trans (h.2 i j h1 h2)⟩
theorem sign_eq {n c p : Nat} {t : Nat → Nat} {st : List Nat} {m : Mem} (S : PS m c t p st) (hp : p < c) : f_X7_sign n m = some ((t p : Int), m) := by
  obtain ⟨⟨x1, x2⟩, c1, _, p1, _⟩ := S
  unfold f_X7_sign
  dsimp only [jn, gtF]
  rw [p1, x1, if_neg (by omega), if_pos (by omega), if_pos (by omega), ldB_ok (kB42 _) (by omega), x2 p hp]
  rfl
theorem sign_end {n c p : Nat} {t : Nat → Nat} {st : List Nat} {m : Mem} (S : PS m c t p st) (hp : p = c) : f_X7_sign n m = some (-1, m) := by
  obtain ⟨⟨x1, x2⟩, c1, _, p1, _⟩ := S
  unfold f_X7_sign
  dsimp only [jn, gtF]
  rw [p1, x1, if_neg (by omega), if_neg (by omega)]
  rfl
theorem PS.adv {c p : Nat} {t : Nat → Nat} {st : List Nat} {m : Mem} (S : PS m c t p st) (hp : p < c) : PS (mSet m 41 5 ((p + 1 : Nat) : Int)) c t (p + 1) st ∧ PF m (mSet m 41 5 ((p + 1 : Nat) : Int)) ∧ mGet (mSet m 41 5 ((p + 1 : Nat) : Int)) 41 6 = mGet m 41 6 := by
  obtain ⟨⟨x1, x2⟩, c1, p0, p1, s1, s2, s3⟩ := S
  have G8 : ∀ a i, mGet (mSet m 41 5 ((p + 1 : Nat) : Int)) a i = if a = 41 ∧ i = 5 then ((p + 1 : Nat) : Int) else mGet m a i := fun a i => by rw [mGet_mSet, w32_nat (by omega)]
  exact ⟨⟨⟨by rw [G8, if_neg (by omega)]; exact x1, fun i hi => by rw [G8, if_neg (by omega)]; exact x2 i hi⟩, c1, hp, by rw [G8, if_pos ⟨rfl, rfl⟩], by rw [G8, if_neg (by omega)]; exact s1, by omega, fun i hi => by rw [G8, if_neg (by omega)]; exact s3 i hi⟩, ⟨rfl, fun a i h1 _ => by rw [G8, if_neg (fun e => h1 e.1)]⟩, by rw [G8, if_neg (by omega)]⟩
theorem code_all : ∀ a : Fin 6, ∀ b : Fin 16, ∀ e : Fin 16, ior (ior (a.val : Int) (ishl (b.val : Int) 4)) (ishl (e.val : Int) 12) = ((a.val + 16 * b.val + 4096 * e.val : Nat) : Int) := by decide +kernel
theorem kI43 (m : Mem) : sKind m 43 = (1, 120) := rfl
theorem getD_app {st : List Nat} {x i : Nat} (h : i < st.length) : (st ++ [x]).getD i 0 = st.getD i 0 := by
  rw [List.getD_eq_getElem?_getD, List.getD_eq_getElem?_getD, List.getElem?_append_left h]
theorem getD_last {st : List Nat} {x : Nat} : (st ++ [x]).getD st.length 0 = x := by
  rw [List.getD_eq_getElem?_getD, List.getElem?_append_right (Nat.le_refl _), Nat.sub_self]
  rfl
theorem step_ok {n c p a b e : Nat} {t : Nat → Nat} {st : List Nat} {m : Mem} (S : PS m c t p st) (hl : st.length < p) (ha : a < 6) (hb : b < 16) (he : e < 16) : Ok (f_X7_step n (a : Int) (b : Int) (e : Int) m) (fun v m' => v = 1 ∧ PS m' c t p (st ++ [a + 16 * b + 4096 * e]) ∧ PF m m' ∧ mGet m' 41 6 = mGet m 41 6) := by
  obtain ⟨⟨x1, x2⟩, c1, p0, p1, s1, s2, s3⟩ := S
  have ec : ior (ior (a : Int) (ishl (b : Int) 4)) (ishl (e : Int) 12) = ((a + 16 * b + 4096 * e : Nat) : Int) := code_all ⟨a, ha⟩ ⟨b, hb⟩ ⟨e, he⟩
  unfold f_X7_step
  dsimp only [jn, gtF, ptF]
  rw [s1, if_neg (by omega), if_pos (by omega), stI_ok (kI43 _) (by omega), ec]
  have G8 : ∀ k i, mGet (mSet m 43 st.length ((a + 16 * b + 4096 * e : Nat) : Int)) k i = if k = 43 ∧ i = st.length then ((a + 16 * b + 4096 * e : Nat) : Int) else mGet m k i := fun k i => by rw [mGet_mSet, w32_nat (by omega)]
  rw [G8, if_neg (by omega), s1, k_1 (by omega)]
  have G9 : ∀ k i, mGet (mSet (mSet m 43 st.length ((a + 16 * b + 4096 * e : Nat) : Int)) 41 7 ((st.length + 1 : Nat) : Int)) k i = if k = 41 ∧ i = 7 then ((st.length + 1 : Nat) : Int) else if k = 43 ∧ i = st.length then ((a + 16 * b + 4096 * e : Nat) : Int) else mGet m k i := fun k i => by rw [mGet_mSet, w32_nat (by omega), G8]
  refine ok_rtZ (Or.inr rfl) ⟨rfl, ⟨⟨by rw [G9, if_neg (by omega), if_neg (by omega)]; exact x1, fun i hi => by rw [G9, if_neg (by omega), if_neg (by omega)]; exact x2 i hi⟩, c1, p0, by rw [G9, if_neg (by omega), if_neg (by omega)]; exact p1, by rw [G9, if_pos ⟨rfl, rfl⟩, List.length_append]; rfl, by rw [List.length_append, List.length_singleton]; omega, fun i hi => ?_⟩, ⟨rfl, fun k i h1 h2 => by rw [G9, if_neg (fun e => h1 e.1), if_neg (fun e => h2 e.1)]⟩, by rw [G9, if_neg (by omega), if_neg (by omega)]⟩
  rw [List.length_append, List.length_singleton] at hi
  rw [G9, if_neg (by omega)]
  by_cases q : i = st.length
  · rw [if_pos ⟨rfl, q⟩, q, getD_last]
  · rw [if_neg (fun e => q e.2), getD_app (by omega)]
    exact s3 i (by omega)
theorem isDigit_eq {n : Nat} {x : Int} {m : Mem} : f_X7_isDigit n x m = some (b2i (decide (48 ≤ x ∧ x ≤ 57)), m) := by
  unfold f_X7_isDigit
  dsimp only [jn]
  by_cases q : x < 48
  · rw [if_pos q, decide_eq_false (by omega)]; rfl
  · rw [if_neg q]
    by_cases q2 : 57 < x
    · rw [if_pos q2, decide_eq_false (by omega)]; rfl
    · rw [if_neg q2, decide_eq_true (by omega)]; rfl
/-- behind a word: a comma, a bar, a brace, or the end -/
def Dm (c : Nat) (t : Nat → Nat) (q : Nat) : Prop := q = c ∨ (q < c ∧ (t q = 44 ∨ t q = 124 ∨ t q = 125))
theorem Dm.sign {n c q : Nat} {t : Nat → Nat} {st : List Nat} {m : Mem} (D : Dm c t q) (S : PS m c t q st) : ∃ x : Int, f_X7_sign n m = some (x, m) ∧ ¬ (48 ≤ x ∧ x ≤ 57) ∧ x ≠ 43 := by
  rcases D with h | ⟨h, h2⟩
  · exact ⟨-1, sign_end S h, by omega, by omega⟩
  · exact ⟨(t q : Int), sign_eq S h, by omega, by omega⟩
/-- what reading comes to: read, or a fault -/
def PR (m : Mem) (c : Nat) (t : Nat → Nat) (p : Nat) (st : List Nat) (o : Option Nat) (len : Nat) (pr : List Nat) (good bad v : Int) (m' : Mem) : Prop := PF m m' ∧ match o with
  | none => v = good ∧ PS m' c t (p + len) (st ++ pr) ∧ mGet m' 41 6 = mGet m 41 6
  | some k => v = bad ∧ mGet m' 41 6 = ((p + k : Nat) : Int)
theorem number_ok {n c p a k : Nat} {t : Nat → Nat} {st : List Nat} {m : Mem} (hn : 300 < n) (S : PS m c t p st) (hp : p < c) (ht : t p = 48 + k) (hk : k ≤ 9) (ha : a < 6) (D : Dm c t (p + 1)) : Ok (f_X7_parseNumber n (a : Int) m) (fun v m' => v = 1 ∧ PS m' c t (p + 1) (st ++ [a + 16 * k]) ∧ PF m m' ∧ mGet m' 41 6 = mGet m 41 6) := by
  have p1 := S.2.2.2.1
  have c1 := S.2.1
  have sl := S.2.2.2.2.2.1
  obtain ⟨S1, F1, k1⟩ := S.adv hp
  have q1 := S1.2.2.2.1
  unfold f_X7_parseNumber
  dsimp only [jn, nm, gtF, ptF]
  rw [p1]
  refine ok_lp1 (fun v m1 => (v = 0 ∧ m1 = m) ∨ (v = (k : Int) ∧ m1 = mSet m 41 5 ((p + 1 : Nat) : Int))) (fun _ m1 => (200 - mGet m1 41 5).toNat) (fun w v m1 hI hw => ?_) n 0 m (Or.inl ⟨rfl, rfl⟩) (by rw [p1]; omega)
  rcases hI with ⟨rfl, rfl⟩ | ⟨rfl, rfl⟩
  · rw [p1, w32_id (x := (p : Int) + 2) (by omega) (by omega), if_pos (by omega)]
    refine ok_calE (sign_eq S hp) ?_
    refine ok_calE isDigit_eq ?_
    rw [decide_eq_true (by omega), if_neg (show ¬ b2i true = 0 by decide)]
    refine ok_calE (sign_eq S hp) ?_
    rw [ht, show w32 (w32 (w32 (0 * 10) + ((48 + k : Nat) : Int)) - 48) = (k : Int) by
      rw [show w32 (0 * 10) = 0 from rfl, w32_id (x := 0 + ((48 + k : Nat) : Int)) (by omega) (by omega), w32_id (by omega) (by omega)]
      omega, p1, k_1 (by omega)]
    exact hw _ _ (Or.inr ⟨rfl, rfl⟩) (by rw [q1, p1]; omega)
  · rw [q1, w32_id (x := (p : Int) + 2) (by omega) (by omega), if_pos (by omega)]
    obtain ⟨x, e1, e2, _⟩ := D.sign (n := n) S1
    refine ok_calE e1 ?_
    refine ok_calE isDigit_eq ?_
    rw [decide_eq_false e2, if_pos (show b2i false = 0 from rfl), if_neg (by omega)]
    refine ok_cal (step_ok (a := a) (b := k) (e := 0) S1 (by omega) ha (by omega) (by decide)) (fun v m2 h2 => ?_)
    obtain ⟨rfl, S2, F2, k2⟩ := h2
    refine ok_rtZ (Or.inr rfl) ⟨rfl, ?_, F1.tr F2, k2.trans k1⟩
    rw [show a + 16 * k + 4096 * 0 = a + 16 * k by omega] at S2
    exact S2
def UOK (n c : Nat) (t : Nat → Nat) (dd d x : Nat) : Prop := ∀ p st m, PS m c t p st → At t p (wd x) → p + (wd x).length ≤ c → Dm c t (p + (wd x).length) → Ok ((t_X7_parseUnit n dd).2.2.2 (d : Int) m) (PR m c t p st (scanF d (wd x)) (wd x).length (prog x) 1 0)
def SOK (n c : Nat) (t : Nat → Nat) (dd d x : Nat) : Prop := ∀ p st m, PS m c t p st → At t p (wd x) → p + (wd x).length ≤ c → Dm c t (p + (wd x).length) → Ok ((t_X7_parseUnit n dd).2.2.1 (d : Int) m) (PR m c t p st (scanF d (wd x)) (wd x).length (prog x) 1 0)
theorem sum_of {n c dd d x : Nat} {t : Nat → Nat} (hn : 300 < n) (U : UOK n c t dd d x) : SOK n c t (dd + 1) d x := by
  intro p st m S A hc D
  show Ok (b_X7_parseSum n (t_X7_parseUnit n dd).1 (t_X7_parseUnit n dd).2.1 (t_X7_parseUnit n dd).2.2.1 (t_X7_parseUnit n dd).2.2.2 (d : Int) m) (PR m c t p st (scanF d (wd x)) (wd x).length (prog x) 1 0)
  unfold b_X7_parseSum
  dsimp only [jn, gtF, ptF]
  refine ok_cal (U p st m S A hc D) (fun v m1 h1 => ?_)
  obtain ⟨F1, r1⟩ := h1
  cases e : scanF d (wd x) with
  | none =>
    rw [e] at r1
    obtain ⟨rfl, S1, k1⟩ := r1
    rw [if_neg (by decide)]
    refine ok_lp0 (fun m2 => m2 = m1) (fun _ => 0) (fun w m2 hI _ => ?_) n m1 rfl (by omega)
    subst hI
    have fin : Ok (rtZ 1 m2) (PR m c t p st none (wd x).length (prog x) 1 0) := ok_rtZ (Or.inr rfl) ⟨F1, rfl, S1, k1⟩
    rw [S1.2.2.2.1, S1.1.1]
    by_cases q : p + (wd x).length < c
    · rw [if_pos (by omega)]
      obtain ⟨y, e1, _, e3⟩ := D.sign (n := n) S1
      refine ok_calE e1 ?_
      rw [if_neg e3]
      exact fin
    · rw [if_neg (by omega)]
      exact fin
  | some k =>
    rw [e] at r1
    obtain ⟨rfl, r2⟩ := r1
    rw [if_pos rfl]
    exact ok_rtZ (Or.inl rfl) ⟨F1, rfl, r2⟩
