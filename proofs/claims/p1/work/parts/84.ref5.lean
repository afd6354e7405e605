/-! THE TABLE: a new game is written -/
/-- what changes, and nothing else -/
def Ch (S : Nat → Nat → Prop) (m m' : Mem) : Prop := m'.2 = m.2 ∧ ∀ a i, ¬ S a i → mGet m' a i = mGet m a i
theorem Ch.rf (S : Nat → Nat → Prop) (m : Mem) : Ch S m m := ⟨rfl, fun _ _ _ => rfl⟩
theorem Ch.tr {S : Nat → Nat → Prop} {a b c : Mem} (h : Ch S a b) (h2 : Ch S b c) : Ch S a c := ⟨h2.1.trans h.1, fun i j q => (h2.2 i j q).trans (h.2 i j q)⟩
theorem Ch.weak {S T : Nat → Nat → Prop} {m m' : Mem} (h : Ch S m m') (e : ∀ a i, S a i → T a i) : Ch T m m' := ⟨h.1, fun a i q => h.2 a i (fun z => q (e a i z))⟩
theorem Ch.set {S : Nat → Nat → Prop} {m : Mem} {a i : Nat} {v : Int} (h : S a i) : Ch S m (mSet m a i v) := ⟨rfl, fun b j q => by
  rw [mGet_mSet, if_neg]
  rintro ⟨rfl, rfl⟩
  exact q h⟩
/-- the places of a new game N, h its place among the heads, P .. E in the pool -/
def SAd (N h P E : Nat) (a i : Nat) : Prop := (a = 100 ∧ (i = 15 ∨ i = 16)) ∨ (a = 102 ∧ P ≤ i ∧ i < E) ∨ (103 ≤ a ∧ a ≤ 113 ∧ i = N) ∨ (a = 115 ∧ i = N) ∨ (a = 114 ∧ i = h)
/-- what the table tells of games -/
def AT1 (m : Mem) (o K : Nat) : Prop := mGet m 106 o = (bd K : Int) ∧ mGet m 107 o = wv K ∧ mGet m 108 o = hpv K ∧ mGet m 109 o = bl K ∧ (mGet m 110 o = 0 ∨ mGet m 110 o = 1)
theorem wv_in {K : Nat} (h : bd K ≤ 99) : -1000 ≤ wv K ∧ wv K ≤ 99 := by
  unfold wv
  split
  · exact ⟨by omega, by omega⟩
  · split
    · exact ⟨by omega, by omega⟩
    · exact ⟨by omega, by omega⟩
theorem hpv_in {K : Nat} (h : bd K ≤ 99) : -1 ≤ hpv K ∧ hpv K ≤ 99 := by
  unfold hpv
  split
  · exact ⟨by omega, by omega⟩
  · exact ⟨by omega, by omega⟩
theorem w32_0' : w32 0 = 0 := by decide +kernel
set_option maxHeartbeats 1000000 in
theorem attr_ok {n N P : Nat} {s0 : Int} {l r : List Nat} {m : Mem} {d : Nat → Nat} (G : GR m N P l r) (h0 : s0 = 0 ∨ s0 = 1) (N16 : N < 15000) (P24 : P + (l ++ r).length ≤ 240000) (A : ∀ o, o ∈ l ++ r → o < N ∧ AT1 m o (d o) ∧ bd (d o) ≤ 99) (c : can (MK d l r)) (hb : bd (MK d l r) ≤ 99) (hl : l.Nodup) (hr : r.Nodup) (inj : ∀ x, x ∈ l ++ r → ∀ y, y ∈ l ++ r → d x = d y → x = y) (hL : (l ++ r).length ≤ 2000) (hn : 3000 < n) : Ok (stZ m 111 (N : Int) s0 fun m187 =>
        cal (f_X11_tellsBirthday n (N : Int) m187) fun _ m190 =>
        cal (f_X11_wholeAt n (N : Int) m190) fun x200 m200 =>
        stI m200 107 (N : Int) x200 fun m203 =>
        cal (f_X11_heapAt n (N : Int) m203) fun x211 m211 =>
        stI m211 108 (N : Int) x211 fun m214 =>
        cal (f_X11_isSmallAt n (N : Int) m214) fun x222 m222 =>
        stZ m222 110 (N : Int) x222 fun m225 =>
        cal (f_X11_bytesAt n (N : Int) m225) fun x233 m233 =>
        stI m233 109 (N : Int) x233 fun m236 =>
        rt (N : Int) m236) (fun v m' => v = (N : Int) ∧ Ch (fun a i => 106 ≤ a ∧ a ≤ 111 ∧ i = N) m m' ∧ AT1 m' N (MK d l r) ∧ (l = [] → r = [] → mGet m' 110 N = 1) ∧ mGet m' 111 N = s0) := by
  have wb := wv_in hb
  have pb := hpv_in hb
  have bb := bl_bd (MK d l r)
  obtain ⟨K, eK⟩ : ∃ K, K = MK d l r := ⟨_, rfl⟩
  rw [stZ_ok (len := 16000) rfl (by omega) h0]
  obtain ⟨m1, e1⟩ : ∃ m1, m1 = mSet m 111 N s0 := ⟨_, rfl⟩
  rw [← e1]
  have g1 : ∀ a i, a ≠ 111 → mGet m1 a i = mGet m a i := fun a i h => by rw [e1, mGet_mSet, if_neg (fun z => h z.1)]
  have k1 : m1.2 = m.2 := by rw [e1]; rfl
  refine ok_calE (birthday_ok (d := d) (G.ext (fun a i z => g1 a i (by omega))) (by omega) P24 (fun o ho => ⟨by have := (A o ho).1; omega, by rw [g1 _ _ (by decide)]; exact (A o ho).2.1.1⟩) (by omega) (by omega)) ?_
  obtain ⟨m2, e2⟩ : ∃ m2, m2 = mSet m1 106 N (bd (MK d l r) : Int) := ⟨_, rfl⟩
  rw [← e2]
  have g2 : ∀ a i, mGet m2 a i = if a = 106 ∧ i = N then (bd (MK d l r) : Int) else mGet m1 a i := fun a i => by rw [e2, mGet_mSet, w32_nat (by omega)]
  have k2 : m2.2 = m.2 := by rw [e2]; exact k1
  have u2 : ∀ a i, ¬ (106 ≤ a ∧ a ≤ 111 ∧ i = N) → mGet m2 a i = mGet m a i := fun a i z => by
    rw [g2, if_neg (by omega)]
    by_cases q : a = 111
    · rw [e1, mGet_mSet, if_neg (by omega)]
    · exact g1 a i q
  refine ok_calE (wholeAt_eq (d := d) (G.ext (fun a i z => u2 a i (by omega))) (by omega) P24 (fun o ho => ⟨by have := (A o ho).1; omega, by rw [u2 _ _ (by have := (A o ho).1; omega)]; exact (A o ho).2.1.2.1, (A o ho).2.2⟩) c hl hr inj) ?_
  rw [stI_ok (len := 16000) rfl (by omega)]
  obtain ⟨m3, e3⟩ : ∃ m3, m3 = mSet m2 107 N (wv (MK d l r)) := ⟨_, rfl⟩
  rw [← e3]
  have g3 : ∀ a i, mGet m3 a i = if a = 107 ∧ i = N then wv (MK d l r) else mGet m2 a i := fun a i => by rw [e3, mGet_mSet, w32_id (by omega) (by omega)]
  have k3 : m3.2 = m.2 := by rw [e3]; exact k2
  have u3 : ∀ a i, ¬ (106 ≤ a ∧ a ≤ 111 ∧ i = N) → mGet m3 a i = mGet m a i := fun a i z => by rw [g3, if_neg (by omega)]; exact u2 a i z
  refine ok_calE (heapAt_eq (d := d) (G.ext (fun a i z => u3 a i (by omega))) (by omega) P24 (fun o ho => ⟨by have := (A o ho).1; omega, by rw [u3 _ _ (by have := (A o ho).1; omega)]; exact (A o ho).2.1.2.2.1⟩) hl hr inj (by omega)) ?_
  rw [stI_ok (len := 16000) rfl (by omega)]
  obtain ⟨m4, e4⟩ : ∃ m4, m4 = mSet m3 108 N (hpv (MK d l r)) := ⟨_, rfl⟩
  rw [← e4]
  have g4 : ∀ a i, mGet m4 a i = if a = 108 ∧ i = N then hpv (MK d l r) else mGet m3 a i := fun a i => by rw [e4, mGet_mSet, w32_id (by omega) (by omega)]
  have k4 : m4.2 = m.2 := by rw [e4]; exact k3
  have u4 : ∀ a i, ¬ (106 ≤ a ∧ a ≤ 111 ∧ i = N) → mGet m4 a i = mGet m a i := fun a i z => by rw [g4, if_neg (by omega)]; exact u3 a i z
  refine ok_cal (isSmallAt_ok (G.ext (fun a i z => u4 a i (by omega))) (by omega) P24 (fun o ho => ⟨by have := (A o ho).1; omega, by rw [u4 _ _ (by have := (A o ho).1; omega)]; exact (A o ho).2.1.2.2.2.2⟩) (by omega)) (fun x m4' h4 => ?_)
  obtain ⟨rfl, x01, x1⟩ := h4
  rw [stZ_ok (len := 16000) rfl (by omega) x01]
  obtain ⟨m5, e5⟩ : ∃ m5, m5 = mSet m4' 110 N x := ⟨_, rfl⟩
  rw [← e5]
  have g5 : ∀ a i, mGet m5 a i = if a = 110 ∧ i = N then x else mGet m4' a i := fun a i => by rw [e5, mGet_mSet, w32_id (by omega) (by omega)]
  have k5 : m5.2 = m.2 := by rw [e5]; exact k4
  have u5 : ∀ a i, ¬ (106 ≤ a ∧ a ≤ 111 ∧ i = N) → mGet m5 a i = mGet m a i := fun a i z => by rw [g5, if_neg (by omega)]; exact u4 a i z
  have v107 : mGet m5 107 N = wv (MK d l r) := by rw [g5, if_neg (by omega), g4, if_neg (by omega), g3, if_pos ⟨rfl, rfl⟩]
  have v108 : mGet m5 108 N = hpv (MK d l r) := by rw [g5, if_neg (by omega), g4, if_pos ⟨rfl, rfl⟩]
  refine ok_calE (bytesAt_eq (d := d) (G.ext (fun a i z => u5 a i (by omega))) (by omega) P24 (fun o ho => ⟨by have := (A o ho).1; omega, by rw [u5 _ _ (by have := (A o ho).1; omega)]; exact (A o ho).2.1.2.2.2.1⟩) v107 v108 hb hl hr inj hL (by omega)) ?_
  rw [stI_ok (len := 16000) rfl (by omega)]
  have g6 : ∀ a i, mGet (mSet m5 109 N (bl (MK d l r))) a i = if a = 109 ∧ i = N then bl (MK d l r) else mGet m5 a i := fun a i => by rw [mGet_mSet, w32_id (by omega) (by omega)]
  refine ok_rt ⟨rfl, ⟨by rw [← k5]; rfl, fun a i z => by rw [g6, if_neg (by omega)]; exact u5 a i z⟩, ⟨?_, ?_, ?_, ?_, ?_⟩, fun el er => ?_, ?_⟩
  · rw [g6, if_neg (by omega), g5, if_neg (by omega), g4, if_neg (by omega), g3, if_neg (by omega), g2, if_pos ⟨rfl, rfl⟩]
  · rw [g6, if_neg (by omega)]; exact v107
  · rw [g6, if_neg (by omega)]; exact v108
  · rw [g6, if_pos ⟨rfl, rfl⟩]
  · rw [g6, if_neg (by omega), g5, if_pos ⟨rfl, rfl⟩]; exact x01
  · rw [g6, if_neg (by omega), g5, if_pos ⟨rfl, rfl⟩]; exact x1 el er
  · rw [g6, if_neg (by omega), g5, if_neg (by omega), g4, if_neg (by omega), g3, if_neg (by omega), g2, if_neg (by omega), e1, mGet_mSet, if_pos ⟨rfl, rfl⟩]
    exact w32_id (by omega) (by omega)
set_option maxHeartbeats 2000000 in
theorem added_ok {n N P h : Nat} {l r : List Nat} {m : Mem} {d : Nat → Nat} (hN : mGet m 100 15 = (N : Int)) (hP : mGet m 100 16 = (P : Int)) (N16 : N < 15000) (P24 : P + (l ++ r).length ≤ 240000) (H : Hd m l r) (h16 : h < 16384) (A : ∀ o, o ∈ l ++ r → o < N ∧ AT1 m o (d o) ∧ bd (d o) ≤ 99) (c : can (MK d l r)) (hb : bd (MK d l r) ≤ 99) (hl : l.Nodup) (hr : r.Nodup) (inj : ∀ x, x ∈ l ++ r → ∀ y, y ∈ l ++ r → d x = d y → x = y) (hL : (l ++ r).length ≤ 2000) (hn : 3000 < n) : Ok (f_X11_added n (h : Int) m) (fun v m' => v = (N : Int) ∧ Ch (SAd N h P (P + (l ++ r).length)) m m' ∧ mGet m' 100 15 = ((N + 1 : Nat) : Int) ∧ mGet m' 100 16 = ((P + (l ++ r).length : Nat) : Int) ∧ GR m' N P l r ∧ AT1 m' N (MK d l r) ∧ (l = [] → r = [] → mGet m' 110 N = 1) ∧ mGet m' 112 N = 0 ∧ mGet m' 115 N = mGet m 114 h ∧ mGet m' 114 h = ((N + 1 : Nat) : Int) ∧ (mGet m' 111 N = 0 ∨ (l ++ r = [] ∧ mGet m' 111 N = 1))) := by
  obtain ⟨q1, q2, q3, q4, q5, q6⟩ := H
  have ln := app_len l r
  unfold f_X11_added
  dsimp only [gtF, ptF, jn]
  rw [hN, w32_1 (by omega)]
  obtain ⟨m0, e0⟩ : ∃ m0, m0 = mSet (mSet m 100 15 ((N + 1 : Nat) : Int)) 103 N (P : Int) := ⟨_, rfl⟩
  have g0 : ∀ a i, mGet m0 a i = if a = 103 ∧ i = N then (P : Int) else if a = 100 ∧ i = 15 then ((N + 1 : Nat) : Int) else mGet m a i := fun a i => by
    rw [e0, mGet_mSet, mGet_mSet, w32_nat (n := P) (by omega), w32_nat (n := N + 1) (by omega)]
  have k0 : m0.2 = m.2 := by rw [e0]; rfl
  have p0 : mGet (mSet m 100 15 ((N + 1 : Nat) : Int)) 100 16 = (P : Int) := by rw [mGet_mSet, if_neg (by omega)]; exact hP
  rw [p0, stI_ok (len := 16000) rfl (by omega), ← e0]
  -- the options of left
  refine ok_row1 (s := 0) (k := 0) l.length (fun k m1 => Ch (fun a i => (a = 100 ∧ i = 16) ∨ (a = 102 ∧ P ≤ i ∧ i < P + k)) m0 m1 ∧ mGet m1 100 16 = ((P + k : Nat) : Int) ∧ ∀ j, (hj : j < l.length) → j < k → mGet m1 102 (P + j) = (l[j] : Int)) (fun w k m1 hk hI hw => ?_) (fun w m1 hI => ?_) n m0 (Nat.zero_le _) ⟨Ch.rf _ _, by rw [g0, if_neg (by omega), if_neg (by omega)]; exact hP, fun j _ h => absurd h (Nat.not_lt_zero _)⟩ (by omega)
  · obtain ⟨c1, p1, r1⟩ := hI
    have e23 : mGet m1 100 23 = (l.length : Int) := by rw [c1.2 100 23 (by rintro (⟨_, h⟩ | ⟨h, _⟩) <;> omega), g0, if_neg (by omega), if_neg (by omega)]; exact q1
    have e120 : mGet m1 120 k = (l[k] : Int) := by
      rw [c1.2 120 k (by rintro (⟨h, _⟩ | ⟨h, _⟩) <;> omega), g0, if_neg (by omega), if_neg (by omega)]
      have := q3 k hk
      rw [Nat.zero_add] at this
      exact this
    rw [e23, if_pos (by omega), p1, Nat.zero_add, ldI_ok (len := 4000) rfl (by omega), e120, stI_ok (len := 240000) rfl (by omega)]
    have p2 : mGet (mSet m1 102 (P + k) (l[k] : Int)) 100 16 = ((P + k : Nat) : Int) := by rw [mGet_mSet, if_neg (by omega)]; exact p1
    have lk : l[k] < 2147483648 := by have := (A l[k] (List.mem_append_left _ (List.getElem_mem hk))).1; omega
    rw [p2, w32_s (by omega), w32_1 (by omega)]
    have G8 : ∀ a i, mGet (mSet (mSet m1 102 (P + k) (l[k] : Int)) 100 16 ((P + (k + 1) : Nat) : Int)) a i = if a = 100 ∧ i = 16 then ((P + (k + 1) : Nat) : Int) else if a = 102 ∧ i = P + k then (l[k] : Int) else mGet m1 a i := fun a i => by
      rw [mGet_mSet, mGet_mSet, w32_nat (by omega), w32_nat lk]
    rw [show ((k + 1 : Nat) : Int) = ((0 + (k + 1) : Nat) : Int) by omega]
    refine hw _ ⟨⟨by rw [show (mSet (mSet m1 102 (P + k) (l[k] : Int)) 100 16 ((P + (k + 1) : Nat) : Int)).2 = m1.2 from rfl]; exact c1.1, fun a i q => ?_⟩, ?_, fun j hj h => ?_⟩
    · rw [G8, if_neg (fun z => q (Or.inl z)), if_neg (fun z => q (Or.inr ⟨z.1, by omega, by omega⟩))]
      exact c1.2 a i (fun z => q (z.imp id (fun z => ⟨z.1, z.2.1, by omega⟩)))
    · rw [G8, if_pos ⟨rfl, rfl⟩]
    · rw [G8, if_neg (by omega)]
      by_cases q : j = k
      · subst q; rw [if_pos ⟨rfl, rfl⟩]
      · rw [if_neg (by omega)]; exact r1 j hj (by omega)
  · obtain ⟨c1, p1, r1⟩ := hI
    have e23 : mGet m1 100 23 = (l.length : Int) := by rw [c1.2 100 23 (by rintro (⟨_, h⟩ | ⟨h, _⟩) <;> omega), g0, if_neg (by omega), if_neg (by omega)]; exact q1
    rw [e23, if_neg (by omega), p1, stI_ok (len := 16000) rfl (by omega)]
    obtain ⟨m2, e2⟩ : ∃ m2, m2 = mSet m1 104 N ((P + l.length : Nat) : Int) := ⟨_, rfl⟩
    rw [← e2]
    have g2 : ∀ a i, mGet m2 a i = if a = 104 ∧ i = N then ((P + l.length : Nat) : Int) else mGet m1 a i := fun a i => by rw [e2, mGet_mSet, w32_nat (by omega)]
    have k2 : m2.2 = m.2 := by rw [e2]; exact c1.1.trans k0
    -- the options of right
    refine ok_row1 (s := 0) (k := 0) r.length (fun k m3 => Ch (fun a i => (a = 100 ∧ i = 16) ∨ (a = 102 ∧ P + l.length ≤ i ∧ i < P + l.length + k)) m2 m3 ∧ mGet m3 100 16 = ((P + l.length + k : Nat) : Int) ∧ ∀ j, (hj : j < r.length) → j < k → mGet m3 102 (P + l.length + j) = (r[j] : Int)) (fun w k m3 hk hI hw => ?_) (fun w m3 hI => ?_) n m2 (Nat.zero_le _) ⟨Ch.rf _ _, by rw [g2, if_neg (by omega)]; exact p1, fun j _ h => absurd h (Nat.not_lt_zero _)⟩ (by omega)
    · obtain ⟨c3, p3, r3⟩ := hI
      have e24 : mGet m3 100 24 = (r.length : Int) := by rw [c3.2 100 24 (by rintro (⟨_, h⟩ | ⟨h, _⟩) <;> omega), g2, if_neg (by omega), c1.2 100 24 (by rintro (⟨_, h⟩ | ⟨h, _⟩) <;> omega), g0, if_neg (by omega), if_neg (by omega)]; exact q2
      have e121 : mGet m3 121 k = (r[k] : Int) := by
        rw [c3.2 121 k (by rintro (⟨h, _⟩ | ⟨h, _⟩) <;> omega), g2, if_neg (by omega), c1.2 121 k (by rintro (⟨h, _⟩ | ⟨h, _⟩) <;> omega), g0, if_neg (by omega), if_neg (by omega)]
        have := q4 k hk
        rw [Nat.zero_add] at this
        exact this
      rw [e24, if_pos (by omega), p3, Nat.zero_add, ldI_ok (len := 4000) rfl (by omega), e121, stI_ok (len := 240000) rfl (by omega)]
      have p4 : mGet (mSet m3 102 (P + l.length + k) (r[k] : Int)) 100 16 = ((P + l.length + k : Nat) : Int) := by rw [mGet_mSet, if_neg (by omega)]; exact p3
      have rk : r[k] < 2147483648 := by have := (A r[k] (List.mem_append_right _ (List.getElem_mem hk))).1; omega
      rw [p4, w32_s (by omega), w32_1 (by omega)]
      have G8 : ∀ a i, mGet (mSet (mSet m3 102 (P + l.length + k) (r[k] : Int)) 100 16 ((P + l.length + (k + 1) : Nat) : Int)) a i = if a = 100 ∧ i = 16 then ((P + l.length + (k + 1) : Nat) : Int) else if a = 102 ∧ i = P + l.length + k then (r[k] : Int) else mGet m3 a i := fun a i => by
        rw [mGet_mSet, mGet_mSet, w32_nat (by omega), w32_nat rk]
      rw [show ((k + 1 : Nat) : Int) = ((0 + (k + 1) : Nat) : Int) by omega]
      refine hw _ ⟨⟨by rw [show (mSet (mSet m3 102 (P + l.length + k) (r[k] : Int)) 100 16 ((P + l.length + (k + 1) : Nat) : Int)).2 = m3.2 from rfl]; exact c3.1, fun a i q => ?_⟩, ?_, fun j hj h => ?_⟩
      · rw [G8, if_neg (fun z => q (Or.inl z)), if_neg (fun z => q (Or.inr ⟨z.1, by omega, by omega⟩))]
        exact c3.2 a i (fun z => q (z.imp id (fun z => ⟨z.1, z.2.1, by omega⟩)))
      · rw [G8, if_pos ⟨rfl, rfl⟩]
      · rw [G8, if_neg (by omega)]
        by_cases q : j = k
        · subst q; rw [if_pos ⟨rfl, rfl⟩]
        · rw [if_neg (by omega)]; exact r3 j hj (by omega)
    · obtain ⟨c3, p3, r3⟩ := hI
      have e24 : mGet m3 100 24 = (r.length : Int) := by rw [c3.2 100 24 (by rintro (⟨_, h⟩ | ⟨h, _⟩) <;> omega), g2, if_neg (by omega), c1.2 100 24 (by rintro (⟨_, h⟩ | ⟨h, _⟩) <;> omega), g0, if_neg (by omega), if_neg (by omega)]; exact q2
      have k3 : m3.2 = m.2 := c3.1.trans k2
      have eE : P + l.length + r.length = P + (l ++ r).length := by omega
      have lk : ∀ o, o ∈ l ++ r → o < N := fun o ho => (A o ho).1
      -- all that stands in m3
      have g3 : ∀ a i, ¬ ((a = 100 ∧ (i = 15 ∨ i = 16)) ∨ (a = 102 ∧ P ≤ i ∧ i < P + (l ++ r).length) ∨ (103 ≤ a ∧ a ≤ 104 ∧ i = N)) → mGet m3 a i = mGet m a i := fun a i q => by
        rw [c3.2 a i (by rintro (z | z) <;> omega), g2, if_neg (by omega), c1.2 a i (by rintro (z | z) <;> omega), g0, if_neg (by omega), if_neg (by omega)]
      have f15 : mGet m3 100 15 = ((N + 1 : Nat) : Int) := by rw [c3.2 100 15 (by rintro (z | z) <;> omega), g2, if_neg (by omega), c1.2 100 15 (by rintro (z | z) <;> omega), g0, if_neg (by omega), if_pos ⟨rfl, rfl⟩]
      have f103 : mGet m3 103 N = (P : Int) := by rw [c3.2 103 N (by rintro (z | z) <;> omega), g2, if_neg (by omega), c1.2 103 N (by rintro (z | z) <;> omega), g0, if_pos ⟨rfl, rfl⟩]
      have f104 : mGet m3 104 N = ((P + l.length : Nat) : Int) := by rw [c3.2 104 N (by rintro (z | z) <;> omega), g2, if_pos ⟨rfl, rfl⟩]
      have fR : Row m3 102 P (l ++ r) := fun k hk => by
        by_cases q : k < l.length
        · rw [c3.2 102 (P + k) (by rintro (z | z) <;> omega), g2, if_neg (by omega), r1 k q q, List.getElem_append_left q]
        · have e := r3 (k - l.length) (by omega) (by omega)
          rw [show P + l.length + (k - l.length) = P + k by omega] at e
          rw [e, List.getElem_append_right (by omega)]
      rw [e24, if_neg (by omega), p3, eE, stI_ok (len := 16000) rfl (by omega)]
      obtain ⟨m4, e4⟩ : ∃ m4, m4 = mSet m3 105 N ((P + (l ++ r).length : Nat) : Int) := ⟨_, rfl⟩
      rw [← e4]
      have g4 : ∀ a i, mGet m4 a i = if a = 105 ∧ i = N then ((P + (l ++ r).length : Nat) : Int) else mGet m3 a i := fun a i => by rw [e4, mGet_mSet, w32_nat (by omega)]
      have k4 : m4.2 = m.2 := by rw [e4]; exact k3
      have h114 : mGet m4 114 h = mGet m 114 h := by rw [g4, if_neg (by omega), g3 114 h (by omega)]
      rw [ldI_ok (len := 16384) rfl h16, h114, stI_ok (len := 16000) rfl (by omega)]
      have s1 : ∀ (m' : Mem) (K : Mem → Option Rz) (v : Int), m'.2 = m.2 → stI m' 114 (h : Int) v K = K (mSet m' 114 h v) := fun m' K v _ => stI_ok (len := 16384) rfl h16
      have s2 : ∀ (m' : Mem) (K : Mem → Option Rz) (v : Int), m'.2 = m.2 → stI m' 112 (N : Int) v K = K (mSet m' 112 N v) := fun m' K v _ => stI_ok (len := 16000) rfl (by omega)
      have s3 : ∀ (m' : Mem) (K : Mem → Option Rz) (v : Int), m'.2 = m.2 → stI m' 113 (N : Int) v K = K (mSet m' 113 N v) := fun m' K v _ => stI_ok (len := 16000) rfl (by omega)
      rw [s1 _ _ _ (by show m4.2 = _; exact k4), s2 _ _ _ (by show m4.2 = _; exact k4), s3 _ _ _ (by show m4.2 = _; exact k4)]
      obtain ⟨m5, e5⟩ : ∃ m5, m5 = mSet (mSet (mSet (mSet m4 115 N (mGet m 114 h)) 114 h ((N + 1 : Nat) : Int)) 112 N 0) 113 N 0 := ⟨_, rfl⟩
      rw [← e5]
      have g5 : ∀ a i, mGet m5 a i = if a = 113 ∧ i = N then 0 else if a = 112 ∧ i = N then 0 else if a = 114 ∧ i = h then ((N + 1 : Nat) : Int) else if a = 115 ∧ i = N then mGet m 114 h else mGet m4 a i := fun a i => by
        rw [e5, mGet_mSet, mGet_mSet, mGet_mSet, mGet_mSet, w32_nat (by omega), w32_in (inR_mGet m 114 h), w32_0']
      have k5 : m5.2 = m.2 := by rw [e5]; exact k4
      have u5 : ∀ a i, a ≤ 111 → mGet m5 a i = mGet m4 a i := fun a i z => by rw [g5, if_neg (by omega), if_neg (by omega), if_neg (by omega), if_neg (by omega)]
      have v105 : mGet m5 105 N = ((P + (l ++ r).length : Nat) : Int) := by rw [u5 _ _ (by decide), g4, if_pos ⟨rfl, rfl⟩]
      have v103 : mGet m5 103 N = (P : Int) := by rw [u5 _ _ (by decide), g4, if_neg (by omega)]; exact f103
      have G5 : GR m5 N P l r := ⟨v103, by rw [u5 _ _ (by decide), g4, if_neg (by omega)]; exact f104, v105, fR.ext (fun k hk => by rw [u5 _ _ (by decide), g4, if_neg (by omega)])⟩
      have old : ∀ a i, 106 ≤ a → a ≤ 110 → mGet m5 a i = mGet m a i := fun a i z1 z2 => by rw [u5 _ _ (by omega), g4, if_neg (by omega), g3 a i (by omega)]
      rw [ldI_ok (len := 16000) rfl (by omega), ldI_ok (len := 16000) rfl (by omega), v105, v103]
      have fin : ∀ s0 : Int, (s0 = 0 ∨ s0 = 1) → _ := fun s0 h0 => attr_ok (n := n) (s0 := s0) (d := d) G5 h0 N16 P24 (fun o ho => by
        obtain ⟨z1, ⟨z2, z3, z4, z5, z6⟩, z7⟩ := A o ho
        exact ⟨z1, ⟨by rw [old _ _ (by decide) (by decide)]; exact z2, by rw [old _ _ (by decide) (by decide)]; exact z3, by rw [old _ _ (by decide) (by decide)]; exact z4, by rw [old _ _ (by decide) (by decide)]; exact z5, by rw [old _ _ (by decide) (by decide)]; exact z6⟩, z7⟩) c hb hl hr inj hL hn
      have done : ∀ s0 : Int, (s0 = 0 ∨ (l ++ r = [] ∧ s0 = 1)) → ∀ v m', (v = (N : Int) ∧ Ch (fun a i => 106 ≤ a ∧ a ≤ 111 ∧ i = N) m5 m' ∧ AT1 m' N (MK d l r) ∧ (l = [] → r = [] → mGet m' 110 N = 1) ∧ mGet m' 111 N = s0) → v = (N : Int) ∧ Ch (SAd N h P (P + (l ++ r).length)) m m' ∧ mGet m' 100 15 = ((N + 1 : Nat) : Int) ∧ mGet m' 100 16 = ((P + (l ++ r).length : Nat) : Int) ∧ GR m' N P l r ∧ AT1 m' N (MK d l r) ∧ (l = [] → r = [] → mGet m' 110 N = 1) ∧ mGet m' 112 N = 0 ∧ mGet m' 115 N = mGet m 114 h ∧ mGet m' 114 h = ((N + 1 : Nat) : Int) ∧ (mGet m' 111 N = 0 ∨ (l ++ r = [] ∧ mGet m' 111 N = 1)) := by
        rintro s0 hs0 v m' ⟨z1, z2, z3, z4, z5⟩
        refine ⟨z1, ⟨z2.1.trans k5, fun a i q => ?_⟩, ?_, ?_, G5.ext (fun a i q => z2.2 a i (by omega)), z3, z4, ?_, ?_, ?_, by rw [z5]; exact hs0⟩
        · have n1 : ¬ (a = 100 ∧ (i = 15 ∨ i = 16)) := fun z => q (Or.inl z)
          have n2 : ¬ (a = 102 ∧ P ≤ i ∧ i < P + (l ++ r).length) := fun z => q (Or.inr (Or.inl z))
          have n3 : ¬ (103 ≤ a ∧ a ≤ 113 ∧ i = N) := fun z => q (Or.inr (Or.inr (Or.inl z)))
          have n4 : ¬ (a = 115 ∧ i = N) := fun z => q (Or.inr (Or.inr (Or.inr (Or.inl z))))
          have n5 : ¬ (a = 114 ∧ i = h) := fun z => q (Or.inr (Or.inr (Or.inr (Or.inr z))))
          rw [z2.2 a i (by omega), g5, if_neg (by omega), if_neg (by omega), if_neg n5, if_neg n4, g4, if_neg (by omega), g3 a i (by omega)]
        · rw [z2.2 _ _ (by omega), u5 _ _ (by decide), g4, if_neg (by omega)]; exact f15
        · rw [z2.2 _ _ (by omega), u5 _ _ (by decide), g4, if_neg (by omega), p3, eE]
        · rw [z2.2 _ _ (by omega), g5, if_neg (by omega), if_pos ⟨rfl, rfl⟩]
        · rw [z2.2 _ _ (by omega), g5, if_neg (by omega), if_neg (by omega), if_neg (by omega), if_pos ⟨rfl, rfl⟩]
        · rw [z2.2 _ _ (by omega), g5, if_neg (by omega), if_neg (by omega), if_pos ⟨rfl, rfl⟩]
      by_cases q : ((P + (l ++ r).length : Nat) : Int) = (P : Int)
      · rw [if_pos q]
        exact ok_mono (fin 1 (Or.inr rfl)) (done 1 (Or.inr ⟨List.eq_nil_of_length_eq_zero (by omega), rfl⟩))
      · rw [if_neg q]
        exact ok_mono (fin 0 (Or.inl rfl)) (done 0 (Or.inl rfl))
