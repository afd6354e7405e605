/-! THE WEIGHER: one follower after another -/
theorem wsh_dn {n N k J c : Nat} {lo hi : Int} {w : Nat → Nat} {m : Mem} (hn : 300 < n) (Y : YI m N) (hs : mGet m 4 14 = 0) (hc : c < N) (hk : k ≤ 9) (hJ : J ≤ 10) (l0 : 0 ≤ lo ∧ lo ≤ 1) (h0 : 0 ≤ hi ∧ hi ≤ 2) (hP : ∀ x, x < N → Fw2 w k J lo hi (yden m x)) : Ok (f_X9_shifted n (c : Int) 0 m) (fun v m' => ∃ u N' : Nat, v = (u : Int) ∧ u < N' ∧ N ≤ N' ∧ YI m' N' ∧ mGet m' 4 14 = 0 ∧ YD m m' N N' ∧ geq (yden m' u) (gadd (yden m c) (iz (-1))) ∧ ∀ x, x < N' → Fw2 w k J (lo + 1) hi (yden m' x)) := by
  have W := wshift (a := 10) (lo := lo) (hi := hi) hn Y hs hc (Or.inr rfl) hk hJ ⟨l0.1, by show lo + 1 ≤ 2; omega⟩ ⟨h0.1, by show hi + 0 ≤ 2; omega⟩ (fun x hx => (hP x hx).up (Nat.le_refl _) (by show lo ≤ lo + 1; omega) (by show hi ≤ hi + 0; omega)) (fun o ho => by
    obtain ⟨x, hx, rfl⟩ := fol_node Y hc ho
    exact hP x (by omega))
  refine ok_mono W (fun v m' h => ?_)
  obtain ⟨u, N', h1, h2, h3, h4, h5, h6, h7, h8⟩ := h
  exact ⟨u, N', h1, h2, h3, h4, h5, h6, h7, fun x hx => (h8 x hx).up (Nat.le_refl _) (by show lo + 1 ≤ lo + 1; omega) (by show hi + 0 ≤ hi; omega)⟩
theorem wsh_up {n N k J c : Nat} {lo hi : Int} {w : Nat → Nat} {m : Mem} (hn : 300 < n) (Y : YI m N) (hs : mGet m 4 14 = 0) (hc : c < N) (hk : k ≤ 9) (hJ : J ≤ 10) (l0 : 0 ≤ lo ∧ lo ≤ 2) (h0 : 0 ≤ hi ∧ hi ≤ 1) (hP : ∀ x, x < N → Fw2 w k J lo hi (yden m x)) : Ok (f_X9_shifted n (c : Int) 1 m) (fun v m' => ∃ u N' : Nat, v = (u : Int) ∧ u < N' ∧ N ≤ N' ∧ YI m' N' ∧ mGet m' 4 14 = 0 ∧ YD m m' N N' ∧ geq (yden m' u) (gadd (yden m c) (iz 1)) ∧ ∀ x, x < N' → Fw2 w k J lo (hi + 1) (yden m' x)) := by
  have W := wshift (a := 9) (lo := lo) (hi := hi) hn Y hs hc (Or.inl rfl) hk hJ ⟨l0.1, by show lo + 0 ≤ 2; omega⟩ ⟨h0.1, by show hi + 1 ≤ 2; omega⟩ (fun x hx => (hP x hx).up (Nat.le_refl _) (by show lo ≤ lo + 0; omega) (by show hi ≤ hi + 1; omega)) (fun o ho => by
    obtain ⟨x, hx, rfl⟩ := fol_node Y hc ho
    exact hP x (by omega))
  refine ok_mono W (fun v m' h => ?_)
  obtain ⟨u, N', h1, h2, h3, h4, h5, h6, h7, h8⟩ := h
  exact ⟨u, N', h1, h2, h3, h4, h5, h6, h7, fun x hx => (h8 x hx).up (Nat.le_refl _) (by show lo + 0 ≤ lo; omega) (by show hi + 1 ≤ hi + 1; omega)⟩
abbrev SX (a : Nat) : Prop := SY a ∨ SD a ∨ a = 37 ∨ a = 38
/-- what the weigher's tables say of the first k followers -/
def WT (m : Mem) (N : Nat) (g : Nat) (w : Nat → Nat) (k : Nat) : Prop := ∀ j, j < k → Wt (en g j) (w j) ∧ Nr (w j) j ∧ (∃ c : Nat, c < N ∧ mGet m 37 j = (c : Int) ∧ geq (yden m c) (gadd (w j) (iz (-2)))) ∧ ∃ c : Nat, c < N ∧ mGet m 38 j = (c : Int) ∧ geq (yden m c) (gadd (w j) (iz 2))
theorem WT.yd {m m' : Mem} {N N' g k : Nat} {w : Nat → Nat} (h : WT m N g w k) (d : YD m m' N N') : WT m' N' g w k := fun j hj => by
  obtain ⟨h1, h2, ⟨c, c1, c2, c3⟩, e, e1, e2, e3⟩ := h j hj
  have := d.2.2.2
  exact ⟨h1, h2, ⟨c, by omega, by rw [d.1 37 j (by decide) (by decide) (by decide)]; exact c2, by rw [d.2.2.1 c c1]; exact c3⟩, e, by omega, by rw [d.1 38 j (by decide) (by decide) (by decide)]; exact e2, by rw [d.2.2.1 e e1]; exact e3⟩
theorem WT.cong {m : Mem} {N g k : Nat} {w w' : Nat → Nat} (h : WT m N g w k) (e : ∀ j, j < k → w' j = w j) : WT m N g w' k := fun j hj => by rw [e j hj]; exact h j hj
/-- what holds all along -/
def WS (m0 : Mem) (o fo g : Nat) (N : Nat) (m : Mem) : Prop := YI m N ∧ mGet m 4 14 = 0 ∧ 0 < N ∧ yden m 0 = 0 ∧ Fr m0 m SX ∧ m.2.2 = m0.2.2 ∧ DU m o fo g (hc 10) true
theorem YD.fr {m m' : Mem} {N N' : Nat} (d : YD m m' N N') : Fr m m' SX := Fr.of d.2.1 (fun a i q => d.1 a i (fun e => q (by rw [e]; exact ⟨by decide, Or.inl (by decide)⟩)) (fun e => q (by rw [e]; exact ⟨by decide, Or.inl (by decide)⟩)) (fun e => q (by rw [e]; exact ⟨by decide, Or.inl (by decide)⟩)))
theorem WS.yd {m0 m m' : Mem} {o fo g N N' : Nat} (h : WS m0 o fo g N m) (d : YD m m' N N') (Y : YI m' N') (s : mGet m' 4 14 = 0) : WS m0 o fo g N' m' := by
  obtain ⟨h1, h2, h3, h4, h5, h6, h7⟩ := h
  exact ⟨Y, s, by have := d.2.2.2; omega, (d.2.2.1 0 h3).trans h4, h5.tr d.fr, d.2.1.trans h6, h7.mono (fun a i ha => d.1 a i (by omega) (by omega) (by omega))⟩
/-- a node kept in the tables -/
theorem WS.put {m0 m : Mem} {o fo g N a k u : Nat} (h : WS m0 o fo g N m) (ha : a = 37 ∨ a = 38) : WS m0 o fo g N (mSet m a k (u : Int)) ∧ yden (mSet m a k (u : Int)) = yden m ∧ ∀ b i, mGet (mSet m a k (u : Int)) b i = if b = a ∧ i = k then w32 (u : Int) else mGet m b i := by
  obtain ⟨h1, h2, h3, h4, h5, h6, h7⟩ := h
  have G8 : ∀ b i, mGet (mSet m a k (u : Int)) b i = if b = a ∧ i = k then w32 (u : Int) else mGet m b i := fun b i => by rw [mGet_mSet]
  obtain ⟨Y8, d8⟩ := h1.lg (m' := mSet m a k (u : Int)) rfl (fun b i q => by rw [G8, if_neg (by omega)])
  exact ⟨⟨Y8, by rw [G8, if_neg (by omega)]; exact h2, h3, by rw [d8]; exact h4, h5.tr (Fr.of rfl (fun b i q => by rw [G8, if_neg (fun e => q ⟨by omega, by omega⟩)])), h6, h7.mono (fun b i hb => by rw [G8, if_neg (by omega)])⟩, d8, G8⟩
def WQ (m0 : Mem) (o fo g k : Nat) (a : Int) (m : Mem) : Prop := ∃ (N : Nat) (w : Nat → Nat), WS m0 o fo g N m ∧ WT m N g w k ∧ (∀ x, x < N → Fw2 w k k 0 0 (yden m x)) ∧ (0 < k → ∃ c : Nat, c < N ∧ a = (c : Int) ∧ geq (yden m c) (w (k - 1)))
theorem weigh_fin {n o fo g k N c : Nat} {w : Nat → Nat} {m0 m : Mem} {K : Int → Mem → Option Rz} {Q : Int → Mem → Prop} (hn : 300 < n) (hk : k ≤ 9) (S : WS m0 o fo g N m) (T : WT m N g w k) (P : ∀ x, x < N → Fw2 w k (k + 1) 0 0 (yden m x)) (hc : c < N) (hv : geq (yden m c) (w k)) (hW : Wt (en g k) (w k)) (hN : Nr (w k) k) (hK : ∀ m', WQ m0 o fo g (k + 1) (c : Int) m' → Ok (K (c : Int) m') Q) : Ok (cal (f_X9_shifted n (c : Int) 0 m) fun x222 m222 => cal (f_X9_shifted n x222 0 m222) fun x226 m226 => stI m226 37 (k : Int) x226 fun m229 => cal (f_X9_shifted n (c : Int) 1 m229) fun x245 m245 => cal (f_X9_shifted n x245 1 m245) fun x249 m249 => stI m249 38 (k : Int) x249 fun m252 => K (c : Int) m252) Q := by
  refine ok_cal (wsh_dn hn S.1 S.2.1 hc hk (by omega) (by omega) (by omega) P) (fun v1 m1 h1 => ?_)
  obtain ⟨c1, N1, rfl, u1, l1, Y1, s1, d1, g1, P1⟩ := h1
  have S1 := S.yd d1 Y1 s1
  refine ok_cal (wsh_dn hn Y1 s1 u1 hk (by omega) (by omega) (by omega) P1) (fun v2 m2 h2 => ?_)
  obtain ⟨c2, N2, rfl, u2, l2, Y2, s2, d2, g2, P2⟩ := h2
  have S2 := S1.yd d2 Y2 s2
  have T2 := (T.yd d1).yd d2
  have b2 := Y2.1.2.1
  rw [stI_ok (kI37 _) (by omega)]
  obtain ⟨S3, e3, G3⟩ := S2.put (a := 37) (k := k) (u := c2) (Or.inl rfl)
  obtain ⟨m3, em3⟩ : ∃ m3, m3 = mSet m2 37 k (c2 : Int) := ⟨_, rfl⟩
  rw [← em3] at S3 e3 G3 ⊢
  have P3 : ∀ x, x < N2 → Fw2 w k (k + 1) (0 + 1 + 1) 0 (yden m3 x) := fun x hx => by rw [e3]; exact P2 x hx
  refine ok_cal (wsh_up hn S3.1 S3.2.1 (show c < N2 by omega) hk (by omega) (by omega) (by omega) P3) (fun v4 m4 h4 => ?_)
  obtain ⟨c4, N4, rfl, u4, l4, Y4, s4, d4, g4, P4⟩ := h4
  have S4 := S3.yd d4 Y4 s4
  refine ok_cal (wsh_up hn Y4 s4 u4 hk (by omega) (by omega) (by omega) P4) (fun v5 m5 h5 => ?_)
  obtain ⟨c5, N5, rfl, u5, l5, Y5, s5, d5, g5, P5⟩ := h5
  have S5 := S4.yd d5 Y5 s5
  have b5 := Y5.1.2.1
  rw [stI_ok (kI38 _) (by omega)]
  obtain ⟨S6, e6, G6⟩ := S5.put (a := 38) (k := k) (u := c5) (Or.inr rfl)
  obtain ⟨m6, em6⟩ : ∃ m6, m6 = mSet m5 38 k (c5 : Int) := ⟨_, rfl⟩
  rw [← em6] at S6 e6 G6 ⊢
  have d35 := d4.tr d5
  have o2 : ∀ x, x < N → yden m2 x = yden m x := fun x hx => (d1.tr d2).2.2.1 x hx
  have o6 : ∀ x, x < N2 → yden m6 x = yden m2 x := fun x hx => by rw [e6, d35.2.2.1 x hx, e3]
  have r6 : ∀ j, mGet m6 37 j = if j = k then (c2 : Int) else mGet m2 37 j := fun j => by
    rw [G6, if_neg (by omega), d35.1 37 j (by decide) (by decide) (by decide), G3]
    by_cases q : j = k
    · rw [if_pos ⟨rfl, q⟩, if_pos q, w32_nat (by omega)]
    · rw [if_neg (fun h => q h.2), if_neg q]
  have r8 : ∀ j, mGet m6 38 j = if j = k then (c5 : Int) else mGet m2 38 j := fun j => by
    rw [G6]
    by_cases q : j = k
    · rw [if_pos ⟨rfl, q⟩, if_pos q, w32_nat (by omega)]
    · rw [if_neg (fun h => q h.2), if_neg q, d35.1 38 j (by decide) (by decide) (by decide), G3, if_neg (by omega)]
  have gd2 : geq (yden m2 c2) (gadd (w k) (iz (-2))) := by
    refine g2.tr ?_
    have : geq (yden m1 c1) (gadd (w k) (iz (-1))) := g1.tr (gadd_eq hv (geq_rfl _))
    exact geq_sh this
  have gd5 : geq (yden m5 c5) (gadd (w k) (iz 2)) := by
    refine g5.tr ?_
    have : geq (yden m4 c4) (gadd (w k) (iz 1)) := g4.tr (gadd_eq (by rw [e3, o2 c hc]; exact hv) (geq_rfl _))
    exact geq_sh this
  refine hK m6 ⟨N5, w, S6, fun j hj => ?_, fun x hx => ?_, fun _ => ⟨c, by omega, rfl, ?_⟩⟩
  · by_cases q : j = k
    · rw [q]
      exact ⟨hW, hN, ⟨c2, by omega, by rw [r6, if_pos rfl], by rw [o6 c2 u2]; exact gd2⟩, c5, u5, by rw [r8, if_pos rfl], by rw [e6]; exact gd5⟩
    · obtain ⟨t1, t2, ⟨x, x1, x2, x3⟩, y, y1, y2, y3⟩ := T2 j (by omega)
      exact ⟨t1, t2, ⟨x, by omega, by rw [r6, if_neg q]; exact x2, by rw [o6 x x1]; exact x3⟩, y, by omega, by rw [r8, if_neg q]; exact y2, by rw [o6 y y1]; exact y3⟩
  · rw [e6]
    exact Fw2.next (P5 x hx)
  · rw [Nat.add_sub_cancel, o6 c (by omega), o2 c hc]
    exact hv
