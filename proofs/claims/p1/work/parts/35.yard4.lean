/-! THE YARD: begin, options told, end; what is asked of nodes -/
/-- what all of the yard's doings leave as it was -/
def YF (m m' : Mem) (N N' : Nat) : Prop := (∀ a i, a ≠ 4 → (a = 9 ∨ a = 10 → i < N) → mGet m' a i = mGet m a i) ∧ m'.2.2 = m.2.2 ∧ (∀ r, row m' 17 r = row m 17 r) ∧ (∀ x, x < N → yden m' x = yden m x) ∧ N ≤ N'
theorem YF.rf (m : Mem) (N : Nat) : YF m m N N := ⟨fun _ _ _ _ => rfl, rfl, fun _ => rfl, fun _ _ => rfl, Nat.le_refl _⟩
theorem YF.tr {a b c : Mem} {N M L : Nat} (h1 : YF a b N M) (h2 : YF b c M L) : YF a c N L := ⟨fun i j h3 h4 => (h2.1 i j h3 (fun q => Nat.lt_of_lt_of_le (h4 q) h1.2.2.2.2)).trans (h1.1 i j h3 h4), h2.2.1.trans h1.2.1, fun r => (h2.2.2.1 r).trans (h1.2.2.1 r), fun x hx => (h2.2.2.2.1 x (Nat.lt_of_lt_of_le hx h1.2.2.2.2)).trans (h1.2.2.2.1 x hx), Nat.le_trans h1.2.2.2.2 h2.2.2.2.2⟩
/-- a game is begun: SL, SR tell the games of its options -/
def YG (m : Mem) (N : Nat) (SL SR : Nat → Prop) : Prop := YI m N ∧ mGet m 4 14 = 0 ∧ (∀ u, (row m 11 0).testBit u = true → u < N) ∧ (∀ u, (row m 12 0).testBit u = true → u < N) ∧ (∀ g, SL g ↔ ∃ u, (row m 11 0).testBit u = true ∧ yden m u = g) ∧ ∀ g, SR g ↔ ∃ u, (row m 12 0).testBit u = true ∧ yden m u = g
/-- rows below 9, sums and the size are as they were -/
theorem YI.fr {m m' : Mem} {N : Nat} (Y : YI m N) (h5 : ∀ a r, a < 9 → row m' a r = row m a r) (hg : ∀ a i, ¬ (a = 4 ∧ i = 14) → mGet m' a i = mGet m a i) : YI m' N ∧ yden m' = yden m := by
  have hd : yden m' = yden m := by
    funext v
    exact den_congr v (fun u _ => ⟨h5 5 u (by decide), h5 6 u (by decide)⟩)
  obtain ⟨⟨y1, y2, y3, y4, y5, y6, y7⟩, R⟩ := Y
  refine ⟨⟨⟨by rw [hg _ _ (by decide)]; exact y1, y2, fun v hv u hu => y3 v hv u (by rw [h5 5 v (by decide), h5 6 v (by decide)] at hu; exact hu), fun v hv u => ?_, fun v hv u => ?_, fun v hv => by rw [hd]; exact y6 v hv, fun u v hu hv q => y7 u v hu hv (by rw [hd] at q; exact q)⟩, fun u hu => ?_⟩, hd⟩
  · rw [h5 7 v (by decide), hd]; exact y4 v hv u
  · rw [h5 8 v (by decide), hd]; exact y5 v hv u
  · rw [hg 9 u (by omega), hg 10 u (by omega), hd]; exact R u hu
theorem begin_ok {n N : Nat} {m : Mem} (hn : 300 < n) (Y : YI m N) : Ok (f_X9_begin n m) (fun _ m' => YG m' N (fun _ => False) (fun _ => False) ∧ YF m m' N N) := by
  unfold f_X9_begin
  dsimp only [ptZ]
  rw [if_pos (Or.inl rfl)]
  refine ok_cal (fill0_ok (by omega) (kS _ (by decide))) (fun _ ma ra => ?_)
  refine ok_cal (fill0_ok (by omega) (kS _ (by decide))) (fun _ mb rb => ?_)
  have e : ∀ a r, row (mSet m 4 14 0) a r = row m a r := fun _ _ => rfl
  have g : ∀ a i, mGet mb a i = if a = 4 ∧ i = 14 then 0 else mGet m a i := by
    intro a i
    rw [rb.1.1, ra.1.1, mGet_mSet]
    rfl
  have h5 : ∀ a r, a ≠ 11 → a ≠ 12 → row mb a r = row m a r := fun a r h1 h2 => by rw [rb.ne (by omega), ra.ne (by omega)]; rfl
  obtain ⟨Y2, hd⟩ := Y.fr (m' := mb) (fun a r ha => h5 a r (by omega) (by omega)) (fun a i h => by rw [g, if_neg h])
  have z11 : row mb 11 0 = 0 := by rw [rb.ne (by decide), ra.at]
  have z12 : row mb 12 0 = 0 := rb.at
  refine ok_rt ⟨⟨Y2, by rw [g, if_pos ⟨rfl, rfl⟩], fun u h => ?_, fun u h => ?_, fun q => ⟨False.elim, fun ⟨u, h, _⟩ => ?_⟩, fun q => ⟨False.elim, fun ⟨u, h, _⟩ => ?_⟩⟩, ⟨fun a i h _ => by rw [g, if_neg (fun q => h q.1)], rb.1.2.trans ra.1.2, fun r => h5 17 r (by decide) (by decide), fun x _ => by rw [hd], Nat.le_refl _⟩⟩
  all_goals first | rw [z11, Nat.zero_testBit] at h | rw [z12, Nat.zero_testBit] at h
  all_goals cases h
theorem isNode_eq {n N u : Nat} {m : Mem} (Y : YInv m N) (hu : u < N) : f_X9_isNode n (u : Int) m = some (1, m) := by
  have h2 := Y.2.1
  unfold f_X9_isNode
  dsimp only [jn, gtF]
  rw [Y.1, if_neg (by omega), if_pos (by omega), if_neg (by omega)]
  rfl
theorem ior_00 : ior 0 0 = 0 := by decide
theorem mark_YG {m m' : Mem} {N u a : Nat} {SL SR : Nat → Prop} (G : YG m N SL SR) (hu : u < N) (ha : a = 11 ∨ a = 12) (hr : ∀ b r, row m' b r = if b = a ∧ r = 0 then row m a 0 ||| 2 ^ u else row m b r) (hg : ∀ b i, mGet m' b i = if b = 4 ∧ i = 14 then 0 else mGet m b i) (hc : m'.2.2 = m.2.2) : YG m' N (fun g => SL g ∨ (a = 11 ∧ g = yden m u)) (fun g => SR g ∨ (a = 12 ∧ g = yden m u)) ∧ YF m m' N N := by
  obtain ⟨Y, s0, bL, bR, eL, eR⟩ := G
  obtain ⟨Y2, hd⟩ := Y.fr (m' := m') (fun b r hb => by rw [hr, if_neg (by omega)]) (fun b i h => by rw [hg, if_neg h])
  have F : YF m m' N N := ⟨fun b i h _ => by rw [hg, if_neg (fun q => h q.1)], hc, fun r => by rw [hr, if_neg (by omega)], fun x _ => by rw [hd], Nat.le_refl _⟩
  refine ⟨⟨Y2, by rw [hg, if_pos ⟨rfl, rfl⟩], fun v hv => ?_, fun v hv => ?_, fun q => ?_, fun q => ?_⟩, F⟩
  · rw [hr] at hv
    by_cases e : (11 = a ∧ 0 = 0)
    · rw [if_pos e, or_bit] at hv
      rcases hv with h | h
      · exact bL v (by rw [e.1]; exact h)
      · omega
    · rw [if_neg e] at hv; exact bL v hv
  · rw [hr] at hv
    by_cases e : (12 = a ∧ 0 = 0)
    · rw [if_pos e, or_bit] at hv
      rcases hv with h | h
      · exact bR v (by rw [e.1]; exact h)
      · omega
    · rw [if_neg e] at hv; exact bR v hv
  · show (SL q ∨ (a = 11 ∧ q = yden m u)) ↔ _
    rw [hr, hd, eL]
    rcases ha with rfl | rfl
    · rw [if_pos ⟨rfl, rfl⟩]
      constructor
      · rintro (⟨v, h1, h2⟩ | ⟨_, rfl⟩)
        · exact ⟨v, (or_bit _ _ _).mpr (Or.inl h1), h2⟩
        · exact ⟨u, (or_bit _ _ _).mpr (Or.inr rfl), rfl⟩
      · rintro ⟨v, h1, h2⟩
        rcases (or_bit _ _ _).mp h1 with h3 | rfl
        · exact Or.inl ⟨v, h3, h2⟩
        · exact Or.inr ⟨rfl, h2.symm⟩
    · rw [if_neg (by decide)]
      exact ⟨fun h => h.elim id (fun h => absurd h.1 (by decide)), Or.inl⟩
  · show (SR q ∨ (a = 12 ∧ q = yden m u)) ↔ _
    rw [hr, hd, eR]
    rcases ha with rfl | rfl
    · rw [if_neg (by decide)]
      exact ⟨fun h => h.elim id (fun h => absurd h.1 (by decide)), Or.inl⟩
    · rw [if_pos ⟨rfl, rfl⟩]
      constructor
      · rintro (⟨v, h1, h2⟩ | ⟨_, rfl⟩)
        · exact ⟨v, (or_bit _ _ _).mpr (Or.inl h1), h2⟩
        · exact ⟨u, (or_bit _ _ _).mpr (Or.inr rfl), rfl⟩
      · rintro ⟨v, h1, h2⟩
        rcases (or_bit _ _ _).mp h1 with h3 | rfl
        · exact Or.inl ⟨v, h3, h2⟩
        · exact Or.inr ⟨rfl, h2.symm⟩
theorem YG.iff {m : Mem} {N : Nat} {SL SR SL2 SR2 : Nat → Prop} (G : YG m N SL SR) (hL : ∀ g, SL2 g ↔ SL g) (hR : ∀ g, SR2 g ↔ SR g) : YG m N SL2 SR2 := ⟨G.1, G.2.1, G.2.2.1, G.2.2.2.1, fun g => (hL g).trans (G.2.2.2.2.1 g), fun g => (hR g).trans (G.2.2.2.2.2 g)⟩
theorem addLeft_ok {n N u : Nat} {m : Mem} {SL SR : Nat → Prop} (G : YG m N SL SR) (hu : u < N) : Ok (f_X9_addLeft n (u : Int) m) (fun _ m' => YG m' N (fun g => SL g ∨ g = yden m u) SR ∧ YF m m' N N) := by
  unfold f_X9_addLeft
  dsimp only [gtF, jn, ptZ]
  refine ok_calE (isNode_eq G.1.1 hu) ?_
  rw [if_neg (by decide), G.2.1, ior_00, if_pos (Or.inl rfl)]
  have := G.1.1.2.1
  refine ok_cal (markS (by decide) (by omega)) (fun _ m2 r2 => ?_)
  obtain ⟨h1, h2⟩ := mark_YG (m' := m2) G hu (Or.inl rfl) (fun b r => r2.2 b r) (fun b i => by rw [r2.1.1, mGet_mSet]; rfl) r2.1.2
  exact ok_rt ⟨h1.iff (fun g => ⟨fun h => h.imp id (fun h => ⟨rfl, h⟩), fun h => h.imp id (fun h => h.2)⟩) (fun g => ⟨Or.inl, fun h => h.elim id (fun h => absurd h.1 (by decide))⟩), h2⟩
theorem addRight_ok {n N u : Nat} {m : Mem} {SL SR : Nat → Prop} (G : YG m N SL SR) (hu : u < N) : Ok (f_X9_addRight n (u : Int) m) (fun _ m' => YG m' N SL (fun g => SR g ∨ g = yden m u) ∧ YF m m' N N) := by
  unfold f_X9_addRight
  dsimp only [gtF, jn, ptZ]
  refine ok_calE (isNode_eq G.1.1 hu) ?_
  rw [if_neg (by decide), G.2.1, ior_00, if_pos (Or.inl rfl)]
  have := G.1.1.2.1
  refine ok_cal (markS (by decide) (by omega)) (fun _ m2 r2 => ?_)
  obtain ⟨h1, h2⟩ := mark_YG (m' := m2) G hu (Or.inr rfl) (fun b r => r2.2 b r) (fun b i => by rw [r2.1.1, mGet_mSet]; rfl) r2.1.2
  exact ok_rt ⟨h1.iff (fun g => ⟨Or.inl, fun h => h.elim id (fun h => absurd h.1 (by decide))⟩) (fun g => ⟨fun h => h.imp id (fun h => ⟨rfl, h⟩), fun h => h.imp id (fun h => h.2)⟩), h2⟩
/-- the options told are those of g, up to equality -/
def Fits (SL SR : Nat → Prop) (g : Nat) : Prop := (∀ x, op g 0 x = true → ∃ y, SL y ∧ geq y x) ∧ (∀ y, SL y → ∃ x, op g 0 x = true ∧ geq y x) ∧ (∀ x, op g 1 x = true → ∃ y, SR y ∧ geq y x) ∧ (∀ y, SR y → ∃ x, op g 1 x = true ∧ geq y x)
theorem gof_ok {n N g : Nat} {m : Mem} {SL SR : Nat → Prop} (hn : 300 < n) (G : YG m N SL SR) (hN : N < 256) (hF : Fits SL SR g) : Ok (f_X9_end n m) (fun v m' => ∃ u N' : Nat, v = (u : Int) ∧ u < N' ∧ (N' = N ∧ u < N ∨ N' = N + 1 ∧ u = N) ∧ YI m' N' ∧ mGet m' 4 14 = 0 ∧ YF m m' N N' ∧ geq (yden m' u) g) := by
  obtain ⟨Y, s0, bL, bR, eL, eR⟩ := G
  refine ok_mono (end_ok hn Y hN s0 rfl rfl bL bR) (fun v m' h => ?_)
  obtain ⟨u, N', h1, h2, h3, h4, h5, h6, h7, h8⟩ := h
  refine ⟨u, N', h1, h2, h4, h5, h8.2.1.trans s0, ⟨fun a i q1 q2 => h8.1 a i q1 (fun q => by have := q2 q.1; omega), h8.2.2.1, h8.2.2.2, h6, h3⟩, h7.tr ?_⟩
  obtain ⟨f1, f2, f3, f4⟩ := hF
  constructor
  · refine gle_congr (fun x hx => ?_) (fun y hy => ?_)
    · obtain ⟨k, _, k2, rfl⟩ := (op_ygL _ _ _ _ _).mp hx
      obtain ⟨z, z1, z2⟩ := f2 _ ((eL _).mpr ⟨k, k2, rfl⟩)
      exact ⟨z, z1, z2.1⟩
    · obtain ⟨z, z1, z2⟩ := f3 y hy
      obtain ⟨k, k2, rfl⟩ := (eR _).mp z1
      exact ⟨yden m k, (op_ygR _ _ _ _ _).mpr ⟨k, bR k k2, k2, rfl⟩, z2.1⟩
  · refine gle_congr (fun x hx => ?_) (fun y hy => ?_)
    · obtain ⟨z, z1, z2⟩ := f1 x hx
      obtain ⟨k, k2, rfl⟩ := (eL _).mp z1
      exact ⟨yden m k, (op_ygL _ _ _ _ _).mpr ⟨k, bL k k2, k2, rfl⟩, z2.2⟩
    · obtain ⟨k, _, k2, rfl⟩ := (op_ygR _ _ _ _ _).mp hy
      obtain ⟨z, z1, z2⟩ := f4 _ ((eR _).mpr ⟨k, k2, rfl⟩)
      exact ⟨z, z1, z2.2⟩
/-- the yard begun anew: one node, 0 -/
theorem den_0 (L R : Nat → Nat) : den L R 0 = 0 := by rw [den]; rfl
theorem clear_ok {n : Nat} {m : Mem} (hn : 300 < n) : Ok (f_X9_clear n m) (fun _ m' => YI m' 1 ∧ mGet m' 4 14 = 0 ∧ yden m' 0 = 0 ∧ (∀ a i, a ≠ 4 → a ≠ 9 → a ≠ 10 → mGet m' a i = mGet m a i) ∧ m'.2.2 = m.2.2) := by
  unfold f_X9_clear
  dsimp only [ptF]
  have Y0 : YI (mSet m 4 13 0) 0 := ⟨⟨by rw [mGet_mSet, if_pos ⟨rfl, rfl⟩]; rfl, by decide, fun v h => absurd h (Nat.not_lt_zero _), fun v h => absurd h (Nat.not_lt_zero _), fun v h => absurd h (Nat.not_lt_zero _), fun v h => absurd h (Nat.not_lt_zero _), fun u v h => absurd h (Nat.not_lt_zero _)⟩, fun u h => absurd h (Nat.not_lt_zero _)⟩
  refine ok_cal (begin_ok hn Y0) (fun _ m2 h2 => ?_)
  obtain ⟨G, F⟩ := h2
  refine ok_cal (gof_ok (g := 0) hn G (by decide) ⟨fun x h => ?_, fun y h => h.elim, fun x h => ?_, fun y h => h.elim⟩) (fun v m3 h3 => ?_)
  · rw [op_0] at h; cases h
  · rw [op_0] at h; cases h
  · obtain ⟨u, N', h1, h2, h3, h4, h5, h6, h7⟩ := h3
    have e : N' = 1 := by omega
    subst e
    have F2 := F.tr h6
    refine ok_rt ⟨h4, h5, den_0 _ _, fun a i q1 q2 q3 => ?_, F2.2.1⟩
    rw [F2.1 a i q1 (fun q => by omega), mGet_mSet, if_neg (fun q => q1 q.1)]

