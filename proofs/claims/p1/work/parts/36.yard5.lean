/-! FOLLOWERS -/
/-- the nodes that stand for followers of u -/
noncomputable def nl (m : Mem) (u : Nat) : List Nat := (List.range (u + 1)).filter (fun v => folB (yden m u) (yden m v))
/-! what is asked of nodes -/
theorem hasL_op {m : Mem} {N v u : Nat} (Y : YInv m N) (hv : v < N) (hu : u < N) : (row m 5 v).testBit u = op (yden m v) 0 (yden m u) := by
  apply Bool.eq_iff_iff.mpr
  rw [Y.opL hv]
  constructor
  · intro h; exact ⟨u, hu, h, rfl⟩
  · rintro ⟨c, h1, h2, h3⟩
    rw [← Y.2.2.2.2.2.2 c u h1 hu h3]; exact h2
theorem hasR_op {m : Mem} {N v u : Nat} (Y : YInv m N) (hv : v < N) (hu : u < N) : (row m 6 v).testBit u = op (yden m v) 1 (yden m u) := by
  apply Bool.eq_iff_iff.mpr
  rw [Y.opR hv]
  constructor
  · intro h; exact ⟨u, hu, h, rfl⟩
  · rintro ⟨c, h1, h2, h3⟩
    rw [← Y.2.2.2.2.2.2 c u h1 hu h3]; exact h2
theorem isOption_eq {n N v u w : Nat} {m : Mem} (Y : YInv m N) (hv : v < N) (hu : u < N) (hw : w < 2) : f_X9_isOption n (v : Int) (w : Int) (u : Int) m = some (b2i (op (yden m v) w (yden m u)), m) := by
  have h2 := Y.2.1
  unfold f_X9_isOption
  dsimp only [jn]
  rw [isNode_eq Y hv]
  dsimp only [cal]
  rw [if_neg (by decide), isNode_eq Y hu]
  dsimp only
  rw [if_neg (by decide)]
  rcases (by omega : w = 0 ∨ w = 1) with rfl | rfl
  · rw [if_pos (by decide), hasL (by decide) (by omega) (by omega), hasL_op Y hv hu]
    dsimp only
    cases op (yden m v) 0 (yden m u) <;> rfl
  · rw [if_neg (by decide), hasL (by decide) (by omega) (by omega), hasR_op Y hv hu]
    dsimp only
    cases op (yden m v) 1 (yden m u) <;> rfl
theorem isAtMost_eq {n N v u : Nat} {m : Mem} (Y : YInv m N) (hv : v < N) (hu : u < N) : f_X9_isAtMost n (v : Int) (u : Int) m = some (b2i (gleB (yden m v) (yden m u)), m) := by
  have h2 := Y.2.1
  have e : (row m 7 v).testBit u = gleB (yden m v) (yden m u) := by
    apply Bool.eq_iff_iff.mpr
    rw [Y.2.2.2.1 v hv, gleB_iff]
    exact ⟨fun h => h.2, fun h => ⟨hu, h⟩⟩
  unfold f_X9_isAtMost
  dsimp only [jn]
  rw [isNode_eq Y hv]
  dsimp only [cal]
  rw [if_neg (by decide), isNode_eq Y hu]
  dsimp only
  rw [if_neg (by decide), hasL (by decide) (by omega) (by omega), e]
  dsimp only
  cases gleB (yden m v) (yden m u) <;> rfl
theorem bare_iff {m : Mem} {N v : Nat} (Y : YInv m N) (hv : v < N) : (row m 5 v = 0 ↔ ∀ x, op (yden m v) 0 x = false) ∧ (row m 6 v = 0 ↔ ∀ x, op (yden m v) 1 x = false) := by
  constructor
  · constructor
    · intro h x
      cases e : op (yden m v) 0 x
      · rfl
      · obtain ⟨u, _, h2, _⟩ := (Y.opL hv x).mp e
        rw [h, Nat.zero_testBit] at h2; cases h2
    · intro h
      apply Nat.eq_of_testBit_eq
      intro u
      rw [Nat.zero_testBit]
      cases e : (row m 5 v).testBit u
      · rfl
      · have := h (yden m u)
        rw [(Y.opL hv _).mpr ⟨u, by have := Y.2.2.1 v hv u (Or.inl e); omega, e, rfl⟩] at this
        cases this
  · constructor
    · intro h x
      cases e : op (yden m v) 1 x
      · rfl
      · obtain ⟨u, _, h2, _⟩ := (Y.opR hv x).mp e
        rw [h, Nat.zero_testBit] at h2; cases h2
    · intro h
      apply Nat.eq_of_testBit_eq
      intro u
      rw [Nat.zero_testBit]
      cases e : (row m 6 v).testBit u
      · rfl
      · have := h (yden m u)
        rw [(Y.opR hv _).mpr ⟨u, by have := Y.2.2.1 v hv u (Or.inr e); omega, e, rfl⟩] at this
        cases this
theorem isWhole_ok {n N v : Nat} {m : Mem} (hn : 300 < n) (Y : YInv m N) (hv : v < N) : ∃ b, f_X9_isWhole n (v : Int) m = some (b2i b, m) ∧ (b = true ↔ Bare (yden m v) 0 ∨ Bare (yden m v) 1) := by
  have h2 := Y.2.1
  obtain ⟨q1, q2⟩ := bare_iff Y hv
  refine ⟨decide (row m 5 v = 0) || decide (row m 6 v = 0), ?_, ?_⟩
  · unfold f_X9_isWhole
    dsimp only [jn]
    rw [isNode_eq Y hv]
    dsimp only [cal]
    rw [if_neg (by decide), isBare_eq (by omega) (kL m (by decide)) (by omega) (by decide)]
    dsimp only
    by_cases e1 : row m 5 v = 0
    · rw [decide_eq_true e1, if_neg (by decide)]; rfl
    · rw [decide_eq_false e1, if_pos (by decide), isBare_eq (by omega) (kL m (by decide)) (by omega) (by decide)]
      dsimp only
      by_cases e2 : row m 6 v = 0
      · rw [decide_eq_true e2, if_neg (by decide)]; rfl
      · rw [decide_eq_false e2, if_pos (by decide)]; rfl
  · rw [Bool.or_eq_true, decide_eq_true_iff, decide_eq_true_iff, q1, q2]; rfl
/-! followers of a node -/
abbrev S17 (a : Nat) : Prop := a = 17
theorem gather_ok {n N u : Nat} {m : Mem} (hn : 300 < n) (Y : YInv m N) (hu : u < N) : Ok (f_X9_gather n (u : Int) m) (fun _ m' => WFr m m' S17 ∧ ∀ v, (row m' 17 0).testBit v = true ↔ v ≤ u ∧ fol (yden m u) (yden m v)) := by
  have h256 := Y.2.1
  unfold f_X9_gather
  refine ok_cal (fill0_ok (by omega) (kS _ (by decide))) (fun _ ma ra => ?_)
  refine ok_cal (markS (by decide) (by omega)) (fun _ mb rb => ?_)
  have eu : (u : Int) = ((u + 1 : Nat) : Int) - 1 := by omega
  have b0 : ∀ v, (row mb 17 0).testBit v = true ↔ v = u := by
    intro v
    rw [rb.at, ra.at, or_bit, Nat.zero_testBit]
    exact ⟨fun h => h.elim (fun h => by cases h) id, Or.inr⟩
  rw [show lp (F := Int → Mem → Option Rz) (fun _ _ => none) _ n (u : Int) mb = lp (F := Int → Mem → Option Rz) (fun _ _ => none) _ n (((u + 1 : Nat) : Int) - 1) mb from by rw [← eu]]
  refine ok_dn1 (fun i m1 => WFr m m1 S17 ∧ i ≤ u + 1 ∧ (∀ v, (row m1 17 0).testBit v = true → v ≤ u ∧ fol (yden m u) (yden m v)) ∧ (row m1 17 0).testBit u = true ∧ ∀ v, i ≤ v → (row m1 17 0).testBit v = true → ∀ c, ((row m 5 v).testBit c = true ∨ (row m 6 v).testBit c = true) → (row m1 17 0).testBit c = true) (fun w i m1 hI hw => ?_) (fun w m1 hI => ?_) n (u + 1) mb ⟨(WFr.of ra (S := S17) rfl).tr (WFr.of rb rfl), Nat.le_refl _, fun v hv => ?_, (b0 u).mpr rfl, fun v hv h => absurd ((b0 v).mp h) (by omega)⟩ (by omega)
  · obtain ⟨f1, hi, i1, i2, i3⟩ := hI
    rw [if_neg (by omega)]
    refine ok_calE (hasS (by decide) (by omega)) ?_
    rw [show w32 ((i : Int) + -1) = (i : Int) - 1 from by rw [w32_id (by omega) (by omega)]; omega]
    refine ok_jn1 (fun m2 => WFr m m2 S17 ∧ i ≤ u + 1 ∧ (∀ v, (row m2 17 0).testBit v = true → v ≤ u ∧ fol (yden m u) (yden m v)) ∧ (row m2 17 0).testBit u = true ∧ ∀ v, i ≤ v → (row m2 17 0).testBit v = true → ∀ c, ((row m 5 v).testBit c = true ∨ (row m 6 v).testBit c = true) → (row m2 17 0).testBit c = true) (fun m2 h2 => hw m2 h2) (fun j hj => ?_)
    refine ok_ite (fun q => ?_) (fun q => ?_)
    · refine hj m1 ⟨f1, by omega, i1, i2, fun v hv h => ?_⟩
      rcases (by omega : i + 1 ≤ v ∨ v = i) with h3 | rfl
      · exact i3 v h3 h
      · rw [b2i_0.mp q] at h; cases h
    · have hb : (row m1 17 0).testBit i = true := by
        cases e : (row m1 17 0).testBit i
        · exact absurd (b2i_0.mpr e) q
        · rfl
      refine ok_cal (join_ok (by omega) (by decide) (kS _ (by decide)) (by decide) (by decide) (kL _ (by decide)) (by omega) (by decide)) (fun _ m2 r2 => ?_)
      refine ok_cal (join_ok (by omega) (by decide) (kS _ (by decide)) (by decide) (by decide) (kL _ (by decide)) (by omega) (by decide)) (fun _ m3 r3 => ?_)
      have bits : ∀ c, (row m3 17 0).testBit c = true ↔ (row m1 17 0).testBit c = true ∨ (row m 5 i).testBit c = true ∨ (row m 6 i).testBit c = true := by
        intro c
        rw [r3.at, r2.at, r2.ne (by omega), f1.2 5 i (by omega), f1.2 6 i (by omega), Nat.testBit_or, Nat.testBit_or, Bool.or_eq_true, Bool.or_eq_true, or_assoc]
      have iu := (i1 i hb)
      refine hj m3 ⟨(f1.tr (WFr.of r2 rfl)).tr (WFr.of r3 rfl), by omega, fun v hv => ?_, (bits u).mpr (Or.inl i2), fun v hv h c hc => ?_⟩
      · rcases (bits v).mp hv with h | h | h
        · exact i1 v h
        · have hlt := Y.2.2.1 i (by omega) v (Or.inl h)
          exact ⟨by omega, fol_tr iu.2 (fol_op (w := 0) (by decide) ((Y.opL (by omega) _).mpr ⟨v, by omega, h, rfl⟩) (fol_rf _))⟩
        · have hlt := Y.2.2.1 i (by omega) v (Or.inr h)
          exact ⟨by omega, fol_tr iu.2 (fol_op (w := 1) (by decide) ((Y.opR (by omega) _).mpr ⟨v, by omega, h, rfl⟩) (fol_rf _))⟩
      · rw [bits]
        rcases (by omega : i + 1 ≤ v ∨ v = i) with h3 | rfl
        · rcases (bits v).mp h with h4 | h4
          · exact Or.inl (i3 v h3 h4 c hc)
          · have hlt := Y.2.2.1 i (by omega) v h4
            omega
        · exact Or.inr hc
  · obtain ⟨f1, hi, i1, i2, i3⟩ := hI
    rw [if_pos (by decide)]
    have close : ∀ v, (row m1 17 0).testBit v = true → ∀ x, fol (yden m v) x → ∃ c, (row m1 17 0).testBit c = true ∧ yden m c = x := by
      intro v
      induction v using Nat.strongRecOn with
      | _ v ih =>
        intro hv x hx
        have vu := (i1 v hv).1
        rcases (fol_def _ _).mp hx with rfl | ⟨y, hy, h3⟩
        · exact ⟨v, hv, rfl⟩
        · rcases hy with hy | hy
          · obtain ⟨c, h4, h5, rfl⟩ := (Y.opL (by omega) y).mp hy
            exact ih c (Y.2.2.1 v (by omega) c (Or.inl h5)) (i3 v (Nat.zero_le _) hv c (Or.inl h5)) x h3
          · obtain ⟨c, h4, h5, rfl⟩ := (Y.opR (by omega) y).mp hy
            exact ih c (Y.2.2.1 v (by omega) c (Or.inr h5)) (i3 v (Nat.zero_le _) hv c (Or.inr h5)) x h3
    refine ok_rt ⟨f1, fun v => ⟨fun h => i1 v h, fun h => ?_⟩⟩
    obtain ⟨c, h1, h2⟩ := close u i2 _ h.2
    rw [← Y.2.2.2.2.2.2 c v (by have := (i1 c h1).1; omega) (by omega) h2]
    exact h1
  · rw [(b0 v).mp hv]
    exact ⟨Nat.le_refl _, fol_rf _⟩

