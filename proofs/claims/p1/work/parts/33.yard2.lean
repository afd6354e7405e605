/-! THE YARD: how an option is bypassed, dropped; how a node is added -/
theorem RowUp.rf (m : Mem) (a r : Nat) : RowUp m m a r (row m a r) := ⟨SameI.rf m, fun a' r' => by
  by_cases h : a' = a ∧ r' = r
  · rw [if_pos h, h.1, h.2]
  · rw [if_neg h]⟩
theorem RowUp.tr {a b c : Mem} {i r x y : Nat} (h1 : RowUp a b i r x) (h2 : RowUp b c i r y) : RowUp a c i r y := ⟨h1.1.tr h2.1, fun a' r' => by
  rw [h2.2, h1.2]
  by_cases h : a' = i ∧ r' = r
  · rw [if_pos h, if_pos h]
  · rw [if_neg h, if_neg h, if_neg h]⟩
theorem RowUp.same {a b : Mem} {i r x y : Nat} (h1 : RowUp a b i r x) (e : x = y) : RowUp a b i r y := e ▸ h1
theorem bypass_ok {n p1 p3 p4 p5 v : Nat} {m : Mem} (hn : 300 < n) (h1 : 11 ≤ p1 ∧ p1 ≤ 17) (h3 : 5 ≤ p3 ∧ p3 ≤ 8) (h4 : 11 ≤ p4 ∧ p4 ≤ 17) (h5 : 5 ≤ p5 ∧ p5 ≤ 8) (hv : v < 256) : Ok (f_X9_bypass n p1 (v : Int) p3 p4 p5 m) (fun _ m' => ∃ X, RowUp m m' p1 0 X ∧ ((X = row m p1 0 ∧ ((row m p1 0).testBit v = true → ∀ c, c < v → ¬ ((row m p3 v).testBit c = true ∧ (row m p4 0).testBit c = true))) ∨ ((row m p1 0).testBit v = true ∧ ∃ c, c < v ∧ (row m p3 v).testBit c = true ∧ (row m p4 0).testBit c = true ∧ ∀ u, X.testBit u = true ↔ ((row m p1 0).testBit u = true ∧ u ≠ v) ∨ (row m p5 c).testBit u = true))) := by
  unfold f_X9_bypass
  refine ok_calE (hasS h1 hv) ?_
  refine ok_ite (fun q => ?_) (fun q => ?_)
  · refine ok_rt ⟨_, RowUp.rf m p1 0, Or.inl ⟨rfl, fun h => ?_⟩⟩
    rw [b2i_0.mp q] at h; cases h
  · have hb : (row m p1 0).testBit v = true := by
      cases e : (row m p1 0).testBit v
      · exact absurd (b2i_0.mpr e) q
      · rfl
    refine ok_up1 v (fun i m1 => m1 = m ∧ ∀ c, c < i → ¬ ((row m p3 v).testBit c = true ∧ (row m p4 0).testBit c = true)) (fun w i m1 hi hI hw => ?_) (fun w m1 hI => ?_) n 0 m (Nat.zero_le _) ⟨rfl, fun c hc => absurd hc (Nat.not_lt_zero _)⟩ (by omega)
    · obtain ⟨rfl, hI⟩ := hI
      rw [if_pos (by omega)]
      refine ok_calE (hasL h3 hv (by omega)) ?_
      rw [k_1 (by omega)]
      refine ok_jn1 (fun m2 => m2 = m1 ∧ ¬ ((row m1 p3 v).testBit i = true ∧ (row m1 p4 0).testBit i = true)) (fun m2 h2 => ?_) (fun j hj => ?_)
      · obtain ⟨rfl, h2⟩ := h2
        refine hw m2 ⟨rfl, fun c hc => ?_⟩
        rcases (by omega : c < i ∨ c = i) with h | rfl
        · exact hI c h
        · exact h2
      · refine ok_ite (fun q1 => ?_) (fun q1 => ?_)
        · exact hj m1 ⟨rfl, fun h => by rw [b2i_0.mp q1] at h; cases h.1⟩
        · have hb1 : (row m1 p3 v).testBit i = true := by
            cases e : (row m1 p3 v).testBit i
            · exact absurd (b2i_0.mpr e) q1
            · rfl
          refine ok_calE (hasS h4 (by omega)) ?_
          refine ok_ite (fun q2 => ?_) (fun q2 => ?_)
          · exact hj m1 ⟨rfl, fun h => by rw [b2i_0.mp q2] at h; cases h.2⟩
          · have hb2 : (row m1 p4 0).testBit i = true := by
              cases e : (row m1 p4 0).testBit i
              · exact absurd (b2i_0.mpr e) q2
              · rfl
            refine ok_cal (unmark_ok (r := 0) (kS m1 h1) (by decide) (by decide) hv) (fun _ m2 r2 => ?_)
            obtain ⟨x, r2, hx⟩ := r2
            refine ok_cal (join_ok (by omega) (by omega) (kS _ h1) (by decide) (by decide) (kL _ h5) (by omega) (by decide)) (fun _ m3 r3 => ?_)
            refine ok_rt ⟨_, r2.tr r3, Or.inr ⟨hb, i, hi, hb1, hb2, fun u => ?_⟩⟩
            rw [r2.at, r2.ne (by omega), Nat.testBit_or, Bool.or_eq_true, hx, Bool.and_eq_true, decide_eq_true_iff]
    · obtain ⟨rfl, hI⟩ := hI
      rw [if_neg (by omega)]
      exact ok_rt ⟨_, RowUp.rf m1 p1 0, Or.inl ⟨rfl, fun _ => hI⟩⟩
theorem drop_ok {n p1 p3 v : Nat} {m : Mem} (hn : 300 < n) (h1 : 11 ≤ p1 ∧ p1 ≤ 17) (h3 : 5 ≤ p3 ∧ p3 ≤ 8) (hv : v < 256) : Ok (f_X9_dropIfOutdone n p1 (v : Int) p3 m) (fun _ m' => ∃ X, RowUp m m' p1 0 X ∧ ((X = row m p1 0 ∧ ((row m p1 0).testBit v = true → ∀ c, c ≠ v → ¬ ((row m p3 v).testBit c = true ∧ (row m p1 0).testBit c = true))) ∨ ((row m p1 0).testBit v = true ∧ (∃ c, c ≠ v ∧ (row m p3 v).testBit c = true ∧ (row m p1 0).testBit c = true) ∧ ∀ u, X.testBit u = true ↔ (row m p1 0).testBit u = true ∧ u ≠ v))) := by
  unfold f_X9_dropIfOutdone
  refine ok_calE (hasS h1 hv) ?_
  refine ok_jn1 (fun m' => ∃ X, RowUp m m' p1 0 X ∧ ((X = row m p1 0 ∧ ((row m p1 0).testBit v = true → ∀ c, c ≠ v → ¬ ((row m p3 v).testBit c = true ∧ (row m p1 0).testBit c = true))) ∨ ((row m p1 0).testBit v = true ∧ (∃ c, c ≠ v ∧ (row m p3 v).testBit c = true ∧ (row m p1 0).testBit c = true) ∧ ∀ u, X.testBit u = true ↔ (row m p1 0).testBit u = true ∧ u ≠ v))) (fun m2 h2 => ok_rt h2) (fun j hj => ?_)
  refine ok_ite (fun q => ?_) (fun q => ?_)
  · refine hj m ⟨_, RowUp.rf m p1 0, Or.inl ⟨rfl, fun h => ?_⟩⟩
    rw [b2i_0.mp q] at h; cases h
  · have hb : (row m p1 0).testBit v = true := by
      cases e : (row m p1 0).testBit v
      · exact absurd (b2i_0.mpr e) q
      · rfl
    refine ok_cal (unmark_ok (r := 0) (kS m h1) (by decide) (by decide) hv) (fun _ m2 r2 => ?_)
    obtain ⟨x, r2, hx⟩ := r2
    have hx2 : ∀ u, x.testBit u = true ↔ (row m p1 0).testBit u = true ∧ u ≠ v := fun u => by rw [hx, Bool.and_eq_true, decide_eq_true_iff]
    obtain ⟨b, hb1, hb2⟩ := meetsL (n := n) (a := p3) (r := v) (s := p1) (m := m2) (by omega) h3 hv h1
    rw [r2.ne (by omega), r2.at] at hb2
    refine ok_calE hb1 ?_
    refine ok_ite (fun q1 => ?_) (fun q1 => ?_)
    · have hbf := b2i_0.mp q1
      refine ok_cal (mark_ok (r := 0) (kS m2 h1) (by decide) (by decide) hv) (fun _ m3 r3 => ?_)
      refine hj m3 ⟨_, r2.tr r3, Or.inl ⟨?_, fun _ c hc h => ?_⟩⟩
      · rw [r2.at]
        apply Nat.eq_of_testBit_eq
        intro u
        apply Bool.eq_iff_iff.mpr
        rw [or_bit, hx2]
        constructor
        · rintro (h | rfl)
          · exact h.1
          · exact hb
        · intro h
          by_cases e : u = v
          · exact Or.inr e
          · exact Or.inl ⟨h, e⟩
      · rw [hb2.mpr ⟨c, h.1, (hx2 c).mpr ⟨h.2, hc⟩⟩] at hbf
        cases hbf
    · have hbt : b = true := by
        cases e : b
        · exact absurd (b2i_0.mpr e) q1
        · rfl
      obtain ⟨c, hc1, hc2⟩ := hb2.mp hbt
      have := (hx2 c).mp hc2
      exact hj m2 ⟨x, r2, Or.inr ⟨hb, ⟨c, this.2, hc1, this.1⟩, hx2⟩⟩
/-! the game of two sets of nodes, bypassed and thinned -/
theorem yg_byL {d : Nat → Nat} {N A B A2 v c : Nat} {P : Nat → Prop} (hv : v < N) (hvA : A.testBit v = true) (hc : op (d v) 1 (d c) = true) (hz : ∀ w, op (d c) 0 w = true ↔ ∃ u, u < N ∧ P u ∧ d u = w) (hcg : gle (d c) (yg d N A B)) (h2 : ∀ u, A2.testBit u = true ↔ (A.testBit u = true ∧ u ≠ v) ∨ P u) : geq (yg d N A B) (yg d N A2 B) := by
  refine byL (x := d v) (z := d c) ((op_ygL d N A B _).mpr ⟨v, hv, hvA, rfl⟩) hc hcg ?_ ?_ ?_ ?_
  · intro y
    apply Bool.eq_iff_iff.mpr
    rw [op_ygR, op_ygR]
  · intro u hu
    obtain ⟨k, h3, h4, rfl⟩ := (op_ygL _ _ _ _ _).mp hu
    rcases (h2 k).mp h4 with h5 | h5
    · exact Or.inl ((op_ygL _ _ _ _ _).mpr ⟨k, h3, h5.1, rfl⟩)
    · exact Or.inr ((hz _).mpr ⟨k, h3, h5, rfl⟩)
  · intro u hu
    obtain ⟨k, h3, h4, rfl⟩ := (op_ygL _ _ _ _ _).mp hu
    by_cases e : k = v
    · exact Or.inl (by rw [e])
    · exact Or.inr ((op_ygL _ _ _ _ _).mpr ⟨k, h3, (h2 k).mpr (Or.inl ⟨h4, e⟩), rfl⟩)
  · intro u hu
    obtain ⟨k, h3, h4, rfl⟩ := (hz u).mp hu
    exact (op_ygL _ _ _ _ _).mpr ⟨k, h3, (h2 k).mpr (Or.inr h4), rfl⟩
theorem yg_byR {d : Nat → Nat} {N A B B2 v c : Nat} {P : Nat → Prop} (hv : v < N) (hvB : B.testBit v = true) (hc : op (d v) 0 (d c) = true) (hz : ∀ w, op (d c) 1 w = true ↔ ∃ u, u < N ∧ P u ∧ d u = w) (hcg : gle (yg d N A B) (d c)) (h2 : ∀ u, B2.testBit u = true ↔ (B.testBit u = true ∧ u ≠ v) ∨ P u) : geq (yg d N A B) (yg d N A B2) := by
  refine byR (x := d v) (z := d c) ((op_ygR d N A B _).mpr ⟨v, hv, hvB, rfl⟩) hc hcg ?_ ?_ ?_ ?_
  · intro y
    apply Bool.eq_iff_iff.mpr
    rw [op_ygL, op_ygL]
  · intro u hu
    obtain ⟨k, h3, h4, rfl⟩ := (op_ygR _ _ _ _ _).mp hu
    rcases (h2 k).mp h4 with h5 | h5
    · exact Or.inl ((op_ygR _ _ _ _ _).mpr ⟨k, h3, h5.1, rfl⟩)
    · exact Or.inr ((hz _).mpr ⟨k, h3, h5, rfl⟩)
  · intro u hu
    obtain ⟨k, h3, h4, rfl⟩ := (op_ygR _ _ _ _ _).mp hu
    by_cases e : k = v
    · exact Or.inl (by rw [e])
    · exact Or.inr ((op_ygR _ _ _ _ _).mpr ⟨k, h3, (h2 k).mpr (Or.inl ⟨h4, e⟩), rfl⟩)
  · intro u hu
    obtain ⟨k, h3, h4, rfl⟩ := (hz u).mp hu
    exact (op_ygR _ _ _ _ _).mpr ⟨k, h3, (h2 k).mpr (Or.inr h4), rfl⟩
theorem yg_dropL {d : Nat → Nat} {N A B A2 v c : Nat} (hc : c < N) (hcA : A.testBit c = true) (hcv : c ≠ v) (hle : gle (d v) (d c)) (h2 : ∀ u, A2.testBit u = true ↔ A.testBit u = true ∧ u ≠ v) : geq (yg d N A B) (yg d N A2 B) := by
  refine dropL (x := d v) (y := d c) ((op_ygL d N A2 B _).mpr ⟨c, hc, (h2 c).mpr ⟨hcA, hcv⟩, rfl⟩) hle ?_ ?_ ?_
  · intro y
    apply Bool.eq_iff_iff.mpr
    rw [op_ygR, op_ygR]
  · intro u hu
    obtain ⟨k, h3, h4, rfl⟩ := (op_ygL _ _ _ _ _).mp hu
    exact (op_ygL _ _ _ _ _).mpr ⟨k, h3, ((h2 k).mp h4).1, rfl⟩
  · intro u hu
    obtain ⟨k, h3, h4, rfl⟩ := (op_ygL _ _ _ _ _).mp hu
    by_cases e : k = v
    · exact Or.inl (by rw [e])
    · exact Or.inr ((op_ygL _ _ _ _ _).mpr ⟨k, h3, (h2 k).mpr ⟨h4, e⟩, rfl⟩)
theorem yg_dropR {d : Nat → Nat} {N A B B2 v c : Nat} (hc : c < N) (hcA : B.testBit c = true) (hcv : c ≠ v) (hle : gle (d c) (d v)) (h2 : ∀ u, B2.testBit u = true ↔ B.testBit u = true ∧ u ≠ v) : geq (yg d N A B) (yg d N A B2) := by
  refine dropR (x := d v) (y := d c) ((op_ygR d N A B2 _).mpr ⟨c, hc, (h2 c).mpr ⟨hcA, hcv⟩, rfl⟩) hle ?_ ?_ ?_
  · intro y
    apply Bool.eq_iff_iff.mpr
    rw [op_ygL, op_ygL]
  · intro u hu
    obtain ⟨k, h3, h4, rfl⟩ := (op_ygR _ _ _ _ _).mp hu
    exact (op_ygR _ _ _ _ _).mpr ⟨k, h3, ((h2 k).mp h4).1, rfl⟩
  · intro u hu
    obtain ⟨k, h3, h4, rfl⟩ := (op_ygR _ _ _ _ _).mp hu
    by_cases e : k = v
    · exact Or.inl (by rw [e])
    · exact Or.inr ((op_ygR _ _ _ _ _).mpr ⟨k, h3, (h2 k).mpr ⟨h4, e⟩, rfl⟩)
/-- the frame of what adds a node -/
def AddFr (m m' : Mem) (N : Nat) : Prop := (∀ a i, ¬ (a = 4 ∧ i = 13) → ¬ ((a = 9 ∨ a = 10) ∧ i = N) → mGet m' a i = mGet m a i) ∧ m'.2.2 = m.2.2
theorem kI9 (m : Mem) : sKind m 9 = (1, 256) := rfl
theorem kI10 (m : Mem) : sKind m 10 = (1, 256) := rfl
set_option maxHeartbeats 1000000 in
theorem add_ok {n N : Nat} {m : Mem} (hn : 300 < n) (hN : N < 256) (h13 : mGet m 4 13 = (N : Int)) : Ok (f_X9_add n m) (fun v m' => v = (N : Int) ∧ AddFr m m' N ∧ mGet m' 4 13 = ((N + 1 : Nat) : Int) ∧ mGet m' 9 N = -1 ∧ mGet m' 10 N = -1 ∧ (∀ r, row m' 5 r = if r = N then row m 11 0 else row m 5 r) ∧ (∀ r, row m' 6 r = if r = N then row m 12 0 else row m 6 r) ∧ (∀ r, r < N → ∀ u, (row m' 7 r).testBit u = true ↔ (row m 7 r).testBit u = true ∨ (u = N ∧ (row m 14 0).testBit r = true)) ∧ (∀ r, r < N → ∀ u, (row m' 8 r).testBit u = true ↔ (row m 8 r).testBit u = true ∨ (u = N ∧ (row m 13 0).testBit r = true)) ∧ (∀ u, (row m' 7 N).testBit u = true ↔ (row m 13 0).testBit u = true ∨ u = N) ∧ (∀ u, (row m' 8 N).testBit u = true ↔ (row m 14 0).testBit u = true ∨ u = N) ∧ ∀ a r, 9 ≤ a → row m' a r = row m a r) := by
  unfold f_X9_add
  dsimp only [gtF, ptF]
  rw [h13, if_pos (by omega)]
  have hz : w32 ((N : Int) + 1) = ((N + 1 : Nat) : Int) := k_1 (by omega)
  generalize e24 : mSet m 4 13 (w32 ((N : Int) + 1)) = m24
  have g24 : ∀ a i, mGet m24 a i = if a = 4 ∧ i = 13 then ((N + 1 : Nat) : Int) else mGet m a i := by
    intro a i; rw [← e24, mGet_mSet, hz, w32_nat (by omega)]
  have c24 : m24.2.2 = m.2.2 := by rw [← e24]; rfl
  have r24 : ∀ a r, row m24 a r = row m a r := by intro a r; rw [← e24]; rfl
  refine ok_cal (replace_ok (by omega) (by decide) (kS _ (by decide)) (by decide) (by decide) (kL _ (by decide)) (by omega) (by decide)) (fun _ ma ra => ?_)
  refine ok_cal (replace_ok (by omega) (by decide) (kS _ (by decide)) (by decide) (by decide) (kL _ (by decide)) (by omega) (by decide)) (fun _ mb rb => ?_)
  refine ok_cal (replace_ok (by omega) (by decide) (kS _ (by decide)) (by decide) (by decide) (kL _ (by decide)) (by omega) (by decide)) (fun _ mc rc => ?_)
  refine ok_cal (replace_ok (by omega) (by decide) (kS _ (by decide)) (by decide) (by decide) (kL _ (by decide)) (by omega) (by decide)) (fun _ md rd => ?_)
  rw [r24] at ra
  rw [ra.ne (by omega), r24] at rb
  rw [rb.ne (by omega), ra.ne (by omega), r24] at rc
  rw [rc.ne (by omega), rb.ne (by omega), ra.ne (by omega), r24] at rd
  have sI : SameI m24 md := ((ra.1.tr rb.1).tr rc.1).tr rd.1
  have d5 : ∀ r, row md 5 r = if r = N then row m 11 0 else row m 5 r := by
    intro r
    rw [rd.ne (by omega), rc.ne (by omega), rb.ne (by omega), ra.2, r24]
    by_cases e : r = N
    · rw [if_pos ⟨rfl, e⟩, if_pos e]
    · rw [if_neg (by omega), if_neg e]
  have d6 : ∀ r, row md 6 r = if r = N then row m 12 0 else row m 6 r := by
    intro r
    rw [rd.ne (by omega), rc.ne (by omega), rb.2, ra.ne (by omega), r24]
    by_cases e : r = N
    · rw [if_pos ⟨rfl, e⟩, if_pos e]
    · rw [if_neg (by omega), if_neg e]
  have d7 : ∀ r, row md 7 r = if r = N then row m 13 0 else row m 7 r := by
    intro r
    rw [rd.ne (by omega), rc.2, rb.ne (by omega), ra.ne (by omega), r24]
    by_cases e : r = N
    · rw [if_pos ⟨rfl, e⟩, if_pos e]
    · rw [if_neg (by omega), if_neg e]
  have d8 : ∀ r, row md 8 r = if r = N then row m 14 0 else row m 8 r := by
    intro r
    rw [rd.2, rc.ne (by omega), rb.ne (by omega), ra.ne (by omega), r24]
    by_cases e : r = N
    · rw [if_pos ⟨rfl, e⟩, if_pos e]
    · rw [if_neg (by omega), if_neg e]
  have dS : ∀ a, 9 ≤ a → row md a 0 = row m a 0 := by
    intro a ha
    rw [rd.ne (by omega), rc.ne (by omega), rb.ne (by omega), ra.ne (by omega), r24]
  refine ok_up1 N (fun i m1 => SameI md m1 ∧ (∀ a r, a ≠ 7 → a ≠ 8 → row m1 a r = row md a r) ∧ (∀ r, i ≤ r → row m1 7 r = row md 7 r ∧ row m1 8 r = row md 8 r) ∧ (∀ r, r < i → ∀ u, (row m1 7 r).testBit u = true ↔ (row m 7 r).testBit u = true ∨ (u = N ∧ (row m 14 0).testBit r = true)) ∧ (∀ r, r < i → ∀ u, (row m1 8 r).testBit u = true ↔ (row m 8 r).testBit u = true ∨ (u = N ∧ (row m 13 0).testBit r = true))) (fun w i m1 hi hI hw => ?_) (fun w m1 hI => ?_) n 0 md (Nat.zero_le _) ⟨SameI.rf _, fun _ _ _ _ => rfl, fun _ _ => ⟨rfl, rfl⟩, fun r h => absurd h (Nat.not_lt_zero _), fun r h => absurd h (Nat.not_lt_zero _)⟩ (by omega)
  · obtain ⟨i0, i1, i2, i3, i4⟩ := hI
    rw [if_pos (by omega)]
    refine ok_calE (hasS (by decide) (by omega)) ?_
    rw [i1 13 0 (by decide) (by decide), dS 13 (by decide)]
    refine ok_jn1 (fun m2 => SameI m1 m2 ∧ (∀ a r, ¬ (a = 8 ∧ r = i) → row m2 a r = row m1 a r) ∧ (∀ u, (row m2 8 i).testBit u = true ↔ (row m 8 i).testBit u = true ∨ (u = N ∧ (row m 13 0).testBit i = true))) (fun m2 h2 => ?_) (fun j hj => ?_)
    · obtain ⟨s2, f2, b2⟩ := h2
      refine ok_calE (hasS (by decide) (by omega)) ?_
      rw [f2 14 0 (by omega), i1 14 0 (by decide) (by decide), dS 14 (by decide), k_1 (by omega)]
      refine ok_jn1 (fun m3 => SameI m2 m3 ∧ (∀ a r, ¬ (a = 7 ∧ r = i) → row m3 a r = row m2 a r) ∧ (∀ u, (row m3 7 i).testBit u = true ↔ (row m 7 i).testBit u = true ∨ (u = N ∧ (row m 14 0).testBit i = true))) (fun m3 h3 => ?_) (fun j hj => ?_)
      · obtain ⟨s3, f3, b3⟩ := h3
        refine hw m3 ⟨(i0.tr s2).tr s3, fun a r h7 h8 => ?_, fun r hr => ?_, fun r hr => ?_, fun r hr => ?_⟩
        · rw [f3 a r (by omega), f2 a r (by omega)]; exact i1 a r h7 h8
        · rw [f3 7 r (by omega), f3 8 r (by omega), f2 7 r (by omega), f2 8 r (by omega)]; exact i2 r (by omega)
        · rcases (by omega : r < i ∨ r = i) with h | rfl
          · intro u; rw [f3 7 r (by omega), f2 7 r (by omega)]; exact i3 r h u
          · exact b3
        · rcases (by omega : r < i ∨ r = i) with h | rfl
          · intro u; rw [f3 8 r (by omega), f2 8 r (by omega)]; exact i4 r h u
          · intro u; rw [f3 8 r (by omega)]; exact b2 u
      · refine ok_ite (fun q => ?_) (fun q => ?_)
        · refine hj m2 ⟨SameI.rf _, fun _ _ _ => rfl, fun u => ?_⟩
          rw [f2 7 i (by omega), (i2 i (Nat.le_refl _)).1, d7, if_neg (by omega)]
          exact ⟨Or.inl, fun h => h.elim id (fun h => by rw [b2i_0.mp q] at h; cases h.2)⟩
        · have hb : (row m 14 0).testBit i = true := by
            cases e : (row m 14 0).testBit i
            · exact absurd (b2i_0.mpr e) q
            · rfl
          refine ok_cal (mark_ok (kL m2 (by decide)) (by omega) (by decide) hN) (fun _ m3 r3 => ?_)
          refine hj m3 ⟨r3.1, fun a r h => r3.ne h, fun u => ?_⟩
          rw [r3.at, or_bit, f2 7 i (by omega), (i2 i (Nat.le_refl _)).1, d7, if_neg (by omega)]
          exact ⟨fun h => h.imp id (fun h => ⟨h, hb⟩), fun h => h.imp id (fun h => h.1)⟩
    · refine ok_ite (fun q => ?_) (fun q => ?_)
      · refine hj m1 ⟨SameI.rf _, fun _ _ _ => rfl, fun u => ?_⟩
        rw [(i2 i (Nat.le_refl _)).2, d8, if_neg (by omega)]
        exact ⟨Or.inl, fun h => h.elim id (fun h => by rw [b2i_0.mp q] at h; cases h.2)⟩
      · have hb : (row m 13 0).testBit i = true := by
          cases e : (row m 13 0).testBit i
          · exact absurd (b2i_0.mpr e) q
          · rfl
        refine ok_cal (mark_ok (kL m1 (by decide)) (by omega) (by decide) hN) (fun _ m3 r3 => ?_)
        refine hj m3 ⟨r3.1, fun a r h => r3.ne h, fun u => ?_⟩
        rw [r3.at, or_bit, (i2 i (Nat.le_refl _)).2, d8, if_neg (by omega)]
        exact ⟨fun h => h.imp id (fun h => ⟨h, hb⟩), fun h => h.imp id (fun h => h.1)⟩
  · obtain ⟨i0, i1, i2, i3, i4⟩ := hI
    rw [if_neg (by omega)]
    refine ok_cal (mark_ok (kL m1 (by decide)) (by omega) (by decide) hN) (fun _ m2 r2 => ?_)
    refine ok_cal (mark_ok (kL m2 (by decide)) (by omega) (by decide) hN) (fun _ m3 r3 => ?_)
    rw [stI_ok (kI9 m3) hN, stI_ok (kI10 _) hN]
    have s3 : SameI m24 m3 := ((sI.tr i0).tr r2.1).tr r3.1
    have w1 : w32 (-1) = -1 := by decide
    generalize e4 : mSet (mSet m3 9 N (-1)) 10 N (-1) = m4
    have g4 : ∀ a i, mGet m4 a i = if a = 10 ∧ i = N then -1 else if a = 9 ∧ i = N then -1 else mGet m24 a i := by
      intro a i
      rw [← e4, mGet_mSet, mGet_mSet, w1, s3.1]
    have rr : ∀ a r, row m4 a r = row m3 a r := by intro a r; rw [← e4]; rfl
    refine ok_rt ⟨rfl, ⟨fun a i h1 h2 => ?_, ?_⟩, ?_, ?_, ?_, fun r => ?_, fun r => ?_, fun r hr u => ?_, fun r hr u => ?_, fun u => ?_, fun u => ?_, fun a r ha => ?_⟩
    · rw [g4, if_neg (fun h => h2 ⟨Or.inr h.1, h.2⟩), if_neg (fun h => h2 ⟨Or.inl h.1, h.2⟩), g24, if_neg h1]
    · rw [← e4]; exact s3.2.trans c24
    · rw [g4, if_neg (by omega), if_neg (by omega), g24, if_pos ⟨rfl, rfl⟩]
    · rw [g4, if_neg (by omega), if_pos ⟨rfl, rfl⟩]
    · rw [g4, if_pos ⟨rfl, rfl⟩]
    · rw [rr, r3.ne (by omega), r2.ne (by omega), i1 5 r (by decide) (by decide), d5]
    · rw [rr, r3.ne (by omega), r2.ne (by omega), i1 6 r (by decide) (by decide), d6]
    · rw [rr, r3.ne (by omega), r2.ne (by omega)]; exact i3 r hr u
    · rw [rr, r3.ne (by omega), r2.ne (by omega)]; exact i4 r hr u
    · rw [rr, r3.ne (by omega), r2.at, or_bit, (i2 N (Nat.le_refl _)).1, d7, if_pos rfl]
    · rw [rr, r3.at, or_bit, r2.ne (by omega), (i2 N (Nat.le_refl _)).2, d8, if_pos rfl]
    · rw [rr, r3.ne (by omega), r2.ne (by omega), i1 a r (by omega) (by omega), rd.ne (by omega), rc.ne (by omega), rb.ne (by omega), ra.ne (by omega), r24]

