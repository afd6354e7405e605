/-! THE YARD: its nodes as games -/
theorem ok_jn1 {j : Mem → Option Rz} {K : (Mem → Option Rz) → Option Rz} {Q : Int → Mem → Prop} (I : Mem → Prop) (hj : ∀ m, I m → Ok (j m) Q) (hk : ∀ f : Mem → Option Rz, (∀ m, I m → Ok (f m) Q) → Ok (K f) Q) : Ok (jn j K) Q := hk j hj
theorem ok_jn2 {j : Int → Mem → Option Rz} {K : (Int → Mem → Option Rz) → Option Rz} {Q : Int → Mem → Prop} (I : Int → Mem → Prop) (hj : ∀ v m, I v m → Ok (j v m) Q) (hk : ∀ f : Int → Mem → Option Rz, (∀ v m, I v m → Ok (f v m) Q) → Ok (K f) Q) : Ok (jn j K) Q := hk j hj
/-- a node's game, by the rows of options -/
def den (Lf Rt : Nat → Nat) (v : Nat) : Nat := mkg (((List.range v).filter (fun u => (Lf v).testBit u)).attach.map (fun u => den Lf Rt u.1)) (((List.range v).filter (fun u => (Rt v).testBit u)).attach.map (fun u => den Lf Rt u.1))
termination_by v
decreasing_by
  all_goals exact List.mem_range.mp (List.mem_filter.mp u.2).1
theorem op_denL (Lf Rt : Nat → Nat) (v x : Nat) : op (den Lf Rt v) 0 x = true ↔ ∃ u, u < v ∧ (Lf v).testBit u = true ∧ den Lf Rt u = x := by
  rw [den, op_mkgL, List.mem_map]
  constructor
  · rintro ⟨⟨u, hu⟩, -, rfl⟩
    obtain ⟨h1, h2⟩ := List.mem_filter.mp hu
    exact ⟨u, List.mem_range.mp h1, h2, rfl⟩
  · rintro ⟨u, h1, h2, rfl⟩
    exact ⟨⟨u, List.mem_filter.mpr ⟨List.mem_range.mpr h1, h2⟩⟩, List.mem_attach _ _, rfl⟩
theorem op_denR (Lf Rt : Nat → Nat) (v x : Nat) : op (den Lf Rt v) 1 x = true ↔ ∃ u, u < v ∧ (Rt v).testBit u = true ∧ den Lf Rt u = x := by
  rw [den, op_mkgR, List.mem_map]
  constructor
  · rintro ⟨⟨u, hu⟩, -, rfl⟩
    obtain ⟨h1, h2⟩ := List.mem_filter.mp hu
    exact ⟨u, List.mem_range.mp h1, h2, rfl⟩
  · rintro ⟨u, h1, h2, rfl⟩
    exact ⟨⟨u, List.mem_filter.mpr ⟨List.mem_range.mpr h1, h2⟩⟩, List.mem_attach _ _, rfl⟩
theorem den_congr {Lf Rt Lf' Rt' : Nat → Nat} : ∀ (v : Nat), (∀ u, u ≤ v → Lf' u = Lf u ∧ Rt' u = Rt u) → den Lf' Rt' v = den Lf Rt v := by
  intro v
  induction v using Nat.strongRecOn with
  | _ v ih =>
    intro h
    apply op_ext
    intro w hw x
    apply Bool.eq_iff_iff.mpr
    rcases (by omega : w = 0 ∨ w = 1) with rfl | rfl
    · rw [op_denL, op_denL, (h v (Nat.le_refl _)).1]
      constructor
      · rintro ⟨u, h1, h2, rfl⟩
        exact ⟨u, h1, h2, (ih u h1 (fun q hq => h q (by omega))).symm⟩
      · rintro ⟨u, h1, h2, rfl⟩
        exact ⟨u, h1, h2, ih u h1 (fun q hq => h q (by omega))⟩
    · rw [op_denR, op_denR, (h v (Nat.le_refl _)).2]
      constructor
      · rintro ⟨u, h1, h2, rfl⟩
        exact ⟨u, h1, h2, (ih u h1 (fun q hq => h q (by omega))).symm⟩
      · rintro ⟨u, h1, h2, rfl⟩
        exact ⟨u, h1, h2, ih u h1 (fun q hq => h q (by omega))⟩
def yden (m : Mem) (v : Nat) : Nat := den (row m 5) (row m 6) v
/-- the game of two sets of nodes -/
def yg (d : Nat → Nat) (N A B : Nat) : Nat := mkg (((List.range N).filter (fun u => A.testBit u)).map d) (((List.range N).filter (fun u => B.testBit u)).map d)
theorem op_ygL (d : Nat → Nat) (N A B x : Nat) : op (yg d N A B) 0 x = true ↔ ∃ u, u < N ∧ A.testBit u = true ∧ d u = x := by
  unfold yg
  rw [op_mkgL, List.mem_map]
  constructor
  · rintro ⟨u, hu, rfl⟩
    obtain ⟨h1, h2⟩ := List.mem_filter.mp hu
    exact ⟨u, List.mem_range.mp h1, h2, rfl⟩
  · rintro ⟨u, h1, h2, rfl⟩
    exact ⟨u, List.mem_filter.mpr ⟨List.mem_range.mpr h1, h2⟩, rfl⟩
theorem op_ygR (d : Nat → Nat) (N A B x : Nat) : op (yg d N A B) 1 x = true ↔ ∃ u, u < N ∧ B.testBit u = true ∧ d u = x := by
  unfold yg
  rw [op_mkgR, List.mem_map]
  constructor
  · rintro ⟨u, hu, rfl⟩
    obtain ⟨h1, h2⟩ := List.mem_filter.mp hu
    exact ⟨u, List.mem_range.mp h1, h2, rfl⟩
  · rintro ⟨u, h1, h2, rfl⟩
    exact ⟨u, List.mem_filter.mpr ⟨List.mem_range.mpr h1, h2⟩, rfl⟩
/-- what always holds of the yard with N nodes -/
def YInv (m : Mem) (N : Nat) : Prop := mGet m 4 13 = (N : Int) ∧ N ≤ 256 ∧ (∀ v, v < N → ∀ u, ((row m 5 v).testBit u = true ∨ (row m 6 v).testBit u = true) → u < v) ∧ (∀ v, v < N → ∀ u, (row m 7 v).testBit u = true ↔ u < N ∧ gle (yden m v) (yden m u)) ∧ (∀ v, v < N → ∀ u, (row m 8 v).testBit u = true ↔ u < N ∧ gle (yden m u) (yden m v)) ∧ (∀ v, v < N → can (yden m v)) ∧ ∀ u v, u < N → v < N → yden m u = yden m v → u = v
/-- only the first rows of some arrays change -/
def WFr (m m' : Mem) (S : Nat → Prop) : Prop := SameI m m' ∧ ∀ a r, ¬ (S a ∧ r = 0) → row m' a r = row m a r
theorem WFr.rf (m : Mem) (S : Nat → Prop) : WFr m m S := ⟨SameI.rf m, fun _ _ _ => rfl⟩
theorem WFr.tr {a b c : Mem} {S : Nat → Prop} (x : WFr a b S) (y : WFr b c S) : WFr a c S := ⟨x.1.tr y.1, fun i r h => (y.2 i r h).trans (x.2 i r h)⟩
theorem WFr.of {m m' : Mem} {a x : Nat} {S : Nat → Prop} (h : RowUp m m' a 0 x) (hs : S a) : WFr m m' S := ⟨h.1, fun i r hn => h.ne (fun q => hn ⟨q.1 ▸ hs, q.2⟩)⟩
theorem WFr.weak {m m' : Mem} {S T : Nat → Prop} (h : WFr m m' S) (hs : ∀ a, S a → T a) : WFr m m' T := ⟨h.1, fun a r hn => h.2 a r (fun q => hn ⟨hs a q.1, q.2⟩)⟩
theorem WFr.den {m m' : Mem} {S : Nat → Prop} (h : WFr m m' S) (h5 : ¬ S 5) (h6 : ¬ S 6) : yden m' = yden m := by
  funext v
  exact den_congr v (fun u _ => ⟨h.2 5 u (fun q => h5 q.1), h.2 6 u (fun q => h6 q.1)⟩)
theorem YInv.fr {m m' : Mem} {N : Nat} {S : Nat → Prop} (Y : YInv m N) (h : WFr m m' S) (hS : ∀ a, S a → 9 ≤ a) : YInv m' N := by
  obtain ⟨y1, y2, y3, y4, y5, y6, y7⟩ := Y
  have hd : yden m' = yden m := h.den (fun q => absurd (hS _ q) (by decide)) (fun q => absurd (hS _ q) (by decide))
  have e : ∀ a, a < 9 → ∀ r, row m' a r = row m a r := fun a ha r => h.2 a r (fun q => absurd (hS _ q.1) (by omega))
  refine ⟨by rw [h.1.1]; exact y1, y2, fun v hv u hu => y3 v hv u (by rw [e 5 (by decide), e 6 (by decide)] at hu; exact hu), fun v hv u => ?_, fun v hv u => ?_, fun v hv => by rw [hd]; exact y6 v hv, fun u v hu hv q => y7 u v hu hv (by rw [hd] at q; exact q)⟩
  · rw [e 7 (by decide), hd]; exact y4 v hv u
  · rw [e 8 (by decide), hd]; exact y5 v hv u
theorem k_of (m : Mem) {a : Nat} (h : a < 1000) : sKind m a = sTbl.getD a (0, 0) := if_pos h
theorem kL (m : Mem) {a : Nat} (h : 5 ≤ a ∧ a ≤ 8) : sKind m a = (2, 1024) := by
  rcases (by omega : a = 5 ∨ a = 6 ∨ a = 7 ∨ a = 8) with rfl | rfl | rfl | rfl <;> rfl
theorem kS (m : Mem) {a : Nat} (h : 11 ≤ a ∧ a ≤ 17) : sKind m a = (2, 4) := by
  rcases (by omega : a = 11 ∨ a = 12 ∨ a = 13 ∨ a = 14 ∨ a = 15 ∨ a = 16 ∨ a = 17) with rfl | rfl | rfl | rfl | rfl | rfl | rfl <;> rfl
theorem hasS {n a b : Nat} {m : Mem} (ha : 11 ≤ a ∧ a ≤ 17) (hb : b < 256) : f_X9_has n a 0 (b : Int) m = some (b2i ((row m a 0).testBit b), m) := has_eq (r := 0) (kS m ha) (by decide) (by decide) hb
theorem hasL {n a r b : Nat} {m : Mem} (ha : 5 ≤ a ∧ a ≤ 8) (hr : r < 256) (hb : b < 256) : f_X9_has n a (r : Int) (b : Int) m = some (b2i ((row m a r).testBit b), m) := has_eq (kL m ha) (by omega) (by decide) hb
theorem markS {n a b : Nat} {m : Mem} (ha : 11 ≤ a ∧ a ≤ 17) (hb : b < 256) : Ok (f_X9_mark n a 0 (b : Int) m) (fun _ m' => RowUp m m' a 0 (row m a 0 ||| 2 ^ b)) := mark_ok (r := 0) (kS m ha) (by decide) (by decide) hb
theorem or_bit (x b c : Nat) : (x ||| 2 ^ b).testBit c = true ↔ x.testBit c = true ∨ c = b := by
  rw [Nat.testBit_or, tb_pow, Bool.or_eq_true, decide_eq_true_iff]
  exact ⟨fun h => h.imp id Eq.symm, fun h => h.imp id Eq.symm⟩
theorem and_ne0 (x y : Nat) : x &&& y ≠ 0 ↔ ∃ c, x.testBit c = true ∧ y.testBit c = true := by
  constructor
  · intro h
    apply Classical.byContradiction
    intro hn
    apply h
    apply Nat.eq_of_testBit_eq
    intro c
    rw [Nat.testBit_and, Nat.zero_testBit]
    cases h1 : x.testBit c <;> cases h2 : y.testBit c <;> first | rfl | exact absurd ⟨c, h1, h2⟩ hn
  · rintro ⟨c, h1, h2⟩ h0
    have : (x &&& y).testBit c = true := by rw [Nat.testBit_and, h1, h2]; rfl
    rw [h0, Nat.zero_testBit] at this
    cases this
theorem meetsL {n a r s : Nat} {m : Mem} (hn : 4 < n) (ha : 5 ≤ a ∧ a ≤ 8) (hr : r < 256) (hs : 11 ≤ s ∧ s ≤ 17) : ∃ b, f_X9_meets n a (r : Int) s m = some (b2i b, m) ∧ (b = true ↔ ∃ c, (row m a r).testBit c = true ∧ (row m s 0).testBit c = true) := by
  refine ⟨decide (row m a r &&& row m s 0 ≠ 0), meets_eq hn (kS m hs) (by decide) (by decide) (kL m ha) (by omega) (by decide), ?_⟩
  rw [decide_eq_true_iff, and_ne0]
abbrev S16 (a : Nat) : Prop := 13 ≤ a ∧ a ≤ 16
set_option maxHeartbeats 1000000 in
theorem compareAll_ok {n N A B : Nat} {m : Mem} (hn : 300 < n) (Y : YInv m N) (hA : row m 11 0 = A) (hB : row m 12 0 = B) (hA2 : ∀ u, A.testBit u = true → u < N) (hB2 : ∀ u, B.testBit u = true → u < N) : Ok (f_X9_compareAll n m) (fun v m' => WFr m m' S16 ∧ ((∃ u, u < N ∧ v = (u : Int) ∧ geq (yden m u) (yg (yden m) N A B)) ∨ (v = -1 ∧ (∀ u, u < N → ¬ geq (yden m u) (yg (yden m) N A B)) ∧ (∀ u, (row m' 13 0).testBit u = true ↔ u < N ∧ gle (yg (yden m) N A B) (yden m u)) ∧ ∀ u, (row m' 14 0).testBit u = true ↔ u < N ∧ gle (yden m u) (yg (yden m) N A B)))) := by
  obtain ⟨y1, y2, y3, y4, y5, y6, y7⟩ := id Y
  unfold f_X9_compareAll
  refine ok_cal (fill0_ok (by omega) (kS m (by decide))) (fun _ ma ra => ?_)
  refine ok_cal (fill0_ok (by omega) (kS ma (by decide))) (fun _ mb rb => ?_)
  refine ok_cal (fill0_ok (by omega) (kS mb (by decide))) (fun _ mc rc => ?_)
  refine ok_cal (fill0_ok (by omega) (kS mc (by decide))) (fun _ md rd => ?_)
  have f0 : WFr m md S16 := (((WFr.of ra (S := S16) (by decide)).tr (WFr.of rb (by decide))).tr (WFr.of rc (by decide))).tr (WFr.of rd (by decide))
  have z13 : row md 13 0 = 0 := by rw [rd.ne (by decide), rc.ne (by decide), rb.ne (by decide), ra.at]
  have z14 : row md 14 0 = 0 := by rw [rd.ne (by decide), rc.ne (by decide), rb.at]
  have z15 : row md 15 0 = 0 := by rw [rd.ne (by decide), rc.at]
  have z16 : row md 16 0 = 0 := by rw [rd.at]
  -- the first loop
  refine ok_up1 N (fun i m1 => WFr m m1 S16 ∧ row m1 13 0 = 0 ∧ row m1 14 0 = 0 ∧ (∀ u, (row m1 15 0).testBit u = true ↔ ∃ l, l < i ∧ A.testBit l = true ∧ (row m 8 l).testBit u = true) ∧ ∀ u, (row m1 16 0).testBit u = true ↔ ∃ l, l < i ∧ B.testBit l = true ∧ (row m 7 l).testBit u = true) (fun w i m1 hi hI hw => ?_) (fun w m1 hI => ?_) n 0 md (Nat.zero_le _) ⟨f0, z13, z14, fun u => by
      rw [z15, Nat.zero_testBit]
      exact ⟨(fun h => by cases h), fun ⟨l, h, _⟩ => absurd h (Nat.not_lt_zero _)⟩, fun u => by
      rw [z16, Nat.zero_testBit]
      exact ⟨(fun h => by cases h), fun ⟨l, h, _⟩ => absurd h (Nat.not_lt_zero _)⟩⟩ (by omega)
  · obtain ⟨f1, h13, h14, h15, h16⟩ := hI
    dsimp only [gtF]
    rw [f1.1.1, y1, if_pos (by omega)]
    refine ok_calE (hasS (by decide) (by omega)) ?_
    rw [f1.2 11 0 (by unfold S16; omega), hA]
    refine ok_jn1 (fun m2 => WFr m m2 S16 ∧ row m2 13 0 = 0 ∧ row m2 14 0 = 0 ∧ (∀ u, (row m2 15 0).testBit u = true ↔ ∃ l, l < i + 1 ∧ A.testBit l = true ∧ (row m 8 l).testBit u = true) ∧ ∀ u, (row m2 16 0).testBit u = true ↔ ∃ l, l < i ∧ B.testBit l = true ∧ (row m 7 l).testBit u = true) (fun m2 hI2 => ?_) (fun j hj => ?_)
    · obtain ⟨g1, g13, g14, g15, g16⟩ := hI2
      refine ok_calE (hasS (by decide) (by omega)) ?_
      rw [g1.2 12 0 (by unfold S16; omega), hB, k_1 (by omega)]
      refine ok_jn1 (fun m3 => WFr m m3 S16 ∧ row m3 13 0 = 0 ∧ row m3 14 0 = 0 ∧ (∀ u, (row m3 15 0).testBit u = true ↔ ∃ l, l < i + 1 ∧ A.testBit l = true ∧ (row m 8 l).testBit u = true) ∧ ∀ u, (row m3 16 0).testBit u = true ↔ ∃ l, l < i + 1 ∧ B.testBit l = true ∧ (row m 7 l).testBit u = true) (fun m3 hI3 => hw m3 hI3) (fun j2 hj2 => ?_)
      refine ok_ite (fun q => ?_) (fun q => ?_)
      · have hb := b2i_0.mp q
        refine hj2 _ ⟨g1, g13, g14, g15, fun u => ?_⟩
        rw [g16]
        constructor
        · rintro ⟨l, h1, h2⟩; exact ⟨l, by omega, h2⟩
        · rintro ⟨l, h1, h2, h3⟩
          refine ⟨l, ?_, h2, h3⟩
          rcases (by omega : l < i ∨ l = i) with h4 | rfl
          · exact h4
          · rw [hb] at h2; cases h2
      · have hb : B.testBit i = true := by
          cases e : B.testBit i
          · exact absurd (b2i_0.mpr e) q
          · rfl
        refine ok_cal (join_ok (by omega) (by decide) (kS _ (by decide)) (by decide) (by decide) (kL _ (by decide)) (by omega) (by decide)) (fun _ m3 r3 => ?_)
        refine hj2 m3 ⟨g1.tr (WFr.of r3 (by decide)), by rw [r3.ne (by decide)]; exact g13, by rw [r3.ne (by decide)]; exact g14, fun u => by rw [r3.ne (by decide)]; exact g15 u, fun u => ?_⟩
        rw [r3.at, Nat.testBit_or, Bool.or_eq_true, g16, g1.2 7 i (by unfold S16; omega)]
        constructor
        · rintro (⟨l, h1, h2⟩ | h1)
          · exact ⟨l, by omega, h2⟩
          · exact ⟨i, by omega, hb, h1⟩
        · rintro ⟨l, h1, h2, h3⟩
          rcases (by omega : l < i ∨ l = i) with h4 | rfl
          · exact Or.inl ⟨l, h4, h2, h3⟩
          · exact Or.inr h3
    · refine ok_ite (fun q => ?_) (fun q => ?_)
      · have hb := b2i_0.mp q
        refine hj _ ⟨f1, h13, h14, fun u => ?_, h16⟩
        rw [h15]
        constructor
        · rintro ⟨l, h1, h2⟩; exact ⟨l, by omega, h2⟩
        · rintro ⟨l, h1, h2, h3⟩
          refine ⟨l, ?_, h2, h3⟩
          rcases (by omega : l < i ∨ l = i) with h4 | rfl
          · exact h4
          · rw [hb] at h2; cases h2
      · have hb : A.testBit i = true := by
          cases e : A.testBit i
          · exact absurd (b2i_0.mpr e) q
          · rfl
        refine ok_cal (join_ok (by omega) (by decide) (kS _ (by decide)) (by decide) (by decide) (kL _ (by decide)) (by omega) (by decide)) (fun _ m3 r3 => ?_)
        refine hj m3 ⟨f1.tr (WFr.of r3 (by decide)), by rw [r3.ne (by decide)]; exact h13, by rw [r3.ne (by decide)]; exact h14, fun u => ?_, fun u => by rw [r3.ne (by decide)]; exact h16 u⟩
        rw [r3.at, Nat.testBit_or, Bool.or_eq_true, h15, f1.2 8 i (by unfold S16; omega)]
        constructor
        · rintro (⟨l, h1, h2⟩ | h1)
          · exact ⟨l, by omega, h2⟩
          · exact ⟨i, by omega, hb, h1⟩
        · rintro ⟨l, h1, h2, h3⟩
          rcases (by omega : l < i ∨ l = i) with h4 | rfl
          · exact Or.inl ⟨l, h4, h2, h3⟩
          · exact Or.inr h3
  · obtain ⟨f1, h13, h14, h15, h16⟩ := hI
    dsimp only [gtF]
    rw [f1.1.1, y1, if_neg (by omega)]
    generalize hG : yg (yden m) N A B = G
    generalize hd : yden m = d at *
    have u15 : ∀ i, i < N → ((row m1 15 0).testBit i = true ↔ ∃ x, op G 0 x = true ∧ gle (d i) x) := by
      intro i hi
      rw [h15]
      constructor
      · rintro ⟨l, h1, h2, h3⟩
        exact ⟨d l, by rw [← hG, op_ygL]; exact ⟨l, h1, h2, rfl⟩, ((y5 l h1 i).mp h3).2⟩
      · rintro ⟨x, hx, hx2⟩
        rw [← hG, op_ygL] at hx
        obtain ⟨l, h1, h2, rfl⟩ := hx
        exact ⟨l, h1, h2, (y5 l h1 i).mpr ⟨hi, hx2⟩⟩
    have u16 : ∀ i, i < N → ((row m1 16 0).testBit i = true ↔ ∃ x, op G 1 x = true ∧ gle x (d i)) := by
      intro i hi
      rw [h16]
      constructor
      · rintro ⟨l, h1, h2, h3⟩
        exact ⟨d l, by rw [← hG, op_ygR]; exact ⟨l, h1, h2, rfl⟩, ((y4 l h1 i).mp h3).2⟩
      · rintro ⟨x, hx, hx2⟩
        rw [← hG, op_ygR] at hx
        obtain ⟨l, h1, h2, rfl⟩ := hx
        exact ⟨l, h1, h2, (y4 l h1 i).mpr ⟨hi, hx2⟩⟩
    have oL : ∀ i x, op (d i) 0 x = true ↔ ∃ u, u < i ∧ (row m 5 i).testBit u = true ∧ d u = x := by
      intro i x; rw [← hd]; exact op_denL _ _ i x
    have oR : ∀ i x, op (d i) 1 x = true ↔ ∃ u, u < i ∧ (row m 6 i).testBit u = true ∧ d u = x := by
      intro i x; rw [← hd]; exact op_denR _ _ i x
    refine ok_up1 N (fun i m2 => WFr m m2 S16 ∧ row m2 15 0 = row m1 15 0 ∧ row m2 16 0 = row m1 16 0 ∧ (∀ u, (row m2 13 0).testBit u = true ↔ u < i ∧ gle G (d u)) ∧ (∀ u, (row m2 14 0).testBit u = true ↔ u < i ∧ gle (d u) G) ∧ ∀ u, u < i → ¬ geq (d u) G) (fun w2 i m2 hi hI hw2 => ?_) (fun w2 m2 hI => ?_) n 0 m1 (Nat.zero_le _) ⟨f1, rfl, rfl, fun u => by rw [h13, Nat.zero_testBit]; exact ⟨(fun h => by cases h), fun h => absurd h.1 (Nat.not_lt_zero _)⟩, fun u => by rw [h14, Nat.zero_testBit]; exact ⟨(fun h => by cases h), fun h => absurd h.1 (Nat.not_lt_zero _)⟩, fun u h => absurd h (Nat.not_lt_zero _)⟩ (by omega)
    · obtain ⟨g1, g15, g16, g13, g14, gne⟩ := hI
      rw [g1.1.1, y1, if_pos (by omega)]
      have i256 : i < 256 := by omega
      have above : gle G (d i) ↔ (row m1 15 0).testBit i = false ∧ ¬ ∃ c, (row m 6 i).testBit c = true ∧ (row m2 14 0).testBit c = true := by
        rw [gle_def]
        constructor
        · rintro ⟨h1, h2⟩
          refine ⟨?_, ?_⟩
          · cases e : (row m1 15 0).testBit i
            · rfl
            · obtain ⟨x, hx, hx2⟩ := (u15 i hi).mp e
              exact absurd hx2 (h1 x hx)
          · rintro ⟨c, hc1, hc2⟩
            have hci := y3 i hi c (Or.inr hc1)
            exact h2 (d c) ((oR i (d c)).mpr ⟨c, hci, hc1, rfl⟩) ((g14 c).mp hc2).2
        · rintro ⟨h1, h2⟩
          refine ⟨fun x hx hx2 => ?_, fun y hy hy2 => ?_⟩
          · rw [(u15 i hi).mpr ⟨x, hx, hx2⟩] at h1; cases h1
          · obtain ⟨c, hc1, hc2, rfl⟩ := (oR i y).mp hy
            exact h2 ⟨c, hc2, (g14 c).mpr ⟨hc1, hy2⟩⟩
      have below : gle (d i) G ↔ (row m1 16 0).testBit i = false ∧ ¬ ∃ c, (row m 5 i).testBit c = true ∧ (row m2 13 0).testBit c = true := by
        rw [gle_def]
        constructor
        · rintro ⟨h1, h2⟩
          refine ⟨?_, ?_⟩
          · cases e : (row m1 16 0).testBit i
            · rfl
            · obtain ⟨x, hx, hx2⟩ := (u16 i hi).mp e
              exact absurd hx2 (h2 x hx)
          · rintro ⟨c, hc1, hc2⟩
            have hci := y3 i hi c (Or.inl hc1)
            exact h1 (d c) ((oL i (d c)).mpr ⟨c, hci, hc1, rfl⟩) ((g13 c).mp hc2).2
        · rintro ⟨h1, h2⟩
          refine ⟨fun x hx hx2 => ?_, fun y hy hy2 => ?_⟩
          · obtain ⟨c, hc1, hc2, rfl⟩ := (oL i x).mp hx
            exact h2 ⟨c, hc2, (g13 c).mpr ⟨hc1, hx2⟩⟩
          · rw [(u16 i hi).mpr ⟨y, hy, hy2⟩] at h1; cases h1
      refine ok_calE (hasS (by decide) i256) ?_
      rw [g15]
      refine ok_jn2 (fun s m3 => m3 = m2 ∧ (s = 0 ∨ s = 1) ∧ (s = 1 ↔ gle G (d i))) (fun s1 m3 hs1 => ?_) (fun j hj => ?_)
      · obtain ⟨rfl, s01, sG⟩ := hs1
        refine ok_calE (hasS (by decide) i256) ?_
        rw [g16]
        refine ok_jn2 (fun s m4 => m4 = m3 ∧ (s = 0 ∨ s = 1) ∧ (s = 1 ↔ gle (d i) G)) (fun s2 m4 hs2 => ?_) (fun j hj => ?_)
        · obtain ⟨rfl, t01, tG⟩ := hs2
          dsimp only [jn]
          have next : ∀ m5, WFr m4 m5 S16 → row m5 15 0 = row m4 15 0 → row m5 16 0 = row m4 16 0 → (∀ u, (row m5 13 0).testBit u = true ↔ (row m4 13 0).testBit u = true ∨ (u = i ∧ gle G (d i))) → (∀ u, (row m5 14 0).testBit u = true ↔ (row m4 14 0).testBit u = true ∨ (u = i ∧ gle (d i) G)) → ¬ geq (d i) G → (WFr m m5 S16 ∧ row m5 15 0 = row m1 15 0 ∧ row m5 16 0 = row m1 16 0 ∧ (∀ u, (row m5 13 0).testBit u = true ↔ u < i + 1 ∧ gle G (d u)) ∧ (∀ u, (row m5 14 0).testBit u = true ↔ u < i + 1 ∧ gle (d u) G) ∧ ∀ u, u < i + 1 → ¬ geq (d u) G) := by
            intro m5 q1 q2 q3 q4 q5 q6
            refine ⟨g1.tr q1, q2.trans g15, q3.trans g16, fun u => ?_, fun u => ?_, fun u hu => ?_⟩
            · rw [q4, g13]
              constructor
              · rintro (⟨h1, h2⟩ | ⟨rfl, h2⟩)
                · exact ⟨by omega, h2⟩
                · exact ⟨by omega, h2⟩
              · rintro ⟨h1, h2⟩
                rcases (by omega : u < i ∨ u = i) with h3 | rfl
                · exact Or.inl ⟨h3, h2⟩
                · exact Or.inr ⟨rfl, h2⟩
            · rw [q5, g14]
              constructor
              · rintro (⟨h1, h2⟩ | ⟨rfl, h2⟩)
                · exact ⟨by omega, h2⟩
                · exact ⟨by omega, h2⟩
              · rintro ⟨h1, h2⟩
                rcases (by omega : u < i ∨ u = i) with h3 | rfl
                · exact Or.inl ⟨h3, h2⟩
                · exact Or.inr ⟨rfl, h2⟩
            · rcases (by omega : u < i ∨ u = i) with h3 | rfl
              · exact gne u h3
              · exact q6
          rw [k_1 (by omega)]
          rcases s01 with rfl | rfl <;> rcases t01 with rfl | rfl
          · have n1 : ¬ gle G (d i) := fun h => by have := sG.mpr h; omega
            have n2 : ¬ gle (d i) G := fun h => by have := tG.mpr h; omega
            rw [if_pos rfl, if_pos rfl, if_pos rfl]
            exact hw2 _ (next m4 (WFr.rf _ _) rfl rfl (fun u => ⟨Or.inl, fun h => h.elim id (fun h => absurd h.2 n1)⟩) (fun u => ⟨Or.inl, fun h => h.elim id (fun h => absurd h.2 n2)⟩) (fun h => n1 h.2))
          · have n1 : ¬ gle G (d i) := fun h => by have := sG.mpr h; omega
            have n2 : gle (d i) G := tG.mp rfl
            rw [if_pos rfl, if_pos rfl, if_neg (by decide)]
            refine ok_cal (markS (by decide) i256) (fun _ m5 r5 => ?_)
            refine hw2 _ (next m5 (WFr.of r5 (by decide)) (r5.ne (by decide)) (r5.ne (by decide)) (fun u => ?_) (fun u => ?_) (fun h => n1 h.2))
            · rw [r5.ne (by decide)]; exact ⟨Or.inl, fun h => h.elim id (fun h => absurd h.2 n1)⟩
            · rw [r5.at, or_bit]; exact ⟨fun h => h.imp id (fun h => ⟨h, n2⟩), fun h => h.imp id (fun h => h.1)⟩
          · have n1 : gle G (d i) := sG.mp rfl
            have n2 : ¬ gle (d i) G := fun h => by have := tG.mpr h; omega
            rw [if_neg (by decide), if_pos rfl, if_neg (by decide)]
            refine ok_cal (markS (by decide) i256) (fun _ m5 r5 => ?_)
            rw [if_pos rfl]
            refine hw2 _ (next m5 (WFr.of r5 (by decide)) (r5.ne (by decide)) (r5.ne (by decide)) (fun u => ?_) (fun u => ?_) (fun h => n2 h.1))
            · rw [r5.at, or_bit]; exact ⟨fun h => h.imp id (fun h => ⟨h, n1⟩), fun h => h.imp id (fun h => h.1)⟩
            · rw [r5.ne (by decide)]; exact ⟨Or.inl, fun h => h.elim id (fun h => absurd h.2 n2)⟩
          · have n1 : gle G (d i) := sG.mp rfl
            have n2 : gle (d i) G := tG.mp rfl
            rw [if_neg (by decide), if_neg (by decide)]
            exact ok_rt ⟨g1, Or.inl ⟨i, hi, rfl, n2, n1⟩⟩
        · dsimp only [jn]
          refine ok_ite (fun q => ?_) (fun q => ?_)
          · have hb := b2i_0.mp q
            obtain ⟨b, hb1, hb2⟩ := meetsL (n := n) (a := 5) (r := i) (s := 13) (m := m3) (by omega) (by decide) i256 (by decide)
            refine ok_calE hb1 ?_
            rw [g1.2 5 i (by unfold S16; omega)] at hb2
            refine ok_ite (fun q2 => ?_) (fun q2 => ?_)
            · have hbf := b2i_0.mp q2
              refine hj 1 m3 ⟨rfl, Or.inr rfl, ⟨fun _ => below.mpr ⟨hb, fun hc => by rw [hb2.mpr hc] at hbf; cases hbf⟩, fun _ => rfl⟩⟩
            · refine hj 0 m3 ⟨rfl, Or.inl rfl, ⟨fun h => absurd h (by decide), fun h => absurd (hb2.mp (by cases b; exact absurd rfl q2; rfl)) (below.mp h).2⟩⟩
          · refine hj 0 m3 ⟨rfl, Or.inl rfl, ⟨fun h => absurd h (by decide), fun h => absurd (b2i_0.mpr (below.mp h).1) q⟩⟩
      · dsimp only [jn]
        refine ok_ite (fun q => ?_) (fun q => ?_)
        · have hb := b2i_0.mp q
          obtain ⟨b, hb1, hb2⟩ := meetsL (n := n) (a := 6) (r := i) (s := 14) (m := m2) (by omega) (by decide) i256 (by decide)
          refine ok_calE hb1 ?_
          rw [g1.2 6 i (by unfold S16; omega)] at hb2
          refine ok_ite (fun q2 => ?_) (fun q2 => ?_)
          · have hbf := b2i_0.mp q2
            refine hj 1 m2 ⟨rfl, Or.inr rfl, ⟨fun _ => above.mpr ⟨hb, fun hc => by rw [hb2.mpr hc] at hbf; cases hbf⟩, fun _ => rfl⟩⟩
          · refine hj 0 m2 ⟨rfl, Or.inl rfl, ⟨fun h => absurd h (by decide), fun h => absurd (hb2.mp (by cases b; exact absurd rfl q2; rfl)) (above.mp h).2⟩⟩
        · refine hj 0 m2 ⟨rfl, Or.inl rfl, ⟨fun h => absurd h (by decide), fun h => absurd (b2i_0.mpr (above.mp h).1) q⟩⟩
    · obtain ⟨g1, g15, g16, g13, g14, gne⟩ := hI
      rw [g1.1.1, y1, if_neg (by omega)]
      exact ok_rt ⟨g1, Or.inr ⟨rfl, gne, g13, g14⟩⟩

