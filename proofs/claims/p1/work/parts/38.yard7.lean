/-! THE YARD: sums with 1 and with -1 -/
def shg (a : Nat) : Nat := if a = 9 then 1 else 2
/-- what the row of known sums tells -/
theorem RS.at {m : Mem} {N u a : Nat} (R : RS m N) (ha : a = 9 ∨ a = 10) (hu : u < N) : mGet m a u = -1 ∨ ∃ w, w < N ∧ mGet m a u = (w : Int) ∧ geq (yden m w) (gadd (yden m u) (shg a)) := by
  rcases ha with rfl | rfl
  · exact (R u hu).1
  · exact (R u hu).2
theorem kI9or {m : Mem} {a : Nat} (ha : a = 9 ∨ a = 10) : sKind m a = (1, 256) := by
  rcases ha with rfl | rfl <;> rfl
/-- a sum becomes known -/
theorem YI.put {m : Mem} {N u w a : Nat} (Y : YI m N) (ha : a = 9 ∨ a = 10) (hw : w < N) (he : geq (yden m w) (gadd (yden m u) (shg a))) : YI (mSet m a u (w : Int)) N ∧ yden (mSet m a u (w : Int)) = yden m := by
  have h256 := Y.1.2.1
  have hd : yden (mSet m a u (w : Int)) = yden m := rfl
  have g : ∀ b i, mGet (mSet m a u (w : Int)) b i = if b = a ∧ i = u then (w : Int) else mGet m b i := by
    intro b i; rw [mGet_mSet, w32_nat (by omega)]
  obtain ⟨⟨y1, y2, y3, y4, y5, y6, y7⟩, R⟩ := Y
  refine ⟨⟨⟨by rw [g, if_neg (by omega)]; exact y1, y2, y3, y4, y5, y6, y7⟩, fun v hv => ?_⟩, hd⟩
  rw [g, g]
  obtain ⟨r1, r2⟩ := R v hv
  refine ⟨?_, ?_⟩
  · by_cases q : 9 = a ∧ v = u
    · rw [if_pos q]
      refine Or.inr ⟨w, hw, rfl, ?_⟩
      rw [q.2]
      have e : shg a = 1 := by rw [← q.1]; rfl
      rw [← e]; exact he
    · rw [if_neg q]; exact r1
  · by_cases q : 10 = a ∧ v = u
    · rw [if_pos q]
      refine Or.inr ⟨w, hw, rfl, ?_⟩
      rw [q.2]
      have e : shg a = 2 := by rw [← q.1]; rfl
      rw [← e]; exact he
    · rw [if_neg q]; exact r2
/-- the options that a sum with 1 has, so far told: those of the first i -/
def ShL (m : Mem) (a f i : Nat) (g : Nat) : Prop := (a = 9 ∧ g = yden m f) ∨ ∃ o w : Nat, o < i ∧ op (yden m f) 0 (yden m o) = true ∧ mGet m a o = (w : Int) ∧ g = yden m w
def ShR (m : Mem) (a f i : Nat) (g : Nat) : Prop := (a = 10 ∧ g = yden m f) ∨ ∃ o w : Nat, o < i ∧ op (yden m f) 1 (yden m o) = true ∧ mGet m a o = (w : Int) ∧ g = yden m w
theorem sh_fits {m : Mem} {N a f : Nat} (Y : YI m N) (ha : a = 9 ∨ a = 10) (hf : f < N) (hk : ∀ o, o < f → (op (yden m f) 0 (yden m o) = true ∨ op (yden m f) 1 (yden m o) = true) → ∃ w, w < N ∧ mGet m a o = (w : Int) ∧ geq (yden m w) (gadd (yden m o) (shg a))) : Fits (ShL m a f f) (ShR m a f f) (gadd (yden m f) (shg a)) := by
  have one0 : ∀ y, op (shg a) 0 y = true ↔ a = 9 ∧ y = 0 := by
    intro y
    rcases ha with rfl | rfl
    · show op 1 0 y = true ↔ _
      rw [op_1L]; exact ⟨fun h => ⟨rfl, h⟩, fun h => h.2⟩
    · show op 2 0 y = true ↔ _
      rw [op_2L]; exact ⟨fun h => by (cases h), fun h => absurd h.1 (by decide)⟩
  have one1 : ∀ y, op (shg a) 1 y = true ↔ a = 10 ∧ y = 0 := by
    intro y
    rcases ha with rfl | rfl
    · show op 1 1 y = true ↔ _
      rw [op_1R]; exact ⟨fun h => by (cases h), fun h => absurd h.1 (by decide)⟩
    · show op 2 1 y = true ↔ _
      rw [op_2R]; exact ⟨fun h => ⟨rfl, h⟩, fun h => h.2⟩
  refine ⟨fun x hx => ?_, fun y hy => ?_, fun x hx => ?_, fun y hy => ?_⟩
  · rcases (op_gadd (by decide)).mp hx with ⟨z, h1, rfl⟩ | ⟨z, h1, rfl⟩
    · obtain ⟨o, h2, h3, rfl⟩ := (Y.1.opL hf z).mp h1
      have hof := Y.1.2.2.1 f hf o (Or.inl h3)
      obtain ⟨w, w1, w2, w3⟩ := hk o hof (Or.inl h1)
      exact ⟨yden m w, Or.inr ⟨o, w, hof, h1, w2, rfl⟩, w3⟩
    · obtain ⟨e1, rfl⟩ := (one0 z).mp h1
      exact ⟨yden m f, Or.inl ⟨e1, rfl⟩, by rw [gadd_0]; exact geq_rfl _⟩
  · rcases hy with ⟨e1, rfl⟩ | ⟨o, w, h1, h2, h3, rfl⟩
    · exact ⟨gadd (yden m f) 0, (op_gadd (by decide)).mpr (Or.inr ⟨0, (one0 0).mpr ⟨e1, rfl⟩, rfl⟩), by rw [gadd_0]; exact geq_rfl _⟩
    · obtain ⟨w', w1, w2, w3⟩ := hk o h1 (Or.inl h2)
      have e : w = w' := by rw [h3] at w2; omega
      subst e
      exact ⟨gadd (yden m o) (shg a), (op_gadd (by decide)).mpr (Or.inl ⟨yden m o, h2, rfl⟩), w3⟩
  · rcases (op_gadd (by decide)).mp hx with ⟨z, h1, rfl⟩ | ⟨z, h1, rfl⟩
    · obtain ⟨o, h2, h3, rfl⟩ := (Y.1.opR hf z).mp h1
      have hof := Y.1.2.2.1 f hf o (Or.inr h3)
      obtain ⟨w, w1, w2, w3⟩ := hk o hof (Or.inr h1)
      exact ⟨yden m w, Or.inr ⟨o, w, hof, h1, w2, rfl⟩, w3⟩
    · obtain ⟨e1, rfl⟩ := (one1 z).mp h1
      exact ⟨yden m f, Or.inl ⟨e1, rfl⟩, by rw [gadd_0]; exact geq_rfl _⟩
  · rcases hy with ⟨e1, rfl⟩ | ⟨o, w, h1, h2, h3, rfl⟩
    · exact ⟨gadd (yden m f) 0, (op_gadd (by decide)).mpr (Or.inr ⟨0, (one1 0).mpr ⟨e1, rfl⟩, rfl⟩), by rw [gadd_0]; exact geq_rfl _⟩
    · obtain ⟨w', w1, w2, w3⟩ := hk o h1 (Or.inr h2)
      have e : w = w' := by rw [h3] at w2; omega
      subst e
      exact ⟨gadd (yden m o) (shg a), (op_gadd (by decide)).mpr (Or.inl ⟨yden m o, h2, rfl⟩), w3⟩
/-- a bit set on a row of a begun game -/
theorem mark_at {n N f a : Nat} {m : Mem} (hf : f < N) (G : YG m N (fun _ => False) (fun _ => False)) (ha : a = 9 ∨ a = 10) : Ok (f_X9_mark n (a + 2) 0 (f : Int) m) (fun _ m' => YG m' N (fun g => a = 9 ∧ g = yden m f) (fun g => a = 10 ∧ g = yden m f) ∧ YF m m' N N) := by
  have h256 := G.1.1.2.1
  refine ok_mono (markS (by omega) (by omega)) (fun _ m2 r2 => ?_)
  obtain ⟨h1, h2⟩ := mark_YG (m' := m2) (a := a + 2) G hf (by omega) (fun b r => r2.2 b r) (fun b i => by
    rw [r2.1.1]
    by_cases e : b = 4 ∧ i = 14
    · rw [if_pos e, e.1, e.2]; exact G.2.1
    · rw [if_neg e]) r2.1.2
  refine ⟨h1.iff (fun g => ?_) (fun g => ?_), h2⟩
  · exact ⟨fun h => Or.inr ⟨by omega, h.2⟩, fun h => h.elim False.elim (fun h => ⟨by omega, h.2⟩)⟩
  · exact ⟨fun h => Or.inr ⟨by omega, h.2⟩, fun h => h.elim False.elim (fun h => ⟨by omega, h.2⟩)⟩
/-- the frame of all that the yard does -/
def YD (m m' : Mem) (N N' : Nat) : Prop := (∀ a i, a ≠ 4 → a ≠ 9 → a ≠ 10 → mGet m' a i = mGet m a i) ∧ m'.2.2 = m.2.2 ∧ (∀ x, x < N → yden m' x = yden m x) ∧ N ≤ N'
theorem YD.rf (m : Mem) (N : Nat) : YD m m N N := ⟨fun _ _ _ _ _ => rfl, rfl, fun _ _ => rfl, Nat.le_refl _⟩
theorem YD.tr {a b c : Mem} {N M L : Nat} (h1 : YD a b N M) (h2 : YD b c M L) : YD a c N L := ⟨fun i j h3 h4 h5 => (h2.1 i j h3 h4 h5).trans (h1.1 i j h3 h4 h5), h2.2.1.trans h1.2.1, fun x hx => (h2.2.2.1 x (Nat.lt_of_lt_of_le hx h1.2.2.2)).trans (h1.2.2.1 x hx), Nat.le_trans h1.2.2.2 h2.2.2.2⟩
theorem YE.d {m m' : Mem} {N N' : Nat} (h : YE m m' N N') : YD m m' N N' := ⟨fun a i h1 h2 h3 => h.1 a i h1 (fun q => absurd q (by omega)), h.2.1, h.2.2.1, h.2.2.2⟩
theorem YF.d {m m' : Mem} {N N' : Nat} (h : YF m m' N N') : YD m m' N N' := h.e.d
theorem ShL_0 {m : Mem} {a f : Nat} (g : Nat) : ShL m a f 0 g ↔ a = 9 ∧ g = yden m f := ⟨fun h => h.elim id (fun ⟨_, _, h, _⟩ => absurd h (Nat.not_lt_zero _)), Or.inl⟩
theorem ShR_0 {m : Mem} {a f : Nat} (g : Nat) : ShR m a f 0 g ↔ a = 10 ∧ g = yden m f := ⟨fun h => h.elim id (fun ⟨_, _, h, _⟩ => absurd h (Nat.not_lt_zero _)), Or.inl⟩
theorem ShL_succ {m : Mem} {a f i : Nat} (h : op (yden m f) 0 (yden m i) = false) (g : Nat) : ShL m a f (i + 1) g ↔ ShL m a f i g := by
  unfold ShL
  constructor
  · rintro (h1 | ⟨o, w, h1, h2, h3⟩)
    · exact Or.inl h1
    · rcases (by omega : o < i ∨ o = i) with h4 | rfl
      · exact Or.inr ⟨o, w, h4, h2, h3⟩
      · rw [h] at h2; cases h2
  · rintro (h1 | ⟨o, w, h1, h2, h3⟩)
    · exact Or.inl h1
    · exact Or.inr ⟨o, w, by omega, h2, h3⟩
theorem ShR_succ {m : Mem} {a f i : Nat} (h : op (yden m f) 1 (yden m i) = false) (g : Nat) : ShR m a f (i + 1) g ↔ ShR m a f i g := by
  unfold ShR
  constructor
  · rintro (h1 | ⟨o, w, h1, h2, h3⟩)
    · exact Or.inl h1
    · rcases (by omega : o < i ∨ o = i) with h4 | rfl
      · exact Or.inr ⟨o, w, h4, h2, h3⟩
      · rw [h] at h2; cases h2
  · rintro (h1 | ⟨o, w, h1, h2, h3⟩)
    · exact Or.inl h1
    · exact Or.inr ⟨o, w, by omega, h2, h3⟩
theorem ShL_add {m : Mem} {a f i w : Nat} (h : op (yden m f) 0 (yden m i) = true) (hw : mGet m a i = (w : Int)) (g : Nat) : ShL m a f (i + 1) g ↔ ShL m a f i g ∨ g = yden m w := by
  unfold ShL
  constructor
  · rintro (h1 | ⟨o, w2, h1, h2, h3, h5⟩)
    · exact Or.inl (Or.inl h1)
    · rcases (by omega : o < i ∨ o = i) with h4 | rfl
      · exact Or.inl (Or.inr ⟨o, w2, h4, h2, h3, h5⟩)
      · rw [hw] at h3
        have e : w = w2 := by omega
        exact Or.inr (by rw [e]; exact h5)
  · rintro ((h1 | ⟨o, w2, h1, h2, h3⟩) | rfl)
    · exact Or.inl h1
    · exact Or.inr ⟨o, w2, by omega, h2, h3⟩
    · exact Or.inr ⟨i, w, by omega, h, hw, rfl⟩
theorem ShR_add {m : Mem} {a f i w : Nat} (h : op (yden m f) 1 (yden m i) = true) (hw : mGet m a i = (w : Int)) (g : Nat) : ShR m a f (i + 1) g ↔ ShR m a f i g ∨ g = yden m w := by
  unfold ShR
  constructor
  · rintro (h1 | ⟨o, w2, h1, h2, h3, h5⟩)
    · exact Or.inl (Or.inl h1)
    · rcases (by omega : o < i ∨ o = i) with h4 | rfl
      · exact Or.inl (Or.inr ⟨o, w2, h4, h2, h3, h5⟩)
      · rw [hw] at h3
        have e : w = w2 := by omega
        exact Or.inr (by rw [e]; exact h5)
  · rintro ((h1 | ⟨o, w2, h1, h2, h3⟩) | rfl)
    · exact Or.inl h1
    · exact Or.inr ⟨o, w2, by omega, h2, h3⟩
    · exact Or.inr ⟨i, w, by omega, h, hw, rfl⟩
set_option maxHeartbeats 4000000 in
theorem shifted_ok {n N u a : Nat} {p2 : Int} {m : Mem} (hn : 300 < n) (Y : YI m N) (hu : u < N) (hs : mGet m 4 14 = 0) (ha : a = 9 ∨ a = 10) (hp2 : (a = 9 ∧ p2 = 1) ∨ (a = 10 ∧ p2 = 0)) (hN : N + (nl m u).length ≤ 256) : Ok (f_X9_shifted n (u : Int) p2 m) (fun v m' => ∃ w N' : Nat, v = (w : Int) ∧ w < N' ∧ N' ≤ N + (nl m u).length ∧ YI m' N' ∧ mGet m' 4 14 = 0 ∧ YD m m' N N' ∧ geq (yden m' w) (gadd (yden m u) (shg a))) := by
  have h256 := Y.1.2.1
  unfold f_X9_shifted
  refine ok_calE (isNode_eq Y.1 hu) ?_
  rw [if_neg (by decide)]
  refine ok_cal (gather_ok hn Y.1 hu) (fun _ mg hg => ?_)
  obtain ⟨fg, wg⟩ := hg
  obtain ⟨Yg, hdg⟩ := Y.w17 fg
  let p : Nat → Bool := fun v => folB (yden m u) (yden m v)
  have hp : ∀ v, v ≤ u → (row mg 17 0).testBit v = p v := by
    intro v hv
    apply Bool.eq_iff_iff.mpr
    rw [wg]
    exact ⟨fun h => (folB_iff _ _).mpr h.2, fun h => ⟨hv, (folB_iff _ _).mp h⟩⟩
  have hnl : nl m u = fr p (u + 1) := rfl
  rw [hnl] at hN ⊢
  rcases hp2 with ⟨rfl, rfl⟩ | ⟨rfl, rfl⟩
  · dsimp only [jn]
    rw [if_neg (show ¬ ((1 : Int) = 0) by decide)]
    refine ok_up1 (u + 1) (fun i m1 => ∃ N1, YI m1 N1 ∧ N1 ≤ N + (fr p i).length ∧ mGet m1 4 14 = 0 ∧ YD m m1 N N1 ∧ row m1 17 0 = row mg 17 0 ∧ ∀ v, v < i → p v = true → mGet m1 9 v ≠ -1) (fun w i m1 hi hI hw => ?_) (fun w m1 hI => ?_) n 0 mg (Nat.zero_le _) ⟨N, Yg, Nat.le_add_right _ _, (fg.1.1 4 14).trans hs, ⟨fun a i _ _ _ => fg.1.1 a i, fg.1.2, fun x _ => by rw [hdg], Nat.le_refl _⟩, rfl, fun v h => absurd h (Nat.not_lt_zero _)⟩ (by omega)
    · obtain ⟨N1, Y1, n1, s1, d1, r1, k1⟩ := hI
      have hNN := d1.2.2.2
      have hlen := fr_len p i
      have hmono := fr_mono p (show i + 1 ≤ u + 1 by omega)
      rw [if_neg (by omega), lenA_ok (kI9or ha) (by decide) (by decide) (by decide), if_pos (by omega)]
      refine ok_calE (hasS (by decide) (by omega)) ?_
      rw [r1, hp i (by omega), k_1 (by omega)]
      cases e : p i
      · rw [if_pos (by decide)]
        rw [e] at hlen
        refine hw m1 ⟨N1, Y1, by rw [hlen]; exact n1, s1, d1, r1, fun v hv hpv => ?_⟩
        rcases (by omega : v < i ∨ v = i) with h | rfl
        · exact k1 v h hpv
        · rw [e] at hpv; cases hpv
      · rw [e, if_pos rfl] at hlen
        rw [if_neg (by decide), ldI_ok (kI9or ha) (by omega)]
        have di : yden m1 i = yden m i := d1.2.2.1 i (by omega)
        by_cases q : mGet m1 9 i < 0
        · rw [if_pos q]
          have hu2 : fol (yden m u) (yden m i) := (folB_iff _ _).mp e
          refine ok_cal (begin_ok hn Y1) (fun _ m2 h2 => ?_)
          obtain ⟨G2, F2⟩ := h2
          rw [if_neg (show ¬ ((1 : Int) = 0) by decide)]
          refine ok_cal (mark_at (a := 9) (by omega) G2 ha) (fun _ m3 h3 => ?_)
          obtain ⟨G3, F3⟩ := h3
          have F23 := F2.tr F3
          have hk : ∀ o, o < i → (op (yden m3 i) 0 (yden m3 o) = true ∨ op (yden m3 i) 1 (yden m3 o) = true) → ∃ w, w < N1 ∧ mGet m3 9 o = (w : Int) ∧ geq (yden m3 w) (gadd (yden m3 o) (shg 9)) := by
            intro o ho hop
            have e3 : ∀ x, x < N1 → yden m3 x = yden m1 x := F23.2.2.2.1
            rw [e3 i (by omega), e3 o (by omega), di, d1.2.2.1 o (by omega)] at hop
            have po : p o = true := (folB_iff _ _).mpr (fol_tr hu2 (by
              rcases hop with h | h
              · exact fol_op (w := 0) (by decide) h (fol_rf _)
              · exact fol_op (w := 1) (by decide) h (fol_rf _)))
            have g3 : mGet m3 9 o = mGet m1 9 o := F23.1 9 o (by decide) (fun _ => by omega)
            rcases Y1.2.at ha (show o < N1 by omega) with h | ⟨w, h1, h2, h3⟩
            · exact absurd h (k1 o ho po)
            · exact ⟨w, h1, by rw [g3]; exact h2, by rw [e3 w h1, e3 o (by omega)]; exact h3⟩
          refine ok_up1 i (fun o m4 => YG m4 N1 (ShL m3 9 i o) (ShR m3 9 i o) ∧ YF m3 m4 N1 N1) (fun w4 o m4 ho hI4 hw4 => ?_) (fun w4 m4 hI4 => ?_) n 0 m3 (Nat.zero_le _) ⟨G3.iff (fun g => by rw [ShL_0, F3.2.2.2.1 i (by omega)]) (fun g => by rw [ShR_0, F3.2.2.2.1 i (by omega)]), YF.rf _ _⟩ (by omega)
          · obtain ⟨G4, F4⟩ := hI4
            rw [if_pos (by omega)]
            have dL := hasL_op G4.1.1 (show i < N1 by omega) (show o < N1 by omega)
            rw [F4.2.2.2.1 i (by omega), F4.2.2.2.1 o (by omega)] at dL
            refine ok_calE (hasL (by decide) (by omega) (by omega)) ?_
            rw [dL, k_1 (by omega)]
            have right : ∀ m5, YG m5 N1 (ShL m3 9 i (o + 1)) (ShR m3 9 i o) → YF m3 m5 N1 N1 → Ok (cal (f_X9_has n 6 (i : Int) (o : Int) m5) fun x132 m132 => if x132 = 0 then w4 ((o + 1 : Nat) : Int) m132 else ldI m132 9 (o : Int) fun x142 => cal (f_X9_addRight n x142 m132) fun _ m143 => w4 ((o + 1 : Nat) : Int) m143) (fun v m' => ∃ w N' : Nat, v = (w : Int) ∧ w < N' ∧ N' ≤ N + (fr p (u + 1)).length ∧ YI m' N' ∧ mGet m' 4 14 = 0 ∧ YD m m' N N' ∧ geq (yden m' w) (gadd (yden m u) (shg 9))) := by
              intro m5 G5 F5
              have dR := hasR_op G5.1.1 (show i < N1 by omega) (show o < N1 by omega)
              rw [F5.2.2.2.1 i (by omega), F5.2.2.2.1 o (by omega)] at dR
              refine ok_calE (hasL (by decide) (by omega) (by omega)) ?_
              rw [dR]
              cases e5 : op (yden m3 i) 1 (yden m3 o)
              · rw [if_pos (by decide)]
                exact hw4 m5 ⟨G5.iff (fun g => Iff.rfl) (fun g => ShR_succ e5 g), F5⟩
              · obtain ⟨w, w1, w2, w3⟩ := hk o ho (Or.inr e5)
                rw [if_neg (by decide), ldI_ok (kI9or ha) (by omega), F5.1 9 o (by decide) (fun _ => by omega), w2]
                refine ok_cal (addRight_ok G5 w1) (fun _ m6 h6 => ?_)
                refine hw4 m6 ⟨h6.1.iff (fun g => Iff.rfl) (fun g => ?_), F5.tr h6.2⟩
                rw [ShR_add e5 w2, F5.2.2.2.1 w w1]
            cases e5 : op (yden m3 i) 0 (yden m3 o)
            · rw [if_pos (by decide)]
              exact right m4 (G4.iff (fun g => ShL_succ e5 g) (fun g => Iff.rfl)) F4
            · obtain ⟨w, w1, w2, w3⟩ := hk o ho (Or.inl e5)
              rw [if_neg (by decide), ldI_ok (kI9or ha) (by omega), F4.1 9 o (by decide) (fun _ => by omega), w2]
              refine ok_cal (addLeft_ok G4 w1) (fun _ m6 h6 => ?_)
              refine right m6 (h6.1.iff (fun g => ?_) (fun g => Iff.rfl)) (F4.tr h6.2)
              rw [ShL_add e5 w2, F4.2.2.2.1 w w1]
          · obtain ⟨G4, F4⟩ := hI4
            rw [if_neg (by omega)]
            have Y3 := G3.1
            refine ok_cal (gof_ok hn G4 (by omega) (sh_fits Y3 ha (show i < N1 by omega) hk)) (fun v5 m5 h5 => ?_)
            obtain ⟨w, N5, rfl, h52, h53, Y5, s5, F5, e5⟩ := h5
            have F15 := F23.tr (F4.tr F5)
            have hi3 : yden m3 i = yden m5 i := (F4.tr F5).2.2.2.1 i (by omega) |>.symm
            rw [hi3] at e5
            rw [stI_ok (kI9or ha) (by omega)]
            obtain ⟨Y6, _⟩ := Y5.put (u := i) ha h52 e5
            have gN : ∀ b k, mGet (mSet m5 9 i (w : Int)) b k = if b = 9 ∧ k = i then (w : Int) else mGet m5 b k := by
              intro b k
              have := Y5.1.2.1
              rw [mGet_mSet, w32_nat (by omega)]
            refine hw _ ⟨N5, Y6, by omega, by rw [gN, if_neg (by omega)]; exact s5, d1.tr ⟨fun b k h1 h2 h3 => by rw [gN, if_neg (by omega)]; exact F15.d.1 b k h1 h2 h3, F15.2.1, F15.2.2.2.1, F15.2.2.2.2⟩, (F15.2.2.1 0).trans r1, fun v hv hpv => ?_⟩
            rw [gN]
            by_cases ev : v = i
            · rw [if_pos ⟨rfl, ev⟩]; omega
            · rw [if_neg (fun h => ev h.2), F15.1 9 v (by decide) (fun _ => by omega)]
              exact k1 v (by omega) hpv
        · rw [if_neg q]
          refine hw m1 ⟨N1, Y1, by omega, s1, d1, r1, fun v hv hpv => ?_⟩
          rcases (by omega : v < i ∨ v = i) with h | rfl
          · exact k1 v h hpv
          · omega
    · obtain ⟨N1, Y1, n1, s1, d1, r1, k1⟩ := hI
      have hNN := d1.2.2.2
      rw [if_pos (by omega), lenA_ok (kI9or ha) (by decide) (by decide) (by decide), if_pos (by omega), ldI_ok (kI9or ha) (by omega)]
      have pu : p u = true := (folB_iff _ _).mpr (fol_rf _)
      rcases Y1.2.at ha (show u < N1 by omega) with h | ⟨w, h1, h2, h3⟩
      · exact absurd h (k1 u (by omega) pu)
      · rw [h2]
        exact ok_rt ⟨w, N1, rfl, h1, n1, Y1, s1, d1, by rw [← d1.2.2.1 u hu]; exact h3⟩
  · dsimp only [jn]
    rw [if_pos (show (0 : Int) = 0 from rfl)]
    refine ok_up1 (u + 1) (fun i m1 => ∃ N1, YI m1 N1 ∧ N1 ≤ N + (fr p i).length ∧ mGet m1 4 14 = 0 ∧ YD m m1 N N1 ∧ row m1 17 0 = row mg 17 0 ∧ ∀ v, v < i → p v = true → mGet m1 10 v ≠ -1) (fun w i m1 hi hI hw => ?_) (fun w m1 hI => ?_) n 0 mg (Nat.zero_le _) ⟨N, Yg, Nat.le_add_right _ _, (fg.1.1 4 14).trans hs, ⟨fun a i _ _ _ => fg.1.1 a i, fg.1.2, fun x _ => by rw [hdg], Nat.le_refl _⟩, rfl, fun v h => absurd h (Nat.not_lt_zero _)⟩ (by omega)
    · obtain ⟨N1, Y1, n1, s1, d1, r1, k1⟩ := hI
      have hNN := d1.2.2.2
      have hlen := fr_len p i
      have hmono := fr_mono p (show i + 1 ≤ u + 1 by omega)
      rw [if_neg (by omega), lenA_ok (kI9or ha) (by decide) (by decide) (by decide), if_pos (by omega)]
      refine ok_calE (hasS (by decide) (by omega)) ?_
      rw [r1, hp i (by omega), k_1 (by omega)]
      cases e : p i
      · rw [if_pos (by decide)]
        rw [e] at hlen
        refine hw m1 ⟨N1, Y1, by rw [hlen]; exact n1, s1, d1, r1, fun v hv hpv => ?_⟩
        rcases (by omega : v < i ∨ v = i) with h | rfl
        · exact k1 v h hpv
        · rw [e] at hpv; cases hpv
      · rw [e, if_pos rfl] at hlen
        rw [if_neg (by decide), ldI_ok (kI9or ha) (by omega)]
        have di : yden m1 i = yden m i := d1.2.2.1 i (by omega)
        by_cases q : mGet m1 10 i < 0
        · rw [if_pos q]
          have hu2 : fol (yden m u) (yden m i) := (folB_iff _ _).mp e
          refine ok_cal (begin_ok hn Y1) (fun _ m2 h2 => ?_)
          obtain ⟨G2, F2⟩ := h2
          rw [if_pos (show (0 : Int) = 0 from rfl)]
          refine ok_cal (mark_at (a := 10) (by omega) G2 ha) (fun _ m3 h3 => ?_)
          obtain ⟨G3, F3⟩ := h3
          have F23 := F2.tr F3
          have hk : ∀ o, o < i → (op (yden m3 i) 0 (yden m3 o) = true ∨ op (yden m3 i) 1 (yden m3 o) = true) → ∃ w, w < N1 ∧ mGet m3 10 o = (w : Int) ∧ geq (yden m3 w) (gadd (yden m3 o) (shg 10)) := by
            intro o ho hop
            have e3 : ∀ x, x < N1 → yden m3 x = yden m1 x := F23.2.2.2.1
            rw [e3 i (by omega), e3 o (by omega), di, d1.2.2.1 o (by omega)] at hop
            have po : p o = true := (folB_iff _ _).mpr (fol_tr hu2 (by
              rcases hop with h | h
              · exact fol_op (w := 0) (by decide) h (fol_rf _)
              · exact fol_op (w := 1) (by decide) h (fol_rf _)))
            have g3 : mGet m3 10 o = mGet m1 10 o := F23.1 10 o (by decide) (fun _ => by omega)
            rcases Y1.2.at ha (show o < N1 by omega) with h | ⟨w, h1, h2, h3⟩
            · exact absurd h (k1 o ho po)
            · exact ⟨w, h1, by rw [g3]; exact h2, by rw [e3 w h1, e3 o (by omega)]; exact h3⟩
          refine ok_up1 i (fun o m4 => YG m4 N1 (ShL m3 10 i o) (ShR m3 10 i o) ∧ YF m3 m4 N1 N1) (fun w4 o m4 ho hI4 hw4 => ?_) (fun w4 m4 hI4 => ?_) n 0 m3 (Nat.zero_le _) ⟨G3.iff (fun g => by rw [ShL_0, F3.2.2.2.1 i (by omega)]) (fun g => by rw [ShR_0, F3.2.2.2.1 i (by omega)]), YF.rf _ _⟩ (by omega)
          · obtain ⟨G4, F4⟩ := hI4
            rw [if_pos (by omega)]
            have dL := hasL_op G4.1.1 (show i < N1 by omega) (show o < N1 by omega)
            rw [F4.2.2.2.1 i (by omega), F4.2.2.2.1 o (by omega)] at dL
            refine ok_calE (hasL (by decide) (by omega) (by omega)) ?_
            rw [dL, k_1 (by omega)]
            have right : ∀ m5, YG m5 N1 (ShL m3 10 i (o + 1)) (ShR m3 10 i o) → YF m3 m5 N1 N1 → Ok (cal (f_X9_has n 6 (i : Int) (o : Int) m5) fun x132 m132 => if x132 = 0 then w4 ((o + 1 : Nat) : Int) m132 else ldI m132 10 (o : Int) fun x142 => cal (f_X9_addRight n x142 m132) fun _ m143 => w4 ((o + 1 : Nat) : Int) m143) (fun v m' => ∃ w N' : Nat, v = (w : Int) ∧ w < N' ∧ N' ≤ N + (fr p (u + 1)).length ∧ YI m' N' ∧ mGet m' 4 14 = 0 ∧ YD m m' N N' ∧ geq (yden m' w) (gadd (yden m u) (shg 10))) := by
              intro m5 G5 F5
              have dR := hasR_op G5.1.1 (show i < N1 by omega) (show o < N1 by omega)
              rw [F5.2.2.2.1 i (by omega), F5.2.2.2.1 o (by omega)] at dR
              refine ok_calE (hasL (by decide) (by omega) (by omega)) ?_
              rw [dR]
              cases e5 : op (yden m3 i) 1 (yden m3 o)
              · rw [if_pos (by decide)]
                exact hw4 m5 ⟨G5.iff (fun g => Iff.rfl) (fun g => ShR_succ e5 g), F5⟩
              · obtain ⟨w, w1, w2, w3⟩ := hk o ho (Or.inr e5)
                rw [if_neg (by decide), ldI_ok (kI9or ha) (by omega), F5.1 10 o (by decide) (fun _ => by omega), w2]
                refine ok_cal (addRight_ok G5 w1) (fun _ m6 h6 => ?_)
                refine hw4 m6 ⟨h6.1.iff (fun g => Iff.rfl) (fun g => ?_), F5.tr h6.2⟩
                rw [ShR_add e5 w2, F5.2.2.2.1 w w1]
            cases e5 : op (yden m3 i) 0 (yden m3 o)
            · rw [if_pos (by decide)]
              exact right m4 (G4.iff (fun g => ShL_succ e5 g) (fun g => Iff.rfl)) F4
            · obtain ⟨w, w1, w2, w3⟩ := hk o ho (Or.inl e5)
              rw [if_neg (by decide), ldI_ok (kI9or ha) (by omega), F4.1 10 o (by decide) (fun _ => by omega), w2]
              refine ok_cal (addLeft_ok G4 w1) (fun _ m6 h6 => ?_)
              refine right m6 (h6.1.iff (fun g => ?_) (fun g => Iff.rfl)) (F4.tr h6.2)
              rw [ShL_add e5 w2, F4.2.2.2.1 w w1]
          · obtain ⟨G4, F4⟩ := hI4
            rw [if_neg (by omega)]
            have Y3 := G3.1
            refine ok_cal (gof_ok hn G4 (by omega) (sh_fits Y3 ha (show i < N1 by omega) hk)) (fun v5 m5 h5 => ?_)
            obtain ⟨w, N5, rfl, h52, h53, Y5, s5, F5, e5⟩ := h5
            have F15 := F23.tr (F4.tr F5)
            have hi3 : yden m3 i = yden m5 i := (F4.tr F5).2.2.2.1 i (by omega) |>.symm
            rw [hi3] at e5
            rw [stI_ok (kI9or ha) (by omega)]
            obtain ⟨Y6, _⟩ := Y5.put (u := i) ha h52 e5
            have gN : ∀ b k, mGet (mSet m5 10 i (w : Int)) b k = if b = 10 ∧ k = i then (w : Int) else mGet m5 b k := by
              intro b k
              have := Y5.1.2.1
              rw [mGet_mSet, w32_nat (by omega)]
            refine hw _ ⟨N5, Y6, by omega, by rw [gN, if_neg (by omega)]; exact s5, d1.tr ⟨fun b k h1 h2 h3 => by rw [gN, if_neg (by omega)]; exact F15.d.1 b k h1 h2 h3, F15.2.1, F15.2.2.2.1, F15.2.2.2.2⟩, (F15.2.2.1 0).trans r1, fun v hv hpv => ?_⟩
            rw [gN]
            by_cases ev : v = i
            · rw [if_pos ⟨rfl, ev⟩]; omega
            · rw [if_neg (fun h => ev h.2), F15.1 10 v (by decide) (fun _ => by omega)]
              exact k1 v (by omega) hpv
        · rw [if_neg q]
          refine hw m1 ⟨N1, Y1, by omega, s1, d1, r1, fun v hv hpv => ?_⟩
          rcases (by omega : v < i ∨ v = i) with h | rfl
          · exact k1 v h hpv
          · omega
    · obtain ⟨N1, Y1, n1, s1, d1, r1, k1⟩ := hI
      have hNN := d1.2.2.2
      rw [if_pos (by omega), lenA_ok (kI9or ha) (by decide) (by decide) (by decide), if_pos (by omega), ldI_ok (kI9or ha) (by omega)]
      have pu : p u = true := (folB_iff _ _).mpr (fol_rf _)
      rcases Y1.2.at ha (show u < N1 by omega) with h | ⟨w, h1, h2, h3⟩
      · exact absurd h (k1 u (by omega) pu)
      · rw [h2]
        exact ok_rt ⟨w, N1, rfl, h1, n1, Y1, s1, d1, by rw [← d1.2.2.1 u hu]; exact h3⟩

