/-! THE YARD: end -/
theorem ok_dn1 {body : (Int → Mem → Option Rz) → Int → Mem → Option Rz} {Q : Int → Mem → Prop} (I : Nat → Mem → Prop) (hstep : ∀ (w : Int → Mem → Option Rz) (i : Nat) m, I (i + 1) m → (∀ m', I i m' → Ok (w ((i : Int) - 1) m') Q) → Ok (body w (i : Int) m) Q) (hend : ∀ (w : Int → Mem → Option Rz) m, I 0 m → Ok (body w (-1) m) Q) : ∀ (n i : Nat) m, I i m → i < n → Ok (lp (F := Int → Mem → Option Rz) (fun _ _ => none) body n ((i : Int) - 1) m) Q
  | 0, i, m, _, hn => absurd hn (Nat.not_lt_zero _)
  | n + 1, 0, m, h, hn => hend _ m h
  | n + 1, i + 1, m, h, hn => by
    have e : ((i + 1 : Nat) : Int) - 1 = (i : Int) := by omega
    rw [e]
    exact hstep _ i m h (fun m' h' => ok_dn1 I hstep hend n i m' h' (by omega))
theorem YInv.opL {m : Mem} {N v : Nat} (Y : YInv m N) (hv : v < N) (x : Nat) : op (yden m v) 0 x = true ↔ ∃ u, u < N ∧ (row m 5 v).testBit u = true ∧ yden m u = x := by
  refine (op_denL (row m 5) (row m 6) v x).trans ⟨?_, ?_⟩
  · rintro ⟨u, h1, h2, h3⟩; exact ⟨u, by omega, h2, h3⟩
  · rintro ⟨u, h1, h2, h3⟩; exact ⟨u, Y.2.2.1 v hv u (Or.inl h2), h2, h3⟩
theorem YInv.opR {m : Mem} {N v : Nat} (Y : YInv m N) (hv : v < N) (x : Nat) : op (yden m v) 1 x = true ↔ ∃ u, u < N ∧ (row m 6 v).testBit u = true ∧ yden m u = x := by
  refine (op_denR (row m 5) (row m 6) v x).trans ⟨?_, ?_⟩
  · rintro ⟨u, h1, h2, h3⟩; exact ⟨u, by omega, h2, h3⟩
  · rintro ⟨u, h1, h2, h3⟩; exact ⟨u, Y.2.2.1 v hv u (Or.inr h2), h2, h3⟩
/-- what the bypassing leaves of the sets -/
def BySet (m : Mem) (N G i A B : Nat) : Prop := (∀ u, A.testBit u = true → u < N) ∧ (∀ u, B.testBit u = true → u < N) ∧ geq (yg (yden m) N A B) G ∧ (∀ v, i ≤ v → A.testBit v = true → ∀ c, (row m 6 v).testBit c = true → ¬ gle (yden m c) G) ∧ (∀ v, i ≤ v → B.testBit v = true → ∀ c, (row m 5 v).testBit c = true → ¬ gle G (yden m c))
/-- and the dropping -/
def DrSet (m : Mem) (i A B : Nat) : Prop := (∀ v, v < i → A.testBit v = true → ∀ c, c ≠ v → A.testBit c = true → ¬ gle (yden m v) (yden m c)) ∧ (∀ v, v < i → B.testBit v = true → ∀ c, c ≠ v → B.testBit c = true → ¬ gle (yden m c) (yden m v))
theorem by_stepL {m : Mem} {N G i A A2 B cN : Nat} (Y : YInv m N) (hi : i < N) (hcN : ∀ u, cN.testBit u = true ↔ u < N ∧ gle (yden m u) G) (hA : (∀ u, A.testBit u = true → u < N) ∧ (∀ u, B.testBit u = true → u < N) ∧ geq (yg (yden m) N A B) G ∧ (∀ v, i + 1 ≤ v → A.testBit v = true → ∀ c, (row m 6 v).testBit c = true → ¬ gle (yden m c) G)) (h : (A2 = A ∧ (A.testBit i = true → ∀ c, c < i → ¬ ((row m 6 i).testBit c = true ∧ cN.testBit c = true))) ∨ (A.testBit i = true ∧ ∃ c, c < i ∧ (row m 6 i).testBit c = true ∧ cN.testBit c = true ∧ ∀ u, A2.testBit u = true ↔ (A.testBit u = true ∧ u ≠ i) ∨ (row m 5 c).testBit u = true)) : (∀ u, A2.testBit u = true → u < N) ∧ (∀ u, B.testBit u = true → u < N) ∧ geq (yg (yden m) N A2 B) G ∧ (∀ v, i ≤ v → A2.testBit v = true → ∀ c, (row m 6 v).testBit c = true → ¬ gle (yden m c) G) := by
  obtain ⟨a1, a2, a3, a4⟩ := hA
  rcases h with ⟨rfl, h⟩ | ⟨h1, c, h2, h3, h4, h5⟩
  · refine ⟨a1, a2, a3, fun v hv hvA c hc hg => ?_⟩
    rcases (by omega : i + 1 ≤ v ∨ v = i) with h6 | rfl
    · exact a4 v h6 hvA c hc hg
    · have hcv := Y.2.2.1 v hi c (Or.inr hc)
      exact h hvA c hcv ⟨hc, (hcN c).mpr ⟨by omega, hg⟩⟩
  · have hcN2 := (hcN c).mp h4
    have low : ∀ u, (row m 5 c).testBit u = true → u < c := fun u hu => Y.2.2.1 c (by omega) u (Or.inl hu)
    refine ⟨fun u hu => ?_, a2, ?_, fun v hv hvA k hk hg => ?_⟩
    · rcases (h5 u).mp hu with h6 | h6
      · exact a1 u h6.1
      · have := low u h6; omega
    · refine (yg_byL (d := yden m) (N := N) (A := A) (B := B) (v := i) (c := c) (P := fun u => (row m 5 c).testBit u = true) hi h1 ((Y.opR hi _).mpr ⟨c, by omega, h3, rfl⟩) (fun w => Y.opL (by omega) w) ((a3.r).mpr hcN2.2) h5).sy.tr a3
    · rcases (h5 v).mp hvA with h6 | h6
      · exact a4 v (by omega) h6.1 k hk hg
      · have := low v h6; omega
theorem by_stepR {m : Mem} {N G i A B B2 cN : Nat} (Y : YInv m N) (hi : i < N) (hcN : ∀ u, cN.testBit u = true ↔ u < N ∧ gle G (yden m u)) (hA : (∀ u, A.testBit u = true → u < N) ∧ (∀ u, B.testBit u = true → u < N) ∧ geq (yg (yden m) N A B) G ∧ (∀ v, i + 1 ≤ v → B.testBit v = true → ∀ c, (row m 5 v).testBit c = true → ¬ gle G (yden m c))) (h : (B2 = B ∧ (B.testBit i = true → ∀ c, c < i → ¬ ((row m 5 i).testBit c = true ∧ cN.testBit c = true))) ∨ (B.testBit i = true ∧ ∃ c, c < i ∧ (row m 5 i).testBit c = true ∧ cN.testBit c = true ∧ ∀ u, B2.testBit u = true ↔ (B.testBit u = true ∧ u ≠ i) ∨ (row m 6 c).testBit u = true)) : (∀ u, A.testBit u = true → u < N) ∧ (∀ u, B2.testBit u = true → u < N) ∧ geq (yg (yden m) N A B2) G ∧ (∀ v, i ≤ v → B2.testBit v = true → ∀ c, (row m 5 v).testBit c = true → ¬ gle G (yden m c)) := by
  obtain ⟨a1, a2, a3, a4⟩ := hA
  rcases h with ⟨rfl, h⟩ | ⟨h1, c, h2, h3, h4, h5⟩
  · refine ⟨a1, a2, a3, fun v hv hvA c hc hg => ?_⟩
    rcases (by omega : i + 1 ≤ v ∨ v = i) with h6 | rfl
    · exact a4 v h6 hvA c hc hg
    · have hcv := Y.2.2.1 v hi c (Or.inl hc)
      exact h hvA c hcv ⟨hc, (hcN c).mpr ⟨by omega, hg⟩⟩
  · have hcN2 := (hcN c).mp h4
    have low : ∀ u, (row m 6 c).testBit u = true → u < c := fun u hu => Y.2.2.1 c (by omega) u (Or.inr hu)
    refine ⟨a1, fun u hu => ?_, ?_, fun v hv hvA k hk hg => ?_⟩
    · rcases (h5 u).mp hu with h6 | h6
      · exact a2 u h6.1
      · have := low u h6; omega
    · refine (yg_byR (d := yden m) (N := N) (A := A) (B := B) (v := i) (c := c) (P := fun u => (row m 6 c).testBit u = true) hi h1 ((Y.opL hi _).mpr ⟨c, by omega, h3, rfl⟩) (fun w => Y.opR (by omega) w) ((a3.l).mpr hcN2.2) h5).sy.tr a3
    · rcases (h5 v).mp hvA with h6 | h6
      · exact a4 v (by omega) h6.1 k hk hg
      · have := low v h6; omega
/-- the yard's whole state: also what is known of sums with 1 and -1 -/
def RS (m : Mem) (N : Nat) : Prop := ∀ u, u < N → (mGet m 9 u = -1 ∨ ∃ w, w < N ∧ mGet m 9 u = (w : Int) ∧ geq (yden m w) (gadd (yden m u) 1)) ∧ (mGet m 10 u = -1 ∨ ∃ w, w < N ∧ mGet m 10 u = (w : Int) ∧ geq (yden m w) (gadd (yden m u) 2))
def YI (m : Mem) (N : Nat) : Prop := YInv m N ∧ RS m N
/-- what end leaves as it was -/
def EFr (m m' : Mem) (N : Nat) : Prop := (∀ a i, a ≠ 4 → ¬ ((a = 9 ∨ a = 10) ∧ i = N) → mGet m' a i = mGet m a i) ∧ mGet m' 4 14 = mGet m 4 14 ∧ m'.2.2 = m.2.2 ∧ ∀ r, row m' 17 r = row m 17 r
abbrev S26 (a : Nat) : Prop := 11 ≤ a ∧ a ≤ 16
theorem WFr.lowr {m m' : Mem} {S : Nat → Prop} (h : WFr m m' S) {a r : Nat} (ha : ¬ (S a ∧ r = 0)) : row m' a r = row m a r := h.2 a r ha
theorem add_inv {m m1 m' : Mem} {N G A B : Nat} (Y : YInv m N) (hN : N < 256) (h5 : ∀ a r, a < 9 → row m1 a r = row m a r) (hA : row m1 11 0 = A) (hB : row m1 12 0 = B) (h13 : ∀ u, (row m1 13 0).testBit u = true ↔ u < N ∧ gle G (yden m u)) (h14 : ∀ u, (row m1 14 0).testBit u = true ↔ u < N ∧ gle (yden m u) G) (hb : BySet m N G 0 A B) (hd : DrSet m N A B) (hne : ∀ u, u < N → ¬ geq (yden m u) G)
    (k1 : mGet m' 4 13 = ((N + 1 : Nat) : Int)) (k5 : ∀ r, row m' 5 r = if r = N then row m1 11 0 else row m1 5 r) (k6 : ∀ r, row m' 6 r = if r = N then row m1 12 0 else row m1 6 r) (k7 : ∀ r, r < N → ∀ u, (row m' 7 r).testBit u = true ↔ (row m1 7 r).testBit u = true ∨ (u = N ∧ (row m1 14 0).testBit r = true)) (k8 : ∀ r, r < N → ∀ u, (row m' 8 r).testBit u = true ↔ (row m1 8 r).testBit u = true ∨ (u = N ∧ (row m1 13 0).testBit r = true)) (k7N : ∀ u, (row m' 7 N).testBit u = true ↔ (row m1 13 0).testBit u = true ∨ u = N) (k8N : ∀ u, (row m' 8 N).testBit u = true ↔ (row m1 14 0).testBit u = true ∨ u = N) : YInv m' (N + 1) ∧ (∀ u, u < N → yden m' u = yden m u) ∧ geq (yden m' N) G := by
  obtain ⟨y1, y2, y3, y4, y5, y6, y7⟩ := id Y
  obtain ⟨b1, b2, b3, b4, b5⟩ := hb
  obtain ⟨d1, d2⟩ := hd
  have e5 : ∀ r, r ≠ N → row m' 5 r = row m 5 r := fun r h => by rw [k5, if_neg h, h5 5 r (by decide)]
  have e6 : ∀ r, r ≠ N → row m' 6 r = row m 6 r := fun r h => by rw [k6, if_neg h, h5 6 r (by decide)]
  have e5N : row m' 5 N = A := by rw [k5, if_pos rfl, hA]
  have e6N : row m' 6 N = B := by rw [k6, if_pos rfl, hB]
  have old : ∀ u, u < N → yden m' u = yden m u := fun u hu => den_congr u (fun q hq => ⟨e5 q (by omega), e6 q (by omega)⟩)
  have oL : ∀ x, op (yden m' N) 0 x = true ↔ ∃ u, u < N ∧ A.testBit u = true ∧ yden m u = x := by
    intro x
    refine (op_denL (row m' 5) (row m' 6) N x).trans ?_
    rw [e5N]
    constructor
    · rintro ⟨u, h1, h2, rfl⟩; exact ⟨u, h1, h2, (old u h1).symm⟩
    · rintro ⟨u, h1, h2, rfl⟩; exact ⟨u, h1, h2, old u h1⟩
  have oR : ∀ x, op (yden m' N) 1 x = true ↔ ∃ u, u < N ∧ B.testBit u = true ∧ yden m u = x := by
    intro x
    refine (op_denR (row m' 5) (row m' 6) N x).trans ?_
    rw [e6N]
    constructor
    · rintro ⟨u, h1, h2, rfl⟩; exact ⟨u, h1, h2, (old u h1).symm⟩
    · rintro ⟨u, h1, h2, rfl⟩; exact ⟨u, h1, h2, old u h1⟩
  have new : yden m' N = yg (yden m) N A B := by
    apply op_ext
    intro w hw x
    apply Bool.eq_iff_iff.mpr
    rcases (by omega : w = 0 ∨ w = 1) with rfl | rfl
    · rw [oL, op_ygL]
    · rw [oR, op_ygR]
  have nG : geq (yden m' N) G := by rw [new]; exact b3
  refine ⟨⟨k1, by omega, fun v hv u hu => ?_, fun v hv u => ?_, fun v hv u => ?_, fun v hv => ?_, fun u v hu hv e => ?_⟩, old, nG⟩
  · rcases (by omega : v < N ∨ v = N) with h | rfl
    · rw [e5 v (by omega), e6 v (by omega)] at hu; exact y3 v h u hu
    · rw [e5N, e6N] at hu; exact hu.elim (b1 u) (b2 u)
  · rcases (by omega : v < N ∨ v = N) with h | rfl
    · rw [k7 v h, h5 7 v (by decide), y4 v h, h14, old v h]
      constructor
      · rintro (⟨h1, h2⟩ | ⟨rfl, h1, h2⟩)
        · exact ⟨by omega, by rw [old u h1]; exact h2⟩
        · exact ⟨by omega, (nG.r).mpr h2⟩
      · rintro ⟨h1, h2⟩
        rcases (by omega : u < N ∨ u = N) with h3 | rfl
        · rw [old u h3] at h2; exact Or.inl ⟨h3, h2⟩
        · exact Or.inr ⟨rfl, h, (nG.r).mp h2⟩
    · rw [k7N, h13]
      constructor
      · rintro (⟨h1, h2⟩ | rfl)
        · exact ⟨by omega, by rw [old u h1]; exact (nG.l).mpr h2⟩
        · exact ⟨by omega, gle_rfl _⟩
      · rintro ⟨h1, h2⟩
        rcases (by omega : u < v ∨ u = v) with h3 | h3
        · rw [old u h3] at h2; exact Or.inl ⟨h3, (nG.l).mp h2⟩
        · exact Or.inr h3
  · rcases (by omega : v < N ∨ v = N) with h | rfl
    · rw [k8 v h, h5 8 v (by decide), y5 v h, h13, old v h]
      constructor
      · rintro (⟨h1, h2⟩ | ⟨rfl, h1, h2⟩)
        · exact ⟨by omega, by rw [old u h1]; exact h2⟩
        · exact ⟨by omega, (nG.l).mpr h2⟩
      · rintro ⟨h1, h2⟩
        rcases (by omega : u < N ∨ u = N) with h3 | rfl
        · rw [old u h3] at h2; exact Or.inl ⟨h3, h2⟩
        · exact Or.inr ⟨rfl, h, (nG.l).mp h2⟩
    · rw [k8N, h14]
      constructor
      · rintro (⟨h1, h2⟩ | rfl)
        · exact ⟨by omega, by rw [old u h1]; exact (nG.r).mpr h2⟩
        · exact ⟨by omega, gle_rfl _⟩
      · rintro ⟨h1, h2⟩
        rcases (by omega : u < v ∨ u = v) with h3 | h3
        · rw [old u h3] at h2; exact Or.inl ⟨h3, (nG.r).mp h2⟩
        · exact Or.inr h3
  · rcases (by omega : v < N ∨ v = N) with h | rfl
    · rw [old v h]; exact y6 v h
    · refine (can_def _).mpr ⟨fun w x hw hx => ?_, fun x y hx hy hxy => ?_, fun x y hx hy hxy => ?_, fun x y hx hy hg => ?_, fun x y hx hy hg => ?_⟩
      · rcases (by omega : w = 0 ∨ w = 1) with rfl | rfl
        · obtain ⟨u, h1, h2, rfl⟩ := (oL x).mp hx; exact y6 u h1
        · obtain ⟨u, h1, h2, rfl⟩ := (oR x).mp hx; exact y6 u h1
      · obtain ⟨u, h1, h2, rfl⟩ := (oL x).mp hx
        obtain ⟨c, h3, h4, rfl⟩ := (oL y).mp hy
        exact d1 u h1 h2 c (fun q => hxy (by rw [q])) h4
      · obtain ⟨u, h1, h2, rfl⟩ := (oR x).mp hx
        obtain ⟨c, h3, h4, rfl⟩ := (oR y).mp hy
        exact d2 c h3 h4 u (fun q => hxy (by rw [q])) h2
      · obtain ⟨u, h1, h2, rfl⟩ := (oL x).mp hx
        obtain ⟨c, h3, h4, rfl⟩ := (Y.opR h1 y).mp hy
        exact b4 u (Nat.zero_le _) h2 c h4 ((nG.r).mp hg)
      · obtain ⟨u, h1, h2, rfl⟩ := (oR x).mp hx
        obtain ⟨c, h3, h4, rfl⟩ := (Y.opL h1 y).mp hy
        exact b5 u (Nat.zero_le _) h2 c h4 ((nG.l).mp hg)
  · rcases (by omega : u < N ∨ u = N) with h1 | h1 <;> rcases (by omega : v < N ∨ v = N) with h2 | h2
    · rw [old u h1, old v h2] at e; exact y7 u v h1 h2 e
    · rw [h2, old u h1] at e
      exact absurd (by rw [e]; exact nG) (hne u h1)
    · rw [h1, old v h2] at e
      exact absurd (by rw [← e]; exact nG) (hne v h2)
    · exact h1.trans h2.symm
set_option maxHeartbeats 1000000 in
theorem end_ok {n N A B : Nat} {m : Mem} (hn : 300 < n) (Y : YI m N) (hN : N < 256) (hs : mGet m 4 14 = 0) (hA : row m 11 0 = A) (hB : row m 12 0 = B) (hA2 : ∀ u, A.testBit u = true → u < N) (hB2 : ∀ u, B.testBit u = true → u < N) : Ok (f_X9_end n m) (fun v m' => ∃ u N' : Nat, v = (u : Int) ∧ u < N' ∧ N ≤ N' ∧ (N' = N ∧ u < N ∨ N' = N + 1 ∧ u = N) ∧ YI m' N' ∧ (∀ x, x < N → yden m' x = yden m x) ∧ geq (yden m' u) (yg (yden m) N A B) ∧ EFr m m' N) := by
  obtain ⟨Y, R⟩ := Y
  unfold f_X9_end
  dsimp only [gtF, nm]
  rw [hs, if_pos rfl]
  refine ok_cal (compareAll_ok hn Y hA hB hA2 hB2) (fun v0 m1 h => ?_)
  obtain ⟨f1, h⟩ := h
  have g1 : ∀ a i, mGet m1 a i = mGet m a i := f1.1.1
  rcases h with ⟨u, hu, rfl, he⟩ | ⟨rfl, hne, c13, c14⟩
  · rw [if_neg (by omega)]
    have hd : yden m1 = yden m := f1.den (by decide) (by decide)
    refine ok_rt ⟨u, N, rfl, hu, Nat.le_refl _, by omega, ⟨Y.fr f1 (fun a h => by omega), ?_⟩, fun x _ => by rw [hd], by rw [hd]; exact he, fun a i _ _ => g1 a i, g1 4 14, f1.1.2, fun r => f1.2 17 r (by omega)⟩
    intro u hu
    rw [g1, g1, hd]
    exact R u hu
  · rw [if_pos (by decide)]
    generalize hG : yg (yden m) N A B = G at *
    have n1 : mGet m1 4 13 = (N : Int) := (g1 4 13).trans Y.1
    rw [n1, w32_id (by omega) (by omega)]
    refine ok_dn1 (fun i m2 => WFr m m2 S26 ∧ row m2 13 0 = row m1 13 0 ∧ row m2 14 0 = row m1 14 0 ∧ i ≤ N ∧ BySet m N G i (row m2 11 0) (row m2 12 0)) (fun w i m2 hI hw => ?_) (fun w m2 hI => ?_) n N m1 ⟨f1.weak (fun a h => by omega), rfl, rfl, Nat.le_refl _, ?_⟩ (by omega)
    · obtain ⟨f2, h13, h14, hi, b1, b2, b3, b4, b5⟩ := hI
      rw [if_neg (by omega)]
      refine ok_cal (bypass_ok hn (by decide) (by decide) (by decide) (by decide) (by omega)) (fun _ m3 h3 => ?_)
      obtain ⟨X, r3, h3⟩ := h3
      rw [f2.2 6 i (by omega), h14] at h3
      have h3' : (X = row m2 11 0 ∧ ((row m2 11 0).testBit i = true → ∀ c, c < i → ¬ ((row m 6 i).testBit c = true ∧ (row m1 14 0).testBit c = true))) ∨ ((row m2 11 0).testBit i = true ∧ ∃ c, c < i ∧ (row m 6 i).testBit c = true ∧ (row m1 14 0).testBit c = true ∧ ∀ u, X.testBit u = true ↔ ((row m2 11 0).testBit u = true ∧ u ≠ i) ∨ (row m 5 c).testBit u = true) := by
        refine h3.imp id (fun h => ⟨h.1, ?_⟩)
        obtain ⟨_, c, hc1, hc2, hc3, hc4⟩ := h
        exact ⟨c, hc1, hc2, hc3, fun u => by rw [hc4 u, f2.2 5 c (by omega)]⟩
      have sL := by_stepL Y (by omega) c14 ⟨b1, b2, b3, b4⟩ h3'
      refine ok_cal (bypass_ok hn (by decide) (by decide) (by decide) (by decide) (by omega)) (fun _ m4 h4 => ?_)
      obtain ⟨X2, r4, h4⟩ := h4
      have f3 : WFr m m3 S26 := f2.tr (WFr.of r3 (by decide))
      rw [f3.2 5 i (by omega), r3.ne (by decide), r3.ne (by decide), h13] at h4
      have h4' : (X2 = row m2 12 0 ∧ ((row m2 12 0).testBit i = true → ∀ c, c < i → ¬ ((row m 5 i).testBit c = true ∧ (row m1 13 0).testBit c = true))) ∨ ((row m2 12 0).testBit i = true ∧ ∃ c, c < i ∧ (row m 5 i).testBit c = true ∧ (row m1 13 0).testBit c = true ∧ ∀ u, X2.testBit u = true ↔ ((row m2 12 0).testBit u = true ∧ u ≠ i) ∨ (row m 6 c).testBit u = true) := by
        refine h4.imp id (fun h => ⟨h.1, ?_⟩)
        obtain ⟨_, c, hc1, hc2, hc3, hc4⟩ := h
        exact ⟨c, hc1, hc2, hc3, fun u => by rw [hc4 u, f3.2 6 c (by omega)]⟩
      have sR := by_stepR Y (by omega) c13 ⟨sL.1, sL.2.1, sL.2.2.1, b5⟩ h4'
      rw [show w32 ((i : Int) + -1) = (i : Int) - 1 from by rw [w32_id (by omega) (by omega)]; omega]
      refine hw m4 ⟨f3.tr (WFr.of r4 (by decide)), by rw [r4.ne (by decide), r3.ne (by decide)]; exact h13, by rw [r4.ne (by decide), r3.ne (by decide)]; exact h14, by omega, ?_⟩
      rw [r4.at, r4.ne (by decide), r3.at]
      exact ⟨sR.1, sR.2.1, sR.2.2.1, sL.2.2.2, sR.2.2.2⟩
    · obtain ⟨f2, h13, h14, hi, hB0⟩ := hI
      rw [if_pos (by decide)]
      refine ok_up1 N (fun i m3 => WFr m m3 S26 ∧ row m3 13 0 = row m1 13 0 ∧ row m3 14 0 = row m1 14 0 ∧ BySet m N G 0 (row m3 11 0) (row m3 12 0) ∧ DrSet m i (row m3 11 0) (row m3 12 0)) (fun w2 i m3 hi hI hw2 => ?_) (fun w2 m3 hI => ?_) n 0 m2 (Nat.zero_le _) ⟨f2, h13, h14, hB0, fun v h => absurd h (Nat.not_lt_zero _), fun v h => absurd h (Nat.not_lt_zero _)⟩ (by omega)
      · obtain ⟨f3, i13, i14, ⟨b1, b2, b3, b4, b5⟩, d1, d2⟩ := hI
        rw [f3.1.1, Y.1, if_pos (by omega)]
        refine ok_cal (drop_ok hn (by decide) (by decide) (by omega)) (fun _ m4 h4 => ?_)
        obtain ⟨X, r4, h4⟩ := h4
        rw [f3.2 7 i (by omega)] at h4
        have sub : ∀ u, X.testBit u = true → (row m3 11 0).testBit u = true := by
          rcases h4 with ⟨rfl, _⟩ | ⟨_, _, h⟩
          · exact fun u h => h
          · exact fun u hu => ((h u).mp hu).1
        have q1 : geq (yg (yden m) N X (row m3 12 0)) G := by
          rcases h4 with ⟨rfl, _⟩ | ⟨hi2, ⟨c, hc1, hc2, hc3⟩, h⟩
          · exact b3
          · exact (yg_dropL (b1 c hc3) hc3 hc1 ((Y.2.2.2.1 i hi c).mp hc2).2 h).sy.tr b3
        have q2 : ∀ v, v < i + 1 → X.testBit v = true → ∀ c, c ≠ v → X.testBit c = true → ¬ gle (yden m v) (yden m c) := by
          intro v hv hX c hc hcX
          rcases (by omega : v < i ∨ v = i) with h | rfl
          · exact d1 v h (sub v hX) c hc (sub c hcX)
          · rcases h4 with ⟨rfl, h⟩ | ⟨_, _, h⟩
            · intro hle
              exact h hX c hc ⟨(Y.2.2.2.1 v hi c).mpr ⟨b1 c hcX, hle⟩, hcX⟩
            · exact absurd rfl ((h v).mp hX).2
        refine ok_cal (drop_ok hn (by decide) (by decide) (by omega)) (fun _ m5 h5 => ?_)
        obtain ⟨X2, r5, h5⟩ := h5
        have f4 : WFr m m4 S26 := f3.tr (WFr.of r4 (by decide))
        rw [f4.2 8 i (by omega), r4.ne (by decide)] at h5
        have sub2 : ∀ u, X2.testBit u = true → (row m3 12 0).testBit u = true := by
          rcases h5 with ⟨rfl, _⟩ | ⟨_, _, h⟩
          · exact fun u h => h
          · exact fun u hu => ((h u).mp hu).1
        have q3 : geq (yg (yden m) N X X2) G := by
          rcases h5 with ⟨rfl, _⟩ | ⟨hi2, ⟨c, hc1, hc2, hc3⟩, h⟩
          · exact q1
          · exact (yg_dropR (b2 c hc3) hc3 hc1 ((Y.2.2.2.2.1 i hi c).mp hc2).2 h).sy.tr q1
        have q4 : ∀ v, v < i + 1 → X2.testBit v = true → ∀ c, c ≠ v → X2.testBit c = true → ¬ gle (yden m c) (yden m v) := by
          intro v hv hX c hc hcX
          rcases (by omega : v < i ∨ v = i) with h | rfl
          · exact d2 v h (sub2 v hX) c hc (sub2 c hcX)
          · rcases h5 with ⟨rfl, h⟩ | ⟨_, _, h⟩
            · intro hle
              exact h hX c hc ⟨(Y.2.2.2.2.1 v hi c).mpr ⟨b2 c hcX, hle⟩, hcX⟩
            · exact absurd rfl ((h v).mp hX).2
        rw [k_1 (by omega)]
        refine hw2 m5 ⟨f4.tr (WFr.of r5 (by decide)), by rw [r5.ne (by decide), r4.ne (by decide)]; exact i13, by rw [r5.ne (by decide), r4.ne (by decide)]; exact i14, ?_, ?_⟩
        · rw [r5.at, r5.ne (by decide), r4.at]
          exact ⟨fun u h => b1 u (sub u h), fun u h => b2 u (sub2 u h), q3, fun v hv hX => b4 v hv (sub v hX), fun v hv hX => b5 v hv (sub2 v hX)⟩
        · rw [r5.at, r5.ne (by decide), r4.at]
          exact ⟨q2, q4⟩
      · obtain ⟨f3, i13, i14, hB1, hD1⟩ := hI
        have n3 : mGet m3 4 13 = (N : Int) := (f3.1.1 4 13).trans Y.1
        rw [n3, if_neg (by omega)]
        refine ok_cal (add_ok hn hN n3) (fun v4 m4 h4 => ?_)
        obtain ⟨rfl, fr, k1, k9, k10, k5, k6, k7, k8, k7N, k8N, kr⟩ := h4
        have c13' : ∀ u, (row m3 13 0).testBit u = true ↔ u < N ∧ gle G (yden m u) := fun u => by rw [i13]; exact c13 u
        have c14' : ∀ u, (row m3 14 0).testBit u = true ↔ u < N ∧ gle (yden m u) G := fun u => by rw [i14]; exact c14 u
        have hlow : ∀ a r, a < 9 → row m3 a r = row m a r := fun a r ha => f3.2 a r (by omega)
        obtain ⟨Y4, old, nG⟩ := add_inv Y hN hlow rfl rfl c13' c14' hB1 hD1 hne k1 k5 k6 k7 k8 k7N k8N
        have gm : ∀ a i, a ≠ 4 → ¬ ((a = 9 ∨ a = 10) ∧ i = N) → mGet m4 a i = mGet m a i := fun a i h1 h2 => (fr.1 a i (fun q => h1 q.1) h2).trans (f3.1.1 a i)
        refine ok_rt ⟨N, N + 1, rfl, by omega, by omega, by omega, ⟨Y4, fun u hu => ?_⟩, old, nG, gm, ?_, fr.2.trans f3.1.2, fun r => (kr 17 r (by decide)).trans (f3.2 17 r (by omega))⟩
        · rcases (by omega : u < N ∨ u = N) with h | rfl
          · rw [gm 9 u (by decide) (by omega), gm 10 u (by decide) (by omega), old u h]
            obtain ⟨r1, r2⟩ := R u h
            refine ⟨r1.imp id ?_, r2.imp id ?_⟩
            · rintro ⟨w, h1, h2, h3⟩; exact ⟨w, by omega, h2, by rw [old w h1]; exact h3⟩
            · rintro ⟨w, h1, h2, h3⟩; exact ⟨w, by omega, h2, by rw [old w h1]; exact h3⟩
          · exact ⟨Or.inl k9, Or.inl k10⟩
        · exact (fr.1 4 14 (by decide) (by omega)).trans (f3.1.1 4 14)
    · rw [f1.2 11 0 (by omega), f1.2 12 0 (by omega), hA, hB]
      refine ⟨hA2, hB2, by rw [hG]; exact geq_rfl _, fun v hv h c hc => ?_, fun v hv h c hc => ?_⟩
      · exact absurd (hA2 v h) (by omega)
      · exact absurd (hB2 v h) (by omega)

