/-! THE NURSERY: what a day adds -/
/-- between nodes and the seven: the masks -/
noncomputable def trm (d : Nat → Nat) (P x : Nat) : Nat := bitsOf (fr (fun i => pB (∃ u, u < P ∧ x.testBit u = true ∧ d u = ne i)) P)
theorem trm_bit {d : Nat → Nat} {P x i : Nat} : (trm d P x).testBit i = true ↔ i < P ∧ ∃ u, u < P ∧ x.testBit u = true ∧ d u = ne i := by
  unfold trm
  rw [bitsOf_bit, mem_fr, pB_iff]
noncomputable def trn (d : Nat → Nat) (P l : Nat) : Nat := bitsOf (fr (fun u => pB (∃ i, i < P ∧ l.testBit i = true ∧ d u = ne i)) P)
theorem trn_bit {d : Nat → Nat} {P l u : Nat} : (trn d P l).testBit u = true ↔ u < P ∧ ∃ i, i < P ∧ l.testBit i = true ∧ d u = ne i := by
  unfold trn
  rw [bitsOf_bit, mem_fr, pB_iff]
theorem lt_of_bits {x P : Nat} (h : ∀ i, x.testBit i = true → i < P) : x < 2 ^ P := Nat.lt_pow_two_of_testBit _ (fun i hi => by
  cases e : x.testBit i
  · rfl
  · have := h i e; omega)
theorem bit_ex {x P : Nat} (h0 : 0 < x) (h : x < 2 ^ P) : ∃ u, u < P ∧ x.testBit u = true := by
  obtain ⟨u, hu⟩ := Nat.exists_testBit_of_ne_zero (x := x) (by omega)
  refine ⟨u, ?_, hu⟩
  apply Classical.byContradiction
  intro q
  rw [Nat.testBit_lt_two_pow (Nat.lt_of_lt_of_le h (Nat.pow_le_pow_right (by decide) (by omega)))] at hu
  cases hu
theorem bit_pos {x u : Nat} (h : x.testBit u = true) : 0 < x := by
  apply Classical.byContradiction
  intro q
  rw [show x = 0 by omega, Nat.zero_testBit] at h
  cases h
/-- the first P nodes are the first P of the seven -/
def First (d : Nat → Nat) (P : Nat) : Prop := (∀ v, v < P → ∃ i, i < P ∧ d v = ne i) ∧ (∀ i, i < P → ∃ v, v < P ∧ d v = ne i) ∧ ∀ u v, u < P → v < P → d u = d v → u = v
theorem P128 {P x : Nat} (hP : P ≤ 7) (h : x < 2 ^ P) : x < 128 := Nat.lt_of_lt_of_le h (Nat.pow_le_pow_right (n := 2) (j := 7) (by decide) hP)
theorem trm_un {d : Nat → Nat} {P x : Nat} (hP : P ≤ 7) (h : Un d P x) : nanti (trm d P x) = true := by
  have lt : trm d P x < 2 ^ P := lt_of_bits (fun i hi => (trm_bit.mp hi).1)
  rw [nanti_ok (P128 hP lt)]
  intro i j hi hj hij q
  obtain ⟨i1, u, u1, u2, u3⟩ := trm_bit.mp hi
  obtain ⟨j1, v, v1, v2, v3⟩ := trm_bit.mp hj
  refine h u v u1 v1 u2 v2 (fun e => hij ?_) (by rw [u3, v3]; exact q)
  rw [e, v3] at u3
  exact (ne_inj (by omega) (by omega) u3).symm
theorem trm_fits {d : Nat → Nat} {P x y : Nat} (hP : P ≤ 7) (hx : x < 2 ^ P) (hy : y < 2 ^ P) (F : First d P) : Fits (NS d x) (NS d y) (nG (trm d P x) (trm d P y)) := by
  have bx : ∀ z, z < 2 ^ P → ∀ u, z.testBit u = true → u < P := fun z hz u hu => by
    apply Classical.byContradiction
    intro q
    rw [Nat.testBit_lt_two_pow (Nat.lt_of_lt_of_le hz (Nat.pow_le_pow_right (by decide) (by omega)))] at hu
    cases hu
  have to : ∀ z, z < 2 ^ P → ∀ g, NS d z g → ∃ i, i < 7 ∧ (trm d P z).testBit i = true ∧ ne i = g := by
    rintro z hz g ⟨u, h1, rfl⟩
    obtain ⟨i, i1, i2⟩ := F.1 u (bx z hz u h1)
    exact ⟨i, by omega, trm_bit.mpr ⟨i1, u, bx z hz u h1, h1, i2⟩, i2.symm⟩
  have fro : ∀ z i, (trm d P z).testBit i = true → NS d z (ne i) := by
    intro z i hi
    obtain ⟨i1, u, u1, u2, u3⟩ := trm_bit.mp hi
    exact ⟨u, u2, u3⟩
  refine ⟨fun g hg => ?_, fun g hg => ?_, fun g hg => ?_, fun g hg => ?_⟩
  · obtain ⟨i, _, i2, rfl⟩ := op_nGL.mp hg
    exact ⟨_, fro x i i2, geq_rfl _⟩
  · obtain ⟨i, i1, i2, rfl⟩ := to x hx g hg
    exact ⟨_, op_nGL.mpr ⟨i, i1, i2, rfl⟩, geq_rfl _⟩
  · obtain ⟨i, _, i2, rfl⟩ := op_nGR.mp hg
    exact ⟨_, fro y i i2, geq_rfl _⟩
  · obtain ⟨i, i1, i2, rfl⟩ := to y hy g hg
    exact ⟨_, op_nGR.mpr ⟨i, i1, i2, rfl⟩, geq_rfl _⟩
theorem trn_fits {d : Nat → Nat} {P l r : Nat} (hP : P ≤ 7) (hl : l < 2 ^ P) (hr : r < 2 ^ P) (F : First d P) : Fits (NS d (trn d P l)) (NS d (trn d P r)) (nG l r) := by
  have bx : ∀ z, z < 2 ^ P → ∀ u, z.testBit u = true → u < P := fun z hz u hu => by
    apply Classical.byContradiction
    intro q
    rw [Nat.testBit_lt_two_pow (Nat.lt_of_lt_of_le hz (Nat.pow_le_pow_right (by decide) (by omega)))] at hu
    cases hu
  have to : ∀ z g, NS d (trn d P z) g → ∃ i, i < 7 ∧ z.testBit i = true ∧ ne i = g := by
    rintro z g ⟨u, h1, rfl⟩
    obtain ⟨_, i, i1, i2, i3⟩ := trn_bit.mp h1
    exact ⟨i, by omega, i2, i3.symm⟩
  have fro : ∀ z, z < 2 ^ P → ∀ i, z.testBit i = true → NS d (trn d P z) (ne i) := by
    intro z hz i hi
    have i1 := bx z hz i hi
    obtain ⟨v, v1, v2⟩ := F.2.1 i i1
    exact ⟨v, trn_bit.mpr ⟨v1, i, i1, hi, v2⟩, v2⟩
  refine ⟨fun g hg => ?_, fun g hg => ?_, fun g hg => ?_, fun g hg => ?_⟩
  · obtain ⟨i, _, i2, rfl⟩ := op_nGL.mp hg
    exact ⟨_, fro l hl i i2, geq_rfl _⟩
  · obtain ⟨i, i1, i2, rfl⟩ := to l g hg
    exact ⟨_, op_nGL.mpr ⟨i, i1, i2, rfl⟩, geq_rfl _⟩
  · obtain ⟨i, _, i2, rfl⟩ := op_nGR.mp hg
    exact ⟨_, fro r hr i i2, geq_rfl _⟩
  · obtain ⟨i, i1, i2, rfl⟩ := to r g hg
    exact ⟨_, op_nGR.mpr ⟨i, i1, i2, rfl⟩, geq_rfl _⟩
theorem trn_un {d : Nat → Nat} {P l : Nat} (hP : P ≤ 7) (hl : l < 2 ^ P) (F : First d P) (h : nanti l = true) : Un d P (trn d P l) := by
  rw [nanti_ok (P128 hP hl)] at h
  intro u v hu hv bu bv huv q
  obtain ⟨_, i, i1, i2, i3⟩ := trn_bit.mp bu
  obtain ⟨_, j, j1, j2, j3⟩ := trn_bit.mp bv
  refine h i j i2 j2 (fun e => huv (F.2.2 u v hu hv ?_)) (by rw [← i3, ← j3]; exact q)
  rw [i3, j3, e]
/-- which pairs of masks have been seen -/
def Seen (P a b x y : Nat) : Prop := 0 < x ∧ 0 < y ∧ ((x < a ∧ y < 2 ^ P) ∨ (x = a ∧ y < b))
theorem nodup_mapS {f : Nat × Nat → Nat} : ∀ {l : List (Nat × Nat)}, l.Nodup → (∀ x, x ∈ l → ∀ y, y ∈ l → f x = f y → x = y) → (l.map f).Nodup
  | [], _, _ => List.nodup_nil
  | a :: l, h, hf => by
    rw [List.nodup_cons] at h
    rw [List.map_cons, List.nodup_cons]
    refine ⟨fun q => ?_, nodup_mapS h.2 (fun x hx y hy => hf x (List.mem_cons_of_mem _ hx) y (List.mem_cons_of_mem _ hy))⟩
    obtain ⟨b, hb, e⟩ := List.mem_map.mp q
    exact h.1 (by rw [hf a (List.mem_cons_self ..) b (List.mem_cons_of_mem _ hb) e.symm]; exact hb)
/-- a day under way -/
def AD (m0 : Mem) (P : Nat) (S : List (Nat × Nat)) (a b N : Nat) (m : Mem) : Prop := YI m N ∧ mGet m 4 14 = 0 ∧ P ≤ N ∧ (∀ v, v < P → yden m v = yden m0 v) ∧ (∀ v, v < N → ∃ s, s ∈ S ∧ yden m v = nG s.1 s.2) ∧ Fr m0 m SY ∧ m.2.2 = m0.2.2 ∧ ∀ x y, Seen P a b x y → Un (yden m0) P x → Un (yden m0) P y → ∃ v, v < N ∧ ∀ g, Fits (NS (yden m0) x) (NS (yden m0) y) g → geq (yden m v) g
theorem AD.le {m0 m : Mem} {P a b N : Nat} {S : List (Nat × Nat)} (h : AD m0 P S a b N m) : N ≤ S.length := by
  obtain ⟨Y, _, _, _, h5, _⟩ := h
  have := nodup_le ((List.range N).map (yden m)) (S.map (fun s => nG s.1 s.2)) (nodup_map List.nodup_range (fun a ha b hb e => Y.1.2.2.2.2.2.2 a b (List.mem_range.mp ha) (List.mem_range.mp hb) e)) (fun x hx => by
    obtain ⟨v, hv, rfl⟩ := List.mem_map.mp hx
    obtain ⟨s, s1, s2⟩ := h5 v (List.mem_range.mp hv)
    exact List.mem_map.mpr ⟨s, s1, s2.symm⟩)
  rw [List.length_map, List.length_map, List.length_range] at this
  exact this
theorem AD.seen {m0 m : Mem} {P a b a' b' N : Nat} {S : List (Nat × Nat)} (h : AD m0 P S a b N m) (q : ∀ x y, Seen P a' b' x y → Un (yden m0) P x → Un (yden m0) P y → Seen P a b x y) : AD m0 P S a' b' N m := ⟨h.1, h.2.1, h.2.2.1, h.2.2.2.1, h.2.2.2.2.1, h.2.2.2.2.2.1, h.2.2.2.2.2.2.1, fun x y s ux uy => h.2.2.2.2.2.2.2 x y (q x y s ux uy) ux uy⟩
theorem ydUn {m m0 : Mem} {P x : Nat} (h : ∀ v, v < P → yden m v = yden m0 v) : Un (yden m) P x ↔ Un (yden m0) P x := by
  constructor
  · intro q i j hi hj a b c
    rw [← h i hi, ← h j hj]; exact q i j hi hj a b c
  · intro q i j hi hj a b c
    rw [h i hi, h j hj]; exact q i j hi hj a b c
theorem NS_cong {d d' : Nat → Nat} {P x : Nat} (hx : x < 2 ^ P) (h : ∀ v, v < P → d v = d' v) (z : Nat) : NS d x z ↔ NS d' x z := by
  have bx : ∀ u, x.testBit u = true → u < P := fun u hu => by
    apply Classical.byContradiction
    intro q
    rw [Nat.testBit_lt_two_pow (Nat.lt_of_lt_of_le hx (Nat.pow_le_pow_right (by decide) (by omega)))] at hu
    cases hu
  constructor
  · rintro ⟨u, h1, h2⟩; exact ⟨u, h1, by rw [← h u (bx u h1)]; exact h2⟩
  · rintro ⟨u, h1, h2⟩; exact ⟨u, h1, by rw [h u (bx u h1)]; exact h2⟩
set_option maxHeartbeats 1000000 in
theorem addDay_ok {n P : Nat} {S : List (Nat × Nat)} {m : Mem} (hn : 300 < n) (hP : 1 ≤ P ∧ P ≤ 7) (Y : YI m P) (hs : mGet m 4 14 = 0) (F : First (yden m) P) (D : Day P S) (hS : S.length ≤ 100) : Ok (f_X3_addDay n (P : Int) m) (fun v m' => v = (S.length : Int) ∧ YI m' S.length ∧ mGet m' 4 14 = 0 ∧ (∀ v, v < S.length → ∃ s, s ∈ S ∧ yden m' v = nG s.1 s.2) ∧ (∀ s, s ∈ S → ∃ v, v < S.length ∧ yden m' v = nG s.1 s.2) ∧ Fr m m' SY ∧ m'.2.2 = m.2.2) := by
  obtain ⟨D1, D2, D3, D4, D5⟩ := D
  have p2 : 2 ^ P ≤ 128 := Nat.pow_le_pow_right (n := 2) (j := 7) (by decide) hP.2
  have pp : 0 < 2 ^ P := Nat.pow_pos (by decide)
  have sh : ishl 1 (P : Int) = ((2 ^ P : Nat) : Int) := by
    have := ishl_nat (a := 1) (k := P) (by omega) (by omega)
    rw [Nat.one_mul] at this
    exact this
  unfold f_X3_addDay
  dsimp only [nm, jn]
  rw [w32_id (x := (P : Int) - 1) (by omega) (by omega), sh]
  have start : AD m P S 1 1 P m := by
    refine ⟨Y, hs, Nat.le_refl _, fun _ _ => rfl, fun v hv => ?_, Fr.rf _ _, rfl, fun x y h => ?_⟩
    · obtain ⟨i, i1, i2⟩ := F.1 v hv
      exact ⟨_, D3 i i1, by rw [i2, ne_G i (by omega)]⟩
    · unfold Seen at h; omega
  refine ok_up2 (2 ^ P) (fun a v2 m1 => 0 < a ∧ ∃ N, AD m P S a 1 N m1 ∧ v2 = (N : Int) - 1) (fun w6 a v2 m1 ha hI hw => ?_) (fun w6 v2 m1 hI => ?_) n 1 ((P : Int) - 1) m (by omega) ⟨by decide, P, start, rfl⟩ (by omega)
  · obtain ⟨a0, N, A, rfl⟩ := hI
    have NS' := A.le
    rw [if_pos (by omega), k_1 (by omega)]
    refine ok_cal (isUnordered_ok hn A.1 A.2.2.1 hP.2 (show a < 128 by omega)) (fun _ m2 h2 => ?_)
    obtain ⟨rfl, b, rfl, hb⟩ := h2
    rw [ydUn A.2.2.2.1] at hb
    cases b
    · rw [if_pos (show b2i false = 0 from rfl)]
      refine hw _ _ ⟨by omega, N, A.seen (fun x y s ux uy => ?_), rfl⟩
      unfold Seen at s ⊢
      refine ⟨s.1, s.2.1, ?_⟩
      by_cases q : x = a
      · rw [q] at ux; exact absurd (hb.mpr ux) (by decide)
      · omega
    · rw [if_neg (show ¬ b2i true = 0 by decide)]
      have ua := hb.mp rfl
      refine ok_up2 (2 ^ P) (fun b v2 m3 => 0 < b ∧ ∃ N, AD m P S a b N m3 ∧ v2 = (N : Int) - 1) (fun w25 b v2 m3 hb3 hJ hw25 => ?_) (fun w25 v2 m3 hJ => ?_) n 1 ((N : Int) - 1) m2 (by omega) ⟨by decide, N, A, rfl⟩ (by omega)
      · obtain ⟨b0, N3, A3, rfl⟩ := hJ
        have NS3 := A3.le
        rw [if_pos (by omega), k_1 (by omega)]
        refine ok_cal (isUnordered_ok hn A3.1 A3.2.2.1 hP.2 (show b < 128 by omega)) (fun _ m4 h4 => ?_)
        obtain ⟨rfl, c, rfl, hc⟩ := h4
        rw [ydUn A3.2.2.2.1] at hc
        cases c
        · rw [if_pos (show b2i false = 0 from rfl)]
          refine hw25 _ _ ⟨by omega, N3, A3.seen (fun x y s ux uy => ?_), rfl⟩
          unfold Seen at s ⊢
          refine ⟨s.1, s.2.1, ?_⟩
          by_cases q : y = b
          · rw [q] at uy; exact absurd (hc.mpr uy) (by decide)
          · omega
        · rw [if_neg (show ¬ b2i true = 0 by decide)]
          have ub := hc.mp rfl
          have bx : ∀ x, x < 2 ^ P → ∀ u, x.testBit u = true → u < N3 := fun x hx u hu => by
            have := A3.2.2.1
            apply Classical.byContradiction
            intro q
            rw [Nat.testBit_lt_two_pow (Nat.lt_of_lt_of_le hx (Nat.pow_le_pow_right (by decide) (by omega)))] at hu
            cases hu
          refine ok_cal (beginWith_ok hn A3.1 (show a < 128 by omega) (show b < 128 by omega) (bx a ha) (bx b hb3)) (fun _ m5 h5 => ?_)
          obtain ⟨G5, F5⟩ := h5
          have G5' : YG m5 N3 (NS (yden m) a) (NS (yden m) b) := G5.iff (fun z => (NS_cong ha A3.2.2.2.1 z).symm) (fun z => (NS_cong hb3 A3.2.2.2.1 z).symm)
          have ft := trm_fits hP.2 ha hb3 F
          refine ok_cal (gof_ok hn G5' (by omega) ft) (fun v6 m6 h6 => ?_)
          obtain ⟨u, N6, rfl, hu, hN6, Y6, s6, F6, g6⟩ := h6
          have F36 := F5.tr F6
          have cu := Y6.1.2.2.2.2.2.1 u hu
          have pos : ∀ x, 0 < x → x < 2 ^ P → 0 < trm (yden m) P x := fun x h0 h1 => by
            obtain ⟨v, v1, v2⟩ := bit_ex h0 h1
            obtain ⟨i, i1, i2⟩ := F.1 v v1
            exact bit_pos (u := i) (trm_bit.mpr ⟨i1, v, v1, v2, i2⟩)
          have ltm : ∀ x, trm (yden m) P x < 2 ^ P := fun x => lt_of_bits (fun i hi => (trm_bit.mp hi).1)
          obtain ⟨s, s1, s2⟩ := D1 _ _ (pos a a0 ha) (ltm a) (pos b b0 hb3) (ltm b) (trm_un hP.2 ua) (trm_un hP.2 ub)
          have eu : yden m6 u = nG s.1 s.2 := can_uniq cu (D5 s s1).2.2 (g6.tr s2)
          have im : imax ((N3 : Int) - 1) (u : Int) = (N6 : Int) - 1 := by
            unfold imax
            by_cases q : (N3 : Int) - 1 < (u : Int)
            · rw [if_pos q]; omega
            · rw [if_neg q]; omega
          rw [im]
          refine hw25 _ m6 ⟨by omega, N6, ⟨Y6, s6, by have := A3.2.2.1; omega, fun v hv => by rw [F36.old (by have := A3.2.2.1; omega)]; exact A3.2.2.2.1 v hv, fun v hv => ?_, A3.2.2.2.2.2.1.tr (F36.toFr (by omega)), F36.2.1.trans A3.2.2.2.2.2.2.1, fun x y sn ux uy => ?_⟩, rfl⟩
          · by_cases q : v < N3
            · rw [F36.old q]; exact A3.2.2.2.2.1 v q
            · rw [show v = u by omega]; exact ⟨s, s1, eu⟩
          · by_cases q : x = a ∧ y = b
            · rw [q.1, q.2]
              refine ⟨u, hu, fun g fg => g6.tr ?_⟩
              -- games that fit the same are as good
              obtain ⟨f1, f2, f3, f4⟩ := fg
              obtain ⟨t1, t2, t3, t4⟩ := ft
              constructor
              · refine gle_congr (fun x hx => ?_) (fun y hy => ?_)
                · obtain ⟨z, z1, z2⟩ := t1 x hx
                  obtain ⟨w, w1, w2⟩ := f2 z z1
                  exact ⟨w, w1, (z2.sy.tr w2).1⟩
                · obtain ⟨z, z1, z2⟩ := f3 y hy
                  obtain ⟨w, w1, w2⟩ := t4 z z1
                  exact ⟨w, w1, (w2.sy.tr z2).1⟩
              · refine gle_congr (fun x hx => ?_) (fun y hy => ?_)
                · obtain ⟨z, z1, z2⟩ := f1 x hx
                  obtain ⟨w, w1, w2⟩ := t2 z z1
                  exact ⟨w, w1, (z2.sy.tr w2).1⟩
                · obtain ⟨z, z1, z2⟩ := t3 y hy
                  obtain ⟨w, w1, w2⟩ := f4 z z1
                  exact ⟨w, w1, (w2.sy.tr z2).1⟩
            · obtain ⟨v, v1, v2⟩ := A3.2.2.2.2.2.2.2 x y (by unfold Seen at sn ⊢; omega) ux uy
              exact ⟨v, by omega, fun g fg => by rw [F36.old v1]; exact v2 g fg⟩
      · obtain ⟨_, N3, A3, rfl⟩ := hJ
        rw [if_neg (by omega)]
        refine hw _ _ ⟨by omega, N3, A3.seen (fun x y s _ _ => ?_), rfl⟩
        unfold Seen at s ⊢
        omega
  · obtain ⟨_, N, A, rfl⟩ := hI
    rw [if_neg (by omega)]
    have NS' := A.le
    obtain ⟨Y1, s1, PN, o1, in1, f1, z1, sn⟩ := A
    have reach : ∀ s, s ∈ S → ∃ v, v < N ∧ yden m1 v = nG s.1 s.2 := by
      intro s hs
      rcases D2 s hs with q | ⟨a1, a2, a3, b1, b2, b3⟩
      · obtain ⟨v, v1, v2⟩ := F.2.1 0 (by omega)
        refine ⟨v, by omega, ?_⟩
        rw [o1 v v1, v2, q]
        exact ne_G 0 (by decide)
      · have lt : ∀ l, trn (yden m) P l < 2 ^ P := fun l => lt_of_bits (fun i hi => (trn_bit.mp hi).1)
        have pos : ∀ l, 0 < l → l < 2 ^ P → 0 < trn (yden m) P l := fun l h0 h1 => by
          obtain ⟨i, i1, i2⟩ := bit_ex h0 h1
          obtain ⟨v, v1, v2⟩ := F.2.1 i i1
          exact bit_pos (u := v) (trn_bit.mpr ⟨v1, i, i1, i2, v2⟩)
        obtain ⟨v, v1, v2⟩ := sn (trn (yden m) P s.1) (trn (yden m) P s.2) ⟨pos _ a1 a2, pos _ b1 b2, Or.inl ⟨lt _, lt _⟩⟩ (trn_un hP.2 a2 F a3) (trn_un hP.2 b2 F b3)
        exact ⟨v, v1, can_uniq (Y1.1.2.2.2.2.2.1 v v1) (D5 s hs).2.2 (v2 _ (trn_fits hP.2 a2 b2 F))⟩
    have eN : N = S.length := by
      have nd : (S.map (fun s => nG s.1 s.2)).Nodup   := nodup_mapS D4 (fun a ha b hb e => by
        obtain ⟨p, q⟩ := nG_inj (D5 a ha).1 (D5 a ha).2.1 (D5 b hb).1 (D5 b hb).2.1 e
        exact Prod.ext p q)
      have := nodup_len (nodup_map List.nodup_range (fun a ha b hb e => Y1.1.2.2.2.2.2.2 a b (List.mem_range.mp ha) (List.mem_range.mp hb) e) : ((List.range N).map (yden m1)).Nodup) nd (fun x => by
        rw [List.mem_map, List.mem_map]
        constructor
        · rintro ⟨v, hv, rfl⟩
          obtain ⟨s, q1, q2⟩ := in1 v (List.mem_range.mp hv)
          exact ⟨s, q1, q2.symm⟩
        · rintro ⟨s, q1, rfl⟩
          obtain ⟨v, v1, v2⟩ := reach s q1
          exact ⟨v, List.mem_range.mpr v1, v2⟩)
      rw [List.length_map, List.length_map, List.length_range] at this
      exact this
    rw [w32_id (x := (N : Int) - 1 + 1) (by omega) (by omega), ← eN]
    exact ok_rt ⟨by omega, Y1, s1, in1, reach, f1, z1⟩
