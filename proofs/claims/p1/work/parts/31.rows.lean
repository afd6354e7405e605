/-! rows of 256 bits, as the Yard keeps them: four longs each -/
def row (m : Mem) (a r : Nat) : Nat := 2 ^ 64 * (2 ^ 64 * (2 ^ 64 * lGet m a (4 * r + 3) + lGet m a (4 * r + 2)) + lGet m a (4 * r + 1)) + lGet m a (4 * r)
theorem row_bit (m : Mem) (a r b : Nat) : (row m a r).testBit b = if b < 256 then (lGet m a (4 * r + b / 64)).testBit (b % 64) else false := by
  have h0 := lGet_lt m a (4 * r)
  have h1 := lGet_lt m a (4 * r + 1)
  have h2 := lGet_lt m a (4 * r + 2)
  have h3 := lGet_lt m a (4 * r + 3)
  unfold row
  rw [Nat.testBit_two_pow_mul_add _ h0, Nat.testBit_two_pow_mul_add _ h1, Nat.testBit_two_pow_mul_add _ h2]
  by_cases q0 : b < 64
  · rw [if_pos q0, if_pos (by omega), show b / 64 = 0 by omega, show b % 64 = b by omega, Nat.add_zero]
  · rw [if_neg q0]
    by_cases q1 : b - 64 < 64
    · rw [if_pos q1, if_pos (by omega), show b / 64 = 1 by omega, show b % 64 = b - 64 by omega]
    · rw [if_neg q1]
      by_cases q2 : b - 64 - 64 < 64
      · rw [if_pos q2, if_pos (by omega), show b / 64 = 2 by omega, show b % 64 = b - 64 - 64 by omega]
      · rw [if_neg q2]
        by_cases q3 : b < 256
        · rw [if_pos q3, show b / 64 = 3 by omega, show b % 64 = b - 64 - 64 - 64 by omega]
        · rw [if_neg q3]
          exact tb_hi h3 (by omega)
theorem row_ext {m m' : Mem} {a a' r r' : Nat} (h : ∀ k, k < 4 → lGet m' a' (4 * r' + k) = lGet m a (4 * r + k)) : row m' a' r' = row m a r := by
  unfold row
  rw [h 3 (by decide), h 2 (by decide), h 1 (by decide)]
  have := h 0 (by decide)
  rw [Nat.add_zero, Nat.add_zero] at this
  rw [this]
theorem row_0 {m : Mem} {a r : Nat} (h : ∀ k, k < 4 → lGet m a (4 * r + k) = 0) : row m a r = 0 := by
  unfold row
  have := h 0 (by decide)
  rw [Nat.add_zero] at this
  rw [h 3 (by decide), h 2 (by decide), h 1 (by decide), this]
theorem row_hi {m : Mem} {a r b : Nat} (h : 256 ≤ b) : (row m a r).testBit b = false := by rw [row_bit, if_neg (by omega)]
/-- numbers and cells stay -/
def SameI (m m' : Mem) : Prop := (∀ a i, mGet m' a i = mGet m a i) ∧ m'.2.2 = m.2.2
theorem SameI.rf (m : Mem) : SameI m m := ⟨fun _ _ => rfl, rfl⟩
theorem SameI.tr {a b c : Mem} (x : SameI a b) (y : SameI b c) : SameI a c := ⟨fun i j => (y.1 i j).trans (x.1 i j), y.2.trans x.2⟩
theorem SameI.kind {m m' : Mem} (h : SameI m m') (a : Nat) : sKind m' a = sKind m a := by
  unfold sKind
  rw [h.2]
theorem SameI.lSet (m : Mem) (a i v : Nat) : SameI m (lSet m a i v) := ⟨fun _ _ => rfl, rfl⟩
/-- one row becomes x -/
def RowUp (m m' : Mem) (a r x : Nat) : Prop := SameI m m' ∧ ∀ a' r', row m' a' r' = if a' = a ∧ r' = r then x else row m a' r'
theorem RowUp.at {m m' : Mem} {a r x : Nat} (h : RowUp m m' a r x) : row m' a r = x := by rw [h.2, if_pos ⟨rfl, rfl⟩]
theorem RowUp.ne {m m' : Mem} {a r x a' r' : Nat} (h : RowUp m m' a r x) (hn : ¬ (a' = a ∧ r' = r)) : row m' a' r' = row m a' r' := by rw [h.2, if_neg hn]
theorem RowUp.word {m : Mem} {a r k x v : Nat} (hk : k < 4) (hx : ∀ b, 256 ≤ b → x.testBit b = false) (h : ∀ b, b < 256 → x.testBit b = if b / 64 = k then v.testBit (b % 64) else (row m a r).testBit b) : RowUp m (lSet m a (r * 4 + k) v) a r x := by
  refine ⟨SameI.lSet _ _ _ _, fun a' r' => ?_⟩
  by_cases e : a' = a ∧ r' = r
  · rw [if_pos e]
    obtain ⟨rfl, rfl⟩ := e
    apply Nat.eq_of_testBit_eq
    intro b
    rw [row_bit]
    by_cases hb : b < 256
    · rw [if_pos hb, h b hb, lGet_lSet]
      by_cases hk2 : b / 64 = k
      · rw [if_pos ⟨rfl, by omega⟩, if_pos hk2, tb_mod _ (Nat.mod_lt _ (by decide))]
      · rw [if_neg (fun q => hk2 (by omega)), if_neg hk2, row_bit, if_pos hb]
    · rw [if_neg hb, hx b (by omega)]
  · rw [if_neg e]
    refine row_ext (fun j hj => ?_)
    rw [lGet_lSet, if_neg (fun q => e ⟨q.1, by omega⟩)]
theorem RowUp.words {m m' : Mem} {a r x : Nat} (hs : SameI m m') (hx : ∀ b, 256 ≤ b → x.testBit b = false) (h1 : ∀ k, k < 4 → ∀ j, j < 64 → (lGet m' a (4 * r + k)).testBit j = x.testBit (64 * k + j)) (h2 : ∀ a' j, ¬ (a' = a ∧ 4 * r ≤ j ∧ j < 4 * r + 4) → lGet m' a' j = lGet m a' j) : RowUp m m' a r x := by
  refine ⟨hs, fun a' r' => ?_⟩
  by_cases e : a' = a ∧ r' = r
  · rw [if_pos e]
    obtain ⟨rfl, rfl⟩ := e
    apply Nat.eq_of_testBit_eq
    intro b
    rw [row_bit]
    by_cases hb : b < 256
    · rw [if_pos hb, h1 (b / 64) (by omega) (b % 64) (Nat.mod_lt _ (by decide))]
      congr 1
      omega
    · rw [if_neg hb, hx b (by omega)]
  · rw [if_neg e]
    refine row_ext (fun j hj => ?_)
    exact h2 a' _ (fun q => e ⟨q.1, by omega⟩)
def b2i (b : Bool) : Int := if b then 1 else 0
theorem b2i_01 (b : Bool) : b2i b = 0 ∨ b2i b = 1 := by cases b <;> simp [b2i]
theorem b2i_0 {b : Bool} : b2i b = 0 ↔ b = false := by cases b <;> simp [b2i]
theorem y_ix {r b : Nat} (hr : r < 1000000) (hb : b < 1000000) : w32 (w32 ((r : Int) * 4) + ishr (b : Int) 6) = ((r * 4 + b / 64 : Nat) : Int) := by
  have h1 : ishr (b : Int) 6 = ((b / 64 : Nat) : Int) := ishr_nat (b := b) (k := 6) (by omega) (by decide)
  have h2 : w32 ((r : Int) * 4) = (r : Int) * 4 := w32_id (by omega) (by omega)
  rw [h2, h1, w32_id (by omega) (by omega)]
  omega
theorem y_63 (b : Nat) : iand (b : Int) 63 = ((b % 64 : Nat) : Int) := by rw [iand_63]; omega
theorem has_eq {n a r b len : Nat} {m : Mem} (hk : sKind m a = (2, len)) (hr : 4 * r + 4 ≤ len) (hl : len < 1000000) (hb : b < 256) : f_X9_has n a (r : Int) (b : Int) m = some (b2i ((row m a r).testBit b), m) := by
  unfold f_X9_has
  dsimp only [nm, jn]
  rw [y_ix (by omega) (by omega), if_neg (by omega), lenA_ok hk (by decide) (by decide) (by omega), if_pos (by omega), ldJ_ok hk (by omega), y_63]
  have e : (row m a r).testBit b = (lGet m a (r * 4 + b / 64)).testBit (b % 64) := by rw [row_bit, if_pos hb, Nat.mul_comm 4 r]
  have hj := jbit (x := lGet m a (r * 4 + b / 64)) (k := b % 64) (lGet_lt _ _ _) (Nat.mod_lt _ (by decide))
  rw [e]
  by_cases q : (lGet m a (r * 4 + b / 64)).testBit (b % 64) = false
  · rw [if_pos (hj.mpr q), q]; rfl
  · have q2 : (lGet m a (r * 4 + b / 64)).testBit (b % 64) = true := by simpa using q
    rw [if_neg (fun w => q (hj.mp w)), q2]; rfl
theorem mark_ok {n a r b len : Nat} {m : Mem} (hk : sKind m a = (2, len)) (hr : 4 * r + 4 ≤ len) (hl : len < 1000000) (hb : b < 256) : Ok (f_X9_mark n a (r : Int) (b : Int) m) (fun _ m' => RowUp m m' a r (row m a r ||| 2 ^ b)) := by
  unfold f_X9_mark
  dsimp only [nm, jn]
  rw [y_ix (by omega) (by omega), if_neg (by omega), lenA_ok hk (by decide) (by decide) (by omega), if_pos (by omega), ldJ_ok hk (by omega), stJ_ok hk (by omega), y_63, jshl_1 (Nat.mod_lt _ (by decide))]
  refine ok_rt (RowUp.word (by omega) (fun c hc => ?_) (fun c hc => ?_))
  · rw [Nat.testBit_or, row_hi hc, tb_pow]
    simp
    omega
  · rw [Nat.testBit_or, tb_pow, row_bit, if_pos hc]
    by_cases h1 : c / 64 = b / 64
    · rw [if_pos h1, jor_bit _ _ (Nat.mod_lt _ (by decide)), tb_pow, Nat.mul_comm 4 r, h1]
      congr 1
      simp
      omega
    · rw [if_neg h1]
      have : ¬ b = c := fun q => h1 (by rw [q])
      simp [this]
theorem unmark_ok {n a r b len : Nat} {m : Mem} (hk : sKind m a = (2, len)) (hr : 4 * r + 4 ≤ len) (hl : len < 1000000) (hb : b < 256) : Ok (f_X9_unmark n a (r : Int) (b : Int) m) (fun _ m' => ∃ x, RowUp m m' a r x ∧ ∀ c, x.testBit c = ((row m a r).testBit c && decide (c ≠ b))) := by
  unfold f_X9_unmark
  dsimp only [nm, jn]
  rw [y_ix (by omega) (by omega), if_neg (by omega), lenA_ok hk (by decide) (by decide) (by omega), if_pos (by omega), ldJ_ok hk (by omega), stJ_ok hk (by omega), y_63, jshl_1 (Nat.mod_lt _ (by decide))]
  have hx : ∀ c, ((row m a r) ^^^ ((row m a r) &&& 2 ^ b)).testBit c = ((row m a r).testBit c && decide (c ≠ b)) := by
    intro c
    rw [Nat.testBit_xor, Nat.testBit_and, tb_pow]
    by_cases h1 : b = c
    · subst h1; simp
    · have h2 : ¬ c = b := fun q => h1 q.symm
      simp [h1, h2]
  refine ok_rt ⟨(row m a r) ^^^ ((row m a r) &&& 2 ^ b), RowUp.word (by omega) (fun c hc => ?_) (fun c hc => ?_), hx⟩
  · rw [hx, row_hi hc]; rfl
  · rw [hx]
    by_cases h1 : c / 64 = b / 64
    · rw [if_pos h1, jand_bit _ _ (Nat.mod_lt _ (by decide)), jxor_bit _ _ (Nat.mod_lt _ (by decide)), tb_pow, tb_ones (Nat.mod_lt _ (by decide)), row_bit, if_pos hc, Nat.mul_comm 4 r, h1]
      congr 1
      by_cases h2 : b % 64 = c % 64
      · have : c = b := by omega
        simp [h2, this]
      · have : ¬ c = b := fun q => h2 (by rw [q])
        simp [h2, this]
    · rw [if_neg h1]
      have : ¬ c = b := fun q => h1 (by rw [q])
      simp [this]
theorem z_4 {r : Nat} (hr : r < 1000000) : w32 ((r : Int) * 4) = ((4 * r : Nat) : Int) := by
  rw [w32_id (by omega) (by omega)]; omega
theorem z_4k {r k : Nat} (hr : r < 1000000) (hk : k < 1000000) : w32 (((4 * r : Nat) : Int) + (k : Int)) = ((4 * r + k : Nat) : Int) := by
  rw [w32_id (by omega) (by omega)]; omega
theorem k_1 {k : Nat} (hk : k < 1000000) : w32 ((k : Int) + 1) = ((k + 1 : Nat) : Int) := by
  rw [w32_id (by omega) (by omega)]; omega
/-- a set gets the bits of a row too -/
theorem join_ok {n s a r ls la : Nat} {m : Mem} (hn : 4 < n) (hsa : s ≠ a) (hs : sKind m s = (2, ls)) (hls : 4 ≤ ls) (hls2 : ls < 1000000) (ha : sKind m a = (2, la)) (hr : 4 * r + 4 ≤ la) (hla : la < 1000000) : Ok (f_X9_join n s a (r : Int) m) (fun _ m' => RowUp m m' s 0 (row m s 0 ||| row m a r)) := by
  unfold f_X9_join
  dsimp only [nm]
  rw [z_4 (by omega)]
  have hx : ∀ b, (row m s 0 ||| row m a r).testBit b = ((row m s 0).testBit b || (row m a r).testBit b) := fun b => Nat.testBit_or ..
  refine ok_up1 4 (fun i m1 => SameI m m1 ∧ (∀ k, k < 4 → k < i → ∀ j, j < 64 → (lGet m1 s k).testBit j = ((lGet m s k).testBit j || (lGet m a (4 * r + k)).testBit j)) ∧ ∀ a' j, ¬ (a' = s ∧ j < i) → lGet m1 a' j = lGet m a' j) (fun w i m1 hi hI hw => ?_) (fun w m1 hI => ?_) n 0 m (by decide) ⟨SameI.rf m, fun k _ hk => absurd hk (Nat.not_lt_zero _), fun _ _ _ => rfl⟩ (by omega)
  · obtain ⟨h1, h2, h3⟩ := hI
    have hs1 : sKind m1 s = (2, ls) := by rw [h1.kind]; exact hs
    have ha1 : sKind m1 a = (2, la) := by rw [h1.kind]; exact ha
    dsimp only [jn]
    rw [if_pos (by omega), lenA_ok hs1 (by decide) (by decide) (by omega), if_pos (by omega), if_neg (by omega), lenA_ok ha1 (by decide) (by decide) (by omega), z_4k (by omega) (by omega), if_pos (by omega), ldJ_ok hs1 (by omega), ldJ_ok ha1 (by omega), stJ_ok hs1 (by omega), k_1 (by omega)]
    refine hw _ ⟨h1.tr (SameI.lSet _ _ _ _), fun k hk4 hk j hj => ?_, fun a' j hn2 => ?_⟩
    · rw [lGet_lSet]
      by_cases e : k = i
      · subst e
        rw [if_pos ⟨rfl, rfl⟩, tb_mod _ hj, jor_bit _ _ hj, h3 s k (by omega), h3 a (4 * r + k) (fun q => hsa q.1.symm)]
      · rw [if_neg (fun q => e q.2), h2 k hk4 (by omega) j hj]
    · rw [lGet_lSet, if_neg (fun q => hn2 ⟨q.1, by omega⟩), h3 a' j (fun q => hn2 ⟨q.1, by omega⟩)]
  · obtain ⟨h1, h2, h3⟩ := hI
    dsimp only [jn]
    rw [if_neg (by decide)]
    refine ok_rt (RowUp.words h1 (fun b hb => by rw [hx, row_hi hb, row_hi hb]; rfl) (fun k hk j hj => ?_) (fun a' j hn2 => h3 a' j (fun q => hn2 ⟨q.1, by omega, by omega⟩)))
    rw [show 4 * 0 + k = k by omega, h2 k hk hk j hj, hx, row_bit, row_bit, if_pos (by omega), if_pos (by omega), show (64 * k + j) / 64 = k by omega, show (64 * k + j) % 64 = j by omega, show 4 * 0 + k = k by omega]
/-- a row becomes a set -/
theorem replace_ok {n s a r ls la : Nat} {m : Mem} (hn : 4 < n) (hsa : s ≠ a) (hs : sKind m s = (2, ls)) (hls : 4 ≤ ls) (hls2 : ls < 1000000) (ha : sKind m a = (2, la)) (hr : 4 * r + 4 ≤ la) (hla : la < 1000000) : Ok (f_X9_replace n a (r : Int) s m) (fun _ m' => RowUp m m' a r (row m s 0)) := by
  unfold f_X9_replace
  dsimp only [nm]
  rw [z_4 (by omega)]
  refine ok_up1 4 (fun i m1 => SameI m m1 ∧ (∀ k, k < 4 → k < i → lGet m1 a (4 * r + k) = lGet m s k) ∧ ∀ a' j, ¬ (a' = a ∧ 4 * r ≤ j ∧ j < 4 * r + i) → lGet m1 a' j = lGet m a' j) (fun w i m1 hi hI hw => ?_) (fun w m1 hI => ?_) n 0 m (by decide) ⟨SameI.rf m, fun k _ hk => absurd hk (Nat.not_lt_zero _), fun _ _ _ => rfl⟩ (by omega)
  · obtain ⟨h1, h2, h3⟩ := hI
    have hs1 : sKind m1 s = (2, ls) := by rw [h1.kind]; exact hs
    have ha1 : sKind m1 a = (2, la) := by rw [h1.kind]; exact ha
    dsimp only [jn]
    rw [if_pos (by omega), lenA_ok hs1 (by decide) (by decide) (by omega), if_pos (by omega), if_neg (by omega), lenA_ok ha1 (by decide) (by decide) (by omega), z_4k (by omega) (by omega), if_pos (by omega), ldJ_ok hs1 (by omega), stJ_ok ha1 (by omega), k_1 (by omega)]
    refine hw _ ⟨h1.tr (SameI.lSet _ _ _ _), fun k hk4 hk => ?_, fun a' j hn2 => ?_⟩
    · rw [lGet_lSet]
      by_cases e : k = i
      · subst e
        rw [if_pos ⟨rfl, rfl⟩, Nat.mod_eq_of_lt (lGet_lt _ _ _), h3 s k (fun q => hsa q.1)]
      · rw [if_neg (fun q => e (by omega)), h2 k hk4 (by omega)]
    · rw [lGet_lSet, if_neg (fun q => hn2 ⟨q.1, by omega, by omega⟩), h3 a' j (fun q => hn2 ⟨q.1, q.2.1, by omega⟩)]
  · obtain ⟨h1, h2, h3⟩ := hI
    dsimp only [jn]
    rw [if_neg (by decide)]
    refine ok_rt (RowUp.words h1 (fun b hb => row_hi hb) (fun k hk j hj => ?_) (fun a' j hn2 => h3 a' j hn2))
    rw [h2 k hk hk, row_bit, if_pos (by omega), show (64 * k + j) / 64 = k by omega, show (64 * k + j) % 64 = j by omega, show 4 * 0 + k = k by omega]
/-- a set becomes empty -/
theorem fill0_ok {n a : Nat} {m : Mem} (hn : 4 < n) (ha : sKind m a = (2, 4)) : Ok (f_J7_fill_d0a16 n a 0 m) (fun _ m' => RowUp m m' a 0 0) := by
  unfold f_J7_fill_d0a16
  rw [lenA_ok ha (by decide) (by decide) (by decide)]
  refine ok_up1 4 (fun i m1 => SameI m m1 ∧ (∀ k, k < 4 → k < i → lGet m1 a k = 0) ∧ ∀ a' j, ¬ (a' = a ∧ j < i) → lGet m1 a' j = lGet m a' j) (fun w i m1 hi hI hw => ?_) (fun w m1 hI => ?_) n 0 m (by decide) ⟨SameI.rf m, fun k _ hk => absurd hk (Nat.not_lt_zero _), fun _ _ _ => rfl⟩ (by omega)
  · obtain ⟨h1, h2, h3⟩ := hI
    have ha1 : sKind m1 a = (2, 4) := by rw [h1.kind]; exact ha
    rw [if_pos (by omega), stJ_ok ha1 (by omega), k_1 (by omega)]
    refine hw _ ⟨h1.tr (SameI.lSet _ _ _ _), fun k hk4 hk => ?_, fun a' j hn2 => ?_⟩
    · rw [lGet_lSet]
      by_cases e : k = i
      · rw [if_pos ⟨rfl, e⟩]
      · rw [if_neg (fun q => e q.2), h2 k hk4 (by omega)]
    · rw [lGet_lSet, if_neg (fun q => hn2 ⟨q.1, by omega⟩), h3 a' j (fun q => hn2 ⟨q.1, by omega⟩)]
  · obtain ⟨h1, h2, h3⟩ := hI
    rw [if_neg (by decide)]
    refine ok_rt (RowUp.words h1 (fun b hb => Nat.zero_testBit _) (fun k hk j hj => ?_) (fun a' j hn2 => h3 a' j (fun q => hn2 ⟨q.1, by omega, by omega⟩)))
    rw [show 4 * 0 + k = k by omega, h2 k hk hk, Nat.zero_testBit, Nat.zero_testBit]
theorem row_ne0 {m : Mem} {a r k : Nat} (hk : k < 4) (h : lGet m a (4 * r + k) ≠ 0) : row m a r ≠ 0 := by
  intro h0
  apply h
  apply Nat.eq_of_testBit_eq
  intro j
  rw [Nat.zero_testBit]
  by_cases hj : j < 64
  · have := row_bit m a r (64 * k + j)
    rw [h0, Nat.zero_testBit, if_pos (by omega), show (64 * k + j) / 64 = k by omega, show (64 * k + j) % 64 = j by omega] at this
    exact this.symm
  · exact tb_hi (lGet_lt _ _ _) (by omega)
theorem meets_eq {n a r s la ls : Nat} {m : Mem} (hn : 4 < n) (hs : sKind m s = (2, ls)) (hls : 4 ≤ ls) (hls2 : ls < 1000000) (ha : sKind m a = (2, la)) (hr : 4 * r + 4 ≤ la) (hla : la < 1000000) : f_X9_meets n a (r : Int) s m = some (b2i (decide (row m a r &&& row m s 0 ≠ 0)), m) := by
  have hb : ∀ b, (row m a r &&& row m s 0).testBit b = ((row m a r).testBit b && (row m s 0).testBit b) := fun b => Nat.testBit_and ..
  have key : Ok (f_X9_meets n a (r : Int) s m) (fun v m' => m' = m ∧ v = b2i (decide (row m a r &&& row m s 0 ≠ 0))) := by
    unfold f_X9_meets
    dsimp only [nm]
    rw [z_4 (by omega)]
    refine ok_up1 4 (fun i m1 => m1 = m ∧ ∀ k, k < 4 → k < i → lGet m a (4 * r + k) &&& lGet m s k = 0) (fun w i m1 hi hI hw => ?_) (fun w m1 hI => ?_) n 0 m (by decide) ⟨rfl, fun k _ hk => absurd hk (Nat.not_lt_zero _)⟩ (by omega)
    · obtain ⟨rfl, h2⟩ := hI
      dsimp only [jn]
      rw [if_pos (by omega), lenA_ok hs (by decide) (by decide) (by omega), if_pos (by omega), if_neg (by omega), lenA_ok ha (by decide) (by decide) (by omega), z_4k (by omega) (by omega), if_pos (by omega), ldJ_ok ha (by omega), ldJ_ok hs (by omega), k_1 (by omega)]
      have e1 : jcmp (jand (lGet m1 a (4 * r + i)) (lGet m1 s i)) 0 = 0 ↔ lGet m1 a (4 * r + i) &&& lGet m1 s i = 0 := by
        rw [jcmp_0, Nat.mod_eq_of_lt (jand_lt _ _), jand_eq, Nat.mod_eq_of_lt (lGet_lt _ _ _), Nat.mod_eq_of_lt (lGet_lt _ _ _)]
      refine ok_ite (fun q => ?_) (fun q => ?_)
      · refine hw _ ⟨rfl, fun k hk4 hk => ?_⟩
        by_cases e : k = i
        · rw [e]; exact e1.mp q
        · exact h2 k hk4 (by omega)
      · refine ok_rtZ (Or.inr rfl) ⟨rfl, ?_⟩
        have h4 : row m1 a r &&& row m1 s 0 ≠ 0 := by
          intro h0
          apply q
          rw [e1]
          apply Nat.eq_of_testBit_eq
          intro j
          rw [Nat.zero_testBit, Nat.testBit_and]
          by_cases hj : j < 64
          · have h5 := hb (64 * i + j)
            rw [h0, Nat.zero_testBit, row_bit, row_bit, if_pos (by omega), if_pos (by omega), show (64 * i + j) / 64 = i by omega, show (64 * i + j) % 64 = j by omega, show 4 * 0 + i = i by omega] at h5
            exact h5.symm
          · rw [tb_hi (lGet_lt _ _ _) (by omega)]; rfl
        simp [b2i, h4]
    · obtain ⟨rfl, h2⟩ := hI
      dsimp only [jn]
      rw [if_neg (by decide)]
      refine ok_rtZ (Or.inl rfl) ⟨rfl, ?_⟩
      have h4 : row m1 a r &&& row m1 s 0 = 0 := by
        apply Nat.eq_of_testBit_eq
        intro b
        rw [hb, Nat.zero_testBit, row_bit, row_bit]
        by_cases hb2 : b < 256
        · rw [if_pos hb2, if_pos hb2, ← Nat.testBit_and, show 4 * 0 + b / 64 = b / 64 by omega, h2 (b / 64) (by omega) (by omega), Nat.zero_testBit]
        · rw [if_neg hb2]; rfl
      simp [b2i, h4]
  obtain ⟨v, m', h1, rfl, rfl⟩ := key
  exact h1
theorem isBare_eq {n a r la : Nat} {m : Mem} (hn : 4 < n) (ha : sKind m a = (2, la)) (hr : 4 * r + 4 ≤ la) (hla : la < 1000000) : f_X9_isBare n a (r : Int) m = some (b2i (decide (row m a r = 0)), m) := by
  have key : Ok (f_X9_isBare n a (r : Int) m) (fun v m' => m' = m ∧ v = b2i (decide (row m a r = 0))) := by
    unfold f_X9_isBare
    dsimp only [nm]
    rw [z_4 (by omega)]
    refine ok_up1 4 (fun i m1 => m1 = m ∧ ∀ k, k < 4 → k < i → lGet m a (4 * r + k) = 0) (fun w i m1 hi hI hw => ?_) (fun w m1 hI => ?_) n 0 m (by decide) ⟨rfl, fun k _ hk => absurd hk (Nat.not_lt_zero _)⟩ (by omega)
    · obtain ⟨rfl, h2⟩ := hI
      dsimp only [jn]
      rw [if_pos (by omega), if_neg (by omega), lenA_ok ha (by decide) (by decide) (by omega), z_4k (by omega) (by omega), if_pos (by omega), ldJ_ok ha (by omega), k_1 (by omega)]
      have e1 : jcmp (lGet m1 a (4 * r + i)) 0 = 0 ↔ lGet m1 a (4 * r + i) = 0 := by rw [jcmp_0, Nat.mod_eq_of_lt (lGet_lt _ _ _)]
      refine ok_ite (fun q => ?_) (fun q => ?_)
      · refine hw _ ⟨rfl, fun k hk4 hk => ?_⟩
        by_cases e : k = i
        · rw [e]; exact e1.mp q
        · exact h2 k hk4 (by omega)
      · refine ok_rtZ (Or.inl rfl) ⟨rfl, ?_⟩
        have h4 := row_ne0 hi (fun h => q (e1.mpr h))
        simp [b2i, h4]
    · obtain ⟨rfl, h2⟩ := hI
      dsimp only [jn]
      rw [if_neg (by decide)]
      refine ok_rtZ (Or.inr rfl) ⟨rfl, ?_⟩
      have h4 : row m1 a r = 0 := row_0 (fun k hk => h2 k hk hk)
      simp [b2i, h4]
  obtain ⟨v, m', h1, rfl, rfl⟩ := key
  exact h1

