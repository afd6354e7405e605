/-! THE NURSERY: a day -/
theorem i2j_128 : ∀ l : Fin 128, i2j (l.val : Int) = l.val := by decide +kernel
theorem tb0 (x : Nat) : x.testBit 0 = decide (x % 2 = 1) := Nat.testBit_zero x
theorem bit2 {x i j : Nat} (hx : x < 2147483648) (hi : i < 32) (hj : j < 32) : iand (iand (ishr (x : Int) (i : Int)) (ishr (x : Int) (j : Int))) 1 = 0 ↔ ¬ (x.testBit i = true ∧ x.testBit j = true) := by
  have l1 : x / 2 ^ i < 2147483648 := Nat.lt_of_le_of_lt (Nat.div_le_self _ _) hx
  have l2 : x / 2 ^ j < 2147483648 := Nat.lt_of_le_of_lt (Nat.div_le_self _ _) hx
  rw [ishr_nat hx hi, ishr_nat hx hj, iand_nn l1 l2, iand_1]
  have h : (x / 2 ^ i &&& x / 2 ^ j).testBit 0 = (x.testBit i && x.testBit j) := by
    rw [Nat.testBit_and, Nat.testBit_div_two_pow, Nat.testBit_div_two_pow, Nat.zero_add, Nat.zero_add]
  rw [tb0] at h
  cases e1 : x.testBit i <;> cases e2 : x.testBit j <;> rw [e1, e2] at h
  · have := of_decide_eq_false h
    exact ⟨fun _ q => (by cases q.1), fun _ => by omega⟩
  · have := of_decide_eq_false h
    exact ⟨fun _ q => (by cases q.1), fun _ => by omega⟩
  · have := of_decide_eq_false h
    exact ⟨fun _ q => (by cases q.2), fun _ => by omega⟩
  · have := of_decide_eq_true h
    exact ⟨fun q => by omega, fun q => absurd ⟨rfl, rfl⟩ q⟩
/-- no game of a mask over nodes is at most another -/
def Un (d : Nat → Nat) (P x : Nat) : Prop := ∀ i j, i < P → j < P → x.testBit i = true → x.testBit j = true → i ≠ j → ¬ gle (d i) (d j)
theorem isUnordered_ok {n N P x : Nat} {m : Mem} (hn : 300 < n) (Y : YI m N) (hP : P ≤ N) (hP7 : P ≤ 7) (hx : x < 128) : Ok (f_X3_isUnordered n (x : Int) (P : Int) m) (fun v m' => m' = m ∧ ∃ b, v = b2i b ∧ (b = true ↔ Un (yden m) P x)) := by
  unfold f_X3_isUnordered
  refine ok_up1 P (fun i m' => m' = m ∧ ∀ a b, a < i → b < P → x.testBit a = true → x.testBit b = true → a ≠ b → ¬ gle (yden m a) (yden m b)) (fun w i m' hi hI hw => ?_) (fun w m' hI => ?_) n 0 m (Nat.zero_le _) ⟨rfl, fun a b h => absurd h (Nat.not_lt_zero _)⟩ (by omega)
  · obtain ⟨rfl, no⟩ := hI
    rw [if_pos (by omega), k_1 (by omega)]
    refine ok_up1 P (fun j m'' => m'' = m' ∧ ∀ b, b < j → x.testBit i = true → x.testBit b = true → i ≠ b → ¬ gle (yden m' i) (yden m' b)) (fun w2 j m'' hj hJ hw2 => ?_) (fun w2 m'' hJ => ?_) n 0 m' (Nat.zero_le _) ⟨rfl, fun b h => absurd h (Nat.not_lt_zero _)⟩ (by omega)
    · obtain ⟨rfl, no2⟩ := hJ
      dsimp only [jn]
      rw [if_pos (by omega), k_1 (by omega)]
      have skip : (x.testBit i = true → x.testBit j = true → i ≠ j → ¬ gle (yden m'' i) (yden m'' j)) → Ok (w2 ((j + 1 : Nat) : Int) m'') (fun v m' => m' = m'' ∧ ∃ b, v = b2i b ∧ (b = true ↔ Un (yden m'') P x)) := fun h => hw2 m'' ⟨rfl, fun b hb => by
        by_cases q : b = j
        · rw [q]; exact h
        · exact no2 b (by omega)⟩
      by_cases q : x.testBit i = true ∧ x.testBit j = true
      · rw [if_neg (fun h => (bit2 (by omega) (by omega) (by omega)).mp h q), if_neg (show ¬ ((1 : Int) = 0) by decide)]
        by_cases q2 : i = j
        · rw [if_pos (by omega)]
          exact skip (fun _ _ h => absurd q2 h)
        · rw [if_neg (by omega)]
          refine ok_calE (isAtMost_eq Y.1 (show i < N by omega) (show j < N by omega)) ?_
          cases e : gleB (yden m'' i) (yden m'' j)
          · rw [if_pos (show b2i false = 0 from rfl)]
            exact skip (fun _ _ _ h => by rw [(gleB_iff _ _).mpr h] at e; cases e)
          · rw [if_neg (show ¬ b2i true = 0 by decide)]
            exact ok_rtZ (Or.inl rfl) ⟨rfl, false, rfl, ⟨fun h => Bool.noConfusion h, fun h => absurd ((gleB_iff _ _).mp e) (h i j hi hj q.1 q.2 q2)⟩⟩
      · rw [if_pos ((bit2 (by omega) (by omega) (by omega)).mpr q), if_pos rfl]
        exact skip (fun a b => absurd ⟨a, b⟩ q)
    · obtain ⟨rfl, no2⟩ := hJ
      rw [if_neg (by omega)]
      refine hw m'' ⟨rfl, fun a b ha hb => ?_⟩
      by_cases q : a = i
      · rw [q]; exact no2 b hb
      · exact no a b (by omega) hb
  · obtain ⟨rfl, no⟩ := hI
    rw [if_neg (by omega)]
    exact ok_rtZ (Or.inr rfl) ⟨rfl, true, rfl, ⟨fun _ a b ha hb => no a b ha hb, fun _ => rfl⟩⟩
theorem stJ0_ok {m : Mem} {a len v : Nat} {K : Mem → Option Rz} (hk : sKind m a = (2, len)) (hi : 0 < len) : stJ m a 0 v K = K (lSet m a 0 v) := stJ_ok (i := 0) hk hi
/-- the games of a mask over nodes -/
def NS (d : Nat → Nat) (x : Nat) (z : Nat) : Prop := ∃ u, x.testBit u = true ∧ d u = z
theorem beginWith_ok {n N l r : Nat} {m : Mem} (hn : 300 < n) (Y : YI m N) (hl : l < 128) (hr : r < 128) (lN : ∀ u, l.testBit u = true → u < N) (rN : ∀ u, r.testBit u = true → u < N) : Ok (f_X9_beginWith n (i2j (l : Int)) (i2j (r : Int)) m) (fun _ m' => YG m' N (NS (yden m) l) (NS (yden m) r) ∧ YF m m' N N) := by
  unfold f_X9_beginWith
  have el : i2j (l : Int) = l := i2j_128 ⟨l, hl⟩
  have er : i2j (r : Int) = r := i2j_128 ⟨r, hr⟩
  rw [el, er]
  refine ok_cal (begin_ok hn Y) (fun _ m1 h1 => ?_)
  obtain ⟨⟨Y1, s1, _, _, e1, e2⟩, F1⟩ := h1
  rw [stJ0_ok (kS m1 (by decide)) (by decide), stJ0_ok (kS _ (by decide)) (by decide)]
  have z11 : ∀ u, (row m1 11 0).testBit u = false := fun u => by
    cases e : (row m1 11 0).testBit u
    · rfl
    · exact ((e1 _).mpr ⟨u, e, rfl⟩).elim
  have z12 : ∀ u, (row m1 12 0).testBit u = false := fun u => by
    cases e : (row m1 12 0).testBit u
    · rfl
    · exact ((e2 _).mpr ⟨u, e, rfl⟩).elim
  obtain ⟨m2, em2⟩ : ∃ m2, m2 = lSet (lSet m1 11 0 l) 12 0 r := ⟨_, rfl⟩
  rw [← em2]
  have L2 : ∀ b j, lGet m2 b j = if b = 12 ∧ j = 0 then r % 18446744073709551616 else if b = 11 ∧ j = 0 then l % 18446744073709551616 else lGet m1 b j := fun b j => by rw [em2, lGet_lSet, lGet_lSet]
  have rw5 : ∀ a q, a ≠ 11 → a ≠ 12 → row m2 a q = row m1 a q := fun a q h1 h2 => row_ext (fun k _ => by rw [L2, if_neg (by omega), if_neg (by omega)])
  have r11 : ∀ u, (row m2 11 0).testBit u = l.testBit u := fun u => by
    rw [row_bit]
    by_cases q : u < 256
    · rw [if_pos q, L2, if_neg (by omega)]
      by_cases q2 : u < 64
      · rw [if_pos ⟨rfl, by omega⟩, show u % 64 = u by omega, tb_mod l q2]
      · rw [if_neg (by omega)]
        have := z11 u
        rw [row_bit, if_pos q] at this
        rw [this]
        cases e : l.testBit u
        · rfl
        · have := b7 hl e; omega
    · rw [if_neg q]
      cases e : l.testBit u
      · rfl
      · have := b7 hl e; omega
  have r12 : ∀ u, (row m2 12 0).testBit u = r.testBit u := fun u => by
    rw [row_bit]
    by_cases q : u < 256
    · rw [if_pos q, L2]
      by_cases q2 : u < 64
      · rw [if_pos ⟨rfl, by omega⟩, show u % 64 = u by omega, tb_mod r q2]
      · rw [if_neg (by omega), if_neg (by omega)]
        have := z12 u
        rw [row_bit, if_pos q] at this
        rw [this]
        cases e : r.testBit u
        · rfl
        · have := b7 hr e; omega
    · rw [if_neg q]
      cases e : r.testBit u
      · rfl
      · have := b7 hr e; omega
  have g2 : ∀ a i, mGet m2 a i = mGet m1 a i := fun a i => by rw [em2]; rfl
  obtain ⟨Y2, d2⟩ := Y1.fr (m' := m2) (fun a r ha => rw5 a r (by omega) (by omega)) (fun a i _ => g2 a i)
  have old : ∀ u, u < N → yden m2 u = yden m u := fun u hu => by rw [d2]; exact F1.old hu
  refine ok_rt ⟨⟨Y2, (g2 4 14).trans s1, fun u hu => lN u (by rw [← r11]; exact hu), fun u hu => rN u (by rw [← r12]; exact hu), fun z => ?_, fun z => ?_⟩, F1.tr ⟨fun a i _ _ => g2 a i, by rw [em2]; rfl, fun q => rw5 17 q (by decide) (by decide), fun x _ => by rw [d2], Nat.le_refl _⟩⟩
  · constructor
    · rintro ⟨u, h1, h2⟩; exact ⟨u, by rw [r11]; exact h1, (old u (lN u h1)).trans h2⟩
    · rintro ⟨u, h1, h2⟩
      rw [r11] at h1
      exact ⟨u, h1, (old u (lN u h1)).symm.trans h2⟩
  · constructor
    · rintro ⟨u, h1, h2⟩; exact ⟨u, by rw [r12]; exact h1, (old u (rN u h1)).trans h2⟩
    · rintro ⟨u, h1, h2⟩
      rw [r12] at h1
      exact ⟨u, h1, (old u (rN u h1)).symm.trans h2⟩
