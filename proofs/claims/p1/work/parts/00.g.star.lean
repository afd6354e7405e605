/-! HEAPS TOGETHER, AND A STAR THAT IS FAR OFF -/
theorem lt_tb {x y i : Nat} (hx : x.testBit i = false) (hy : y.testBit i = true) (h : ∀ j, i < j → x.testBit j = y.testBit j) : x < y := by
  have e : x / 2 ^ (i + 1) = y / 2 ^ (i + 1) := Nat.eq_of_testBit_eq (fun j => by
    rw [Nat.testBit_div_two_pow, Nat.testBit_div_two_pow]
    exact h _ (by omega))
  rw [Nat.testBit_eq_decide_div_mod_eq] at hx hy
  have h1 := of_decide_eq_false hx
  have h2 := of_decide_eq_true hy
  rw [Nat.pow_succ, ← Nat.div_div_eq_div_mul, ← Nat.div_div_eq_div_mul] at e
  have h3 : x / 2 ^ i < y / 2 ^ i := by omega
  refine Nat.lt_of_not_le (fun q => ?_)
  have := Nat.div_le_div_right (c := 2 ^ i) q
  omega
theorem xor_back (a c : Nat) : a ^^^ c ^^^ c = a := by rw [Nat.xor_assoc, Nat.xor_self, Nat.xor_zero]
theorem nim_lt {a b c : Nat} (h : c < a ^^^ b) : (∃ a', a' < a ∧ a' ^^^ b = c) ∨ ∃ b', b' < b ∧ a ^^^ b' = c := by
  have hd : a ^^^ b ^^^ c ≠ 0 := fun q => by
    have e := xor_back (a ^^^ b) c
    rw [q, Nat.zero_xor] at e
    omega
  obtain ⟨d, ed⟩ : ∃ d, d = a ^^^ b ^^^ c := ⟨_, rfl⟩
  rw [← ed] at hd
  obtain ⟨i, ei⟩ : ∃ i, i = d.log2 := ⟨_, rfl⟩
  have hi : d.testBit i = true := by rw [ei]; exact Nat.testBit_log2 hd
  have hj : ∀ j, i < j → d.testBit j = false := fun j hj => Nat.testBit_lt_two_pow (Nat.lt_of_lt_of_le (by rw [ei]; exact Nat.lt_log2_self) (Nat.pow_le_pow_right (by decide) hj))
  have bits : ∀ j, d.testBit j = (((a.testBit j) ^^ (b.testBit j)) ^^ (c.testBit j)) := fun j => by rw [ed, Nat.testBit_xor, Nat.testBit_xor]
  have hab : (a ^^^ b).testBit i = true := by
    cases e : (a ^^^ b).testBit i
    · have hc : c.testBit i = true := by
        have := bits i
        rw [hi, ← Nat.testBit_xor, e] at this
        simpa using this.symm
      have := lt_tb e hc (fun j h9 => by
        have h8 := bits j
        rw [hj j h9, ← Nat.testBit_xor] at h8
        revert h8
        cases (a ^^^ b).testBit j <;> cases c.testBit j <;> simp)
      omega
    · rfl
  have key : ∀ z, z.testBit i = true → z ^^^ d < z := fun z hz => lt_tb (i := i) (by rw [Nat.testBit_xor, hz, hi]; rfl) hz (fun j h9 => by rw [Nat.testBit_xor, hj j h9]; simp)
  cases e : a.testBit i
  · have hb : b.testBit i = true := by rw [Nat.testBit_xor, e] at hab; simpa using hab
    refine Or.inr ⟨b ^^^ d, key b hb, ?_⟩
    apply Nat.eq_of_testBit_eq
    intro j
    rw [Nat.testBit_xor, Nat.testBit_xor, bits]
    cases a.testBit j <;> cases b.testBit j <;> cases c.testBit j <;> rfl
  · refine Or.inl ⟨a ^^^ d, key a e, ?_⟩
    apply Nat.eq_of_testBit_eq
    intro j
    rw [Nat.testBit_xor, Nat.testBit_xor, bits]
    cases a.testBit j <;> cases b.testBit j <;> cases c.testBit j <;> rfl
theorem xor_inj {a b c : Nat} (h : a ^^^ c = b ^^^ c) : a = b := by
  have := congrArg (· ^^^ c) h
  simp only [xor_back] at this
  exact this
theorem hc_eq {a b : Nat} (h : gle (hc a) (hc b)) : a = b := Classical.byContradiction fun q => hc_apart q h
/-- two heaps together -/
theorem hc_nim_aux : ∀ (n a b : Nat), a + b ≤ n → geq (gadd (hc a) (hc b)) (hc (a ^^^ b))
  | n, a, b, hn => by
    have opt : ∀ w z, w < 2 → op (gadd (hc a) (hc b)) w z = true → ∃ c, c ≠ a ^^^ b ∧ geq z (hc c) := by
      intro w z hw hz
      rcases (op_gadd hw).mp hz with ⟨x, hx, rfl⟩ | ⟨x, hx, rfl⟩
      · obtain ⟨k, h1, rfl⟩ := (op_hc hw).mp hx
        match n, hn with
        | 0, hn => omega
        | n + 1, hn => exact ⟨k ^^^ b, fun e => by have := xor_inj e; omega, hc_nim_aux n k b (by omega)⟩
      · obtain ⟨k, h1, rfl⟩ := (op_hc hw).mp hx
        match n, hn with
        | 0, hn => omega
        | n + 1, hn => exact ⟨a ^^^ k, fun e => by rw [Nat.xor_comm a k, Nat.xor_comm a b] at e; have := xor_inj e; omega, hc_nim_aux n a k (by omega)⟩
    have all : ∀ w c, w < 2 → c < a ^^^ b → ∃ z, op (gadd (hc a) (hc b)) w z = true ∧ geq z (hc c) := by
      intro w c hw hc0
      rcases nim_lt hc0 with ⟨k, h1, h2⟩ | ⟨k, h1, h2⟩
      · match n, hn with
        | 0, hn => omega
        | n + 1, hn => exact ⟨gadd (hc k) (hc b), (op_gadd hw).mpr (Or.inl ⟨hc k, (op_hc hw).mpr ⟨k, h1, rfl⟩, rfl⟩), by rw [← h2]; exact hc_nim_aux n k b (by omega)⟩
      · match n, hn with
        | 0, hn => omega
        | n + 1, hn => exact ⟨gadd (hc a) (hc k), (op_gadd hw).mpr (Or.inr ⟨hc k, (op_hc hw).mpr ⟨k, h1, rfl⟩, rfl⟩), by rw [← h2]; exact hc_nim_aux n a k (by omega)⟩
    constructor
    · refine gle_of (fun z hz q => ?_) (fun y hy q => ?_)
      · obtain ⟨c, h1, h2⟩ := opt 0 z (by decide) hz
        exact h1 (hc_eq (gle_tr q h2.1)).symm
      · obtain ⟨c, h1, rfl⟩ := (op_hc (by decide)).mp hy
        obtain ⟨z, h2, h3⟩ := all 1 c (by decide) h1
        exact gle_R h2 (gle_tr h3.1 q)
    · refine gle_of (fun y hy q => ?_) (fun z hz q => ?_)
      · obtain ⟨c, h1, rfl⟩ := (op_hc (by decide)).mp hy
        obtain ⟨z, h2, h3⟩ := all 0 c (by decide) h1
        exact gle_L h2 (gle_tr q h3.2)
      · obtain ⟨c, h1, h2⟩ := opt 1 z (by decide) hz
        exact h1 (hc_eq (gle_tr h2.2 q))
theorem hc_nim (a b : Nat) : geq (gadd (hc a) (hc b)) (hc (a ^^^ b)) := hc_nim_aux _ a b (Nat.le_refl _)
theorem hc_0 : hc 0 = 0 := rfl
theorem gneg_hc : ∀ n, gneg (hc n) = hc n := by
  intro n
  induction n using Nat.strongRecOn with
  | _ n ih =>
    apply op_ext
    intro w hw x
    apply Bool.eq_iff_iff.mpr
    rw [op_gneg hw, op_hc hw]
    constructor
    · rintro ⟨z, h1, rfl⟩
      obtain ⟨k, h2, rfl⟩ := (op_hc (by omega)).mp h1
      exact ⟨k, h2, ih k h2⟩
    · rintro ⟨k, h2, rfl⟩
      exact ⟨hc k, (op_hc (by omega)).mpr ⟨k, h2, rfl⟩, ih k h2⟩
/-- G is at least, at most, each heap that is large enough -/
def El (g : Nat) : Prop := ∃ B, ∀ N, B ≤ N → gle (hc N) g
def Er (g : Nat) : Prop := ∃ B, ∀ N, B ≤ N → gle g (hc N)
theorem Er_neg {g : Nat} : Er (gneg g) ↔ El g := by
  have h : ∀ N, gle (gneg g) (hc N) ↔ gle (hc N) g := fun N => by rw [← gneg_hc N, gneg_le, gneg_hc]
  exact ⟨fun ⟨B, hB⟩ => ⟨B, fun N hN => (h N).mp (hB N hN)⟩, fun ⟨B, hB⟩ => ⟨B, fun N hN => (h N).mpr (hB N hN)⟩⟩
theorem El_neg {g : Nat} : El (gneg g) ↔ Er g := by
  rw [← Er_neg, gneg_neg]
theorem El.mono {g h : Nat} (x : El g) (hgh : gle g h) : El h := by
  obtain ⟨B, hB⟩ := x
  exact ⟨B, fun N hN => gle_tr (hB N hN) hgh⟩
theorem Er.mono {g h : Nat} (x : Er g) (hgh : gle h g) : Er h := by
  obtain ⟨B, hB⟩ := x
  exact ⟨B, fun N hN => gle_tr hgh (hB N hN)⟩
/-- heaps that no follower is equal to: all such are alike -/
def Rm (g N : Nat) : Prop := ∀ x, fol g x → ¬ geq x (hc N)
theorem Rm.op {g N w x : Nat} (h : Rm g N) (hw : w < 2) (hx : op g w x = true) : Rm x N := fun y hy => h y (fol_op hw hx hy)
theorem rm_lt {N M : Nat} (hNM : N < M) : ∀ g, Rm g N → (gle (hc N) g ↔ gle (hc M) g) ∧ (gle g (hc N) ↔ gle g (hc M)) := by
  intro g
  induction g using Nat.strongRecOn with
  | _ g ih =>
    intro hr
    have hg := hr g (fol_rf g)
    constructor
    · constructor
      · intro h
        refine gle_of (fun x hx q => ?_) (fun y hy q => ?_)
        · obtain ⟨j, h1, rfl⟩ := (op_hc (by decide)).mp hx
          rcases (by omega : j = N ∨ j ≠ N) with rfl | h2
          · exact hg ⟨q, h⟩
          · exact h2 (hc_eq (gle_tr h q)).symm
        · exact ((gle_def _ _).mp h).2 y hy (((ih y (op_lt hy) (hr.op (by decide) hy)).2).mpr q)
      · intro h
        refine gle_of (fun x hx q => ?_) (fun y hy q => ?_)
        · obtain ⟨j, h1, rfl⟩ := (op_hc (by decide)).mp hx
          exact ((gle_def _ _).mp h).1 (hc j) ((op_hc (by decide)).mpr ⟨j, by omega, rfl⟩) q
        · exact ((gle_def _ _).mp h).2 y hy (((ih y (op_lt hy) (hr.op (by decide) hy)).2).mp q)
    · constructor
      · intro h
        refine gle_of (fun y hy q => ?_) (fun x hx q => ?_)
        · exact ((gle_def _ _).mp h).1 y hy (((ih y (op_lt hy) (hr.op (by decide) hy)).1).mpr q)
        · obtain ⟨j, h1, rfl⟩ := (op_hc (by decide)).mp hx
          rcases (by omega : j = N ∨ j ≠ N) with rfl | h2
          · exact hg ⟨h, q⟩
          · exact h2 (hc_eq (gle_tr q h))
      · intro h
        refine gle_of (fun y hy q => ?_) (fun x hx q => ?_)
        · exact ((gle_def _ _).mp h).1 y hy (((ih y (op_lt hy) (hr.op (by decide) hy)).1).mp q)
        · obtain ⟨j, h1, rfl⟩ := (op_hc (by decide)).mp hx
          exact ((gle_def _ _).mp h).2 (hc j) ((op_hc (by decide)).mpr ⟨j, by omega, rfl⟩) q
theorem rm_ex (g : Nat) : ∃ B, ∀ N, B ≤ N → Rm g N := by
  have h : ∀ k, ∃ B, ∀ N, B ≤ N → ∀ x, x ≤ k → ¬ geq x (hc N) := by
    have one : ∀ x, ∃ B, ∀ N, B ≤ N → ¬ geq x (hc N) := by
      intro x
      by_cases q : ∃ N, geq x (hc N)
      · obtain ⟨M, hM⟩ := q
        refine ⟨M + 1, fun N hN e => ?_⟩
        have := hc_eq (hM.sy.tr e).1
        omega
      · exact ⟨0, fun N _ e => q ⟨N, e⟩⟩
    intro k
    induction k with
    | zero =>
      obtain ⟨B, hB⟩ := one 0
      exact ⟨B, fun N hN x hx => by rw [show x = 0 by omega]; exact hB N hN⟩
    | succ k ih =>
      obtain ⟨B, hB⟩ := one (k + 1)
      obtain ⟨C, hC⟩ := ih
      refine ⟨B + C, fun N hN x hx => ?_⟩
      rcases (by omega : x = k + 1 ∨ x ≤ k) with rfl | h1
      · exact hB N (by omega)
      · exact hC N (by omega) x h1
  obtain ⟨B, hB⟩ := h g
  exact ⟨B, fun N hN x hx => hB N hN x (fol_le hx)⟩
theorem El_at {g N : Nat} (h : Rm g N) : gle (hc N) g ↔ El g := by
  constructor
  · intro q
    refine ⟨N, fun M hM => ?_⟩
    rcases (by omega : M = N ∨ N < M) with rfl | h1
    · exact q
    · exact (rm_lt h1 g h).1.mp q
  · rintro ⟨B, hB⟩
    exact (rm_lt (show N < B + N + 1 by omega) g h).1.mpr (hB _ (by omega))
theorem Er_at {g N : Nat} (h : Rm g N) : gle g (hc N) ↔ Er g := by
  constructor
  · intro q
    refine ⟨N, fun M hM => ?_⟩
    rcases (by omega : M = N ∨ N < M) with rfl | h1
    · exact q
    · exact (rm_lt h1 g h).2.mp q
  · rintro ⟨B, hB⟩
    exact (rm_lt (show N < B + N + 1 by omega) g h).2.mpr (hB _ (by omega))
theorem El_intro {g : Nat} (h1 : ∀ c, ¬ gle g (hc c)) (h2 : ∀ y, op g 1 y = true → ¬ Er y) : El g := by
  obtain ⟨B, hB⟩ := rm_ex g
  have hr := hB B (Nat.le_refl _)
  refine (El_at hr).mp (gle_of (fun x hx q => ?_) (fun y hy q => ?_))
  · obtain ⟨j, h3, rfl⟩ := (op_hc (by decide)).mp hx
    exact h1 j q
  · exact h2 y hy ((Er_at (hr.op (by decide) hy)).mp q)
theorem Er_intro {g : Nat} (h1 : ∀ c, ¬ gle (hc c) g) (h2 : ∀ x, op g 0 x = true → ¬ El x) : Er g := by
  obtain ⟨B, hB⟩ := rm_ex g
  have hr := hB B (Nat.le_refl _)
  refine (Er_at hr).mp (gle_of (fun y hy q => ?_) (fun x hx q => ?_))
  · exact h2 y hy ((El_at (hr.op (by decide) hy)).mp q)
  · obtain ⟨j, h3, rfl⟩ := (op_hc (by decide)).mp hx
    exact h1 j q
theorem El.no {g c : Nat} (h : El g) : ¬ gle g (hc c) := by
  obtain ⟨B, hB⟩ := h
  intro q
  have := hc_eq (gle_tr (hB (B + c + 1) (by omega)) q)
  omega
theorem Er.no {g c : Nat} (h : Er g) : ¬ gle (hc c) g := by
  obtain ⟨B, hB⟩ := h
  intro q
  have := hc_eq (gle_tr q (hB (B + c + 1) (by omega)))
  omega
theorem El.R {g y : Nat} (h : El g) (hy : op g 1 y = true) : ¬ Er y := by
  obtain ⟨B, hB⟩ := h
  rintro ⟨C, hC⟩
  exact gle_R hy (gle_tr (hC (B + C) (by omega)) (hB (B + C) (by omega)))
theorem Er.L {g x : Nat} (h : Er g) (hx : op g 0 x = true) : ¬ El x := by
  obtain ⟨B, hB⟩ := h
  rintro ⟨C, hC⟩
  exact gle_L hx (gle_tr (hB (B + C) (by omega)) (hC (B + C) (by omega)))
theorem not_Er {g : Nat} (h : ¬ Er g) : (∃ c, gle (hc c) g) ∨ ∃ x, op g 0 x = true ∧ El x := by
  apply Classical.byContradiction
  intro q
  exact h (Er_intro (fun c hc0 => q (Or.inl ⟨c, hc0⟩)) (fun x hx hE => q (Or.inr ⟨x, hx, hE⟩)))
theorem not_El {g : Nat} (h : ¬ El g) : (∃ c, gle g (hc c)) ∨ ∃ y, op g 1 y = true ∧ Er y := by
  apply Classical.byContradiction
  intro q
  exact h (El_intro (fun c hc0 => q (Or.inl ⟨c, hc0⟩)) (fun x hx hE => q (Or.inr ⟨x, hx, hE⟩)))
theorem El.notEr {g : Nat} (h : El g) : ¬ Er g := by
  obtain ⟨B, hB⟩ := h
  exact fun q => q.no (hB B (Nat.le_refl _))
/-- heaps go over -/
theorem xor_far (B c : Nat) : ∃ C, ∀ N, C ≤ N → B ≤ N ^^^ c := by
  refine ⟨2 ^ (B + c), fun N hN => Nat.le_of_not_lt (fun q => ?_)⟩
  have h1 : B + c < 2 ^ (B + c) := Nat.lt_two_pow_self
  have h2 : N ^^^ c ^^^ c < 2 ^ (B + c) := Nat.xor_lt_two_pow (by omega) (by omega)
  rw [xor_back] at h2
  omega
theorem nim_up {N c g : Nat} (h : gle (hc (N ^^^ c)) g) : gle (hc N) (gadd g (hc c)) := by
  have h1 := (hc_nim (N ^^^ c) c).2
  rw [xor_back] at h1
  exact gle_tr h1 (gadd_le.mpr h)
theorem nim_dn {N c g : Nat} (h : gle g (hc (N ^^^ c))) : gle (gadd g (hc c)) (hc N) := by
  have h1 := (hc_nim (N ^^^ c) c).1
  rw [xor_back] at h1
  exact gle_tr (gadd_le.mpr h) h1
theorem El.nim {g : Nat} (h : El g) (c : Nat) : El (gadd g (hc c)) := by
  obtain ⟨B, hB⟩ := h
  obtain ⟨C, hC⟩ := xor_far B c
  exact ⟨C, fun N hN => nim_up (hB _ (hC N hN))⟩
theorem Er.nim {g : Nat} (h : Er g) (c : Nat) : Er (gadd g (hc c)) := by
  obtain ⟨B, hB⟩ := h
  obtain ⟨C, hC⟩ := xor_far B c
  exact ⟨C, fun N hN => nim_dn (hB _ (hC N hN))⟩
theorem hc_hc (c : Nat) : geq (gadd (hc c) (hc c)) 0 := by
  have := hc_nim c c
  rw [Nat.xor_self] at this
  exact this
theorem nim_nim (g c : Nat) : geq (gadd (gadd g (hc c)) (hc c)) g := by
  rw [gadd_assoc]
  have := gadd_eq (geq_rfl g) (hc_hc c)
  rw [gadd_0] at this
  exact this
theorem El_nim {g c : Nat} : El (gadd g (hc c)) ↔ El g := ⟨fun h => (h.nim c).mono (nim_nim g c).1, fun h => h.nim c⟩
theorem Er_nim {g c : Nat} : Er (gadd g (hc c)) ↔ Er g := ⟨fun h => (h.nim c).mono (nim_nim g c).2, fun h => h.nim c⟩
/-- both together -/
theorem El.add {g h : Nat} (x : El g) (y : El h) (c : Nat) : gle (hc c) (gadd g h) := by
  obtain ⟨B, hB⟩ := x
  obtain ⟨C, hC⟩ := y
  obtain ⟨D, hD⟩ := xor_far C c
  have h1 := gadd_mono (hB (B + D) (by omega)) (hC ((B + D) ^^^ c) (hD _ (by omega)))
  have h2 := (hc_nim (B + D) ((B + D) ^^^ c)).2
  rw [← Nat.xor_assoc, Nat.xor_self, Nat.zero_xor] at h2
  exact gle_tr h2 h1
theorem El.addc {g h c : Nat} (x : El g) (y : gle (hc c) h) : El (gadd g h) := (x.nim c).mono (gadd_le2.mpr y)
theorem Er.addc {g h c : Nat} (x : Er g) (y : gle h (hc c)) : Er (gadd g h) := (x.nim c).mono (gadd_le2.mpr y)
theorem add_sub (g h : Nat) : geq (gadd (gadd g h) (gneg h)) g := by
  rw [gadd_assoc]
  have := gadd_eq (geq_rfl g) (gadd_neg h)
  rw [gadd_0] at this
  exact this
theorem sub_add (g h : Nat) : geq (gadd (gadd g (gneg h)) h) g := by
  rw [gadd_assoc, gadd_comm (gneg h) h, ← gadd_assoc]
  exact add_sub g h
theorem neg_hc_le {h c : Nat} : gle (gneg h) (hc c) ↔ gle (hc c) h := by rw [← gneg_hc c, gneg_le, gneg_hc]
theorem neg_hc_ge {h c : Nat} : gle (hc c) (gneg h) ↔ gle h (hc c) := by rw [← gneg_hc c, gneg_le, gneg_hc]
theorem notEr_addc {g h c : Nat} (x : ¬ Er g) (y : gle (hc c) h) : ¬ Er (gadd g h) := fun q => x ((q.addc (neg_hc_le.mpr y)).mono (add_sub g h).2)
theorem notEl_addc {g h c : Nat} (x : ¬ El g) (y : gle h (hc c)) : ¬ El (gadd g h) := fun q => x ((q.addc (neg_hc_ge.mpr y)).mono (add_sub g h).1)
theorem notEr_of {g c : Nat} (h : gle (hc c) g) : ¬ Er g := fun q => q.no h
theorem notEr_L {g x : Nat} (hx : op g 0 x = true) (h : El x) : ¬ Er g := fun q => q.L hx h
theorem gle_subR {a b c : Nat} : gle (gadd a b) c ↔ gle a (gadd c (gneg b)) := by
  rw [← gadd_le (a := gadd a b) (b := c) (c := gneg b)]
  exact (add_sub a b).l
theorem gle_subL {a b c : Nat} : gle a (gadd c b) ↔ gle (gadd a (gneg b)) c := by
  rw [← gadd_le (a := a) (b := gadd c b) (c := gneg b)]
  exact (add_sub c b).r
/-- UP -/
def upg : Nat := mkg [0] [hc 1]
theorem op_upL {x : Nat} : op upg 0 x = true ↔ x = 0 := by unfold upg; rw [op_mkgL, List.mem_singleton]
theorem op_upR {x : Nat} : op upg 1 x = true ↔ x = hc 1 := by unfold upg; rw [op_mkgR, List.mem_singleton]
theorem up_pos : gle 0 upg := gle_of (fun x hx => by rw [op_0] at hx; cases hx) (fun y hy => by
  rw [op_upR.mp hy, ← hc_0]; exact hc_apart (by decide))
theorem up_no (c : Nat) : ¬ gle upg (hc c) := by
  rw [not_gle]
  by_cases h : c = 0
  · exact Or.inl ⟨0, op_upL.mpr rfl, by rw [h]; exact gle_rfl _⟩
  · exact Or.inr ⟨0, (op_hc (by decide)).mpr ⟨0, by omega, rfl⟩, up_pos⟩
theorem up_ge {c : Nat} (h : c ≠ 1) : gle (hc c) upg := gle_of (fun x hx => by
  obtain ⟨j, _, rfl⟩ := (op_hc (by decide)).mp hx
  exact up_no j) (fun y hy => by rw [op_upR.mp hy]; exact hc_apart (fun e => h e.symm))
theorem El_up : El upg := ⟨2, fun N hN => up_ge (by omega)⟩
/-- games that one up more makes at least a star that is far off -/
def A0 (g : Nat) : Prop := El (gadd g upg)
theorem A0.mono {g h : Nat} (x : A0 g) (hgh : gle g h) : A0 h := El.mono x (gadd_le.mpr hgh)
theorem A0.nEr {g : Nat} (x : A0 g) : ¬ Er g := by
  have h : op (gadd g upg) 1 (gadd g (hc 1)) = true := (op_gadd (by decide)).mpr (Or.inr ⟨hc 1, op_upR.mpr rfl, rfl⟩)
  intro q
  exact El.R x h (q.nim 1)
theorem cl2_aux : ∀ (n X Y : Nat), X + Y ≤ n → El X → A0 Y → El (gadd X Y)
  | n, X, Y, hn, hX, hY => by
    refine El_intro (fun c q => ?_) (fun z hz => ?_)
    · have h1 : gle Y (gadd (hc c) (gneg X)) := gle_subR.mp (by rw [gadd_comm]; exact q)
      have h2 : Er (gadd (gneg X) (hc c)) := (Er_neg.mpr hX).nim c
      rw [gadd_comm] at h2
      exact hY.nEr (h2.mono h1)
    · rcases (op_gadd (by decide)).mp hz with ⟨x, hx, rfl⟩ | ⟨y, hy, rfl⟩
      · have hlt := op_lt hx
        rcases not_Er (hX.R hx) with ⟨c, h1⟩ | ⟨u, hu, h1⟩
        · rw [gadd_comm]
          exact notEr_addc hY.nEr h1
        · have hlu := op_lt hu
          match n, hn with
          | 0, hn => omega
          | n + 1, hn => exact notEr_L ((op_gadd (by decide)).mpr (Or.inl ⟨u, hu, rfl⟩)) (cl2_aux n u Y (by omega) h1 hY)
      · have hlt := op_lt hy
        have h0 : op (gadd Y upg) 1 (gadd y upg) = true := (op_gadd (by decide)).mpr (Or.inl ⟨y, hy, rfl⟩)
        rcases not_Er (El.R hY h0) with ⟨c, h1⟩ | ⟨u, hu, h1⟩
        · intro q
          have h2 : gle (gadd X (hc c)) (gadd (gadd X y) upg) := by
            rw [gadd_assoc]; exact gadd_le2.mpr h1
          have h3 : gle (gadd (gadd X (hc c)) (gneg upg)) (gadd X y) := gle_subL.mp h2
          have h4 : Er (gadd (gadd X (gneg upg)) (hc c)) := q.mono (by
            rw [gadd_assoc, gadd_comm (gneg upg), ← gadd_assoc]; exact h3)
          have h5 := Er_nim.mp h4
          have h6 : op (gneg upg) 0 (hc 1) = true := (op_gneg (by decide)).mpr ⟨hc 1, op_upR.mpr rfl, gneg_hc 1⟩
          exact h5.L ((op_gadd (by decide)).mpr (Or.inr ⟨hc 1, h6, rfl⟩)) (hX.nim 1)
        · rcases (op_gadd (by decide)).mp hu with ⟨v, hv, rfl⟩ | ⟨v, hv, rfl⟩
          · have hlv := op_lt hv
            match n, hn with
            | 0, hn => omega
            | n + 1, hn => exact notEr_L ((op_gadd (by decide)).mpr (Or.inr ⟨v, hv, rfl⟩)) (cl2_aux n X v (by omega) hX h1)
          · rw [op_upL.mp hv, gadd_0] at h1
            exact notEr_of (c := 0) (hX.add h1 0)
theorem cl2 {X Y : Nat} (hX : El X) (hY : A0 Y) : El (gadd X Y) := cl2_aux _ X Y (Nat.le_refl _) hX hY
theorem cl1_aux : ∀ (n X Y : Nat), X + Y ≤ n → A0 X → A0 Y → A0 (gadd X Y)
  | n, X, Y, hn, hX, hY => by
    have side : ∀ X Y, X + Y ≤ n → A0 X → A0 Y → ∀ x, op X 1 x = true → ¬ Er (gadd (gadd x Y) upg) := by
      intro X Y hn hX hY x hx
      have hlt := op_lt hx
      have h0 : op (gadd X upg) 1 (gadd x upg) = true := (op_gadd (by decide)).mpr (Or.inl ⟨x, hx, rfl⟩)
      have e : gadd (gadd x Y) upg = gadd Y (gadd x upg) := by rw [gadd_comm x Y, gadd_assoc]
      rcases not_Er (El.R hX h0) with ⟨c, h1⟩ | ⟨u, hu, h1⟩
      · rw [e]
        exact notEr_addc hY.nEr h1
      · rcases (op_gadd (by decide)).mp hu with ⟨v, hv, rfl⟩ | ⟨v, hv, rfl⟩
        · have hlv := op_lt hv
          match n, hn with
          | 0, hn => omega
          | n + 1, hn => exact notEr_L ((op_gadd (by decide)).mpr (Or.inl ⟨gadd v Y, (op_gadd (by decide)).mpr (Or.inl ⟨v, hv, rfl⟩), rfl⟩)) (cl1_aux n v Y (by omega) h1 hY)
        · rw [op_upL.mp hv, gadd_0] at h1
          refine notEr_of (c := 0) ?_
          rw [gadd_assoc]
          exact h1.add hY 0
    refine El_intro (fun c q => ?_) (fun z hz => ?_)
    · have e : gadd (gadd X Y) upg = gadd Y (gadd X upg) := by rw [gadd_comm X Y, gadd_assoc]
      rw [e] at q
      have h1 : gle Y (gadd (hc c) (gneg (gadd X upg))) := gle_subR.mp q
      have h2 : Er (gadd (gneg (gadd X upg)) (hc c)) := (Er_neg.mpr hX).nim c
      rw [gadd_comm] at h2
      exact hY.nEr (h2.mono h1)
    · rcases (op_gadd (by decide)).mp hz with ⟨x, hx, rfl⟩ | ⟨y, hy, rfl⟩
      · rcases (op_gadd (by decide)).mp hx with ⟨x2, hx2, rfl⟩ | ⟨y, hy, rfl⟩
        · exact side X Y hn hX hY x2 hx2
        · rw [gadd_comm X y]
          exact side Y X (by omega) hY hX y hy
      · rw [op_upR.mp hy]
        rw [Er_nim]
        rcases not_Er hY.nEr with ⟨c, h1⟩ | ⟨u, hu, h1⟩
        · exact notEr_addc hX.nEr h1
        · refine notEr_L ((op_gadd (by decide)).mpr (Or.inr ⟨u, hu, rfl⟩)) ?_
          rw [gadd_comm]
          exact cl2 h1 hX
theorem A0.add {X Y : Nat} (hX : A0 X) (hY : A0 Y) : A0 (gadd X Y) := cl1_aux _ X Y (Nat.le_refl _) hX hY
theorem A0_0 : A0 0 := by
  unfold A0
  rw [gadd_comm, gadd_0]
  exact El_up
theorem A0_hc {g c : Nat} (h : gle (hc c) g) : A0 g := by
  refine A0.mono ?_ h
  unfold A0
  rw [gadd_comm]
  exact El_up.nim c
theorem A0_El {g : Nat} (h : El g) : A0 g := by
  unfold A0
  exact h.addc (c := 0) up_pos
