/-! SMALL: the canonical form of a small game is small -/
theorem sm_op {g w y : Nat} (h : sm g) (hw : w < 2) (hy : op g w y = true) : sm y := fun x hx => h x (fol_op hw hy hx)
theorem sm_of {g : Nat} (h0 : Bare g 0 ↔ Bare g 1) (h : ∀ w y, w < 2 → op g w y = true → sm y) : sm g := by
  intro x hx
  rcases (fol_def g x).mp hx with rfl | ⟨y, hy, h2⟩
  · exact h0
  · rcases hy with hy | hy
    · exact h 0 y (by decide) hy x h2
    · exact h 1 y (by decide) hy x h2
theorem sm_bare {g : Nat} (h : sm g) : Bare g 0 ↔ Bare g 1 := h g (fol_rf g)
theorem sm_add_aux : ∀ (n g h : Nat), g + h ≤ n → sm g → sm h → sm (gadd g h)
  | n, g, h, hn, sg, sh => by
    have bare : ∀ w, w < 2 → (Bare (gadd g h) w ↔ Bare g w ∧ Bare h w) := by
      intro w hw
      constructor
      · intro b
        refine ⟨fun x => ?_, fun x => ?_⟩
        · cases e : op g w x
          · rfl
          · rw [← b (gadd x h)]; exact ((op_gadd hw).mpr (Or.inl ⟨x, e, rfl⟩)).symm
        · cases e : op h w x
          · rfl
          · rw [← b (gadd g x)]; exact ((op_gadd hw).mpr (Or.inr ⟨x, e, rfl⟩)).symm
      · rintro ⟨b1, b2⟩ z
        cases e : op (gadd g h) w z
        · rfl
        · rcases (op_gadd hw).mp e with ⟨x, hx, _⟩ | ⟨x, hx, _⟩
          · rw [b1 x] at hx; cases hx
          · rw [b2 x] at hx; cases hx
    refine sm_of ?_ (fun w y hw hy => ?_)
    · rw [bare 0 (by decide), bare 1 (by decide), sm_bare sg, sm_bare sh]
    · rcases (op_gadd hw).mp hy with ⟨x, hx, rfl⟩ | ⟨x, hx, rfl⟩
      · have lt : x < g := op_lt hx
        obtain ⟨k, rfl⟩ : ∃ k, n = k + 1 := ⟨n - 1, by omega⟩
        exact sm_add_aux k x h (by omega) (sm_op sg hw hx) sh
      · have lt : x < h := op_lt hx
        obtain ⟨k, rfl⟩ : ∃ k, n = k + 1 := ⟨n - 1, by omega⟩
        exact sm_add_aux k g x (by omega) sg (sm_op sh hw hx)
theorem sm_add {g h : Nat} (sg : sm g) (sh : sm h) : sm (gadd g h) := sm_add_aux _ g h (Nat.le_refl _) sg sh
theorem sm_neg_aux : ∀ (n g : Nat), g ≤ n → sm g → sm (gneg g)
  | n, g, hn, sg => by
    have bare : ∀ w, w < 2 → (Bare (gneg g) w ↔ Bare g (1 - w)) := by
      intro w hw
      constructor
      · intro b x
        cases e : op g (1 - w) x
        · rfl
        · rw [← b (gneg x)]; exact ((op_gneg hw).mpr ⟨x, e, rfl⟩).symm
      · intro b z
        cases e : op (gneg g) w z
        · rfl
        · obtain ⟨x, hx, _⟩ := (op_gneg hw).mp e
          rw [b x] at hx; cases hx
    refine sm_of ?_ (fun w y hw hy => ?_)
    · rw [bare 0 (by decide), bare 1 (by decide)]
      exact (sm_bare sg).symm
    · obtain ⟨x, hx, rfl⟩ := (op_gneg hw).mp hy
      have lt : x < g := op_lt hx
      obtain ⟨k, rfl⟩ : ∃ k, n = k + 1 := ⟨n - 1, by omega⟩
      exact sm_neg_aux k x (by omega) (sm_op sg (by omega) hx)
theorem sm_neg {g : Nat} (sg : sm g) : sm (gneg g) := sm_neg_aux _ g (Nat.le_refl _) sg
theorem sm_0 : sm 0 := by
  intro x hx
  rcases (fol_def 0 x).mp hx with rfl | ⟨y, hy, _⟩
  · exact ⟨fun _ => fun x => op_0 1 x, fun _ => fun x => op_0 0 x⟩
  · rw [op_0, op_0] at hy
    rcases hy with h | h <;> cases h
/-- a game with a way around: smaller as a number -/
def bypL (G y z : Nat) : Nat := mkg ((opts G 0).filter (fun x => x != y) ++ opts z 0) (opts G 1)
theorem bypL_L {G y z u : Nat} : op (bypL G y z) 0 u = true ↔ (op G 0 u = true ∧ u ≠ y) ∨ op z 0 u = true := by
  unfold bypL
  rw [op_mkgL, List.mem_append, List.mem_filter, mem_opts, mem_opts, bne_iff_ne]
theorem bypL_R {G y z u : Nat} : op (bypL G y z) 1 u = op G 1 u := by
  apply Bool.eq_iff_iff.mpr
  unfold bypL
  rw [op_mkgR, mem_opts]
theorem lt_bits {a b k : Nat} (h1 : a.testBit k = false) (h2 : b.testBit k = true) (h3 : ∀ j, k < j → a.testBit j = b.testBit j) : a < b := by
  have hd : a / 2 ^ (k + 1) = b / 2 ^ (k + 1) := by
    apply Nat.eq_of_testBit_eq
    intro i
    rw [Nat.testBit_div_two_pow, Nat.testBit_div_two_pow]
    exact h3 _ (by omega)
  have ha : a % 2 ^ (k + 1) < 2 ^ k := Nat.lt_pow_two_of_testBit _ (fun i hi => by
    rw [Nat.testBit_mod_two_pow]
    by_cases q : i = k
    · rw [q, h1, Bool.and_false]
    · rw [decide_eq_false (by omega), Bool.false_and])
  have hb : 2 ^ k ≤ b % 2 ^ (k + 1) := by
    apply Classical.byContradiction
    intro q
    have : (b % 2 ^ (k + 1)).testBit k = false := Nat.testBit_lt_two_pow (by omega)
    rw [Nat.testBit_mod_two_pow, h2, decide_eq_true (by omega)] at this
    cases this
  have e1 := Nat.div_add_mod a (2 ^ (k + 1))
  have e2 := Nat.div_add_mod b (2 ^ (k + 1))
  rw [hd] at e1
  omega
theorem bypL_lt {G y z : Nat} (hy : op G 0 y = true) (hz : z < y) : bypL G y z < G := by
  refine lt_bits (k := 2 * y) ?_ hy ?_
  · cases e : (bypL G y z).testBit (2 * y)
    · rfl
    · rcases bypL_L.mp (show op (bypL G y z) 0 y = true from e) with h | h
      · exact absurd rfl h.2
      · have := op_lt h; omega
  · intro j hj
    apply Bool.eq_iff_iff.mpr
    rcases Nat.mod_two_eq_zero_or_one j with q | q
    · obtain ⟨u, rfl⟩ : ∃ u, j = 2 * u := ⟨j / 2, by omega⟩
      show op (bypL G y z) 0 u = true ↔ op G 0 u = true
      rw [bypL_L]
      constructor
      · rintro (h | h)
        · exact h.1
        · have := op_lt h; omega
      · exact fun h => Or.inl ⟨h, by omega⟩
    · obtain ⟨u, rfl⟩ : ∃ u, j = 2 * u + 1 := ⟨j / 2, by omega⟩
      show op (bypL G y z) 1 u = true ↔ op G 1 u = true
      rw [bypL_R]
theorem bypL_eq {G y z : Nat} (hy : op G 0 y = true) (hz : op y 1 z = true) (hzG : gle z G) : geq G (bypL G y z) := byL hy hz hzG (fun u => bypL_R) (fun u hu => (bypL_L.mp hu).imp And.left id) (fun u hu => by
  by_cases q : u = y
  · exact Or.inl q
  · exact Or.inr (bypL_L.mpr (Or.inl ⟨hu, q⟩))) (fun u hu => bypL_L.mpr (Or.inr hu))
def bypR (G y z : Nat) : Nat := mkg (opts G 0) ((opts G 1).filter (fun x => x != y) ++ opts z 1)
theorem bypR_R {G y z u : Nat} : op (bypR G y z) 1 u = true ↔ (op G 1 u = true ∧ u ≠ y) ∨ op z 1 u = true := by
  unfold bypR
  rw [op_mkgR, List.mem_append, List.mem_filter, mem_opts, mem_opts, bne_iff_ne]
theorem bypR_L {G y z u : Nat} : op (bypR G y z) 0 u = op G 0 u := by
  apply Bool.eq_iff_iff.mpr
  unfold bypR
  rw [op_mkgL, mem_opts]
theorem bypR_lt {G y z : Nat} (hy : op G 1 y = true) (hz : z < y) : bypR G y z < G := by
  refine lt_bits (k := 2 * y + 1) ?_ hy ?_
  · cases e : (bypR G y z).testBit (2 * y + 1)
    · rfl
    · rcases bypR_R.mp (show op (bypR G y z) 1 y = true from e) with h | h
      · exact absurd rfl h.2
      · have := op_lt h; omega
  · intro j hj
    apply Bool.eq_iff_iff.mpr
    rcases Nat.mod_two_eq_zero_or_one j with q | q
    · obtain ⟨u, rfl⟩ : ∃ u, j = 2 * u := ⟨j / 2, by omega⟩
      show op (bypR G y z) 0 u = true ↔ op G 0 u = true
      rw [bypR_L]
    · obtain ⟨u, rfl⟩ : ∃ u, j = 2 * u + 1 := ⟨j / 2, by omega⟩
      show op (bypR G y z) 1 u = true ↔ op G 1 u = true
      rw [bypR_R]
      constructor
      · rintro (h | h)
        · exact h.1
        · have := op_lt h; omega
      · exact fun h => Or.inl ⟨h, by omega⟩
theorem bypR_eq {G y z : Nat} (hy : op G 1 y = true) (hz : op y 0 z = true) (hzG : gle G z) : geq G (bypR G y z) := byR hy hz hzG (fun u => bypR_L) (fun u hu => (bypR_R.mp hu).imp And.left id) (fun u hu => by
  by_cases q : u = y
  · exact Or.inl q
  · exact Or.inr (bypR_R.mpr (Or.inl ⟨hu, q⟩))) (fun u hu => bypR_R.mpr (Or.inr hu))
theorem nb_ex0 {g w : Nat} (h : ¬ Bare g w) : ∃ x, op g w x = true := by
  apply Classical.byContradiction
  intro q
  refine h (fun x => ?_)
  cases e : op g w x
  · rfl
  · exact absurd ⟨x, e⟩ q
theorem sm_can_aux : ∀ (n G K : Nat), G ≤ n → sm G → can K → geq K G → sm K
  | n, G, K, hn, sG, cK, e => by
    -- a way around on the left
    by_cases rL : ∃ y z, op G 0 y = true ∧ op y 1 z = true ∧ gle z G
    · obtain ⟨y, z, hy, hz, hzG⟩ := rL
      have eq := bypL_eq hy hz hzG
      have lt := bypL_lt hy (op_lt hz)
      have sy := sm_op sG (by decide) hy
      have sz := sm_op sy (by decide) hz
      by_cases b : Bare (bypL G y z) 0
      · -- then nothing is left
        have bz : Bare z 0 := fun u => by
          cases q : op z 0 u
          · rfl
          · rw [← b u]; exact (bypL_L.mpr (Or.inr q)).symm
        have z0 : z = 0 := by
          apply Classical.byContradiction
          intro q
          obtain ⟨u, hu⟩ := op_ex q
          rcases hu with hu | hu
          · rw [bz u] at hu; cases hu
          · rw [(sm_bare sz).mp bz u] at hu; cases hu
        have le : gle (bypL G y z) 0 := gle_of (fun x hx => by rw [b x] at hx; cases hx) (fun x hx => by rw [op_0] at hx; cases hx)
        have : K = 0 := can_uniq cK can_0 (e.tr ⟨gle_tr eq.1 le, by rw [← z0]; exact hzG⟩)
        rw [this]; exact sm_0
      · have s2 : sm (bypL G y z) := sm_of ⟨fun h => absurd h b, fun h => by
          have : Bare G 1 := fun u => by rw [← bypL_R (y := y) (z := z)]; exact h u
          have := (sm_bare sG).mpr this y
          rw [hy] at this; cases this⟩ (fun w u hw hu => by
            rcases (by omega : w = 0 ∨ w = 1) with rfl | rfl
            · rcases bypL_L.mp hu with h | h
              · exact sm_op sG (by decide) h.1
              · exact sm_op sz (by decide) h
            · rw [bypL_R] at hu
              exact sm_op sG (by decide) hu)
        obtain ⟨k, rfl⟩ : ∃ k, n = k + 1 := ⟨n - 1, by omega⟩
        exact sm_can_aux k _ K (by omega) s2 cK (e.tr eq)
    · by_cases rR : ∃ y z, op G 1 y = true ∧ op y 0 z = true ∧ gle G z
      · obtain ⟨y, z, hy, hz, hzG⟩ := rR
        have eq := bypR_eq hy hz hzG
        have lt := bypR_lt hy (op_lt hz)
        have sy := sm_op sG (by decide) hy
        have sz := sm_op sy (by decide) hz
        by_cases b : Bare (bypR G y z) 1
        · have bz : Bare z 1 := fun u => by
            cases q : op z 1 u
            · rfl
            · rw [← b u]; exact (bypR_R.mpr (Or.inr q)).symm
          have z0 : z = 0 := by
            apply Classical.byContradiction
            intro q
            obtain ⟨u, hu⟩ := op_ex q
            rcases hu with hu | hu
            · rw [(sm_bare sz).mpr bz u] at hu; cases hu
            · rw [bz u] at hu; cases hu
          have le : gle 0 (bypR G y z) := gle_of (fun x hx => by rw [op_0] at hx; cases hx) (fun x hx => by rw [b x] at hx; cases hx)
          have : K = 0 := can_uniq cK can_0 (e.tr ⟨by rw [← z0]; exact hzG, gle_tr le eq.2⟩)
          rw [this]; exact sm_0
        · have s2 : sm (bypR G y z) := sm_of ⟨fun h => (by
            have : Bare G 0 := fun u => by rw [← bypR_L (y := y) (z := z)]; exact h u
            have := (sm_bare sG).mp this y
            rw [hy] at this; cases this), fun h => absurd h b⟩ (fun w u hw hu => by
              rcases (by omega : w = 0 ∨ w = 1) with rfl | rfl
              · rw [bypR_L] at hu
                exact sm_op sG (by decide) hu
              · rcases bypR_R.mp hu with h | h
                · exact sm_op sG (by decide) h.1
                · exact sm_op sz (by decide) h)
          obtain ⟨k, rfl⟩ : ∃ k, n = k + 1 := ⟨n - 1, by omega⟩
          exact sm_can_aux k _ K (by omega) s2 cK (e.tr eq)
      · -- no way around: the options are as good as options
        have keyL : ∀ y, op G 0 y = true → ∃ x, op K 0 x = true ∧ gle y x := by
          intro y hy
          have h : ¬ gle K y := fun q => gle_L hy (gle_tr e.2 q)
          rcases not_gle.mp h with ⟨x, hx, h2⟩ | ⟨z, hz, h2⟩
          · exact ⟨x, hx, h2⟩
          · exact absurd ⟨y, z, hy, hz, gle_tr h2 e.1⟩ rL
        have keyR : ∀ y, op G 1 y = true → ∃ x, op K 1 x = true ∧ gle x y := by
          intro y hy
          have h : ¬ gle y K := fun q => gle_R hy (gle_tr q e.1)
          rcases not_gle.mp h with ⟨z, hz, h2⟩ | ⟨x, hx, h2⟩
          · exact absurd ⟨y, z, hy, hz, gle_tr e.2 h2⟩ rR
          · exact ⟨x, hx, h2⟩
        obtain ⟨_, cL, cR, _⟩ := (can_def K).mp cK
        have toL : ∀ k, op K 0 k = true → ∃ y, op G 0 y = true ∧ geq k y := by
          intro k hk
          obtain ⟨y, hy, h1⟩ := can_domL cK e hk
          obtain ⟨x, hx, h2⟩ := keyL y hy
          by_cases q : k = x
          · exact ⟨y, hy, h1, by rw [q]; exact h2⟩
          · exact absurd (gle_tr h1 h2) (cL k x hk hx q)
        have toR : ∀ k, op K 1 k = true → ∃ y, op G 1 y = true ∧ geq k y := by
          intro k hk
          obtain ⟨y, hy, h1⟩ := can_domR cK e hk
          obtain ⟨x, hx, h2⟩ := keyR y hy
          by_cases q : x = k
          · exact ⟨y, hy, by rw [← q]; exact h2, h1⟩
          · exact absurd (gle_tr h2 h1) (cR x k hx hk q)
        refine sm_of ⟨fun b => ?_, fun b => ?_⟩ (fun w k hw hk => ?_)
        · have bG : Bare G 0 := fun y => by
            cases q : op G 0 y
            · rfl
            · obtain ⟨x, hx, _⟩ := keyL y q
              rw [b x] at hx; cases hx
          have bR := (sm_bare sG).mp bG
          intro k
          cases q : op K 1 k
          · rfl
          · obtain ⟨y, hy, _⟩ := toR k q
            rw [bR y] at hy; cases hy
        · have bG : Bare G 1 := fun y => by
            cases q : op G 1 y
            · rfl
            · obtain ⟨x, hx, _⟩ := keyR y q
              rw [b x] at hx; cases hx
          have bL := (sm_bare sG).mpr bG
          intro k
          cases q : op K 0 k
          · rfl
          · obtain ⟨y, hy, _⟩ := toL k q
            rw [bL y] at hy; cases hy
        · rcases (by omega : w = 0 ∨ w = 1) with rfl | rfl
          · obtain ⟨y, hy, h⟩ := toL k hk
            have lt : y < G := op_lt hy
            obtain ⟨j, rfl⟩ : ∃ j, n = j + 1 := ⟨n - 1, by omega⟩
            exact sm_can_aux j y k (by omega) (sm_op sG (by decide) hy) (cK.op hk) h
          · obtain ⟨y, hy, h⟩ := toR k hk
            have lt : y < G := op_lt hy
            obtain ⟨j, rfl⟩ : ∃ j, n = j + 1 := ⟨n - 1, by omega⟩
            exact sm_can_aux j y k (by omega) (sm_op sG (by decide) hy) (cK.op hk) h
theorem sm_can {G K : Nat} (sG : sm G) (cK : can K) (e : geq K G) : sm K := sm_can_aux G G K (Nat.le_refl _) sG cK e
