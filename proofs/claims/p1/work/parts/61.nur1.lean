/-! THE NURSERY: the games of its days, told by masks over the games of the second day -/
def nLm (i : Nat) : Nat := [0, 1, 1, 1, 2, 3, 3].getD i 0
def nRm (i : Nat) : Nat := [0, 1, 2, 3, 1, 1, 3].getD i 0
def nT (j : Nat) : Nat := [17, 10, 93, 8, 16, 122, 88].getD j 0
def nU (j : Nat) : Nat := [5, 34, 4, 110, 117, 32, 100].getD j 0
def ne1 : Nat := mkg [0] [0]
/-- 0, *, UP, DOWN*, DOWN, UP*, *2 -/
def ne (i : Nat) : Nat := [0, ne1, mkg [0] [ne1], mkg [0] [0, ne1], mkg [ne1] [0], mkg [0, ne1] [0], mkg [0, ne1] [0, ne1]].getD i 0
def sel (l : Nat) : List Nat := (fr (fun i => l.testBit i) 7).map ne
def nG (l r : Nat) : Nat := mkg (sel l) (sel r)
theorem mem_sel {l x : Nat} : x ∈ sel l ↔ ∃ i, i < 7 ∧ l.testBit i = true ∧ ne i = x := by
  unfold sel
  rw [List.mem_map]
  constructor
  · rintro ⟨i, h1, h2⟩
    obtain ⟨h3, h4⟩ := mem_fr.mp h1
    exact ⟨i, h3, h4, h2⟩
  · rintro ⟨i, h1, h2, h3⟩
    exact ⟨i, mem_fr.mpr ⟨h1, h2⟩, h3⟩
theorem op_nGL {l r x : Nat} : op (nG l r) 0 x = true ↔ ∃ i, i < 7 ∧ l.testBit i = true ∧ ne i = x := by unfold nG; rw [op_mkgL, mem_sel]
theorem op_nGR {l r x : Nat} : op (nG l r) 1 x = true ↔ ∃ i, i < 7 ∧ r.testBit i = true ∧ ne i = x := by unfold nG; rw [op_mkgR, mem_sel]
theorem sel_0 : sel 0 = [] := by unfold sel; rw [show fr (fun i => (0 : Nat).testBit i) 7 = [] by decide +kernel]; rfl
theorem sel_1 : sel 1 = [0] := by unfold sel; rw [show fr (fun i => (1 : Nat).testBit i) 7 = [0] by decide +kernel]; rfl
theorem sel_2 : sel 2 = [ne1] := by unfold sel; rw [show fr (fun i => (2 : Nat).testBit i) 7 = [1] by decide +kernel]; rfl
theorem sel_3 : sel 3 = [0, ne1] := by unfold sel; rw [show fr (fun i => (3 : Nat).testBit i) 7 = [0, 1] by decide +kernel]; rfl
theorem ne_G : ∀ i, i < 7 → ne i = nG (nLm i) (nRm i)
  | 0, _ => by show 0 = mkg (sel 0) (sel 0); rw [sel_0]; rfl
  | 1, _ => by show ne1 = mkg (sel 1) (sel 1); rw [sel_1]; rfl
  | 2, _ => by show mkg [0] [ne1] = mkg (sel 1) (sel 2); rw [sel_1, sel_2]
  | 3, _ => by show mkg [0] [0, ne1] = mkg (sel 1) (sel 3); rw [sel_1, sel_3]
  | 4, _ => by show mkg [ne1] [0] = mkg (sel 2) (sel 1); rw [sel_1, sel_2]
  | 5, _ => by show mkg [0, ne1] [0] = mkg (sel 3) (sel 1); rw [sel_1, sel_3]
  | 6, _ => by show mkg [0, ne1] [0, ne1] = mkg (sel 3) (sel 3); rw [sel_3]
  | n + 7, h => by omega
theorem nm_lt : ∀ i, i < 7 → ∀ x, x < 7 → ((nLm i).testBit x = true ∨ (nRm i).testBit x = true) → x < i := by
  have h : ∀ i : Fin 7, ∀ x : Fin 7, ((nLm i.val).testBit x.val = true ∨ (nRm i.val).testBit x.val = true) → x.val < i.val := by decide +kernel
  exact fun i hi x hx => h ⟨i, hi⟩ ⟨x, hx⟩
/-- the order of the seven -/
def nle : Nat → Nat → Nat → Bool
  | 0, _, _ => false
  | f + 1, i, j => ((List.range 7).all fun x => !((nLm i).testBit x && nle f j x)) && ((List.range 7).all fun y => !((nRm j).testBit y && nle f y i))
theorem all7 {p : Nat → Bool} : (List.range 7).all p = true ↔ ∀ i, i < 7 → p i = true := by
  rw [List.all_eq_true]
  exact ⟨fun h i hi => h i (List.mem_range.mpr hi), fun h i hi => h i (List.mem_range.mp hi)⟩
theorem nandB {a b : Bool} : (!(a && b)) = true ↔ (a = true → ¬ b = true) := by cases a <;> cases b <;> decide
theorem nle_ok : ∀ f i j, i < 7 → j < 7 → i + j < f → (nle f i j = true ↔ gle (ne i) (ne j))
  | 0, i, j, _, _, h => absurd h (Nat.not_lt_zero _)
  | f + 1, i, j, hi, hj, h => by
    unfold nle
    rw [Bool.and_eq_true, all7, all7, gle_def]
    constructor
    · rintro ⟨h1, h2⟩
      refine ⟨fun x hx => ?_, fun y hy => ?_⟩
      · rw [ne_G i hi] at hx
        obtain ⟨a, a1, a2, rfl⟩ := op_nGL.mp hx
        have lt := nm_lt i hi a a1 (Or.inl a2)
        rw [← nle_ok f j a hj a1 (by omega)]
        exact nandB.mp (h1 a a1) a2
      · rw [ne_G j hj] at hy
        obtain ⟨a, a1, a2, rfl⟩ := op_nGR.mp hy
        have lt := nm_lt j hj a a1 (Or.inr a2)
        rw [← nle_ok f a i a1 hi (by omega)]
        exact nandB.mp (h2 a a1) a2
    · rintro ⟨h1, h2⟩
      refine ⟨fun a a1 => nandB.mpr (fun a2 => ?_), fun a a1 => nandB.mpr (fun a2 => ?_)⟩
      · have lt := nm_lt i hi a a1 (Or.inl a2)
        rw [nle_ok f j a hj a1 (by omega)]
        exact h1 _ (by rw [ne_G i hi]; exact op_nGL.mpr ⟨a, a1, a2, rfl⟩)
      · have lt := nm_lt j hj a a1 (Or.inr a2)
        rw [nle_ok f a i a1 hi (by omega)]
        exact h2 _ (by rw [ne_G j hj]; exact op_nGR.mpr ⟨a, a1, a2, rfl⟩)
theorem nT_ok {i j : Nat} (hi : i < 7) (hj : j < 7) : (nT j).testBit i = true ↔ gle (ne i) (ne j) := by
  have h : ∀ i : Fin 7, ∀ j : Fin 7, (nT j.val).testBit i.val = nle 14 i.val j.val := by decide +kernel
  have := h ⟨i, hi⟩ ⟨j, hj⟩
  rw [← nle_ok 14 i j hi hj (by omega), ← this]
theorem nU_ok {i j : Nat} (hi : i < 7) (hj : j < 7) : (nU j).testBit i = true ↔ gle (ne j) (ne i) := by
  have h : ∀ i : Fin 7, ∀ j : Fin 7, (nU j.val).testBit i.val = nle 14 j.val i.val := by decide +kernel
  have := h ⟨i, hi⟩ ⟨j, hj⟩
  rw [← nle_ok 14 j i hj hi (by omega), ← this]
/-- which of the seven a game told by masks is above, which it is below -/
def nlh (l r : Nat) : Nat → Nat × Nat
  | 0 => (0, 0)
  | j + 1 => match nlh l r j with
    | (lo, hi) => (if (nLm j &&& hi == 0) && (r &&& nT j == 0) then lo ||| 2 ^ j else lo, if (l &&& nU j == 0) && (nRm j &&& lo == 0) then hi ||| 2 ^ j else hi)
theorem and0 {x y : Nat} : (x &&& y == 0) = true ↔ ∀ c, x.testBit c = true → ¬ y.testBit c = true := by
  rw [beq_iff_eq]
  constructor
  · intro h c h1 h2
    exact absurd h ((and_ne0 x y).mpr ⟨c, h1, h2⟩)
  · intro h
    apply Classical.byContradiction
    intro q
    obtain ⟨c, h1, h2⟩ := (and_ne0 x y).mp q
    exact h c h1 h2
theorem b7 {x c : Nat} (hx : x < 128) (h : x.testBit c = true) : c < 7 := by
  apply Classical.byContradiction
  intro q
  rw [Nat.testBit_lt_two_pow (Nat.lt_of_lt_of_le hx (Nat.pow_le_pow_right (n := 2) (i := 7) (by decide) (by omega)))] at h
  cases h
theorem tab_lt : ∀ j, nLm j < 128 ∧ nRm j < 128 ∧ nT j < 128 ∧ nU j < 128 := by
  intro j
  by_cases h : j < 7
  · have : ∀ j : Fin 7, nLm j.val < 128 ∧ nRm j.val < 128 ∧ nT j.val < 128 ∧ nU j.val < 128 := by decide +kernel
    exact this ⟨j, h⟩
  · have out : ∀ l : List Nat, l.length = 7 → l.getD j 0 = 0 := fun l hl => by
      rw [List.getD_eq_getElem?_getD, List.getElem?_eq_none (by omega)]; rfl
    unfold nLm nRm nT nU
    rw [out _ rfl, out _ rfl, out _ rfl, out _ rfl]
    decide
theorem set_bit (p : Bool) (x j i : Nat) (P : Prop) (hp : p = true ↔ P) : (if p = true then x ||| 2 ^ j else x).testBit i = true ↔ x.testBit i = true ∨ (i = j ∧ P) := by
  cases p
  · rw [if_neg (by decide)]
    exact ⟨Or.inl, fun h => h.elim id (fun h => by have := hp.mpr h.2; cases this)⟩
  · rw [if_pos rfl, or_bit]
    exact ⟨fun h => h.imp id (fun h => ⟨h, hp.mp rfl⟩), fun h => h.imp id And.left⟩
theorem nlh_ok {l r : Nat} (hl : l < 128) (hr : r < 128) : ∀ j, j ≤ 7 → (∀ i, (nlh l r j).1.testBit i = true ↔ i < j ∧ gle (ne i) (nG l r)) ∧ ∀ i, (nlh l r j).2.testBit i = true ↔ i < j ∧ gle (nG l r) (ne i)
  | 0, _ => ⟨fun i => by show (0 : Nat).testBit i = true ↔ _; rw [Nat.zero_testBit]; exact ⟨fun h => (by cases h), fun h => absurd h.1 (Nat.not_lt_zero _)⟩, fun i => by show (0 : Nat).testBit i = true ↔ _; rw [Nat.zero_testBit]; exact ⟨fun h => (by cases h), fun h => absurd h.1 (Nat.not_lt_zero _)⟩⟩
  | j + 1, hj => by
    obtain ⟨h1, h2⟩ := nlh_ok hl hr j (by omega)
    have e : nlh l r (j + 1) = (if ((nLm j &&& (nlh l r j).2 == 0) && (r &&& nT j == 0)) = true then (nlh l r j).1 ||| 2 ^ j else (nlh l r j).1, if ((l &&& nU j == 0) && (nRm j &&& (nlh l r j).1 == 0)) = true then (nlh l r j).2 ||| 2 ^ j else (nlh l r j).2) := rfl
    have pl : ((nLm j &&& (nlh l r j).2 == 0) && (r &&& nT j == 0)) = true ↔ gle (ne j) (nG l r) := by
      rw [Bool.and_eq_true, and0, and0, gle_def]
      constructor
      · rintro ⟨a, b⟩
        refine ⟨fun x hx => ?_, fun y hy => ?_⟩
        · rw [ne_G j (by omega)] at hx
          obtain ⟨i, i1, i2, rfl⟩ := op_nGL.mp hx
          exact fun q => a i i2 ((h2 i).mpr ⟨nm_lt j (by omega) i i1 (Or.inl i2), q⟩)
        · obtain ⟨i, i1, i2, rfl⟩ := op_nGR.mp hy
          exact fun q => b i i2 ((nT_ok i1 (by omega)).mpr q)
      · rintro ⟨a, b⟩
        refine ⟨fun i i2 q => ?_, fun i i2 q => ?_⟩
        · have i1 := b7 (tab_lt j).1 i2
          exact a (ne i) (by rw [ne_G j (by omega)]; exact op_nGL.mpr ⟨i, i1, i2, rfl⟩) ((h2 i).mp q).2
        · have i1 := b7 hr i2
          exact b (ne i) (op_nGR.mpr ⟨i, i1, i2, rfl⟩) ((nT_ok i1 (by omega)).mp q)
    have ph : ((l &&& nU j == 0) && (nRm j &&& (nlh l r j).1 == 0)) = true ↔ gle (nG l r) (ne j) := by
      rw [Bool.and_eq_true, and0, and0, gle_def]
      constructor
      · rintro ⟨a, b⟩
        refine ⟨fun x hx => ?_, fun y hy => ?_⟩
        · obtain ⟨i, i1, i2, rfl⟩ := op_nGL.mp hx
          exact fun q => a i i2 ((nU_ok i1 (by omega)).mpr q)
        · rw [ne_G j (by omega)] at hy
          obtain ⟨i, i1, i2, rfl⟩ := op_nGR.mp hy
          exact fun q => b i i2 ((h1 i).mpr ⟨nm_lt j (by omega) i i1 (Or.inr i2), q⟩)
      · rintro ⟨a, b⟩
        refine ⟨fun i i2 q => ?_, fun i i2 q => ?_⟩
        · have i1 := b7 hl i2
          exact a (ne i) (op_nGL.mpr ⟨i, i1, i2, rfl⟩) ((nU_ok i1 (by omega)).mp q)
        · have i1 := b7 (tab_lt j).2.1 i2
          exact b (ne i) (by rw [ne_G j (by omega)]; exact op_nGR.mpr ⟨i, i1, i2, rfl⟩) ((h1 i).mp q).2
    rw [e]
    refine ⟨fun i => ?_, fun i => ?_⟩
    · rw [set_bit _ _ _ _ _ pl, h1]
      constructor
      · rintro (⟨a, b⟩ | ⟨rfl, b⟩)
        · exact ⟨by omega, b⟩
        · exact ⟨by omega, b⟩
      · rintro ⟨a, b⟩
        rcases (by omega : i < j ∨ i = j) with q | rfl
        · exact Or.inl ⟨q, b⟩
        · exact Or.inr ⟨rfl, b⟩
    · rw [set_bit _ _ _ _ _ ph, h2]
      constructor
      · rintro (⟨a, b⟩ | ⟨rfl, b⟩)
        · exact ⟨by omega, b⟩
        · exact ⟨by omega, b⟩
      · rintro ⟨a, b⟩
        rcases (by omega : i < j ∨ i = j) with q | rfl
        · exact Or.inl ⟨q, b⟩
        · exact Or.inr ⟨rfl, b⟩
def ngle (a b : Nat × Nat) : Bool := (a.1 &&& (nlh b.1 b.2 7).2 == 0) && (b.2 &&& (nlh a.1 a.2 7).1 == 0)
theorem ngle_ok {a b : Nat × Nat} (ha : a.1 < 128 ∧ a.2 < 128) (hb : b.1 < 128 ∧ b.2 < 128) : ngle a b = true ↔ gle (nG a.1 a.2) (nG b.1 b.2) := by
  unfold ngle
  rw [Bool.and_eq_true, and0, and0, gle_def]
  constructor
  · rintro ⟨h1, h2⟩
    refine ⟨fun x hx => ?_, fun y hy => ?_⟩
    · obtain ⟨i, i1, i2, rfl⟩ := op_nGL.mp hx
      exact fun q => h1 i i2 (((nlh_ok hb.1 hb.2 7 (by decide)).2 i).mpr ⟨i1, q⟩)
    · obtain ⟨i, i1, i2, rfl⟩ := op_nGR.mp hy
      exact fun q => h2 i i2 (((nlh_ok ha.1 ha.2 7 (by decide)).1 i).mpr ⟨i1, q⟩)
  · rintro ⟨h1, h2⟩
    refine ⟨fun i i2 q => ?_, fun i i2 q => ?_⟩
    · exact h1 (ne i) (op_nGL.mpr ⟨i, b7 ha.1 i2, i2, rfl⟩) (((nlh_ok hb.1 hb.2 7 (by decide)).2 i).mp q).2
    · exact h2 (ne i) (op_nGR.mpr ⟨i, b7 hb.2 i2, i2, rfl⟩) (((nlh_ok ha.1 ha.2 7 (by decide)).1 i).mp q).2
/-- no one of a mask is at most another -/
def nanti (l : Nat) : Bool := (List.range 7).all fun i => !(l.testBit i && !(l &&& nT i == 2 ^ i))
theorem nanti_ok {l : Nat} (hl : l < 128) : nanti l = true ↔ ∀ i j, l.testBit i = true → l.testBit j = true → i ≠ j → ¬ gle (ne i) (ne j) := by
  unfold nanti
  rw [all7]
  constructor
  · intro h i j hi hj hij q
    have i7 := b7 hl hi
    have j7 := b7 hl hj
    have h2 := h j j7
    rw [hj, Bool.true_and, Bool.not_not, beq_iff_eq] at h2
    have : (l &&& nT j).testBit i = true := by
      rw [Nat.testBit_and, hi, (nT_ok i7 j7).mpr q]; rfl
    rw [h2, Nat.testBit_two_pow, decide_eq_true_eq] at this
    exact hij this.symm
  · intro h j j7
    cases e : l.testBit j
    · rfl
    · rw [Bool.true_and, Bool.not_not, beq_iff_eq]
      apply Nat.eq_of_testBit_eq
      intro i
      rw [Nat.testBit_and, Nat.testBit_two_pow]
      by_cases q : j = i
      · rw [← q, e, (nT_ok j7 j7).mpr (gle_rfl _), decide_eq_true rfl]; rfl
      · rw [decide_eq_false q]
        cases e2 : l.testBit i
        · rfl
        · cases e3 : (nT j).testBit i
          · rfl
          · exact absurd ((nT_ok (b7 hl e2) j7).mp e3) (h i j e2 e (fun e => q e.symm))
/-- canonical -/
def ncan (l r : Nat) : Bool := nanti l && nanti r && (List.range 7).all (fun i => !(l.testBit i && !(nRm i &&& (nlh l r 7).1 == 0)) && !(r.testBit i && !(nLm i &&& (nlh l r 7).2 == 0)))
theorem can_nG {l r : Nat} (hl : l < 128) (hr : r < 128) (h : ncan l r = true) (ho : ∀ i, (l.testBit i = true ∨ r.testBit i = true) → can (ne i)) : can (nG l r) := by
  unfold ncan at h
  rw [Bool.and_eq_true, Bool.and_eq_true, nanti_ok hl, nanti_ok hr, all7] at h
  obtain ⟨⟨aL, aR⟩, rv⟩ := h
  rw [can_def]
  refine ⟨fun w x hw hx => ?_, fun x y hx hy ne => ?_, fun x y hx hy ne => ?_, fun x y hx hy q => ?_, fun x y hx hy q => ?_⟩
  · rcases (by omega : w = 0 ∨ w = 1) with rfl | rfl
    · obtain ⟨i, _, i2, rfl⟩ := op_nGL.mp hx
      exact ho i (Or.inl i2)
    · obtain ⟨i, _, i2, rfl⟩ := op_nGR.mp hx
      exact ho i (Or.inr i2)
  · obtain ⟨i, _, i2, rfl⟩ := op_nGL.mp hx
    obtain ⟨j, _, j2, rfl⟩ := op_nGL.mp hy
    exact aL i j i2 j2 (fun e => ne (by rw [e]))
  · obtain ⟨i, _, i2, rfl⟩ := op_nGR.mp hx
    obtain ⟨j, _, j2, rfl⟩ := op_nGR.mp hy
    exact aR i j i2 j2 (fun e => ne (by rw [e]))
  · obtain ⟨i, i1, i2, rfl⟩ := op_nGL.mp hx
    rw [ne_G i i1] at hy
    obtain ⟨j, j1, j2, rfl⟩ := op_nGR.mp hy
    have := (Bool.and_eq_true _ _).mp (rv i i1)
    have h2 := this.1
    rw [i2, Bool.true_and, Bool.not_not, and0] at h2
    exact h2 j j2 (((nlh_ok hl hr 7 (by decide)).1 j).mpr ⟨j1, q⟩)
  · obtain ⟨i, i1, i2, rfl⟩ := op_nGR.mp hx
    rw [ne_G i i1] at hy
    obtain ⟨j, j1, j2, rfl⟩ := op_nGL.mp hy
    have := (Bool.and_eq_true _ _).mp (rv i i1)
    have h2 := this.2
    rw [i2, Bool.true_and, Bool.not_not, and0] at h2
    exact h2 j j2 (((nlh_ok hl hr 7 (by decide)).2 j).mpr ⟨j1, q⟩)
theorem can_ne : ∀ n i, i < n → i < 7 → can (ne i)
  | 0, i, h, _ => absurd h (Nat.not_lt_zero _)
  | n + 1, i, h, h7 => by
    have hc : ∀ i : Fin 7, ncan (nLm i.val) (nRm i.val) = true := by decide +kernel
    rw [ne_G i h7]
    refine can_nG (tab_lt i).1 (tab_lt i).2.1 (hc ⟨i, h7⟩) (fun j hj => ?_)
    have j7 : j < 7 := hj.elim (b7 (tab_lt i).1) (b7 (tab_lt i).2.1)
    have := nm_lt i h7 j j7 hj
    exact can_ne n j (by omega) j7
theorem can_nG2 {l r : Nat} (hl : l < 128) (hr : r < 128) (h : ncan l r = true) : can (nG l r) := can_nG hl hr h (fun i hi => can_ne 7 i (hi.elim (b7 hl) (b7 hr)) (hi.elim (b7 hl) (b7 hr)))
theorem ne_inj {i j : Nat} (hi : i < 7) (hj : j < 7) (e : ne i = ne j) : i = j := by
  have h : ∀ i : Fin 7, ∀ j : Fin 7, (nT j.val).testBit i.val = true → (nT i.val).testBit j.val = true → i.val = j.val := by decide +kernel
  exact h ⟨i, hi⟩ ⟨j, hj⟩ ((nT_ok hi hj).mpr (by rw [e]; exact gle_rfl _)) ((nT_ok hj hi).mpr (by rw [e]; exact gle_rfl _))
theorem nG_inj {l r l' r' : Nat} (hl : l < 128) (hr : r < 128) (hl' : l' < 128) (hr' : r' < 128) (e : nG l r = nG l' r') : l = l' ∧ r = r' := by
  have one : ∀ a b : Nat, a < 128 → b < 128 → (∀ i, i < 7 → a.testBit i = true → b.testBit i = true) → (∀ i, i < 7 → b.testBit i = true → a.testBit i = true) → a = b := by
    intro a b ha hb h1 h2
    apply Nat.eq_of_testBit_eq
    intro i
    cases e1 : a.testBit i <;> cases e2 : b.testBit i
    · rfl
    · rw [h2 i (b7 hb e2) e2] at e1; cases e1
    · rw [h1 i (b7 ha e1) e1] at e2; cases e2
    · rfl
  have L : ∀ l r l' r' : Nat, nG l r = nG l' r' → ∀ i, i < 7 → l.testBit i = true → l'.testBit i = true := by
    intro l r l' r' e i hi h
    have : op (nG l' r') 0 (ne i) = true := by rw [← e]; exact op_nGL.mpr ⟨i, hi, h, rfl⟩
    obtain ⟨j, j1, j2, j3⟩ := op_nGL.mp this
    rw [← ne_inj j1 hi j3]; exact j2
  have R : ∀ l r l' r' : Nat, nG l r = nG l' r' → ∀ i, i < 7 → r.testBit i = true → r'.testBit i = true := by
    intro l r l' r' e i hi h
    have : op (nG l' r') 1 (ne i) = true := by rw [← e]; exact op_nGR.mpr ⟨i, hi, h, rfl⟩
    obtain ⟨j, j1, j2, j3⟩ := op_nGR.mp this
    rw [← ne_inj j1 hi j3]; exact j2
  exact ⟨one l l' hl hl' (L _ _ _ _ e) (L _ _ _ _ e.symm), one r r' hr hr' (R _ _ _ _ e) (R _ _ _ _ e.symm)⟩
/-! the three days -/
def nS1 : List (Nat × Nat) := [(0, 0), (1, 1)]
def nS2 : List (Nat × Nat) := [(0, 0), (1, 1), (1, 2), (1, 3), (2, 1), (3, 1), (3, 3)]
def nS3 : List (Nat × Nat) := [(0, 0), (1, 1), (1, 2), (1, 3), (1, 4), (1, 6), (1, 8), (1, 9), (1, 32), (1, 36), (1, 64), (1, 66), (2, 1), (2, 16), (3, 1), (3, 3), (3, 9), (3, 16), (3, 18), (3, 24), (3, 33), (3, 65), (3, 67), (4, 2), (4, 3), (4, 6), (4, 8), (4, 9), (4, 66), (6, 3), (6, 9), (6, 18), (6, 24), (6, 67), (8, 1), (9, 3), (9, 9), (16, 1), (18, 1), (18, 16), (24, 1), (32, 1), (32, 16), (33, 1), (33, 3), (33, 9), (33, 16), (33, 18), (33, 24), (33, 33), (33, 65), (33, 67), (36, 3), (36, 9), (36, 18), (36, 24), (36, 67), (64, 1), (65, 3), (65, 9), (66, 1), (66, 16), (67, 3), (67, 9), (67, 18), (67, 24), (67, 67)]
def nA : List Nat := [1, 2, 3, 4, 6, 8, 9, 16, 18, 24, 32, 33, 36, 64, 65, 66, 67]
/-- what a day gives, out of the games of the day before -/
def Day (P : Nat) (S : List (Nat × Nat)) : Prop := (∀ l r, 0 < l → l < 2 ^ P → 0 < r → r < 2 ^ P → nanti l = true → nanti r = true → ∃ s, s ∈ S ∧ geq (nG l r) (nG s.1 s.2)) ∧ (∀ s, s ∈ S → s = (0, 0) ∨ (0 < s.1 ∧ s.1 < 2 ^ P ∧ nanti s.1 = true ∧ 0 < s.2 ∧ s.2 < 2 ^ P ∧ nanti s.2 = true)) ∧ (∀ i, i < P → (nLm i, nRm i) ∈ S) ∧ S.Nodup ∧ ∀ s, s ∈ S → s.1 < 128 ∧ s.2 < 128 ∧ can (nG s.1 s.2)
def dayB (P : Nat) (A : List Nat) (S : List (Nat × Nat)) : Bool := ((List.range (2 ^ P)).all fun l => !(decide (0 < l) && nanti l) || A.contains l) && (A.all fun l => A.all fun r => S.any fun s => ngle (l, r) s && ngle s (l, r)) && (S.all fun s => s == (0, 0) || (decide (0 < s.1) && decide (s.1 < 2 ^ P) && nanti s.1 && decide (0 < s.2) && decide (s.2 < 2 ^ P) && nanti s.2)) && ((List.range P).all fun i => S.contains (nLm i, nRm i)) && (S.all fun s => decide (s.1 < 128) && decide (s.2 < 128) && ncan s.1 s.2)
theorem dayB_ok {P : Nat} {A : List Nat} {S : List (Nat × Nat)} (hP : P ≤ 7) (hA : ∀ l, l ∈ A → l < 128) (hS : S.Nodup) (h : dayB P A S = true) : Day P S := by
  unfold dayB at h
  rw [Bool.and_eq_true, Bool.and_eq_true, Bool.and_eq_true, Bool.and_eq_true, List.all_eq_true, List.all_eq_true, List.all_eq_true, List.all_eq_true, List.all_eq_true] at h
  obtain ⟨⟨⟨⟨h1, h2⟩, h3⟩, h4⟩, h5⟩ := h
  have inS : ∀ s, s ∈ S → s.1 < 128 ∧ s.2 < 128 ∧ can (nG s.1 s.2) := fun s hs => by
    have := h5 s hs
    rw [Bool.and_eq_true, Bool.and_eq_true, decide_eq_true_eq, decide_eq_true_eq] at this
    exact ⟨this.1.1, this.1.2, can_nG2 this.1.1 this.1.2 this.2⟩
  have inA : ∀ l, 0 < l → l < 2 ^ P → nanti l = true → l ∈ A := fun l a b c => by
    have := h1 l (List.mem_range.mpr b)
    rw [decide_eq_true a, c] at this
    exact List.contains_iff_mem.mp this
  refine ⟨fun l r l0 l1 r0 r1 lA rA => ?_, fun s hs => ?_, fun i hi => ?_, hS, inS⟩
  · have iL := inA l l0 l1 lA
    have iR := inA r r0 r1 rA
    have := h2 l iL
    rw [List.all_eq_true] at this
    have := this r iR
    rw [List.any_eq_true] at this
    obtain ⟨s, hs, q⟩ := this
    rw [Bool.and_eq_true] at q
    obtain ⟨s1, s2, _⟩ := inS s hs
    exact ⟨s, hs, (ngle_ok (a := (l, r)) ⟨hA l iL, hA r iR⟩ ⟨s1, s2⟩).mp q.1, (ngle_ok (b := (l, r)) ⟨s1, s2⟩ ⟨hA l iL, hA r iR⟩).mp q.2⟩
  · have := h3 s hs
    rw [Bool.or_eq_true] at this
    rcases this with q | q
    · exact Or.inl (beq_iff_eq.mp q)
    · rw [Bool.and_eq_true, Bool.and_eq_true, Bool.and_eq_true, Bool.and_eq_true, Bool.and_eq_true, decide_eq_true_eq, decide_eq_true_eq, decide_eq_true_eq, decide_eq_true_eq] at q
      exact Or.inr ⟨q.1.1.1.1.1, q.1.1.1.1.2, q.1.1.1.2, q.1.1.2, q.1.2, q.2⟩
  · exact List.contains_iff_mem.mp (h4 i (List.mem_range.mpr hi))
theorem day1 : Day 1 nS1 := dayB_ok (A := [1]) (by decide) (by decide) (by decide) (by decide +kernel)
theorem day2 : Day 2 nS2 := dayB_ok (A := [1, 2, 3]) (by decide) (by decide) (by decide) (by decide +kernel)
theorem nA_lt : ∀ l, l ∈ nA → l < 128 := by
  have : nA.all (fun l => decide (l < 128)) = true := by decide +kernel
  intro l hl
  exact decide_eq_true_eq.mp (List.all_eq_true.mp this l hl)
theorem nS3_nodup : nS3.Nodup := by decide +kernel
theorem day3 : Day 7 nS3 := dayB_ok (A := nA) (by decide) nA_lt nS3_nodup (by decide +kernel)
theorem nS3_len : nS3.length = 67 := by decide +kernel
