/-! GAMES AS NUMBERS: bit 2 x + w of the number g tells that x is an option of w (0 left, 1 right); so games with the same options are the same number -/
def op (g w x : Nat) : Bool := g.testBit (2 * x + w)
theorem op_lt {g w x : Nat} (h : op g w x = true) : x < g := by
  have h1 : 2 ^ (2 * x + w) ≤ g := Nat.ge_two_pow_of_testBit h
  have h2 : 2 * x + w < 2 ^ (2 * x + w) := Nat.lt_two_pow_self
  omega
/-- at most -/
def gle (g h : Nat) : Prop := (∀ x, (hx : op g 0 x = true) → ¬ gle h x) ∧ (∀ y, (hy : op h 1 y = true) → ¬ gle y g)
termination_by g + h
decreasing_by
  · have := op_lt hx; omega
  · have := op_lt hy; omega
theorem gle_def (g h : Nat) : gle g h ↔ (∀ x, op g 0 x = true → ¬ gle h x) ∧ (∀ y, op h 1 y = true → ¬ gle y g) := by
  rw [gle]
theorem gle_self (g : Nat) : gle g g ∧ (∀ x, op g 0 x = true → ¬ gle g x) ∧ ∀ y, op g 1 y = true → ¬ gle y g := by
  induction g using Nat.strongRecOn with
  | _ g ih =>
    have h1 : ∀ x, op g 0 x = true → ¬ gle g x := fun x hx h => ((gle_def g x).mp h).1 x hx (ih x (op_lt hx)).1
    have h2 : ∀ y, op g 1 y = true → ¬ gle y g := fun y hy h => ((gle_def y g).mp h).2 y hy (ih y (op_lt hy)).1
    exact ⟨(gle_def g g).mpr ⟨h1, h2⟩, h1, h2⟩
theorem gle_rfl (g : Nat) : gle g g := (gle_self g).1
theorem gle_L {g x : Nat} (h : op g 0 x = true) : ¬ gle g x := (gle_self g).2.1 x h
theorem gle_R {g y : Nat} (h : op g 1 y = true) : ¬ gle y g := (gle_self g).2.2 y h
theorem gle_tr_aux : ∀ (n a b c : Nat), a + b + c ≤ n → gle a b → gle b c → gle a c
  | 0, a, b, c, hn, h1, h2 => by
    have : a = 0 := by omega
    have : b = 0 := by omega
    have : c = 0 := by omega
    subst_vars
    exact h1
  | n + 1, a, b, c, hn, h1, h2 => by
    rw [gle_def]
    refine ⟨fun x hx h => ?_, fun y hy h => ?_⟩
    · have hl := op_lt hx
      exact ((gle_def a b).mp h1).1 x hx (gle_tr_aux n b c x (by omega) h2 h)
    · have hl := op_lt hy
      exact ((gle_def b c).mp h2).2 y hy (gle_tr_aux n y a b (by omega) h h1)
theorem gle_tr {a b c : Nat} (h1 : gle a b) (h2 : gle b c) : gle a c := gle_tr_aux _ a b c (Nat.le_refl _) h1 h2
theorem not_gle {g h : Nat} : ¬ gle g h ↔ (∃ x, op g 0 x = true ∧ gle h x) ∨ ∃ y, op h 1 y = true ∧ gle y g := by
  rw [gle_def]
  constructor
  · intro hn
    apply Classical.byContradiction
    intro hc
    exact hn ⟨fun x hx h => hc (Or.inl ⟨x, hx, h⟩), fun y hy h => hc (Or.inr ⟨y, hy, h⟩)⟩
  · rintro (⟨x, hx, h⟩ | ⟨y, hy, h⟩) ⟨h1, h2⟩
    · exact h1 x hx h
    · exact h2 y hy h
def geq (g h : Nat) : Prop := gle g h ∧ gle h g
theorem geq_rfl (g : Nat) : geq g g := ⟨gle_rfl g, gle_rfl g⟩
theorem geq.sy {g h : Nat} (x : geq g h) : geq h g := ⟨x.2, x.1⟩
theorem geq.tr {a b c : Nat} (x : geq a b) (y : geq b c) : geq a c := ⟨gle_tr x.1 y.1, gle_tr y.2 x.2⟩
theorem geq.l {a b c : Nat} (x : geq a b) : gle a c ↔ gle b c := ⟨gle_tr x.2, gle_tr x.1⟩
theorem geq.r {a b c : Nat} (x : geq a b) : gle c a ↔ gle c b := ⟨fun h => gle_tr h x.1, fun h => gle_tr h x.2⟩
theorem op_ext {g h : Nat} (h0 : ∀ w, w < 2 → ∀ x, op g w x = op h w x) : g = h := by
  apply Nat.eq_of_testBit_eq
  intro i
  have e : i = 2 * (i / 2) + i % 2 := by omega
  have := h0 (i % 2) (by omega) (i / 2)
  unfold op at this
  rw [← e] at this
  exact this
/-- canonical -/
def can (g : Nat) : Prop := (∀ w x, (hw : w < 2) → (hx : op g w x = true) → can x) ∧ (∀ x y, op g 0 x = true → op g 0 y = true → x ≠ y → ¬ gle x y) ∧ (∀ x y, op g 1 x = true → op g 1 y = true → x ≠ y → ¬ gle x y) ∧ (∀ x y, op g 0 x = true → op x 1 y = true → ¬ gle y g) ∧ (∀ x y, op g 1 x = true → op x 0 y = true → ¬ gle g y)
termination_by g
decreasing_by exact op_lt hx
theorem can_def (g : Nat) : can g ↔ (∀ w x, w < 2 → op g w x = true → can x) ∧ (∀ x y, op g 0 x = true → op g 0 y = true → x ≠ y → ¬ gle x y) ∧ (∀ x y, op g 1 x = true → op g 1 y = true → x ≠ y → ¬ gle x y) ∧ (∀ x y, op g 0 x = true → op x 1 y = true → ¬ gle y g) ∧ (∀ x y, op g 1 x = true → op x 0 y = true → ¬ gle g y) := by
  rw [can]
theorem can.op {g w x : Nat} (h : can g) (hx : op g w x = true) (hw : w < 2 := by decide) : can x := ((can_def g).mp h).1 w x hw hx
/-- an option of left of one canonical game is at most one of an equal one's -/
theorem can_domL {g h x : Nat} (cg : can g) (e : geq g h) (hx : op g 0 x = true) : ∃ y, op h 0 y = true ∧ gle x y := by
  have h1 := ((gle_def g h).mp e.1).1 x hx
  rcases not_gle.mp h1 with ⟨y, hy, hxy⟩ | ⟨z, hz, hzh⟩
  · exact ⟨y, hy, hxy⟩
  · exact absurd (gle_tr hzh e.2) (((can_def g).mp cg).2.2.2.1 x z hx hz)
theorem can_domR {g h x : Nat} (cg : can g) (e : geq g h) (hx : op g 1 x = true) : ∃ y, op h 1 y = true ∧ gle y x := by
  have h1 := ((gle_def h g).mp e.2).2 x hx
  rcases not_gle.mp h1 with ⟨z, hz, hzh⟩ | ⟨y, hy, hxy⟩
  · exact absurd (gle_tr e.1 hzh) (((can_def g).mp cg).2.2.2.2 x z hx hz)
  · exact ⟨y, hy, hxy⟩
theorem can_uniq_aux : ∀ (n g h : Nat), g + h ≤ n → can g → can h → geq g h → g = h
  | 0, g, h, hn, _, _, _ => by omega
  | n + 1, g, h, hn, cg, ch, e => by
    have subL : ∀ a b, a + b ≤ n + 1 → can a → can b → geq a b → ∀ x, op a 0 x = true → op b 0 x = true := by
      intro a b hab ca cb e x hx
      obtain ⟨y, hy, hxy⟩ := can_domL ca e hx
      obtain ⟨x2, hx2, hyx⟩ := can_domL cb e.sy hy
      have e2 : x = x2 := Classical.byContradiction fun q => ((can_def a).mp ca).2.1 x x2 hx hx2 q (gle_tr hxy hyx)
      subst e2
      have l1 := op_lt hx
      have l2 := op_lt hy
      rw [can_uniq_aux n x y (by omega) (ca.op hx) (cb.op hy) ⟨hxy, hyx⟩]
      exact hy
    have subR : ∀ a b, a + b ≤ n + 1 → can a → can b → geq a b → ∀ x, op a 1 x = true → op b 1 x = true := by
      intro a b hab ca cb e x hx
      obtain ⟨y, hy, hxy⟩ := can_domR ca e hx
      obtain ⟨x2, hx2, hyx⟩ := can_domR cb e.sy hy
      have e2 : x2 = x := Classical.byContradiction fun q => ((can_def a).mp ca).2.2.1 x2 x hx2 hx q (gle_tr hyx hxy)
      subst e2
      have l1 := op_lt hx
      have l2 := op_lt hy
      rw [can_uniq_aux n x2 y (by omega) (ca.op hx) (cb.op hy) ⟨hyx, hxy⟩]
      exact hy
    apply op_ext
    intro w hw x
    rcases (by omega : w = 0 ∨ w = 1) with rfl | rfl
    · exact Bool.eq_iff_iff.mpr ⟨subL g h hn cg ch e x, subL h g (by omega) ch cg e.sy x⟩
    · exact Bool.eq_iff_iff.mpr ⟨subR g h hn cg ch e x, subR h g (by omega) ch cg e.sy x⟩
/-- to each game at most one canonical one is equal -/
theorem can_uniq {g h : Nat} (cg : can g) (ch : can h) (e : geq g h) : g = h := can_uniq_aux _ g h (Nat.le_refl _) cg ch e
/-! games out of two lists of options -/
def orB (w : Nat) (l : List Nat) (a : Nat) : Nat := l.foldr (fun x a => a ||| 2 ^ (2 * x + w)) a
def mkg (l r : List Nat) : Nat := orB 0 l (orB 1 r 0)
theorem tb_pow (i j : Nat) : (2 ^ i).testBit j = decide (i = j) := Nat.testBit_two_pow
theorem orB_bit (w : Nat) (hw : w < 2) (l : List Nat) (a w2 x : Nat) (hw2 : w2 < 2) : (orB w l a).testBit (2 * x + w2) = (a.testBit (2 * x + w2) || (decide (w = w2) && l.contains x)) := by
  induction l with
  | nil => simp [orB]
  | cons y l ih =>
    show ((orB w l a) ||| 2 ^ (2 * y + w)).testBit (2 * x + w2) = _
    rw [Nat.testBit_or, ih, tb_pow, List.contains_cons]
    by_cases h1 : w = w2
    · subst h1
      by_cases h2 : y = x
      · subst h2; simp
      · have h3 : ¬ (2 * y + w = 2 * x + w) := by omega
        have h4 : (x == y) = false := by simp; exact fun q => h2 q.symm
        simp [h3, h4]
        intro q; omega
    · have h3 : ¬ (2 * y + w = 2 * x + w2) := by omega
      simp [h1, h3]
theorem op_mkg (l r : List Nat) (w x : Nat) (hw : w < 2) : op (mkg l r) w x = if w = 0 then l.contains x else r.contains x := by
  unfold op mkg
  rw [orB_bit 0 (by decide) _ _ _ _ hw, orB_bit 1 (by decide) _ _ _ _ hw]
  rcases (by omega : w = 0 ∨ w = 1) with rfl | rfl <;> simp
theorem op_mkgL (l r : List Nat) (x : Nat) : op (mkg l r) 0 x = true ↔ x ∈ l := by rw [op_mkg _ _ _ _ (by decide), if_pos rfl, List.contains_iff_mem]
theorem op_mkgR (l r : List Nat) (x : Nat) : op (mkg l r) 1 x = true ↔ x ∈ r := by rw [op_mkg _ _ _ _ (by decide), if_neg (by decide), List.contains_iff_mem]
/-! what may be changed without changing the value -/
theorem gle_of {g h : Nat} (hl : ∀ x, op g 0 x = true → ¬ gle h x) (hr : ∀ y, op h 1 y = true → ¬ gle y g) : gle g h := (gle_def g h).mpr ⟨hl, hr⟩
/-- each option has one as good on the other side -/
theorem gle_congr {g h : Nat} (hl : ∀ x, op g 0 x = true → ∃ y, op h 0 y = true ∧ gle x y) (hr : ∀ y, op h 1 y = true → ∃ x, op g 1 x = true ∧ gle x y) : gle g h := gle_of (fun x hx q => by
  obtain ⟨y, hy, hxy⟩ := hl x hx
  exact gle_L hy (gle_tr q hxy)) (fun y hy q => by
  obtain ⟨x, hx, hxy⟩ := hr y hy
  exact gle_R hx (gle_tr hxy q))
/-- a reversible option of left: what stands behind the answer takes its place -/
theorem byL {g g2 x z : Nat} (hx : op g 0 x = true) (hz : op x 1 z = true) (hzg : gle z g) (hR : ∀ y, op g2 1 y = op g 1 y) (h1 : ∀ u, op g2 0 u = true → op g 0 u = true ∨ op z 0 u = true) (h2 : ∀ u, op g 0 u = true → u = x ∨ op g2 0 u = true) (h3 : ∀ u, op z 0 u = true → op g2 0 u = true) : geq g g2 := by
  refine ⟨gle_of (fun u hu q => ?_) (fun y hy => gle_R (by rw [← hR]; exact hy)), gle_of (fun u hu q => ?_) (fun y hy => gle_R (by rw [hR]; exact hy))⟩
  · rcases h2 u hu with rfl | hu2
    · exact ((gle_def g2 u).mp q).2 z hz (gle_of (fun v hv => gle_L (h3 v hv)) (fun y hy w => gle_R (g := g) (by rw [← hR]; exact hy) (gle_tr w hzg)))
    · exact gle_L hu2 q
  · rcases h1 u hu with hu | hu
    · exact gle_L hu q
    · exact gle_L hu (gle_tr hzg q)
theorem byR {g g2 x z : Nat} (hx : op g 1 x = true) (hz : op x 0 z = true) (hzg : gle g z) (hL : ∀ y, op g2 0 y = op g 0 y) (h1 : ∀ u, op g2 1 u = true → op g 1 u = true ∨ op z 1 u = true) (h2 : ∀ u, op g 1 u = true → u = x ∨ op g2 1 u = true) (h3 : ∀ u, op z 1 u = true → op g2 1 u = true) : geq g g2 := by
  refine ⟨gle_of (fun u hu => gle_L (by rw [hL]; exact hu)) (fun u hu q => ?_), gle_of (fun u hu => gle_L (by rw [← hL]; exact hu)) (fun u hu q => ?_)⟩
  · rcases h1 u hu with hu | hu
    · exact gle_R hu q
    · exact gle_R hu (gle_tr q hzg)
  · rcases h2 u hu with rfl | hu2
    · exact ((gle_def u g2).mp q).1 z hz (gle_of (fun y hy w => gle_L (g := g) (by rw [← hL]; exact hy) (gle_tr hzg w)) (fun v hv => gle_R (h3 v hv)))
    · exact gle_R hu2 q
/-- an option of left that is at most another one may go -/
theorem dropL {g g2 x y : Nat} (hy : op g2 0 y = true) (hxy : gle x y) (hR : ∀ y, op g2 1 y = op g 1 y) (h1 : ∀ u, op g2 0 u = true → op g 0 u = true) (h2 : ∀ u, op g 0 u = true → u = x ∨ op g2 0 u = true) : geq g g2 := by
  refine ⟨gle_of (fun u hu q => ?_) (fun y hy => gle_R (by rw [← hR]; exact hy)), gle_of (fun u hu => gle_L (h1 u hu)) (fun y hy => gle_R (by rw [hR]; exact hy))⟩
  rcases h2 u hu with rfl | hu2
  · exact gle_L hy (gle_tr q hxy)
  · exact gle_L hu2 q
theorem dropR {g g2 x y : Nat} (hy : op g2 1 y = true) (hxy : gle y x) (hL : ∀ y, op g2 0 y = op g 0 y) (h1 : ∀ u, op g2 1 u = true → op g 1 u = true) (h2 : ∀ u, op g 1 u = true → u = x ∨ op g2 1 u = true) : geq g g2 := by
  refine ⟨gle_of (fun u hu => gle_L (by rw [hL]; exact hu)) (fun u hu => gle_R (h1 u hu)), gle_of (fun u hu => gle_L (by rw [← hL]; exact hu)) (fun u hu q => ?_)⟩
  rcases h2 u hu with rfl | hu2
  · exact gle_R hy (gle_tr hxy q)
  · exact gle_R hu2 q
/-! sums and negatives -/
def opts (g w : Nat) : List Nat := (List.range g).filter (fun x => op g w x)
theorem mem_opts {g w x : Nat} : x ∈ opts g w ↔ op g w x = true := by
  unfold opts
  rw [List.mem_filter, List.mem_range]
  exact ⟨fun h => h.2, fun h => ⟨op_lt h, h⟩⟩
def gadd (g h : Nat) : Nat := mkg ((opts g 0).attach.map (fun x => gadd x.1 h) ++ (opts h 0).attach.map (fun y => gadd g y.1)) ((opts g 1).attach.map (fun x => gadd x.1 h) ++ (opts h 1).attach.map (fun y => gadd g y.1))
termination_by g + h
decreasing_by
  all_goals first
    | (have h1 := op_lt (mem_opts.mp x.2); omega)
    | (have h1 := op_lt (mem_opts.mp y.2); omega)
theorem op_gadd {g h w z : Nat} (hw : w < 2) : op (gadd g h) w z = true ↔ (∃ x, op g w x = true ∧ gadd x h = z) ∨ ∃ y, op h w y = true ∧ gadd g y = z := by
  rw [gadd]
  rcases (by omega : w = 0 ∨ w = 1) with rfl | rfl
  · rw [op_mkgL, List.mem_append, List.mem_map, List.mem_map]
    constructor
    · rintro (⟨⟨x, hx⟩, -, rfl⟩ | ⟨⟨y, hy⟩, -, rfl⟩)
      · exact Or.inl ⟨x, mem_opts.mp hx, rfl⟩
      · exact Or.inr ⟨y, mem_opts.mp hy, rfl⟩
    · rintro (⟨x, hx, rfl⟩ | ⟨y, hy, rfl⟩)
      · exact Or.inl ⟨⟨x, mem_opts.mpr hx⟩, List.mem_attach _ _, rfl⟩
      · exact Or.inr ⟨⟨y, mem_opts.mpr hy⟩, List.mem_attach _ _, rfl⟩
  · rw [op_mkgR, List.mem_append, List.mem_map, List.mem_map]
    constructor
    · rintro (⟨⟨x, hx⟩, -, rfl⟩ | ⟨⟨y, hy⟩, -, rfl⟩)
      · exact Or.inl ⟨x, mem_opts.mp hx, rfl⟩
      · exact Or.inr ⟨y, mem_opts.mp hy, rfl⟩
    · rintro (⟨x, hx, rfl⟩ | ⟨y, hy, rfl⟩)
      · exact Or.inl ⟨⟨x, mem_opts.mpr hx⟩, List.mem_attach _ _, rfl⟩
      · exact Or.inr ⟨⟨y, mem_opts.mpr hy⟩, List.mem_attach _ _, rfl⟩
theorem gadd_comm_aux : ∀ (n g h : Nat), g + h ≤ n → gadd g h = gadd h g
  | 0, g, h, hn => by
    have e1 : g = 0 := by omega
    have e2 : h = 0 := by omega
    rw [e1, e2]
  | n + 1, g, h, hn => by
    apply op_ext
    intro w hw z
    apply Bool.eq_iff_iff.mpr
    rw [op_gadd hw, op_gadd hw]
    constructor
    · rintro (⟨x, hx, rfl⟩ | ⟨y, hy, rfl⟩)
      · have := op_lt hx
        exact Or.inr ⟨x, hx, (gadd_comm_aux n x h (by omega)).symm⟩
      · have := op_lt hy
        exact Or.inl ⟨y, hy, (gadd_comm_aux n g y (by omega)).symm⟩
    · rintro (⟨x, hx, rfl⟩ | ⟨y, hy, rfl⟩)
      · have := op_lt hx
        exact Or.inr ⟨x, hx, gadd_comm_aux n g x (by omega)⟩
      · have := op_lt hy
        exact Or.inl ⟨y, hy, gadd_comm_aux n y h (by omega)⟩
theorem gadd_comm (g h : Nat) : gadd g h = gadd h g := gadd_comm_aux _ g h (Nat.le_refl _)
theorem op_0 (w x : Nat) : op 0 w x = false := by unfold op; exact Nat.zero_testBit _
theorem gadd_0 (g : Nat) : gadd g 0 = g := by
  induction g using Nat.strongRecOn with
  | _ g ih =>
    apply op_ext
    intro w hw z
    apply Bool.eq_iff_iff.mpr
    rw [op_gadd hw]
    constructor
    · rintro (⟨x, hx, rfl⟩ | ⟨y, hy, -⟩)
      · rw [ih x (op_lt hx)]; exact hx
      · rw [op_0] at hy; cases hy
    · intro hz
      exact Or.inl ⟨z, hz, ih z (op_lt hz)⟩
theorem gadd_assoc_aux : ∀ (n a b c : Nat), a + b + c ≤ n → gadd (gadd a b) c = gadd a (gadd b c)
  | 0, a, b, c, hn => by
    have e1 : a = 0 := by omega
    have e2 : b = 0 := by omega
    have e3 : c = 0 := by omega
    rw [e1, e2, e3]
    simp only [gadd_0]
  | n + 1, a, b, c, hn => by
    apply op_ext
    intro w hw z
    apply Bool.eq_iff_iff.mpr
    rw [op_gadd hw, op_gadd hw]
    constructor
    · rintro (⟨x, hx, rfl⟩ | ⟨y, hy, rfl⟩)
      · rcases (op_gadd hw).mp hx with ⟨u, hu, rfl⟩ | ⟨u, hu, rfl⟩
        · have := op_lt hu
          exact Or.inl ⟨u, hu, (gadd_assoc_aux n u b c (by omega)).symm⟩
        · have := op_lt hu
          exact Or.inr ⟨gadd u c, (op_gadd hw).mpr (Or.inl ⟨u, hu, rfl⟩), (gadd_assoc_aux n a u c (by omega)).symm⟩
      · have := op_lt hy
        exact Or.inr ⟨gadd b y, (op_gadd hw).mpr (Or.inr ⟨y, hy, rfl⟩), (gadd_assoc_aux n a b y (by omega)).symm⟩
    · rintro (⟨x, hx, rfl⟩ | ⟨y, hy, rfl⟩)
      · have := op_lt hx
        exact Or.inl ⟨gadd x b, (op_gadd hw).mpr (Or.inl ⟨x, hx, rfl⟩), gadd_assoc_aux n x b c (by omega)⟩
      · rcases (op_gadd hw).mp hy with ⟨u, hu, rfl⟩ | ⟨u, hu, rfl⟩
        · have := op_lt hu
          exact Or.inl ⟨gadd a u, (op_gadd hw).mpr (Or.inr ⟨u, hu, rfl⟩), gadd_assoc_aux n a u c (by omega)⟩
        · have := op_lt hu
          exact Or.inr ⟨u, hu, gadd_assoc_aux n a b u (by omega)⟩
theorem gadd_assoc (a b c : Nat) : gadd (gadd a b) c = gadd a (gadd b c) := gadd_assoc_aux _ a b c (Nat.le_refl _)
/-- adding the same changes no order -/
theorem gadd_le_aux : ∀ (n a b c : Nat), a + b + c ≤ n → (gle (gadd a c) (gadd b c) ↔ gle a b)
  | 0, a, b, c, hn => by
    have e1 : a = 0 := by omega
    have e2 : b = 0 := by omega
    have e3 : c = 0 := by omega
    rw [e1, e2, e3, gadd_0]
  | n + 1, a, b, c, hn => by
    constructor
    · intro h
      apply Classical.byContradiction
      intro hn2
      rcases not_gle.mp hn2 with ⟨x, hx, hbx⟩ | ⟨y, hy, hya⟩
      · have := op_lt hx
        have h2 := (gadd_le_aux n b x c (by omega)).mpr hbx
        exact gle_L ((op_gadd (by decide)).mpr (Or.inl ⟨x, hx, rfl⟩)) (gle_tr h h2)
      · have := op_lt hy
        have h2 := (gadd_le_aux n y a c (by omega)).mpr hya
        exact gle_R ((op_gadd (by decide)).mpr (Or.inl ⟨y, hy, rfl⟩)) (gle_tr h2 h)
    · intro h
      refine gle_of (fun z hz q => ?_) (fun z hz q => ?_)
      · rcases (op_gadd (by decide)).mp hz with ⟨x, hx, rfl⟩ | ⟨y, hy, rfl⟩
        · have := op_lt hx
          exact ((gle_def a b).mp h).1 x hx ((gadd_le_aux n b x c (by omega)).mp q)
        · have := op_lt hy
          have h2 := (gadd_le_aux n a b y (by omega)).mpr h
          exact gle_L ((op_gadd (by decide)).mpr (Or.inr ⟨y, hy, rfl⟩)) (gle_tr q h2)
      · rcases (op_gadd (by decide)).mp hz with ⟨x, hx, rfl⟩ | ⟨y, hy, rfl⟩
        · have := op_lt hx
          exact ((gle_def a b).mp h).2 x hx ((gadd_le_aux n x a c (by omega)).mp q)
        · have := op_lt hy
          have h2 := (gadd_le_aux n a b y (by omega)).mpr h
          exact gle_R ((op_gadd (by decide)).mpr (Or.inr ⟨y, hy, rfl⟩)) (gle_tr h2 q)
theorem gadd_le {a b c : Nat} : gle (gadd a c) (gadd b c) ↔ gle a b := gadd_le_aux _ a b c (Nat.le_refl _)
theorem gadd_le2 {a b c : Nat} : gle (gadd c a) (gadd c b) ↔ gle a b := by rw [gadd_comm c a, gadd_comm c b, gadd_le]
theorem gadd_mono {a b c d : Nat} (h1 : gle a b) (h2 : gle c d) : gle (gadd a c) (gadd b d) := gle_tr (gadd_le.mpr h1) (gadd_le2.mpr h2)
theorem gadd_eq {a b c d : Nat} (h1 : geq a b) (h2 : geq c d) : geq (gadd a c) (gadd b d) := ⟨gadd_mono h1.1 h2.1, gadd_mono h1.2 h2.2⟩
def gneg (g : Nat) : Nat := mkg ((opts g 1).attach.map (fun x => gneg x.1)) ((opts g 0).attach.map (fun x => gneg x.1))
termination_by g
decreasing_by
  all_goals exact op_lt (mem_opts.mp x.2)
theorem op_gneg {g w z : Nat} (hw : w < 2) : op (gneg g) w z = true ↔ ∃ x, op g (1 - w) x = true ∧ gneg x = z := by
  rw [gneg]
  rcases (by omega : w = 0 ∨ w = 1) with rfl | rfl
  · rw [op_mkgL, List.mem_map]
    constructor
    · rintro ⟨⟨x, hx⟩, -, rfl⟩
      exact ⟨x, mem_opts.mp hx, rfl⟩
    · rintro ⟨x, hx, rfl⟩
      exact ⟨⟨x, mem_opts.mpr hx⟩, List.mem_attach _ _, rfl⟩
  · rw [op_mkgR, List.mem_map]
    constructor
    · rintro ⟨⟨x, hx⟩, -, rfl⟩
      exact ⟨x, mem_opts.mp hx, rfl⟩
    · rintro ⟨x, hx, rfl⟩
      exact ⟨⟨x, mem_opts.mpr hx⟩, List.mem_attach _ _, rfl⟩
theorem gneg_neg (g : Nat) : gneg (gneg g) = g := by
  induction g using Nat.strongRecOn with
  | _ g ih =>
    apply op_ext
    intro w hw z
    apply Bool.eq_iff_iff.mpr
    rw [op_gneg hw]
    constructor
    · rintro ⟨x, hx, rfl⟩
      obtain ⟨u, hu, rfl⟩ := (op_gneg (by omega)).mp hx
      rw [show 1 - (1 - w) = w by omega] at hu
      rw [ih u (op_lt hu)]
      exact hu
    · intro hz
      exact ⟨gneg z, (op_gneg (by omega)).mpr ⟨z, by rw [show 1 - (1 - w) = w by omega]; exact hz, rfl⟩, ih z (op_lt hz)⟩
theorem gneg_le_aux : ∀ (n a b : Nat), a + b ≤ n → (gle (gneg a) (gneg b) ↔ gle b a)
  | 0, a, b, hn => by
    have e1 : a = 0 := by omega
    have e2 : b = 0 := by omega
    rw [e1, e2]
    exact ⟨fun _ => gle_rfl _, fun _ => gle_rfl _⟩
  | n + 1, a, b, hn => by
    constructor
    · intro h
      rw [gle_def] at h
      refine gle_of (fun x hx q => ?_) (fun y hy q => ?_)
      · have := op_lt hx
        exact h.2 (gneg x) ((op_gneg (by decide)).mpr ⟨x, hx, rfl⟩) ((gneg_le_aux n x a (by omega)).mpr q)
      · have := op_lt hy
        exact h.1 (gneg y) ((op_gneg (by decide)).mpr ⟨y, hy, rfl⟩) ((gneg_le_aux n b y (by omega)).mpr q)
    · intro h
      rw [gle_def] at h
      refine gle_of (fun x hx q => ?_) (fun y hy q => ?_)
      · obtain ⟨u, hu, rfl⟩ := (op_gneg (by decide)).mp hx
        have := op_lt hu
        exact h.2 u hu ((gneg_le_aux n b u (by omega)).mp q)
      · obtain ⟨u, hu, rfl⟩ := (op_gneg (by decide)).mp hy
        have := op_lt hu
        exact h.1 u hu ((gneg_le_aux n u a (by omega)).mp q)
theorem gneg_le {a b : Nat} : gle (gneg a) (gneg b) ↔ gle b a := gneg_le_aux _ a b (Nat.le_refl _)
/-- a game and its negative together: who moves second wins -/
theorem gadd_neg (g : Nat) : geq (gadd g (gneg g)) 0 := by
  induction g using Nat.strongRecOn with
  | _ g ih =>
    constructor
    · refine gle_of (fun z hz q => ?_) (fun y hy => by rw [op_0] at hy; cases hy)
      rcases (op_gadd (by decide)).mp hz with ⟨x, hx, rfl⟩ | ⟨y, hy, rfl⟩
      · exact ((gle_def _ _).mp q).2 (gadd x (gneg x)) ((op_gadd (by decide)).mpr (Or.inr ⟨gneg x, (op_gneg (by decide)).mpr ⟨x, hx, rfl⟩, rfl⟩)) (ih x (op_lt hx)).1
      · obtain ⟨u, hu, rfl⟩ := (op_gneg (by decide)).mp hy
        exact ((gle_def _ _).mp q).2 (gadd u (gneg u)) ((op_gadd (by decide)).mpr (Or.inl ⟨u, hu, rfl⟩)) (ih u (op_lt hu)).1
    · refine gle_of (fun y hy => by rw [op_0] at hy; cases hy) (fun z hz q => ?_)
      rcases (op_gadd (by decide)).mp hz with ⟨x, hx, rfl⟩ | ⟨y, hy, rfl⟩
      · exact ((gle_def _ _).mp q).1 (gadd x (gneg x)) ((op_gadd (by decide)).mpr (Or.inr ⟨gneg x, (op_gneg (by decide)).mpr ⟨x, hx, rfl⟩, rfl⟩)) (ih x (op_lt hx)).2
      · obtain ⟨u, hu, rfl⟩ := (op_gneg (by decide)).mp hy
        exact ((gle_def _ _).mp q).1 (gadd u (gneg u)) ((op_gadd (by decide)).mpr (Or.inl ⟨u, hu, rfl⟩)) (ih u (op_lt hu)).2
theorem gle_sub {a b : Nat} : gle (gadd a (gneg b)) 0 ↔ gle a b := by
  rw [← gadd_le (a := a) (b := b) (c := gneg b)]
  exact (gadd_neg b).sy.r
theorem sub_gle {a b : Nat} : gle 0 (gadd a (gneg b)) ↔ gle b a := by
  rw [← gadd_le (a := b) (b := a) (c := gneg b)]
  exact (gadd_neg b).sy.l
