/-! INTEGERS and HEAPS among the games -/
theorem gneg_op {g w x : Nat} (hw : w < 2) (h : op g w x = true) : op (gneg g) (1 - w) (gneg x) = true := (op_gneg (by omega)).mpr ⟨x, by rw [show 1 - (1 - w) = w by omega]; exact h, rfl⟩
theorem can_gneg : ∀ g, can g → can (gneg g) := by
  intro g
  induction g using Nat.strongRecOn with
  | _ g ih =>
    intro hc
    obtain ⟨_, c2, c3, c4, c5⟩ := (can_def g).mp hc
    refine (can_def _).mpr ⟨fun w x hw hx => ?_, fun x y hx hy hxy => ?_, fun x y hx hy hxy => ?_, fun x y hx hy hg => ?_, fun x y hx hy hg => ?_⟩
    · obtain ⟨z, h1, rfl⟩ := (op_gneg hw).mp hx
      exact ih z (op_lt h1) (hc.op h1 (by omega))
    · obtain ⟨z, h1, rfl⟩ := (op_gneg (by decide)).mp hx
      obtain ⟨z2, h2, rfl⟩ := (op_gneg (by decide)).mp hy
      rw [gneg_le]
      exact c3 z2 z h2 h1 (fun e => hxy (by rw [e]))
    · obtain ⟨z, h1, rfl⟩ := (op_gneg (by decide)).mp hx
      obtain ⟨z2, h2, rfl⟩ := (op_gneg (by decide)).mp hy
      rw [gneg_le]
      exact c2 z2 z h2 h1 (fun e => hxy (by rw [e]))
    · obtain ⟨z, h1, rfl⟩ := (op_gneg (by decide)).mp hx
      obtain ⟨z2, h2, rfl⟩ := (op_gneg (by decide)).mp hy
      rw [gneg_le] at hg
      exact c5 z z2 h1 h2 hg
    · obtain ⟨z, h1, rfl⟩ := (op_gneg (by decide)).mp hx
      obtain ⟨z2, h2, rfl⟩ := (op_gneg (by decide)).mp hy
      rw [gneg_le] at hg
      exact c4 z z2 h1 h2 hg
def pc : Nat → Nat
  | 0 => 0
  | n + 1 => mkg [pc n] []
theorem op_pcL (n x : Nat) : op (pc (n + 1)) 0 x = true ↔ x = pc n := by
  show op (mkg [pc n] []) 0 x = true ↔ _
  rw [op_mkgL, List.mem_singleton]
theorem pc_bare (n : Nat) : Bare (pc n) 1 := by
  intro x
  cases n with
  | zero => exact op_0 1 x
  | succ n =>
    cases e : op (pc (n + 1)) 1 x
    · rfl
    · have h : op (mkg [pc n] []) 1 x = true := e
      rw [op_mkgR] at h
      cases h
def nc (n : Nat) : Nat := gneg (pc n)
theorem op_ncR (n x : Nat) : op (nc (n + 1)) 1 x = true ↔ x = nc n := by
  unfold nc
  rw [op_gneg (by decide)]
  constructor
  · rintro ⟨z, h1, rfl⟩; rw [(op_pcL n z).mp h1]
  · rintro rfl; exact ⟨pc n, (op_pcL n _).mpr rfl, rfl⟩
theorem nc_bare (n : Nat) : Bare (nc n) 0 := by
  intro x
  cases e : op (nc n) 0 x
  · rfl
  · unfold nc at e
    obtain ⟨z, h1, _⟩ := (op_gneg (by decide)).mp e
    rw [pc_bare n z] at h1
    cases h1
theorem gneg_0 : gneg 0 = 0 := by
  apply op_ext
  intro w hw x
  rw [op_0]
  cases e : op (gneg 0) w x
  · rfl
  · obtain ⟨z, h1, _⟩ := (op_gneg hw).mp e
    rw [op_0] at h1; cases h1
theorem nc_0 : nc 0 = 0 := gneg_0
theorem can_pc : ∀ n, can (pc n) := by
  intro n
  induction n with
  | zero =>
    have z : ∀ w x, ¬ op (pc 0) w x = true := fun w x h => by rw [show pc 0 = 0 from rfl, op_0] at h; cases h
    exact (can_def _).mpr ⟨(fun w x _ h => absurd h (z w x)), (fun x y h => absurd h (z 0 x)), (fun x y h => absurd h (z 1 x)), (fun x y h => absurd h (z 0 x)), (fun x y h => absurd h (z 1 x))⟩
  | succ n ih =>
    refine (can_def _).mpr ⟨fun w x hw h => ?_, fun x y hx hy hxy => ?_, fun x y hx => ?_, fun x y hx hy => ?_, fun x y hx => ?_⟩
    · rcases (by omega : w = 0 ∨ w = 1) with rfl | rfl
      · rw [(op_pcL n x).mp h]; exact ih
      · rw [pc_bare (n + 1) x] at h; cases h
    · exact absurd (((op_pcL n x).mp hx).trans ((op_pcL n y).mp hy).symm) hxy
    · rw [pc_bare (n + 1) x] at hx; cases hx
    · rw [(op_pcL n x).mp hx, pc_bare n y] at hy; cases hy
    · rw [pc_bare (n + 1) x] at hx; cases hx
theorem can_nc (n : Nat) : can (nc n) := can_gneg _ (can_pc n)
theorem can_0 : can 0 := can_pc 0
theorem pc_mono {a b : Nat} (h : a ≤ b) : gle (pc a) (pc b) := by
  induction b generalizing a with
  | zero => have e : a = 0 := by omega
            rw [e]; exact gle_rfl _
  | succ b ih =>
    refine gle_of (fun x hx hle => ?_) (fun y hy => by rw [pc_bare (b + 1) y] at hy; cases hy)
    cases a with
    | zero => rw [show pc 0 = 0 from rfl, op_0] at hx; cases hx
    | succ a =>
      rw [(op_pcL a x).mp hx] at hle
      exact gle_L ((op_pcL b (pc b)).mpr rfl) (gle_tr hle (ih (by omega)))
theorem pc_le {a b : Nat} : gle (pc a) (pc b) ↔ a ≤ b := by
  refine ⟨fun h => ?_, pc_mono⟩
  apply Classical.byContradiction
  intro hn
  obtain ⟨c, rfl⟩ : ∃ c, a = c + 1 := ⟨a - 1, by omega⟩
  exact gle_L ((op_pcL c (pc c)).mpr rfl) (gle_tr h (pc_mono (by omega)))
theorem pc_inj {a b : Nat} (h : pc a = pc b) : a = b := by
  have h1 : gle (pc a) (pc b) := by rw [h]; exact gle_rfl _
  have h2 : gle (pc b) (pc a) := by rw [h]; exact gle_rfl _
  have := pc_le.mp h1
  have := pc_le.mp h2
  omega
/-- every game is at most some integer -/
theorem le_pc : ∀ g, gle g (pc g) := by
  intro g
  induction g using Nat.strongRecOn with
  | _ g ih =>
    refine gle_of (fun x hx hle => ?_) (fun y hy => by rw [pc_bare g y] at hy; cases hy)
    have h1 := pc_le.mp (gle_tr hle (ih x (op_lt hx)))
    have h2 := op_lt hx
    omega
theorem least_ex {P : Nat → Prop} : ∀ k, P k → ∃ n, P n ∧ ∀ j, j < n → ¬ P j := by
  intro k
  induction k using Nat.strongRecOn with
  | _ k ih =>
    intro hk
    by_cases h : ∃ j, j < k ∧ P j
    · obtain ⟨j, h1, h2⟩ := h
      exact ih j h1 h2
    · exact ⟨k, hk, fun j hj hp => h ⟨j, hj, hp⟩⟩
/-- a canonical game where right can't move is an integer -/
theorem bareR_pc {g : Nat} (hc : can g) (hb : Bare g 1) : ∃ n, g = pc n := by
  obtain ⟨n, h1, h2⟩ := least_ex (P := fun k => ∀ x, op g 0 x = true → ¬ gle (pc k) x) g (fun x hx hle => by
    have h3 := pc_le.mp (gle_tr hle (le_pc x))
    have h4 := op_lt hx
    omega)
  refine ⟨n, can_uniq hc (can_pc n) ⟨gle_of h1 (fun y hy => by rw [pc_bare n y] at hy; cases hy), gle_of (fun x hx hle => ?_) (fun y hy => by rw [hb y] at hy; cases hy)⟩⟩
  cases n with
  | zero => rw [show pc 0 = 0 from rfl, op_0] at hx; cases hx
  | succ n =>
    rw [(op_pcL n x).mp hx] at hle
    apply h2 n (by omega)
    intro z hz hz2
    exact gle_L hz (gle_tr hle hz2)
theorem gneg_bare {g w : Nat} (hw : w < 2) (h : Bare g w) : Bare (gneg g) (1 - w) := by
  intro x
  cases e : op (gneg g) (1 - w) x
  · rfl
  · obtain ⟨z, h1, _⟩ := (op_gneg (by omega)).mp e
    rw [show 1 - (1 - w) = w by omega, h z] at h1
    cases h1
theorem bareL_nc {g : Nat} (hc : can g) (hb : Bare g 0) : ∃ n, g = nc n := by
  obtain ⟨n, h⟩ := bareR_pc (can_gneg g hc) (gneg_bare (by decide) hb)
  exact ⟨n, by unfold nc; rw [← h, gneg_neg]⟩
theorem pc_1 : pc 1 = 1 := by
  show mkg [0] [] = 1
  decide
theorem nc_1 : nc 1 = 2 := by
  apply op_ext
  intro w hw x
  apply Bool.eq_iff_iff.mpr
  rcases (by omega : w = 0 ∨ w = 1) with rfl | rfl
  · rw [nc_bare 1 x, op_2L]
  · rw [op_ncR 0, nc_0, op_2R]
theorem pc_add1 : ∀ n, geq (gadd (pc n) 1) (pc (n + 1)) := by
  intro n
  induction n with
  | zero => rw [gadd_comm, show pc 0 = 0 from rfl, gadd_0, ← pc_1]; exact geq_rfl _
  | succ n ih =>
    constructor
    · refine gle_congr (fun x hx => ?_) (fun y hy => by rw [pc_bare (n + 2) y] at hy; cases hy)
      refine ⟨pc (n + 1), (op_pcL _ _).mpr rfl, ?_⟩
      rcases (op_gadd (by decide)).mp hx with ⟨z, h1, rfl⟩ | ⟨z, h1, rfl⟩
      · rw [(op_pcL n z).mp h1]; exact ih.1
      · rw [(op_1L z).mp h1, gadd_0]; exact gle_rfl _
    · refine gle_congr (fun x hx => ?_) (fun y hy => ?_)
      · rw [(op_pcL _ x).mp hx]
        exact ⟨gadd (pc (n + 1)) 0, (op_gadd (by decide)).mpr (Or.inr ⟨0, (op_1L 0).mpr rfl, rfl⟩), by rw [gadd_0]; exact gle_rfl _⟩
      · rcases (op_gadd (by decide)).mp hy with ⟨z, h1, rfl⟩ | ⟨z, h1, rfl⟩
        · rw [pc_bare (n + 1) z] at h1; cases h1
        · rw [op_1R] at h1; cases h1
def hcl : Nat → List Nat
  | 0 => []
  | n + 1 => hcl n ++ [mkg (hcl n) (hcl n)]
def hc (n : Nat) : Nat := mkg (hcl n) (hcl n)
theorem mem_hcl {n x : Nat} : x ∈ hcl n ↔ ∃ k, k < n ∧ x = hc k := by
  induction n with
  | zero => exact ⟨(fun h => by cases h), fun ⟨k, h, _⟩ => absurd h (Nat.not_lt_zero _)⟩
  | succ n ih =>
    show x ∈ hcl n ++ [hc n] ↔ _
    rw [List.mem_append, List.mem_singleton, ih]
    constructor
    · rintro (⟨k, h1, h2⟩ | h)
      · exact ⟨k, by omega, h2⟩
      · exact ⟨n, by omega, h⟩
    · rintro ⟨k, h1, h2⟩
      rcases (by omega : k < n ∨ k = n) with h3 | rfl
      · exact Or.inl ⟨k, h3, h2⟩
      · exact Or.inr h2
theorem hcl_len (n : Nat) : (hcl n).length = n := by
  induction n with
  | zero => rfl
  | succ n ih => show (hcl n ++ [hc n]).length = _; rw [List.length_append, ih]; rfl
theorem op_hc {n w x : Nat} (hw : w < 2) : op (hc n) w x = true ↔ ∃ k, k < n ∧ x = hc k := by
  unfold hc
  rcases (by omega : w = 0 ∨ w = 1) with rfl | rfl
  · rw [op_mkgL, mem_hcl]; rfl
  · rw [op_mkgR, mem_hcl]; rfl
theorem hc_lt {k n : Nat} (h : k < n) : hc k < hc n := op_lt ((op_hc (w := 0) (by decide)).mpr ⟨k, h, rfl⟩)
theorem hc_inj {a b : Nat} (h : hc a = hc b) : a = b := by
  rcases (by omega : a < b ∨ a = b ∨ b < a) with h1 | h1 | h1
  · have := hc_lt h1; omega
  · exact h1
  · have := hc_lt h1; omega
theorem hc_apart {a b : Nat} (h : a ≠ b) : ¬ gle (hc a) (hc b) := by
  intro hle
  rcases (by omega : a < b ∨ b < a) with h1 | h1
  · exact gle_R ((op_hc (by decide)).mpr ⟨a, h1, rfl⟩) hle
  · exact gle_L ((op_hc (by decide)).mpr ⟨b, h1, rfl⟩) hle
theorem can_hc : ∀ n, can (hc n) := by
  intro n
  induction n using Nat.strongRecOn with
  | _ n ih =>
    refine (can_def _).mpr ⟨fun w x hw h => ?_, fun x y hx hy hxy => ?_, fun x y hx hy hxy => ?_, fun x y hx hy => ?_, fun x y hx hy => ?_⟩
    · obtain ⟨k, h1, rfl⟩ := (op_hc hw).mp h
      exact ih k h1
    · obtain ⟨k, h1, rfl⟩ := (op_hc (by decide)).mp hx
      obtain ⟨l, h2, rfl⟩ := (op_hc (by decide)).mp hy
      exact hc_apart (fun e => hxy (by rw [e]))
    · obtain ⟨k, h1, rfl⟩ := (op_hc (by decide)).mp hx
      obtain ⟨l, h2, rfl⟩ := (op_hc (by decide)).mp hy
      exact hc_apart (fun e => hxy (by rw [e]))
    · obtain ⟨k, h1, rfl⟩ := (op_hc (by decide)).mp hx
      obtain ⟨l, h2, rfl⟩ := (op_hc (by decide)).mp hy
      exact hc_apart (by omega)
    · obtain ⟨k, h1, rfl⟩ := (op_hc (by decide)).mp hx
      obtain ⟨l, h2, rfl⟩ := (op_hc (by decide)).mp hy
      exact hc_apart (by omega)
