/-! WEIGHTS OF SMALL GAMES: many ups, a star that is far off -/
theorem neg_uniq {x y : Nat} (h : geq (gadd x y) 0) : geq (gneg x) y := by
  have h1 := gadd_eq h (geq_rfl (gneg x))
  rw [gadd_comm 0, gadd_0] at h1
  have h2 := add_sub y x
  rw [gadd_comm y x] at h2
  exact h1.sy.tr h2
theorem neg_add (x y : Nat) : geq (gneg (gadd x y)) (gadd (gneg x) (gneg y)) := by
  refine neg_uniq ?_
  have e : gadd (gadd x y) (gadd (gneg x) (gneg y)) = gadd (gadd x (gneg x)) (gadd y (gneg y)) := by
    rw [gadd_assoc, gadd_assoc, ← gadd_assoc y, gadd_comm y (gneg x), gadd_assoc (gneg x)]
  rw [e]
  have := gadd_eq (gadd_neg x) (gadd_neg y)
  rw [gadd_0] at this
  exact this
theorem neg_eq {x y : Nat} (h : geq x y) : geq (gneg x) (gneg y) := ⟨gneg_le.mpr h.2, gneg_le.mpr h.1⟩
def upn : Nat → Nat
  | 0 => 0
  | n + 1 => gadd (upn n) upg
def upz (z : Int) : Nat := if 0 ≤ z then upn z.toNat else gneg (upn (-z).toNat)
theorem upz_nn (n : Nat) : upz (n : Int) = upn n := by
  unfold upz
  rw [if_pos (by omega), Int.toNat_natCast]
theorem upz_neg (n : Nat) : upz (-(n : Int)) = gneg (upn n) := by
  unfold upz
  by_cases h : n = 0
  · subst h
    rw [if_pos (by decide)]
    exact gneg_0.symm
  · rw [if_neg (by omega), Int.neg_neg, Int.toNat_natCast]
theorem upz_0 : upz 0 = 0 := upz_nn 0
theorem zcases (z : Int) : (∃ n : Nat, z = (n : Int)) ∨ ∃ n : Nat, z = -((n + 1 : Nat) : Int) := by
  by_cases h : 0 ≤ z
  · exact Or.inl ⟨z.toNat, by omega⟩
  · exact Or.inr ⟨(-z - 1).toNat, by omega⟩
theorem upz_succ (z : Int) : geq (upz (z + 1)) (gadd (upz z) upg) := by
  rcases zcases z with ⟨n, rfl⟩ | ⟨n, rfl⟩
  · rw [upz_nn, show ((n : Int) + 1) = ((n + 1 : Nat) : Int) by omega, upz_nn]
    exact geq_rfl _
  · rw [upz_neg, show (-((n + 1 : Nat) : Int) + 1) = -(n : Int) by omega, upz_neg]
    have h1 := gadd_eq (neg_add (upn n) upg) (geq_rfl upg)
    exact (sub_add (gneg (upn n)) upg).sy.tr h1.sy
theorem upz_pred (z : Int) : geq (gadd (upz z) (gneg upg)) (upz (z - 1)) := by
  have h1 := gadd_eq (upz_succ (z - 1)) (geq_rfl (gneg upg))
  rw [show z - 1 + 1 = z by omega] at h1
  exact h1.tr (add_sub _ _)
theorem upz_addn (z : Int) : ∀ n : Nat, geq (gadd (upz z) (upz n)) (upz (z + n)) := by
  intro n
  induction n with
  | zero => rw [show ((0 : Nat) : Int) = 0 from rfl, upz_0, gadd_0, Int.add_zero]; exact geq_rfl _
  | succ n ih =>
    have h1 := gadd_eq (geq_rfl (upz z)) (upz_succ n)
    have h2 := gadd_eq ih (geq_rfl upg)
    rw [gadd_assoc] at h2
    have h3 := upz_succ (z + n)
    rw [show z + (n : Int) + 1 = z + ((n + 1 : Nat) : Int) by omega] at h3
    rw [show ((n + 1 : Nat) : Int) = (n : Int) + 1 by omega]
    rw [show ((n + 1 : Nat) : Int) = (n : Int) + 1 by omega] at h3
    exact (h1.tr h2).tr h3.sy
theorem upz_negz (z : Int) : geq (gneg (upz z)) (upz (-z)) := by
  rcases zcases z with ⟨n, rfl⟩ | ⟨n, rfl⟩
  · rw [upz_nn, upz_neg]; exact geq_rfl _
  · rw [upz_neg, gneg_neg, Int.neg_neg, upz_nn]; exact geq_rfl _
theorem upz_add (a b : Int) : geq (gadd (upz a) (upz b)) (upz (a + b)) := by
  rcases zcases b with ⟨n, rfl⟩ | ⟨n, rfl⟩
  · exact upz_addn a n
  · have h1 := upz_addn (a + -((n + 1 : Nat) : Int)) (n + 1)
    rw [show a + -((n + 1 : Nat) : Int) + ((n + 1 : Nat) : Int) = a by omega] at h1
    have h2 := gadd_eq h1.sy (geq_rfl (upz (-((n + 1 : Nat) : Int))))
    have h3 : geq (upz (-((n + 1 : Nat) : Int))) (gneg (upz ((n + 1 : Nat) : Int))) := (upz_negz _).sy
    exact (h2.tr (gadd_eq (geq_rfl _) h3)).tr (add_sub _ _)
theorem upz_mono {a b : Int} (h : a ≤ b) : gle (upz a) (upz b) := by
  obtain ⟨n, rfl⟩ : ∃ n : Nat, b = a + n := ⟨(b - a).toNat, by omega⟩
  induction n with
  | zero => rw [show a + ((0 : Nat) : Int) = a by omega]; exact gle_rfl _
  | succ n ih =>
    have h1 := upz_succ (a + n)
    rw [show a + (n : Int) + 1 = a + ((n + 1 : Nat) : Int) by omega] at h1
    refine gle_tr (ih (by omega)) (gle_tr ?_ h1.2)
    have h2 := gadd_le2 (c := upz (a + n)) (a := 0) (b := upg)
    rw [gadd_0] at h2
    exact h2.mpr up_pos
/-- the options of many ups -/
theorem upn_L : ∀ (n x : Nat), op (upn (n + 1)) 0 x = true → geq x (upn n) := by
  intro n
  induction n with
  | zero =>
    intro x hx
    rcases (op_gadd (by decide)).mp hx with ⟨y, hy, rfl⟩ | ⟨y, hy, rfl⟩
    · rw [show upn 0 = 0 from rfl, op_0] at hy; cases hy
    · rw [op_upL.mp hy, gadd_0]; exact geq_rfl _
  | succ n ih =>
    intro x hx
    rcases (op_gadd (by decide)).mp hx with ⟨y, hy, rfl⟩ | ⟨y, hy, rfl⟩
    · exact gadd_eq (ih y hy) (geq_rfl _)
    · rw [op_upL.mp hy, gadd_0]; exact geq_rfl _
theorem upn_R : ∀ (n x : Nat), op (upn (n + 1)) 1 x = true → geq x (gadd (upn n) (hc 1)) := by
  intro n
  induction n with
  | zero =>
    intro x hx
    rcases (op_gadd (by decide)).mp hx with ⟨y, hy, rfl⟩ | ⟨y, hy, rfl⟩
    · rw [show upn 0 = 0 from rfl, op_0] at hy; cases hy
    · rw [op_upR.mp hy]; exact geq_rfl _
  | succ n ih =>
    intro x hx
    rcases (op_gadd (by decide)).mp hx with ⟨y, hy, rfl⟩ | ⟨y, hy, rfl⟩
    · have h1 := gadd_eq (ih y hy) (geq_rfl upg)
      rw [gadd_assoc, gadd_comm (hc 1), ← gadd_assoc] at h1
      exact h1
    · rw [op_upR.mp hy]; exact geq_rfl _
theorem upn_exR (n : Nat) : op (upn (n + 1)) 1 (gadd (upn n) (hc 1)) = true := (op_gadd (by decide)).mpr (Or.inr ⟨hc 1, op_upR.mpr rfl, rfl⟩)
theorem upz_L {k : Int} {x : Nat} (h : op (upz k) 0 x = true) : (1 ≤ k ∧ geq x (upz (k - 1))) ∨ (k ≤ -1 ∧ geq x (gadd (upz (k + 1)) (hc 1))) := by
  rcases zcases k with ⟨n, rfl⟩ | ⟨n, rfl⟩
  · rw [upz_nn] at h
    cases n with
    | zero => rw [show upn 0 = 0 from rfl, op_0] at h; cases h
    | succ n =>
      refine Or.inl ⟨by omega, ?_⟩
      rw [show ((n + 1 : Nat) : Int) - 1 = (n : Int) by omega, upz_nn]
      exact upn_L n x h
  · rw [upz_neg] at h
    obtain ⟨y, hy, rfl⟩ := (op_gneg (by decide)).mp h
    refine Or.inr ⟨by omega, ?_⟩
    rw [show -((n + 1 : Nat) : Int) + 1 = -(n : Int) by omega, upz_neg]
    have h1 := (neg_eq (upn_R n y hy)).tr (neg_add _ _)
    rw [gneg_hc] at h1
    exact h1
theorem upz_R {k : Int} {x : Nat} (h : op (upz k) 1 x = true) : (1 ≤ k ∧ geq x (gadd (upz (k - 1)) (hc 1))) ∨ (k ≤ -1 ∧ geq x (upz (k + 1))) := by
  rcases zcases k with ⟨n, rfl⟩ | ⟨n, rfl⟩
  · rw [upz_nn] at h
    cases n with
    | zero => rw [show upn 0 = 0 from rfl, op_0] at h; cases h
    | succ n =>
      refine Or.inl ⟨by omega, ?_⟩
      rw [show ((n + 1 : Nat) : Int) - 1 = (n : Int) by omega, upz_nn]
      exact upn_R n x h
  · rw [upz_neg] at h
    obtain ⟨y, hy, rfl⟩ := (op_gneg (by decide)).mp h
    refine Or.inr ⟨by omega, ?_⟩
    rw [show -((n + 1 : Nat) : Int) + 1 = -(n : Int) by omega, upz_neg]
    exact neg_eq (upn_L n y hy)
theorem upz_exL {k : Int} (h : k ≤ -1) : ∃ x, op (upz k) 0 x = true ∧ geq x (gadd (upz (k + 1)) (hc 1)) := by
  obtain ⟨n, rfl⟩ : ∃ n : Nat, k = -((n + 1 : Nat) : Int) := ⟨(-k - 1).toNat, by omega⟩
  have h1 : op (upz (-((n + 1 : Nat) : Int))) 0 (gneg (gadd (upn n) (hc 1))) = true := by
    rw [upz_neg]
    exact (op_gneg (by decide)).mpr ⟨_, upn_exR n, rfl⟩
  refine ⟨_, h1, ?_⟩
  rcases upz_L h1 with ⟨h2, _⟩ | ⟨_, h2⟩
  · omega
  · exact h2
/-- G and k ups against the star -/
def Ew (g : Nat) (k : Int) : Prop := El (gadd g (upz k))
def Fw (g : Nat) (k : Int) : Prop := Er (gadd g (upz k))
theorem Ew.mono {g : Nat} {a b : Int} (x : Ew g a) (h : a ≤ b) : Ew g b := El.mono x (gadd_le2.mpr (upz_mono h))
theorem Fw.mono {g : Nat} {a b : Int} (x : Fw g b) (h : a ≤ b) : Fw g a := Er.mono x (gadd_le2.mpr (upz_mono h))
theorem Ew_neg {g : Nat} {k : Int} : Ew (gneg g) k ↔ Fw g (-k) := by
  unfold Ew Fw
  rw [← Er_neg]
  have h : geq (gneg (gadd (gneg g) (upz k))) (gadd g (upz (-k))) := by
    have h1 := (neg_add (gneg g) (upz k)).tr (gadd_eq (geq_rfl _) (upz_negz k))
    rw [gneg_neg] at h1
    exact h1
  exact ⟨fun q => q.mono h.2, fun q => q.mono h.1⟩
theorem Fw_neg {g : Nat} {k : Int} : Fw (gneg g) k ↔ Ew g (-k) := by
  rw [← gneg_neg g, Ew_neg, gneg_neg, Int.neg_neg]
theorem Ew_0 {g : Nat} : Ew g 0 ↔ El g := by unfold Ew; rw [upz_0, gadd_0]
theorem Fw_0 {g : Nat} : Fw g 0 ↔ Er g := by unfold Fw; rw [upz_0, gadd_0]
theorem shift1 (g : Nat) (k : Int) : geq (gadd (gadd g (upz k)) upg) (gadd g (upz (k + 1))) := by
  rw [gadd_assoc]
  exact gadd_eq (geq_rfl g) (upz_succ k).sy
theorem unshift1 (g : Nat) (k : Int) : geq (gadd (gadd g (upz k)) (gneg upg)) (gadd g (upz (k - 1))) := by
  rw [gadd_assoc]
  exact gadd_eq (geq_rfl g) (upz_pred k)
theorem Er_dn : Er (gneg upg) := Er_neg.mpr El_up
theorem Er.add {g h : Nat} (x : Er g) (y : Er h) (c : Nat) : gle (gadd g h) (hc c) := by
  have h1 := (El_neg.mpr x).add (El_neg.mpr y) c
  have h2 := gle_tr h1 (neg_add g h).2
  exact neg_hc_ge.mp h2
/-- two ups more than the star: more than each heap -/
theorem Ew.big {g : Nat} {k : Int} (h : Ew g (k - 1)) (c : Nat) : gle (hc c) (gadd g (upz k)) := by
  have h1 := El.add h El_up c
  have h2 := shift1 g (k - 1)
  rw [show k - 1 + 1 = k by omega] at h2
  exact gle_tr h1 h2.1
theorem Fw.big {g : Nat} {k : Int} (h : Fw g (k + 1)) (c : Nat) : gle (gadd g (upz k)) (hc c) := by
  have h1 := Er.add h Er_dn c
  have h2 := unshift1 g (k + 1)
  rw [show k + 1 - 1 = k by omega] at h2
  exact gle_tr h2.2 h1
/-- the numbers that lie between the weights of the options -/
def Lc (g : Nat) (k : Int) : Prop := ∀ x, op g 0 x = true → ¬ Ew x (-1 - k)
def Rc (g : Nat) (k : Int) : Prop := ∀ y, op g 1 y = true → ¬ Fw y (1 - k)
theorem Lc.up {g : Nat} {a b : Int} (h : Lc g a) (hab : a ≤ b) : Lc g b := fun x hx q => h x hx (q.mono (by omega))
theorem Rc.dn {g : Nat} {a b : Int} (h : Rc g b) (hab : a ≤ b) : Rc g a := fun x hx q => h x hx (q.mono (by omega))
theorem Lc_neg {g : Nat} {k : Int} : Lc (gneg g) k ↔ Rc g (-k) := by
  constructor
  · intro h y hy q
    refine h (gneg y) ((op_gneg (by decide)).mpr ⟨y, hy, rfl⟩) (Ew_neg.mpr ?_)
    rw [show -(-1 - k) = 1 - -k by omega]
    exact q
  · intro h x hx q
    obtain ⟨y, hy, rfl⟩ := (op_gneg (by decide)).mp hx
    refine h y hy ?_
    have := Ew_neg.mp q
    rw [show -(-1 - k) = 1 - -k by omega] at this
    exact this
theorem Rc_neg {g : Nat} {k : Int} : Rc (gneg g) k ↔ Lc g (-k) := by
  rw [← gneg_neg g, Lc_neg, gneg_neg, Int.neg_neg]
theorem Ew.Rc {g : Nat} {k : Int} (h : Ew g k) : Rc g (1 - k) := by
  intro y hy q
  rw [show 1 - (1 - k) = k by omega] at q
  exact El.R h ((op_gadd (by decide)).mpr (Or.inl ⟨y, hy, rfl⟩)) q
theorem Fw.Lc {g : Nat} {k : Int} (h : Fw g k) : Lc g (-1 - k) := by
  intro y hy q
  rw [show -1 - (-1 - k) = k by omega] at q
  exact Er.L h ((op_gadd (by decide)).mpr (Or.inl ⟨y, hy, rfl⟩)) q
theorem Er.geq {g h : Nat} (e : geq g h) : Er g ↔ Er h := ⟨fun q => q.mono e.2, fun q => q.mono e.1⟩
theorem El.geq {g h : Nat} (e : geq g h) : El g ↔ El h := ⟨fun q => q.mono e.1, fun q => q.mono e.2⟩
/-- no number lies between -/
theorem w_none1 {g : Nat} {n : Int} (hL : ¬ Lc g n) (hR : Rc g n) : Ew g (1 - n) := by
  obtain ⟨x, hx, hE⟩ : ∃ x, op g 0 x = true ∧ Ew x (-1 - n) := Classical.byContradiction fun q => hL (fun x hx hE => q ⟨x, hx, hE⟩)
  obtain ⟨k, rfl⟩ : ∃ k, n = 1 - k := ⟨1 - n, by omega⟩
  rw [show 1 - (1 - k) = k by omega]
  rw [show -1 - (1 - k) = k - 1 - 1 by omega] at hE
  have hlow : ¬ Er (gadd g (upz (k - 1))) := notEr_L ((op_gadd (by decide)).mpr (Or.inl ⟨x, hx, rfl⟩)) (hE.mono (by omega))
  refine El_intro (fun c q => ?_) (fun z hz => ?_)
  · exact ((gle_def _ _).mp q).1 _ ((op_gadd (by decide)).mpr (Or.inl ⟨x, hx, rfl⟩)) (Ew.big (hE.mono (by omega)) c)
  · rcases (op_gadd (by decide)).mp hz with ⟨y, hy, rfl⟩ | ⟨y, hy, rfl⟩
    · have := hR y hy
      rw [show 1 - (1 - k) = k by omega] at this
      exact this
    · rcases upz_R hy with ⟨_, h1⟩ | ⟨_, h1⟩
      · rw [Er.geq (gadd_eq (geq_rfl g) h1), ← gadd_assoc, Er_nim]
        exact hlow
      · rw [Er.geq (gadd_eq (geq_rfl g) h1)]
        intro q
        exact hlow (Fw.mono q (by omega))
theorem w_none {g : Nat} (h : ¬ ∃ k, Lc g k ∧ Rc g k) (n : Int) : (Ew g (1 - n) ↔ Rc g n) ∧ (Fw g (-1 - n) ↔ Lc g n) := by
  refine ⟨⟨fun q => ?_, fun q => w_none1 (fun q2 => h ⟨n, q2, q⟩) q⟩, ⟨fun q => ?_, fun q => ?_⟩⟩
  · have := q.Rc
    rw [show 1 - (1 - n) = n by omega] at this
    exact this
  · have := q.Lc
    rw [show -1 - (-1 - n) = n by omega] at this
    exact this
  · have h1 := w_none1 (g := gneg g) (n := -n) (fun q2 => h ⟨n, q, by rw [Lc_neg, Int.neg_neg] at q2; exact q2⟩) (by rw [Rc_neg, Int.neg_neg]; exact q)
    rw [Ew_neg] at h1
    rw [show -1 - n = -(1 - -n) by omega]
    exact h1
/-- the greatest number, if G is more than the star -/
theorem w_max1 {g : Nat} {n0 : Int} (hE : El g) (hR : Rc g n0) : ∀ n : Nat, (n : Int) < n0 → Ew g (-(n : Int)) := by
  intro n
  induction n with
  | zero => intro _; exact Ew_0.mpr hE
  | succ n ih =>
    intro hn
    have ih := ih (by omega)
    obtain ⟨k, ek⟩ : ∃ k : Int, k = -((n + 1 : Nat) : Int) := ⟨_, rfl⟩
    rw [← ek]
    have ih : Ew g (k + 1) := by rw [ek, show -((n + 1 : Nat) : Int) + 1 = -(n : Int) by omega]; exact ih
    have hk : k ≤ -1 := by omega
    have hRk : ∀ y, op g 1 y = true → ¬ Fw y k := fun y hy q => hR y hy (q.mono (by omega))
    refine El_intro (fun c q => ?_) (fun z hz => ?_)
    · obtain ⟨x, hx, ex⟩ := upz_exL hk
      have h1 := ((gle_def _ _).mp q).1 _ ((op_gadd (by decide)).mpr (Or.inr ⟨x, hx, rfl⟩))
      have e2 := gadd_eq (geq_rfl g) ex
      rw [← gadd_assoc] at e2
      have h2 : ¬ gle (hc c) (gadd (gadd g (upz (k + 1))) (hc 1)) := fun q2 => h1 (gle_tr q2 e2.2)
      rcases not_gle.mp h2 with ⟨j, hj, h3⟩ | ⟨z, hz, h3⟩
      · obtain ⟨i, _, rfl⟩ := (op_hc (by decide)).mp hj
        exact (El.nim ih 1).no h3
      · rcases (op_gadd (by decide)).mp hz with ⟨y, hy, rfl⟩ | ⟨y, hy, rfl⟩
        · rcases (op_gadd (by decide)).mp hy with ⟨u, hu, rfl⟩ | ⟨u, hu, rfl⟩
          · -- an option of right of G
            have h4 : gle (gadd u (upz (k + 1))) (gadd (hc c) (gneg (hc 1))) := gle_subR.mp h3
            rw [gneg_hc] at h4
            have h5 : gle (gadd u (upz (k + 1))) (hc (c ^^^ 1)) := gle_tr h4 (hc_nim c 1).1
            have h6 : Er (gadd (gneg upg) (gadd u (upz (k + 1)))) := Er_dn.addc h5
            rw [gadd_comm, Er.geq (unshift1 u (k + 1)), show k + 1 - 1 = k by omega] at h6
            exact hRk u hu h6
          · rcases upz_R hu with ⟨h4, _⟩ | ⟨_, h4⟩
            · omega
            · have h5 : El (gadd (gadd g u) (hc 1)) := El.nim ((El.geq (gadd_eq (geq_rfl g) h4)).mpr (ih.mono (by omega))) 1
              exact h5.no h3
        · obtain ⟨i, h4, rfl⟩ := (op_hc (by decide)).mp hy
          rw [show i = 0 by omega, hc_0, gadd_0] at h3
          exact El.no ih h3
    · rcases (op_gadd (by decide)).mp hz with ⟨y, hy, rfl⟩ | ⟨y, hy, rfl⟩
      · exact hRk y hy
      · rcases upz_R hy with ⟨h1, _⟩ | ⟨_, h1⟩
        · omega
        · rw [Er.geq (gadd_eq (geq_rfl g) h1)]
          exact El.notEr ih
theorem w_max {g : Nat} {k0 n0 : Int} (hE : El g) (h1 : Lc g k0) (h2 : Rc g k0) (hR : Rc g n0) (hN : ¬ Rc g (n0 + 1)) : Ew g (1 - n0) ∧ Fw g (-1 - n0) := by
  have h1n : 1 ≤ n0 := by
    have := (Ew_0.mpr hE).Rc
    rw [show (1 : Int) - 0 = 1 by omega] at this
    exact Classical.byContradiction fun q => hN (this.dn (by omega))
  have hk : k0 ≤ n0 := Classical.byContradiction fun q => hN (h2.dn (by omega))
  constructor
  · have := w_max1 hE hR (n0 - 1).toNat (by omega)
    rw [show -(((n0 - 1).toNat : Nat) : Int) = 1 - n0 by omega] at this
    exact this
  · have hL := h1.up hk
    obtain ⟨y, hy, hF⟩ : ∃ y, op g 1 y = true ∧ Fw y (1 - (n0 + 1)) := Classical.byContradiction fun q => hN (fun x hx hE => q ⟨x, hx, hE⟩)
    obtain ⟨k, ek⟩ : ∃ k : Int, k = -1 - n0 := ⟨_, rfl⟩
    rw [← ek]
    rw [show 1 - (n0 + 1) = k + 1 by omega] at hF
    refine Er_intro (fun c q => ?_) (fun z hz => ?_)
    · exact ((gle_def _ _).mp q).2 _ ((op_gadd (by decide)).mpr (Or.inl ⟨y, hy, rfl⟩)) (hF.big c)
    · rcases (op_gadd (by decide)).mp hz with ⟨x, hx, rfl⟩ | ⟨x, hx, rfl⟩
      · have := hL x hx
        rw [← ek] at this
        exact this
      · rcases upz_L hx with ⟨h3, _⟩ | ⟨_, h3⟩
        · omega
        · rw [El.geq (gadd_eq (geq_rfl g) h3), ← gadd_assoc, El_nim]
          intro q
          exact El.R q ((op_gadd (by decide)).mpr (Or.inl ⟨y, hy, rfl⟩)) hF
theorem w_min {g : Nat} {k0 n0 : Int} (hE : Er g) (h1 : Lc g k0) (h2 : Rc g k0) (hL : Lc g n0) (hN : ¬ Lc g (n0 - 1)) : Ew g (1 - n0) ∧ Fw g (-1 - n0) := by
  have h := w_max (g := gneg g) (k0 := -k0) (n0 := -n0) (El_neg.mpr hE) (by rw [Lc_neg, Int.neg_neg]; exact h2) (by rw [Rc_neg, Int.neg_neg]; exact h1) (by rw [Rc_neg, Int.neg_neg]; exact hL) (by rw [Rc_neg, show -(-n0 + 1) = n0 - 1 by omega]; exact hN)
  obtain ⟨a, b⟩ := h
  rw [Ew_neg, show -(1 - -n0) = -1 - n0 by omega] at a
  rw [Fw_neg, show -(-1 - -n0) = 1 - n0 by omega] at b
  exact ⟨b, a⟩
/-- neither more nor less than the star: the number is 0 -/
theorem w_zero1 {g : Nat} {k0 : Int} (hE : ¬ El g) (h1 : Lc g k0) (h2 : Rc g k0) : Lc g 0 := by
  apply Classical.byContradiction
  intro hn
  have hk : 1 ≤ k0 := Classical.byContradiction fun q => hn (h1.up (by omega))
  obtain ⟨x, hx, hF⟩ : ∃ x, op g 0 x = true ∧ Ew x (-1 - 0) := Classical.byContradiction fun q => hn (fun x hx hE => q ⟨x, hx, hE⟩)
  refine hE (El_intro (fun c q => ?_) (fun y hy => ?_))
  · have h3 := Ew.big (k := 0) hF c
    rw [upz_0, gadd_0] at h3
    exact ((gle_def _ _).mp q).1 x hx h3
  · have h3 := (h2.dn hk) y hy
    rw [show (1 : Int) - 1 = 0 by omega, Fw_0] at h3
    exact h3
theorem w_zero2 {g : Nat} (hF : ¬ Er g) (h2 : Rc g 0) : Ew g 1 := by
  refine El_intro (fun c q => ?_) (fun z hz => ?_)
  · have e1 : geq (upz 1) upg := by
      have := upz_succ 0
      rw [upz_0, gadd_comm, gadd_0] at this
      exact this
    have h3 : gle (gadd g upg) (hc c) := gle_tr (gadd_eq (geq_rfl g) e1.sy).1 q
    have h4 : gle g (gadd (hc c) (gneg upg)) := gle_subR.mp h3
    rw [gadd_comm] at h4
    exact hF ((Er_dn.nim c).mono h4)
  · rcases (op_gadd (by decide)).mp hz with ⟨y, hy, rfl⟩ | ⟨y, hy, rfl⟩
    · exact h2 y hy
    · rcases upz_R hy with ⟨_, h3⟩ | ⟨h3, _⟩
      · rw [Er.geq (gadd_eq (geq_rfl g) h3), ← gadd_assoc, Er_nim, show (1 : Int) - 1 = 0 by omega, upz_0, gadd_0]
        exact hF
      · omega
theorem w_zero {g : Nat} {k0 : Int} (hE : ¬ El g) (hF : ¬ Er g) (h1 : Lc g k0) (h2 : Rc g k0) : Ew g (1 - 0) ∧ Fw g (-1 - 0) := by
  have hL := w_zero1 hE h1 h2
  have hR : Rc g 0 := by
    have := w_zero1 (g := gneg g) (k0 := -k0) (fun q => hF (El_neg.mp q)) (by rw [Lc_neg, Int.neg_neg]; exact h2) (by rw [Rc_neg, Int.neg_neg]; exact h1)
    rw [Lc_neg] at this
    exact this
  refine ⟨w_zero2 hF hR, ?_⟩
  have := w_zero2 (g := gneg g) (fun q => hE (Er_neg.mp q)) (by rw [Rc_neg]; exact hL)
  rw [Ew_neg] at this
  exact this
/-- numbers as games -/
def iz (z : Int) : Nat := if 0 ≤ z then pc z.toNat else nc (-z).toNat
theorem iz_nn (n : Nat) : iz (n : Int) = pc n := by
  unfold iz
  rw [if_pos (by omega), Int.toNat_natCast]
theorem iz_neg (n : Nat) : iz (-(n : Int)) = nc n := by
  unfold iz
  by_cases h : n = 0
  · subst h
    rw [if_pos (by decide)]
    exact nc_0.symm
  · rw [if_neg (by omega), Int.neg_neg, Int.toNat_natCast]
theorem iz_0 : iz 0 = 0 := iz_nn 0
theorem can_iz (z : Int) : can (iz z) := by
  rcases zcases z with ⟨n, rfl⟩ | ⟨n, rfl⟩
  · rw [iz_nn]; exact can_pc n
  · rw [iz_neg]; exact can_nc _
theorem iz_succ (z : Int) : geq (iz (z + 1)) (gadd (iz z) 1) := by
  rcases zcases z with ⟨n, rfl⟩ | ⟨n, rfl⟩
  · rw [iz_nn, show ((n : Int) + 1) = ((n + 1 : Nat) : Int) by omega, iz_nn]
    exact (pc_add1 n).sy
  · rw [iz_neg, show (-((n + 1 : Nat) : Int) + 1) = -(n : Int) by omega, iz_neg]
    have h1 := gadd_eq (neg_eq (pc_add1 n).sy) (geq_rfl 1)
    have h2 := gadd_eq (neg_add (pc n) 1) (geq_rfl 1)
    exact ((h1.tr h2).tr (sub_add _ _)).sy
theorem iz_addn (z : Int) : ∀ n : Nat, geq (gadd (iz z) (iz n)) (iz (z + n)) := by
  intro n
  induction n with
  | zero => rw [show ((0 : Nat) : Int) = 0 from rfl, iz_0, gadd_0, Int.add_zero]; exact geq_rfl _
  | succ n ih =>
    have h1 := gadd_eq (geq_rfl (iz z)) (iz_succ n)
    have h2 := gadd_eq ih (geq_rfl 1)
    rw [gadd_assoc] at h2
    have h3 := iz_succ (z + n)
    rw [show z + (n : Int) + 1 = z + ((n : Int) + 1) by omega] at h3
    rw [show ((n + 1 : Nat) : Int) = (n : Int) + 1 by omega]
    exact (h1.tr h2).tr h3.sy
theorem iz_negz (z : Int) : gneg (iz z) = iz (-z) := by
  rcases zcases z with ⟨n, rfl⟩ | ⟨n, rfl⟩
  · rw [iz_nn, iz_neg]; rfl
  · rw [iz_neg, Int.neg_neg, iz_nn]; exact gneg_neg _
theorem iz_add (a b : Int) : geq (gadd (iz a) (iz b)) (iz (a + b)) := by
  rcases zcases b with ⟨n, rfl⟩ | ⟨n, rfl⟩
  · exact iz_addn a n
  · have h1 := iz_addn (a + -((n + 1 : Nat) : Int)) (n + 1)
    rw [show a + -((n + 1 : Nat) : Int) + ((n + 1 : Nat) : Int) = a by omega] at h1
    have h2 := gadd_eq h1.sy (geq_rfl (iz (-((n + 1 : Nat) : Int))))
    rw [← iz_negz] at h2 ⊢
    exact h2.tr (add_sub _ _)
theorem iz_le {a b : Int} : gle (iz a) (iz b) ↔ a ≤ b := by
  have h0 : ∀ z : Int, gle 0 (iz z) ↔ 0 ≤ z := by
    intro z
    rcases zcases z with ⟨n, rfl⟩ | ⟨n, rfl⟩
    · rw [iz_nn, show (0 : Nat) = pc 0 from rfl, pc_le]
      exact ⟨fun _ => by omega, fun _ => by omega⟩
    · rw [iz_neg]
      refine ⟨fun h => ?_, fun h => by omega⟩
      rw [← gneg_0, show nc (n + 1) = gneg (pc (n + 1)) from rfl, gneg_le, show (0 : Nat) = pc 0 from rfl, pc_le] at h
      omega
  have h1 : gle (iz a) (iz b) ↔ gle 0 (iz (b - a)) := by
    have h2 := gle_subR (a := 0) (b := iz a) (c := iz b)
    rw [gadd_comm 0, gadd_0, iz_negz] at h2
    rw [h2]
    have := iz_add b (-a)
    rw [show b + -a = b - a by omega] at this
    exact this.r
  rw [h1, h0]
  omega
theorem iz_inj {a b : Int} (h : geq (iz a) (iz b)) : a = b := by
  have := iz_le.mp h.1
  have := iz_le.mp h.2
  omega
theorem iz_shL {n m : Int} {v : Nat} : gle (iz n) (gadd v (iz m)) ↔ gle (iz (n - m)) v := by
  rw [gle_subL, iz_negz]
  have := iz_add n (-m)
  rw [show n + -m = n - m by omega] at this
  exact this.l
theorem iz_shR {n m : Int} {v : Nat} : gle (gadd v (iz m)) (iz n) ↔ gle v (iz (n - m)) := by
  rw [gle_subR, iz_negz]
  have := iz_add n (-m)
  rw [show n + -m = n - m by omega] at this
  exact this.r
/-- the options of a number -/
theorem iz_L {z : Int} {x : Nat} : op (iz z) 0 x = true ↔ 1 ≤ z ∧ x = iz (z - 1) := by
  rcases zcases z with ⟨n, rfl⟩ | ⟨n, rfl⟩
  · rw [iz_nn]
    cases n with
    | zero => rw [show pc 0 = 0 from rfl, op_0]; exact ⟨(fun h => by cases h), fun h => absurd h.1 (by decide)⟩
    | succ n => rw [op_pcL, show ((n + 1 : Nat) : Int) - 1 = (n : Int) by omega, iz_nn]; exact ⟨fun h => ⟨by omega, h⟩, fun h => h.2⟩
  · rw [iz_neg, nc_bare]
    exact ⟨(fun h => by cases h), fun h => absurd h.1 (by omega)⟩
theorem iz_R {z : Int} {x : Nat} : op (iz z) 1 x = true ↔ z ≤ -1 ∧ x = iz (z + 1) := by
  rcases zcases z with ⟨n, rfl⟩ | ⟨n, rfl⟩
  · rw [iz_nn, pc_bare]
    exact ⟨(fun h => by cases h), fun h => absurd h.1 (by omega)⟩
  · rw [iz_neg, op_ncR, show -((n + 1 : Nat) : Int) + 1 = -(n : Int) by omega, iz_neg]
    exact ⟨fun h => ⟨by omega, h⟩, fun h => h.2⟩
/-- numbers between the options of a game -/
def LW (g : Nat) (k : Int) : Prop := ∀ x, op g 0 x = true → ¬ gle (iz k) x
def RW (g : Nat) (k : Int) : Prop := ∀ y, op g 1 y = true → ¬ gle y (iz k)
theorem LW.up {g : Nat} {a b : Int} (h : LW g a) (hab : a ≤ b) : LW g b := fun x hx q => h x hx (gle_tr (iz_le.mpr hab) q)
theorem RW.dn {g : Nat} {a b : Int} (h : RW g b) (hab : a ≤ b) : RW g a := fun x hx q => h x hx (gle_tr q (iz_le.mpr hab))
theorem LW_neg {g : Nat} {k : Int} : LW (gneg g) k ↔ RW g (-k) := by
  constructor
  · intro h y hy q
    refine h (gneg y) ((op_gneg (by decide)).mpr ⟨y, hy, rfl⟩) ?_
    rw [← gneg_le, gneg_neg, iz_negz]
    exact q
  · intro h x hx q
    obtain ⟨y, hy, rfl⟩ := (op_gneg (by decide)).mp hx
    refine h y hy ?_
    rw [← gneg_le, gneg_neg, iz_negz] at q
    exact q
theorem RW_neg {g : Nat} {k : Int} : RW (gneg g) k ↔ LW g (-k) := by
  rw [← gneg_neg g, LW_neg, gneg_neg, Int.neg_neg]
theorem geq_LW {g : Nat} {n : Int} (h : geq g (iz n)) : LW g n ∧ RW g n := ⟨fun _ hx q => gle_L hx (gle_tr h.1 q), fun _ hx q => gle_R hx (gle_tr q h.2)⟩
/-- if a number lies between, the game is a number: the simplest one -/
theorem simplest {g : Nat} : ∀ (k : Nat), LW g (k : Int) → RW g (k : Int) → ∃ n : Int, geq g (iz n) := by
  intro k h1 h2
  obtain ⟨n, hn, hmin⟩ := least_ex (P := fun j => LW g (j : Int) ∧ RW g (j : Int)) k ⟨h1, h2⟩
  refine ⟨n, gle_of hn.1 (fun y hy => ?_), gle_of (fun x hx q => ?_) hn.2⟩
  · have := (iz_R.mp hy).1; omega
  · obtain ⟨h3, rfl⟩ := iz_L.mp hx
    have h4 := hmin (n - 1) (by omega)
    rw [show ((n - 1 : Nat) : Int) = (n : Int) - 1 by omega] at h4
    exact h4 ⟨fun x hx q2 => gle_L hx (gle_tr q q2), hn.2.dn (by omega)⟩
theorem simplest_z {g : Nat} {k : Int} (h1 : LW g k) (h2 : RW g k) : ∃ n : Int, geq g (iz n) := by
  rcases zcases k with ⟨n, rfl⟩ | ⟨n, rfl⟩
  · exact simplest n h1 h2
  · obtain ⟨m, hm⟩ := simplest (g := gneg g) (n + 1) (by rw [LW_neg]; exact h2) (by rw [RW_neg]; exact h1)
    refine ⟨-m, ?_⟩
    have := neg_eq hm
    rw [gneg_neg, iz_negz] at this
    exact this
theorem gle_none1 {g : Nat} {n : Int} (hL : ¬ LW g n) (hR : RW g n) : gle (iz n) g := by
  refine gle_of (fun x hx q => ?_) hR
  obtain ⟨h3, rfl⟩ := iz_L.mp hx
  obtain ⟨u, hu, h4⟩ : ∃ u, op g 0 u = true ∧ gle (iz n) u := Classical.byContradiction fun q => hL (fun x hx hE => q ⟨x, hx, hE⟩)
  have := iz_le.mp (gle_tr h4 (gle_tr (Classical.byContradiction fun q2 => gle_L hu (gle_tr q (gle_tr (iz_le.mpr (by omega)) h4))) (gle_rfl (iz n))))
  exact gle_L hu (gle_tr q (gle_tr (iz_le.mpr (by omega)) h4))
theorem gle_none {g : Nat} (h : ¬ ∃ k, LW g k ∧ RW g k) (n : Int) : (gle (iz n) g ↔ RW g n) ∧ (gle g (iz n) ↔ LW g n) := by
  refine ⟨⟨fun q => ((gle_def _ _).mp q).2, fun q => gle_none1 (fun q2 => h ⟨n, q2, q⟩) q⟩, ⟨fun q => ((gle_def _ _).mp q).1, fun q => ?_⟩⟩
  have h1 := gle_none1 (g := gneg g) (n := -n) (fun q2 => h ⟨n, q, by rw [LW_neg, Int.neg_neg] at q2; exact q2⟩) (by rw [RW_neg, Int.neg_neg]; exact q)
  rw [← gneg_le, gneg_neg, iz_negz, Int.neg_neg] at h1
  exact h1
/-- v is the weight of g, as far as numbers tell -/
def Wt (g v : Nat) : Prop := (∀ n, gle (iz n) v ↔ Ew g (1 - n)) ∧ ∀ n, gle v (iz n) ↔ Fw g (-1 - n)
theorem Wt.eq {g v u : Nat} (h : Wt g v) (e : geq v u) : Wt g u := ⟨fun n => e.sy.r.trans (h.1 n), fun n => e.sy.l.trans (h.2 n)⟩
theorem Ew_A0 {g : Nat} {k : Int} : Ew g k ↔ A0 (gadd g (upz (k - 1))) := by
  unfold Ew A0
  have := shift1 g (k - 1)
  rw [show k - 1 + 1 = k by omega] at this
  exact (El.geq this).symm
theorem not_both {g : Nat} {k : Int} (h1 : Ew g k) (h2 : Fw g (k - 1)) : False := by
  have h3 := Ew_A0.mp h1
  have h4 := Ew_A0.mp (Ew_neg.mpr (by rw [show k - 1 = -(1 - k) by omega] at h2; exact h2))
  have h5 := h3.add h4
  have e : geq (gadd (gadd g (upz (k - 1))) (gadd (gneg g) (upz (1 - k - 1)))) (upz (-1)) := by
    have h6 : gadd (gadd g (upz (k - 1))) (gadd (gneg g) (upz (1 - k - 1))) = gadd (gadd g (gneg g)) (gadd (upz (k - 1)) (upz (1 - k - 1))) := by
      rw [gadd_assoc, gadd_assoc, ← gadd_assoc (upz (k - 1)), gadd_comm (upz (k - 1)) (gneg g), gadd_assoc (gneg g)]
    rw [h6]
    have h7 := gadd_eq (gadd_neg g) (upz_add (k - 1) (1 - k - 1))
    rw [gadd_comm 0, gadd_0, show k - 1 + (1 - k - 1) = -1 by omega] at h7
    exact h7
  have h6 : El (gadd (upz (-1)) upg) := h5.mono e.1
  have h7 := upz_succ (-1)
  rw [show (-1 : Int) + 1 = 0 by omega, upz_0] at h7
  exact El.no (c := 0) (h6.mono h7.2) (gle_rfl 0)
theorem Wt_num {g : Nat} {n0 : Int} (h : Ew g (1 - n0) ∧ Fw g (-1 - n0)) : Wt g (iz n0) := by
  refine ⟨fun n => ?_, fun n => ?_⟩
  · rw [iz_le]
    refine ⟨fun q => h.1.mono (by omega), fun q => Classical.byContradiction fun q2 => ?_⟩
    exact not_both (k := -n0) (q.mono (by omega)) (by rw [show -n0 - 1 = -1 - n0 by omega]; exact h.2)
  · rw [iz_le]
    refine ⟨fun q => h.2.mono (by omega), fun q => Classical.byContradiction fun q2 => ?_⟩
    exact not_both (k := 1 - n0) h.1 (q.mono (by omega))
/-- the weights of the options give the game W; the rule gives v -/
def Rule (g W v : Nat) : Prop := (geq v W ∧ ¬ ∃ n, geq W (iz n)) ∨ ((∃ n, geq W (iz n)) ∧ ∃ n0 : Int, geq v (iz n0) ∧ ((El g ∧ RW W n0 ∧ ¬ RW W (n0 + 1)) ∨ (Er g ∧ LW W n0 ∧ ¬ LW W (n0 - 1)) ∨ (¬ El g ∧ ¬ Er g ∧ n0 = 0)))
theorem Wt_rule {g W v : Nat} (wt : Nat → Nat) (hw : ∀ x, (op g 0 x = true ∨ op g 1 x = true) → Wt x (wt x)) (hL1 : ∀ u, op W 0 u = true → ∃ x, op g 0 x = true ∧ geq u (gadd (wt x) (iz (-2)))) (hL2 : ∀ x, op g 0 x = true → ∃ u, op W 0 u = true ∧ geq u (gadd (wt x) (iz (-2)))) (hR1 : ∀ u, op W 1 u = true → ∃ x, op g 1 x = true ∧ geq u (gadd (wt x) (iz 2))) (hR2 : ∀ x, op g 1 x = true → ∃ u, op W 1 u = true ∧ geq u (gadd (wt x) (iz 2))) (hr : Rule g W v) : Wt g v := by
  have eL : ∀ k, LW W k ↔ Lc g k := by
    intro k
    constructor
    · intro h x hx q
      obtain ⟨u, hu, e⟩ := hL2 x hx
      refine h u hu (gle_tr ?_ e.2)
      rw [iz_shL, (hw x (Or.inl hx)).1, show 1 - (k - -2) = -1 - k by omega]
      exact q
    · intro h u hu q
      obtain ⟨x, hx, e⟩ := hL1 u hu
      refine h x hx ?_
      have h1 := gle_tr q e.1
      rw [iz_shL, (hw x (Or.inl hx)).1, show 1 - (k - -2) = -1 - k by omega] at h1
      exact h1
  have eR : ∀ k, RW W k ↔ Rc g k := by
    intro k
    constructor
    · intro h x hx q
      obtain ⟨u, hu, e⟩ := hR2 x hx
      refine h u hu (gle_tr e.1 ?_)
      rw [iz_shR, (hw x (Or.inr hx)).2, show -1 - (k - 2) = 1 - k by omega]
      exact q
    · intro h u hu q
      obtain ⟨x, hx, e⟩ := hR1 u hu
      refine h x hx ?_
      have h1 := gle_tr e.2 q
      rw [iz_shR, (hw x (Or.inr hx)).2, show -1 - (k - 2) = 1 - k by omega] at h1
      exact h1
  rcases hr with ⟨e, hn⟩ | ⟨⟨n, hn⟩, n0, e, h⟩
  · have no1 : ¬ ∃ k, LW W k ∧ RW W k := fun ⟨k, h1, h2⟩ => hn (simplest_z h1 h2)
    have no2 : ¬ ∃ k, Lc g k ∧ Rc g k := fun ⟨k, h1, h2⟩ => no1 ⟨k, (eL k).mpr h1, (eR k).mpr h2⟩
    refine Wt.eq ⟨fun n => ?_, fun n => ?_⟩ e.sy
    · rw [(gle_none no1 n).1, (w_none no2 n).1, eR]
    · rw [(gle_none no1 n).2, (w_none no2 n).2, eL]
  · obtain ⟨f1, f2⟩ := geq_LW hn
    rw [eL] at f1
    rw [eR] at f2
    refine Wt.eq (Wt_num ?_) e.sy
    rcases h with ⟨h1, h2, h3⟩ | ⟨h1, h2, h3⟩ | ⟨h1, h2, rfl⟩
    · exact w_max h1 f1 f2 ((eR _).mp h2) (fun q => h3 ((eR _).mpr q))
    · exact w_min h1 f1 f2 ((eL _).mp h2) (fun q => h3 ((eL _).mpr q))
    · exact w_zero h1 h2 f1 f2
theorem Wt_0 : Wt 0 0 := by
  have := Wt_num (g := 0) (n0 := 0) ⟨by unfold Ew; rw [gadd_comm, gadd_0, show (1 : Int) - 0 = 1 by omega]; exact El_up.mono (by
    have := upz_succ 0
    rw [upz_0, gadd_comm 0, gadd_0] at this
    exact this.2), by
    have h : Fw (gneg 0) (-1 - 0) := Fw_neg.mpr (by
      unfold Ew; rw [gadd_comm, gadd_0, show -((-1 : Int) - 0) = 1 by omega]; exact El_up.mono (by
        have := upz_succ 0
        rw [upz_0, gadd_comm 0, gadd_0] at this
        exact this.2))
    rw [gneg_0] at h
    exact h⟩
  rw [iz_0] at this
  exact this
/-- who is two ahead wins -/
theorem two_ahead {g v : Nat} {n : Int} (h : Wt g v) (e : geq v (iz n)) (hn : 2 ≤ n) : gle 0 g ∧ ¬ gle g 0 := by
  have h1 : Ew g (1 - n) := (h.1 n).mp e.2
  have h2 : Ew g (0 - 1) := h1.mono (by omega)
  have h3 := Ew.big h2 0
  rw [upz_0, gadd_0, hc_0] at h3
  exact ⟨h3, fun q => El.no (c := 0) (Ew_0.mp (h2.mono (by omega))) q⟩
theorem two_behind {g v : Nat} {n : Int} (h : Wt g v) (e : geq v (iz n)) (hn : n ≤ -2) : gle g 0 ∧ ¬ gle 0 g := by
  have h1 : Fw g (-1 - n) := (h.2 n).mp e.1
  have h2 : Fw g (0 + 1) := h1.mono (by omega)
  have h3 := Fw.big h2 0
  rw [upz_0, gadd_0, hc_0] at h3
  exact ⟨h3, fun q => Er.no (c := 0) (Fw_0.mp (h2.mono (by omega))) q⟩
/-- weights are added -/
theorem Wt_sum {g h k u v w : Nat} {n m : Int} (hg : Wt g u) (hh : Wt h v) (hk : Wt k w) (eu : geq u (iz n)) (ev : geq v (iz m)) (ek : geq k (gadd g h)) : geq w (iz (n + m)) := by
  have move : ∀ (g h : Nat) (a b : Int), gadd (gadd g (upz a)) (gadd h (upz b)) = gadd (gadd g h) (gadd (upz a) (upz b)) := fun g h a b => by
    rw [gadd_assoc, gadd_assoc, ← gadd_assoc (upz a), gadd_comm (upz a) h, gadd_assoc h]
  constructor
  · have h1 : Fw g (-1 - n) := (hg.2 n).mp eu.1
    have h2 : Fw h (-1 - m) := (hh.2 m).mp ev.1
    have h3 := (Ew_A0.mp (Ew_neg.mpr (by rw [show -1 - n = -(1 + n) by omega] at h1; exact h1))).add (Ew_A0.mp (Ew_neg.mpr (by rw [show -1 - m = -(1 + m) by omega] at h2; exact h2)))
    rw [move] at h3
    have e : geq (gadd (gadd (gneg g) (gneg h)) (gadd (upz (1 + n - 1)) (upz (1 + m - 1)))) (gadd (gneg k) (upz (1 + (n + m) - 1))) := by
      refine gadd_eq ((neg_add g h).sy.tr (neg_eq ek).sy) ?_
      have := upz_add (1 + n - 1) (1 + m - 1)
      rw [show 1 + n - 1 + (1 + m - 1) = 1 + (n + m) - 1 by omega] at this
      exact this
    have h4 := Ew_neg.mp (Ew_A0.mpr (h3.mono e.1))
    rw [show -(1 + (n + m)) = -1 - (n + m) by omega] at h4
    exact (hk.2 _).mpr h4
  · have h1 : Ew g (1 - n) := (hg.1 n).mp eu.2
    have h2 : Ew h (1 - m) := (hh.1 m).mp ev.2
    have h3 := (Ew_A0.mp h1).add (Ew_A0.mp h2)
    rw [move] at h3
    have e : geq (gadd (gadd g h) (gadd (upz (1 - n - 1)) (upz (1 - m - 1)))) (gadd k (upz (1 - (n + m) - 1))) := by
      refine gadd_eq ek.sy ?_
      have := upz_add (1 - n - 1) (1 - m - 1)
      rw [show 1 - n - 1 + (1 - m - 1) = 1 - (n + m) - 1 by omega] at this
      exact this
    exact (hk.1 _).mpr (Ew_A0.mpr (h3.mono e.1))
