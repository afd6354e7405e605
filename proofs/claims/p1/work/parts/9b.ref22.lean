/-! EVERY GAME HAS A CANONICAL FORM -/
def chg (g w x : Nat) (S : List Nat) : Nat := if w = 0 then mkg ((opts g 0).filter (fun u => decide (u ≠ x)) ++ S) (opts g 1) else mkg (opts g 0) ((opts g 1).filter (fun u => decide (u ≠ x)) ++ S)
theorem op_chg {g w x u : Nat} {S : List Nat} (hw : w < 2) : op (chg g w x S) w u = true ↔ (op g w u = true ∧ u ≠ x) ∨ u ∈ S := by
  unfold chg
  rcases (by omega : w = 0 ∨ w = 1) with rfl | rfl
  · rw [if_pos rfl, op_mkgL, List.mem_append, List.mem_filter, mem_opts, decide_eq_true_eq]
  · rw [if_neg (by decide), op_mkgR, List.mem_append, List.mem_filter, mem_opts, decide_eq_true_eq]
theorem op_chg2 {g w x u : Nat} {S : List Nat} (hw : w < 2) : op (chg g w x S) (1 - w) u = op g (1 - w) u := by
  apply Bool.eq_iff_iff.mpr
  unfold chg
  rcases (by omega : w = 0 ∨ w = 1) with rfl | rfl
  · rw [if_pos rfl, show 1 - 0 = 1 from rfl, op_mkgR, mem_opts]
  · rw [if_neg (by decide), show 1 - 1 = 0 from rfl, op_mkgL, mem_opts]
theorem lt_of_bit {x y i : Nat} (hx : x.testBit i = false) (hy : y.testBit i = true) (h : ∀ j, i < j → x.testBit j = y.testBit j) : x < y := by
  have e : x / 2 ^ (i + 1) = y / 2 ^ (i + 1) := Nat.eq_of_testBit_eq (fun j => by rw [Nat.testBit_div_two_pow, Nat.testBit_div_two_pow]; exact h _ (by omega))
  rw [Nat.pow_succ, ← Nat.div_div_eq_div_mul, ← Nat.div_div_eq_div_mul] at e
  rw [Nat.testBit_eq_decide_div_mod_eq] at hx hy
  have h1 := of_decide_eq_false hx
  have h2 := of_decide_eq_true hy
  apply Classical.byContradiction
  intro q
  have h3 := Nat.div_le_div_right (c := 2 ^ i) (Nat.le_of_not_lt q)
  omega
theorem chg_lt {g w x : Nat} {S : List Nat} (hw : w < 2) (hx : op g w x = true) (hS : ∀ u, u ∈ S → u < x) : chg g w x S < g := by
  refine lt_of_bit (i := 2 * x + w) ?_ hx (fun j hj => ?_)
  · have : ¬ op (chg g w x S) w x = true := fun h => by
      rcases (op_chg hw).mp h with ⟨_, h⟩ | h
      · exact h rfl
      · exact absurd (hS x h) (Nat.lt_irrefl _)
    exact Bool.eq_false_iff.mpr this
  · have e : j = 2 * (j / 2) + j % 2 := by omega
    have : op (chg g w x S) (j % 2) (j / 2) = op g (j % 2) (j / 2) := by
      by_cases q : j % 2 = w
      · rw [q]
        apply Bool.eq_iff_iff.mpr
        rw [op_chg hw]
        constructor
        · rintro (h | h)
          · exact h.1
          · have := hS _ h; omega
        · intro h
          exact Or.inl ⟨h, by omega⟩
      · have e1 : j % 2 = 1 - w := by omega
        rw [e1]
        exact op_chg2 hw
    unfold op at this
    rw [← e] at this
    exact this
theorem can_ex : ∀ n g, g ≤ n → ∃ K, can K ∧ geq K g ∧ K ≤ g
  | n, g, hn => by
    have IH : ∀ x, x < g → ∃ K, can K ∧ geq K x ∧ K ≤ x := fun x hx => by
      match n with
      | 0 => omega
      | n + 1 => exact can_ex n x (by omega)
    apply Classical.byContradiction
    intro h
    have step : ∀ g2, g2 < g → geq g2 g → False := fun g2 l e => by
      obtain ⟨K, a, b, c⟩ := IH g2 l
      exact h ⟨K, a, b.tr e, by omega⟩
    refine h ⟨g, (can_def g).mpr ⟨fun w x hw hx => ?_, fun x y hx hy ne q => ?_, fun x y hx hy ne q => ?_, fun x y hx hy q => ?_, fun x y hx hy q => ?_⟩, geq_rfl _, Nat.le_refl _⟩
    · apply Classical.byContradiction
      intro nc
      obtain ⟨K, a, b, c⟩ := IH x (op_lt hx)
      have lt : K < x := by
        rcases Nat.lt_or_ge K x with l | l
        · exact l
        · have : K = x := by omega
          rw [this] at a
          exact absurd a nc
      have same : ∀ u, op g w u = true → ∃ v, op (chg g w x [K]) w v = true ∧ geq u v := fun u hu => by
        by_cases e : u = x
        · exact ⟨K, (op_chg hw).mpr (Or.inr (List.mem_singleton.mpr rfl)), by rw [e]; exact b.sy⟩
        · exact ⟨u, (op_chg hw).mpr (Or.inl ⟨hu, e⟩), geq_rfl _⟩
      have back : ∀ v, op (chg g w x [K]) w v = true → ∃ u, op g w u = true ∧ geq v u := fun v hv => by
        rcases (op_chg hw).mp hv with ⟨hu, _⟩ | hu
        · exact ⟨v, hu, geq_rfl _⟩
        · rw [List.mem_singleton.mp hu]; exact ⟨x, hx, b⟩
      have oth : ∀ v, op (chg g w x [K]) (1 - w) v = op g (1 - w) v := fun v => op_chg2 hw
      refine step (chg g w x [K]) (chg_lt hw hx (fun u hu => by rw [List.mem_singleton.mp hu]; exact lt)) ?_
      rcases (by omega : w = 0 ∨ w = 1) with rfl | rfl
      · exact geq_of back (fun y hy => by obtain ⟨v, a, b⟩ := same y hy; exact ⟨v, a, b.sy⟩) (fun y hy => ⟨y, by rw [← oth]; exact hy, geq_rfl _⟩) (fun y hy => ⟨y, by rw [show (1 : Nat) = 1 - 0 from rfl, oth]; exact hy, geq_rfl _⟩)
      · exact geq_of (fun y hy => ⟨y, by rw [← show op (chg g 1 x [K]) 0 y = op g 0 y from oth y]; exact hy, geq_rfl _⟩) (fun y hy => ⟨y, by rw [show op (chg g 1 x [K]) 0 y = op g 0 y from oth y]; exact hy, geq_rfl _⟩) back (fun y hy => by obtain ⟨v, a, b⟩ := same y hy; exact ⟨v, a, b.sy⟩)
    · exact step (chg g 0 x []) (chg_lt (by decide) hx (fun u hu => by cases hu)) (dropL (x := x) (y := y) ((op_chg (by decide)).mpr (Or.inl ⟨hy, fun e => ne e.symm⟩)) q (fun u => op_chg2 (w := 0) (by decide)) (fun u hu => ((op_chg (by decide)).mp hu).elim (fun h => h.1) (fun h => by cases h)) (fun u hu => by
        by_cases e : u = x
        · exact Or.inl e
        · exact Or.inr ((op_chg (by decide)).mpr (Or.inl ⟨hu, e⟩)))).sy
    · exact step (chg g 1 y []) (chg_lt (by decide) hy (fun u hu => by cases hu)) (dropR (x := y) (y := x) ((op_chg (by decide)).mpr (Or.inl ⟨hx, ne⟩)) q (fun u => op_chg2 (w := 1) (by decide)) (fun u hu => ((op_chg (by decide)).mp hu).elim (fun h => h.1) (fun h => by cases h)) (fun u hu => by
        by_cases e : u = y
        · exact Or.inl e
        · exact Or.inr ((op_chg (by decide)).mpr (Or.inl ⟨hu, e⟩)))).sy
    · exact step (chg g 0 x (opts y 0)) (chg_lt (by decide) hx (fun u hu => Nat.lt_trans (op_lt (mem_opts.mp hu)) (op_lt hy))) (byL (x := x) (z := y) hx hy q (fun u => op_chg2 (w := 0) (by decide)) (fun u hu => ((op_chg (by decide)).mp hu).elim (fun h => Or.inl h.1) (fun h => Or.inr (mem_opts.mp h))) (fun u hu => by
        by_cases e : u = x
        · exact Or.inl e
        · exact Or.inr ((op_chg (by decide)).mpr (Or.inl ⟨hu, e⟩))) (fun u hu => (op_chg (by decide)).mpr (Or.inr (mem_opts.mpr hu)))).sy
    · exact step (chg g 1 x (opts y 1)) (chg_lt (by decide) hx (fun u hu => Nat.lt_trans (op_lt (mem_opts.mp hu)) (op_lt hy))) (byR (x := x) (z := y) hx hy q (fun u => op_chg2 (w := 1) (by decide)) (fun u hu => ((op_chg (by decide)).mp hu).elim (fun h => Or.inl h.1) (fun h => Or.inr (mem_opts.mp h))) (fun u hu => by
        by_cases e : u = x
        · exact Or.inl e
        · exact Or.inr ((op_chg (by decide)).mpr (Or.inl ⟨hu, e⟩))) (fun u hu => (op_chg (by decide)).mpr (Or.inr (mem_opts.mpr hu)))).sy
noncomputable def cf (g : Nat) : Nat := Classical.choose (can_ex g g (Nat.le_refl _))
theorem can_cf (g : Nat) : can (cf g) := (Classical.choose_spec (can_ex g g (Nat.le_refl _))).1
theorem cf_eq (g : Nat) : geq (cf g) g := (Classical.choose_spec (can_ex g g (Nat.le_refl _))).2.1
theorem cf_of {g K : Nat} (c : can K) (e : geq K g) : cf g = K := can_uniq (can_cf g) c ((cf_eq g).tr e.sy)
/-- an option of the canonical form is equal to an option of a follower -/
theorem can_followL {K x : Nat} (cK : can K) (hx : op K 0 x = true) : ∀ (n Y : Nat), Y ≤ n → gle Y K → ¬ gle Y x → ∃ Z u, fol Y Z ∧ op Z 0 u = true ∧ geq u x
  | n, Y, hn, h1, h2 => by
    rcases not_gle.mp h2 with ⟨y, hy, hxy⟩ | ⟨z, hz, hzY⟩
    · rcases not_gle.mp (((gle_def Y K).mp h1).1 y hy) with ⟨x2, hx2, hyx2⟩ | ⟨y2, hy2, hy2K⟩
      · have e : x = x2 := Classical.byContradiction (fun ne => ((can_def K).mp cK).2.1 x x2 hx hx2 ne (gle_tr hxy hyx2))
        subst e
        exact ⟨Y, y, fol_rf _, hy, hyx2, hxy⟩
      · have l1 := op_lt hy
        have l2 := op_lt hy2
        match n with
        | 0 => omega
        | n + 1 =>
          obtain ⟨Z, u, a, b, c⟩ := can_followL cK hx n y2 (by omega) hy2K (fun q => gle_R hy2 (gle_tr q hxy))
          exact ⟨Z, u, fol_op (by decide : 0 < 2) hy (fol_op (by decide : 1 < 2) hy2 a), b, c⟩
    · exact absurd (gle_tr hzY h1) (((can_def K).mp cK).2.2.2.1 x z hx hz)
theorem can_followR {K x : Nat} (cK : can K) (hx : op K 1 x = true) : ∀ (n Y : Nat), Y ≤ n → gle K Y → ¬ gle x Y → ∃ Z u, fol Y Z ∧ op Z 1 u = true ∧ geq u x
  | n, Y, hn, h1, h2 => by
    rcases not_gle.mp h2 with ⟨z, hz, hzY⟩ | ⟨y, hy, hxy⟩
    · exact absurd (gle_tr h1 hzY) (((can_def K).mp cK).2.2.2.2 x z hx hz)
    · rcases not_gle.mp (((gle_def K Y).mp h1).2 y hy) with ⟨y2, hy2, hy2K⟩ | ⟨x2, hx2, hyx2⟩
      · have l1 := op_lt hy
        have l2 := op_lt hy2
        match n with
        | 0 => omega
        | n + 1 =>
          obtain ⟨Z, u, a, b, c⟩ := can_followR cK hx n y2 (by omega) hy2K (fun q => gle_L hy2 (gle_tr hxy q))
          exact ⟨Z, u, fol_op (by decide : 1 < 2) hy (fol_op (by decide : 0 < 2) hy2 a), b, c⟩
      · have e : x2 = x := Classical.byContradiction (fun ne => ((can_def K).mp cK).2.2.1 x2 x hx2 hx ne (gle_tr hyx2 hxy))
        subst e
        exact ⟨Y, y, fol_rf _, hy, hxy, hyx2⟩
/-- so is each option -/
theorem can_opt {K G w x : Nat} (hw : w < 2) (cK : can K) (e : geq K G) (hx : op K w x = true) : ∃ u, fol G u ∧ bd u + 1 ≤ bd G ∧ geq u x := by
  have : ∃ Z u, fol G Z ∧ op Z w u = true ∧ geq u x := by
    rcases (by omega : w = 0 ∨ w = 1) with rfl | rfl
    · exact can_followL cK hx G G (Nat.le_refl _) e.2 (fun q => gle_L hx (gle_tr e.1 q))
    · exact can_followR cK hx G G (Nat.le_refl _) e.1 (fun q => gle_R hx (gle_tr q e.2))
  obtain ⟨Z, u, a, b, c⟩ := this
  have h1 := bd_fol a
  have h2 := bd_op hw b
  exact ⟨u, fol_tr a (fol_op hw b (fol_rf _)), by omega, c⟩
theorem can_folG : ∀ (n K G x : Nat), K ≤ n → can K → geq K G → fol K x → ∃ u, fol G u ∧ geq u x
  | n, K, G, x, hn, cK, e, h => by
    rcases (fol_def _ x).mp h with rfl | ⟨y, hy, h3⟩
    · exact ⟨G, fol_rf _, e.sy⟩
    · have : ∃ w, w < 2 ∧ op K w y = true := hy.elim (fun h => ⟨0, by decide, h⟩) (fun h => ⟨1, by decide, h⟩)
      obtain ⟨w, hw, ho⟩ := this
      have lt := op_lt ho
      obtain ⟨u, a, _, c⟩ := can_opt hw cK e ho
      match n with
      | 0 => omega
      | n + 1 =>
        obtain ⟨v, a2, c2⟩ := can_folG n y u x (by omega) (cK.op ho hw) c.sy h3
        exact ⟨v, fol_tr a a2, c2⟩
theorem bd_can : ∀ (n K G : Nat), K ≤ n → can K → geq K G → bd K ≤ bd G
  | n, K, G, hn, cK, e => bd_leq (fun x hx => by
    have : ∃ w, w < 2 ∧ op K w x = true := hx.elim (fun h => ⟨0, by decide, h⟩) (fun h => ⟨1, by decide, h⟩)
    obtain ⟨w, hw, ho⟩ := this
    have lt := op_lt ho
    obtain ⟨u, a, b, c⟩ := can_opt hw cK e ho
    match n with
    | 0 => omega
    | n + 1 =>
      have := bd_can n x u (by omega) (cK.op ho hw) c.sy
      omega)
theorem bd_cf (g : Nat) : bd (cf g) ≤ bd g := bd_can _ _ _ (Nat.le_refl _) (can_cf g) (cf_eq g)
/-! FLOWERS -/
def fl (s b r : Nat) : Nat := mkg (hcl s ++ (if _h : 0 < b then [fl s (b - 1) r] else [])) (hcl s ++ (if _h : 0 < r then [fl s b (r - 1)] else []))
termination_by b + r
theorem fl_def (s b r : Nat) : fl s b r = mkg (hcl s ++ (if 0 < b then [fl s (b - 1) r] else [])) (hcl s ++ (if 0 < r then [fl s b (r - 1)] else [])) := by
  rw [fl]
  congr 2
theorem fl_L {s b r x : Nat} : op (fl s b r) 0 x = true ↔ (∃ k, k < s ∧ x = hc k) ∨ (0 < b ∧ x = fl s (b - 1) r) := by
  rw [fl_def, op_mkgL, List.mem_append, mem_hcl]
  by_cases h : 0 < b
  · rw [if_pos h, List.mem_singleton]
    exact ⟨fun q => q.imp id (fun q => ⟨h, q⟩), fun q => q.imp id (fun q => q.2)⟩
  · rw [if_neg h]
    exact ⟨fun q => q.imp id (fun q => by cases q), fun q => q.imp id (fun q => absurd q.1 h)⟩
theorem fl_R {s b r x : Nat} : op (fl s b r) 1 x = true ↔ (∃ k, k < s ∧ x = hc k) ∨ (0 < r ∧ x = fl s b (r - 1)) := by
  rw [fl_def, op_mkgR, List.mem_append, mem_hcl]
  by_cases h : 0 < r
  · rw [if_pos h, List.mem_singleton]
    exact ⟨fun q => q.imp id (fun q => ⟨h, q⟩), fun q => q.imp id (fun q => q.2)⟩
  · rw [if_neg h]
    exact ⟨fun q => q.imp id (fun q => by cases q), fun q => q.imp id (fun q => absurd q.1 h)⟩
theorem bd_fl : ∀ (n s b r : Nat), b + r ≤ n → bd (fl s b r) ≤ s + b + r
  | n, s, b, r, hn => bd_leq (fun x hx => by
    have hk : ∀ k, k < s → bd (hc k) + 1 ≤ s + b + r := fun k hk => by rw [bd_hc]; omega
    rcases hx with hx | hx
    · rcases fl_L.mp hx with ⟨k, h1, rfl⟩ | ⟨h1, rfl⟩
      · exact hk k h1
      · match n with
        | 0 => omega
        | n + 1 =>
          have := bd_fl n s (b - 1) r (by omega)
          omega
    · rcases fl_R.mp hx with ⟨k, h1, rfl⟩ | ⟨h1, rfl⟩
      · exact hk k h1
      · match n with
        | 0 => omega
        | n + 1 =>
          have := bd_fl n s b (r - 1) (by omega)
          omega)
/-- the games that may come up -/
noncomputable def FF (s : Nat) : List Nat := (List.range 10).map hc ++ (List.range 4).flatMap (fun i => (List.range 4).map (fun j => cf (fl s i j)))
theorem mem_FF {s x : Nat} : x ∈ FF s ↔ (∃ k, k < 10 ∧ x = hc k) ∨ ∃ i j, i < 4 ∧ j < 4 ∧ x = cf (fl s i j) := by
  unfold FF
  rw [List.mem_append, List.mem_map, List.mem_flatMap]
  constructor
  · rintro (⟨k, hk, e⟩ | ⟨i, hi, h⟩)
    · exact Or.inl ⟨k, List.mem_range.mp hk, e.symm⟩
    · obtain ⟨j, hj, e⟩ := List.mem_map.mp h
      exact Or.inr ⟨i, j, List.mem_range.mp hi, List.mem_range.mp hj, e.symm⟩
  · rintro (⟨k, hk, e⟩ | ⟨i, j, hi, hj, e⟩)
    · exact Or.inl ⟨k, List.mem_range.mpr hk, e.symm⟩
    · exact Or.inr ⟨i, List.mem_range.mpr hi, List.mem_map.mpr ⟨j, List.mem_range.mpr hj, e.symm⟩⟩
theorem FF_len (s : Nat) : (FF s).length = 26 := by
  unfold FF
  rw [List.length_append, List.length_map, List.length_range]
  rfl
theorem FF_bd {s x : Nat} (hs : s ≤ 9) (h : x ∈ FF s) : bd x ≤ 20 := by
  rcases mem_FF.mp h with ⟨k, hk, rfl⟩ | ⟨i, j, hi, hj, rfl⟩
  · rw [bd_hc]; omega
  · have := bd_cf (fl s i j)
    have := bd_fl _ s i j (Nat.le_refl _)
    omega
