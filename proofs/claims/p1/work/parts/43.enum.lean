/-! FOLLOWERS IN THEIR ORDER: 0 first, then by words -/
theorem wd_0 : wd 0 = [48] := by
  rw [wd_nn (bare_0 1), bd_0, numw_small (by decide)]
theorem wd_pc {n : Nat} (h : n ≤ 9) : wd (pc n) = [48 + n] := by
  rw [wd_nn (pc_bare n), bd_pc, numw_small h]
theorem not_bare {g w x : Nat} (h : op g w x = true) : ¬ Bare g w := fun q => by rw [q x] at h; cases h
theorem wd_nc {n : Nat} (h : n + 1 ≤ 9) : wd (nc (n + 1)) = [45, 48 + (n + 1)] := by
  rw [wd_neg (nc_bare _) (not_bare ((op_ncR n _).mpr rfl)), bd_nc, numw_small h]
theorem wd_hcs {k : Nat} (h1 : 1 ≤ k) (h : k ≤ 9) : wd (hc k) = 42 :: (if k > 1 then [48 + k] else []) := by
  have o : ∀ w, w < 2 → op (hc k) w (hc 0) = true := fun w hw => (op_hc hw).mpr ⟨0, h1, rfl⟩
  rw [wd_hp (not_bare (o 0 (by decide))) (not_bare (o 1 (by decide))) (by rw [bd_hc]), bd_hc, numw_small h]
theorem wlt_len {a b : List Nat} (h : a.length < b.length) : wlt a b = true := by
  unfold wlt
  simp [h]
theorem wlt_1 {a b : Nat} (h : a < b) : wlt [a] [b] = true := by
  unfold wlt
  simp [lexlt, h]
theorem wlt_2 {c a b : Nat} (h : a < b) : wlt [c, a] [c, b] = true := by
  unfold wlt
  simp [lexlt, h]
theorem joinw_len {a : List Nat} : ∀ {l : List (List Nat)}, a ∈ l → a.length ≤ (joinw l).length
  | [b], h => by rw [List.mem_singleton.mp h]; exact Nat.le_refl _
  | b :: c :: l, h => by
    show a.length ≤ (b ++ 44 :: joinw (c :: l)).length
    rw [List.length_append, List.length_cons]
    rcases List.mem_cons.mp h with rfl | h
    · omega
    · have := joinw_len h
      omega
theorem sortw_nil {l : List (List Nat)} {a : List Nat} (h : a ∈ l) : a ∈ sortw l := mem_sortw.mpr h
theorem wd_len_op {g w x : Nat} (hw : w < 2) (hx : op g w x = true) (hg : wd g = 123 :: (joinw (sortw ((opts g 0).map wd)) ++ 124 :: (joinw (sortw ((opts g 1).map wd)) ++ [125]))) : (wd x).length + 2 < (wd g).length := by
  rw [hg]
  rcases (by omega : w = 0 ∨ w = 1) with rfl | rfl
  · have := joinw_len (mem_sortw.mpr (List.mem_map.mpr ⟨x, mem_opts.mpr hx, rfl⟩) : wd x ∈ sortw ((opts g 0).map wd))
    simp only [List.length_cons, List.length_append]
    omega
  · have := joinw_len (mem_sortw.mpr (List.mem_map.mpr ⟨x, mem_opts.mpr hx, rfl⟩) : wd x ∈ sortw ((opts g 1).map wd))
    simp only [List.length_cons, List.length_append]
    omega
theorem wlt_op {g w x : Nat} (hc0 : can g) (h9 : bd g ≤ 9) (hw : w < 2) (hx : op g w x = true) : x = 0 ∨ wlt (wd x) (wd g) = true := by
  rcases wd_kind hc0 h9 with ⟨e, _⟩ | ⟨_, e, _⟩ | ⟨e, h0, _⟩ | ⟨_, _, e⟩
  · generalize bd g = b at *
    subst e
    rcases (by omega : w = 0 ∨ w = 1) with rfl | rfl
    · cases b with
      | zero => rw [show pc 0 = 0 from rfl, op_0] at hx; cases hx
      | succ n =>
        rw [(op_pcL n x).mp hx, wd_pc (by omega), wd_pc h9]
        exact Or.inr (wlt_1 (by omega))
    · rw [pc_bare b x] at hx; cases hx
  · generalize bd g = b at *
    subst e
    rcases (by omega : w = 0 ∨ w = 1) with rfl | rfl
    · rw [nc_bare b x] at hx; cases hx
    · cases b with
      | zero => rw [nc_0, op_0] at hx; cases hx
      | succ n =>
        rw [(op_ncR n x).mp hx]
        cases n with
        | zero => exact Or.inl nc_0
        | succ n =>
          rw [wd_nc (by omega), wd_nc h9]
          exact Or.inr (wlt_2 (by omega))
  · generalize bd g = b at *
    subst e
    obtain ⟨k, h1, rfl⟩ := (op_hc hw).mp hx
    by_cases hk : k = 0
    · exact Or.inl (by rw [hk]; rfl)
    · refine Or.inr ?_
      rw [wd_hcs (by omega) (by omega), wd_hcs h0 h9, if_pos (show b > 1 by omega)]
      by_cases hk1 : k > 1
      · rw [if_pos hk1]
        exact wlt_2 (by omega)
      · rw [if_neg hk1]
        exact wlt_len (by show 1 < 2; decide)
  · exact Or.inr (wlt_len (by have := wd_len_op hw hx e; omega))
theorem wlt_fol_aux : ∀ (n g x : Nat), g ≤ n → can g → bd g ≤ 9 → fol g x → x = g ∨ x = 0 ∨ wlt (wd x) (wd g) = true
  | n, g, x, hn, hc0, h9, h => by
    rcases (fol_def g x).mp h with rfl | ⟨y, hy, h3⟩
    · exact Or.inl rfl
    · have hlt : y < g := hy.elim op_lt op_lt
      obtain ⟨w, hw, hy⟩ : ∃ w, w < 2 ∧ op g w y = true := hy.elim (fun q => ⟨0, by decide, q⟩) (fun q => ⟨1, by decide, q⟩)
      match n, hn with
      | 0, hn => omega
      | n + 1, hn =>
        have hb := bd_op hw hy
        rcases wlt_fol_aux n y x (by omega) (hc0.op hy hw) (by omega) h3 with rfl | rfl | h4
        · exact Or.inr (wlt_op hc0 h9 hw hy)
        · exact Or.inr (Or.inl rfl)
        · rcases wlt_op hc0 h9 hw hy with rfl | h5
          · rcases (fol_def 0 x).mp h3 with rfl | ⟨z, hz, _⟩
            · exact Or.inr (Or.inl rfl)
            · rcases hz with hz | hz <;> rw [op_0] at hz <;> cases hz
          · exact Or.inr (Or.inr (wlt_tr h4 h5))
theorem wlt_fol {g x : Nat} (hc0 : can g) (h9 : bd g ≤ 9) (h : fol g x) : x = g ∨ x = 0 ∨ wlt (wd x) (wd g) = true := wlt_fol_aux g g x (Nat.le_refl _) hc0 h9 h
theorem wlt_le {a b : List Nat} (h : wlt a b = true) : a.length ≤ b.length := by
  unfold wlt at h
  simp only [Bool.or_eq_true, Bool.and_eq_true, decide_eq_true_iff] at h
  omega
theorem wd_pos (g : Nat) : 0 < (wd g).length := by
  rw [wd_def]
  split
  · rw [List.length_append]
    have : 0 < (numw (bd g)).length := by unfold numw; split <;> simp
    omega
  · split <;> simp
theorem wlen_fol {g x : Nat} (hc0 : can g) (h9 : bd g ≤ 9) (h : fol g x) : (wd x).length ≤ (wd g).length := by
  rcases wlt_fol hc0 h9 h with rfl | rfl | h1
  · exact Nat.le_refl _
  · rw [wd_0]; exact wd_pos g
  · exact wlt_le h1
/-- only * goes ahead of 0 -/
theorem wlt_zero {x : Nat} (hc0 : can x) (h9 : bd x ≤ 9) (h : wlt (wd x) [48] = true) : x = hc 1 := by
  rcases wd_kind hc0 h9 with ⟨_, e⟩ | ⟨_, _, e⟩ | ⟨e, h0, e2⟩ | ⟨_, _, e⟩
  · rw [e] at h
    unfold wlt at h
    simp [lexlt] at h
    omega
  · rw [e] at h
    unfold wlt at h
    simp at h
  · rw [e2] at h
    by_cases q : bd x > 1
    · rw [if_pos q] at h
      unfold wlt at h
      simp at h
    · rw [e, show bd x = 1 by omega]
  · rw [e] at h
    unfold wlt at h
    simp at h
theorem bd_fol {g z : Nat} (hz : fol g z) : bd z ≤ bd g := by
  have aux : ∀ n g z, g ≤ n → fol g z → bd z ≤ bd g := by
    intro n
    induction n with
    | zero => intro g z hg hz; have := fol_le hz; rw [show z = g by omega]; exact Nat.le_refl _
    | succ n ih =>
      intro g z hg hz
      rcases (fol_def g z).mp hz with rfl | ⟨y, hy, h3⟩
      · exact Nat.le_refl _
      · have hlt : y < g := hy.elim op_lt op_lt
        have := ih y z (by omega) h3
        have : bd y < bd g := hy.elim (bd_op (by decide)) (bd_op (by decide))
        omega
  exact aux g g z (Nat.le_refl _) hz
def fo (x y : Nat) : Prop := (x = 0 ∧ y ≠ 0) ∨ (x ≠ 0 ∧ y ≠ 0 ∧ wlt (wd x) (wd y) = true)
theorem fo_irr {x : Nat} (h : fo x x) : False := by
  rcases h with ⟨h1, h2⟩ | ⟨_, _, h⟩
  · exact h2 h1
  · rw [wlt_irr] at h; cases h
/-- all followers, in their order -/
def Enum (g : Nat) (e : Nat → Nat) : Prop := (∀ k, k < wid g → fol g (e k)) ∧ (∀ x, fol g x → ∃ k, k < wid g ∧ e k = x) ∧ ∀ j k, j < k → k < wid g → fo (e j) (e k)
theorem wid_pos (g : Nat) : 0 < wid g := Nat.lt_of_le_of_lt (Nat.zero_le _) (bd_wid g)
theorem Enum.inj {g : Nat} {e : Nat → Nat} (h : Enum g e) {j k : Nat} (hj : j < wid g) (hk : k < wid g) (q : e j = e k) : j = k := by
  rcases (by omega : j < k ∨ j = k ∨ k < j) with h1 | h1 | h1
  · have := h.2.2 j k h1 hk
    rw [q] at this
    exact (fo_irr this).elim
  · exact h1
  · have := h.2.2 k j h1 hj
    rw [q] at this
    exact (fo_irr this).elim
theorem Enum.zero {g : Nat} {e : Nat → Nat} (h : Enum g e) : e 0 = 0 := by
  obtain ⟨k, hk, e1⟩ := h.2.1 0 (fol_zero g)
  by_cases q : k = 0
  · subst q; exact e1
  · have := h.2.2 0 k (by omega) hk
    rw [e1] at this
    rcases this with ⟨_, h2⟩ | ⟨_, h2, _⟩ <;> exact absurd rfl h2
theorem Enum.top {g : Nat} {e : Nat → Nat} (hc0 : can g) (h9 : bd g ≤ 9) (h : Enum g e) : e (wid g - 1) = g := by
  obtain ⟨k, hk, e1⟩ := h.2.1 g (fol_rf g)
  by_cases q : k = wid g - 1
  · rw [← q]; exact e1
  · have h1 := h.2.2 k (wid g - 1) (by omega) (by omega)
    rw [e1] at h1
    have h2 := h.1 (wid g - 1) (by omega)
    rcases wlt_fol hc0 h9 h2 with h3 | h3 | h3
    · exact absurd (h.inj hk (by omega) (e1.trans h3.symm)) q
    · rcases h1 with ⟨_, h4⟩ | ⟨_, h4, _⟩ <;> exact absurd h3 h4
    · rcases h1 with ⟨h4, _⟩ | ⟨_, _, h4⟩
      · subst h4
        have : e (wid 0 - 1) = 0 := by
          rcases (fol_def 0 _).mp h2 with h5 | ⟨z, hz, _⟩
          · exact h5
          · rcases hz with hz | hz <;> rw [op_0] at hz <;> cases hz
        exact this
      · have := wlt_asym h3
        rw [h4] at this; cases this
theorem Enum.ahead {g : Nat} {e : Nat → Nat} (hc0 : can g) (h9 : bd g ≤ 9) (h : Enum g e) {k w x : Nat} (hk : k < wid g) (hw : w < 2) (hx : op (e k) w x = true) : ∃ j, j < k ∧ e j = x := by
  have h1 := h.1 k hk
  obtain ⟨j, hj, e1⟩ := h.2.1 x (fol_tr h1 (fol_op hw hx (fol_rf x)))
  refine ⟨j, ?_, e1⟩
  rcases (by omega : j < k ∨ j = k ∨ k < j) with h2 | h2 | h2
  · exact h2
  · subst h2
    have := op_lt hx
    omega
  · have h3 := h.2.2 k j h2 hj
    rw [e1] at h3
    have hb : bd (e k) ≤ 9 := Nat.le_trans (bd_fol h1) h9
    rcases wlt_op (can_fol hc0 h1) hb hw hx with h4 | h4
    · rcases h3 with ⟨_, h5⟩ | ⟨_, h5, _⟩ <;> exact absurd h4 h5
    · rcases h3 with ⟨h5, _⟩ | ⟨_, _, h5⟩
      · rw [h5, op_0] at hx; cases hx
      · have := wlt_asym h4
        rw [h5] at this; cases this
