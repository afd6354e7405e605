/-! birthdays, widths -/
def lmax (l : List Nat) : Nat := l.foldr Nat.max 0
theorem lmax_ge {l : List Nat} {x : Nat} (h : x ∈ l) : x ≤ lmax l := by
  induction l with
  | nil => cases h
  | cons a l ih =>
    show x ≤ Nat.max a (lmax l)
    rcases List.mem_cons.mp h with rfl | h
    · exact Nat.le_max_left _ _
    · exact Nat.le_trans (ih h) (Nat.le_max_right _ _)
theorem lmax_mem {l : List Nat} (h : l ≠ []) : lmax l ∈ l := by
  induction l with
  | nil => exact absurd rfl h
  | cons a l ih =>
    show Nat.max a (lmax l) ∈ a :: l
    by_cases e : l = []
    · subst e
      show Nat.max a 0 ∈ [a]
      rw [show Nat.max a 0 = a from Nat.max_eq_left (Nat.zero_le a)]
      exact List.mem_singleton.mpr rfl
    · rcases Nat.le_total a (lmax l) with h1 | h1
      · rw [show Nat.max a (lmax l) = lmax l from Nat.max_eq_right h1]
        exact List.mem_cons_of_mem _ (ih e)
      · rw [show Nat.max a (lmax l) = a from Nat.max_eq_left h1]
        exact List.mem_cons_self
/-- all options -/
def opa (g : Nat) : List Nat := opts g 0 ++ opts g 1
theorem mem_opa {g x : Nat} : x ∈ opa g ↔ op g 0 x = true ∨ op g 1 x = true := by
  unfold opa
  rw [List.mem_append, mem_opts, mem_opts]
theorem opa_lt {g x : Nat} (h : x ∈ opa g) : x < g := (mem_opa.mp h).elim op_lt op_lt
def bd (g : Nat) : Nat := lmax ((opa g).attach.map (fun x => bd x.1 + 1))
termination_by g
decreasing_by exact opa_lt x.2
theorem bd_op {g w x : Nat} (hw : w < 2) (h : op g w x = true) : bd x < bd g := by
  have hx : x ∈ opa g := mem_opa.mpr (by
    rcases (by omega : w = 0 ∨ w = 1) with rfl | rfl
    · exact Or.inl h
    · exact Or.inr h)
  have h2 : bd x + 1 ≤ bd g := by
    rw [bd.eq_def g]
    exact lmax_ge (List.mem_map.mpr ⟨⟨x, hx⟩, List.mem_attach _ _, rfl⟩)
  omega
theorem bd_0 : bd 0 = 0 := by
  rw [bd]
  have e : (opa 0).attach.map (fun x => bd x.1 + 1) = [] := by
    apply List.eq_nil_iff_forall_not_mem.mpr
    intro y hy
    obtain ⟨⟨x, hx⟩, _, _⟩ := List.mem_map.mp hy
    rcases mem_opa.mp hx with h | h
    · rw [op_0] at h; cases h
    · rw [op_0] at h; cases h
  rw [e]; rfl
theorem bd_ex {g : Nat} (h : g ≠ 0) : ∃ x, (op g 0 x = true ∨ op g 1 x = true) ∧ bd g = bd x + 1 := by
  obtain ⟨y, hy⟩ := op_ex h
  have hne : (opa g).attach.map (fun x => bd x.1 + 1) ≠ [] := by
    intro e
    have : bd y + 1 ∈ (opa g).attach.map (fun x => bd x.1 + 1) := List.mem_map.mpr ⟨⟨y, mem_opa.mpr hy⟩, List.mem_attach _ _, rfl⟩
    rw [e] at this
    cases this
  obtain ⟨⟨x, hx⟩, _, h2⟩ := List.mem_map.mp (lmax_mem hne)
  exact ⟨x, mem_opa.mp hx, by rw [bd.eq_def g]; exact h2.symm⟩
/-- the birthday by any list of options -/
theorem bd_of {g b : Nat} (h1 : ∀ x, (op g 0 x = true ∨ op g 1 x = true) → bd x + 1 ≤ b) (h2 : b = 0 ∨ ∃ x, (op g 0 x = true ∨ op g 1 x = true) ∧ b ≤ bd x + 1) : bd g = b := by
  by_cases hg : g = 0
  · subst hg
    rw [bd_0]
    rcases h2 with h | ⟨x, hx, _⟩
    · exact h.symm
    · rcases hx with h | h <;> rw [op_0] at h <;> cases h
  · obtain ⟨x, hx, e⟩ := bd_ex hg
    have h3 := h1 x hx
    rcases h2 with h | ⟨y, hy, h4⟩
    · omega
    · have h5 : bd y < bd g := hy.elim (bd_op (by decide)) (bd_op (by decide))
      omega
theorem bd_pc : ∀ n, bd (pc n) = n := by
  intro n
  induction n with
  | zero => exact bd_0
  | succ n ih =>
    refine bd_of (fun x hx => ?_) (Or.inr ⟨pc n, Or.inl ((op_pcL n _).mpr rfl), by rw [ih]; exact Nat.le_refl _⟩)
    rcases hx with h | h
    · rw [(op_pcL n x).mp h, ih]; exact Nat.le_refl _
    · rw [pc_bare (n + 1) x] at h; cases h
theorem bd_nc : ∀ n, bd (nc n) = n := by
  intro n
  induction n with
  | zero => rw [nc_0]; exact bd_0
  | succ n ih =>
    refine bd_of (fun x hx => ?_) (Or.inr ⟨nc n, Or.inr ((op_ncR n _).mpr rfl), by rw [ih]; exact Nat.le_refl _⟩)
    rcases hx with h | h
    · rw [nc_bare (n + 1) x] at h; cases h
    · rw [(op_ncR n x).mp h, ih]; exact Nat.le_refl _
theorem bd_hc : ∀ n, bd (hc n) = n := by
  intro n
  induction n using Nat.strongRecOn with
  | _ n ih =>
    refine bd_of (fun x hx => ?_) ?_
    · have : ∃ k, k < n ∧ x = hc k := hx.elim (fun h => (op_hc (by decide)).mp h) (fun h => (op_hc (by decide)).mp h)
      obtain ⟨k, h1, rfl⟩ := this
      rw [ih k h1]; exact h1
    · by_cases h : n = 0
      · exact Or.inl h
      · exact Or.inr ⟨hc (n - 1), Or.inl ((op_hc (by decide)).mpr ⟨n - 1, by omega, rfl⟩), by rw [ih (n - 1) (by omega)]; omega⟩
/-! lists without repetition -/
theorem nodup_le : ∀ (l l2 : List Nat), l.Nodup → (∀ x, x ∈ l → x ∈ l2) → l.length ≤ l2.length
  | [], l2, _, _ => Nat.zero_le _
  | a :: l, l2, h, hs => by
    have h1 := List.nodup_cons.mp h
    have ha : a ∈ l2 := hs a List.mem_cons_self
    have h2 := nodup_le l (l2.erase a) h1.2 (fun x hx => (List.mem_erase_of_ne (fun e => h1.1 (by rw [← e]; exact hx))).mpr (hs x (List.mem_cons_of_mem _ hx)))
    rw [List.length_erase_of_mem ha] at h2
    have h3 : 0 < l2.length := List.length_pos_of_mem ha
    show l.length + 1 ≤ l2.length
    omega
theorem nodup_len {l l2 : List Nat} (h : l.Nodup) (h2 : l2.Nodup) (he : ∀ x, x ∈ l ↔ x ∈ l2) : l.length = l2.length := Nat.le_antisymm (nodup_le l l2 h (fun x hx => (he x).mp hx)) (nodup_le l2 l h2 (fun x hx => (he x).mpr hx))
theorem nodup_full {l l2 : List Nat} (h : l.Nodup) (hs : ∀ x, x ∈ l → x ∈ l2) (hl : l2.length ≤ l.length) (x : Nat) (hx : x ∈ l2) : x ∈ l := by
  apply Classical.byContradiction
  intro hn
  have := nodup_le (x :: l) l2 (List.nodup_cons.mpr ⟨hn, h⟩) (fun y hy => by
    rcases List.mem_cons.mp hy with rfl | hy
    · exact hx
    · exact hs y hy)
  have e : (x :: l).length = l.length + 1 := rfl
  omega
theorem nodup_opts (g w : Nat) : (opts g w).Nodup := by
  unfold opts
  exact List.Pairwise.filter _ List.nodup_range
theorem nodup_fr (p : Nat → Bool) (i : Nat) : (fr p i).Nodup := by
  unfold fr
  exact List.Pairwise.filter _ List.nodup_range
theorem mem_fr {p : Nat → Bool} {i x : Nat} : x ∈ fr p i ↔ x < i ∧ p x = true := by
  unfold fr
  rw [List.mem_filter, List.mem_range]
/-- all followers; the width -/
noncomputable def fls (g : Nat) : List Nat := fr (folB g) (g + 1)
theorem mem_fls {g x : Nat} : x ∈ fls g ↔ fol g x := by
  unfold fls
  rw [mem_fr, folB_iff]
  exact ⟨fun h => h.2, fun h => ⟨by have := fol_le h; omega, h⟩⟩
noncomputable def wid (g : Nat) : Nat := (fls g).length
theorem wid_of {g : Nat} {l : List Nat} (hn : l.Nodup) (h : ∀ x, x ∈ l ↔ fol g x) : wid g = l.length := nodup_len (nodup_fr _ _) hn (fun x => by rw [h]; exact mem_fls)
theorem wid_fol {g x : Nat} (h : fol g x) : wid x ≤ wid g := nodup_le _ _ (nodup_fr _ _) (fun y hy => mem_fls.mpr (fol_tr h (mem_fls.mp hy)))
theorem wid_op {g w x : Nat} (hw : w < 2) (h : op g w x = true) : wid x < wid g := by
  have hx : fol g x := fol_op hw h (fol_rf _)
  have h1 : ¬ g ∈ fls x := fun hm => by have := fol_le (mem_fls.mp hm); have := op_lt h; omega
  have := nodup_le (g :: fls x) (fls g) (List.nodup_cons.mpr ⟨h1, nodup_fr _ _⟩) (fun y hy => by
    rcases List.mem_cons.mp hy with rfl | hy
    · exact mem_fls.mpr (fol_rf _)
    · exact mem_fls.mpr (fol_tr hx (mem_fls.mp hy)))
  exact this
theorem bd_wid : ∀ g, bd g < wid g := by
  intro g
  induction g using Nat.strongRecOn with
  | _ g ih =>
    by_cases hg : g = 0
    · subst hg
      rw [bd_0]
      exact List.length_pos_of_mem (mem_fls.mpr (fol_rf 0))
    · obtain ⟨x, hx, e⟩ := bd_ex hg
      have h1 : wid x < wid g := hx.elim (wid_op (by decide)) (wid_op (by decide))
      have h2 := ih x (hx.elim op_lt op_lt)
      omega
/-- a heap, from what is told of its options -/
theorem hc_of {g n : Nat} {l r : List Nat} (hl : ∀ x, x ∈ l ↔ op g 0 x = true) (hr : ∀ x, x ∈ r ↔ op g 1 x = true) (nl : l.Nodup) (nr : r.Nodup) (ll : l.length = n) (lr : r.length = n) (hh : ∀ x, (x ∈ l ∨ x ∈ r) → ∃ k, k < n ∧ x = hc k) : g = hc n := by
  apply op_ext
  intro w hw x
  apply Bool.eq_iff_iff.mpr
  rw [op_hc hw]
  rcases (by omega : w = 0 ∨ w = 1) with rfl | rfl
  · rw [← hl]
    constructor
    · intro h; exact hh x (Or.inl h)
    · rintro ⟨k, h1, rfl⟩
      exact nodup_full nl (fun y hy => mem_hcl.mpr (hh y (Or.inl hy))) (by rw [hcl_len]; omega) _ (mem_hcl.mpr ⟨k, h1, rfl⟩)
  · rw [← hr]
    constructor
    · intro h; exact hh x (Or.inr h)
    · rintro ⟨k, h1, rfl⟩
      exact nodup_full nr (fun y hy => mem_hcl.mpr (hh y (Or.inr hy))) (by rw [hcl_len]; omega) _ (mem_hcl.mpr ⟨k, h1, rfl⟩)
