/-! THE NURSERY: what all of its games are -/
theorem nodup_sum (f : Nat → Nat) : ∀ (l l2 : List Nat), l.Nodup → (∀ x, x ∈ l → x ∈ l2) → (l.map f).sum ≤ (l2.map f).sum
  | [], l2, _, _ => Nat.zero_le _
  | a :: l, l2, h, hs => by
    rw [List.nodup_cons] at h
    have ha := hs a (List.mem_cons_self ..)
    have ih := nodup_sum f l (l2.erase a) h.2 (fun x hx => (List.mem_erase_of_ne (fun e => h.1 (by rw [← e]; exact hx))).mpr (hs x (List.mem_cons_of_mem _ hx)))
    have hp := (List.perm_cons_erase ha).map f
    have := hp.sum_nat
    rw [List.map_cons, List.sum_cons] at this ⊢
    omega
theorem numw_le (v : Nat) : (numw v).length ≤ 2 := by
  unfold numw
  split
  · exact Nat.le_refl _
  · show 1 ≤ 2; decide
def wl1 (g : Nat) : Nat := (wd g).length + 1
theorem wd_le (g : Nat) : (wd g).length ≤ 3 + ((opts g 0).map wl1).sum + ((opts g 1).map wl1).sum := by
  have h := numw_le (bd g)
  rw [wd_def]
  split
  · rw [List.length_append]
    have : (if (opts g 1).isEmpty = true then ([] : List Nat) else [45]).length ≤ 1 := by
      split
      · exact Nat.zero_le _
      · exact Nat.le_refl _
    omega
  · split
    · rw [List.length_cons]
      split
      · omega
      · show 0 + 1 ≤ _; omega
    · have j0 := Nat.le_trans (joinw_le (sortw ((opts g 0).map wd))) (sortw_len ((opts g 0).map wd))
      have j1 := Nat.le_trans (joinw_le (sortw ((opts g 1).map wd))) (sortw_len ((opts g 1).map wd))
      rw [List.map_map] at j0 j1
      have e : (fun w : List Nat => w.length + 1) ∘ wd = wl1 := rfl
      rw [e] at j0 j1
      rw [List.length_cons, List.length_append, List.length_cons, List.length_append, List.length_singleton]
      omega
theorem opts_sum {g w : Nat} {l : List Nat} (h : ∀ x, op g w x = true → x ∈ l) : ((opts g w).map wl1).sum ≤ (l.map wl1).sum := nodup_sum wl1 _ _ (nodup_opts g w) (fun x hx => h x (mem_opts.mp hx))
theorem nG_le (l r : Nat) : (wd (nG l r)).length ≤ 3 + ((sel l).map wl1).sum + ((sel r).map wl1).sum := by
  have h := wd_le (nG l r)
  have h0 := opts_sum (g := nG l r) (w := 0) (l := sel l) (fun x hx => mem_sel.mpr (op_nGL.mp hx))
  have h1 := opts_sum (g := nG l r) (w := 1) (l := sel r) (fun x hx => mem_sel.mpr (op_nGR.mp hx))
  omega
theorem hc_0' : hc 0 = 0 := by rw [hc_0]
theorem hc1_ne : hc 1 = ne1 := by
  apply op_ext
  intro w hw x
  apply Bool.eq_iff_iff.mpr
  rw [op_hc hw]
  unfold ne1
  constructor
  · rintro ⟨k, hk, rfl⟩
    rw [show k = 0 by omega, hc_0]
    rcases (by omega : w = 0 ∨ w = 1) with rfl | rfl
    · rw [op_mkgL]; exact List.mem_singleton.mpr rfl
    · rw [op_mkgR]; exact List.mem_singleton.mpr rfl
  · intro h
    refine ⟨0, by decide, ?_⟩
    rw [hc_0]
    rcases (by omega : w = 0 ∨ w = 1) with rfl | rfl
    · rw [op_mkgL] at h; exact List.mem_singleton.mp h
    · rw [op_mkgR] at h; exact List.mem_singleton.mp h
theorem hc2_ne : hc 2 = ne 6 := by
  show hc 2 = mkg [0, ne1] [0, ne1]
  have m2 : ∀ x, x ∈ [0, ne1] ↔ ∃ k, k < 2 ∧ x = hc k := by
    intro x
    rw [List.mem_cons, List.mem_singleton]
    constructor
    · rintro (rfl | rfl)
      · exact ⟨0, by decide, hc_0.symm⟩
      · exact ⟨1, by decide, hc1_ne.symm⟩
    · rintro ⟨k, hk, rfl⟩
      rcases (by omega : k = 0 ∨ k = 1) with rfl | rfl
      · exact Or.inl hc_0
      · exact Or.inr hc1_ne
  apply op_ext
  intro w hw x
  apply Bool.eq_iff_iff.mpr
  rw [op_hc hw]
  rcases (by omega : w = 0 ∨ w = 1) with rfl | rfl
  · rw [op_mkgL, m2]
  · rw [op_mkgR, m2]
def lwn (i : Nat) : Nat := [2, 2, 8, 10, 8, 10, 3].getD i 0
theorem wl1_0 : wl1 0 = 2 := by unfold wl1; rw [wd_0_len]
theorem wl1_1 : wl1 ne1 = 2 := by
  unfold wl1
  rw [← hc1_ne, wd_hcs (by decide) (by decide)]
  rfl
theorem wl1_ne : ∀ i, i < 7 → wl1 (ne i) ≤ lwn i
  | 0, _ => by show wl1 0 ≤ 2; rw [wl1_0]; decide
  | 1, _ => by show wl1 ne1 ≤ 2; rw [wl1_1]; decide
  | 2, _ => by
    have h := nG_le 1 2
    rw [sel_1, sel_2, show ([0].map wl1).sum = 2 by show wl1 0 + 0 = 2; rw [wl1_0], show ([ne1].map wl1).sum = 2 by show wl1 ne1 + 0 = 2; rw [wl1_1]] at h
    rw [ne_G 2 (by decide)]
    show (wd (nG 1 2)).length + 1 ≤ 8
    omega
  | 3, _ => by
    have h := nG_le 1 3
    rw [sel_1, sel_3, show ([0].map wl1).sum = 2 by show wl1 0 + 0 = 2; rw [wl1_0], show ([0, ne1].map wl1).sum = 4 by show wl1 0 + (wl1 ne1 + 0) = 4; rw [wl1_1, wl1_0]] at h
    rw [ne_G 3 (by decide)]
    show (wd (nG 1 3)).length + 1 ≤ 10
    omega
  | 4, _ => by
    have h := nG_le 2 1
    rw [sel_1, sel_2, show ([0].map wl1).sum = 2 by show wl1 0 + 0 = 2; rw [wl1_0], show ([ne1].map wl1).sum = 2 by show wl1 ne1 + 0 = 2; rw [wl1_1]] at h
    rw [ne_G 4 (by decide)]
    show (wd (nG 2 1)).length + 1 ≤ 8
    omega
  | 5, _ => by
    have h := nG_le 3 1
    rw [sel_1, sel_3, show ([0].map wl1).sum = 2 by show wl1 0 + 0 = 2; rw [wl1_0], show ([0, ne1].map wl1).sum = 4 by show wl1 0 + (wl1 ne1 + 0) = 4; rw [wl1_1, wl1_0]] at h
    rw [ne_G 5 (by decide)]
    show (wd (nG 3 1)).length + 1 ≤ 10
    omega
  | 6, _ => by
    show wl1 (ne 6) ≤ 3
    unfold wl1
    rw [← hc2_ne, wd_hcs (by decide) (by decide)]
    decide
  | n + 7, h => by omega
theorem sel_sum (l : Nat) : ((sel l).map wl1).sum ≤ 43 := by
  unfold sel
  rw [List.map_map]
  have h1 := nodup_sum (wl1 ∘ ne) (fr (fun i => l.testBit i) 7) (List.range 7) (nodup_fr _ _) (fun x hx => List.mem_range.mpr (mem_fr.mp hx).1)
  have h2 : ((List.range 7).map (wl1 ∘ ne)).sum ≤ 43 := by
    have e : List.range 7 = [0, 1, 2, 3, 4, 5, 6] := by decide
    rw [e]
    show wl1 (ne 0) + (wl1 (ne 1) + (wl1 (ne 2) + (wl1 (ne 3) + (wl1 (ne 4) + (wl1 (ne 5) + (wl1 (ne 6) + 0)))))) ≤ 43
    have a0 : wl1 (ne 0) ≤ 2 := wl1_ne 0 (by decide)
    have a1 : wl1 (ne 1) ≤ 2 := wl1_ne 1 (by decide)
    have a2 : wl1 (ne 2) ≤ 8 := wl1_ne 2 (by decide)
    have a3 : wl1 (ne 3) ≤ 10 := wl1_ne 3 (by decide)
    have a4 : wl1 (ne 4) ≤ 8 := wl1_ne 4 (by decide)
    have a5 : wl1 (ne 5) ≤ 10 := wl1_ne 5 (by decide)
    have a6 : wl1 (ne 6) ≤ 3 := wl1_ne 6 (by decide)
    omega
  omega
theorem bd_le {g b : Nat} (h : ∀ x, (op g 0 x = true ∨ op g 1 x = true) → bd x + 1 ≤ b) : bd g ≤ b := by
  by_cases q : g = 0
  · rw [q, bd_0]; exact Nat.zero_le _
  · obtain ⟨x, h1, h2⟩ := bd_ex q
    rw [h2]
    exact h x h1
def lev (i : Nat) : Nat := [0, 1, 2, 2, 2, 2, 2].getD i 0
theorem bd_ne : ∀ n i, i < n → i < 7 → bd (ne i) ≤ lev i
  | 0, i, h, _ => absurd h (Nat.not_lt_zero _)
  | n + 1, i, h, h7 => by
    have hl : ∀ i : Fin 7, ∀ x : Fin 7, ((nLm i.val).testBit x.val = true ∨ (nRm i.val).testBit x.val = true) → lev x.val + 1 ≤ lev i.val := by decide +kernel
    rw [ne_G i h7]
    refine bd_le (fun x hx => ?_)
    have : ∃ j, j < 7 ∧ ((nLm i).testBit j = true ∨ (nRm i).testBit j = true) ∧ ne j = x := by
      rcases hx with hx | hx
      · obtain ⟨j, a, b, c⟩ := op_nGL.mp hx; exact ⟨j, a, Or.inl b, c⟩
      · obtain ⟨j, a, b, c⟩ := op_nGR.mp hx; exact ⟨j, a, Or.inr b, c⟩
    obtain ⟨j, j7, jb, rfl⟩ := this
    have lt := nm_lt i h7 j j7 jb
    have := bd_ne n j (by omega) j7
    have := hl ⟨i, h7⟩ ⟨j, j7⟩ jb
    have h3 : lev j + 1 ≤ lev i := this
    omega
theorem bd_nG (l r : Nat) : bd (nG l r) ≤ 3 := bd_le (fun x hx => by
  have hl : ∀ i : Fin 7, lev i.val ≤ 2 := by decide +kernel
  have : ∃ j, j < 7 ∧ ne j = x := by
    rcases hx with hx | hx
    · obtain ⟨j, a, b, c⟩ := op_nGL.mp hx; exact ⟨j, a, c⟩
    · obtain ⟨j, a, b, c⟩ := op_nGR.mp hx; exact ⟨j, a, c⟩
  obtain ⟨j, j7, rfl⟩ := this
  have h1 := bd_ne 7 j j7 j7
  have h2 : lev j ≤ 2 := hl ⟨j, j7⟩
  omega)
theorem fol_ne : ∀ n i x, i < n → i < 7 → fol (ne i) x → ∃ j, j < 7 ∧ ne j = x
  | 0, i, _, h, _, _ => absurd h (Nat.not_lt_zero _)
  | n + 1, i, x, h, h7, hf => by
    rcases (fol_def _ x).mp hf with rfl | ⟨y, hy, h3⟩
    · exact ⟨i, h7, rfl⟩
    · rw [ne_G i h7] at hy
      have : ∃ j, j < 7 ∧ ((nLm i).testBit j = true ∨ (nRm i).testBit j = true) ∧ ne j = y := by
        rcases hy with hx | hx
        · obtain ⟨j, a, b, c⟩ := op_nGL.mp hx; exact ⟨j, a, Or.inl b, c⟩
        · obtain ⟨j, a, b, c⟩ := op_nGR.mp hx; exact ⟨j, a, Or.inr b, c⟩
      obtain ⟨j, j7, jb, rfl⟩ := this
      have := nm_lt i h7 j j7 jb
      exact fol_ne n j x (by omega) j7 h3
theorem wid_nG (l r : Nat) : wid (nG l r) ≤ 8 := by
  have := nodup_le (fls (nG l r)) (nG l r :: (List.range 7).map ne) (nodup_fr _ _) (fun x hx => by
    rcases (fol_def _ x).mp (mem_fls.mp hx) with rfl | ⟨y, hy, h3⟩
    · exact List.mem_cons_self ..
    · have : ∃ j, j < 7 ∧ ne j = y := by
        rcases hy with hx | hx
        · obtain ⟨j, a, b, c⟩ := op_nGL.mp hx; exact ⟨j, a, c⟩
        · obtain ⟨j, a, b, c⟩ := op_nGR.mp hx; exact ⟨j, a, c⟩
      obtain ⟨j, j7, rfl⟩ := this
      obtain ⟨k, k7, rfl⟩ := fol_ne 7 j x j7 j7 h3
      exact List.mem_cons_of_mem _ (List.mem_map.mpr ⟨k, List.mem_range.mpr k7, rfl⟩))
  rw [List.length_cons, List.length_map, List.length_range] at this
  exact this
theorem fits_nG (l r : Nat) : fits (nG l r) := by
  have h := nG_le l r
  have h1 := sel_sum l
  have h2 := sel_sum r
  have h3 := wid_nG l r
  exact ⟨by omega, by omega⟩
