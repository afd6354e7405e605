/-! THE LAW: what its counts over a text are -/
def fI (o : Option Nat) : Int := match o with
  | none => -1
  | some k => (k : Int)
theorem scanI_lt : ∀ (w : List Nat) (d : Int) (i : Nat), scanI d w = some i → i < w.length
  | [], d, i, h => by cases h
  | c :: w, d, i, h => by
    rw [scanI_cons] at h
    by_cases q : (c = 123 ∨ c = 45) ∧ d = 5
    · rw [if_pos q] at h
      injection h with h
      rw [← h]
      exact Nat.succ_pos _
    · rw [if_neg q] at h
      cases e : scanI (stepI d c) w with
      | none => rw [e] at h; cases h
      | some j =>
        rw [e] at h
        have h : some (j + 1) = some i := h
        injection h with h
        have := scanI_lt w _ j e
        rw [← h]
        exact Nat.succ_lt_succ this
theorem stepI_bd (d : Int) (c : Nat) : (stepI d c - d).natAbs ≤ 1 := by
  unfold stepI
  by_cases h : c = 123
  · rw [if_pos h]; omega
  · rw [if_neg h]
    by_cases h2 : c = 125
    · rw [if_pos h2]; omega
    · rw [if_neg h2]; omega
theorem depI_bd : ∀ (w : List Nat) (d : Int), (depI d w - d).natAbs ≤ w.length
  | [], d => by show (d - d).natAbs ≤ 0; omega
  | c :: w, d => by
    have h1 := depI_bd w (stepI d c)
    have h2 := stepI_bd d c
    show (depI (stepI d c) w - d).natAbs ≤ w.length + 1
    omega
theorem take_k1 {w : List Nat} {k : Nat} (hk : k < w.length) : w.take (k + 1) = w.take k ++ [w.getD k 0] := by
  rw [List.take_succ, List.getElem?_eq_getElem hk]
  show w.take k ++ [w[k]] = _
  rw [List.getD_eq_getElem?_getD, List.getElem?_eq_getElem hk]
  rfl
theorem dep_step {w : List Nat} {k : Nat} (hk : k < w.length) : depI 0 (w.take (k + 1)) = stepI (depI 0 (w.take k)) (w.getD k 0) := by
  rw [take_k1 hk, depI_app]
  rfl
theorem fI_bd {w : List Nat} {k : Nat} (hk : k ≤ w.length) : -1 ≤ fI (scanI 0 (w.take k)) ∧ fI (scanI 0 (w.take k)) ≤ (k : Int) := by
  cases e : scanI 0 (w.take k) with
  | none => exact ⟨by show (-1 : Int) ≤ -1; omega, by show (-1 : Int) ≤ _; omega⟩
  | some i =>
    have h := scanI_lt _ _ _ e
    rw [List.length_take] at h
    exact ⟨by show (-1 : Int) ≤ (i : Int); omega, by show (i : Int) ≤ _; omega⟩
theorem scan_step {w : List Nat} {k : Nat} (hk : k < w.length) : fI (scanI 0 (w.take (k + 1))) = if ((w.getD k 0 = 123 ∨ w.getD k 0 = 45) ∧ depI 0 (w.take k) = 5) ∧ fI (scanI 0 (w.take k)) < 0 then (k : Int) else fI (scanI 0 (w.take k)) := by
  rw [take_k1 hk, scanI_app]
  cases e : scanI 0 (w.take k) with
  | some i =>
    rw [if_neg (fun q => by have h : (i : Int) < 0 := q.2; omega)]
  | none =>
    show fI ((scanI (depI 0 (w.take k)) [w.getD k 0]).map (· + (w.take k).length)) = _
    rw [scanI_cons]
    by_cases q : (w.getD k 0 = 123 ∨ w.getD k 0 = 45) ∧ depI 0 (w.take k) = 5
    · rw [if_pos q, if_pos ⟨q, by show (-1 : Int) < 0; omega⟩]
      show ((0 + (w.take k).length : Nat) : Int) = _
      rw [List.length_take]
      omega
    · rw [if_neg q, if_neg (fun h => q h.1)]
      rfl
theorem join_128 : ∀ {l : List (List Nat)}, (∀ w, w ∈ l → ∀ c, c ∈ w → c < 128) → ∀ c, c ∈ joinw l → c < 128
  | [], _, c, h => by cases h
  | [a], h, c, hc => h a (List.mem_singleton.mpr rfl) c hc
  | a :: b :: l, h, c, hc => by
    rw [join_cons2] at hc
    rcases List.mem_append.mp hc with q | q
    · exact h a (List.mem_cons_self ..) c q
    · rcases List.mem_cons.mp q with rfl | q
      · decide
      · exact join_128 (fun w hw => h w (List.mem_cons_of_mem _ hw)) c q
theorem wd_128 : ∀ (n g : Nat), g ≤ n → bd g ≤ 9 → ∀ c, c ∈ wd g → c < 128
  | n, g, hn, h9, c, m => by
    by_cases b1 : Bare g 1
    · rw [wd_nn b1, numw_small h9] at m
      have := List.mem_singleton.mp m
      omega
    · by_cases b0 : Bare g 0
      · rw [wd_neg b0 b1, numw_small h9] at m
        rcases List.mem_cons.mp m with rfl | m
        · decide
        · have := List.mem_singleton.mp m
          omega
      · by_cases h : g = hc (bd g)
        · rw [wd_hp b0 b1 h, numw_small h9] at m
          rcases List.mem_cons.mp m with rfl | m
          · decide
          · by_cases q : bd g > 1
            · rw [if_pos q] at m
              have := List.mem_singleton.mp m
              omega
            · rw [if_neg q] at m
              cases m
        · have ih : ∀ w, w < 2 → ∀ x, x ∈ (so g w).map wd → ∀ c, c ∈ x → c < 128 := by
            intro w hw x hx
            obtain ⟨y, hy, rfl⟩ := List.mem_map.mp hx
            have hy := mem_so.mp hy
            have lt : y < g := op_lt hy
            have := bd_op hw hy
            obtain ⟨k, rfl⟩ : ∃ k, n = k + 1 := ⟨n - 1, by omega⟩
            exact wd_128 k y (by omega) (by omega)
          rw [wd_so b0 b1 h] at m
          rcases List.mem_cons.mp m with rfl | m
          · decide
          · rcases List.mem_append.mp m with m | m
            · exact join_128 (ih 0 (by decide)) c m
            · rcases List.mem_cons.mp m with rfl | m
              · decide
              · rcases List.mem_append.mp m with m | m
                · exact join_128 (ih 1 (by decide)) c m
                · have := List.mem_singleton.mp m
                  omega
theorem getD_128 {g : Nat} (h9 : bd g ≤ 9) (k : Nat) : (wd g).getD k 0 < 128 := by
  rw [List.getD_eq_getElem?_getD]
  cases e : (wd g)[k]? with
  | none => show 0 < 128; decide
  | some c => exact wd_128 g g (Nat.le_refl _) h9 c (List.mem_of_getElem? e)
