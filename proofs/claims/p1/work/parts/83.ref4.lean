/-! THE TABLE: how long words are; a new game -/
theorem bd_posR {g : Nat} (h : ¬ Bare g 1) : 0 < bd g := by
  apply Classical.byContradiction
  intro q
  apply h
  intro x
  cases e : op g 1 x
  · rfl
  · have := bd_op (by decide : 1 < 2) e
    omega
theorem bl_bd (K : Nat) : 0 ≤ bl K ∧ bl K ≤ 100000 := by
  unfold bl
  have := Nat.min_le_right (wd K).length 100000
  exact ⟨by omega, by omega⟩
theorem bsum_bd (d : Nat → Nat) : ∀ L : List Nat, 0 ≤ (L.map (fun o => bl (d o))).sum ∧ (L.map (fun o => bl (d o))).sum ≤ 100000 * (L.length : Int)
  | [] => ⟨by simp, by simp⟩
  | a :: L => by
    have ih := bsum_bd d L
    have b := bl_bd (d a)
    rw [List.map_cons, List.sum_cons, List.length_cons]
    exact ⟨by omega, by omega⟩
theorem bsum_cap (d : Nat → Nat) : ∀ L : List Nat, (L.map (fun o => bl (d o))).sum + (L.length : Int) ≤ (((L.map (fun o => (wd (d o)).length + 1)).sum : Nat) : Int) ∧ ((L.map (fun o => bl (d o))).sum + (L.length : Int) = (((L.map (fun o => (wd (d o)).length + 1)).sum : Nat) : Int) ∨ 100000 < (L.map (fun o => bl (d o))).sum + (L.length : Int))
  | [] => ⟨by simp, Or.inl rfl⟩
  | a :: L => by
    have ih := bsum_cap d L
    have b := bsum_bd d L
    rw [List.map_cons, List.sum_cons, List.map_cons, List.sum_cons, List.length_cons]
    have e : bl (d a) = ((min (wd (d a)).length 100000 : Nat) : Int) := rfl
    obtain ⟨h1, h2⟩ := ih
    by_cases q : (wd (d a)).length ≤ 100000
    · rw [Nat.min_eq_left q] at e
      refine ⟨by omega, ?_⟩
      rcases h2 with h2 | h2
      · exact Or.inl (by omega)
      · exact Or.inr (by omega)
    · rw [Nat.min_eq_right (by omega)] at e
      exact ⟨by omega, Or.inr (by omega)⟩
def cm (a k : Nat) : Int := if k = 0 then 0 else if k ≤ a then (k : Int) - 1 else (k : Int) - 2
theorem cm_s {a k : Nat} (ha : 0 < a) : cm a (k + 1) = cm a k + if 0 < k ∧ k ≠ a then 1 else 0 := by
  unfold cm
  rw [if_neg (by omega)]
  by_cases h0 : k = 0
  · rw [if_pos (by omega), if_pos h0, if_neg (by omega)]
    omega
  · rw [if_neg h0]
    by_cases h1 : k + 1 ≤ a
    · rw [if_pos h1, if_pos (by omega), if_pos ⟨by omega, by omega⟩]; omega
    · rw [if_neg h1]
      by_cases h2 : k ≤ a
      · rw [if_pos h2, if_neg (by omega)]; omega
      · rw [if_neg h2, if_pos ⟨by omega, by omega⟩]; omega
section RB
variable {n g s : Nat} {l r : List Nat} {m : Mem} {d : Nat → Nat}
theorem bytesAt_eq (G : GR m g s l r) (hg : g < 16000) (hs : s + (l ++ r).length ≤ 240000) (A : ∀ o, o ∈ l ++ r → o < 16000 ∧ mGet m 109 o = bl (d o)) (hw : mGet m 107 g = wv (MK d l r)) (hh : mGet m 108 g = hpv (MK d l r)) (hb : bd (MK d l r) ≤ 99) (hl : l.Nodup) (hr : r.Nodup) (inj : ∀ x, x ∈ l ++ r → ∀ y, y ∈ l ++ r → d x = d y → x = y) (hL : (l ++ r).length ≤ 2000) (hn : (l ++ r).length < n) : f_X11_bytesAt n (g : Int) m = some (bl (MK d l r), m) := by
  obtain ⟨g1, g2, g3, g4⟩ := G
  have ln := app_len l r
  apply rk_eq
  unfold f_X11_bytesAt
  dsimp only [jn, nm]
  rw [ldI_ok (len := 16000) rfl hg, hw]
  by_cases b1 : Bare (MK d l r) 1
  · have e := wv_R b1
    rw [if_neg (by omega), ldI_ok (len := 16000) rfl hg, hw, e, if_neg (by omega), ldI_ok (len := 16000) rfl hg, hw, e]
    refine ok_calE (digits_eq hb) (ok_rt ⟨(bl_R b1 hb).symm, rfl⟩)
  · by_cases b0 : Bare (MK d l r) 0
    · have e := wv_L b0 b1
      have p := bd_posR b1
      rw [if_neg (by omega), ldI_ok (len := 16000) rfl hg, hw, e, if_pos (by omega), ldI_ok (len := 16000) rfl hg, hw, e, show -(-(bd (MK d l r) : Int)) = (bd (MK d l r) : Int) by omega, w32_nat (by omega)]
      refine ok_calE (digits_eq hb) ?_
      have dd : dg (bd (MK d l r)) ≤ 2 := by unfold dg; split <;> omega
      rw [w32_id (by omega) (by omega)]
      exact ok_rt ⟨(bl_L b0 b1 hb).symm, rfl⟩
    · rw [if_pos (wv_N b0 b1), ldI_ok (len := 16000) rfl hg, hh]
      by_cases k : MK d l r = hc (bd (MK d l r))
      · have e : hpv (MK d l r) = (bd (MK d l r) : Int) := by unfold hpv; rw [if_pos k]
        have p := bd_pos b0
        have bb := bl_H b0 b1 k hb
        rw [if_pos (by omega), ldI_ok (len := 16000) rfl hg, hh, e]
        by_cases q : bd (MK d l r) = 1
        · rw [if_pos (by omega)]
          rw [if_pos q] at bb
          exact ok_rt ⟨bb.symm, rfl⟩
        · rw [if_neg (by omega), ldI_ok (len := 16000) rfl hg, hh, e]
          refine ok_calE (digits_eq hb) ?_
          have dd : dg (bd (MK d l r)) ≤ 2 := by unfold dg; split <;> omega
          rw [if_neg q] at bb
          rw [w32_id (by omega) (by omega)]
          exact ok_rt ⟨bb.symm, rfl⟩
      · have e : hpv (MK d l r) = -1 := by unfold hpv; rw [if_neg k]
        have nl : l ≠ [] := fun q => b0 (MK_bareL.mpr q)
        have nr : r ≠ [] := fun q => b1 (MK_bareR.mpr q)
        have lp' : 0 < l.length := List.length_pos_iff.mpr nl
        have rp' : 0 < r.length := List.length_pos_iff.mpr nr
        rw [if_neg (by omega), ldI_ok (len := 16000) rfl hg, g1]
        refine ok_row2 (s := s) (k := 0) (l ++ r).length (fun k a m' => m' = m ∧ a = 3 + (((l ++ r).take k).map (fun o => bl (d o))).sum + cm l.length k) (fun w k a m' hk hI hw2 => ?_) (fun w a m' hI => ?_) n 3 m (Nat.zero_le _) ⟨rfl, rfl⟩ (by omega)
        · obtain ⟨rfl, rfl⟩ := hI
          obtain ⟨a1, a2⟩ := A _ (List.getElem_mem hk)
          have bs := bsum_bd d ((l ++ r).take k)
          rw [List.length_take, Nat.min_eq_left (by omega)] at bs
          have bb := bl_bd (d (l ++ r)[k])
          have cs := cm_s (k := k) lp'
          have cb : 0 ≤ cm l.length k ∧ cm l.length k ≤ (k : Int) := by
            unfold cm
            split
            · exact ⟨by omega, by omega⟩
            · split
              · exact ⟨by omega, by omega⟩
              · exact ⟨by omega, by omega⟩
          have st : (((l ++ r).take (k + 1)).map (fun o => bl (d o))).sum = (((l ++ r).take k).map (fun o => bl (d o))).sum + bl (d (l ++ r)[k]) := by
            rw [take_s hk, List.map_append, List.map_cons, List.map_nil, sum_app]
          rw [ldI_ok (len := 16000) rfl hg, g3, if_pos (by omega), ldI_ok (len := 240000) rfl (by omega), g4 k hk, ldI_ok (len := 16000) rfl a1, a2, ldI_ok (len := 16000) rfl hg, g1, w32_s (by omega)]
          have fin : ∀ c : Int, (c = if 0 < k ∧ k ≠ l.length then 1 else 0) → Ok (w (w32 ((3 + (((l ++ r).take k).map (fun o => bl (d o))).sum + cm l.length k) + (w32 (bl (d (l ++ r)[k]) + c)))) ((s + (k + 1) : Nat) : Int) m') (fun v' m'' => v' = bl (MK d l r) ∧ m'' = m') := by
            intro c hc
            have c01 : c = 0 ∨ c = 1 := by rw [hc]; split; exact Or.inr rfl; exact Or.inl rfl
            rw [w32_id (x := bl (d (l ++ r)[k]) + c) (by omega) (by omega), w32_id (by omega) (by omega)]
            refine hw2 _ m' ⟨rfl, ?_⟩
            rw [st, cs, ← hc]
            omega
          by_cases q1 : (s : Int) < ((s + k : Nat) : Int)
          · rw [if_pos q1, ldI_ok (len := 16000) rfl hg, g2]
            by_cases q2 : ((s + k : Nat) : Int) = ((s + l.length : Nat) : Int)
            · rw [if_pos q2]
              exact fin 0 (by rw [if_neg (by omega)])
            · rw [if_neg q2]
              exact fin 1 (by rw [if_pos ⟨by omega, by omega⟩])
          · rw [if_neg q1]
            exact fin 0 (by rw [if_neg (by omega)])
        · obtain ⟨rfl, rfl⟩ := hI
          rw [ldI_ok (len := 16000) rfl hg, g3, if_neg (by omega), List.take_length]
          have wl := wl_B hl hr inj nl nr k
          obtain ⟨c1, c2⟩ := bsum_cap d (l ++ r)
          have ce : cm l.length (l ++ r).length = ((l ++ r).length : Int) - 2 := by
            unfold cm
            rw [if_neg (by omega), if_neg (by omega)]
          have be : bl (MK d l r) = ((min (wd (MK d l r)).length 100000 : Nat) : Int) := rfl
          rw [wl] at be
          rw [ce]
          by_cases q : 100000 < 3 + ((l ++ r).map (fun o => bl (d o))).sum + (((l ++ r).length : Int) - 2)
          · rw [if_pos q]
            rw [Nat.min_eq_right (by omega)] at be
            exact ok_rt ⟨be.symm, rfl⟩
          · rw [if_neg q]
            rw [Nat.min_eq_left (by omega)] at be
            refine ok_rt ⟨?_, rfl⟩
            rw [be]
            omega
end RB
