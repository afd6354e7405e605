/-! THE TABLE: what it writes of a new game -/
def GR (m : Mem) (g s : Nat) (l r : List Nat) : Prop := mGet m 103 g = (s : Int) ∧ mGet m 104 g = ((s + l.length : Nat) : Int) ∧ mGet m 105 g = ((s + (l ++ r).length : Nat) : Int) ∧ Row m 102 s (l ++ r)
theorem GR.ext {m m' : Mem} {g s : Nat} {l r : List Nat} (h : GR m g s l r) (e : ∀ a i, (a = 102 ∧ i < s + (l ++ r).length) ∨ (103 ≤ a ∧ a ≤ 105 ∧ i = g) → mGet m' a i = mGet m a i) : GR m' g s l r := ⟨(e 103 g (Or.inr ⟨by decide, by decide, rfl⟩)).trans h.1, (e 104 g (Or.inr ⟨by decide, by decide, rfl⟩)).trans h.2.1, (e 105 g (Or.inr ⟨by decide, by decide, rfl⟩)).trans h.2.2.1, h.2.2.2.ext (fun k hk => e 102 (s + k) (Or.inl ⟨rfl, by omega⟩))⟩
theorem app_len (l r : List Nat) : (l ++ r).length = l.length + r.length := List.length_append
theorem hpv_or (K : Nat) : 0 ≤ hpv K ∨ hpv K = -1 := by
  unfold hpv
  by_cases h : K = hc (bd K)
  · rw [if_pos h]; exact Or.inl (by omega)
  · rw [if_neg h]; exact Or.inr rfl
theorem w32_sub {a b : Nat} (h : a < 2147483648) (hb : b ≤ a) : w32 ((a : Int) - (b : Int)) = ((a - b : Nat) : Int) := by
  rw [show (a : Int) - (b : Int) = ((a - b : Nat) : Int) by omega]
  exact w32_nat (by omega)
section RA
variable {n g s : Nat} {l r : List Nat} {m : Mem} {d : Nat → Nat}
theorem birthday_ok (G : GR m g s l r) (hg : g < 16000) (hs : s + (l ++ r).length ≤ 240000) (A : ∀ o, o ∈ l ++ r → o < 16000 ∧ mGet m 106 o = (bd (d o) : Int)) (hb : bd (MK d l r) ≤ 1000) (hn : (l ++ r).length < n) : f_X11_tellsBirthday n (g : Int) m = some (0, mSet m 106 g (bd (MK d l r) : Int)) := by
  obtain ⟨g1, g2, g3, g4⟩ := G
  apply rk_eq
  unfold f_X11_tellsBirthday
  dsimp only [jn]
  rw [ldI_ok (len := 16000) rfl hg, g1]
  refine ok_row2 (s := s) (k := 0) (l ++ r).length (fun k a m' => m' = m ∧ a = mxf (fun o => bd (d o)) ((l ++ r).take k)) (fun w k a m' hk hI hw => ?_) (fun w a m' hI => ?_) n (-1) m (Nat.zero_le _) ⟨rfl, rfl⟩ (by omega)
  · obtain ⟨rfl, rfl⟩ := hI
    obtain ⟨a1, a2⟩ := A _ (List.getElem_mem hk)
    have st : mxf (fun o => bd (d o)) ((l ++ r).take (k + 1)) = if mxf (fun o => bd (d o)) ((l ++ r).take k) < (bd (d (l ++ r)[k]) : Int) then (bd (d (l ++ r)[k]) : Int) else mxf (fun o => bd (d o)) ((l ++ r).take k) := by rw [take_s hk, mxf_app]
    rw [ldI_ok (len := 16000) rfl hg, g3, if_pos (by omega), ldI_ok (len := 240000) rfl (by omega), g4 k hk, ldI_ok (len := 16000) rfl a1, a2, w32_s (by omega)]
    by_cases q : mxf (fun o => bd (d o)) ((l ++ r).take k) < (bd (d (l ++ r)[k]) : Int)
    · rw [if_pos q, ldI_ok (len := 240000) rfl (by omega), g4 k hk, ldI_ok (len := 16000) rfl a1, a2]
      exact hw _ m' ⟨rfl, by rw [st, if_pos q]⟩
    · rw [if_neg q]
      exact hw _ m' ⟨rfl, by rw [st, if_neg q]⟩
  · obtain ⟨rfl, rfl⟩ := hI
    rw [ldI_ok (len := 16000) rfl hg, g3, if_neg (by omega), List.take_length, mxf_bd, w32_nat (by omega), stI_ok (len := 16000) rfl hg]
    exact ok_rt ⟨rfl, rfl⟩
theorem wholeAt_eq (G : GR m g s l r) (hg : g < 16000) (hs : s + (l ++ r).length ≤ 240000) (A : ∀ o, o ∈ l ++ r → o < 16000 ∧ mGet m 107 o = wv (d o) ∧ bd (d o) ≤ 99) (c : can (MK d l r)) (hl : l.Nodup) (hr : r.Nodup) (inj : ∀ x, x ∈ l ++ r → ∀ y, y ∈ l ++ r → d x = d y → x = y) : f_X11_wholeAt n (g : Int) m = some (wv (MK d l r), m) := by
  obtain ⟨g1, g2, g3, g4⟩ := G
  have ln := app_len l r
  apply rk_eq
  unfold f_X11_wholeAt
  dsimp only [jn, nm]
  have z : w32 (((s + (l ++ r).length : Nat) : Int) - (s : Int)) = (((l ++ r).length : Nat) : Int) := by
    rw [w32_sub (by omega) (by omega), Nat.add_sub_cancel_left]
  rw [ldI_ok (len := 16000) rfl hg, ldI_ok (len := 16000) rfl hg, g3, g1, z]
  by_cases q0 : (l ++ r).length = 0
  · have el : l = [] := List.eq_nil_of_length_eq_zero (by omega)
    have er : r = [] := List.eq_nil_of_length_eq_zero (by omega)
    subst el
    subst er
    rw [if_pos (by omega)]
    refine ok_rt ⟨?_, rfl⟩
    rw [wv_R (MK_bareR.mpr rfl)]
    have := mxf_bd d [] []
    have e : mxf (fun o => bd (d o)) ([] ++ []) = -1 := rfl
    omega
  · rw [if_neg (by omega)]
    by_cases q1 : 1 < (l ++ r).length
    · rw [if_pos (by omega)]
      exact ok_rt ⟨(wv_many c hl hr inj (by omega)).symm, rfl⟩
    · have h0 : 0 < (l ++ r).length := by omega
      have r0 := g4 0 h0
      rw [Nat.add_zero] at r0
      obtain ⟨a1, a2, a3⟩ := A _ (List.getElem_mem h0)
      rw [if_neg (by omega), ldI_ok (len := 16000) rfl hg, g1, ldI_ok (len := 240000) rfl (by omega), r0, ldI_ok (len := 16000) rfl a1, a2]
      match l, r, ln, q0, q1, c, inj, h0, r0, a1, a2, a3, g2 with
      | [o], [], _, _, _, c, _, h0, r0, a1, a2, a3, g2 =>
        obtain ⟨w1, w2⟩ := wv_1L c
        show Ok (if wv (d o) = -1000 then _ else _) _
        rw [if_neg (by omega), ldI_ok (len := 16000) rfl hg, g1, ldI_ok (len := 240000) rfl (by omega), r0]
        show Ok (ldI m 107 (o : Int) _) _
        rw [ldI_ok (i := o) (len := 16000) rfl a1, show mGet m 107 o = wv (d o) from a2, ldI_ok (len := 16000) rfl hg, g2, ldI_ok (len := 16000) rfl hg, g1, if_pos (by show (s : Int) < ((s + 1 : Nat) : Int); omega), if_neg (by decide), if_neg (by omega)]
        have b := a3
        have wb : wv (d o) ≤ 99 := by
          unfold wv
          have b : bd (d o) ≤ 99 := a3
          split
          · omega
          · split <;> omega
        rw [w32_id (by omega) (by omega)]
        exact ok_rt ⟨w2.symm, rfl⟩
      | [], [o], _, _, _, c, _, h0, r0, a1, a2, a3, g2 =>
        obtain ⟨w1, w3, w2⟩ := wv_1R c
        have b : bd (d o) ≤ 99 := a3
        show Ok (if wv (d o) = -1000 then _ else _) _
        rw [if_neg (fun q => by have := w3 q; omega), ldI_ok (len := 16000) rfl hg, g1, ldI_ok (len := 240000) rfl (by omega), r0]
        show Ok (ldI m 107 (o : Int) _) _
        have wb : -1000 ≤ wv (d o) := by
          unfold wv
          split
          · omega
          · split <;> omega
        rw [ldI_ok (i := o) (len := 16000) rfl a1, show mGet m 107 o = wv (d o) from a2, ldI_ok (len := 16000) rfl hg, g2, ldI_ok (len := 16000) rfl hg, g1, if_neg (by show ¬ (s : Int) < ((s + 0 : Nat) : Int); omega), if_pos rfl, if_pos rfl, if_neg (by omega), w32_id (by omega) (by omega)]
        exact ok_rt ⟨w2.symm, rfl⟩
      | [], [], ln, q0, _, _, _, _, _, _, _, _, _ => exact absurd rfl q0
      | _ :: _ :: _, _, ln, _, q1, _, _, _, _, _, _, _, _ => exact absurd (by simp) q1
      | [_], _ :: _, ln, _, q1, _, _, _, _, _, _, _, _ => exact absurd (by simp) q1
      | [], _ :: _ :: _, ln, _, q1, _, _, _, _, _, _, _, _ => exact absurd (by simp) q1
theorem heapAt_eq (G : GR m g s l r) (hg : g < 16000) (hs : s + (l ++ r).length ≤ 240000) (A : ∀ o, o ∈ l ++ r → o < 16000 ∧ mGet m 108 o = hpv (d o)) (hl : l.Nodup) (hr : r.Nodup) (inj : ∀ x, x ∈ l ++ r → ∀ y, y ∈ l ++ r → d x = d y → x = y) (hn : (l ++ r).length < n) : f_X11_heapAt n (g : Int) m = some (hpv (MK d l r), m) := by
  obtain ⟨g1, g2, g3, g4⟩ := G
  have ln := app_len l r
  apply rk_eq
  unfold f_X11_heapAt
  have z1 : w32 (((s + l.length : Nat) : Int) - (s : Int)) = (l.length : Int) := by
    rw [w32_sub (by omega) (by omega), Nat.add_sub_cancel_left]
  have z2 : w32 (((s + (l ++ r).length : Nat) : Int) - ((s + l.length : Nat) : Int)) = (r.length : Int) := by
    rw [w32_sub (by omega) (by omega), ln, show s + (l.length + r.length) - (s + l.length) = r.length by omega]
  rw [ldI_ok (len := 16000) rfl hg, ldI_ok (len := 16000) rfl hg, g1, g2, z1]
  refine ok_nm ?_
  rw [ldI_ok (len := 16000) rfl hg, ldI_ok (len := 16000) rfl hg, g2, g3, z2]
  by_cases q : r.length = l.length
  · rw [if_pos (by omega), ldI_ok (len := 16000) rfl hg, g1]
    refine ok_row1 (s := s) (k := 0) (l ++ r).length (fun k m' => m' = m ∧ ∀ o, o ∈ (l ++ r).take k → 0 ≤ hpv (d o) ∧ hpv (d o) < (l.length : Int)) (fun w k m' hk hI hw => ?_) (fun w m' hI => ?_) n m (Nat.zero_le _) ⟨rfl, fun o ho => by cases ho⟩ (by omega)
    · obtain ⟨rfl, hI⟩ := hI
      obtain ⟨a1, a2⟩ := A _ (List.getElem_mem hk)
      have z3 : w32 ((l.length : Int) - 1) = (l.length : Int) - 1 := w32_id (by omega) (by omega)
      rw [ldI_ok (len := 16000) rfl hg, g3, if_pos (by omega), ldI_ok (len := 240000) rfl (by omega), g4 k hk, ldI_ok (len := 16000) rfl a1, a2]
      refine ok_calE in_eq ?_
      rw [z3]
      by_cases q2 : 0 ≤ hpv (d (l ++ r)[k]) ∧ hpv (d (l ++ r)[k]) ≤ (l.length : Int) - 1
      · rw [decide_eq_true q2, if_neg (by decide), w32_s (by omega)]
        refine hw m' ⟨rfl, fun o ho => ?_⟩
        rw [take_s hk] at ho
        rcases List.mem_append.mp ho with ho | ho
        · exact hI o ho
        · rw [List.mem_singleton.mp ho]
          exact ⟨q2.1, by omega⟩
      · rw [decide_eq_false q2, if_pos (show b2i false = 0 from rfl)]
        refine ok_rt ⟨?_, rfl⟩
        rcases hpv_or (MK d l r) with h | h
        · have := (hp_all hl hr inj h).2 _ (List.getElem_mem hk)
          omega
        · exact h.symm
    · obtain ⟨rfl, hI⟩ := hI
      rw [List.take_length] at hI
      rw [ldI_ok (len := 16000) rfl hg, g3, if_neg (by omega)]
      exact ok_rt ⟨(hp_yes hl hr inj q hI).symm, rfl⟩
  · rw [if_neg (by omega)]
    refine ok_rt ⟨?_, rfl⟩
    rcases hpv_or (MK d l r) with h | h
    · exact absurd (hp_all hl hr inj h).1 q
    · exact h.symm
theorem isSmallAt_ok (G : GR m g s l r) (hg : g < 16000) (hs : s + (l ++ r).length ≤ 240000) (A : ∀ o, o ∈ l ++ r → o < 16000 ∧ (mGet m 110 o = 0 ∨ mGet m 110 o = 1)) (hn : (l ++ r).length < n) : Ok (f_X11_isSmallAt n (g : Int) m) (fun v m' => m' = m ∧ (v = 0 ∨ v = 1) ∧ (l = [] → r = [] → v = 1)) := by
  obtain ⟨g1, g2, g3, g4⟩ := G
  have ln := app_len l r
  have loop : ∀ v0 : Int, (v0 = 0 ∨ v0 = 1) → (l = [] → r = [] → v0 = 1) → Ok (lp (F := Int → Int → Mem → Option Rz) (fun _ _ _ => none) (fun w58 v2_58 v3_58 m58 =>
      ldI m58 105 (g : Int) fun x64 =>
      if v3_58 < x64 then (
        if v2_58 = 0 then (
          rtZ v2_58 m58
        ) else
        ldI m58 102 v3_58 fun x81 =>
        ldZ m58 110 x81 fun x82 =>
        w58 x82 (w32 (v3_58 + 1)) m58
      ) else
      rtZ v2_58 m58
    ) n v0 (s : Int) m) (fun v m' => m' = m ∧ (v = 0 ∨ v = 1) ∧ (l = [] → r = [] → v = 1)) := by
    intro v0 h0 h1
    refine ok_row2 (s := s) (k := 0) (l ++ r).length (fun k a m' => m' = m ∧ (a = 0 ∨ a = 1) ∧ (l = [] → r = [] → a = 1)) (fun w k a m' hk hI hw => ?_) (fun w a m' hI => ?_) n v0 m (Nat.zero_le _) ⟨rfl, h0, h1⟩ (by omega)
    · obtain ⟨rfl, hI, hI2⟩ := hI
      obtain ⟨a1, a2⟩ := A _ (List.getElem_mem hk)
      rw [ldI_ok (len := 16000) rfl hg, g3, if_pos (by omega)]
      by_cases q : a = 0
      · rw [if_pos q]
        exact ok_rtZ hI ⟨rfl, hI, hI2⟩
      · rw [if_neg q, ldI_ok (len := 240000) rfl (by omega), g4 k hk, ldZ_ok (len := 16000) rfl a1, w32_s (by omega)]
        refine hw _ m' ⟨rfl, a2, fun e1 e2 => ?_⟩
        subst e1
        subst e2
        exact absurd hk (Nat.not_lt_zero _)
    · obtain ⟨rfl, hI, hI2⟩ := hI
      rw [ldI_ok (len := 16000) rfl hg, g3, if_neg (by omega)]
      exact ok_rtZ hI ⟨rfl, hI, hI2⟩
  unfold f_X11_isSmallAt
  dsimp only [jn]
  have no : ¬ (l = [] ∧ r = []) → (l = [] → r = [] → (0 : Int) = 1) := fun h e1 e2 => absurd ⟨e1, e2⟩ h
  rw [ldI_ok (len := 16000) rfl hg, ldI_ok (len := 16000) rfl hg, g3, g1]
  by_cases q : (l ++ r).length = 0
  · rw [if_pos (by omega), ldI_ok (len := 16000) rfl hg, g1]
    exact loop 1 (Or.inr rfl) (fun _ _ => rfl)
  · have nn : ¬ (l = [] ∧ r = []) := fun ⟨e1, e2⟩ => q (by rw [e1, e2]; rfl)
    rw [if_neg (by omega), ldI_ok (len := 16000) rfl hg, ldI_ok (len := 16000) rfl hg, g1, g2]
    by_cases q1 : 0 < l.length
    · rw [if_pos (by omega), ldI_ok (len := 16000) rfl hg, ldI_ok (len := 16000) rfl hg, g2, g3]
      by_cases q2 : 0 < r.length
      · rw [if_pos (by omega), ldI_ok (len := 16000) rfl hg, g1]
        exact loop 1 (Or.inr rfl) (fun _ _ => rfl)
      · rw [if_neg (by omega), ldI_ok (len := 16000) rfl hg, g1]
        exact loop 0 (Or.inl rfl) (no nn)
    · rw [if_neg (by omega), ldI_ok (len := 16000) rfl hg, g1]
      exact loop 0 (Or.inl rfl) (no nn)
theorem digits_eq {v : Nat} (h : v ≤ 99) : f_X11_digits n (v : Int) m = some ((dg v : Int), m) := by
  unfold f_X11_digits dg
  dsimp only [jn]
  rw [if_neg (by omega)]
  by_cases q : v > 9
  · rw [if_pos (by omega), if_pos q]; rfl
  · rw [if_neg (by omega), if_neg q]; rfl
end RA
