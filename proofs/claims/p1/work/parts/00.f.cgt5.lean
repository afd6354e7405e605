/-! WORDS TELL GAMES APART -/
theorem insw_map (a : Nat) : ∀ l : List Nat, ∃ ls : List Nat, insw (wd a) (l.map wd) = ls.map wd ∧ ls.Perm (a :: l)
  | [] => ⟨[a], rfl, List.Perm.refl _⟩
  | b :: l => by
    obtain ⟨ls, h1, h2⟩ := insw_map a l
    show ∃ ls : List Nat, (if wlt (wd a) (wd b) then wd a :: wd b :: l.map wd else wd b :: insw (wd a) (l.map wd)) = ls.map wd ∧ _
    by_cases h : wlt (wd a) (wd b) = true
    · rw [if_pos h]; exact ⟨a :: b :: l, rfl, List.Perm.refl _⟩
    · rw [if_neg h]
      refine ⟨b :: ls, ?_, (List.Perm.cons b h2).trans (List.Perm.swap a b l)⟩
      rw [h1]; rfl
theorem sortw_map : ∀ l : List Nat, ∃ ls : List Nat, sortw (l.map wd) = ls.map wd ∧ ls.Perm l
  | [] => ⟨[], rfl, List.Perm.refl _⟩
  | a :: l => by
    obtain ⟨ls, h1, h2⟩ := sortw_map l
    obtain ⟨l3, h3, h4⟩ := insw_map a ls
    exact ⟨l3, by show insw (wd a) (sortw (l.map wd)) = _; rw [h1, h3], h4.trans (List.Perm.cons a h2)⟩
theorem bare_0 (w : Nat) : Bare 0 w := fun x => op_0 w x
theorem bd_pos {g : Nat} (h : ¬ Bare g 0) : 0 < bd g := by
  apply Nat.pos_of_ne_zero
  intro e
  apply h
  intro x
  cases q : op g 0 x
  · rfl
  · have := bd_op (by decide) q; omega
theorem wd_kind {g : Nat} (hc0 : can g) (h9 : bd g ≤ 9) : (g = pc (bd g) ∧ wd g = [48 + bd g]) ∨ (¬ Bare g 1 ∧ g = nc (bd g) ∧ wd g = [45, 48 + bd g]) ∨ (g = hc (bd g) ∧ 0 < bd g ∧ wd g = 42 :: (if bd g > 1 then [48 + bd g] else [])) ∨ (¬ Bare g 0 ∧ ¬ Bare g 1 ∧ wd g = 123 :: (joinw (sortw ((opts g 0).map wd)) ++ 124 :: (joinw (sortw ((opts g 1).map wd)) ++ [125]))) := by
  by_cases h1 : Bare g 1
  · obtain ⟨n, e⟩ := bareR_pc hc0 h1
    refine Or.inl ⟨?_, by rw [wd_nn h1, numw_small h9]⟩
    rw [e, bd_pc]
  · by_cases h0 : Bare g 0
    · obtain ⟨n, e⟩ := bareL_nc hc0 h0
      refine Or.inr (Or.inl ⟨h1, ?_, by rw [wd_neg h0 h1, numw_small h9]⟩)
      rw [e, bd_nc]
    · by_cases hh : g = hc (bd g)
      · refine Or.inr (Or.inr (Or.inl ⟨hh, bd_pos h0, ?_⟩))
        rw [wd_hp h0 h1 hh, numw_small h9]
      · exact Or.inr (Or.inr (Or.inr ⟨h0, h1, wd_br h0 h1 hh⟩))
theorem joinw_cons (a b : Nat) (l : List Nat) : joinw ((a :: b :: l).map wd) = wd a ++ 44 :: joinw ((b :: l).map wd) := rfl
/-- lists of options, told with commas, up to a bar or a brace -/
theorem list_apart {n c : Nat} (hcc : c = 124 ∨ c = 125) (UP : ∀ g h s t, g ≤ n → can g → can h → bd g ≤ 9 → bd h ≤ 9 → wd g ++ s = wd h ++ t → Dl s → Dl t → g = h ∧ s = t) : ∀ (l l2 s t : List Nat), (∀ x, x ∈ l → x ≤ n ∧ can x ∧ bd x ≤ 9) → (∀ x, x ∈ l2 → can x ∧ bd x ≤ 9) → l ≠ [] → l2 ≠ [] → joinw (l.map wd) ++ c :: s = joinw (l2.map wd) ++ c :: t → l = l2 ∧ s = t
  | [], _, _, _, _, _, h, _, _ => absurd rfl h
  | _ :: _, [], _, _, _, _, _, h, _ => absurd rfl h
  | [a], [b], s, t, h1, h2, _, _, he => by
    obtain ⟨p1, p2, p3⟩ := h1 a List.mem_cons_self
    obtain ⟨q2, q3⟩ := h2 b List.mem_cons_self
    obtain ⟨e1, e2⟩ := UP a b (c :: s) (c :: t) p1 p2 q2 p3 q3 he (Or.inr hcc) (Or.inr hcc)
    exact ⟨by rw [e1], (List.cons.inj e2).2⟩
  | [a], b :: b2 :: l2, s, t, h1, h2, _, _, he => by
    obtain ⟨p1, p2, p3⟩ := h1 a List.mem_cons_self
    obtain ⟨q2, q3⟩ := h2 b List.mem_cons_self
    rw [joinw_cons, List.append_assoc] at he
    obtain ⟨e1, e2⟩ := UP a b (c :: s) _ p1 p2 q2 p3 q3 he (Or.inr hcc) (Or.inl rfl)
    have := (List.cons.inj e2).1
    omega
  | a :: a2 :: l, [b], s, t, h1, h2, _, _, he => by
    obtain ⟨p1, p2, p3⟩ := h1 a List.mem_cons_self
    obtain ⟨q2, q3⟩ := h2 b List.mem_cons_self
    rw [joinw_cons, List.append_assoc] at he
    obtain ⟨e1, e2⟩ := UP a b _ (c :: t) p1 p2 q2 p3 q3 he (Or.inl rfl) (Or.inr hcc)
    have := (List.cons.inj e2).1
    omega
  | a :: a2 :: l, b :: b2 :: l2, s, t, h1, h2, _, _, he => by
    obtain ⟨p1, p2, p3⟩ := h1 a List.mem_cons_self
    obtain ⟨q2, q3⟩ := h2 b List.mem_cons_self
    rw [joinw_cons, joinw_cons, List.append_assoc, List.append_assoc] at he
    obtain ⟨e1, e2⟩ := UP a b _ _ p1 p2 q2 p3 q3 he (Or.inl rfl) (Or.inl rfl)
    have e3 := (List.cons.inj e2).2
    obtain ⟨e4, e5⟩ := list_apart hcc UP (a2 :: l) (b2 :: l2) s t (fun x hx => h1 x (List.mem_cons_of_mem _ hx)) (fun x hx => h2 x (List.mem_cons_of_mem _ hx)) (fun q => by cases q) (fun q => by cases q) e3
    exact ⟨by rw [e1, e4], e5⟩
theorem wd_apart_aux : ∀ (n g h : Nat) (s t : List Nat), g ≤ n → can g → can h → bd g ≤ 9 → bd h ≤ 9 → wd g ++ s = wd h ++ t → Dl s → Dl t → g = h ∧ s = t := by
  intro n
  induction n using Nat.strongRecOn with
  | _ n ih =>
    intro g h s t hgn cg ch bg bh he ds dt
    rcases wd_kind cg bg with ⟨g1, g2⟩ | ⟨g0, g1, g2⟩ | ⟨g1, g0, g2⟩ | ⟨g0, g1, g2⟩ <;> rcases wd_kind ch bh with ⟨k1, k2⟩ | ⟨k0, k1, k2⟩ | ⟨k1, k0, k2⟩ | ⟨k0, k1, k2⟩ <;> rw [g2, k2] at he
    · have e1 := List.cons.inj he
      have e2 : bd g = bd h := by have := e1.1; omega
      exact ⟨by rw [g1, k1, e2], e1.2⟩
    · have := (List.cons.inj he).1; omega
    · have := (List.cons.inj he).1; omega
    · have := (List.cons.inj he).1; omega
    · have := (List.cons.inj he).1; omega
    · have e1 := List.cons.inj (List.cons.inj he).2
      have e2 : bd g = bd h := by have := e1.1; omega
      exact ⟨by rw [g1, k1, e2], e1.2⟩
    · have := (List.cons.inj he).1; omega
    · have := (List.cons.inj he).1; omega
    · have := (List.cons.inj he).1; omega
    · have := (List.cons.inj he).1; omega
    · have e1 := (List.cons.inj he).2
      have dl : ∀ (v : Nat) (l r : List Nat), v ≤ 9 → Dl l → l = (48 + v) :: r → False := by
        intro v l r hv hd hl
        rw [hl] at hd
        rcases hd with h | h | h <;> omega
      by_cases q1 : bd g > 1 <;> by_cases q2 : bd h > 1
      · rw [if_pos q1, if_pos q2] at e1
        have e3 := List.cons.inj e1
        have e2 : bd g = bd h := by have := e3.1; omega
        exact ⟨by rw [g1, k1, e2], e3.2⟩
      · rw [if_pos q1, if_neg q2] at e1
        exact (dl _ _ _ bg dt e1.symm).elim
      · rw [if_neg q1, if_pos q2] at e1
        exact (dl _ _ _ bh ds e1).elim
      · rw [if_neg q1, if_neg q2] at e1
        have e2 : bd g = bd h := by omega
        exact ⟨by rw [g1, k1, e2], e1⟩
    · have := (List.cons.inj he).1; omega
    · have := (List.cons.inj he).1; omega
    · have := (List.cons.inj he).1; omega
    · have := (List.cons.inj he).1; omega
    · have e1 : (joinw (sortw ((opts g 0).map wd)) ++ 124 :: (joinw (sortw ((opts g 1).map wd)) ++ [125])) ++ s = (joinw (sortw ((opts h 0).map wd)) ++ 124 :: (joinw (sortw ((opts h 1).map wd)) ++ [125])) ++ t := (List.cons.inj he).2
      obtain ⟨l0, l1, l2⟩ := sortw_map (opts g 0)
      obtain ⟨m0, m1, m2⟩ := sortw_map (opts h 0)
      obtain ⟨r0, r1, r2⟩ := sortw_map (opts g 1)
      obtain ⟨q0, q1, q2⟩ := sortw_map (opts h 1)
      rw [l1, m1, r1, q1, List.append_assoc, List.append_assoc, List.cons_append, List.cons_append, List.append_assoc, List.append_assoc] at e1
      have hpos : 0 < g := by
        apply Nat.pos_of_ne_zero
        intro e
        rw [e] at g0
        exact g0 (bare_0 0)
      have UP : ∀ x y s t, x ≤ g - 1 → can x → can y → bd x ≤ 9 → bd y ≤ 9 → wd x ++ s = wd y ++ t → Dl s → Dl t → x = y ∧ s = t := fun x y s t hx => ih (g - 1) (by omega) x y s t hx
      have inG : ∀ w x, w < 2 → op g w x = true → x ≤ g - 1 ∧ can x ∧ bd x ≤ 9 := fun w x hw hx => ⟨by have := op_lt hx; omega, cg.op hx hw, by have := bd_op hw hx; omega⟩
      have inH : ∀ w x, w < 2 → op h w x = true → can x ∧ bd x ≤ 9 := fun w x hw hx => ⟨ch.op hx hw, by have := bd_op hw hx; omega⟩
      have ne : ∀ (k w : Nat) (l : List Nat), ¬ Bare k w → l.Perm (opts k w) → l ≠ [] := by
        intro k w l hb hp hl
        apply hb
        intro x
        cases e : op k w x
        · rfl
        · have := hp.mem_iff.mpr (mem_opts.mpr e)
          rw [hl] at this; cases this
      obtain ⟨e2, e3⟩ := list_apart (Or.inl rfl) UP l0 m0 _ _ (fun x hx => inG 0 x (by decide) (mem_opts.mp (l2.mem_iff.mp hx))) (fun x hx => inH 0 x (by decide) (mem_opts.mp (m2.mem_iff.mp hx))) (ne g 0 l0 g0 l2) (ne h 0 m0 k0 m2) e1
      have e3' : joinw (r0.map wd) ++ 125 :: s = joinw (q0.map wd) ++ 125 :: t := e3
      obtain ⟨e4, e5⟩ := list_apart (Or.inr rfl) UP r0 q0 _ _ (fun x hx => inG 1 x (by decide) (mem_opts.mp (r2.mem_iff.mp hx))) (fun x hx => inH 1 x (by decide) (mem_opts.mp (q2.mem_iff.mp hx))) (ne g 1 r0 g1 r2) (ne h 1 q0 k1 q2) e3'
      refine ⟨op_ext (fun w hw x => Bool.eq_iff_iff.mpr ?_), e5⟩
      rcases (by omega : w = 0 ∨ w = 1) with rfl | rfl
      · rw [← mem_opts, ← mem_opts, ← l2.mem_iff, ← m2.mem_iff, e2]
      · rw [← mem_opts, ← mem_opts, ← r2.mem_iff, ← q2.mem_iff, e4]
theorem wd_inj {g h : Nat} (cg : can g) (ch : can h) (bg : bd g ≤ 9) (bh : bd h ≤ 9) (e : wd g = wd h) : g = h := (wd_apart_aux g g h [] [] (Nat.le_refl _) cg ch bg bh (by rw [e]) trivial trivial).1
