/-! THE TAPE: a game's word read -/
theorem so_len {g w : Nat} (hw : w < 2) : (so g w).length ≤ wid g := by
  unfold so
  rw [sortg_len]
  exact nodup_le _ _ (nodup_opts g w) (fun x hx => mem_fls.mpr (fol_op hw (mem_opts.mp hx) (fol_rf x)))
theorem PS.lt {c p : Nat} {t : Nat → Nat} {st : List Nat} {m : Mem} (S : PS m c t p st) : c ≤ 100 := S.2.1
theorem fail_at {n p : Nat} {m : Mem} : Ok (f_X7_failAt n (p : Int) m) (fun v m' => v = 0 ∧ PF m m' ∧ mGet m' 41 6 = w32 (p : Int)) := by
  unfold f_X7_failAt
  dsimp only [ptF]
  refine ok_rtZ (Or.inl rfl) ⟨rfl, ⟨rfl, fun a i h1 _ => by rw [mGet_mSet, if_neg (fun e => h1 e.1)]⟩, by rw [mGet_mSet, if_pos ⟨rfl, rfl⟩]⟩
set_option maxHeartbeats 1000000 in
theorem unit_ok {n c : Nat} {t : Nat → Nat} (hn : 300 < n) : ∀ (k g : Nat), g ≤ k → bd g ≤ 9 → wid g ≤ 10 → ∀ dd d, d ≤ 5 → 4 * (5 - d) + 1 ≤ dd → UOK n c t dd d g := by
  intro k
  induction k with
  | zero =>
    intro g hg h9 W dd d hd hdd p st m S A hL D
    obtain ⟨e, rfl⟩ : ∃ e, dd = e + 1 := ⟨dd - 1, by omega⟩
    have g0 : g = 0 := by omega
    have b1 : Bare g 1 := by rw [g0]; exact fun x => op_0 1 x
    have ew : wd g = [48 + bd g] := by rw [wd_nn b1, numw_small h9]
    show Ok (b_X7_parseUnit n (t_X7_parseUnit n e).1 (t_X7_parseUnit n e).2.1 (t_X7_parseUnit n e).2.2.1 (t_X7_parseUnit n e).2.2.2 (d : Int) m) _
    unfold b_X7_parseUnit
    dsimp only [jn, gtF, ptF]
    have c100 := S.lt
    rw [ew] at A hL D ⊢
    rw [List.length_singleton] at hL D ⊢
    refine ok_calE (sign_eq S (by omega)) ?_
    rw [A.hd, if_neg (by omega), if_neg (by omega)]
    refine ok_calE isDigit_eq ?_
    rw [decide_eq_true (by omega), if_neg (show ¬ b2i true = 0 by decide)]
    refine ok_cal (number_ok (a := 0) hn S (by omega) A.hd h9 (by decide) D) (fun v m1 h1 => ?_)
    obtain ⟨rfl, S1, F1, k1⟩ := h1
    rw [scanF_cons, if_neg (by omega)]
    refine ok_rtZ (Or.inr rfl) ⟨F1, rfl, ?_, k1⟩
    rw [prog_nn b1]
    rw [Nat.zero_add] at S1
    exact S1
  | succ k ih =>
    intro g hg h9 W dd d hd hdd p st m S A hL D
    obtain ⟨e, rfl⟩ : ∃ e, dd = e + 1 := ⟨dd - 1, by omega⟩
    show Ok (b_X7_parseUnit n (t_X7_parseUnit n e).1 (t_X7_parseUnit n e).2.1 (t_X7_parseUnit n e).2.2.1 (t_X7_parseUnit n e).2.2.2 (d : Int) m) _
    unfold b_X7_parseUnit
    dsimp only [jn, gtF, ptF]
    have c100 := S.lt
    have stp := S.2.2.2.2.2.1
    by_cases b1 : Bare g 1
    · have ew : wd g = [48 + bd g] := by rw [wd_nn b1, numw_small h9]
      rw [ew] at A hL D ⊢
      rw [List.length_singleton] at hL D ⊢
      refine ok_calE (sign_eq S (by omega)) ?_
      rw [A.hd, if_neg (by omega), if_neg (by omega)]
      refine ok_calE isDigit_eq ?_
      rw [decide_eq_true (by omega), if_neg (show ¬ b2i true = 0 by decide)]
      refine ok_cal (number_ok (a := 0) hn S (by omega) A.hd h9 (by decide) D) (fun v m1 h1 => ?_)
      obtain ⟨rfl, S1, F1, k1⟩ := h1
      rw [scanF_cons, if_neg (by omega)]
      refine ok_rtZ (Or.inr rfl) ⟨F1, rfl, ?_, k1⟩
      rw [prog_nn b1]
      rw [Nat.zero_add] at S1
      exact S1
    · by_cases b0 : Bare g 0
      · -- a minus, and a digit
        have ew : wd g = [45, 48 + bd g] := by rw [wd_neg b0 b1, numw_small h9]
        rw [ew] at A hL D ⊢
        rw [show ([45, 48 + bd g] : List Nat).length = 2 from rfl] at hL D ⊢
        refine ok_calE (sign_eq S (by omega)) ?_
        rw [A.hd, if_neg (by decide), if_pos (by decide)]
        by_cases d5 : d = 5
        · rw [if_neg (by omega), S.2.2.2.1]
          refine ok_cal fail_at (fun v m1 h1 => ?_)
          obtain ⟨rfl, F1, k1⟩ := h1
          rw [scanF_cons, if_pos ⟨Or.inr rfl, d5⟩]
          refine ok_rtZ (Or.inl rfl) ⟨F1, rfl, ?_⟩
          rw [k1, w32_nat (by omega)]
          rfl
        · rw [if_pos (by omega), S.2.2.2.1, k_1 (by omega), k_1 (by omega), if_neg (by decide)]
          obtain ⟨S1, F1, k1⟩ := S.adv (by omega)
          obtain ⟨m1, em1⟩ : ∃ m1, m1 = mSet m 41 5 ((p + 1 : Nat) : Int) := ⟨_, rfl⟩
          rw [← em1] at S1 F1 k1 ⊢
          have t1 : t (p + 1) = 48 + bd g := A.tl.hd
          obtain ⟨f, rfl⟩ : ∃ f, e = f + 1 := ⟨e - 1, by omega⟩
          have inner : Ok ((t_X7_parseUnit n (f + 1)).2.2.2 ((d + 1 : Nat) : Int) m1) (fun v m' => v = 1 ∧ PS m' c t (p + 2) (st ++ [16 * bd g]) ∧ PF m1 m' ∧ mGet m' 41 6 = mGet m1 41 6) := by
            show Ok (b_X7_parseUnit n (t_X7_parseUnit n f).1 (t_X7_parseUnit n f).2.1 (t_X7_parseUnit n f).2.2.1 (t_X7_parseUnit n f).2.2.2 ((d + 1 : Nat) : Int) m1) _
            unfold b_X7_parseUnit
            dsimp only [jn, gtF, ptF]
            refine ok_calE (sign_eq S1 (by omega)) ?_
            rw [t1, if_neg (by omega), if_neg (by omega)]
            refine ok_calE isDigit_eq ?_
            rw [decide_eq_true (by omega), if_neg (show ¬ b2i true = 0 by decide)]
            refine ok_cal (number_ok (a := 0) hn S1 (by omega) t1 h9 (by decide) D) (fun v m2 h2 => ?_)
            obtain ⟨rfl, S2, F2, k2⟩ := h2
            rw [Nat.zero_add] at S2
            exact ok_rtZ (Or.inr rfl) ⟨rfl, S2, F2, k2⟩
          refine ok_cal inner (fun v m2 h2 => ?_)
          obtain ⟨rfl, S2, F2, k2⟩ := h2
          rw [if_neg (by decide)]
          refine ok_cal (step_ok (a := 3) (b := 0) (e := 0) S2 (by rw [List.length_append, List.length_singleton]; omega) (by decide) (by decide) (by decide)) (fun v m3 h3 => ?_)
          obtain ⟨rfl, S3, F3, k3⟩ := h3
          rw [if_neg (by decide), scanF_cons, if_neg (fun q => d5 q.2), scanF_cons, if_neg (by omega)]
          refine ok_rtZ (Or.inr rfl) ⟨(F1.tr F2).tr F3, rfl, ?_, k3.trans (k2.trans k1)⟩
          rw [prog_neg b0 b1]
          rw [List.append_assoc] at S3
          exact S3
      · by_cases h : g = hc (bd g)
        · -- a star
          have ew : wd g = 42 :: (if bd g > 1 then [48 + bd g] else []) := by rw [wd_hp b0 b1 h, numw_small h9]
          have pos : 0 < bd g := by
            apply Classical.byContradiction
            intro q
            rw [show bd g = 0 by omega, hc_0] at h
            exact b1 (by rw [h]; exact fun x => op_0 1 x)
          rw [ew] at A hL D ⊢
          have t0 := A.hd
          by_cases q : bd g > 1
          · rw [if_pos q] at A hL D ⊢
            rw [show ([42, 48 + bd g] : List Nat).length = 2 from rfl] at hL D ⊢
            refine ok_calE (sign_eq S (by omega)) ?_
            rw [t0, if_neg (by decide), if_neg (by decide)]
            refine ok_calE isDigit_eq ?_
            rw [decide_eq_false (by decide), if_pos (show b2i false = 0 from rfl), if_neg (by decide), if_pos (by decide), S.2.2.2.1, k_1 (by omega)]
            obtain ⟨S1, F1, k1⟩ := S.adv (by omega)
            have t1 : t (p + 1) = 48 + bd g := A.tl.hd
            refine ok_calE (sign_eq S1 (by omega)) ?_
            refine ok_calE isDigit_eq ?_
            rw [decide_eq_true (by omega), if_neg (show ¬ b2i true = 0 by decide)]
            refine ok_cal (number_ok (a := 1) hn S1 (by omega) t1 h9 (by decide) D) (fun v m2 h2 => ?_)
            obtain ⟨rfl, S2, F2, k2⟩ := h2
            rw [scanF_cons, if_neg (by omega), scanF_cons, if_neg (by omega)]
            refine ok_rtZ (Or.inr rfl) ⟨F1.tr F2, rfl, ?_, k2.trans k1⟩
            rw [prog_hp b0 b1 h]
            exact S2
          · rw [if_neg q] at A hL D ⊢
            rw [show ([42] : List Nat).length = 1 from rfl] at hL D ⊢
            refine ok_calE (sign_eq S (by omega)) ?_
            rw [t0, if_neg (by decide), if_neg (by decide)]
            refine ok_calE isDigit_eq ?_
            rw [decide_eq_false (by decide), if_pos (show b2i false = 0 from rfl), if_neg (by decide), if_pos (by decide), S.2.2.2.1, k_1 (by omega)]
            obtain ⟨S1, F1, k1⟩ := S.adv (by omega)
            obtain ⟨x, e1, e2, _⟩ := D.sign (n := n) S1
            refine ok_calE e1 ?_
            refine ok_calE isDigit_eq ?_
            rw [decide_eq_false e2, if_pos (show b2i false = 0 from rfl)]
            refine ok_cal (step_ok (a := 1) (b := 1) (e := 0) S1 (by omega) (by decide) (by decide) (by decide)) (fun v m2 h2 => ?_)
            obtain ⟨rfl, S2, F2, k2⟩ := h2
            rw [scanF_cons, if_neg (by omega)]
            refine ok_rtZ (Or.inr rfl) ⟨F1.tr F2, rfl, ?_, k2.trans k1⟩
            rw [prog_hp b0 b1 h, show bd g = 1 by omega]
            exact S2
        · -- braces
          have ew := wd_so b0 b1 h
          obtain ⟨R0, eR0⟩ : ∃ r, r = joinw ((so g 0).map wd) ++ 124 :: (joinw ((so g 1).map wd) ++ [125]) := ⟨_, rfl⟩
          rw [← eR0] at ew
          have lR : R0.length = (joinw ((so g 0).map wd)).length + (joinw ((so g 1).map wd)).length + 2 := by
            rw [eR0]; simp only [List.length_append, List.length_cons, List.length_nil]; omega
          rw [ew] at A hL D ⊢
          rw [List.length_cons] at hL D ⊢
          refine ok_calE (sign_eq S (by omega)) ?_
          rw [A.hd, if_pos (by decide)]
          by_cases d5 : d = 5
          · rw [if_neg (by omega), S.2.2.2.1]
            refine ok_cal fail_at (fun v m1 h1 => ?_)
            obtain ⟨rfl, F1, k1⟩ := h1
            rw [scanF_cons, if_pos ⟨Or.inl rfl, d5⟩]
            refine ok_rtZ (Or.inl rfl) ⟨F1, rfl, ?_⟩
            rw [k1, w32_nat (by omega)]
            rfl
          · rw [if_pos (by omega), S.2.2.2.1, k_1 (by omega), k_1 (by omega), if_pos (by decide)]
            obtain ⟨S1, F1, k1⟩ := S.adv (by omega)
            obtain ⟨f, rfl⟩ : ∃ f, e = f + 1 + 2 := ⟨e - 3, by omega⟩
            have all : ∀ w, w < 2 → ∀ x, x ∈ so g w → SOK n c t (f + 1) (d + 1) x ∧ bd x ≤ 9 := by
              intro w hw x hx
              have hx := mem_so.mp hx
              have l1 : x < g := op_lt hx
              have l2 := bd_op hw hx
              have l3 := wid_op hw hx
              exact ⟨sum_of hn (ih x (by omega) (by omega) (by omega) f (d + 1) (by omega) (by omega)), by omega⟩
            have ne : ∀ w, w < 2 → ¬ Bare g w → so g w ≠ [] := fun w hw hb q => hb (fun x => by
              cases e : op g w x
              · rfl
              · have := mem_so.mpr e
                rw [q] at this; cases this)
            have len : ∀ w, w < 2 → (so g w).length ≤ 15 := fun w hw => by have := so_len (g := g) hw; omega
            have A1 := A.tl
            rw [eR0] at A1
            refine ok_cal (rows_of (dd := f + 1) (d := d + 1) hn (ne 0 (by decide) b0) (ne 1 (by decide) b1) (len 0 (by decide)) (len 1 (by decide)) (all 0 (by decide)) (all 1 (by decide)) S1 (by omega) A1 (by omega)) (fun v m2 h2 => ?_)
            obtain ⟨F2, r2⟩ := h2
            rw [← eR0, ← lR] at r2
            rw [scanF_cons, if_neg (fun q => d5 q.2), if_pos rfl]
            cases e2 : scanF (d + 1) R0 with
            | some j =>
              rw [e2] at r2
              obtain ⟨rfl, r3⟩ := r2
              refine ok_rtZ (Or.inl rfl) ⟨F1.tr F2, rfl, ?_⟩
              rw [r3]
              show ((p + 1 + j : Nat) : Int) = ((p + (j + 1) : Nat) : Int)
              omega
            | none =>
              rw [e2] at r2
              obtain ⟨rfl, S2, k2⟩ := r2
              refine ok_rtZ (Or.inr rfl) ⟨F1.tr F2, rfl, ?_, k2.trans k1⟩
              rw [prog_br b0 b1 h]
              rw [show p + 1 + R0.length = p + (R0.length + 1) by omega] at S2
              exact S2
