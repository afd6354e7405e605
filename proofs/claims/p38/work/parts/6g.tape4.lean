/-! THE TAPE: rows and braces read -/
theorem join1 (a : List Nat) : joinw [a] = a := rfl
theorem scan_join {d : Nat} {a : List Nat} {r : List Nat} (ha : dep d a = d) : scanF d (a ++ 44 :: r) = match scanF d a with
    | some k => some k
    | none => (scanF d r).map (· + (1 + a.length)) := by
  rw [scanF_app, ha]
  cases scanF d a with
  | some k => rfl
  | none =>
    show Option.map (· + a.length) (scanF d (44 :: r)) = _
    rw [scanF_cons, if_neg (by omega), if_neg (by decide), if_neg (by decide)]
    cases scanF d r with
    | none => rfl
    | some k =>
      show some (k + 1 + a.length) = some (k + (1 + a.length))
      rw [show k + 1 + a.length = k + (1 + a.length) by omega]
theorem row_loop {n c dd d cl : Nat} {t : Nat → Nat} (hn : 300 < n) (hcl : cl = 124 ∨ cl = 125) : ∀ (ls : List Nat), ls ≠ [] → ∀ (fuel i p : Nat) (st : List Nat) (m : Mem), ls.length < fuel → i + ls.length ≤ 100 → (∀ x, x ∈ ls → SOK n c t dd d x ∧ bd x ≤ 9) → PS m c t p st → At t p (joinw (ls.map wd) ++ [cl]) → p + (joinw (ls.map wd)).length + 1 ≤ c → Ok (lp (F := Int → Mem → Option Rz) (fun _ _ => none) (fun w22 v3_22 m22 =>
    if v3_22 < 120 then (
      cal ((t_X7_parseUnit n dd).2.2.1 (d : Int) m22) fun x30 m30 =>
      if x30 = 0 then (
        rt (-1) m30
      ) else
      cal (f_X7_sign n m30) fun x42 m42 =>
      if x42 = 44 then (
        if x42 = (cl : Int) then (
          rt (w32 (v3_22 + 1)) (mSet m42 41 5 (w32 (mGet m42 41 5 + 1)))
        ) else
        w22 (w32 (v3_22 + 1)) (mSet m42 41 5 (w32 (mGet m42 41 5 + 1)))
      ) else
      if x42 = (cl : Int) then (
        if x42 = (cl : Int) then (
          rt (w32 (v3_22 + 1)) (mSet m42 41 5 (w32 (mGet m42 41 5 + 1)))
        ) else
        w22 (w32 (v3_22 + 1)) (mSet m42 41 5 (w32 (mGet m42 41 5 + 1)))
      ) else
      cal (f_X7_failAt n (mGet m42 41 5) m42) fun x65 m65 =>
      rt (-1) m65
    ) else
    rt v3_22 m22
  ) fuel (i : Int) m) (PR m c t p st (scanF d (joinw (ls.map wd))) ((joinw (ls.map wd)).length + 1) ((ls.map prog).flatten) ((i + ls.length : Nat) : Int) (-1))
  | [], h => absurd rfl h
  | [a], _ => by
    intro fuel i p st m hf hi hS S A hc
    obtain ⟨f, rfl⟩ : ∃ f, fuel = f + 1 := ⟨fuel - 1, by omega⟩
    obtain ⟨U, _⟩ := hS a (List.mem_singleton.mpr rfl)
    rw [List.map_singleton, join1] at A hc ⊢
    have tc : t (p + (wd a).length) = cl := A.r.hd
    show Ok (if (i : Int) < 120 then _ else _) _
    rw [if_pos (by rw [List.length_singleton] at hi; omega)]
    refine ok_cal (U p st m S A.l (by omega) (Or.inr ⟨by omega, by rw [tc]; omega⟩)) (fun v m1 h1 => ?_)
    obtain ⟨F1, r1⟩ := h1
    cases e : scanF d (wd a) with
    | some k =>
      rw [e] at r1
      obtain ⟨rfl, r2⟩ := r1
      rw [if_pos rfl]
      exact ok_rt ⟨F1, rfl, r2⟩
    | none =>
      rw [e] at r1
      obtain ⟨rfl, S1, k1⟩ := r1
      rw [if_neg (by decide)]
      refine ok_calE (sign_eq S1 (by omega)) ?_
      have c100 : c ≤ 100 := S1.2.1
      rw [List.length_singleton] at hi
      rw [tc, if_neg (by omega), if_pos rfl, if_pos rfl, S1.2.2.2.1, k_1 (by omega), k_1 (by omega)]
      obtain ⟨S2, F2, k2⟩ := S1.adv (by omega)
      refine ok_rt ⟨F1.tr F2, rfl, ?_, k2.trans k1⟩
      rw [List.map_singleton, List.flatten_singleton, ← Nat.add_assoc]
      exact S2
  | a :: b :: l, _ => by
    intro fuel i p st m hf hi hS S A hc
    obtain ⟨f, rfl⟩ : ∃ f, fuel = f + 1 := ⟨fuel - 1, by omega⟩
    obtain ⟨U, a9⟩ := hS a (List.mem_cons_self ..)
    obtain ⟨J, eJ⟩ : ∃ J, J = joinw ((b :: l).map wd) := ⟨_, rfl⟩
    have ejn : joinw ((a :: b :: l).map wd) = wd a ++ 44 :: J := by rw [eJ]; rfl
    rw [ejn] at A hc ⊢
    rw [List.append_assoc] at A
    rw [List.length_append, List.length_cons] at hc
    have tc : t (p + (wd a).length) = 44 := A.r.hd
    have hi2 : i + 1 + (b :: l).length ≤ 100 := by rw [List.length_cons] at hi; omega
    have hf2 : (b :: l).length < f := by rw [List.length_cons] at hf; omega
    show Ok (if (i : Int) < 120 then _ else _) _
    rw [if_pos (by omega)]
    refine ok_cal (U p st m S A.l (by omega) (Or.inr ⟨by omega, by rw [tc]; omega⟩)) (fun v m1 h1 => ?_)
    obtain ⟨F1, r1⟩ := h1
    rw [scan_join (dep_wd a9)]
    cases e : scanF d (wd a) with
    | some k =>
      rw [e] at r1
      obtain ⟨rfl, r2⟩ := r1
      rw [if_pos rfl]
      exact ok_rt ⟨F1, rfl, r2⟩
    | none =>
      rw [e] at r1
      obtain ⟨rfl, S1, k1⟩ := r1
      rw [if_neg (by decide)]
      refine ok_calE (sign_eq S1 (by omega)) ?_
      have c100 : c ≤ 100 := S1.2.1
      rw [tc, if_pos (show ((44 : Nat) : Int) = 44 from rfl), if_neg (by omega), S1.2.2.2.1, k_1 (by omega), k_1 (by omega)]
      obtain ⟨S2, F2, k2⟩ := S1.adv (by omega)
      have ih := row_loop hn hcl (b :: l) (List.cons_ne_nil _ _) f (i + 1) (p + (wd a).length + 1) (st ++ prog a) _ hf2 hi2 (fun x hx => hS x (List.mem_cons_of_mem _ hx)) S2 (by rw [← eJ]; exact A.r.tl) (by rw [← eJ]; omega)
      refine ok_mono ih (fun v m3 h3 => ?_)
      obtain ⟨F3, r3⟩ := h3
      refine ⟨(F1.tr F2).tr F3, ?_⟩
      rw [← eJ] at r3
      cases e2 : scanF d J with
      | some k =>
        rw [e2] at r3
        refine ⟨r3.1, ?_⟩
        rw [r3.2]
        show ((p + (wd a).length + 1 + k : Nat) : Int) = ((p + (k + (1 + (wd a).length)) : Nat) : Int)
        omega
      | none =>
        rw [e2] at r3
        obtain ⟨q1, q2, q3⟩ := r3
        refine ⟨by rw [q1, List.length_cons, List.length_cons, List.length_cons]; omega, ?_, q3.trans (k2.trans k1)⟩
        rw [show p + (wd a).length + 1 + (J.length + 1) = p + ((wd a ++ 44 :: J).length + 1) by rw [List.length_append, List.length_cons]; omega, List.append_assoc] at q2
        exact q2
theorem row_of {n c dd d cl : Nat} {t : Nat → Nat} {ls : List Nat} (hn : 300 < n) (hcl : cl = 124 ∨ cl = 125) (h0 : ls ≠ []) (hl : ls.length ≤ 20) (hS : ∀ x, x ∈ ls → SOK n c t dd d x ∧ bd x ≤ 9) {p : Nat} {st : List Nat} {m : Mem} (S : PS m c t p st) (A : At t p (joinw (ls.map wd) ++ [cl])) (hc : p + (joinw (ls.map wd)).length + 1 ≤ c) : Ok ((t_X7_parseUnit n (dd + 1)).1 (d : Int) (cl : Int) m) (PR m c t p st (scanF d (joinw (ls.map wd))) ((joinw (ls.map wd)).length + 1) ((ls.map prog).flatten) (ls.length : Int) (-1)) := by
  show Ok (b_X7_parseRow n (t_X7_parseUnit n dd).1 (t_X7_parseUnit n dd).2.1 (t_X7_parseUnit n dd).2.2.1 (t_X7_parseUnit n dd).2.2.2 (d : Int) (cl : Int) m) _
  unfold b_X7_parseRow
  dsimp only [jn, gtF, ptF]
  have hd : t p ≠ cl := by
    obtain ⟨a, l, rfl⟩ : ∃ a l, ls = a :: l := by
      cases ls with
      | nil => exact absurd rfl h0
      | cons a l => exact ⟨a, l, rfl⟩
    obtain ⟨x, w, e, hx⟩ := wd_head (hS a (List.mem_cons_self ..)).2
    have : t p = x := by
      cases l with
      | nil =>
        have A' : At t p (wd a ++ [cl]) := A
        rw [e] at A'
        exact A'.hd
      | cons b l =>
        have A' : At t p ((wd a ++ 44 :: joinw ((b :: l).map wd)) ++ [cl]) := A
        rw [e] at A'
        exact A'.hd
    rw [this]
    unfold Hd at hx
    omega
  refine ok_calE (sign_eq S (by omega)) ?_
  rw [if_neg (by omega)]
  have := row_loop hn hcl ls h0 n 0 p st m (by omega) (by omega) hS S A hc
  rw [Nat.zero_add] at this
  exact this
/-- both rows, and the step -/
theorem rows_of {n c dd d : Nat} {t : Nat → Nat} {L R : List Nat} (hn : 300 < n) (L0 : L ≠ []) (R0 : R ≠ []) (lL : L.length ≤ 15) (lR : R.length ≤ 15) (hL : ∀ x, x ∈ L → SOK n c t dd d x ∧ bd x ≤ 9) (hR : ∀ x, x ∈ R → SOK n c t dd d x ∧ bd x ≤ 9) {p : Nat} {st : List Nat} {m : Mem} (S : PS m c t p st) (hst : st.length < p) (A : At t p (joinw (L.map wd) ++ 124 :: (joinw (R.map wd) ++ [125]))) (hc : p + (joinw (L.map wd)).length + (joinw (R.map wd)).length + 2 ≤ c) : Ok ((t_X7_parseUnit n (dd + 2)).2.1 (d : Int) m) (PR m c t p st (scanF d (joinw (L.map wd) ++ 124 :: (joinw (R.map wd) ++ [125]))) ((joinw (L.map wd)).length + (joinw (R.map wd)).length + 2) ((L.map prog).flatten ++ ((R.map prog).flatten ++ [5 + 16 * L.length + 4096 * R.length])) 1 0) := by
  show Ok (b_X7_parseRows n (t_X7_parseUnit n (dd + 1)).1 (t_X7_parseUnit n (dd + 1)).2.1 (t_X7_parseUnit n (dd + 1)).2.2.1 (t_X7_parseUnit n (dd + 1)).2.2.2 (d : Int) m) _
  unfold b_X7_parseRows
  dsimp only [jn]
  obtain ⟨u, eu⟩ : ∃ u, u = joinw (L.map wd) := ⟨_, rfl⟩
  obtain ⟨v, ev⟩ : ∃ v, v = joinw (R.map wd) := ⟨_, rfl⟩
  rw [← eu, ← ev] at A hc ⊢
  have du : dep d u = d := by
    rw [eu]
    exact dep_join (fun w hw => by
      obtain ⟨x, hx, rfl⟩ := List.mem_map.mp hw
      exact dep_wd (hL x hx).2)
  have dv : dep d v = d := by
    rw [ev]
    exact dep_join (fun w hw => by
      obtain ⟨x, hx, rfl⟩ := List.mem_map.mp hw
      exact dep_wd (hR x hx).2)
  have pl : ((L.map prog).flatten).length ≤ u.length := by rw [eu]; exact join_lenP (fun x hx => prog_len (hL x hx).2)
  have pr : ((R.map prog).flatten).length ≤ v.length := by rw [ev]; exact join_lenP (fun x hx => prog_len (hR x hx).2)
  have A1 : At t p (u ++ [124]) := by
    have : u ++ 124 :: (v ++ [125]) = (u ++ [124]) ++ (v ++ [125]) := by rw [List.append_assoc]; rfl
    rw [this] at A
    exact A.l
  have A2 : At t (p + u.length + 1) (v ++ [125]) := A.r.tl
  have sc : scanF d (u ++ 124 :: (v ++ [125])) = match scanF d u with
      | some k => some k
      | none => (scanF d v).map (· + (1 + u.length)) := by
    rw [scanF_app, du]
    cases scanF d u with
    | some k => rfl
    | none =>
      show Option.map (· + u.length) (scanF d (124 :: (v ++ [125]))) = _
      rw [scanF_cons, if_neg (by omega), if_neg (by decide), if_neg (by decide), scanF_app, dv]
      cases scanF d v with
      | none =>
        show Option.map (· + u.length) (Option.map (· + 1) (Option.map (· + v.length) (scanF d [125]))) = none
        rw [scanF_cons, if_neg (by omega)]
        rfl
      | some k =>
        show some (k + 1 + u.length) = some (k + (1 + u.length))
        rw [show k + 1 + u.length = k + (1 + u.length) by omega]
  rw [sc]
  have r1 := row_of (cl := 124) hn (Or.inl rfl) L0 (by omega) hL S (by rw [← eu]; exact A1) (by rw [← eu]; omega)
  rw [← eu] at r1
  refine ok_cal r1 (fun x m1 h1 => ?_)
  obtain ⟨F1, r1⟩ := h1
  cases e : scanF d u with
  | some k =>
    rw [e] at r1
    obtain ⟨rfl, r2⟩ := r1
    rw [if_pos (by decide)]
    exact ok_rtZ (Or.inl rfl) ⟨F1, rfl, r2⟩
  | none =>
    rw [e] at r1
    obtain ⟨rfl, S1, k1⟩ := r1
    rw [if_neg (by omega)]
    have r2 := row_of (cl := 125) hn (Or.inr rfl) R0 (by omega) hR S1 (by rw [← ev]; exact A2) (by rw [← ev]; omega)
    rw [← ev] at r2
    refine ok_cal r2 (fun y m2 h2 => ?_)
    obtain ⟨F2, r2⟩ := h2
    cases e2 : scanF d v with
    | some k =>
      rw [e2] at r2
      obtain ⟨rfl, r3⟩ := r2
      rw [if_pos (by decide)]
      refine ok_rtZ (Or.inl rfl) ⟨F1.tr F2, rfl, ?_⟩
      rw [r3]
      show ((p + (u.length + 1) + k : Nat) : Int) = ((p + (k + (1 + u.length)) : Nat) : Int)
      omega
    | none =>
      rw [e2] at r2
      obtain ⟨rfl, S2, k2⟩ := r2
      rw [if_neg (by omega)]
      refine ok_cal (step_ok (a := 5) (b := L.length) (e := R.length) S2 (by rw [List.length_append, List.length_append]; omega) (by decide) (by omega) (by omega)) (fun z m3 h3 => ?_)
      obtain ⟨rfl, S3, F3, k3⟩ := h3
      rw [if_neg (by decide)]
      refine ok_rtZ (Or.inr rfl) ⟨(F1.tr F2).tr F3, rfl, ?_, k3.trans (k2.trans k1)⟩
      rw [List.append_assoc, List.append_assoc, show p + (u.length + 1) + (v.length + 1) = p + (u.length + v.length + 2) by omega] at S3
      exact S3
