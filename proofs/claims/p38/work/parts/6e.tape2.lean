/-! THE TAPE: words, cut into games -/
/-- where too many are open -/
def scanF : Nat → List Nat → Option Nat
  | _, [] => none
  | d, c :: w => if (c = 123 ∨ c = 45) ∧ d = 5 then some 0 else (scanF (if c = 123 then d + 1 else if c = 125 then d - 1 else d) w).map (· + 1)
def dep : Nat → List Nat → Nat
  | d, [] => d
  | d, c :: w => dep (if c = 123 then d + 1 else if c = 125 then d - 1 else d) w
theorem scanF_cons (d c : Nat) (w : List Nat) : scanF d (c :: w) = if (c = 123 ∨ c = 45) ∧ d = 5 then some 0 else (scanF (if c = 123 then d + 1 else if c = 125 then d - 1 else d) w).map (· + 1) := rfl
theorem scanF_app : ∀ (u v : List Nat) (d : Nat), scanF d (u ++ v) = match scanF d u with
    | some k => some k
    | none => (scanF (dep d u) v).map (· + u.length)
  | [], v, d => by
    show scanF d v = (scanF d v).map (· + 0)
    cases scanF d v <;> rfl
  | c :: u, v, d => by
    show scanF d (c :: (u ++ v)) = _
    rw [scanF_cons, scanF_cons]
    by_cases q : (c = 123 ∨ c = 45) ∧ d = 5
    · rw [if_pos q, if_pos q]
    · rw [if_neg q, if_neg q, scanF_app u v]
      show _ = match (scanF (if c = 123 then d + 1 else if c = 125 then d - 1 else d) u).map (· + 1) with
        | some k => some k
        | none => (scanF (dep (if c = 123 then d + 1 else if c = 125 then d - 1 else d) u) v).map (· + (u.length + 1))
      cases scanF (if c = 123 then d + 1 else if c = 125 then d - 1 else d) u with
      | some k => rfl
      | none =>
        show Option.map (· + 1) (Option.map (· + u.length) _) = Option.map (· + (u.length + 1)) _
        cases scanF (dep (if c = 123 then d + 1 else if c = 125 then d - 1 else d) u) v <;> rfl
theorem dep_app : ∀ (u v : List Nat) (d : Nat), dep d (u ++ v) = dep (dep d u) v
  | [], _, _ => rfl
  | c :: u, v, d => by
    show dep _ (u ++ v) = dep (dep _ u) v
    exact dep_app u v _
/-- options in the order of their words -/
def insg (a : Nat) : List Nat → List Nat
  | [] => [a]
  | b :: l => if wlt (wd a) (wd b) then a :: b :: l else b :: insg a l
def sortg : List Nat → List Nat
  | [] => []
  | a :: l => insg a (sortg l)
theorem insg_map (a : Nat) : ∀ l, (insg a l).map wd = insw (wd a) (l.map wd)
  | [] => rfl
  | b :: l => by
    have ih := insg_map a l
    show (if wlt (wd a) (wd b) = true then a :: b :: l else b :: insg a l).map wd = if wlt (wd a) (wd b) = true then wd a :: wd b :: l.map wd else wd b :: insw (wd a) (l.map wd)
    by_cases q : wlt (wd a) (wd b) = true
    · rw [if_pos q, if_pos q]; rfl
    · rw [if_neg q, if_neg q, List.map_cons, ih]
theorem sortg_map : ∀ l, (sortg l).map wd = sortw (l.map wd)
  | [] => rfl
  | a :: l => by
    show (insg a (sortg l)).map wd = insw (wd a) (sortw (l.map wd))
    rw [insg_map, sortg_map l]
theorem mem_insg {a x : Nat} : ∀ {l : List Nat}, x ∈ insg a l ↔ x = a ∨ x ∈ l
  | [] => by show x ∈ [a] ↔ _; rw [List.mem_singleton]; exact ⟨Or.inl, fun h => h.elim id (fun h => by cases h)⟩
  | b :: l => by
    show x ∈ (if wlt (wd a) (wd b) = true then a :: b :: l else b :: insg a l) ↔ _
    by_cases q : wlt (wd a) (wd b) = true
    · rw [if_pos q, List.mem_cons]
    · rw [if_neg q, List.mem_cons, mem_insg, List.mem_cons]
      constructor
      · rintro (h | h | h)
        · exact Or.inr (Or.inl h)
        · exact Or.inl h
        · exact Or.inr (Or.inr h)
      · rintro (h | h | h)
        · exact Or.inr (Or.inl h)
        · exact Or.inl h
        · exact Or.inr (Or.inr h)
theorem mem_sortg {x : Nat} : ∀ {l : List Nat}, x ∈ sortg l ↔ x ∈ l
  | [] => Iff.rfl
  | a :: l => by
    show x ∈ insg a (sortg l) ↔ _
    rw [mem_insg, mem_sortg, List.mem_cons]
theorem insg_len (a : Nat) : ∀ l, (insg a l).length = l.length + 1
  | [] => rfl
  | b :: l => by
    show (if wlt (wd a) (wd b) = true then a :: b :: l else b :: insg a l).length = _
    by_cases q : wlt (wd a) (wd b) = true
    · rw [if_pos q]; rfl
    · rw [if_neg q, List.length_cons, insg_len a l]; rfl
theorem sortg_len : ∀ l, (sortg l).length = l.length
  | [] => rfl
  | a :: l => by
    show (insg a (sortg l)).length = _
    rw [insg_len, sortg_len l]; rfl
/-- the options on one side, as words put them -/
def so (g w : Nat) : List Nat := sortg (opts g w)
theorem mem_so {g w x : Nat} : x ∈ so g w ↔ op g w x = true := by unfold so; rw [mem_sortg, mem_opts]
theorem wd_so {g : Nat} (h0 : ¬ Bare g 0) (h1 : ¬ Bare g 1) (h : g ≠ hc (bd g)) : wd g = 123 :: (joinw ((so g 0).map wd) ++ 124 :: (joinw ((so g 1).map wd) ++ [125])) := by
  rw [wd_br h0 h1 h]
  unfold so
  rw [sortg_map, sortg_map]
/-- the steps that make a game -/
def prog (g : Nat) : List Nat := if isI g then (if (opts g 1).isEmpty then [16 * bd g] else [16 * bd g, 3]) else if isHp g then [1 + 16 * bd g] else ((so g 0).attach.map (fun x => prog x.1)).flatten ++ (((so g 1).attach.map (fun x => prog x.1)).flatten ++ [5 + 16 * (so g 0).length + 4096 * (so g 1).length])
termination_by g
decreasing_by
  all_goals exact op_lt (mem_so.mp x.2)
theorem att_mapP (f : Nat → List Nat) (l : List Nat) : l.attach.map (fun x => f x.1) = l.map f := att_map f l
theorem prog_def (g : Nat) : prog g = if isI g then (if (opts g 1).isEmpty then [16 * bd g] else [16 * bd g, 3]) else if isHp g then [1 + 16 * bd g] else ((so g 0).map prog).flatten ++ (((so g 1).map prog).flatten ++ [5 + 16 * (so g 0).length + 4096 * (so g 1).length]) := by
  rw [prog.eq_def g, att_mapP prog, att_mapP prog]
theorem prog_nn {g : Nat} (h : Bare g 1) : prog g = [16 * bd g] := by
  rw [prog_def, if_pos ((isI_iff g).mpr (Or.inr h)), if_pos ((emp_iff g 1).mpr h)]
theorem prog_neg {g : Nat} (h : Bare g 0) (h1 : ¬ Bare g 1) : prog g = [16 * bd g, 3] := by
  rw [prog_def, if_pos ((isI_iff g).mpr (Or.inl h)), if_neg (fun q => h1 ((emp_iff g 1).mp q))]
theorem prog_hp {g : Nat} (h0 : ¬ Bare g 0) (h1 : ¬ Bare g 1) (h : g = hc (bd g)) : prog g = [1 + 16 * bd g] := by
  rw [prog_def, if_neg (fun q => ((isI_iff g).mp q).elim h0 h1), if_pos ((isHp_iff g).mpr h)]
theorem prog_br {g : Nat} (h0 : ¬ Bare g 0) (h1 : ¬ Bare g 1) (h : g ≠ hc (bd g)) : prog g = ((so g 0).map prog).flatten ++ (((so g 1).map prog).flatten ++ [5 + 16 * (so g 0).length + 4096 * (so g 1).length]) := by
  rw [prog_def, if_neg (fun q => ((isI_iff g).mp q).elim h0 h1), if_neg (fun q => h ((isHp_iff g).mp q))]
/-- a word begins with a digit, a minus, a star or a brace -/
def Hd (c : Nat) : Prop := (48 ≤ c ∧ c ≤ 57) ∨ c = 45 ∨ c = 42 ∨ c = 123
theorem wd_head {g : Nat} (h9 : bd g ≤ 9) : ∃ c w, wd g = c :: w ∧ Hd c := by
  by_cases b1 : Bare g 1
  · exact ⟨48 + bd g, [], by rw [wd_nn b1, numw_small h9], Or.inl (by omega)⟩
  · by_cases b0 : Bare g 0
    · exact ⟨45, _, wd_neg b0 b1, Or.inr (Or.inl rfl)⟩
    · by_cases h : g = hc (bd g)
      · exact ⟨42, _, wd_hp b0 b1 h, Or.inr (Or.inr (Or.inl rfl))⟩
      · exact ⟨123, _, wd_br b0 b1 h, Or.inr (Or.inr (Or.inr rfl))⟩
/-- words leave nothing open -/
theorem join_cons2 (a b : List Nat) (l : List (List Nat)) : joinw (a :: b :: l) = a ++ 44 :: joinw (b :: l) := rfl
theorem dep_join {d : Nat} : ∀ {l : List (List Nat)}, (∀ w, w ∈ l → dep d w = d) → dep d (joinw l) = d
  | [], _ => rfl
  | [a], h => h a (List.mem_singleton.mpr rfl)
  | a :: b :: l, h => by
    rw [join_cons2, dep_app, h a (List.mem_cons_self ..)]
    show dep d (joinw (b :: l)) = d
    exact dep_join (fun w hw => h w (List.mem_cons_of_mem _ hw))
theorem dep_wd_aux : ∀ (n g d : Nat), g ≤ n → bd g ≤ 9 → dep d (wd g) = d
  | n, g, d, hn, h9 => by
    by_cases b1 : Bare g 1
    · rw [wd_nn b1, numw_small h9]
      show (if 48 + bd g = 123 then d + 1 else if 48 + bd g = 125 then d - 1 else d) = d
      rw [if_neg (by omega), if_neg (by omega)]
    · by_cases b0 : Bare g 0
      · rw [wd_neg b0 b1, numw_small h9]
        show (if 48 + bd g = 123 then d + 1 else if 48 + bd g = 125 then d - 1 else d) = d
        rw [if_neg (by omega), if_neg (by omega)]
      · by_cases h : g = hc (bd g)
        · rw [wd_hp b0 b1 h, numw_small h9]
          split
          · show (if 48 + bd g = 123 then d + 1 else if 48 + bd g = 125 then d - 1 else d) = d
            rw [if_neg (by omega), if_neg (by omega)]
          · rfl
        · have ih : ∀ w, w < 2 → ∀ x, x ∈ (so g w).map wd → dep (d + 1) x = d + 1 := by
            intro w hw x hx
            obtain ⟨y, hy, rfl⟩ := List.mem_map.mp hx
            have hy := mem_so.mp hy
            have lt : y < g := op_lt hy
            have := bd_op hw hy
            obtain ⟨k, rfl⟩ : ∃ k, n = k + 1 := ⟨n - 1, by omega⟩
            exact dep_wd_aux k y (d + 1) (by omega) (by omega)
          rw [wd_so b0 b1 h]
          show dep (d + 1) (joinw ((so g 0).map wd) ++ 124 :: (joinw ((so g 1).map wd) ++ [125])) = d
          rw [dep_app, dep_join (ih 0 (by decide))]
          show dep (d + 1) (joinw ((so g 1).map wd) ++ [125]) = d
          rw [dep_app, dep_join (ih 1 (by decide))]
          rfl
theorem dep_wd {g d : Nat} (h9 : bd g ≤ 9) : dep d (wd g) = d := dep_wd_aux g g d (Nat.le_refl _) h9
/-- as many steps as letters, at the most -/
theorem join_lenP : ∀ {l : List Nat}, (∀ x, x ∈ l → (prog x).length ≤ (wd x).length) → ((l.map prog).flatten).length ≤ (joinw (l.map wd)).length
  | [], _ => Nat.le_refl _
  | [a], h => by
    show (prog a ++ []).length ≤ (wd a).length
    rw [List.append_nil]
    exact h a (List.mem_singleton.mpr rfl)
  | a :: b :: l, h => by
    have ih := join_lenP (l := b :: l) (fun x hx => h x (List.mem_cons_of_mem _ hx))
    have h1 := h a (List.mem_cons_self ..)
    show (prog a ++ (((b :: l).map prog).flatten)).length ≤ (wd a ++ 44 :: joinw ((b :: l).map wd)).length
    rw [List.length_append, List.length_append, List.length_cons]
    omega
theorem prog_len_aux : ∀ (n g : Nat), g ≤ n → bd g ≤ 9 → (prog g).length ≤ (wd g).length
  | n, g, hn, h9 => by
    by_cases b1 : Bare g 1
    · rw [prog_nn b1, wd_nn b1, numw_small h9]; exact Nat.le_refl _
    · by_cases b0 : Bare g 0
      · rw [prog_neg b0 b1, wd_neg b0 b1, numw_small h9]; exact Nat.le_refl _
      · by_cases h : g = hc (bd g)
        · rw [prog_hp b0 b1 h, wd_hp b0 b1 h, List.length_cons, List.length_cons]
          exact Nat.succ_le_succ (Nat.zero_le _)
        · have ih : ∀ w, w < 2 → ∀ x, x ∈ so g w → (prog x).length ≤ (wd x).length := by
            intro w hw x hx
            have hy := mem_so.mp hx
            have lt : x < g := op_lt hy
            have := bd_op hw hy
            obtain ⟨k, rfl⟩ : ∃ k, n = k + 1 := ⟨n - 1, by omega⟩
            exact prog_len_aux k x (by omega) (by omega)
          have j0 := join_lenP (ih 0 (by decide))
          have j1 := join_lenP (ih 1 (by decide))
          rw [prog_br b0 b1 h, wd_so b0 b1 h]
          simp only [List.length_append, List.length_cons, List.length_nil]
          omega
theorem prog_len {g : Nat} (h9 : bd g ≤ 9) : (prog g).length ≤ (wd g).length := prog_len_aux g g (Nat.le_refl _) h9
