/-! WORDS and their order -/
def lexlt : List Nat → List Nat → Bool
  | a :: s, b :: t => decide (a < b) || (decide (a = b) && lexlt s t)
  | _, _ => false
def wlt (a b : List Nat) : Bool := decide (a.length < b.length) || (decide (a.length = b.length) && lexlt a b)
theorem lexlt_irr : ∀ a, lexlt a a = false
  | [] => rfl
  | a :: s => by
    show (decide (a < a) || (decide (a = a) && lexlt s s)) = false
    rw [lexlt_irr s]
    simp
theorem lexlt_tr : ∀ a b c, lexlt a b = true → lexlt b c = true → lexlt a c = true
  | [], _, _, h, _ => by cases h
  | _ :: _, [], _, h, _ => by cases h
  | _ :: _, _ :: _, [], _, h => by cases h
  | a :: s, b :: t, c :: u, h1, h2 => by
    simp only [lexlt, Bool.or_eq_true, Bool.and_eq_true, decide_eq_true_iff] at h1 h2 ⊢
    rcases h1 with h1 | ⟨rfl, h1⟩ <;> rcases h2 with h2 | ⟨rfl, h2⟩
    · exact Or.inl (by omega)
    · exact Or.inl h1
    · exact Or.inl h2
    · exact Or.inr ⟨rfl, lexlt_tr s t u h1 h2⟩
theorem lexlt_tot : ∀ a b, a.length = b.length → a ≠ b → lexlt a b = true ∨ lexlt b a = true
  | [], [], _, h => absurd rfl h
  | [], _ :: _, h, _ => by cases h
  | _ :: _, [], h, _ => by cases h
  | a :: s, b :: t, h1, h2 => by
    simp only [lexlt, Bool.or_eq_true, Bool.and_eq_true, decide_eq_true_iff]
    rcases (by omega : a < b ∨ b < a ∨ a = b) with h | h | rfl
    · exact Or.inl (Or.inl h)
    · exact Or.inr (Or.inl h)
    · have h3 : s.length = t.length := by
        have : s.length + 1 = t.length + 1 := h1
        omega
      rcases lexlt_tot s t h3 (fun e => h2 (by rw [e])) with h4 | h4
      · exact Or.inl (Or.inr ⟨rfl, h4⟩)
      · exact Or.inr (Or.inr ⟨rfl, h4⟩)
theorem wlt_irr (a : List Nat) : wlt a a = false := by
  unfold wlt
  rw [lexlt_irr]
  simp
theorem wlt_tr {a b c : List Nat} (h1 : wlt a b = true) (h2 : wlt b c = true) : wlt a c = true := by
  simp only [wlt, Bool.or_eq_true, Bool.and_eq_true, decide_eq_true_iff] at h1 h2 ⊢
  rcases h1 with h1 | ⟨e1, h1⟩ <;> rcases h2 with h2 | ⟨e2, h2⟩
  · exact Or.inl (by omega)
  · exact Or.inl (by omega)
  · exact Or.inl (by omega)
  · exact Or.inr ⟨by omega, lexlt_tr _ _ _ h1 h2⟩
theorem wlt_tot {a b : List Nat} (h : a ≠ b) : wlt a b = true ∨ wlt b a = true := by
  simp only [wlt, Bool.or_eq_true, Bool.and_eq_true, decide_eq_true_iff]
  rcases (by omega : a.length < b.length ∨ b.length < a.length ∨ a.length = b.length) with h1 | h1 | h1
  · exact Or.inl (Or.inl h1)
  · exact Or.inr (Or.inl h1)
  · rcases lexlt_tot a b h1 h with h2 | h2
    · exact Or.inl (Or.inr ⟨h1, h2⟩)
    · exact Or.inr (Or.inr ⟨h1.symm, h2⟩)
theorem wlt_asym {a b : List Nat} (h : wlt a b = true) : wlt b a = false := by
  cases e : wlt b a
  · rfl
  · rw [← wlt_irr a, wlt_tr h e]
/-- sorted -/
def insw (a : List Nat) : List (List Nat) → List (List Nat)
  | [] => [a]
  | b :: l => if wlt a b then a :: b :: l else b :: insw a l
def sortw : List (List Nat) → List (List Nat)
  | [] => []
  | a :: l => insw a (sortw l)
theorem insw_perm (a : List Nat) : ∀ l, (insw a l).Perm (a :: l)
  | [] => List.Perm.refl _
  | b :: l => by
    show (if wlt a b then a :: b :: l else b :: insw a l).Perm _
    by_cases h : wlt a b = true
    · rw [if_pos h]
    · rw [if_neg h]
      exact (List.Perm.cons b (insw_perm a l)).trans (List.Perm.swap a b l)
theorem sortw_perm : ∀ l, (sortw l).Perm l
  | [] => List.Perm.refl _
  | a :: l => (insw_perm a (sortw l)).trans (List.Perm.cons a (sortw_perm l))
theorem mem_sortw {l : List (List Nat)} {a : List Nat} : a ∈ sortw l ↔ a ∈ l := (sortw_perm l).mem_iff
/-- strictly in order -/
def Srt (l : List (List Nat)) : Prop := l.Pairwise (fun a b => wlt a b = true)
theorem insw_srt {a : List Nat} : ∀ {l : List (List Nat)}, Srt l → a ∉ l → Srt (insw a l)
  | [], _, _ => List.pairwise_singleton _ _
  | b :: l, h, hn => by
    have h1 := List.pairwise_cons.mp h
    show Srt (if wlt a b then a :: b :: l else b :: insw a l)
    by_cases q : wlt a b = true
    · rw [if_pos q]
      refine List.pairwise_cons.mpr ⟨fun c hc => ?_, h⟩
      rcases List.mem_cons.mp hc with rfl | hc
      · exact q
      · exact wlt_tr q (h1.1 c hc)
    · rw [if_neg q]
      refine List.pairwise_cons.mpr ⟨fun c hc => ?_, insw_srt h1.2 (fun h2 => hn (List.mem_cons_of_mem _ h2))⟩
      rcases List.mem_cons.mp ((insw_perm a l).mem_iff.mp hc) with rfl | hc
      · exact (wlt_tot (fun e => hn (by rw [e]; exact List.mem_cons_self))).resolve_left q
      · exact h1.1 c hc
theorem sortw_srt : ∀ {l : List (List Nat)}, l.Nodup → Srt (sortw l)
  | [], _ => List.Pairwise.nil
  | a :: l, h => by
    have h1 := List.nodup_cons.mp h
    exact insw_srt (sortw_srt h1.2) (fun h2 => h1.1 (mem_sortw.mp h2))
theorem srt_uniq : ∀ {l l2 : List (List Nat)}, Srt l → Srt l2 → (∀ a, a ∈ l ↔ a ∈ l2) → l = l2
  | [], [], _, _, _ => rfl
  | [], b :: l2, _, _, h => absurd ((h b).mpr List.mem_cons_self) List.not_mem_nil
  | a :: l, [], _, _, h => absurd ((h a).mp List.mem_cons_self) List.not_mem_nil
  | a :: l, b :: l2, h1, h2, h => by
    have p1 := List.pairwise_cons.mp h1
    have p2 := List.pairwise_cons.mp h2
    have e : a = b := by
      apply Classical.byContradiction
      intro hne
      have ha : a ∈ l2 := (List.mem_cons.mp ((h a).mp List.mem_cons_self)).resolve_left hne
      have hb : b ∈ l := (List.mem_cons.mp ((h b).mpr List.mem_cons_self)).resolve_left (fun q => hne q.symm)
      have h3 := wlt_tr (p1.1 b hb) (p2.1 a ha)
      rw [wlt_irr] at h3
      cases h3
    subst e
    rw [srt_uniq p1.2 p2.2 (fun c => ?_)]
    constructor
    · intro hc
      rcases List.mem_cons.mp ((h c).mp (List.mem_cons_of_mem _ hc)) with rfl | h3
      · have := p1.1 c hc; rw [wlt_irr] at this; cases this
      · exact h3
    · intro hc
      rcases List.mem_cons.mp ((h c).mpr (List.mem_cons_of_mem _ hc)) with rfl | h3
      · have := p2.1 c hc; rw [wlt_irr] at this; cases this
      · exact h3
/-- with commas between -/
def joinw : List (List Nat) → List Nat
  | [] => []
  | [a] => a
  | a :: b :: l => a ++ 44 :: joinw (b :: l)
def numw (v : Nat) : List Nat := if v > 9 then [48 + v / 10, 48 + v % 10] else [48 + v % 10]
def isI (g : Nat) : Bool := (opts g 0).isEmpty || (opts g 1).isEmpty
def isHp (g : Nat) : Bool := g == hc (bd g)
/-- the words of a game -/
def wd (g : Nat) : List Nat := if isI g then (if (opts g 1).isEmpty then [] else [45]) ++ numw (bd g) else if isHp g then 42 :: (if bd g > 1 then numw (bd g) else []) else 123 :: (joinw (sortw ((opts g 0).attach.map (fun x => wd x.1))) ++ 124 :: (joinw (sortw ((opts g 1).attach.map (fun x => wd x.1))) ++ [125]))
termination_by g
decreasing_by
  all_goals exact op_lt (mem_opts.mp x.2)
theorem att_map (f : Nat → List Nat) (l : List Nat) : l.attach.map (fun x => f x.1) = l.map f := by
  have h : l.attach.map Subtype.val = l := List.attach_map_subtype_val l
  have h2 : (l.attach.map Subtype.val).map f = l.map f := by rw [h]
  rw [← h2, List.map_map]
  rfl
theorem wd_def (g : Nat) : wd g = if isI g then (if (opts g 1).isEmpty then [] else [45]) ++ numw (bd g) else if isHp g then 42 :: (if bd g > 1 then numw (bd g) else []) else 123 :: (joinw (sortw ((opts g 0).map wd)) ++ 124 :: (joinw (sortw ((opts g 1).map wd)) ++ [125])) := by
  rw [wd.eq_def g, att_map wd, att_map wd]

/-! words tell games apart -/
theorem isI_iff (g : Nat) : isI g = true ↔ Bare g 0 ∨ Bare g 1 := by
  have key : ∀ w, (opts g w).isEmpty = true ↔ Bare g w := by
    intro w
    rw [List.isEmpty_iff]
    constructor
    · intro h x
      cases e : op g w x
      · rfl
      · have := mem_opts.mpr e
        rw [h] at this; cases this
    · intro h
      apply List.eq_nil_iff_forall_not_mem.mpr
      intro x hx
      have := mem_opts.mp hx
      rw [h x] at this; cases this
  unfold isI
  rw [Bool.or_eq_true, key, key]
theorem emp_iff (g w : Nat) : (opts g w).isEmpty = true ↔ Bare g w := by
  rw [List.isEmpty_iff]
  constructor
  · intro h x
    cases e : op g w x
    · rfl
    · have := mem_opts.mpr e
      rw [h] at this; cases this
  · intro h
    apply List.eq_nil_iff_forall_not_mem.mpr
    intro x hx
    have := mem_opts.mp hx
    rw [h x] at this; cases this
theorem isHp_iff (g : Nat) : isHp g = true ↔ g = hc (bd g) := by
  unfold isHp
  exact beq_iff_eq
/-- what stands behind a word: nothing, or a comma, a bar, a brace -/
def Dl : List Nat → Prop
  | [] => True
  | c :: _ => c = 44 ∨ c = 124 ∨ c = 125
/-- the four kinds of words -/
theorem wd_nn {g : Nat} (h : Bare g 1) : wd g = numw (bd g) := by
  rw [wd_def, if_pos ((isI_iff g).mpr (Or.inr h)), if_pos ((emp_iff g 1).mpr h)]
  rfl
theorem wd_neg {g : Nat} (h : Bare g 0) (h1 : ¬ Bare g 1) : wd g = 45 :: numw (bd g) := by
  rw [wd_def, if_pos ((isI_iff g).mpr (Or.inl h)), if_neg (fun q => h1 ((emp_iff g 1).mp q))]
  rfl
theorem wd_hp {g : Nat} (h0 : ¬ Bare g 0) (h1 : ¬ Bare g 1) (h : g = hc (bd g)) : wd g = 42 :: (if bd g > 1 then numw (bd g) else []) := by
  rw [wd_def, if_neg (fun q => ((isI_iff g).mp q).elim h0 h1), if_pos ((isHp_iff g).mpr h)]
theorem wd_br {g : Nat} (h0 : ¬ Bare g 0) (h1 : ¬ Bare g 1) (h : g ≠ hc (bd g)) : wd g = 123 :: (joinw (sortw ((opts g 0).map wd)) ++ 124 :: (joinw (sortw ((opts g 1).map wd)) ++ [125])) := by
  rw [wd_def, if_neg (fun q => ((isI_iff g).mp q).elim h0 h1), if_neg (fun q => h ((isHp_iff g).mp q))]
theorem numw_small {v : Nat} (h : v ≤ 9) : numw v = [48 + v] := by
  unfold numw
  rw [if_neg (by omega), Nat.mod_eq_of_lt (by omega)]
