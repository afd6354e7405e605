/-! THE LAW: the fault that it looks for, by open braces as it counts them -/
def stepI (d : Int) (c : Nat) : Int := if c = 123 then d + 1 else if c = 125 then d - 1 else d
def scanI : Int → List Nat → Option Nat
  | _, [] => none
  | d, c :: w => if (c = 123 ∨ c = 45) ∧ d = 5 then some 0 else (scanI (stepI d c) w).map (· + 1)
def depI : Int → List Nat → Int
  | d, [] => d
  | d, c :: w => depI (stepI d c) w
theorem scanI_cons (d : Int) (c : Nat) (w : List Nat) : scanI d (c :: w) = if (c = 123 ∨ c = 45) ∧ d = 5 then some 0 else (scanI (stepI d c) w).map (· + 1) := rfl
theorem scanI_app : ∀ (u v : List Nat) (d : Int), scanI d (u ++ v) = match scanI d u with
    | some k => some k
    | none => (scanI (depI d u) v).map (· + u.length)
  | [], v, d => by
    show scanI d v = (scanI d v).map (· + 0)
    cases scanI d v <;> rfl
  | c :: u, v, d => by
    show scanI d (c :: (u ++ v)) = _
    rw [scanI_cons, scanI_cons]
    by_cases q : (c = 123 ∨ c = 45) ∧ d = 5
    · rw [if_pos q, if_pos q]
    · rw [if_neg q, if_neg q, scanI_app u v]
      show _ = match (scanI (stepI d c) u).map (· + 1) with
        | some k => some k
        | none => (scanI (depI (stepI d c) u) v).map (· + (u.length + 1))
      cases scanI (stepI d c) u with
      | some k => rfl
      | none =>
        show Option.map (· + 1) (Option.map (· + u.length) _) = Option.map (· + (u.length + 1)) _
        cases scanI (depI (stepI d c) u) v <;> rfl
theorem depI_app : ∀ (u v : List Nat) (d : Int), depI d (u ++ v) = depI (depI d u) v
  | [], _, _ => rfl
  | c :: u, v, d => by
    show depI _ (u ++ v) = depI (depI _ u) v
    exact depI_app u v _
/-- both counts agree on a piece -/
def Eqv (d : Nat) (w : List Nat) : Prop := scanI (d : Int) w = scanF d w ∧ depI (d : Int) w = (dep d w : Int)
theorem Eqv.app {d : Nat} {u v : List Nat} (h : Eqv d u) (h2 : Eqv (dep d u) v) : Eqv d (u ++ v) := by
  refine ⟨?_, ?_⟩
  · rw [scanI_app, scanF_app, h.1, h.2, h2.1]
    cases scanF d u <;> rfl
  · rw [depI_app, dep_app, h.2, h2.2]
theorem Eqv.one {d c : Nat} (h : c ≠ 125 ∨ 1 ≤ d) : Eqv d [c] := by
  have st : stepI (d : Int) c = ((if c = 123 then d + 1 else if c = 125 then d - 1 else d : Nat) : Int) := by
    unfold stepI
    by_cases q : c = 123
    · rw [if_pos q, if_pos q]; omega
    · rw [if_neg q, if_neg q]
      by_cases q2 : c = 125
      · rw [if_pos q2, if_pos q2]; omega
      · rw [if_neg q2, if_neg q2]
  refine ⟨?_, ?_⟩
  · rw [scanI_cons, scanF_cons]
    by_cases q : (c = 123 ∨ c = 45) ∧ d = 5
    · rw [if_pos q, if_pos ⟨q.1, by omega⟩]
    · rw [if_neg q, if_neg (fun e => q ⟨e.1, by omega⟩)]
      rfl
  · show stepI (d : Int) c = _
    exact st
theorem Eqv.nil (d : Nat) : Eqv d [] := ⟨rfl, rfl⟩
theorem Eqv.digit {d k : Nat} (h : k ≤ 9) : Eqv d [48 + k] := Eqv.one (Or.inl (by omega))
theorem Eqv.join {d : Nat} : ∀ {l : List (List Nat)}, (∀ w, w ∈ l → Eqv d w ∧ dep d w = d) → Eqv d (joinw l)
  | [], _ => Eqv.nil d
  | [a], h => (h a (List.mem_singleton.mpr rfl)).1
  | a :: b :: l, h => by
    obtain ⟨h1, h2⟩ := h a (List.mem_cons_self ..)
    rw [join_cons2]
    refine h1.app ?_
    rw [h2]
    exact (Eqv.one (c := 44) (Or.inl (by decide))).app (Eqv.join (fun w hw => h w (List.mem_cons_of_mem _ hw)))
theorem eqv_wd : ∀ (n g d : Nat), g ≤ n → bd g ≤ 9 → Eqv d (wd g)
  | n, g, d, hn, h9 => by
    by_cases b1 : Bare g 1
    · rw [wd_nn b1, numw_small h9]; exact Eqv.digit h9
    · by_cases b0 : Bare g 0
      · rw [wd_neg b0 b1, numw_small h9]
        exact (Eqv.one (c := 45) (Or.inl (by decide))).app (Eqv.digit h9)
      · by_cases h : g = hc (bd g)
        · rw [wd_hp b0 b1 h, numw_small h9]
          split
          · exact (Eqv.one (c := 42) (Or.inl (by decide))).app (Eqv.digit h9)
          · exact Eqv.one (Or.inl (by decide))
        · have ih : ∀ w, w < 2 → ∀ x, x ∈ (so g w).map wd → Eqv (d + 1) x ∧ dep (d + 1) x = d + 1 := by
            intro w hw x hx
            obtain ⟨y, hy, rfl⟩ := List.mem_map.mp hx
            have hy := mem_so.mp hy
            have lt : y < g := op_lt hy
            have := bd_op hw hy
            obtain ⟨k, rfl⟩ : ∃ k, n = k + 1 := ⟨n - 1, by omega⟩
            exact ⟨eqv_wd k y (d + 1) (by omega) (by omega), dep_wd (by omega)⟩
          have dj : ∀ w, w < 2 → dep (d + 1) (joinw ((so g w).map wd)) = d + 1 := fun w hw => dep_join (fun x hx => (ih w hw x hx).2)
          rw [wd_so b0 b1 h]
          refine (Eqv.one (c := 123) (Or.inl (by decide))).app (v := joinw ((so g 0).map wd) ++ ([124] ++ (joinw ((so g 1).map wd) ++ [125]))) ?_
          show Eqv (d + 1) _
          refine (Eqv.join (ih 0 (by decide))).app ?_
          rw [dj 0 (by decide)]
          refine (Eqv.one (c := 124) (Or.inl (by decide))).app ?_
          show Eqv (d + 1) _
          refine (Eqv.join (ih 1 (by decide))).app ?_
          rw [dj 1 (by decide)]
          exact Eqv.one (Or.inr (by omega))
/-- the law's fault is the tape's -/
theorem scanI_wd {g : Nat} (h9 : bd g ≤ 9) : scanI 0 (wd g) = scanF 0 (wd g) := (eqv_wd g g 0 (Nat.le_refl _) h9).1
