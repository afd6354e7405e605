/-! THE DUEL: replies, fights -/
/-- behind a move of w: the other one, who moves then, doesn't win -/
def safe (w z : Nat) : Prop := if w = 0 then gle 0 z else gle z 0
/-- who moves first wins -/
def wins (w z : Nat) : Prop := if w = 0 then ¬ gle z 0 else ¬ gle 0 z
noncomputable def pB (p : Prop) : Bool := @decide p (Classical.propDecidable _)
theorem pB_iff {p : Prop} : pB p = true ↔ p := by unfold pB; exact @decide_eq_true_iff _ (Classical.propDecidable _)
theorem fr_first {p : Nat → Bool} {n N : Nat} (hn : n < N) (hp : p n = true) (h0 : ∀ k, k < n → p k = false) : ∃ l, fr p N = n :: l := by
  have h1 : fr p n = [] := by
    apply List.eq_nil_iff_forall_not_mem.mpr
    intro k hk
    obtain ⟨a, b⟩ := mem_fr.mp hk
    rw [h0 k a] at b; cases b
  have h2 : fr p (n + 1) = [n] := by rw [fr_succ, h1, hp]; rfl
  have aux : ∀ M, n + 1 ≤ M → ∃ l, fr p M = n :: l := by
    intro M hM
    induction M with
    | zero => omega
    | succ M ih =>
      rcases (by omega : n + 1 ≤ M ∨ n + 1 = M + 1) with h | h
      · obtain ⟨l, e⟩ := ih h
        exact ⟨l ++ (if p M then [M] else []), by rw [fr_succ, e]; rfl⟩
      · exact ⟨[], by rw [← h]; exact h2⟩
  exact aux N hn
theorem fr_none {p : Nat → Bool} {N : Nat} (h : ∀ k, k < N → p k = false) : fr p N = [] := by
  apply List.eq_nil_iff_forall_not_mem.mpr
  intro k hk
  obtain ⟨a, b⟩ := mem_fr.mp hk
  rw [h k a] at b; cases b
/-- the moves in the first game, in the second one, that are safe -/
noncomputable def ma (g h i j w : Nat) (n : Nat) : Bool := pB (∃ k : Nat, nb g i w (n : Int) = (k : Int) ∧ safe w (dpos g h false k j))
noncomputable def mb (g h i j w : Nat) (n : Nat) : Bool := pB (∃ k : Nat, nb h j w (n : Int) = (k : Int) ∧ safe w (dpos g h false i k))
noncomputable def bm (g h i j w : Nat) : Int := match fr (ma g h i j w) 11 with
  | n :: _ => (n : Int)
  | [] => match fr (mb g h i j w) 11 with
    | n :: _ => ((32 + n : Nat) : Int)
    | [] => -1
theorem DU.safe {m : Mem} {o1 o2 g h : Nat} (D : DU m o1 o2 g h false) {w i : Nat} (hw : w < 2) (hi : i < wid g) : ∃ x : Nat, mGet m (34 + w) i = (x : Int) ∧ x < 2 ^ wid h ∧ ∀ b, b < wid h → (x.testBit b = true ↔ safe w (dpos g h false i b)) := by
  rcases (by omega : w = 0 ∨ w = 1) with rfl | rfl
  · exact (D.2.2 i hi).1
  · exact (D.2.2 i hi).2
theorem nb_lt {g k w : Nat} {i : Int} {j : Nat} (h : nb g k w i = (j : Int)) : j < wid g ∧ (om g k w).testBit j = true := by
  obtain ⟨j2, h1, h2, h3⟩ := nb_mem (g := g) (k := k) (w := w) (i := i) (by omega)
  have : j = j2 := by omega
  rw [this]
  exact ⟨h2, h3⟩
theorem nb_neg {g k w : Nat} {i : Int} (h : ¬ ∃ j : Nat, nb g k w i = (j : Int)) : nb g k w i < 0 := by
  apply Classical.byContradiction
  intro q
  obtain ⟨j, h1, _⟩ := nb_mem (g := g) (k := k) (w := w) (i := i) (by omega)
  exact h ⟨j, h1⟩
set_option maxHeartbeats 1000000 in
theorem bestMove_eq {n o1 o2 g h i j w : Nat} {m : Mem} (hn : 300 < n) (O1 : GOb m o1 g) (O2 : GOb m o2 h) (D : DU m o1 o2 g h false) (Wg : wid g ≤ 11) (Wh : wid h ≤ 11) (hi : i < wid g) (hj : j < wid h) (hw : w < 2) : f_X0_bestMove n (i : Int) (j : Int) (w : Int) m = some (bm g h i j w, m) := by
  obtain ⟨a1, a2, a3, _⟩ := O1.o
  obtain ⟨c1, c2, c3, _⟩ := O2.o
  obtain ⟨d2, d3, _⟩ := id D
  have p11 := p2_11 Wh
  refine ok_eq ?_
  have key : ∀ s, s = 34 + w → Ok (lp (F := Int → Mem → Option Rz) (fun _ _ => none) (fun w20 v5_20 m20 =>
      if v5_20 < 11 then (
        gtG m20 33 2 fun x28 =>
        isD x28 <|
        isG m20 x28 <| cal (f_X1_numbered n x28 (i : Int) (w : Int) v5_20 m20) fun x35 m35 =>
        jn (fun (m68 : Mem) =>
          w20 (w32 (v5_20 + 1)) m68
        ) fun (j68 : Mem → Option Rz) =>
        if x35 < 0 then (
          j68 m35
        ) else
        lenA m35 s fun x49 =>
        if x35 < x49 then (
          ldI m35 s x35 fun x57 =>
          if iand (ishr x57 (j : Int)) 1 = 0 then (
            j68 m35
          ) else
          rt v5_20 m35
        ) else
        j68 m35
      ) else
      lp (F := Int → Mem → Option Rz) (fun _ _ => none) (fun w77 v5_77 m77 =>
        if v5_77 < 11 then (
          gtG m77 33 3 fun x85 =>
          isD x85 <|
          isG m77 x85 <| cal (f_X1_numbered n x85 (j : Int) (w : Int) v5_77 m77) fun x92 m92 =>
          jn (fun (m131 : Mem) =>
            w77 (w32 (v5_77 + 1)) m131
          ) fun (j131 : Mem → Option Rz) =>
          if x92 < 0 then (
            j131 m92
          ) else
          if (i : Int) < 0 then (
            j131 m92
          ) else
          lenA m92 s fun x109 =>
          if (i : Int) < x109 then (
            ldI m92 s (i : Int) fun x116 =>
            if iand (ishr x116 x92) 1 = 0 then (
              j131 m92
            ) else
            rt (w32 (32 + v5_77)) m92
          ) else
          j131 m92
        ) else
        rt (-1) m77
      ) n 0 m20
    ) n 0 m) (fun a m' => m' = m ∧ a = bm g h i j w) := by
    intro s es
    have ks : sKind m s = (1, 11) := kI34 m (by omega)
    refine ok_up1 11 (fun q m1 => m1 = m ∧ ∀ k, k < q → ma g h i j w k = false) (fun w1 q m1 hq hI hw1 => ?_) (fun w1 m1 hI => ?_) n 0 m (Nat.zero_le _) ⟨rfl, fun k hk => absurd hk (Nat.not_lt_zero _)⟩ (by omega)
    · obtain ⟨rfl, hI⟩ := hI
      rw [if_pos (by omega)]
      dsimp only [gtG]
      rw [d2, Int.toNat_natCast, isD_ok a1, isG_ok a3 a1]
      refine ok_calE (numbered_eq hn O1 Wg hw) ?_
      dsimp only [jn]
      rw [k_1 (by omega)]
      have next : ma g h i j w q = false → Ok (w1 ((q + 1 : Nat) : Int) m1) (fun a m' => m' = m1 ∧ a = bm g h i j w) := fun hf => hw1 m1 ⟨rfl, fun k hk => by
        rcases (by omega : k < q ∨ k = q) with h1 | rfl
        · exact hI k h1
        · exact hf⟩
      by_cases e : ∃ k : Nat, nb g i w (q : Int) = (k : Int)
      · obtain ⟨k, ek⟩ := e
        obtain ⟨lk, _⟩ := nb_lt ek
        rw [ek, if_neg (by omega), lenA_ok ks (by decide) (by decide) (by decide), if_pos (by omega), ldI_ok ks (by omega)]
        obtain ⟨x, x1, x2, x3⟩ := D.safe hw lk
        rw [← es] at x1
        rw [x1]
        have px := ibit0 (x := x) (g := j) (by omega) (by omega)
        by_cases hs : safe w (dpos g h false k j)
        · rw [if_neg (fun z => by have := px.mp z; rw [(x3 j hj).mpr hs] at this; cases this)]
          refine ok_rt ⟨rfl, ?_⟩
          obtain ⟨l, el⟩ := fr_first (p := ma g h i j w) hq (pB_iff.mpr ⟨k, ek, hs⟩) hI
          unfold bm
          rw [el]
        · rw [if_pos (px.mpr (by cases e2 : x.testBit j; rfl; exact absurd ((x3 j hj).mp e2) hs))]
          refine next ?_
          cases e2 : ma g h i j w q
          · rfl
          · obtain ⟨k2, h1, h2⟩ := pB_iff.mp e2
            have : k2 = k := by omega
            rw [this] at h2
            exact absurd h2 hs
      · rw [if_pos (nb_neg e)]
        refine next ?_
        cases e2 : ma g h i j w q
        · rfl
        · obtain ⟨k2, h1, h2⟩ := pB_iff.mp e2
          exact absurd ⟨k2, h1⟩ e
    · obtain ⟨rfl, hI⟩ := hI
      rw [if_neg (by omega)]
      have na : fr (ma g h i j w) 11 = [] := fr_none hI
      refine ok_up1 11 (fun q m2 => m2 = m1 ∧ ∀ k, k < q → mb g h i j w k = false) (fun w2 q m2 hq hJ hw2 => ?_) (fun w2 m2 hJ => ?_) n 0 m1 (Nat.zero_le _) ⟨rfl, fun k hk => absurd hk (Nat.not_lt_zero _)⟩ (by omega)
      · obtain ⟨rfl, hJ⟩ := hJ
        rw [if_pos (by omega)]
        dsimp only [gtG]
        rw [d3, Int.toNat_natCast, isD_ok c1, isG_ok c3 c1]
        refine ok_calE (numbered_eq hn O2 Wh hw) ?_
        dsimp only [jn]
        rw [k_1 (by omega)]
        have next : mb g h i j w q = false → Ok (w2 ((q + 1 : Nat) : Int) m2) (fun a m' => m' = m2 ∧ a = bm g h i j w) := fun hf => hw2 m2 ⟨rfl, fun k hk => by
          rcases (by omega : k < q ∨ k = q) with h1 | rfl
          · exact hJ k h1
          · exact hf⟩
        obtain ⟨x, x1, x2, x3⟩ := D.safe hw hi
        rw [← es] at x1
        by_cases e : ∃ k : Nat, nb h j w (q : Int) = (k : Int)
        · obtain ⟨k, ek⟩ := e
          obtain ⟨lk, _⟩ := nb_lt ek
          rw [ek, if_neg (by omega), if_neg (by omega), lenA_ok ks (by decide) (by decide) (by decide), if_pos (by omega), ldI_ok ks (by omega), x1]
          have px := ibit0 (x := x) (g := k) (by omega) (by omega)
          by_cases hs : safe w (dpos g h false i k)
          · rw [if_neg (fun z => by have := px.mp z; rw [(x3 k lk).mpr hs] at this; cases this), w32_id (by omega) (by omega)]
            refine ok_rt ⟨rfl, ?_⟩
            obtain ⟨l, el⟩ := fr_first (p := mb g h i j w) hq (pB_iff.mpr ⟨k, ek, hs⟩) hJ
            unfold bm
            rw [na, el]
            show 32 + (q : Int) = ((32 + q : Nat) : Int)
            omega
          · rw [if_pos (px.mpr (by cases e2 : x.testBit k; rfl; exact absurd ((x3 k lk).mp e2) hs))]
            refine next ?_
            cases e2 : mb g h i j w q
            · rfl
            · obtain ⟨k2, h1, h2⟩ := pB_iff.mp e2
              have : k2 = k := by omega
              rw [this] at h2
              exact absurd h2 hs
        · rw [if_pos (nb_neg e)]
          refine next ?_
          cases e2 : mb g h i j w q
          · rfl
          · obtain ⟨k2, h1, h2⟩ := pB_iff.mp e2
            exact absurd ⟨k2, h1⟩ e
      · obtain ⟨rfl, hJ⟩ := hJ
        rw [if_neg (by omega)]
        refine ok_rt ⟨rfl, ?_⟩
        unfold bm
        rw [na, fr_none hJ]
  unfold f_X0_bestMove
  dsimp only [jn]
  rcases (by omega : w = 0 ∨ w = 1) with rfl | rfl
  · rw [if_pos (by decide)]
    exact key 34 rfl
  · rw [if_neg (by decide)]
    exact key 35 rfl
/-- what the best move tells -/
theorem bm_cases (g h i j w : Nat) : (∃ n k : Nat, bm g h i j w = (n : Int) ∧ n < 11 ∧ nb g i w (n : Int) = (k : Int) ∧ safe w (dpos g h false k j)) ∨ (∃ n k : Nat, bm g h i j w = ((32 + n : Nat) : Int) ∧ n < 11 ∧ nb h j w (n : Int) = (k : Int) ∧ safe w (dpos g h false i k)) ∨ (bm g h i j w = -1 ∧ (∀ n k : Nat, n < 11 → nb g i w (n : Int) = (k : Int) → ¬ safe w (dpos g h false k j)) ∧ ∀ n k : Nat, n < 11 → nb h j w (n : Int) = (k : Int) → ¬ safe w (dpos g h false i k)) := by
  unfold bm
  cases e1 : fr (ma g h i j w) 11 with
  | cons n l =>
    obtain ⟨h1, h2⟩ := mem_fr.mp (by rw [e1]; exact List.mem_cons_self : n ∈ fr (ma g h i j w) 11)
    obtain ⟨k, h3, h4⟩ := pB_iff.mp h2
    exact Or.inl ⟨n, k, rfl, h1, h3, h4⟩
  | nil =>
    have na : ∀ n k : Nat, n < 11 → nb g i w (n : Int) = (k : Int) → ¬ safe w (dpos g h false k j) := fun n k hn hk hs => by
      have : n ∈ fr (ma g h i j w) 11 := mem_fr.mpr ⟨hn, pB_iff.mpr ⟨k, hk, hs⟩⟩
      rw [e1] at this; cases this
    cases e2 : fr (mb g h i j w) 11 with
    | cons n l =>
      obtain ⟨h1, h2⟩ := mem_fr.mp (by rw [e2]; exact List.mem_cons_self : n ∈ fr (mb g h i j w) 11)
      obtain ⟨k, h3, h4⟩ := pB_iff.mp h2
      exact Or.inr (Or.inl ⟨n, k, rfl, h1, h3, h4⟩)
    | nil =>
      refine Or.inr (Or.inr ⟨rfl, na, fun n k hn hk hs => ?_⟩)
      have : n ∈ fr (mb g h i j w) 11 := mem_fr.mpr ⟨hn, pB_iff.mpr ⟨k, hk, hs⟩⟩
      rw [e2] at this; cases this
/-- who moves first wins just if there is a safe move -/
theorem wins_iff {g h i j w : Nat} (Gg : GX g) (Gh : GX h) (hi : i < wid g) (hj : j < wid h) (hw : w < 2) : wins w (dpos g h false i j) ↔ (∃ k, (om g i w).testBit k = true ∧ safe w (dpos g h false k j)) ∨ ∃ b, (om h j w).testBit b = true ∧ safe w (dpos g h false i b) := by
  have ho := fun z => dpos_op (z := z) (mir := false) Gg Gh hi hj hw
  have ew : dwho false w = w := rfl
  rw [ew] at ho
  rcases (by omega : w = 0 ∨ w = 1) with rfl | rfl
  · show ¬ gle _ 0 ↔ (∃ k, _ ∧ gle 0 _) ∨ ∃ b, _ ∧ gle 0 _
    rw [not_gle]
    constructor
    · rintro (⟨x, hx, h1⟩ | ⟨y, hy, _⟩)
      · rcases (ho x).mp hx with ⟨k, h3, rfl⟩ | ⟨b, h3, rfl⟩
        · exact Or.inl ⟨k, h3, h1⟩
        · exact Or.inr ⟨b, h3, h1⟩
      · rw [op_0] at hy; cases hy
    · rintro (⟨k, h3, h1⟩ | ⟨b, h3, h1⟩)
      · exact Or.inl ⟨_, (ho _).mpr (Or.inl ⟨k, h3, rfl⟩), h1⟩
      · exact Or.inl ⟨_, (ho _).mpr (Or.inr ⟨b, h3, rfl⟩), h1⟩
  · show ¬ gle 0 _ ↔ (∃ k, _ ∧ gle _ 0) ∨ ∃ b, _ ∧ gle _ 0
    rw [not_gle]
    constructor
    · rintro (⟨y, hy, _⟩ | ⟨x, hx, h1⟩)
      · rw [op_0] at hy; cases hy
      · rcases (ho x).mp hx with ⟨k, h3, rfl⟩ | ⟨b, h3, rfl⟩
        · exact Or.inl ⟨k, h3, h1⟩
        · exact Or.inr ⟨b, h3, h1⟩
    · rintro (⟨k, h3, h1⟩ | ⟨b, h3, h1⟩)
      · exact Or.inr ⟨_, (ho _).mpr (Or.inl ⟨k, h3, rfl⟩), h1⟩
      · exact Or.inr ⟨_, (ho _).mpr (Or.inr ⟨b, h3, rfl⟩), h1⟩
theorem bm_wins {g h i j w : Nat} (Gg : GX g) (Gh : GX h) (hi : i < wid g) (hj : j < wid h) (hw : w < 2) : bm g h i j w = -1 ↔ ¬ wins w (dpos g h false i j) := by
  have Wg := Gg.1
  have Wh := Gh.1
  rw [wins_iff Gg Gh hi hj hw]
  constructor
  · intro e
    rcases bm_cases g h i j w with ⟨n, k, e1, _⟩ | ⟨n, k, e1, _⟩ | ⟨_, h1, h2⟩
    · omega
    · omega
    · rintro (⟨k, h3, h4⟩ | ⟨b, h3, h4⟩)
      · obtain ⟨n, hn, e2⟩ := nb_ex h3
        exact h1 n k (by omega) e2 h4
      · obtain ⟨n, hn, e2⟩ := nb_ex h3
        exact h2 n b (by omega) e2 h4
  · intro hno
    rcases bm_cases g h i j w with ⟨n, k, e1, _, h3, h4⟩ | ⟨n, k, e1, _, h3, h4⟩ | ⟨e1, _⟩
    · exact absurd (Or.inl ⟨k, (nb_lt h3).2, h4⟩) hno
    · exact absurd (Or.inr ⟨k, (nb_lt h3).2, h4⟩) hno
    · exact e1
theorem safe_wins {w z : Nat} (hw : w < 2) : safe w z ↔ ¬ wins (1 - w) z := by
  rcases (by omega : w = 0 ∨ w = 1) with rfl | rfl
  · show gle 0 z ↔ ¬ ¬ gle 0 z
    exact ⟨fun h q => q h, fun h => Classical.byContradiction h⟩
  · show gle z 0 ↔ ¬ ¬ gle z 0
    exact ⟨fun h q => q h, fun h => Classical.byContradiction h⟩
theorem nb_zero {g k w : Nat} (h : om g k w ≠ 0) : ∃ j : Nat, nb g k w 0 = (j : Int) := by
  obtain ⟨j, hj⟩ := Nat.exists_testBit_of_ne_zero h
  obtain ⟨i, _, e⟩ := nb_ex hj
  unfold nb at e ⊢
  by_cases q : 0 ≤ (i : Int) ∧ (i : Int) < ((nbl g k w (wid g)).length : Int)
  · rw [if_pos (by omega)]
    exact ⟨_, rfl⟩
  · rw [if_neg q] at e
    omega
theorem gameOf_eq {n : Nat} {x : Int} {m : Mem} : f_X0_gameOf n x m = some (if x < 32 then 0 else 1, m) := by
  unfold f_X0_gameOf
  dsimp only [jn]
  split <;> rfl
theorem numberOf_nat {n k : Nat} {m : Mem} (h : k < 64) : f_X0_numberOf n (k : Int) m = some (((k % 32 : Nat) : Int), m) := by
  unfold f_X0_numberOf
  have : iand (k : Int) 31 = (k : Int) % ((2 ^ 5 : Nat) : Int) := iand_mask (k : Int) 5 (by decide)
  rw [this]
  unfold rt
  congr 2
theorem firstMove_eq {n o1 o2 g h i j w : Nat} {m : Mem} (O1 : GOb m o1 g) (O2 : GOb m o2 h) (d2 : mGet m 33 2 = (o1 : Int)) (d3 : mGet m 33 3 = (o2 : Int)) (Wg : wid g ≤ 11) (Wh : wid h ≤ 11) (hw : w < 2) : f_X0_firstMove n (i : Int) (j : Int) (w : Int) m = some (if om g i w = 0 then (if om h j w = 0 then -1 else 32) else 0, m) := by
  obtain ⟨a1, a2, a3, _⟩ := O1.o
  obtain ⟨c1, c2, c3, _⟩ := O2.o
  unfold f_X0_firstMove
  dsimp only [gtG, jn]
  rw [d2, Int.toNat_natCast, isD_ok a1, isG_ok a3 a1, options_eq O1 Wg hw]
  dsimp only [cal]
  by_cases q : om g i w = 0
  · rw [if_pos (by omega), if_pos q, d3, Int.toNat_natCast, isD_ok c1, isG_ok c3 c1, options_eq O2 Wh hw]
    dsimp only
    by_cases q2 : om h j w = 0
    · rw [if_pos (by omega), if_pos q2]; rfl
    · rw [if_neg (by omega), if_neg q2]; rfl
  · rw [if_neg (by omega), if_neg q]; rfl
theorem iand1_nat (x : Nat) : iand (x : Int) 1 = ((x % 2 : Nat) : Int) := by rw [iand_1]; omega
/-- a fight, told to its end -/
theorem fought_ok {n o1 o2 g h w0 : Nat} {m : Mem} (hn : 300 < n) (O1 : GOb m o1 g) (O2 : GOb m o2 h) (D : DU m o1 o2 g h false) (Gg : GX g) (Gh : GX h) (W1 : wid g ≤ 10) (W2 : wid h ≤ 10) (hw : w0 < 2) : Ok (f_X0_fought n (w0 : Int) m) (fun v m' => m' = m ∧ ∃ M : Nat, v = (M : Int) ∧ M ≤ 20 ∧ (M % 2 = 1 ↔ wins w0 (dpos g h false (wid g - 1) (wid h - 1)))) := by
  have Wg := Gg.1
  have Wh := Gh.1
  have wp := wid_pos g
  have wq := wid_pos h
  obtain ⟨a1, a2, a3, _⟩ := O1.o
  obtain ⟨c1, c2, c3, _⟩ := O2.o
  obtain ⟨d2, d3, _⟩ := id D
  unfold f_X0_fought
  dsimp only [gtG]
  rw [d2, Int.toNat_natCast, isD_ok a1, isG_ok a3 a1]
  refine ok_calE (top_eq O1 Wg) ?_
  rw [d3, Int.toNat_natCast, isD_ok c1, isG_ok c3 c1]
  refine ok_calE (top_eq O2 Wh) ?_
  refine ok_lp3 (fun a b c m1 => m1 = m ∧ ∃ i j M : Nat, a = (i : Int) ∧ b = (j : Int) ∧ c = (M : Int) ∧ i < wid g ∧ j < wid h ∧ M + i + j ≤ 20 ∧ ((wins w0 (dpos g h false (wid g - 1) (wid h - 1))) ↔ (wins ((w0 + M) % 2) (dpos g h false i j) ↔ M % 2 = 0))) (fun a b c m1 => (a + b).toNat) (fun w a b c m1 hI hw1 => ?_) n _ _ 0 m ⟨rfl, wid g - 1, wid h - 1, 0, rfl, rfl, rfl, by omega, by omega, by omega, by rw [show (w0 + 0) % 2 = w0 by omega]; simp⟩ (by omega)
  obtain ⟨rfl, i, j, M, rfl, rfl, rfl, hi, hj, hM, hpar⟩ := hI
  dsimp only [jn]
  obtain ⟨w9, ew⟩ : ∃ w9, w9 = (w0 + M) % 2 := ⟨_, rfl⟩
  have w92 : w9 < 2 := by omega
  rw [← ew] at hpar
  have fin : ¬ wins w9 (dpos g h false i j) → Ok (rt (M : Int) m1) (fun v m' => m' = m1 ∧ ∃ M : Nat, v = (M : Int) ∧ M ≤ 20 ∧ (M % 2 = 1 ↔ wins w0 (dpos g h false (wid g - 1) (wid h - 1)))) := by
    intro hno
    refine ok_rt ⟨rfl, M, rfl, by omega, ?_⟩
    rw [hpar]
    constructor
    · intro h1; exact ⟨fun h2 => absurd h2 hno, fun h2 => by omega⟩
    · intro h1
      rcases Nat.mod_two_eq_zero_or_one M with h2 | h2
      · exact absurd (h1.mpr h2) hno
      · exact h2
  rw [if_pos (by omega)]
  dsimp only [nm]
  rw [w32_id (x := (w0 : Int) + (M : Int)) (by omega) (by omega), show (w0 : Int) + (M : Int) = ((w0 + M : Nat) : Int) by omega, iand1_nat, ← ew]
  refine ok_calE (bestMove_eq hn O1 O2 D Wg Wh hi hj w92) ?_
  have e1 : w32 ((M : Int) + 1) = ((M + 1 : Nat) : Int) := k_1 (by omega)
  -- what stands behind a move
  have par2 : (w0 + (M + 1)) % 2 = 1 - w9 := by omega
  have next : ∀ i2 j2 : Nat, i2 < wid g → j2 < wid h → i2 + j2 < i + j → (wins w9 (dpos g h false i j) ↔ ¬ wins (1 - w9) (dpos g h false i2 j2)) → Ok (w (i2 : Int) (j2 : Int) ((M + 1 : Nat) : Int) m1) (fun v m' => m' = m1 ∧ ∃ M : Nat, v = (M : Int) ∧ M ≤ 20 ∧ (M % 2 = 1 ↔ wins w0 (dpos g h false (wid g - 1) (wid h - 1)))) := by
    intro i2 j2 h1 h2 h3 h4
    refine hw1 _ _ _ m1 ⟨rfl, i2, j2, M + 1, rfl, rfl, rfl, h1, h2, by omega, ?_⟩ (by omega)
    rw [par2, hpar, h4]
    rcases Nat.mod_two_eq_zero_or_one M with q | q
    · have q2 : ¬ (M + 1) % 2 = 0 := by omega
      simp [q, q2]
    · have q2 : (M + 1) % 2 = 0 := by omega
      have q3 : ¬ M % 2 = 0 := by omega
      simp [q3, q2]
  have mvA : ∀ (k q : Nat), nb g i w9 (q : Int) = (k : Int) → q < 32 → ∀ m2, m2 = m1 → (wins w9 (dpos g h false i j) ↔ ¬ wins (1 - w9) (dpos g h false k j)) → Ok (cal (f_X0_gameOf n (q : Int) m2) fun x69 m69 => if x69 = 0 then cal (f_X0_numberOf n (q : Int) m69) fun x84 m84 => isD (mGet m69 33 2).toNat <| isG m84 (mGet m69 33 2).toNat <| cal (f_X1_numbered n (mGet m69 33 2).toNat (i : Int) (w9 : Int) x84 m84) fun x87 m87 => w x87 (j : Int) (w32 ((M : Int) + 1)) m87 else cal (f_X0_numberOf n (q : Int) m69) fun x103 m103 => isD (mGet m69 33 3).toNat <| isG m103 (mGet m69 33 3).toNat <| cal (f_X1_numbered n (mGet m69 33 3).toNat (j : Int) (w9 : Int) x103 m103) fun x106 m106 => w (i : Int) x106 (w32 ((M : Int) + 1)) m106) (fun v m' => m' = m1 ∧ ∃ M : Nat, v = (M : Int) ∧ M ≤ 20 ∧ (M % 2 = 1 ↔ wins w0 (dpos g h false (wid g - 1) (wid h - 1)))) := by
    intro k q hq hq2 m2 e hwin
    rw [e]
    obtain ⟨lk, lb⟩ := nb_lt hq
    have lt := (om_bit.mp lb).2.1
    refine ok_calE gameOf_eq ?_
    rw [if_pos (by omega)]
    refine ok_calE (numberOf_nat (by omega)) ?_
    rw [d2, Int.toNat_natCast, isD_ok a1, isG_ok a3 a1, Nat.mod_eq_of_lt hq2]
    refine ok_calE (numbered_eq hn O1 Wg w92) ?_
    rw [hq, e1]
    exact next k j lk hj (by omega) hwin
  have mvB : ∀ (k q : Nat), nb h j w9 (q : Int) = (k : Int) → q < 32 → ∀ m2, m2 = m1 → (wins w9 (dpos g h false i j) ↔ ¬ wins (1 - w9) (dpos g h false i k)) → Ok (cal (f_X0_gameOf n ((32 + q : Nat) : Int) m2) fun x69 m69 => if x69 = 0 then cal (f_X0_numberOf n ((32 + q : Nat) : Int) m69) fun x84 m84 => isD (mGet m69 33 2).toNat <| isG m84 (mGet m69 33 2).toNat <| cal (f_X1_numbered n (mGet m69 33 2).toNat (i : Int) (w9 : Int) x84 m84) fun x87 m87 => w x87 (j : Int) (w32 ((M : Int) + 1)) m87 else cal (f_X0_numberOf n ((32 + q : Nat) : Int) m69) fun x103 m103 => isD (mGet m69 33 3).toNat <| isG m103 (mGet m69 33 3).toNat <| cal (f_X1_numbered n (mGet m69 33 3).toNat (j : Int) (w9 : Int) x103 m103) fun x106 m106 => w (i : Int) x106 (w32 ((M : Int) + 1)) m106) (fun v m' => m' = m1 ∧ ∃ M : Nat, v = (M : Int) ∧ M ≤ 20 ∧ (M % 2 = 1 ↔ wins w0 (dpos g h false (wid g - 1) (wid h - 1)))) := by
    intro k q hq hq2 m2 e hwin
    rw [e]
    obtain ⟨lk, lb⟩ := nb_lt hq
    have lt := (om_bit.mp lb).2.1
    refine ok_calE gameOf_eq ?_
    rw [if_neg (by omega)]
    refine ok_calE (numberOf_nat (by omega)) ?_
    rw [d3, Int.toNat_natCast, isD_ok c1, isG_ok c3 c1, show (32 + q) % 32 = q by omega]
    refine ok_calE (numbered_eq hn O2 Wh w92) ?_
    rw [hq, e1]
    exact next i k hi lk (by omega) hwin
  rcases bm_cases g h i j w9 with ⟨q, k, e2, hq, h3, h4⟩ | ⟨q, k, e2, hq, h3, h4⟩ | ⟨e2, h3, h4⟩
  · have wn : wins w9 (dpos g h false i j) := (wins_iff Gg Gh hi hj w92).mpr (Or.inl ⟨k, (nb_lt h3).2, h4⟩)
    have nw : ¬ wins (1 - w9) (dpos g h false k j) := (safe_wins w92).mp h4
    rw [e2, if_neg (by omega), if_neg (by omega)]
    exact mvA k q h3 (by omega) m1 rfl ⟨fun _ => nw, fun _ => wn⟩
  · have wn : wins w9 (dpos g h false i j) := (wins_iff Gg Gh hi hj w92).mpr (Or.inr ⟨k, (nb_lt h3).2, h4⟩)
    have nw : ¬ wins (1 - w9) (dpos g h false i k) := (safe_wins w92).mp h4
    rw [e2, if_neg (by omega), if_neg (by omega)]
    exact mvB k q h3 (by omega) m1 rfl ⟨fun _ => nw, fun _ => wn⟩
  · have nwn : ¬ wins w9 (dpos g h false i j) := (bm_wins Gg Gh hi hj w92).mp e2
    rw [e2, if_pos (by decide)]
    refine ok_calE (firstMove_eq O1 O2 d2 d3 Wg Wh w92) ?_
    by_cases q1 : om g i w9 = 0
    · rw [if_pos q1]
      by_cases q2 : om h j w9 = 0
      · rw [if_pos q2, if_pos (by decide)]
        exact fin nwn
      · rw [if_neg q2, if_neg (by decide)]
        obtain ⟨k, hk⟩ := nb_zero q2
        have ns := h4 0 k (by decide) hk
        exact mvB k 0 hk (by decide) m1 rfl ⟨fun z => absurd z nwn, fun z => absurd ((safe_wins w92).mpr z) ns⟩
    · rw [if_neg q1, if_neg (by decide)]
      obtain ⟨k, hk⟩ := nb_zero q1
      have ns := h3 0 k (by decide) hk
      exact mvA k 0 hk (by decide) m1 rfl ⟨fun z => absurd z nwn, fun z => absurd ((safe_wins w92).mpr z) ns⟩
