/-! THE TAPE: a game comes back from its words -/
theorem bd_all {n : Nat} (hn : 300 < n) : ∀ (k g : Nat), g ≤ k → can g → fits g → Bd n (prog g) [g] ∧ 1 ≤ (prog g).length
  | k, g, hg, cg, fg => by
    have w10 := fg.1
    have bw := bd_wid g
    have h9 : bd g ≤ 9 := by omega
    by_cases b1 : Bare g 1
    · obtain ⟨j, hj⟩ := bareR_pc cg b1
      have e : g = iz ((bd g : Nat) : Int) := by rw [iz_nn, hj, bd_pc]
      rw [prog_nn b1]
      refine ⟨?_, Nat.le_refl _⟩
      have := bd_int (n := n) hn h9
      rw [← e] at this
      exact this
    · by_cases b0 : Bare g 0
      · obtain ⟨j, hj⟩ := bareL_nc cg b0
        have e : gneg (iz ((bd g : Nat) : Int)) = g := by rw [iz_negz, iz_neg, hj, bd_nc]
        rw [prog_neg b0 b1]
        refine ⟨?_, by show 1 ≤ 2; decide⟩
        intro st gs m fuel i Q A hi hG B hb hK
        rw [show ([16 * bd g, 3] : List Nat).length = 2 from rfl] at hi hb hK ⊢
        rw [show fuel + 2 = (fuel + 1) + 1 by omega]
        have A1 : At (fun j => st.getD j 0) i [16 * bd g] := At.l (v := [3]) A
        have A2 : st.getD (i + 1) 0 = 3 := A.tl.hd
        refine bd_int (n := n) hn h9 st gs m (fuel + 1) i Q A1 (by show i + 1 ≤ st.length; omega) hG B (by show mNext m + 4 * 1 + 100 < _; omega) (fun m1 B1 f1 n1 => ?_)
        have n1 : mNext m1 ≤ mNext m + 4 * 1 := n1
        refine bd_neg hn (can_iz _) (fits_iz h9) (by rw [e]; exact fg) st gs m1 fuel (i + 1) Q A2 (by omega) (by omega) B1 (by omega) (fun m2 B2 f2 n2 => ?_)
        rw [e] at B2
        exact hK m2 B2 (f1.tr f2) (by omega)
      · by_cases h : g = hc (bd g)
        · rw [prog_hp b0 b1 h]
          refine ⟨?_, Nat.le_refl _⟩
          have := bd_hp (n := n) hn h9
          rw [← h] at this
          exact this
        · have sub : ∀ w, w < 2 → ∀ x, x ∈ so g w → Bd n (prog x) [x] ∧ 1 ≤ (prog x).length := by
            intro w hw x hx
            have hx := mem_so.mp hx
            have lt : x < g := op_lt hx
            obtain ⟨k', rfl⟩ : ∃ k', k = k' + 1 := ⟨k - 1, by omega⟩
            exact bd_all hn k' x (by omega) (can_fol cg (fol_op hw hx (fol_rf x))) (fits_fol cg fg (fol_op hw hx (fol_rf x)))
          have lenL : ∀ l : List Nat, (∀ x, x ∈ l → 1 ≤ (prog x).length) → l.length ≤ ((l.map prog).flatten).length := by
            intro l
            induction l with
            | nil => exact fun _ => Nat.le_refl _
            | cons a l ih =>
              intro hl
              have h1 := hl a (List.mem_cons_self ..)
              have h2 := ih (fun x hx => hl x (List.mem_cons_of_mem _ hx))
              rw [List.map_cons, List.flatten_cons, List.length_append, List.length_cons]
              omega
          have sl0 := so_len (g := g) (w := 0) (by decide)
          have sl1 := so_len (g := g) (w := 1) (by decide)
          have L0 : 0 < (so g 0).length := by
            apply Classical.byContradiction
            intro q
            refine b0 (fun x => ?_)
            cases e : op g 0 x
            · rfl
            · have h5 := mem_so.mpr e
              have h6 : so g 0 = [] := List.length_eq_zero_iff.mp (by omega)
              rw [h6] at h5
              cases h5
          have b := Bd.app (Bd.list (sub 0 (by decide))) (Bd.list (sub 1 (by decide))) (lenL _ (fun x hx => (sub 0 (by decide) x hx).2))
          have ll := lenL _ (fun x hx => (sub 0 (by decide) x hx).2)
          have lr := lenL _ (fun x hx => (sub 1 (by decide) x hx).2)
          obtain ⟨pL, epL⟩ : ∃ p, p = ((so g 0).map prog).flatten := ⟨_, rfl⟩
          obtain ⟨pR, epR⟩ : ∃ p, p = ((so g 1).map prog).flatten := ⟨_, rfl⟩
          rw [prog_br b0 b1 h]
          rw [← epL, ← epR] at b ⊢
          rw [← epL] at ll
          rw [← epR] at lr
          rw [← List.append_assoc]
          refine ⟨?_, by rw [List.length_append, List.length_singleton]; omega⟩
          intro st gs m fuel i Q A hi hG B hb hK
          rw [List.length_append, List.length_singleton] at hi hb hK ⊢
          rw [show fuel + ((pL ++ pR).length + 1) = (fuel + 1) + (pL ++ pR).length by omega]
          have A2 : st.getD (i + (pL ++ pR).length) 0 = 5 + 16 * (so g 0).length + 4096 * (so g 1).length := A.r.hd
          refine b st gs m (fuel + 1) i Q A.l (by omega) hG B (by omega) (fun m1 B1 f1 n1 => ?_)
          rw [List.length_append (as := so g 0)]
          refine bd_br hn cg fg (fun x => mem_so.symm) (fun x => mem_so.symm) (by omega) (by omega) L0 st gs m1 fuel (i + (pL ++ pR).length) Q A2 (by omega) (by omega) B1 (by omega) (fun m2 B2 f2 n2 => ?_)
          exact hK m2 B2 (f1.tr f2) (by omega)
theorem build_ok {n N g : Nat} {m : Mem} (hn : 300 < n) (hN : 200 < N) (cg : can g) (fg : fits g) (s1 : mGet m 41 7 = ((prog g).length : Int)) (s2 : (prog g).length ≤ 100) (s3 : ∀ i, i < (prog g).length → mGet m 43 i = ((prog g).getD i 0 : Int)) (hb : mNext m + 600 < 2147483648) : Ok (f_X7_build n N m) (fun v m' => (∃ o : Nat, v = (o : Int) ∧ GOb m' o g) ∧ Fr m m' SB ∧ mNext m' ≤ mNext m + 400) := by
  obtain ⟨B, _⟩ := bd_all (n := n) hn g g (Nat.le_refl _) cg fg
  have B0 : BS m [] (prog g) := ⟨s1, by omega, s3, Nat.zero_le _, fun j hj => absurd hj (Nat.not_lt_zero _)⟩
  rw [build_def]
  have eN : N = (N - (prog g).length) + (prog g).length := by omega
  have main := B (prog g) [] m (N - (prog g).length) 0 (fun v m' => (∃ o : Nat, v = (o : Int) ∧ GOb m' o g) ∧ Fr m m' SB ∧ mNext m' ≤ mNext m + 400) (fun j hj => by rw [Nat.zero_add]) (by omega) (Nat.le_refl _) B0 (by omega) (fun m1 B1 f1 n1 => by
    obtain ⟨f, ef⟩ : ∃ f, N - (prog g).length = f + 1 := ⟨N - (prog g).length - 1, by omega⟩
    rw [ef]
    obtain ⟨b1, _, _, _, b5⟩ := B1
    obtain ⟨o, o1, O, _⟩ := b5 0 (by show 0 < 1; decide)
    show Ok (bodyB n (lp (F := Int → Int → Mem → Option Rz) (fun _ _ _ => none) (bodyB n) f) (((([] : List Nat).length + [g].length : Nat) : Int)) ((0 + (prog g).length : Nat) : Int) m1) _
    unfold bodyB
    dsimp only [jn, nm, gtF]
    rw [b1, Nat.zero_add, if_neg (by omega)]
    have e0 : ldG m1 44 0 (fun x306 => rt (x306 : Nat) m1) = rt ((mGet m1 44 0).toNat : Nat) m1 := ldG_ok (i := 0) (kG44 m1) (by decide)
    rw [e0, o1, Int.toNat_natCast]
    exact ok_rt ⟨⟨o, rfl, O⟩, f1, by omega⟩)
  rw [← eN] at main
  exact main
theorem settle_o2 {n s o K : Nat} {γ : Nat → Nat} {m : Mem} (hn : 300 < n) (C : CI γ m) (hs : s < 8) (cK : can K) (fK : fits K) (O : GOb m o K) : Ok (f_X10_settle n (s : Int) o m) (fun r m' => r = (wid K : Int) ∧ CI (gset γ s K) m' ∧ Grow m m' ∧ mNext m' = mNext m ∧ ∀ a i, ¬ SH a → mGet m' a i = mGet m a i) := by
  unfold f_X10_settle
  rw [if_neg O.o.2.2.2]
  refine ok_cal (hold_ok hn C hs cK fK O) (fun _ m1 h1 => ?_)
  obtain ⟨C1, z1, f1⟩ := h1
  have g1 : Grow m m1 := hold_fr z1 f1 (fun a ha => by omega)
  have O1 := O.mono g1
  have f10 := fK.1
  rw [isD_ok O.o.1, isG_ok O1.o.2.2.1 O.o.1]
  refine ok_calE (width_eq O1 (by omega)) ?_
  exact ok_rt ⟨rfl, C1, g1, mNext_eq (by rw [z1]), f1⟩
theorem game_ok {n N s c g : Nat} {t : Nat → Nat} {γ : Nat → Nat} {m : Mem} (hn : 300 < n) (hN : 200 < N) (C : CI γ m) (hs : s < 8) (cg : can g) (fg : fits g) (X : TX m c t) (hc : c = (wd g).length) (A : At t 0 (wd g)) (hb : mNext m + 600 < 2147483648) : Ok (f_X10_game n N (s : Int) m) (fun v m' => (match scanF 0 (wd g) with
    | none => v = (wid g : Int) ∧ CI (gset γ s g) m'
    | some k => v = -10 - (k : Int) ∧ CI γ m') ∧ (∀ t', TX m' 0 t') ∧ Grow m m' ∧ mNext m' ≤ mNext m + 400) := by
  have w10 := fg.1
  have l100 := fg.2
  have bw := bd_wid g
  unfold f_X10_game
  refine ok_calE (isSlot_eq hs) ?_
  rw [if_neg (by decide)]
  refine ok_cal (parse_ok hn X (by omega) w10 hc (by omega) A) (fun v m1 h1 => ?_)
  obtain ⟨⟨z1, f1⟩, r⟩ := h1
  have e : f_X7_empty n m1 = some (0, mSet m1 41 4 0) := rfl
  refine ok_calE e ?_
  have G2 : ∀ a i, mGet (mSet m1 41 4 0) a i = if a = 41 ∧ i = 4 then 0 else mGet m1 a i := fun a i => by rw [mGet_mSet]; rfl
  obtain ⟨m2, e2⟩ : ∃ m2, m2 = mSet m1 41 4 0 := ⟨_, rfl⟩
  rw [← e2] at G2 ⊢
  have fr2 : Fr m m2 SC := f2_fr (by rw [e2]; exact z1) (fun a i ha => by
    rw [G2, if_neg (fun e => ha (by unfold SC; omega))]
    exact f1 a i (fun e => ha (by unfold SC; omega)) (fun e => ha (by unfold SC; omega))) (fun a ha => by omega)
  have C2 := C.fr fr2
  have n2 : mNext m2 = mNext m := mNext_eq (by rw [e2]; show m1.2.2 = _; rw [z1])
  have T2 : mGet m2 41 4 = 0 := by rw [G2, if_pos ⟨rfl, rfl⟩]
  cases es : scanF 0 (wd g) with
  | some k =>
    rw [es] at r
    have r : v = (k : Int) := r
    have kl : ∀ (w : List Nat) (d k : Nat), scanF d w = some k → k < w.length := by
      intro w
      induction w with
      | nil => intro d k h; cases h
      | cons x w ih =>
        intro d k h
        rw [scanF_cons] at h
        by_cases q : (x = 123 ∨ x = 45) ∧ d = 5
        · rw [if_pos q] at h
          cases h
          rw [List.length_cons]; omega
        · rw [if_neg q] at h
          cases e3 : scanF (if x = 123 then d + 1 else if x = 125 then d - 1 else d) w with
          | none => rw [e3] at h; cases h
          | some j =>
            rw [e3] at h
            have h4 : some (j + 1) = some k := h
            injection h4 with h4
            have := ih _ _ e3
            rw [List.length_cons]; omega
    have := kl _ _ _ es
    rw [r, if_neg (by omega), w32_id (x := -10 - (k : Int)) (by omega) (by omega)]
    exact ok_rt ⟨⟨rfl, C2⟩, fun t' => ⟨T2, fun i hi => absurd hi (Nat.not_lt_zero _)⟩, fr2.1, by omega⟩
  | none =>
    rw [es] at r
    obtain ⟨rfl, S⟩ := r
    rw [if_pos (by decide)]
    obtain ⟨⟨x1, x2⟩, c100, _, p5, s1, s2, s3⟩ := S
    -- the text is let go, the steps stay
    refine ok_cal (build_ok hn hN cg fg (by rw [G2, if_neg (by omega)]; exact s1) (by omega) (fun i hi => by rw [G2, if_neg (by omega)]; exact s3 i hi) (by omega)) (fun v3 m3 h3 => ?_)
    obtain ⟨⟨o, rfl, O⟩, f3, n3⟩ := h3
    rw [Int.toNat_natCast]
    have f3' : Fr m2 m3 SC := f3.weak (fun a h => by
      unfold SC
      rcases h with h | h
      · have := SM_SC h
        unfold SC at this
        exact this
      · omega)
    refine ok_cal (settle_o2 hn (C2.fr f3') hs cg fg O) (fun r m4 h4 => ?_)
    obtain ⟨rfl, C4, g4, n4, f4⟩ := h4
    have T4 : mGet m4 41 4 = 0 := by rw [f4 41 4 (by decide), f3.2 41 4 (by decide) (by decide)]; exact T2
    exact ok_rt ⟨⟨rfl, C4⟩, fun t' => ⟨T4, fun i hi => absurd hi (Nat.not_lt_zero _)⟩, (fr2.1.tr f3.1).tr g4, by omega⟩
theorem duel41 {n o1 o2 g h : Nat} {mir : Bool} {γ : Nat → Nat} {m : Mem} (hn : 300 < n) (C : CI γ m) (O1 : GOb m o1 g) (O2 : GOb m o2 h) (G1 : GX g) (G2 : GX h) : Ok (f_X0_fill n o1 o2 (b2i mir) m) (fun _ m' => CI γ m' ∧ Grow m m' ∧ mNext m' = mNext m ∧ DU m' o1 o2 g h mir ∧ mGet m' 41 4 = mGet m 41 4) := by
  refine ok_mono (fill_ok hn O1 O2 G1 G2) (fun _ m' q => ?_)
  obtain ⟨z, f, D⟩ := q
  have fr : Fr m m' SC := f2_fr z (fun a i ha => f a i (fun e => ha (by unfold SC; omega))) (fun a ha => by omega)
  exact ⟨C.fr fr, fr.1, mNext_eq (by rw [z]), D, f 41 4 (by decide)⟩
/-- the outcome of a slot, where the tape stays as it is -/
theorem slot4_y {n s : Nat} {γ : Nat → Nat} {m : Mem} (hn : 300 < n) (C : CI γ m) (hs : s < 8) : Ok (f_X10_slot n (s : Int) 4 m) (fun v m' => v = vd (γ s) ∧ Sm γ m m' ∧ mGet m' 41 4 = mGet m 41 4) := by
  obtain ⟨o, O, e⟩ := held_eq (n := n) hs (C.1 s hs)
  obtain ⟨cg, fg, _⟩ := C.1 s hs
  obtain ⟨z, Z, ez⟩ := zero_eq (n := n) C
  have G1 := fitsGX O cg fg
  have G2 := GX_0 Z
  have w1 := wid_pos (γ s)
  have w2 := wid_pos 0
  unfold f_X10_slot
  refine ok_calE (isSlot_eq hs) ?_
  rw [if_neg (by decide)]
  refine ok_calE e ?_
  rw [Int.toNat_natCast, if_neg (by decide), if_neg (by decide), if_neg (by decide), if_neg (by decide), if_pos rfl]
  refine ok_calE ez ?_
  rw [Int.toNat_natCast]
  refine ok_cal (P := fun v m' => v = vd (γ s) ∧ Sm γ m m' ∧ mGet m' 41 4 = mGet m 41 4) ?_ (fun v m' h => ok_rt h)
  unfold f_X10_sumOutcome
  refine ok_cal (duel41 (mir := false) hn C O Z G1 G2) (fun _ m1 h1 => ?_)
  obtain ⟨C1, g1, n1, D, k1⟩ := h1
  have O' := O.mono g1
  have Z' := Z.mono g1
  rw [isD_ok O.o.1, isG_ok O'.o.2.2.1 O.o.1]
  refine ok_calE (top_eq O' G1.1) ?_
  rw [isD_ok Z.o.1, isG_ok Z'.o.2.2.1 Z.o.1]
  refine ok_calE (top_eq Z' G2.1) ?_
  refine ok_calE (verdict_eq D G1.1 G2.1 (by omega) (by omega)) ?_
  rw [dpos_top G1 G2]
  refine ok_rt ⟨?_, ⟨C1, g1, by omega⟩, k1⟩
  show vd (gadd (γ s) 0) = _
  rw [gadd_0]
