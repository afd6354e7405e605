/-! THE CLASS: what is asked of slots -/
theorem fol_gneg_aux : ∀ (n g x : Nat), g ≤ n → fol g x → fol (gneg g) (gneg x)
  | n, g, x, hn, h => by
    rcases (fol_def g x).mp h with rfl | ⟨y, hy, h2⟩
    · exact fol_rf _
    · have lt : y < g := hy.elim op_lt op_lt
      obtain ⟨k, rfl⟩ : ∃ k, n = k + 1 := ⟨n - 1, by omega⟩
      have ih := fol_gneg_aux k y x (by omega) h2
      rcases hy with hy | hy
      · exact fol_op (w := 1) (by decide) (gneg_op (by decide) hy) ih
      · exact fol_op (w := 0) (by decide) (gneg_op (by decide) hy) ih
theorem fol_gneg {g x : Nat} (h : fol g x) : fol (gneg g) (gneg x) := fol_gneg_aux g g x (Nat.le_refl _) h
theorem wid_gneg (g : Nat) : wid (gneg g) = wid g := by
  rw [wid_of (g := gneg g) (l := (fls g).map gneg) (nodup_map (nodup_fr _ _) (fun a _ b _ e => by rw [← gneg_neg a, e, gneg_neg])) (fun x => ?_), List.length_map]
  · rfl
  · rw [List.mem_map]
    constructor
    · rintro ⟨y, hy, rfl⟩
      exact fol_gneg (mem_fls.mp hy)
    · intro h
      refine ⟨gneg x, mem_fls.mpr ?_, gneg_neg x⟩
      have := fol_gneg h
      rw [gneg_neg] at this
      exact this
theorem wid_iz (z : Int) : wid (iz z) = z.natAbs + 1 := by
  have up : ∀ n : Nat, wid (iz (n : Int)) = n + 1 := by
    intro n
    rw [wid_of (g := iz (n : Int)) (l := (List.range (n + 1)).map (fun (k : Nat) => iz (k : Int))) (nodup_map List.nodup_range (fun a _ b _ e => by
      have := iz_inj (show geq (iz (a : Int)) (iz (b : Int)) by rw [e]; exact geq_rfl _)
      omega)) (fun x => ?_), List.length_map, List.length_range]
    rw [List.mem_map]
    constructor
    · rintro ⟨k, hk, rfl⟩
      have hk := List.mem_range.mp hk
      have dn : ∀ d k : Nat, fol (iz ((k + d : Nat) : Int)) (iz (k : Int)) := by
        intro d
        induction d with
        | zero => exact fun k => fol_rf _
        | succ d ih =>
          intro k
          exact fol_op (w := 0) (by decide) (iz_L.mpr ⟨by omega, by rw [show ((k + (d + 1) : Nat) : Int) - 1 = ((k + d : Nat) : Int) by omega]⟩) (ih k)
      have := dn (n - k) k
      rw [show k + (n - k) = n by omega] at this
      exact this
    · intro h
      obtain ⟨y, rfl, q⟩ := fol_iz n (n : Int) x (by omega) h
      exact ⟨y.toNat, List.mem_range.mpr (by omega), by rw [show ((y.toNat : Nat) : Int) = y by omega]⟩
  by_cases q : 0 ≤ z
  · rw [show z = ((z.toNat : Nat) : Int) by omega, up]
    omega
  · have := wid_gneg (iz z)
    rw [iz_negz, show -z = (((-z).toNat : Nat) : Int) by omega, up] at this
    omega
/-- all is as it was, but for what serves a reckoning -/
def Sm (γ : Nat → Nat) (m m' : Mem) : Prop := CI γ m' ∧ Grow m m' ∧ mNext m' ≤ mNext m + 400
theorem Sm.rf {γ : Nat → Nat} {m : Mem} (C : CI γ m) : Sm γ m m := ⟨C, Grow.rf m, by omega⟩
theorem Sm.of {γ : Nat → Nat} {m m' : Mem} (C : CI γ m) (f : Fr m m' SC) (n : mNext m' ≤ mNext m + 400) : Sm γ m m' := ⟨C.fr f, f.1, n⟩
theorem slot0_eq {n s : Nat} {γ : Nat → Nat} {m : Mem} (C : CI γ m) (hs : s < 8) : f_X10_slot n (s : Int) 0 m = some ((wid (γ s) : Int), m) := by
  obtain ⟨o, O, e⟩ := held_eq (n := n) hs (C.1 s hs)
  have w := (C.1 s hs).2.1.1
  unfold f_X10_slot
  rw [isSlot_eq hs, cal_some rfl, if_neg (by decide), cal_some e, Int.toNat_natCast, if_pos rfl, isD_ok O.o.1, isG_ok O.o.2.2.1 O.o.1, cal_some (width_eq O (by omega))]
  rfl
theorem slot1_eq {n s : Nat} {γ : Nat → Nat} {m : Mem} (C : CI γ m) (hs : s < 8) : f_X10_slot n (s : Int) 1 m = some ((bd (γ s) : Int), m) := by
  obtain ⟨o, O, e⟩ := held_eq (n := n) hs (C.1 s hs)
  obtain ⟨_, _, _, ⟨k1, _⟩, ⟨q1, _⟩, ⟨_, _, _, b3, _⟩, _⟩ := O.get
  unfold f_X10_slot
  rw [isSlot_eq hs, cal_some rfl, if_neg (by decide), cal_some e, Int.toNat_natCast, if_neg (by decide), if_pos rfl, isD_ok q1, gmF_ok k1, b3]
  rfl
theorem slot2_ok {n s : Nat} {γ : Nat → Nat} {m : Mem} (C : CI γ m) (hs : s < 8) : f_X10_slot n (s : Int) 2 m = some ((pcnt (om (γ s) (wid (γ s) - 1) 0) : Int), m) := by
  obtain ⟨o, O, e⟩ := held_eq (n := n) hs (C.1 s hs)
  have w := (C.1 s hs).2.1.1
  have W : wid (γ s) ≤ 11 := by omega
  have hO : f_X1_options n o ((wid (γ s) - 1 : Nat) : Int) 0 m = some ((om (γ s) (wid (γ s) - 1) 0 : Int), m) := options_eq (w := 0) O W (by decide)
  unfold f_X10_slot
  rw [isSlot_eq hs, cal_some rfl, if_neg (by decide), cal_some e, Int.toNat_natCast, if_neg (by decide), if_neg (by decide), if_pos rfl, isD_ok O.o.1, isG_ok O.o.2.2.1 O.o.1, cal_some (top_eq O W), isD_ok O.o.1, isG_ok O.o.2.2.1 O.o.1, cal_some hO, cal_some (bitCount_eq (om_lt11 W _ 0))]
  rfl
theorem slot6_eq {n s : Nat} {γ : Nat → Nat} {m : Mem} (C : CI γ m) (hs : s < 8) : f_X10_slot n (s : Int) 6 m = some (((wd (γ s)).length : Int), m) := by
  obtain ⟨o, O, e⟩ := held_eq (n := n) hs (C.1 s hs)
  have w := (C.1 s hs).2.1.2
  obtain ⟨_, _, x, ⟨k1, _, _, kw⟩, ⟨q1, _, _, w1, _⟩, ⟨_, _, v2, _⟩, _⟩ := O.get
  unfold f_X10_slot
  rw [isSlot_eq hs, cal_some rfl, if_neg (by decide), cal_some e, Int.toNat_natCast, if_neg (by decide), if_neg (by decide), if_neg (by decide), if_neg (by decide), if_neg (by decide), if_neg (by decide), if_pos rfl, isD_ok q1, gmG_ok k1 v2, isD_ok w1, lenA_ok kw (by decide) (by decide) (by omega)]
  rfl
theorem slot5_ok {n s : Nat} {γ : Nat → Nat} {m : Mem} (hn : 300 < n) (C : CI γ m) (hs : s < 8) : ∃ b, f_X10_slot n (s : Int) 5 m = some (b2i b, m) ∧ (b = true ↔ sm (γ s)) := by
  obtain ⟨o, O, e⟩ := held_eq (n := n) hs (C.1 s hs)
  obtain ⟨cg, fg, _⟩ := C.1 s hs
  obtain ⟨b, h1, h2⟩ := isSmall_eq hn O cg fg.1
  refine ⟨b, ?_, h2⟩
  unfold f_X10_slot
  dsimp only [jn]
  rw [isSlot_eq hs, cal_some rfl, if_neg (by decide), cal_some e, Int.toNat_natCast, if_neg (by decide), if_neg (by decide), if_neg (by decide), if_neg (by decide), if_neg (by decide), if_pos rfl, isD_ok O.o.1, isG_ok O.o.2.2.1 O.o.1, cal_some h1]
  cases b <;> rfl
theorem word_eq {n s k : Nat} {γ : Nat → Nat} {m : Mem} (C : CI γ m) (hs : s < 8) (hk : k < (wd (γ s)).length) : f_X10_word n (s : Int) (k : Int) m = some (((wd (γ s)).getD k 0 : Int), m) := by
  obtain ⟨o, O, e⟩ := held_eq (n := n) hs (C.1 s hs)
  have w := (C.1 s hs).2.1.2
  obtain ⟨_, _, x, ⟨k1, _, _, kw⟩, ⟨q1, _, _, w1, _⟩, ⟨_, _, v2, _⟩, _, tx, _⟩ := O.get
  unfold f_X10_word
  dsimp only [jn]
  rw [isSlot_eq hs, cal_some rfl, if_neg (by decide), cal_some e, Int.toNat_natCast, isD_ok q1, gmG_ok k1 v2, if_neg (by omega), isD_ok w1, lenA_ok kw (by decide) (by decide) (by omega), if_pos (by omega), isD_ok w1, ldB_ok kw hk, tx k hk]
  rfl
/-- two games laid side by side -/
theorem duel_ok {n o1 o2 g h : Nat} {mir : Bool} {γ : Nat → Nat} {m : Mem} (hn : 300 < n) (C : CI γ m) (O1 : GOb m o1 g) (O2 : GOb m o2 h) (G1 : GX g) (G2 : GX h) : Ok (f_X0_fill n o1 o2 (b2i mir) m) (fun _ m' => CI γ m' ∧ Grow m m' ∧ mNext m' = mNext m ∧ DU m' o1 o2 g h mir) := by
  refine ok_mono (fill_ok hn O1 O2 G1 G2) (fun _ m' q => ?_)
  obtain ⟨z, f, D⟩ := q
  have fr : Fr m m' SC := f2_fr z (fun a i ha => f a i (fun e => ha (by unfold SC; omega))) (fun a ha => by omega)
  exact ⟨C.fr fr, fr.1, mNext_eq (by rw [z]), D⟩
theorem order_ok {n a b : Nat} {γ : Nat → Nat} {m : Mem} (hn : 300 < n) (C : CI γ m) (ha : a < 8) (hb : b < 8) : Ok (f_X10_order n (a : Int) (b : Int) m) (fun v m' => v = vd (gadd (γ a) (gneg (γ b))) ∧ Sm γ m m') := by
  obtain ⟨o, O, e⟩ := held_eq (n := n) ha (C.1 a ha)
  obtain ⟨o2, O2, e2⟩ := held_eq (n := n) hb (C.1 b hb)
  obtain ⟨cg, fg, _⟩ := C.1 a ha
  obtain ⟨ch, fh, _⟩ := C.1 b hb
  have G1 := fitsGX O cg fg
  have G2 := fitsGX O2 ch fh
  have w1 := wid_pos (γ a)
  have w2 := wid_pos (γ b)
  unfold f_X10_order
  dsimp only [jn]
  refine ok_calE (isSlot_eq ha) ?_
  rw [if_neg (by decide)]
  refine ok_calE (isSlot_eq hb) ?_
  rw [if_neg (by decide)]
  refine ok_calE e ?_
  refine ok_calE e2 ?_
  rw [Int.toNat_natCast, Int.toNat_natCast]
  refine ok_cal (duel_ok (mir := true) hn C O O2 G1 G2) (fun _ m1 h1 => ?_)
  obtain ⟨C1, g1, n1, D⟩ := h1
  have O' := O.mono g1
  have O2' := O2.mono g1
  rw [isD_ok O.o.1, isG_ok O'.o.2.2.1 O.o.1]
  refine ok_calE (top_eq O' G1.1) ?_
  rw [isD_ok O2.o.1, isG_ok O2'.o.2.2.1 O2.o.1]
  refine ok_calE (top_eq O2' G2.1) ?_
  refine ok_calE (verdict_eq D G1.1 G2.1 (by omega) (by omega)) ?_
  rw [dpos_top G1 G2]
  exact ok_rt ⟨rfl, C1, g1, by omega⟩
theorem sumOutcome_ok {n o1 o2 g h : Nat} {γ : Nat → Nat} {m : Mem} (hn : 300 < n) (C : CI γ m) (O : GOb m o1 g) (O2 : GOb m o2 h) (G1 : GX g) (G2 : GX h) : Ok (f_X10_sumOutcome n o1 o2 m) (fun v m' => v = vd (gadd g h) ∧ Sm γ m m') := by
  have w1 := wid_pos g
  have w2 := wid_pos h
  unfold f_X10_sumOutcome
  refine ok_cal (duel_ok (mir := false) hn C O O2 G1 G2) (fun _ m1 h1 => ?_)
  obtain ⟨C1, g1, n1, D⟩ := h1
  have O' := O.mono g1
  have O2' := O2.mono g1
  rw [isD_ok O.o.1, isG_ok O'.o.2.2.1 O.o.1]
  refine ok_calE (top_eq O' G1.1) ?_
  rw [isD_ok O2.o.1, isG_ok O2'.o.2.2.1 O2.o.1]
  refine ok_calE (top_eq O2' G2.1) ?_
  refine ok_calE (verdict_eq D G1.1 G2.1 (by omega) (by omega)) ?_
  rw [dpos_top G1 G2]
  exact ok_rt ⟨rfl, C1, g1, by omega⟩
theorem outcome_ok {n a b : Nat} {γ : Nat → Nat} {m : Mem} (hn : 300 < n) (C : CI γ m) (ha : a < 8) (hb : b < 8) : Ok (f_X10_outcome n (a : Int) (b : Int) m) (fun v m' => v = vd (gadd (γ a) (γ b)) ∧ Sm γ m m') := by
  obtain ⟨o, O, e⟩ := held_eq (n := n) ha (C.1 a ha)
  obtain ⟨o2, O2, e2⟩ := held_eq (n := n) hb (C.1 b hb)
  obtain ⟨cg, fg, _⟩ := C.1 a ha
  obtain ⟨ch, fh, _⟩ := C.1 b hb
  unfold f_X10_outcome
  dsimp only [jn]
  refine ok_calE (isSlot_eq ha) ?_
  rw [if_neg (by decide)]
  refine ok_calE (isSlot_eq hb) ?_
  rw [if_neg (by decide)]
  refine ok_calE e ?_
  refine ok_calE e2 ?_
  rw [Int.toNat_natCast, Int.toNat_natCast]
  exact ok_cal (sumOutcome_ok hn C O O2 (fitsGX O cg fg) (fitsGX O2 ch fh)) (fun v m' h => ok_rt h)
theorem GX_0 {m : Mem} {o : Nat} (O : GOb m o 0) : GX 0 := GX.of O can_0 (by rw [← iz_0, wid_iz]; decide)
theorem slot4_ok {n s : Nat} {γ : Nat → Nat} {m : Mem} (hn : 300 < n) (C : CI γ m) (hs : s < 8) : Ok (f_X10_slot n (s : Int) 4 m) (fun v m' => v = vd (γ s) ∧ Sm γ m m') := by
  obtain ⟨o, O, e⟩ := held_eq (n := n) hs (C.1 s hs)
  obtain ⟨cg, fg, _⟩ := C.1 s hs
  obtain ⟨z, Z, ez⟩ := zero_eq (n := n) C
  unfold f_X10_slot
  refine ok_calE (isSlot_eq hs) ?_
  rw [if_neg (by decide)]
  refine ok_calE e ?_
  rw [Int.toNat_natCast, if_neg (by decide), if_neg (by decide), if_neg (by decide), if_neg (by decide), if_pos rfl]
  refine ok_calE ez ?_
  rw [Int.toNat_natCast]
  refine ok_cal (sumOutcome_ok hn C O Z (fitsGX O cg fg) (GX_0 Z)) (fun v m' h => ok_rt ?_)
  rw [gadd_0] at h
  exact h
