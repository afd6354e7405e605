/-! THE CLASS: options, replies, fights -/
theorem isBit_eq {n w : Nat} {m : Mem} (hw : w < 2) : f_X10_isBit n (w : Int) m = some (1, m) := by
  unfold f_X10_isBit
  dsimp only [jn]
  rcases (by omega : w = 0 ∨ w = 1) with rfl | rfl
  · rw [if_pos (by decide)]; rfl
  · rw [if_neg (by decide), if_pos (by decide)]; rfl
theorem fits_fol {g x : Nat} (cg : can g) (fg : fits g) (h : fol g x) : fits x := by
  have h1 := wid_fol h
  have h2 := bd_wid g
  have f1 := fg.1
  have f2 := fg.2
  have h3 := wlen_fol cg (by omega) h
  exact ⟨by omega, by omega⟩
theorem option_ok {n s a w i j : Nat} {γ : Nat → Nat} {m : Mem} (hn : 300 < n) (C : CI γ m) (hs : s < 8) (ha : a < 8) (hw : w < 2) (hj : nb (γ a) (wid (γ a) - 1) w (i : Int) = (j : Int)) (hb : mNext m + 400 < 2147483648) : Ok (f_X10_option n (s : Int) (a : Int) (w : Int) (i : Int) m) (fun r m' => r = (wid (en (γ a) j) : Int) ∧ CI (gset γ s (en (γ a) j)) m' ∧ Grow m m' ∧ mNext m' ≤ mNext m + 400) := by
  obtain ⟨o, O, e⟩ := held_eq (n := n) ha (C.1 a ha)
  obtain ⟨cg, fg, _⟩ := C.1 a ha
  have G1 := fitsGX O cg fg
  obtain ⟨lt, _⟩ := nb_lt hj
  unfold f_X10_option
  dsimp only [jn]
  refine ok_calE (isSlot_eq hs) ?_
  rw [if_neg (by decide)]
  refine ok_calE (isSlot_eq ha) ?_
  rw [if_neg (by decide)]
  refine ok_calE (isBit_eq hw) ?_
  rw [if_neg (by decide)]
  refine ok_calE e ?_
  rw [Int.toNat_natCast, isD_ok O.o.1, isG_ok O.o.2.2.1 O.o.1]
  refine ok_calE (top_eq O G1.1) ?_
  rw [isD_ok O.o.1, isG_ok O.o.2.2.1 O.o.1]
  refine ok_calE (numbered_eq hn O G1.1 hw) ?_
  rw [hj, if_neg (by omega)]
  refine ok_cal (followerOf_ok hn O cg fg lt (by omega)) (fun v m1 h1 => ?_)
  obtain ⟨R, f1, n1⟩ := h1
  have ff := G1.2.1.1 j lt
  have fK := fits_fol cg fg ff
  refine ok_cal (settle_ok hn (C.fr (f1.weak (fun a h => SM_SC h))) hs (can_fol cg ff) R) (fun r m2 h2 => ?_)
  obtain ⟨S, g2, n2⟩ := h2
  rcases S with ⟨_, r1, C2⟩ | ⟨no, _⟩
  · exact ok_rt ⟨r1, C2, f1.1.tr g2, by omega⟩
  · exact absurd fK no
/-- what a reply is told as -/
def rpl (x : Int) (t : Nat) : Int := if x < 0 then -1100000002 else if t = 0 then (if x < 32 then 0 else 1) else ((x.toNat % 32 : Nat) : Int)
theorem bm_lt (g h i j w : Nat) : bm g h i j w = -1 ∨ ∃ k : Nat, bm g h i j w = (k : Int) ∧ k < 64 := by
  rcases bm_cases g h i j w with ⟨n, _, h1, h2, _⟩ | ⟨n, _, h1, h2, _⟩ | ⟨h1, _⟩
  · exact Or.inr ⟨n, h1, by omega⟩
  · exact Or.inr ⟨32 + n, h1, by omega⟩
  · exact Or.inl h1
theorem rpl_0 (k : Nat) : rpl (k : Int) 0 = if (k : Int) < 32 then 0 else 1 := by
  unfold rpl
  rw [if_neg (show ¬ ((k : Int) < 0) by omega), if_pos rfl]
theorem rpl_1 (k : Nat) : rpl (k : Int) 1 = ((k % 32 : Nat) : Int) := by
  unfold rpl
  rw [if_neg (show ¬ ((k : Int) < 0) by omega), if_neg (by decide), Int.toNat_natCast]
theorem reply_ok {n a b w t : Nat} {γ : Nat → Nat} {m : Mem} (hn : 300 < n) (C : CI γ m) (ha : a < 8) (hb : b < 8) (hw : w < 2) (ht : t < 2) : Ok (f_X10_reply n (a : Int) (b : Int) (w : Int) (t : Int) m) (fun v m' => v = rpl (bm (γ a) (γ b) (wid (γ a) - 1) (wid (γ b) - 1) w) t ∧ Sm γ m m') := by
  obtain ⟨o, O, e⟩ := held_eq (n := n) ha (C.1 a ha)
  obtain ⟨o2, O2, e2⟩ := held_eq (n := n) hb (C.1 b hb)
  obtain ⟨cg, fg, _⟩ := C.1 a ha
  obtain ⟨ch, fh, _⟩ := C.1 b hb
  have G1 := fitsGX O cg fg
  have G2 := fitsGX O2 ch fh
  have w1 := wid_pos (γ a)
  have w2 := wid_pos (γ b)
  unfold f_X10_reply
  dsimp only [jn]
  refine ok_calE (isSlot_eq ha) ?_
  rw [if_neg (by decide)]
  refine ok_calE (isSlot_eq hb) ?_
  rw [if_neg (by decide)]
  refine ok_calE (isBit_eq hw) ?_
  rw [if_neg (by decide)]
  refine ok_calE (isBit_eq ht) ?_
  rw [if_neg (by decide)]
  refine ok_calE e ?_
  refine ok_calE e2 ?_
  rw [Int.toNat_natCast, Int.toNat_natCast]
  refine ok_cal (duel_ok (mir := false) hn C O O2 G1 G2) (fun _ m1 h1 => ?_)
  obtain ⟨C1, g1, n1, D⟩ := h1
  have O' := O.mono g1
  have O2' := O2.mono g1
  rw [isD_ok O.o.1, isG_ok O'.o.2.2.1 O.o.1]
  refine ok_calE (top_eq O' G1.1) ?_
  rw [isD_ok O2.o.1, isG_ok O2'.o.2.2.1 O2.o.1]
  refine ok_calE (top_eq O2' G2.1) ?_
  refine ok_calE (bestMove_eq hn O' O2' D G1.1 G2.1 (by omega) (by omega) hw) ?_
  rcases bm_lt (γ a) (γ b) (wid (γ a) - 1) (wid (γ b) - 1) w with q | ⟨k, q, k64⟩
  · rw [q, if_pos (by decide)]
    refine ok_cal (faul_ok (z := 2) (n := n) C1 (by decide)) (fun v m2 h2 => ?_)
    exact ok_rt ⟨h2.1, h2.2.1, g1.tr h2.2.2.1, by omega⟩
  · rw [q, if_neg (by omega)]
    rcases (by omega : t = 0 ∨ t = 1) with rfl | rfl
    · rw [if_pos (by decide)]
      refine ok_calE gameOf_eq ?_
      exact ok_rt ⟨(rpl_0 k).symm, C1, g1, by omega⟩
    · rw [if_neg (by decide)]
      refine ok_calE (numberOf_nat k64) ?_
      exact ok_rt ⟨(rpl_1 k).symm, C1, g1, by omega⟩
theorem fight_ok {n a b w t : Nat} {γ : Nat → Nat} {m : Mem} (hn : 300 < n) (C : CI γ m) (ha : a < 8) (hb : b < 8) (hw : w < 2) (ht : t < 2) : Ok (f_X10_fight n (a : Int) (b : Int) (w : Int) (t : Int) m) (fun v m' => (∃ M : Nat, v = (if t = 0 then (((w + M) % 2 : Nat) : Int) else (M : Int)) ∧ M ≤ 20 ∧ (M % 2 = 1 ↔ wins w (gadd (γ a) (γ b)))) ∧ Sm γ m m') := by
  obtain ⟨o, O, e⟩ := held_eq (n := n) ha (C.1 a ha)
  obtain ⟨o2, O2, e2⟩ := held_eq (n := n) hb (C.1 b hb)
  obtain ⟨cg, fg, _⟩ := C.1 a ha
  obtain ⟨ch, fh, _⟩ := C.1 b hb
  have G1 := fitsGX O cg fg
  have G2 := fitsGX O2 ch fh
  unfold f_X10_fight
  dsimp only [jn]
  refine ok_calE (isSlot_eq ha) ?_
  rw [if_neg (by decide)]
  refine ok_calE (isSlot_eq hb) ?_
  rw [if_neg (by decide)]
  refine ok_calE (isBit_eq hw) ?_
  rw [if_neg (by decide)]
  refine ok_calE (isBit_eq ht) ?_
  rw [if_neg (by decide)]
  refine ok_calE e ?_
  refine ok_calE e2 ?_
  rw [Int.toNat_natCast, Int.toNat_natCast]
  refine ok_cal (duel_ok (mir := false) hn C O O2 G1 G2) (fun _ m1 h1 => ?_)
  obtain ⟨C1, g1, n1, D⟩ := h1
  refine ok_cal (fought_ok hn (O.mono g1) (O2.mono g1) D G1 G2 fg.1 fh.1 hw) (fun v m2 h2 => ?_)
  obtain ⟨rfl, M, rfl, M20, par⟩ := h2
  rw [dpos_top G1 G2] at par
  rcases (by omega : t = 0 ∨ t = 1) with rfl | rfl
  · rw [if_pos (by decide), w32_id (x := (w : Int) + (M : Int)) (by omega) (by omega), iand_1]
    refine ok_rt ⟨⟨M, ?_, M20, par⟩, C1, g1, by omega⟩
    rw [if_pos rfl]
    omega
  · rw [if_neg (by decide)]
    refine ok_rt ⟨⟨M, ?_, M20, par⟩, C1, g1, by omega⟩
    rw [if_neg (by decide)]
/-! THE CLASS: weights -/
theorem Wt_uniq {g v : Nat} {z : Int} (h : Wt g v) (h2 : Wt g (iz z)) : geq v (iz z) := by
  have a : ∀ n, gle (iz n) v ↔ gle (iz n) (iz z) := fun n => (h.1 n).trans (h2.1 n).symm
  have b : ∀ n, gle v (iz n) ↔ gle (iz z) (iz n) := fun n => (h.2 n).trans (h2.2 n).symm
  exact ⟨(b z).mpr (gle_rfl _), (a z).mpr (gle_rfl _)⟩
theorem SX_SC {a : Nat} (h : SX a) : SC a := by
  unfold SC
  rcases h with h | h | h | h
  · exact Or.inl h
  · exact Or.inr (Or.inl (by omega))
  · omega
  · omega
/-- a weight that is a whole number, or none -/
def WV (g : Nat) (z : Option Int) : Prop := match z with
  | some z => Wt g (iz z) ∧ z.natAbs ≤ 9
  | none => (¬ ∃ z, Wt g (iz z)) ∧ ∃ v, Wt g v
theorem WV.ex {g : Nat} {z : Option Int} (h : WV g z) : ∃ v, Wt g v := by
  cases z with
  | none => exact h.2
  | some z => exact ⟨_, h.1⟩
theorem WV_uniq {g : Nat} {y z : Option Int} (h : WV g y) (h2 : WV g z) : y = z := by
  cases y with
  | none => cases z with
    | none => rfl
    | some z => exact absurd ⟨z, h2.1⟩ h.1
  | some y => cases z with
    | none => exact absurd ⟨y, h.1⟩ h2.1
    | some z => rw [iz_inj (Wt_uniq h.1 h2.1)]
/-- weighed: the node, whether it is whole, its value -/
theorem weighed {n o g : Nat} {γ : Nat → Nat} {m : Mem} {K : Int → Mem → Option Rz} {Q : Int → Mem → Prop} (hn : 300 < n) (C : CI γ m) (O : GOb m o g) (cg : can g) (fg : fits g) (s : sm g) (hK : ∀ (u : Nat) (m1 : Mem) (z : Option Int), WV g z → Sm γ m m1 → mNext m1 = mNext m → (match z with
    | some z => f_X9_isWhole n (u : Int) m1 = some (1, m1) ∧ Ok (f_X9_valueOf n (u : Int) m1) (fun v m2 => v = z ∧ Sm γ m m2 ∧ mNext m2 = mNext m)
    | none => f_X9_isWhole n (u : Int) m1 = some (0, m1)) → Ok (K (u : Int) m1) Q) : Ok (cal (f_X8_weigh n o m) K) Q := by
  obtain ⟨_, _, _, ⟨fo, fo1, OF⟩, _⟩ := id C
  refine ok_cal (weigh_ok hn O cg fg s fo1 OF) (fun v m1 h1 => ?_)
  obtain ⟨u, N, rfl, hu, Y, s0, W, nr, f1, z1⟩ := h1
  have f1' : Fr m m1 SC := f1.weak (fun a h => SX_SC h)
  have n1 : mNext m1 = mNext m := mNext_eq z1
  have S1 : Sm γ m m1 := Sm.of C f1' (by omega)
  have cu := Y.1.2.2.2.2.2.1 u hu
  obtain ⟨b, hb1, hb2⟩ := isWhole_ok hn Y.1 hu
  by_cases q : ∃ z, Wt g (iz z)
  · obtain ⟨z, hz⟩ := q
    have ez := Wt_uniq W hz
    have eu : yden m1 u = iz z := can_uniq cu (can_iz z) ez
    have z9 := nr.z ez
    have hb : b = true := hb2.mpr (by
      rw [eu]
      by_cases q : 0 ≤ z
      · refine Or.inr ?_
        rw [show z = ((z.toNat : Nat) : Int) by omega, iz_nn]
        exact pc_bare _
      · refine Or.inl ?_
        rw [show z = -((z.natAbs : Nat) : Int) by omega, iz_neg]
        exact nc_bare _)
    refine hK u m1 (some z) ⟨hz, z9⟩ S1 n1 ⟨by rw [hb1, hb]; rfl, ?_⟩
    refine ok_mono (valueOf_ok hn Y hu s0) (fun v m2 h2 => ?_)
    obtain ⟨Y2, E2, _, d2, p1, p2⟩ := h2
    obtain ⟨_, len, _⟩ := nl_spec Y hu
    rw [len, eu, wid_iz] at p1 p2
    have f2 : Fr m1 m2 SC := Fr.of E2.2.1 (fun a i q => E2.1 a i (fun e => q (by unfold SC; omega)) (fun e => absurd (by unfold SC; omega : a < 1000 ∧ SC a) q))
    refine ⟨?_, ⟨S1.1.fr f2, S1.2.1.tr f2.1, by rw [mNext_eq E2.2.1]; omega⟩, by rw [mNext_eq E2.2.1]; exact n1⟩
    by_cases q : 0 ≤ z
    · have := p1 (by rw [show z = ((z.toNat : Nat) : Int) by omega, iz_nn]; exact pc_bare _)
      omega
    · have := p2 (fun h => by
        have hx : op (iz z) 1 (iz (z + 1)) = true := iz_R.mpr ⟨by omega, rfl⟩
        rw [h (iz (z + 1))] at hx; cases hx)
      omega
  · have hb : b = false := by
      cases b
      · rfl
      · exfalso
        refine q ?_
        rcases hb2.mp rfl with h | h
        · obtain ⟨j, hj⟩ := bareL_nc cu h
          exact ⟨-(j : Int), by rw [iz_neg, ← hj]; exact W⟩
        · obtain ⟨j, hj⟩ := bareR_pc cu h
          exact ⟨(j : Int), by rw [iz_nn, ← hj]; exact W⟩
    exact hK u m1 none ⟨q, _, W⟩ S1 n1 (by rw [hb1, hb]; rfl)
def atv (z : Option Int) : Int := match z with
  | some z => z
  | none => -1100000002
def ahv (z : Option Int) : Int := match z with
  | some z => if 2 ≤ z then 1 else if z ≤ -2 then -1 else 0
  | none => 0
theorem atomic_ok {n a : Nat} {γ : Nat → Nat} {m : Mem} (hn : 300 < n) (C : CI γ m) (ha : a < 8) : Ok (f_X10_atomic n (a : Int) m) (fun v m' => ((sm (γ a) ∧ ∃ z, WV (γ a) z ∧ v = atv z) ∨ (¬ sm (γ a) ∧ v = -1100000003)) ∧ Sm γ m m') := by
  obtain ⟨o, O, e⟩ := held_eq (n := n) ha (C.1 a ha)
  obtain ⟨cg, fg, _⟩ := C.1 a ha
  obtain ⟨b, h1, h2⟩ := isSmall_eq hn O cg fg.1
  unfold f_X10_atomic
  refine ok_calE (isSlot_eq ha) ?_
  rw [if_neg (by decide)]
  refine ok_calE e ?_
  rw [Int.toNat_natCast, isD_ok O.o.1, isG_ok O.o.2.2.1 O.o.1]
  refine ok_calE h1 ?_
  cases b
  · rw [if_pos (show b2i false = 0 from rfl)]
    refine ok_cal (faul_ok (z := 3) (n := n) C (by decide)) (fun v m2 q => ?_)
    exact ok_rt ⟨Or.inr ⟨fun h => Bool.noConfusion (h2.mpr h), q.1⟩, q.2.1, q.2.2.1, by omega⟩
  · rw [if_neg (show ¬ b2i true = 0 by decide)]
    have s := h2.mp rfl
    refine weighed hn C O cg fg s (fun u m1 z hz S1 n1 hq => ?_)
    cases z with
    | none =>
      refine ok_calE hq ?_
      dsimp only [jn]
      rw [if_pos rfl]
      refine ok_cal (faul_ok (z := 2) (n := n) S1.1 (by decide)) (fun v m2 q => ?_)
      exact ok_rt ⟨Or.inl ⟨s, none, hz, q.1⟩, q.2.1, S1.2.1.tr q.2.2.1, by omega⟩
    | some z =>
      obtain ⟨q1, q2⟩ := hq
      refine ok_calE q1 ?_
      dsimp only [jn]
      rw [if_neg (by decide)]
      refine ok_cal q2 (fun v m2 q => ?_)
      exact ok_rt ⟨Or.inl ⟨s, some z, hz, q.1⟩, q.2.1⟩
theorem ahead_ok {n a : Nat} {γ : Nat → Nat} {m : Mem} (hn : 300 < n) (C : CI γ m) (ha : a < 8) : Ok (f_X10_ahead n (a : Int) m) (fun v m' => ((sm (γ a) ∧ ∃ z, WV (γ a) z ∧ v = ahv z) ∨ (¬ sm (γ a) ∧ v = -1100000003)) ∧ Sm γ m m') := by
  obtain ⟨o, O, e⟩ := held_eq (n := n) ha (C.1 a ha)
  obtain ⟨cg, fg, _⟩ := C.1 a ha
  obtain ⟨b, h1, h2⟩ := isSmall_eq hn O cg fg.1
  unfold f_X10_ahead
  refine ok_calE (isSlot_eq ha) ?_
  rw [if_neg (by decide)]
  refine ok_calE e ?_
  rw [Int.toNat_natCast, isD_ok O.o.1, isG_ok O.o.2.2.1 O.o.1]
  refine ok_calE h1 ?_
  cases b
  · rw [if_pos (show b2i false = 0 from rfl)]
    refine ok_cal (faul_ok (z := 3) (n := n) C (by decide)) (fun v m2 q => ?_)
    exact ok_rt ⟨Or.inr ⟨fun h => Bool.noConfusion (h2.mpr h), q.1⟩, q.2.1, q.2.2.1, by omega⟩
  · rw [if_neg (show ¬ b2i true = 0 by decide)]
    have s := h2.mp rfl
    refine weighed hn C O cg fg s (fun u m1 z hz S1 n1 hq => ?_)
    cases z with
    | none =>
      refine ok_calE hq ?_
      dsimp only [jn]
      rw [if_pos rfl, if_pos (by decide), if_pos (by decide)]
      exact ok_rt ⟨Or.inl ⟨s, none, hz, rfl⟩, S1⟩
    | some z =>
      obtain ⟨q1, q2⟩ := hq
      refine ok_calE q1 ?_
      dsimp only [jn]
      rw [if_neg (by decide)]
      refine ok_cal q2 (fun v m2 q => ?_)
      obtain ⟨rfl, q3⟩ := q
      by_cases c1 : v < 2
      · rw [if_pos c1]
        by_cases c2 : -2 < v
        · rw [if_pos c2]
          exact ok_rt ⟨Or.inl ⟨s, some v, hz, by show 0 = if 2 ≤ v then (1 : Int) else if v ≤ -2 then -1 else 0; rw [if_neg (by omega), if_neg (by omega)]⟩, q3.1⟩
        · rw [if_neg c2]
          exact ok_rt ⟨Or.inl ⟨s, some v, hz, by show -1 = if 2 ≤ v then (1 : Int) else if v ≤ -2 then -1 else 0; rw [if_neg (by omega), if_pos (by omega)]⟩, q3.1⟩
      · rw [if_neg c1]
        exact ok_rt ⟨Or.inl ⟨s, some v, hz, by show 1 = if 2 ≤ v then (1 : Int) else if v ≤ -2 then -1 else 0; rw [if_pos (by omega)]⟩, q3.1⟩
theorem weight_no {n s a : Nat} {γ : Nat → Nat} {m : Mem} (hn : 300 < n) (C : CI γ m) (hs : s < 8) (ha : a < 8) (no : ¬ sm (γ a)) : Ok (f_X10_weight n (s : Int) (a : Int) m) (fun v m' => v = -1100000003 ∧ Sm γ m m') := by
  obtain ⟨o, O, e⟩ := held_eq (n := n) ha (C.1 a ha)
  obtain ⟨cg, fg, _⟩ := C.1 a ha
  obtain ⟨b, h1, h2⟩ := isSmall_eq hn O cg fg.1
  unfold f_X10_weight
  dsimp only [jn]
  refine ok_calE (isSlot_eq hs) ?_
  rw [if_neg (by decide)]
  refine ok_calE (isSlot_eq ha) ?_
  rw [if_neg (by decide)]
  refine ok_calE e ?_
  rw [Int.toNat_natCast, isD_ok O.o.1, isG_ok O.o.2.2.1 O.o.1]
  refine ok_calE h1 ?_
  cases b
  · rw [if_pos (show b2i false = 0 from rfl)]
    refine ok_cal (faul_ok (z := 3) (n := n) C (by decide)) (fun v m2 q => ?_)
    exact ok_rt ⟨q.1, q.2.1, q.2.2.1, by omega⟩
  · exact absurd (h2.mp rfl) no
/-- what a garden's slots weigh, the first i -/
def gsum (p : Nat) (ζ : Nat → Int) : Nat → Int
  | 0 => 0
  | i + 1 => gsum p ζ i + if p.testBit i = true then ζ i else 0
theorem gsum_le (p : Nat) (ζ : Nat → Int) (h : ∀ i, (ζ i).natAbs ≤ 9) : ∀ i, (gsum p ζ i).natAbs ≤ 9 * i
  | 0 => Nat.le_refl _
  | i + 1 => by
    have := gsum_le p ζ h i
    have := h i
    unfold gsum
    split <;> omega
theorem garden_ok {n p : Nat} {ζ : Nat → Int} {γ : Nat → Nat} {m : Mem} (hn : 300 < n) (C : CI γ m) (hp : p < 256) (hz9 : ∀ i, (ζ i).natAbs ≤ 9) (hz : ∀ i, i < 8 → p.testBit i = true → sm (γ i) ∧ Wt (γ i) (iz (ζ i))) : Ok (f_X10_garden n (p : Int) m) (fun v m' => v = gsum p ζ 8 ∧ Sm γ m m') := by
  unfold f_X10_garden
  refine ok_calE (isSet_eq hp) ?_
  rw [if_neg (by decide)]
  refine ok_up1 8 (fun i m1 => m1 = m) (fun w i m1 hi hI hw => ?_) (fun w mb hI => ?_) n 0 m (Nat.zero_le _) rfl (by omega)
  · subst hI
    rw [if_pos (by omega)]
    refine ok_calE (isIn_eq hp hi) ?_
    dsimp only [jn]
    rw [k_1 (by omega)]
    cases e : p.testBit i
    · rw [if_pos (show b2i false = 0 from rfl)]
      exact hw m1 rfl
    · rw [if_neg (show ¬ b2i true = 0 by decide)]
      obtain ⟨o, O, eo⟩ := held_eq (n := n) hi (C.1 i hi)
      obtain ⟨cg, fg, _⟩ := C.1 i hi
      obtain ⟨b, h1, h2⟩ := isSmall_eq hn O cg fg.1
      refine ok_calE eo ?_
      rw [Int.toNat_natCast, isD_ok O.o.1, isG_ok O.o.2.2.1 O.o.1]
      refine ok_calE h1 ?_
      rw [h2.mpr (hz i hi e).1, if_neg (show ¬ b2i true = 0 by decide)]
      exact hw m1 rfl
  · subst hI
    rw [if_neg (by omega)]
    refine ok_up2 8 (fun i v m1 => v = gsum p ζ i ∧ CI γ m1 ∧ Grow mb m1 ∧ mNext m1 = mNext mb) (fun w i v m1 hi hI hw => ?_) (fun w v m1 hI => ?_) n 0 0 mb (Nat.zero_le _) ⟨rfl, C, Grow.rf mb, rfl⟩ (by omega)
    · obtain ⟨rfl, C1, g1, n1⟩ := hI
      rw [if_pos (by omega)]
      refine ok_calE (isIn_eq hp hi) ?_
      dsimp only [jn, nm]
      rw [k_1 (by omega)]
      cases e : p.testBit i
      · rw [if_pos (show b2i false = 0 from rfl)]
        refine hw _ m1 ⟨?_, C1, g1, n1⟩
        show _ = gsum p ζ i + if p.testBit i = true then ζ i else 0
        rw [e, if_neg (by decide), Int.add_zero]
      · rw [if_neg (show ¬ b2i true = 0 by decide)]
        obtain ⟨o, O, eo⟩ := held_eq (n := n) hi (C1.1 i hi)
        obtain ⟨cg, fg, _⟩ := C1.1 i hi
        refine ok_calE eo ?_
        rw [Int.toNat_natCast]
        obtain ⟨si, wi⟩ := hz i hi e
        refine weighed hn C1 O cg fg si (fun u m2 z hz S1 n2 hq => ?_)
        have ez := WV_uniq hz (show WV (γ i) (some (ζ i)) from ⟨wi, hz9 i⟩)
        subst ez
        obtain ⟨q1, q2⟩ := hq
        refine ok_calE q1 ?_
        rw [if_neg (by decide)]
        refine ok_cal q2 (fun v m3 q => ?_)
        obtain ⟨rfl, q3, n3⟩ := q
        have b1 := gsum_le p ζ hz9 i
        have b2 := hz9 i
        rw [w32_id (x := gsum p ζ i + ζ i) (by omega) (by omega)]
        refine hw _ m3 ⟨?_, q3.1, g1.tr q3.2.1, by omega⟩
        show _ = gsum p ζ i + if p.testBit i = true then ζ i else 0
        rw [e, if_pos rfl]
    · obtain ⟨rfl, C1, g1, n1⟩ := hI
      rw [if_neg (by omega)]
      exact ok_rt ⟨rfl, C1, g1, by omega⟩
theorem gsum_two (a b : Nat) (ζ : Nat → Int) : ∀ i, gsum (2 ^ a ||| 2 ^ b) ζ i = (if a < i then ζ a else 0) + if b < i ∧ b ≠ a then ζ b else 0
  | 0 => by rw [if_neg (by omega), if_neg (by omega)]; rfl
  | i + 1 => by
    have hb : ((2 ^ a ||| 2 ^ b).testBit i = true) ↔ (a = i ∨ b = i) := by
      rw [Nat.testBit_or, Nat.testBit_two_pow, Nat.testBit_two_pow, Bool.or_eq_true, decide_eq_true_eq, decide_eq_true_eq]
    show gsum (2 ^ a ||| 2 ^ b) ζ i + (if (2 ^ a ||| 2 ^ b).testBit i = true then ζ i else 0) = _
    rw [gsum_two a b ζ i]
    by_cases h1 : a = i
    · subst h1
      rw [if_pos (hb.mpr (Or.inl rfl))]
      repeat' split
      all_goals omega
    · by_cases h2 : b = i
      · subst h2
        rw [if_pos (hb.mpr (Or.inr rfl))]
        repeat' split
        all_goals omega
      · rw [if_neg (fun q => (hb.mp q).elim h1 h2)]
        repeat' split
        all_goals omega
