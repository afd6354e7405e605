/-! THE CLASS: WORDS COMPARED, FIGHTS, COUNTS -/
/-- what a comparing of words answers -/
def cpr (v : Int) (W V : List Nat) : Prop := (v = 0 ↔ W = V) ∧ (v < 0 ↔ wlt W V = true)
theorem cmp_ok2 {n : Nat} {x y : Int} {m : Mem} : Ok (f_J6_compare_7cf53 n x y m) (fun v m' => m' = m ∧ (v = 0 ↔ x = y) ∧ (v < 0 ↔ x < y)) := by
  unfold f_J6_compare_7cf53
  dsimp only [jn]
  by_cases q : x < y
  · rw [if_pos q]; exact ok_rt ⟨rfl, by omega, by omega⟩
  · rw [if_neg q]
    by_cases q2 : x = y
    · rw [if_pos q2]; exact ok_rt ⟨rfl, by omega, by omega⟩
    · rw [if_neg q2]; exact ok_rt ⟨rfl, by omega, by omega⟩
theorem cpr_len {v : Int} {W V : List Nat} (h : W.length ≠ V.length) (h0 : v = 0 ↔ (W.length : Int) = (V.length : Int)) (h1 : v < 0 ↔ (W.length : Int) < (V.length : Int)) : cpr v W V := by
  have wl : wlt W V = decide (W.length < V.length) := by
    unfold wlt
    rw [decide_eq_false h, Bool.false_and, Bool.or_false]
  refine ⟨⟨fun q => absurd (by omega) h, fun q => absurd (by rw [q]) h⟩, ?_⟩
  rw [wl, decide_eq_true_eq]
  omega
theorem cpr_at {v : Int} {W V : List Nat} {i : Nat} (hl : W.length = V.length) (hi : i < W.length) (hi2 : i < V.length) (hx : lexlt W V = lexlt (W.drop i) (V.drop i)) (hne : W[i] ≠ V[i]) (h0 : v = 0 ↔ (W[i] : Int) = (V[i] : Int)) (h1 : v < 0 ↔ (W[i] : Int) < (V[i] : Int)) : cpr v W V := by
  have wl : wlt W V = decide (W[i] < V[i]) := by
    unfold wlt
    rw [decide_eq_false (show ¬ W.length < V.length by omega), decide_eq_true hl, Bool.false_or, Bool.true_and, hx, List.drop_eq_getElem_cons hi, List.drop_eq_getElem_cons hi2, lexlt_cons, decide_eq_false hne, Bool.false_and, Bool.or_false]
  refine ⟨⟨fun q => absurd (by omega) hne, fun q => absurd (by simp only [q]) hne⟩, ?_⟩
  rw [wl, decide_eq_true_eq]
  omega
theorem cmpW_ok {n o p g h : Nat} {m : Mem} (hn : 300 < n) (O : GOb m o g) (O2 : GOb m p h) (hg : (wd g).length ≤ 100) (hh : (wd h).length ≤ 100) : Ok (f_X1_compareWords n o p m) (fun v m' => m' = m ∧ cpr v (wd g) (wd h)) := by
  obtain ⟨_, _, w, ⟨k1, _, _, kw⟩, ⟨o1, _, _, w1, _⟩, ⟨_, _, v2, _⟩, _, tw, _⟩ := O.get
  obtain ⟨_, _, x, ⟨l1, _, _, kx⟩, ⟨p1, _, _, x1, _⟩, ⟨_, _, u2, _⟩, _, tx, _⟩ := O2.get
  obtain ⟨W, eW⟩ : ∃ W, W = wd g := ⟨_, rfl⟩
  obtain ⟨V, eV⟩ : ∃ V, V = wd h := ⟨_, rfl⟩
  rw [← eW] at kw tw hg ⊢
  rw [← eV] at kx tx hh ⊢
  unfold f_X1_compareWords
  rw [gmG_ok k1 v2, isD_ok w1, lenA_ok kw (by decide) (by decide) (by omega), isD_ok p1, gmG_ok l1 u2, isD_ok x1, lenA_ok kx (by decide) (by decide) (by omega)]
  by_cases q : (W.length : Int) = (V.length : Int)
  · have ql : W.length = V.length := by omega
    rw [if_pos q]
    refine ok_up1 W.length (fun i m' => m' = m ∧ lexlt W V = lexlt (W.drop i) (V.drop i) ∧ (W = V ↔ W.drop i = V.drop i)) (fun w2 i m' hi hI hw => ?_) (fun w2 m' hI => ?_) n 0 m (Nat.zero_le _) ⟨rfl, rfl, Iff.rfl⟩ (by omega)
    · obtain ⟨rfl, hx, he⟩ := hI
      have hi2 : i < V.length := by omega
      have ew : mGet m' w i = (W[i] : Int) := by rw [tw i hi, getD_get hi]
      have ex : mGet m' x i = (V[i] : Int) := by rw [tx i hi2, getD_get hi2]
      dsimp only [jn]
      rw [gmG_ok k1 v2, isD_ok w1, lenA_ok kw (by decide) (by decide) (by omega), if_pos (by omega), isD_ok p1, gmG_ok l1 u2, isD_ok x1, lenA_ok kx (by decide) (by decide) (by omega), if_pos (by omega), gmG_ok k1 v2, isD_ok w1, ldB_ok kw hi, isD_ok p1, gmG_ok l1 u2, isD_ok x1, ldB_ok kx (by omega), ew, ex]
      by_cases q2 : W[i] = V[i]
      · rw [if_pos (by omega), k_1 (by omega)]
        refine hw m' ⟨rfl, ?_, ?_⟩
        · rw [hx, List.drop_eq_getElem_cons hi, List.drop_eq_getElem_cons hi2, lexlt_cons, decide_eq_false (show ¬ W[i] < V[i] by omega), decide_eq_true q2, Bool.false_or, Bool.true_and]
        · rw [he, List.drop_eq_getElem_cons hi, List.drop_eq_getElem_cons hi2, List.cons.injEq]
          exact ⟨fun z => z.2, fun z => ⟨q2, z⟩⟩
      · rw [if_neg (by omega), gmG_ok k1 v2, isD_ok w1, ldB_ok kw hi, isD_ok p1, gmG_ok l1 u2, isD_ok x1, ldB_ok kx (by omega), ew, ex]
        exact ok_cal cmp_ok2 (fun v m'' e => ok_rt ⟨e.1, cpr_at ql hi hi2 hx q2 e.2.1 e.2.2⟩)
    · obtain ⟨rfl, hx, he⟩ := hI
      dsimp only [jn]
      rw [gmG_ok k1 v2, isD_ok w1, lenA_ok kw (by decide) (by decide) (by omega), if_neg (by omega)]
      have eWV : W = V := he.mpr (by rw [List.drop_length, ql, List.drop_length])
      refine ok_rt ⟨rfl, ⟨fun _ => eWV, fun _ => rfl⟩, ?_⟩
      rw [eWV, wlt_irr]
      exact ⟨fun z => absurd z (by decide), fun z => by cases z⟩
  · rw [if_neg q, gmG_ok k1 v2, isD_ok w1, lenA_ok kw (by decide) (by decide) (by omega), isD_ok p1, gmG_ok l1 u2, isD_ok x1, lenA_ok kx (by decide) (by decide) (by omega)]
    exact ok_cal cmp_ok2 (fun v m'' e => ok_rt ⟨e.1, cpr_len (by omega) e.2.1 e.2.2⟩)
section CQ
variable {n : Nat} {m : Mem}
theorem fought_0 {o1 o2 w : Nat} (hn : 300 < n) (O1 : GOb m o1 0) (O2 : GOb m o2 0) (D : DU m o1 o2 0 0 false) (hw : w < 2) : Ok (f_X0_fought n (w : Int) m) (fun v _ => v = 0) := by
  have W : wid 0 ≤ 11 := by rw [wid_0']; decide
  have W0 : wid 0 - 1 < wid 0 := by rw [wid_0']; decide
  obtain ⟨a1, a2, a3, _⟩ := O1.o
  obtain ⟨c1, c2, c3, _⟩ := O2.o
  obtain ⟨d2, d3, _⟩ := id D
  unfold f_X0_fought
  dsimp only [gtG]
  rw [d2, Int.toNat_natCast, isD_ok a1, isG_ok a3 a1]
  refine ok_calE (top_eq O1 W) ?_
  rw [d3, Int.toNat_natCast, isD_ok c1, isG_ok c3 c1]
  refine ok_calE (top_eq O2 W) ?_
  refine ok_lp3 (fun a b c m1 => m1 = m ∧ a = ((wid 0 - 1 : Nat) : Int) ∧ b = ((wid 0 - 1 : Nat) : Int) ∧ c = 0) (fun _ _ _ _ => 0) (fun w3 a b c m1 hI hw1 => ?_) n _ _ 0 m ⟨rfl, rfl, rfl, rfl⟩ (by omega)
  obtain ⟨rfl, rfl, rfl, rfl⟩ := hI
  dsimp only [jn]
  rw [if_pos (by decide)]
  dsimp only [nm]
  rw [Int.add_zero, w32_nat (by omega), iand1_nat, Nat.mod_eq_of_lt hw]
  refine ok_calE (bestMove_eq hn O1 O2 D W W W0 W0 hw) ?_
  rw [bm_00, if_pos (by decide)]
  refine ok_calE (firstMove_eq O1 O2 d2 d3 W W hw) ?_
  rw [om_0, if_pos rfl, if_pos rfl, if_pos (by decide)]
  exact ok_rt rfl
theorem Cfight0 (hn : BIG < n) (h : FZ m) {a b w t : Nat} (ha : a < 8) (hb : b < 8) (hw : w < 2) (ht : t < 2) : Ok (f_X10_fight n (a : Int) (b : Int) (w : Int) (t : Int) m) (fun v _ => v = if (t : Int) = 0 then (w : Int) else 0) := by
  have n4 := BIG_m hn
  have C := h.1.1
  obtain ⟨o, O, e⟩ := held_eq (n := n) ha (C.1 a ha)
  obtain ⟨o2, O2, e2⟩ := held_eq (n := n) hb (C.1 b hb)
  obtain ⟨cg, fg, _⟩ := C.1 a ha
  obtain ⟨ch, fh, _⟩ := C.1 b hb
  have G1 := fitsGX O cg fg
  have G2 := fitsGX O2 ch fh
  unfold f_X10_fight
  dsimp only [jn]
  refine ok_calE (isSlot_eq ha) ?_
  rw [if_neg (by decide)]
  refine ok_calE (isSlot_eq hb) ?_
  rw [if_neg (by decide)]
  refine ok_calE (isBit_eq hw) ?_
  rw [if_neg (by decide)]
  refine ok_calE (isBit_eq ht) ?_
  rw [if_neg (by decide)]
  refine ok_calE e ?_
  refine ok_calE e2 ?_
  rw [Int.toNat_natCast, Int.toNat_natCast]
  refine ok_cal (duel_ok (mir := false) (by omega) C O O2 G1 G2) (fun _ m1 h1 => ?_)
  obtain ⟨C1, g1, n1, D⟩ := h1
  refine ok_cal (fought_0 (by omega) (O.mono g1) (O2.mono g1) D hw) (fun v m2 h2 => ?_)
  subst h2
  rcases (by omega : t = 0 ∨ t = 1) with rfl | rfl
  · rw [if_pos (by decide), if_pos (by decide), Int.add_zero, w32_nat (by omega), iand1_nat, Nat.mod_eq_of_lt hw]
    exact ok_rt rfl
  · rw [if_neg (by decide), if_neg (by decide)]
    exact ok_rt rfl
theorem Cfight' (hn : BIG < n) (h : FZ m) {p q w x : Int} : Ok (f_X10_fight n p q w x m) (fun v _ => v = ansR p q w x (if x = 0 then w else 0)) := Cfight hn h (fun a b w t ha hb hw ht => Cfight0 hn h ha hb hw ht)
theorem Cunlike (hn : BIG < n) (h : Z8 m) : Ok (f_X6_unlikeOnes n m) (fun v _ => v = 1) := by
  have n4 := BIG_m hn
  have l0 : (wd 0).length ≤ 100 := by rw [wd_0_len]; decide
  unfold f_X6_unlikeOnes
  refine ok_up2 (i := 0) 8 (fun k a m1 => m1 = m ∧ a = if k = 0 then 0 else 1) (fun w k a m1 hk hI hw => ?_) (fun w a m1 hI => ?_) n 0 m (Nat.zero_le _) ⟨rfl, rfl⟩ (by omega)
  · obtain ⟨rfl, ea⟩ := hI
    obtain ⟨o, e, O⟩ := h k hk
    rw [if_pos (by omega)]
    refine ok_up2 (i := 0) k (fun j b m2 => m2 = m1 ∧ b = if j = 0 then 1 else 0) (fun w2 j b m2 hj hJ hw2 => ?_) (fun w2 b m2 hJ => ?_) n 1 m1 (Nat.zero_le _) ⟨rfl, rfl⟩ (by omega)
    · obtain ⟨rfl, eb⟩ := hJ
      obtain ⟨o2, e2, O2⟩ := h j (by omega)
      rw [if_pos (by omega), ldG_ok (len := 8) rfl hk, ldG_ok (len := 8) rfl (by omega), e, e2, Int.toNat_natCast, Int.toNat_natCast, isD_ok O.o.1, isG_ok O.o.2.2.1 O.o.1]
      refine ok_cal (cmpW_ok (by omega) O O2 l0 l0) (fun v m3 hv => ?_)
      obtain ⟨rfl, cv⟩ := hv
      refine ok_jn ?_
      rw [if_pos (cv.1.mpr rfl)]
      show Ok (w2 0 (w32 ((j : Int) + 1)) m3) _
      rw [w32_1 (by omega)]
      exact hw2 _ m3 ⟨rfl, by rw [if_neg (by omega)]⟩
    · obtain ⟨rfl, eb⟩ := hJ
      rw [if_neg (by omega)]
      refine ok_jn ?_
      by_cases k0 : k = 0
      · rw [if_pos k0] at eb ea
        rw [eb, if_neg (by decide), ea]
        show Ok (w (w32 (0 + 1)) (w32 ((k : Int) + 1)) m2) _
        rw [w32_1 (by omega)]
        exact hw _ m2 ⟨rfl, by rw [if_neg (by omega)]; decide⟩
      · rw [if_neg k0] at eb ea
        rw [eb, if_pos rfl, ea]
        show Ok (w 1 (w32 ((k : Int) + 1)) m2) _
        rw [w32_1 (by omega)]
        exact hw _ m2 ⟨rfl, by rw [if_neg (by omega)]⟩
  · obtain ⟨rfl, ea⟩ := hI
    rw [if_neg (by decide), ea]
    exact ok_rt rfl
theorem Ccount (hn : BIG < n) (h : FZ m) {p : Int} : Ok (f_X10_count n p m) (fun v _ => v = ansN p) := by
  unfold f_X10_count ansN
  by_cases q0 : p = 0
  · rw [if_pos q0, if_pos (Or.inl q0)]
    exact ok_cal (Csmalls hn h.z8) (fun v m3 hv => ok_rt hv)
  rw [if_neg q0]
  by_cases q1 : p = 1
  · rw [if_pos q1, if_pos (Or.inr q1)]
    exact ok_cal (Cwidths hn h.z8) (fun v m3 hv => ok_rt hv)
  rw [if_neg q1, if_neg (show ¬ (p = 0 ∨ p = 1) by omega)]
  by_cases q2 : p = 2
  · rw [if_pos q2, if_pos (Or.inl q2)]
    refine ok_cal (P := fun v _ => v = 0) ?_ (fun v m3 hv => ok_rt hv)
    unfold f_X7_length
    rw [gtF_eq, h.2 _ _ (by unfold ZC; omega)]
    exact ok_rt rfl
  rw [if_neg q2]
  by_cases q3 : p = 3
  · rw [if_pos q3, if_pos (Or.inr (Or.inl q3))]
    refine ok_cal (P := fun v _ => v = 0) ?_ (fun v m3 hv => ok_rt hv)
    unfold f_X6_pastActs
    rw [gtF_eq, h.2 _ _ (by unfold ZC; omega)]
    exact ok_rt rfl
  rw [if_neg q3]
  by_cases q4 : p = 4
  · rw [if_pos q4, if_neg (by omega), if_pos q4]
    exact ok_cal (Cunlike hn h.z8) (fun v m3 hv => ok_rt hv)
  rw [if_neg q4]
  by_cases q5 : p = 5
  · rw [if_pos q5, if_pos (Or.inr (Or.inr q5))]
    exact ok_cal (Claid hn h) (fun v m3 hv => ok_rt hv)
  rw [if_neg q5, if_neg (by omega), if_neg q4]
  exact cf1 m
end CQ
