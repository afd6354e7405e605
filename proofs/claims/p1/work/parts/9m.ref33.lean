/-! BORN: THE CALLS -/
/-- all that is born by day three, by words -/
noncomputable def XB : List Nat := Classical.choose (sortw_map BF)
theorem XB_spec : sortw (BF.map wd) = XB.map wd ∧ XB.Perm BF := Classical.choose_spec (sortw_map BF)
theorem BF_nodup : BF.Nodup := by
  unfold BF
  have : ∀ L : List (Nat × Nat), L.Nodup → (∀ s, s ∈ L → s.1 < 128 ∧ s.2 < 128) → (L.map (fun s => nG s.1 s.2)).Nodup := fun L => by
    induction L with
    | nil => intro _ _; exact List.nodup_nil
    | cons s L ih =>
      intro nd h
      rw [List.nodup_cons] at nd
      rw [List.map_cons, List.nodup_cons]
      refine ⟨fun q => ?_, ih nd.2 (fun z hz => h z (List.mem_cons_of_mem _ hz))⟩
      obtain ⟨z, hz, e⟩ := List.mem_map.mp q
      have a := h s (List.mem_cons_self ..)
      have b := h z (List.mem_cons_of_mem _ hz)
      obtain ⟨e1, e2⟩ := nG_inj b.1 b.2 a.1 a.2 e
      have : z = s := Prod.ext e1 e2
      rw [this] at hz
      exact nd.1 hz
  exact this nS3 nS3_nodup (fun s hs => by
    have := day3.2.2.2.2 s hs
    exact ⟨this.1, this.2.1⟩)
theorem BF_9 {K : Nat} (h : K ∈ BF) : can K ∧ bd K ≤ 9 := by
  obtain ⟨s, hs, rfl⟩ := List.mem_map.mp h
  have := bd_nG s.1 s.2
  exact ⟨(day3.2.2.2.2 s hs).2.2, by omega⟩
theorem BF_inj {x y : Nat} (hx : x ∈ BF) (hy : y ∈ BF) (e : wd x = wd y) : x = y := wd_inj (BF_9 hx).1 (BF_9 hy).1 (BF_9 hx).2 (BF_9 hy).2 e
theorem XB_srt : Srt (XB.map wd) := by
  rw [← XB_spec.1]
  exact sortw_srt (nodup_mapW BF_nodup (fun x hx y hy e => BF_inj hx hy e))
/-- there is but one such row -/
theorem XB_uniq {X : List Nat} (h : Srt (X.map wd)) (m : ∀ K, K ∈ BF ↔ K ∈ X) : X = XB := by
  have e : X.map wd = XB.map wd := srt_uniq h XB_srt (fun a => by
    rw [List.mem_map, List.mem_map]
    constructor
    · rintro ⟨x, hx, rfl⟩; exact ⟨x, XB_spec.2.mem_iff.mpr ((m x).mpr hx), rfl⟩
    · rintro ⟨x, hx, rfl⟩; exact ⟨x, (m x).mp (XB_spec.2.mem_iff.mp hx), rfl⟩)
  have go : ∀ (X Y : List Nat), (∀ x, x ∈ X → x ∈ BF) → (∀ y, y ∈ Y → y ∈ BF) → X.map wd = Y.map wd → X = Y := fun X => by
    induction X with
    | nil => intro Y _ _ e; cases Y with
      | nil => rfl
      | cons y Y => cases e
    | cons x X ih =>
      intro Y hX hY e
      cases Y with
      | nil => cases e
      | cons y Y =>
        rw [List.map_cons, List.map_cons] at e
        have e1 := List.head_eq_of_cons_eq e
        have e2 := List.tail_eq_of_cons_eq e
        rw [BF_inj (hX x (List.mem_cons_self ..)) (hY y (List.mem_cons_self ..)) e1, ih Y (fun z hz => hX z (List.mem_cons_of_mem _ hz)) (fun z hz => hY z (List.mem_cons_of_mem _ hz)) e2]
  exact go X XB (fun x hx => (m x).mpr hx) (fun y hy => XB_spec.2.mem_iff.mp hy) e
/-- those born by a day -/
noncomputable def XD (dd : Nat) : List Nat := XB.filter (fun K => decide (bd K ≤ dd))
theorem XB_len : XB.length = 67 := by rw [XB_spec.2.length_eq, BF_len]
theorem XD_len (dd : Nat) : (XD dd).length ≤ 67 := by
  have := List.length_filter_le (fun K => decide (bd K ≤ dd)) XB
  rw [XB_len] at this
  exact this
section BN
variable {n N P : Nat} {lo ro : Nat → List Nat} {st d : Nat → Nat} {B : List Nat} {m : Mem}
theorem Born.X (h : Born m N P lo ro st d B) : B.map d = XB := by
  obtain ⟨_, _, _, _, _, s, a⟩ := h
  refine XB_uniq (by rw [List.map_map]; exact s) (fun K => ?_)
  rw [a K, List.mem_map]
theorem Born.at (h : Born m N P lo ro st d B) {k : Nat} (hk : k < B.length) : mGet m 134 k = (B[k] : Int) ∧ B[k] < N ∧ mGet m 106 B[k] = (bd (d B[k]) : Int) ∧ N ≤ 200 := by
  obtain ⟨R, _, r, b, _, _, _⟩ := h
  have e := r k hk
  rw [Nat.zero_add] at e
  have bk := b _ (List.getElem_mem hk)
  exact ⟨e, bk, (R.2.1 _ bk).2.2.1, R.nn⟩
theorem bornBy_eq (hn : 300000 < n) (h : Born m N P lo ro st d B) (dd : Nat) : f_X11_bornBy n (dd : Int) m = some (((XD dd).length : Int), m) := by
  have l67 := h.2.2.2.2.1
  have hX := h.X
  apply rk_eq
  unfold f_X11_bornBy
  refine ok_up2 (i := 0) B.length (fun k a m1 => m1 = m ∧ a = ((((B.map d).take k).filter (fun K => decide (bd K ≤ dd))).length : Int)) (fun w k a m1 hk hI hw => ?_) (fun w a m1 hI => ?_) n 0 m (Nat.zero_le _) ⟨rfl, rfl⟩ (by omega)
  · obtain ⟨rfl, rfl⟩ := hI
    obtain ⟨a1, a2, a3, a4⟩ := h.at hk
    have tk : (B.map d).take (k + 1) = (B.map d).take k ++ [d B[k]] := by rw [take_s (by rw [List.length_map]; exact hk), List.getElem_map]
    have lf := List.length_filter_le (fun K => decide (bd K ≤ dd)) ((B.map d).take k)
    rw [List.length_take, List.length_map] at lf
    rw [gtF_eq, h.2.1, if_pos (by omega), ldI_ok (len := 200) rfl (by omega), a1, ldI_ok (len := 16000) rfl (by omega), a3]
    refine ok_jn ?_
    by_cases q : bd (d B[k]) ≤ dd
    · rw [if_neg (by omega)]
      refine ok_nm ?_
      rw [w32_1 (by omega), w32_1 (by omega)]
      refine hw _ m1 ⟨rfl, ?_⟩
      rw [tk, List.filter_append, List.length_append]
      simp only [List.filter_cons, List.filter_nil, decide_eq_true q, if_true]
      rfl
    · rw [if_pos (by omega)]
      refine ok_nm ?_
      rw [Int.add_zero, w32_nat (by omega), w32_1 (by omega)]
      refine hw _ m1 ⟨rfl, ?_⟩
      rw [tk, List.filter_append, List.length_append]
      simp only [List.filter_cons, List.filter_nil, decide_eq_false q]
      rfl
  · obtain ⟨rfl, rfl⟩ := hI
    rw [gtF_eq, h.2.1, if_neg (by omega)]
    refine ok_rt ⟨?_, rfl⟩
    rw [List.take_of_length_le (by rw [List.length_map]; exact Nat.le_refl _), hX]
    rfl
theorem bornAt_ok (hn : 300000 < n) (h : Born m N P lo ro st d B) {dd i : Nat} (hi : i < (XD dd).length) : Ok (f_X11_bornAt n (dd : Int) (i : Int) m) (fun v m' => m' = m ∧ ∃ o : Nat, v = (o : Int) ∧ o < N ∧ d o = (XD dd)[i]) := by
  have l67 := h.2.2.2.2.1
  have hX := h.X
  have x67 := XD_len dd
  unfold f_X11_bornAt
  refine ok_up2 (i := 0) B.length (fun k a m1 => m1 = m ∧ ∃ r : Nat, a = (r : Int) ∧ ∃ hr : r < (((B.map d).drop k).filter (fun K => decide (bd K ≤ dd))).length, (((B.map d).drop k).filter (fun K => decide (bd K ≤ dd)))[r] = (XD dd)[i]) (fun w k a m1 hk hI hw => ?_) (fun w a m1 hI => ?_) n (i : Int) m (Nat.zero_le _) ⟨rfl, i, rfl, ?_⟩ (by omega)
  · obtain ⟨rfl, r, rfl, hr, er⟩ := hI
    obtain ⟨a1, a2, a3, a4⟩ := h.at hk
    have dk : (B.map d).drop k = d B[k] :: (B.map d).drop (k + 1) := by rw [List.drop_eq_getElem_cons (by rw [List.length_map]; exact hk), List.getElem_map]
    have lf := List.length_filter_le (fun K => decide (bd K ≤ dd)) ((B.map d).drop k)
    rw [List.length_drop, List.length_map] at lf
    rw [gtF_eq, h.2.1, if_pos (by omega), ldI_ok (len := 200) rfl (by omega), a1, ldI_ok (len := 16000) rfl (by omega), a3]
    refine ok_jn ?_
    by_cases q : bd (d B[k]) ≤ dd
    · have fk : ((B.map d).drop k).filter (fun K => decide (bd K ≤ dd)) = d B[k] :: ((B.map d).drop (k + 1)).filter (fun K => decide (bd K ≤ dd)) := by
        rw [dk, List.filter_cons, if_pos (decide_eq_true q)]
      rw [if_neg (by omega)]
      cases r with
      | zero =>
        rw [if_pos (show ((0 : Nat) : Int) = 0 from rfl), ldI_ok (len := 200) rfl (by omega), a1]
        refine ok_rt ⟨rfl, B[k], rfl, a2, ?_⟩
        rw [← er]
        simp only [fk, List.getElem_cons_zero]
      | succ r =>
        rw [if_neg (by omega)]
        show Ok (w (w32 (((r + 1 : Nat) : Int) + (-1))) (w32 ((k : Int) + 1)) m1) _
        rw [show ((r + 1 : Nat) : Int) + (-1) = (r : Int) by omega, w32_nat (by omega), w32_1 (by omega)]
        rw [fk] at hr
        refine hw _ m1 ⟨rfl, r, rfl, by rw [List.length_cons] at hr; omega, ?_⟩
        rw [← er]
        simp only [fk, List.getElem_cons_succ]
    · have fk : ((B.map d).drop k).filter (fun K => decide (bd K ≤ dd)) = ((B.map d).drop (k + 1)).filter (fun K => decide (bd K ≤ dd)) := by
        rw [dk, List.filter_cons, if_neg (by rw [decide_eq_true_eq]; exact q)]
      rw [if_pos (by omega)]
      show Ok (w (r : Int) (w32 ((k : Int) + 1)) m1) _
      rw [w32_1 (by omega)]
      refine hw _ m1 ⟨rfl, r, rfl, by rw [← fk]; exact hr, ?_⟩
      rw [← er]
      simp only [fk]
  · obtain ⟨rfl, r, rfl, hr, er⟩ := hI
    rw [List.drop_of_length_le (by rw [List.length_map]; exact Nat.le_refl _)] at hr
    exact absurd hr (Nat.not_lt_zero _)
  · refine ⟨?_, ?_⟩
    · rw [List.drop_zero, hX]; exact hi
    · simp only [List.drop_zero, hX]
      rfl
end BN
/-- the answer of born -/
noncomputable def ansB (dd i : Int) (p : Int) : Int := if 0 ≤ dd ∧ dd ≤ 3 then (if i < -1 then -1100000001 else if i < 0 then ((XD dd.toNat).length : Int) else if 0 ≤ p ∧ p ≤ 7 then (if i < ((XD dd.toNat).length : Int) then ans ((XD dd.toNat).getD i.toNat 0) else -1100000002) else -1100000001) else -1100000001
theorem rborn_ok {n s t q : Nat} {dd i p : Int} {m : Mem} {T : Tb} (hn : BIG < n) (B : RB m T BF s t q) (h45 : mGet m 100 45 = 0) : Ok (f_X11_born n dd i p m) (fun v _ => v = ansB dd i p) := by
  have n4 := BIG_m hn
  have bad : ∀ m2, Ok (cal (f_X11_no n 1 m2) fun x27 m27 => rt x27 m27) (fun v _ => v = -1100000001) := fun m2 => ok_calE (no_eq (k := 1) (by decide)) (ok_rt rfl)
  unfold f_X11_born
  refine ok_calE in_eq ?_
  refine ok_jn ?_
  by_cases h1 : 0 ≤ dd ∧ dd ≤ 3
  · rw [decide_eq_true h1, if_neg (by decide)]
    unfold ansB
    rw [if_pos h1]
    by_cases h2 : i < -1
    · rw [if_pos h2, if_pos h2]
      exact bad m
    · rw [if_neg h2, if_neg h2]
      obtain ⟨D, rfl⟩ : ∃ D : Nat, dd = (D : Int) := ⟨dd.toNat, by omega⟩
      rw [Int.toNat_natCast]
      have x67 := XD_len D
      refine ok_jn ?_
      by_cases h3 : i < 0
      · rw [if_pos h3, if_pos h3]
        refine ok_cal (bears_ok hn B h45) (fun _ m2 hq => ?_)
        obtain ⟨⟨N, P, lo, ro, st, d, L, b⟩, c⟩ := hq
        rw [if_pos h3]
        exact ok_calE (bornBy_eq n4 b D) (ok_rt rfl)
      · rw [if_neg h3, if_neg h3]
        refine ok_calE rSlot_eq ?_
        by_cases h4 : 0 ≤ p ∧ p ≤ 7
        · rw [decide_eq_true h4, if_neg (by decide), if_pos h4]
          refine ok_cal (bears_ok hn B h45) (fun _ m2 hq => ?_)
          obtain ⟨⟨N, P, lo, ro, st, d, L, b⟩, c⟩ := hq
          rw [if_neg h3]
          refine ok_calE (bornBy_eq n4 b D) ?_
          refine ok_jn ?_
          obtain ⟨I, rfl⟩ : ∃ I : Nat, i = (I : Int) := ⟨i.toNat, by omega⟩
          obtain ⟨p', rfl⟩ : ∃ p' : Nat, p = (p' : Int) := ⟨p.toNat, by omega⟩
          by_cases h5 : (I : Int) < ((XD D).length : Int)
          · rw [if_pos h5, if_pos h5, Int.toNat_natCast]
            have hI : I < (XD D).length := by omega
            refine ok_cal (bornAt_ok n4 b hI) (fun v m3 hq => ?_)
            obtain ⟨rfl, o, rfl, oN, eo⟩ := hq
            obtain ⟨b1, b2, b3, b4, b5, b6, b7, b8⟩ := B
            refine ok_cal (holds_ok (BIG_n hn) b.1 oN (b5.ext (fun a i z => c.2 a i (by unfold SBe SBn SSo SAh SSm SCt SCn; omega))) (by omega) (by omega) ((c.2 _ _ (by unfold SBe SBn SSo SAh SSm SCt SCn; omega)).trans b7)) (fun v m4 hq => ?_)
            refine ok_rt ?_
            rw [hq, eo, getD_get hI]
          · rw [if_neg h5, if_neg h5]
            exact ok_calE (no_eq (k := 2) (by decide)) (ok_rt rfl)
        · rw [decide_eq_false h4, if_pos rb_f, if_neg h4]
          exact bad m
  · rw [decide_eq_false h1, if_pos rb_f]
    unfold ansB
    rw [if_neg h1]
    exact bad m
/-- the answer of place -/
noncomputable def ansP (dd p : Int) : Int := if 0 ≤ dd ∧ dd ≤ 3 ∧ 0 ≤ p ∧ p ≤ 7 then (((XD dd.toNat).findIdx (fun K => K == 0) : Nat) : Int) else -1100000001
theorem rplace_ok {n s t q : Nat} {dd p : Int} {m : Mem} {T : Tb} (hn : BIG < n) (B : RB m T BF s t q) (h45 : mGet m 100 45 = 0) : Ok (f_X11_place n dd p m) (fun v _ => v = ansP dd p) := by
  have n4 := BIG_m hn
  have bad : ∀ m2, Ok (cal (f_X11_no n 1 m2) fun x27 m27 => rt x27 m27) (fun v _ => v = -1100000001) := fun m2 => ok_calE (no_eq (k := 1) (by decide)) (ok_rt rfl)
  unfold f_X11_place
  refine ok_calE in_eq ?_
  refine ok_jn ?_
  by_cases h1 : 0 ≤ dd ∧ dd ≤ 3
  · rw [decide_eq_true h1, if_neg (by decide)]
    refine ok_calE rSlot_eq ?_
    by_cases h4 : 0 ≤ p ∧ p ≤ 7
    · rw [decide_eq_true h4, if_neg (by decide)]
      unfold ansP
      rw [if_pos ⟨h1.1, h1.2, h4.1, h4.2⟩]
      obtain ⟨D, rfl⟩ : ∃ D : Nat, dd = (D : Int) := ⟨dd.toNat, by omega⟩
      rw [Int.toNat_natCast]
      obtain ⟨p', rfl⟩ : ∃ p' : Nat, p = (p' : Int) := ⟨p.toNat, by omega⟩
      have x67 := XD_len D
      refine ok_cal (bears_ok hn B h45) (fun _ m2 hq => ?_)
      obtain ⟨⟨N, P, lo, ro, st, d, L, b⟩, c⟩ := hq
      obtain ⟨b1, b2, b3, b4, b5, b6, b7, b8⟩ := B
      have e129 : mGet m2 129 p' = 0 := (c.2 _ _ (by unfold SBe SBn SSo SAh SSm SCt SCn; omega)).trans (b8 p' (by omega))
      have mem0 : 0 ∈ XD D := by
        unfold XD
        rw [List.mem_filter, decide_eq_true_eq, bd_0]
        exact ⟨XB_spec.2.mem_iff.mpr BF_0, Nat.zero_le _⟩
      have ltI : (XD D).findIdx (fun K => K == 0) < (XD D).length := List.findIdx_lt_length_of_exists ⟨0, mem0, by decide⟩
      refine ok_up1 (i := 0) (XD D).length (fun k m3 => m3 = m2 ∧ k ≤ (XD D).findIdx (fun K => K == 0)) (fun w k m3 hk hI hw => ?_) (fun w m3 hI => ?_) n m2 (Nat.zero_le _) ⟨rfl, Nat.zero_le _⟩ (by omega)
      · obtain ⟨rfl, kI⟩ := hI
        refine ok_calE (bornBy_eq n4 b D) ?_
        rw [if_pos (by omega)]
        refine ok_cal (bornAt_ok n4 b hk) (fun v m4 hq => ?_)
        obtain ⟨rfl, o, rfl, oN, eo⟩ := hq
        rw [ldI_ok (len := 8) rfl (by omega), e129]
        have d0 : d 0 = 0 := b.1.d0
        by_cases z : (o : Int) = 0
        · rw [if_pos z]
          have : o = 0 := by omega
          subst this
          rw [d0] at eo
          refine ok_rt ?_
          have h2 : ¬ k < (XD D).findIdx (fun K => K == 0) := fun q => by
            have := List.not_of_lt_findIdx q
            simp only [← eo] at this
            exact absurd this (by decide)
          congr 1
          omega
        · rw [if_neg z, w32_1 (by omega)]
          refine hw m4 ⟨rfl, ?_⟩
          rcases Nat.lt_or_ge k ((XD D).findIdx (fun K => K == 0)) with q | q
          · omega
          · exfalso
            have ek : k = (XD D).findIdx (fun K => K == 0) := by omega
            have := List.findIdx_getElem (w := ltI)
            simp only [← ek] at this
            rw [← eo] at this
            have d1 : d o = 0 := by simpa using this
            have := b.1.2.2.2.1 o 0 oN (by omega) (d1.trans d0.symm)
            omega
      · obtain ⟨rfl, kI⟩ := hI
        omega
    · rw [decide_eq_false h4, if_pos rb_f]
      unfold ansP
      rw [if_neg (fun z => h4 ⟨z.2.2.1, z.2.2.2⟩)]
      exact bad m
  · rw [decide_eq_false h1, if_pos rb_f]
    unfold ansP
    rw [if_neg (fun z => h1 ⟨z.1, z.2.1⟩)]
    exact bad m
