/-! THE CLASS: WHAT IS BORN, AND WHERE IT STANDS -/
section CV
variable {n : Nat} {m : Mem}
/-- born by that day -/
def bB (dd : Nat) (K : Nat) : Bool := decide (bd K ≤ dd)
theorem XD_eq (dd : Nat) : XD dd = XB.filter (bB dd) := rfl
theorem XD_BF {D K : Nat} (h : K ∈ XD D) : K ∈ BF := by
  rw [XD_eq, List.mem_filter] at h
  exact XB_BF.mp h.1
theorem cBornBy_eq (R : NX m) {dd i : Nat} (hi : i < XB.length) : f_X3_isBornBy n (dd : Int) (i : Int) m = some (b2i (bB dd XB[i]), m) := by
  have l67 := XB_len
  obtain ⟨o, o1, O⟩ := R.2 i hi
  obtain ⟨_, _, _, ⟨k1, _⟩, ⟨q1, _⟩, ⟨_, _, _, b3, _⟩, _⟩ := O.get
  unfold f_X3_isBornBy bB
  dsimp only [jn]
  rw [if_neg (by omega), if_pos (by omega), ldG_ok (kG40 _) (by omega), o1, Int.toNat_natCast, if_neg (by omega), ldG_ok (kG40 _) (by omega), o1, Int.toNat_natCast, isD_ok q1, gmF_ok k1, b3]
  by_cases q : bd XB[i] ≤ dd
  · rw [if_neg (by omega), decide_eq_true q]
    rfl
  · rw [if_pos (by omega), decide_eq_false q]
    rfl
theorem drop_XB {k : Nat} (hk : k < XB.length) : XB.drop k = XB[k] :: XB.drop (k + 1) := List.drop_eq_getElem_cons hk
/-- behind place k, those born by a day -/
noncomputable def XR (dd k : Nat) : List Nat := (XB.drop k).filter (bB dd)
theorem XR_0 (dd : Nat) : XR dd 0 = XD dd := by unfold XR; rw [List.drop_zero]; rfl
theorem XR_y {dd k : Nat} (hk : k < XB.length) (q : bB dd XB[k] = true) : XR dd k = XB[k] :: XR dd (k + 1) := by
  unfold XR
  rw [drop_XB hk, List.filter_cons, if_pos q]
theorem XR_n {dd k : Nat} (hk : k < XB.length) (q : bB dd XB[k] = false) : XR dd k = XR dd (k + 1) := by
  unfold XR
  rw [drop_XB hk, List.filter_cons, if_neg (by rw [q]; decide)]
theorem XR_e (dd : Nat) : XR dd XB.length = [] := by
  unfold XR
  rw [List.drop_of_length_le (Nat.le_refl _)]
  rfl
theorem many_ok {N dd : Nat} (hn : BIG < n) (hN : 100 < N) (c0 : mGet m 39 3 = 0) (hb : mNext m + 300 < 2147483648) : Ok (f_X3_many n N (dd : Int) m) (fun v _ => v = ((XD dd).length : Int)) := by
  have n4 := BIG_m hn
  have l67 := XB_len
  have xl := XD_len dd
  unfold f_X3_many
  refine ok_cal (nfill2_ok (by omega) hN c0 hb) (fun _ m1 h1 => ?_)
  obtain ⟨R, _, _⟩ := h1
  refine ok_up2 (i := 0) XB.length (fun k a m2 => m2 = m1 ∧ a + ((XR dd k).length : Int) = ((XD dd).length : Int) ∧ 0 ≤ a) (fun w k a m2 hk hI hw => ?_) (fun w a m2 hI => ?_) n 0 m1 (Nat.zero_le _) ⟨rfl, by rw [XR_0]; omega, by decide⟩ (by omega)
  · obtain ⟨rfl, ha, a0⟩ := hI
    rw [gtF_eq, R.1, if_pos (by omega)]
    refine ok_calE (cBornBy_eq R hk) ?_
    refine ok_jn ?_
    cases q : bB dd XB[k]
    · rw [if_pos rb_f]
      show Ok (w a (w32 ((k : Int) + 1)) m2) _
      rw [w32_1 (by omega)]
      exact hw _ m2 ⟨rfl, by rw [← XR_n hk q]; exact ha, a0⟩
    · rw [if_neg (by decide)]
      show Ok (w (w32 (a + 1)) (w32 ((k : Int) + 1)) m2) _
      rw [XR_y hk q, List.length_cons] at ha
      rw [w32_1 (by omega), w32_id (x := a + 1) (by omega) (by omega)]
      exact hw _ m2 ⟨rfl, by omega, by omega⟩
  · obtain ⟨rfl, ha, a0⟩ := hI
    rw [XR_e] at ha
    rw [gtF_eq, R.1, if_neg (by omega)]
    refine ok_rt ?_
    have : (([] : List Nat).length : Int) = 0 := rfl
    omega
theorem numberedA_ok {N dd I : Nat} (hn : BIG < n) (hN : 100 < N) (c0 : mGet m 39 3 = 0) (hb : mNext m + 300 < 2147483648) : Ok (f_X3_numbered n N (dd : Int) (I : Int) m) (fun v m' => NX m' ∧ Fr m m' SF ∧ ((I < (XD dd).length ∧ ∃ o : Nat, v = (o : Int) ∧ GOb m' o ((XD dd).getD I 0)) ∨ (¬ I < (XD dd).length ∧ v = 0))) := by
  have n4 := BIG_m hn
  have l67 := XB_len
  have xl := XD_len dd
  unfold f_X3_numbered
  refine ok_cal (nfill2_ok (by omega) hN c0 hb) (fun _ m1 h1 => ?_)
  obtain ⟨R, f1, _⟩ := h1
  refine ok_up2 (i := 0) XB.length (fun k a m2 => m2 = m1 ∧ ∃ s : Nat, a = (s : Int) ∧ s ≤ I ∧ s + (XR dd k).length = (XD dd).length ∧ (XR dd k).getD (I - s) 0 = (XD dd).getD I 0) (fun w k a m2 hk hI hw => ?_) (fun w a m2 hI => ?_) n 0 m1 (Nat.zero_le _) ⟨rfl, 0, rfl, Nat.zero_le _, by rw [XR_0]; omega, by rw [XR_0]; rfl⟩ (by omega)
  · obtain ⟨rfl, s, rfl, sI, sl, sg⟩ := hI
    rw [gtF_eq, R.1, if_pos (by omega)]
    refine ok_calE (cBornBy_eq R hk) ?_
    refine ok_jn ?_
    cases q : bB dd XB[k]
    · rw [if_pos rb_f]
      show Ok (w (s : Int) (w32 ((k : Int) + 1)) m2) _
      rw [w32_1 (by omega)]
      rw [XR_n hk q] at sl sg
      exact hw _ m2 ⟨rfl, s, rfl, sI, sl, sg⟩
    · rw [if_neg (by decide)]
      rw [XR_y hk q] at sl sg
      rw [List.length_cons] at sl
      by_cases z : s = I
      · obtain ⟨o, o1, O⟩ := R.2 k hk
        rw [if_pos (by omega), ldG_ok (kG40 _) (by omega), o1, Int.toNat_natCast]
        refine ok_rt ⟨R, f1, Or.inl ⟨by omega, o, rfl, ?_⟩⟩
        rw [z, Nat.sub_self, List.getD_cons_zero] at sg
        rw [← sg]
        exact O
      · rw [if_neg (by omega)]
        show Ok (w (w32 ((s : Int) + 1)) (w32 ((k : Int) + 1)) m2) _
        rw [w32_1 (by omega), w32_1 (by omega)]
        refine hw _ m2 ⟨rfl, s + 1, rfl, by omega, by omega, ?_⟩
        rw [show I - s = (I - (s + 1)) + 1 by omega, List.getD_cons_succ] at sg
        exact sg
  · obtain ⟨rfl, s, rfl, sI, sl, sg⟩ := hI
    rw [XR_e] at sl
    rw [gtF_eq, R.1, if_neg (by omega)]
    refine ok_rt ⟨R, f1, Or.inr ⟨?_, rfl⟩⟩
    have : ([] : List Nat).length = 0 := rfl
    omega
theorem numberOf_ok {N dd o2 : Nat} (hn : BIG < n) (hN : 100 < N) (c0 : mGet m 39 3 = 0) (O2 : GOb m o2 0) (hb : mNext m + 300 < 2147483648) : Ok (f_X3_numberOf n N (dd : Int) o2 m) (fun v _ => v = (((XD dd).findIdx (fun K => K == 0) : Nat) : Int)) := by
  have n4 := BIG_m hn
  have l67 := XB_len
  have xl := XD_len dd
  have l0 : (wd 0).length ≤ 100 := by rw [wd_0_len]; decide
  have mem0 : 0 ∈ XD dd := by
    unfold XD
    rw [List.mem_filter, decide_eq_true_eq, bd_0]
    exact ⟨XB_BF.mpr BF_0, Nat.zero_le _⟩
  have ltI : (XD dd).findIdx (fun K => K == 0) < (XD dd).length := List.findIdx_lt_length_of_exists ⟨0, mem0, by decide⟩
  unfold f_X3_numberOf
  refine ok_cal (nfill2_ok (by omega) hN c0 hb) (fun _ m1 h1 => ?_)
  obtain ⟨R, f1, _⟩ := h1
  have O1 := O2.mono f1.1
  refine ok_up2 (i := 0) XB.length (fun k a m2 => m2 = m1 ∧ ∃ s : Nat, a = (s : Int) ∧ s + (XR dd k).length = (XD dd).length ∧ s + (XR dd k).findIdx (fun K => K == 0) = (XD dd).findIdx (fun K => K == 0)) (fun w k a m2 hk hI hw => ?_) (fun w a m2 hI => ?_) n 0 m1 (Nat.zero_le _) ⟨rfl, 0, rfl, by rw [XR_0]; omega, by rw [XR_0]; omega⟩ (by omega)
  · obtain ⟨rfl, s, rfl, sl, sg⟩ := hI
    rw [gtF_eq, R.1, if_pos (by omega)]
    refine ok_calE (cBornBy_eq R hk) ?_
    refine ok_jn ?_
    cases q : bB dd XB[k]
    · rw [if_pos rb_f]
      show Ok (w (s : Int) (w32 ((k : Int) + 1)) m2) _
      rw [w32_1 (by omega)]
      rw [XR_n hk q] at sl sg
      exact hw _ m2 ⟨rfl, s, rfl, sl, sg⟩
    · rw [if_neg (by decide)]
      rw [XR_y hk q] at sl sg
      rw [List.length_cons] at sl
      rw [List.findIdx_cons] at sg
      obtain ⟨o, o1, O⟩ := R.2 k hk
      have inB := XB_BF.mp (List.getElem_mem hk)
      obtain ⟨_, fK, _⟩ := BF_fits inB
      rw [ldG_ok (kG40 _) (by omega), o1, Int.toNat_natCast, isD_ok O.o.1, isG_ok O.o.2.2.1 O.o.1]
      refine ok_cal (cmpW_ok (by omega) O O1 fK.2 l0) (fun v m3 hv => ?_)
      obtain ⟨rfl, cv, _⟩ := hv
      by_cases z : XB[k] = 0
      · rw [if_pos (cv.mpr (by rw [z]))]
        refine ok_rt ?_
        have zb : (XB[k] == 0) = true := beq_iff_eq.mpr z
        rw [zb] at sg
        have : s + 0 = (XD dd).findIdx (fun K => K == 0) := sg
        omega
      · rw [if_neg (fun h => z (BF_inj inB BF_0 (cv.mp h)))]
        show Ok (w (w32 ((s : Int) + 1)) (w32 ((k : Int) + 1)) m3) _
        rw [w32_1 (by omega), w32_1 (by omega)]
        have zb : (XB[k] == 0) = false := beq_eq_false_iff_ne.mpr z
        rw [zb] at sg
        have sg2 : s + ((XR dd (k + 1)).findIdx (fun K => K == 0) + 1) = (XD dd).findIdx (fun K => K == 0) := sg
        exact hw _ m3 ⟨rfl, s + 1, rfl, by omega, by omega⟩
  · obtain ⟨rfl, s, rfl, sl, sg⟩ := hI
    exfalso
    rw [XR_e] at sl sg
    have : ([] : List Nat).length = 0 := rfl
    have : ([] : List Nat).findIdx (fun K => K == 0) = 0 := rfl
    omega
theorem cDay_eq {d : Int} : f_X3_isDay n d m = some (b2i (decide (0 ≤ d ∧ d ≤ 3)), m) := by
  apply rk_eq
  unfold f_X3_isDay
  refine ok_jn ?_
  refine ok_jn ?_
  by_cases h1 : d < 0
  · rw [if_pos h1, decide_eq_false (by omega)]
    exact ok_rtZ (Or.inl rfl) ⟨rfl, rfl⟩
  · rw [if_neg h1]
    by_cases h2 : 3 < d
    · rw [if_pos h2, decide_eq_false (by omega)]
      exact ok_rtZ (Or.inl rfl) ⟨rfl, rfl⟩
    · rw [if_neg h2, decide_eq_true (by omega)]
      exact ok_rtZ (Or.inr rfl) ⟨rfl, rfl⟩
theorem Cborn {N : Nat} (hn : BIG < n) (hN : 100 < N) (h : FZ m) {dd i p : Int} : Ok (f_X10_born n N dd i p m) (fun v _ => v = ansB dd i p) := by
  have n4 := BIG_m hn
  have C := h.1.1
  have nx := h.1.2.2
  unfold f_X10_born
  refine ok_calE cDay_eq ?_
  refine ok_jn ?_
  by_cases h1 : 0 ≤ dd ∧ dd ≤ 3
  · rw [decide_eq_true h1, if_neg (by decide)]
    unfold ansB
    rw [if_pos h1]
    by_cases h2 : i < -1
    · rw [if_pos h2, if_pos h2]
      exact cf1 m
    · rw [if_neg h2, if_neg h2]
      obtain ⟨D, rfl⟩ : ∃ D : Nat, dd = (D : Int) := ⟨dd.toNat, by omega⟩
      rw [Int.toNat_natCast]
      refine ok_jn ?_
      by_cases h3 : i < 0
      · rw [if_pos h3, if_pos h3]
        show Ok (if i = -1 then _ else _) _
        rw [if_pos (show i = -1 by omega)]
        refine ok_cal (many_ok hn hN (h.2 _ _ (by unfold ZC; omega)) (by omega)) (fun v m2 hv => ok_rt hv)
      · rw [if_neg h3, if_neg h3]
        refine ok_calE cSlot_eq ?_
        by_cases h4 : 0 ≤ p ∧ p ≤ 7
        · rw [decide_eq_true h4, if_neg (by decide), if_pos h4]
          show Ok (if i = -1 then _ else _) _
          rw [if_neg (show ¬ i = -1 by omega)]
          obtain ⟨I, rfl⟩ : ∃ I : Nat, i = (I : Int) := ⟨i.toNat, by omega⟩
          obtain ⟨p', rfl⟩ : ∃ p' : Nat, p = (p' : Int) := ⟨p.toNat, by omega⟩
          rw [Int.toNat_natCast]
          refine ok_cal (numberedA_ok hn hN (h.2 _ _ (by unfold ZC; omega)) (by omega)) (fun v m2 hv => ?_)
          obtain ⟨R, f1, hv⟩ := hv
          refine ok_jn ?_
          rcases hv with ⟨hI, o, rfl, O⟩ | ⟨hI, rfl⟩
          · rw [Int.toNat_natCast, if_neg O.o.2.2.2, if_pos (by omega)]
            have mem : (XD D).getD I 0 ∈ BF := by
              rw [getD_get hI]
              exact XD_BF (List.getElem_mem hI)
            obtain ⟨cK, fK, _⟩ := BF_fits mem
            refine ok_cal (settle_o (by omega) (C.nur f1 R.row) (by omega) cK fK O) (fun r m3 h3 => ok_rt ?_)
            rw [h3.1, ans_y fK]
          · rw [if_pos (by decide), if_neg (by omega)]
            exact cf2 m2
        · rw [decide_eq_false h4, if_pos rb_f, if_neg h4]
          exact cf1 m
  · rw [decide_eq_false h1, if_pos rb_f]
    unfold ansB
    rw [if_neg h1]
    exact cf1 m
theorem Cplace {N : Nat} (hn : BIG < n) (hN : 100 < N) (h : FZ m) {dd p : Int} : Ok (f_X10_place n N dd p m) (fun v _ => v = ansP dd p) := by
  have n4 := BIG_m hn
  have nx := h.1.2.2
  unfold f_X10_place
  refine ok_calE cDay_eq ?_
  refine ok_jn ?_
  by_cases h1 : 0 ≤ dd ∧ dd ≤ 3
  · rw [decide_eq_true h1, if_neg (by decide)]
    refine ok_calE cSlot_eq ?_
    by_cases h4 : 0 ≤ p ∧ p ≤ 7
    · rw [decide_eq_true h4, if_neg (by decide)]
      unfold ansP
      rw [if_pos ⟨h1.1, h1.2, h4.1, h4.2⟩]
      obtain ⟨D, rfl⟩ : ∃ D : Nat, dd = (D : Int) := ⟨dd.toNat, by omega⟩
      rw [Int.toNat_natCast]
      obtain ⟨p', rfl⟩ : ∃ p' : Nat, p = (p' : Int) := ⟨p.toNat, by omega⟩
      obtain ⟨o, ho⟩ := cheld_eq (n := n) (m := m) (p := p') (by omega)
      obtain ⟨e, O, _⟩ := ho h
      refine ok_calE e ?_
      rw [Int.toNat_natCast]
      refine ok_cal (numberOf_ok hn hN (h.2 _ _ (by unfold ZC; omega)) O (by omega)) (fun v m2 hv => ?_)
      subst hv
      refine ok_jn ?_
      rw [if_neg (by omega)]
      exact ok_rt rfl
    · rw [decide_eq_false h4, if_pos rb_f]
      unfold ansP
      rw [if_neg (fun z => h4 ⟨z.2.2.1, z.2.2.2⟩)]
      exact cf1 m
  · rw [decide_eq_false h1, if_pos rb_f]
    unfold ansP
    rw [if_neg (fun z => h1 ⟨z.1, z.2.1⟩)]
    exact cf1 m
end CV
