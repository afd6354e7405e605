/-! THE CLASS: UPS -/
theorem x1_lt2 {m : Nat} (h : m < 2) : m ^^^ 1 < 2 := by
  rcases (by omega : m = 0 ∨ m = 1) with rfl | rfl <;> decide
theorem Ug_op2 {i m w x : Nat} (hw : w < 2) (hm : m < 2) (h : op (Ug i m) w x = true) : ∃ j c, j ≤ i ∧ c < 2 ∧ x = Ug j c := by
  cases i with
  | zero =>
    obtain ⟨k, hk, rfl⟩ := (op_hc hw).mp h
    exact ⟨0, k, Nat.le_refl _, by omega, rfl⟩
  | succ i =>
    unfold Ug at h
    by_cases z : i = 0 ∧ m = 1
    · rw [if_pos z] at h
      rcases (by omega : w = 0 ∨ w = 1) with rfl | rfl
      · rcases ust_L.mp h with rfl | rfl
        · exact ⟨0, 0, by omega, by decide, hc_0.symm⟩
        · exact ⟨0, 1, by omega, by decide, rfl⟩
      · rw [ust_R.mp h]
        exact ⟨0, 0, by omega, by decide, hc_0.symm⟩
    · rw [if_neg z] at h
      rcases (by omega : w = 0 ∨ w = 1) with rfl | rfl
      · rw [op_mkgL, List.mem_singleton] at h
        rw [h]
        exact ⟨0, 0, by omega, by decide, hc_0.symm⟩
      · rw [op_mkgR, List.mem_singleton] at h
        exact ⟨i, m ^^^ 1, by omega, x1_lt2 hm, h⟩
theorem Ug_fol2 : ∀ (n i m x : Nat), Ug i m ≤ n → m < 2 → fol (Ug i m) x → ∃ j c, j ≤ i ∧ c < 2 ∧ x = Ug j c
  | n, i, m, x, hn, hm, h => by
    rcases (fol_def _ x).mp h with rfl | ⟨y, hy, h3⟩
    · exact ⟨i, m, Nat.le_refl _, hm, rfl⟩
    · have : ∃ w, w < 2 ∧ op (Ug i m) w y = true := hy.elim (fun h => ⟨0, by decide, h⟩) (fun h => ⟨1, by decide, h⟩)
      obtain ⟨w, hw, ho⟩ := this
      have lt := op_lt ho
      obtain ⟨j, c, h1, h2, rfl⟩ := Ug_op2 hw hm ho
      match n with
      | 0 => omega
      | n + 1 =>
        obtain ⟨j2, c2, h4, h5, h6⟩ := Ug_fol2 n j c x (by omega) h2 h3
        exact ⟨j2, c2, by omega, h5, h6⟩
theorem wid_Ug {i m : Nat} (hi : i < 5) (hm : m < 2) : wid (Ug i m) ≤ 10 := by
  have h := nodup_le (fls (Ug i m)) ((List.range 5).flatMap (fun i => (List.range 2).map (fun m => Ug i m))) (nodup_fr _ _) (fun x hx => by
    obtain ⟨j, c, h1, h2, rfl⟩ := Ug_fol2 _ i m x (Nat.le_refl _) hm (mem_fls.mp hx)
    exact List.mem_flatMap.mpr ⟨j, List.mem_range.mpr (by omega), List.mem_map.mpr ⟨c, List.mem_range.mpr h2, rfl⟩⟩)
  have l := flat_len (fun i => (List.range 2).map (fun m => Ug i m)) 2 (List.range 5) (fun x _ => Nat.le_of_eq (by rw [List.length_map, List.length_range]))
  rw [List.length_range] at l
  exact Nat.le_trans h (by omega)
theorem wdl_mk {g : Nat} (L R : List Nat) (hL : ∀ x, op g 0 x = true → x ∈ L) (hR : ∀ x, op g 1 x = true → x ∈ R) : (wd g).length ≤ 3 + (L.map wl1).sum + (R.map wl1).sum := by
  have h1 := wd_le g
  have h2 := opts_sum hL
  have h3 := opts_sum hR
  omega
theorem sum1 (x : Nat) : ([x].map wl1).sum = (wd x).length + 1 := by
  rw [List.map_cons, List.map_nil, List.sum_cons, List.sum_nil]
  rfl
theorem sum2 (x y : Nat) : ([x, y].map wl1).sum = (wd x).length + 1 + ((wd y).length + 1) := by
  rw [List.map_cons, List.map_cons, List.map_nil, List.sum_cons, List.sum_cons, List.sum_nil]
  rfl
theorem wd_1_len : (wd (hc 1)).length = 1 := by
  rw [wd_hcs (by decide) (by decide)]
  rfl
theorem fits_hc {p : Nat} (h : p ≤ 9) : fits (hc p) := by
  refine ⟨by rw [wid_hc]; omega, ?_⟩
  by_cases q : p = 0
  · rw [q, hc_0, wd_0_len]; decide
  · rw [wd_hcs (by omega) h]
    split <;> simp
theorem op_neg_in {g w x : Nat} {L : List Nat} (hw : w < 2) (hL : ∀ y, op g (1 - w) y = true → gneg y ∈ L) (h : op (gneg g) w x = true) : x ∈ L := by
  obtain ⟨y, hy, rfl⟩ := (op_gneg hw).mp h
  exact hL y hy
theorem wdl_Ug : ∀ i m, m < 2 → (wd (Ug i m)).length ≤ 9 + 6 * i ∧ (wd (gneg (Ug i m))).length ≤ 9 + 6 * i
  | 0, m, hm => by
    have e : Ug 0 m = hc m := rfl
    rw [e, gneg_hc]
    rcases (by omega : m = 0 ∨ m = 1) with rfl | rfl
    · rw [hc_0, wd_0_len]; decide
    · rw [wd_1_len]; decide
  | i + 1, m, hm => by
    obtain ⟨a, b⟩ := wdl_Ug i (m ^^^ 1) (x1_lt2 hm)
    have z0 := wd_0_len
    have z1 := wd_1_len
    unfold Ug
    by_cases z : i = 0 ∧ m = 1
    · rw [if_pos z]
      refine ⟨Nat.le_trans (wdl_mk [0, hc 1] [0] (fun x hx => ?_) (fun x hx => ?_)) ?_, Nat.le_trans (wdl_mk [0] [0, hc 1] (fun x hx => op_neg_in (by decide) (fun y hy => ?_) hx) (fun x hx => op_neg_in (by decide) (fun y hy => ?_) hx)) ?_⟩
      · rcases ust_L.mp hx with rfl | rfl
        · exact List.mem_cons_self
        · exact List.mem_cons_of_mem _ (List.mem_singleton.mpr rfl)
      · exact List.mem_singleton.mpr (ust_R.mp hx)
      · rw [sum2, sum1]; omega
      · rw [ust_R.mp hy, gneg_0]; exact List.mem_singleton.mpr rfl
      · rcases ust_L.mp hy with rfl | rfl
        · rw [gneg_0]; exact List.mem_cons_self
        · rw [gneg_hc]; exact List.mem_cons_of_mem _ (List.mem_singleton.mpr rfl)
      · rw [sum2, sum1]; omega
    · rw [if_neg z]
      refine ⟨Nat.le_trans (wdl_mk [0] [Ug i (m ^^^ 1)] (fun x hx => (op_mkgL _ _ _).mp hx) (fun x hx => (op_mkgR _ _ _).mp hx)) ?_, Nat.le_trans (wdl_mk [gneg (Ug i (m ^^^ 1))] [0] (fun x hx => op_neg_in (by decide) (fun y hy => ?_) hx) (fun x hx => op_neg_in (by decide) (fun y hy => ?_) hx)) ?_⟩
      · rw [sum1, sum1]; omega
      · rw [List.mem_singleton.mp ((op_mkgR _ _ _).mp hy)]; exact List.mem_singleton.mpr rfl
      · rw [List.mem_singleton.mp ((op_mkgL _ _ _).mp hy), gneg_0]; exact List.mem_singleton.mpr rfl
      · rw [sum1, sum1]; omega
theorem fits_sg {neg : Bool} {j m : Nat} (hj : j ≤ 4) (hm : m < 2) : fits (sg neg (Ug j m)) := by
  have w := wid_Ug (i := j) (m := m) (by omega) hm
  obtain ⟨a, b⟩ := wdl_Ug j m hm
  cases neg
  · exact ⟨w, by show (wd (Ug j m)).length ≤ 100; omega⟩
  · exact ⟨by show wid (gneg (Ug j m)) ≤ 10; rw [wid_gneg]; exact w, by show (wd (gneg (Ug j m))).length ≤ 100; omega⟩
theorem geq_neg {a b : Nat} (h : geq a b) : geq (gneg a) (gneg b) := ⟨gneg_le.mpr h.2, gneg_le.mpr h.1⟩
theorem sg_step (neg : Bool) (j : Nat) : geq (sg neg (Ug (j + 1) 0)) (gadd (sg neg (Ug j 0)) (sg neg upg)) := by
  have e : geq (Ug (j + 1) 0) (gadd (Ug j 0) upg) := (Ug_eq (j + 1) 0).tr ((Vg_up j 0).sy.tr (gadd_eq (Ug_eq j 0).sy (geq_rfl _)))
  cases neg
  · exact e
  · exact (geq_neg e).tr (neg_add _ _)
theorem Vg_z (k : Nat) : Vg k 0 = upn k := by unfold Vg; rw [hc_0, gadd_0]
theorem sg_heap (neg : Bool) (k a : Nat) : geq (sg neg (Ug k a)) (gadd (sg neg (Ug k 0)) (hc a)) := by
  have e : geq (Ug k a) (gadd (Ug k 0) (hc a)) := by
    refine (Ug_eq k a).tr ?_
    show geq (gadd (upn k) (hc a)) _
    refine gadd_eq ?_ (geq_rfl _)
    rw [← Vg_z]
    exact (Ug_eq k 0).sy
  cases neg
  · exact e
  · have h := (geq_neg e).tr (neg_add _ _)
    rw [gneg_hc] at h
    exact h
theorem can_upg : can upg := by rw [← Ug_10]; exact can_Ug 1 0
theorem fits_upg : fits upg := by
  have h := fits_sg (neg := false) (j := 1) (m := 0) (by decide) (by decide)
  show fits upg
  rw [← Ug_10]
  exact h
theorem fits_upn {neg : Bool} : fits (sg neg upg) := by
  have h := fits_sg (neg := neg) (j := 1) (m := 0) (by decide) (by decide)
  rw [Ug_10] at h
  exact h
theorem Uk_sg (k : Int) (a : Nat) : Uk k a = sg (decide (k < 0)) (Ug k.natAbs a) := by
  unfold Uk sg
  by_cases q : k < 0
  · rw [if_pos q, decide_eq_true q, if_pos rfl]
  · rw [if_neg q, decide_eq_false q, if_neg (by decide)]
theorem upsA_ok {n p2 : Nat} {p1 : Int} {m : Mem} (hn : 300 < n) (h1 : p1.natAbs ≤ 4) (h2 : p2 ≤ 5) (hU : ∃ o : Nat, mGet m 28 6 = (o : Int) ∧ GOb m o upg) (hb : mNext m + 40 < 2147483648) : Ok (f_X2_upsAndHeap n p1 (p2 : Int) m) (fun v m' => Res m' v (Uk p1 p2) ∧ Fr m m' SM ∧ mNext m' ≤ mNext m + 40) := by
  obtain ⟨neg, en⟩ : ∃ neg, neg = decide (p1 < 0) := ⟨_, rfl⟩
  rw [Uk_sg, ← en]
  unfold f_X2_upsAndHeap
  dsimp only [jn, gtG]
  have tail : ∀ (u : Nat) m1, GOb m1 u (sg neg upg) → Fr m m1 SM → mNext m1 ≤ mNext m + 4 → Ok (cal (f_X2_heapOf n 0 m1) fun x22 m22 =>
    lp (F := Nat → Int → Mem → Option Rz) (fun _ _ _ => none) (fun w30 v4_30 v5_30 m30 =>
      if v5_30 < iabs p1 then (
        if v5_30 < 11 then (
          cal (f_X2_sumOf n v4_30 u m30) fun x50 m50 =>
          w30 x50.toNat (w32 (v5_30 + 1)) m50
        ) else
        cal (f_X2_heapOf n (p2 : Int) m30) fun x66 m66 =>
        cal (f_X2_sumOf n v4_30 x66.toNat m66) fun x69 m69 =>
        rt (x69.toNat : Nat) m69
      ) else
      cal (f_X2_heapOf n (p2 : Int) m30) fun x66 m66 =>
        cal (f_X2_sumOf n v4_30 x66.toNat m66) fun x69 m69 =>
        rt (x69.toNat : Nat) m69
    ) 12 x22.toNat 0 m22) (fun v m' => Res m' v (sg neg (Ug p1.natAbs p2)) ∧ Fr m m' SM ∧ mNext m' ≤ mNext m + 40) := by
    intro u m1 hu f1 n1
    have ab : iabs p1 = (p1.natAbs : Int) := by
      unfold iabs
      by_cases q : 0 ≤ p1
      · rw [if_pos q]; omega
      · rw [if_neg q, w32_id (by omega) (by omega)]; omega
    rw [ab]
    refine ok_cal (heapOf_ok2 (p := 0) hn (by decide) (by omega)) (fun x m2 h => ?_)
    obtain ⟨r2, f2, n2⟩ := h
    obtain ⟨_, o2, rfl, O2⟩ : fits (hc 0) ∧ ∃ o : Nat, x = (o : Int) ∧ GOb m2 o (hc 0) := by
      rcases r2 with r | r
      · exact r
      · exact absurd (fits_hc (by decide)) r.1
    have e0 : sg neg (Ug 0 0) = hc 0 := by
      cases neg
      · rfl
      · exact gneg_hc 0
    rw [Int.toNat_natCast]
    refine ups_loop (D := True) p1.natAbs (fun i a m3 => GOb m3 a (sg neg (Ug i 0)) ∧ Fr m m3 SM ∧ GOb m3 u (sg neg upg) ∧ mNext m3 ≤ mNext m + 8 + 4 * i) (fun w i a m3 hi hI hw => ?_) (fun w a m3 hI => ?_) 12 0 o2 m2 (Nat.zero_le _) ⟨by rw [e0]; exact O2, f1.tr f2, hu.mono f2.1, by omega⟩ (by omega)
    · obtain ⟨w3, f3, u3, n3⟩ := hI
      rw [if_pos (by omega), if_pos (by omega), k_1 (by omega)]
      refine ok_cal (sumOf_ok hn w3 u3 (can_sg (can_Ug i 0)) (can_sg can_upg) (fits_sg (by omega) (by decide)) fits_upn (by omega)) (fun x4 m4 h => ?_)
      obtain ⟨⟨K, cK, eK, rK⟩, f4, n4⟩ := h
      have : K = sg neg (Ug (i + 1) 0) := can_uniq cK (can_sg (can_Ug _ _)) (eK.tr (sg_step neg i).sy)
      subst this
      obtain ⟨_, o4, rfl, O4⟩ : fits (sg neg (Ug (i + 1) 0)) ∧ ∃ o : Nat, x4 = (o : Int) ∧ GOb m4 o (sg neg (Ug (i + 1) 0)) := by
        rcases rK with r | r
        · exact r
        · exact absurd (fits_sg (by omega) (by decide)) r.1
      rw [Int.toNat_natCast]
      exact hw _ m4 ⟨O4, f3.tr f4, u3.mono f4.1, by omega⟩
    · obtain ⟨w3, f3, u3, n3⟩ := hI
      rw [if_neg (by omega)]
      refine ok_cal (heapOf_ok2 hn (by omega) (by omega)) (fun x4 m4 h => ?_)
      obtain ⟨r4, f4, n4⟩ := h
      obtain ⟨fh, o4, rfl, O4⟩ : fits (hc p2) ∧ ∃ o : Nat, x4 = (o : Int) ∧ GOb m4 o (hc p2) := by
        rcases r4 with r | r
        · exact r
        · exact absurd (fits_hc (by omega)) r.1
      rw [Int.toNat_natCast]
      refine ok_cal (sumOf_ok hn (w3.mono f4.1) O4 (can_sg (can_Ug _ _)) (can_hc _) (fits_sg (by omega) (by decide)) fh (by omega)) (fun x5 m5 h => ?_)
      obtain ⟨⟨K, cK, eK, rK⟩, f5, n5⟩ := h
      have : K = sg neg (Ug p1.natAbs p2) := can_uniq cK (can_sg (can_Ug _ _)) (eK.tr (sg_heap neg _ _).sy)
      subst this
      refine ok_rt ⟨?_, (f3.tr f4).tr f5, by omega⟩
      rcases rK with ⟨r1, o, rfl, r2⟩ | ⟨r1, rfl⟩
      · exact Or.inl ⟨r1, o, by rw [Int.toNat_natCast], r2⟩
      · exact Or.inr ⟨r1, rfl⟩
  obtain ⟨o, eo, O⟩ := hU
  rw [eo, Int.toNat_natCast]
  by_cases q : p1 < 0
  · rw [if_pos q]
    have en2 : neg = true := by rw [en, decide_eq_true q]
    refine ok_cal (negativeOf_ok hn O can_upg fits_upg (by omega)) (fun x m1 h => ?_)
    obtain ⟨r, f1, n1⟩ := h
    obtain ⟨_, o4, rfl, O4⟩ : fits (gneg upg) ∧ ∃ o : Nat, x = (o : Int) ∧ GOb m1 o (gneg upg) := by
      rcases r with r | r
      · exact r
      · exact absurd (fits_upn (neg := true)) r.1
    rw [Int.toNat_natCast]
    exact tail _ m1 (by rw [en2]; exact O4) f1 n1
  · rw [if_neg q]
    have en2 : neg = false := by rw [en, decide_eq_false q]
    exact tail _ m (by rw [en2]; exact O) (Fr.rf _ _) (by omega)
section CS
variable {n : Nat} {m : Mem}
theorem Cups (hn : BIG < n) (h : FZ2 m) {p k a : Int} : Ok (f_X10_ups n p k a m) (fun v _ => v = ansU p k a) := by
  have n4 := BIG_m hn
  have C := h.1.1.1
  have nx := h.1.1.2.2
  unfold f_X10_ups ansU
  refine ok_calE cSlot_eq ?_
  refine ok_jn ?_
  by_cases hp : 0 ≤ p ∧ p ≤ 7
  · rw [decide_eq_true hp, if_neg (by decide)]
    refine ok_calE isWithin_eq ?_
    by_cases hk : -4 ≤ k ∧ k ≤ 4
    · rw [decide_eq_true hk, if_neg (by decide)]
      refine ok_calE isWithin_eq ?_
      by_cases ha : 0 ≤ a ∧ a ≤ 5
      · rw [decide_eq_true ha, if_neg (by decide), if_pos (show (0 ≤ p ∧ p ≤ 7) ∧ (-4 ≤ k ∧ k ≤ 4) ∧ (0 ≤ a ∧ a ≤ 5) from ⟨hp, hk, ha⟩)]
        obtain ⟨p', rfl⟩ : ∃ p' : Nat, p = (p' : Int) := ⟨p.toNat, by omega⟩
        obtain ⟨a', rfl⟩ : ∃ a' : Nat, a = (a' : Int) := ⟨a.toNat, by omega⟩
        rw [Int.toNat_natCast]
        refine ok_cal (upsA_ok (by omega) (by omega) (by omega) h.2.2 (by omega)) (fun v m1 h1 => ?_)
        obtain ⟨R, f1, n1⟩ := h1
        refine ok_cal (settle_ok (by omega) (C.fr (f1.weak (fun a h => SM_SC h))) (by omega) (can_Uk _ _) R) (fun r m2 h2 => ok_rt h2.1.ans)
      · rw [decide_eq_false ha, if_pos rb_f, if_neg (fun z => ha z.2.2)]
        exact cf1 m
    · rw [decide_eq_false hk, if_pos rb_f, if_neg (fun z => hk z.2.1)]
      exact cf1 m
  · rw [decide_eq_false hp, if_pos rb_f, if_neg (fun z => hp z.1)]
    exact cf1 m
end CS
