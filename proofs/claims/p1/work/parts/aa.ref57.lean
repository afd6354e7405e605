/-! THE CLASS: THE NURSERY'S ROW, SORTED BY WORDS -/
/-- the row of games: which they are, each ahead of the next -/
def NR2 (m : Mem) (c : Nat) (f : Nat → Nat) : Prop := mGet m 39 3 = (c : Int) ∧ (∀ i, i < c → ∃ o : Nat, mGet m 40 i = (o : Int) ∧ GOb m o (f i)) ∧ ∀ i j, i < j → j < c → wlt (wd (f i)) (wd (f j)) = true
/-- a game put in at place p -/
def insf (p K : Nat) (f : Nat → Nat) (j : Nat) : Nat := if j < p then f j else if j = p then K else f (j - 1)
theorem insf_lt {p K j : Nat} {f : Nat → Nat} (h : j < p) : insf p K f j = f j := if_pos h
theorem insf_eq {p K : Nat} {f : Nat → Nat} : insf p K f p = K := by
  unfold insf
  rw [if_neg (Nat.lt_irrefl _), if_pos rfl]
theorem insf_gt {p K j : Nat} {f : Nat → Nat} (h : p < j) : insf p K f j = f (j - 1) := by
  unfold insf
  rw [if_neg (by omega), if_neg (by omega)]
theorem insf_srt {p K c : Nat} {f : Nat → Nat} (hp : p ≤ c) (S : ∀ i j, i < j → j < c → wlt (wd (f i)) (wd (f j)) = true) (hr : ∀ j, p ≤ j → j < c → wlt (wd K) (wd (f j)) = true) (hl : ∀ j, j < p → wlt (wd (f j)) (wd K) = true) : ∀ i j, i < j → j < c + 1 → wlt (wd (insf p K f i)) (wd (insf p K f j)) = true := by
  intro i j h1 h2
  rcases (by omega : j < p ∨ j = p ∨ p < j) with q | q | q
  · rw [insf_lt (by omega), insf_lt q]
    exact S i j h1 (by omega)
  · rw [q, insf_lt (by omega), insf_eq]
    exact hl i (by omega)
  · rw [insf_gt q]
    rcases (by omega : i < p ∨ i = p ∨ p < i) with r | r | r
    · rw [insf_lt r]
      exact S i (j - 1) (by omega) (by omega)
    · rw [r, insf_eq]
      exact hr (j - 1) (by omega) (by omega)
    · rw [insf_gt r]
      exact S (i - 1) (j - 1) (by omega) (by omega)
theorem sortIn2_ok {n o c K : Nat} {f : Nat → Nat} {m : Mem} (hn : 300 < n) (R : NR2 m c f) (hc : c < 67) (O : GOb m o K) (fK : fits K) (hf : ∀ i, i < c → fits (f i)) (hne : ∀ i, i < c → wd K ≠ wd (f i)) : Ok (f_X3_sortIn n o m) (fun _ m' => m'.2 = m.2 ∧ (∀ a i, ¬ SN a → mGet m' a i = mGet m a i) ∧ ∃ p, p ≤ c ∧ NR2 m' (c + 1) (insf p K f)) := by
  obtain ⟨c0, row, srt⟩ := R
  obtain ⟨o1, o2, o3, o4⟩ := O.o
  have gr : ∀ m' : Mem, m'.2 = m.2 → (∀ a i, ¬ SN a → mGet m' a i = mGet m a i) → Grow m m' := fun m' h1 h2 => m2_grow h1 (fun a i ha => h2 a i (by omega))
  unfold f_X3_sortIn
  dsimp only [jn, gtF]
  rw [if_neg o4, c0, if_pos (by omega)]
  refine ok_lp1 (fun v m1 => ∃ i : Nat, v = (i : Int) ∧ i ≤ c ∧ m1.2 = m.2 ∧ (∀ a i, ¬ SN a → mGet m1 a i = mGet m a i) ∧ mGet m1 39 3 = (c : Int) ∧ (∀ j, j < i → ∃ x : Nat, mGet m1 40 j = (x : Int) ∧ GOb m x (f j)) ∧ (∀ j, i < j → j ≤ c → ∃ x : Nat, mGet m1 40 j = (x : Int) ∧ GOb m x (f (j - 1))) ∧ ∀ j, i ≤ j → j < c → wlt (wd K) (wd (f j)) = true) (fun v _ => v.toNat) (fun w v m1 hI hw => ?_) n (c : Int) m ⟨c, rfl, Nat.le_refl _, rfl, fun _ _ _ => rfl, c0, row, fun j h1 h2 => by omega, fun j h1 h2 => by omega⟩ (by rw [Int.toNat_natCast]; omega)
  obtain ⟨i, rfl, hi, z1, f1, c1, r1, r2, r3⟩ := hI
  have G1 := gr m1 z1 f1
  have O1 := O.mono G1
  have fin : (∀ j, j < i → wlt (wd (f j)) (wd K) = true) → Ok (stG m1 40 (i : Int) o fun m67 => ptF m67 39 3 (w32 (mGet m67 39 3 + 1)) fun m75 => rt 0 m75) (fun _ m' => m'.2 = m.2 ∧ (∀ a i, ¬ SN a → mGet m' a i = mGet m a i) ∧ ∃ p, p ≤ c ∧ NR2 m' (c + 1) (insf p K f)) := by
    intro hl
    have G8 : ∀ a j, mGet (mSet m1 40 i (o : Int)) a j = if a = 40 ∧ j = i then (o : Int) else mGet m1 a j := fun a j => by rw [mGet_mSet, w32_nat (by omega)]
    rw [stG_ok (kG40 _) (by omega) (Or.inr ⟨o1, o2, by rw [O1.o.2.2.1]⟩)]
    dsimp only [ptF]
    rw [G8, if_neg (by omega), c1, k_1 (by omega)]
    have G9 : ∀ a j, mGet (mSet (mSet m1 40 i (o : Int)) 39 3 ((c + 1 : Nat) : Int)) a j = if a = 39 ∧ j = 3 then ((c + 1 : Nat) : Int) else if a = 40 ∧ j = i then (o : Int) else mGet m1 a j := fun a j => by rw [mGet_mSet, w32_nat (by omega), G8]
    obtain ⟨m2, e2⟩ : ∃ m2, m2 = mSet (mSet m1 40 i (o : Int)) 39 3 ((c + 1 : Nat) : Int) := ⟨_, rfl⟩
    rw [← e2] at G9 ⊢
    have z2 : m2.2 = m.2 := by rw [e2]; exact z1
    have f2 : ∀ a i, ¬ SN a → mGet m2 a i = mGet m a i := fun a j ha => by rw [G9, if_neg (by omega), if_neg (by omega)]; exact f1 a j ha
    have G2 := gr m2 z2 f2
    refine ok_rt ⟨z2, f2, i, hi, by rw [G9, if_pos ⟨rfl, rfl⟩], fun j hj => ?_, insf_srt hi srt r3 hl⟩
    rcases (by omega : j < i ∨ j = i ∨ i < j) with q | q | q
    · obtain ⟨x, x1, x2⟩ := r1 j q
      exact ⟨x, by rw [G9, if_neg (by omega), if_neg (by omega)]; exact x1, by rw [insf_lt q]; exact x2.mono G2⟩
    · exact ⟨o, by rw [G9, if_neg (by omega), if_pos ⟨rfl, q⟩], by rw [q, insf_eq]; exact O.mono G2⟩
    · obtain ⟨x, x1, x2⟩ := r2 j q (by omega)
      exact ⟨x, by rw [G9, if_neg (by omega), if_neg (by omega)]; exact x1, by rw [insf_gt q]; exact x2.mono G2⟩
  by_cases q : i = 0
  · rw [if_neg (by omega)]
    exact fin (fun j hj => by omega)
  · rw [if_pos (by omega), w32_id (x := (i : Int) - 1) (by omega) (by omega), show (i : Int) - 1 = ((i - 1 : Nat) : Int) by omega, ldG_ok (kG40 _) (by omega)]
    obtain ⟨x, x1, X⟩ := r1 (i - 1) (by omega)
    have X1 := X.mono G1
    rw [x1, Int.toNat_natCast, isD_ok o1, isG_ok O1.o.2.2.1 o1]
    refine ok_cal (cmpW_ok hn O1 X1 fK.2 (hf (i - 1) (by omega)).2) (fun v5 m5 e5 => ?_)
    obtain ⟨e5, _, lt5⟩ := e5
    subst e5
    by_cases q2 : v5 < 0
    · obtain ⟨y1, y2, y3, _⟩ := X.o
      rw [if_pos q2, ldG_ok (kG40 _) (by omega), x1, Int.toNat_natCast, stG_ok (kG40 _) (by omega) (Or.inr ⟨y1, y2, by rw [X1.o.2.2.1]⟩), w32_id (x := (i : Int) + -1) (by omega) (by omega), show (i : Int) + -1 = ((i - 1 : Nat) : Int) by omega]
      have G8 : ∀ a j, mGet (mSet m5 40 i (x : Int)) a j = if a = 40 ∧ j = i then (x : Int) else mGet m5 a j := fun a j => by rw [mGet_mSet, w32_nat (by omega)]
      refine hw _ _ ⟨i - 1, rfl, by omega, z1, fun a j ha => by rw [G8, if_neg (by omega)]; exact f1 a j ha, by rw [G8, if_neg (by omega)]; exact c1, fun j hj => ?_, fun j hj h2 => ?_, fun j h1 h2 => ?_⟩ (by rw [Int.toNat_natCast, Int.toNat_natCast]; omega)
      · obtain ⟨y, w1, w2⟩ := r1 j (by omega)
        exact ⟨y, by rw [G8, if_neg (by omega)]; exact w1, w2⟩
      · by_cases q3 : j = i
        · exact ⟨x, by rw [G8, if_pos ⟨rfl, q3⟩], by rw [q3]; exact X⟩
        · obtain ⟨y, w1, w2⟩ := r2 j (by omega) h2
          exact ⟨y, by rw [G8, if_neg (by omega)]; exact w1, w2⟩
      · by_cases q3 : j = i - 1
        · rw [q3]; exact lt5.mp q2
        · exact r3 j (by omega) h2
    · rw [if_neg q2]
      have l1 : wlt (wd (f (i - 1))) (wd K) = true := (wlt_tot (hne (i - 1) (by omega))).resolve_left (fun z => q2 (lt5.mpr z))
      refine fin (fun j hj => ?_)
      by_cases q3 : j = i - 1
      · rw [q3]; exact l1
      · exact wlt_tr (srt j (i - 1) (by omega) (by omega)) l1
/-- the row, filled -/
def NX (m : Mem) : Prop := mGet m 39 3 = 67 ∧ ∀ i, (hi : i < XB.length) → ∃ o : Nat, mGet m 40 i = (o : Int) ∧ GOb m o XB[i]
theorem XB_BF {K : Nat} : K ∈ XB ↔ K ∈ BF := XB_spec.2.mem_iff
theorem BF_fits {K : Nat} (h : K ∈ BF) : can K ∧ fits K ∧ bd K ≤ 3 := by
  obtain ⟨s, hs, rfl⟩ := List.mem_map.mp h
  exact ⟨(day3.2.2.2.2 s hs).2.2, fits_nG s.1 s.2, bd_nG s.1 s.2⟩
theorem NR2.nx {m : Mem} {f : Nat → Nat} (h : NR2 m 67 f) (hf : ∀ K, K ∈ BF ↔ ∃ i, i < 67 ∧ f i = K) : NX m := by
  obtain ⟨a, b, c⟩ := h
  have e : (List.range 67).map f = XB := by
    refine XB_uniq ?_ (fun K => ?_)
    · rw [List.map_map]
      unfold Srt
      rw [List.pairwise_map]
      refine List.pairwise_iff_getElem.mpr (fun i j hi hj hij => ?_)
      rw [List.length_range] at hi hj
      rw [List.getElem_range, List.getElem_range]
      exact c i j hij hj
    · rw [hf K, List.mem_map]
      exact ⟨fun ⟨i, h1, h2⟩ => ⟨i, List.mem_range.mpr h1, h2⟩, fun ⟨i, h1, h2⟩ => ⟨i, List.mem_range.mp h1, h2⟩⟩
  refine ⟨a, fun i hi => ?_⟩
  have hi67 : i < 67 := by rw [XB_len] at hi; exact hi
  have ei : XB[i] = f i := by
    simp only [← e, List.getElem_map, List.getElem_range]
  rw [ei]
  exact b i hi67
theorem NX.row {m : Mem} (h : NX m) : NRow40 m 67 := ⟨h.1, fun i hi => by
  have hi2 : i < XB.length := by rw [XB_len]; exact hi
  obtain ⟨o, e, O⟩ := h.2 i hi2
  obtain ⟨a, b, c⟩ := BF_fits (XB_BF.mp (List.getElem_mem hi2))
  exact ⟨o, e, _, a, b, O, c⟩⟩
set_option maxHeartbeats 1000000 in
theorem nfill2_ok {n N : Nat} {m : Mem} (hn : 300 < n) (hN : 100 < N) (c0 : mGet m 39 3 = 0) (hb : mNext m + 300 < 2147483648) : Ok (f_X3_fill n N m) (fun _ m' => NX m' ∧ Fr m m' SF ∧ mNext m' ≤ mNext m + 300) := by
  unfold f_X3_fill
  dsimp only [gtF]
  rw [c0, if_neg (by omega)]
  refine ok_cal (clear_ok hn) (fun _ m1 h1 => ?_)
  obtain ⟨Y1, s1, d1, g1, z1⟩ := h1
  have f1 : Fr m m1 SY := Fr.of z1 (fun a i q => g1 a i (fun e => q (by omega)) (fun e => q (by omega)) (fun e => q (by omega)))
  refine ok_up2 4 (fun i a m2 => 1 ≤ i ∧ a = ((stg i).length : Int) ∧ YDay m2 (stg i) ∧ Fr m m2 SY ∧ m2.2.2 = m.2.2) (fun w i a m2 hi hI hw => ?_) (fun w a m2 hI => ?_) n 1 1 m1 (by decide) ⟨Nat.le_refl _, rfl, ⟨Y1, s1, fun v hv => ⟨(0, 0), List.mem_singleton.mpr rfl, ?_⟩, fun s hs => ⟨0, (by show 0 < 1; decide), ?_⟩⟩, f1, z1⟩ (by omega)
  · obtain ⟨i1, rfl, ⟨Y2, s2, in2, to2⟩, f2, z2⟩ := hI
    obtain ⟨D, L, P, sf, st⟩ := stg_day i i1 hi
    rw [if_neg (by omega)]
    have F : First (yden m2) (stg i).length := by
      refine ⟨fun v hv => ?_, fun k hk => ?_, fun u v hu hv e => Y2.1.2.2.2.2.2.2 u v hu hv e⟩
      · obtain ⟨s, q1, q2⟩ := in2 v hv
        obtain ⟨k, k1, rfl⟩ := sf s q1
        exact ⟨k, k1, by rw [q2, ne_G k (by omega)]⟩
      · obtain ⟨v, v1, v2⟩ := to2 _ (st k hk)
        exact ⟨v, v1, by rw [v2, ne_G k (by omega)]⟩
    refine ok_cal (addDay_ok hn P Y2 s2 F D L) (fun v3 m3 h3 => ?_)
    obtain ⟨rfl, Y3, s3, in3, to3, f3, z3⟩ := h3
    rw [k_1 (by omega)]
    exact hw _ m3 ⟨by omega, rfl, ⟨Y3, s3, in3, to3⟩, f2.tr f3, z3.trans z2⟩
  · obtain ⟨_, rfl, ⟨Y2, s2, in2, to2⟩, f2, z2⟩ := hI
    rw [if_pos (by decide)]
    have e67 : (stg 4).length = 67 := nS3_len
    rw [e67] at Y2 in2 to2 ⊢
    have n2 : mNext m2 = mNext m := mNext_eq z2
    have c2 : mGet m2 39 3 = 0 := by rw [f2.2 39 3 (by decide) (by decide)]; exact c0
    -- the games of the nodes
    obtain ⟨E, eE⟩ : ∃ E, E = yden m2 := ⟨_, rfl⟩
    have inE : ∀ v, v < 67 → E v ∈ BF := fun v hv => by
      obtain ⟨s, q1, q2⟩ := in2 v hv
      rw [eE, q2]
      exact List.mem_map.mpr ⟨s, q1, rfl⟩
    have toE : ∀ K, K ∈ BF → ∃ v, v < 67 ∧ E v = K := fun K hK => by
      obtain ⟨s, q1, rfl⟩ := List.mem_map.mp hK
      obtain ⟨v, v1, v2⟩ := to2 s q1
      exact ⟨v, v1, by rw [eE, v2]⟩
    have injE : ∀ u v, u < 67 → v < 67 → E u = E v → u = v := fun u v hu hv e => Y2.1.2.2.2.2.2.2 u v hu hv (by rw [← eE]; exact e)
    refine ok_up1 67 (fun j m3 => YI m3 67 ∧ mGet m3 4 14 = 0 ∧ yden m3 = E ∧ (∃ f, NR2 m3 j f ∧ (∀ i, i < j → ∃ v, v < j ∧ f i = E v) ∧ ∀ v, v < j → ∃ i, i < j ∧ f i = E v) ∧ Fr m m3 SF ∧ mNext m3 ≤ mNext m + 4 * j) (fun w j m3 hj hJ hw => ?_) (fun w m3 hJ => ?_) N 0 m2 (Nat.zero_le _) ⟨Y2, s2, eE.symm, ⟨fun _ => 0, ⟨c2, fun i hi => absurd hi (Nat.not_lt_zero _), fun i j _ hj => absurd hj (Nat.not_lt_zero _)⟩, fun i hi => absurd hi (Nat.not_lt_zero _), fun i hi => absurd hi (Nat.not_lt_zero _)⟩, f2.weak (fun a h => Or.inl h), by omega⟩ (by omega)
    · obtain ⟨Y3, s3, d3, ⟨f, R3, fi, fo⟩, f3, n3⟩ := hJ
      rw [if_pos (by omega), k_1 (by omega)]
      refine ok_cal (written_ok hn Y3 (show j < 67 from hj) s3 (by omega)) (fun v4 m4 h4 => ?_)
      obtain ⟨f4, n4, Y4, d4, s4, r4⟩ := h4
      rw [d3] at r4
      obtain ⟨cE, fE, bE⟩ := BF_fits (inE j hj)
      rcases r4 with ⟨_, o, rfl, O⟩ | ⟨no, _⟩
      · rw [Int.toNat_natCast]
        have R4 : NR2 m4 j f := ⟨by rw [f4.2 39 3 (by decide) (by decide)]; exact R3.1, fun i hi => by
          obtain ⟨x, x1, x2⟩ := R3.2.1 i hi
          exact ⟨x, by rw [f4.2 40 i (by decide) (by decide)]; exact x1, x2.mono f4.1⟩, R3.2.2⟩
        refine ok_cal (sortIn2_ok hn R4 hj O fE (fun i hi => by
          obtain ⟨v, v1, v2⟩ := fi i hi
          rw [v2]
          exact (BF_fits (inE v (by omega))).2.1) (fun i hi e => by
          obtain ⟨v, v1, v2⟩ := fi i hi
          rw [v2] at e
          have := injE j v hj (by omega) (BF_inj (inE j hj) (inE v (by omega)) e)
          omega)) (fun _ m5 h5 => ?_)
        obtain ⟨z5, g5, p, hp, R5⟩ := h5
        obtain ⟨Y5, d5⟩ := Y4.lg (m' := m5) (by rw [z5]) (fun a i q => g5 a i (by omega))
        refine hw m5 ⟨Y5, by rw [g5 4 14 (by decide)]; exact s4, by rw [d5, d4]; exact d3, ⟨_, R5, fun i hi => ?_, fun v hv => ?_⟩, (f3.tr (f4.weak (fun a h => Or.inl h))).tr (Fr.of (by rw [z5]) (fun a i q => g5 a i (fun e => q ⟨by omega, Or.inr e⟩))), ?_⟩
        · rcases (by omega : i < p ∨ i = p ∨ p < i) with q | q | q
          · obtain ⟨v, v1, v2⟩ := fi i (by omega)
            exact ⟨v, by omega, by rw [insf_lt q]; exact v2⟩
          · exact ⟨j, by omega, by rw [q, insf_eq]⟩
          · obtain ⟨v, v1, v2⟩ := fi (i - 1) (by omega)
            exact ⟨v, by omega, by rw [insf_gt q]; exact v2⟩
        · by_cases q : v = j
          · exact ⟨p, by omega, by rw [q, insf_eq]⟩
          · obtain ⟨i, i1, i2⟩ := fo v (by omega)
            by_cases q2 : i < p
            · exact ⟨i, by omega, by rw [insf_lt q2]; exact i2⟩
            · exact ⟨i + 1, by omega, by rw [insf_gt (by omega), Nat.add_sub_cancel]; exact i2⟩
        · rw [mNext_eq (show m5.2.2 = m4.2.2 by rw [z5])]
          omega
      · exact absurd fE no
    · obtain ⟨_, _, _, ⟨f, R3, fi, fo⟩, f3, n3⟩ := hJ
      rw [if_neg (by omega)]
      refine ok_rt ⟨R3.nx (fun K => ⟨fun hK => ?_, fun ⟨i, hi, e⟩ => ?_⟩), f3, by omega⟩
      · obtain ⟨v, v1, v2⟩ := toE K hK
        obtain ⟨i, i1, i2⟩ := fo v v1
        exact ⟨i, i1, i2.trans v2⟩
      · obtain ⟨v, v1, v2⟩ := fi i hi
        rw [← e, v2]
        exact inE v v1
  · rw [show v = 0 by have : v < 1 := hv; omega, d1]
    exact ne_G 0 (by decide)
  · rw [List.mem_singleton.mp hs, d1]
    exact ne_G 0 (by decide)
