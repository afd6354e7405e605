/-! THE NURSERY: filled, told, given out -/
def stg (i : Nat) : List (Nat × Nat) := [[], [(0, 0)], nS1, nS2, nS3].getD i []
theorem stg_day : ∀ i, 1 ≤ i → i < 4 → Day (stg i).length (stg (i + 1)) ∧ (stg (i + 1)).length ≤ 100 ∧ (1 ≤ (stg i).length ∧ (stg i).length ≤ 7) ∧ (∀ s, s ∈ stg i → ∃ k, k < (stg i).length ∧ s = (nLm k, nRm k)) ∧ ∀ k, k < (stg i).length → (nLm k, nRm k) ∈ stg i
  | 0, h, _ => by omega
  | 1, _, _ => ⟨day1, by decide, by decide, by decide, by decide⟩
  | 2, _, _ => ⟨day2, by decide, by decide, by decide, by decide⟩
  | 3, _, _ => ⟨day3, by decide +kernel, by decide, by decide, by decide⟩
  | n + 4, _, h => by omega
theorem ne_i {i j : Nat} (hi : i < 7) (hj : j < 7) (h : ne i = ne j) : i = j := ne_inj hi hj h
/-- the yard after some days -/
def YDay (m : Mem) (S : List (Nat × Nat)) : Prop := YI m S.length ∧ mGet m 4 14 = 0 ∧ (∀ v, v < S.length → ∃ s, s ∈ S ∧ yden m v = nG s.1 s.2) ∧ ∀ s, s ∈ S → ∃ v, v < S.length ∧ yden m v = nG s.1 s.2
def NU (m : Mem) : Prop := mGet m 39 3 = 0 ∨ NRow40 m 67
abbrev SF (a : Nat) : Prop := SY a ∨ SN a
theorem nfill_ok {n N : Nat} {m : Mem} (hn : 300 < n) (hN : 100 < N) (U : NU m) (hb : mNext m + 300 < 2147483648) : Ok (f_X3_fill n N m) (fun _ m' => NRow40 m' 67 ∧ Fr m m' SF ∧ mNext m' ≤ mNext m + 300) := by
  unfold f_X3_fill
  dsimp only [gtF]
  rcases U with c0 | R
  · rw [c0, if_neg (by omega)]
    refine ok_cal (clear_ok hn) (fun _ m1 h1 => ?_)
    obtain ⟨Y1, s1, d1, g1, z1⟩ := h1
    have f1 : Fr m m1 SY := Fr.of z1 (fun a i q => g1 a i (fun e => q (by omega)) (fun e => q (by omega)) (fun e => q (by omega)))
    refine ok_up2 4 (fun i a m2 => 1 ≤ i ∧ a = ((stg i).length : Int) ∧ YDay m2 (stg i) ∧ Fr m m2 SY ∧ m2.2.2 = m.2.2) (fun w i a m2 hi hI hw => ?_) (fun w a m2 hI => ?_) n 1 1 m1 (by decide) ⟨Nat.le_refl _, rfl, ⟨Y1, s1, fun v hv => ⟨(0, 0), List.mem_singleton.mpr rfl, ?_⟩, fun s hs => ⟨0, (by show 0 < 1; decide), ?_⟩⟩, f1, z1⟩ (by omega)
    · obtain ⟨i1, rfl, ⟨Y2, s2, in2, to2⟩, f2, z2⟩ := hI
      obtain ⟨D, L, P, sf, st⟩ := stg_day i i1 hi
      rw [if_neg (by omega)]
      have F : First (yden m2) (stg i).length := by
        refine ⟨fun v hv => ?_, fun k hk => ?_, fun u v hu hv e => Y2.1.2.2.2.2.2.2 u v hu hv e⟩
        · obtain ⟨s, q1, q2⟩ := in2 v hv
          obtain ⟨k, k1, rfl⟩ := sf s q1
          exact ⟨k, k1, by rw [q2, ne_G k (by omega)]⟩
        · obtain ⟨v, v1, v2⟩ := to2 _ (st k hk)
          exact ⟨v, v1, by rw [v2, ne_G k (by omega)]⟩
      refine ok_cal (addDay_ok hn P Y2 s2 F D L) (fun v3 m3 h3 => ?_)
      obtain ⟨rfl, Y3, s3, in3, to3, f3, z3⟩ := h3
      rw [k_1 (by omega)]
      exact hw _ m3 ⟨by omega, rfl, ⟨Y3, s3, in3, to3⟩, f2.tr f3, z3.trans z2⟩
    · obtain ⟨_, rfl, ⟨Y2, s2, in2, _⟩, f2, z2⟩ := hI
      rw [if_pos (by decide)]
      have e67 : (stg 4).length = 67 := nS3_len
      rw [e67] at Y2 in2 ⊢
      have n2 : mNext m2 = mNext m := mNext_eq z2
      have c2 : mGet m2 39 3 = 0 := by rw [f2.2 39 3 (by decide) (by decide)]; exact c0
      refine ok_up1 67 (fun j m3 => YI m3 67 ∧ mGet m3 4 14 = 0 ∧ (∀ v, v < 67 → ∃ s, s ∈ nS3 ∧ yden m3 v = nG s.1 s.2) ∧ NRow40 m3 j ∧ Fr m m3 SF ∧ mNext m3 ≤ mNext m + 4 * j) (fun w j m3 hj hJ hw => ?_) (fun w m3 hJ => ?_) N 0 m2 (Nat.zero_le _) ⟨Y2, s2, in2, ⟨c2, fun i hi => absurd hi (Nat.not_lt_zero _)⟩, f2.weak (fun a h => Or.inl h), by omega⟩ (by omega)
      · obtain ⟨Y3, s3, in3, R3, f3, n3⟩ := hJ
        rw [if_pos (by omega), k_1 (by omega)]
        refine ok_cal (written_ok hn Y3 (show j < 67 from hj) s3 (by omega)) (fun v4 m4 h4 => ?_)
        obtain ⟨f4, n4, Y4, d4, s4, r4⟩ := h4
        obtain ⟨s, q1, q2⟩ := in3 j hj
        have ft : wid (yden m3 j) ≤ 10 ∧ (wd (yden m3 j)).length ≤ 100 := by rw [q2]; exact fits_nG s.1 s.2
        rcases r4 with ⟨_, o, rfl, O⟩ | ⟨no, _⟩
        · rw [Int.toNat_natCast]
          have V : VB m4 o := ⟨_, Y3.1.2.2.2.2.2.1 j hj, ft, O, by rw [q2]; exact bd_nG s.1 s.2⟩
          have R4 : NRow40 m4 j := ⟨by rw [f4.2 39 3 (by decide) (by decide)]; exact R3.1, fun i hi => by
            obtain ⟨x, x1, x2⟩ := R3.2 i hi
            exact ⟨x, by rw [f4.2 40 i (by decide) (by decide)]; exact x1, x2.mono f4.1⟩⟩
          refine ok_cal (sortIn40_ok hn R4 hj V) (fun _ m5 h5 => ?_)
          obtain ⟨z5, g5, R5⟩ := h5
          obtain ⟨Y5, d5⟩ := Y4.lg (m' := m5) (by rw [z5]) (fun a i q => g5 a i (by omega))
          refine hw m5 ⟨Y5, by rw [g5 4 14 (by decide)]; exact s4, fun v hv => by rw [d5, d4]; exact in3 v hv, R5, (f3.tr (f4.weak (fun a h => Or.inl h))).tr (Fr.of (by rw [z5]) (fun a i q => g5 a i (fun e => q ⟨by omega, Or.inr e⟩))), ?_⟩
          rw [mNext_eq (show m5.2.2 = m4.2.2 by rw [z5])]
          omega
        · exact absurd ft no
      · obtain ⟨_, _, _, R3, f3, n3⟩ := hJ
        rw [if_neg (by omega)]
        exact ok_rt ⟨R3, f3, by omega⟩
    · rw [show v = 0 by have : v < 1 := hv; omega, d1]
      exact ne_G 0 (by decide)
    · rw [List.mem_singleton.mp hs, d1]
      exact ne_G 0 (by decide)
  · rw [R.1, if_pos (by decide)]
    exact ok_rt ⟨R, Fr.rf _ _, by omega⟩
theorem isBornBy_eq {n i : Nat} {m : Mem} (R : NRow40 m 67) (hi : i < 67) : f_X3_isBornBy n 3 (i : Int) m = some (1, m) := by
  obtain ⟨o, o1, K, cK, fK, O, bK⟩ := R.2 i hi
  obtain ⟨_, _, _, ⟨k1, _⟩, ⟨q1, _⟩, ⟨_, _, _, b3, _⟩, _⟩ := O.get
  unfold f_X3_isBornBy
  dsimp only [jn]
  rw [if_neg (by omega), if_pos (by omega), ldG_ok (kG40 _) hi, o1, Int.toNat_natCast, if_neg (by omega), ldG_ok (kG40 _) hi, o1, Int.toNat_natCast, isD_ok q1, gmF_ok k1, b3, if_neg (by omega)]
  rfl
theorem numbered_ok {n N k : Nat} {m : Mem} (hn : 300 < n) (hN : 100 < N) (U : NU m) (hb : mNext m + 300 < 2147483648) (hk : k < 67) : Ok (f_X3_numbered n N 3 (k : Int) m) (fun v m' => (∃ o : Nat, v = (o : Int) ∧ VG m' o) ∧ NRow40 m' 67 ∧ Fr m m' SF ∧ mNext m' ≤ mNext m + 300) := by
  unfold f_X3_numbered
  refine ok_cal (nfill_ok hn hN U hb) (fun _ m1 h1 => ?_)
  obtain ⟨R, f1, n1⟩ := h1
  refine ok_up2 67 (fun i a m2 => m2 = m1 ∧ a = (i : Int) ∧ i ≤ k) (fun w i a m2 hi hI hw => ?_) (fun w a m2 hI => ?_) n 0 0 m1 (Nat.zero_le _) ⟨rfl, rfl, Nat.zero_le _⟩ (by omega)
  · obtain ⟨rfl, rfl, ik⟩ := hI
    dsimp only [jn, gtF]
    rw [R.1, if_pos (by omega)]
    refine ok_calE (isBornBy_eq R hi) ?_
    rw [if_neg (by decide)]
    by_cases q : (i : Int) = (k : Int)
    · rw [if_pos q, ldG_ok (kG40 _) hi]
      obtain ⟨o, o1, K, cK, fK, O, _⟩ := R.2 i hi
      rw [o1, Int.toNat_natCast]
      exact ok_rt ⟨⟨o, rfl, K, cK, fK, O⟩, R, f1, n1⟩
    · rw [if_neg q, k_1 (by omega)]
      exact hw _ _ ⟨rfl, rfl, by omega⟩
  · obtain ⟨_, _, ik⟩ := hI
    omega
