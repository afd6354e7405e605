/-! THE MAKER: flowers, ups: that some game comes, or none -/
theorem gany_ok {n N : Nat} {m : Mem} {SL SR : Nat → Prop} (hn : 300 < n) (G : YG m N SL SR) (hN : N < 256) : Ok (f_X9_end n m) (fun v m' => ∃ u N' : Nat, v = (u : Int) ∧ u < N' ∧ N ≤ N' ∧ N' ≤ N + 1 ∧ YI m' N' ∧ mGet m' 4 14 = 0 ∧ YF m m' N N') := by
  obtain ⟨Y, s0, bL, bR, eL, eR⟩ := G
  refine ok_mono (end_ok hn Y hN s0 rfl rfl bL bR) (fun v m' h => ?_)
  obtain ⟨u, N', h1, h2, h3, h4, h5, h6, h7, h8⟩ := h
  exact ⟨u, N', h1, h2, h3, by omega, h5, h8.2.1.trans s0, ⟨fun a i q1 q2 => h8.1 a i q1 (fun q => by have := q2 q.1; omega), h8.2.2.1, h8.2.2.2, h6, h3⟩⟩
/-- an object that is a game of its own, as slots hold them; or none -/
def VG (m : Mem) (o : Nat) : Prop := ∃ K, can K ∧ fits K ∧ GOb m o K
def WG (m : Mem) (v : Int) : Prop := ∃ o : Nat, v = (o : Int) ∧ (o = 0 ∨ VG m o)
theorem VG.mono {m m' : Mem} {o : Nat} (h : VG m o) (f : Grow m m') : VG m' o := by
  obtain ⟨K, h1, h2, h3⟩ := h
  exact ⟨K, h1, h2, h3.mono f⟩
theorem WG.mono {m m' : Mem} {v : Int} (h : WG m v) (f : Grow m m') : WG m' v := by
  obtain ⟨o, h1, h2⟩ := h
  exact ⟨o, h1, h2.imp id (fun h => h.mono f)⟩
theorem Res.wg {m : Mem} {v : Int} {K : Nat} (h : Res m v K) (cK : can K) : WG m v := by
  rcases h with ⟨h1, o, h2, h3⟩ | ⟨_, h2⟩
  · exact ⟨o, h2, Or.inr ⟨K, cK, h1, h3⟩⟩
  · exact ⟨0, h2, Or.inl rfl⟩
theorem VG.wg {m : Mem} {o : Nat} (h : VG m o) : WG m (o : Int) := ⟨o, rfl, Or.inr h⟩
theorem WG.nat {m : Mem} {v : Int} (h : WG m v) : v.toNat = 0 ∨ VG m v.toNat := by
  obtain ⟨o, rfl, h2⟩ := h
  exact h2
theorem sum_wg {n : Nat} {v w : Int} {m : Mem} (hn : 300 < n) (h1 : WG m v) (h2 : WG m w) (hb : mNext m + 4 < 2147483648) : Ok (f_X2_sumOf n v.toNat w.toNat m) (fun v m' => WG m' v ∧ Fr m m' SM ∧ mNext m' ≤ mNext m + 4) := by
  rcases h1.nat with q | ⟨g, cg, fg, O1⟩
  · exact ⟨_, _, sumOf_null (Or.inl q), ⟨0, rfl, Or.inl rfl⟩, Fr.rf _ _, by omega⟩
  · rcases h2.nat with q | ⟨h, ch, fh, O2⟩
    · exact ⟨_, _, sumOf_null (Or.inr q), ⟨0, rfl, Or.inl rfl⟩, Fr.rf _ _, by omega⟩
    · refine ok_mono (sumOf_ok hn O1 O2 cg ch fg fh hb) (fun v m' h => ?_)
      obtain ⟨⟨K, cK, _, r⟩, h2, h3⟩ := h
      exact ⟨r.wg cK, h2, h3⟩
theorem ups_loop {D : Prop} {body : (Nat → Int → Mem → Option Rz) → Nat → Int → Mem → Option Rz} {Q : Int → Mem → Prop} (N : Nat) (I : Nat → Nat → Mem → Prop) (hstep : ∀ (w : Nat → Int → Mem → Option Rz) (i : Nat) a m, i < N → I i a m → (∀ a' m', I (i + 1) a' m' → Ok (w a' ((i + 1 : Nat) : Int) m') Q) → Ok (body w a (i : Int) m) Q) (hend : ∀ (w : Nat → Int → Mem → Option Rz) a m, I N a m → Ok (body w a (N : Int) m) Q) : ∀ (n i : Nat) a m, i ≤ N → I i a m → N - i < n → Ok (lp (F := Nat → Int → Mem → Option Rz) (fun _ _ _ => none) body n a (i : Int) m) Q
  | 0, i, a, m, _, _, hn => absurd hn (Nat.not_lt_zero _)
  | n + 1, i, a, m, hi, h, hn => by
    by_cases hN : i < N
    · exact hstep _ i a m hN h (fun a' m' h' => ups_loop (D := D) N I hstep hend n (i + 1) a' m' (by omega) h' (by omega))
    · have e : i = N := by omega
      subst e
      exact hend _ a m h
theorem ups_ok {n p2 : Nat} {p1 : Int} {m : Mem} (hn : 300 < n) (h1 : p1.natAbs ≤ 4) (h2 : p2 ≤ 9) (hU : VG m (mGet m 28 6).toNat) (hb : mNext m + 40 < 2147483648) : Ok (f_X2_upsAndHeap n p1 (p2 : Int) m) (fun v m' => WG m' v ∧ Fr m m' SM ∧ mNext m' ≤ mNext m + 40) := by
  unfold f_X2_upsAndHeap
  dsimp only [jn, gtG]
  have tail : ∀ (u : Nat) m1, WG m1 (u : Int) → Fr m m1 SM → mNext m1 ≤ mNext m + 4 → Ok (cal (f_X2_heapOf n 0 m1) fun x22 m22 =>
    lp (F := Nat → Int → Mem → Option Rz) (fun _ _ _ => none) (fun w30 v4_30 v5_30 m30 =>
      if v5_30 < iabs p1 then (
        if v5_30 < 11 then (
          cal (f_X2_sumOf n v4_30 u m30) fun x50 m50 =>
          w30 x50.toNat (w32 (v5_30 + 1)) m50
        ) else
        cal (f_X2_heapOf n (p2 : Int) m30) fun x66 m66 =>
        cal (f_X2_sumOf n v4_30 x66.toNat m66) fun x69 m69 =>
        rt (x69.toNat : Nat) m69
      ) else
      cal (f_X2_heapOf n (p2 : Int) m30) fun x66 m66 =>
        cal (f_X2_sumOf n v4_30 x66.toNat m66) fun x69 m69 =>
        rt (x69.toNat : Nat) m69
    ) 12 x22.toNat 0 m22) (fun v m' => WG m' v ∧ Fr m m' SM ∧ mNext m' ≤ mNext m + 40) := by
    intro u m1 hu f1 n1
    have ab : iabs p1 = (p1.natAbs : Int) := by
      unfold iabs
      by_cases q : 0 ≤ p1
      · rw [if_pos q]; omega
      · rw [if_neg q, w32_id (by omega) (by omega)]; omega
    rw [ab]
    refine ok_cal (heapOf_ok2 (p := 0) hn (by decide) (by omega)) (fun x m2 h => ?_)
    obtain ⟨r2, f2, n2⟩ := h
    refine ups_loop (D := True) p1.natAbs (fun i a m3 => WG m3 (a : Int) ∧ Fr m m3 SM ∧ WG m3 (u : Int) ∧ mNext m3 ≤ mNext m + 8 + 4 * i) (fun w i a m3 hi hI hw => ?_) (fun w a m3 hI => ?_) 12 0 x.toNat m2 (Nat.zero_le _) ⟨?_, f1.tr f2, hu.mono f2.1, by omega⟩ (by omega)
    · obtain ⟨w3, f3, u3, n3⟩ := hI
      rw [if_pos (by omega), if_pos (by omega), k_1 (by omega)]
      refine ok_cal (sum_wg (v := (a : Int)) (w := (u : Int)) hn w3 u3 (by omega)) (fun x4 m4 h => ?_)
      obtain ⟨w4, f4, n4⟩ := h
      refine hw _ m4 ⟨?_, f3.tr f4, u3.mono f4.1, by omega⟩
      obtain ⟨o, rfl, q⟩ := w4
      exact ⟨o, by rw [Int.toNat_natCast], q⟩
    · obtain ⟨w3, f3, u3, n3⟩ := hI
      rw [if_neg (by omega)]
      refine ok_cal (heapOf_ok2 hn (by omega) (by omega)) (fun x4 m4 h => ?_)
      obtain ⟨r4, f4, n4⟩ := h
      refine ok_cal (sum_wg (v := (a : Int)) (w := x4) hn (w3.mono f4.1) (r4.wg (can_hc _)) (by omega)) (fun x5 m5 h => ?_)
      obtain ⟨w5, f5, n5⟩ := h
      refine ok_rt ⟨?_, (f3.tr f4).tr f5, by omega⟩
      obtain ⟨o, rfl, q⟩ := w5
      exact ⟨o, by rw [Int.toNat_natCast], q⟩
    · obtain ⟨o, rfl, q⟩ := r2.wg (can_hc 0)
      exact ⟨o, by rw [Int.toNat_natCast], q⟩
  by_cases q : p1 < 0
  · rw [if_pos q]
    obtain ⟨K, cK, fK, O⟩ := hU
    refine ok_cal (negativeOf_ok hn O cK fK (by omega)) (fun x m1 h => ?_)
    obtain ⟨r, f1, n1⟩ := h
    refine tail _ m1 ?_ f1 n1
    obtain ⟨o, rfl, q⟩ := r.wg (can_gneg _ cK)
    exact ⟨o, by rw [Int.toNat_natCast], q⟩
  · rw [if_neg q]
    exact tail _ m hU.wg (Fr.rf _ _) (by omega)
/-- the table of flowers: nodes all -/
def FT (m : Mem) (N : Nat) (P : Nat → Nat → Prop) : Prop := ∀ a b, P a b → ∃ c : Nat, c < N ∧ mGet m 30 (11 * a + b) = (c : Int)
theorem FT.fr {m m' : Mem} {N N' : Nat} {P : Nat → Nat → Prop} (h : FT m N P) (f : Fr m m' SY) (hN : N ≤ N') : FT m' N' P := fun a b hp => by
  obtain ⟨c, c1, c2⟩ := h a b hp
  exact ⟨c, by omega, by rw [f.2 30 _ (by decide) (by decide)]; exact c2⟩
theorem YB.of {m : Mem} {N : Nat} (Y : YI m N) (hs : mGet m 4 14 = 0) (hN : N ≤ 255) : YB m N ((List.range N).map (yden m)) := ⟨Y, hs, fun v hv => List.mem_map.mpr ⟨v, List.mem_range.mpr hv, rfl⟩, by rw [List.length_map, List.length_range]; exact hN⟩
set_option maxHeartbeats 1000000 in
theorem flower_ok {n p1 p2 p3 : Nat} {m : Mem} (hn : 300 < n) (h1 : p1 ≤ 9) (h2 : p2 ≤ 9) (h3 : p3 ≤ 9) (hb : mNext m + 4 < 2147483648) : Ok (f_X2_flowerOf n (p1 : Int) (p2 : Int) (p3 : Int) m) (fun v m' => WG m' v ∧ Fr m m' SM ∧ mNext m' ≤ mNext m + 4) := by
  unfold f_X2_flowerOf
  dsimp only [jn]
  obtain ⟨F, eF⟩ : ∃ F, F = (List.range (p1 + 1)).map hc := ⟨_, rfl⟩
  have mem : ∀ k, k ≤ p1 → hc k ∈ F := fun k hk => by rw [eF]; exact List.mem_map.mpr ⟨k, List.mem_range.mpr (by omega), rfl⟩
  have lF : F.length = p1 + 1 := by rw [eF, List.length_map, List.length_range]
  refine ok_cal (clearB (F := F) hn (mem 0 (Nat.zero_le _)) (by omega)) (fun _ m1 q1 => ?_)
  obtain ⟨Y1, f1, n1, _⟩ := q1
  refine ok_cal (heapNode_ok hn Y1 (by omega) mem) (fun v m2 q2 => ?_)
  obtain ⟨u0, N0, rfl, hu0, _, Y2, f2, z2, _, H2⟩ := q2
  have N0b : N0 ≤ p1 + 1 := by
    have := nodup_le ((List.range N0).map (yden m2)) F (nodup_map List.nodup_range (fun a ha b hb e => Y2.1.1.2.2.2.2.2.2 a b (List.mem_range.mp ha) (List.mem_range.mp hb) e)) (fun x hx => by
      obtain ⟨v, hv, rfl⟩ := List.mem_map.mp hx
      exact Y2.2.2.1 v (List.mem_range.mp hv))
    rw [List.length_map, List.length_range, lF] at this
    exact this
  have f2' : Fr m m2 SM := (f1.weak (fun a h => Or.inl h)).tr (f2.weak (fun a h => h.elim Or.inl (fun h => Or.inr (by omega))))
  have n2 : mNext m2 = mNext m := (mNext_eq z2).trans n1
  -- what holds as flowers are laid
  obtain ⟨J, eJ⟩ : ∃ J : Nat → Nat → Int → Mem → Prop, J = fun i j a m3 => ∃ N, (YI m3 N ∧ mGet m3 4 14 = 0 ∧ N ≤ N0 + i * (p3 + 1) + j) ∧ Fr m m3 SM ∧ mNext m3 = mNext m ∧ HR m3 N (p1 + 1) ∧ FT m3 N (fun a b => (a < i ∧ b ≤ p3) ∨ (a = i ∧ b < j)) ∧ (0 < i + j → ∃ c : Nat, a = (c : Int) ∧ c < N) := ⟨_, rfl⟩
  refine ok_up2 (p2 + 1) (fun i a m3 => J i 0 a m3) (fun w i a m3 hi hI hw => ?_) (fun w a m3 hI => ?_) n 0 (-1) m2 (Nat.zero_le _) (by
    rw [eJ]
    exact ⟨N0, ⟨Y2.1, Y2.2.1, by omega⟩, f2', n2, H2, fun a b h => by omega, fun h => by omega⟩) (by omega)
  · rw [if_neg (by omega), if_pos (by omega), k_1 (by omega)]
    have iW : i * (p3 + 1) ≤ 9 * 10 := Nat.mul_le_mul (by omega) (by omega)
    refine ok_up2 (p3 + 1) (fun j a m4 => J i j a m4) (fun w2 j a m4 hj hJ hw2 => ?_) (fun w2 a m4 hJ => ?_) n 0 a m3 (Nat.zero_le _) hI (by omega)
    · rw [if_neg (by omega), if_pos (by omega), k_1 (by omega)]
      rw [eJ] at hJ
      obtain ⟨N, ⟨Y4, s4, NB⟩, f4, n4, H4, T4, _⟩ := hJ
      refine ok_cal (beginHeap_ok hn (YB.of Y4 s4 (by omega)) (by omega) (fun j hj => H4 j (by omega))) (fun _ m5 q5 => ?_)
      obtain ⟨G5, F5⟩ := q5
      -- the end of one
      have fin : ∀ (m6 : Mem) (SL SR : Nat → Prop), YG m6 N SL SR → YF m5 m6 N N → Ok (cal (f_X9_end n m6) fun x111 m111 => stI m111 30 (w32 ((w32 ((i : Int) * 11)) + (j : Int))) x111 fun m130 => w2 x111 ((j + 1 : Nat) : Int) m130) (fun v m' => WG m' v ∧ Fr m m' SM ∧ mNext m' ≤ mNext m + 4) := by
        intro m6 SL SR G6 F6
        refine ok_cal (gany_ok hn G6 (by omega)) (fun v7 m7 q7 => ?_)
        obtain ⟨u, N7, rfl, u1, u2, u3, Y7, s7, F7⟩ := q7
        have F47 := (F5.tr F6).tr F7
        rw [p_ix (by omega) (by omega), stI_ok (kI30 _) (by omega)]
        have G8 : ∀ a b, mGet (mSet m7 30 (11 * i + j) (u : Int)) a b = if a = 30 ∧ b = 11 * i + j then (u : Int) else mGet m7 a b := fun a b => by rw [mGet_mSet, w32_nat (by omega)]
        obtain ⟨Y8, d8⟩ := Y7.lg (m' := mSet m7 30 (11 * i + j) (u : Int)) rfl (fun a b q => by rw [G8, if_neg (by omega)])
        have T7 := T4.fr (F47.toFr u2) u2
        have H7 := H4.fr F47 u2
        refine hw2 _ _ ?_
        rw [eJ]
        refine ⟨N7, ⟨Y8, by rw [G8, if_neg (by omega)]; exact s7, by omega⟩, (f4.tr ((F47.toFr u2).weak (fun a h => Or.inl h))).tr (Fr.of rfl (fun a b q => by rw [G8, if_neg (fun h => q ⟨by omega, Or.inr (by omega)⟩)])), by show mNext m7 = _; rw [YB.next F47]; exact n4, fun k hk => ?_, fun a b q => ?_, fun _ => ⟨u, rfl, u1⟩⟩
        · obtain ⟨c, c1, c2, c3⟩ := H7 k hk
          exact ⟨c, c1, by rw [G8, if_neg (by omega)]; exact c2, by rw [d8]; exact c3⟩
        · by_cases q2 : a = i ∧ b = j
          · exact ⟨u, u1, by rw [G8, if_pos ⟨rfl, by rw [q2.1, q2.2]⟩]⟩
          · obtain ⟨c, e1, e2⟩ := T7 a b (by omega)
            exact ⟨c, e1, by rw [G8, if_neg (by omega)]; exact e2⟩
      have T6 : ∀ m6, YF m5 m6 N N → FT m6 N (fun a b => (a < i ∧ b ≤ p3) ∨ (a = i ∧ b < j)) := fun m6 F6 => T4.fr ((F5.tr F6).toFr (Nat.le_refl _)) (Nat.le_refl _)
      -- the option of right
      have snd : ∀ (m6 : Mem) (SL SR : Nat → Prop), YG m6 N SL SR → YF m5 m6 N N → Ok (if 0 < (j : Int) then (
              ldI m6 30 (w32 ((w32 ((w32 ((i : Int) * 11)) + (j : Int))) - 1)) fun x103 =>
              cal (f_X9_addRight n x103 m6) fun _ m104 =>
              cal (f_X9_end n m104) fun x111 m111 =>
              stI m111 30 (w32 ((w32 ((i : Int) * 11)) + (j : Int))) x111 fun m130 =>
              w2 x111 ((j + 1 : Nat) : Int) m130
            ) else
            cal (f_X9_end n m6) fun x111 m111 =>
              stI m111 30 (w32 ((w32 ((i : Int) * 11)) + (j : Int))) x111 fun m130 =>
              w2 x111 ((j + 1 : Nat) : Int) m130) (fun v m' => WG m' v ∧ Fr m m' SM ∧ mNext m' ≤ mNext m + 4) := by
        intro m6 SL SR G6 F6
        by_cases q : j = 0
        · rw [if_neg (by omega)]
          exact fin m6 _ _ G6 F6
        · rw [if_pos (by omega), p_ix (by omega) (by omega), w32_id (x := ((11 * i + j : Nat) : Int) - 1) (by omega) (by omega), show ((11 * i + j : Nat) : Int) - 1 = ((11 * i + (j - 1) : Nat) : Int) by omega, ldI_ok (kI30 _) (by omega)]
          obtain ⟨c, c1, c2⟩ := T6 m6 F6 i (j - 1) (Or.inr ⟨rfl, by omega⟩)
          rw [c2]
          refine ok_cal (addRight_ok G6 c1) (fun _ m7 q7 => ?_)
          have := fin m7 _ _ q7.1 (F6.tr q7.2)
          rw [p_ix (by omega) (by omega)] at this
          exact this
      by_cases q : i = 0
      · rw [if_neg (by omega)]
        exact snd m5 _ _ G5 (YF.rf _ _)
      · rw [if_pos (by omega), w32_id (x := (i : Int) - 1) (by omega) (by omega), show (i : Int) - 1 = ((i - 1 : Nat) : Int) by omega, p_ix (by omega) (by omega), ldI_ok (kI30 _) (by omega)]
        obtain ⟨c, c1, c2⟩ := T6 m5 (YF.rf _ _) (i - 1) j (Or.inl ⟨by omega, by omega⟩)
        rw [c2]
        refine ok_cal (addLeft_ok G5 c1) (fun _ m6 q6 => ?_)
        exact snd m6 _ _ q6.1 q6.2
    · rw [if_pos (by omega)]
      refine hw a m4 ?_
      rw [eJ] at hJ ⊢
      obtain ⟨N, ⟨Y4, s4, NB⟩, f4, n4, H4, T4, l4⟩ := hJ
      have e1 : (i + 1) * (p3 + 1) = i * (p3 + 1) + (p3 + 1) := Nat.succ_mul i (p3 + 1)
      exact ⟨N, ⟨Y4, s4, by omega⟩, f4, n4, H4, fun a b q => T4 a b (by omega), fun _ => l4 (by omega)⟩
  · rw [if_pos (by omega)]
    rw [eJ] at hI
    obtain ⟨N, ⟨Y4, s4, NB⟩, f4, n4, H4, T4, l4⟩ := hI
    obtain ⟨c, rfl, lc⟩ := l4 (by omega)
    refine writ_res hn Y4 lc s4 (by omega) (fun v m' r1 r2 r3 _ _ _ => ?_)
    exact ⟨r1.wg (Y4.1.2.2.2.2.2.1 c lc), f4.tr (r2.weak (fun a h => Or.inl h)), by omega⟩
