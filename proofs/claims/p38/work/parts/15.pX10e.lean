/-- X10 isWithin (III)Z -/
def f_X10_isWithin (n : Nat) (p0 : Int) (p1 : Int) (p2 : Int) (mi : Mem) : Option Rz :=
  jn (fun (s0_15 : Int) (m15 : Mem) =>
    rtZ s0_15 m15
  ) fun (j15 : Int → Mem → Option Rz) =>
  jn (fun (m14 : Mem) =>
    j15 0 m14
  ) fun (j14 : Mem → Option Rz) =>
  if p0 < p1 then (
    j14 mi
  ) else
  if p2 < p0 then (
    j14 mi
  ) else
  j15 1 mi
set_option maxRecDepth 100000 in
set_option maxHeartbeats 4000000 in
theorem s_X10_isWithin (l : Launch) (sc : g_S) (E : Mem → g_H) (R : Nat → Prop) (hE : LE E R) (hR : RCL R) (n : Nat)  (p0 : Int) (p1 : Int) (p2 : Int) (hp0 : inR p0) (hp1 : inR p1) (hp2 : inR p2) (mi : Mem) (r : Rz) (H : f_X10_isWithin n p0 p1 p2 mi = some r) : AMet l sc yX10_isWithin cX10_isWithin 3 (some FieldType.boolean) 0 0 0 [iv p0, iv p1, iv p2] (E mi) (pI E r) := by
  unfold f_X10_isWithin at H
  refine AMet.of (own := RX10) (by decide +kernel) rfl (Nat.le_of_ble_eq_true rfl) [(0, iv p0), (1, iv p1), (2, iv p2)] rfl (fun D base ad => ?_)
  refine aw_iload_n (pc := 0) dX10_isWithin_0 rfl ?_
  refine aw_iload_n (pc := 1) dX10_isWithin_1 rfl ?_
  refine jn_ind (fun (f9 : Int → Mem → Option Rz) => ∀ (s0_15 : Int) (m15 : Mem), inR s0_15 → f9 s0_15 m15 = some r → AW l D base sc RX10 yX10_isWithin cX10_isWithin 3 (some FieldType.boolean) 0 0 0 ad (E mi) (pI E r) 0 0 (E m15) 15 [] [iv s0_15]) (fun s0_15 m15 hs0_15 H => ?_) (fun j15 hj15 H => ?_) H
  · -- 15
    exact cx_zret (pc := 15) rfl (Nat.le_of_ble_eq_true rfl) (Nat.le_of_ble_eq_true rfl) dX10_isWithin_15 H
  refine jn_ind (fun (f9 : Mem → Option Rz) => ∀ (m14 : Mem), f9 m14 = some r → AW l D base sc RX10 yX10_isWithin cX10_isWithin 3 (some FieldType.boolean) 0 0 0 ad (E mi) (pI E r) 0 0 (E m14) 14 [] []) (fun m14 H => ?_) (fun j14 hj14 H => ?_) H
  · -- 14
    refine cx_iconst (pc := 14) dX10_isWithin_14 ?_
    exact AW.sel [] rfl (hj15 _ _ (inR_lit _ rfl) H)
  refine cx_icmp_lt (pc := 2) 14 hp0 hp1 dX10_isWithin_2 rfl H (fun H => ?_) (fun H => ?_)
  · -- 2: 14
    exact AW.sel [] rfl (hj14 _ H)
  · -- 2: 5
    refine aw_iload_n (pc := 5) dX10_isWithin_5 rfl ?_
    refine aw_iload_n (pc := 6) dX10_isWithin_6 rfl ?_
    refine cx_icmp_gt (pc := 7) 14 hp0 hp2 dX10_isWithin_7 rfl H (fun H => ?_) (fun H => ?_)
    · -- 7: 14
      exact AW.sel [] rfl (hj14 _ H)
    · -- 7: 10
      refine cx_iconst (pc := 10) dX10_isWithin_10 ?_
      refine aw_goto (pc := 11) 15 dX10_isWithin_11 rfl ?_
      exact AW.sel [] rfl (hj15 _ _ (inR_lit _ rfl) H)
/-- X10 fail (I)I -/
def f_X10_fail (n : Nat) (p1 : Int) (mi : Mem) : Option Rz :=
  nm (w32 ((-1100000000) - p1)) fun z5 =>
  cal (f_X10_isWithin n z5 1 6 mi) fun x10 m10 =>
  jn (fun (m26 : Mem) =>
    rt p1 m26
  ) fun (j26 : Mem → Option Rz) =>
  if x10 = 0 then (
    j26 m10
  ) else
  ldI m10 3 z5 fun x22 =>
  stI m10 3 z5 (w32 (x22 + 1)) fun m25 =>
  j26 m25
set_option maxRecDepth 100000 in
set_option maxHeartbeats 4000000 in
theorem s_X10_fail (l : Launch) (sc : g_S) (E : Mem → g_H) (R : Nat → Prop) (hE : LE E R) (hR : RCL R) (n : Nat)  (p1 : Int) (hp1 : inR p1) (mi : Mem) (r : Rz) (H : f_X10_fail n p1 mi = some r) : AMet l sc yX10_fail cX10_fail 3 (some FieldType.int) 1 0 0 [.ref 1, iv p1] (E mi) (pI E r) := by
  have r1 : R 1 := hR.1 1 (Nat.le_of_ble_eq_true rfl) (Nat.le_of_ble_eq_true rfl)
  have r3 : R 3 := hR.1 3 (Nat.le_of_ble_eq_true rfl) (Nat.le_of_ble_eq_true rfl)
  unfold f_X10_fail at H
  refine AMet.of (own := RX10) (by decide +kernel) rfl (Nat.le_of_ble_eq_true rfl) [(0, .ref 1), (1, iv p1)] rfl (fun D base ad => ?_)
  refine cx_ldcw (pc := 0) (-1100000000) dX10_fail_0 ct_X10_335 (by decide) ?_
  refine aw_iload_n (pc := 3) dX10_fail_3 rfl ?_
  refine cx_isub (pc := 4) dX10_fail_4 ?_
  refine cx_nm (inR_w32 _) H (fun z5 hz5 H => ?_)
  refine aw_istore_n (pc := 5) [(2, iv z5), (0, .ref 1), (1, iv p1)] dX10_fail_5 rfl (by decide) ?_
  refine aw_iload_n (pc := 6) dX10_fail_6 rfl ?_
  refine cx_iconst (pc := 7) dX10_fail_7 ?_
  refine cx_bipush (pc := 8) dX10_fail_8 (by decide) ?_
  refine cx_callS (pc := 10) (P := pI) (dC := 0) (mcC := 0) (msC := 0) [iv z5, iv 1, iv 6] (fun r1 H1 => s_X10_isWithin l sc E R hE hR n z5 1 6 hz5 (inR_lit _ rfl) (inR_lit _ rfl) mi r1 H1) ca_X10_159 rfl rfl (Nat.le_of_ble_eq_true rfl) (Nat.le_of_ble_eq_true rfl) (Nat.le_of_ble_eq_true rfl) (Nat.le_of_ble_eq_true rfl) dX10_fail_10 H (fun x10 m10 v10 hh10 H hp => ?_)
  refine cx_backI hp (fun hx10 => ?_)
  refine jn_ind (fun (f9 : Mem → Option Rz) => ∀ (m26 : Mem), f9 m26 = some r → AW l D base sc RX10 yX10_fail cX10_fail 3 (some FieldType.int) 1 0 0 ad (E mi) (pI E r) 0 0 (E m26) 26 [(1, iv p1)] []) (fun m26 H => ?_) (fun j26 hj26 H => ?_) H
  · -- 26
    refine aw_iload_n (pc := 26) dX10_fail_26 rfl ?_
    exact cx_iret (pc := 27) hp1 rfl (Nat.le_of_ble_eq_true rfl) (Nat.le_of_ble_eq_true rfl) dX10_fail_27 H
  refine cx_if_eq (pc := 13) 26 hx10 dX10_fail_13 rfl H (fun H => ?_) (fun H => ?_)
  · -- 13: 26
    exact AW.sel [2] rfl (hj26 _ H)
  · -- 13: 16
    refine aw_aload_n (pc := 16) dX10_fail_16 rfl ?_
    refine cx_gtC (pc := 17) 3 hE r1 fl_X10_99 rfl rfl (Nat.le_of_ble_eq_true rfl) dX10_fail_17 ?_
    refine aw_iload_n (pc := 20) dX10_fail_20 rfl ?_
    refine aw_dup2 (pc := 21) dX10_fail_21 rfl rfl ?_
    refine cx_ldI (pc := 22) hE r3 hz5 dX10_fail_22 H (fun x22 hx22 H => ?_)
    refine cx_iconst (pc := 23) dX10_fail_23 ?_
    refine cx_iadd (pc := 24) dX10_fail_24 ?_
    refine cx_stI (pc := 25) hE r3 hz5 dX10_fail_25 H (fun m25 H => ?_)
    exact AW.sel [2] rfl (hj26 _ H)
/-- X10 isSlot (I)Z -/
def f_X10_isSlot (n : Nat) (p0 : Int) (mi : Mem) : Option Rz :=
  cal (f_X10_isWithin n p0 0 7 mi) fun x4 m4 =>
  rtZ x4 m4
set_option maxRecDepth 100000 in
set_option maxHeartbeats 4000000 in
theorem s_X10_isSlot (l : Launch) (sc : g_S) (E : Mem → g_H) (R : Nat → Prop) (hE : LE E R) (hR : RCL R) (n : Nat)  (p0 : Int) (hp0 : inR p0) (mi : Mem) (r : Rz) (H : f_X10_isSlot n p0 mi = some r) : AMet l sc yX10_isSlot cX10_isSlot 1 (some FieldType.boolean) 1 0 0 [iv p0] (E mi) (pI E r) := by
  unfold f_X10_isSlot at H
  refine AMet.of (own := RX10) (by decide +kernel) rfl (Nat.le_of_ble_eq_true rfl) [(0, iv p0)] rfl (fun D base ad => ?_)
  refine aw_iload_n (pc := 0) dX10_isSlot_0 rfl ?_
  refine cx_iconst (pc := 1) dX10_isSlot_1 ?_
  refine cx_bipush (pc := 2) dX10_isSlot_2 (by decide) ?_
  refine cx_callS (pc := 4) (P := pI) (dC := 0) (mcC := 0) (msC := 0) [iv p0, iv 0, iv 7] (fun r1 H1 => s_X10_isWithin l sc E R hE hR n p0 0 7 hp0 (inR_lit _ rfl) (inR_lit _ rfl) mi r1 H1) ca_X10_159 rfl rfl (Nat.le_of_ble_eq_true rfl) (Nat.le_of_ble_eq_true rfl) (Nat.le_of_ble_eq_true rfl) (Nat.le_of_ble_eq_true rfl) dX10_isSlot_4 H (fun x4 m4 v4 hh4 H hp => ?_)
  refine cx_backI hp (fun hx4 => ?_)
  exact cx_zret (pc := 7) rfl (Nat.le_of_ble_eq_true rfl) (Nat.le_of_ble_eq_true rfl) dX10_isSlot_7 H
/-- X10 sumOutcome (LUppityGames$Game;LUppityGames$Game;)I -/
def f_X10_sumOutcome (n : Nat) (p1 : Nat) (p2 : Nat) (mi : Mem) : Option Rz :=
  cal (f_X0_fill n p1 p2 0 mi) fun _ m7 =>
  isD p1 <|
  isG m7 p1 <| cal (f_X1_top n p1 m7) fun x15 m15 =>
  isD p2 <|
  isG m15 p2 <| cal (f_X1_top n p2 m15) fun x19 m19 =>
  cal (f_X0_verdict n x15 x19 m19) fun x22 m22 =>
  rt x22 m22
set_option maxRecDepth 100000 in
set_option maxHeartbeats 4000000 in
theorem s_X10_sumOutcome (l : Launch) (sc : g_S) (E : Mem → g_H) (R : Nat → Prop) (hE : LE E R) (hR : RCL R) (n : Nat)  (p1 : Nat) (p2 : Nat)  (mi : Mem) (r : Rz) (H : f_X10_sumOutcome n p1 p2 mi = some r) : AMet l sc yX10_sumOutcome cX10_sumOutcome 3 (some FieldType.int) 3 0 0 [.ref 1, rv p1, rv p2] (E mi) (pI E r) := by
  have r1 : R 1 := hR.1 1 (Nat.le_of_ble_eq_true rfl) (Nat.le_of_ble_eq_true rfl)
  have r33 : R 33 := hR.1 33 (Nat.le_of_ble_eq_true rfl) (Nat.le_of_ble_eq_true rfl)
  unfold f_X10_sumOutcome at H
  refine AMet.of (own := RX10) (by decide +kernel) rfl (by rcases rv_or p1 with ep1 | ⟨_, ep1⟩ <;> rcases rv_or p2 with ep2 | ⟨_, ep2⟩ <;> simp only [ep1, ep2] <;> exact Nat.le_of_ble_eq_true rfl) [(0, .ref 1), (1, rv p1), (2, rv p2)] (by rcases rv_or p1 with ep1 | ⟨_, ep1⟩ <;> rcases rv_or p2 with ep2 | ⟨_, ep2⟩ <;> simp only [ep1, ep2] <;> rfl) (fun D base ad => ?_)
  refine aw_aload_n (pc := 0) dX10_sumOutcome_0 rfl ?_
  refine cx_gtC (pc := 1) 33 hE r1 fl_X10_47 rfl rfl (Nat.le_of_ble_eq_true rfl) dX10_sumOutcome_1 ?_
  refine cx_aload_n (pc := 4) dX10_sumOutcome_4 rfl ?_
  refine cx_aload_n (pc := 5) dX10_sumOutcome_5 rfl ?_
  refine cx_iconst (pc := 6) dX10_sumOutcome_6 ?_
  refine cx_callV (pc := 7) (P := pV) (dC := 2) (mcC := 0) (msC := 0) [rv p1, rv p2, iv 0] hE r33 (fun r1 H1 => s_X0_fill l sc E R hE hR n p1 p2 0 (inR_lit _ rfl) mi r1 H1) ca_X10_213 rfl ⟨_, rfl, rfl⟩ rfl rfl (Nat.le_of_ble_eq_true rfl) (Nat.le_of_ble_eq_true rfl) (Nat.le_of_ble_eq_true rfl) (Nat.le_of_ble_eq_true rfl) dX10_sumOutcome_7 H (fun x7 m7 v7 hh7 H hp => ?_)
  refine cx_backV hp ?_
  refine aw_aload_n (pc := 10) dX10_sumOutcome_10 rfl ?_
  refine cx_gtC (pc := 11) 33 hE r1 fl_X10_47 rfl rfl (Nat.le_of_ble_eq_true rfl) dX10_sumOutcome_11 ?_
  refine cx_aload_n (pc := 14) dX10_sumOutcome_14 rfl ?_
  refine cx_nn0 H (fun hg15_1 H => ?_)
  refine cx_callG (pc := 15) (P := pI) (dC := 0) (mcC := 0) (msC := 0) [] hE hR.d (fun r1 H1 => s_X1_top l sc E R hE hR.d n p1 hg15_1 m7 r1 H1) ca_X10_124 ⟨_, rfl, rfl⟩ rfl rfl (Nat.le_of_ble_eq_true rfl) (Nat.le_of_ble_eq_true rfl) (Nat.le_of_ble_eq_true rfl) (Nat.le_of_ble_eq_true rfl) dX10_sumOutcome_15 H (fun x15 m15 v15 hh15 H hp => ?_)
  refine cx_backI hp (fun hx15 => ?_)
  refine cx_aload_n (pc := 18) dX10_sumOutcome_18 rfl ?_
  refine cx_nn0 H (fun hg19_2 H => ?_)
  refine cx_callG (pc := 19) (P := pI) (dC := 0) (mcC := 0) (msC := 0) [] hE hR.d (fun r1 H1 => s_X1_top l sc E R hE hR.d n p2 hg19_2 m15 r1 H1) ca_X10_124 ⟨_, rfl, rfl⟩ rfl rfl (Nat.le_of_ble_eq_true rfl) (Nat.le_of_ble_eq_true rfl) (Nat.le_of_ble_eq_true rfl) (Nat.le_of_ble_eq_true rfl) dX10_sumOutcome_19 H (fun x19 m19 v19 hh19 H hp => ?_)
  refine cx_backI hp (fun hx19 => ?_)
  refine cx_callV (pc := 22) (P := pI) (dC := 0) (mcC := 0) (msC := 0) [iv x15, iv x19] hE r33 (fun r1 H1 => s_X0_verdict l sc E R hE hR n x15 x19 hx15 hx19 m19 r1 H1) ca_X10_217 rfl ⟨_, rfl, rfl⟩ rfl rfl (Nat.le_of_ble_eq_true rfl) (Nat.le_of_ble_eq_true rfl) (Nat.le_of_ble_eq_true rfl) (Nat.le_of_ble_eq_true rfl) dX10_sumOutcome_22 H (fun x22 m22 v22 hh22 H hp => ?_)
  refine cx_backI hp (fun hx22 => ?_)
  exact cx_iret (pc := 25) hx22 rfl (Nat.le_of_ble_eq_true rfl) (Nat.le_of_ble_eq_true rfl) dX10_sumOutcome_25 H
/-- X10 slot (II)I -/
def f_X10_slot (n : Nat) (p1 : Int) (p2 : Int) (mi : Mem) : Option Rz :=
  cal (f_X10_isSlot n p1 mi) fun x1 m1 =>
  if x1 = 0 then (
    cal (f_X10_fail n (-1100000001) m1) fun x10 m10 =>
    rt x10 m10
  ) else
  cal (f_X6_held n p1 m1) fun x19 m19 =>
  if p2 = 0 then (
    isD x19.toNat <|
    isG m19 x19.toNat <| cal (f_X1_width n x19.toNat m19) fun x77 m77 =>
    rt x77 m77
  ) else
  if p2 = 1 then (
    isD x19.toNat <|
    gmF m19 x19.toNat 3 fun x82 =>
    rt x82 m19
  ) else
  if p2 = 2 then (
    isD x19.toNat <|
    isG m19 x19.toNat <| cal (f_X1_top n x19.toNat m19) fun x88 m88 =>
    isD x19.toNat <|
    isG m88 x19.toNat <| cal (f_X1_options n x19.toNat x88 0 m88) fun x92 m92 =>
    cal (f_J6_bitCount_0f7a4 n x92 m92) fun x95 m95 =>
    rt x95 m95
  ) else
  if p2 = 3 then (
    isD x19.toNat <|
    isG m19 x19.toNat <| cal (f_X1_top n x19.toNat m19) fun x101 m101 =>
    isD x19.toNat <|
    isG m101 x19.toNat <| cal (f_X1_options n x19.toNat x101 1 m101) fun x105 m105 =>
    cal (f_J6_bitCount_0f7a4 n x105 m105) fun x108 m108 =>
    rt x108 m108
  ) else
  if p2 = 4 then (
    cal (f_X6_zero n m19) fun x118 m118 =>
    cal (f_X10_sumOutcome n x19.toNat x118.toNat m118) fun x121 m121 =>
    rt x121 m121
  ) else
  if p2 = 5 then (
    isD x19.toNat <|
    isG m19 x19.toNat <| cal (f_X1_isSmall n x19.toNat m19) fun x126 m126 =>
    jn (fun (s0_137 : Int) (m137 : Mem) =>
      rt s0_137 m137
    ) fun (j137 : Int → Mem → Option Rz) =>
    if x126 = 0 then (
      j137 0 m126
    ) else
    j137 1 m126
  ) else
  if p2 = 6 then (
    isD x19.toNat <|
    gmG m19 x19.toNat 2 fun x139 =>
    isD x139 <|
    lenA m19 x139 fun x142 =>
    rt x142 m19
  ) else
  if p2 = 7 then (
    isD x19.toNat <|
    gmF m19 x19.toNat 4 fun x145 =>
    rt x145 m19
  ) else
  if p2 = 8 then (
    isD x19.toNat <|
    isG m19 x19.toNat <| cal (f_X1_isInteger n x19.toNat m19) fun x150 m150 =>
    jn (fun (s0_161 : Int) (m161 : Mem) =>
      rt s0_161 m161
    ) fun (j161 : Int → Mem → Option Rz) =>
    if x150 = 0 then (
      j161 0 m150
    ) else
    j161 1 m150
  ) else
  cal (f_X10_fail n (-1100000001) m19) fun x165 m165 =>
  rt x165 m165
set_option maxRecDepth 100000 in
set_option maxHeartbeats 4000000 in
theorem s_X10_slot (l : Launch) (sc : g_S) (E : Mem → g_H) (R : Nat → Prop) (hE : LE E R) (hR : RCL R) (n : Nat)  (p1 : Int) (p2 : Int) (hp1 : inR p1) (hp2 : inR p2) (mi : Mem) (r : Rz) (H : f_X10_slot n p1 p2 mi = some r) : AMet l sc yX10_slot cX10_slot 4 (some FieldType.int) 4 0 0 [.ref 1, iv p1, iv p2] (E mi) (pI E r) := by
  have r1 : R 1 := hR.1 1 (Nat.le_of_ble_eq_true rfl) (Nat.le_of_ble_eq_true rfl)
  have r45 : R 45 := hR.1 45 (Nat.le_of_ble_eq_true rfl) (Nat.le_of_ble_eq_true rfl)
  unfold f_X10_slot at H
  refine AMet.of (own := RX10) (by decide +kernel) rfl (Nat.le_of_ble_eq_true rfl) [(0, .ref 1), (1, iv p1), (2, iv p2)] rfl (fun D base ad => ?_)
  refine aw_iload_n (pc := 0) dX10_slot_0 rfl ?_
  refine cx_callS (pc := 1) (P := pI) (dC := 1) (mcC := 0) (msC := 0) [iv p1] (fun r1 H1 => s_X10_isSlot l sc E R hE hR n p1 hp1 mi r1 H1) ca_X10_103 rfl rfl (Nat.le_of_ble_eq_true rfl) (Nat.le_of_ble_eq_true rfl) (Nat.le_of_ble_eq_true rfl) (Nat.le_of_ble_eq_true rfl) dX10_slot_1 H (fun x1 m1 v1 hh1 H hp => ?_)
  refine cx_backI hp (fun hx1 => ?_)
  refine cx_if_ne (pc := 4) 14 hx1 dX10_slot_4 rfl H (fun H => ?_) (fun H => ?_)
  · -- 4: 7
    refine aw_aload_n (pc := 7) dX10_slot_7 rfl ?_
    refine cx_ldc (pc := 8) (-1100000001) dX10_slot_8 ct_X10_107 (by decide) ?_
    refine cx_callV (pc := 10) (P := pI) (dC := 1) (mcC := 0) (msC := 0) [iv (-1100000001)] hE r1 (fun r1 H1 => s_X10_fail l sc E R hE hR n (-1100000001) (inR_lit _ rfl) m1 r1 H1) ca_X10_108 rfl ⟨_, rfl, rfl⟩ rfl rfl (Nat.le_of_ble_eq_true rfl) (Nat.le_of_ble_eq_true rfl) (Nat.le_of_ble_eq_true rfl) (Nat.le_of_ble_eq_true rfl) dX10_slot_10 H (fun x10 m10 v10 hh10 H hp => ?_)
    refine cx_backI hp (fun hx10 => ?_)
    exact cx_iret (pc := 13) hx10 rfl (Nat.le_of_ble_eq_true rfl) (Nat.le_of_ble_eq_true rfl) dX10_slot_13 H
  · -- 4: 14
    refine aw_aload_n (pc := 14) dX10_slot_14 rfl ?_
    refine cx_gtC (pc := 15) 45 hE r1 fl_X10_84 rfl rfl (Nat.le_of_ble_eq_true rfl) dX10_slot_15 ?_
    refine aw_iload_n (pc := 18) dX10_slot_18 rfl ?_
    refine cx_callV (pc := 19) (P := pG) (dC := 0) (mcC := 0) (msC := 0) [iv p1] hE r45 (fun r1 H1 => s_X6_held l sc E R hE hR n p1 hp1 m1 r1 H1) ca_X10_112 rfl ⟨_, rfl, rfl⟩ rfl rfl (Nat.le_of_ble_eq_true rfl) (Nat.le_of_ble_eq_true rfl) (Nat.le_of_ble_eq_true rfl) (Nat.le_of_ble_eq_true rfl) dX10_slot_19 H (fun x19 m19 v19 hh19 H hp => ?_)
    refine cx_backG hp ?_
    refine cx_astore_n (pc := 22) [(3, rv x19.toNat), (0, .ref 1), (1, iv p1), (2, iv p2)] dX10_slot_22 rfl (by decide) ?_
    refine aw_iload_n (pc := 23) dX10_slot_23 rfl ?_
    rcases sw_eq H with ⟨q24_0, H⟩ | ⟨q24_0, H⟩
    · -- 24 case 0
      refine cx_tabIn (pc := 24) 76 0 q24_0 dX10_slot_24 (by decide) (by decide) rfl rfl ?_
      refine cx_aload_n (pc := 76) dX10_slot_76 rfl ?_
      refine cx_nn0 H (fun hg77_1 H => ?_)
      refine cx_callG (pc := 77) (P := pI) (dC := 0) (mcC := 0) (msC := 0) [] hE hR.d (fun r1 H1 => s_X1_width l sc E R hE hR.d n x19.toNat hg77_1 m19 r1 H1) ca_X10_116 ⟨_, rfl, rfl⟩ rfl rfl (Nat.le_of_ble_eq_true rfl) (Nat.le_of_ble_eq_true rfl) (Nat.le_of_ble_eq_true rfl) (Nat.le_of_ble_eq_true rfl) dX10_slot_77 H (fun x77 m77 v77 hh77 H hp => ?_)
      refine cx_backI hp (fun hx77 => ?_)
      exact cx_iret (pc := 80) hx77 rfl (Nat.le_of_ble_eq_true rfl) (Nat.le_of_ble_eq_true rfl) dX10_slot_80 H
    rcases sw_eq H with ⟨q24_1, H⟩ | ⟨q24_1, H⟩
    · -- 24 case 1
      refine cx_tabIn (pc := 24) 81 1 q24_1 dX10_slot_24 (by decide) (by decide) rfl rfl ?_
      refine cx_aload_n (pc := 81) dX10_slot_81 rfl ?_
      refine cx_nn0 H (fun hg82_2 H => ?_)
      refine cx_gmF (pc := 82) hE hR.d hg82_2 fl_X10_120 rfl (Nat.le_of_ble_eq_true rfl) dX10_slot_82 H (fun x82 hx82 H => ?_)
      exact cx_iret (pc := 85) hx82 rfl (Nat.le_of_ble_eq_true rfl) (Nat.le_of_ble_eq_true rfl) dX10_slot_85 H
    rcases sw_eq H with ⟨q24_2, H⟩ | ⟨q24_2, H⟩
    · -- 24 case 2
      refine cx_tabIn (pc := 24) 86 2 q24_2 dX10_slot_24 (by decide) (by decide) rfl rfl ?_
      refine cx_aload_n (pc := 86) dX10_slot_86 rfl ?_
      refine cx_aload_n (pc := 87) dX10_slot_87 rfl ?_
      refine cx_nn0 H (fun hg88_3 H => ?_)
      refine cx_callG (pc := 88) (P := pI) (dC := 0) (mcC := 0) (msC := 0) [] hE hR.d (fun r1 H1 => s_X1_top l sc E R hE hR.d n x19.toNat hg88_3 m19 r1 H1) ca_X10_124 ⟨_, rfl, rfl⟩ rfl rfl (Nat.le_of_ble_eq_true rfl) (Nat.le_of_ble_eq_true rfl) (Nat.le_of_ble_eq_true rfl) (Nat.le_of_ble_eq_true rfl) dX10_slot_88 H (fun x88 m88 v88 hh88 H hp => ?_)
      refine cx_backI hp (fun hx88 => ?_)
      refine cx_iconst (pc := 91) dX10_slot_91 ?_
      refine cx_nn2 H (fun hg92_4 H => ?_)
      refine cx_callG (pc := 92) (P := pI) (dC := 0) (mcC := 0) (msC := 0) [iv x88, iv 0] hE hR.d (fun r1 H1 => s_X1_options l sc E R hE hR.d n x19.toNat x88 0 hg92_4 hx88 (inR_lit _ rfl) m88 r1 H1) ca_X10_127 ⟨_, rfl, rfl⟩ rfl rfl (Nat.le_of_ble_eq_true rfl) (Nat.le_of_ble_eq_true rfl) (Nat.le_of_ble_eq_true rfl) (Nat.le_of_ble_eq_true rfl) dX10_slot_92 H (fun x92 m92 v92 hh92 H hp => ?_)
      refine cx_backI hp (fun hx92 => ?_)
      refine cx_callS (pc := 95) (P := pI) (dC := 0) (mcC := 0) (msC := 0) [iv x92] (fun r1 H1 => s_J6_bitCount_0f7a4 l sc E R hE n x92 hx92 m92 r1 H1) ca_X10_131 rfl rfl (Nat.le_of_ble_eq_true rfl) (Nat.le_of_ble_eq_true rfl) (Nat.le_of_ble_eq_true rfl) (Nat.le_of_ble_eq_true rfl) dX10_slot_95 H (fun x95 m95 v95 hh95 H hp => ?_)
      refine cx_backI hp (fun hx95 => ?_)
      exact cx_iret (pc := 98) hx95 rfl (Nat.le_of_ble_eq_true rfl) (Nat.le_of_ble_eq_true rfl) dX10_slot_98 H
    rcases sw_eq H with ⟨q24_3, H⟩ | ⟨q24_3, H⟩
    · -- 24 case 3
      refine cx_tabIn (pc := 24) 99 3 q24_3 dX10_slot_24 (by decide) (by decide) rfl rfl ?_
      refine cx_aload_n (pc := 99) dX10_slot_99 rfl ?_
      refine cx_aload_n (pc := 100) dX10_slot_100 rfl ?_
      refine cx_nn0 H (fun hg101_5 H => ?_)
      refine cx_callG (pc := 101) (P := pI) (dC := 0) (mcC := 0) (msC := 0) [] hE hR.d (fun r1 H1 => s_X1_top l sc E R hE hR.d n x19.toNat hg101_5 m19 r1 H1) ca_X10_124 ⟨_, rfl, rfl⟩ rfl rfl (Nat.le_of_ble_eq_true rfl) (Nat.le_of_ble_eq_true rfl) (Nat.le_of_ble_eq_true rfl) (Nat.le_of_ble_eq_true rfl) dX10_slot_101 H (fun x101 m101 v101 hh101 H hp => ?_)
      refine cx_backI hp (fun hx101 => ?_)
      refine cx_iconst (pc := 104) dX10_slot_104 ?_
      refine cx_nn2 H (fun hg105_6 H => ?_)
      refine cx_callG (pc := 105) (P := pI) (dC := 0) (mcC := 0) (msC := 0) [iv x101, iv 1] hE hR.d (fun r1 H1 => s_X1_options l sc E R hE hR.d n x19.toNat x101 1 hg105_6 hx101 (inR_lit _ rfl) m101 r1 H1) ca_X10_127 ⟨_, rfl, rfl⟩ rfl rfl (Nat.le_of_ble_eq_true rfl) (Nat.le_of_ble_eq_true rfl) (Nat.le_of_ble_eq_true rfl) (Nat.le_of_ble_eq_true rfl) dX10_slot_105 H (fun x105 m105 v105 hh105 H hp => ?_)
      refine cx_backI hp (fun hx105 => ?_)
      refine cx_callS (pc := 108) (P := pI) (dC := 0) (mcC := 0) (msC := 0) [iv x105] (fun r1 H1 => s_J6_bitCount_0f7a4 l sc E R hE n x105 hx105 m105 r1 H1) ca_X10_131 rfl rfl (Nat.le_of_ble_eq_true rfl) (Nat.le_of_ble_eq_true rfl) (Nat.le_of_ble_eq_true rfl) (Nat.le_of_ble_eq_true rfl) dX10_slot_108 H (fun x108 m108 v108 hh108 H hp => ?_)
      refine cx_backI hp (fun hx108 => ?_)
      exact cx_iret (pc := 111) hx108 rfl (Nat.le_of_ble_eq_true rfl) (Nat.le_of_ble_eq_true rfl) dX10_slot_111 H
    rcases sw_eq H with ⟨q24_4, H⟩ | ⟨q24_4, H⟩
    · -- 24 case 4
      refine cx_tabIn (pc := 24) 112 4 q24_4 dX10_slot_24 (by decide) (by decide) rfl rfl ?_
      refine aw_aload_n (pc := 112) dX10_slot_112 rfl ?_
      refine cx_aload_n (pc := 113) dX10_slot_113 rfl ?_
      refine aw_aload_n (pc := 114) dX10_slot_114 rfl ?_
      refine cx_gtC (pc := 115) 45 hE r1 fl_X10_84 rfl rfl (Nat.le_of_ble_eq_true rfl) dX10_slot_115 ?_
      refine cx_callV (pc := 118) (P := pG) (dC := 0) (mcC := 0) (msC := 0) [] hE r45 (fun r1 H1 => s_X6_zero l sc E R hE hR n m19 r1 H1) ca_X10_136 rfl ⟨_, rfl, rfl⟩ rfl rfl (Nat.le_of_ble_eq_true rfl) (Nat.le_of_ble_eq_true rfl) (Nat.le_of_ble_eq_true rfl) (Nat.le_of_ble_eq_true rfl) dX10_slot_118 H (fun x118 m118 v118 hh118 H hp => ?_)
      refine cx_backG hp ?_
      refine cx_callV (pc := 121) (P := pI) (dC := 3) (mcC := 0) (msC := 0) [rv x19.toNat, rv x118.toNat] hE r1 (fun r1 H1 => s_X10_sumOutcome l sc E R hE hR n x19.toNat x118.toNat m118 r1 H1) ca_X10_137 rfl ⟨_, rfl, rfl⟩ rfl rfl (Nat.le_of_ble_eq_true rfl) (Nat.le_of_ble_eq_true rfl) (Nat.le_of_ble_eq_true rfl) (Nat.le_of_ble_eq_true rfl) dX10_slot_121 H (fun x121 m121 v121 hh121 H hp => ?_)
      refine cx_backI hp (fun hx121 => ?_)
      exact cx_iret (pc := 124) hx121 rfl (Nat.le_of_ble_eq_true rfl) (Nat.le_of_ble_eq_true rfl) dX10_slot_124 H
    rcases sw_eq H with ⟨q24_5, H⟩ | ⟨q24_5, H⟩
    · -- 24 case 5
      refine cx_tabIn (pc := 24) 125 5 q24_5 dX10_slot_24 (by decide) (by decide) rfl rfl ?_
      refine cx_aload_n (pc := 125) dX10_slot_125 rfl ?_
      refine cx_nn0 H (fun hg126_7 H => ?_)
      refine cx_callG (pc := 126) (P := pI) (dC := 1) (mcC := 0) (msC := 0) [] hE hR.d (fun r1 H1 => s_X1_isSmall l sc E R hE hR.d n x19.toNat hg126_7 m19 r1 H1) ca_X10_141 ⟨_, rfl, rfl⟩ rfl rfl (Nat.le_of_ble_eq_true rfl) (Nat.le_of_ble_eq_true rfl) (Nat.le_of_ble_eq_true rfl) (Nat.le_of_ble_eq_true rfl) dX10_slot_126 H (fun x126 m126 v126 hh126 H hp => ?_)
      refine cx_backI hp (fun hx126 => ?_)
      refine jn_ind (fun (f9 : Int → Mem → Option Rz) => ∀ (s0_137 : Int) (m137 : Mem), inR s0_137 → f9 s0_137 m137 = some r → AW l D base sc RX10 yX10_slot cX10_slot 4 (some FieldType.int) 4 0 0 ad (E mi) (pI E r) 0 0 (E m137) 137 [] [iv s0_137]) (fun s0_137 m137 hs0_137 H => ?_) (fun j137 hj137 H => ?_) H
      · -- 137
        exact cx_iret (pc := 137) hs0_137 rfl (Nat.le_of_ble_eq_true rfl) (Nat.le_of_ble_eq_true rfl) dX10_slot_137 H
      refine cx_if_eq (pc := 129) 136 hx126 dX10_slot_129 rfl H (fun H => ?_) (fun H => ?_)
      · -- 129: 136
        refine cx_iconst (pc := 136) dX10_slot_136 ?_
        exact AW.sel [] rfl (hj137 _ _ (inR_lit _ rfl) H)
      · -- 129: 132
        refine cx_iconst (pc := 132) dX10_slot_132 ?_
        refine aw_goto (pc := 133) 137 dX10_slot_133 rfl ?_
        exact AW.sel [] rfl (hj137 _ _ (inR_lit _ rfl) H)
    rcases sw_eq H with ⟨q24_6, H⟩ | ⟨q24_6, H⟩
    · -- 24 case 6
      refine cx_tabIn (pc := 24) 138 6 q24_6 dX10_slot_24 (by decide) (by decide) rfl rfl ?_
      refine cx_aload_n (pc := 138) dX10_slot_138 rfl ?_
      refine cx_nn0 H (fun hg139_8 H => ?_)
      refine cx_gmG (pc := 139) hE hR.d hg139_8 fl_X10_145 rfl (Nat.le_of_ble_eq_true rfl) dX10_slot_139 H (fun x139 H => ?_)
      refine cx_nn0 H (fun hg142_9 H => ?_)
      refine cx_lenA (pc := 142) hE (hR.d _ hg142_9) dX10_slot_142 H (fun x142 hx142 H => ?_)
      exact cx_iret (pc := 143) hx142 rfl (Nat.le_of_ble_eq_true rfl) (Nat.le_of_ble_eq_true rfl) dX10_slot_143 H
    rcases sw_eq H with ⟨q24_7, H⟩ | ⟨q24_7, H⟩
    · -- 24 case 7
      refine cx_tabIn (pc := 24) 144 7 q24_7 dX10_slot_24 (by decide) (by decide) rfl rfl ?_
      refine cx_aload_n (pc := 144) dX10_slot_144 rfl ?_
      refine cx_nn0 H (fun hg145_10 H => ?_)
      refine cx_gmF (pc := 145) hE hR.d hg145_10 fl_X10_149 rfl (Nat.le_of_ble_eq_true rfl) dX10_slot_145 H (fun x145 hx145 H => ?_)
      exact cx_iret (pc := 148) hx145 rfl (Nat.le_of_ble_eq_true rfl) (Nat.le_of_ble_eq_true rfl) dX10_slot_148 H
    rcases sw_eq H with ⟨q24_8, H⟩ | ⟨q24_8, H⟩
    · -- 24 case 8
      refine cx_tabIn (pc := 24) 149 8 q24_8 dX10_slot_24 (by decide) (by decide) rfl rfl ?_
      refine cx_aload_n (pc := 149) dX10_slot_149 rfl ?_
      refine cx_nn0 H (fun hg150_11 H => ?_)
      refine cx_callG (pc := 150) (P := pI) (dC := 1) (mcC := 0) (msC := 0) [] hE hR.d (fun r1 H1 => s_X1_isInteger l sc E R hE hR.d n x19.toNat hg150_11 m19 r1 H1) ca_X10_152 ⟨_, rfl, rfl⟩ rfl rfl (Nat.le_of_ble_eq_true rfl) (Nat.le_of_ble_eq_true rfl) (Nat.le_of_ble_eq_true rfl) (Nat.le_of_ble_eq_true rfl) dX10_slot_150 H (fun x150 m150 v150 hh150 H hp => ?_)
      refine cx_backI hp (fun hx150 => ?_)
      refine jn_ind (fun (f9 : Int → Mem → Option Rz) => ∀ (s0_161 : Int) (m161 : Mem), inR s0_161 → f9 s0_161 m161 = some r → AW l D base sc RX10 yX10_slot cX10_slot 4 (some FieldType.int) 4 0 0 ad (E mi) (pI E r) 0 0 (E m161) 161 [] [iv s0_161]) (fun s0_161 m161 hs0_161 H => ?_) (fun j161 hj161 H => ?_) H
      · -- 161
        exact cx_iret (pc := 161) hs0_161 rfl (Nat.le_of_ble_eq_true rfl) (Nat.le_of_ble_eq_true rfl) dX10_slot_161 H
      refine cx_if_eq (pc := 153) 160 hx150 dX10_slot_153 rfl H (fun H => ?_) (fun H => ?_)
      · -- 153: 160
        refine cx_iconst (pc := 160) dX10_slot_160 ?_
        exact AW.sel [] rfl (hj161 _ _ (inR_lit _ rfl) H)
      · -- 153: 156
        refine cx_iconst (pc := 156) dX10_slot_156 ?_
        refine aw_goto (pc := 157) 161 dX10_slot_157 rfl ?_
        exact AW.sel [] rfl (hj161 _ _ (inR_lit _ rfl) H)
    refine cx_tabOut (pc := 24) 162 hp2 dX10_slot_24 (by omega) rfl ?_
    refine aw_aload_n (pc := 162) dX10_slot_162 rfl ?_
    refine cx_ldc (pc := 163) (-1100000001) dX10_slot_163 ct_X10_107 (by decide) ?_
    refine cx_callV (pc := 165) (P := pI) (dC := 1) (mcC := 0) (msC := 0) [iv (-1100000001)] hE r1 (fun r1 H1 => s_X10_fail l sc E R hE hR n (-1100000001) (inR_lit _ rfl) m19 r1 H1) ca_X10_108 rfl ⟨_, rfl, rfl⟩ rfl rfl (Nat.le_of_ble_eq_true rfl) (Nat.le_of_ble_eq_true rfl) (Nat.le_of_ble_eq_true rfl) (Nat.le_of_ble_eq_true rfl) dX10_slot_165 H (fun x165 m165 v165 hh165 H hp => ?_)
    refine cx_backI hp (fun hx165 => ?_)
    exact cx_iret (pc := 168) hx165 rfl (Nat.le_of_ble_eq_true rfl) (Nat.le_of_ble_eq_true rfl) dX10_slot_168 H
/-- X10 word (II)I -/
def f_X10_word (n : Nat) (p1 : Int) (p2 : Int) (mi : Mem) : Option Rz :=
  cal (f_X10_isSlot n p1 mi) fun x1 m1 =>
  if x1 = 0 then (
    cal (f_X10_fail n (-1100000001) m1) fun x10 m10 =>
    rt x10 m10
  ) else
  cal (f_X6_held n p1 m1) fun x19 m19 =>
  isD x19.toNat <|
  gmG m19 x19.toNat 2 fun x22 =>
  jn (fun (s0_48 : Int) (m48 : Mem) =>
    rt s0_48 m48
  ) fun (j48 : Int → Mem → Option Rz) =>
  jn (fun (m42 : Mem) =>
    cal (f_X10_fail n (-1100000002) m42) fun x45 m45 =>
    j48 x45 m45
  ) fun (j42 : Mem → Option Rz) =>
  if p2 < 0 then (
    j42 m19
  ) else
  isD x22 <|
  lenA m19 x22 fun x32 =>
  if p2 < x32 then (
    isD x22 <|
    ldB m19 x22 p2 fun x38 =>
    j48 x38 m19
  ) else
  j42 m19
set_option maxRecDepth 100000 in
set_option maxHeartbeats 4000000 in
theorem s_X10_word (l : Launch) (sc : g_S) (E : Mem → g_H) (R : Nat → Prop) (hE : LE E R) (hR : RCL R) (n : Nat)  (p1 : Int) (p2 : Int) (hp1 : inR p1) (hp2 : inR p2) (mi : Mem) (r : Rz) (H : f_X10_word n p1 p2 mi = some r) : AMet l sc yX10_word cX10_word 4 (some FieldType.int) 2 0 0 [.ref 1, iv p1, iv p2] (E mi) (pI E r) := by
  have r1 : R 1 := hR.1 1 (Nat.le_of_ble_eq_true rfl) (Nat.le_of_ble_eq_true rfl)
  have r45 : R 45 := hR.1 45 (Nat.le_of_ble_eq_true rfl) (Nat.le_of_ble_eq_true rfl)
  unfold f_X10_word at H
  refine AMet.of (own := RX10) (by decide +kernel) rfl (Nat.le_of_ble_eq_true rfl) [(0, .ref 1), (1, iv p1), (2, iv p2)] rfl (fun D base ad => ?_)
  refine aw_iload_n (pc := 0) dX10_word_0 rfl ?_
  refine cx_callS (pc := 1) (P := pI) (dC := 1) (mcC := 0) (msC := 0) [iv p1] (fun r1 H1 => s_X10_isSlot l sc E R hE hR n p1 hp1 mi r1 H1) ca_X10_103 rfl rfl (Nat.le_of_ble_eq_true rfl) (Nat.le_of_ble_eq_true rfl) (Nat.le_of_ble_eq_true rfl) (Nat.le_of_ble_eq_true rfl) dX10_word_1 H (fun x1 m1 v1 hh1 H hp => ?_)
  refine cx_backI hp (fun hx1 => ?_)
  refine cx_if_ne (pc := 4) 14 hx1 dX10_word_4 rfl H (fun H => ?_) (fun H => ?_)
  · -- 4: 7
    refine aw_aload_n (pc := 7) dX10_word_7 rfl ?_
    refine cx_ldc (pc := 8) (-1100000001) dX10_word_8 ct_X10_107 (by decide) ?_
    refine cx_callV (pc := 10) (P := pI) (dC := 1) (mcC := 0) (msC := 0) [iv (-1100000001)] hE r1 (fun r1 H1 => s_X10_fail l sc E R hE hR n (-1100000001) (inR_lit _ rfl) m1 r1 H1) ca_X10_108 rfl ⟨_, rfl, rfl⟩ rfl rfl (Nat.le_of_ble_eq_true rfl) (Nat.le_of_ble_eq_true rfl) (Nat.le_of_ble_eq_true rfl) (Nat.le_of_ble_eq_true rfl) dX10_word_10 H (fun x10 m10 v10 hh10 H hp => ?_)
    refine cx_backI hp (fun hx10 => ?_)
    exact cx_iret (pc := 13) hx10 rfl (Nat.le_of_ble_eq_true rfl) (Nat.le_of_ble_eq_true rfl) dX10_word_13 H
  · -- 4: 14
    refine aw_aload_n (pc := 14) dX10_word_14 rfl ?_
    refine cx_gtC (pc := 15) 45 hE r1 fl_X10_84 rfl rfl (Nat.le_of_ble_eq_true rfl) dX10_word_15 ?_
    refine aw_iload_n (pc := 18) dX10_word_18 rfl ?_
    refine cx_callV (pc := 19) (P := pG) (dC := 0) (mcC := 0) (msC := 0) [iv p1] hE r45 (fun r1 H1 => s_X6_held l sc E R hE hR n p1 hp1 m1 r1 H1) ca_X10_112 rfl ⟨_, rfl, rfl⟩ rfl rfl (Nat.le_of_ble_eq_true rfl) (Nat.le_of_ble_eq_true rfl) (Nat.le_of_ble_eq_true rfl) (Nat.le_of_ble_eq_true rfl) dX10_word_19 H (fun x19 m19 v19 hh19 H hp => ?_)
    refine cx_backG hp ?_
    refine cx_nn0 H (fun hg22_1 H => ?_)
    refine cx_gmG (pc := 22) hE hR.d hg22_1 fl_X10_145 rfl (Nat.le_of_ble_eq_true rfl) dX10_word_22 H (fun x22 H => ?_)
    refine cx_astore_n (pc := 25) [(3, rv x22), (0, .ref 1), (1, iv p1), (2, iv p2)] dX10_word_25 rfl (by decide) ?_
    refine aw_iload_n (pc := 26) dX10_word_26 rfl ?_
    refine jn_ind (fun (f9 : Int → Mem → Option Rz) => ∀ (s0_48 : Int) (m48 : Mem), inR s0_48 → f9 s0_48 m48 = some r → AW l D base sc RX10 yX10_word cX10_word 4 (some FieldType.int) 2 0 0 ad (E mi) (pI E r) 0 0 (E m48) 48 [] [iv s0_48]) (fun s0_48 m48 hs0_48 H => ?_) (fun j48 hj48 H => ?_) H
    · -- 48
      exact cx_iret (pc := 48) hs0_48 rfl (Nat.le_of_ble_eq_true rfl) (Nat.le_of_ble_eq_true rfl) dX10_word_48 H
    refine jn_ind (fun (f9 : Mem → Option Rz) => ∀ (m42 : Mem), f9 m42 = some r → AW l D base sc RX10 yX10_word cX10_word 4 (some FieldType.int) 2 0 0 ad (E mi) (pI E r) 0 0 (E m42) 42 [(0, .ref 1)] []) (fun m42 H => ?_) (fun j42 hj42 H => ?_) H
    · -- 42
      refine aw_aload_n (pc := 42) dX10_word_42 rfl ?_
      refine cx_ldc (pc := 43) (-1100000002) dX10_word_43 ct_X10_158 (by decide) ?_
      refine cx_callV (pc := 45) (P := pI) (dC := 1) (mcC := 0) (msC := 0) [iv (-1100000002)] hE r1 (fun r1 H1 => s_X10_fail l sc E R hE hR n (-1100000002) (inR_lit _ rfl) m42 r1 H1) ca_X10_108 rfl ⟨_, rfl, rfl⟩ rfl rfl (Nat.le_of_ble_eq_true rfl) (Nat.le_of_ble_eq_true rfl) (Nat.le_of_ble_eq_true rfl) (Nat.le_of_ble_eq_true rfl) dX10_word_45 H (fun x45 m45 v45 hh45 H hp => ?_)
      refine cx_backI hp (fun hx45 => ?_)
      exact AW.sel [] rfl (hj48 _ _ hx45 H)
    refine cx_if_lt (pc := 27) 42 hp2 dX10_word_27 rfl H (fun H => ?_) (fun H => ?_)
    · -- 27: 42
      exact AW.sel [1] rfl (hj42 _ H)
    · -- 27: 30
      refine aw_iload_n (pc := 30) dX10_word_30 rfl ?_
      refine cx_aload_n (pc := 31) dX10_word_31 rfl ?_
      refine cx_nn0 H (fun hg32_2 H => ?_)
      refine cx_lenA (pc := 32) hE (hR.d _ hg32_2) dX10_word_32 H (fun x32 hx32 H => ?_)
      refine cx_icmp_ge (pc := 33) 42 hp2 hx32 dX10_word_33 rfl H (fun H => ?_) (fun H => ?_)
      · -- 33: 36
        refine cx_aload_n (pc := 36) dX10_word_36 rfl ?_
        refine aw_iload_n (pc := 37) dX10_word_37 rfl ?_
        refine cx_nn1 H (fun hg38_3 H => ?_)
        refine cx_ldB (pc := 38) hE (hR.d _ hg38_3) hp2 dX10_word_38 H (fun x38 hx38 H => ?_)
        refine aw_goto (pc := 39) 48 dX10_word_39 rfl ?_
        exact AW.sel [] rfl (hj48 _ _ hx38 H)
      · -- 33: 42
        exact AW.sel [1] rfl (hj42 _ H)
/-- X10 settle (ILUppityGames$Game;)I -/
def f_X10_settle (n : Nat) (p1 : Int) (p2 : Nat) (mi : Mem) : Option Rz :=
  if p2 = 0 then (
    cal (f_X10_fail n (-1100000004) mi) fun x8 m8 =>
    rt x8 m8
  ) else
  cal (f_X6_hold n p1 p2 mi) fun _ m18 =>
  isD p2 <|
  isG m18 p2 <| cal (f_X1_width n p2 m18) fun x22 m22 =>
  rt x22 m22
set_option maxRecDepth 100000 in
set_option maxHeartbeats 4000000 in
theorem s_X10_settle (l : Launch) (sc : g_S) (E : Mem → g_H) (R : Nat → Prop) (hE : LE E R) (hR : RCL R) (n : Nat)  (p1 : Int) (p2 : Nat) (hp1 : inR p1) (mi : Mem) (r : Rz) (H : f_X10_settle n p1 p2 mi = some r) : AMet l sc yX10_settle cX10_settle 3 (some FieldType.int) 2 0 0 [.ref 1, iv p1, rv p2] (E mi) (pI E r) := by
  have r1 : R 1 := hR.1 1 (Nat.le_of_ble_eq_true rfl) (Nat.le_of_ble_eq_true rfl)
  have r45 : R 45 := hR.1 45 (Nat.le_of_ble_eq_true rfl) (Nat.le_of_ble_eq_true rfl)
  unfold f_X10_settle at H
  refine AMet.of (own := RX10) (by decide +kernel) rfl (by rcases rv_or p2 with ep2 | ⟨_, ep2⟩ <;> simp only [ep2] <;> exact Nat.le_of_ble_eq_true rfl) [(0, .ref 1), (1, iv p1), (2, rv p2)] (by rcases rv_or p2 with ep2 | ⟨_, ep2⟩ <;> simp only [ep2] <;> rfl) (fun D base ad => ?_)
  refine cx_aload_n (pc := 0) dX10_settle_0 rfl ?_
  refine cx_ifnonnull (pc := 1) 12 dX10_settle_1 rfl H (fun H => ?_) (fun H => ?_)
  · -- 1: 4
    refine aw_aload_n (pc := 4) dX10_settle_4 rfl ?_
    refine cx_ldcw (pc := 5) (-1100000004) dX10_settle_5 ct_X10_279 (by decide) ?_
    refine cx_callV (pc := 8) (P := pI) (dC := 1) (mcC := 0) (msC := 0) [iv (-1100000004)] hE r1 (fun r1 H1 => s_X10_fail l sc E R hE hR n (-1100000004) (inR_lit _ rfl) mi r1 H1) ca_X10_108 rfl ⟨_, rfl, rfl⟩ rfl rfl (Nat.le_of_ble_eq_true rfl) (Nat.le_of_ble_eq_true rfl) (Nat.le_of_ble_eq_true rfl) (Nat.le_of_ble_eq_true rfl) dX10_settle_8 H (fun x8 m8 v8 hh8 H hp => ?_)
    refine cx_backI hp (fun hx8 => ?_)
    exact cx_iret (pc := 11) hx8 rfl (Nat.le_of_ble_eq_true rfl) (Nat.le_of_ble_eq_true rfl) dX10_settle_11 H
  · -- 1: 12
    refine aw_aload_n (pc := 12) dX10_settle_12 rfl ?_
    refine cx_gtC (pc := 13) 45 hE r1 fl_X10_84 rfl rfl (Nat.le_of_ble_eq_true rfl) dX10_settle_13 ?_
    refine aw_iload_n (pc := 16) dX10_settle_16 rfl ?_
    refine cx_aload_n (pc := 17) dX10_settle_17 rfl ?_
    refine cx_callV (pc := 18) (P := pV) (dC := 0) (mcC := 0) (msC := 0) [iv p1, rv p2] hE r45 (fun r1 H1 => s_X6_hold l sc E R hE hR n p1 p2 hp1 mi r1 H1) ca_X10_336 rfl ⟨_, rfl, rfl⟩ rfl rfl (Nat.le_of_ble_eq_true rfl) (Nat.le_of_ble_eq_true rfl) (Nat.le_of_ble_eq_true rfl) (Nat.le_of_ble_eq_true rfl) dX10_settle_18 H (fun x18 m18 v18 hh18 H hp => ?_)
    refine cx_backV hp ?_
    refine cx_aload_n (pc := 21) dX10_settle_21 rfl ?_
    refine cx_nn0 H (fun hg22_1 H => ?_)
    refine cx_callG (pc := 22) (P := pI) (dC := 0) (mcC := 0) (msC := 0) [] hE hR.d (fun r1 H1 => s_X1_width l sc E R hE hR.d n p2 hg22_1 m18 r1 H1) ca_X10_116 ⟨_, rfl, rfl⟩ rfl rfl (Nat.le_of_ble_eq_true rfl) (Nat.le_of_ble_eq_true rfl) (Nat.le_of_ble_eq_true rfl) (Nat.le_of_ble_eq_true rfl) dX10_settle_22 H (fun x22 m22 v22 hh22 H hp => ?_)
    refine cx_backI hp (fun hx22 => ?_)
    exact cx_iret (pc := 25) hx22 rfl (Nat.le_of_ble_eq_true rfl) (Nat.le_of_ble_eq_true rfl) dX10_settle_25 H
/-- X10 whole (II)I -/
def f_X10_whole (n : Nat) (p1 : Int) (p2 : Int) (mi : Mem) : Option Rz :=
  cal (f_X10_isSlot n p1 mi) fun x1 m1 =>
  jn (fun (m18 : Mem) =>
    cal (f_X10_fail n (-1100000001) m18) fun x21 m21 =>
    rt x21 m21
  ) fun (j18 : Mem → Option Rz) =>
  if x1 = 0 then (
    j18 m1
  ) else
  cal (f_X10_isWithin n p2 (-9) 9 m1) fun x12 m12 =>
  if x12 = 0 then (
    j18 m12
  ) else
  cal (f_X2_integerOf n p2 m12) fun x32 m32 =>
  cal (f_X10_settle n p1 x32.toNat m32) fun x35 m35 =>
  rt x35 m35
set_option maxRecDepth 100000 in
set_option maxHeartbeats 4000000 in
theorem s_X10_whole (l : Launch) (sc : g_S) (E : Mem → g_H) (R : Nat → Prop) (hE : LE E R) (hR : RCL R) (hsc : sc.1 = 0) (n : Nat)  (p1 : Int) (p2 : Int) (hp1 : inR p1) (hp2 : inR p2) (mi : Mem) (r : Rz) (H : f_X10_whole n p1 p2 mi = some r) : AMet l sc yX10_whole cX10_whole 3 (some FieldType.int) 6 4 125 [.ref 1, iv p1, iv p2] (E mi) (pI E r) := by
  have r1 : R 1 := hR.1 1 (Nat.le_of_ble_eq_true rfl) (Nat.le_of_ble_eq_true rfl)
  have r28 : R 28 := hR.1 28 (Nat.le_of_ble_eq_true rfl) (Nat.le_of_ble_eq_true rfl)
  unfold f_X10_whole at H
  refine AMet.of (own := RX10) (by decide +kernel) rfl (Nat.le_of_ble_eq_true rfl) [(0, .ref 1), (1, iv p1), (2, iv p2)] rfl (fun D base ad => ?_)
  refine aw_iload_n (pc := 0) dX10_whole_0 rfl ?_
  refine cx_callS (pc := 1) (P := pI) (dC := 1) (mcC := 0) (msC := 0) [iv p1] (fun r1 H1 => s_X10_isSlot l sc E R hE hR n p1 hp1 mi r1 H1) ca_X10_103 rfl rfl (Nat.le_of_ble_eq_true rfl) (Nat.le_of_ble_eq_true rfl) (Nat.le_of_ble_eq_true rfl) (Nat.le_of_ble_eq_true rfl) dX10_whole_1 H (fun x1 m1 v1 hh1 H hp => ?_)
  refine cx_backI hp (fun hx1 => ?_)
  refine jn_ind (fun (f9 : Mem → Option Rz) => ∀ (m18 : Mem), f9 m18 = some r → AW l D base sc RX10 yX10_whole cX10_whole 3 (some FieldType.int) 6 4 125 ad (E mi) (pI E r) 0 0 (E m18) 18 [(0, .ref 1)] []) (fun m18 H => ?_) (fun j18 hj18 H => ?_) H
  · -- 18
    refine aw_aload_n (pc := 18) dX10_whole_18 rfl ?_
    refine cx_ldc (pc := 19) (-1100000001) dX10_whole_19 ct_X10_107 (by decide) ?_
    refine cx_callV (pc := 21) (P := pI) (dC := 1) (mcC := 0) (msC := 0) [iv (-1100000001)] hE r1 (fun r1 H1 => s_X10_fail l sc E R hE hR n (-1100000001) (inR_lit _ rfl) m18 r1 H1) ca_X10_108 rfl ⟨_, rfl, rfl⟩ rfl rfl (Nat.le_of_ble_eq_true rfl) (Nat.le_of_ble_eq_true rfl) (Nat.le_of_ble_eq_true rfl) (Nat.le_of_ble_eq_true rfl) dX10_whole_21 H (fun x21 m21 v21 hh21 H hp => ?_)
    refine cx_backI hp (fun hx21 => ?_)
    exact cx_iret (pc := 24) hx21 rfl (Nat.le_of_ble_eq_true rfl) (Nat.le_of_ble_eq_true rfl) dX10_whole_24 H
  refine cx_if_eq (pc := 4) 18 hx1 dX10_whole_4 rfl H (fun H => ?_) (fun H => ?_)
  · -- 4: 18
    exact AW.sel [0] rfl (hj18 _ H)
  · -- 4: 7
    refine aw_iload_n (pc := 7) dX10_whole_7 rfl ?_
    refine cx_bipush (pc := 8) dX10_whole_8 (by decide) ?_
    refine cx_bipush (pc := 10) dX10_whole_10 (by decide) ?_
    refine cx_callS (pc := 12) (P := pI) (dC := 0) (mcC := 0) (msC := 0) [iv p2, iv (-9), iv 9] (fun r1 H1 => s_X10_isWithin l sc E R hE hR n p2 (-9) 9 hp2 (inR_lit _ rfl) (inR_lit _ rfl) m1 r1 H1) ca_X10_159 rfl rfl (Nat.le_of_ble_eq_true rfl) (Nat.le_of_ble_eq_true rfl) (Nat.le_of_ble_eq_true rfl) (Nat.le_of_ble_eq_true rfl) dX10_whole_12 H (fun x12 m12 v12 hh12 H hp => ?_)
    refine cx_backI hp (fun hx12 => ?_)
    refine cx_if_ne (pc := 15) 25 hx12 dX10_whole_15 rfl H (fun H => ?_) (fun H => ?_)
    · -- 15: 18
      exact AW.sel [0] rfl (hj18 _ H)
    · -- 15: 25
      refine aw_aload_n (pc := 25) dX10_whole_25 rfl ?_
      refine aw_iload_n (pc := 26) dX10_whole_26 rfl ?_
      refine aw_aload_n (pc := 27) dX10_whole_27 rfl ?_
      refine cx_gtC (pc := 28) 28 hE r1 fl_X10_30 rfl rfl (Nat.le_of_ble_eq_true rfl) dX10_whole_28 ?_
      refine aw_iload_n (pc := 31) dX10_whole_31 rfl ?_
      refine cx_callV (pc := 32) (P := pG) (dC := 5) (mcC := 4) (msC := 125) [iv p2] hE r28 (fun r1 H1 => s_X2_integerOf l sc E R hE hR.mk hsc n p2 hp2 m12 r1 H1) ca_X10_163 rfl ⟨_, rfl, rfl⟩ rfl rfl (Nat.le_of_ble_eq_true rfl) (Nat.le_of_ble_eq_true rfl) (Nat.le_of_ble_eq_true rfl) (Nat.le_of_ble_eq_true rfl) dX10_whole_32 H (fun x32 m32 v32 hh32 H hp => ?_)
      refine cx_backG hp ?_
      refine cx_callV (pc := 35) (P := pI) (dC := 2) (mcC := 0) (msC := 0) [iv p1, rv x32.toNat] hE r1 (fun r1 H1 => s_X10_settle l sc E R hE hR n p1 x32.toNat hp1 m32 r1 H1) ca_X10_166 rfl ⟨_, rfl, rfl⟩ rfl rfl (Nat.le_of_ble_eq_true rfl) (Nat.le_of_ble_eq_true rfl) (Nat.le_of_ble_eq_true rfl) (Nat.le_of_ble_eq_true rfl) dX10_whole_35 H (fun x35 m35 v35 hh35 H hp => ?_)
      refine cx_backI hp (fun hx35 => ?_)
      exact cx_iret (pc := 38) hx35 rfl (Nat.le_of_ble_eq_true rfl) (Nat.le_of_ble_eq_true rfl) dX10_whole_38 H
/-- X10 heap (II)I -/
def f_X10_heap (n : Nat) (p1 : Int) (p2 : Int) (mi : Mem) : Option Rz :=
  cal (f_X10_isSlot n p1 mi) fun x1 m1 =>
  jn (fun (m17 : Mem) =>
    cal (f_X10_fail n (-1100000001) m17) fun x20 m20 =>
    rt x20 m20
  ) fun (j17 : Mem → Option Rz) =>
  if x1 = 0 then (
    j17 m1
  ) else
  cal (f_X10_isWithin n p2 0 9 m1) fun x11 m11 =>
  if x11 = 0 then (
    j17 m11
  ) else
  cal (f_X2_heapOf n p2 m11) fun x31 m31 =>
  cal (f_X10_settle n p1 x31.toNat m31) fun x34 m34 =>
  rt x34 m34
set_option maxRecDepth 100000 in
set_option maxHeartbeats 4000000 in
theorem s_X10_heap (l : Launch) (sc : g_S) (E : Mem → g_H) (R : Nat → Prop) (hE : LE E R) (hR : RCL R) (hsc : sc.1 = 0) (n : Nat)  (p1 : Int) (p2 : Int) (hp1 : inR p1) (hp2 : inR p2) (mi : Mem) (r : Rz) (H : f_X10_heap n p1 p2 mi = some r) : AMet l sc yX10_heap cX10_heap 3 (some FieldType.int) 6 4 125 [.ref 1, iv p1, iv p2] (E mi) (pI E r) := by
  have r1 : R 1 := hR.1 1 (Nat.le_of_ble_eq_true rfl) (Nat.le_of_ble_eq_true rfl)
  have r28 : R 28 := hR.1 28 (Nat.le_of_ble_eq_true rfl) (Nat.le_of_ble_eq_true rfl)
  unfold f_X10_heap at H
  refine AMet.of (own := RX10) (by decide +kernel) rfl (Nat.le_of_ble_eq_true rfl) [(0, .ref 1), (1, iv p1), (2, iv p2)] rfl (fun D base ad => ?_)
  refine aw_iload_n (pc := 0) dX10_heap_0 rfl ?_
  refine cx_callS (pc := 1) (P := pI) (dC := 1) (mcC := 0) (msC := 0) [iv p1] (fun r1 H1 => s_X10_isSlot l sc E R hE hR n p1 hp1 mi r1 H1) ca_X10_103 rfl rfl (Nat.le_of_ble_eq_true rfl) (Nat.le_of_ble_eq_true rfl) (Nat.le_of_ble_eq_true rfl) (Nat.le_of_ble_eq_true rfl) dX10_heap_1 H (fun x1 m1 v1 hh1 H hp => ?_)
  refine cx_backI hp (fun hx1 => ?_)
  refine jn_ind (fun (f9 : Mem → Option Rz) => ∀ (m17 : Mem), f9 m17 = some r → AW l D base sc RX10 yX10_heap cX10_heap 3 (some FieldType.int) 6 4 125 ad (E mi) (pI E r) 0 0 (E m17) 17 [(0, .ref 1)] []) (fun m17 H => ?_) (fun j17 hj17 H => ?_) H
  · -- 17
    refine aw_aload_n (pc := 17) dX10_heap_17 rfl ?_
    refine cx_ldc (pc := 18) (-1100000001) dX10_heap_18 ct_X10_107 (by decide) ?_
    refine cx_callV (pc := 20) (P := pI) (dC := 1) (mcC := 0) (msC := 0) [iv (-1100000001)] hE r1 (fun r1 H1 => s_X10_fail l sc E R hE hR n (-1100000001) (inR_lit _ rfl) m17 r1 H1) ca_X10_108 rfl ⟨_, rfl, rfl⟩ rfl rfl (Nat.le_of_ble_eq_true rfl) (Nat.le_of_ble_eq_true rfl) (Nat.le_of_ble_eq_true rfl) (Nat.le_of_ble_eq_true rfl) dX10_heap_20 H (fun x20 m20 v20 hh20 H hp => ?_)
    refine cx_backI hp (fun hx20 => ?_)
    exact cx_iret (pc := 23) hx20 rfl (Nat.le_of_ble_eq_true rfl) (Nat.le_of_ble_eq_true rfl) dX10_heap_23 H
  refine cx_if_eq (pc := 4) 17 hx1 dX10_heap_4 rfl H (fun H => ?_) (fun H => ?_)
  · -- 4: 17
    exact AW.sel [0] rfl (hj17 _ H)
  · -- 4: 7
    refine aw_iload_n (pc := 7) dX10_heap_7 rfl ?_
    refine cx_iconst (pc := 8) dX10_heap_8 ?_
    refine cx_bipush (pc := 9) dX10_heap_9 (by decide) ?_
    refine cx_callS (pc := 11) (P := pI) (dC := 0) (mcC := 0) (msC := 0) [iv p2, iv 0, iv 9] (fun r1 H1 => s_X10_isWithin l sc E R hE hR n p2 0 9 hp2 (inR_lit _ rfl) (inR_lit _ rfl) m1 r1 H1) ca_X10_159 rfl rfl (Nat.le_of_ble_eq_true rfl) (Nat.le_of_ble_eq_true rfl) (Nat.le_of_ble_eq_true rfl) (Nat.le_of_ble_eq_true rfl) dX10_heap_11 H (fun x11 m11 v11 hh11 H hp => ?_)
    refine cx_backI hp (fun hx11 => ?_)
    refine cx_if_ne (pc := 14) 24 hx11 dX10_heap_14 rfl H (fun H => ?_) (fun H => ?_)
    · -- 14: 17
      exact AW.sel [0] rfl (hj17 _ H)
    · -- 14: 24
      refine aw_aload_n (pc := 24) dX10_heap_24 rfl ?_
      refine aw_iload_n (pc := 25) dX10_heap_25 rfl ?_
      refine aw_aload_n (pc := 26) dX10_heap_26 rfl ?_
      refine cx_gtC (pc := 27) 28 hE r1 fl_X10_30 rfl rfl (Nat.le_of_ble_eq_true rfl) dX10_heap_27 ?_
      refine aw_iload_n (pc := 30) dX10_heap_30 rfl ?_
      refine cx_callV (pc := 31) (P := pG) (dC := 5) (mcC := 4) (msC := 125) [iv p2] hE r28 (fun r1 H1 => s_X2_heapOf l sc E R hE hR.mk hsc n p2 hp2 m11 r1 H1) ca_X10_170 rfl ⟨_, rfl, rfl⟩ rfl rfl (Nat.le_of_ble_eq_true rfl) (Nat.le_of_ble_eq_true rfl) (Nat.le_of_ble_eq_true rfl) (Nat.le_of_ble_eq_true rfl) dX10_heap_31 H (fun x31 m31 v31 hh31 H hp => ?_)
      refine cx_backG hp ?_
      refine cx_callV (pc := 34) (P := pI) (dC := 2) (mcC := 0) (msC := 0) [iv p1, rv x31.toNat] hE r1 (fun r1 H1 => s_X10_settle l sc E R hE hR n p1 x31.toNat hp1 m31 r1 H1) ca_X10_166 rfl ⟨_, rfl, rfl⟩ rfl rfl (Nat.le_of_ble_eq_true rfl) (Nat.le_of_ble_eq_true rfl) (Nat.le_of_ble_eq_true rfl) (Nat.le_of_ble_eq_true rfl) dX10_heap_34 H (fun x34 m34 v34 hh34 H hp => ?_)
      refine cx_backI hp (fun hx34 => ?_)
      exact cx_iret (pc := 37) hx34 rfl (Nat.le_of_ble_eq_true rfl) (Nat.le_of_ble_eq_true rfl) dX10_heap_37 H
/-- X10 ups (III)I -/
def f_X10_ups (n : Nat) (p1 : Int) (p2 : Int) (p3 : Int) (mi : Mem) : Option Rz :=
  cal (f_X10_isSlot n p1 mi) fun x1 m1 =>
  jn (fun (m26 : Mem) =>
    cal (f_X10_fail n (-1100000001) m26) fun x29 m29 =>
    rt x29 m29
  ) fun (j26 : Mem → Option Rz) =>
  if x1 = 0 then (
    j26 m1
  ) else
  cal (f_X10_isWithin n p2 (-4) 4 m1) fun x11 m11 =>
  if x11 = 0 then (
    j26 m11
  ) else
  cal (f_X10_isWithin n p3 0 5 m11) fun x20 m20 =>
  if x20 = 0 then (
    j26 m20
  ) else
  cal (f_X2_upsAndHeap n p2 p3 m20) fun x41 m41 =>
  cal (f_X10_settle n p1 x41.toNat m41) fun x44 m44 =>
  rt x44 m44
set_option maxRecDepth 100000 in
set_option maxHeartbeats 4000000 in
theorem s_X10_ups (l : Launch) (sc : g_S) (E : Mem → g_H) (R : Nat → Prop) (hE : LE E R) (hR : RCL R) (hsc : sc.1 = 0) (n : Nat)  (p1 : Int) (p2 : Int) (p3 : Int) (hp1 : inR p1) (hp2 : inR p2) (hp3 : inR p3) (mi : Mem) (r : Rz) (H : f_X10_ups n p1 p2 p3 mi = some r) : AMet l sc yX10_ups cX10_ups 4 (some FieldType.int) 7 64 2000 [.ref 1, iv p1, iv p2, iv p3] (E mi) (pI E r) := by
  have r1 : R 1 := hR.1 1 (Nat.le_of_ble_eq_true rfl) (Nat.le_of_ble_eq_true rfl)
  have r28 : R 28 := hR.1 28 (Nat.le_of_ble_eq_true rfl) (Nat.le_of_ble_eq_true rfl)
  unfold f_X10_ups at H
  refine AMet.of (own := RX10) (by decide +kernel) rfl (Nat.le_of_ble_eq_true rfl) [(0, .ref 1), (1, iv p1), (2, iv p2), (3, iv p3)] rfl (fun D base ad => ?_)
  refine aw_iload_n (pc := 0) dX10_ups_0 rfl ?_
  refine cx_callS (pc := 1) (P := pI) (dC := 1) (mcC := 0) (msC := 0) [iv p1] (fun r1 H1 => s_X10_isSlot l sc E R hE hR n p1 hp1 mi r1 H1) ca_X10_103 rfl rfl (Nat.le_of_ble_eq_true rfl) (Nat.le_of_ble_eq_true rfl) (Nat.le_of_ble_eq_true rfl) (Nat.le_of_ble_eq_true rfl) dX10_ups_1 H (fun x1 m1 v1 hh1 H hp => ?_)
  refine cx_backI hp (fun hx1 => ?_)
  refine jn_ind (fun (f9 : Mem → Option Rz) => ∀ (m26 : Mem), f9 m26 = some r → AW l D base sc RX10 yX10_ups cX10_ups 4 (some FieldType.int) 7 64 2000 ad (E mi) (pI E r) 0 0 (E m26) 26 [(0, .ref 1)] []) (fun m26 H => ?_) (fun j26 hj26 H => ?_) H
  · -- 26
    refine aw_aload_n (pc := 26) dX10_ups_26 rfl ?_
    refine cx_ldc (pc := 27) (-1100000001) dX10_ups_27 ct_X10_107 (by decide) ?_
    refine cx_callV (pc := 29) (P := pI) (dC := 1) (mcC := 0) (msC := 0) [iv (-1100000001)] hE r1 (fun r1 H1 => s_X10_fail l sc E R hE hR n (-1100000001) (inR_lit _ rfl) m26 r1 H1) ca_X10_108 rfl ⟨_, rfl, rfl⟩ rfl rfl (Nat.le_of_ble_eq_true rfl) (Nat.le_of_ble_eq_true rfl) (Nat.le_of_ble_eq_true rfl) (Nat.le_of_ble_eq_true rfl) dX10_ups_29 H (fun x29 m29 v29 hh29 H hp => ?_)
    refine cx_backI hp (fun hx29 => ?_)
    exact cx_iret (pc := 32) hx29 rfl (Nat.le_of_ble_eq_true rfl) (Nat.le_of_ble_eq_true rfl) dX10_ups_32 H
  refine cx_if_eq (pc := 4) 26 hx1 dX10_ups_4 rfl H (fun H => ?_) (fun H => ?_)
  · -- 4: 26
    exact AW.sel [0] rfl (hj26 _ H)
  · -- 4: 7
    refine aw_iload_n (pc := 7) dX10_ups_7 rfl ?_
    refine cx_bipush (pc := 8) dX10_ups_8 (by decide) ?_
    refine cx_iconst (pc := 10) dX10_ups_10 ?_
    refine cx_callS (pc := 11) (P := pI) (dC := 0) (mcC := 0) (msC := 0) [iv p2, iv (-4), iv 4] (fun r1 H1 => s_X10_isWithin l sc E R hE hR n p2 (-4) 4 hp2 (inR_lit _ rfl) (inR_lit _ rfl) m1 r1 H1) ca_X10_159 rfl rfl (Nat.le_of_ble_eq_true rfl) (Nat.le_of_ble_eq_true rfl) (Nat.le_of_ble_eq_true rfl) (Nat.le_of_ble_eq_true rfl) dX10_ups_11 H (fun x11 m11 v11 hh11 H hp => ?_)
    refine cx_backI hp (fun hx11 => ?_)
    refine cx_if_eq (pc := 14) 26 hx11 dX10_ups_14 rfl H (fun H => ?_) (fun H => ?_)
    · -- 14: 26
      exact AW.sel [0] rfl (hj26 _ H)
    · -- 14: 17
      refine aw_iload_n (pc := 17) dX10_ups_17 rfl ?_
      refine cx_iconst (pc := 18) dX10_ups_18 ?_
      refine cx_iconst (pc := 19) dX10_ups_19 ?_
      refine cx_callS (pc := 20) (P := pI) (dC := 0) (mcC := 0) (msC := 0) [iv p3, iv 0, iv 5] (fun r1 H1 => s_X10_isWithin l sc E R hE hR n p3 0 5 hp3 (inR_lit _ rfl) (inR_lit _ rfl) m11 r1 H1) ca_X10_159 rfl rfl (Nat.le_of_ble_eq_true rfl) (Nat.le_of_ble_eq_true rfl) (Nat.le_of_ble_eq_true rfl) (Nat.le_of_ble_eq_true rfl) dX10_ups_20 H (fun x20 m20 v20 hh20 H hp => ?_)
      refine cx_backI hp (fun hx20 => ?_)
      refine cx_if_ne (pc := 23) 33 hx20 dX10_ups_23 rfl H (fun H => ?_) (fun H => ?_)
      · -- 23: 26
        exact AW.sel [0] rfl (hj26 _ H)
      · -- 23: 33
        refine aw_aload_n (pc := 33) dX10_ups_33 rfl ?_
        refine aw_iload_n (pc := 34) dX10_ups_34 rfl ?_
        refine aw_aload_n (pc := 35) dX10_ups_35 rfl ?_
        refine cx_gtC (pc := 36) 28 hE r1 fl_X10_30 rfl rfl (Nat.le_of_ble_eq_true rfl) dX10_ups_36 ?_
        refine aw_iload_n (pc := 39) dX10_ups_39 rfl ?_
        refine aw_iload_n (pc := 40) dX10_ups_40 rfl ?_
        refine cx_callV (pc := 41) (P := pG) (dC := 6) (mcC := 64) (msC := 2000) [iv p2, iv p3] hE r28 (fun r1 H1 => s_X2_upsAndHeap l sc E R hE hR.mk hsc n p2 p3 hp2 hp3 m20 r1 H1) ca_X10_173 rfl ⟨_, rfl, rfl⟩ rfl rfl (Nat.le_of_ble_eq_true rfl) (Nat.le_of_ble_eq_true rfl) (Nat.le_of_ble_eq_true rfl) (Nat.le_of_ble_eq_true rfl) dX10_ups_41 H (fun x41 m41 v41 hh41 H hp => ?_)
        refine cx_backG hp ?_
        refine cx_callV (pc := 44) (P := pI) (dC := 2) (mcC := 0) (msC := 0) [iv p1, rv x41.toNat] hE r1 (fun r1 H1 => s_X10_settle l sc E R hE hR n p1 x41.toNat hp1 m41 r1 H1) ca_X10_166 rfl ⟨_, rfl, rfl⟩ rfl rfl (Nat.le_of_ble_eq_true rfl) (Nat.le_of_ble_eq_true rfl) (Nat.le_of_ble_eq_true rfl) (Nat.le_of_ble_eq_true rfl) dX10_ups_44 H (fun x44 m44 v44 hh44 H hp => ?_)
        refine cx_backI hp (fun hx44 => ?_)
        exact cx_iret (pc := 47) hx44 rfl (Nat.le_of_ble_eq_true rfl) (Nat.le_of_ble_eq_true rfl) dX10_ups_47 H
/-- X10 flower (IIII)I -/
def f_X10_flower (n : Nat) (p1 : Int) (p2 : Int) (p3 : Int) (p4 : Int) (mi : Mem) : Option Rz :=
  cal (f_X10_isSlot n p1 mi) fun x1 m1 =>
  jn (fun (m35 : Mem) =>
    cal (f_X10_fail n (-1100000001) m35) fun x38 m38 =>
    rt x38 m38
  ) fun (j35 : Mem → Option Rz) =>
  if x1 = 0 then (
    j35 m1
  ) else
  cal (f_X10_isWithin n p2 1 4 m1) fun x10 m10 =>
  if x10 = 0 then (
    j35 m10
  ) else
  cal (f_X10_isWithin n p3 0 3 m10) fun x19 m19 =>
  if x19 = 0 then (
    j35 m19
  ) else
  cal (f_X10_isWithin n p4 0 3 m19) fun x29 m29 =>
  if x29 = 0 then (
    j35 m29
  ) else
  cal (f_X2_flowerOf n p2 p3 p4 m29) fun x52 m52 =>
  cal (f_X10_settle n p1 x52.toNat m52) fun x55 m55 =>
  rt x55 m55
set_option maxRecDepth 100000 in
set_option maxHeartbeats 4000000 in
theorem s_X10_flower (l : Launch) (sc : g_S) (E : Mem → g_H) (R : Nat → Prop) (hE : LE E R) (hR : RCL R) (hsc : sc.1 = 0) (n : Nat)  (p1 : Int) (p2 : Int) (p3 : Int) (p4 : Int) (hp1 : inR p1) (hp2 : inR p2) (hp3 : inR p3) (hp4 : inR p4) (mi : Mem) (r : Rz) (H : f_X10_flower n p1 p2 p3 p4 mi = some r) : AMet l sc yX10_flower cX10_flower 5 (some FieldType.int) 6 4 125 [.ref 1, iv p1, iv p2, iv p3, iv p4] (E mi) (pI E r) := by
  have r1 : R 1 := hR.1 1 (Nat.le_of_ble_eq_true rfl) (Nat.le_of_ble_eq_true rfl)
  have r28 : R 28 := hR.1 28 (Nat.le_of_ble_eq_true rfl) (Nat.le_of_ble_eq_true rfl)
  unfold f_X10_flower at H
  refine AMet.of (own := RX10) (by decide +kernel) rfl (Nat.le_of_ble_eq_true rfl) [(0, .ref 1), (1, iv p1), (2, iv p2), (3, iv p3), (4, iv p4)] rfl (fun D base ad => ?_)
  refine aw_iload_n (pc := 0) dX10_flower_0 rfl ?_
  refine cx_callS (pc := 1) (P := pI) (dC := 1) (mcC := 0) (msC := 0) [iv p1] (fun r1 H1 => s_X10_isSlot l sc E R hE hR n p1 hp1 mi r1 H1) ca_X10_103 rfl rfl (Nat.le_of_ble_eq_true rfl) (Nat.le_of_ble_eq_true rfl) (Nat.le_of_ble_eq_true rfl) (Nat.le_of_ble_eq_true rfl) dX10_flower_1 H (fun x1 m1 v1 hh1 H hp => ?_)
  refine cx_backI hp (fun hx1 => ?_)
  refine jn_ind (fun (f9 : Mem → Option Rz) => ∀ (m35 : Mem), f9 m35 = some r → AW l D base sc RX10 yX10_flower cX10_flower 5 (some FieldType.int) 6 4 125 ad (E mi) (pI E r) 0 0 (E m35) 35 [(0, .ref 1)] []) (fun m35 H => ?_) (fun j35 hj35 H => ?_) H
  · -- 35
    refine aw_aload_n (pc := 35) dX10_flower_35 rfl ?_
    refine cx_ldc (pc := 36) (-1100000001) dX10_flower_36 ct_X10_107 (by decide) ?_
    refine cx_callV (pc := 38) (P := pI) (dC := 1) (mcC := 0) (msC := 0) [iv (-1100000001)] hE r1 (fun r1 H1 => s_X10_fail l sc E R hE hR n (-1100000001) (inR_lit _ rfl) m35 r1 H1) ca_X10_108 rfl ⟨_, rfl, rfl⟩ rfl rfl (Nat.le_of_ble_eq_true rfl) (Nat.le_of_ble_eq_true rfl) (Nat.le_of_ble_eq_true rfl) (Nat.le_of_ble_eq_true rfl) dX10_flower_38 H (fun x38 m38 v38 hh38 H hp => ?_)
    refine cx_backI hp (fun hx38 => ?_)
    exact cx_iret (pc := 41) hx38 rfl (Nat.le_of_ble_eq_true rfl) (Nat.le_of_ble_eq_true rfl) dX10_flower_41 H
  refine cx_if_eq (pc := 4) 35 hx1 dX10_flower_4 rfl H (fun H => ?_) (fun H => ?_)
  · -- 4: 35
    exact AW.sel [0] rfl (hj35 _ H)
  · -- 4: 7
    refine aw_iload_n (pc := 7) dX10_flower_7 rfl ?_
    refine cx_iconst (pc := 8) dX10_flower_8 ?_
    refine cx_iconst (pc := 9) dX10_flower_9 ?_
    refine cx_callS (pc := 10) (P := pI) (dC := 0) (mcC := 0) (msC := 0) [iv p2, iv 1, iv 4] (fun r1 H1 => s_X10_isWithin l sc E R hE hR n p2 1 4 hp2 (inR_lit _ rfl) (inR_lit _ rfl) m1 r1 H1) ca_X10_159 rfl rfl (Nat.le_of_ble_eq_true rfl) (Nat.le_of_ble_eq_true rfl) (Nat.le_of_ble_eq_true rfl) (Nat.le_of_ble_eq_true rfl) dX10_flower_10 H (fun x10 m10 v10 hh10 H hp => ?_)
    refine cx_backI hp (fun hx10 => ?_)
    refine cx_if_eq (pc := 13) 35 hx10 dX10_flower_13 rfl H (fun H => ?_) (fun H => ?_)
    · -- 13: 35
      exact AW.sel [0] rfl (hj35 _ H)
    · -- 13: 16
      refine aw_iload_n (pc := 16) dX10_flower_16 rfl ?_
      refine cx_iconst (pc := 17) dX10_flower_17 ?_
      refine cx_iconst (pc := 18) dX10_flower_18 ?_
      refine cx_callS (pc := 19) (P := pI) (dC := 0) (mcC := 0) (msC := 0) [iv p3, iv 0, iv 3] (fun r1 H1 => s_X10_isWithin l sc E R hE hR n p3 0 3 hp3 (inR_lit _ rfl) (inR_lit _ rfl) m10 r1 H1) ca_X10_159 rfl rfl (Nat.le_of_ble_eq_true rfl) (Nat.le_of_ble_eq_true rfl) (Nat.le_of_ble_eq_true rfl) (Nat.le_of_ble_eq_true rfl) dX10_flower_19 H (fun x19 m19 v19 hh19 H hp => ?_)
      refine cx_backI hp (fun hx19 => ?_)
      refine cx_if_eq (pc := 22) 35 hx19 dX10_flower_22 rfl H (fun H => ?_) (fun H => ?_)
      · -- 22: 35
        exact AW.sel [0] rfl (hj35 _ H)
      · -- 22: 25
        refine aw_iload (pc := 25) dX10_flower_25 rfl ?_
        refine cx_iconst (pc := 27) dX10_flower_27 ?_
        refine cx_iconst (pc := 28) dX10_flower_28 ?_
        refine cx_callS (pc := 29) (P := pI) (dC := 0) (mcC := 0) (msC := 0) [iv p4, iv 0, iv 3] (fun r1 H1 => s_X10_isWithin l sc E R hE hR n p4 0 3 hp4 (inR_lit _ rfl) (inR_lit _ rfl) m19 r1 H1) ca_X10_159 rfl rfl (Nat.le_of_ble_eq_true rfl) (Nat.le_of_ble_eq_true rfl) (Nat.le_of_ble_eq_true rfl) (Nat.le_of_ble_eq_true rfl) dX10_flower_29 H (fun x29 m29 v29 hh29 H hp => ?_)
        refine cx_backI hp (fun hx29 => ?_)
        refine cx_if_ne (pc := 32) 42 hx29 dX10_flower_32 rfl H (fun H => ?_) (fun H => ?_)
        · -- 32: 35
          exact AW.sel [0] rfl (hj35 _ H)
        · -- 32: 42
          refine aw_aload_n (pc := 42) dX10_flower_42 rfl ?_
          refine aw_iload_n (pc := 43) dX10_flower_43 rfl ?_
          refine aw_aload_n (pc := 44) dX10_flower_44 rfl ?_
          refine cx_gtC (pc := 45) 28 hE r1 fl_X10_30 rfl rfl (Nat.le_of_ble_eq_true rfl) dX10_flower_45 ?_
          refine aw_iload_n (pc := 48) dX10_flower_48 rfl ?_
          refine aw_iload_n (pc := 49) dX10_flower_49 rfl ?_
          refine aw_iload (pc := 50) dX10_flower_50 rfl ?_
          refine cx_callV (pc := 52) (P := pG) (dC := 5) (mcC := 4) (msC := 125) [iv p2, iv p3, iv p4] hE r28 (fun r1 H1 => s_X2_flowerOf l sc E R hE hR.mk hsc n p2 p3 p4 hp2 hp3 hp4 m29 r1 H1) ca_X10_177 rfl ⟨_, rfl, rfl⟩ rfl rfl (Nat.le_of_ble_eq_true rfl) (Nat.le_of_ble_eq_true rfl) (Nat.le_of_ble_eq_true rfl) (Nat.le_of_ble_eq_true rfl) dX10_flower_52 H (fun x52 m52 v52 hh52 H hp => ?_)
          refine cx_backG hp ?_
          refine cx_callV (pc := 55) (P := pI) (dC := 2) (mcC := 0) (msC := 0) [iv p1, rv x52.toNat] hE r1 (fun r1 H1 => s_X10_settle l sc E R hE hR n p1 x52.toNat hp1 m52 r1 H1) ca_X10_166 rfl ⟨_, rfl, rfl⟩ rfl rfl (Nat.le_of_ble_eq_true rfl) (Nat.le_of_ble_eq_true rfl) (Nat.le_of_ble_eq_true rfl) (Nat.le_of_ble_eq_true rfl) dX10_flower_55 H (fun x55 m55 v55 hh55 H hp => ?_)
          refine cx_backI hp (fun hx55 => ?_)
          exact cx_iret (pc := 58) hx55 rfl (Nat.le_of_ble_eq_true rfl) (Nat.le_of_ble_eq_true rfl) dX10_flower_58 H
/-- X10 isSet (I)Z -/
def f_X10_isSet (n : Nat) (p0 : Int) (mi : Mem) : Option Rz :=
  cal (f_X10_isWithin n p0 0 255 mi) fun x5 m5 =>
  rtZ x5 m5
set_option maxRecDepth 100000 in
set_option maxHeartbeats 4000000 in
theorem s_X10_isSet (l : Launch) (sc : g_S) (E : Mem → g_H) (R : Nat → Prop) (hE : LE E R) (hR : RCL R) (n : Nat)  (p0 : Int) (hp0 : inR p0) (mi : Mem) (r : Rz) (H : f_X10_isSet n p0 mi = some r) : AMet l sc yX10_isSet cX10_isSet 1 (some FieldType.boolean) 1 0 0 [iv p0] (E mi) (pI E r) := by
  unfold f_X10_isSet at H
  refine AMet.of (own := RX10) (by decide +kernel) rfl (Nat.le_of_ble_eq_true rfl) [(0, iv p0)] rfl (fun D base ad => ?_)
  refine aw_iload_n (pc := 0) dX10_isSet_0 rfl ?_
  refine cx_iconst (pc := 1) dX10_isSet_1 ?_
  refine cx_sipush (pc := 2) dX10_isSet_2 (by decide) ?_
  refine cx_callS (pc := 5) (P := pI) (dC := 0) (mcC := 0) (msC := 0) [iv p0, iv 0, iv 255] (fun r1 H1 => s_X10_isWithin l sc E R hE hR n p0 0 255 hp0 (inR_lit _ rfl) (inR_lit _ rfl) mi r1 H1) ca_X10_159 rfl rfl (Nat.le_of_ble_eq_true rfl) (Nat.le_of_ble_eq_true rfl) (Nat.le_of_ble_eq_true rfl) (Nat.le_of_ble_eq_true rfl) dX10_isSet_5 H (fun x5 m5 v5 hh5 H hp => ?_)
  refine cx_backI hp (fun hx5 => ?_)
  exact cx_zret (pc := 8) rfl (Nat.le_of_ble_eq_true rfl) (Nat.le_of_ble_eq_true rfl) dX10_isSet_8 H
/-- X10 isIn (II)Z -/
def f_X10_isIn (n : Nat) (p0 : Int) (p1 : Int) (mi : Mem) : Option Rz :=
  jn (fun (s0_13 : Int) (m13 : Mem) =>
    rtZ s0_13 m13
  ) fun (j13 : Int → Mem → Option Rz) =>
  if iand (ishr p0 p1) 1 = 0 then (
    j13 0 mi
  ) else
  j13 1 mi
set_option maxRecDepth 100000 in
set_option maxHeartbeats 4000000 in
theorem s_X10_isIn (l : Launch) (sc : g_S) (E : Mem → g_H) (R : Nat → Prop) (hE : LE E R) (hR : RCL R) (n : Nat)  (p0 : Int) (p1 : Int) (hp0 : inR p0) (hp1 : inR p1) (mi : Mem) (r : Rz) (H : f_X10_isIn n p0 p1 mi = some r) : AMet l sc yX10_isIn cX10_isIn 2 (some FieldType.boolean) 0 0 0 [iv p0, iv p1] (E mi) (pI E r) := by
  unfold f_X10_isIn at H
  refine AMet.of (own := RX10) (by decide +kernel) rfl (Nat.le_of_ble_eq_true rfl) [(0, iv p0), (1, iv p1)] rfl (fun D base ad => ?_)
  refine aw_iload_n (pc := 0) dX10_isIn_0 rfl ?_
  refine aw_iload_n (pc := 1) dX10_isIn_1 rfl ?_
  refine cx_ishr (pc := 2) dX10_isIn_2 ?_
  refine cx_iconst (pc := 3) dX10_isIn_3 ?_
  refine cx_iand (pc := 4) dX10_isIn_4 ?_
  refine jn_ind (fun (f9 : Int → Mem → Option Rz) => ∀ (s0_13 : Int) (m13 : Mem), inR s0_13 → f9 s0_13 m13 = some r → AW l D base sc RX10 yX10_isIn cX10_isIn 2 (some FieldType.boolean) 0 0 0 ad (E mi) (pI E r) 0 0 (E m13) 13 [] [iv s0_13]) (fun s0_13 m13 hs0_13 H => ?_) (fun j13 hj13 H => ?_) H
  · -- 13
    exact cx_zret (pc := 13) rfl (Nat.le_of_ble_eq_true rfl) (Nat.le_of_ble_eq_true rfl) dX10_isIn_13 H
  refine cx_if_eq (pc := 5) 12 (inR_32 _) dX10_isIn_5 rfl H (fun H => ?_) (fun H => ?_)
  · -- 5: 12
    refine cx_iconst (pc := 12) dX10_isIn_12 ?_
    exact AW.sel [] rfl (hj13 _ _ (inR_lit _ rfl) H)
  · -- 5: 8
    refine cx_iconst (pc := 8) dX10_isIn_8 ?_
    refine aw_goto (pc := 9) 13 dX10_isIn_9 rfl ?_
    exact AW.sel [] rfl (hj13 _ _ (inR_lit _ rfl) H)
/-- X10 pick (II)I -/
def f_X10_pick (n : Nat) (p1 : Int) (p2 : Int) (mi : Mem) : Option Rz :=
  lp (F := Int → Int → Mem → Option Rz) (fun _ _ _ => none) (fun w5 v3_5 v4_5 m5 =>
    if v4_5 < 8 then (
      cal (f_X10_isIn n p1 v4_5 m5) fun x15 m15 =>
      jn (fun (v3_52 : Int) (m52 : Mem) =>
        w5 v3_52 (w32 (v4_5 + 1)) m52
      ) fun (j52 : Int → Mem → Option Rz) =>
      if x15 = 0 then (
        j52 v3_5 m15
      ) else
      if v3_5 < 0 then (
        j52 v3_5 m15
      ) else
      if v3_5 < 16 then (
        cal (f_X6_held n v4_5 m15) fun x45 m45 =>
        stG m45 2 v3_5 x45.toNat fun m48 =>
        j52 (w32 (v3_5 + 1)) m48
      ) else
      j52 v3_5 m15
    ) else
    rt v3_5 m5
  ) n p2 0 mi
set_option maxRecDepth 100000 in
set_option maxHeartbeats 4000000 in
theorem s_X10_pick (l : Launch) (sc : g_S) (E : Mem → g_H) (R : Nat → Prop) (hE : LE E R) (hR : RCL R) (n : Nat)  (p1 : Int) (p2 : Int) (hp1 : inR p1) (hp2 : inR p2) (mi : Mem) (r : Rz) (H : f_X10_pick n p1 p2 mi = some r) : AMet l sc yX10_pick cX10_pick 5 (some FieldType.int) 1 0 0 [.ref 1, iv p1, iv p2] (E mi) (pI E r) := by
  have r1 : R 1 := hR.1 1 (Nat.le_of_ble_eq_true rfl) (Nat.le_of_ble_eq_true rfl)
  have r2 : R 2 := hR.1 2 (Nat.le_of_ble_eq_true rfl) (Nat.le_of_ble_eq_true rfl)
  have r45 : R 45 := hR.1 45 (Nat.le_of_ble_eq_true rfl) (Nat.le_of_ble_eq_true rfl)
  unfold f_X10_pick at H
  refine AMet.of (own := RX10) (by decide +kernel) rfl (Nat.le_of_ble_eq_true rfl) [(0, .ref 1), (1, iv p1), (2, iv p2)] rfl (fun D base ad => ?_)
  refine aw_iload_n (pc := 0) dX10_pick_0 rfl ?_
  refine aw_istore_n (pc := 1) [(3, iv p2), (0, .ref 1), (1, iv p1), (2, iv p2)] dX10_pick_1 rfl (by decide) ?_
  refine cx_iconst (pc := 2) dX10_pick_2 ?_
  refine aw_istore (pc := 3) [(4, iv 0), (3, iv p2), (0, .ref 1), (1, iv p1), (2, iv p2)] dX10_pick_3 rfl (by decide) ?_
  refine AW.sel [2, 3, 1, 0] rfl (lp_ind (bot := fun _ _ _ => none) (fun (f9 : Int → Int → Mem → Option Rz) => ∀ (v3_5 : Int) (v4_5 : Int) (m5 : Mem), inR v3_5 → inR v4_5 → f9 v3_5 v4_5 m5 = some r → AW l D base sc RX10 yX10_pick cX10_pick 5 (some FieldType.int) 1 0 0 ad (E mi) (pI E r) 0 0 (E m5) 5 [(0, .ref 1), (1, iv p1), (3, iv v3_5), (4, iv v4_5)] []) (fun _ _ _ _ _ h9 => nomatch h9) (fun w5 ih5 v3_5 v4_5 m5 hv3_5 hv4_5 H => ?_) n _ _ _ hp2 (inR_lit _ rfl) H)
  refine aw_iload (pc := 5) dX10_pick_5 rfl ?_
  refine cx_bipush (pc := 7) dX10_pick_7 (by decide) ?_
  refine cx_icmp_ge (pc := 9) 58 hv4_5 (inR_lit _ rfl) dX10_pick_9 rfl H (fun H => ?_) (fun H => ?_)
  · -- 9: 12
    refine aw_iload_n (pc := 12) dX10_pick_12 rfl ?_
    refine aw_iload (pc := 13) dX10_pick_13 rfl ?_
    refine cx_callS (pc := 15) (P := pI) (dC := 0) (mcC := 0) (msC := 0) [iv p1, iv v4_5] (fun r1 H1 => s_X10_isIn l sc E R hE hR n p1 v4_5 hp1 hv4_5 m5 r1 H1) ca_X10_234 rfl rfl (Nat.le_of_ble_eq_true rfl) (Nat.le_of_ble_eq_true rfl) (Nat.le_of_ble_eq_true rfl) (Nat.le_of_ble_eq_true rfl) dX10_pick_15 H (fun x15 m15 v15 hh15 H hp => ?_)
    refine cx_backI hp (fun hx15 => ?_)
    refine jn_ind (fun (f9 : Int → Mem → Option Rz) => ∀ (v3_52 : Int) (m52 : Mem), inR v3_52 → f9 v3_52 m52 = some r → AW l D base sc RX10 yX10_pick cX10_pick 5 (some FieldType.int) 1 0 0 ad (E mi) (pI E r) 0 0 (E m52) 52 [(0, .ref 1), (1, iv p1), (3, iv v3_52), (4, iv v4_5)] []) (fun v3_52 m52 hv3_52 H => ?_) (fun j52 hj52 H => ?_) H
    · -- 52
      refine cx_iinc (pc := 52) [(4, iv (w32 (v4_5 + 1))), (0, .ref 1), (1, iv p1), (3, iv v3_52)] dX10_pick_52 rfl rfl (by decide) ?_
      refine aw_goto (pc := 55) 5 dX10_pick_55 rfl ?_
      exact AW.sel [1, 2, 3, 0] rfl (ih5 _ _ _ hv3_52 (inR_w32 _) H)
    refine cx_if_eq (pc := 18) 52 hx15 dX10_pick_18 rfl H (fun H => ?_) (fun H => ?_)
    · -- 18: 52
      exact AW.sel [0, 1, 2, 3] rfl (hj52 _ _ hv3_5 H)
    · -- 18: 21
      refine aw_iload_n (pc := 21) dX10_pick_21 rfl ?_
      refine cx_if_lt (pc := 22) 52 hv3_5 dX10_pick_22 rfl H (fun H => ?_) (fun H => ?_)
      · -- 22: 52
        exact AW.sel [0, 1, 2, 3] rfl (hj52 _ _ hv3_5 H)
      · -- 22: 25
        refine aw_iload_n (pc := 25) dX10_pick_25 rfl ?_
        refine aw_aload_n (pc := 26) dX10_pick_26 rfl ?_
        refine cx_gtC (pc := 27) 2 hE r1 fl_X10_95 rfl rfl (Nat.le_of_ble_eq_true rfl) dX10_pick_27 ?_
        refine cx_lenC (pc := 30) (c := 16) hE r2 (fun _ => ⟨_, _, rfl, rfl⟩) dX10_pick_30 ?_
        refine cx_icmp_ge (pc := 31) 52 hv3_5 (inR_lit _ rfl) dX10_pick_31 rfl H (fun H => ?_) (fun H => ?_)
        · -- 31: 34
          refine aw_aload_n (pc := 34) dX10_pick_34 rfl ?_
          refine cx_gtC (pc := 35) 2 hE r1 fl_X10_95 rfl rfl (Nat.le_of_ble_eq_true rfl) dX10_pick_35 ?_
          refine aw_iload_n (pc := 38) dX10_pick_38 rfl ?_
          refine aw_aload_n (pc := 39) dX10_pick_39 rfl ?_
          refine cx_gtC (pc := 40) 45 hE r1 fl_X10_84 rfl rfl (Nat.le_of_ble_eq_true rfl) dX10_pick_40 ?_
          refine aw_iload (pc := 43) dX10_pick_43 rfl ?_
          refine cx_callV (pc := 45) (P := pG) (dC := 0) (mcC := 0) (msC := 0) [iv v4_5] hE r45 (fun r1 H1 => s_X6_held l sc E R hE hR n v4_5 hv4_5 m15 r1 H1) ca_X10_112 rfl ⟨_, rfl, rfl⟩ rfl rfl (Nat.le_of_ble_eq_true rfl) (Nat.le_of_ble_eq_true rfl) (Nat.le_of_ble_eq_true rfl) (Nat.le_of_ble_eq_true rfl) dX10_pick_45 H (fun x45 m45 v45 hh45 H hp => ?_)
          refine cx_backG hp ?_
          refine cx_stG (pc := 48) hE r2 hR.d hv3_5 dX10_pick_48 H (fun m48 H => ?_)
          refine cx_iinc (pc := 49) [(3, iv (w32 (v3_5 + 1))), (0, .ref 1), (1, iv p1), (4, iv v4_5)] dX10_pick_49 rfl rfl (by decide) ?_
          exact AW.sel [1, 2, 0, 3] rfl (hj52 _ _ (inR_w32 _) H)
        · -- 31: 52
          exact AW.sel [0, 1, 2, 3] rfl (hj52 _ _ hv3_5 H)
  · -- 9: 58
    refine aw_iload_n (pc := 58) dX10_pick_58 rfl ?_
    exact cx_iret (pc := 59) hv3_5 rfl (Nat.le_of_ble_eq_true rfl) (Nat.le_of_ble_eq_true rfl) dX10_pick_59 H
/-- X10 made (III)I -/
def f_X10_made (n : Nat) (p1 : Int) (p2 : Int) (p3 : Int) (mi : Mem) : Option Rz :=
  cal (f_X10_isSlot n p1 mi) fun x1 m1 =>
  jn (fun (m21 : Mem) =>
    cal (f_X10_fail n (-1100000001) m21) fun x24 m24 =>
    rt x24 m24
  ) fun (j21 : Mem → Option Rz) =>
  if x1 = 0 then (
    j21 m1
  ) else
  cal (f_X10_isSet n p2 m1) fun x8 m8 =>
  if x8 = 0 then (
    j21 m8
  ) else
  cal (f_X10_isSet n p3 m8) fun x15 m15 =>
  if x15 = 0 then (
    j21 m15
  ) else
  cal (f_X10_pick n p2 0 m15) fun x31 m31 =>
  cal (f_X10_pick n p3 x31 m31) fun x40 m40 =>
  cal (f_X2_gameOf n 2 0 x31 x40 m40) fun x60 m60 =>
  cal (f_X10_settle n p1 x60.toNat m60) fun x63 m63 =>
  rt x63 m63
set_option maxRecDepth 100000 in
set_option maxHeartbeats 4000000 in
theorem s_X10_made (l : Launch) (sc : g_S) (E : Mem → g_H) (R : Nat → Prop) (hE : LE E R) (hR : RCL R) (hsc : sc.1 = 0) (n : Nat)  (p1 : Int) (p2 : Int) (p3 : Int) (hp1 : inR p1) (hp2 : inR p2) (hp3 : inR p3) (mi : Mem) (r : Rz) (H : f_X10_made n p1 p2 p3 mi = some r) : AMet l sc yX10_made cX10_made 6 (some FieldType.int) 6 4 125 [.ref 1, iv p1, iv p2, iv p3] (E mi) (pI E r) := by
  have r1 : R 1 := hR.1 1 (Nat.le_of_ble_eq_true rfl) (Nat.le_of_ble_eq_true rfl)
  have r2 : R 2 := hR.1 2 (Nat.le_of_ble_eq_true rfl) (Nat.le_of_ble_eq_true rfl)
  have r28 : R 28 := hR.1 28 (Nat.le_of_ble_eq_true rfl) (Nat.le_of_ble_eq_true rfl)
  unfold f_X10_made at H
  refine AMet.of (own := RX10) (by decide +kernel) rfl (Nat.le_of_ble_eq_true rfl) [(0, .ref 1), (1, iv p1), (2, iv p2), (3, iv p3)] rfl (fun D base ad => ?_)
  refine aw_iload_n (pc := 0) dX10_made_0 rfl ?_
  refine cx_callS (pc := 1) (P := pI) (dC := 1) (mcC := 0) (msC := 0) [iv p1] (fun r1 H1 => s_X10_isSlot l sc E R hE hR n p1 hp1 mi r1 H1) ca_X10_103 rfl rfl (Nat.le_of_ble_eq_true rfl) (Nat.le_of_ble_eq_true rfl) (Nat.le_of_ble_eq_true rfl) (Nat.le_of_ble_eq_true rfl) dX10_made_1 H (fun x1 m1 v1 hh1 H hp => ?_)
  refine cx_backI hp (fun hx1 => ?_)
  refine jn_ind (fun (f9 : Mem → Option Rz) => ∀ (m21 : Mem), f9 m21 = some r → AW l D base sc RX10 yX10_made cX10_made 6 (some FieldType.int) 6 4 125 ad (E mi) (pI E r) 0 0 (E m21) 21 [(0, .ref 1)] []) (fun m21 H => ?_) (fun j21 hj21 H => ?_) H
  · -- 21
    refine aw_aload_n (pc := 21) dX10_made_21 rfl ?_
    refine cx_ldc (pc := 22) (-1100000001) dX10_made_22 ct_X10_107 (by decide) ?_
    refine cx_callV (pc := 24) (P := pI) (dC := 1) (mcC := 0) (msC := 0) [iv (-1100000001)] hE r1 (fun r1 H1 => s_X10_fail l sc E R hE hR n (-1100000001) (inR_lit _ rfl) m21 r1 H1) ca_X10_108 rfl ⟨_, rfl, rfl⟩ rfl rfl (Nat.le_of_ble_eq_true rfl) (Nat.le_of_ble_eq_true rfl) (Nat.le_of_ble_eq_true rfl) (Nat.le_of_ble_eq_true rfl) dX10_made_24 H (fun x24 m24 v24 hh24 H hp => ?_)
    refine cx_backI hp (fun hx24 => ?_)
    exact cx_iret (pc := 27) hx24 rfl (Nat.le_of_ble_eq_true rfl) (Nat.le_of_ble_eq_true rfl) dX10_made_27 H
  refine cx_if_eq (pc := 4) 21 hx1 dX10_made_4 rfl H (fun H => ?_) (fun H => ?_)
  · -- 4: 21
    exact AW.sel [0] rfl (hj21 _ H)
  · -- 4: 7
    refine aw_iload_n (pc := 7) dX10_made_7 rfl ?_
    refine cx_callS (pc := 8) (P := pI) (dC := 1) (mcC := 0) (msC := 0) [iv p2] (fun r1 H1 => s_X10_isSet l sc E R hE hR n p2 hp2 m1 r1 H1) ca_X10_181 rfl rfl (Nat.le_of_ble_eq_true rfl) (Nat.le_of_ble_eq_true rfl) (Nat.le_of_ble_eq_true rfl) (Nat.le_of_ble_eq_true rfl) dX10_made_8 H (fun x8 m8 v8 hh8 H hp => ?_)
    refine cx_backI hp (fun hx8 => ?_)
    refine cx_if_eq (pc := 11) 21 hx8 dX10_made_11 rfl H (fun H => ?_) (fun H => ?_)
    · -- 11: 21
      exact AW.sel [0] rfl (hj21 _ H)
    · -- 11: 14
      refine aw_iload_n (pc := 14) dX10_made_14 rfl ?_
      refine cx_callS (pc := 15) (P := pI) (dC := 1) (mcC := 0) (msC := 0) [iv p3] (fun r1 H1 => s_X10_isSet l sc E R hE hR n p3 hp3 m8 r1 H1) ca_X10_181 rfl rfl (Nat.le_of_ble_eq_true rfl) (Nat.le_of_ble_eq_true rfl) (Nat.le_of_ble_eq_true rfl) (Nat.le_of_ble_eq_true rfl) dX10_made_15 H (fun x15 m15 v15 hh15 H hp => ?_)
      refine cx_backI hp (fun hx15 => ?_)
      refine cx_if_ne (pc := 18) 28 hx15 dX10_made_18 rfl H (fun H => ?_) (fun H => ?_)
      · -- 18: 21
        exact AW.sel [0] rfl (hj21 _ H)
      · -- 18: 28
        refine aw_aload_n (pc := 28) dX10_made_28 rfl ?_
        refine aw_iload_n (pc := 29) dX10_made_29 rfl ?_
        refine cx_iconst (pc := 30) dX10_made_30 ?_
        refine cx_callV (pc := 31) (P := pI) (dC := 1) (mcC := 0) (msC := 0) [iv p2, iv 0] hE r1 (fun r1 H1 => s_X10_pick l sc E R hE hR n p2 0 hp2 (inR_lit _ rfl) m15 r1 H1) ca_X10_184 rfl ⟨_, rfl, rfl⟩ rfl rfl (Nat.le_of_ble_eq_true rfl) (Nat.le_of_ble_eq_true rfl) (Nat.le_of_ble_eq_true rfl) (Nat.le_of_ble_eq_true rfl) dX10_made_31 H (fun x31 m31 v31 hh31 H hp => ?_)
        refine cx_backI hp (fun hx31 => ?_)
        refine aw_istore (pc := 34) [(4, iv x31), (0, .ref 1), (1, iv p1), (2, iv p2), (3, iv p3)] dX10_made_34 rfl (by decide) ?_
        refine aw_aload_n (pc := 36) dX10_made_36 rfl ?_
        refine aw_iload_n (pc := 37) dX10_made_37 rfl ?_
        refine aw_iload (pc := 38) dX10_made_38 rfl ?_
        refine cx_callV (pc := 40) (P := pI) (dC := 1) (mcC := 0) (msC := 0) [iv p3, iv x31] hE r1 (fun r1 H1 => s_X10_pick l sc E R hE hR n p3 x31 hp3 hx31 m31 r1 H1) ca_X10_184 rfl ⟨_, rfl, rfl⟩ rfl rfl (Nat.le_of_ble_eq_true rfl) (Nat.le_of_ble_eq_true rfl) (Nat.le_of_ble_eq_true rfl) (Nat.le_of_ble_eq_true rfl) dX10_made_40 H (fun x40 m40 v40 hh40 H hp => ?_)
        refine cx_backI hp (fun hx40 => ?_)
        refine aw_istore (pc := 43) [(5, iv x40), (4, iv x31), (0, .ref 1), (1, iv p1), (2, iv p2), (3, iv p3)] dX10_made_43 rfl (by decide) ?_
        refine aw_aload_n (pc := 45) dX10_made_45 rfl ?_
        refine aw_iload_n (pc := 46) dX10_made_46 rfl ?_
        refine aw_aload_n (pc := 47) dX10_made_47 rfl ?_
        refine cx_gtC (pc := 48) 28 hE r1 fl_X10_30 rfl rfl (Nat.le_of_ble_eq_true rfl) dX10_made_48 ?_
        refine aw_aload_n (pc := 51) dX10_made_51 rfl ?_
        refine cx_gtC (pc := 52) 2 hE r1 fl_X10_95 rfl rfl (Nat.le_of_ble_eq_true rfl) dX10_made_52 ?_
        refine cx_iconst (pc := 55) dX10_made_55 ?_
        refine aw_iload (pc := 56) dX10_made_56 rfl ?_
        refine aw_iload (pc := 58) dX10_made_58 rfl ?_
        refine cx_callV (pc := 60) (P := pG) (dC := 5) (mcC := 4) (msC := 125) [.ref 2, iv 0, iv x31, iv x40] hE r28 (fun r1 H1 => s_X2_gameOf l sc E R hE hR.mk hsc n 2 0 x31 x40 r2 (inR_lit _ rfl) hx31 hx40 m40 r1 H1) ca_X10_187 rfl ⟨_, rfl, rfl⟩ rfl rfl (Nat.le_of_ble_eq_true rfl) (Nat.le_of_ble_eq_true rfl) (Nat.le_of_ble_eq_true rfl) (Nat.le_of_ble_eq_true rfl) dX10_made_60 H (fun x60 m60 v60 hh60 H hp => ?_)
        refine cx_backG hp ?_
        refine cx_callV (pc := 63) (P := pI) (dC := 2) (mcC := 0) (msC := 0) [iv p1, rv x60.toNat] hE r1 (fun r1 H1 => s_X10_settle l sc E R hE hR n p1 x60.toNat hp1 m60 r1 H1) ca_X10_166 rfl ⟨_, rfl, rfl⟩ rfl rfl (Nat.le_of_ble_eq_true rfl) (Nat.le_of_ble_eq_true rfl) (Nat.le_of_ble_eq_true rfl) (Nat.le_of_ble_eq_true rfl) dX10_made_63 H (fun x63 m63 v63 hh63 H hp => ?_)
        refine cx_backI hp (fun hx63 => ?_)
        exact cx_iret (pc := 66) hx63 rfl (Nat.le_of_ble_eq_true rfl) (Nat.le_of_ble_eq_true rfl) dX10_made_66 H
/-- X10 plus (III)I -/
def f_X10_plus (n : Nat) (p1 : Int) (p2 : Int) (p3 : Int) (mi : Mem) : Option Rz :=
  cal (f_X10_isSlot n p1 mi) fun x1 m1 =>
  jn (fun (m21 : Mem) =>
    cal (f_X10_fail n (-1100000001) m21) fun x24 m24 =>
    rt x24 m24
  ) fun (j21 : Mem → Option Rz) =>
  if x1 = 0 then (
    j21 m1
  ) else
  cal (f_X10_isSlot n p2 m1) fun x8 m8 =>
  if x8 = 0 then (
    j21 m8
  ) else
  cal (f_X10_isSlot n p3 m8) fun x15 m15 =>
  if x15 = 0 then (
    j21 m15
  ) else
  cal (f_X6_held n p2 m15) fun x39 m39 =>
  cal (f_X6_held n p3 m39) fun x47 m47 =>
  cal (f_X2_sumOf n x39.toNat x47.toNat m47) fun x50 m50 =>
  cal (f_X10_settle n p1 x50.toNat m50) fun x53 m53 =>
  rt x53 m53
set_option maxRecDepth 100000 in
set_option maxHeartbeats 4000000 in
theorem s_X10_plus (l : Launch) (sc : g_S) (E : Mem → g_H) (R : Nat → Prop) (hE : LE E R) (hR : RCL R) (hsc : sc.1 = 0) (n : Nat)  (p1 : Int) (p2 : Int) (p3 : Int) (hp1 : inR p1) (hp2 : inR p2) (hp3 : inR p3) (mi : Mem) (r : Rz) (H : f_X10_plus n p1 p2 p3 mi = some r) : AMet l sc yX10_plus cX10_plus 4 (some FieldType.int) 6 4 125 [.ref 1, iv p1, iv p2, iv p3] (E mi) (pI E r) := by
  have r1 : R 1 := hR.1 1 (Nat.le_of_ble_eq_true rfl) (Nat.le_of_ble_eq_true rfl)
  have r28 : R 28 := hR.1 28 (Nat.le_of_ble_eq_true rfl) (Nat.le_of_ble_eq_true rfl)
  have r45 : R 45 := hR.1 45 (Nat.le_of_ble_eq_true rfl) (Nat.le_of_ble_eq_true rfl)
  unfold f_X10_plus at H
  refine AMet.of (own := RX10) (by decide +kernel) rfl (Nat.le_of_ble_eq_true rfl) [(0, .ref 1), (1, iv p1), (2, iv p2), (3, iv p3)] rfl (fun D base ad => ?_)
  refine aw_iload_n (pc := 0) dX10_plus_0 rfl ?_
  refine cx_callS (pc := 1) (P := pI) (dC := 1) (mcC := 0) (msC := 0) [iv p1] (fun r1 H1 => s_X10_isSlot l sc E R hE hR n p1 hp1 mi r1 H1) ca_X10_103 rfl rfl (Nat.le_of_ble_eq_true rfl) (Nat.le_of_ble_eq_true rfl) (Nat.le_of_ble_eq_true rfl) (Nat.le_of_ble_eq_true rfl) dX10_plus_1 H (fun x1 m1 v1 hh1 H hp => ?_)
  refine cx_backI hp (fun hx1 => ?_)
  refine jn_ind (fun (f9 : Mem → Option Rz) => ∀ (m21 : Mem), f9 m21 = some r → AW l D base sc RX10 yX10_plus cX10_plus 4 (some FieldType.int) 6 4 125 ad (E mi) (pI E r) 0 0 (E m21) 21 [(0, .ref 1)] []) (fun m21 H => ?_) (fun j21 hj21 H => ?_) H
  · -- 21
    refine aw_aload_n (pc := 21) dX10_plus_21 rfl ?_
    refine cx_ldc (pc := 22) (-1100000001) dX10_plus_22 ct_X10_107 (by decide) ?_
    refine cx_callV (pc := 24) (P := pI) (dC := 1) (mcC := 0) (msC := 0) [iv (-1100000001)] hE r1 (fun r1 H1 => s_X10_fail l sc E R hE hR n (-1100000001) (inR_lit _ rfl) m21 r1 H1) ca_X10_108 rfl ⟨_, rfl, rfl⟩ rfl rfl (Nat.le_of_ble_eq_true rfl) (Nat.le_of_ble_eq_true rfl) (Nat.le_of_ble_eq_true rfl) (Nat.le_of_ble_eq_true rfl) dX10_plus_24 H (fun x24 m24 v24 hh24 H hp => ?_)
    refine cx_backI hp (fun hx24 => ?_)
    exact cx_iret (pc := 27) hx24 rfl (Nat.le_of_ble_eq_true rfl) (Nat.le_of_ble_eq_true rfl) dX10_plus_27 H
  refine cx_if_eq (pc := 4) 21 hx1 dX10_plus_4 rfl H (fun H => ?_) (fun H => ?_)
  · -- 4: 21
    exact AW.sel [0] rfl (hj21 _ H)
  · -- 4: 7
    refine aw_iload_n (pc := 7) dX10_plus_7 rfl ?_
    refine cx_callS (pc := 8) (P := pI) (dC := 1) (mcC := 0) (msC := 0) [iv p2] (fun r1 H1 => s_X10_isSlot l sc E R hE hR n p2 hp2 m1 r1 H1) ca_X10_103 rfl rfl (Nat.le_of_ble_eq_true rfl) (Nat.le_of_ble_eq_true rfl) (Nat.le_of_ble_eq_true rfl) (Nat.le_of_ble_eq_true rfl) dX10_plus_8 H (fun x8 m8 v8 hh8 H hp => ?_)
    refine cx_backI hp (fun hx8 => ?_)
    refine cx_if_eq (pc := 11) 21 hx8 dX10_plus_11 rfl H (fun H => ?_) (fun H => ?_)
    · -- 11: 21
      exact AW.sel [0] rfl (hj21 _ H)
    · -- 11: 14
      refine aw_iload_n (pc := 14) dX10_plus_14 rfl ?_
      refine cx_callS (pc := 15) (P := pI) (dC := 1) (mcC := 0) (msC := 0) [iv p3] (fun r1 H1 => s_X10_isSlot l sc E R hE hR n p3 hp3 m8 r1 H1) ca_X10_103 rfl rfl (Nat.le_of_ble_eq_true rfl) (Nat.le_of_ble_eq_true rfl) (Nat.le_of_ble_eq_true rfl) (Nat.le_of_ble_eq_true rfl) dX10_plus_15 H (fun x15 m15 v15 hh15 H hp => ?_)
      refine cx_backI hp (fun hx15 => ?_)
      refine cx_if_ne (pc := 18) 28 hx15 dX10_plus_18 rfl H (fun H => ?_) (fun H => ?_)
      · -- 18: 21
        exact AW.sel [0] rfl (hj21 _ H)
      · -- 18: 28
        refine aw_aload_n (pc := 28) dX10_plus_28 rfl ?_
        refine aw_iload_n (pc := 29) dX10_plus_29 rfl ?_
        refine aw_aload_n (pc := 30) dX10_plus_30 rfl ?_
        refine cx_gtC (pc := 31) 28 hE r1 fl_X10_30 rfl rfl (Nat.le_of_ble_eq_true rfl) dX10_plus_31 ?_
        refine aw_aload_n (pc := 34) dX10_plus_34 rfl ?_
        refine cx_gtC (pc := 35) 45 hE r1 fl_X10_84 rfl rfl (Nat.le_of_ble_eq_true rfl) dX10_plus_35 ?_
        refine aw_iload_n (pc := 38) dX10_plus_38 rfl ?_
        refine cx_callV (pc := 39) (P := pG) (dC := 0) (mcC := 0) (msC := 0) [iv p2] hE r45 (fun r1 H1 => s_X6_held l sc E R hE hR n p2 hp2 m15 r1 H1) ca_X10_112 rfl ⟨_, rfl, rfl⟩ rfl rfl (Nat.le_of_ble_eq_true rfl) (Nat.le_of_ble_eq_true rfl) (Nat.le_of_ble_eq_true rfl) (Nat.le_of_ble_eq_true rfl) dX10_plus_39 H (fun x39 m39 v39 hh39 H hp => ?_)
        refine cx_backG hp ?_
        refine aw_aload_n (pc := 42) dX10_plus_42 rfl ?_
        refine cx_gtC (pc := 43) 45 hE r1 fl_X10_84 rfl rfl (Nat.le_of_ble_eq_true rfl) dX10_plus_43 ?_
        refine aw_iload_n (pc := 46) dX10_plus_46 rfl ?_
        refine cx_callV (pc := 47) (P := pG) (dC := 0) (mcC := 0) (msC := 0) [iv p3] hE r45 (fun r1 H1 => s_X6_held l sc E R hE hR n p3 hp3 m39 r1 H1) ca_X10_112 rfl ⟨_, rfl, rfl⟩ rfl rfl (Nat.le_of_ble_eq_true rfl) (Nat.le_of_ble_eq_true rfl) (Nat.le_of_ble_eq_true rfl) (Nat.le_of_ble_eq_true rfl) dX10_plus_47 H (fun x47 m47 v47 hh47 H hp => ?_)
        refine cx_backG hp ?_
        refine cx_callV (pc := 50) (P := pG) (dC := 5) (mcC := 4) (msC := 125) [rv x39.toNat, rv x47.toNat] hE r28 (fun r1 H1 => s_X2_sumOf l sc E R hE hR.mk hsc n x39.toNat x47.toNat m47 r1 H1) ca_X10_191 rfl ⟨_, rfl, rfl⟩ rfl rfl (Nat.le_of_ble_eq_true rfl) (Nat.le_of_ble_eq_true rfl) (Nat.le_of_ble_eq_true rfl) (Nat.le_of_ble_eq_true rfl) dX10_plus_50 H (fun x50 m50 v50 hh50 H hp => ?_)
        refine cx_backG hp ?_
        refine cx_callV (pc := 53) (P := pI) (dC := 2) (mcC := 0) (msC := 0) [iv p1, rv x50.toNat] hE r1 (fun r1 H1 => s_X10_settle l sc E R hE hR n p1 x50.toNat hp1 m50 r1 H1) ca_X10_166 rfl ⟨_, rfl, rfl⟩ rfl rfl (Nat.le_of_ble_eq_true rfl) (Nat.le_of_ble_eq_true rfl) (Nat.le_of_ble_eq_true rfl) (Nat.le_of_ble_eq_true rfl) dX10_plus_53 H (fun x53 m53 v53 hh53 H hp => ?_)
        refine cx_backI hp (fun hx53 => ?_)
        exact cx_iret (pc := 56) hx53 rfl (Nat.le_of_ble_eq_true rfl) (Nat.le_of_ble_eq_true rfl) dX10_plus_56 H
/-- X10 minus (II)I -/
def f_X10_minus (n : Nat) (p1 : Int) (p2 : Int) (mi : Mem) : Option Rz :=
  cal (f_X10_isSlot n p1 mi) fun x1 m1 =>
  jn (fun (m14 : Mem) =>
    cal (f_X10_fail n (-1100000001) m14) fun x17 m17 =>
    rt x17 m17
  ) fun (j14 : Mem → Option Rz) =>
  if x1 = 0 then (
    j14 m1
  ) else
  cal (f_X10_isSlot n p2 m1) fun x8 m8 =>
  if x8 = 0 then (
    j14 m8
  ) else
  cal (f_X6_held n p2 m8) fun x32 m32 =>
  cal (f_X2_negativeOf n x32.toNat m32) fun x35 m35 =>
  cal (f_X10_settle n p1 x35.toNat m35) fun x38 m38 =>
  rt x38 m38
set_option maxRecDepth 100000 in
set_option maxHeartbeats 4000000 in
theorem s_X10_minus (l : Launch) (sc : g_S) (E : Mem → g_H) (R : Nat → Prop) (hE : LE E R) (hR : RCL R) (hsc : sc.1 = 0) (n : Nat)  (p1 : Int) (p2 : Int) (hp1 : inR p1) (hp2 : inR p2) (mi : Mem) (r : Rz) (H : f_X10_minus n p1 p2 mi = some r) : AMet l sc yX10_minus cX10_minus 3 (some FieldType.int) 6 4 125 [.ref 1, iv p1, iv p2] (E mi) (pI E r) := by
  have r1 : R 1 := hR.1 1 (Nat.le_of_ble_eq_true rfl) (Nat.le_of_ble_eq_true rfl)
  have r28 : R 28 := hR.1 28 (Nat.le_of_ble_eq_true rfl) (Nat.le_of_ble_eq_true rfl)
  have r45 : R 45 := hR.1 45 (Nat.le_of_ble_eq_true rfl) (Nat.le_of_ble_eq_true rfl)
  unfold f_X10_minus at H
  refine AMet.of (own := RX10) (by decide +kernel) rfl (Nat.le_of_ble_eq_true rfl) [(0, .ref 1), (1, iv p1), (2, iv p2)] rfl (fun D base ad => ?_)
  refine aw_iload_n (pc := 0) dX10_minus_0 rfl ?_
  refine cx_callS (pc := 1) (P := pI) (dC := 1) (mcC := 0) (msC := 0) [iv p1] (fun r1 H1 => s_X10_isSlot l sc E R hE hR n p1 hp1 mi r1 H1) ca_X10_103 rfl rfl (Nat.le_of_ble_eq_true rfl) (Nat.le_of_ble_eq_true rfl) (Nat.le_of_ble_eq_true rfl) (Nat.le_of_ble_eq_true rfl) dX10_minus_1 H (fun x1 m1 v1 hh1 H hp => ?_)
  refine cx_backI hp (fun hx1 => ?_)
  refine jn_ind (fun (f9 : Mem → Option Rz) => ∀ (m14 : Mem), f9 m14 = some r → AW l D base sc RX10 yX10_minus cX10_minus 3 (some FieldType.int) 6 4 125 ad (E mi) (pI E r) 0 0 (E m14) 14 [(0, .ref 1)] []) (fun m14 H => ?_) (fun j14 hj14 H => ?_) H
  · -- 14
    refine aw_aload_n (pc := 14) dX10_minus_14 rfl ?_
    refine cx_ldc (pc := 15) (-1100000001) dX10_minus_15 ct_X10_107 (by decide) ?_
    refine cx_callV (pc := 17) (P := pI) (dC := 1) (mcC := 0) (msC := 0) [iv (-1100000001)] hE r1 (fun r1 H1 => s_X10_fail l sc E R hE hR n (-1100000001) (inR_lit _ rfl) m14 r1 H1) ca_X10_108 rfl ⟨_, rfl, rfl⟩ rfl rfl (Nat.le_of_ble_eq_true rfl) (Nat.le_of_ble_eq_true rfl) (Nat.le_of_ble_eq_true rfl) (Nat.le_of_ble_eq_true rfl) dX10_minus_17 H (fun x17 m17 v17 hh17 H hp => ?_)
    refine cx_backI hp (fun hx17 => ?_)
    exact cx_iret (pc := 20) hx17 rfl (Nat.le_of_ble_eq_true rfl) (Nat.le_of_ble_eq_true rfl) dX10_minus_20 H
  refine cx_if_eq (pc := 4) 14 hx1 dX10_minus_4 rfl H (fun H => ?_) (fun H => ?_)
  · -- 4: 14
    exact AW.sel [0] rfl (hj14 _ H)
  · -- 4: 7
    refine aw_iload_n (pc := 7) dX10_minus_7 rfl ?_
    refine cx_callS (pc := 8) (P := pI) (dC := 1) (mcC := 0) (msC := 0) [iv p2] (fun r1 H1 => s_X10_isSlot l sc E R hE hR n p2 hp2 m1 r1 H1) ca_X10_103 rfl rfl (Nat.le_of_ble_eq_true rfl) (Nat.le_of_ble_eq_true rfl) (Nat.le_of_ble_eq_true rfl) (Nat.le_of_ble_eq_true rfl) dX10_minus_8 H (fun x8 m8 v8 hh8 H hp => ?_)
    refine cx_backI hp (fun hx8 => ?_)
    refine cx_if_ne (pc := 11) 21 hx8 dX10_minus_11 rfl H (fun H => ?_) (fun H => ?_)
    · -- 11: 14
      exact AW.sel [0] rfl (hj14 _ H)
    · -- 11: 21
      refine aw_aload_n (pc := 21) dX10_minus_21 rfl ?_
      refine aw_iload_n (pc := 22) dX10_minus_22 rfl ?_
      refine aw_aload_n (pc := 23) dX10_minus_23 rfl ?_
      refine cx_gtC (pc := 24) 28 hE r1 fl_X10_30 rfl rfl (Nat.le_of_ble_eq_true rfl) dX10_minus_24 ?_
      refine aw_aload_n (pc := 27) dX10_minus_27 rfl ?_
      refine cx_gtC (pc := 28) 45 hE r1 fl_X10_84 rfl rfl (Nat.le_of_ble_eq_true rfl) dX10_minus_28 ?_
      refine aw_iload_n (pc := 31) dX10_minus_31 rfl ?_
      refine cx_callV (pc := 32) (P := pG) (dC := 0) (mcC := 0) (msC := 0) [iv p2] hE r45 (fun r1 H1 => s_X6_held l sc E R hE hR n p2 hp2 m8 r1 H1) ca_X10_112 rfl ⟨_, rfl, rfl⟩ rfl rfl (Nat.le_of_ble_eq_true rfl) (Nat.le_of_ble_eq_true rfl) (Nat.le_of_ble_eq_true rfl) (Nat.le_of_ble_eq_true rfl) dX10_minus_32 H (fun x32 m32 v32 hh32 H hp => ?_)
      refine cx_backG hp ?_
      refine cx_callV (pc := 35) (P := pG) (dC := 5) (mcC := 4) (msC := 125) [rv x32.toNat] hE r28 (fun r1 H1 => s_X2_negativeOf l sc E R hE hR.mk hsc n x32.toNat m32 r1 H1) ca_X10_195 rfl ⟨_, rfl, rfl⟩ rfl rfl (Nat.le_of_ble_eq_true rfl) (Nat.le_of_ble_eq_true rfl) (Nat.le_of_ble_eq_true rfl) (Nat.le_of_ble_eq_true rfl) dX10_minus_35 H (fun x35 m35 v35 hh35 H hp => ?_)
      refine cx_backG hp ?_
      refine cx_callV (pc := 38) (P := pI) (dC := 2) (mcC := 0) (msC := 0) [iv p1, rv x35.toNat] hE r1 (fun r1 H1 => s_X10_settle l sc E R hE hR n p1 x35.toNat hp1 m35 r1 H1) ca_X10_166 rfl ⟨_, rfl, rfl⟩ rfl rfl (Nat.le_of_ble_eq_true rfl) (Nat.le_of_ble_eq_true rfl) (Nat.le_of_ble_eq_true rfl) (Nat.le_of_ble_eq_true rfl) dX10_minus_38 H (fun x38 m38 v38 hh38 H hp => ?_)
      refine cx_backI hp (fun hx38 => ?_)
      exact cx_iret (pc := 41) hx38 rfl (Nat.le_of_ble_eq_true rfl) (Nat.le_of_ble_eq_true rfl) dX10_minus_41 H
/-- X10 isBit (I)Z -/
def f_X10_isBit (n : Nat) (p0 : Int) (mi : Mem) : Option Rz :=
  jn (fun (s0_14 : Int) (m14 : Mem) =>
    rtZ s0_14 m14
  ) fun (j14 : Int → Mem → Option Rz) =>
  jn (fun (m9 : Mem) =>
    j14 1 m9
  ) fun (j9 : Mem → Option Rz) =>
  if p0 = 0 then (
    j9 mi
  ) else
  if p0 = 1 then (
    j9 mi
  ) else
  j14 0 mi
set_option maxRecDepth 100000 in
set_option maxHeartbeats 4000000 in
theorem s_X10_isBit (l : Launch) (sc : g_S) (E : Mem → g_H) (R : Nat → Prop) (hE : LE E R) (hR : RCL R) (n : Nat)  (p0 : Int) (hp0 : inR p0) (mi : Mem) (r : Rz) (H : f_X10_isBit n p0 mi = some r) : AMet l sc yX10_isBit cX10_isBit 1 (some FieldType.boolean) 0 0 0 [iv p0] (E mi) (pI E r) := by
  unfold f_X10_isBit at H
  refine AMet.of (own := RX10) (by decide +kernel) rfl (Nat.le_of_ble_eq_true rfl) [(0, iv p0)] rfl (fun D base ad => ?_)
  refine aw_iload_n (pc := 0) dX10_isBit_0 rfl ?_
  refine jn_ind (fun (f9 : Int → Mem → Option Rz) => ∀ (s0_14 : Int) (m14 : Mem), inR s0_14 → f9 s0_14 m14 = some r → AW l D base sc RX10 yX10_isBit cX10_isBit 1 (some FieldType.boolean) 0 0 0 ad (E mi) (pI E r) 0 0 (E m14) 14 [] [iv s0_14]) (fun s0_14 m14 hs0_14 H => ?_) (fun j14 hj14 H => ?_) H
  · -- 14
    exact cx_zret (pc := 14) rfl (Nat.le_of_ble_eq_true rfl) (Nat.le_of_ble_eq_true rfl) dX10_isBit_14 H
  refine jn_ind (fun (f9 : Mem → Option Rz) => ∀ (m9 : Mem), f9 m9 = some r → AW l D base sc RX10 yX10_isBit cX10_isBit 1 (some FieldType.boolean) 0 0 0 ad (E mi) (pI E r) 0 0 (E m9) 9 [] []) (fun m9 H => ?_) (fun j9 hj9 H => ?_) H
  · -- 9
    refine cx_iconst (pc := 9) dX10_isBit_9 ?_
    refine aw_goto (pc := 10) 14 dX10_isBit_10 rfl ?_
    exact AW.sel [] rfl (hj14 _ _ (inR_lit _ rfl) H)
  refine cx_if_eq (pc := 1) 9 hp0 dX10_isBit_1 rfl H (fun H => ?_) (fun H => ?_)
  · -- 1: 9
    exact AW.sel [] rfl (hj9 _ H)
  · -- 1: 4
    refine aw_iload_n (pc := 4) dX10_isBit_4 rfl ?_
    refine cx_iconst (pc := 5) dX10_isBit_5 ?_
    refine cx_icmp_ne (pc := 6) 13 hp0 (inR_lit _ rfl) dX10_isBit_6 rfl H (fun H => ?_) (fun H => ?_)
    · -- 6: 9
      exact AW.sel [] rfl (hj9 _ H)
    · -- 6: 13
      refine cx_iconst (pc := 13) dX10_isBit_13 ?_
      exact AW.sel [] rfl (hj14 _ _ (inR_lit _ rfl) H)
/-- X10 option (IIII)I -/
def f_X10_option (n : Nat) (p1 : Int) (p2 : Int) (p3 : Int) (p4 : Int) (mi : Mem) : Option Rz :=
  cal (f_X10_isSlot n p1 mi) fun x1 m1 =>
  jn (fun (m21 : Mem) =>
    cal (f_X10_fail n (-1100000001) m21) fun x24 m24 =>
    rt x24 m24
  ) fun (j21 : Mem → Option Rz) =>
  if x1 = 0 then (
    j21 m1
  ) else
  cal (f_X10_isSlot n p2 m1) fun x8 m8 =>
  if x8 = 0 then (
    j21 m8
  ) else
  cal (f_X10_isBit n p3 m8) fun x15 m15 =>
  if x15 = 0 then (
    j21 m15
  ) else
  cal (f_X6_held n p2 m15) fun x33 m33 =>
  isD x33.toNat <|
  isG m33 x33.toNat <| cal (f_X1_top n x33.toNat m33) fun x42 m42 =>
  isD x33.toNat <|
  isG m42 x33.toNat <| cal (f_X1_numbered n x33.toNat x42 p3 p4 m42) fun x48 m48 =>
  if x48 < 0 then (
    cal (f_X10_fail n (-1100000002) m48) fun x61 m61 =>
    rt x61 m61
  ) else
  cal (f_X2_followerOf n x33.toNat x48 m48) fun x75 m75 =>
  cal (f_X10_settle n p1 x75.toNat m75) fun x78 m78 =>
  rt x78 m78
set_option maxRecDepth 100000 in
set_option maxHeartbeats 4000000 in
theorem s_X10_option (l : Launch) (sc : g_S) (E : Mem → g_H) (R : Nat → Prop) (hE : LE E R) (hR : RCL R) (hsc : sc.1 = 0) (n : Nat)  (p1 : Int) (p2 : Int) (p3 : Int) (p4 : Int) (hp1 : inR p1) (hp2 : inR p2) (hp3 : inR p3) (hp4 : inR p4) (mi : Mem) (r : Rz) (H : f_X10_option n p1 p2 p3 p4 mi = some r) : AMet l sc yX10_option cX10_option 7 (some FieldType.int) 6 4 125 [.ref 1, iv p1, iv p2, iv p3, iv p4] (E mi) (pI E r) := by
  have r1 : R 1 := hR.1 1 (Nat.le_of_ble_eq_true rfl) (Nat.le_of_ble_eq_true rfl)
  have r28 : R 28 := hR.1 28 (Nat.le_of_ble_eq_true rfl) (Nat.le_of_ble_eq_true rfl)
  have r45 : R 45 := hR.1 45 (Nat.le_of_ble_eq_true rfl) (Nat.le_of_ble_eq_true rfl)
  unfold f_X10_option at H
  refine AMet.of (own := RX10) (by decide +kernel) rfl (Nat.le_of_ble_eq_true rfl) [(0, .ref 1), (1, iv p1), (2, iv p2), (3, iv p3), (4, iv p4)] rfl (fun D base ad => ?_)
  refine aw_iload_n (pc := 0) dX10_option_0 rfl ?_
  refine cx_callS (pc := 1) (P := pI) (dC := 1) (mcC := 0) (msC := 0) [iv p1] (fun r1 H1 => s_X10_isSlot l sc E R hE hR n p1 hp1 mi r1 H1) ca_X10_103 rfl rfl (Nat.le_of_ble_eq_true rfl) (Nat.le_of_ble_eq_true rfl) (Nat.le_of_ble_eq_true rfl) (Nat.le_of_ble_eq_true rfl) dX10_option_1 H (fun x1 m1 v1 hh1 H hp => ?_)
  refine cx_backI hp (fun hx1 => ?_)
  refine jn_ind (fun (f9 : Mem → Option Rz) => ∀ (m21 : Mem), f9 m21 = some r → AW l D base sc RX10 yX10_option cX10_option 7 (some FieldType.int) 6 4 125 ad (E mi) (pI E r) 0 0 (E m21) 21 [(0, .ref 1)] []) (fun m21 H => ?_) (fun j21 hj21 H => ?_) H
  · -- 21
    refine aw_aload_n (pc := 21) dX10_option_21 rfl ?_
    refine cx_ldc (pc := 22) (-1100000001) dX10_option_22 ct_X10_107 (by decide) ?_
    refine cx_callV (pc := 24) (P := pI) (dC := 1) (mcC := 0) (msC := 0) [iv (-1100000001)] hE r1 (fun r1 H1 => s_X10_fail l sc E R hE hR n (-1100000001) (inR_lit _ rfl) m21 r1 H1) ca_X10_108 rfl ⟨_, rfl, rfl⟩ rfl rfl (Nat.le_of_ble_eq_true rfl) (Nat.le_of_ble_eq_true rfl) (Nat.le_of_ble_eq_true rfl) (Nat.le_of_ble_eq_true rfl) dX10_option_24 H (fun x24 m24 v24 hh24 H hp => ?_)
    refine cx_backI hp (fun hx24 => ?_)
    exact cx_iret (pc := 27) hx24 rfl (Nat.le_of_ble_eq_true rfl) (Nat.le_of_ble_eq_true rfl) dX10_option_27 H
  refine cx_if_eq (pc := 4) 21 hx1 dX10_option_4 rfl H (fun H => ?_) (fun H => ?_)
  · -- 4: 21
    exact AW.sel [0] rfl (hj21 _ H)
  · -- 4: 7
    refine aw_iload_n (pc := 7) dX10_option_7 rfl ?_
    refine cx_callS (pc := 8) (P := pI) (dC := 1) (mcC := 0) (msC := 0) [iv p2] (fun r1 H1 => s_X10_isSlot l sc E R hE hR n p2 hp2 m1 r1 H1) ca_X10_103 rfl rfl (Nat.le_of_ble_eq_true rfl) (Nat.le_of_ble_eq_true rfl) (Nat.le_of_ble_eq_true rfl) (Nat.le_of_ble_eq_true rfl) dX10_option_8 H (fun x8 m8 v8 hh8 H hp => ?_)
    refine cx_backI hp (fun hx8 => ?_)
    refine cx_if_eq (pc := 11) 21 hx8 dX10_option_11 rfl H (fun H => ?_) (fun H => ?_)
    · -- 11: 21
      exact AW.sel [0] rfl (hj21 _ H)
    · -- 11: 14
      refine aw_iload_n (pc := 14) dX10_option_14 rfl ?_
      refine cx_callS (pc := 15) (P := pI) (dC := 0) (mcC := 0) (msC := 0) [iv p3] (fun r1 H1 => s_X10_isBit l sc E R hE hR n p3 hp3 m8 r1 H1) ca_X10_199 rfl rfl (Nat.le_of_ble_eq_true rfl) (Nat.le_of_ble_eq_true rfl) (Nat.le_of_ble_eq_true rfl) (Nat.le_of_ble_eq_true rfl) dX10_option_15 H (fun x15 m15 v15 hh15 H hp => ?_)
      refine cx_backI hp (fun hx15 => ?_)
      refine cx_if_ne (pc := 18) 28 hx15 dX10_option_18 rfl H (fun H => ?_) (fun H => ?_)
      · -- 18: 21
        exact AW.sel [0] rfl (hj21 _ H)
      · -- 18: 28
        refine aw_aload_n (pc := 28) dX10_option_28 rfl ?_
        refine cx_gtC (pc := 29) 45 hE r1 fl_X10_84 rfl rfl (Nat.le_of_ble_eq_true rfl) dX10_option_29 ?_
        refine aw_iload_n (pc := 32) dX10_option_32 rfl ?_
        refine cx_callV (pc := 33) (P := pG) (dC := 0) (mcC := 0) (msC := 0) [iv p2] hE r45 (fun r1 H1 => s_X6_held l sc E R hE hR n p2 hp2 m15 r1 H1) ca_X10_112 rfl ⟨_, rfl, rfl⟩ rfl rfl (Nat.le_of_ble_eq_true rfl) (Nat.le_of_ble_eq_true rfl) (Nat.le_of_ble_eq_true rfl) (Nat.le_of_ble_eq_true rfl) dX10_option_33 H (fun x33 m33 v33 hh33 H hp => ?_)
        refine cx_backG hp ?_
        refine cx_astore (pc := 36) [(5, rv x33.toNat), (0, .ref 1), (1, iv p1), (2, iv p2), (3, iv p3), (4, iv p4)] dX10_option_36 rfl (by decide) ?_
        refine cx_aload (pc := 38) dX10_option_38 rfl ?_
        refine cx_aload (pc := 40) dX10_option_40 rfl ?_
        refine cx_nn0 H (fun hg42_1 H => ?_)
        refine cx_callG (pc := 42) (P := pI) (dC := 0) (mcC := 0) (msC := 0) [] hE hR.d (fun r1 H1 => s_X1_top l sc E R hE hR.d n x33.toNat hg42_1 m33 r1 H1) ca_X10_124 ⟨_, rfl, rfl⟩ rfl rfl (Nat.le_of_ble_eq_true rfl) (Nat.le_of_ble_eq_true rfl) (Nat.le_of_ble_eq_true rfl) (Nat.le_of_ble_eq_true rfl) dX10_option_42 H (fun x42 m42 v42 hh42 H hp => ?_)
        refine cx_backI hp (fun hx42 => ?_)
        refine aw_iload_n (pc := 45) dX10_option_45 rfl ?_
        refine aw_iload (pc := 46) dX10_option_46 rfl ?_
        refine cx_nn3 H (fun hg48_2 H => ?_)
        refine cx_callG (pc := 48) (P := pI) (dC := 2) (mcC := 0) (msC := 0) [iv x42, iv p3, iv p4] hE hR.d (fun r1 H1 => s_X1_numbered l sc E R hE hR.d n x33.toNat x42 p3 p4 hg48_2 hx42 hp3 hp4 m42 r1 H1) ca_X10_202 ⟨_, rfl, rfl⟩ rfl rfl (Nat.le_of_ble_eq_true rfl) (Nat.le_of_ble_eq_true rfl) (Nat.le_of_ble_eq_true rfl) (Nat.le_of_ble_eq_true rfl) dX10_option_48 H (fun x48 m48 v48 hh48 H hp => ?_)
        refine cx_backI hp (fun hx48 => ?_)
        refine aw_istore (pc := 51) [(6, iv x48), (5, rv x33.toNat), (0, .ref 1), (1, iv p1), (2, iv p2), (3, iv p3), (4, iv p4)] dX10_option_51 (by unfold g_st1; simp only [List.filter, rv_cat]; rfl) (by decide) ?_
        refine aw_iload (pc := 53) dX10_option_53 rfl ?_
        refine cx_if_ge (pc := 55) 65 hx48 dX10_option_55 rfl H (fun H => ?_) (fun H => ?_)
        · -- 55: 58
          refine aw_aload_n (pc := 58) dX10_option_58 rfl ?_
          refine cx_ldc (pc := 59) (-1100000002) dX10_option_59 ct_X10_158 (by decide) ?_
          refine cx_callV (pc := 61) (P := pI) (dC := 1) (mcC := 0) (msC := 0) [iv (-1100000002)] hE r1 (fun r1 H1 => s_X10_fail l sc E R hE hR n (-1100000002) (inR_lit _ rfl) m48 r1 H1) ca_X10_108 rfl ⟨_, rfl, rfl⟩ rfl rfl (Nat.le_of_ble_eq_true rfl) (Nat.le_of_ble_eq_true rfl) (Nat.le_of_ble_eq_true rfl) (Nat.le_of_ble_eq_true rfl) dX10_option_61 H (fun x61 m61 v61 hh61 H hp => ?_)
          refine cx_backI hp (fun hx61 => ?_)
          exact cx_iret (pc := 64) hx61 rfl (Nat.le_of_ble_eq_true rfl) (Nat.le_of_ble_eq_true rfl) dX10_option_64 H
        · -- 55: 65
          refine aw_aload_n (pc := 65) dX10_option_65 rfl ?_
          refine aw_iload_n (pc := 66) dX10_option_66 rfl ?_
          refine aw_aload_n (pc := 67) dX10_option_67 rfl ?_
          refine cx_gtC (pc := 68) 28 hE r1 fl_X10_30 rfl rfl (Nat.le_of_ble_eq_true rfl) dX10_option_68 ?_
          refine cx_aload (pc := 71) dX10_option_71 rfl ?_
          refine aw_iload (pc := 73) dX10_option_73 rfl ?_
          refine cx_callV (pc := 75) (P := pG) (dC := 5) (mcC := 4) (msC := 125) [rv x33.toNat, iv x48] hE r28 (fun r1 H1 => s_X2_followerOf l sc E R hE hR.mk hsc n x33.toNat x48 hx48 m48 r1 H1) ca_X10_206 rfl ⟨_, rfl, rfl⟩ rfl rfl (Nat.le_of_ble_eq_true rfl) (Nat.le_of_ble_eq_true rfl) (Nat.le_of_ble_eq_true rfl) (Nat.le_of_ble_eq_true rfl) dX10_option_75 H (fun x75 m75 v75 hh75 H hp => ?_)
          refine cx_backG hp ?_
          refine cx_callV (pc := 78) (P := pI) (dC := 2) (mcC := 0) (msC := 0) [iv p1, rv x75.toNat] hE r1 (fun r1 H1 => s_X10_settle l sc E R hE hR n p1 x75.toNat hp1 m75 r1 H1) ca_X10_166 rfl ⟨_, rfl, rfl⟩ rfl rfl (Nat.le_of_ble_eq_true rfl) (Nat.le_of_ble_eq_true rfl) (Nat.le_of_ble_eq_true rfl) (Nat.le_of_ble_eq_true rfl) dX10_option_78 H (fun x78 m78 v78 hh78 H hp => ?_)
          refine cx_backI hp (fun hx78 => ?_)
          exact cx_iret (pc := 81) hx78 rfl (Nat.le_of_ble_eq_true rfl) (Nat.le_of_ble_eq_true rfl) dX10_option_81 H
/-- X10 order (II)I -/
def f_X10_order (n : Nat) (p1 : Int) (p2 : Int) (mi : Mem) : Option Rz :=
  cal (f_X10_isSlot n p1 mi) fun x1 m1 =>
  jn (fun (m14 : Mem) =>
    cal (f_X10_fail n (-1100000001) m14) fun x17 m17 =>
    rt x17 m17
  ) fun (j14 : Mem → Option Rz) =>
  if x1 = 0 then (
    j14 m1
  ) else
  cal (f_X10_isSlot n p2 m1) fun x8 m8 =>
  if x8 = 0 then (
    j14 m8
  ) else
  cal (f_X6_held n p1 m8) fun x26 m26 =>
  cal (f_X6_held n p2 m26) fun x35 m35 =>
  cal (f_X0_fill n x26.toNat x35.toNat 1 m35) fun _ m48 =>
  isD x26.toNat <|
  isG m48 x26.toNat <| cal (f_X1_top n x26.toNat m48) fun x56 m56 =>
  isD x35.toNat <|
  isG m56 x35.toNat <| cal (f_X1_top n x35.toNat m56) fun x61 m61 =>
  cal (f_X0_verdict n x56 x61 m61) fun x64 m64 =>
  rt x64 m64
set_option maxRecDepth 100000 in
set_option maxHeartbeats 4000000 in
theorem s_X10_order (l : Launch) (sc : g_S) (E : Mem → g_H) (R : Nat → Prop) (hE : LE E R) (hR : RCL R) (n : Nat)  (p1 : Int) (p2 : Int) (hp1 : inR p1) (hp2 : inR p2) (mi : Mem) (r : Rz) (H : f_X10_order n p1 p2 mi = some r) : AMet l sc yX10_order cX10_order 5 (some FieldType.int) 3 0 0 [.ref 1, iv p1, iv p2] (E mi) (pI E r) := by
  have r1 : R 1 := hR.1 1 (Nat.le_of_ble_eq_true rfl) (Nat.le_of_ble_eq_true rfl)
  have r33 : R 33 := hR.1 33 (Nat.le_of_ble_eq_true rfl) (Nat.le_of_ble_eq_true rfl)
  have r45 : R 45 := hR.1 45 (Nat.le_of_ble_eq_true rfl) (Nat.le_of_ble_eq_true rfl)
  unfold f_X10_order at H
  refine AMet.of (own := RX10) (by decide +kernel) rfl (Nat.le_of_ble_eq_true rfl) [(0, .ref 1), (1, iv p1), (2, iv p2)] rfl (fun D base ad => ?_)
  refine aw_iload_n (pc := 0) dX10_order_0 rfl ?_
  refine cx_callS (pc := 1) (P := pI) (dC := 1) (mcC := 0) (msC := 0) [iv p1] (fun r1 H1 => s_X10_isSlot l sc E R hE hR n p1 hp1 mi r1 H1) ca_X10_103 rfl rfl (Nat.le_of_ble_eq_true rfl) (Nat.le_of_ble_eq_true rfl) (Nat.le_of_ble_eq_true rfl) (Nat.le_of_ble_eq_true rfl) dX10_order_1 H (fun x1 m1 v1 hh1 H hp => ?_)
  refine cx_backI hp (fun hx1 => ?_)
  refine jn_ind (fun (f9 : Mem → Option Rz) => ∀ (m14 : Mem), f9 m14 = some r → AW l D base sc RX10 yX10_order cX10_order 5 (some FieldType.int) 3 0 0 ad (E mi) (pI E r) 0 0 (E m14) 14 [(0, .ref 1)] []) (fun m14 H => ?_) (fun j14 hj14 H => ?_) H
  · -- 14
    refine aw_aload_n (pc := 14) dX10_order_14 rfl ?_
    refine cx_ldc (pc := 15) (-1100000001) dX10_order_15 ct_X10_107 (by decide) ?_
    refine cx_callV (pc := 17) (P := pI) (dC := 1) (mcC := 0) (msC := 0) [iv (-1100000001)] hE r1 (fun r1 H1 => s_X10_fail l sc E R hE hR n (-1100000001) (inR_lit _ rfl) m14 r1 H1) ca_X10_108 rfl ⟨_, rfl, rfl⟩ rfl rfl (Nat.le_of_ble_eq_true rfl) (Nat.le_of_ble_eq_true rfl) (Nat.le_of_ble_eq_true rfl) (Nat.le_of_ble_eq_true rfl) dX10_order_17 H (fun x17 m17 v17 hh17 H hp => ?_)
    refine cx_backI hp (fun hx17 => ?_)
    exact cx_iret (pc := 20) hx17 rfl (Nat.le_of_ble_eq_true rfl) (Nat.le_of_ble_eq_true rfl) dX10_order_20 H
  refine cx_if_eq (pc := 4) 14 hx1 dX10_order_4 rfl H (fun H => ?_) (fun H => ?_)
  · -- 4: 14
    exact AW.sel [0] rfl (hj14 _ H)
  · -- 4: 7
    refine aw_iload_n (pc := 7) dX10_order_7 rfl ?_
    refine cx_callS (pc := 8) (P := pI) (dC := 1) (mcC := 0) (msC := 0) [iv p2] (fun r1 H1 => s_X10_isSlot l sc E R hE hR n p2 hp2 m1 r1 H1) ca_X10_103 rfl rfl (Nat.le_of_ble_eq_true rfl) (Nat.le_of_ble_eq_true rfl) (Nat.le_of_ble_eq_true rfl) (Nat.le_of_ble_eq_true rfl) dX10_order_8 H (fun x8 m8 v8 hh8 H hp => ?_)
    refine cx_backI hp (fun hx8 => ?_)
    refine cx_if_ne (pc := 11) 21 hx8 dX10_order_11 rfl H (fun H => ?_) (fun H => ?_)
    · -- 11: 14
      exact AW.sel [0] rfl (hj14 _ H)
    · -- 11: 21
      refine aw_aload_n (pc := 21) dX10_order_21 rfl ?_
      refine cx_gtC (pc := 22) 45 hE r1 fl_X10_84 rfl rfl (Nat.le_of_ble_eq_true rfl) dX10_order_22 ?_
      refine aw_iload_n (pc := 25) dX10_order_25 rfl ?_
      refine cx_callV (pc := 26) (P := pG) (dC := 0) (mcC := 0) (msC := 0) [iv p1] hE r45 (fun r1 H1 => s_X6_held l sc E R hE hR n p1 hp1 m8 r1 H1) ca_X10_112 rfl ⟨_, rfl, rfl⟩ rfl rfl (Nat.le_of_ble_eq_true rfl) (Nat.le_of_ble_eq_true rfl) (Nat.le_of_ble_eq_true rfl) (Nat.le_of_ble_eq_true rfl) dX10_order_26 H (fun x26 m26 v26 hh26 H hp => ?_)
      refine cx_backG hp ?_
      refine cx_astore_n (pc := 29) [(3, rv x26.toNat), (0, .ref 1), (1, iv p1), (2, iv p2)] dX10_order_29 rfl (by decide) ?_
      refine aw_aload_n (pc := 30) dX10_order_30 rfl ?_
      refine cx_gtC (pc := 31) 45 hE r1 fl_X10_84 rfl rfl (Nat.le_of_ble_eq_true rfl) dX10_order_31 ?_
      refine aw_iload_n (pc := 34) dX10_order_34 rfl ?_
      refine cx_callV (pc := 35) (P := pG) (dC := 0) (mcC := 0) (msC := 0) [iv p2] hE r45 (fun r1 H1 => s_X6_held l sc E R hE hR n p2 hp2 m26 r1 H1) ca_X10_112 rfl ⟨_, rfl, rfl⟩ rfl rfl (Nat.le_of_ble_eq_true rfl) (Nat.le_of_ble_eq_true rfl) (Nat.le_of_ble_eq_true rfl) (Nat.le_of_ble_eq_true rfl) dX10_order_35 H (fun x35 m35 v35 hh35 H hp => ?_)
      refine cx_backG hp ?_
      refine cx_astore (pc := 38) [(4, rv x35.toNat), (3, rv x26.toNat), (0, .ref 1), (1, iv p1), (2, iv p2)] dX10_order_38 (by unfold g_st1; simp only [List.filter, rv_cat]; rfl) (by decide) ?_
      refine aw_aload_n (pc := 40) dX10_order_40 rfl ?_
      refine cx_gtC (pc := 41) 33 hE r1 fl_X10_47 rfl rfl (Nat.le_of_ble_eq_true rfl) dX10_order_41 ?_
      refine cx_aload_n (pc := 44) dX10_order_44 rfl ?_
      refine cx_aload (pc := 45) dX10_order_45 rfl ?_
      refine cx_iconst (pc := 47) dX10_order_47 ?_
      refine cx_callV (pc := 48) (P := pV) (dC := 2) (mcC := 0) (msC := 0) [rv x26.toNat, rv x35.toNat, iv 1] hE r33 (fun r1 H1 => s_X0_fill l sc E R hE hR n x26.toNat x35.toNat 1 (inR_lit _ rfl) m35 r1 H1) ca_X10_213 rfl ⟨_, rfl, rfl⟩ rfl rfl (Nat.le_of_ble_eq_true rfl) (Nat.le_of_ble_eq_true rfl) (Nat.le_of_ble_eq_true rfl) (Nat.le_of_ble_eq_true rfl) dX10_order_48 H (fun x48 m48 v48 hh48 H hp => ?_)
      refine cx_backV hp ?_
      refine aw_aload_n (pc := 51) dX10_order_51 rfl ?_
      refine cx_gtC (pc := 52) 33 hE r1 fl_X10_47 rfl rfl (Nat.le_of_ble_eq_true rfl) dX10_order_52 ?_
      refine cx_aload_n (pc := 55) dX10_order_55 rfl ?_
      refine cx_nn0 H (fun hg56_1 H => ?_)
      refine cx_callG (pc := 56) (P := pI) (dC := 0) (mcC := 0) (msC := 0) [] hE hR.d (fun r1 H1 => s_X1_top l sc E R hE hR.d n x26.toNat hg56_1 m48 r1 H1) ca_X10_124 ⟨_, rfl, rfl⟩ rfl rfl (Nat.le_of_ble_eq_true rfl) (Nat.le_of_ble_eq_true rfl) (Nat.le_of_ble_eq_true rfl) (Nat.le_of_ble_eq_true rfl) dX10_order_56 H (fun x56 m56 v56 hh56 H hp => ?_)
      refine cx_backI hp (fun hx56 => ?_)
      refine cx_aload (pc := 59) dX10_order_59 rfl ?_
      refine cx_nn0 H (fun hg61_2 H => ?_)
      refine cx_callG (pc := 61) (P := pI) (dC := 0) (mcC := 0) (msC := 0) [] hE hR.d (fun r1 H1 => s_X1_top l sc E R hE hR.d n x35.toNat hg61_2 m56 r1 H1) ca_X10_124 ⟨_, rfl, rfl⟩ rfl rfl (Nat.le_of_ble_eq_true rfl) (Nat.le_of_ble_eq_true rfl) (Nat.le_of_ble_eq_true rfl) (Nat.le_of_ble_eq_true rfl) dX10_order_61 H (fun x61 m61 v61 hh61 H hp => ?_)
      refine cx_backI hp (fun hx61 => ?_)
      refine cx_callV (pc := 64) (P := pI) (dC := 0) (mcC := 0) (msC := 0) [iv x56, iv x61] hE r33 (fun r1 H1 => s_X0_verdict l sc E R hE hR n x56 x61 hx56 hx61 m61 r1 H1) ca_X10_217 rfl ⟨_, rfl, rfl⟩ rfl rfl (Nat.le_of_ble_eq_true rfl) (Nat.le_of_ble_eq_true rfl) (Nat.le_of_ble_eq_true rfl) (Nat.le_of_ble_eq_true rfl) dX10_order_64 H (fun x64 m64 v64 hh64 H hp => ?_)
      refine cx_backI hp (fun hx64 => ?_)
      exact cx_iret (pc := 67) hx64 rfl (Nat.le_of_ble_eq_true rfl) (Nat.le_of_ble_eq_true rfl) dX10_order_67 H
/-- X10 outcome (II)I -/
def f_X10_outcome (n : Nat) (p1 : Int) (p2 : Int) (mi : Mem) : Option Rz :=
  cal (f_X10_isSlot n p1 mi) fun x1 m1 =>
  jn (fun (m14 : Mem) =>
    cal (f_X10_fail n (-1100000001) m14) fun x17 m17 =>
    rt x17 m17
  ) fun (j14 : Mem → Option Rz) =>
  if x1 = 0 then (
    j14 m1
  ) else
  cal (f_X10_isSlot n p2 m1) fun x8 m8 =>
  if x8 = 0 then (
    j14 m8
  ) else
  cal (f_X6_held n p1 m8) fun x27 m27 =>
  cal (f_X6_held n p2 m27) fun x35 m35 =>
  cal (f_X10_sumOutcome n x27.toNat x35.toNat m35) fun x38 m38 =>
  rt x38 m38
set_option maxRecDepth 100000 in
set_option maxHeartbeats 4000000 in
theorem s_X10_outcome (l : Launch) (sc : g_S) (E : Mem → g_H) (R : Nat → Prop) (hE : LE E R) (hR : RCL R) (n : Nat)  (p1 : Int) (p2 : Int) (hp1 : inR p1) (hp2 : inR p2) (mi : Mem) (r : Rz) (H : f_X10_outcome n p1 p2 mi = some r) : AMet l sc yX10_outcome cX10_outcome 3 (some FieldType.int) 4 0 0 [.ref 1, iv p1, iv p2] (E mi) (pI E r) := by
  have r1 : R 1 := hR.1 1 (Nat.le_of_ble_eq_true rfl) (Nat.le_of_ble_eq_true rfl)
  have r45 : R 45 := hR.1 45 (Nat.le_of_ble_eq_true rfl) (Nat.le_of_ble_eq_true rfl)
  unfold f_X10_outcome at H
  refine AMet.of (own := RX10) (by decide +kernel) rfl (Nat.le_of_ble_eq_true rfl) [(0, .ref 1), (1, iv p1), (2, iv p2)] rfl (fun D base ad => ?_)
  refine aw_iload_n (pc := 0) dX10_outcome_0 rfl ?_
  refine cx_callS (pc := 1) (P := pI) (dC := 1) (mcC := 0) (msC := 0) [iv p1] (fun r1 H1 => s_X10_isSlot l sc E R hE hR n p1 hp1 mi r1 H1) ca_X10_103 rfl rfl (Nat.le_of_ble_eq_true rfl) (Nat.le_of_ble_eq_true rfl) (Nat.le_of_ble_eq_true rfl) (Nat.le_of_ble_eq_true rfl) dX10_outcome_1 H (fun x1 m1 v1 hh1 H hp => ?_)
  refine cx_backI hp (fun hx1 => ?_)
  refine jn_ind (fun (f9 : Mem → Option Rz) => ∀ (m14 : Mem), f9 m14 = some r → AW l D base sc RX10 yX10_outcome cX10_outcome 3 (some FieldType.int) 4 0 0 ad (E mi) (pI E r) 0 0 (E m14) 14 [(0, .ref 1)] []) (fun m14 H => ?_) (fun j14 hj14 H => ?_) H
  · -- 14
    refine aw_aload_n (pc := 14) dX10_outcome_14 rfl ?_
    refine cx_ldc (pc := 15) (-1100000001) dX10_outcome_15 ct_X10_107 (by decide) ?_
    refine cx_callV (pc := 17) (P := pI) (dC := 1) (mcC := 0) (msC := 0) [iv (-1100000001)] hE r1 (fun r1 H1 => s_X10_fail l sc E R hE hR n (-1100000001) (inR_lit _ rfl) m14 r1 H1) ca_X10_108 rfl ⟨_, rfl, rfl⟩ rfl rfl (Nat.le_of_ble_eq_true rfl) (Nat.le_of_ble_eq_true rfl) (Nat.le_of_ble_eq_true rfl) (Nat.le_of_ble_eq_true rfl) dX10_outcome_17 H (fun x17 m17 v17 hh17 H hp => ?_)
    refine cx_backI hp (fun hx17 => ?_)
    exact cx_iret (pc := 20) hx17 rfl (Nat.le_of_ble_eq_true rfl) (Nat.le_of_ble_eq_true rfl) dX10_outcome_20 H
  refine cx_if_eq (pc := 4) 14 hx1 dX10_outcome_4 rfl H (fun H => ?_) (fun H => ?_)
  · -- 4: 14
    exact AW.sel [0] rfl (hj14 _ H)
  · -- 4: 7
    refine aw_iload_n (pc := 7) dX10_outcome_7 rfl ?_
    refine cx_callS (pc := 8) (P := pI) (dC := 1) (mcC := 0) (msC := 0) [iv p2] (fun r1 H1 => s_X10_isSlot l sc E R hE hR n p2 hp2 m1 r1 H1) ca_X10_103 rfl rfl (Nat.le_of_ble_eq_true rfl) (Nat.le_of_ble_eq_true rfl) (Nat.le_of_ble_eq_true rfl) (Nat.le_of_ble_eq_true rfl) dX10_outcome_8 H (fun x8 m8 v8 hh8 H hp => ?_)
    refine cx_backI hp (fun hx8 => ?_)
    refine cx_if_ne (pc := 11) 21 hx8 dX10_outcome_11 rfl H (fun H => ?_) (fun H => ?_)
    · -- 11: 14
      exact AW.sel [0] rfl (hj14 _ H)
    · -- 11: 21
      refine aw_aload_n (pc := 21) dX10_outcome_21 rfl ?_
      refine aw_aload_n (pc := 22) dX10_outcome_22 rfl ?_
      refine cx_gtC (pc := 23) 45 hE r1 fl_X10_84 rfl rfl (Nat.le_of_ble_eq_true rfl) dX10_outcome_23 ?_
      refine aw_iload_n (pc := 26) dX10_outcome_26 rfl ?_
      refine cx_callV (pc := 27) (P := pG) (dC := 0) (mcC := 0) (msC := 0) [iv p1] hE r45 (fun r1 H1 => s_X6_held l sc E R hE hR n p1 hp1 m8 r1 H1) ca_X10_112 rfl ⟨_, rfl, rfl⟩ rfl rfl (Nat.le_of_ble_eq_true rfl) (Nat.le_of_ble_eq_true rfl) (Nat.le_of_ble_eq_true rfl) (Nat.le_of_ble_eq_true rfl) dX10_outcome_27 H (fun x27 m27 v27 hh27 H hp => ?_)
      refine cx_backG hp ?_
      refine aw_aload_n (pc := 30) dX10_outcome_30 rfl ?_
      refine cx_gtC (pc := 31) 45 hE r1 fl_X10_84 rfl rfl (Nat.le_of_ble_eq_true rfl) dX10_outcome_31 ?_
      refine aw_iload_n (pc := 34) dX10_outcome_34 rfl ?_
      refine cx_callV (pc := 35) (P := pG) (dC := 0) (mcC := 0) (msC := 0) [iv p2] hE r45 (fun r1 H1 => s_X6_held l sc E R hE hR n p2 hp2 m27 r1 H1) ca_X10_112 rfl ⟨_, rfl, rfl⟩ rfl rfl (Nat.le_of_ble_eq_true rfl) (Nat.le_of_ble_eq_true rfl) (Nat.le_of_ble_eq_true rfl) (Nat.le_of_ble_eq_true rfl) dX10_outcome_35 H (fun x35 m35 v35 hh35 H hp => ?_)
      refine cx_backG hp ?_
      refine cx_callV (pc := 38) (P := pI) (dC := 3) (mcC := 0) (msC := 0) [rv x27.toNat, rv x35.toNat] hE r1 (fun r1 H1 => s_X10_sumOutcome l sc E R hE hR n x27.toNat x35.toNat m35 r1 H1) ca_X10_137 rfl ⟨_, rfl, rfl⟩ rfl rfl (Nat.le_of_ble_eq_true rfl) (Nat.le_of_ble_eq_true rfl) (Nat.le_of_ble_eq_true rfl) (Nat.le_of_ble_eq_true rfl) dX10_outcome_38 H (fun x38 m38 v38 hh38 H hp => ?_)
      refine cx_backI hp (fun hx38 => ?_)
      exact cx_iret (pc := 41) hx38 rfl (Nat.le_of_ble_eq_true rfl) (Nat.le_of_ble_eq_true rfl) dX10_outcome_41 H
/-- X10 weight (II)I -/
def f_X10_weight (n : Nat) (p1 : Int) (p2 : Int) (mi : Mem) : Option Rz :=
  cal (f_X10_isSlot n p1 mi) fun x1 m1 =>
  jn (fun (m14 : Mem) =>
    cal (f_X10_fail n (-1100000001) m14) fun x17 m17 =>
    rt x17 m17
  ) fun (j14 : Mem → Option Rz) =>
  if x1 = 0 then (
    j14 m1
  ) else
  cal (f_X10_isSlot n p2 m1) fun x8 m8 =>
  if x8 = 0 then (
    j14 m8
  ) else
  cal (f_X6_held n p2 m8) fun x26 m26 =>
  isD x26.toNat <|
  isG m26 x26.toNat <| cal (f_X1_isSmall n x26.toNat m26) fun x31 m31 =>
  if x31 = 0 then (
    cal (f_X10_fail n (-1100000003) m31) fun x40 m40 =>
    rt x40 m40
  ) else
  cal (f_X8_weigh n x26.toNat m31) fun x53 m53 =>
  cal (f_X4_written n x53 m53) fun x56 m56 =>
  cal (f_X10_settle n p1 x56.toNat m56) fun x65 m65 =>
  if x56.toNat = 0 then (
    rt x65 m65
  ) else
  isD x56.toNat <|
  isG m65 x56.toNat <| cal (f_X1_isInteger n x56.toNat m65) fun x80 m80 =>
  jn (fun (s0_91 : Int) (m91 : Mem) =>
    rt s0_91 m91
  ) fun (j91 : Int → Mem → Option Rz) =>
  if x80 = 0 then (
    j91 0 m80
  ) else
  j91 1 m80
set_option maxRecDepth 100000 in
set_option maxHeartbeats 4000000 in
theorem s_X10_weight (l : Launch) (sc : g_S) (E : Mem → g_H) (R : Nat → Prop) (hE : LE E R) (hR : RCL R) (hsc : sc.1 = 0) (n : Nat)  (p1 : Int) (p2 : Int) (hp1 : inR p1) (hp2 : inR p2) (mi : Mem) (r : Rz) (H : f_X10_weight n p1 p2 mi = some r) : AMet l sc yX10_weight cX10_weight 6 (some FieldType.int) 6 4 125 [.ref 1, iv p1, iv p2] (E mi) (pI E r) := by
  have r1 : R 1 := hR.1 1 (Nat.le_of_ble_eq_true rfl) (Nat.le_of_ble_eq_true rfl)
  have r18 : R 18 := hR.1 18 (Nat.le_of_ble_eq_true rfl) (Nat.le_of_ble_eq_true rfl)
  have r36 : R 36 := hR.1 36 (Nat.le_of_ble_eq_true rfl) (Nat.le_of_ble_eq_true rfl)
  have r45 : R 45 := hR.1 45 (Nat.le_of_ble_eq_true rfl) (Nat.le_of_ble_eq_true rfl)
  unfold f_X10_weight at H
  refine AMet.of (own := RX10) (by decide +kernel) rfl (Nat.le_of_ble_eq_true rfl) [(0, .ref 1), (1, iv p1), (2, iv p2)] rfl (fun D base ad => ?_)
  refine aw_iload_n (pc := 0) dX10_weight_0 rfl ?_
  refine cx_callS (pc := 1) (P := pI) (dC := 1) (mcC := 0) (msC := 0) [iv p1] (fun r1 H1 => s_X10_isSlot l sc E R hE hR n p1 hp1 mi r1 H1) ca_X10_103 rfl rfl (Nat.le_of_ble_eq_true rfl) (Nat.le_of_ble_eq_true rfl) (Nat.le_of_ble_eq_true rfl) (Nat.le_of_ble_eq_true rfl) dX10_weight_1 H (fun x1 m1 v1 hh1 H hp => ?_)
  refine cx_backI hp (fun hx1 => ?_)
  refine jn_ind (fun (f9 : Mem → Option Rz) => ∀ (m14 : Mem), f9 m14 = some r → AW l D base sc RX10 yX10_weight cX10_weight 6 (some FieldType.int) 6 4 125 ad (E mi) (pI E r) 0 0 (E m14) 14 [(0, .ref 1)] []) (fun m14 H => ?_) (fun j14 hj14 H => ?_) H
  · -- 14
    refine aw_aload_n (pc := 14) dX10_weight_14 rfl ?_
    refine cx_ldc (pc := 15) (-1100000001) dX10_weight_15 ct_X10_107 (by decide) ?_
    refine cx_callV (pc := 17) (P := pI) (dC := 1) (mcC := 0) (msC := 0) [iv (-1100000001)] hE r1 (fun r1 H1 => s_X10_fail l sc E R hE hR n (-1100000001) (inR_lit _ rfl) m14 r1 H1) ca_X10_108 rfl ⟨_, rfl, rfl⟩ rfl rfl (Nat.le_of_ble_eq_true rfl) (Nat.le_of_ble_eq_true rfl) (Nat.le_of_ble_eq_true rfl) (Nat.le_of_ble_eq_true rfl) dX10_weight_17 H (fun x17 m17 v17 hh17 H hp => ?_)
    refine cx_backI hp (fun hx17 => ?_)
    exact cx_iret (pc := 20) hx17 rfl (Nat.le_of_ble_eq_true rfl) (Nat.le_of_ble_eq_true rfl) dX10_weight_20 H
  refine cx_if_eq (pc := 4) 14 hx1 dX10_weight_4 rfl H (fun H => ?_) (fun H => ?_)
  · -- 4: 14
    exact AW.sel [0] rfl (hj14 _ H)
  · -- 4: 7
    refine aw_iload_n (pc := 7) dX10_weight_7 rfl ?_
    refine cx_callS (pc := 8) (P := pI) (dC := 1) (mcC := 0) (msC := 0) [iv p2] (fun r1 H1 => s_X10_isSlot l sc E R hE hR n p2 hp2 m1 r1 H1) ca_X10_103 rfl rfl (Nat.le_of_ble_eq_true rfl) (Nat.le_of_ble_eq_true rfl) (Nat.le_of_ble_eq_true rfl) (Nat.le_of_ble_eq_true rfl) dX10_weight_8 H (fun x8 m8 v8 hh8 H hp => ?_)
    refine cx_backI hp (fun hx8 => ?_)
    refine cx_if_ne (pc := 11) 21 hx8 dX10_weight_11 rfl H (fun H => ?_) (fun H => ?_)
    · -- 11: 14
      exact AW.sel [0] rfl (hj14 _ H)
    · -- 11: 21
      refine aw_aload_n (pc := 21) dX10_weight_21 rfl ?_
      refine cx_gtC (pc := 22) 45 hE r1 fl_X10_84 rfl rfl (Nat.le_of_ble_eq_true rfl) dX10_weight_22 ?_
      refine aw_iload_n (pc := 25) dX10_weight_25 rfl ?_
      refine cx_callV (pc := 26) (P := pG) (dC := 0) (mcC := 0) (msC := 0) [iv p2] hE r45 (fun r1 H1 => s_X6_held l sc E R hE hR n p2 hp2 m8 r1 H1) ca_X10_112 rfl ⟨_, rfl, rfl⟩ rfl rfl (Nat.le_of_ble_eq_true rfl) (Nat.le_of_ble_eq_true rfl) (Nat.le_of_ble_eq_true rfl) (Nat.le_of_ble_eq_true rfl) dX10_weight_26 H (fun x26 m26 v26 hh26 H hp => ?_)
      refine cx_backG hp ?_
      refine cx_astore_n (pc := 29) [(3, rv x26.toNat), (0, .ref 1), (1, iv p1), (2, iv p2)] dX10_weight_29 rfl (by decide) ?_
      refine cx_aload_n (pc := 30) dX10_weight_30 rfl ?_
      refine cx_nn0 H (fun hg31_1 H => ?_)
      refine cx_callG (pc := 31) (P := pI) (dC := 1) (mcC := 0) (msC := 0) [] hE hR.d (fun r1 H1 => s_X1_isSmall l sc E R hE hR.d n x26.toNat hg31_1 m26 r1 H1) ca_X10_141 ⟨_, rfl, rfl⟩ rfl rfl (Nat.le_of_ble_eq_true rfl) (Nat.le_of_ble_eq_true rfl) (Nat.le_of_ble_eq_true rfl) (Nat.le_of_ble_eq_true rfl) dX10_weight_31 H (fun x31 m31 v31 hh31 H hp => ?_)
      refine cx_backI hp (fun hx31 => ?_)
      refine cx_if_ne (pc := 34) 44 hx31 dX10_weight_34 rfl H (fun H => ?_) (fun H => ?_)
      · -- 34: 37
        refine aw_aload_n (pc := 37) dX10_weight_37 rfl ?_
        refine cx_ldc (pc := 38) (-1100000003) dX10_weight_38 ct_X10_220 (by decide) ?_
        refine cx_callV (pc := 40) (P := pI) (dC := 1) (mcC := 0) (msC := 0) [iv (-1100000003)] hE r1 (fun r1 H1 => s_X10_fail l sc E R hE hR n (-1100000003) (inR_lit _ rfl) m31 r1 H1) ca_X10_108 rfl ⟨_, rfl, rfl⟩ rfl rfl (Nat.le_of_ble_eq_true rfl) (Nat.le_of_ble_eq_true rfl) (Nat.le_of_ble_eq_true rfl) (Nat.le_of_ble_eq_true rfl) dX10_weight_40 H (fun x40 m40 v40 hh40 H hp => ?_)
        refine cx_backI hp (fun hx40 => ?_)
        exact cx_iret (pc := 43) hx40 rfl (Nat.le_of_ble_eq_true rfl) (Nat.le_of_ble_eq_true rfl) dX10_weight_43 H
      · -- 34: 44
        refine aw_aload_n (pc := 44) dX10_weight_44 rfl ?_
        refine cx_gtC (pc := 45) 18 hE r1 fl_X10_21 rfl rfl (Nat.le_of_ble_eq_true rfl) dX10_weight_45 ?_
        refine aw_aload_n (pc := 48) dX10_weight_48 rfl ?_
        refine cx_gtC (pc := 49) 36 hE r1 fl_X10_56 rfl rfl (Nat.le_of_ble_eq_true rfl) dX10_weight_49 ?_
        refine cx_aload_n (pc := 52) dX10_weight_52 rfl ?_
        refine cx_callV (pc := 53) (P := pI) (dC := 5) (mcC := 0) (msC := 0) [rv x26.toNat] hE r36 (fun r1 H1 => s_X8_weigh l sc E R hE hR n x26.toNat m31 r1 H1) ca_X10_221 rfl ⟨_, rfl, rfl⟩ rfl rfl (Nat.le_of_ble_eq_true rfl) (Nat.le_of_ble_eq_true rfl) (Nat.le_of_ble_eq_true rfl) (Nat.le_of_ble_eq_true rfl) dX10_weight_53 H (fun x53 m53 v53 hh53 H hp => ?_)
        refine cx_backI hp (fun hx53 => ?_)
        refine cx_callV (pc := 56) (P := pG) (dC := 4) (mcC := 4) (msC := 125) [iv x53] hE r18 (fun r1 H1 => s_X4_written l sc E R hE hR.ys hsc n x53 hx53 m53 r1 H1) ca_X10_225 rfl ⟨_, rfl, rfl⟩ rfl rfl (Nat.le_of_ble_eq_true rfl) (Nat.le_of_ble_eq_true rfl) (Nat.le_of_ble_eq_true rfl) (Nat.le_of_ble_eq_true rfl) dX10_weight_56 H (fun x56 m56 v56 hh56 H hp => ?_)
        refine cx_backG hp ?_
        refine cx_astore (pc := 59) [(4, rv x56.toNat), (3, rv x26.toNat), (0, .ref 1), (1, iv p1), (2, iv p2)] dX10_weight_59 (by unfold g_st1; simp only [List.filter, rv_cat]; rfl) (by decide) ?_
        refine aw_aload_n (pc := 61) dX10_weight_61 rfl ?_
        refine aw_iload_n (pc := 62) dX10_weight_62 rfl ?_
        refine cx_aload (pc := 63) dX10_weight_63 rfl ?_
        refine cx_callV (pc := 65) (P := pI) (dC := 2) (mcC := 0) (msC := 0) [iv p1, rv x56.toNat] hE r1 (fun r1 H1 => s_X10_settle l sc E R hE hR n p1 x56.toNat hp1 m56 r1 H1) ca_X10_166 rfl ⟨_, rfl, rfl⟩ rfl rfl (Nat.le_of_ble_eq_true rfl) (Nat.le_of_ble_eq_true rfl) (Nat.le_of_ble_eq_true rfl) (Nat.le_of_ble_eq_true rfl) dX10_weight_65 H (fun x65 m65 v65 hh65 H hp => ?_)
        refine cx_backI hp (fun hx65 => ?_)
        refine aw_istore (pc := 68) [(5, iv x65), (4, rv x56.toNat), (3, rv x26.toNat), (0, .ref 1), (1, iv p1), (2, iv p2)] dX10_weight_68 (by unfold g_st1; simp only [List.filter, rv_cat]; rfl) (by decide) ?_
        refine cx_aload (pc := 70) dX10_weight_70 rfl ?_
        refine cx_ifnonnull (pc := 72) 78 dX10_weight_72 rfl H (fun H => ?_) (fun H => ?_)
        · -- 72: 75
          refine aw_iload (pc := 75) dX10_weight_75 rfl ?_
          exact cx_iret (pc := 77) hx65 rfl (Nat.le_of_ble_eq_true rfl) (Nat.le_of_ble_eq_true rfl) dX10_weight_77 H
        · -- 72: 78
          refine cx_aload (pc := 78) dX10_weight_78 rfl ?_
          refine cx_nn0 H (fun hg80_2 H => ?_)
          refine cx_callG (pc := 80) (P := pI) (dC := 1) (mcC := 0) (msC := 0) [] hE hR.d (fun r1 H1 => s_X1_isInteger l sc E R hE hR.d n x56.toNat hg80_2 m65 r1 H1) ca_X10_152 ⟨_, rfl, rfl⟩ rfl rfl (Nat.le_of_ble_eq_true rfl) (Nat.le_of_ble_eq_true rfl) (Nat.le_of_ble_eq_true rfl) (Nat.le_of_ble_eq_true rfl) dX10_weight_80 H (fun x80 m80 v80 hh80 H hp => ?_)
          refine cx_backI hp (fun hx80 => ?_)
          refine jn_ind (fun (f9 : Int → Mem → Option Rz) => ∀ (s0_91 : Int) (m91 : Mem), inR s0_91 → f9 s0_91 m91 = some r → AW l D base sc RX10 yX10_weight cX10_weight 6 (some FieldType.int) 6 4 125 ad (E mi) (pI E r) 4 125 (E m91) 91 [] [iv s0_91]) (fun s0_91 m91 hs0_91 H => ?_) (fun j91 hj91 H => ?_) H
          · -- 91
            exact cx_iret (pc := 91) hs0_91 rfl (Nat.le_of_ble_eq_true rfl) (Nat.le_of_ble_eq_true rfl) dX10_weight_91 H
          refine cx_if_eq (pc := 83) 90 hx80 dX10_weight_83 rfl H (fun H => ?_) (fun H => ?_)
          · -- 83: 90
            refine cx_iconst (pc := 90) dX10_weight_90 ?_
            exact AW.sel [] rfl (hj91 _ _ (inR_lit _ rfl) H)
          · -- 83: 86
            refine cx_iconst (pc := 86) dX10_weight_86 ?_
            refine aw_goto (pc := 87) 91 dX10_weight_87 rfl ?_
            exact AW.sel [] rfl (hj91 _ _ (inR_lit _ rfl) H)
/-- X10 atomic (I)I -/
def f_X10_atomic (n : Nat) (p1 : Int) (mi : Mem) : Option Rz :=
  cal (f_X10_isSlot n p1 mi) fun x1 m1 =>
  if x1 = 0 then (
    cal (f_X10_fail n (-1100000001) m1) fun x10 m10 =>
    rt x10 m10
  ) else
  cal (f_X6_held n p1 m1) fun x19 m19 =>
  isD x19.toNat <|
  isG m19 x19.toNat <| cal (f_X1_isSmall n x19.toNat m19) fun x24 m24 =>
  if x24 = 0 then (
    cal (f_X10_fail n (-1100000003) m24) fun x33 m33 =>
    rt x33 m33
  ) else
  cal (f_X8_weigh n x19.toNat m24) fun x42 m42 =>
  cal (f_X9_isWhole n x42 m42) fun x51 m51 =>
  jn (fun (s0_74 : Int) (m74 : Mem) =>
    rt s0_74 m74
  ) fun (j74 : Int → Mem → Option Rz) =>
  if x51 = 0 then (
    cal (f_X10_fail n (-1100000002) m51) fun x71 m71 =>
    j74 x71 m71
  ) else
  cal (f_X9_valueOf n x42 m51) fun x62 m62 =>
  j74 x62 m62
set_option maxRecDepth 100000 in
set_option maxHeartbeats 4000000 in
theorem s_X10_atomic (l : Launch) (sc : g_S) (E : Mem → g_H) (R : Nat → Prop) (hE : LE E R) (hR : RCL R) (n : Nat)  (p1 : Int) (hp1 : inR p1) (mi : Mem) (r : Rz) (H : f_X10_atomic n p1 mi = some r) : AMet l sc yX10_atomic cX10_atomic 4 (some FieldType.int) 6 0 0 [.ref 1, iv p1] (E mi) (pI E r) := by
  have r1 : R 1 := hR.1 1 (Nat.le_of_ble_eq_true rfl) (Nat.le_of_ble_eq_true rfl)
  have r4 : R 4 := hR.1 4 (Nat.le_of_ble_eq_true rfl) (Nat.le_of_ble_eq_true rfl)
  have r36 : R 36 := hR.1 36 (Nat.le_of_ble_eq_true rfl) (Nat.le_of_ble_eq_true rfl)
  have r45 : R 45 := hR.1 45 (Nat.le_of_ble_eq_true rfl) (Nat.le_of_ble_eq_true rfl)
  unfold f_X10_atomic at H
  refine AMet.of (own := RX10) (by decide +kernel) rfl (Nat.le_of_ble_eq_true rfl) [(0, .ref 1), (1, iv p1)] rfl (fun D base ad => ?_)
  refine aw_iload_n (pc := 0) dX10_atomic_0 rfl ?_
  refine cx_callS (pc := 1) (P := pI) (dC := 1) (mcC := 0) (msC := 0) [iv p1] (fun r1 H1 => s_X10_isSlot l sc E R hE hR n p1 hp1 mi r1 H1) ca_X10_103 rfl rfl (Nat.le_of_ble_eq_true rfl) (Nat.le_of_ble_eq_true rfl) (Nat.le_of_ble_eq_true rfl) (Nat.le_of_ble_eq_true rfl) dX10_atomic_1 H (fun x1 m1 v1 hh1 H hp => ?_)
  refine cx_backI hp (fun hx1 => ?_)
  refine cx_if_ne (pc := 4) 14 hx1 dX10_atomic_4 rfl H (fun H => ?_) (fun H => ?_)
  · -- 4: 7
    refine aw_aload_n (pc := 7) dX10_atomic_7 rfl ?_
    refine cx_ldc (pc := 8) (-1100000001) dX10_atomic_8 ct_X10_107 (by decide) ?_
    refine cx_callV (pc := 10) (P := pI) (dC := 1) (mcC := 0) (msC := 0) [iv (-1100000001)] hE r1 (fun r1 H1 => s_X10_fail l sc E R hE hR n (-1100000001) (inR_lit _ rfl) m1 r1 H1) ca_X10_108 rfl ⟨_, rfl, rfl⟩ rfl rfl (Nat.le_of_ble_eq_true rfl) (Nat.le_of_ble_eq_true rfl) (Nat.le_of_ble_eq_true rfl) (Nat.le_of_ble_eq_true rfl) dX10_atomic_10 H (fun x10 m10 v10 hh10 H hp => ?_)
    refine cx_backI hp (fun hx10 => ?_)
    exact cx_iret (pc := 13) hx10 rfl (Nat.le_of_ble_eq_true rfl) (Nat.le_of_ble_eq_true rfl) dX10_atomic_13 H
  · -- 4: 14
    refine aw_aload_n (pc := 14) dX10_atomic_14 rfl ?_
    refine cx_gtC (pc := 15) 45 hE r1 fl_X10_84 rfl rfl (Nat.le_of_ble_eq_true rfl) dX10_atomic_15 ?_
    refine aw_iload_n (pc := 18) dX10_atomic_18 rfl ?_
    refine cx_callV (pc := 19) (P := pG) (dC := 0) (mcC := 0) (msC := 0) [iv p1] hE r45 (fun r1 H1 => s_X6_held l sc E R hE hR n p1 hp1 m1 r1 H1) ca_X10_112 rfl ⟨_, rfl, rfl⟩ rfl rfl (Nat.le_of_ble_eq_true rfl) (Nat.le_of_ble_eq_true rfl) (Nat.le_of_ble_eq_true rfl) (Nat.le_of_ble_eq_true rfl) dX10_atomic_19 H (fun x19 m19 v19 hh19 H hp => ?_)
    refine cx_backG hp ?_
    refine cx_astore_n (pc := 22) [(2, rv x19.toNat), (0, .ref 1), (1, iv p1)] dX10_atomic_22 rfl (by decide) ?_
    refine cx_aload_n (pc := 23) dX10_atomic_23 rfl ?_
    refine cx_nn0 H (fun hg24_1 H => ?_)
    refine cx_callG (pc := 24) (P := pI) (dC := 1) (mcC := 0) (msC := 0) [] hE hR.d (fun r1 H1 => s_X1_isSmall l sc E R hE hR.d n x19.toNat hg24_1 m19 r1 H1) ca_X10_141 ⟨_, rfl, rfl⟩ rfl rfl (Nat.le_of_ble_eq_true rfl) (Nat.le_of_ble_eq_true rfl) (Nat.le_of_ble_eq_true rfl) (Nat.le_of_ble_eq_true rfl) dX10_atomic_24 H (fun x24 m24 v24 hh24 H hp => ?_)
    refine cx_backI hp (fun hx24 => ?_)
    refine cx_if_ne (pc := 27) 37 hx24 dX10_atomic_27 rfl H (fun H => ?_) (fun H => ?_)
    · -- 27: 30
      refine aw_aload_n (pc := 30) dX10_atomic_30 rfl ?_
      refine cx_ldc (pc := 31) (-1100000003) dX10_atomic_31 ct_X10_220 (by decide) ?_
      refine cx_callV (pc := 33) (P := pI) (dC := 1) (mcC := 0) (msC := 0) [iv (-1100000003)] hE r1 (fun r1 H1 => s_X10_fail l sc E R hE hR n (-1100000003) (inR_lit _ rfl) m24 r1 H1) ca_X10_108 rfl ⟨_, rfl, rfl⟩ rfl rfl (Nat.le_of_ble_eq_true rfl) (Nat.le_of_ble_eq_true rfl) (Nat.le_of_ble_eq_true rfl) (Nat.le_of_ble_eq_true rfl) dX10_atomic_33 H (fun x33 m33 v33 hh33 H hp => ?_)
      refine cx_backI hp (fun hx33 => ?_)
      exact cx_iret (pc := 36) hx33 rfl (Nat.le_of_ble_eq_true rfl) (Nat.le_of_ble_eq_true rfl) dX10_atomic_36 H
    · -- 27: 37
      refine aw_aload_n (pc := 37) dX10_atomic_37 rfl ?_
      refine cx_gtC (pc := 38) 36 hE r1 fl_X10_56 rfl rfl (Nat.le_of_ble_eq_true rfl) dX10_atomic_38 ?_
      refine cx_aload_n (pc := 41) dX10_atomic_41 rfl ?_
      refine cx_callV (pc := 42) (P := pI) (dC := 5) (mcC := 0) (msC := 0) [rv x19.toNat] hE r36 (fun r1 H1 => s_X8_weigh l sc E R hE hR n x19.toNat m24 r1 H1) ca_X10_221 rfl ⟨_, rfl, rfl⟩ rfl rfl (Nat.le_of_ble_eq_true rfl) (Nat.le_of_ble_eq_true rfl) (Nat.le_of_ble_eq_true rfl) (Nat.le_of_ble_eq_true rfl) dX10_atomic_42 H (fun x42 m42 v42 hh42 H hp => ?_)
      refine cx_backI hp (fun hx42 => ?_)
      refine aw_istore_n (pc := 45) [(3, iv x42), (2, rv x19.toNat), (0, .ref 1), (1, iv p1)] dX10_atomic_45 (by unfold g_st1; simp only [List.filter, rv_cat]; rfl) (by decide) ?_
      refine aw_aload_n (pc := 46) dX10_atomic_46 rfl ?_
      refine cx_gtC (pc := 47) 4 hE r1 fl_X10_12 rfl rfl (Nat.le_of_ble_eq_true rfl) dX10_atomic_47 ?_
      refine aw_iload_n (pc := 50) dX10_atomic_50 rfl ?_
      refine cx_callV (pc := 51) (P := pI) (dC := 1) (mcC := 0) (msC := 0) [iv x42] hE r4 (fun r1 H1 => s_X9_isWhole l sc E R hE hR.ys n x42 hx42 m42 r1 H1) ca_X10_228 rfl ⟨_, rfl, rfl⟩ rfl rfl (Nat.le_of_ble_eq_true rfl) (Nat.le_of_ble_eq_true rfl) (Nat.le_of_ble_eq_true rfl) (Nat.le_of_ble_eq_true rfl) dX10_atomic_51 H (fun x51 m51 v51 hh51 H hp => ?_)
      refine cx_backI hp (fun hx51 => ?_)
      refine jn_ind (fun (f9 : Int → Mem → Option Rz) => ∀ (s0_74 : Int) (m74 : Mem), inR s0_74 → f9 s0_74 m74 = some r → AW l D base sc RX10 yX10_atomic cX10_atomic 4 (some FieldType.int) 6 0 0 ad (E mi) (pI E r) 0 0 (E m74) 74 [] [iv s0_74]) (fun s0_74 m74 hs0_74 H => ?_) (fun j74 hj74 H => ?_) H
      · -- 74
        exact cx_iret (pc := 74) hs0_74 rfl (Nat.le_of_ble_eq_true rfl) (Nat.le_of_ble_eq_true rfl) dX10_atomic_74 H
      refine cx_if_eq (pc := 54) 68 hx51 dX10_atomic_54 rfl H (fun H => ?_) (fun H => ?_)
      · -- 54: 68
        refine aw_aload_n (pc := 68) dX10_atomic_68 rfl ?_
        refine cx_ldc (pc := 69) (-1100000002) dX10_atomic_69 ct_X10_158 (by decide) ?_
        refine cx_callV (pc := 71) (P := pI) (dC := 1) (mcC := 0) (msC := 0) [iv (-1100000002)] hE r1 (fun r1 H1 => s_X10_fail l sc E R hE hR n (-1100000002) (inR_lit _ rfl) m51 r1 H1) ca_X10_108 rfl ⟨_, rfl, rfl⟩ rfl rfl (Nat.le_of_ble_eq_true rfl) (Nat.le_of_ble_eq_true rfl) (Nat.le_of_ble_eq_true rfl) (Nat.le_of_ble_eq_true rfl) dX10_atomic_71 H (fun x71 m71 v71 hh71 H hp => ?_)
        refine cx_backI hp (fun hx71 => ?_)
        exact AW.sel [] rfl (hj74 _ _ hx71 H)
      · -- 54: 57
        refine aw_aload_n (pc := 57) dX10_atomic_57 rfl ?_
        refine cx_gtC (pc := 58) 4 hE r1 fl_X10_12 rfl rfl (Nat.le_of_ble_eq_true rfl) dX10_atomic_58 ?_
        refine aw_iload_n (pc := 61) dX10_atomic_61 rfl ?_
        refine cx_callV (pc := 62) (P := pI) (dC := 2) (mcC := 0) (msC := 0) [iv x42] hE r4 (fun r1 H1 => s_X9_valueOf l sc E R hE hR.ys n x42 hx42 m51 r1 H1) ca_X10_231 rfl ⟨_, rfl, rfl⟩ rfl rfl (Nat.le_of_ble_eq_true rfl) (Nat.le_of_ble_eq_true rfl) (Nat.le_of_ble_eq_true rfl) (Nat.le_of_ble_eq_true rfl) dX10_atomic_62 H (fun x62 m62 v62 hh62 H hp => ?_)
        refine cx_backI hp (fun hx62 => ?_)
        refine aw_goto (pc := 65) 74 dX10_atomic_65 rfl ?_
        exact AW.sel [] rfl (hj74 _ _ hx62 H)
/-- X10 ahead (I)I -/
def f_X10_ahead (n : Nat) (p1 : Int) (mi : Mem) : Option Rz :=
  cal (f_X10_isSlot n p1 mi) fun x1 m1 =>
  if x1 = 0 then (
    cal (f_X10_fail n (-1100000001) m1) fun x10 m10 =>
    rt x10 m10
  ) else
  cal (f_X6_held n p1 m1) fun x19 m19 =>
  isD x19.toNat <|
  isG m19 x19.toNat <| cal (f_X1_isSmall n x19.toNat m19) fun x24 m24 =>
  if x24 = 0 then (
    cal (f_X10_fail n (-1100000003) m24) fun x33 m33 =>
    rt x33 m33
  ) else
  cal (f_X8_weigh n x19.toNat m24) fun x42 m42 =>
  cal (f_X9_isWhole n x42 m42) fun x51 m51 =>
  jn (fun (s0_69 : Int) (m69 : Mem) =>
    if s0_69 < 2 then (
      jn (fun (s0_91 : Int) (m91 : Mem) =>
        rt s0_91 m91
      ) fun (j91 : Int → Mem → Option Rz) =>
      if (-2) < s0_69 then (
        j91 0 m69
      ) else
      j91 (-1) m69
    ) else
    rt 1 m69
  ) fun (j69 : Int → Mem → Option Rz) =>
  if x51 = 0 then (
    j69 0 m51
  ) else
  cal (f_X9_valueOf n x42 m51) fun x62 m62 =>
  j69 x62 m62
set_option maxRecDepth 100000 in
set_option maxHeartbeats 4000000 in
theorem s_X10_ahead (l : Launch) (sc : g_S) (E : Mem → g_H) (R : Nat → Prop) (hE : LE E R) (hR : RCL R) (n : Nat)  (p1 : Int) (hp1 : inR p1) (mi : Mem) (r : Rz) (H : f_X10_ahead n p1 mi = some r) : AMet l sc yX10_ahead cX10_ahead 5 (some FieldType.int) 6 0 0 [.ref 1, iv p1] (E mi) (pI E r) := by
  have r1 : R 1 := hR.1 1 (Nat.le_of_ble_eq_true rfl) (Nat.le_of_ble_eq_true rfl)
  have r4 : R 4 := hR.1 4 (Nat.le_of_ble_eq_true rfl) (Nat.le_of_ble_eq_true rfl)
  have r36 : R 36 := hR.1 36 (Nat.le_of_ble_eq_true rfl) (Nat.le_of_ble_eq_true rfl)
  have r45 : R 45 := hR.1 45 (Nat.le_of_ble_eq_true rfl) (Nat.le_of_ble_eq_true rfl)
  unfold f_X10_ahead at H
  refine AMet.of (own := RX10) (by decide +kernel) rfl (Nat.le_of_ble_eq_true rfl) [(0, .ref 1), (1, iv p1)] rfl (fun D base ad => ?_)
  refine aw_iload_n (pc := 0) dX10_ahead_0 rfl ?_
  refine cx_callS (pc := 1) (P := pI) (dC := 1) (mcC := 0) (msC := 0) [iv p1] (fun r1 H1 => s_X10_isSlot l sc E R hE hR n p1 hp1 mi r1 H1) ca_X10_103 rfl rfl (Nat.le_of_ble_eq_true rfl) (Nat.le_of_ble_eq_true rfl) (Nat.le_of_ble_eq_true rfl) (Nat.le_of_ble_eq_true rfl) dX10_ahead_1 H (fun x1 m1 v1 hh1 H hp => ?_)
  refine cx_backI hp (fun hx1 => ?_)
  refine cx_if_ne (pc := 4) 14 hx1 dX10_ahead_4 rfl H (fun H => ?_) (fun H => ?_)
  · -- 4: 7
    refine aw_aload_n (pc := 7) dX10_ahead_7 rfl ?_
    refine cx_ldc (pc := 8) (-1100000001) dX10_ahead_8 ct_X10_107 (by decide) ?_
    refine cx_callV (pc := 10) (P := pI) (dC := 1) (mcC := 0) (msC := 0) [iv (-1100000001)] hE r1 (fun r1 H1 => s_X10_fail l sc E R hE hR n (-1100000001) (inR_lit _ rfl) m1 r1 H1) ca_X10_108 rfl ⟨_, rfl, rfl⟩ rfl rfl (Nat.le_of_ble_eq_true rfl) (Nat.le_of_ble_eq_true rfl) (Nat.le_of_ble_eq_true rfl) (Nat.le_of_ble_eq_true rfl) dX10_ahead_10 H (fun x10 m10 v10 hh10 H hp => ?_)
    refine cx_backI hp (fun hx10 => ?_)
    exact cx_iret (pc := 13) hx10 rfl (Nat.le_of_ble_eq_true rfl) (Nat.le_of_ble_eq_true rfl) dX10_ahead_13 H
  · -- 4: 14
    refine aw_aload_n (pc := 14) dX10_ahead_14 rfl ?_
    refine cx_gtC (pc := 15) 45 hE r1 fl_X10_84 rfl rfl (Nat.le_of_ble_eq_true rfl) dX10_ahead_15 ?_
    refine aw_iload_n (pc := 18) dX10_ahead_18 rfl ?_
    refine cx_callV (pc := 19) (P := pG) (dC := 0) (mcC := 0) (msC := 0) [iv p1] hE r45 (fun r1 H1 => s_X6_held l sc E R hE hR n p1 hp1 m1 r1 H1) ca_X10_112 rfl ⟨_, rfl, rfl⟩ rfl rfl (Nat.le_of_ble_eq_true rfl) (Nat.le_of_ble_eq_true rfl) (Nat.le_of_ble_eq_true rfl) (Nat.le_of_ble_eq_true rfl) dX10_ahead_19 H (fun x19 m19 v19 hh19 H hp => ?_)
    refine cx_backG hp ?_
    refine cx_astore_n (pc := 22) [(2, rv x19.toNat), (0, .ref 1), (1, iv p1)] dX10_ahead_22 rfl (by decide) ?_
    refine cx_aload_n (pc := 23) dX10_ahead_23 rfl ?_
    refine cx_nn0 H (fun hg24_1 H => ?_)
    refine cx_callG (pc := 24) (P := pI) (dC := 1) (mcC := 0) (msC := 0) [] hE hR.d (fun r1 H1 => s_X1_isSmall l sc E R hE hR.d n x19.toNat hg24_1 m19 r1 H1) ca_X10_141 ⟨_, rfl, rfl⟩ rfl rfl (Nat.le_of_ble_eq_true rfl) (Nat.le_of_ble_eq_true rfl) (Nat.le_of_ble_eq_true rfl) (Nat.le_of_ble_eq_true rfl) dX10_ahead_24 H (fun x24 m24 v24 hh24 H hp => ?_)
    refine cx_backI hp (fun hx24 => ?_)
    refine cx_if_ne (pc := 27) 37 hx24 dX10_ahead_27 rfl H (fun H => ?_) (fun H => ?_)
    · -- 27: 30
      refine aw_aload_n (pc := 30) dX10_ahead_30 rfl ?_
      refine cx_ldc (pc := 31) (-1100000003) dX10_ahead_31 ct_X10_220 (by decide) ?_
      refine cx_callV (pc := 33) (P := pI) (dC := 1) (mcC := 0) (msC := 0) [iv (-1100000003)] hE r1 (fun r1 H1 => s_X10_fail l sc E R hE hR n (-1100000003) (inR_lit _ rfl) m24 r1 H1) ca_X10_108 rfl ⟨_, rfl, rfl⟩ rfl rfl (Nat.le_of_ble_eq_true rfl) (Nat.le_of_ble_eq_true rfl) (Nat.le_of_ble_eq_true rfl) (Nat.le_of_ble_eq_true rfl) dX10_ahead_33 H (fun x33 m33 v33 hh33 H hp => ?_)
      refine cx_backI hp (fun hx33 => ?_)
      exact cx_iret (pc := 36) hx33 rfl (Nat.le_of_ble_eq_true rfl) (Nat.le_of_ble_eq_true rfl) dX10_ahead_36 H
    · -- 27: 37
      refine aw_aload_n (pc := 37) dX10_ahead_37 rfl ?_
      refine cx_gtC (pc := 38) 36 hE r1 fl_X10_56 rfl rfl (Nat.le_of_ble_eq_true rfl) dX10_ahead_38 ?_
      refine cx_aload_n (pc := 41) dX10_ahead_41 rfl ?_
      refine cx_callV (pc := 42) (P := pI) (dC := 5) (mcC := 0) (msC := 0) [rv x19.toNat] hE r36 (fun r1 H1 => s_X8_weigh l sc E R hE hR n x19.toNat m24 r1 H1) ca_X10_221 rfl ⟨_, rfl, rfl⟩ rfl rfl (Nat.le_of_ble_eq_true rfl) (Nat.le_of_ble_eq_true rfl) (Nat.le_of_ble_eq_true rfl) (Nat.le_of_ble_eq_true rfl) dX10_ahead_42 H (fun x42 m42 v42 hh42 H hp => ?_)
      refine cx_backI hp (fun hx42 => ?_)
      refine aw_istore_n (pc := 45) [(3, iv x42), (2, rv x19.toNat), (0, .ref 1), (1, iv p1)] dX10_ahead_45 (by unfold g_st1; simp only [List.filter, rv_cat]; rfl) (by decide) ?_
      refine aw_aload_n (pc := 46) dX10_ahead_46 rfl ?_
      refine cx_gtC (pc := 47) 4 hE r1 fl_X10_12 rfl rfl (Nat.le_of_ble_eq_true rfl) dX10_ahead_47 ?_
      refine aw_iload_n (pc := 50) dX10_ahead_50 rfl ?_
      refine cx_callV (pc := 51) (P := pI) (dC := 1) (mcC := 0) (msC := 0) [iv x42] hE r4 (fun r1 H1 => s_X9_isWhole l sc E R hE hR.ys n x42 hx42 m42 r1 H1) ca_X10_228 rfl ⟨_, rfl, rfl⟩ rfl rfl (Nat.le_of_ble_eq_true rfl) (Nat.le_of_ble_eq_true rfl) (Nat.le_of_ble_eq_true rfl) (Nat.le_of_ble_eq_true rfl) dX10_ahead_51 H (fun x51 m51 v51 hh51 H hp => ?_)
      refine cx_backI hp (fun hx51 => ?_)
      refine jn_ind (fun (f9 : Int → Mem → Option Rz) => ∀ (s0_69 : Int) (m69 : Mem), inR s0_69 → f9 s0_69 m69 = some r → AW l D base sc RX10 yX10_ahead cX10_ahead 5 (some FieldType.int) 6 0 0 ad (E mi) (pI E r) 0 0 (E m69) 69 [] [iv s0_69]) (fun s0_69 m69 hs0_69 H => ?_) (fun j69 hj69 H => ?_) H
      · -- 69
        refine aw_istore (pc := 69) [(4, iv s0_69)] dX10_ahead_69 rfl (by decide) ?_
        refine aw_iload (pc := 71) dX10_ahead_71 rfl ?_
        refine cx_iconst (pc := 73) dX10_ahead_73 ?_
        refine cx_icmp_lt (pc := 74) 79 hs0_69 (inR_lit _ rfl) dX10_ahead_74 rfl H (fun H => ?_) (fun H => ?_)
        · -- 74: 79
          refine aw_iload (pc := 79) dX10_ahead_79 rfl ?_
          refine cx_bipush (pc := 81) dX10_ahead_81 (by decide) ?_
          refine jn_ind (fun (f9 : Int → Mem → Option Rz) => ∀ (s0_91 : Int) (m91 : Mem), inR s0_91 → f9 s0_91 m91 = some r → AW l D base sc RX10 yX10_ahead cX10_ahead 5 (some FieldType.int) 6 0 0 ad (E mi) (pI E r) 0 0 (E m91) 91 [] [iv s0_91]) (fun s0_91 m91 hs0_91 H => ?_) (fun j91 hj91 H => ?_) H
          · -- 91
            exact cx_iret (pc := 91) hs0_91 rfl (Nat.le_of_ble_eq_true rfl) (Nat.le_of_ble_eq_true rfl) dX10_ahead_91 H
          refine cx_icmp_gt (pc := 83) 90 hs0_69 (inR_lit _ rfl) dX10_ahead_83 rfl H (fun H => ?_) (fun H => ?_)
          · -- 83: 90
            refine cx_iconst (pc := 90) dX10_ahead_90 ?_
            exact AW.sel [] rfl (hj91 _ _ (inR_lit _ rfl) H)
          · -- 83: 86
            refine cx_iconst (pc := 86) dX10_ahead_86 ?_
            refine aw_goto (pc := 87) 91 dX10_ahead_87 rfl ?_
            exact AW.sel [] rfl (hj91 _ _ (inR_lit _ rfl) H)
        · -- 74: 77
          refine cx_iconst (pc := 77) dX10_ahead_77 ?_
          exact cx_iret (pc := 78) (inR_lit _ rfl) rfl (Nat.le_of_ble_eq_true rfl) (Nat.le_of_ble_eq_true rfl) dX10_ahead_78 H
      refine cx_if_eq (pc := 54) 68 hx51 dX10_ahead_54 rfl H (fun H => ?_) (fun H => ?_)
      · -- 54: 68
        refine cx_iconst (pc := 68) dX10_ahead_68 ?_
        exact AW.sel [] rfl (hj69 _ _ (inR_lit _ rfl) H)
      · -- 54: 57
        refine aw_aload_n (pc := 57) dX10_ahead_57 rfl ?_
        refine cx_gtC (pc := 58) 4 hE r1 fl_X10_12 rfl rfl (Nat.le_of_ble_eq_true rfl) dX10_ahead_58 ?_
        refine aw_iload_n (pc := 61) dX10_ahead_61 rfl ?_
        refine cx_callV (pc := 62) (P := pI) (dC := 2) (mcC := 0) (msC := 0) [iv x42] hE r4 (fun r1 H1 => s_X9_valueOf l sc E R hE hR.ys n x42 hx42 m51 r1 H1) ca_X10_231 rfl ⟨_, rfl, rfl⟩ rfl rfl (Nat.le_of_ble_eq_true rfl) (Nat.le_of_ble_eq_true rfl) (Nat.le_of_ble_eq_true rfl) (Nat.le_of_ble_eq_true rfl) dX10_ahead_62 H (fun x62 m62 v62 hh62 H hp => ?_)
        refine cx_backI hp (fun hx62 => ?_)
        refine aw_goto (pc := 65) 69 dX10_ahead_65 rfl ?_
        exact AW.sel [] rfl (hj69 _ _ hx62 H)
/-- X10 garden (I)I -/
def f_X10_garden (n : Nat) (p1 : Int) (mi : Mem) : Option Rz :=
  cal (f_X10_isSet n p1 mi) fun x1 m1 =>
  if x1 = 0 then (
    cal (f_X10_fail n (-1100000001) m1) fun x10 m10 =>
    rt x10 m10
  ) else
  lp (F := Int → Mem → Option Rz) (fun _ _ => none) (fun w16 v2_16 m16 =>
    if v2_16 < 8 then (
      cal (f_X10_isIn n p1 v2_16 m16) fun x24 m24 =>
      jn (fun (m51 : Mem) =>
        w16 (w32 (v2_16 + 1)) m51
      ) fun (j51 : Mem → Option Rz) =>
      if x24 = 0 then (
        j51 m24
      ) else
      cal (f_X6_held n v2_16 m24) fun x35 m35 =>
      isD x35.toNat <|
      isG m35 x35.toNat <| cal (f_X1_isSmall n x35.toNat m35) fun x38 m38 =>
      if x38 = 0 then (
        cal (f_X10_fail n (-1100000003) m38) fun x47 m47 =>
        rt x47 m47
      ) else
      j51 m38
    ) else
    lp (F := Int → Int → Mem → Option Rz) (fun _ _ _ => none) (fun w61 v2_61 v3_61 m61 =>
      if v3_61 < 8 then (
        cal (f_X10_isIn n p1 v3_61 m61) fun x69 m69 =>
        jn (fun (v2_123 : Int) (m123 : Mem) =>
          w61 v2_123 (w32 (v3_61 + 1)) m123
        ) fun (j123 : Int → Mem → Option Rz) =>
        if x69 = 0 then (
          j123 v2_61 m69
        ) else
        cal (f_X6_held n v3_61 m69) fun x84 m84 =>
        cal (f_X8_weigh n x84.toNat m84) fun x87 m87 =>
        cal (f_X9_isWhole n x87 m87) fun x98 m98 =>
        if x98 = 0 then (
          cal (f_X10_fail n (-1100000002) m98) fun x107 m107 =>
          rt x107 m107
        ) else
        cal (f_X9_valueOf n x87 m98) fun x118 m118 =>
        nm (w32 (v2_61 + x118)) fun z122 =>
        j123 z122 m118
      ) else
      rt v2_61 m61
    ) n 0 0 m16
  ) n 0 m1
set_option maxRecDepth 100000 in
set_option maxHeartbeats 4000000 in
theorem s_X10_garden (l : Launch) (sc : g_S) (E : Mem → g_H) (R : Nat → Prop) (hE : LE E R) (hR : RCL R) (n : Nat)  (p1 : Int) (hp1 : inR p1) (mi : Mem) (r : Rz) (H : f_X10_garden n p1 mi = some r) : AMet l sc yX10_garden cX10_garden 5 (some FieldType.int) 6 0 0 [.ref 1, iv p1] (E mi) (pI E r) := by
  have r1 : R 1 := hR.1 1 (Nat.le_of_ble_eq_true rfl) (Nat.le_of_ble_eq_true rfl)
  have r4 : R 4 := hR.1 4 (Nat.le_of_ble_eq_true rfl) (Nat.le_of_ble_eq_true rfl)
  have r36 : R 36 := hR.1 36 (Nat.le_of_ble_eq_true rfl) (Nat.le_of_ble_eq_true rfl)
  have r45 : R 45 := hR.1 45 (Nat.le_of_ble_eq_true rfl) (Nat.le_of_ble_eq_true rfl)
  unfold f_X10_garden at H
  refine AMet.of (own := RX10) (by decide +kernel) rfl (Nat.le_of_ble_eq_true rfl) [(0, .ref 1), (1, iv p1)] rfl (fun D base ad => ?_)
  refine aw_iload_n (pc := 0) dX10_garden_0 rfl ?_
  refine cx_callS (pc := 1) (P := pI) (dC := 1) (mcC := 0) (msC := 0) [iv p1] (fun r1 H1 => s_X10_isSet l sc E R hE hR n p1 hp1 mi r1 H1) ca_X10_181 rfl rfl (Nat.le_of_ble_eq_true rfl) (Nat.le_of_ble_eq_true rfl) (Nat.le_of_ble_eq_true rfl) (Nat.le_of_ble_eq_true rfl) dX10_garden_1 H (fun x1 m1 v1 hh1 H hp => ?_)
  refine cx_backI hp (fun hx1 => ?_)
  refine cx_if_ne (pc := 4) 14 hx1 dX10_garden_4 rfl H (fun H => ?_) (fun H => ?_)
  · -- 4: 7
    refine aw_aload_n (pc := 7) dX10_garden_7 rfl ?_
    refine cx_ldc (pc := 8) (-1100000001) dX10_garden_8 ct_X10_107 (by decide) ?_
    refine cx_callV (pc := 10) (P := pI) (dC := 1) (mcC := 0) (msC := 0) [iv (-1100000001)] hE r1 (fun r1 H1 => s_X10_fail l sc E R hE hR n (-1100000001) (inR_lit _ rfl) m1 r1 H1) ca_X10_108 rfl ⟨_, rfl, rfl⟩ rfl rfl (Nat.le_of_ble_eq_true rfl) (Nat.le_of_ble_eq_true rfl) (Nat.le_of_ble_eq_true rfl) (Nat.le_of_ble_eq_true rfl) dX10_garden_10 H (fun x10 m10 v10 hh10 H hp => ?_)
    refine cx_backI hp (fun hx10 => ?_)
    exact cx_iret (pc := 13) hx10 rfl (Nat.le_of_ble_eq_true rfl) (Nat.le_of_ble_eq_true rfl) dX10_garden_13 H
  · -- 4: 14
    refine cx_iconst (pc := 14) dX10_garden_14 ?_
    refine aw_istore_n (pc := 15) [(2, iv 0), (0, .ref 1), (1, iv p1)] dX10_garden_15 rfl (by decide) ?_
    refine AW.sel [1, 2, 0] rfl (lp_ind (bot := fun _ _ => none) (fun (f9 : Int → Mem → Option Rz) => ∀ (v2_16 : Int) (m16 : Mem), inR v2_16 → f9 v2_16 m16 = some r → AW l D base sc RX10 yX10_garden cX10_garden 5 (some FieldType.int) 6 0 0 ad (E mi) (pI E r) 0 0 (E m16) 16 [(0, .ref 1), (1, iv p1), (2, iv v2_16)] []) (fun _ _ _ h9 => nomatch h9) (fun w16 ih16 v2_16 m16 hv2_16 H => ?_) n _ _ (inR_lit _ rfl) H)
    refine aw_iload_n (pc := 16) dX10_garden_16 rfl ?_
    refine cx_bipush (pc := 17) dX10_garden_17 (by decide) ?_
    refine cx_icmp_ge (pc := 19) 57 hv2_16 (inR_lit _ rfl) dX10_garden_19 rfl H (fun H => ?_) (fun H => ?_)
    · -- 19: 22
      refine aw_iload_n (pc := 22) dX10_garden_22 rfl ?_
      refine aw_iload_n (pc := 23) dX10_garden_23 rfl ?_
      refine cx_callS (pc := 24) (P := pI) (dC := 0) (mcC := 0) (msC := 0) [iv p1, iv v2_16] (fun r1 H1 => s_X10_isIn l sc E R hE hR n p1 v2_16 hp1 hv2_16 m16 r1 H1) ca_X10_234 rfl rfl (Nat.le_of_ble_eq_true rfl) (Nat.le_of_ble_eq_true rfl) (Nat.le_of_ble_eq_true rfl) (Nat.le_of_ble_eq_true rfl) dX10_garden_24 H (fun x24 m24 v24 hh24 H hp => ?_)
      refine cx_backI hp (fun hx24 => ?_)
      refine jn_ind (fun (f9 : Mem → Option Rz) => ∀ (m51 : Mem), f9 m51 = some r → AW l D base sc RX10 yX10_garden cX10_garden 5 (some FieldType.int) 6 0 0 ad (E mi) (pI E r) 0 0 (E m51) 51 [(0, .ref 1), (1, iv p1), (2, iv v2_16)] []) (fun m51 H => ?_) (fun j51 hj51 H => ?_) H
      · -- 51
        refine cx_iinc (pc := 51) [(2, iv (w32 (v2_16 + 1))), (0, .ref 1), (1, iv p1)] dX10_garden_51 rfl rfl (by decide) ?_
        refine aw_goto (pc := 54) 16 dX10_garden_54 rfl ?_
        exact AW.sel [1, 2, 0] rfl (ih16 _ _ (inR_w32 _) H)
      refine cx_if_eq (pc := 27) 51 hx24 dX10_garden_27 rfl H (fun H => ?_) (fun H => ?_)
      · -- 27: 51
        exact AW.sel [0, 1, 2] rfl (hj51 _ H)
      · -- 27: 30
        refine aw_aload_n (pc := 30) dX10_garden_30 rfl ?_
        refine cx_gtC (pc := 31) 45 hE r1 fl_X10_84 rfl rfl (Nat.le_of_ble_eq_true rfl) dX10_garden_31 ?_
        refine aw_iload_n (pc := 34) dX10_garden_34 rfl ?_
        refine cx_callV (pc := 35) (P := pG) (dC := 0) (mcC := 0) (msC := 0) [iv v2_16] hE r45 (fun r1 H1 => s_X6_held l sc E R hE hR n v2_16 hv2_16 m24 r1 H1) ca_X10_112 rfl ⟨_, rfl, rfl⟩ rfl rfl (Nat.le_of_ble_eq_true rfl) (Nat.le_of_ble_eq_true rfl) (Nat.le_of_ble_eq_true rfl) (Nat.le_of_ble_eq_true rfl) dX10_garden_35 H (fun x35 m35 v35 hh35 H hp => ?_)
        refine cx_backG hp ?_
        refine cx_nn0 H (fun hg38_1 H => ?_)
        refine cx_callG (pc := 38) (P := pI) (dC := 1) (mcC := 0) (msC := 0) [] hE hR.d (fun r1 H1 => s_X1_isSmall l sc E R hE hR.d n x35.toNat hg38_1 m35 r1 H1) ca_X10_141 ⟨_, rfl, rfl⟩ rfl rfl (Nat.le_of_ble_eq_true rfl) (Nat.le_of_ble_eq_true rfl) (Nat.le_of_ble_eq_true rfl) (Nat.le_of_ble_eq_true rfl) dX10_garden_38 H (fun x38 m38 v38 hh38 H hp => ?_)
        refine cx_backI hp (fun hx38 => ?_)
        refine cx_if_ne (pc := 41) 51 hx38 dX10_garden_41 rfl H (fun H => ?_) (fun H => ?_)
        · -- 41: 44
          refine aw_aload_n (pc := 44) dX10_garden_44 rfl ?_
          refine cx_ldc (pc := 45) (-1100000003) dX10_garden_45 ct_X10_220 (by decide) ?_
          refine cx_callV (pc := 47) (P := pI) (dC := 1) (mcC := 0) (msC := 0) [iv (-1100000003)] hE r1 (fun r1 H1 => s_X10_fail l sc E R hE hR n (-1100000003) (inR_lit _ rfl) m38 r1 H1) ca_X10_108 rfl ⟨_, rfl, rfl⟩ rfl rfl (Nat.le_of_ble_eq_true rfl) (Nat.le_of_ble_eq_true rfl) (Nat.le_of_ble_eq_true rfl) (Nat.le_of_ble_eq_true rfl) dX10_garden_47 H (fun x47 m47 v47 hh47 H hp => ?_)
          refine cx_backI hp (fun hx47 => ?_)
          exact cx_iret (pc := 50) hx47 rfl (Nat.le_of_ble_eq_true rfl) (Nat.le_of_ble_eq_true rfl) dX10_garden_50 H
        · -- 41: 51
          exact AW.sel [0, 1, 2] rfl (hj51 _ H)
    · -- 19: 57
      refine cx_iconst (pc := 57) dX10_garden_57 ?_
      refine aw_istore_n (pc := 58) [(2, iv 0), (0, .ref 1), (1, iv p1)] dX10_garden_58 rfl (by decide) ?_
      refine cx_iconst (pc := 59) dX10_garden_59 ?_
      refine aw_istore_n (pc := 60) [(3, iv 0), (2, iv 0), (0, .ref 1), (1, iv p1)] dX10_garden_60 rfl (by decide) ?_
      refine AW.sel [2, 3, 1, 0] rfl (lp_ind (bot := fun _ _ _ => none) (fun (f9 : Int → Int → Mem → Option Rz) => ∀ (v2_61 : Int) (v3_61 : Int) (m61 : Mem), inR v2_61 → inR v3_61 → f9 v2_61 v3_61 m61 = some r → AW l D base sc RX10 yX10_garden cX10_garden 5 (some FieldType.int) 6 0 0 ad (E mi) (pI E r) 0 0 (E m61) 61 [(0, .ref 1), (1, iv p1), (2, iv v2_61), (3, iv v3_61)] []) (fun _ _ _ _ _ h9 => nomatch h9) (fun w61 ih61 v2_61 v3_61 m61 hv2_61 hv3_61 H => ?_) n _ _ _ (inR_lit _ rfl) (inR_lit _ rfl) H)
      refine aw_iload_n (pc := 61) dX10_garden_61 rfl ?_
      refine cx_bipush (pc := 62) dX10_garden_62 (by decide) ?_
      refine cx_icmp_ge (pc := 64) 129 hv3_61 (inR_lit _ rfl) dX10_garden_64 rfl H (fun H => ?_) (fun H => ?_)
      · -- 64: 67
        refine aw_iload_n (pc := 67) dX10_garden_67 rfl ?_
        refine aw_iload_n (pc := 68) dX10_garden_68 rfl ?_
        refine cx_callS (pc := 69) (P := pI) (dC := 0) (mcC := 0) (msC := 0) [iv p1, iv v3_61] (fun r1 H1 => s_X10_isIn l sc E R hE hR n p1 v3_61 hp1 hv3_61 m61 r1 H1) ca_X10_234 rfl rfl (Nat.le_of_ble_eq_true rfl) (Nat.le_of_ble_eq_true rfl) (Nat.le_of_ble_eq_true rfl) (Nat.le_of_ble_eq_true rfl) dX10_garden_69 H (fun x69 m69 v69 hh69 H hp => ?_)
        refine cx_backI hp (fun hx69 => ?_)
        refine jn_ind (fun (f9 : Int → Mem → Option Rz) => ∀ (v2_123 : Int) (m123 : Mem), inR v2_123 → f9 v2_123 m123 = some r → AW l D base sc RX10 yX10_garden cX10_garden 5 (some FieldType.int) 6 0 0 ad (E mi) (pI E r) 0 0 (E m123) 123 [(0, .ref 1), (1, iv p1), (2, iv v2_123), (3, iv v3_61)] []) (fun v2_123 m123 hv2_123 H => ?_) (fun j123 hj123 H => ?_) H
        · -- 123
          refine cx_iinc (pc := 123) [(3, iv (w32 (v3_61 + 1))), (0, .ref 1), (1, iv p1), (2, iv v2_123)] dX10_garden_123 rfl rfl (by decide) ?_
          refine aw_goto (pc := 126) 61 dX10_garden_126 rfl ?_
          exact AW.sel [1, 2, 3, 0] rfl (ih61 _ _ _ hv2_123 (inR_w32 _) H)
        refine cx_if_eq (pc := 72) 123 hx69 dX10_garden_72 rfl H (fun H => ?_) (fun H => ?_)
        · -- 72: 123
          exact AW.sel [0, 1, 2, 3] rfl (hj123 _ _ hv2_61 H)
        · -- 72: 75
          refine aw_aload_n (pc := 75) dX10_garden_75 rfl ?_
          refine cx_gtC (pc := 76) 36 hE r1 fl_X10_56 rfl rfl (Nat.le_of_ble_eq_true rfl) dX10_garden_76 ?_
          refine aw_aload_n (pc := 79) dX10_garden_79 rfl ?_
          refine cx_gtC (pc := 80) 45 hE r1 fl_X10_84 rfl rfl (Nat.le_of_ble_eq_true rfl) dX10_garden_80 ?_
          refine aw_iload_n (pc := 83) dX10_garden_83 rfl ?_
          refine cx_callV (pc := 84) (P := pG) (dC := 0) (mcC := 0) (msC := 0) [iv v3_61] hE r45 (fun r1 H1 => s_X6_held l sc E R hE hR n v3_61 hv3_61 m69 r1 H1) ca_X10_112 rfl ⟨_, rfl, rfl⟩ rfl rfl (Nat.le_of_ble_eq_true rfl) (Nat.le_of_ble_eq_true rfl) (Nat.le_of_ble_eq_true rfl) (Nat.le_of_ble_eq_true rfl) dX10_garden_84 H (fun x84 m84 v84 hh84 H hp => ?_)
          refine cx_backG hp ?_
          refine cx_callV (pc := 87) (P := pI) (dC := 5) (mcC := 0) (msC := 0) [rv x84.toNat] hE r36 (fun r1 H1 => s_X8_weigh l sc E R hE hR n x84.toNat m84 r1 H1) ca_X10_221 rfl ⟨_, rfl, rfl⟩ rfl rfl (Nat.le_of_ble_eq_true rfl) (Nat.le_of_ble_eq_true rfl) (Nat.le_of_ble_eq_true rfl) (Nat.le_of_ble_eq_true rfl) dX10_garden_87 H (fun x87 m87 v87 hh87 H hp => ?_)
          refine cx_backI hp (fun hx87 => ?_)
          refine aw_istore (pc := 90) [(4, iv x87), (0, .ref 1), (1, iv p1), (2, iv v2_61), (3, iv v3_61)] dX10_garden_90 rfl (by decide) ?_
          refine aw_aload_n (pc := 92) dX10_garden_92 rfl ?_
          refine cx_gtC (pc := 93) 4 hE r1 fl_X10_12 rfl rfl (Nat.le_of_ble_eq_true rfl) dX10_garden_93 ?_
          refine aw_iload (pc := 96) dX10_garden_96 rfl ?_
          refine cx_callV (pc := 98) (P := pI) (dC := 1) (mcC := 0) (msC := 0) [iv x87] hE r4 (fun r1 H1 => s_X9_isWhole l sc E R hE hR.ys n x87 hx87 m87 r1 H1) ca_X10_228 rfl ⟨_, rfl, rfl⟩ rfl rfl (Nat.le_of_ble_eq_true rfl) (Nat.le_of_ble_eq_true rfl) (Nat.le_of_ble_eq_true rfl) (Nat.le_of_ble_eq_true rfl) dX10_garden_98 H (fun x98 m98 v98 hh98 H hp => ?_)
          refine cx_backI hp (fun hx98 => ?_)
          refine cx_if_ne (pc := 101) 111 hx98 dX10_garden_101 rfl H (fun H => ?_) (fun H => ?_)
          · -- 101: 104
            refine aw_aload_n (pc := 104) dX10_garden_104 rfl ?_
            refine cx_ldc (pc := 105) (-1100000002) dX10_garden_105 ct_X10_158 (by decide) ?_
            refine cx_callV (pc := 107) (P := pI) (dC := 1) (mcC := 0) (msC := 0) [iv (-1100000002)] hE r1 (fun r1 H1 => s_X10_fail l sc E R hE hR n (-1100000002) (inR_lit _ rfl) m98 r1 H1) ca_X10_108 rfl ⟨_, rfl, rfl⟩ rfl rfl (Nat.le_of_ble_eq_true rfl) (Nat.le_of_ble_eq_true rfl) (Nat.le_of_ble_eq_true rfl) (Nat.le_of_ble_eq_true rfl) dX10_garden_107 H (fun x107 m107 v107 hh107 H hp => ?_)
            refine cx_backI hp (fun hx107 => ?_)
            exact cx_iret (pc := 110) hx107 rfl (Nat.le_of_ble_eq_true rfl) (Nat.le_of_ble_eq_true rfl) dX10_garden_110 H
          · -- 101: 111
            refine aw_iload_n (pc := 111) dX10_garden_111 rfl ?_
            refine aw_aload_n (pc := 112) dX10_garden_112 rfl ?_
            refine cx_gtC (pc := 113) 4 hE r1 fl_X10_12 rfl rfl (Nat.le_of_ble_eq_true rfl) dX10_garden_113 ?_
            refine aw_iload (pc := 116) dX10_garden_116 rfl ?_
            refine cx_callV (pc := 118) (P := pI) (dC := 2) (mcC := 0) (msC := 0) [iv x87] hE r4 (fun r1 H1 => s_X9_valueOf l sc E R hE hR.ys n x87 hx87 m98 r1 H1) ca_X10_231 rfl ⟨_, rfl, rfl⟩ rfl rfl (Nat.le_of_ble_eq_true rfl) (Nat.le_of_ble_eq_true rfl) (Nat.le_of_ble_eq_true rfl) (Nat.le_of_ble_eq_true rfl) dX10_garden_118 H (fun x118 m118 v118 hh118 H hp => ?_)
            refine cx_backI hp (fun hx118 => ?_)
            refine cx_iadd (pc := 121) dX10_garden_121 ?_
            refine cx_nm (inR_w32 _) H (fun z122 hz122 H => ?_)
            refine aw_istore_n (pc := 122) [(2, iv z122), (4, iv x87), (0, .ref 1), (1, iv p1), (3, iv v3_61)] dX10_garden_122 rfl (by decide) ?_
            exact AW.sel [2, 3, 0, 4] rfl (hj123 _ _ hz122 H)
      · -- 64: 129
        refine aw_iload_n (pc := 129) dX10_garden_129 rfl ?_
        exact cx_iret (pc := 130) hv2_61 rfl (Nat.le_of_ble_eq_true rfl) (Nat.le_of_ble_eq_true rfl) dX10_garden_130 H
/-- X10 reply (IIII)I -/
def f_X10_reply (n : Nat) (p1 : Int) (p2 : Int) (p3 : Int) (p4 : Int) (mi : Mem) : Option Rz :=
  cal (f_X10_isSlot n p1 mi) fun x1 m1 =>
  jn (fun (m29 : Mem) =>
    cal (f_X10_fail n (-1100000001) m29) fun x32 m32 =>
    rt x32 m32
  ) fun (j29 : Mem → Option Rz) =>
  if x1 = 0 then (
    j29 m1
  ) else
  cal (f_X10_isSlot n p2 m1) fun x8 m8 =>
  if x8 = 0 then (
    j29 m8
  ) else
  cal (f_X10_isBit n p3 m8) fun x15 m15 =>
  if x15 = 0 then (
    j29 m15
  ) else
  cal (f_X10_isBit n p4 m15) fun x23 m23 =>
  if x23 = 0 then (
    j29 m23
  ) else
  cal (f_X6_held n p1 m23) fun x41 m41 =>
  cal (f_X6_held n p2 m41) fun x51 m51 =>
  cal (f_X0_fill n x41.toNat x51.toNat 0 m51) fun _ m65 =>
  isD x41.toNat <|
  isG m65 x41.toNat <| cal (f_X1_top n x41.toNat m65) fun x74 m74 =>
  isD x51.toNat <|
  isG m74 x51.toNat <| cal (f_X1_top n x51.toNat m74) fun x79 m79 =>
  cal (f_X0_bestMove n x74 x79 p3 m79) fun x83 m83 =>
  if x83 < 0 then (
    cal (f_X10_fail n (-1100000002) m83) fun x96 m96 =>
    rt x96 m96
  ) else
  jn (fun (s0_118 : Int) (m118 : Mem) =>
    rt s0_118 m118
  ) fun (j118 : Int → Mem → Option Rz) =>
  if p4 = 0 then (
    cal (f_X0_gameOf n x83 m83) fun x107 m107 =>
    j118 x107 m107
  ) else
  cal (f_X0_numberOf n x83 m83) fun x115 m115 =>
  j118 x115 m115
set_option maxRecDepth 100000 in
set_option maxHeartbeats 4000000 in
theorem s_X10_reply (l : Launch) (sc : g_S) (E : Mem → g_H) (R : Nat → Prop) (hE : LE E R) (hR : RCL R) (n : Nat)  (p1 : Int) (p2 : Int) (p3 : Int) (p4 : Int) (hp1 : inR p1) (hp2 : inR p2) (hp3 : inR p3) (hp4 : inR p4) (mi : Mem) (r : Rz) (H : f_X10_reply n p1 p2 p3 p4 mi = some r) : AMet l sc yX10_reply cX10_reply 8 (some FieldType.int) 4 0 0 [.ref 1, iv p1, iv p2, iv p3, iv p4] (E mi) (pI E r) := by
  have r1 : R 1 := hR.1 1 (Nat.le_of_ble_eq_true rfl) (Nat.le_of_ble_eq_true rfl)
  have r33 : R 33 := hR.1 33 (Nat.le_of_ble_eq_true rfl) (Nat.le_of_ble_eq_true rfl)
  have r45 : R 45 := hR.1 45 (Nat.le_of_ble_eq_true rfl) (Nat.le_of_ble_eq_true rfl)
  unfold f_X10_reply at H
  refine AMet.of (own := RX10) (by decide +kernel) rfl (Nat.le_of_ble_eq_true rfl) [(0, .ref 1), (1, iv p1), (2, iv p2), (3, iv p3), (4, iv p4)] rfl (fun D base ad => ?_)
  refine aw_iload_n (pc := 0) dX10_reply_0 rfl ?_
  refine cx_callS (pc := 1) (P := pI) (dC := 1) (mcC := 0) (msC := 0) [iv p1] (fun r1 H1 => s_X10_isSlot l sc E R hE hR n p1 hp1 mi r1 H1) ca_X10_103 rfl rfl (Nat.le_of_ble_eq_true rfl) (Nat.le_of_ble_eq_true rfl) (Nat.le_of_ble_eq_true rfl) (Nat.le_of_ble_eq_true rfl) dX10_reply_1 H (fun x1 m1 v1 hh1 H hp => ?_)
  refine cx_backI hp (fun hx1 => ?_)
  refine jn_ind (fun (f9 : Mem → Option Rz) => ∀ (m29 : Mem), f9 m29 = some r → AW l D base sc RX10 yX10_reply cX10_reply 8 (some FieldType.int) 4 0 0 ad (E mi) (pI E r) 0 0 (E m29) 29 [(0, .ref 1)] []) (fun m29 H => ?_) (fun j29 hj29 H => ?_) H
  · -- 29
    refine aw_aload_n (pc := 29) dX10_reply_29 rfl ?_
    refine cx_ldc (pc := 30) (-1100000001) dX10_reply_30 ct_X10_107 (by decide) ?_
    refine cx_callV (pc := 32) (P := pI) (dC := 1) (mcC := 0) (msC := 0) [iv (-1100000001)] hE r1 (fun r1 H1 => s_X10_fail l sc E R hE hR n (-1100000001) (inR_lit _ rfl) m29 r1 H1) ca_X10_108 rfl ⟨_, rfl, rfl⟩ rfl rfl (Nat.le_of_ble_eq_true rfl) (Nat.le_of_ble_eq_true rfl) (Nat.le_of_ble_eq_true rfl) (Nat.le_of_ble_eq_true rfl) dX10_reply_32 H (fun x32 m32 v32 hh32 H hp => ?_)
    refine cx_backI hp (fun hx32 => ?_)
    exact cx_iret (pc := 35) hx32 rfl (Nat.le_of_ble_eq_true rfl) (Nat.le_of_ble_eq_true rfl) dX10_reply_35 H
  refine cx_if_eq (pc := 4) 29 hx1 dX10_reply_4 rfl H (fun H => ?_) (fun H => ?_)
  · -- 4: 29
    exact AW.sel [0] rfl (hj29 _ H)
  · -- 4: 7
    refine aw_iload_n (pc := 7) dX10_reply_7 rfl ?_
    refine cx_callS (pc := 8) (P := pI) (dC := 1) (mcC := 0) (msC := 0) [iv p2] (fun r1 H1 => s_X10_isSlot l sc E R hE hR n p2 hp2 m1 r1 H1) ca_X10_103 rfl rfl (Nat.le_of_ble_eq_true rfl) (Nat.le_of_ble_eq_true rfl) (Nat.le_of_ble_eq_true rfl) (Nat.le_of_ble_eq_true rfl) dX10_reply_8 H (fun x8 m8 v8 hh8 H hp => ?_)
    refine cx_backI hp (fun hx8 => ?_)
    refine cx_if_eq (pc := 11) 29 hx8 dX10_reply_11 rfl H (fun H => ?_) (fun H => ?_)
    · -- 11: 29
      exact AW.sel [0] rfl (hj29 _ H)
    · -- 11: 14
      refine aw_iload_n (pc := 14) dX10_reply_14 rfl ?_
      refine cx_callS (pc := 15) (P := pI) (dC := 0) (mcC := 0) (msC := 0) [iv p3] (fun r1 H1 => s_X10_isBit l sc E R hE hR n p3 hp3 m8 r1 H1) ca_X10_199 rfl rfl (Nat.le_of_ble_eq_true rfl) (Nat.le_of_ble_eq_true rfl) (Nat.le_of_ble_eq_true rfl) (Nat.le_of_ble_eq_true rfl) dX10_reply_15 H (fun x15 m15 v15 hh15 H hp => ?_)
      refine cx_backI hp (fun hx15 => ?_)
      refine cx_if_eq (pc := 18) 29 hx15 dX10_reply_18 rfl H (fun H => ?_) (fun H => ?_)
      · -- 18: 29
        exact AW.sel [0] rfl (hj29 _ H)
      · -- 18: 21
        refine aw_iload (pc := 21) dX10_reply_21 rfl ?_
        refine cx_callS (pc := 23) (P := pI) (dC := 0) (mcC := 0) (msC := 0) [iv p4] (fun r1 H1 => s_X10_isBit l sc E R hE hR n p4 hp4 m15 r1 H1) ca_X10_199 rfl rfl (Nat.le_of_ble_eq_true rfl) (Nat.le_of_ble_eq_true rfl) (Nat.le_of_ble_eq_true rfl) (Nat.le_of_ble_eq_true rfl) dX10_reply_23 H (fun x23 m23 v23 hh23 H hp => ?_)
        refine cx_backI hp (fun hx23 => ?_)
        refine cx_if_ne (pc := 26) 36 hx23 dX10_reply_26 rfl H (fun H => ?_) (fun H => ?_)
        · -- 26: 29
          exact AW.sel [0] rfl (hj29 _ H)
        · -- 26: 36
          refine aw_aload_n (pc := 36) dX10_reply_36 rfl ?_
          refine cx_gtC (pc := 37) 45 hE r1 fl_X10_84 rfl rfl (Nat.le_of_ble_eq_true rfl) dX10_reply_37 ?_
          refine aw_iload_n (pc := 40) dX10_reply_40 rfl ?_
          refine cx_callV (pc := 41) (P := pG) (dC := 0) (mcC := 0) (msC := 0) [iv p1] hE r45 (fun r1 H1 => s_X6_held l sc E R hE hR n p1 hp1 m23 r1 H1) ca_X10_112 rfl ⟨_, rfl, rfl⟩ rfl rfl (Nat.le_of_ble_eq_true rfl) (Nat.le_of_ble_eq_true rfl) (Nat.le_of_ble_eq_true rfl) (Nat.le_of_ble_eq_true rfl) dX10_reply_41 H (fun x41 m41 v41 hh41 H hp => ?_)
          refine cx_backG hp ?_
          refine cx_astore (pc := 44) [(5, rv x41.toNat), (0, .ref 1), (1, iv p1), (2, iv p2), (3, iv p3), (4, iv p4)] dX10_reply_44 rfl (by decide) ?_
          refine aw_aload_n (pc := 46) dX10_reply_46 rfl ?_
          refine cx_gtC (pc := 47) 45 hE r1 fl_X10_84 rfl rfl (Nat.le_of_ble_eq_true rfl) dX10_reply_47 ?_
          refine aw_iload_n (pc := 50) dX10_reply_50 rfl ?_
          refine cx_callV (pc := 51) (P := pG) (dC := 0) (mcC := 0) (msC := 0) [iv p2] hE r45 (fun r1 H1 => s_X6_held l sc E R hE hR n p2 hp2 m41 r1 H1) ca_X10_112 rfl ⟨_, rfl, rfl⟩ rfl rfl (Nat.le_of_ble_eq_true rfl) (Nat.le_of_ble_eq_true rfl) (Nat.le_of_ble_eq_true rfl) (Nat.le_of_ble_eq_true rfl) dX10_reply_51 H (fun x51 m51 v51 hh51 H hp => ?_)
          refine cx_backG hp ?_
          refine cx_astore (pc := 54) [(6, rv x51.toNat), (5, rv x41.toNat), (0, .ref 1), (1, iv p1), (2, iv p2), (3, iv p3), (4, iv p4)] dX10_reply_54 (by unfold g_st1; simp only [List.filter, rv_cat]; rfl) (by decide) ?_
          refine aw_aload_n (pc := 56) dX10_reply_56 rfl ?_
          refine cx_gtC (pc := 57) 33 hE r1 fl_X10_47 rfl rfl (Nat.le_of_ble_eq_true rfl) dX10_reply_57 ?_
          refine cx_aload (pc := 60) dX10_reply_60 rfl ?_
          refine cx_aload (pc := 62) dX10_reply_62 rfl ?_
          refine cx_iconst (pc := 64) dX10_reply_64 ?_
          refine cx_callV (pc := 65) (P := pV) (dC := 2) (mcC := 0) (msC := 0) [rv x41.toNat, rv x51.toNat, iv 0] hE r33 (fun r1 H1 => s_X0_fill l sc E R hE hR n x41.toNat x51.toNat 0 (inR_lit _ rfl) m51 r1 H1) ca_X10_213 rfl ⟨_, rfl, rfl⟩ rfl rfl (Nat.le_of_ble_eq_true rfl) (Nat.le_of_ble_eq_true rfl) (Nat.le_of_ble_eq_true rfl) (Nat.le_of_ble_eq_true rfl) dX10_reply_65 H (fun x65 m65 v65 hh65 H hp => ?_)
          refine cx_backV hp ?_
          refine aw_aload_n (pc := 68) dX10_reply_68 rfl ?_
          refine cx_gtC (pc := 69) 33 hE r1 fl_X10_47 rfl rfl (Nat.le_of_ble_eq_true rfl) dX10_reply_69 ?_
          refine cx_aload (pc := 72) dX10_reply_72 rfl ?_
          refine cx_nn0 H (fun hg74_1 H => ?_)
          refine cx_callG (pc := 74) (P := pI) (dC := 0) (mcC := 0) (msC := 0) [] hE hR.d (fun r1 H1 => s_X1_top l sc E R hE hR.d n x41.toNat hg74_1 m65 r1 H1) ca_X10_124 ⟨_, rfl, rfl⟩ rfl rfl (Nat.le_of_ble_eq_true rfl) (Nat.le_of_ble_eq_true rfl) (Nat.le_of_ble_eq_true rfl) (Nat.le_of_ble_eq_true rfl) dX10_reply_74 H (fun x74 m74 v74 hh74 H hp => ?_)
          refine cx_backI hp (fun hx74 => ?_)
          refine cx_aload (pc := 77) dX10_reply_77 rfl ?_
          refine cx_nn0 H (fun hg79_2 H => ?_)
          refine cx_callG (pc := 79) (P := pI) (dC := 0) (mcC := 0) (msC := 0) [] hE hR.d (fun r1 H1 => s_X1_top l sc E R hE hR.d n x51.toNat hg79_2 m74 r1 H1) ca_X10_124 ⟨_, rfl, rfl⟩ rfl rfl (Nat.le_of_ble_eq_true rfl) (Nat.le_of_ble_eq_true rfl) (Nat.le_of_ble_eq_true rfl) (Nat.le_of_ble_eq_true rfl) dX10_reply_79 H (fun x79 m79 v79 hh79 H hp => ?_)
          refine cx_backI hp (fun hx79 => ?_)
          refine aw_iload_n (pc := 82) dX10_reply_82 rfl ?_
          refine cx_callV (pc := 83) (P := pI) (dC := 3) (mcC := 0) (msC := 0) [iv x74, iv x79, iv p3] hE r33 (fun r1 H1 => s_X0_bestMove l sc E R hE hR n x74 x79 p3 hx74 hx79 hp3 m79 r1 H1) ca_X10_238 rfl ⟨_, rfl, rfl⟩ rfl rfl (Nat.le_of_ble_eq_true rfl) (Nat.le_of_ble_eq_true rfl) (Nat.le_of_ble_eq_true rfl) (Nat.le_of_ble_eq_true rfl) dX10_reply_83 H (fun x83 m83 v83 hh83 H hp => ?_)
          refine cx_backI hp (fun hx83 => ?_)
          refine aw_istore (pc := 86) [(7, iv x83), (6, rv x51.toNat), (5, rv x41.toNat), (0, .ref 1), (1, iv p1), (2, iv p2), (3, iv p3), (4, iv p4)] dX10_reply_86 (by unfold g_st1; simp only [List.filter, rv_cat]; rfl) (by decide) ?_
          refine aw_iload (pc := 88) dX10_reply_88 rfl ?_
          refine cx_if_ge (pc := 90) 100 hx83 dX10_reply_90 rfl H (fun H => ?_) (fun H => ?_)
          · -- 90: 93
            refine aw_aload_n (pc := 93) dX10_reply_93 rfl ?_
            refine cx_ldc (pc := 94) (-1100000002) dX10_reply_94 ct_X10_158 (by decide) ?_
            refine cx_callV (pc := 96) (P := pI) (dC := 1) (mcC := 0) (msC := 0) [iv (-1100000002)] hE r1 (fun r1 H1 => s_X10_fail l sc E R hE hR n (-1100000002) (inR_lit _ rfl) m83 r1 H1) ca_X10_108 rfl ⟨_, rfl, rfl⟩ rfl rfl (Nat.le_of_ble_eq_true rfl) (Nat.le_of_ble_eq_true rfl) (Nat.le_of_ble_eq_true rfl) (Nat.le_of_ble_eq_true rfl) dX10_reply_96 H (fun x96 m96 v96 hh96 H hp => ?_)
            refine cx_backI hp (fun hx96 => ?_)
            exact cx_iret (pc := 99) hx96 rfl (Nat.le_of_ble_eq_true rfl) (Nat.le_of_ble_eq_true rfl) dX10_reply_99 H
          · -- 90: 100
            refine aw_iload (pc := 100) dX10_reply_100 rfl ?_
            refine jn_ind (fun (f9 : Int → Mem → Option Rz) => ∀ (s0_118 : Int) (m118 : Mem), inR s0_118 → f9 s0_118 m118 = some r → AW l D base sc RX10 yX10_reply cX10_reply 8 (some FieldType.int) 4 0 0 ad (E mi) (pI E r) 0 0 (E m118) 118 [] [iv s0_118]) (fun s0_118 m118 hs0_118 H => ?_) (fun j118 hj118 H => ?_) H
            · -- 118
              exact cx_iret (pc := 118) hs0_118 rfl (Nat.le_of_ble_eq_true rfl) (Nat.le_of_ble_eq_true rfl) dX10_reply_118 H
            refine cx_if_ne (pc := 102) 113 hp4 dX10_reply_102 rfl H (fun H => ?_) (fun H => ?_)
            · -- 102: 105
              refine aw_iload (pc := 105) dX10_reply_105 rfl ?_
              refine cx_callS (pc := 107) (P := pI) (dC := 0) (mcC := 0) (msC := 0) [iv x83] (fun r1 H1 => s_X0_gameOf l sc E R hE hR n x83 hx83 m83 r1 H1) ca_X10_241 rfl rfl (Nat.le_of_ble_eq_true rfl) (Nat.le_of_ble_eq_true rfl) (Nat.le_of_ble_eq_true rfl) (Nat.le_of_ble_eq_true rfl) dX10_reply_107 H (fun x107 m107 v107 hh107 H hp => ?_)
              refine cx_backI hp (fun hx107 => ?_)
              refine aw_goto (pc := 110) 118 dX10_reply_110 rfl ?_
              exact AW.sel [] rfl (hj118 _ _ hx107 H)
            · -- 102: 113
              refine aw_iload (pc := 113) dX10_reply_113 rfl ?_
              refine cx_callS (pc := 115) (P := pI) (dC := 0) (mcC := 0) (msC := 0) [iv x83] (fun r1 H1 => s_X0_numberOf l sc E R hE hR n x83 hx83 m83 r1 H1) ca_X10_243 rfl rfl (Nat.le_of_ble_eq_true rfl) (Nat.le_of_ble_eq_true rfl) (Nat.le_of_ble_eq_true rfl) (Nat.le_of_ble_eq_true rfl) dX10_reply_115 H (fun x115 m115 v115 hh115 H hp => ?_)
              refine cx_backI hp (fun hx115 => ?_)
              exact AW.sel [] rfl (hj118 _ _ hx115 H)
/-- X10 fight (IIII)I -/
def f_X10_fight (n : Nat) (p1 : Int) (p2 : Int) (p3 : Int) (p4 : Int) (mi : Mem) : Option Rz :=
  cal (f_X10_isSlot n p1 mi) fun x1 m1 =>
  jn (fun (m29 : Mem) =>
    cal (f_X10_fail n (-1100000001) m29) fun x32 m32 =>
    rt x32 m32
  ) fun (j29 : Mem → Option Rz) =>
  if x1 = 0 then (
    j29 m1
  ) else
  cal (f_X10_isSlot n p2 m1) fun x8 m8 =>
  if x8 = 0 then (
    j29 m8
  ) else
  cal (f_X10_isBit n p3 m8) fun x15 m15 =>
  if x15 = 0 then (
    j29 m15
  ) else
  cal (f_X10_isBit n p4 m15) fun x23 m23 =>
  if x23 = 0 then (
    j29 m23
  ) else
  cal (f_X6_held n p1 m23) fun x45 m45 =>
  cal (f_X6_held n p2 m45) fun x53 m53 =>
  cal (f_X0_fill n x45.toNat x53.toNat 0 m53) fun _ m57 =>
  cal (f_X0_fought n p3 m57) fun x65 m65 =>
  jn (fun (s0_86 : Int) (m86 : Mem) =>
    rt s0_86 m86
  ) fun (j86 : Int → Mem → Option Rz) =>
  if p4 = 0 then (
    j86 (iand (w32 (p3 + x65)) 1) m65
  ) else
  j86 x65 m65
set_option maxRecDepth 100000 in
set_option maxHeartbeats 4000000 in
theorem s_X10_fight (l : Launch) (sc : g_S) (E : Mem → g_H) (R : Nat → Prop) (hE : LE E R) (hR : RCL R) (n : Nat)  (p1 : Int) (p2 : Int) (p3 : Int) (p4 : Int) (hp1 : inR p1) (hp2 : inR p2) (hp3 : inR p3) (hp4 : inR p4) (mi : Mem) (r : Rz) (H : f_X10_fight n p1 p2 p3 p4 mi = some r) : AMet l sc yX10_fight cX10_fight 6 (some FieldType.int) 5 0 0 [.ref 1, iv p1, iv p2, iv p3, iv p4] (E mi) (pI E r) := by
  have r1 : R 1 := hR.1 1 (Nat.le_of_ble_eq_true rfl) (Nat.le_of_ble_eq_true rfl)
  have r33 : R 33 := hR.1 33 (Nat.le_of_ble_eq_true rfl) (Nat.le_of_ble_eq_true rfl)
  have r45 : R 45 := hR.1 45 (Nat.le_of_ble_eq_true rfl) (Nat.le_of_ble_eq_true rfl)
  unfold f_X10_fight at H
  refine AMet.of (own := RX10) (by decide +kernel) rfl (Nat.le_of_ble_eq_true rfl) [(0, .ref 1), (1, iv p1), (2, iv p2), (3, iv p3), (4, iv p4)] rfl (fun D base ad => ?_)
  refine aw_iload_n (pc := 0) dX10_fight_0 rfl ?_
  refine cx_callS (pc := 1) (P := pI) (dC := 1) (mcC := 0) (msC := 0) [iv p1] (fun r1 H1 => s_X10_isSlot l sc E R hE hR n p1 hp1 mi r1 H1) ca_X10_103 rfl rfl (Nat.le_of_ble_eq_true rfl) (Nat.le_of_ble_eq_true rfl) (Nat.le_of_ble_eq_true rfl) (Nat.le_of_ble_eq_true rfl) dX10_fight_1 H (fun x1 m1 v1 hh1 H hp => ?_)
  refine cx_backI hp (fun hx1 => ?_)
  refine jn_ind (fun (f9 : Mem → Option Rz) => ∀ (m29 : Mem), f9 m29 = some r → AW l D base sc RX10 yX10_fight cX10_fight 6 (some FieldType.int) 5 0 0 ad (E mi) (pI E r) 0 0 (E m29) 29 [(0, .ref 1)] []) (fun m29 H => ?_) (fun j29 hj29 H => ?_) H
  · -- 29
    refine aw_aload_n (pc := 29) dX10_fight_29 rfl ?_
    refine cx_ldc (pc := 30) (-1100000001) dX10_fight_30 ct_X10_107 (by decide) ?_
    refine cx_callV (pc := 32) (P := pI) (dC := 1) (mcC := 0) (msC := 0) [iv (-1100000001)] hE r1 (fun r1 H1 => s_X10_fail l sc E R hE hR n (-1100000001) (inR_lit _ rfl) m29 r1 H1) ca_X10_108 rfl ⟨_, rfl, rfl⟩ rfl rfl (Nat.le_of_ble_eq_true rfl) (Nat.le_of_ble_eq_true rfl) (Nat.le_of_ble_eq_true rfl) (Nat.le_of_ble_eq_true rfl) dX10_fight_32 H (fun x32 m32 v32 hh32 H hp => ?_)
    refine cx_backI hp (fun hx32 => ?_)
    exact cx_iret (pc := 35) hx32 rfl (Nat.le_of_ble_eq_true rfl) (Nat.le_of_ble_eq_true rfl) dX10_fight_35 H
  refine cx_if_eq (pc := 4) 29 hx1 dX10_fight_4 rfl H (fun H => ?_) (fun H => ?_)
  · -- 4: 29
    exact AW.sel [0] rfl (hj29 _ H)
  · -- 4: 7
    refine aw_iload_n (pc := 7) dX10_fight_7 rfl ?_
    refine cx_callS (pc := 8) (P := pI) (dC := 1) (mcC := 0) (msC := 0) [iv p2] (fun r1 H1 => s_X10_isSlot l sc E R hE hR n p2 hp2 m1 r1 H1) ca_X10_103 rfl rfl (Nat.le_of_ble_eq_true rfl) (Nat.le_of_ble_eq_true rfl) (Nat.le_of_ble_eq_true rfl) (Nat.le_of_ble_eq_true rfl) dX10_fight_8 H (fun x8 m8 v8 hh8 H hp => ?_)
    refine cx_backI hp (fun hx8 => ?_)
    refine cx_if_eq (pc := 11) 29 hx8 dX10_fight_11 rfl H (fun H => ?_) (fun H => ?_)
    · -- 11: 29
      exact AW.sel [0] rfl (hj29 _ H)
    · -- 11: 14
      refine aw_iload_n (pc := 14) dX10_fight_14 rfl ?_
      refine cx_callS (pc := 15) (P := pI) (dC := 0) (mcC := 0) (msC := 0) [iv p3] (fun r1 H1 => s_X10_isBit l sc E R hE hR n p3 hp3 m8 r1 H1) ca_X10_199 rfl rfl (Nat.le_of_ble_eq_true rfl) (Nat.le_of_ble_eq_true rfl) (Nat.le_of_ble_eq_true rfl) (Nat.le_of_ble_eq_true rfl) dX10_fight_15 H (fun x15 m15 v15 hh15 H hp => ?_)
      refine cx_backI hp (fun hx15 => ?_)
      refine cx_if_eq (pc := 18) 29 hx15 dX10_fight_18 rfl H (fun H => ?_) (fun H => ?_)
      · -- 18: 29
        exact AW.sel [0] rfl (hj29 _ H)
      · -- 18: 21
        refine aw_iload (pc := 21) dX10_fight_21 rfl ?_
        refine cx_callS (pc := 23) (P := pI) (dC := 0) (mcC := 0) (msC := 0) [iv p4] (fun r1 H1 => s_X10_isBit l sc E R hE hR n p4 hp4 m15 r1 H1) ca_X10_199 rfl rfl (Nat.le_of_ble_eq_true rfl) (Nat.le_of_ble_eq_true rfl) (Nat.le_of_ble_eq_true rfl) (Nat.le_of_ble_eq_true rfl) dX10_fight_23 H (fun x23 m23 v23 hh23 H hp => ?_)
        refine cx_backI hp (fun hx23 => ?_)
        refine cx_if_ne (pc := 26) 36 hx23 dX10_fight_26 rfl H (fun H => ?_) (fun H => ?_)
        · -- 26: 29
          exact AW.sel [0] rfl (hj29 _ H)
        · -- 26: 36
          refine aw_aload_n (pc := 36) dX10_fight_36 rfl ?_
          refine cx_gtC (pc := 37) 33 hE r1 fl_X10_47 rfl rfl (Nat.le_of_ble_eq_true rfl) dX10_fight_37 ?_
          refine aw_aload_n (pc := 40) dX10_fight_40 rfl ?_
          refine cx_gtC (pc := 41) 45 hE r1 fl_X10_84 rfl rfl (Nat.le_of_ble_eq_true rfl) dX10_fight_41 ?_
          refine aw_iload_n (pc := 44) dX10_fight_44 rfl ?_
          refine cx_callV (pc := 45) (P := pG) (dC := 0) (mcC := 0) (msC := 0) [iv p1] hE r45 (fun r1 H1 => s_X6_held l sc E R hE hR n p1 hp1 m23 r1 H1) ca_X10_112 rfl ⟨_, rfl, rfl⟩ rfl rfl (Nat.le_of_ble_eq_true rfl) (Nat.le_of_ble_eq_true rfl) (Nat.le_of_ble_eq_true rfl) (Nat.le_of_ble_eq_true rfl) dX10_fight_45 H (fun x45 m45 v45 hh45 H hp => ?_)
          refine cx_backG hp ?_
          refine aw_aload_n (pc := 48) dX10_fight_48 rfl ?_
          refine cx_gtC (pc := 49) 45 hE r1 fl_X10_84 rfl rfl (Nat.le_of_ble_eq_true rfl) dX10_fight_49 ?_
          refine aw_iload_n (pc := 52) dX10_fight_52 rfl ?_
          refine cx_callV (pc := 53) (P := pG) (dC := 0) (mcC := 0) (msC := 0) [iv p2] hE r45 (fun r1 H1 => s_X6_held l sc E R hE hR n p2 hp2 m45 r1 H1) ca_X10_112 rfl ⟨_, rfl, rfl⟩ rfl rfl (Nat.le_of_ble_eq_true rfl) (Nat.le_of_ble_eq_true rfl) (Nat.le_of_ble_eq_true rfl) (Nat.le_of_ble_eq_true rfl) dX10_fight_53 H (fun x53 m53 v53 hh53 H hp => ?_)
          refine cx_backG hp ?_
          refine cx_iconst (pc := 56) dX10_fight_56 ?_
          refine cx_callV (pc := 57) (P := pV) (dC := 2) (mcC := 0) (msC := 0) [rv x45.toNat, rv x53.toNat, iv 0] hE r33 (fun r1 H1 => s_X0_fill l sc E R hE hR n x45.toNat x53.toNat 0 (inR_lit _ rfl) m53 r1 H1) ca_X10_213 rfl ⟨_, rfl, rfl⟩ rfl rfl (Nat.le_of_ble_eq_true rfl) (Nat.le_of_ble_eq_true rfl) (Nat.le_of_ble_eq_true rfl) (Nat.le_of_ble_eq_true rfl) dX10_fight_57 H (fun x57 m57 v57 hh57 H hp => ?_)
          refine cx_backV hp ?_
          refine aw_aload_n (pc := 60) dX10_fight_60 rfl ?_
          refine cx_gtC (pc := 61) 33 hE r1 fl_X10_47 rfl rfl (Nat.le_of_ble_eq_true rfl) dX10_fight_61 ?_
          refine aw_iload_n (pc := 64) dX10_fight_64 rfl ?_
          refine cx_callV (pc := 65) (P := pI) (dC := 4) (mcC := 0) (msC := 0) [iv p3] hE r33 (fun r1 H1 => s_X0_fought l sc E R hE hR n p3 hp3 m57 r1 H1) ca_X10_246 rfl ⟨_, rfl, rfl⟩ rfl rfl (Nat.le_of_ble_eq_true rfl) (Nat.le_of_ble_eq_true rfl) (Nat.le_of_ble_eq_true rfl) (Nat.le_of_ble_eq_true rfl) dX10_fight_65 H (fun x65 m65 v65 hh65 H hp => ?_)
          refine cx_backI hp (fun hx65 => ?_)
          refine aw_istore (pc := 68) [(5, iv x65), (0, .ref 1), (1, iv p1), (2, iv p2), (3, iv p3), (4, iv p4)] dX10_fight_68 rfl (by decide) ?_
          refine aw_iload (pc := 70) dX10_fight_70 rfl ?_
          refine jn_ind (fun (f9 : Int → Mem → Option Rz) => ∀ (s0_86 : Int) (m86 : Mem), inR s0_86 → f9 s0_86 m86 = some r → AW l D base sc RX10 yX10_fight cX10_fight 6 (some FieldType.int) 5 0 0 ad (E mi) (pI E r) 0 0 (E m86) 86 [] [iv s0_86]) (fun s0_86 m86 hs0_86 H => ?_) (fun j86 hj86 H => ?_) H
          · -- 86
            exact cx_iret (pc := 86) hs0_86 rfl (Nat.le_of_ble_eq_true rfl) (Nat.le_of_ble_eq_true rfl) dX10_fight_86 H
          refine cx_if_ne (pc := 72) 84 hp4 dX10_fight_72 rfl H (fun H => ?_) (fun H => ?_)
          · -- 72: 75
            refine aw_iload_n (pc := 75) dX10_fight_75 rfl ?_
            refine aw_iload (pc := 76) dX10_fight_76 rfl ?_
            refine cx_iadd (pc := 78) dX10_fight_78 ?_
            refine cx_iconst (pc := 79) dX10_fight_79 ?_
            refine cx_iand (pc := 80) dX10_fight_80 ?_
            refine aw_goto (pc := 81) 86 dX10_fight_81 rfl ?_
            exact AW.sel [] rfl (hj86 _ _ (inR_32 _) H)
          · -- 72: 84
            refine aw_iload (pc := 84) dX10_fight_84 rfl ?_
            exact AW.sel [] rfl (hj86 _ _ hx65 H)
/-- X10 born (III)I -/
def f_X10_born (n N : Nat) (p1 : Int) (p2 : Int) (p3 : Int) (mi : Mem) : Option Rz :=
  cal (f_X3_isDay n p1 mi) fun x1 m1 =>
  jn (fun (m23 : Mem) =>
    cal (f_X10_fail n (-1100000001) m23) fun x26 m26 =>
    rt x26 m26
  ) fun (j23 : Mem → Option Rz) =>
  if x1 = 0 then (
    j23 m1
  ) else
  if p2 < (-1) then (
    j23 m1
  ) else
  jn (fun (m30 : Mem) =>
    if p2 = (-1) then (
      cal (f_X3_many n N p1 m30) fun x40 m40 =>
      rt x40 m40
    ) else
    cal (f_X3_numbered n N p1 p2 m30) fun x50 m50 =>
    jn (fun (s0_76 : Int) (m76 : Mem) =>
      rt s0_76 m76
    ) fun (j76 : Int → Mem → Option Rz) =>
    if x50.toNat = 0 then (
      cal (f_X10_fail n (-1100000002) m50) fun x63 m63 =>
      j76 x63 m63
    ) else
    cal (f_X10_settle n p3 x50.toNat m50) fun x73 m73 =>
    j76 x73 m73
  ) fun (j30 : Mem → Option Rz) =>
  if p2 < 0 then (
    j30 m1
  ) else
  cal (f_X10_isSlot n p3 m1) fun x17 m17 =>
  if x17 = 0 then (
    j23 m17
  ) else
  j30 m17
set_option maxRecDepth 100000 in
set_option maxHeartbeats 4000000 in
theorem s_X10_born (l : Launch) (sc : g_S) (E : Mem → g_H) (R : Nat → Prop) (hE : LE E R) (hR : RCL R) (hsc : sc.1 = 0) (n N : Nat)  (p1 : Int) (p2 : Int) (p3 : Int) (hp1 : inR p1) (hp2 : inR p2) (hp3 : inR p3) (mi : Mem) (r : Rz) (H : f_X10_born n N p1 p2 p3 mi = some r) : AMet l sc yX10_born cX10_born 5 (some FieldType.int) 7 (4 * N) (125 * N) [.ref 1, iv p1, iv p2, iv p3] (E mi) (pI E r) := by
  have r1 : R 1 := hR.1 1 (Nat.le_of_ble_eq_true rfl) (Nat.le_of_ble_eq_true rfl)
  have r39 : R 39 := hR.1 39 (Nat.le_of_ble_eq_true rfl) (Nat.le_of_ble_eq_true rfl)
  unfold f_X10_born at H
  refine AMet.of (own := RX10) (by decide +kernel) rfl (Nat.le_of_ble_eq_true rfl) [(0, .ref 1), (1, iv p1), (2, iv p2), (3, iv p3)] rfl (fun D base ad => ?_)
  refine aw_iload_n (pc := 0) dX10_born_0 rfl ?_
  refine cx_callS (pc := 1) (P := pI) (dC := 0) (mcC := 0) (msC := 0) [iv p1] (fun r1 H1 => s_X3_isDay l sc E R hE hR n p1 hp1 mi r1 H1) ca_X10_262 rfl rfl (Nat.le_of_ble_eq_true rfl) (Nat.le_of_ble_eq_true rfl) (by omega) (by omega) dX10_born_1 H (fun x1 m1 v1 hh1 H hp => ?_)
  refine cx_backI hp (fun hx1 => ?_)
  refine jn_ind (fun (f9 : Mem → Option Rz) => ∀ (m23 : Mem), f9 m23 = some r → AW l D base sc RX10 yX10_born cX10_born 5 (some FieldType.int) 7 (4 * N) (125 * N) ad (E mi) (pI E r) 0 0 (E m23) 23 [(0, .ref 1)] []) (fun m23 H => ?_) (fun j23 hj23 H => ?_) H
  · -- 23
    refine aw_aload_n (pc := 23) dX10_born_23 rfl ?_
    refine cx_ldc (pc := 24) (-1100000001) dX10_born_24 ct_X10_107 (by decide) ?_
    refine cx_callV (pc := 26) (P := pI) (dC := 1) (mcC := 0) (msC := 0) [iv (-1100000001)] hE r1 (fun r1 H1 => s_X10_fail l sc E R hE hR n (-1100000001) (inR_lit _ rfl) m23 r1 H1) ca_X10_108 rfl ⟨_, rfl, rfl⟩ rfl rfl (Nat.le_of_ble_eq_true rfl) (Nat.le_of_ble_eq_true rfl) (by omega) (by omega) dX10_born_26 H (fun x26 m26 v26 hh26 H hp => ?_)
    refine cx_backI hp (fun hx26 => ?_)
    exact cx_iret (pc := 29) hx26 rfl (by omega) (by omega) dX10_born_29 H
  refine cx_if_eq (pc := 4) 23 hx1 dX10_born_4 rfl H (fun H => ?_) (fun H => ?_)
  · -- 4: 23
    exact AW.sel [0] rfl (hj23 _ H)
  · -- 4: 7
    refine aw_iload_n (pc := 7) dX10_born_7 rfl ?_
    refine cx_iconst (pc := 8) dX10_born_8 ?_
    refine cx_icmp_lt (pc := 9) 23 hp2 (inR_lit _ rfl) dX10_born_9 rfl H (fun H => ?_) (fun H => ?_)
    · -- 9: 23
      exact AW.sel [0] rfl (hj23 _ H)
    · -- 9: 12
      refine aw_iload_n (pc := 12) dX10_born_12 rfl ?_
      refine jn_ind (fun (f9 : Mem → Option Rz) => ∀ (m30 : Mem), f9 m30 = some r → AW l D base sc RX10 yX10_born cX10_born 5 (some FieldType.int) 7 (4 * N) (125 * N) ad (E mi) (pI E r) 0 0 (E m30) 30 [(0, .ref 1), (1, iv p1), (2, iv p2), (3, iv p3)] []) (fun m30 H => ?_) (fun j30 hj30 H => ?_) H
      · -- 30
        refine aw_iload_n (pc := 30) dX10_born_30 rfl ?_
        refine cx_iconst (pc := 31) dX10_born_31 ?_
        refine cx_icmp_ne (pc := 32) 44 hp2 (inR_lit _ rfl) dX10_born_32 rfl H (fun H => ?_) (fun H => ?_)
        · -- 32: 35
          refine aw_aload_n (pc := 35) dX10_born_35 rfl ?_
          refine cx_gtC (pc := 36) 39 hE r1 fl_X10_63 rfl rfl (Nat.le_of_ble_eq_true rfl) dX10_born_36 ?_
          refine aw_iload_n (pc := 39) dX10_born_39 rfl ?_
          refine cx_callV (pc := 40) (P := pI) (dC := 6) (mcC := (4 * N)) (msC := (125 * N)) [iv p1] hE r39 (fun r1 H1 => s_X3_many l sc E R hE hR hsc n N p1 hp1 m30 r1 H1) ca_X10_265 rfl ⟨_, rfl, rfl⟩ rfl rfl (Nat.le_of_ble_eq_true rfl) (Nat.le_of_ble_eq_true rfl) (by omega) (by omega) dX10_born_40 H (fun x40 m40 v40 hh40 H hp => ?_)
          refine cx_backI hp (fun hx40 => ?_)
          exact cx_iret (pc := 43) hx40 rfl (by omega) (by omega) dX10_born_43 H
        · -- 32: 44
          refine aw_aload_n (pc := 44) dX10_born_44 rfl ?_
          refine cx_gtC (pc := 45) 39 hE r1 fl_X10_63 rfl rfl (Nat.le_of_ble_eq_true rfl) dX10_born_45 ?_
          refine aw_iload_n (pc := 48) dX10_born_48 rfl ?_
          refine aw_iload_n (pc := 49) dX10_born_49 rfl ?_
          refine cx_callV (pc := 50) (P := pG) (dC := 6) (mcC := (4 * N)) (msC := (125 * N)) [iv p1, iv p2] hE r39 (fun r1 H1 => s_X3_numbered l sc E R hE hR hsc n N p1 p2 hp1 hp2 m30 r1 H1) ca_X10_268 rfl ⟨_, rfl, rfl⟩ rfl rfl (Nat.le_of_ble_eq_true rfl) (Nat.le_of_ble_eq_true rfl) (by omega) (by omega) dX10_born_50 H (fun x50 m50 v50 hh50 H hp => ?_)
          refine cx_backG hp ?_
          refine cx_astore (pc := 53) [(4, rv x50.toNat), (0, .ref 1), (1, iv p1), (2, iv p2), (3, iv p3)] dX10_born_53 rfl (by decide) ?_
          refine cx_aload (pc := 55) dX10_born_55 rfl ?_
          refine jn_ind (fun (f9 : Int → Mem → Option Rz) => ∀ (s0_76 : Int) (m76 : Mem), inR s0_76 → f9 s0_76 m76 = some r → AW l D base sc RX10 yX10_born cX10_born 5 (some FieldType.int) 7 (4 * N) (125 * N) ad (E mi) (pI E r) ((0 + 4 * N) + 0) ((0 + 125 * N) + 0) (E m76) 76 [] [iv s0_76]) (fun s0_76 m76 hs0_76 H => ?_) (fun j76 hj76 H => ?_) H
          · -- 76
            exact cx_iret (pc := 76) hs0_76 rfl (by omega) (by omega) dX10_born_76 H
          refine cx_ifnonnull (pc := 57) 69 dX10_born_57 rfl H (fun H => ?_) (fun H => ?_)
          · -- 57: 60
            refine aw_aload_n (pc := 60) dX10_born_60 rfl ?_
            refine cx_ldc (pc := 61) (-1100000002) dX10_born_61 ct_X10_158 (by decide) ?_
            refine cx_callV (pc := 63) (P := pI) (dC := 1) (mcC := 0) (msC := 0) [iv (-1100000002)] hE r1 (fun r1 H1 => s_X10_fail l sc E R hE hR n (-1100000002) (inR_lit _ rfl) m50 r1 H1) ca_X10_108 rfl ⟨_, rfl, rfl⟩ rfl rfl (Nat.le_of_ble_eq_true rfl) (Nat.le_of_ble_eq_true rfl) (by omega) (by omega) dX10_born_63 H (fun x63 m63 v63 hh63 H hp => ?_)
            refine cx_backI hp (fun hx63 => ?_)
            refine aw_goto (pc := 66) 76 dX10_born_66 rfl ?_
            exact AW.sel [] rfl (hj76 _ _ hx63 H)
          · -- 57: 69
            refine aw_aload_n (pc := 69) dX10_born_69 rfl ?_
            refine aw_iload_n (pc := 70) dX10_born_70 rfl ?_
            refine cx_aload (pc := 71) dX10_born_71 rfl ?_
            refine cx_callV (pc := 73) (P := pI) (dC := 2) (mcC := 0) (msC := 0) [iv p3, rv x50.toNat] hE r1 (fun r1 H1 => s_X10_settle l sc E R hE hR n p3 x50.toNat hp3 m50 r1 H1) ca_X10_166 rfl ⟨_, rfl, rfl⟩ rfl rfl (Nat.le_of_ble_eq_true rfl) (Nat.le_of_ble_eq_true rfl) (by omega) (by omega) dX10_born_73 H (fun x73 m73 v73 hh73 H hp => ?_)
            refine cx_backI hp (fun hx73 => ?_)
            exact AW.sel [] rfl (hj76 _ _ hx73 H)
      refine cx_if_lt (pc := 13) 30 hp2 dX10_born_13 rfl H (fun H => ?_) (fun H => ?_)
      · -- 13: 30
        exact AW.sel [0, 1, 2, 3] rfl (hj30 _ H)
      · -- 13: 16
        refine aw_iload_n (pc := 16) dX10_born_16 rfl ?_
        refine cx_callS (pc := 17) (P := pI) (dC := 1) (mcC := 0) (msC := 0) [iv p3] (fun r1 H1 => s_X10_isSlot l sc E R hE hR n p3 hp3 m1 r1 H1) ca_X10_103 rfl rfl (Nat.le_of_ble_eq_true rfl) (Nat.le_of_ble_eq_true rfl) (by omega) (by omega) dX10_born_17 H (fun x17 m17 v17 hh17 H hp => ?_)
        refine cx_backI hp (fun hx17 => ?_)
        refine cx_if_ne (pc := 20) 30 hx17 dX10_born_20 rfl H (fun H => ?_) (fun H => ?_)
        · -- 20: 23
          exact AW.sel [0] rfl (hj23 _ H)
        · -- 20: 30
          exact AW.sel [0, 1, 2, 3] rfl (hj30 _ H)
/-- X10 feed (JI)I -/
def f_X10_feed (n : Nat) (p1 : Nat) (p3 : Int) (mi : Mem) : Option Rz :=
  cal (f_X10_isWithin n p3 1 8 mi) fun x4 m4 =>
  if x4 = 0 then (
    cal (f_X10_fail n (-1100000001) m4) fun x13 m13 =>
    rt x13 m13
  ) else
  cal (f_X7_hasRoom n p3 m4) fun x22 m22 =>
  jn (fun (s0_47 : Int) (m47 : Mem) =>
    rt s0_47 m47
  ) fun (j47 : Int → Mem → Option Rz) =>
  if x22 = 0 then (
    cal (f_X10_fail n (-1100000004) m22) fun x44 m44 =>
    j47 x44 m44
  ) else
  cal (f_X7_take n p1 p3 m22) fun x34 m34 =>
  j47 x34 m34
set_option maxRecDepth 100000 in
set_option maxHeartbeats 4000000 in
theorem s_X10_feed (l : Launch) (sc : g_S) (E : Mem → g_H) (R : Nat → Prop) (hE : LE E R) (hR : RCL R) (n : Nat)  (p1 : Nat) (p3 : Int) (hp3 : inR p3) (mi : Mem) (r : Rz) (H : f_X10_feed n p1 p3 mi = some r) : AMet l sc yX10_feed cX10_feed 4 (some FieldType.int) 2 0 0 [.ref 1, jv p1, iv p3] (E mi) (pI E r) := by
  have r1 : R 1 := hR.1 1 (Nat.le_of_ble_eq_true rfl) (Nat.le_of_ble_eq_true rfl)
  have r41 : R 41 := hR.1 41 (Nat.le_of_ble_eq_true rfl) (Nat.le_of_ble_eq_true rfl)
  unfold f_X10_feed at H
  refine AMet.of (own := RX10) (by decide +kernel) rfl (Nat.le_of_ble_eq_true rfl) [(0, .ref 1), (1, jv p1), (3, iv p3)] rfl (fun D base ad => ?_)
  refine aw_iload_n (pc := 0) dX10_feed_0 rfl ?_
  refine cx_iconst (pc := 1) dX10_feed_1 ?_
  refine cx_bipush (pc := 2) dX10_feed_2 (by decide) ?_
  refine cx_callS (pc := 4) (P := pI) (dC := 0) (mcC := 0) (msC := 0) [iv p3, iv 1, iv 8] (fun r1 H1 => s_X10_isWithin l sc E R hE hR n p3 1 8 hp3 (inR_lit _ rfl) (inR_lit _ rfl) mi r1 H1) ca_X10_159 rfl rfl (Nat.le_of_ble_eq_true rfl) (Nat.le_of_ble_eq_true rfl) (Nat.le_of_ble_eq_true rfl) (Nat.le_of_ble_eq_true rfl) dX10_feed_4 H (fun x4 m4 v4 hh4 H hp => ?_)
  refine cx_backI hp (fun hx4 => ?_)
  refine cx_if_ne (pc := 7) 17 hx4 dX10_feed_7 rfl H (fun H => ?_) (fun H => ?_)
  · -- 7: 10
    refine aw_aload_n (pc := 10) dX10_feed_10 rfl ?_
    refine cx_ldc (pc := 11) (-1100000001) dX10_feed_11 ct_X10_107 (by decide) ?_
    refine cx_callV (pc := 13) (P := pI) (dC := 1) (mcC := 0) (msC := 0) [iv (-1100000001)] hE r1 (fun r1 H1 => s_X10_fail l sc E R hE hR n (-1100000001) (inR_lit _ rfl) m4 r1 H1) ca_X10_108 rfl ⟨_, rfl, rfl⟩ rfl rfl (Nat.le_of_ble_eq_true rfl) (Nat.le_of_ble_eq_true rfl) (Nat.le_of_ble_eq_true rfl) (Nat.le_of_ble_eq_true rfl) dX10_feed_13 H (fun x13 m13 v13 hh13 H hp => ?_)
    refine cx_backI hp (fun hx13 => ?_)
    exact cx_iret (pc := 16) hx13 rfl (Nat.le_of_ble_eq_true rfl) (Nat.le_of_ble_eq_true rfl) dX10_feed_16 H
  · -- 7: 17
    refine aw_aload_n (pc := 17) dX10_feed_17 rfl ?_
    refine cx_gtC (pc := 18) 41 hE r1 fl_X10_72 rfl rfl (Nat.le_of_ble_eq_true rfl) dX10_feed_18 ?_
    refine aw_iload_n (pc := 21) dX10_feed_21 rfl ?_
    refine cx_callV (pc := 22) (P := pI) (dC := 0) (mcC := 0) (msC := 0) [iv p3] hE r41 (fun r1 H1 => s_X7_hasRoom l sc E R hE hR n p3 hp3 m4 r1 H1) ca_X10_272 rfl ⟨_, rfl, rfl⟩ rfl rfl (Nat.le_of_ble_eq_true rfl) (Nat.le_of_ble_eq_true rfl) (Nat.le_of_ble_eq_true rfl) (Nat.le_of_ble_eq_true rfl) dX10_feed_22 H (fun x22 m22 v22 hh22 H hp => ?_)
    refine cx_backI hp (fun hx22 => ?_)
    refine jn_ind (fun (f9 : Int → Mem → Option Rz) => ∀ (s0_47 : Int) (m47 : Mem), inR s0_47 → f9 s0_47 m47 = some r → AW l D base sc RX10 yX10_feed cX10_feed 4 (some FieldType.int) 2 0 0 ad (E mi) (pI E r) 0 0 (E m47) 47 [] [iv s0_47]) (fun s0_47 m47 hs0_47 H => ?_) (fun j47 hj47 H => ?_) H
    · -- 47
      exact cx_iret (pc := 47) hs0_47 rfl (Nat.le_of_ble_eq_true rfl) (Nat.le_of_ble_eq_true rfl) dX10_feed_47 H
    refine cx_if_eq (pc := 25) 40 hx22 dX10_feed_25 rfl H (fun H => ?_) (fun H => ?_)
    · -- 25: 40
      refine aw_aload_n (pc := 40) dX10_feed_40 rfl ?_
      refine cx_ldcw (pc := 41) (-1100000004) dX10_feed_41 ct_X10_279 (by decide) ?_
      refine cx_callV (pc := 44) (P := pI) (dC := 1) (mcC := 0) (msC := 0) [iv (-1100000004)] hE r1 (fun r1 H1 => s_X10_fail l sc E R hE hR n (-1100000004) (inR_lit _ rfl) m22 r1 H1) ca_X10_108 rfl ⟨_, rfl, rfl⟩ rfl rfl (Nat.le_of_ble_eq_true rfl) (Nat.le_of_ble_eq_true rfl) (Nat.le_of_ble_eq_true rfl) (Nat.le_of_ble_eq_true rfl) dX10_feed_44 H (fun x44 m44 v44 hh44 H hp => ?_)
      refine cx_backI hp (fun hx44 => ?_)
      exact AW.sel [] rfl (hj47 _ _ hx44 H)
    · -- 25: 28
      refine aw_aload_n (pc := 28) dX10_feed_28 rfl ?_
      refine cx_gtC (pc := 29) 41 hE r1 fl_X10_72 rfl rfl (Nat.le_of_ble_eq_true rfl) dX10_feed_29 ?_
      refine aw_lload_n (pc := 32) dX10_feed_32 rfl ?_
      refine aw_iload_n (pc := 33) dX10_feed_33 rfl ?_
      refine cx_callV (pc := 34) (P := pI) (dC := 0) (mcC := 0) (msC := 0) [jv p1, iv p3] hE r41 (fun r1 H1 => s_X7_take l sc E R hE hR n p1 p3 hp3 m22 r1 H1) ca_X10_275 rfl ⟨_, rfl, rfl⟩ rfl rfl (Nat.le_of_ble_eq_true rfl) (Nat.le_of_ble_eq_true rfl) (Nat.le_of_ble_eq_true rfl) (Nat.le_of_ble_eq_true rfl) dX10_feed_34 H (fun x34 m34 v34 hh34 H hp => ?_)
      refine cx_backI hp (fun hx34 => ?_)
      refine aw_goto (pc := 37) 47 dX10_feed_37 rfl ?_
      exact AW.sel [] rfl (hj47 _ _ hx34 H)
/-- X10 game (I)I -/
def f_X10_game (n N : Nat) (p1 : Int) (mi : Mem) : Option Rz :=
  cal (f_X10_isSlot n p1 mi) fun x1 m1 =>
  if x1 = 0 then (
    cal (f_X10_fail n (-1100000001) m1) fun x10 m10 =>
    rt x10 m10
  ) else
  cal (f_X7_parse n m1) fun x18 m18 =>
  cal (f_X7_empty n m18) fun _ m26 =>
  if x18 < 0 then (
    cal (f_X7_build n N m26) fun x44 m44 =>
    cal (f_X10_settle n p1 x44.toNat m44) fun x47 m47 =>
    rt x47 m47
  ) else
  rt (w32 ((-10) - x18)) m26
set_option maxRecDepth 100000 in
set_option maxHeartbeats 4000000 in
theorem s_X10_game (l : Launch) (sc : g_S) (E : Mem → g_H) (R : Nat → Prop) (hE : LE E R) (hR : RCL R) (hsc : sc.1 = 0) (n N : Nat)  (p1 : Int) (hp1 : inR p1) (mi : Mem) (r : Rz) (H : f_X10_game n N p1 mi = some r) : AMet l sc yX10_game cX10_game 3 (some FieldType.int) 44 (4 * N) (125 * N) [.ref 1, iv p1] (E mi) (pI E r) := by
  have r1 : R 1 := hR.1 1 (Nat.le_of_ble_eq_true rfl) (Nat.le_of_ble_eq_true rfl)
  have r41 : R 41 := hR.1 41 (Nat.le_of_ble_eq_true rfl) (Nat.le_of_ble_eq_true rfl)
  unfold f_X10_game at H
  refine AMet.of (own := RX10) (by decide +kernel) rfl (Nat.le_of_ble_eq_true rfl) [(0, .ref 1), (1, iv p1)] rfl (fun D base ad => ?_)
  refine aw_iload_n (pc := 0) dX10_game_0 rfl ?_
  refine cx_callS (pc := 1) (P := pI) (dC := 1) (mcC := 0) (msC := 0) [iv p1] (fun r1 H1 => s_X10_isSlot l sc E R hE hR n p1 hp1 mi r1 H1) ca_X10_103 rfl rfl (Nat.le_of_ble_eq_true rfl) (Nat.le_of_ble_eq_true rfl) (by omega) (by omega) dX10_game_1 H (fun x1 m1 v1 hh1 H hp => ?_)
  refine cx_backI hp (fun hx1 => ?_)
  refine cx_if_ne (pc := 4) 14 hx1 dX10_game_4 rfl H (fun H => ?_) (fun H => ?_)
  · -- 4: 7
    refine aw_aload_n (pc := 7) dX10_game_7 rfl ?_
    refine cx_ldc (pc := 8) (-1100000001) dX10_game_8 ct_X10_107 (by decide) ?_
    refine cx_callV (pc := 10) (P := pI) (dC := 1) (mcC := 0) (msC := 0) [iv (-1100000001)] hE r1 (fun r1 H1 => s_X10_fail l sc E R hE hR n (-1100000001) (inR_lit _ rfl) m1 r1 H1) ca_X10_108 rfl ⟨_, rfl, rfl⟩ rfl rfl (Nat.le_of_ble_eq_true rfl) (Nat.le_of_ble_eq_true rfl) (by omega) (by omega) dX10_game_10 H (fun x10 m10 v10 hh10 H hp => ?_)
    refine cx_backI hp (fun hx10 => ?_)
    exact cx_iret (pc := 13) hx10 rfl (by omega) (by omega) dX10_game_13 H
  · -- 4: 14
    refine aw_aload_n (pc := 14) dX10_game_14 rfl ?_
    refine cx_gtC (pc := 15) 41 hE r1 fl_X10_72 rfl rfl (Nat.le_of_ble_eq_true rfl) dX10_game_15 ?_
    refine cx_callV (pc := 18) (P := pI) (dC := 43) (mcC := 0) (msC := 0) [] hE r41 (fun r1 H1 => s_X7_parse l sc E R hE hR n m1 r1 H1) ca_X10_280 rfl ⟨_, rfl, rfl⟩ rfl rfl (Nat.le_of_ble_eq_true rfl) (Nat.le_of_ble_eq_true rfl) (by omega) (by omega) dX10_game_18 H (fun x18 m18 v18 hh18 H hp => ?_)
    refine cx_backI hp (fun hx18 => ?_)
    refine aw_istore_n (pc := 21) [(2, iv x18), (0, .ref 1), (1, iv p1)] dX10_game_21 rfl (by decide) ?_
    refine aw_aload_n (pc := 22) dX10_game_22 rfl ?_
    refine cx_gtC (pc := 23) 41 hE r1 fl_X10_72 rfl rfl (Nat.le_of_ble_eq_true rfl) dX10_game_23 ?_
    refine cx_callV (pc := 26) (P := pV) (dC := 0) (mcC := 0) (msC := 0) [] hE r41 (fun r1 H1 => s_X7_empty l sc E R hE hR n m18 r1 H1) ca_X10_283 rfl ⟨_, rfl, rfl⟩ rfl rfl (Nat.le_of_ble_eq_true rfl) (Nat.le_of_ble_eq_true rfl) (by omega) (by omega) dX10_game_26 H (fun x26 m26 v26 hh26 H hp => ?_)
    refine cx_backV hp ?_
    refine aw_iload_n (pc := 29) dX10_game_29 rfl ?_
    refine cx_if_lt (pc := 30) 38 hx18 dX10_game_30 rfl H (fun H => ?_) (fun H => ?_)
    · -- 30: 38
      refine aw_aload_n (pc := 38) dX10_game_38 rfl ?_
      refine aw_iload_n (pc := 39) dX10_game_39 rfl ?_
      refine aw_aload_n (pc := 40) dX10_game_40 rfl ?_
      refine cx_gtC (pc := 41) 41 hE r1 fl_X10_72 rfl rfl (Nat.le_of_ble_eq_true rfl) dX10_game_41 ?_
      refine cx_callV (pc := 44) (P := pG) (dC := 6) (mcC := (4 * N)) (msC := (125 * N)) [] hE r41 (fun r1 H1 => s_X7_build l sc E R hE hR hsc n N m26 r1 H1) ca_X10_286 rfl ⟨_, rfl, rfl⟩ rfl rfl (Nat.le_of_ble_eq_true rfl) (Nat.le_of_ble_eq_true rfl) (by omega) (by omega) dX10_game_44 H (fun x44 m44 v44 hh44 H hp => ?_)
      refine cx_backG hp ?_
      refine cx_callV (pc := 47) (P := pI) (dC := 2) (mcC := 0) (msC := 0) [iv p1, rv x44.toNat] hE r1 (fun r1 H1 => s_X10_settle l sc E R hE hR n p1 x44.toNat hp1 m44 r1 H1) ca_X10_166 rfl ⟨_, rfl, rfl⟩ rfl rfl (Nat.le_of_ble_eq_true rfl) (Nat.le_of_ble_eq_true rfl) (by omega) (by omega) dX10_game_47 H (fun x47 m47 v47 hh47 H hp => ?_)
      refine cx_backI hp (fun hx47 => ?_)
      exact cx_iret (pc := 50) hx47 rfl (by omega) (by omega) dX10_game_50 H
    · -- 30: 33
      refine cx_bipush (pc := 33) dX10_game_33 (by decide) ?_
      refine aw_iload_n (pc := 35) dX10_game_35 rfl ?_
      refine cx_isub (pc := 36) dX10_game_36 ?_
      exact cx_iret (pc := 37) (inR_w32 _) rfl (by omega) (by omega) dX10_game_37 H
