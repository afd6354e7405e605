/-- X11 no (I)I -/
def f_X11_no (n : Nat) (p1 : Int) (mi : Mem) : Option Rz :=
  ldI mi 101 p1 fun x6 =>
  stI mi 101 p1 (w32 (x6 + 1)) fun m9 =>
  rt (w32 ((-1100000000) - p1)) m9
set_option maxRecDepth 100000 in
set_option maxHeartbeats 4000000 in
theorem s_X11_no (l : Launch) (sc : g_S) (E : Mem → g_H) (R : Nat → Prop) (hE : LE E R) (hR : RRF R) (n : Nat)  (p1 : Int) (hp1 : inR p1) (mi : Mem) (r : Rz) (H : f_X11_no n p1 mi = some r) : AMet l sc yX11_no cX11_no 2 (some FieldType.int) 0 0 0 [.ref 100, iv p1] (E mi) (pI E r) := by
  have r100 : R 100 := hR 100 (Nat.le_of_ble_eq_true rfl) (Nat.le_of_ble_eq_true rfl)
  have r101 : R 101 := hR 101 (Nat.le_of_ble_eq_true rfl) (Nat.le_of_ble_eq_true rfl)
  unfold f_X11_no at H
  refine AMet.of (own := RX11) (by decide +kernel) rfl (Nat.le_of_ble_eq_true rfl) [(0, .ref 100), (1, iv p1)] rfl (fun D base ad => ?_)
  refine aw_aload_n (pc := 0) dX11_no_0 rfl ?_
  refine cx_gtC (pc := 1) 101 hE r100 fl_X11_1 rfl rfl (Nat.le_of_ble_eq_true rfl) dX11_no_1 ?_
  refine aw_iload_n (pc := 4) dX11_no_4 rfl ?_
  refine aw_dup2 (pc := 5) dX11_no_5 rfl rfl ?_
  refine cx_ldI (pc := 6) hE r101 hp1 dX11_no_6 H (fun x6 hx6 H => ?_)
  refine cx_iconst (pc := 7) dX11_no_7 ?_
  refine cx_iadd (pc := 8) dX11_no_8 ?_
  refine cx_stI (pc := 9) hE r101 hp1 dX11_no_9 H (fun m9 H => ?_)
  refine cx_ldc (pc := 10) (-1100000000) dX11_no_10 ct_X11_7 (by decide) ?_
  refine aw_iload_n (pc := 12) dX11_no_12 rfl ?_
  refine cx_isub (pc := 13) dX11_no_13 ?_
  exact cx_iret (pc := 14) (inR_w32 _) rfl (Nat.le_of_ble_eq_true rfl) (Nat.le_of_ble_eq_true rfl) dX11_no_14 H
/-- X11 in (III)Z -/
def f_X11_in (n : Nat) (p0 : Int) (p1 : Int) (p2 : Int) (mi : Mem) : Option Rz :=
  jn (fun (s0_15 : Int) (m15 : Mem) =>
    rtZ s0_15 m15
  ) fun (j15 : Int → Mem → Option Rz) =>
  jn (fun (m14 : Mem) =>
    j15 0 m14
  ) fun (j14 : Mem → Option Rz) =>
  if p0 < p1 then (
    j14 mi
  ) else
  if p2 < p0 then (
    j14 mi
  ) else
  j15 1 mi
set_option maxRecDepth 100000 in
set_option maxHeartbeats 4000000 in
theorem s_X11_in (l : Launch) (sc : g_S) (E : Mem → g_H) (R : Nat → Prop) (hE : LE E R) (hR : RRF R) (n : Nat)  (p0 : Int) (p1 : Int) (p2 : Int) (hp0 : inR p0) (hp1 : inR p1) (hp2 : inR p2) (mi : Mem) (r : Rz) (H : f_X11_in n p0 p1 p2 mi = some r) : AMet l sc yX11_in cX11_in 3 (some FieldType.boolean) 0 0 0 [iv p0, iv p1, iv p2] (E mi) (pI E r) := by
  unfold f_X11_in at H
  refine AMet.of (own := RX11) (by decide +kernel) rfl (Nat.le_of_ble_eq_true rfl) [(0, iv p0), (1, iv p1), (2, iv p2)] rfl (fun D base ad => ?_)
  refine aw_iload_n (pc := 0) dX11_in_0 rfl ?_
  refine aw_iload_n (pc := 1) dX11_in_1 rfl ?_
  refine jn_ind (fun (f9 : Int → Mem → Option Rz) => ∀ (s0_15 : Int) (m15 : Mem), inR s0_15 → f9 s0_15 m15 = some r → AW l D base sc RX11 yX11_in cX11_in 3 (some FieldType.boolean) 0 0 0 ad (E mi) (pI E r) 0 0 (E m15) 15 [] [iv s0_15]) (fun s0_15 m15 hs0_15 H => ?_) (fun j15 hj15 H => ?_) H
  · -- 15
    exact cx_zret (pc := 15) rfl (Nat.le_of_ble_eq_true rfl) (Nat.le_of_ble_eq_true rfl) dX11_in_15 H
  refine jn_ind (fun (f9 : Mem → Option Rz) => ∀ (m14 : Mem), f9 m14 = some r → AW l D base sc RX11 yX11_in cX11_in 3 (some FieldType.boolean) 0 0 0 ad (E mi) (pI E r) 0 0 (E m14) 14 [] []) (fun m14 H => ?_) (fun j14 hj14 H => ?_) H
  · -- 14
    refine cx_iconst (pc := 14) dX11_in_14 ?_
    exact AW.sel [] rfl (hj15 _ _ (inR_lit _ rfl) H)
  refine cx_icmp_lt (pc := 2) 14 hp0 hp1 dX11_in_2 rfl H (fun H => ?_) (fun H => ?_)
  · -- 2: 14
    exact AW.sel [] rfl (hj14 _ H)
  · -- 2: 5
    refine aw_iload_n (pc := 5) dX11_in_5 rfl ?_
    refine aw_iload_n (pc := 6) dX11_in_6 rfl ?_
    refine cx_icmp_gt (pc := 7) 14 hp0 hp2 dX11_in_7 rfl H (fun H => ?_) (fun H => ?_)
    · -- 7: 14
      exact AW.sel [] rfl (hj14 _ H)
    · -- 7: 10
      refine cx_iconst (pc := 10) dX11_in_10 ?_
      refine aw_goto (pc := 11) 15 dX11_in_11 rfl ?_
      exact AW.sel [] rfl (hj15 _ _ (inR_lit _ rfl) H)
/-- X11 spread (I)I -/
def f_X11_spread (n : Nat) (p0 : Int) (mi : Mem) : Option Rz :=
  nm (w32 (p0 * (-1640531527))) fun z4 =>
  rt (ixor z4 (iushr z4 15)) mi
set_option maxRecDepth 100000 in
set_option maxHeartbeats 4000000 in
theorem s_X11_spread (l : Launch) (sc : g_S) (E : Mem → g_H) (R : Nat → Prop) (hE : LE E R) (hR : RRF R) (n : Nat)  (p0 : Int) (hp0 : inR p0) (mi : Mem) (r : Rz) (H : f_X11_spread n p0 mi = some r) : AMet l sc yX11_spread cX11_spread 2 (some FieldType.int) 0 0 0 [iv p0] (E mi) (pI E r) := by
  unfold f_X11_spread at H
  refine AMet.of (own := RX11) (by decide +kernel) rfl (Nat.le_of_ble_eq_true rfl) [(0, iv p0)] rfl (fun D base ad => ?_)
  refine aw_iload_n (pc := 0) dX11_spread_0 rfl ?_
  refine cx_ldc (pc := 1) (-1640531527) dX11_spread_1 ct_X11_8 (by decide) ?_
  refine cx_imul (pc := 3) dX11_spread_3 ?_
  refine cx_nm (inR_w32 _) H (fun z4 hz4 H => ?_)
  refine aw_istore_n (pc := 4) [(1, iv z4), (0, iv p0)] dX11_spread_4 rfl (by decide) ?_
  refine aw_iload_n (pc := 5) dX11_spread_5 rfl ?_
  refine aw_iload_n (pc := 6) dX11_spread_6 rfl ?_
  refine cx_bipush (pc := 7) dX11_spread_7 (by decide) ?_
  refine cx_iushr (pc := 9) dX11_spread_9 ?_
  refine cx_ixor (pc := 10) dX11_spread_10 ?_
  exact cx_iret (pc := 11) (inR_32 _) rfl (Nat.le_of_ble_eq_true rfl) (Nat.le_of_ble_eq_true rfl) dX11_spread_11 H
/-- X11 hash ()I -/
def f_X11_hash (n : Nat)  (mi : Mem) : Option Rz :=
  lp (F := Int → Int → Mem → Option Rz) (fun _ _ _ => none) (fun w4 v1_4 v2_4 m4 =>
    gtF m4 100 23 fun x6 =>
    if v2_4 < x6 then (
      ldI m4 120 v2_4 fun x18 =>
      cal (f_X11_spread n (w32 (x18 + 1)) m4) fun x21 m21 =>
      nm (w32 (v1_4 + x21)) fun z25 =>
      w4 z25 (w32 (v2_4 + 1)) m21
    ) else
    lp (F := Int → Int → Mem → Option Rz) (fun _ _ _ => none) (fun w34 v1_34 v2_34 m34 =>
      gtF m34 100 24 fun x36 =>
      if v2_34 < x36 then (
        ldI m34 121 v2_34 fun x50 =>
        cal (f_X11_spread n (w32 (x50 + 1)) m34) fun x53 m53 =>
        nm (w32 (v1_34 + (w32 (31 * x53)))) fun z58 =>
        w34 z58 (w32 (v2_34 + 1)) m53
      ) else
      cal (f_X11_spread n v1_34 m34) fun x66 m66 =>
      rt (iand x66 16383) m66
    ) n v1_4 0 m4
  ) n 0 0 mi
set_option maxRecDepth 100000 in
set_option maxHeartbeats 4000000 in
theorem s_X11_hash (l : Launch) (sc : g_S) (E : Mem → g_H) (R : Nat → Prop) (hE : LE E R) (hR : RRF R) (n : Nat)    (mi : Mem) (r : Rz) (H : f_X11_hash n  mi = some r) : AMet l sc yX11_hash cX11_hash 3 (some FieldType.int) 1 0 0 [.ref 100] (E mi) (pI E r) := by
  have r100 : R 100 := hR 100 (Nat.le_of_ble_eq_true rfl) (Nat.le_of_ble_eq_true rfl)
  have r120 : R 120 := hR 120 (Nat.le_of_ble_eq_true rfl) (Nat.le_of_ble_eq_true rfl)
  have r121 : R 121 := hR 121 (Nat.le_of_ble_eq_true rfl) (Nat.le_of_ble_eq_true rfl)
  unfold f_X11_hash at H
  refine AMet.of (own := RX11) (by decide +kernel) rfl (Nat.le_of_ble_eq_true rfl) [(0, .ref 100)] rfl (fun D base ad => ?_)
  refine cx_iconst (pc := 0) dX11_hash_0 ?_
  refine aw_istore_n (pc := 1) [(1, iv 0), (0, .ref 100)] dX11_hash_1 rfl (by decide) ?_
  refine cx_iconst (pc := 2) dX11_hash_2 ?_
  refine aw_istore_n (pc := 3) [(2, iv 0), (1, iv 0), (0, .ref 100)] dX11_hash_3 rfl (by decide) ?_
  refine AW.sel [2, 1, 0] rfl (lp_ind (bot := fun _ _ _ => none) (fun (f9 : Int → Int → Mem → Option Rz) => ∀ (v1_4 : Int) (v2_4 : Int) (m4 : Mem), inR v1_4 → inR v2_4 → f9 v1_4 v2_4 m4 = some r → AW l D base sc RX11 yX11_hash cX11_hash 3 (some FieldType.int) 1 0 0 ad (E mi) (pI E r) 0 0 (E m4) 4 [(0, .ref 100), (1, iv v1_4), (2, iv v2_4)] []) (fun _ _ _ _ _ h9 => nomatch h9) (fun w4 ih4 v1_4 v2_4 m4 hv1_4 hv2_4 H => ?_) n _ _ _ (inR_lit _ rfl) (inR_lit _ rfl) H)
  refine aw_iload_n (pc := 4) dX11_hash_4 rfl ?_
  refine aw_aload_n (pc := 5) dX11_hash_5 rfl ?_
  refine cx_gtF (pc := 6) hE r100 fl_X11_9 rfl rfl (Nat.le_of_ble_eq_true rfl) dX11_hash_6 H (fun x6 hx6 H => ?_)
  refine cx_icmp_ge (pc := 9) 32 hv2_4 hx6 dX11_hash_9 rfl H (fun H => ?_) (fun H => ?_)
  · -- 9: 12
    refine aw_iload_n (pc := 12) dX11_hash_12 rfl ?_
    refine aw_aload_n (pc := 13) dX11_hash_13 rfl ?_
    refine cx_gtC (pc := 14) 120 hE r100 fl_X11_13 rfl rfl (Nat.le_of_ble_eq_true rfl) dX11_hash_14 ?_
    refine aw_iload_n (pc := 17) dX11_hash_17 rfl ?_
    refine cx_ldI (pc := 18) hE r120 hv2_4 dX11_hash_18 H (fun x18 hx18 H => ?_)
    refine cx_iconst (pc := 19) dX11_hash_19 ?_
    refine cx_iadd (pc := 20) dX11_hash_20 ?_
    refine cx_callS (pc := 21) (P := pI) (dC := 0) (mcC := 0) (msC := 0) [iv (w32 (x18 + 1))] (fun r1 H1 => s_X11_spread l sc E R hE hR n (w32 (x18 + 1)) (inR_w32 _) m4 r1 H1) ca_X11_16 rfl rfl (Nat.le_of_ble_eq_true rfl) (Nat.le_of_ble_eq_true rfl) (Nat.le_of_ble_eq_true rfl) (Nat.le_of_ble_eq_true rfl) dX11_hash_21 H (fun x21 m21 v21 hh21 H hp => ?_)
    refine cx_backI hp (fun hx21 => ?_)
    refine cx_iadd (pc := 24) dX11_hash_24 ?_
    refine cx_nm (inR_w32 _) H (fun z25 hz25 H => ?_)
    refine aw_istore_n (pc := 25) [(1, iv z25), (0, .ref 100), (2, iv v2_4)] dX11_hash_25 rfl (by decide) ?_
    refine cx_iinc (pc := 26) [(2, iv (w32 (v2_4 + 1))), (1, iv z25), (0, .ref 100)] dX11_hash_26 rfl rfl (by decide) ?_
    refine aw_goto (pc := 29) 4 dX11_hash_29 rfl ?_
    exact AW.sel [2, 1, 0] rfl (ih4 _ _ _ hz25 (inR_w32 _) H)
  · -- 9: 32
    refine cx_iconst (pc := 32) dX11_hash_32 ?_
    refine aw_istore_n (pc := 33) [(2, iv 0), (0, .ref 100), (1, iv v1_4)] dX11_hash_33 rfl (by decide) ?_
    refine AW.sel [1, 2, 0] rfl (lp_ind (bot := fun _ _ _ => none) (fun (f9 : Int → Int → Mem → Option Rz) => ∀ (v1_34 : Int) (v2_34 : Int) (m34 : Mem), inR v1_34 → inR v2_34 → f9 v1_34 v2_34 m34 = some r → AW l D base sc RX11 yX11_hash cX11_hash 3 (some FieldType.int) 1 0 0 ad (E mi) (pI E r) 0 0 (E m34) 34 [(0, .ref 100), (1, iv v1_34), (2, iv v2_34)] []) (fun _ _ _ _ _ h9 => nomatch h9) (fun w34 ih34 v1_34 v2_34 m34 hv1_34 hv2_34 H => ?_) n _ _ _ hv1_4 (inR_lit _ rfl) H)
    refine aw_iload_n (pc := 34) dX11_hash_34 rfl ?_
    refine aw_aload_n (pc := 35) dX11_hash_35 rfl ?_
    refine cx_gtF (pc := 36) hE r100 fl_X11_20 rfl rfl (Nat.le_of_ble_eq_true rfl) dX11_hash_36 H (fun x36 hx36 H => ?_)
    refine cx_icmp_ge (pc := 39) 65 hv2_34 hx36 dX11_hash_39 rfl H (fun H => ?_) (fun H => ?_)
    · -- 39: 42
      refine aw_iload_n (pc := 42) dX11_hash_42 rfl ?_
      refine cx_bipush (pc := 43) dX11_hash_43 (by decide) ?_
      refine aw_aload_n (pc := 45) dX11_hash_45 rfl ?_
      refine cx_gtC (pc := 46) 121 hE r100 fl_X11_23 rfl rfl (Nat.le_of_ble_eq_true rfl) dX11_hash_46 ?_
      refine aw_iload_n (pc := 49) dX11_hash_49 rfl ?_
      refine cx_ldI (pc := 50) hE r121 hv2_34 dX11_hash_50 H (fun x50 hx50 H => ?_)
      refine cx_iconst (pc := 51) dX11_hash_51 ?_
      refine cx_iadd (pc := 52) dX11_hash_52 ?_
      refine cx_callS (pc := 53) (P := pI) (dC := 0) (mcC := 0) (msC := 0) [iv (w32 (x50 + 1))] (fun r1 H1 => s_X11_spread l sc E R hE hR n (w32 (x50 + 1)) (inR_w32 _) m34 r1 H1) ca_X11_16 rfl rfl (Nat.le_of_ble_eq_true rfl) (Nat.le_of_ble_eq_true rfl) (Nat.le_of_ble_eq_true rfl) (Nat.le_of_ble_eq_true rfl) dX11_hash_53 H (fun x53 m53 v53 hh53 H hp => ?_)
      refine cx_backI hp (fun hx53 => ?_)
      refine cx_imul (pc := 56) dX11_hash_56 ?_
      refine cx_iadd (pc := 57) dX11_hash_57 ?_
      refine cx_nm (inR_w32 _) H (fun z58 hz58 H => ?_)
      refine aw_istore_n (pc := 58) [(1, iv z58), (0, .ref 100), (2, iv v2_34)] dX11_hash_58 rfl (by decide) ?_
      refine cx_iinc (pc := 59) [(2, iv (w32 (v2_34 + 1))), (1, iv z58), (0, .ref 100)] dX11_hash_59 rfl rfl (by decide) ?_
      refine aw_goto (pc := 62) 34 dX11_hash_62 rfl ?_
      exact AW.sel [2, 1, 0] rfl (ih34 _ _ _ hz58 (inR_w32 _) H)
    · -- 39: 65
      refine aw_iload_n (pc := 65) dX11_hash_65 rfl ?_
      refine cx_callS (pc := 66) (P := pI) (dC := 0) (mcC := 0) (msC := 0) [iv v1_34] (fun r1 H1 => s_X11_spread l sc E R hE hR n v1_34 hv1_34 m34 r1 H1) ca_X11_16 rfl rfl (Nat.le_of_ble_eq_true rfl) (Nat.le_of_ble_eq_true rfl) (Nat.le_of_ble_eq_true rfl) (Nat.le_of_ble_eq_true rfl) dX11_hash_66 H (fun x66 m66 v66 hh66 H hp => ?_)
      refine cx_backI hp (fun hx66 => ?_)
      refine cx_sipush (pc := 69) dX11_hash_69 (by decide) ?_
      refine cx_iand (pc := 72) dX11_hash_72 ?_
      exact cx_iret (pc := 73) (inR_32 _) rfl (Nat.le_of_ble_eq_true rfl) (Nat.le_of_ble_eq_true rfl) dX11_hash_73 H
/-- X11 has ([IIII)Z -/
def f_X11_has (n : Nat) (p0 : Nat) (p1 : Int) (p2 : Int) (p3 : Int) (mi : Mem) : Option Rz :=
  lp (F := Int → Int → Mem → Option Rz) (fun _ _ _ => none) (fun w6 v4_6 v5_6 m6 =>
    jn (fun (m38 : Mem) =>
      rtZ v4_6 m38
    ) fun (j38 : Mem → Option Rz) =>
    if v5_6 < p2 then (
      if v4_6 = 0 then (
        ldI m6 p0 v5_6 fun x20 =>
        jn (fun (s0_30 : Int) (m30 : Mem) =>
          w6 s0_30 (w32 (v5_6 + 1)) m30
        ) fun (j30 : Int → Mem → Option Rz) =>
        if x20 = p3 then (
          j30 1 m6
        ) else
        j30 0 m6
      ) else
      j38 m6
    ) else
    j38 m6
  ) n 0 p1 mi
set_option maxRecDepth 100000 in
set_option maxHeartbeats 4000000 in
theorem s_X11_has (l : Launch) (sc : g_S) (E : Mem → g_H) (R : Nat → Prop) (hE : LE E R) (hR : RRF R) (n : Nat)  (p0 : Nat) (p1 : Int) (p2 : Int) (p3 : Int) (hp0 : R p0) (hp1 : inR p1) (hp2 : inR p2) (hp3 : inR p3) (mi : Mem) (r : Rz) (H : f_X11_has n p0 p1 p2 p3 mi = some r) : AMet l sc yX11_has cX11_has 6 (some FieldType.boolean) 0 0 0 [.ref p0, iv p1, iv p2, iv p3] (E mi) (pI E r) := by
  unfold f_X11_has at H
  refine AMet.of (own := RX11) (by decide +kernel) rfl (Nat.le_of_ble_eq_true rfl) [(0, .ref p0), (1, iv p1), (2, iv p2), (3, iv p3)] rfl (fun D base ad => ?_)
  refine cx_iconst (pc := 0) dX11_has_0 ?_
  refine aw_istore (pc := 1) [(4, iv 0), (0, .ref p0), (1, iv p1), (2, iv p2), (3, iv p3)] dX11_has_1 rfl (by decide) ?_
  refine aw_iload_n (pc := 3) dX11_has_3 rfl ?_
  refine aw_istore (pc := 4) [(5, iv p1), (4, iv 0), (0, .ref p0), (1, iv p1), (2, iv p2), (3, iv p3)] dX11_has_4 rfl (by decide) ?_
  refine AW.sel [2, 4, 5, 1, 0] rfl (lp_ind (bot := fun _ _ _ => none) (fun (f9 : Int → Int → Mem → Option Rz) => ∀ (v4_6 : Int) (v5_6 : Int) (m6 : Mem), inR v4_6 → inR v5_6 → f9 v4_6 v5_6 m6 = some r → AW l D base sc RX11 yX11_has cX11_has 6 (some FieldType.boolean) 0 0 0 ad (E mi) (pI E r) 0 0 (E m6) 6 [(0, .ref p0), (2, iv p2), (3, iv p3), (4, iv v4_6), (5, iv v5_6)] []) (fun _ _ _ _ _ h9 => nomatch h9) (fun w6 ih6 v4_6 v5_6 m6 hv4_6 hv5_6 H => ?_) n _ _ _ (inR_lit _ rfl) hp1 H)
  refine aw_iload (pc := 6) dX11_has_6 rfl ?_
  refine aw_iload_n (pc := 8) dX11_has_8 rfl ?_
  refine jn_ind (fun (f9 : Mem → Option Rz) => ∀ (m38 : Mem), f9 m38 = some r → AW l D base sc RX11 yX11_has cX11_has 6 (some FieldType.boolean) 0 0 0 ad (E mi) (pI E r) 0 0 (E m38) 38 [(4, iv v4_6)] []) (fun m38 H => ?_) (fun j38 hj38 H => ?_) H
  · -- 38
    refine aw_iload (pc := 38) dX11_has_38 rfl ?_
    exact cx_zret (pc := 40) rfl (Nat.le_of_ble_eq_true rfl) (Nat.le_of_ble_eq_true rfl) dX11_has_40 H
  refine cx_icmp_ge (pc := 9) 38 hv5_6 hp2 dX11_has_9 rfl H (fun H => ?_) (fun H => ?_)
  · -- 9: 12
    refine aw_iload (pc := 12) dX11_has_12 rfl ?_
    refine cx_if_ne (pc := 14) 38 hv4_6 dX11_has_14 rfl H (fun H => ?_) (fun H => ?_)
    · -- 14: 17
      refine aw_aload_n (pc := 17) dX11_has_17 rfl ?_
      refine aw_iload (pc := 18) dX11_has_18 rfl ?_
      refine cx_ldI (pc := 20) hE hp0 hv5_6 dX11_has_20 H (fun x20 hx20 H => ?_)
      refine aw_iload_n (pc := 21) dX11_has_21 rfl ?_
      refine jn_ind (fun (f9 : Int → Mem → Option Rz) => ∀ (s0_30 : Int) (m30 : Mem), inR s0_30 → f9 s0_30 m30 = some r → AW l D base sc RX11 yX11_has cX11_has 6 (some FieldType.boolean) 0 0 0 ad (E mi) (pI E r) 0 0 (E m30) 30 [(0, .ref p0), (2, iv p2), (3, iv p3), (5, iv v5_6)] [iv s0_30]) (fun s0_30 m30 hs0_30 H => ?_) (fun j30 hj30 H => ?_) H
      · -- 30
        refine aw_istore (pc := 30) [(4, iv s0_30), (0, .ref p0), (2, iv p2), (3, iv p3), (5, iv v5_6)] dX11_has_30 rfl (by decide) ?_
        refine cx_iinc (pc := 32) [(5, iv (w32 (v5_6 + 1))), (4, iv s0_30), (0, .ref p0), (2, iv p2), (3, iv p3)] dX11_has_32 rfl rfl (by decide) ?_
        refine aw_goto (pc := 35) 6 dX11_has_35 rfl ?_
        exact AW.sel [2, 3, 4, 1, 0] rfl (ih6 _ _ _ hs0_30 (inR_w32 _) H)
      refine cx_icmp_ne (pc := 22) 29 hx20 hp3 dX11_has_22 rfl H (fun H => ?_) (fun H => ?_)
      · -- 22: 25
        refine cx_iconst (pc := 25) dX11_has_25 ?_
        refine aw_goto (pc := 26) 30 dX11_has_26 rfl ?_
        exact AW.sel [0, 1, 2, 4] rfl (hj30 _ _ (inR_lit _ rfl) H)
      · -- 22: 29
        refine cx_iconst (pc := 29) dX11_has_29 ?_
        exact AW.sel [0, 1, 2, 4] rfl (hj30 _ _ (inR_lit _ rfl) H)
    · -- 14: 38
      exact AW.sel [3] rfl (hj38 _ H)
  · -- 9: 38
    exact AW.sel [3] rfl (hj38 _ H)
/-- X11 isAtHand (I)Z -/
def f_X11_isAtHand (n : Nat) (p1 : Int) (mi : Mem) : Option Rz :=
  ldI mi 104 p1 fun x5 =>
  ldI mi 103 p1 fun x11 =>
  gtF mi 100 23 fun x14 =>
  jn (fun (s0_45 : Int) (m45 : Mem) =>
    lp (F := Int → Int → Mem → Option Rz) (fun _ _ _ => none) (fun w48 v2_48 v3_48 m48 =>
      gtF m48 100 23 fun x50 =>
      jn (fun (m92 : Mem) =>
        lp (F := Int → Int → Mem → Option Rz) (fun _ _ _ => none) (fun w94 v2_94 v3_94 m94 =>
          gtF m94 100 24 fun x96 =>
          jn (fun (m138 : Mem) =>
            rtZ v2_94 m138
          ) fun (j138 : Mem → Option Rz) =>
          if v3_94 < x96 then (
            if v2_94 = 0 then (
              j138 m94
            ) else
            ldI m94 104 p1 fun x115 =>
            ldI m94 105 p1 fun x121 =>
            ldI m94 121 v3_94 fun x127 =>
            cal (f_X11_has n 102 x115 x121 x127 m94) fun x128 m128 =>
            w94 x128 (w32 (v3_94 + 1)) m128
          ) else
          j138 m94
        ) n v2_48 0 m92
      ) fun (j92 : Mem → Option Rz) =>
      if v3_48 < x50 then (
        if v2_48 = 0 then (
          j92 m48
        ) else
        ldI m48 103 p1 fun x69 =>
        ldI m48 104 p1 fun x75 =>
        ldI m48 120 v3_48 fun x81 =>
        cal (f_X11_has n 102 x69 x75 x81 m48) fun x82 m82 =>
        w48 x82 (w32 (v3_48 + 1)) m82
      ) else
      j92 m48
    ) n s0_45 0 m45
  ) fun (j45 : Int → Mem → Option Rz) =>
  jn (fun (m44 : Mem) =>
    j45 0 m44
  ) fun (j44 : Mem → Option Rz) =>
  if w32 (x5 - x11) = x14 then (
    ldI mi 105 p1 fun x25 =>
    ldI mi 104 p1 fun x31 =>
    gtF mi 100 24 fun x34 =>
    if w32 (x25 - x31) = x34 then (
      j45 1 mi
    ) else
    j44 mi
  ) else
  j44 mi
set_option maxRecDepth 100000 in
set_option maxHeartbeats 4000000 in
theorem s_X11_isAtHand (l : Launch) (sc : g_S) (E : Mem → g_H) (R : Nat → Prop) (hE : LE E R) (hR : RRF R) (n : Nat)  (p1 : Int) (hp1 : inR p1) (mi : Mem) (r : Rz) (H : f_X11_isAtHand n p1 mi = some r) : AMet l sc yX11_isAtHand cX11_isAtHand 4 (some FieldType.boolean) 1 0 0 [.ref 100, iv p1] (E mi) (pI E r) := by
  have r100 : R 100 := hR 100 (Nat.le_of_ble_eq_true rfl) (Nat.le_of_ble_eq_true rfl)
  have r102 : R 102 := hR 102 (Nat.le_of_ble_eq_true rfl) (Nat.le_of_ble_eq_true rfl)
  have r103 : R 103 := hR 103 (Nat.le_of_ble_eq_true rfl) (Nat.le_of_ble_eq_true rfl)
  have r104 : R 104 := hR 104 (Nat.le_of_ble_eq_true rfl) (Nat.le_of_ble_eq_true rfl)
  have r105 : R 105 := hR 105 (Nat.le_of_ble_eq_true rfl) (Nat.le_of_ble_eq_true rfl)
  have r120 : R 120 := hR 120 (Nat.le_of_ble_eq_true rfl) (Nat.le_of_ble_eq_true rfl)
  have r121 : R 121 := hR 121 (Nat.le_of_ble_eq_true rfl) (Nat.le_of_ble_eq_true rfl)
  unfold f_X11_isAtHand at H
  refine AMet.of (own := RX11) (by decide +kernel) rfl (Nat.le_of_ble_eq_true rfl) [(0, .ref 100), (1, iv p1)] rfl (fun D base ad => ?_)
  refine aw_aload_n (pc := 0) dX11_isAtHand_0 rfl ?_
  refine cx_gtC (pc := 1) 104 hE r100 fl_X11_26 rfl rfl (Nat.le_of_ble_eq_true rfl) dX11_isAtHand_1 ?_
  refine aw_iload_n (pc := 4) dX11_isAtHand_4 rfl ?_
  refine cx_ldI (pc := 5) hE r104 hp1 dX11_isAtHand_5 H (fun x5 hx5 H => ?_)
  refine aw_aload_n (pc := 6) dX11_isAtHand_6 rfl ?_
  refine cx_gtC (pc := 7) 103 hE r100 fl_X11_29 rfl rfl (Nat.le_of_ble_eq_true rfl) dX11_isAtHand_7 ?_
  refine aw_iload_n (pc := 10) dX11_isAtHand_10 rfl ?_
  refine cx_ldI (pc := 11) hE r103 hp1 dX11_isAtHand_11 H (fun x11 hx11 H => ?_)
  refine cx_isub (pc := 12) dX11_isAtHand_12 ?_
  refine aw_aload_n (pc := 13) dX11_isAtHand_13 rfl ?_
  refine cx_gtF (pc := 14) hE r100 fl_X11_9 rfl rfl (Nat.le_of_ble_eq_true rfl) dX11_isAtHand_14 H (fun x14 hx14 H => ?_)
  refine jn_ind (fun (f9 : Int → Mem → Option Rz) => ∀ (s0_45 : Int) (m45 : Mem), inR s0_45 → f9 s0_45 m45 = some r → AW l D base sc RX11 yX11_isAtHand cX11_isAtHand 4 (some FieldType.boolean) 1 0 0 ad (E mi) (pI E r) 0 0 (E m45) 45 [(0, .ref 100), (1, iv p1)] [iv s0_45]) (fun s0_45 m45 hs0_45 H => ?_) (fun j45 hj45 H => ?_) H
  · -- 45
    refine aw_istore_n (pc := 45) [(2, iv s0_45), (0, .ref 100), (1, iv p1)] dX11_isAtHand_45 rfl (by decide) ?_
    refine cx_iconst (pc := 46) dX11_isAtHand_46 ?_
    refine aw_istore_n (pc := 47) [(3, iv 0), (2, iv s0_45), (0, .ref 100), (1, iv p1)] dX11_isAtHand_47 rfl (by decide) ?_
    refine AW.sel [2, 3, 1, 0] rfl (lp_ind (bot := fun _ _ _ => none) (fun (f9 : Int → Int → Mem → Option Rz) => ∀ (v2_48 : Int) (v3_48 : Int) (m48 : Mem), inR v2_48 → inR v3_48 → f9 v2_48 v3_48 m48 = some r → AW l D base sc RX11 yX11_isAtHand cX11_isAtHand 4 (some FieldType.boolean) 1 0 0 ad (E mi) (pI E r) 0 0 (E m48) 48 [(0, .ref 100), (1, iv p1), (2, iv v2_48), (3, iv v3_48)] []) (fun _ _ _ _ _ h9 => nomatch h9) (fun w48 ih48 v2_48 v3_48 m48 hv2_48 hv3_48 H => ?_) n _ _ _ hs0_45 (inR_lit _ rfl) H)
    refine aw_iload_n (pc := 48) dX11_isAtHand_48 rfl ?_
    refine aw_aload_n (pc := 49) dX11_isAtHand_49 rfl ?_
    refine cx_gtF (pc := 50) hE r100 fl_X11_9 rfl rfl (Nat.le_of_ble_eq_true rfl) dX11_isAtHand_50 H (fun x50 hx50 H => ?_)
    refine jn_ind (fun (f9 : Mem → Option Rz) => ∀ (m92 : Mem), f9 m92 = some r → AW l D base sc RX11 yX11_isAtHand cX11_isAtHand 4 (some FieldType.boolean) 1 0 0 ad (E mi) (pI E r) 0 0 (E m92) 92 [(0, .ref 100), (1, iv p1), (2, iv v2_48)] []) (fun m92 H => ?_) (fun j92 hj92 H => ?_) H
    · -- 92
      refine cx_iconst (pc := 92) dX11_isAtHand_92 ?_
      refine aw_istore_n (pc := 93) [(3, iv 0), (0, .ref 100), (1, iv p1), (2, iv v2_48)] dX11_isAtHand_93 rfl (by decide) ?_
      refine AW.sel [1, 2, 3, 0] rfl (lp_ind (bot := fun _ _ _ => none) (fun (f9 : Int → Int → Mem → Option Rz) => ∀ (v2_94 : Int) (v3_94 : Int) (m94 : Mem), inR v2_94 → inR v3_94 → f9 v2_94 v3_94 m94 = some r → AW l D base sc RX11 yX11_isAtHand cX11_isAtHand 4 (some FieldType.boolean) 1 0 0 ad (E mi) (pI E r) 0 0 (E m94) 94 [(0, .ref 100), (1, iv p1), (2, iv v2_94), (3, iv v3_94)] []) (fun _ _ _ _ _ h9 => nomatch h9) (fun w94 ih94 v2_94 v3_94 m94 hv2_94 hv3_94 H => ?_) n _ _ _ hv2_48 (inR_lit _ rfl) H)
      refine aw_iload_n (pc := 94) dX11_isAtHand_94 rfl ?_
      refine aw_aload_n (pc := 95) dX11_isAtHand_95 rfl ?_
      refine cx_gtF (pc := 96) hE r100 fl_X11_20 rfl rfl (Nat.le_of_ble_eq_true rfl) dX11_isAtHand_96 H (fun x96 hx96 H => ?_)
      refine jn_ind (fun (f9 : Mem → Option Rz) => ∀ (m138 : Mem), f9 m138 = some r → AW l D base sc RX11 yX11_isAtHand cX11_isAtHand 4 (some FieldType.boolean) 1 0 0 ad (E mi) (pI E r) 0 0 (E m138) 138 [(2, iv v2_94)] []) (fun m138 H => ?_) (fun j138 hj138 H => ?_) H
      · -- 138
        refine aw_iload_n (pc := 138) dX11_isAtHand_138 rfl ?_
        exact cx_zret (pc := 139) rfl (Nat.le_of_ble_eq_true rfl) (Nat.le_of_ble_eq_true rfl) dX11_isAtHand_139 H
      refine cx_icmp_ge (pc := 99) 138 hv3_94 hx96 dX11_isAtHand_99 rfl H (fun H => ?_) (fun H => ?_)
      · -- 99: 102
        refine aw_iload_n (pc := 102) dX11_isAtHand_102 rfl ?_
        refine cx_if_eq (pc := 103) 138 hv2_94 dX11_isAtHand_103 rfl H (fun H => ?_) (fun H => ?_)
        · -- 103: 138
          exact AW.sel [2] rfl (hj138 _ H)
        · -- 103: 106
          refine aw_aload_n (pc := 106) dX11_isAtHand_106 rfl ?_
          refine cx_gtC (pc := 107) 102 hE r100 fl_X11_35 rfl rfl (Nat.le_of_ble_eq_true rfl) dX11_isAtHand_107 ?_
          refine aw_aload_n (pc := 110) dX11_isAtHand_110 rfl ?_
          refine cx_gtC (pc := 111) 104 hE r100 fl_X11_26 rfl rfl (Nat.le_of_ble_eq_true rfl) dX11_isAtHand_111 ?_
          refine aw_iload_n (pc := 114) dX11_isAtHand_114 rfl ?_
          refine cx_ldI (pc := 115) hE r104 hp1 dX11_isAtHand_115 H (fun x115 hx115 H => ?_)
          refine aw_aload_n (pc := 116) dX11_isAtHand_116 rfl ?_
          refine cx_gtC (pc := 117) 105 hE r100 fl_X11_32 rfl rfl (Nat.le_of_ble_eq_true rfl) dX11_isAtHand_117 ?_
          refine aw_iload_n (pc := 120) dX11_isAtHand_120 rfl ?_
          refine cx_ldI (pc := 121) hE r105 hp1 dX11_isAtHand_121 H (fun x121 hx121 H => ?_)
          refine aw_aload_n (pc := 122) dX11_isAtHand_122 rfl ?_
          refine cx_gtC (pc := 123) 121 hE r100 fl_X11_23 rfl rfl (Nat.le_of_ble_eq_true rfl) dX11_isAtHand_123 ?_
          refine aw_iload_n (pc := 126) dX11_isAtHand_126 rfl ?_
          refine cx_ldI (pc := 127) hE r121 hv3_94 dX11_isAtHand_127 H (fun x127 hx127 H => ?_)
          refine cx_callS (pc := 128) (P := pI) (dC := 0) (mcC := 0) (msC := 0) [.ref 102, iv x115, iv x121, iv x127] (fun r1 H1 => s_X11_has l sc E R hE hR n 102 x115 x121 x127 r102 hx115 hx121 hx127 m94 r1 H1) ca_X11_38 rfl rfl (Nat.le_of_ble_eq_true rfl) (Nat.le_of_ble_eq_true rfl) (Nat.le_of_ble_eq_true rfl) (Nat.le_of_ble_eq_true rfl) dX11_isAtHand_128 H (fun x128 m128 v128 hh128 H hp => ?_)
          refine cx_backI hp (fun hx128 => ?_)
          refine aw_istore_n (pc := 131) [(2, iv x128), (0, .ref 100), (1, iv p1), (3, iv v3_94)] dX11_isAtHand_131 rfl (by decide) ?_
          refine cx_iinc (pc := 132) [(3, iv (w32 (v3_94 + 1))), (2, iv x128), (0, .ref 100), (1, iv p1)] dX11_isAtHand_132 rfl rfl (by decide) ?_
          refine aw_goto (pc := 135) 94 dX11_isAtHand_135 rfl ?_
          exact AW.sel [2, 3, 1, 0] rfl (ih94 _ _ _ hx128 (inR_w32 _) H)
      · -- 99: 138
        exact AW.sel [2] rfl (hj138 _ H)
    refine cx_icmp_ge (pc := 53) 92 hv3_48 hx50 dX11_isAtHand_53 rfl H (fun H => ?_) (fun H => ?_)
    · -- 53: 56
      refine aw_iload_n (pc := 56) dX11_isAtHand_56 rfl ?_
      refine cx_if_eq (pc := 57) 92 hv2_48 dX11_isAtHand_57 rfl H (fun H => ?_) (fun H => ?_)
      · -- 57: 92
        exact AW.sel [0, 1, 2] rfl (hj92 _ H)
      · -- 57: 60
        refine aw_aload_n (pc := 60) dX11_isAtHand_60 rfl ?_
        refine cx_gtC (pc := 61) 102 hE r100 fl_X11_35 rfl rfl (Nat.le_of_ble_eq_true rfl) dX11_isAtHand_61 ?_
        refine aw_aload_n (pc := 64) dX11_isAtHand_64 rfl ?_
        refine cx_gtC (pc := 65) 103 hE r100 fl_X11_29 rfl rfl (Nat.le_of_ble_eq_true rfl) dX11_isAtHand_65 ?_
        refine aw_iload_n (pc := 68) dX11_isAtHand_68 rfl ?_
        refine cx_ldI (pc := 69) hE r103 hp1 dX11_isAtHand_69 H (fun x69 hx69 H => ?_)
        refine aw_aload_n (pc := 70) dX11_isAtHand_70 rfl ?_
        refine cx_gtC (pc := 71) 104 hE r100 fl_X11_26 rfl rfl (Nat.le_of_ble_eq_true rfl) dX11_isAtHand_71 ?_
        refine aw_iload_n (pc := 74) dX11_isAtHand_74 rfl ?_
        refine cx_ldI (pc := 75) hE r104 hp1 dX11_isAtHand_75 H (fun x75 hx75 H => ?_)
        refine aw_aload_n (pc := 76) dX11_isAtHand_76 rfl ?_
        refine cx_gtC (pc := 77) 120 hE r100 fl_X11_13 rfl rfl (Nat.le_of_ble_eq_true rfl) dX11_isAtHand_77 ?_
        refine aw_iload_n (pc := 80) dX11_isAtHand_80 rfl ?_
        refine cx_ldI (pc := 81) hE r120 hv3_48 dX11_isAtHand_81 H (fun x81 hx81 H => ?_)
        refine cx_callS (pc := 82) (P := pI) (dC := 0) (mcC := 0) (msC := 0) [.ref 102, iv x69, iv x75, iv x81] (fun r1 H1 => s_X11_has l sc E R hE hR n 102 x69 x75 x81 r102 hx69 hx75 hx81 m48 r1 H1) ca_X11_38 rfl rfl (Nat.le_of_ble_eq_true rfl) (Nat.le_of_ble_eq_true rfl) (Nat.le_of_ble_eq_true rfl) (Nat.le_of_ble_eq_true rfl) dX11_isAtHand_82 H (fun x82 m82 v82 hh82 H hp => ?_)
        refine cx_backI hp (fun hx82 => ?_)
        refine aw_istore_n (pc := 85) [(2, iv x82), (0, .ref 100), (1, iv p1), (3, iv v3_48)] dX11_isAtHand_85 rfl (by decide) ?_
        refine cx_iinc (pc := 86) [(3, iv (w32 (v3_48 + 1))), (2, iv x82), (0, .ref 100), (1, iv p1)] dX11_isAtHand_86 rfl rfl (by decide) ?_
        refine aw_goto (pc := 89) 48 dX11_isAtHand_89 rfl ?_
        exact AW.sel [2, 3, 1, 0] rfl (ih48 _ _ _ hx82 (inR_w32 _) H)
    · -- 53: 92
      exact AW.sel [0, 1, 2] rfl (hj92 _ H)
  refine jn_ind (fun (f9 : Mem → Option Rz) => ∀ (m44 : Mem), f9 m44 = some r → AW l D base sc RX11 yX11_isAtHand cX11_isAtHand 4 (some FieldType.boolean) 1 0 0 ad (E mi) (pI E r) 0 0 (E m44) 44 [(0, .ref 100), (1, iv p1)] []) (fun m44 H => ?_) (fun j44 hj44 H => ?_) H
  · -- 44
    refine cx_iconst (pc := 44) dX11_isAtHand_44 ?_
    exact AW.sel [0, 1] rfl (hj45 _ _ (inR_lit _ rfl) H)
  refine cx_icmp_ne (pc := 17) 44 (inR_w32 _) hx14 dX11_isAtHand_17 rfl H (fun H => ?_) (fun H => ?_)
  · -- 17: 20
    refine aw_aload_n (pc := 20) dX11_isAtHand_20 rfl ?_
    refine cx_gtC (pc := 21) 105 hE r100 fl_X11_32 rfl rfl (Nat.le_of_ble_eq_true rfl) dX11_isAtHand_21 ?_
    refine aw_iload_n (pc := 24) dX11_isAtHand_24 rfl ?_
    refine cx_ldI (pc := 25) hE r105 hp1 dX11_isAtHand_25 H (fun x25 hx25 H => ?_)
    refine aw_aload_n (pc := 26) dX11_isAtHand_26 rfl ?_
    refine cx_gtC (pc := 27) 104 hE r100 fl_X11_26 rfl rfl (Nat.le_of_ble_eq_true rfl) dX11_isAtHand_27 ?_
    refine aw_iload_n (pc := 30) dX11_isAtHand_30 rfl ?_
    refine cx_ldI (pc := 31) hE r104 hp1 dX11_isAtHand_31 H (fun x31 hx31 H => ?_)
    refine cx_isub (pc := 32) dX11_isAtHand_32 ?_
    refine aw_aload_n (pc := 33) dX11_isAtHand_33 rfl ?_
    refine cx_gtF (pc := 34) hE r100 fl_X11_20 rfl rfl (Nat.le_of_ble_eq_true rfl) dX11_isAtHand_34 H (fun x34 hx34 H => ?_)
    refine cx_icmp_ne (pc := 37) 44 (inR_w32 _) hx34 dX11_isAtHand_37 rfl H (fun H => ?_) (fun H => ?_)
    · -- 37: 40
      refine cx_iconst (pc := 40) dX11_isAtHand_40 ?_
      refine aw_goto (pc := 41) 45 dX11_isAtHand_41 rfl ?_
      exact AW.sel [0, 1] rfl (hj45 _ _ (inR_lit _ rfl) H)
    · -- 37: 44
      exact AW.sel [0, 1] rfl (hj44 _ H)
  · -- 17: 44
    exact AW.sel [0, 1] rfl (hj44 _ H)
/-- X11 digits (I)I -/
def f_X11_digits (n : Nat) (p0 : Int) (mi : Mem) : Option Rz :=
  jn (fun (s0_21 : Int) (m21 : Mem) =>
    rt s0_21 m21
  ) fun (j21 : Int → Mem → Option Rz) =>
  if 99 < p0 then (
    j21 3 mi
  ) else
  if 9 < p0 then (
    j21 2 mi
  ) else
  j21 1 mi
set_option maxRecDepth 100000 in
set_option maxHeartbeats 4000000 in
theorem s_X11_digits (l : Launch) (sc : g_S) (E : Mem → g_H) (R : Nat → Prop) (hE : LE E R) (hR : RRF R) (n : Nat)  (p0 : Int) (hp0 : inR p0) (mi : Mem) (r : Rz) (H : f_X11_digits n p0 mi = some r) : AMet l sc yX11_digits cX11_digits 1 (some FieldType.int) 0 0 0 [iv p0] (E mi) (pI E r) := by
  unfold f_X11_digits at H
  refine AMet.of (own := RX11) (by decide +kernel) rfl (Nat.le_of_ble_eq_true rfl) [(0, iv p0)] rfl (fun D base ad => ?_)
  refine aw_iload_n (pc := 0) dX11_digits_0 rfl ?_
  refine cx_bipush (pc := 1) dX11_digits_1 (by decide) ?_
  refine jn_ind (fun (f9 : Int → Mem → Option Rz) => ∀ (s0_21 : Int) (m21 : Mem), inR s0_21 → f9 s0_21 m21 = some r → AW l D base sc RX11 yX11_digits cX11_digits 1 (some FieldType.int) 0 0 0 ad (E mi) (pI E r) 0 0 (E m21) 21 [] [iv s0_21]) (fun s0_21 m21 hs0_21 H => ?_) (fun j21 hj21 H => ?_) H
  · -- 21
    exact cx_iret (pc := 21) hs0_21 rfl (Nat.le_of_ble_eq_true rfl) (Nat.le_of_ble_eq_true rfl) dX11_digits_21 H
  refine cx_icmp_le (pc := 3) 10 hp0 (inR_lit _ rfl) dX11_digits_3 rfl H (fun H => ?_) (fun H => ?_)
  · -- 3: 6
    refine cx_iconst (pc := 6) dX11_digits_6 ?_
    refine aw_goto (pc := 7) 21 dX11_digits_7 rfl ?_
    exact AW.sel [] rfl (hj21 _ _ (inR_lit _ rfl) H)
  · -- 3: 10
    refine aw_iload_n (pc := 10) dX11_digits_10 rfl ?_
    refine cx_bipush (pc := 11) dX11_digits_11 (by decide) ?_
    refine cx_icmp_le (pc := 13) 20 hp0 (inR_lit _ rfl) dX11_digits_13 rfl H (fun H => ?_) (fun H => ?_)
    · -- 13: 16
      refine cx_iconst (pc := 16) dX11_digits_16 ?_
      refine aw_goto (pc := 17) 21 dX11_digits_17 rfl ?_
      exact AW.sel [] rfl (hj21 _ _ (inR_lit _ rfl) H)
    · -- 13: 20
      refine cx_iconst (pc := 20) dX11_digits_20 ?_
      exact AW.sel [] rfl (hj21 _ _ (inR_lit _ rfl) H)
/-- X11 bytesAt (I)I -/
def f_X11_bytesAt (n : Nat) (p1 : Int) (mi : Mem) : Option Rz :=
  ldI mi 107 p1 fun x5 =>
  if x5 = (-1000) then (
    ldI mi 108 p1 fun x51 =>
    if 0 < x51 then (
      ldI mi 108 p1 fun x60 =>
      jn (fun (s0_80 : Int) (m80 : Mem) =>
        rt s0_80 m80
      ) fun (j80 : Int → Mem → Option Rz) =>
      if x60 = 1 then (
        j80 1 mi
      ) else
      ldI mi 108 p1 fun x75 =>
      cal (f_X11_digits n x75 mi) fun x76 m76 =>
      j80 (w32 (1 + x76)) m76
    ) else
    ldI mi 103 p1 fun x88 =>
    lp (F := Int → Int → Mem → Option Rz) (fun _ _ _ => none) (fun w90 v2_90 v3_90 m90 =>
      ldI m90 105 p1 fun x96 =>
      if v3_90 < x96 then (
        ldI m90 102 v3_90 fun x110 =>
        ldI m90 109 x110 fun x111 =>
        ldI m90 103 p1 fun x118 =>
        jn (fun (s0_137 : Int) (m137 : Mem) =>
          nm (w32 (v2_90 + (w32 (x111 + s0_137)))) fun z139 =>
          w90 z139 (w32 (v3_90 + 1)) m137
        ) fun (j137 : Int → Mem → Option Rz) =>
        jn (fun (m136 : Mem) =>
          j137 0 m136
        ) fun (j136 : Mem → Option Rz) =>
        if x118 < v3_90 then (
          ldI m90 104 p1 fun x128 =>
          if v3_90 = x128 then (
            j136 m90
          ) else
          j137 1 m90
        ) else
        j136 m90
      ) else
      jn (fun (s0_158 : Int) (m158 : Mem) =>
        rt s0_158 m158
      ) fun (j158 : Int → Mem → Option Rz) =>
      if 100000 < v2_90 then (
        j158 100000 m90
      ) else
      j158 v2_90 m90
    ) n 3 x88 mi
  ) else
  ldI mi 107 p1 fun x17 =>
  jn (fun (s0_45 : Int) (m45 : Mem) =>
    rt s0_45 m45
  ) fun (j45 : Int → Mem → Option Rz) =>
  if x17 < 0 then (
    ldI mi 107 p1 fun x27 =>
    cal (f_X11_digits n (w32 (-x27)) mi) fun x29 m29 =>
    j45 (w32 (1 + x29)) m29
  ) else
  ldI mi 107 p1 fun x41 =>
  cal (f_X11_digits n x41 mi) fun x42 m42 =>
  j45 x42 m42
set_option maxRecDepth 100000 in
set_option maxHeartbeats 4000000 in
theorem s_X11_bytesAt (l : Launch) (sc : g_S) (E : Mem → g_H) (R : Nat → Prop) (hE : LE E R) (hR : RRF R) (n : Nat)  (p1 : Int) (hp1 : inR p1) (mi : Mem) (r : Rz) (H : f_X11_bytesAt n p1 mi = some r) : AMet l sc yX11_bytesAt cX11_bytesAt 4 (some FieldType.int) 1 0 0 [.ref 100, iv p1] (E mi) (pI E r) := by
  have r100 : R 100 := hR 100 (Nat.le_of_ble_eq_true rfl) (Nat.le_of_ble_eq_true rfl)
  have r102 : R 102 := hR 102 (Nat.le_of_ble_eq_true rfl) (Nat.le_of_ble_eq_true rfl)
  have r103 : R 103 := hR 103 (Nat.le_of_ble_eq_true rfl) (Nat.le_of_ble_eq_true rfl)
  have r104 : R 104 := hR 104 (Nat.le_of_ble_eq_true rfl) (Nat.le_of_ble_eq_true rfl)
  have r105 : R 105 := hR 105 (Nat.le_of_ble_eq_true rfl) (Nat.le_of_ble_eq_true rfl)
  have r107 : R 107 := hR 107 (Nat.le_of_ble_eq_true rfl) (Nat.le_of_ble_eq_true rfl)
  have r108 : R 108 := hR 108 (Nat.le_of_ble_eq_true rfl) (Nat.le_of_ble_eq_true rfl)
  have r109 : R 109 := hR 109 (Nat.le_of_ble_eq_true rfl) (Nat.le_of_ble_eq_true rfl)
  unfold f_X11_bytesAt at H
  refine AMet.of (own := RX11) (by decide +kernel) rfl (Nat.le_of_ble_eq_true rfl) [(0, .ref 100), (1, iv p1)] rfl (fun D base ad => ?_)
  refine aw_aload_n (pc := 0) dX11_bytesAt_0 rfl ?_
  refine cx_gtC (pc := 1) 107 hE r100 fl_X11_79 rfl rfl (Nat.le_of_ble_eq_true rfl) dX11_bytesAt_1 ?_
  refine aw_iload_n (pc := 4) dX11_bytesAt_4 rfl ?_
  refine cx_ldI (pc := 5) hE r107 hp1 dX11_bytesAt_5 H (fun x5 hx5 H => ?_)
  refine cx_sipush (pc := 6) dX11_bytesAt_6 (by decide) ?_
  refine cx_icmp_eq (pc := 9) 46 hx5 (inR_lit _ rfl) dX11_bytesAt_9 rfl H (fun H => ?_) (fun H => ?_)
  · -- 9: 46
    refine aw_aload_n (pc := 46) dX11_bytesAt_46 rfl ?_
    refine cx_gtC (pc := 47) 108 hE r100 fl_X11_85 rfl rfl (Nat.le_of_ble_eq_true rfl) dX11_bytesAt_47 ?_
    refine aw_iload_n (pc := 50) dX11_bytesAt_50 rfl ?_
    refine cx_ldI (pc := 51) hE r108 hp1 dX11_bytesAt_51 H (fun x51 hx51 H => ?_)
    refine cx_if_le (pc := 52) 81 hx51 dX11_bytesAt_52 rfl H (fun H => ?_) (fun H => ?_)
    · -- 52: 55
      refine aw_aload_n (pc := 55) dX11_bytesAt_55 rfl ?_
      refine cx_gtC (pc := 56) 108 hE r100 fl_X11_85 rfl rfl (Nat.le_of_ble_eq_true rfl) dX11_bytesAt_56 ?_
      refine aw_iload_n (pc := 59) dX11_bytesAt_59 rfl ?_
      refine cx_ldI (pc := 60) hE r108 hp1 dX11_bytesAt_60 H (fun x60 hx60 H => ?_)
      refine cx_iconst (pc := 61) dX11_bytesAt_61 ?_
      refine jn_ind (fun (f9 : Int → Mem → Option Rz) => ∀ (s0_80 : Int) (m80 : Mem), inR s0_80 → f9 s0_80 m80 = some r → AW l D base sc RX11 yX11_bytesAt cX11_bytesAt 4 (some FieldType.int) 1 0 0 ad (E mi) (pI E r) 0 0 (E m80) 80 [] [iv s0_80]) (fun s0_80 m80 hs0_80 H => ?_) (fun j80 hj80 H => ?_) H
      · -- 80
        exact cx_iret (pc := 80) hs0_80 rfl (Nat.le_of_ble_eq_true rfl) (Nat.le_of_ble_eq_true rfl) dX11_bytesAt_80 H
      refine cx_icmp_ne (pc := 62) 69 hx60 (inR_lit _ rfl) dX11_bytesAt_62 rfl H (fun H => ?_) (fun H => ?_)
      · -- 62: 65
        refine cx_iconst (pc := 65) dX11_bytesAt_65 ?_
        refine aw_goto (pc := 66) 80 dX11_bytesAt_66 rfl ?_
        exact AW.sel [] rfl (hj80 _ _ (inR_lit _ rfl) H)
      · -- 62: 69
        refine cx_iconst (pc := 69) dX11_bytesAt_69 ?_
        refine aw_aload_n (pc := 70) dX11_bytesAt_70 rfl ?_
        refine cx_gtC (pc := 71) 108 hE r100 fl_X11_85 rfl rfl (Nat.le_of_ble_eq_true rfl) dX11_bytesAt_71 ?_
        refine aw_iload_n (pc := 74) dX11_bytesAt_74 rfl ?_
        refine cx_ldI (pc := 75) hE r108 hp1 dX11_bytesAt_75 H (fun x75 hx75 H => ?_)
        refine cx_callS (pc := 76) (P := pI) (dC := 0) (mcC := 0) (msC := 0) [iv x75] (fun r1 H1 => s_X11_digits l sc E R hE hR n x75 hx75 mi r1 H1) ca_X11_110 rfl rfl (Nat.le_of_ble_eq_true rfl) (Nat.le_of_ble_eq_true rfl) (Nat.le_of_ble_eq_true rfl) (Nat.le_of_ble_eq_true rfl) dX11_bytesAt_76 H (fun x76 m76 v76 hh76 H hp => ?_)
        refine cx_backI hp (fun hx76 => ?_)
        refine cx_iadd (pc := 79) dX11_bytesAt_79 ?_
        exact AW.sel [] rfl (hj80 _ _ (inR_w32 _) H)
    · -- 52: 81
      refine cx_iconst (pc := 81) dX11_bytesAt_81 ?_
      refine aw_istore_n (pc := 82) [(2, iv 3), (0, .ref 100), (1, iv p1)] dX11_bytesAt_82 rfl (by decide) ?_
      refine aw_aload_n (pc := 83) dX11_bytesAt_83 rfl ?_
      refine cx_gtC (pc := 84) 103 hE r100 fl_X11_29 rfl rfl (Nat.le_of_ble_eq_true rfl) dX11_bytesAt_84 ?_
      refine aw_iload_n (pc := 87) dX11_bytesAt_87 rfl ?_
      refine cx_ldI (pc := 88) hE r103 hp1 dX11_bytesAt_88 H (fun x88 hx88 H => ?_)
      refine aw_istore_n (pc := 89) [(3, iv x88), (2, iv 3), (0, .ref 100), (1, iv p1)] dX11_bytesAt_89 rfl (by decide) ?_
      refine AW.sel [2, 3, 1, 0] rfl (lp_ind (bot := fun _ _ _ => none) (fun (f9 : Int → Int → Mem → Option Rz) => ∀ (v2_90 : Int) (v3_90 : Int) (m90 : Mem), inR v2_90 → inR v3_90 → f9 v2_90 v3_90 m90 = some r → AW l D base sc RX11 yX11_bytesAt cX11_bytesAt 4 (some FieldType.int) 1 0 0 ad (E mi) (pI E r) 0 0 (E m90) 90 [(0, .ref 100), (1, iv p1), (2, iv v2_90), (3, iv v3_90)] []) (fun _ _ _ _ _ h9 => nomatch h9) (fun w90 ih90 v2_90 v3_90 m90 hv2_90 hv3_90 H => ?_) n _ _ _ (inR_lit _ rfl) hx88 H)
      refine aw_iload_n (pc := 90) dX11_bytesAt_90 rfl ?_
      refine aw_aload_n (pc := 91) dX11_bytesAt_91 rfl ?_
      refine cx_gtC (pc := 92) 105 hE r100 fl_X11_32 rfl rfl (Nat.le_of_ble_eq_true rfl) dX11_bytesAt_92 ?_
      refine aw_iload_n (pc := 95) dX11_bytesAt_95 rfl ?_
      refine cx_ldI (pc := 96) hE r105 hp1 dX11_bytesAt_96 H (fun x96 hx96 H => ?_)
      refine cx_icmp_ge (pc := 97) 146 hv3_90 hx96 dX11_bytesAt_97 rfl H (fun H => ?_) (fun H => ?_)
      · -- 97: 100
        refine aw_iload_n (pc := 100) dX11_bytesAt_100 rfl ?_
        refine aw_aload_n (pc := 101) dX11_bytesAt_101 rfl ?_
        refine cx_gtC (pc := 102) 109 hE r100 fl_X11_97 rfl rfl (Nat.le_of_ble_eq_true rfl) dX11_bytesAt_102 ?_
        refine aw_aload_n (pc := 105) dX11_bytesAt_105 rfl ?_
        refine cx_gtC (pc := 106) 102 hE r100 fl_X11_35 rfl rfl (Nat.le_of_ble_eq_true rfl) dX11_bytesAt_106 ?_
        refine aw_iload_n (pc := 109) dX11_bytesAt_109 rfl ?_
        refine cx_ldI (pc := 110) hE r102 hv3_90 dX11_bytesAt_110 H (fun x110 hx110 H => ?_)
        refine cx_ldI (pc := 111) hE r109 hx110 dX11_bytesAt_111 H (fun x111 hx111 H => ?_)
        refine aw_iload_n (pc := 112) dX11_bytesAt_112 rfl ?_
        refine aw_aload_n (pc := 113) dX11_bytesAt_113 rfl ?_
        refine cx_gtC (pc := 114) 103 hE r100 fl_X11_29 rfl rfl (Nat.le_of_ble_eq_true rfl) dX11_bytesAt_114 ?_
        refine aw_iload_n (pc := 117) dX11_bytesAt_117 rfl ?_
        refine cx_ldI (pc := 118) hE r103 hp1 dX11_bytesAt_118 H (fun x118 hx118 H => ?_)
        refine jn_ind (fun (f9 : Int → Mem → Option Rz) => ∀ (s0_137 : Int) (m137 : Mem), inR s0_137 → f9 s0_137 m137 = some r → AW l D base sc RX11 yX11_bytesAt cX11_bytesAt 4 (some FieldType.int) 1 0 0 ad (E mi) (pI E r) 0 0 (E m137) 137 [(0, .ref 100), (1, iv p1), (3, iv v3_90)] [iv s0_137, iv x111, iv v2_90]) (fun s0_137 m137 hs0_137 H => ?_) (fun j137 hj137 H => ?_) H
        · -- 137
          refine cx_iadd (pc := 137) dX11_bytesAt_137 ?_
          refine cx_iadd (pc := 138) dX11_bytesAt_138 ?_
          refine cx_nm (inR_w32 _) H (fun z139 hz139 H => ?_)
          refine aw_istore_n (pc := 139) [(2, iv z139), (0, .ref 100), (1, iv p1), (3, iv v3_90)] dX11_bytesAt_139 rfl (by decide) ?_
          refine cx_iinc (pc := 140) [(3, iv (w32 (v3_90 + 1))), (2, iv z139), (0, .ref 100), (1, iv p1)] dX11_bytesAt_140 rfl rfl (by decide) ?_
          refine aw_goto (pc := 143) 90 dX11_bytesAt_143 rfl ?_
          exact AW.sel [2, 3, 1, 0] rfl (ih90 _ _ _ hz139 (inR_w32 _) H)
        refine jn_ind (fun (f9 : Mem → Option Rz) => ∀ (m136 : Mem), f9 m136 = some r → AW l D base sc RX11 yX11_bytesAt cX11_bytesAt 4 (some FieldType.int) 1 0 0 ad (E mi) (pI E r) 0 0 (E m136) 136 [(0, .ref 100), (1, iv p1), (3, iv v3_90)] [iv x111, iv v2_90]) (fun m136 H => ?_) (fun j136 hj136 H => ?_) H
        · -- 136
          refine cx_iconst (pc := 136) dX11_bytesAt_136 ?_
          exact AW.sel [0, 1, 2] rfl (hj137 _ _ (inR_lit _ rfl) H)
        refine cx_icmp_le (pc := 119) 136 hv3_90 hx118 dX11_bytesAt_119 rfl H (fun H => ?_) (fun H => ?_)
        · -- 119: 122
          refine aw_iload_n (pc := 122) dX11_bytesAt_122 rfl ?_
          refine aw_aload_n (pc := 123) dX11_bytesAt_123 rfl ?_
          refine cx_gtC (pc := 124) 104 hE r100 fl_X11_26 rfl rfl (Nat.le_of_ble_eq_true rfl) dX11_bytesAt_124 ?_
          refine aw_iload_n (pc := 127) dX11_bytesAt_127 rfl ?_
          refine cx_ldI (pc := 128) hE r104 hp1 dX11_bytesAt_128 H (fun x128 hx128 H => ?_)
          refine cx_icmp_eq (pc := 129) 136 hv3_90 hx128 dX11_bytesAt_129 rfl H (fun H => ?_) (fun H => ?_)
          · -- 129: 136
            exact AW.sel [0, 1, 3] rfl (hj136 _ H)
          · -- 129: 132
            refine cx_iconst (pc := 132) dX11_bytesAt_132 ?_
            refine aw_goto (pc := 133) 137 dX11_bytesAt_133 rfl ?_
            exact AW.sel [0, 1, 3] rfl (hj137 _ _ (inR_lit _ rfl) H)
        · -- 119: 136
          exact AW.sel [0, 1, 3] rfl (hj136 _ H)
      · -- 97: 146
        refine aw_iload_n (pc := 146) dX11_bytesAt_146 rfl ?_
        refine cx_ldc (pc := 147) 100000 dX11_bytesAt_147 ct_X11_113 (by decide) ?_
        refine jn_ind (fun (f9 : Int → Mem → Option Rz) => ∀ (s0_158 : Int) (m158 : Mem), inR s0_158 → f9 s0_158 m158 = some r → AW l D base sc RX11 yX11_bytesAt cX11_bytesAt 4 (some FieldType.int) 1 0 0 ad (E mi) (pI E r) 0 0 (E m158) 158 [] [iv s0_158]) (fun s0_158 m158 hs0_158 H => ?_) (fun j158 hj158 H => ?_) H
        · -- 158
          exact cx_iret (pc := 158) hs0_158 rfl (Nat.le_of_ble_eq_true rfl) (Nat.le_of_ble_eq_true rfl) dX11_bytesAt_158 H
        refine cx_icmp_le (pc := 149) 157 hv2_90 (inR_lit _ rfl) dX11_bytesAt_149 rfl H (fun H => ?_) (fun H => ?_)
        · -- 149: 152
          refine cx_ldc (pc := 152) 100000 dX11_bytesAt_152 ct_X11_113 (by decide) ?_
          refine aw_goto (pc := 154) 158 dX11_bytesAt_154 rfl ?_
          exact AW.sel [] rfl (hj158 _ _ (inR_lit _ rfl) H)
        · -- 149: 157
          refine aw_iload_n (pc := 157) dX11_bytesAt_157 rfl ?_
          exact AW.sel [] rfl (hj158 _ _ hv2_90 H)
  · -- 9: 12
    refine aw_aload_n (pc := 12) dX11_bytesAt_12 rfl ?_
    refine cx_gtC (pc := 13) 107 hE r100 fl_X11_79 rfl rfl (Nat.le_of_ble_eq_true rfl) dX11_bytesAt_13 ?_
    refine aw_iload_n (pc := 16) dX11_bytesAt_16 rfl ?_
    refine cx_ldI (pc := 17) hE r107 hp1 dX11_bytesAt_17 H (fun x17 hx17 H => ?_)
    refine jn_ind (fun (f9 : Int → Mem → Option Rz) => ∀ (s0_45 : Int) (m45 : Mem), inR s0_45 → f9 s0_45 m45 = some r → AW l D base sc RX11 yX11_bytesAt cX11_bytesAt 4 (some FieldType.int) 1 0 0 ad (E mi) (pI E r) 0 0 (E m45) 45 [] [iv s0_45]) (fun s0_45 m45 hs0_45 H => ?_) (fun j45 hj45 H => ?_) H
    · -- 45
      exact cx_iret (pc := 45) hs0_45 rfl (Nat.le_of_ble_eq_true rfl) (Nat.le_of_ble_eq_true rfl) dX11_bytesAt_45 H
    refine cx_if_ge (pc := 18) 36 hx17 dX11_bytesAt_18 rfl H (fun H => ?_) (fun H => ?_)
    · -- 18: 21
      refine cx_iconst (pc := 21) dX11_bytesAt_21 ?_
      refine aw_aload_n (pc := 22) dX11_bytesAt_22 rfl ?_
      refine cx_gtC (pc := 23) 107 hE r100 fl_X11_79 rfl rfl (Nat.le_of_ble_eq_true rfl) dX11_bytesAt_23 ?_
      refine aw_iload_n (pc := 26) dX11_bytesAt_26 rfl ?_
      refine cx_ldI (pc := 27) hE r107 hp1 dX11_bytesAt_27 H (fun x27 hx27 H => ?_)
      refine cx_ineg (pc := 28) dX11_bytesAt_28 ?_
      refine cx_callS (pc := 29) (P := pI) (dC := 0) (mcC := 0) (msC := 0) [iv (w32 (-x27))] (fun r1 H1 => s_X11_digits l sc E R hE hR n (w32 (-x27)) (inR_w32 _) mi r1 H1) ca_X11_110 rfl rfl (Nat.le_of_ble_eq_true rfl) (Nat.le_of_ble_eq_true rfl) (Nat.le_of_ble_eq_true rfl) (Nat.le_of_ble_eq_true rfl) dX11_bytesAt_29 H (fun x29 m29 v29 hh29 H hp => ?_)
      refine cx_backI hp (fun hx29 => ?_)
      refine cx_iadd (pc := 32) dX11_bytesAt_32 ?_
      refine aw_goto (pc := 33) 45 dX11_bytesAt_33 rfl ?_
      exact AW.sel [] rfl (hj45 _ _ (inR_w32 _) H)
    · -- 18: 36
      refine aw_aload_n (pc := 36) dX11_bytesAt_36 rfl ?_
      refine cx_gtC (pc := 37) 107 hE r100 fl_X11_79 rfl rfl (Nat.le_of_ble_eq_true rfl) dX11_bytesAt_37 ?_
      refine aw_iload_n (pc := 40) dX11_bytesAt_40 rfl ?_
      refine cx_ldI (pc := 41) hE r107 hp1 dX11_bytesAt_41 H (fun x41 hx41 H => ?_)
      refine cx_callS (pc := 42) (P := pI) (dC := 0) (mcC := 0) (msC := 0) [iv x41] (fun r1 H1 => s_X11_digits l sc E R hE hR n x41 hx41 mi r1 H1) ca_X11_110 rfl rfl (Nat.le_of_ble_eq_true rfl) (Nat.le_of_ble_eq_true rfl) (Nat.le_of_ble_eq_true rfl) (Nat.le_of_ble_eq_true rfl) dX11_bytesAt_42 H (fun x42 m42 v42 hh42 H hp => ?_)
      refine cx_backI hp (fun hx42 => ?_)
      exact AW.sel [] rfl (hj45 _ _ hx42 H)
/-- X11 heapAt (I)I -/
def f_X11_heapAt (n : Nat) (p1 : Int) (mi : Mem) : Option Rz :=
  ldI mi 104 p1 fun x5 =>
  ldI mi 103 p1 fun x11 =>
  nm (w32 (x5 - x11)) fun z13 =>
  ldI mi 105 p1 fun x19 =>
  ldI mi 104 p1 fun x25 =>
  if w32 (x19 - x25) = z13 then (
    ldI mi 103 p1 fun x38 =>
    lp (F := Int → Mem → Option Rz) (fun _ _ => none) (fun w40 v3_40 m40 =>
      ldI m40 105 p1 fun x46 =>
      if v3_40 < x46 then (
        ldI m40 102 v3_40 fun x59 =>
        ldI m40 108 x59 fun x60 =>
        cal (f_X11_in n x60 0 (w32 (z13 - 1)) m40) fun x65 m65 =>
        if x65 = 0 then (
          rt (-1) m65
        ) else
        w40 (w32 (v3_40 + 1)) m65
      ) else
      rt z13 m40
    ) n x38 mi
  ) else
  rt (-1) mi
set_option maxRecDepth 100000 in
set_option maxHeartbeats 4000000 in
theorem s_X11_heapAt (l : Launch) (sc : g_S) (E : Mem → g_H) (R : Nat → Prop) (hE : LE E R) (hR : RRF R) (n : Nat)  (p1 : Int) (hp1 : inR p1) (mi : Mem) (r : Rz) (H : f_X11_heapAt n p1 mi = some r) : AMet l sc yX11_heapAt cX11_heapAt 4 (some FieldType.int) 1 0 0 [.ref 100, iv p1] (E mi) (pI E r) := by
  have r100 : R 100 := hR 100 (Nat.le_of_ble_eq_true rfl) (Nat.le_of_ble_eq_true rfl)
  have r102 : R 102 := hR 102 (Nat.le_of_ble_eq_true rfl) (Nat.le_of_ble_eq_true rfl)
  have r103 : R 103 := hR 103 (Nat.le_of_ble_eq_true rfl) (Nat.le_of_ble_eq_true rfl)
  have r104 : R 104 := hR 104 (Nat.le_of_ble_eq_true rfl) (Nat.le_of_ble_eq_true rfl)
  have r105 : R 105 := hR 105 (Nat.le_of_ble_eq_true rfl) (Nat.le_of_ble_eq_true rfl)
  have r108 : R 108 := hR 108 (Nat.le_of_ble_eq_true rfl) (Nat.le_of_ble_eq_true rfl)
  unfold f_X11_heapAt at H
  refine AMet.of (own := RX11) (by decide +kernel) rfl (Nat.le_of_ble_eq_true rfl) [(0, .ref 100), (1, iv p1)] rfl (fun D base ad => ?_)
  refine aw_aload_n (pc := 0) dX11_heapAt_0 rfl ?_
  refine cx_gtC (pc := 1) 104 hE r100 fl_X11_26 rfl rfl (Nat.le_of_ble_eq_true rfl) dX11_heapAt_1 ?_
  refine aw_iload_n (pc := 4) dX11_heapAt_4 rfl ?_
  refine cx_ldI (pc := 5) hE r104 hp1 dX11_heapAt_5 H (fun x5 hx5 H => ?_)
  refine aw_aload_n (pc := 6) dX11_heapAt_6 rfl ?_
  refine cx_gtC (pc := 7) 103 hE r100 fl_X11_29 rfl rfl (Nat.le_of_ble_eq_true rfl) dX11_heapAt_7 ?_
  refine aw_iload_n (pc := 10) dX11_heapAt_10 rfl ?_
  refine cx_ldI (pc := 11) hE r103 hp1 dX11_heapAt_11 H (fun x11 hx11 H => ?_)
  refine cx_isub (pc := 12) dX11_heapAt_12 ?_
  refine cx_nm (inR_w32 _) H (fun z13 hz13 H => ?_)
  refine aw_istore_n (pc := 13) [(2, iv z13), (0, .ref 100), (1, iv p1)] dX11_heapAt_13 rfl (by decide) ?_
  refine aw_aload_n (pc := 14) dX11_heapAt_14 rfl ?_
  refine cx_gtC (pc := 15) 105 hE r100 fl_X11_32 rfl rfl (Nat.le_of_ble_eq_true rfl) dX11_heapAt_15 ?_
  refine aw_iload_n (pc := 18) dX11_heapAt_18 rfl ?_
  refine cx_ldI (pc := 19) hE r105 hp1 dX11_heapAt_19 H (fun x19 hx19 H => ?_)
  refine aw_aload_n (pc := 20) dX11_heapAt_20 rfl ?_
  refine cx_gtC (pc := 21) 104 hE r100 fl_X11_26 rfl rfl (Nat.le_of_ble_eq_true rfl) dX11_heapAt_21 ?_
  refine aw_iload_n (pc := 24) dX11_heapAt_24 rfl ?_
  refine cx_ldI (pc := 25) hE r104 hp1 dX11_heapAt_25 H (fun x25 hx25 H => ?_)
  refine cx_isub (pc := 26) dX11_heapAt_26 ?_
  refine aw_iload_n (pc := 27) dX11_heapAt_27 rfl ?_
  refine cx_icmp_eq (pc := 28) 33 (inR_w32 _) hz13 dX11_heapAt_28 rfl H (fun H => ?_) (fun H => ?_)
  · -- 28: 33
    refine aw_aload_n (pc := 33) dX11_heapAt_33 rfl ?_
    refine cx_gtC (pc := 34) 103 hE r100 fl_X11_29 rfl rfl (Nat.le_of_ble_eq_true rfl) dX11_heapAt_34 ?_
    refine aw_iload_n (pc := 37) dX11_heapAt_37 rfl ?_
    refine cx_ldI (pc := 38) hE r103 hp1 dX11_heapAt_38 H (fun x38 hx38 H => ?_)
    refine aw_istore_n (pc := 39) [(3, iv x38), (2, iv z13), (0, .ref 100), (1, iv p1)] dX11_heapAt_39 rfl (by decide) ?_
    refine AW.sel [2, 3, 1, 0] rfl (lp_ind (bot := fun _ _ => none) (fun (f9 : Int → Mem → Option Rz) => ∀ (v3_40 : Int) (m40 : Mem), inR v3_40 → f9 v3_40 m40 = some r → AW l D base sc RX11 yX11_heapAt cX11_heapAt 4 (some FieldType.int) 1 0 0 ad (E mi) (pI E r) 0 0 (E m40) 40 [(0, .ref 100), (1, iv p1), (2, iv z13), (3, iv v3_40)] []) (fun _ _ _ h9 => nomatch h9) (fun w40 ih40 v3_40 m40 hv3_40 H => ?_) n _ _ hx38 H)
    refine aw_iload_n (pc := 40) dX11_heapAt_40 rfl ?_
    refine aw_aload_n (pc := 41) dX11_heapAt_41 rfl ?_
    refine cx_gtC (pc := 42) 105 hE r100 fl_X11_32 rfl rfl (Nat.le_of_ble_eq_true rfl) dX11_heapAt_42 ?_
    refine aw_iload_n (pc := 45) dX11_heapAt_45 rfl ?_
    refine cx_ldI (pc := 46) hE r105 hp1 dX11_heapAt_46 H (fun x46 hx46 H => ?_)
    refine cx_icmp_ge (pc := 47) 79 hv3_40 hx46 dX11_heapAt_47 rfl H (fun H => ?_) (fun H => ?_)
    · -- 47: 50
      refine aw_aload_n (pc := 50) dX11_heapAt_50 rfl ?_
      refine cx_gtC (pc := 51) 108 hE r100 fl_X11_85 rfl rfl (Nat.le_of_ble_eq_true rfl) dX11_heapAt_51 ?_
      refine aw_aload_n (pc := 54) dX11_heapAt_54 rfl ?_
      refine cx_gtC (pc := 55) 102 hE r100 fl_X11_35 rfl rfl (Nat.le_of_ble_eq_true rfl) dX11_heapAt_55 ?_
      refine aw_iload_n (pc := 58) dX11_heapAt_58 rfl ?_
      refine cx_ldI (pc := 59) hE r102 hv3_40 dX11_heapAt_59 H (fun x59 hx59 H => ?_)
      refine cx_ldI (pc := 60) hE r108 hx59 dX11_heapAt_60 H (fun x60 hx60 H => ?_)
      refine cx_iconst (pc := 61) dX11_heapAt_61 ?_
      refine aw_iload_n (pc := 62) dX11_heapAt_62 rfl ?_
      refine cx_iconst (pc := 63) dX11_heapAt_63 ?_
      refine cx_isub (pc := 64) dX11_heapAt_64 ?_
      refine cx_callS (pc := 65) (P := pI) (dC := 0) (mcC := 0) (msC := 0) [iv x60, iv 0, iv (w32 (z13 - 1))] (fun r1 H1 => s_X11_in l sc E R hE hR n x60 0 (w32 (z13 - 1)) hx60 (inR_lit _ rfl) (inR_w32 _) m40 r1 H1) ca_X11_106 rfl rfl (Nat.le_of_ble_eq_true rfl) (Nat.le_of_ble_eq_true rfl) (Nat.le_of_ble_eq_true rfl) (Nat.le_of_ble_eq_true rfl) dX11_heapAt_65 H (fun x65 m65 v65 hh65 H hp => ?_)
      refine cx_backI hp (fun hx65 => ?_)
      refine cx_if_ne (pc := 68) 73 hx65 dX11_heapAt_68 rfl H (fun H => ?_) (fun H => ?_)
      · -- 68: 71
        refine cx_iconst (pc := 71) dX11_heapAt_71 ?_
        exact cx_iret (pc := 72) (inR_lit _ rfl) rfl (Nat.le_of_ble_eq_true rfl) (Nat.le_of_ble_eq_true rfl) dX11_heapAt_72 H
      · -- 68: 73
        refine cx_iinc (pc := 73) [(3, iv (w32 (v3_40 + 1))), (0, .ref 100), (1, iv p1), (2, iv z13)] dX11_heapAt_73 rfl rfl (by decide) ?_
        refine aw_goto (pc := 76) 40 dX11_heapAt_76 rfl ?_
        exact AW.sel [1, 2, 3, 0] rfl (ih40 _ _ (inR_w32 _) H)
    · -- 47: 79
      refine aw_iload_n (pc := 79) dX11_heapAt_79 rfl ?_
      exact cx_iret (pc := 80) hz13 rfl (Nat.le_of_ble_eq_true rfl) (Nat.le_of_ble_eq_true rfl) dX11_heapAt_80 H
  · -- 28: 31
    refine cx_iconst (pc := 31) dX11_heapAt_31 ?_
    exact cx_iret (pc := 32) (inR_lit _ rfl) rfl (Nat.le_of_ble_eq_true rfl) (Nat.le_of_ble_eq_true rfl) dX11_heapAt_32 H
/-- X11 isSmallAt (I)Z -/
def f_X11_isSmallAt (n : Nat) (p1 : Int) (mi : Mem) : Option Rz :=
  ldI mi 105 p1 fun x5 =>
  ldI mi 103 p1 fun x11 =>
  jn (fun (s0_50 : Int) (m50 : Mem) =>
    ldI m50 103 p1 fun x56 =>
    lp (F := Int → Int → Mem → Option Rz) (fun _ _ _ => none) (fun w58 v2_58 v3_58 m58 =>
      ldI m58 105 p1 fun x64 =>
      jn (fun (m90 : Mem) =>
        rtZ v2_58 m90
      ) fun (j90 : Mem → Option Rz) =>
      if v3_58 < x64 then (
        if v2_58 = 0 then (
          j90 m58
        ) else
        ldI m58 102 v3_58 fun x81 =>
        ldZ m58 110 x81 fun x82 =>
        w58 x82 (w32 (v3_58 + 1)) m58
      ) else
      j90 m58
    ) n s0_50 x56 m50
  ) fun (j50 : Int → Mem → Option Rz) =>
  jn (fun (m45 : Mem) =>
    j50 1 m45
  ) fun (j45 : Mem → Option Rz) =>
  if x5 = x11 then (
    j45 mi
  ) else
  ldI mi 104 p1 fun x20 =>
  ldI mi 103 p1 fun x26 =>
  jn (fun (m49 : Mem) =>
    j50 0 m49
  ) fun (j49 : Mem → Option Rz) =>
  if x26 < x20 then (
    ldI mi 105 p1 fun x35 =>
    ldI mi 104 p1 fun x41 =>
    if x41 < x35 then (
      j45 mi
    ) else
    j49 mi
  ) else
  j49 mi
set_option maxRecDepth 100000 in
set_option maxHeartbeats 4000000 in
theorem s_X11_isSmallAt (l : Launch) (sc : g_S) (E : Mem → g_H) (R : Nat → Prop) (hE : LE E R) (hR : RRF R) (n : Nat)  (p1 : Int) (hp1 : inR p1) (mi : Mem) (r : Rz) (H : f_X11_isSmallAt n p1 mi = some r) : AMet l sc yX11_isSmallAt cX11_isSmallAt 4 (some FieldType.boolean) 0 0 0 [.ref 100, iv p1] (E mi) (pI E r) := by
  have r100 : R 100 := hR 100 (Nat.le_of_ble_eq_true rfl) (Nat.le_of_ble_eq_true rfl)
  have r102 : R 102 := hR 102 (Nat.le_of_ble_eq_true rfl) (Nat.le_of_ble_eq_true rfl)
  have r103 : R 103 := hR 103 (Nat.le_of_ble_eq_true rfl) (Nat.le_of_ble_eq_true rfl)
  have r104 : R 104 := hR 104 (Nat.le_of_ble_eq_true rfl) (Nat.le_of_ble_eq_true rfl)
  have r105 : R 105 := hR 105 (Nat.le_of_ble_eq_true rfl) (Nat.le_of_ble_eq_true rfl)
  have r110 : R 110 := hR 110 (Nat.le_of_ble_eq_true rfl) (Nat.le_of_ble_eq_true rfl)
  unfold f_X11_isSmallAt at H
  refine AMet.of (own := RX11) (by decide +kernel) rfl (Nat.le_of_ble_eq_true rfl) [(0, .ref 100), (1, iv p1)] rfl (fun D base ad => ?_)
  refine aw_aload_n (pc := 0) dX11_isSmallAt_0 rfl ?_
  refine cx_gtC (pc := 1) 105 hE r100 fl_X11_32 rfl rfl (Nat.le_of_ble_eq_true rfl) dX11_isSmallAt_1 ?_
  refine aw_iload_n (pc := 4) dX11_isSmallAt_4 rfl ?_
  refine cx_ldI (pc := 5) hE r105 hp1 dX11_isSmallAt_5 H (fun x5 hx5 H => ?_)
  refine aw_aload_n (pc := 6) dX11_isSmallAt_6 rfl ?_
  refine cx_gtC (pc := 7) 103 hE r100 fl_X11_29 rfl rfl (Nat.le_of_ble_eq_true rfl) dX11_isSmallAt_7 ?_
  refine aw_iload_n (pc := 10) dX11_isSmallAt_10 rfl ?_
  refine cx_ldI (pc := 11) hE r103 hp1 dX11_isSmallAt_11 H (fun x11 hx11 H => ?_)
  refine jn_ind (fun (f9 : Int → Mem → Option Rz) => ∀ (s0_50 : Int) (m50 : Mem), inR s0_50 → f9 s0_50 m50 = some r → AW l D base sc RX11 yX11_isSmallAt cX11_isSmallAt 4 (some FieldType.boolean) 0 0 0 ad (E mi) (pI E r) 0 0 (E m50) 50 [(0, .ref 100), (1, iv p1)] [iv s0_50]) (fun s0_50 m50 hs0_50 H => ?_) (fun j50 hj50 H => ?_) H
  · -- 50
    refine aw_istore_n (pc := 50) [(2, iv s0_50), (0, .ref 100), (1, iv p1)] dX11_isSmallAt_50 rfl (by decide) ?_
    refine aw_aload_n (pc := 51) dX11_isSmallAt_51 rfl ?_
    refine cx_gtC (pc := 52) 103 hE r100 fl_X11_29 rfl rfl (Nat.le_of_ble_eq_true rfl) dX11_isSmallAt_52 ?_
    refine aw_iload_n (pc := 55) dX11_isSmallAt_55 rfl ?_
    refine cx_ldI (pc := 56) hE r103 hp1 dX11_isSmallAt_56 H (fun x56 hx56 H => ?_)
    refine aw_istore_n (pc := 57) [(3, iv x56), (2, iv s0_50), (0, .ref 100), (1, iv p1)] dX11_isSmallAt_57 rfl (by decide) ?_
    refine AW.sel [2, 3, 1, 0] rfl (lp_ind (bot := fun _ _ _ => none) (fun (f9 : Int → Int → Mem → Option Rz) => ∀ (v2_58 : Int) (v3_58 : Int) (m58 : Mem), inR v2_58 → inR v3_58 → f9 v2_58 v3_58 m58 = some r → AW l D base sc RX11 yX11_isSmallAt cX11_isSmallAt 4 (some FieldType.boolean) 0 0 0 ad (E mi) (pI E r) 0 0 (E m58) 58 [(0, .ref 100), (1, iv p1), (2, iv v2_58), (3, iv v3_58)] []) (fun _ _ _ _ _ h9 => nomatch h9) (fun w58 ih58 v2_58 v3_58 m58 hv2_58 hv3_58 H => ?_) n _ _ _ hs0_50 hx56 H)
    refine aw_iload_n (pc := 58) dX11_isSmallAt_58 rfl ?_
    refine aw_aload_n (pc := 59) dX11_isSmallAt_59 rfl ?_
    refine cx_gtC (pc := 60) 105 hE r100 fl_X11_32 rfl rfl (Nat.le_of_ble_eq_true rfl) dX11_isSmallAt_60 ?_
    refine aw_iload_n (pc := 63) dX11_isSmallAt_63 rfl ?_
    refine cx_ldI (pc := 64) hE r105 hp1 dX11_isSmallAt_64 H (fun x64 hx64 H => ?_)
    refine jn_ind (fun (f9 : Mem → Option Rz) => ∀ (m90 : Mem), f9 m90 = some r → AW l D base sc RX11 yX11_isSmallAt cX11_isSmallAt 4 (some FieldType.boolean) 0 0 0 ad (E mi) (pI E r) 0 0 (E m90) 90 [(2, iv v2_58)] []) (fun m90 H => ?_) (fun j90 hj90 H => ?_) H
    · -- 90
      refine aw_iload_n (pc := 90) dX11_isSmallAt_90 rfl ?_
      exact cx_zret (pc := 91) rfl (Nat.le_of_ble_eq_true rfl) (Nat.le_of_ble_eq_true rfl) dX11_isSmallAt_91 H
    refine cx_icmp_ge (pc := 65) 90 hv3_58 hx64 dX11_isSmallAt_65 rfl H (fun H => ?_) (fun H => ?_)
    · -- 65: 68
      refine aw_iload_n (pc := 68) dX11_isSmallAt_68 rfl ?_
      refine cx_if_eq (pc := 69) 90 hv2_58 dX11_isSmallAt_69 rfl H (fun H => ?_) (fun H => ?_)
      · -- 69: 90
        exact AW.sel [2] rfl (hj90 _ H)
      · -- 69: 72
        refine aw_aload_n (pc := 72) dX11_isSmallAt_72 rfl ?_
        refine cx_gtC (pc := 73) 110 hE r100 fl_X11_91 rfl rfl (Nat.le_of_ble_eq_true rfl) dX11_isSmallAt_73 ?_
        refine aw_aload_n (pc := 76) dX11_isSmallAt_76 rfl ?_
        refine cx_gtC (pc := 77) 102 hE r100 fl_X11_35 rfl rfl (Nat.le_of_ble_eq_true rfl) dX11_isSmallAt_77 ?_
        refine aw_iload_n (pc := 80) dX11_isSmallAt_80 rfl ?_
        refine cx_ldI (pc := 81) hE r102 hv3_58 dX11_isSmallAt_81 H (fun x81 hx81 H => ?_)
        refine cx_ldZ (pc := 82) hE r110 hx81 dX11_isSmallAt_82 H (fun x82 hx82 H => ?_)
        refine aw_istore_n (pc := 83) [(2, iv x82), (0, .ref 100), (1, iv p1), (3, iv v3_58)] dX11_isSmallAt_83 rfl (by decide) ?_
        refine cx_iinc (pc := 84) [(3, iv (w32 (v3_58 + 1))), (2, iv x82), (0, .ref 100), (1, iv p1)] dX11_isSmallAt_84 rfl rfl (by decide) ?_
        refine aw_goto (pc := 87) 58 dX11_isSmallAt_87 rfl ?_
        exact AW.sel [2, 3, 1, 0] rfl (ih58 _ _ _ hx82 (inR_w32 _) H)
    · -- 65: 90
      exact AW.sel [2] rfl (hj90 _ H)
  refine jn_ind (fun (f9 : Mem → Option Rz) => ∀ (m45 : Mem), f9 m45 = some r → AW l D base sc RX11 yX11_isSmallAt cX11_isSmallAt 4 (some FieldType.boolean) 0 0 0 ad (E mi) (pI E r) 0 0 (E m45) 45 [(0, .ref 100), (1, iv p1)] []) (fun m45 H => ?_) (fun j45 hj45 H => ?_) H
  · -- 45
    refine cx_iconst (pc := 45) dX11_isSmallAt_45 ?_
    refine aw_goto (pc := 46) 50 dX11_isSmallAt_46 rfl ?_
    exact AW.sel [0, 1] rfl (hj50 _ _ (inR_lit _ rfl) H)
  refine cx_icmp_eq (pc := 12) 45 hx5 hx11 dX11_isSmallAt_12 rfl H (fun H => ?_) (fun H => ?_)
  · -- 12: 45
    exact AW.sel [0, 1] rfl (hj45 _ H)
  · -- 12: 15
    refine aw_aload_n (pc := 15) dX11_isSmallAt_15 rfl ?_
    refine cx_gtC (pc := 16) 104 hE r100 fl_X11_26 rfl rfl (Nat.le_of_ble_eq_true rfl) dX11_isSmallAt_16 ?_
    refine aw_iload_n (pc := 19) dX11_isSmallAt_19 rfl ?_
    refine cx_ldI (pc := 20) hE r104 hp1 dX11_isSmallAt_20 H (fun x20 hx20 H => ?_)
    refine aw_aload_n (pc := 21) dX11_isSmallAt_21 rfl ?_
    refine cx_gtC (pc := 22) 103 hE r100 fl_X11_29 rfl rfl (Nat.le_of_ble_eq_true rfl) dX11_isSmallAt_22 ?_
    refine aw_iload_n (pc := 25) dX11_isSmallAt_25 rfl ?_
    refine cx_ldI (pc := 26) hE r103 hp1 dX11_isSmallAt_26 H (fun x26 hx26 H => ?_)
    refine jn_ind (fun (f9 : Mem → Option Rz) => ∀ (m49 : Mem), f9 m49 = some r → AW l D base sc RX11 yX11_isSmallAt cX11_isSmallAt 4 (some FieldType.boolean) 0 0 0 ad (E mi) (pI E r) 0 0 (E m49) 49 [(0, .ref 100), (1, iv p1)] []) (fun m49 H => ?_) (fun j49 hj49 H => ?_) H
    · -- 49
      refine cx_iconst (pc := 49) dX11_isSmallAt_49 ?_
      exact AW.sel [0, 1] rfl (hj50 _ _ (inR_lit _ rfl) H)
    refine cx_icmp_le (pc := 27) 49 hx20 hx26 dX11_isSmallAt_27 rfl H (fun H => ?_) (fun H => ?_)
    · -- 27: 30
      refine aw_aload_n (pc := 30) dX11_isSmallAt_30 rfl ?_
      refine cx_gtC (pc := 31) 105 hE r100 fl_X11_32 rfl rfl (Nat.le_of_ble_eq_true rfl) dX11_isSmallAt_31 ?_
      refine aw_iload_n (pc := 34) dX11_isSmallAt_34 rfl ?_
      refine cx_ldI (pc := 35) hE r105 hp1 dX11_isSmallAt_35 H (fun x35 hx35 H => ?_)
      refine aw_aload_n (pc := 36) dX11_isSmallAt_36 rfl ?_
      refine cx_gtC (pc := 37) 104 hE r100 fl_X11_26 rfl rfl (Nat.le_of_ble_eq_true rfl) dX11_isSmallAt_37 ?_
      refine aw_iload_n (pc := 40) dX11_isSmallAt_40 rfl ?_
      refine cx_ldI (pc := 41) hE r104 hp1 dX11_isSmallAt_41 H (fun x41 hx41 H => ?_)
      refine cx_icmp_le (pc := 42) 49 hx35 hx41 dX11_isSmallAt_42 rfl H (fun H => ?_) (fun H => ?_)
      · -- 42: 45
        exact AW.sel [0, 1] rfl (hj45 _ H)
      · -- 42: 49
        exact AW.sel [0, 1] rfl (hj49 _ H)
    · -- 27: 49
      exact AW.sel [0, 1] rfl (hj49 _ H)
/-- X11 tellsBirthday (I)V -/
def f_X11_tellsBirthday (n : Nat) (p1 : Int) (mi : Mem) : Option Rz :=
  ldI mi 103 p1 fun x7 =>
  lp (F := Int → Int → Mem → Option Rz) (fun _ _ _ => none) (fun w9 v2_9 v3_9 m9 =>
    ldI m9 105 p1 fun x15 =>
    if v3_9 < x15 then (
      ldI m9 102 v3_9 fun x28 =>
      ldI m9 106 x28 fun x29 =>
      jn (fun (s0_49 : Int) (m49 : Mem) =>
        w9 s0_49 (w32 (v3_9 + 1)) m49
      ) fun (j49 : Int → Mem → Option Rz) =>
      if v2_9 < x29 then (
        ldI m9 102 v3_9 fun x43 =>
        ldI m9 106 x43 fun x44 =>
        j49 x44 m9
      ) else
      j49 v2_9 m9
    ) else
    stI m9 106 p1 (w32 (v2_9 + 1)) fun m64 =>
    rt 0 m64
  ) n (-1) x7 mi
set_option maxRecDepth 100000 in
set_option maxHeartbeats 4000000 in
theorem s_X11_tellsBirthday (l : Launch) (sc : g_S) (E : Mem → g_H) (R : Nat → Prop) (hE : LE E R) (hR : RRF R) (n : Nat)  (p1 : Int) (hp1 : inR p1) (mi : Mem) (r : Rz) (H : f_X11_tellsBirthday n p1 mi = some r) : AMet l sc yX11_tellsBirthday cX11_tellsBirthday 4 none 0 0 0 [.ref 100, iv p1] (E mi) (pV E r) := by
  have r100 : R 100 := hR 100 (Nat.le_of_ble_eq_true rfl) (Nat.le_of_ble_eq_true rfl)
  have r102 : R 102 := hR 102 (Nat.le_of_ble_eq_true rfl) (Nat.le_of_ble_eq_true rfl)
  have r103 : R 103 := hR 103 (Nat.le_of_ble_eq_true rfl) (Nat.le_of_ble_eq_true rfl)
  have r105 : R 105 := hR 105 (Nat.le_of_ble_eq_true rfl) (Nat.le_of_ble_eq_true rfl)
  have r106 : R 106 := hR 106 (Nat.le_of_ble_eq_true rfl) (Nat.le_of_ble_eq_true rfl)
  unfold f_X11_tellsBirthday at H
  refine AMet.of (own := RX11) (by decide +kernel) rfl (Nat.le_of_ble_eq_true rfl) [(0, .ref 100), (1, iv p1)] rfl (fun D base ad => ?_)
  refine cx_iconst (pc := 0) dX11_tellsBirthday_0 ?_
  refine aw_istore_n (pc := 1) [(2, iv (-1)), (0, .ref 100), (1, iv p1)] dX11_tellsBirthday_1 rfl (by decide) ?_
  refine aw_aload_n (pc := 2) dX11_tellsBirthday_2 rfl ?_
  refine cx_gtC (pc := 3) 103 hE r100 fl_X11_29 rfl rfl (Nat.le_of_ble_eq_true rfl) dX11_tellsBirthday_3 ?_
  refine aw_iload_n (pc := 6) dX11_tellsBirthday_6 rfl ?_
  refine cx_ldI (pc := 7) hE r103 hp1 dX11_tellsBirthday_7 H (fun x7 hx7 H => ?_)
  refine aw_istore_n (pc := 8) [(3, iv x7), (2, iv (-1)), (0, .ref 100), (1, iv p1)] dX11_tellsBirthday_8 rfl (by decide) ?_
  refine AW.sel [2, 3, 1, 0] rfl (lp_ind (bot := fun _ _ _ => none) (fun (f9 : Int → Int → Mem → Option Rz) => ∀ (v2_9 : Int) (v3_9 : Int) (m9 : Mem), inR v2_9 → inR v3_9 → f9 v2_9 v3_9 m9 = some r → AW l D base sc RX11 yX11_tellsBirthday cX11_tellsBirthday 4 none 0 0 0 ad (E mi) (pV E r) 0 0 (E m9) 9 [(0, .ref 100), (1, iv p1), (2, iv v2_9), (3, iv v3_9)] []) (fun _ _ _ _ _ h9 => nomatch h9) (fun w9 ih9 v2_9 v3_9 m9 hv2_9 hv3_9 H => ?_) n _ _ _ (inR_lit _ rfl) hx7 H)
  refine aw_iload_n (pc := 9) dX11_tellsBirthday_9 rfl ?_
  refine aw_aload_n (pc := 10) dX11_tellsBirthday_10 rfl ?_
  refine cx_gtC (pc := 11) 105 hE r100 fl_X11_32 rfl rfl (Nat.le_of_ble_eq_true rfl) dX11_tellsBirthday_11 ?_
  refine aw_iload_n (pc := 14) dX11_tellsBirthday_14 rfl ?_
  refine cx_ldI (pc := 15) hE r105 hp1 dX11_tellsBirthday_15 H (fun x15 hx15 H => ?_)
  refine cx_icmp_ge (pc := 16) 56 hv3_9 hx15 dX11_tellsBirthday_16 rfl H (fun H => ?_) (fun H => ?_)
  · -- 16: 19
    refine aw_aload_n (pc := 19) dX11_tellsBirthday_19 rfl ?_
    refine cx_gtC (pc := 20) 106 hE r100 fl_X11_103 rfl rfl (Nat.le_of_ble_eq_true rfl) dX11_tellsBirthday_20 ?_
    refine aw_aload_n (pc := 23) dX11_tellsBirthday_23 rfl ?_
    refine cx_gtC (pc := 24) 102 hE r100 fl_X11_35 rfl rfl (Nat.le_of_ble_eq_true rfl) dX11_tellsBirthday_24 ?_
    refine aw_iload_n (pc := 27) dX11_tellsBirthday_27 rfl ?_
    refine cx_ldI (pc := 28) hE r102 hv3_9 dX11_tellsBirthday_28 H (fun x28 hx28 H => ?_)
    refine cx_ldI (pc := 29) hE r106 hx28 dX11_tellsBirthday_29 H (fun x29 hx29 H => ?_)
    refine aw_iload_n (pc := 30) dX11_tellsBirthday_30 rfl ?_
    refine jn_ind (fun (f9 : Int → Mem → Option Rz) => ∀ (s0_49 : Int) (m49 : Mem), inR s0_49 → f9 s0_49 m49 = some r → AW l D base sc RX11 yX11_tellsBirthday cX11_tellsBirthday 4 none 0 0 0 ad (E mi) (pV E r) 0 0 (E m49) 49 [(0, .ref 100), (1, iv p1), (3, iv v3_9)] [iv s0_49]) (fun s0_49 m49 hs0_49 H => ?_) (fun j49 hj49 H => ?_) H
    · -- 49
      refine aw_istore_n (pc := 49) [(2, iv s0_49), (0, .ref 100), (1, iv p1), (3, iv v3_9)] dX11_tellsBirthday_49 rfl (by decide) ?_
      refine cx_iinc (pc := 50) [(3, iv (w32 (v3_9 + 1))), (2, iv s0_49), (0, .ref 100), (1, iv p1)] dX11_tellsBirthday_50 rfl rfl (by decide) ?_
      refine aw_goto (pc := 53) 9 dX11_tellsBirthday_53 rfl ?_
      exact AW.sel [2, 3, 1, 0] rfl (ih9 _ _ _ hs0_49 (inR_w32 _) H)
    refine cx_icmp_le (pc := 31) 48 hx29 hv2_9 dX11_tellsBirthday_31 rfl H (fun H => ?_) (fun H => ?_)
    · -- 31: 34
      refine aw_aload_n (pc := 34) dX11_tellsBirthday_34 rfl ?_
      refine cx_gtC (pc := 35) 106 hE r100 fl_X11_103 rfl rfl (Nat.le_of_ble_eq_true rfl) dX11_tellsBirthday_35 ?_
      refine aw_aload_n (pc := 38) dX11_tellsBirthday_38 rfl ?_
      refine cx_gtC (pc := 39) 102 hE r100 fl_X11_35 rfl rfl (Nat.le_of_ble_eq_true rfl) dX11_tellsBirthday_39 ?_
      refine aw_iload_n (pc := 42) dX11_tellsBirthday_42 rfl ?_
      refine cx_ldI (pc := 43) hE r102 hv3_9 dX11_tellsBirthday_43 H (fun x43 hx43 H => ?_)
      refine cx_ldI (pc := 44) hE r106 hx43 dX11_tellsBirthday_44 H (fun x44 hx44 H => ?_)
      refine aw_goto (pc := 45) 49 dX11_tellsBirthday_45 rfl ?_
      exact AW.sel [0, 1, 3] rfl (hj49 _ _ hx44 H)
    · -- 31: 48
      refine aw_iload_n (pc := 48) dX11_tellsBirthday_48 rfl ?_
      exact AW.sel [0, 1, 3] rfl (hj49 _ _ hv2_9 H)
  · -- 16: 56
    refine aw_aload_n (pc := 56) dX11_tellsBirthday_56 rfl ?_
    refine cx_gtC (pc := 57) 106 hE r100 fl_X11_103 rfl rfl (Nat.le_of_ble_eq_true rfl) dX11_tellsBirthday_57 ?_
    refine aw_iload_n (pc := 60) dX11_tellsBirthday_60 rfl ?_
    refine aw_iload_n (pc := 61) dX11_tellsBirthday_61 rfl ?_
    refine cx_iconst (pc := 62) dX11_tellsBirthday_62 ?_
    refine cx_iadd (pc := 63) dX11_tellsBirthday_63 ?_
    refine cx_stI (pc := 64) hE r106 hp1 dX11_tellsBirthday_64 H (fun m64 H => ?_)
    exact cx_vret (pc := 65) rfl (Nat.le_of_ble_eq_true rfl) (Nat.le_of_ble_eq_true rfl) dX11_tellsBirthday_65 H
/-- X11 wholeAt (I)I -/
def f_X11_wholeAt (n : Nat) (p1 : Int) (mi : Mem) : Option Rz :=
  ldI mi 105 p1 fun x5 =>
  ldI mi 103 p1 fun x11 =>
  nm (w32 (x5 - x11)) fun z13 =>
  if z13 = 0 then (
    rt 0 mi
  ) else
  jn (fun (m47 : Mem) =>
    rt (-1000) m47
  ) fun (j47 : Mem → Option Rz) =>
  if 1 < z13 then (
    j47 mi
  ) else
  ldI mi 103 p1 fun x38 =>
  ldI mi 102 x38 fun x39 =>
  ldI mi 107 x39 fun x40 =>
  if x40 = (-1000) then (
    j47 mi
  ) else
  ldI mi 103 p1 fun x64 =>
  ldI mi 102 x64 fun x65 =>
  ldI mi 107 x65 fun x66 =>
  ldI mi 104 p1 fun x73 =>
  ldI mi 103 p1 fun x79 =>
  jn (fun (s0_88 : Int) (m88 : Mem) =>
    jn (fun (s0_123 : Int) (m123 : Mem) =>
      rt s0_123 m123
    ) fun (j123 : Int → Mem → Option Rz) =>
    jn (fun (m105 : Mem) =>
      jn (fun (m120 : Mem) =>
        j123 (-1000) m120
      ) fun (j120 : Mem → Option Rz) =>
      if s0_88 = 0 then (
        if 0 < x66 then (
          j120 m105
        ) else
        j123 (w32 (x66 - 1)) m105
      ) else
      j120 m105
    ) fun (j105 : Mem → Option Rz) =>
    if s0_88 = 0 then (
      j105 m88
    ) else
    if x66 < 0 then (
      j105 m88
    ) else
    j123 (w32 (x66 + 1)) m88
  ) fun (j88 : Int → Mem → Option Rz) =>
  if x79 < x73 then (
    j88 1 mi
  ) else
  j88 0 mi
set_option maxRecDepth 100000 in
set_option maxHeartbeats 4000000 in
theorem s_X11_wholeAt (l : Launch) (sc : g_S) (E : Mem → g_H) (R : Nat → Prop) (hE : LE E R) (hR : RRF R) (n : Nat)  (p1 : Int) (hp1 : inR p1) (mi : Mem) (r : Rz) (H : f_X11_wholeAt n p1 mi = some r) : AMet l sc yX11_wholeAt cX11_wholeAt 5 (some FieldType.int) 0 0 0 [.ref 100, iv p1] (E mi) (pI E r) := by
  have r100 : R 100 := hR 100 (Nat.le_of_ble_eq_true rfl) (Nat.le_of_ble_eq_true rfl)
  have r102 : R 102 := hR 102 (Nat.le_of_ble_eq_true rfl) (Nat.le_of_ble_eq_true rfl)
  have r103 : R 103 := hR 103 (Nat.le_of_ble_eq_true rfl) (Nat.le_of_ble_eq_true rfl)
  have r104 : R 104 := hR 104 (Nat.le_of_ble_eq_true rfl) (Nat.le_of_ble_eq_true rfl)
  have r105 : R 105 := hR 105 (Nat.le_of_ble_eq_true rfl) (Nat.le_of_ble_eq_true rfl)
  have r107 : R 107 := hR 107 (Nat.le_of_ble_eq_true rfl) (Nat.le_of_ble_eq_true rfl)
  unfold f_X11_wholeAt at H
  refine AMet.of (own := RX11) (by decide +kernel) rfl (Nat.le_of_ble_eq_true rfl) [(0, .ref 100), (1, iv p1)] rfl (fun D base ad => ?_)
  refine aw_aload_n (pc := 0) dX11_wholeAt_0 rfl ?_
  refine cx_gtC (pc := 1) 105 hE r100 fl_X11_32 rfl rfl (Nat.le_of_ble_eq_true rfl) dX11_wholeAt_1 ?_
  refine aw_iload_n (pc := 4) dX11_wholeAt_4 rfl ?_
  refine cx_ldI (pc := 5) hE r105 hp1 dX11_wholeAt_5 H (fun x5 hx5 H => ?_)
  refine aw_aload_n (pc := 6) dX11_wholeAt_6 rfl ?_
  refine cx_gtC (pc := 7) 103 hE r100 fl_X11_29 rfl rfl (Nat.le_of_ble_eq_true rfl) dX11_wholeAt_7 ?_
  refine aw_iload_n (pc := 10) dX11_wholeAt_10 rfl ?_
  refine cx_ldI (pc := 11) hE r103 hp1 dX11_wholeAt_11 H (fun x11 hx11 H => ?_)
  refine cx_isub (pc := 12) dX11_wholeAt_12 ?_
  refine cx_nm (inR_w32 _) H (fun z13 hz13 H => ?_)
  refine aw_istore_n (pc := 13) [(2, iv z13), (0, .ref 100), (1, iv p1)] dX11_wholeAt_13 rfl (by decide) ?_
  refine aw_iload_n (pc := 14) dX11_wholeAt_14 rfl ?_
  refine cx_if_ne (pc := 15) 20 hz13 dX11_wholeAt_15 rfl H (fun H => ?_) (fun H => ?_)
  · -- 15: 18
    refine cx_iconst (pc := 18) dX11_wholeAt_18 ?_
    exact cx_iret (pc := 19) (inR_lit _ rfl) rfl (Nat.le_of_ble_eq_true rfl) (Nat.le_of_ble_eq_true rfl) dX11_wholeAt_19 H
  · -- 15: 20
    refine aw_iload_n (pc := 20) dX11_wholeAt_20 rfl ?_
    refine cx_iconst (pc := 21) dX11_wholeAt_21 ?_
    refine jn_ind (fun (f9 : Mem → Option Rz) => ∀ (m47 : Mem), f9 m47 = some r → AW l D base sc RX11 yX11_wholeAt cX11_wholeAt 5 (some FieldType.int) 0 0 0 ad (E mi) (pI E r) 0 0 (E m47) 47 [] []) (fun m47 H => ?_) (fun j47 hj47 H => ?_) H
    · -- 47
      refine cx_sipush (pc := 47) dX11_wholeAt_47 (by decide) ?_
      exact cx_iret (pc := 50) (inR_lit _ rfl) rfl (Nat.le_of_ble_eq_true rfl) (Nat.le_of_ble_eq_true rfl) dX11_wholeAt_50 H
    refine cx_icmp_gt (pc := 22) 47 hz13 (inR_lit _ rfl) dX11_wholeAt_22 rfl H (fun H => ?_) (fun H => ?_)
    · -- 22: 47
      exact AW.sel [] rfl (hj47 _ H)
    · -- 22: 25
      refine aw_aload_n (pc := 25) dX11_wholeAt_25 rfl ?_
      refine cx_gtC (pc := 26) 107 hE r100 fl_X11_79 rfl rfl (Nat.le_of_ble_eq_true rfl) dX11_wholeAt_26 ?_
      refine aw_aload_n (pc := 29) dX11_wholeAt_29 rfl ?_
      refine cx_gtC (pc := 30) 102 hE r100 fl_X11_35 rfl rfl (Nat.le_of_ble_eq_true rfl) dX11_wholeAt_30 ?_
      refine aw_aload_n (pc := 33) dX11_wholeAt_33 rfl ?_
      refine cx_gtC (pc := 34) 103 hE r100 fl_X11_29 rfl rfl (Nat.le_of_ble_eq_true rfl) dX11_wholeAt_34 ?_
      refine aw_iload_n (pc := 37) dX11_wholeAt_37 rfl ?_
      refine cx_ldI (pc := 38) hE r103 hp1 dX11_wholeAt_38 H (fun x38 hx38 H => ?_)
      refine cx_ldI (pc := 39) hE r102 hx38 dX11_wholeAt_39 H (fun x39 hx39 H => ?_)
      refine cx_ldI (pc := 40) hE r107 hx39 dX11_wholeAt_40 H (fun x40 hx40 H => ?_)
      refine cx_sipush (pc := 41) dX11_wholeAt_41 (by decide) ?_
      refine cx_icmp_ne (pc := 44) 51 hx40 (inR_lit _ rfl) dX11_wholeAt_44 rfl H (fun H => ?_) (fun H => ?_)
      · -- 44: 47
        exact AW.sel [] rfl (hj47 _ H)
      · -- 44: 51
        refine aw_aload_n (pc := 51) dX11_wholeAt_51 rfl ?_
        refine cx_gtC (pc := 52) 107 hE r100 fl_X11_79 rfl rfl (Nat.le_of_ble_eq_true rfl) dX11_wholeAt_52 ?_
        refine aw_aload_n (pc := 55) dX11_wholeAt_55 rfl ?_
        refine cx_gtC (pc := 56) 102 hE r100 fl_X11_35 rfl rfl (Nat.le_of_ble_eq_true rfl) dX11_wholeAt_56 ?_
        refine aw_aload_n (pc := 59) dX11_wholeAt_59 rfl ?_
        refine cx_gtC (pc := 60) 103 hE r100 fl_X11_29 rfl rfl (Nat.le_of_ble_eq_true rfl) dX11_wholeAt_60 ?_
        refine aw_iload_n (pc := 63) dX11_wholeAt_63 rfl ?_
        refine cx_ldI (pc := 64) hE r103 hp1 dX11_wholeAt_64 H (fun x64 hx64 H => ?_)
        refine cx_ldI (pc := 65) hE r102 hx64 dX11_wholeAt_65 H (fun x65 hx65 H => ?_)
        refine cx_ldI (pc := 66) hE r107 hx65 dX11_wholeAt_66 H (fun x66 hx66 H => ?_)
        refine aw_istore_n (pc := 67) [(3, iv x66), (2, iv z13), (0, .ref 100), (1, iv p1)] dX11_wholeAt_67 rfl (by decide) ?_
        refine aw_aload_n (pc := 68) dX11_wholeAt_68 rfl ?_
        refine cx_gtC (pc := 69) 104 hE r100 fl_X11_26 rfl rfl (Nat.le_of_ble_eq_true rfl) dX11_wholeAt_69 ?_
        refine aw_iload_n (pc := 72) dX11_wholeAt_72 rfl ?_
        refine cx_ldI (pc := 73) hE r104 hp1 dX11_wholeAt_73 H (fun x73 hx73 H => ?_)
        refine aw_aload_n (pc := 74) dX11_wholeAt_74 rfl ?_
        refine cx_gtC (pc := 75) 103 hE r100 fl_X11_29 rfl rfl (Nat.le_of_ble_eq_true rfl) dX11_wholeAt_75 ?_
        refine aw_iload_n (pc := 78) dX11_wholeAt_78 rfl ?_
        refine cx_ldI (pc := 79) hE r103 hp1 dX11_wholeAt_79 H (fun x79 hx79 H => ?_)
        refine jn_ind (fun (f9 : Int → Mem → Option Rz) => ∀ (s0_88 : Int) (m88 : Mem), inR s0_88 → f9 s0_88 m88 = some r → AW l D base sc RX11 yX11_wholeAt cX11_wholeAt 5 (some FieldType.int) 0 0 0 ad (E mi) (pI E r) 0 0 (E m88) 88 [(3, iv x66)] [iv s0_88]) (fun s0_88 m88 hs0_88 H => ?_) (fun j88 hj88 H => ?_) H
        · -- 88
          refine aw_istore (pc := 88) [(4, iv s0_88), (3, iv x66)] dX11_wholeAt_88 rfl (by decide) ?_
          refine aw_iload (pc := 90) dX11_wholeAt_90 rfl ?_
          refine jn_ind (fun (f9 : Int → Mem → Option Rz) => ∀ (s0_123 : Int) (m123 : Mem), inR s0_123 → f9 s0_123 m123 = some r → AW l D base sc RX11 yX11_wholeAt cX11_wholeAt 5 (some FieldType.int) 0 0 0 ad (E mi) (pI E r) 0 0 (E m123) 123 [] [iv s0_123]) (fun s0_123 m123 hs0_123 H => ?_) (fun j123 hj123 H => ?_) H
          · -- 123
            exact cx_iret (pc := 123) hs0_123 rfl (Nat.le_of_ble_eq_true rfl) (Nat.le_of_ble_eq_true rfl) dX11_wholeAt_123 H
          refine jn_ind (fun (f9 : Mem → Option Rz) => ∀ (m105 : Mem), f9 m105 = some r → AW l D base sc RX11 yX11_wholeAt cX11_wholeAt 5 (some FieldType.int) 0 0 0 ad (E mi) (pI E r) 0 0 (E m105) 105 [(3, iv x66), (4, iv s0_88)] []) (fun m105 H => ?_) (fun j105 hj105 H => ?_) H
          · -- 105
            refine aw_iload (pc := 105) dX11_wholeAt_105 rfl ?_
            refine jn_ind (fun (f9 : Mem → Option Rz) => ∀ (m120 : Mem), f9 m120 = some r → AW l D base sc RX11 yX11_wholeAt cX11_wholeAt 5 (some FieldType.int) 0 0 0 ad (E mi) (pI E r) 0 0 (E m120) 120 [] []) (fun m120 H => ?_) (fun j120 hj120 H => ?_) H
            · -- 120
              refine cx_sipush (pc := 120) dX11_wholeAt_120 (by decide) ?_
              exact AW.sel [] rfl (hj123 _ _ (inR_lit _ rfl) H)
            refine cx_if_ne (pc := 107) 120 hs0_88 dX11_wholeAt_107 rfl H (fun H => ?_) (fun H => ?_)
            · -- 107: 110
              refine aw_iload_n (pc := 110) dX11_wholeAt_110 rfl ?_
              refine cx_if_gt (pc := 111) 120 hx66 dX11_wholeAt_111 rfl H (fun H => ?_) (fun H => ?_)
              · -- 111: 120
                exact AW.sel [] rfl (hj120 _ H)
              · -- 111: 114
                refine aw_iload_n (pc := 114) dX11_wholeAt_114 rfl ?_
                refine cx_iconst (pc := 115) dX11_wholeAt_115 ?_
                refine cx_isub (pc := 116) dX11_wholeAt_116 ?_
                refine aw_goto (pc := 117) 123 dX11_wholeAt_117 rfl ?_
                exact AW.sel [] rfl (hj123 _ _ (inR_w32 _) H)
            · -- 107: 120
              exact AW.sel [] rfl (hj120 _ H)
          refine cx_if_eq (pc := 92) 105 hs0_88 dX11_wholeAt_92 rfl H (fun H => ?_) (fun H => ?_)
          · -- 92: 105
            exact AW.sel [1, 0] rfl (hj105 _ H)
          · -- 92: 95
            refine aw_iload_n (pc := 95) dX11_wholeAt_95 rfl ?_
            refine cx_if_lt (pc := 96) 105 hx66 dX11_wholeAt_96 rfl H (fun H => ?_) (fun H => ?_)
            · -- 96: 105
              exact AW.sel [1, 0] rfl (hj105 _ H)
            · -- 96: 99
              refine aw_iload_n (pc := 99) dX11_wholeAt_99 rfl ?_
              refine cx_iconst (pc := 100) dX11_wholeAt_100 ?_
              refine cx_iadd (pc := 101) dX11_wholeAt_101 ?_
              refine aw_goto (pc := 102) 123 dX11_wholeAt_102 rfl ?_
              exact AW.sel [] rfl (hj123 _ _ (inR_w32 _) H)
        refine cx_icmp_le (pc := 80) 87 hx73 hx79 dX11_wholeAt_80 rfl H (fun H => ?_) (fun H => ?_)
        · -- 80: 83
          refine cx_iconst (pc := 83) dX11_wholeAt_83 ?_
          refine aw_goto (pc := 84) 88 dX11_wholeAt_84 rfl ?_
          exact AW.sel [0] rfl (hj88 _ _ (inR_lit _ rfl) H)
        · -- 80: 87
          refine cx_iconst (pc := 87) dX11_wholeAt_87 ?_
          exact AW.sel [0] rfl (hj88 _ _ (inR_lit _ rfl) H)
/-- X11 added (I)I -/
def f_X11_added (n : Nat) (p1 : Int) (mi : Mem) : Option Rz :=
  gtF mi 100 15 fun x1 =>
  gtF mi 100 15 fun x7 =>
  ptF mi 100 15 (w32 (x7 + 1)) fun m12 =>
  gtF m12 100 16 fun x21 =>
  stI m12 103 x1 x21 fun m24 =>
  lp (F := Int → Mem → Option Rz) (fun _ _ => none) (fun w27 v3_27 m27 =>
    gtF m27 100 23 fun x29 =>
    if v3_27 < x29 then (
      gtF m27 100 16 fun x40 =>
      ldI m27 120 v3_27 fun x48 =>
      stI m27 102 x40 x48 fun m49 =>
      gtF m49 100 16 fun x52 =>
      ptF m49 100 16 (w32 (x52 + 1)) fun m57 =>
      w27 (w32 (v3_27 + 1)) m57
    ) else
    gtF m27 100 16 fun x72 =>
    stI m27 104 x1 x72 fun m75 =>
    lp (F := Int → Mem → Option Rz) (fun _ _ => none) (fun w78 v3_78 m78 =>
      gtF m78 100 24 fun x80 =>
      if v3_78 < x80 then (
        gtF m78 100 16 fun x91 =>
        ldI m78 121 v3_78 fun x99 =>
        stI m78 102 x91 x99 fun m100 =>
        gtF m100 100 16 fun x103 =>
        ptF m100 100 16 (w32 (x103 + 1)) fun m108 =>
        w78 (w32 (v3_78 + 1)) m108
      ) else
      gtF m78 100 16 fun x123 =>
      stI m78 105 x1 x123 fun m126 =>
      ldI m126 114 p1 fun x137 =>
      stI m126 115 x1 x137 fun m138 =>
      stI m138 114 p1 (w32 (x1 + 1)) fun m147 =>
      stI m147 112 x1 0 fun m154 =>
      stI m154 113 x1 0 fun m161 =>
      ldI m161 105 x1 fun x172 =>
      ldI m161 103 x1 fun x178 =>
      jn (fun (s0_187 : Int) (m187 : Mem) =>
        stZ m187 111 x1 s0_187 fun m187 =>
        cal (f_X11_tellsBirthday n x1 m187) fun _ m190 =>
        cal (f_X11_wholeAt n x1 m190) fun x200 m200 =>
        stI m200 107 x1 x200 fun m203 =>
        cal (f_X11_heapAt n x1 m203) fun x211 m211 =>
        stI m211 108 x1 x211 fun m214 =>
        cal (f_X11_isSmallAt n x1 m214) fun x222 m222 =>
        stZ m222 110 x1 x222 fun m225 =>
        cal (f_X11_bytesAt n x1 m225) fun x233 m233 =>
        stI m233 109 x1 x233 fun m236 =>
        rt x1 m236
      ) fun (j187 : Int → Mem → Option Rz) =>
      if x172 = x178 then (
        j187 1 m161
      ) else
      j187 0 m161
    ) n 0 m75
  ) n 0 m24
set_option maxRecDepth 100000 in
set_option maxHeartbeats 4000000 in
theorem s_X11_added (l : Launch) (sc : g_S) (E : Mem → g_H) (R : Nat → Prop) (hE : LE E R) (hR : RRF R) (n : Nat)  (p1 : Int) (hp1 : inR p1) (mi : Mem) (r : Rz) (H : f_X11_added n p1 mi = some r) : AMet l sc yX11_added cX11_added 4 (some FieldType.int) 2 0 0 [.ref 100, iv p1] (E mi) (pI E r) := by
  have r100 : R 100 := hR 100 (Nat.le_of_ble_eq_true rfl) (Nat.le_of_ble_eq_true rfl)
  have r102 : R 102 := hR 102 (Nat.le_of_ble_eq_true rfl) (Nat.le_of_ble_eq_true rfl)
  have r103 : R 103 := hR 103 (Nat.le_of_ble_eq_true rfl) (Nat.le_of_ble_eq_true rfl)
  have r104 : R 104 := hR 104 (Nat.le_of_ble_eq_true rfl) (Nat.le_of_ble_eq_true rfl)
  have r105 : R 105 := hR 105 (Nat.le_of_ble_eq_true rfl) (Nat.le_of_ble_eq_true rfl)
  have r107 : R 107 := hR 107 (Nat.le_of_ble_eq_true rfl) (Nat.le_of_ble_eq_true rfl)
  have r108 : R 108 := hR 108 (Nat.le_of_ble_eq_true rfl) (Nat.le_of_ble_eq_true rfl)
  have r109 : R 109 := hR 109 (Nat.le_of_ble_eq_true rfl) (Nat.le_of_ble_eq_true rfl)
  have r110 : R 110 := hR 110 (Nat.le_of_ble_eq_true rfl) (Nat.le_of_ble_eq_true rfl)
  have r111 : R 111 := hR 111 (Nat.le_of_ble_eq_true rfl) (Nat.le_of_ble_eq_true rfl)
  have r112 : R 112 := hR 112 (Nat.le_of_ble_eq_true rfl) (Nat.le_of_ble_eq_true rfl)
  have r113 : R 113 := hR 113 (Nat.le_of_ble_eq_true rfl) (Nat.le_of_ble_eq_true rfl)
  have r114 : R 114 := hR 114 (Nat.le_of_ble_eq_true rfl) (Nat.le_of_ble_eq_true rfl)
  have r115 : R 115 := hR 115 (Nat.le_of_ble_eq_true rfl) (Nat.le_of_ble_eq_true rfl)
  have r120 : R 120 := hR 120 (Nat.le_of_ble_eq_true rfl) (Nat.le_of_ble_eq_true rfl)
  have r121 : R 121 := hR 121 (Nat.le_of_ble_eq_true rfl) (Nat.le_of_ble_eq_true rfl)
  unfold f_X11_added at H
  refine AMet.of (own := RX11) (by decide +kernel) rfl (Nat.le_of_ble_eq_true rfl) [(0, .ref 100), (1, iv p1)] rfl (fun D base ad => ?_)
  refine aw_aload_n (pc := 0) dX11_added_0 rfl ?_
  refine cx_gtF (pc := 1) hE r100 fl_X11_59 rfl rfl (Nat.le_of_ble_eq_true rfl) dX11_added_1 H (fun x1 hx1 H => ?_)
  refine aw_istore_n (pc := 4) [(2, iv x1), (0, .ref 100), (1, iv p1)] dX11_added_4 rfl (by decide) ?_
  refine aw_aload_n (pc := 5) dX11_added_5 rfl ?_
  refine aw_dup (pc := 6) dX11_added_6 rfl ?_
  refine cx_gtF (pc := 7) hE r100 fl_X11_59 rfl rfl (Nat.le_of_ble_eq_true rfl) dX11_added_7 H (fun x7 hx7 H => ?_)
  refine cx_iconst (pc := 10) dX11_added_10 ?_
  refine cx_iadd (pc := 11) dX11_added_11 ?_
  refine cx_ptF (pc := 12) tyX11 hE r100 fl_X11_59 (fun r h => ⟨gty_X11 r h, by cases h; rfl⟩) rfl rfl rfl (Nat.le_of_ble_eq_true rfl) dX11_added_12 H (fun m12 H => ?_)
  refine aw_aload_n (pc := 15) dX11_added_15 rfl ?_
  refine cx_gtC (pc := 16) 103 hE r100 fl_X11_29 rfl rfl (Nat.le_of_ble_eq_true rfl) dX11_added_16 ?_
  refine aw_iload_n (pc := 19) dX11_added_19 rfl ?_
  refine aw_aload_n (pc := 20) dX11_added_20 rfl ?_
  refine cx_gtF (pc := 21) hE r100 fl_X11_62 rfl rfl (Nat.le_of_ble_eq_true rfl) dX11_added_21 H (fun x21 hx21 H => ?_)
  refine cx_stI (pc := 24) hE r103 hx1 dX11_added_24 H (fun m24 H => ?_)
  refine cx_iconst (pc := 25) dX11_added_25 ?_
  refine aw_istore_n (pc := 26) [(3, iv 0), (2, iv x1), (0, .ref 100), (1, iv p1)] dX11_added_26 rfl (by decide) ?_
  refine AW.sel [2, 3, 1, 0] rfl (lp_ind (bot := fun _ _ => none) (fun (f9 : Int → Mem → Option Rz) => ∀ (v3_27 : Int) (m27 : Mem), inR v3_27 → f9 v3_27 m27 = some r → AW l D base sc RX11 yX11_added cX11_added 4 (some FieldType.int) 2 0 0 ad (E mi) (pI E r) 0 0 (E m27) 27 [(0, .ref 100), (1, iv p1), (2, iv x1), (3, iv v3_27)] []) (fun _ _ _ h9 => nomatch h9) (fun w27 ih27 v3_27 m27 hv3_27 H => ?_) n _ _ (inR_lit _ rfl) H)
  refine aw_iload_n (pc := 27) dX11_added_27 rfl ?_
  refine aw_aload_n (pc := 28) dX11_added_28 rfl ?_
  refine cx_gtF (pc := 29) hE r100 fl_X11_9 rfl rfl (Nat.le_of_ble_eq_true rfl) dX11_added_29 H (fun x29 hx29 H => ?_)
  refine cx_icmp_ge (pc := 32) 66 hv3_27 hx29 dX11_added_32 rfl H (fun H => ?_) (fun H => ?_)
  · -- 32: 35
    refine aw_aload_n (pc := 35) dX11_added_35 rfl ?_
    refine cx_gtC (pc := 36) 102 hE r100 fl_X11_35 rfl rfl (Nat.le_of_ble_eq_true rfl) dX11_added_36 ?_
    refine aw_aload_n (pc := 39) dX11_added_39 rfl ?_
    refine cx_gtF (pc := 40) hE r100 fl_X11_62 rfl rfl (Nat.le_of_ble_eq_true rfl) dX11_added_40 H (fun x40 hx40 H => ?_)
    refine aw_aload_n (pc := 43) dX11_added_43 rfl ?_
    refine cx_gtC (pc := 44) 120 hE r100 fl_X11_13 rfl rfl (Nat.le_of_ble_eq_true rfl) dX11_added_44 ?_
    refine aw_iload_n (pc := 47) dX11_added_47 rfl ?_
    refine cx_ldI (pc := 48) hE r120 hv3_27 dX11_added_48 H (fun x48 hx48 H => ?_)
    refine cx_stI (pc := 49) hE r102 hx40 dX11_added_49 H (fun m49 H => ?_)
    refine aw_aload_n (pc := 50) dX11_added_50 rfl ?_
    refine aw_dup (pc := 51) dX11_added_51 rfl ?_
    refine cx_gtF (pc := 52) hE r100 fl_X11_62 rfl rfl (Nat.le_of_ble_eq_true rfl) dX11_added_52 H (fun x52 hx52 H => ?_)
    refine cx_iconst (pc := 55) dX11_added_55 ?_
    refine cx_iadd (pc := 56) dX11_added_56 ?_
    refine cx_ptF (pc := 57) tyX11 hE r100 fl_X11_62 (fun r h => ⟨gty_X11 r h, by cases h; rfl⟩) rfl rfl rfl (Nat.le_of_ble_eq_true rfl) dX11_added_57 H (fun m57 H => ?_)
    refine cx_iinc (pc := 60) [(3, iv (w32 (v3_27 + 1))), (0, .ref 100), (1, iv p1), (2, iv x1)] dX11_added_60 rfl rfl (by decide) ?_
    refine aw_goto (pc := 63) 27 dX11_added_63 rfl ?_
    exact AW.sel [1, 2, 3, 0] rfl (ih27 _ _ (inR_w32 _) H)
  · -- 32: 66
    refine aw_aload_n (pc := 66) dX11_added_66 rfl ?_
    refine cx_gtC (pc := 67) 104 hE r100 fl_X11_26 rfl rfl (Nat.le_of_ble_eq_true rfl) dX11_added_67 ?_
    refine aw_iload_n (pc := 70) dX11_added_70 rfl ?_
    refine aw_aload_n (pc := 71) dX11_added_71 rfl ?_
    refine cx_gtF (pc := 72) hE r100 fl_X11_62 rfl rfl (Nat.le_of_ble_eq_true rfl) dX11_added_72 H (fun x72 hx72 H => ?_)
    refine cx_stI (pc := 75) hE r104 hx1 dX11_added_75 H (fun m75 H => ?_)
    refine cx_iconst (pc := 76) dX11_added_76 ?_
    refine aw_istore_n (pc := 77) [(3, iv 0), (0, .ref 100), (1, iv p1), (2, iv x1)] dX11_added_77 rfl (by decide) ?_
    refine AW.sel [1, 2, 3, 0] rfl (lp_ind (bot := fun _ _ => none) (fun (f9 : Int → Mem → Option Rz) => ∀ (v3_78 : Int) (m78 : Mem), inR v3_78 → f9 v3_78 m78 = some r → AW l D base sc RX11 yX11_added cX11_added 4 (some FieldType.int) 2 0 0 ad (E mi) (pI E r) 0 0 (E m78) 78 [(0, .ref 100), (1, iv p1), (2, iv x1), (3, iv v3_78)] []) (fun _ _ _ h9 => nomatch h9) (fun w78 ih78 v3_78 m78 hv3_78 H => ?_) n _ _ (inR_lit _ rfl) H)
    refine aw_iload_n (pc := 78) dX11_added_78 rfl ?_
    refine aw_aload_n (pc := 79) dX11_added_79 rfl ?_
    refine cx_gtF (pc := 80) hE r100 fl_X11_20 rfl rfl (Nat.le_of_ble_eq_true rfl) dX11_added_80 H (fun x80 hx80 H => ?_)
    refine cx_icmp_ge (pc := 83) 117 hv3_78 hx80 dX11_added_83 rfl H (fun H => ?_) (fun H => ?_)
    · -- 83: 86
      refine aw_aload_n (pc := 86) dX11_added_86 rfl ?_
      refine cx_gtC (pc := 87) 102 hE r100 fl_X11_35 rfl rfl (Nat.le_of_ble_eq_true rfl) dX11_added_87 ?_
      refine aw_aload_n (pc := 90) dX11_added_90 rfl ?_
      refine cx_gtF (pc := 91) hE r100 fl_X11_62 rfl rfl (Nat.le_of_ble_eq_true rfl) dX11_added_91 H (fun x91 hx91 H => ?_)
      refine aw_aload_n (pc := 94) dX11_added_94 rfl ?_
      refine cx_gtC (pc := 95) 121 hE r100 fl_X11_23 rfl rfl (Nat.le_of_ble_eq_true rfl) dX11_added_95 ?_
      refine aw_iload_n (pc := 98) dX11_added_98 rfl ?_
      refine cx_ldI (pc := 99) hE r121 hv3_78 dX11_added_99 H (fun x99 hx99 H => ?_)
      refine cx_stI (pc := 100) hE r102 hx91 dX11_added_100 H (fun m100 H => ?_)
      refine aw_aload_n (pc := 101) dX11_added_101 rfl ?_
      refine aw_dup (pc := 102) dX11_added_102 rfl ?_
      refine cx_gtF (pc := 103) hE r100 fl_X11_62 rfl rfl (Nat.le_of_ble_eq_true rfl) dX11_added_103 H (fun x103 hx103 H => ?_)
      refine cx_iconst (pc := 106) dX11_added_106 ?_
      refine cx_iadd (pc := 107) dX11_added_107 ?_
      refine cx_ptF (pc := 108) tyX11 hE r100 fl_X11_62 (fun r h => ⟨gty_X11 r h, by cases h; rfl⟩) rfl rfl rfl (Nat.le_of_ble_eq_true rfl) dX11_added_108 H (fun m108 H => ?_)
      refine cx_iinc (pc := 111) [(3, iv (w32 (v3_78 + 1))), (0, .ref 100), (1, iv p1), (2, iv x1)] dX11_added_111 rfl rfl (by decide) ?_
      refine aw_goto (pc := 114) 78 dX11_added_114 rfl ?_
      exact AW.sel [1, 2, 3, 0] rfl (ih78 _ _ (inR_w32 _) H)
    · -- 83: 117
      refine aw_aload_n (pc := 117) dX11_added_117 rfl ?_
      refine cx_gtC (pc := 118) 105 hE r100 fl_X11_32 rfl rfl (Nat.le_of_ble_eq_true rfl) dX11_added_118 ?_
      refine aw_iload_n (pc := 121) dX11_added_121 rfl ?_
      refine aw_aload_n (pc := 122) dX11_added_122 rfl ?_
      refine cx_gtF (pc := 123) hE r100 fl_X11_62 rfl rfl (Nat.le_of_ble_eq_true rfl) dX11_added_123 H (fun x123 hx123 H => ?_)
      refine cx_stI (pc := 126) hE r105 hx1 dX11_added_126 H (fun m126 H => ?_)
      refine aw_aload_n (pc := 127) dX11_added_127 rfl ?_
      refine cx_gtC (pc := 128) 115 hE r100 fl_X11_53 rfl rfl (Nat.le_of_ble_eq_true rfl) dX11_added_128 ?_
      refine aw_iload_n (pc := 131) dX11_added_131 rfl ?_
      refine aw_aload_n (pc := 132) dX11_added_132 rfl ?_
      refine cx_gtC (pc := 133) 114 hE r100 fl_X11_46 rfl rfl (Nat.le_of_ble_eq_true rfl) dX11_added_133 ?_
      refine aw_iload_n (pc := 136) dX11_added_136 rfl ?_
      refine cx_ldI (pc := 137) hE r114 hp1 dX11_added_137 H (fun x137 hx137 H => ?_)
      refine cx_stI (pc := 138) hE r115 hx1 dX11_added_138 H (fun m138 H => ?_)
      refine aw_aload_n (pc := 139) dX11_added_139 rfl ?_
      refine cx_gtC (pc := 140) 114 hE r100 fl_X11_46 rfl rfl (Nat.le_of_ble_eq_true rfl) dX11_added_140 ?_
      refine aw_iload_n (pc := 143) dX11_added_143 rfl ?_
      refine aw_iload_n (pc := 144) dX11_added_144 rfl ?_
      refine cx_iconst (pc := 145) dX11_added_145 ?_
      refine cx_iadd (pc := 146) dX11_added_146 ?_
      refine cx_stI (pc := 147) hE r114 hp1 dX11_added_147 H (fun m147 H => ?_)
      refine aw_aload_n (pc := 148) dX11_added_148 rfl ?_
      refine cx_gtC (pc := 149) 112 hE r100 fl_X11_65 rfl rfl (Nat.le_of_ble_eq_true rfl) dX11_added_149 ?_
      refine aw_iload_n (pc := 152) dX11_added_152 rfl ?_
      refine cx_iconst (pc := 153) dX11_added_153 ?_
      refine cx_stI (pc := 154) hE r112 hx1 dX11_added_154 H (fun m154 H => ?_)
      refine aw_aload_n (pc := 155) dX11_added_155 rfl ?_
      refine cx_gtC (pc := 156) 113 hE r100 fl_X11_68 rfl rfl (Nat.le_of_ble_eq_true rfl) dX11_added_156 ?_
      refine aw_iload_n (pc := 159) dX11_added_159 rfl ?_
      refine cx_iconst (pc := 160) dX11_added_160 ?_
      refine cx_stI (pc := 161) hE r113 hx1 dX11_added_161 H (fun m161 H => ?_)
      refine aw_aload_n (pc := 162) dX11_added_162 rfl ?_
      refine cx_gtC (pc := 163) 111 hE r100 fl_X11_71 rfl rfl (Nat.le_of_ble_eq_true rfl) dX11_added_163 ?_
      refine aw_iload_n (pc := 166) dX11_added_166 rfl ?_
      refine aw_aload_n (pc := 167) dX11_added_167 rfl ?_
      refine cx_gtC (pc := 168) 105 hE r100 fl_X11_32 rfl rfl (Nat.le_of_ble_eq_true rfl) dX11_added_168 ?_
      refine aw_iload_n (pc := 171) dX11_added_171 rfl ?_
      refine cx_ldI (pc := 172) hE r105 hx1 dX11_added_172 H (fun x172 hx172 H => ?_)
      refine aw_aload_n (pc := 173) dX11_added_173 rfl ?_
      refine cx_gtC (pc := 174) 103 hE r100 fl_X11_29 rfl rfl (Nat.le_of_ble_eq_true rfl) dX11_added_174 ?_
      refine aw_iload_n (pc := 177) dX11_added_177 rfl ?_
      refine cx_ldI (pc := 178) hE r103 hx1 dX11_added_178 H (fun x178 hx178 H => ?_)
      refine jn_ind (fun (f9 : Int → Mem → Option Rz) => ∀ (s0_187 : Int) (m187 : Mem), inR s0_187 → f9 s0_187 m187 = some r → AW l D base sc RX11 yX11_added cX11_added 4 (some FieldType.int) 2 0 0 ad (E mi) (pI E r) 0 0 (E m187) 187 [(0, .ref 100), (2, iv x1)] [iv s0_187, iv x1, .ref 111]) (fun s0_187 m187 hs0_187 H => ?_) (fun j187 hj187 H => ?_) H
      · -- 187
        refine cx_stZ (pc := 187) hE r111 hx1 dX11_added_187 H (fun m187 H => ?_)
        refine aw_aload_n (pc := 188) dX11_added_188 rfl ?_
        refine aw_iload_n (pc := 189) dX11_added_189 rfl ?_
        refine cx_callV (pc := 190) (P := pV) (dC := 0) (mcC := 0) (msC := 0) [iv x1] hE r100 (fun r1 H1 => s_X11_tellsBirthday l sc E R hE hR n x1 hx1 m187 r1 H1) ca_X11_75 rfl ⟨_, rfl, rfl⟩ rfl rfl (Nat.le_of_ble_eq_true rfl) (Nat.le_of_ble_eq_true rfl) (Nat.le_of_ble_eq_true rfl) (Nat.le_of_ble_eq_true rfl) dX11_added_190 H (fun x190 m190 v190 hh190 H hp => ?_)
        refine cx_backV hp ?_
        refine aw_aload_n (pc := 193) dX11_added_193 rfl ?_
        refine cx_gtC (pc := 194) 107 hE r100 fl_X11_79 rfl rfl (Nat.le_of_ble_eq_true rfl) dX11_added_194 ?_
        refine aw_iload_n (pc := 197) dX11_added_197 rfl ?_
        refine aw_aload_n (pc := 198) dX11_added_198 rfl ?_
        refine aw_iload_n (pc := 199) dX11_added_199 rfl ?_
        refine cx_callV (pc := 200) (P := pI) (dC := 0) (mcC := 0) (msC := 0) [iv x1] hE r100 (fun r1 H1 => s_X11_wholeAt l sc E R hE hR n x1 hx1 m190 r1 H1) ca_X11_82 rfl ⟨_, rfl, rfl⟩ rfl rfl (Nat.le_of_ble_eq_true rfl) (Nat.le_of_ble_eq_true rfl) (Nat.le_of_ble_eq_true rfl) (Nat.le_of_ble_eq_true rfl) dX11_added_200 H (fun x200 m200 v200 hh200 H hp => ?_)
        refine cx_backI hp (fun hx200 => ?_)
        refine cx_stI (pc := 203) hE r107 hx1 dX11_added_203 H (fun m203 H => ?_)
        refine aw_aload_n (pc := 204) dX11_added_204 rfl ?_
        refine cx_gtC (pc := 205) 108 hE r100 fl_X11_85 rfl rfl (Nat.le_of_ble_eq_true rfl) dX11_added_205 ?_
        refine aw_iload_n (pc := 208) dX11_added_208 rfl ?_
        refine aw_aload_n (pc := 209) dX11_added_209 rfl ?_
        refine aw_iload_n (pc := 210) dX11_added_210 rfl ?_
        refine cx_callV (pc := 211) (P := pI) (dC := 1) (mcC := 0) (msC := 0) [iv x1] hE r100 (fun r1 H1 => s_X11_heapAt l sc E R hE hR n x1 hx1 m203 r1 H1) ca_X11_88 rfl ⟨_, rfl, rfl⟩ rfl rfl (Nat.le_of_ble_eq_true rfl) (Nat.le_of_ble_eq_true rfl) (Nat.le_of_ble_eq_true rfl) (Nat.le_of_ble_eq_true rfl) dX11_added_211 H (fun x211 m211 v211 hh211 H hp => ?_)
        refine cx_backI hp (fun hx211 => ?_)
        refine cx_stI (pc := 214) hE r108 hx1 dX11_added_214 H (fun m214 H => ?_)
        refine aw_aload_n (pc := 215) dX11_added_215 rfl ?_
        refine cx_gtC (pc := 216) 110 hE r100 fl_X11_91 rfl rfl (Nat.le_of_ble_eq_true rfl) dX11_added_216 ?_
        refine aw_iload_n (pc := 219) dX11_added_219 rfl ?_
        refine aw_aload_n (pc := 220) dX11_added_220 rfl ?_
        refine aw_iload_n (pc := 221) dX11_added_221 rfl ?_
        refine cx_callV (pc := 222) (P := pI) (dC := 0) (mcC := 0) (msC := 0) [iv x1] hE r100 (fun r1 H1 => s_X11_isSmallAt l sc E R hE hR n x1 hx1 m214 r1 H1) ca_X11_94 rfl ⟨_, rfl, rfl⟩ rfl rfl (Nat.le_of_ble_eq_true rfl) (Nat.le_of_ble_eq_true rfl) (Nat.le_of_ble_eq_true rfl) (Nat.le_of_ble_eq_true rfl) dX11_added_222 H (fun x222 m222 v222 hh222 H hp => ?_)
        refine cx_backI hp (fun hx222 => ?_)
        refine cx_stZ (pc := 225) hE r110 hx1 dX11_added_225 H (fun m225 H => ?_)
        refine aw_aload_n (pc := 226) dX11_added_226 rfl ?_
        refine cx_gtC (pc := 227) 109 hE r100 fl_X11_97 rfl rfl (Nat.le_of_ble_eq_true rfl) dX11_added_227 ?_
        refine aw_iload_n (pc := 230) dX11_added_230 rfl ?_
        refine aw_aload_n (pc := 231) dX11_added_231 rfl ?_
        refine aw_iload_n (pc := 232) dX11_added_232 rfl ?_
        refine cx_callV (pc := 233) (P := pI) (dC := 1) (mcC := 0) (msC := 0) [iv x1] hE r100 (fun r1 H1 => s_X11_bytesAt l sc E R hE hR n x1 hx1 m225 r1 H1) ca_X11_100 rfl ⟨_, rfl, rfl⟩ rfl rfl (Nat.le_of_ble_eq_true rfl) (Nat.le_of_ble_eq_true rfl) (Nat.le_of_ble_eq_true rfl) (Nat.le_of_ble_eq_true rfl) dX11_added_233 H (fun x233 m233 v233 hh233 H hp => ?_)
        refine cx_backI hp (fun hx233 => ?_)
        refine cx_stI (pc := 236) hE r109 hx1 dX11_added_236 H (fun m236 H => ?_)
        refine aw_iload_n (pc := 237) dX11_added_237 rfl ?_
        exact cx_iret (pc := 238) hx1 rfl (Nat.le_of_ble_eq_true rfl) (Nat.le_of_ble_eq_true rfl) dX11_added_238 H
      refine cx_icmp_ne (pc := 179) 186 hx172 hx178 dX11_added_179 rfl H (fun H => ?_) (fun H => ?_)
      · -- 179: 182
        refine cx_iconst (pc := 182) dX11_added_182 ?_
        refine aw_goto (pc := 183) 187 dX11_added_183 rfl ?_
        exact AW.sel [0, 2] rfl (hj187 _ _ (inR_lit _ rfl) H)
      · -- 179: 186
        refine cx_iconst (pc := 186) dX11_added_186 ?_
        exact AW.sel [0, 2] rfl (hj187 _ _ (inR_lit _ rfl) H)
/-- X11 found ()I -/
def f_X11_found (n : Nat)  (mi : Mem) : Option Rz :=
  cal (f_X11_hash n mi) fun x1 m1 =>
  ldI m1 114 x1 fun x10 =>
  nm (w32 (x10 - 1)) fun z13 =>
  lp (F := Int → Mem → Option Rz) (fun _ _ => none) (fun w14 v2_14 m14 =>
    if v2_14 < 0 then (
      cal (f_X11_added n x1 m14) fun x42 m42 =>
      rt x42 m42
    ) else
    cal (f_X11_isAtHand n v2_14 m14) fun x20 m20 =>
    if x20 = 0 then (
      ldI m20 115 v2_14 fun x33 =>
      nm (w32 (x33 - 1)) fun z36 =>
      w14 z36 m20
    ) else
    rt v2_14 m20
  ) n z13 m1
set_option maxRecDepth 100000 in
set_option maxHeartbeats 4000000 in
theorem s_X11_found (l : Launch) (sc : g_S) (E : Mem → g_H) (R : Nat → Prop) (hE : LE E R) (hR : RRF R) (n : Nat)    (mi : Mem) (r : Rz) (H : f_X11_found n  mi = some r) : AMet l sc yX11_found cX11_found 3 (some FieldType.int) 3 0 0 [.ref 100] (E mi) (pI E r) := by
  have r100 : R 100 := hR 100 (Nat.le_of_ble_eq_true rfl) (Nat.le_of_ble_eq_true rfl)
  have r114 : R 114 := hR 114 (Nat.le_of_ble_eq_true rfl) (Nat.le_of_ble_eq_true rfl)
  have r115 : R 115 := hR 115 (Nat.le_of_ble_eq_true rfl) (Nat.le_of_ble_eq_true rfl)
  unfold f_X11_found at H
  refine AMet.of (own := RX11) (by decide +kernel) rfl (Nat.le_of_ble_eq_true rfl) [(0, .ref 100)] rfl (fun D base ad => ?_)
  refine aw_aload_n (pc := 0) dX11_found_0 rfl ?_
  refine cx_callV (pc := 1) (P := pI) (dC := 1) (mcC := 0) (msC := 0) [] hE r100 (fun r1 H1 => s_X11_hash l sc E R hE hR n mi r1 H1) ca_X11_42 rfl ⟨_, rfl, rfl⟩ rfl rfl (Nat.le_of_ble_eq_true rfl) (Nat.le_of_ble_eq_true rfl) (Nat.le_of_ble_eq_true rfl) (Nat.le_of_ble_eq_true rfl) dX11_found_1 H (fun x1 m1 v1 hh1 H hp => ?_)
  refine cx_backI hp (fun hx1 => ?_)
  refine aw_istore_n (pc := 4) [(1, iv x1), (0, .ref 100)] dX11_found_4 rfl (by decide) ?_
  refine aw_aload_n (pc := 5) dX11_found_5 rfl ?_
  refine cx_gtC (pc := 6) 114 hE r100 fl_X11_46 rfl rfl (Nat.le_of_ble_eq_true rfl) dX11_found_6 ?_
  refine aw_iload_n (pc := 9) dX11_found_9 rfl ?_
  refine cx_ldI (pc := 10) hE r114 hx1 dX11_found_10 H (fun x10 hx10 H => ?_)
  refine cx_iconst (pc := 11) dX11_found_11 ?_
  refine cx_isub (pc := 12) dX11_found_12 ?_
  refine cx_nm (inR_w32 _) H (fun z13 hz13 H => ?_)
  refine aw_istore_n (pc := 13) [(2, iv z13), (1, iv x1), (0, .ref 100)] dX11_found_13 rfl (by decide) ?_
  refine AW.sel [2, 1, 0] rfl (lp_ind (bot := fun _ _ => none) (fun (f9 : Int → Mem → Option Rz) => ∀ (v2_14 : Int) (m14 : Mem), inR v2_14 → f9 v2_14 m14 = some r → AW l D base sc RX11 yX11_found cX11_found 3 (some FieldType.int) 3 0 0 ad (E mi) (pI E r) 0 0 (E m14) 14 [(0, .ref 100), (1, iv x1), (2, iv v2_14)] []) (fun _ _ _ h9 => nomatch h9) (fun w14 ih14 v2_14 m14 hv2_14 H => ?_) n _ _ hz13 H)
  refine aw_iload_n (pc := 14) dX11_found_14 rfl ?_
  refine cx_if_lt (pc := 15) 40 hv2_14 dX11_found_15 rfl H (fun H => ?_) (fun H => ?_)
  · -- 15: 40
    refine aw_aload_n (pc := 40) dX11_found_40 rfl ?_
    refine aw_iload_n (pc := 41) dX11_found_41 rfl ?_
    refine cx_callV (pc := 42) (P := pI) (dC := 2) (mcC := 0) (msC := 0) [iv x1] hE r100 (fun r1 H1 => s_X11_added l sc E R hE hR n x1 hx1 m14 r1 H1) ca_X11_56 rfl ⟨_, rfl, rfl⟩ rfl rfl (Nat.le_of_ble_eq_true rfl) (Nat.le_of_ble_eq_true rfl) (Nat.le_of_ble_eq_true rfl) (Nat.le_of_ble_eq_true rfl) dX11_found_42 H (fun x42 m42 v42 hh42 H hp => ?_)
    refine cx_backI hp (fun hx42 => ?_)
    exact cx_iret (pc := 45) hx42 rfl (Nat.le_of_ble_eq_true rfl) (Nat.le_of_ble_eq_true rfl) dX11_found_45 H
  · -- 15: 18
    refine aw_aload_n (pc := 18) dX11_found_18 rfl ?_
    refine aw_iload_n (pc := 19) dX11_found_19 rfl ?_
    refine cx_callV (pc := 20) (P := pI) (dC := 1) (mcC := 0) (msC := 0) [iv v2_14] hE r100 (fun r1 H1 => s_X11_isAtHand l sc E R hE hR n v2_14 hv2_14 m14 r1 H1) ca_X11_49 rfl ⟨_, rfl, rfl⟩ rfl rfl (Nat.le_of_ble_eq_true rfl) (Nat.le_of_ble_eq_true rfl) (Nat.le_of_ble_eq_true rfl) (Nat.le_of_ble_eq_true rfl) dX11_found_20 H (fun x20 m20 v20 hh20 H hp => ?_)
    refine cx_backI hp (fun hx20 => ?_)
    refine cx_if_eq (pc := 23) 28 hx20 dX11_found_23 rfl H (fun H => ?_) (fun H => ?_)
    · -- 23: 28
      refine aw_aload_n (pc := 28) dX11_found_28 rfl ?_
      refine cx_gtC (pc := 29) 115 hE r100 fl_X11_53 rfl rfl (Nat.le_of_ble_eq_true rfl) dX11_found_29 ?_
      refine aw_iload_n (pc := 32) dX11_found_32 rfl ?_
      refine cx_ldI (pc := 33) hE r115 hv2_14 dX11_found_33 H (fun x33 hx33 H => ?_)
      refine cx_iconst (pc := 34) dX11_found_34 ?_
      refine cx_isub (pc := 35) dX11_found_35 ?_
      refine cx_nm (inR_w32 _) H (fun z36 hz36 H => ?_)
      refine aw_istore_n (pc := 36) [(2, iv z36), (0, .ref 100), (1, iv x1)] dX11_found_36 rfl (by decide) ?_
      refine aw_goto (pc := 37) 14 dX11_found_37 rfl ?_
      exact AW.sel [1, 2, 0] rfl (ih14 _ _ hz36 H)
    · -- 23: 26
      refine aw_iload_n (pc := 26) dX11_found_26 rfl ?_
      exact cx_iret (pc := 27) hv2_14 rfl (Nat.le_of_ble_eq_true rfl) (Nat.le_of_ble_eq_true rfl) dX11_found_27 H
/-- X11 atMost (II)Z -/
def b_X11_atMost (n : Nat) (g_X11_atMost : (Int → Int → Mem → Option Rz)) (g_X11_isAtMost : (Int → Int → Mem → Option Rz)) (p1 : Int) (p2 : Int) (mi : Mem) : Option Rz :=
  if p1 = p2 then (
    rtZ 1 mi
  ) else
  nm (w32 ((w32 ((w32 (p1 * 16000)) + p2)) + 1)) fun z16 =>
  cal (f_X11_spread n z16 mi) fun x18 m18 =>
  nm (iand x18 65535) fun z24 =>
  ldI m18 116 z24 fun x32 =>
  if x32 = z16 then (
    ldZ m18 117 z24 fun x43 =>
    rtZ x43 m18
  ) else
  cal (g_X11_isAtMost p1 p2 m18) fun x48 m48 =>
  stI m48 116 z24 z16 fun m60 =>
  stZ m60 117 z24 x48 fun m69 =>
  rtZ x48 m69
/-- X11 isAtMost (II)Z -/
def b_X11_isAtMost (n : Nat) (g_X11_atMost : (Int → Int → Mem → Option Rz)) (g_X11_isAtMost : (Int → Int → Mem → Option Rz)) (p1 : Int) (p2 : Int) (mi : Mem) : Option Rz :=
  ldI mi 103 p1 fun x7 =>
  lp (F := Int → Int → Mem → Option Rz) (fun _ _ _ => none) (fun w10 v3_10 v4_10 m10 =>
    ldI m10 104 p1 fun x17 =>
    jn (fun (m52 : Mem) =>
      ldI m52 104 p2 fun x57 =>
      lp (F := Int → Int → Mem → Option Rz) (fun _ _ _ => none) (fun w60 v3_60 v4_60 m60 =>
        ldI m60 105 p2 fun x67 =>
        jn (fun (m102 : Mem) =>
          rtZ v3_60 m102
        ) fun (j102 : Mem → Option Rz) =>
        if v4_60 < x67 then (
          if v3_60 = 0 then (
            j102 m60
          ) else
          ldI m60 102 v4_60 fun x82 =>
          cal (g_X11_atMost x82 p1 m60) fun x84 m84 =>
          jn (fun (s0_95 : Int) (m95 : Mem) =>
            w60 s0_95 (w32 (v4_60 + 1)) m95
          ) fun (j95 : Int → Mem → Option Rz) =>
          if x84 = 0 then (
            j95 1 m84
          ) else
          j95 0 m84
        ) else
        j102 m60
      ) n v3_10 x57 m52
    ) fun (j52 : Mem → Option Rz) =>
    if v4_10 < x17 then (
      if v3_10 = 0 then (
        j52 m10
      ) else
      ldI m10 102 v4_10 fun x33 =>
      cal (g_X11_atMost p2 x33 m10) fun x34 m34 =>
      jn (fun (s0_45 : Int) (m45 : Mem) =>
        w10 s0_45 (w32 (v4_10 + 1)) m45
      ) fun (j45 : Int → Mem → Option Rz) =>
      if x34 = 0 then (
        j45 1 m34
      ) else
      j45 0 m34
    ) else
    j52 m10
  ) n 1 x7 mi
def t_X11_atMost (n : Nat) : Nat → (Int → Int → Mem → Option Rz) × (Int → Int → Mem → Option Rz)
  | 0 => (fun _ _ _ => none, fun _ _ _ => none)
  | d + 1 => (b_X11_atMost n (t_X11_atMost n d).1 (t_X11_atMost n d).2, b_X11_isAtMost n (t_X11_atMost n d).1 (t_X11_atMost n d).2)
def h_X11_atMost (n d : Nat) : (Int → Int → Mem → Option Rz) := (t_X11_atMost n d).1
def f_X11_atMost (n : Nat) : (Int → Int → Mem → Option Rz) := h_X11_atMost n 200
def h_X11_isAtMost (n d : Nat) : (Int → Int → Mem → Option Rz) := (t_X11_atMost n d).2
def f_X11_isAtMost (n : Nat) : (Int → Int → Mem → Option Rz) := h_X11_isAtMost n 200
theorem h_X11_atMost_s (n d : Nat) (p1 : Int) (p2 : Int) (m : Mem) : h_X11_atMost n (d + 1) p1 p2 m = b_X11_atMost n (h_X11_atMost n d) (h_X11_isAtMost n d) p1 p2 m := rfl
theorem h_X11_atMost_0 (n : Nat) (p1 : Int) (p2 : Int) (m : Mem) : h_X11_atMost n 0 p1 p2 m = none := rfl
theorem h_X11_isAtMost_s (n d : Nat) (p1 : Int) (p2 : Int) (m : Mem) : h_X11_isAtMost n (d + 1) p1 p2 m = b_X11_isAtMost n (h_X11_atMost n d) (h_X11_isAtMost n d) p1 p2 m := rfl
theorem h_X11_isAtMost_0 (n : Nat) (p1 : Int) (p2 : Int) (m : Mem) : h_X11_isAtMost n 0 p1 p2 m = none := rfl
def q_X11_atMost (l : Launch) (sc : g_S) (E : Mem → g_H) (R : Nat → Prop) (dd : Nat) (g : (Int → Int → Mem → Option Rz)) : Prop := ∀ (p1 : Int) (p2 : Int) (m : Mem) (hp1 : inR p1) (hp2 : inR p2) (r : Rz) (H : g p1 p2 m = some r), AMet l sc yX11_atMost cX11_atMost 6 (some FieldType.boolean) dd 0 0 [.ref 100, iv p1, iv p2] (E m) (pI E r)
def q_X11_isAtMost (l : Launch) (sc : g_S) (E : Mem → g_H) (R : Nat → Prop) (dd : Nat) (g : (Int → Int → Mem → Option Rz)) : Prop := ∀ (p1 : Int) (p2 : Int) (m : Mem) (hp1 : inR p1) (hp2 : inR p2) (r : Rz) (H : g p1 p2 m = some r), AMet l sc yX11_isAtMost cX11_isAtMost 5 (some FieldType.boolean) dd 0 0 [.ref 100, iv p1, iv p2] (E m) (pI E r)
set_option maxRecDepth 100000 in
set_option maxHeartbeats 4000000 in
theorem sb_X11_atMost (l : Launch) (sc : g_S) (E : Mem → g_H) (R : Nat → Prop) (hE : LE E R) (hR : RRF R) (n : Nat) (dd : Nat) (hdd : 1 ≤ dd) (g_X11_atMost : (Int → Int → Mem → Option Rz)) (g_X11_isAtMost : (Int → Int → Mem → Option Rz)) (hg_X11_atMost : q_X11_atMost l sc E R dd g_X11_atMost) (hg_X11_isAtMost : q_X11_isAtMost l sc E R dd g_X11_isAtMost) (p1 : Int) (p2 : Int) (mi : Mem) (hp1 : inR p1) (hp2 : inR p2) (r : Rz) (H : b_X11_atMost n g_X11_atMost g_X11_isAtMost p1 p2 mi = some r) : AMet l sc yX11_atMost cX11_atMost 6 (some FieldType.boolean) (dd + 1) 0 0 [.ref 100, iv p1, iv p2] (E mi) (pI E r) := by
  have r100 : R 100 := hR 100 (Nat.le_of_ble_eq_true rfl) (Nat.le_of_ble_eq_true rfl)
  have r116 : R 116 := hR 116 (Nat.le_of_ble_eq_true rfl) (Nat.le_of_ble_eq_true rfl)
  have r117 : R 117 := hR 117 (Nat.le_of_ble_eq_true rfl) (Nat.le_of_ble_eq_true rfl)
  unfold b_X11_atMost at H
  refine AMet.of (own := RX11) (by decide +kernel) rfl (Nat.le_of_ble_eq_true rfl) [(0, .ref 100), (1, iv p1), (2, iv p2)] rfl (fun D base ad => ?_)
  refine aw_iload_n (pc := 0) dX11_atMost_0 rfl ?_
  refine aw_iload_n (pc := 1) dX11_atMost_1 rfl ?_
  refine cx_icmp_ne (pc := 2) 7 hp1 hp2 dX11_atMost_2 rfl H (fun H => ?_) (fun H => ?_)
  · -- 2: 5
    refine cx_iconst (pc := 5) dX11_atMost_5 ?_
    exact cx_zret (pc := 6) rfl (Nat.le_of_ble_eq_true rfl) (Nat.le_of_ble_eq_true rfl) dX11_atMost_6 H
  · -- 2: 7
    refine aw_iload_n (pc := 7) dX11_atMost_7 rfl ?_
    refine cx_sipush (pc := 8) dX11_atMost_8 (by decide) ?_
    refine cx_imul (pc := 11) dX11_atMost_11 ?_
    refine aw_iload_n (pc := 12) dX11_atMost_12 rfl ?_
    refine cx_iadd (pc := 13) dX11_atMost_13 ?_
    refine cx_iconst (pc := 14) dX11_atMost_14 ?_
    refine cx_iadd (pc := 15) dX11_atMost_15 ?_
    refine cx_nm (inR_w32 _) H (fun z16 hz16 H => ?_)
    refine aw_istore_n (pc := 16) [(3, iv z16), (0, .ref 100), (1, iv p1), (2, iv p2)] dX11_atMost_16 rfl (by decide) ?_
    refine aw_iload_n (pc := 17) dX11_atMost_17 rfl ?_
    refine cx_callS (pc := 18) (P := pI) (dC := 0) (mcC := 0) (msC := 0) [iv z16] (fun r1 H1 => s_X11_spread l sc E R hE hR n z16 hz16 mi r1 H1) ca_X11_16 rfl rfl (by omega) (Nat.le_of_ble_eq_true rfl) (Nat.le_of_ble_eq_true rfl) (Nat.le_of_ble_eq_true rfl) dX11_atMost_18 H (fun x18 m18 v18 hh18 H hp => ?_)
    refine cx_backI hp (fun hx18 => ?_)
    refine cx_ldc (pc := 21) 65535 dX11_atMost_21 ct_X11_118 (by decide) ?_
    refine cx_iand (pc := 23) dX11_atMost_23 ?_
    refine cx_nm (inR_32 _) H (fun z24 hz24 H => ?_)
    refine aw_istore (pc := 24) [(4, iv z24), (3, iv z16), (0, .ref 100), (1, iv p1), (2, iv p2)] dX11_atMost_24 rfl (by decide) ?_
    refine aw_aload_n (pc := 26) dX11_atMost_26 rfl ?_
    refine cx_gtC (pc := 27) 116 hE r100 fl_X11_119 rfl rfl (Nat.le_of_ble_eq_true rfl) dX11_atMost_27 ?_
    refine aw_iload (pc := 30) dX11_atMost_30 rfl ?_
    refine cx_ldI (pc := 32) hE r116 hz24 dX11_atMost_32 H (fun x32 hx32 H => ?_)
    refine aw_iload_n (pc := 33) dX11_atMost_33 rfl ?_
    refine cx_icmp_ne (pc := 34) 45 hx32 hz16 dX11_atMost_34 rfl H (fun H => ?_) (fun H => ?_)
    · -- 34: 37
      refine aw_aload_n (pc := 37) dX11_atMost_37 rfl ?_
      refine cx_gtC (pc := 38) 117 hE r100 fl_X11_122 rfl rfl (Nat.le_of_ble_eq_true rfl) dX11_atMost_38 ?_
      refine aw_iload (pc := 41) dX11_atMost_41 rfl ?_
      refine cx_ldZ (pc := 43) hE r117 hz24 dX11_atMost_43 H (fun x43 hx43 H => ?_)
      exact cx_zret (pc := 44) rfl (Nat.le_of_ble_eq_true rfl) (Nat.le_of_ble_eq_true rfl) dX11_atMost_44 H
    · -- 34: 45
      refine aw_aload_n (pc := 45) dX11_atMost_45 rfl ?_
      refine aw_iload_n (pc := 46) dX11_atMost_46 rfl ?_
      refine aw_iload_n (pc := 47) dX11_atMost_47 rfl ?_
      refine cx_callV (pc := 48) (P := pI) (dC := dd) (mcC := 0) (msC := 0) [iv p1, iv p2] hE r100 (fun r1 H1 => hg_X11_isAtMost p1 p2 m18 hp1 hp2 r1 H1) ca_X11_125 rfl ⟨_, rfl, rfl⟩ rfl rfl (by omega) (Nat.le_of_ble_eq_true rfl) (Nat.le_of_ble_eq_true rfl) (Nat.le_of_ble_eq_true rfl) dX11_atMost_48 H (fun x48 m48 v48 hh48 H hp => ?_)
      refine cx_backI hp (fun hx48 => ?_)
      refine aw_istore (pc := 51) [(5, iv x48), (4, iv z24), (3, iv z16), (0, .ref 100), (1, iv p1), (2, iv p2)] dX11_atMost_51 rfl (by decide) ?_
      refine aw_aload_n (pc := 53) dX11_atMost_53 rfl ?_
      refine cx_gtC (pc := 54) 116 hE r100 fl_X11_119 rfl rfl (Nat.le_of_ble_eq_true rfl) dX11_atMost_54 ?_
      refine aw_iload (pc := 57) dX11_atMost_57 rfl ?_
      refine aw_iload_n (pc := 59) dX11_atMost_59 rfl ?_
      refine cx_stI (pc := 60) hE r116 hz24 dX11_atMost_60 H (fun m60 H => ?_)
      refine aw_aload_n (pc := 61) dX11_atMost_61 rfl ?_
      refine cx_gtC (pc := 62) 117 hE r100 fl_X11_122 rfl rfl (Nat.le_of_ble_eq_true rfl) dX11_atMost_62 ?_
      refine aw_iload (pc := 65) dX11_atMost_65 rfl ?_
      refine aw_iload (pc := 67) dX11_atMost_67 rfl ?_
      refine cx_stZ (pc := 69) hE r117 hz24 dX11_atMost_69 H (fun m69 H => ?_)
      refine aw_iload (pc := 70) dX11_atMost_70 rfl ?_
      exact cx_zret (pc := 72) rfl (Nat.le_of_ble_eq_true rfl) (Nat.le_of_ble_eq_true rfl) dX11_atMost_72 H
set_option maxRecDepth 100000 in
set_option maxHeartbeats 4000000 in
theorem sb_X11_isAtMost (l : Launch) (sc : g_S) (E : Mem → g_H) (R : Nat → Prop) (hE : LE E R) (hR : RRF R) (n : Nat) (dd : Nat) (hdd : 1 ≤ dd) (g_X11_atMost : (Int → Int → Mem → Option Rz)) (g_X11_isAtMost : (Int → Int → Mem → Option Rz)) (hg_X11_atMost : q_X11_atMost l sc E R dd g_X11_atMost) (hg_X11_isAtMost : q_X11_isAtMost l sc E R dd g_X11_isAtMost) (p1 : Int) (p2 : Int) (mi : Mem) (hp1 : inR p1) (hp2 : inR p2) (r : Rz) (H : b_X11_isAtMost n g_X11_atMost g_X11_isAtMost p1 p2 mi = some r) : AMet l sc yX11_isAtMost cX11_isAtMost 5 (some FieldType.boolean) (dd + 1) 0 0 [.ref 100, iv p1, iv p2] (E mi) (pI E r) := by
  have r100 : R 100 := hR 100 (Nat.le_of_ble_eq_true rfl) (Nat.le_of_ble_eq_true rfl)
  have r102 : R 102 := hR 102 (Nat.le_of_ble_eq_true rfl) (Nat.le_of_ble_eq_true rfl)
  have r103 : R 103 := hR 103 (Nat.le_of_ble_eq_true rfl) (Nat.le_of_ble_eq_true rfl)
  have r104 : R 104 := hR 104 (Nat.le_of_ble_eq_true rfl) (Nat.le_of_ble_eq_true rfl)
  have r105 : R 105 := hR 105 (Nat.le_of_ble_eq_true rfl) (Nat.le_of_ble_eq_true rfl)
  unfold b_X11_isAtMost at H
  refine AMet.of (own := RX11) (by decide +kernel) rfl (Nat.le_of_ble_eq_true rfl) [(0, .ref 100), (1, iv p1), (2, iv p2)] rfl (fun D base ad => ?_)
  refine cx_iconst (pc := 0) dX11_isAtMost_0 ?_
  refine aw_istore_n (pc := 1) [(3, iv 1), (0, .ref 100), (1, iv p1), (2, iv p2)] dX11_isAtMost_1 rfl (by decide) ?_
  refine aw_aload_n (pc := 2) dX11_isAtMost_2 rfl ?_
  refine cx_gtC (pc := 3) 103 hE r100 fl_X11_29 rfl rfl (Nat.le_of_ble_eq_true rfl) dX11_isAtMost_3 ?_
  refine aw_iload_n (pc := 6) dX11_isAtMost_6 rfl ?_
  refine cx_ldI (pc := 7) hE r103 hp1 dX11_isAtMost_7 H (fun x7 hx7 H => ?_)
  refine aw_istore (pc := 8) [(4, iv x7), (3, iv 1), (0, .ref 100), (1, iv p1), (2, iv p2)] dX11_isAtMost_8 rfl (by decide) ?_
  refine AW.sel [2, 3, 4, 1, 0] rfl (lp_ind (bot := fun _ _ _ => none) (fun (f9 : Int → Int → Mem → Option Rz) => ∀ (v3_10 : Int) (v4_10 : Int) (m10 : Mem), inR v3_10 → inR v4_10 → f9 v3_10 v4_10 m10 = some r → AW l D base sc RX11 yX11_isAtMost cX11_isAtMost 5 (some FieldType.boolean) (dd + 1) 0 0 ad (E mi) (pI E r) 0 0 (E m10) 10 [(0, .ref 100), (1, iv p1), (2, iv p2), (3, iv v3_10), (4, iv v4_10)] []) (fun _ _ _ _ _ h9 => nomatch h9) (fun w10 ih10 v3_10 v4_10 m10 hv3_10 hv4_10 H => ?_) n _ _ _ (inR_lit _ rfl) hx7 H)
  refine aw_iload (pc := 10) dX11_isAtMost_10 rfl ?_
  refine aw_aload_n (pc := 12) dX11_isAtMost_12 rfl ?_
  refine cx_gtC (pc := 13) 104 hE r100 fl_X11_26 rfl rfl (Nat.le_of_ble_eq_true rfl) dX11_isAtMost_13 ?_
  refine aw_iload_n (pc := 16) dX11_isAtMost_16 rfl ?_
  refine cx_ldI (pc := 17) hE r104 hp1 dX11_isAtMost_17 H (fun x17 hx17 H => ?_)
  refine jn_ind (fun (f9 : Mem → Option Rz) => ∀ (m52 : Mem), f9 m52 = some r → AW l D base sc RX11 yX11_isAtMost cX11_isAtMost 5 (some FieldType.boolean) (dd + 1) 0 0 ad (E mi) (pI E r) 0 0 (E m52) 52 [(0, .ref 100), (1, iv p1), (2, iv p2), (3, iv v3_10)] []) (fun m52 H => ?_) (fun j52 hj52 H => ?_) H
  · -- 52
    refine aw_aload_n (pc := 52) dX11_isAtMost_52 rfl ?_
    refine cx_gtC (pc := 53) 104 hE r100 fl_X11_26 rfl rfl (Nat.le_of_ble_eq_true rfl) dX11_isAtMost_53 ?_
    refine aw_iload_n (pc := 56) dX11_isAtMost_56 rfl ?_
    refine cx_ldI (pc := 57) hE r104 hp2 dX11_isAtMost_57 H (fun x57 hx57 H => ?_)
    refine aw_istore (pc := 58) [(4, iv x57), (0, .ref 100), (1, iv p1), (2, iv p2), (3, iv v3_10)] dX11_isAtMost_58 rfl (by decide) ?_
    refine AW.sel [1, 2, 3, 4, 0] rfl (lp_ind (bot := fun _ _ _ => none) (fun (f9 : Int → Int → Mem → Option Rz) => ∀ (v3_60 : Int) (v4_60 : Int) (m60 : Mem), inR v3_60 → inR v4_60 → f9 v3_60 v4_60 m60 = some r → AW l D base sc RX11 yX11_isAtMost cX11_isAtMost 5 (some FieldType.boolean) (dd + 1) 0 0 ad (E mi) (pI E r) 0 0 (E m60) 60 [(0, .ref 100), (1, iv p1), (2, iv p2), (3, iv v3_60), (4, iv v4_60)] []) (fun _ _ _ _ _ h9 => nomatch h9) (fun w60 ih60 v3_60 v4_60 m60 hv3_60 hv4_60 H => ?_) n _ _ _ hv3_10 hx57 H)
    refine aw_iload (pc := 60) dX11_isAtMost_60 rfl ?_
    refine aw_aload_n (pc := 62) dX11_isAtMost_62 rfl ?_
    refine cx_gtC (pc := 63) 105 hE r100 fl_X11_32 rfl rfl (Nat.le_of_ble_eq_true rfl) dX11_isAtMost_63 ?_
    refine aw_iload_n (pc := 66) dX11_isAtMost_66 rfl ?_
    refine cx_ldI (pc := 67) hE r105 hp2 dX11_isAtMost_67 H (fun x67 hx67 H => ?_)
    refine jn_ind (fun (f9 : Mem → Option Rz) => ∀ (m102 : Mem), f9 m102 = some r → AW l D base sc RX11 yX11_isAtMost cX11_isAtMost 5 (some FieldType.boolean) (dd + 1) 0 0 ad (E mi) (pI E r) 0 0 (E m102) 102 [(3, iv v3_60)] []) (fun m102 H => ?_) (fun j102 hj102 H => ?_) H
    · -- 102
      refine aw_iload_n (pc := 102) dX11_isAtMost_102 rfl ?_
      exact cx_zret (pc := 103) rfl (Nat.le_of_ble_eq_true rfl) (Nat.le_of_ble_eq_true rfl) dX11_isAtMost_103 H
    refine cx_icmp_ge (pc := 68) 102 hv4_60 hx67 dX11_isAtMost_68 rfl H (fun H => ?_) (fun H => ?_)
    · -- 68: 71
      refine aw_iload_n (pc := 71) dX11_isAtMost_71 rfl ?_
      refine cx_if_eq (pc := 72) 102 hv3_60 dX11_isAtMost_72 rfl H (fun H => ?_) (fun H => ?_)
      · -- 72: 102
        exact AW.sel [3] rfl (hj102 _ H)
      · -- 72: 75
        refine aw_aload_n (pc := 75) dX11_isAtMost_75 rfl ?_
        refine aw_aload_n (pc := 76) dX11_isAtMost_76 rfl ?_
        refine cx_gtC (pc := 77) 102 hE r100 fl_X11_35 rfl rfl (Nat.le_of_ble_eq_true rfl) dX11_isAtMost_77 ?_
        refine aw_iload (pc := 80) dX11_isAtMost_80 rfl ?_
        refine cx_ldI (pc := 82) hE r102 hv4_60 dX11_isAtMost_82 H (fun x82 hx82 H => ?_)
        refine aw_iload_n (pc := 83) dX11_isAtMost_83 rfl ?_
        refine cx_callV (pc := 84) (P := pI) (dC := dd) (mcC := 0) (msC := 0) [iv x82, iv p1] hE r100 (fun r1 H1 => hg_X11_atMost x82 p1 m60 hx82 hp1 r1 H1) ca_X11_114 rfl ⟨_, rfl, rfl⟩ rfl rfl (by omega) (Nat.le_of_ble_eq_true rfl) (Nat.le_of_ble_eq_true rfl) (Nat.le_of_ble_eq_true rfl) dX11_isAtMost_84 H (fun x84 m84 v84 hh84 H hp => ?_)
        refine cx_backI hp (fun hx84 => ?_)
        refine jn_ind (fun (f9 : Int → Mem → Option Rz) => ∀ (s0_95 : Int) (m95 : Mem), inR s0_95 → f9 s0_95 m95 = some r → AW l D base sc RX11 yX11_isAtMost cX11_isAtMost 5 (some FieldType.boolean) (dd + 1) 0 0 ad (E mi) (pI E r) 0 0 (E m95) 95 [(0, .ref 100), (1, iv p1), (2, iv p2), (4, iv v4_60)] [iv s0_95]) (fun s0_95 m95 hs0_95 H => ?_) (fun j95 hj95 H => ?_) H
        · -- 95
          refine aw_istore_n (pc := 95) [(3, iv s0_95), (0, .ref 100), (1, iv p1), (2, iv p2), (4, iv v4_60)] dX11_isAtMost_95 rfl (by decide) ?_
          refine cx_iinc (pc := 96) [(4, iv (w32 (v4_60 + 1))), (3, iv s0_95), (0, .ref 100), (1, iv p1), (2, iv p2)] dX11_isAtMost_96 rfl rfl (by decide) ?_
          refine aw_goto (pc := 99) 60 dX11_isAtMost_99 rfl ?_
          exact AW.sel [2, 3, 4, 1, 0] rfl (ih60 _ _ _ hs0_95 (inR_w32 _) H)
        refine cx_if_ne (pc := 87) 94 hx84 dX11_isAtMost_87 rfl H (fun H => ?_) (fun H => ?_)
        · -- 87: 90
          refine cx_iconst (pc := 90) dX11_isAtMost_90 ?_
          refine aw_goto (pc := 91) 95 dX11_isAtMost_91 rfl ?_
          exact AW.sel [0, 1, 2, 4] rfl (hj95 _ _ (inR_lit _ rfl) H)
        · -- 87: 94
          refine cx_iconst (pc := 94) dX11_isAtMost_94 ?_
          exact AW.sel [0, 1, 2, 4] rfl (hj95 _ _ (inR_lit _ rfl) H)
    · -- 68: 102
      exact AW.sel [3] rfl (hj102 _ H)
  refine cx_icmp_ge (pc := 18) 52 hv4_10 hx17 dX11_isAtMost_18 rfl H (fun H => ?_) (fun H => ?_)
  · -- 18: 21
    refine aw_iload_n (pc := 21) dX11_isAtMost_21 rfl ?_
    refine cx_if_eq (pc := 22) 52 hv3_10 dX11_isAtMost_22 rfl H (fun H => ?_) (fun H => ?_)
    · -- 22: 52
      exact AW.sel [0, 1, 2, 3] rfl (hj52 _ H)
    · -- 22: 25
      refine aw_aload_n (pc := 25) dX11_isAtMost_25 rfl ?_
      refine aw_iload_n (pc := 26) dX11_isAtMost_26 rfl ?_
      refine aw_aload_n (pc := 27) dX11_isAtMost_27 rfl ?_
      refine cx_gtC (pc := 28) 102 hE r100 fl_X11_35 rfl rfl (Nat.le_of_ble_eq_true rfl) dX11_isAtMost_28 ?_
      refine aw_iload (pc := 31) dX11_isAtMost_31 rfl ?_
      refine cx_ldI (pc := 33) hE r102 hv4_10 dX11_isAtMost_33 H (fun x33 hx33 H => ?_)
      refine cx_callV (pc := 34) (P := pI) (dC := dd) (mcC := 0) (msC := 0) [iv p2, iv x33] hE r100 (fun r1 H1 => hg_X11_atMost p2 x33 m10 hp2 hx33 r1 H1) ca_X11_114 rfl ⟨_, rfl, rfl⟩ rfl rfl (by omega) (Nat.le_of_ble_eq_true rfl) (Nat.le_of_ble_eq_true rfl) (Nat.le_of_ble_eq_true rfl) dX11_isAtMost_34 H (fun x34 m34 v34 hh34 H hp => ?_)
      refine cx_backI hp (fun hx34 => ?_)
      refine jn_ind (fun (f9 : Int → Mem → Option Rz) => ∀ (s0_45 : Int) (m45 : Mem), inR s0_45 → f9 s0_45 m45 = some r → AW l D base sc RX11 yX11_isAtMost cX11_isAtMost 5 (some FieldType.boolean) (dd + 1) 0 0 ad (E mi) (pI E r) 0 0 (E m45) 45 [(0, .ref 100), (1, iv p1), (2, iv p2), (4, iv v4_10)] [iv s0_45]) (fun s0_45 m45 hs0_45 H => ?_) (fun j45 hj45 H => ?_) H
      · -- 45
        refine aw_istore_n (pc := 45) [(3, iv s0_45), (0, .ref 100), (1, iv p1), (2, iv p2), (4, iv v4_10)] dX11_isAtMost_45 rfl (by decide) ?_
        refine cx_iinc (pc := 46) [(4, iv (w32 (v4_10 + 1))), (3, iv s0_45), (0, .ref 100), (1, iv p1), (2, iv p2)] dX11_isAtMost_46 rfl rfl (by decide) ?_
        refine aw_goto (pc := 49) 10 dX11_isAtMost_49 rfl ?_
        exact AW.sel [2, 3, 4, 1, 0] rfl (ih10 _ _ _ hs0_45 (inR_w32 _) H)
      refine cx_if_ne (pc := 37) 44 hx34 dX11_isAtMost_37 rfl H (fun H => ?_) (fun H => ?_)
      · -- 37: 40
        refine cx_iconst (pc := 40) dX11_isAtMost_40 ?_
        refine aw_goto (pc := 41) 45 dX11_isAtMost_41 rfl ?_
        exact AW.sel [0, 1, 2, 4] rfl (hj45 _ _ (inR_lit _ rfl) H)
      · -- 37: 44
        refine cx_iconst (pc := 44) dX11_isAtMost_44 ?_
        exact AW.sel [0, 1, 2, 4] rfl (hj45 _ _ (inR_lit _ rfl) H)
  · -- 18: 52
    exact AW.sel [0, 1, 2, 3] rfl (hj52 _ H)
theorem sa_X11_atMost (l : Launch) (sc : g_S) (E : Mem → g_H) (R : Nat → Prop) (hE : LE E R) (hR : RRF R) (n : Nat) : ∀ dp, q_X11_atMost l sc E R (1 + dp) (h_X11_atMost n dp) ∧ q_X11_isAtMost l sc E R (1 + dp) (h_X11_isAtMost n dp)
  | 0 => ⟨(fun _ _ _ _ _ _ H => nomatch H), (fun _ _ _ _ _ _ H => nomatch H)⟩
  | dp + 1 => by
    have ih := sa_X11_atMost l sc E R hE hR n dp
    refine ⟨?_, ?_⟩
    · exact fun p1 p2 m hp1 hp2 r H => sb_X11_atMost l sc E R hE hR n (1 + dp) (Nat.le_add_right _ _) _ _ ih.1 ih.2 p1 p2 m hp1 hp2 r H
    · exact fun p1 p2 m hp1 hp2 r H => sb_X11_isAtMost l sc E R hE hR n (1 + dp) (Nat.le_add_right _ _) _ _ ih.1 ih.2 p1 p2 m hp1 hp2 r H
theorem s_X11_atMost (l : Launch) (sc : g_S) (E : Mem → g_H) (R : Nat → Prop) (hE : LE E R) (hR : RRF R) (n : Nat) (p1 : Int) (p2 : Int) (hp1 : inR p1) (hp2 : inR p2) (m : Mem) (r : Rz) (H : f_X11_atMost n p1 p2 m = some r) : AMet l sc yX11_atMost cX11_atMost 6 (some FieldType.boolean) 201 0 0 [.ref 100, iv p1, iv p2] (E m) (pI E r) := (sa_X11_atMost l sc E R hE hR n 200).1 p1 p2 m hp1 hp2 r H
theorem s_X11_isAtMost (l : Launch) (sc : g_S) (E : Mem → g_H) (R : Nat → Prop) (hE : LE E R) (hR : RRF R) (n : Nat) (p1 : Int) (p2 : Int) (hp1 : inR p1) (hp2 : inR p2) (m : Mem) (r : Rz) (H : f_X11_isAtMost n p1 p2 m = some r) : AMet l sc yX11_isAtMost cX11_isAtMost 5 (some FieldType.boolean) 201 0 0 [.ref 100, iv p1, iv p2] (E m) (pI E r) := (sa_X11_atMost l sc E R hE hR n 200).2 p1 p2 m hp1 hp2 r H
/-- X11 orderOf (II)I -/
def f_X11_orderOf (n : Nat) (p1 : Int) (p2 : Int) (mi : Mem) : Option Rz :=
  if p1 = p2 then (
    rt 0 mi
  ) else
  cal (f_X11_atMost n p1 p2 mi) fun x10 m10 =>
  jn (fun (s0_34 : Int) (m34 : Mem) =>
    rt s0_34 m34
  ) fun (j34 : Int → Mem → Option Rz) =>
  if x10 = 0 then (
    cal (f_X11_atMost n p2 p1 m10) fun x23 m23 =>
    if x23 = 0 then (
      j34 2 m23
    ) else
    j34 1 m23
  ) else
  j34 (-1) m10
set_option maxRecDepth 100000 in
set_option maxHeartbeats 4000000 in
theorem s_X11_orderOf (l : Launch) (sc : g_S) (E : Mem → g_H) (R : Nat → Prop) (hE : LE E R) (hR : RRF R) (n : Nat)  (p1 : Int) (p2 : Int) (hp1 : inR p1) (hp2 : inR p2) (mi : Mem) (r : Rz) (H : f_X11_orderOf n p1 p2 mi = some r) : AMet l sc yX11_orderOf cX11_orderOf 3 (some FieldType.int) 202 0 0 [.ref 100, iv p1, iv p2] (E mi) (pI E r) := by
  have r100 : R 100 := hR 100 (Nat.le_of_ble_eq_true rfl) (Nat.le_of_ble_eq_true rfl)
  unfold f_X11_orderOf at H
  refine AMet.of (own := RX11) (by decide +kernel) rfl (Nat.le_of_ble_eq_true rfl) [(0, .ref 100), (1, iv p1), (2, iv p2)] rfl (fun D base ad => ?_)
  refine aw_iload_n (pc := 0) dX11_orderOf_0 rfl ?_
  refine aw_iload_n (pc := 1) dX11_orderOf_1 rfl ?_
  refine cx_icmp_ne (pc := 2) 7 hp1 hp2 dX11_orderOf_2 rfl H (fun H => ?_) (fun H => ?_)
  · -- 2: 5
    refine cx_iconst (pc := 5) dX11_orderOf_5 ?_
    exact cx_iret (pc := 6) (inR_lit _ rfl) rfl (Nat.le_of_ble_eq_true rfl) (Nat.le_of_ble_eq_true rfl) dX11_orderOf_6 H
  · -- 2: 7
    refine aw_aload_n (pc := 7) dX11_orderOf_7 rfl ?_
    refine aw_iload_n (pc := 8) dX11_orderOf_8 rfl ?_
    refine aw_iload_n (pc := 9) dX11_orderOf_9 rfl ?_
    refine cx_callV (pc := 10) (P := pI) (dC := 201) (mcC := 0) (msC := 0) [iv p1, iv p2] hE r100 (fun r1 H1 => s_X11_atMost l sc E R hE hR n p1 p2 hp1 hp2 mi r1 H1) ca_X11_114 rfl ⟨_, rfl, rfl⟩ rfl rfl (Nat.le_of_ble_eq_true rfl) (Nat.le_of_ble_eq_true rfl) (Nat.le_of_ble_eq_true rfl) (Nat.le_of_ble_eq_true rfl) dX11_orderOf_10 H (fun x10 m10 v10 hh10 H hp => ?_)
    refine cx_backI hp (fun hx10 => ?_)
    refine jn_ind (fun (f9 : Int → Mem → Option Rz) => ∀ (s0_34 : Int) (m34 : Mem), inR s0_34 → f9 s0_34 m34 = some r → AW l D base sc RX11 yX11_orderOf cX11_orderOf 3 (some FieldType.int) 202 0 0 ad (E mi) (pI E r) 0 0 (E m34) 34 [] [iv s0_34]) (fun s0_34 m34 hs0_34 H => ?_) (fun j34 hj34 H => ?_) H
    · -- 34
      exact cx_iret (pc := 34) hs0_34 rfl (Nat.le_of_ble_eq_true rfl) (Nat.le_of_ble_eq_true rfl) dX11_orderOf_34 H
    refine cx_if_eq (pc := 13) 20 hx10 dX11_orderOf_13 rfl H (fun H => ?_) (fun H => ?_)
    · -- 13: 20
      refine aw_aload_n (pc := 20) dX11_orderOf_20 rfl ?_
      refine aw_iload_n (pc := 21) dX11_orderOf_21 rfl ?_
      refine aw_iload_n (pc := 22) dX11_orderOf_22 rfl ?_
      refine cx_callV (pc := 23) (P := pI) (dC := 201) (mcC := 0) (msC := 0) [iv p2, iv p1] hE r100 (fun r1 H1 => s_X11_atMost l sc E R hE hR n p2 p1 hp2 hp1 m10 r1 H1) ca_X11_114 rfl ⟨_, rfl, rfl⟩ rfl rfl (Nat.le_of_ble_eq_true rfl) (Nat.le_of_ble_eq_true rfl) (Nat.le_of_ble_eq_true rfl) (Nat.le_of_ble_eq_true rfl) dX11_orderOf_23 H (fun x23 m23 v23 hh23 H hp => ?_)
      refine cx_backI hp (fun hx23 => ?_)
      refine cx_if_eq (pc := 26) 33 hx23 dX11_orderOf_26 rfl H (fun H => ?_) (fun H => ?_)
      · -- 26: 33
        refine cx_iconst (pc := 33) dX11_orderOf_33 ?_
        exact AW.sel [] rfl (hj34 _ _ (inR_lit _ rfl) H)
      · -- 26: 29
        refine cx_iconst (pc := 29) dX11_orderOf_29 ?_
        refine aw_goto (pc := 30) 34 dX11_orderOf_30 rfl ?_
        exact AW.sel [] rfl (hj34 _ _ (inR_lit _ rfl) H)
    · -- 13: 16
      refine cx_iconst (pc := 16) dX11_orderOf_16 ?_
      refine aw_goto (pc := 17) 34 dX11_orderOf_17 rfl ?_
      exact AW.sel [] rfl (hj34 _ _ (inR_lit _ rfl) H)
/-- X11 isOver (I)Z -/
def b_X11_isOver (n : Nat) (g_X11_isOver : (Int → Mem → Option Rz)) (g_X11_isUnder : (Int → Mem → Option Rz)) (p1 : Int) (mi : Mem) : Option Rz :=
  ldI mi 124 p1 fun x5 =>
  ok0 (2 ≠ 0) <|
  gtF mi 100 29 fun x9 =>
  if idiv x5 2 = x9 then (
    ldI mi 124 p1 fun x20 =>
    ok0 (2 ≠ 0) <|
    jn (fun (s0_32 : Int) (m32 : Mem) =>
      rtZ s0_32 m32
    ) fun (j32 : Int → Mem → Option Rz) =>
    if irem x20 2 = 1 then (
      j32 1 mi
    ) else
    j32 0 mi
  ) else
  lp (F := Int → Int → Mem → Option Rz) (fun _ _ _ => none) (fun w37 v2_37 v3_37 m37 =>
    gtF m37 100 23 fun x39 =>
    jn (fun (m75 : Mem) =>
      ldI m75 104 p1 fun x80 =>
      lp (F := Int → Int → Mem → Option Rz) (fun _ _ _ => none) (fun w82 v2_82 v3_82 m82 =>
        ldI m82 105 p1 fun x88 =>
        jn (fun (m121 : Mem) =>
          gtF m121 100 29 fun x128 =>
          jn (fun (s0_141 : Int) (m141 : Mem) =>
            stI m141 124 p1 (w32 ((w32 (2 * x128)) + s0_141)) fun m142 =>
            rtZ v2_82 m142
          ) fun (j141 : Int → Mem → Option Rz) =>
          if v2_82 = 0 then (
            j141 0 m121
          ) else
          j141 1 m121
        ) fun (j121 : Mem → Option Rz) =>
        if v3_82 < x88 then (
          if v2_82 = 0 then (
            j121 m82
          ) else
          ldI m82 102 v3_82 fun x102 =>
          cal (g_X11_isUnder x102 m82) fun x103 m103 =>
          jn (fun (s0_114 : Int) (m114 : Mem) =>
            w82 s0_114 (w32 (v3_82 + 1)) m114
          ) fun (j114 : Int → Mem → Option Rz) =>
          if x103 = 0 then (
            j114 1 m103
          ) else
          j114 0 m103
        ) else
        j121 m82
      ) n v2_37 x80 m75
    ) fun (j75 : Mem → Option Rz) =>
    if v3_37 < x39 then (
      if v2_37 = 0 then (
        j75 m37
      ) else
      ldI m37 120 v3_37 fun x56 =>
      cal (f_X11_atMost n p1 x56 m37) fun x57 m57 =>
      jn (fun (s0_68 : Int) (m68 : Mem) =>
        w37 s0_68 (w32 (v3_37 + 1)) m68
      ) fun (j68 : Int → Mem → Option Rz) =>
      if x57 = 0 then (
        j68 1 m57
      ) else
      j68 0 m57
    ) else
    j75 m37
  ) n 1 0 mi
/-- X11 isUnder (I)Z -/
def b_X11_isUnder (n : Nat) (g_X11_isOver : (Int → Mem → Option Rz)) (g_X11_isUnder : (Int → Mem → Option Rz)) (p1 : Int) (mi : Mem) : Option Rz :=
  ldI mi 123 p1 fun x5 =>
  ok0 (2 ≠ 0) <|
  gtF mi 100 29 fun x9 =>
  if idiv x5 2 = x9 then (
    ldI mi 123 p1 fun x20 =>
    ok0 (2 ≠ 0) <|
    jn (fun (s0_32 : Int) (m32 : Mem) =>
      rtZ s0_32 m32
    ) fun (j32 : Int → Mem → Option Rz) =>
    if irem x20 2 = 1 then (
      j32 1 mi
    ) else
    j32 0 mi
  ) else
  ldI mi 103 p1 fun x40 =>
  lp (F := Int → Int → Mem → Option Rz) (fun _ _ _ => none) (fun w42 v2_42 v3_42 m42 =>
    ldI m42 104 p1 fun x48 =>
    jn (fun (m81 : Mem) =>
      lp (F := Int → Int → Mem → Option Rz) (fun _ _ _ => none) (fun w83 v2_83 v3_83 m83 =>
        gtF m83 100 24 fun x85 =>
        jn (fun (m121 : Mem) =>
          gtF m121 100 29 fun x128 =>
          jn (fun (s0_141 : Int) (m141 : Mem) =>
            stI m141 123 p1 (w32 ((w32 (2 * x128)) + s0_141)) fun m142 =>
            rtZ v2_83 m142
          ) fun (j141 : Int → Mem → Option Rz) =>
          if v2_83 = 0 then (
            j141 0 m121
          ) else
          j141 1 m121
        ) fun (j121 : Mem → Option Rz) =>
        if v3_83 < x85 then (
          if v2_83 = 0 then (
            j121 m83
          ) else
          ldI m83 121 v3_83 fun x101 =>
          cal (f_X11_atMost n x101 p1 m83) fun x103 m103 =>
          jn (fun (s0_114 : Int) (m114 : Mem) =>
            w83 s0_114 (w32 (v3_83 + 1)) m114
          ) fun (j114 : Int → Mem → Option Rz) =>
          if x103 = 0 then (
            j114 1 m103
          ) else
          j114 0 m103
        ) else
        j121 m83
      ) n v2_42 0 m81
    ) fun (j81 : Mem → Option Rz) =>
    if v3_42 < x48 then (
      if v2_42 = 0 then (
        j81 m42
      ) else
      ldI m42 102 v3_42 fun x62 =>
      cal (g_X11_isOver x62 m42) fun x63 m63 =>
      jn (fun (s0_74 : Int) (m74 : Mem) =>
        w42 s0_74 (w32 (v3_42 + 1)) m74
      ) fun (j74 : Int → Mem → Option Rz) =>
      if x63 = 0 then (
        j74 1 m63
      ) else
      j74 0 m63
    ) else
    j81 m42
  ) n 1 x40 mi
def t_X11_isUnder (n : Nat) : Nat → (Int → Mem → Option Rz) × (Int → Mem → Option Rz)
  | 0 => (fun _ _ => none, fun _ _ => none)
  | d + 1 => (b_X11_isOver n (t_X11_isUnder n d).1 (t_X11_isUnder n d).2, b_X11_isUnder n (t_X11_isUnder n d).1 (t_X11_isUnder n d).2)
def h_X11_isOver (n d : Nat) : (Int → Mem → Option Rz) := (t_X11_isUnder n d).1
def f_X11_isOver (n : Nat) : (Int → Mem → Option Rz) := h_X11_isOver n 100
def h_X11_isUnder (n d : Nat) : (Int → Mem → Option Rz) := (t_X11_isUnder n d).2
def f_X11_isUnder (n : Nat) : (Int → Mem → Option Rz) := h_X11_isUnder n 100
theorem h_X11_isOver_s (n d : Nat) (p1 : Int) (m : Mem) : h_X11_isOver n (d + 1) p1 m = b_X11_isOver n (h_X11_isOver n d) (h_X11_isUnder n d) p1 m := rfl
theorem h_X11_isOver_0 (n : Nat) (p1 : Int) (m : Mem) : h_X11_isOver n 0 p1 m = none := rfl
theorem h_X11_isUnder_s (n d : Nat) (p1 : Int) (m : Mem) : h_X11_isUnder n (d + 1) p1 m = b_X11_isUnder n (h_X11_isOver n d) (h_X11_isUnder n d) p1 m := rfl
theorem h_X11_isUnder_0 (n : Nat) (p1 : Int) (m : Mem) : h_X11_isUnder n 0 p1 m = none := rfl
def q_X11_isOver (l : Launch) (sc : g_S) (E : Mem → g_H) (R : Nat → Prop) (dd : Nat) (g : (Int → Mem → Option Rz)) : Prop := ∀ (p1 : Int) (m : Mem) (hp1 : inR p1) (r : Rz) (H : g p1 m = some r), AMet l sc yX11_isOver cX11_isOver 4 (some FieldType.boolean) dd 0 0 [.ref 100, iv p1] (E m) (pI E r)
def q_X11_isUnder (l : Launch) (sc : g_S) (E : Mem → g_H) (R : Nat → Prop) (dd : Nat) (g : (Int → Mem → Option Rz)) : Prop := ∀ (p1 : Int) (m : Mem) (hp1 : inR p1) (r : Rz) (H : g p1 m = some r), AMet l sc yX11_isUnder cX11_isUnder 4 (some FieldType.boolean) dd 0 0 [.ref 100, iv p1] (E m) (pI E r)
set_option maxRecDepth 100000 in
set_option maxHeartbeats 4000000 in
theorem sb_X11_isOver (l : Launch) (sc : g_S) (E : Mem → g_H) (R : Nat → Prop) (hE : LE E R) (hR : RRF R) (n : Nat) (dd : Nat) (hdd : 202 ≤ dd) (g_X11_isOver : (Int → Mem → Option Rz)) (g_X11_isUnder : (Int → Mem → Option Rz)) (hg_X11_isOver : q_X11_isOver l sc E R dd g_X11_isOver) (hg_X11_isUnder : q_X11_isUnder l sc E R dd g_X11_isUnder) (p1 : Int) (mi : Mem) (hp1 : inR p1) (r : Rz) (H : b_X11_isOver n g_X11_isOver g_X11_isUnder p1 mi = some r) : AMet l sc yX11_isOver cX11_isOver 4 (some FieldType.boolean) (dd + 1) 0 0 [.ref 100, iv p1] (E mi) (pI E r) := by
  have r100 : R 100 := hR 100 (Nat.le_of_ble_eq_true rfl) (Nat.le_of_ble_eq_true rfl)
  have r102 : R 102 := hR 102 (Nat.le_of_ble_eq_true rfl) (Nat.le_of_ble_eq_true rfl)
  have r104 : R 104 := hR 104 (Nat.le_of_ble_eq_true rfl) (Nat.le_of_ble_eq_true rfl)
  have r105 : R 105 := hR 105 (Nat.le_of_ble_eq_true rfl) (Nat.le_of_ble_eq_true rfl)
  have r120 : R 120 := hR 120 (Nat.le_of_ble_eq_true rfl) (Nat.le_of_ble_eq_true rfl)
  have r124 : R 124 := hR 124 (Nat.le_of_ble_eq_true rfl) (Nat.le_of_ble_eq_true rfl)
  unfold b_X11_isOver at H
  refine AMet.of (own := RX11) (by decide +kernel) rfl (Nat.le_of_ble_eq_true rfl) [(0, .ref 100), (1, iv p1)] rfl (fun D base ad => ?_)
  refine aw_aload_n (pc := 0) dX11_isOver_0 rfl ?_
  refine cx_gtC (pc := 1) 124 hE r100 fl_X11_137 rfl rfl (Nat.le_of_ble_eq_true rfl) dX11_isOver_1 ?_
  refine aw_iload_n (pc := 4) dX11_isOver_4 rfl ?_
  refine cx_ldI (pc := 5) hE r124 hp1 dX11_isOver_5 H (fun x5 hx5 H => ?_)
  refine cx_iconst (pc := 6) dX11_isOver_6 ?_
  refine cx_idiv (pc := 7) (inR_lit _ rfl) dX11_isOver_7 H (fun H => ?_)
  refine aw_aload_n (pc := 8) dX11_isOver_8 rfl ?_
  refine cx_gtF (pc := 9) hE r100 fl_X11_131 rfl rfl (Nat.le_of_ble_eq_true rfl) dX11_isOver_9 H (fun x9 hx9 H => ?_)
  refine cx_icmp_ne (pc := 12) 33 (inR_32 _) hx9 dX11_isOver_12 rfl H (fun H => ?_) (fun H => ?_)
  · -- 12: 15
    refine aw_aload_n (pc := 15) dX11_isOver_15 rfl ?_
    refine cx_gtC (pc := 16) 124 hE r100 fl_X11_137 rfl rfl (Nat.le_of_ble_eq_true rfl) dX11_isOver_16 ?_
    refine aw_iload_n (pc := 19) dX11_isOver_19 rfl ?_
    refine cx_ldI (pc := 20) hE r124 hp1 dX11_isOver_20 H (fun x20 hx20 H => ?_)
    refine cx_iconst (pc := 21) dX11_isOver_21 ?_
    refine cx_irem (pc := 22) (inR_lit _ rfl) dX11_isOver_22 H (fun H => ?_)
    refine cx_iconst (pc := 23) dX11_isOver_23 ?_
    refine jn_ind (fun (f9 : Int → Mem → Option Rz) => ∀ (s0_32 : Int) (m32 : Mem), inR s0_32 → f9 s0_32 m32 = some r → AW l D base sc RX11 yX11_isOver cX11_isOver 4 (some FieldType.boolean) (dd + 1) 0 0 ad (E mi) (pI E r) 0 0 (E m32) 32 [] [iv s0_32]) (fun s0_32 m32 hs0_32 H => ?_) (fun j32 hj32 H => ?_) H
    · -- 32
      exact cx_zret (pc := 32) rfl (Nat.le_of_ble_eq_true rfl) (Nat.le_of_ble_eq_true rfl) dX11_isOver_32 H
    refine cx_icmp_ne (pc := 24) 31 (inR_32 _) (inR_lit _ rfl) dX11_isOver_24 rfl H (fun H => ?_) (fun H => ?_)
    · -- 24: 27
      refine cx_iconst (pc := 27) dX11_isOver_27 ?_
      refine aw_goto (pc := 28) 32 dX11_isOver_28 rfl ?_
      exact AW.sel [] rfl (hj32 _ _ (inR_lit _ rfl) H)
    · -- 24: 31
      refine cx_iconst (pc := 31) dX11_isOver_31 ?_
      exact AW.sel [] rfl (hj32 _ _ (inR_lit _ rfl) H)
  · -- 12: 33
    refine cx_iconst (pc := 33) dX11_isOver_33 ?_
    refine aw_istore_n (pc := 34) [(2, iv 1), (0, .ref 100), (1, iv p1)] dX11_isOver_34 rfl (by decide) ?_
    refine cx_iconst (pc := 35) dX11_isOver_35 ?_
    refine aw_istore_n (pc := 36) [(3, iv 0), (2, iv 1), (0, .ref 100), (1, iv p1)] dX11_isOver_36 rfl (by decide) ?_
    refine AW.sel [2, 3, 1, 0] rfl (lp_ind (bot := fun _ _ _ => none) (fun (f9 : Int → Int → Mem → Option Rz) => ∀ (v2_37 : Int) (v3_37 : Int) (m37 : Mem), inR v2_37 → inR v3_37 → f9 v2_37 v3_37 m37 = some r → AW l D base sc RX11 yX11_isOver cX11_isOver 4 (some FieldType.boolean) (dd + 1) 0 0 ad (E mi) (pI E r) 0 0 (E m37) 37 [(0, .ref 100), (1, iv p1), (2, iv v2_37), (3, iv v3_37)] []) (fun _ _ _ _ _ h9 => nomatch h9) (fun w37 ih37 v2_37 v3_37 m37 hv2_37 hv3_37 H => ?_) n _ _ _ (inR_lit _ rfl) (inR_lit _ rfl) H)
    refine aw_iload_n (pc := 37) dX11_isOver_37 rfl ?_
    refine aw_aload_n (pc := 38) dX11_isOver_38 rfl ?_
    refine cx_gtF (pc := 39) hE r100 fl_X11_9 rfl rfl (Nat.le_of_ble_eq_true rfl) dX11_isOver_39 H (fun x39 hx39 H => ?_)
    refine jn_ind (fun (f9 : Mem → Option Rz) => ∀ (m75 : Mem), f9 m75 = some r → AW l D base sc RX11 yX11_isOver cX11_isOver 4 (some FieldType.boolean) (dd + 1) 0 0 ad (E mi) (pI E r) 0 0 (E m75) 75 [(0, .ref 100), (1, iv p1), (2, iv v2_37)] []) (fun m75 H => ?_) (fun j75 hj75 H => ?_) H
    · -- 75
      refine aw_aload_n (pc := 75) dX11_isOver_75 rfl ?_
      refine cx_gtC (pc := 76) 104 hE r100 fl_X11_26 rfl rfl (Nat.le_of_ble_eq_true rfl) dX11_isOver_76 ?_
      refine aw_iload_n (pc := 79) dX11_isOver_79 rfl ?_
      refine cx_ldI (pc := 80) hE r104 hp1 dX11_isOver_80 H (fun x80 hx80 H => ?_)
      refine aw_istore_n (pc := 81) [(3, iv x80), (0, .ref 100), (1, iv p1), (2, iv v2_37)] dX11_isOver_81 rfl (by decide) ?_
      refine AW.sel [1, 2, 3, 0] rfl (lp_ind (bot := fun _ _ _ => none) (fun (f9 : Int → Int → Mem → Option Rz) => ∀ (v2_82 : Int) (v3_82 : Int) (m82 : Mem), inR v2_82 → inR v3_82 → f9 v2_82 v3_82 m82 = some r → AW l D base sc RX11 yX11_isOver cX11_isOver 4 (some FieldType.boolean) (dd + 1) 0 0 ad (E mi) (pI E r) 0 0 (E m82) 82 [(0, .ref 100), (1, iv p1), (2, iv v2_82), (3, iv v3_82)] []) (fun _ _ _ _ _ h9 => nomatch h9) (fun w82 ih82 v2_82 v3_82 m82 hv2_82 hv3_82 H => ?_) n _ _ _ hv2_37 hx80 H)
      refine aw_iload_n (pc := 82) dX11_isOver_82 rfl ?_
      refine aw_aload_n (pc := 83) dX11_isOver_83 rfl ?_
      refine cx_gtC (pc := 84) 105 hE r100 fl_X11_32 rfl rfl (Nat.le_of_ble_eq_true rfl) dX11_isOver_84 ?_
      refine aw_iload_n (pc := 87) dX11_isOver_87 rfl ?_
      refine cx_ldI (pc := 88) hE r105 hp1 dX11_isOver_88 H (fun x88 hx88 H => ?_)
      refine jn_ind (fun (f9 : Mem → Option Rz) => ∀ (m121 : Mem), f9 m121 = some r → AW l D base sc RX11 yX11_isOver cX11_isOver 4 (some FieldType.boolean) (dd + 1) 0 0 ad (E mi) (pI E r) 0 0 (E m121) 121 [(0, .ref 100), (1, iv p1), (2, iv v2_82)] []) (fun m121 H => ?_) (fun j121 hj121 H => ?_) H
      · -- 121
        refine aw_aload_n (pc := 121) dX11_isOver_121 rfl ?_
        refine cx_gtC (pc := 122) 124 hE r100 fl_X11_137 rfl rfl (Nat.le_of_ble_eq_true rfl) dX11_isOver_122 ?_
        refine aw_iload_n (pc := 125) dX11_isOver_125 rfl ?_
        refine cx_iconst (pc := 126) dX11_isOver_126 ?_
        refine aw_aload_n (pc := 127) dX11_isOver_127 rfl ?_
        refine cx_gtF (pc := 128) hE r100 fl_X11_131 rfl rfl (Nat.le_of_ble_eq_true rfl) dX11_isOver_128 H (fun x128 hx128 H => ?_)
        refine cx_imul (pc := 131) dX11_isOver_131 ?_
        refine aw_iload_n (pc := 132) dX11_isOver_132 rfl ?_
        refine jn_ind (fun (f9 : Int → Mem → Option Rz) => ∀ (s0_141 : Int) (m141 : Mem), inR s0_141 → f9 s0_141 m141 = some r → AW l D base sc RX11 yX11_isOver cX11_isOver 4 (some FieldType.boolean) (dd + 1) 0 0 ad (E mi) (pI E r) 0 0 (E m141) 141 [(2, iv v2_82)] [iv s0_141, iv (w32 (2 * x128)), iv p1, .ref 124]) (fun s0_141 m141 hs0_141 H => ?_) (fun j141 hj141 H => ?_) H
        · -- 141
          refine cx_iadd (pc := 141) dX11_isOver_141 ?_
          refine cx_stI (pc := 142) hE r124 hp1 dX11_isOver_142 H (fun m142 H => ?_)
          refine aw_iload_n (pc := 143) dX11_isOver_143 rfl ?_
          exact cx_zret (pc := 144) rfl (Nat.le_of_ble_eq_true rfl) (Nat.le_of_ble_eq_true rfl) dX11_isOver_144 H
        refine cx_if_eq (pc := 133) 140 hv2_82 dX11_isOver_133 rfl H (fun H => ?_) (fun H => ?_)
        · -- 133: 140
          refine cx_iconst (pc := 140) dX11_isOver_140 ?_
          exact AW.sel [2] rfl (hj141 _ _ (inR_lit _ rfl) H)
        · -- 133: 136
          refine cx_iconst (pc := 136) dX11_isOver_136 ?_
          refine aw_goto (pc := 137) 141 dX11_isOver_137 rfl ?_
          exact AW.sel [2] rfl (hj141 _ _ (inR_lit _ rfl) H)
      refine cx_icmp_ge (pc := 89) 121 hv3_82 hx88 dX11_isOver_89 rfl H (fun H => ?_) (fun H => ?_)
      · -- 89: 92
        refine aw_iload_n (pc := 92) dX11_isOver_92 rfl ?_
        refine cx_if_eq (pc := 93) 121 hv2_82 dX11_isOver_93 rfl H (fun H => ?_) (fun H => ?_)
        · -- 93: 121
          exact AW.sel [0, 1, 2] rfl (hj121 _ H)
        · -- 93: 96
          refine aw_aload_n (pc := 96) dX11_isOver_96 rfl ?_
          refine aw_aload_n (pc := 97) dX11_isOver_97 rfl ?_
          refine cx_gtC (pc := 98) 102 hE r100 fl_X11_35 rfl rfl (Nat.le_of_ble_eq_true rfl) dX11_isOver_98 ?_
          refine aw_iload_n (pc := 101) dX11_isOver_101 rfl ?_
          refine cx_ldI (pc := 102) hE r102 hv3_82 dX11_isOver_102 H (fun x102 hx102 H => ?_)
          refine cx_callV (pc := 103) (P := pI) (dC := dd) (mcC := 0) (msC := 0) [iv x102] hE r100 (fun r1 H1 => hg_X11_isUnder x102 m82 hx102 r1 H1) ca_X11_140 rfl ⟨_, rfl, rfl⟩ rfl rfl (by omega) (Nat.le_of_ble_eq_true rfl) (Nat.le_of_ble_eq_true rfl) (Nat.le_of_ble_eq_true rfl) dX11_isOver_103 H (fun x103 m103 v103 hh103 H hp => ?_)
          refine cx_backI hp (fun hx103 => ?_)
          refine jn_ind (fun (f9 : Int → Mem → Option Rz) => ∀ (s0_114 : Int) (m114 : Mem), inR s0_114 → f9 s0_114 m114 = some r → AW l D base sc RX11 yX11_isOver cX11_isOver 4 (some FieldType.boolean) (dd + 1) 0 0 ad (E mi) (pI E r) 0 0 (E m114) 114 [(0, .ref 100), (1, iv p1), (3, iv v3_82)] [iv s0_114]) (fun s0_114 m114 hs0_114 H => ?_) (fun j114 hj114 H => ?_) H
          · -- 114
            refine aw_istore_n (pc := 114) [(2, iv s0_114), (0, .ref 100), (1, iv p1), (3, iv v3_82)] dX11_isOver_114 rfl (by decide) ?_
            refine cx_iinc (pc := 115) [(3, iv (w32 (v3_82 + 1))), (2, iv s0_114), (0, .ref 100), (1, iv p1)] dX11_isOver_115 rfl rfl (by decide) ?_
            refine aw_goto (pc := 118) 82 dX11_isOver_118 rfl ?_
            exact AW.sel [2, 3, 1, 0] rfl (ih82 _ _ _ hs0_114 (inR_w32 _) H)
          refine cx_if_ne (pc := 106) 113 hx103 dX11_isOver_106 rfl H (fun H => ?_) (fun H => ?_)
          · -- 106: 109
            refine cx_iconst (pc := 109) dX11_isOver_109 ?_
            refine aw_goto (pc := 110) 114 dX11_isOver_110 rfl ?_
            exact AW.sel [0, 1, 3] rfl (hj114 _ _ (inR_lit _ rfl) H)
          · -- 106: 113
            refine cx_iconst (pc := 113) dX11_isOver_113 ?_
            exact AW.sel [0, 1, 3] rfl (hj114 _ _ (inR_lit _ rfl) H)
      · -- 89: 121
        exact AW.sel [0, 1, 2] rfl (hj121 _ H)
    refine cx_icmp_ge (pc := 42) 75 hv3_37 hx39 dX11_isOver_42 rfl H (fun H => ?_) (fun H => ?_)
    · -- 42: 45
      refine aw_iload_n (pc := 45) dX11_isOver_45 rfl ?_
      refine cx_if_eq (pc := 46) 75 hv2_37 dX11_isOver_46 rfl H (fun H => ?_) (fun H => ?_)
      · -- 46: 75
        exact AW.sel [0, 1, 2] rfl (hj75 _ H)
      · -- 46: 49
        refine aw_aload_n (pc := 49) dX11_isOver_49 rfl ?_
        refine aw_iload_n (pc := 50) dX11_isOver_50 rfl ?_
        refine aw_aload_n (pc := 51) dX11_isOver_51 rfl ?_
        refine cx_gtC (pc := 52) 120 hE r100 fl_X11_13 rfl rfl (Nat.le_of_ble_eq_true rfl) dX11_isOver_52 ?_
        refine aw_iload_n (pc := 55) dX11_isOver_55 rfl ?_
        refine cx_ldI (pc := 56) hE r120 hv3_37 dX11_isOver_56 H (fun x56 hx56 H => ?_)
        refine cx_callV (pc := 57) (P := pI) (dC := 201) (mcC := 0) (msC := 0) [iv p1, iv x56] hE r100 (fun r1 H1 => s_X11_atMost l sc E R hE hR n p1 x56 hp1 hx56 m37 r1 H1) ca_X11_114 rfl ⟨_, rfl, rfl⟩ rfl rfl (by omega) (Nat.le_of_ble_eq_true rfl) (Nat.le_of_ble_eq_true rfl) (Nat.le_of_ble_eq_true rfl) dX11_isOver_57 H (fun x57 m57 v57 hh57 H hp => ?_)
        refine cx_backI hp (fun hx57 => ?_)
        refine jn_ind (fun (f9 : Int → Mem → Option Rz) => ∀ (s0_68 : Int) (m68 : Mem), inR s0_68 → f9 s0_68 m68 = some r → AW l D base sc RX11 yX11_isOver cX11_isOver 4 (some FieldType.boolean) (dd + 1) 0 0 ad (E mi) (pI E r) 0 0 (E m68) 68 [(0, .ref 100), (1, iv p1), (3, iv v3_37)] [iv s0_68]) (fun s0_68 m68 hs0_68 H => ?_) (fun j68 hj68 H => ?_) H
        · -- 68
          refine aw_istore_n (pc := 68) [(2, iv s0_68), (0, .ref 100), (1, iv p1), (3, iv v3_37)] dX11_isOver_68 rfl (by decide) ?_
          refine cx_iinc (pc := 69) [(3, iv (w32 (v3_37 + 1))), (2, iv s0_68), (0, .ref 100), (1, iv p1)] dX11_isOver_69 rfl rfl (by decide) ?_
          refine aw_goto (pc := 72) 37 dX11_isOver_72 rfl ?_
          exact AW.sel [2, 3, 1, 0] rfl (ih37 _ _ _ hs0_68 (inR_w32 _) H)
        refine cx_if_ne (pc := 60) 67 hx57 dX11_isOver_60 rfl H (fun H => ?_) (fun H => ?_)
        · -- 60: 63
          refine cx_iconst (pc := 63) dX11_isOver_63 ?_
          refine aw_goto (pc := 64) 68 dX11_isOver_64 rfl ?_
          exact AW.sel [0, 1, 3] rfl (hj68 _ _ (inR_lit _ rfl) H)
        · -- 60: 67
          refine cx_iconst (pc := 67) dX11_isOver_67 ?_
          exact AW.sel [0, 1, 3] rfl (hj68 _ _ (inR_lit _ rfl) H)
    · -- 42: 75
      exact AW.sel [0, 1, 2] rfl (hj75 _ H)
set_option maxRecDepth 100000 in
set_option maxHeartbeats 4000000 in
theorem sb_X11_isUnder (l : Launch) (sc : g_S) (E : Mem → g_H) (R : Nat → Prop) (hE : LE E R) (hR : RRF R) (n : Nat) (dd : Nat) (hdd : 202 ≤ dd) (g_X11_isOver : (Int → Mem → Option Rz)) (g_X11_isUnder : (Int → Mem → Option Rz)) (hg_X11_isOver : q_X11_isOver l sc E R dd g_X11_isOver) (hg_X11_isUnder : q_X11_isUnder l sc E R dd g_X11_isUnder) (p1 : Int) (mi : Mem) (hp1 : inR p1) (r : Rz) (H : b_X11_isUnder n g_X11_isOver g_X11_isUnder p1 mi = some r) : AMet l sc yX11_isUnder cX11_isUnder 4 (some FieldType.boolean) (dd + 1) 0 0 [.ref 100, iv p1] (E mi) (pI E r) := by
  have r100 : R 100 := hR 100 (Nat.le_of_ble_eq_true rfl) (Nat.le_of_ble_eq_true rfl)
  have r102 : R 102 := hR 102 (Nat.le_of_ble_eq_true rfl) (Nat.le_of_ble_eq_true rfl)
  have r103 : R 103 := hR 103 (Nat.le_of_ble_eq_true rfl) (Nat.le_of_ble_eq_true rfl)
  have r104 : R 104 := hR 104 (Nat.le_of_ble_eq_true rfl) (Nat.le_of_ble_eq_true rfl)
  have r121 : R 121 := hR 121 (Nat.le_of_ble_eq_true rfl) (Nat.le_of_ble_eq_true rfl)
  have r123 : R 123 := hR 123 (Nat.le_of_ble_eq_true rfl) (Nat.le_of_ble_eq_true rfl)
  unfold b_X11_isUnder at H
  refine AMet.of (own := RX11) (by decide +kernel) rfl (Nat.le_of_ble_eq_true rfl) [(0, .ref 100), (1, iv p1)] rfl (fun D base ad => ?_)
  refine aw_aload_n (pc := 0) dX11_isUnder_0 rfl ?_
  refine cx_gtC (pc := 1) 123 hE r100 fl_X11_128 rfl rfl (Nat.le_of_ble_eq_true rfl) dX11_isUnder_1 ?_
  refine aw_iload_n (pc := 4) dX11_isUnder_4 rfl ?_
  refine cx_ldI (pc := 5) hE r123 hp1 dX11_isUnder_5 H (fun x5 hx5 H => ?_)
  refine cx_iconst (pc := 6) dX11_isUnder_6 ?_
  refine cx_idiv (pc := 7) (inR_lit _ rfl) dX11_isUnder_7 H (fun H => ?_)
  refine aw_aload_n (pc := 8) dX11_isUnder_8 rfl ?_
  refine cx_gtF (pc := 9) hE r100 fl_X11_131 rfl rfl (Nat.le_of_ble_eq_true rfl) dX11_isUnder_9 H (fun x9 hx9 H => ?_)
  refine cx_icmp_ne (pc := 12) 33 (inR_32 _) hx9 dX11_isUnder_12 rfl H (fun H => ?_) (fun H => ?_)
  · -- 12: 15
    refine aw_aload_n (pc := 15) dX11_isUnder_15 rfl ?_
    refine cx_gtC (pc := 16) 123 hE r100 fl_X11_128 rfl rfl (Nat.le_of_ble_eq_true rfl) dX11_isUnder_16 ?_
    refine aw_iload_n (pc := 19) dX11_isUnder_19 rfl ?_
    refine cx_ldI (pc := 20) hE r123 hp1 dX11_isUnder_20 H (fun x20 hx20 H => ?_)
    refine cx_iconst (pc := 21) dX11_isUnder_21 ?_
    refine cx_irem (pc := 22) (inR_lit _ rfl) dX11_isUnder_22 H (fun H => ?_)
    refine cx_iconst (pc := 23) dX11_isUnder_23 ?_
    refine jn_ind (fun (f9 : Int → Mem → Option Rz) => ∀ (s0_32 : Int) (m32 : Mem), inR s0_32 → f9 s0_32 m32 = some r → AW l D base sc RX11 yX11_isUnder cX11_isUnder 4 (some FieldType.boolean) (dd + 1) 0 0 ad (E mi) (pI E r) 0 0 (E m32) 32 [] [iv s0_32]) (fun s0_32 m32 hs0_32 H => ?_) (fun j32 hj32 H => ?_) H
    · -- 32
      exact cx_zret (pc := 32) rfl (Nat.le_of_ble_eq_true rfl) (Nat.le_of_ble_eq_true rfl) dX11_isUnder_32 H
    refine cx_icmp_ne (pc := 24) 31 (inR_32 _) (inR_lit _ rfl) dX11_isUnder_24 rfl H (fun H => ?_) (fun H => ?_)
    · -- 24: 27
      refine cx_iconst (pc := 27) dX11_isUnder_27 ?_
      refine aw_goto (pc := 28) 32 dX11_isUnder_28 rfl ?_
      exact AW.sel [] rfl (hj32 _ _ (inR_lit _ rfl) H)
    · -- 24: 31
      refine cx_iconst (pc := 31) dX11_isUnder_31 ?_
      exact AW.sel [] rfl (hj32 _ _ (inR_lit _ rfl) H)
  · -- 12: 33
    refine cx_iconst (pc := 33) dX11_isUnder_33 ?_
    refine aw_istore_n (pc := 34) [(2, iv 1), (0, .ref 100), (1, iv p1)] dX11_isUnder_34 rfl (by decide) ?_
    refine aw_aload_n (pc := 35) dX11_isUnder_35 rfl ?_
    refine cx_gtC (pc := 36) 103 hE r100 fl_X11_29 rfl rfl (Nat.le_of_ble_eq_true rfl) dX11_isUnder_36 ?_
    refine aw_iload_n (pc := 39) dX11_isUnder_39 rfl ?_
    refine cx_ldI (pc := 40) hE r103 hp1 dX11_isUnder_40 H (fun x40 hx40 H => ?_)
    refine aw_istore_n (pc := 41) [(3, iv x40), (2, iv 1), (0, .ref 100), (1, iv p1)] dX11_isUnder_41 rfl (by decide) ?_
    refine AW.sel [2, 3, 1, 0] rfl (lp_ind (bot := fun _ _ _ => none) (fun (f9 : Int → Int → Mem → Option Rz) => ∀ (v2_42 : Int) (v3_42 : Int) (m42 : Mem), inR v2_42 → inR v3_42 → f9 v2_42 v3_42 m42 = some r → AW l D base sc RX11 yX11_isUnder cX11_isUnder 4 (some FieldType.boolean) (dd + 1) 0 0 ad (E mi) (pI E r) 0 0 (E m42) 42 [(0, .ref 100), (1, iv p1), (2, iv v2_42), (3, iv v3_42)] []) (fun _ _ _ _ _ h9 => nomatch h9) (fun w42 ih42 v2_42 v3_42 m42 hv2_42 hv3_42 H => ?_) n _ _ _ (inR_lit _ rfl) hx40 H)
    refine aw_iload_n (pc := 42) dX11_isUnder_42 rfl ?_
    refine aw_aload_n (pc := 43) dX11_isUnder_43 rfl ?_
    refine cx_gtC (pc := 44) 104 hE r100 fl_X11_26 rfl rfl (Nat.le_of_ble_eq_true rfl) dX11_isUnder_44 ?_
    refine aw_iload_n (pc := 47) dX11_isUnder_47 rfl ?_
    refine cx_ldI (pc := 48) hE r104 hp1 dX11_isUnder_48 H (fun x48 hx48 H => ?_)
    refine jn_ind (fun (f9 : Mem → Option Rz) => ∀ (m81 : Mem), f9 m81 = some r → AW l D base sc RX11 yX11_isUnder cX11_isUnder 4 (some FieldType.boolean) (dd + 1) 0 0 ad (E mi) (pI E r) 0 0 (E m81) 81 [(0, .ref 100), (1, iv p1), (2, iv v2_42)] []) (fun m81 H => ?_) (fun j81 hj81 H => ?_) H
    · -- 81
      refine cx_iconst (pc := 81) dX11_isUnder_81 ?_
      refine aw_istore_n (pc := 82) [(3, iv 0), (0, .ref 100), (1, iv p1), (2, iv v2_42)] dX11_isUnder_82 rfl (by decide) ?_
      refine AW.sel [1, 2, 3, 0] rfl (lp_ind (bot := fun _ _ _ => none) (fun (f9 : Int → Int → Mem → Option Rz) => ∀ (v2_83 : Int) (v3_83 : Int) (m83 : Mem), inR v2_83 → inR v3_83 → f9 v2_83 v3_83 m83 = some r → AW l D base sc RX11 yX11_isUnder cX11_isUnder 4 (some FieldType.boolean) (dd + 1) 0 0 ad (E mi) (pI E r) 0 0 (E m83) 83 [(0, .ref 100), (1, iv p1), (2, iv v2_83), (3, iv v3_83)] []) (fun _ _ _ _ _ h9 => nomatch h9) (fun w83 ih83 v2_83 v3_83 m83 hv2_83 hv3_83 H => ?_) n _ _ _ hv2_42 (inR_lit _ rfl) H)
      refine aw_iload_n (pc := 83) dX11_isUnder_83 rfl ?_
      refine aw_aload_n (pc := 84) dX11_isUnder_84 rfl ?_
      refine cx_gtF (pc := 85) hE r100 fl_X11_20 rfl rfl (Nat.le_of_ble_eq_true rfl) dX11_isUnder_85 H (fun x85 hx85 H => ?_)
      refine jn_ind (fun (f9 : Mem → Option Rz) => ∀ (m121 : Mem), f9 m121 = some r → AW l D base sc RX11 yX11_isUnder cX11_isUnder 4 (some FieldType.boolean) (dd + 1) 0 0 ad (E mi) (pI E r) 0 0 (E m121) 121 [(0, .ref 100), (1, iv p1), (2, iv v2_83)] []) (fun m121 H => ?_) (fun j121 hj121 H => ?_) H
      · -- 121
        refine aw_aload_n (pc := 121) dX11_isUnder_121 rfl ?_
        refine cx_gtC (pc := 122) 123 hE r100 fl_X11_128 rfl rfl (Nat.le_of_ble_eq_true rfl) dX11_isUnder_122 ?_
        refine aw_iload_n (pc := 125) dX11_isUnder_125 rfl ?_
        refine cx_iconst (pc := 126) dX11_isUnder_126 ?_
        refine aw_aload_n (pc := 127) dX11_isUnder_127 rfl ?_
        refine cx_gtF (pc := 128) hE r100 fl_X11_131 rfl rfl (Nat.le_of_ble_eq_true rfl) dX11_isUnder_128 H (fun x128 hx128 H => ?_)
        refine cx_imul (pc := 131) dX11_isUnder_131 ?_
        refine aw_iload_n (pc := 132) dX11_isUnder_132 rfl ?_
        refine jn_ind (fun (f9 : Int → Mem → Option Rz) => ∀ (s0_141 : Int) (m141 : Mem), inR s0_141 → f9 s0_141 m141 = some r → AW l D base sc RX11 yX11_isUnder cX11_isUnder 4 (some FieldType.boolean) (dd + 1) 0 0 ad (E mi) (pI E r) 0 0 (E m141) 141 [(2, iv v2_83)] [iv s0_141, iv (w32 (2 * x128)), iv p1, .ref 123]) (fun s0_141 m141 hs0_141 H => ?_) (fun j141 hj141 H => ?_) H
        · -- 141
          refine cx_iadd (pc := 141) dX11_isUnder_141 ?_
          refine cx_stI (pc := 142) hE r123 hp1 dX11_isUnder_142 H (fun m142 H => ?_)
          refine aw_iload_n (pc := 143) dX11_isUnder_143 rfl ?_
          exact cx_zret (pc := 144) rfl (Nat.le_of_ble_eq_true rfl) (Nat.le_of_ble_eq_true rfl) dX11_isUnder_144 H
        refine cx_if_eq (pc := 133) 140 hv2_83 dX11_isUnder_133 rfl H (fun H => ?_) (fun H => ?_)
        · -- 133: 140
          refine cx_iconst (pc := 140) dX11_isUnder_140 ?_
          exact AW.sel [2] rfl (hj141 _ _ (inR_lit _ rfl) H)
        · -- 133: 136
          refine cx_iconst (pc := 136) dX11_isUnder_136 ?_
          refine aw_goto (pc := 137) 141 dX11_isUnder_137 rfl ?_
          exact AW.sel [2] rfl (hj141 _ _ (inR_lit _ rfl) H)
      refine cx_icmp_ge (pc := 88) 121 hv3_83 hx85 dX11_isUnder_88 rfl H (fun H => ?_) (fun H => ?_)
      · -- 88: 91
        refine aw_iload_n (pc := 91) dX11_isUnder_91 rfl ?_
        refine cx_if_eq (pc := 92) 121 hv2_83 dX11_isUnder_92 rfl H (fun H => ?_) (fun H => ?_)
        · -- 92: 121
          exact AW.sel [0, 1, 2] rfl (hj121 _ H)
        · -- 92: 95
          refine aw_aload_n (pc := 95) dX11_isUnder_95 rfl ?_
          refine aw_aload_n (pc := 96) dX11_isUnder_96 rfl ?_
          refine cx_gtC (pc := 97) 121 hE r100 fl_X11_23 rfl rfl (Nat.le_of_ble_eq_true rfl) dX11_isUnder_97 ?_
          refine aw_iload_n (pc := 100) dX11_isUnder_100 rfl ?_
          refine cx_ldI (pc := 101) hE r121 hv3_83 dX11_isUnder_101 H (fun x101 hx101 H => ?_)
          refine aw_iload_n (pc := 102) dX11_isUnder_102 rfl ?_
          refine cx_callV (pc := 103) (P := pI) (dC := 201) (mcC := 0) (msC := 0) [iv x101, iv p1] hE r100 (fun r1 H1 => s_X11_atMost l sc E R hE hR n x101 p1 hx101 hp1 m83 r1 H1) ca_X11_114 rfl ⟨_, rfl, rfl⟩ rfl rfl (by omega) (Nat.le_of_ble_eq_true rfl) (Nat.le_of_ble_eq_true rfl) (Nat.le_of_ble_eq_true rfl) dX11_isUnder_103 H (fun x103 m103 v103 hh103 H hp => ?_)
          refine cx_backI hp (fun hx103 => ?_)
          refine jn_ind (fun (f9 : Int → Mem → Option Rz) => ∀ (s0_114 : Int) (m114 : Mem), inR s0_114 → f9 s0_114 m114 = some r → AW l D base sc RX11 yX11_isUnder cX11_isUnder 4 (some FieldType.boolean) (dd + 1) 0 0 ad (E mi) (pI E r) 0 0 (E m114) 114 [(0, .ref 100), (1, iv p1), (3, iv v3_83)] [iv s0_114]) (fun s0_114 m114 hs0_114 H => ?_) (fun j114 hj114 H => ?_) H
          · -- 114
            refine aw_istore_n (pc := 114) [(2, iv s0_114), (0, .ref 100), (1, iv p1), (3, iv v3_83)] dX11_isUnder_114 rfl (by decide) ?_
            refine cx_iinc (pc := 115) [(3, iv (w32 (v3_83 + 1))), (2, iv s0_114), (0, .ref 100), (1, iv p1)] dX11_isUnder_115 rfl rfl (by decide) ?_
            refine aw_goto (pc := 118) 83 dX11_isUnder_118 rfl ?_
            exact AW.sel [2, 3, 1, 0] rfl (ih83 _ _ _ hs0_114 (inR_w32 _) H)
          refine cx_if_ne (pc := 106) 113 hx103 dX11_isUnder_106 rfl H (fun H => ?_) (fun H => ?_)
          · -- 106: 109
            refine cx_iconst (pc := 109) dX11_isUnder_109 ?_
            refine aw_goto (pc := 110) 114 dX11_isUnder_110 rfl ?_
            exact AW.sel [0, 1, 3] rfl (hj114 _ _ (inR_lit _ rfl) H)
          · -- 106: 113
            refine cx_iconst (pc := 113) dX11_isUnder_113 ?_
            exact AW.sel [0, 1, 3] rfl (hj114 _ _ (inR_lit _ rfl) H)
      · -- 88: 121
        exact AW.sel [0, 1, 2] rfl (hj121 _ H)
    refine cx_icmp_ge (pc := 49) 81 hv3_42 hx48 dX11_isUnder_49 rfl H (fun H => ?_) (fun H => ?_)
    · -- 49: 52
      refine aw_iload_n (pc := 52) dX11_isUnder_52 rfl ?_
      refine cx_if_eq (pc := 53) 81 hv2_42 dX11_isUnder_53 rfl H (fun H => ?_) (fun H => ?_)
      · -- 53: 81
        exact AW.sel [0, 1, 2] rfl (hj81 _ H)
      · -- 53: 56
        refine aw_aload_n (pc := 56) dX11_isUnder_56 rfl ?_
        refine aw_aload_n (pc := 57) dX11_isUnder_57 rfl ?_
        refine cx_gtC (pc := 58) 102 hE r100 fl_X11_35 rfl rfl (Nat.le_of_ble_eq_true rfl) dX11_isUnder_58 ?_
        refine aw_iload_n (pc := 61) dX11_isUnder_61 rfl ?_
        refine cx_ldI (pc := 62) hE r102 hv3_42 dX11_isUnder_62 H (fun x62 hx62 H => ?_)
        refine cx_callV (pc := 63) (P := pI) (dC := dd) (mcC := 0) (msC := 0) [iv x62] hE r100 (fun r1 H1 => hg_X11_isOver x62 m42 hx62 r1 H1) ca_X11_134 rfl ⟨_, rfl, rfl⟩ rfl rfl (by omega) (Nat.le_of_ble_eq_true rfl) (Nat.le_of_ble_eq_true rfl) (Nat.le_of_ble_eq_true rfl) dX11_isUnder_63 H (fun x63 m63 v63 hh63 H hp => ?_)
        refine cx_backI hp (fun hx63 => ?_)
        refine jn_ind (fun (f9 : Int → Mem → Option Rz) => ∀ (s0_74 : Int) (m74 : Mem), inR s0_74 → f9 s0_74 m74 = some r → AW l D base sc RX11 yX11_isUnder cX11_isUnder 4 (some FieldType.boolean) (dd + 1) 0 0 ad (E mi) (pI E r) 0 0 (E m74) 74 [(0, .ref 100), (1, iv p1), (3, iv v3_42)] [iv s0_74]) (fun s0_74 m74 hs0_74 H => ?_) (fun j74 hj74 H => ?_) H
        · -- 74
          refine aw_istore_n (pc := 74) [(2, iv s0_74), (0, .ref 100), (1, iv p1), (3, iv v3_42)] dX11_isUnder_74 rfl (by decide) ?_
          refine cx_iinc (pc := 75) [(3, iv (w32 (v3_42 + 1))), (2, iv s0_74), (0, .ref 100), (1, iv p1)] dX11_isUnder_75 rfl rfl (by decide) ?_
          refine aw_goto (pc := 78) 42 dX11_isUnder_78 rfl ?_
          exact AW.sel [2, 3, 1, 0] rfl (ih42 _ _ _ hs0_74 (inR_w32 _) H)
        refine cx_if_ne (pc := 66) 73 hx63 dX11_isUnder_66 rfl H (fun H => ?_) (fun H => ?_)
        · -- 66: 69
          refine cx_iconst (pc := 69) dX11_isUnder_69 ?_
          refine aw_goto (pc := 70) 74 dX11_isUnder_70 rfl ?_
          exact AW.sel [0, 1, 3] rfl (hj74 _ _ (inR_lit _ rfl) H)
        · -- 66: 73
          refine cx_iconst (pc := 73) dX11_isUnder_73 ?_
          exact AW.sel [0, 1, 3] rfl (hj74 _ _ (inR_lit _ rfl) H)
    · -- 49: 81
      exact AW.sel [0, 1, 2] rfl (hj81 _ H)
theorem sa_X11_isUnder (l : Launch) (sc : g_S) (E : Mem → g_H) (R : Nat → Prop) (hE : LE E R) (hR : RRF R) (n : Nat) : ∀ dp, q_X11_isOver l sc E R (202 + dp) (h_X11_isOver n dp) ∧ q_X11_isUnder l sc E R (202 + dp) (h_X11_isUnder n dp)
  | 0 => ⟨(fun _ _ _ _ H => nomatch H), (fun _ _ _ _ H => nomatch H)⟩
  | dp + 1 => by
    have ih := sa_X11_isUnder l sc E R hE hR n dp
    refine ⟨?_, ?_⟩
    · exact fun p1 m hp1 r H => sb_X11_isOver l sc E R hE hR n (202 + dp) (Nat.le_add_right _ _) _ _ ih.1 ih.2 p1 m hp1 r H
    · exact fun p1 m hp1 r H => sb_X11_isUnder l sc E R hE hR n (202 + dp) (Nat.le_add_right _ _) _ _ ih.1 ih.2 p1 m hp1 r H
theorem s_X11_isOver (l : Launch) (sc : g_S) (E : Mem → g_H) (R : Nat → Prop) (hE : LE E R) (hR : RRF R) (n : Nat) (p1 : Int) (hp1 : inR p1) (m : Mem) (r : Rz) (H : f_X11_isOver n p1 m = some r) : AMet l sc yX11_isOver cX11_isOver 4 (some FieldType.boolean) 302 0 0 [.ref 100, iv p1] (E m) (pI E r) := (sa_X11_isUnder l sc E R hE hR n 100).1 p1 m hp1 r H
theorem s_X11_isUnder (l : Launch) (sc : g_S) (E : Mem → g_H) (R : Nat → Prop) (hE : LE E R) (hR : RRF R) (n : Nat) (p1 : Int) (hp1 : inR p1) (m : Mem) (r : Rz) (H : f_X11_isUnder n p1 m = some r) : AMet l sc yX11_isUnder cX11_isUnder 4 (some FieldType.boolean) 302 0 0 [.ref 100, iv p1] (E m) (pI E r) := (sa_X11_isUnder l sc E R hE hR n 100).2 p1 m hp1 r H
/-- X11 putsLeft (I)V -/
def f_X11_putsLeft (n : Nat) (p1 : Int) (mi : Mem) : Option Rz :=
  gtF mi 100 23 fun x6 =>
  cal (f_X11_has n 120 0 x6 p1 mi) fun x10 m10 =>
  jn (fun (m36 : Mem) =>
    rt 0 m36
  ) fun (j36 : Mem → Option Rz) =>
  if x10 = 0 then (
    gtF m10 100 23 fun x21 =>
    stI m10 120 x21 p1 fun m25 =>
    gtF m25 100 23 fun x28 =>
    ptF m25 100 23 (w32 (x28 + 1)) fun m33 =>
    j36 m33
  ) else
  j36 m10
set_option maxRecDepth 100000 in
set_option maxHeartbeats 4000000 in
theorem s_X11_putsLeft (l : Launch) (sc : g_S) (E : Mem → g_H) (R : Nat → Prop) (hE : LE E R) (hR : RRF R) (n : Nat)  (p1 : Int) (hp1 : inR p1) (mi : Mem) (r : Rz) (H : f_X11_putsLeft n p1 mi = some r) : AMet l sc yX11_putsLeft cX11_putsLeft 2 none 1 0 0 [.ref 100, iv p1] (E mi) (pV E r) := by
  have r100 : R 100 := hR 100 (Nat.le_of_ble_eq_true rfl) (Nat.le_of_ble_eq_true rfl)
  have r120 : R 120 := hR 120 (Nat.le_of_ble_eq_true rfl) (Nat.le_of_ble_eq_true rfl)
  unfold f_X11_putsLeft at H
  refine AMet.of (own := RX11) (by decide +kernel) rfl (Nat.le_of_ble_eq_true rfl) [(0, .ref 100), (1, iv p1)] rfl (fun D base ad => ?_)
  refine aw_aload_n (pc := 0) dX11_putsLeft_0 rfl ?_
  refine cx_gtC (pc := 1) 120 hE r100 fl_X11_13 rfl rfl (Nat.le_of_ble_eq_true rfl) dX11_putsLeft_1 ?_
  refine cx_iconst (pc := 4) dX11_putsLeft_4 ?_
  refine aw_aload_n (pc := 5) dX11_putsLeft_5 rfl ?_
  refine cx_gtF (pc := 6) hE r100 fl_X11_9 rfl rfl (Nat.le_of_ble_eq_true rfl) dX11_putsLeft_6 H (fun x6 hx6 H => ?_)
  refine aw_iload_n (pc := 9) dX11_putsLeft_9 rfl ?_
  refine cx_callS (pc := 10) (P := pI) (dC := 0) (mcC := 0) (msC := 0) [.ref 120, iv 0, iv x6, iv p1] (fun r1 H1 => s_X11_has l sc E R hE hR n 120 0 x6 p1 r120 (inR_lit _ rfl) hx6 hp1 mi r1 H1) ca_X11_38 rfl rfl (Nat.le_of_ble_eq_true rfl) (Nat.le_of_ble_eq_true rfl) (Nat.le_of_ble_eq_true rfl) (Nat.le_of_ble_eq_true rfl) dX11_putsLeft_10 H (fun x10 m10 v10 hh10 H hp => ?_)
  refine cx_backI hp (fun hx10 => ?_)
  refine jn_ind (fun (f9 : Mem → Option Rz) => ∀ (m36 : Mem), f9 m36 = some r → AW l D base sc RX11 yX11_putsLeft cX11_putsLeft 2 none 1 0 0 ad (E mi) (pV E r) 0 0 (E m36) 36 [] []) (fun m36 H => ?_) (fun j36 hj36 H => ?_) H
  · -- 36
    exact cx_vret (pc := 36) rfl (Nat.le_of_ble_eq_true rfl) (Nat.le_of_ble_eq_true rfl) dX11_putsLeft_36 H
  refine cx_if_ne (pc := 13) 36 hx10 dX11_putsLeft_13 rfl H (fun H => ?_) (fun H => ?_)
  · -- 13: 16
    refine aw_aload_n (pc := 16) dX11_putsLeft_16 rfl ?_
    refine cx_gtC (pc := 17) 120 hE r100 fl_X11_13 rfl rfl (Nat.le_of_ble_eq_true rfl) dX11_putsLeft_17 ?_
    refine aw_aload_n (pc := 20) dX11_putsLeft_20 rfl ?_
    refine cx_gtF (pc := 21) hE r100 fl_X11_9 rfl rfl (Nat.le_of_ble_eq_true rfl) dX11_putsLeft_21 H (fun x21 hx21 H => ?_)
    refine aw_iload_n (pc := 24) dX11_putsLeft_24 rfl ?_
    refine cx_stI (pc := 25) hE r120 hx21 dX11_putsLeft_25 H (fun m25 H => ?_)
    refine aw_aload_n (pc := 26) dX11_putsLeft_26 rfl ?_
    refine aw_dup (pc := 27) dX11_putsLeft_27 rfl ?_
    refine cx_gtF (pc := 28) hE r100 fl_X11_9 rfl rfl (Nat.le_of_ble_eq_true rfl) dX11_putsLeft_28 H (fun x28 hx28 H => ?_)
    refine cx_iconst (pc := 31) dX11_putsLeft_31 ?_
    refine cx_iadd (pc := 32) dX11_putsLeft_32 ?_
    refine cx_ptF (pc := 33) tyX11 hE r100 fl_X11_9 (fun r h => ⟨gty_X11 r h, by cases h; rfl⟩) rfl rfl rfl (Nat.le_of_ble_eq_true rfl) dX11_putsLeft_33 H (fun m33 H => ?_)
    exact AW.sel [] rfl (hj36 _ H)
  · -- 13: 36
    exact AW.sel [] rfl (hj36 _ H)
/-- X11 putsRight (I)V -/
def f_X11_putsRight (n : Nat) (p1 : Int) (mi : Mem) : Option Rz :=
  gtF mi 100 24 fun x6 =>
  cal (f_X11_has n 121 0 x6 p1 mi) fun x10 m10 =>
  jn (fun (m36 : Mem) =>
    rt 0 m36
  ) fun (j36 : Mem → Option Rz) =>
  if x10 = 0 then (
    gtF m10 100 24 fun x21 =>
    stI m10 121 x21 p1 fun m25 =>
    gtF m25 100 24 fun x28 =>
    ptF m25 100 24 (w32 (x28 + 1)) fun m33 =>
    j36 m33
  ) else
  j36 m10
set_option maxRecDepth 100000 in
set_option maxHeartbeats 4000000 in
theorem s_X11_putsRight (l : Launch) (sc : g_S) (E : Mem → g_H) (R : Nat → Prop) (hE : LE E R) (hR : RRF R) (n : Nat)  (p1 : Int) (hp1 : inR p1) (mi : Mem) (r : Rz) (H : f_X11_putsRight n p1 mi = some r) : AMet l sc yX11_putsRight cX11_putsRight 2 none 1 0 0 [.ref 100, iv p1] (E mi) (pV E r) := by
  have r100 : R 100 := hR 100 (Nat.le_of_ble_eq_true rfl) (Nat.le_of_ble_eq_true rfl)
  have r121 : R 121 := hR 121 (Nat.le_of_ble_eq_true rfl) (Nat.le_of_ble_eq_true rfl)
  unfold f_X11_putsRight at H
  refine AMet.of (own := RX11) (by decide +kernel) rfl (Nat.le_of_ble_eq_true rfl) [(0, .ref 100), (1, iv p1)] rfl (fun D base ad => ?_)
  refine aw_aload_n (pc := 0) dX11_putsRight_0 rfl ?_
  refine cx_gtC (pc := 1) 121 hE r100 fl_X11_23 rfl rfl (Nat.le_of_ble_eq_true rfl) dX11_putsRight_1 ?_
  refine cx_iconst (pc := 4) dX11_putsRight_4 ?_
  refine aw_aload_n (pc := 5) dX11_putsRight_5 rfl ?_
  refine cx_gtF (pc := 6) hE r100 fl_X11_20 rfl rfl (Nat.le_of_ble_eq_true rfl) dX11_putsRight_6 H (fun x6 hx6 H => ?_)
  refine aw_iload_n (pc := 9) dX11_putsRight_9 rfl ?_
  refine cx_callS (pc := 10) (P := pI) (dC := 0) (mcC := 0) (msC := 0) [.ref 121, iv 0, iv x6, iv p1] (fun r1 H1 => s_X11_has l sc E R hE hR n 121 0 x6 p1 r121 (inR_lit _ rfl) hx6 hp1 mi r1 H1) ca_X11_38 rfl rfl (Nat.le_of_ble_eq_true rfl) (Nat.le_of_ble_eq_true rfl) (Nat.le_of_ble_eq_true rfl) (Nat.le_of_ble_eq_true rfl) dX11_putsRight_10 H (fun x10 m10 v10 hh10 H hp => ?_)
  refine cx_backI hp (fun hx10 => ?_)
  refine jn_ind (fun (f9 : Mem → Option Rz) => ∀ (m36 : Mem), f9 m36 = some r → AW l D base sc RX11 yX11_putsRight cX11_putsRight 2 none 1 0 0 ad (E mi) (pV E r) 0 0 (E m36) 36 [] []) (fun m36 H => ?_) (fun j36 hj36 H => ?_) H
  · -- 36
    exact cx_vret (pc := 36) rfl (Nat.le_of_ble_eq_true rfl) (Nat.le_of_ble_eq_true rfl) dX11_putsRight_36 H
  refine cx_if_ne (pc := 13) 36 hx10 dX11_putsRight_13 rfl H (fun H => ?_) (fun H => ?_)
  · -- 13: 16
    refine aw_aload_n (pc := 16) dX11_putsRight_16 rfl ?_
    refine cx_gtC (pc := 17) 121 hE r100 fl_X11_23 rfl rfl (Nat.le_of_ble_eq_true rfl) dX11_putsRight_17 ?_
    refine aw_aload_n (pc := 20) dX11_putsRight_20 rfl ?_
    refine cx_gtF (pc := 21) hE r100 fl_X11_20 rfl rfl (Nat.le_of_ble_eq_true rfl) dX11_putsRight_21 H (fun x21 hx21 H => ?_)
    refine aw_iload_n (pc := 24) dX11_putsRight_24 rfl ?_
    refine cx_stI (pc := 25) hE r121 hx21 dX11_putsRight_25 H (fun m25 H => ?_)
    refine aw_aload_n (pc := 26) dX11_putsRight_26 rfl ?_
    refine aw_dup (pc := 27) dX11_putsRight_27 rfl ?_
    refine cx_gtF (pc := 28) hE r100 fl_X11_20 rfl rfl (Nat.le_of_ble_eq_true rfl) dX11_putsRight_28 H (fun x28 hx28 H => ?_)
    refine cx_iconst (pc := 31) dX11_putsRight_31 ?_
    refine cx_iadd (pc := 32) dX11_putsRight_32 ?_
    refine cx_ptF (pc := 33) tyX11 hE r100 fl_X11_20 (fun r h => ⟨gty_X11 r h, by cases h; rfl⟩) rfl rfl rfl (Nat.le_of_ble_eq_true rfl) dX11_putsRight_33 H (fun m33 H => ?_)
    exact AW.sel [] rfl (hj36 _ H)
  · -- 13: 36
    exact AW.sel [] rfl (hj36 _ H)
/-- X11 leftBack (I)I -/
def f_X11_leftBack (n : Nat) (p1 : Int) (mi : Mem) : Option Rz :=
  ldI mi 104 p1 fun x5 =>
  lp (F := Int → Mem → Option Rz) (fun _ _ => none) (fun w7 v2_7 m7 =>
    ldI m7 105 p1 fun x13 =>
    if v2_7 < x13 then (
      ldI m7 102 v2_7 fun x23 =>
      cal (f_X11_isUnder n x23 m7) fun x24 m24 =>
      if x24 = 0 then (
        w7 (w32 (v2_7 + 1)) m24
      ) else
      ldI m24 102 v2_7 fun x35 =>
      rt x35 m24
    ) else
    rt (-1) m7
  ) n x5 mi
set_option maxRecDepth 100000 in
set_option maxHeartbeats 4000000 in
theorem s_X11_leftBack (l : Launch) (sc : g_S) (E : Mem → g_H) (R : Nat → Prop) (hE : LE E R) (hR : RRF R) (n : Nat)  (p1 : Int) (hp1 : inR p1) (mi : Mem) (r : Rz) (H : f_X11_leftBack n p1 mi = some r) : AMet l sc yX11_leftBack cX11_leftBack 3 (some FieldType.int) 303 0 0 [.ref 100, iv p1] (E mi) (pI E r) := by
  have r100 : R 100 := hR 100 (Nat.le_of_ble_eq_true rfl) (Nat.le_of_ble_eq_true rfl)
  have r102 : R 102 := hR 102 (Nat.le_of_ble_eq_true rfl) (Nat.le_of_ble_eq_true rfl)
  have r104 : R 104 := hR 104 (Nat.le_of_ble_eq_true rfl) (Nat.le_of_ble_eq_true rfl)
  have r105 : R 105 := hR 105 (Nat.le_of_ble_eq_true rfl) (Nat.le_of_ble_eq_true rfl)
  unfold f_X11_leftBack at H
  refine AMet.of (own := RX11) (by decide +kernel) rfl (Nat.le_of_ble_eq_true rfl) [(0, .ref 100), (1, iv p1)] rfl (fun D base ad => ?_)
  refine aw_aload_n (pc := 0) dX11_leftBack_0 rfl ?_
  refine cx_gtC (pc := 1) 104 hE r100 fl_X11_26 rfl rfl (Nat.le_of_ble_eq_true rfl) dX11_leftBack_1 ?_
  refine aw_iload_n (pc := 4) dX11_leftBack_4 rfl ?_
  refine cx_ldI (pc := 5) hE r104 hp1 dX11_leftBack_5 H (fun x5 hx5 H => ?_)
  refine aw_istore_n (pc := 6) [(2, iv x5), (0, .ref 100), (1, iv p1)] dX11_leftBack_6 rfl (by decide) ?_
  refine AW.sel [1, 2, 0] rfl (lp_ind (bot := fun _ _ => none) (fun (f9 : Int → Mem → Option Rz) => ∀ (v2_7 : Int) (m7 : Mem), inR v2_7 → f9 v2_7 m7 = some r → AW l D base sc RX11 yX11_leftBack cX11_leftBack 3 (some FieldType.int) 303 0 0 ad (E mi) (pI E r) 0 0 (E m7) 7 [(0, .ref 100), (1, iv p1), (2, iv v2_7)] []) (fun _ _ _ h9 => nomatch h9) (fun w7 ih7 v2_7 m7 hv2_7 H => ?_) n _ _ hx5 H)
  refine aw_iload_n (pc := 7) dX11_leftBack_7 rfl ?_
  refine aw_aload_n (pc := 8) dX11_leftBack_8 rfl ?_
  refine cx_gtC (pc := 9) 105 hE r100 fl_X11_32 rfl rfl (Nat.le_of_ble_eq_true rfl) dX11_leftBack_9 ?_
  refine aw_iload_n (pc := 12) dX11_leftBack_12 rfl ?_
  refine cx_ldI (pc := 13) hE r105 hp1 dX11_leftBack_13 H (fun x13 hx13 H => ?_)
  refine cx_icmp_ge (pc := 14) 43 hv2_7 hx13 dX11_leftBack_14 rfl H (fun H => ?_) (fun H => ?_)
  · -- 14: 17
    refine aw_aload_n (pc := 17) dX11_leftBack_17 rfl ?_
    refine aw_aload_n (pc := 18) dX11_leftBack_18 rfl ?_
    refine cx_gtC (pc := 19) 102 hE r100 fl_X11_35 rfl rfl (Nat.le_of_ble_eq_true rfl) dX11_leftBack_19 ?_
    refine aw_iload_n (pc := 22) dX11_leftBack_22 rfl ?_
    refine cx_ldI (pc := 23) hE r102 hv2_7 dX11_leftBack_23 H (fun x23 hx23 H => ?_)
    refine cx_callV (pc := 24) (P := pI) (dC := 302) (mcC := 0) (msC := 0) [iv x23] hE r100 (fun r1 H1 => s_X11_isUnder l sc E R hE hR n x23 hx23 m7 r1 H1) ca_X11_140 rfl ⟨_, rfl, rfl⟩ rfl rfl (Nat.le_of_ble_eq_true rfl) (Nat.le_of_ble_eq_true rfl) (Nat.le_of_ble_eq_true rfl) (Nat.le_of_ble_eq_true rfl) dX11_leftBack_24 H (fun x24 m24 v24 hh24 H hp => ?_)
    refine cx_backI hp (fun hx24 => ?_)
    refine cx_if_eq (pc := 27) 37 hx24 dX11_leftBack_27 rfl H (fun H => ?_) (fun H => ?_)
    · -- 27: 37
      refine cx_iinc (pc := 37) [(2, iv (w32 (v2_7 + 1))), (0, .ref 100), (1, iv p1)] dX11_leftBack_37 rfl rfl (by decide) ?_
      refine aw_goto (pc := 40) 7 dX11_leftBack_40 rfl ?_
      exact AW.sel [1, 2, 0] rfl (ih7 _ _ (inR_w32 _) H)
    · -- 27: 30
      refine aw_aload_n (pc := 30) dX11_leftBack_30 rfl ?_
      refine cx_gtC (pc := 31) 102 hE r100 fl_X11_35 rfl rfl (Nat.le_of_ble_eq_true rfl) dX11_leftBack_31 ?_
      refine aw_iload_n (pc := 34) dX11_leftBack_34 rfl ?_
      refine cx_ldI (pc := 35) hE r102 hv2_7 dX11_leftBack_35 H (fun x35 hx35 H => ?_)
      exact cx_iret (pc := 36) hx35 rfl (Nat.le_of_ble_eq_true rfl) (Nat.le_of_ble_eq_true rfl) dX11_leftBack_36 H
  · -- 14: 43
    refine cx_iconst (pc := 43) dX11_leftBack_43 ?_
    exact cx_iret (pc := 44) (inR_lit _ rfl) rfl (Nat.le_of_ble_eq_true rfl) (Nat.le_of_ble_eq_true rfl) dX11_leftBack_44 H
/-- X11 rightBack (I)I -/
def f_X11_rightBack (n : Nat) (p1 : Int) (mi : Mem) : Option Rz :=
  ldI mi 103 p1 fun x5 =>
  lp (F := Int → Mem → Option Rz) (fun _ _ => none) (fun w7 v2_7 m7 =>
    ldI m7 104 p1 fun x13 =>
    if v2_7 < x13 then (
      ldI m7 102 v2_7 fun x23 =>
      cal (f_X11_isOver n x23 m7) fun x24 m24 =>
      if x24 = 0 then (
        w7 (w32 (v2_7 + 1)) m24
      ) else
      ldI m24 102 v2_7 fun x35 =>
      rt x35 m24
    ) else
    rt (-1) m7
  ) n x5 mi
set_option maxRecDepth 100000 in
set_option maxHeartbeats 4000000 in
theorem s_X11_rightBack (l : Launch) (sc : g_S) (E : Mem → g_H) (R : Nat → Prop) (hE : LE E R) (hR : RRF R) (n : Nat)  (p1 : Int) (hp1 : inR p1) (mi : Mem) (r : Rz) (H : f_X11_rightBack n p1 mi = some r) : AMet l sc yX11_rightBack cX11_rightBack 3 (some FieldType.int) 303 0 0 [.ref 100, iv p1] (E mi) (pI E r) := by
  have r100 : R 100 := hR 100 (Nat.le_of_ble_eq_true rfl) (Nat.le_of_ble_eq_true rfl)
  have r102 : R 102 := hR 102 (Nat.le_of_ble_eq_true rfl) (Nat.le_of_ble_eq_true rfl)
  have r103 : R 103 := hR 103 (Nat.le_of_ble_eq_true rfl) (Nat.le_of_ble_eq_true rfl)
  have r104 : R 104 := hR 104 (Nat.le_of_ble_eq_true rfl) (Nat.le_of_ble_eq_true rfl)
  unfold f_X11_rightBack at H
  refine AMet.of (own := RX11) (by decide +kernel) rfl (Nat.le_of_ble_eq_true rfl) [(0, .ref 100), (1, iv p1)] rfl (fun D base ad => ?_)
  refine aw_aload_n (pc := 0) dX11_rightBack_0 rfl ?_
  refine cx_gtC (pc := 1) 103 hE r100 fl_X11_29 rfl rfl (Nat.le_of_ble_eq_true rfl) dX11_rightBack_1 ?_
  refine aw_iload_n (pc := 4) dX11_rightBack_4 rfl ?_
  refine cx_ldI (pc := 5) hE r103 hp1 dX11_rightBack_5 H (fun x5 hx5 H => ?_)
  refine aw_istore_n (pc := 6) [(2, iv x5), (0, .ref 100), (1, iv p1)] dX11_rightBack_6 rfl (by decide) ?_
  refine AW.sel [1, 2, 0] rfl (lp_ind (bot := fun _ _ => none) (fun (f9 : Int → Mem → Option Rz) => ∀ (v2_7 : Int) (m7 : Mem), inR v2_7 → f9 v2_7 m7 = some r → AW l D base sc RX11 yX11_rightBack cX11_rightBack 3 (some FieldType.int) 303 0 0 ad (E mi) (pI E r) 0 0 (E m7) 7 [(0, .ref 100), (1, iv p1), (2, iv v2_7)] []) (fun _ _ _ h9 => nomatch h9) (fun w7 ih7 v2_7 m7 hv2_7 H => ?_) n _ _ hx5 H)
  refine aw_iload_n (pc := 7) dX11_rightBack_7 rfl ?_
  refine aw_aload_n (pc := 8) dX11_rightBack_8 rfl ?_
  refine cx_gtC (pc := 9) 104 hE r100 fl_X11_26 rfl rfl (Nat.le_of_ble_eq_true rfl) dX11_rightBack_9 ?_
  refine aw_iload_n (pc := 12) dX11_rightBack_12 rfl ?_
  refine cx_ldI (pc := 13) hE r104 hp1 dX11_rightBack_13 H (fun x13 hx13 H => ?_)
  refine cx_icmp_ge (pc := 14) 43 hv2_7 hx13 dX11_rightBack_14 rfl H (fun H => ?_) (fun H => ?_)
  · -- 14: 17
    refine aw_aload_n (pc := 17) dX11_rightBack_17 rfl ?_
    refine aw_aload_n (pc := 18) dX11_rightBack_18 rfl ?_
    refine cx_gtC (pc := 19) 102 hE r100 fl_X11_35 rfl rfl (Nat.le_of_ble_eq_true rfl) dX11_rightBack_19 ?_
    refine aw_iload_n (pc := 22) dX11_rightBack_22 rfl ?_
    refine cx_ldI (pc := 23) hE r102 hv2_7 dX11_rightBack_23 H (fun x23 hx23 H => ?_)
    refine cx_callV (pc := 24) (P := pI) (dC := 302) (mcC := 0) (msC := 0) [iv x23] hE r100 (fun r1 H1 => s_X11_isOver l sc E R hE hR n x23 hx23 m7 r1 H1) ca_X11_134 rfl ⟨_, rfl, rfl⟩ rfl rfl (Nat.le_of_ble_eq_true rfl) (Nat.le_of_ble_eq_true rfl) (Nat.le_of_ble_eq_true rfl) (Nat.le_of_ble_eq_true rfl) dX11_rightBack_24 H (fun x24 m24 v24 hh24 H hp => ?_)
    refine cx_backI hp (fun hx24 => ?_)
    refine cx_if_eq (pc := 27) 37 hx24 dX11_rightBack_27 rfl H (fun H => ?_) (fun H => ?_)
    · -- 27: 37
      refine cx_iinc (pc := 37) [(2, iv (w32 (v2_7 + 1))), (0, .ref 100), (1, iv p1)] dX11_rightBack_37 rfl rfl (by decide) ?_
      refine aw_goto (pc := 40) 7 dX11_rightBack_40 rfl ?_
      exact AW.sel [1, 2, 0] rfl (ih7 _ _ (inR_w32 _) H)
    · -- 27: 30
      refine aw_aload_n (pc := 30) dX11_rightBack_30 rfl ?_
      refine cx_gtC (pc := 31) 102 hE r100 fl_X11_35 rfl rfl (Nat.le_of_ble_eq_true rfl) dX11_rightBack_31 ?_
      refine aw_iload_n (pc := 34) dX11_rightBack_34 rfl ?_
      refine cx_ldI (pc := 35) hE r102 hv2_7 dX11_rightBack_35 H (fun x35 hx35 H => ?_)
      exact cx_iret (pc := 36) hx35 rfl (Nat.le_of_ble_eq_true rfl) (Nat.le_of_ble_eq_true rfl) dX11_rightBack_36 H
  · -- 14: 43
    refine cx_iconst (pc := 43) dX11_rightBack_43 ?_
    exact cx_iret (pc := 44) (inR_lit _ rfl) rfl (Nat.le_of_ble_eq_true rfl) (Nat.le_of_ble_eq_true rfl) dX11_rightBack_44 H
/-- X11 bypassesLeft ()V -/
def f_X11_bypassesLeft (n : Nat)  (mi : Mem) : Option Rz :=
  lp (F := Int → Mem → Option Rz) (fun _ _ => none) (fun w2 v1_2 m2 =>
    gtF m2 100 23 fun x4 =>
    if v1_2 < x4 then (
      ldI m2 120 v1_2 fun x16 =>
      cal (f_X11_leftBack n x16 m2) fun x17 m17 =>
      jn (fun (v1_89 : Int) (m89 : Mem) =>
        w2 v1_89 m89
      ) fun (j89 : Int → Mem → Option Rz) =>
      if x17 < 0 then (
        j89 (w32 (v1_2 + 1)) m17
      ) else
      gtF m17 100 23 fun x33 =>
      ptF m17 100 23 (w32 (x33 - 1)) fun m38 =>
      gtF m38 100 23 fun x51 =>
      ldI m38 120 x51 fun x54 =>
      stI m38 120 v1_2 x54 fun m55 =>
      ldI m55 103 x17 fun x61 =>
      lp (F := Int → Mem → Option Rz) (fun _ _ => none) (fun w63 v3_63 m63 =>
        ldI m63 104 x17 fun x69 =>
        if v3_63 < x69 then (
          ldI m63 102 v3_63 fun x79 =>
          cal (f_X11_putsLeft n x79 m63) fun _ m80 =>
          w63 (w32 (v3_63 + 1)) m80
        ) else
        j89 v1_2 m63
      ) n x61 m55
    ) else
    rt 0 m2
  ) n 0 mi
set_option maxRecDepth 100000 in
set_option maxHeartbeats 4000000 in
theorem s_X11_bypassesLeft (l : Launch) (sc : g_S) (E : Mem → g_H) (R : Nat → Prop) (hE : LE E R) (hR : RRF R) (n : Nat)    (mi : Mem) (r : Rz) (H : f_X11_bypassesLeft n  mi = some r) : AMet l sc yX11_bypassesLeft cX11_bypassesLeft 4 none 304 0 0 [.ref 100] (E mi) (pV E r) := by
  have r100 : R 100 := hR 100 (Nat.le_of_ble_eq_true rfl) (Nat.le_of_ble_eq_true rfl)
  have r102 : R 102 := hR 102 (Nat.le_of_ble_eq_true rfl) (Nat.le_of_ble_eq_true rfl)
  have r103 : R 103 := hR 103 (Nat.le_of_ble_eq_true rfl) (Nat.le_of_ble_eq_true rfl)
  have r104 : R 104 := hR 104 (Nat.le_of_ble_eq_true rfl) (Nat.le_of_ble_eq_true rfl)
  have r120 : R 120 := hR 120 (Nat.le_of_ble_eq_true rfl) (Nat.le_of_ble_eq_true rfl)
  unfold f_X11_bypassesLeft at H
  refine AMet.of (own := RX11) (by decide +kernel) rfl (Nat.le_of_ble_eq_true rfl) [(0, .ref 100)] rfl (fun D base ad => ?_)
  refine cx_iconst (pc := 0) dX11_bypassesLeft_0 ?_
  refine aw_istore_n (pc := 1) [(1, iv 0), (0, .ref 100)] dX11_bypassesLeft_1 rfl (by decide) ?_
  refine AW.sel [1, 0] rfl (lp_ind (bot := fun _ _ => none) (fun (f9 : Int → Mem → Option Rz) => ∀ (v1_2 : Int) (m2 : Mem), inR v1_2 → f9 v1_2 m2 = some r → AW l D base sc RX11 yX11_bypassesLeft cX11_bypassesLeft 4 none 304 0 0 ad (E mi) (pV E r) 0 0 (E m2) 2 [(0, .ref 100), (1, iv v1_2)] []) (fun _ _ _ h9 => nomatch h9) (fun w2 ih2 v1_2 m2 hv1_2 H => ?_) n _ _ (inR_lit _ rfl) H)
  refine aw_iload_n (pc := 2) dX11_bypassesLeft_2 rfl ?_
  refine aw_aload_n (pc := 3) dX11_bypassesLeft_3 rfl ?_
  refine cx_gtF (pc := 4) hE r100 fl_X11_9 rfl rfl (Nat.le_of_ble_eq_true rfl) dX11_bypassesLeft_4 H (fun x4 hx4 H => ?_)
  refine cx_icmp_ge (pc := 7) 92 hv1_2 hx4 dX11_bypassesLeft_7 rfl H (fun H => ?_) (fun H => ?_)
  · -- 7: 10
    refine aw_aload_n (pc := 10) dX11_bypassesLeft_10 rfl ?_
    refine aw_aload_n (pc := 11) dX11_bypassesLeft_11 rfl ?_
    refine cx_gtC (pc := 12) 120 hE r100 fl_X11_13 rfl rfl (Nat.le_of_ble_eq_true rfl) dX11_bypassesLeft_12 ?_
    refine aw_iload_n (pc := 15) dX11_bypassesLeft_15 rfl ?_
    refine cx_ldI (pc := 16) hE r120 hv1_2 dX11_bypassesLeft_16 H (fun x16 hx16 H => ?_)
    refine cx_callV (pc := 17) (P := pI) (dC := 303) (mcC := 0) (msC := 0) [iv x16] hE r100 (fun r1 H1 => s_X11_leftBack l sc E R hE hR n x16 hx16 m2 r1 H1) ca_X11_143 rfl ⟨_, rfl, rfl⟩ rfl rfl (Nat.le_of_ble_eq_true rfl) (Nat.le_of_ble_eq_true rfl) (Nat.le_of_ble_eq_true rfl) (Nat.le_of_ble_eq_true rfl) dX11_bypassesLeft_17 H (fun x17 m17 v17 hh17 H hp => ?_)
    refine cx_backI hp (fun hx17 => ?_)
    refine aw_istore_n (pc := 20) [(2, iv x17), (0, .ref 100), (1, iv v1_2)] dX11_bypassesLeft_20 rfl (by decide) ?_
    refine aw_iload_n (pc := 21) dX11_bypassesLeft_21 rfl ?_
    refine jn_ind (fun (f9 : Int → Mem → Option Rz) => ∀ (v1_89 : Int) (m89 : Mem), inR v1_89 → f9 v1_89 m89 = some r → AW l D base sc RX11 yX11_bypassesLeft cX11_bypassesLeft 4 none 304 0 0 ad (E mi) (pV E r) 0 0 (E m89) 89 [(0, .ref 100), (1, iv v1_89)] []) (fun v1_89 m89 hv1_89 H => ?_) (fun j89 hj89 H => ?_) H
    · -- 89
      refine aw_goto (pc := 89) 2 dX11_bypassesLeft_89 rfl ?_
      exact AW.sel [0, 1] rfl (ih2 _ _ hv1_89 H)
    refine cx_if_ge (pc := 22) 31 hx17 dX11_bypassesLeft_22 rfl H (fun H => ?_) (fun H => ?_)
    · -- 22: 25
      refine cx_iinc (pc := 25) [(1, iv (w32 (v1_2 + 1))), (2, iv x17), (0, .ref 100)] dX11_bypassesLeft_25 rfl rfl (by decide) ?_
      refine aw_goto (pc := 28) 89 dX11_bypassesLeft_28 rfl ?_
      exact AW.sel [2, 0] rfl (hj89 _ _ (inR_w32 _) H)
    · -- 22: 31
      refine aw_aload_n (pc := 31) dX11_bypassesLeft_31 rfl ?_
      refine aw_dup (pc := 32) dX11_bypassesLeft_32 rfl ?_
      refine cx_gtF (pc := 33) hE r100 fl_X11_9 rfl rfl (Nat.le_of_ble_eq_true rfl) dX11_bypassesLeft_33 H (fun x33 hx33 H => ?_)
      refine cx_iconst (pc := 36) dX11_bypassesLeft_36 ?_
      refine cx_isub (pc := 37) dX11_bypassesLeft_37 ?_
      refine cx_ptF (pc := 38) tyX11 hE r100 fl_X11_9 (fun r h => ⟨gty_X11 r h, by cases h; rfl⟩) rfl rfl rfl (Nat.le_of_ble_eq_true rfl) dX11_bypassesLeft_38 H (fun m38 H => ?_)
      refine aw_aload_n (pc := 41) dX11_bypassesLeft_41 rfl ?_
      refine cx_gtC (pc := 42) 120 hE r100 fl_X11_13 rfl rfl (Nat.le_of_ble_eq_true rfl) dX11_bypassesLeft_42 ?_
      refine aw_iload_n (pc := 45) dX11_bypassesLeft_45 rfl ?_
      refine aw_aload_n (pc := 46) dX11_bypassesLeft_46 rfl ?_
      refine cx_gtC (pc := 47) 120 hE r100 fl_X11_13 rfl rfl (Nat.le_of_ble_eq_true rfl) dX11_bypassesLeft_47 ?_
      refine aw_aload_n (pc := 50) dX11_bypassesLeft_50 rfl ?_
      refine cx_gtF (pc := 51) hE r100 fl_X11_9 rfl rfl (Nat.le_of_ble_eq_true rfl) dX11_bypassesLeft_51 H (fun x51 hx51 H => ?_)
      refine cx_ldI (pc := 54) hE r120 hx51 dX11_bypassesLeft_54 H (fun x54 hx54 H => ?_)
      refine cx_stI (pc := 55) hE r120 hv1_2 dX11_bypassesLeft_55 H (fun m55 H => ?_)
      refine aw_aload_n (pc := 56) dX11_bypassesLeft_56 rfl ?_
      refine cx_gtC (pc := 57) 103 hE r100 fl_X11_29 rfl rfl (Nat.le_of_ble_eq_true rfl) dX11_bypassesLeft_57 ?_
      refine aw_iload_n (pc := 60) dX11_bypassesLeft_60 rfl ?_
      refine cx_ldI (pc := 61) hE r103 hx17 dX11_bypassesLeft_61 H (fun x61 hx61 H => ?_)
      refine aw_istore_n (pc := 62) [(3, iv x61), (2, iv x17), (0, .ref 100), (1, iv v1_2)] dX11_bypassesLeft_62 rfl (by decide) ?_
      refine AW.sel [2, 3, 1, 0] rfl (lp_ind (bot := fun _ _ => none) (fun (f9 : Int → Mem → Option Rz) => ∀ (v3_63 : Int) (m63 : Mem), inR v3_63 → f9 v3_63 m63 = some r → AW l D base sc RX11 yX11_bypassesLeft cX11_bypassesLeft 4 none 304 0 0 ad (E mi) (pV E r) 0 0 (E m63) 63 [(0, .ref 100), (1, iv v1_2), (2, iv x17), (3, iv v3_63)] []) (fun _ _ _ h9 => nomatch h9) (fun w63 ih63 v3_63 m63 hv3_63 H => ?_) n _ _ hx61 H)
      refine aw_iload_n (pc := 63) dX11_bypassesLeft_63 rfl ?_
      refine aw_aload_n (pc := 64) dX11_bypassesLeft_64 rfl ?_
      refine cx_gtC (pc := 65) 104 hE r100 fl_X11_26 rfl rfl (Nat.le_of_ble_eq_true rfl) dX11_bypassesLeft_65 ?_
      refine aw_iload_n (pc := 68) dX11_bypassesLeft_68 rfl ?_
      refine cx_ldI (pc := 69) hE r104 hx17 dX11_bypassesLeft_69 H (fun x69 hx69 H => ?_)
      refine cx_icmp_ge (pc := 70) 89 hv3_63 hx69 dX11_bypassesLeft_70 rfl H (fun H => ?_) (fun H => ?_)
      · -- 70: 73
        refine aw_aload_n (pc := 73) dX11_bypassesLeft_73 rfl ?_
        refine aw_aload_n (pc := 74) dX11_bypassesLeft_74 rfl ?_
        refine cx_gtC (pc := 75) 102 hE r100 fl_X11_35 rfl rfl (Nat.le_of_ble_eq_true rfl) dX11_bypassesLeft_75 ?_
        refine aw_iload_n (pc := 78) dX11_bypassesLeft_78 rfl ?_
        refine cx_ldI (pc := 79) hE r102 hv3_63 dX11_bypassesLeft_79 H (fun x79 hx79 H => ?_)
        refine cx_callV (pc := 80) (P := pV) (dC := 1) (mcC := 0) (msC := 0) [iv x79] hE r100 (fun r1 H1 => s_X11_putsLeft l sc E R hE hR n x79 hx79 m63 r1 H1) ca_X11_146 rfl ⟨_, rfl, rfl⟩ rfl rfl (Nat.le_of_ble_eq_true rfl) (Nat.le_of_ble_eq_true rfl) (Nat.le_of_ble_eq_true rfl) (Nat.le_of_ble_eq_true rfl) dX11_bypassesLeft_80 H (fun x80 m80 v80 hh80 H hp => ?_)
        refine cx_backV hp ?_
        refine cx_iinc (pc := 83) [(3, iv (w32 (v3_63 + 1))), (0, .ref 100), (1, iv v1_2), (2, iv x17)] dX11_bypassesLeft_83 rfl rfl (by decide) ?_
        refine aw_goto (pc := 86) 63 dX11_bypassesLeft_86 rfl ?_
        exact AW.sel [1, 2, 3, 0] rfl (ih63 _ _ (inR_w32 _) H)
      · -- 70: 89
        exact AW.sel [0, 1] rfl (hj89 _ _ hv1_2 H)
  · -- 7: 92
    exact cx_vret (pc := 92) rfl (Nat.le_of_ble_eq_true rfl) (Nat.le_of_ble_eq_true rfl) dX11_bypassesLeft_92 H
/-- X11 bypassesRight ()V -/
def f_X11_bypassesRight (n : Nat)  (mi : Mem) : Option Rz :=
  lp (F := Int → Mem → Option Rz) (fun _ _ => none) (fun w2 v1_2 m2 =>
    gtF m2 100 24 fun x4 =>
    if v1_2 < x4 then (
      ldI m2 121 v1_2 fun x16 =>
      cal (f_X11_rightBack n x16 m2) fun x17 m17 =>
      jn (fun (v1_89 : Int) (m89 : Mem) =>
        w2 v1_89 m89
      ) fun (j89 : Int → Mem → Option Rz) =>
      if x17 < 0 then (
        j89 (w32 (v1_2 + 1)) m17
      ) else
      gtF m17 100 24 fun x33 =>
      ptF m17 100 24 (w32 (x33 - 1)) fun m38 =>
      gtF m38 100 24 fun x51 =>
      ldI m38 121 x51 fun x54 =>
      stI m38 121 v1_2 x54 fun m55 =>
      ldI m55 104 x17 fun x61 =>
      lp (F := Int → Mem → Option Rz) (fun _ _ => none) (fun w63 v3_63 m63 =>
        ldI m63 105 x17 fun x69 =>
        if v3_63 < x69 then (
          ldI m63 102 v3_63 fun x79 =>
          cal (f_X11_putsRight n x79 m63) fun _ m80 =>
          w63 (w32 (v3_63 + 1)) m80
        ) else
        j89 v1_2 m63
      ) n x61 m55
    ) else
    rt 0 m2
  ) n 0 mi
set_option maxRecDepth 100000 in
set_option maxHeartbeats 4000000 in
theorem s_X11_bypassesRight (l : Launch) (sc : g_S) (E : Mem → g_H) (R : Nat → Prop) (hE : LE E R) (hR : RRF R) (n : Nat)    (mi : Mem) (r : Rz) (H : f_X11_bypassesRight n  mi = some r) : AMet l sc yX11_bypassesRight cX11_bypassesRight 4 none 304 0 0 [.ref 100] (E mi) (pV E r) := by
  have r100 : R 100 := hR 100 (Nat.le_of_ble_eq_true rfl) (Nat.le_of_ble_eq_true rfl)
  have r102 : R 102 := hR 102 (Nat.le_of_ble_eq_true rfl) (Nat.le_of_ble_eq_true rfl)
  have r104 : R 104 := hR 104 (Nat.le_of_ble_eq_true rfl) (Nat.le_of_ble_eq_true rfl)
  have r105 : R 105 := hR 105 (Nat.le_of_ble_eq_true rfl) (Nat.le_of_ble_eq_true rfl)
  have r121 : R 121 := hR 121 (Nat.le_of_ble_eq_true rfl) (Nat.le_of_ble_eq_true rfl)
  unfold f_X11_bypassesRight at H
  refine AMet.of (own := RX11) (by decide +kernel) rfl (Nat.le_of_ble_eq_true rfl) [(0, .ref 100)] rfl (fun D base ad => ?_)
  refine cx_iconst (pc := 0) dX11_bypassesRight_0 ?_
  refine aw_istore_n (pc := 1) [(1, iv 0), (0, .ref 100)] dX11_bypassesRight_1 rfl (by decide) ?_
  refine AW.sel [1, 0] rfl (lp_ind (bot := fun _ _ => none) (fun (f9 : Int → Mem → Option Rz) => ∀ (v1_2 : Int) (m2 : Mem), inR v1_2 → f9 v1_2 m2 = some r → AW l D base sc RX11 yX11_bypassesRight cX11_bypassesRight 4 none 304 0 0 ad (E mi) (pV E r) 0 0 (E m2) 2 [(0, .ref 100), (1, iv v1_2)] []) (fun _ _ _ h9 => nomatch h9) (fun w2 ih2 v1_2 m2 hv1_2 H => ?_) n _ _ (inR_lit _ rfl) H)
  refine aw_iload_n (pc := 2) dX11_bypassesRight_2 rfl ?_
  refine aw_aload_n (pc := 3) dX11_bypassesRight_3 rfl ?_
  refine cx_gtF (pc := 4) hE r100 fl_X11_20 rfl rfl (Nat.le_of_ble_eq_true rfl) dX11_bypassesRight_4 H (fun x4 hx4 H => ?_)
  refine cx_icmp_ge (pc := 7) 92 hv1_2 hx4 dX11_bypassesRight_7 rfl H (fun H => ?_) (fun H => ?_)
  · -- 7: 10
    refine aw_aload_n (pc := 10) dX11_bypassesRight_10 rfl ?_
    refine aw_aload_n (pc := 11) dX11_bypassesRight_11 rfl ?_
    refine cx_gtC (pc := 12) 121 hE r100 fl_X11_23 rfl rfl (Nat.le_of_ble_eq_true rfl) dX11_bypassesRight_12 ?_
    refine aw_iload_n (pc := 15) dX11_bypassesRight_15 rfl ?_
    refine cx_ldI (pc := 16) hE r121 hv1_2 dX11_bypassesRight_16 H (fun x16 hx16 H => ?_)
    refine cx_callV (pc := 17) (P := pI) (dC := 303) (mcC := 0) (msC := 0) [iv x16] hE r100 (fun r1 H1 => s_X11_rightBack l sc E R hE hR n x16 hx16 m2 r1 H1) ca_X11_149 rfl ⟨_, rfl, rfl⟩ rfl rfl (Nat.le_of_ble_eq_true rfl) (Nat.le_of_ble_eq_true rfl) (Nat.le_of_ble_eq_true rfl) (Nat.le_of_ble_eq_true rfl) dX11_bypassesRight_17 H (fun x17 m17 v17 hh17 H hp => ?_)
    refine cx_backI hp (fun hx17 => ?_)
    refine aw_istore_n (pc := 20) [(2, iv x17), (0, .ref 100), (1, iv v1_2)] dX11_bypassesRight_20 rfl (by decide) ?_
    refine aw_iload_n (pc := 21) dX11_bypassesRight_21 rfl ?_
    refine jn_ind (fun (f9 : Int → Mem → Option Rz) => ∀ (v1_89 : Int) (m89 : Mem), inR v1_89 → f9 v1_89 m89 = some r → AW l D base sc RX11 yX11_bypassesRight cX11_bypassesRight 4 none 304 0 0 ad (E mi) (pV E r) 0 0 (E m89) 89 [(0, .ref 100), (1, iv v1_89)] []) (fun v1_89 m89 hv1_89 H => ?_) (fun j89 hj89 H => ?_) H
    · -- 89
      refine aw_goto (pc := 89) 2 dX11_bypassesRight_89 rfl ?_
      exact AW.sel [0, 1] rfl (ih2 _ _ hv1_89 H)
    refine cx_if_ge (pc := 22) 31 hx17 dX11_bypassesRight_22 rfl H (fun H => ?_) (fun H => ?_)
    · -- 22: 25
      refine cx_iinc (pc := 25) [(1, iv (w32 (v1_2 + 1))), (2, iv x17), (0, .ref 100)] dX11_bypassesRight_25 rfl rfl (by decide) ?_
      refine aw_goto (pc := 28) 89 dX11_bypassesRight_28 rfl ?_
      exact AW.sel [2, 0] rfl (hj89 _ _ (inR_w32 _) H)
    · -- 22: 31
      refine aw_aload_n (pc := 31) dX11_bypassesRight_31 rfl ?_
      refine aw_dup (pc := 32) dX11_bypassesRight_32 rfl ?_
      refine cx_gtF (pc := 33) hE r100 fl_X11_20 rfl rfl (Nat.le_of_ble_eq_true rfl) dX11_bypassesRight_33 H (fun x33 hx33 H => ?_)
      refine cx_iconst (pc := 36) dX11_bypassesRight_36 ?_
      refine cx_isub (pc := 37) dX11_bypassesRight_37 ?_
      refine cx_ptF (pc := 38) tyX11 hE r100 fl_X11_20 (fun r h => ⟨gty_X11 r h, by cases h; rfl⟩) rfl rfl rfl (Nat.le_of_ble_eq_true rfl) dX11_bypassesRight_38 H (fun m38 H => ?_)
      refine aw_aload_n (pc := 41) dX11_bypassesRight_41 rfl ?_
      refine cx_gtC (pc := 42) 121 hE r100 fl_X11_23 rfl rfl (Nat.le_of_ble_eq_true rfl) dX11_bypassesRight_42 ?_
      refine aw_iload_n (pc := 45) dX11_bypassesRight_45 rfl ?_
      refine aw_aload_n (pc := 46) dX11_bypassesRight_46 rfl ?_
      refine cx_gtC (pc := 47) 121 hE r100 fl_X11_23 rfl rfl (Nat.le_of_ble_eq_true rfl) dX11_bypassesRight_47 ?_
      refine aw_aload_n (pc := 50) dX11_bypassesRight_50 rfl ?_
      refine cx_gtF (pc := 51) hE r100 fl_X11_20 rfl rfl (Nat.le_of_ble_eq_true rfl) dX11_bypassesRight_51 H (fun x51 hx51 H => ?_)
      refine cx_ldI (pc := 54) hE r121 hx51 dX11_bypassesRight_54 H (fun x54 hx54 H => ?_)
      refine cx_stI (pc := 55) hE r121 hv1_2 dX11_bypassesRight_55 H (fun m55 H => ?_)
      refine aw_aload_n (pc := 56) dX11_bypassesRight_56 rfl ?_
      refine cx_gtC (pc := 57) 104 hE r100 fl_X11_26 rfl rfl (Nat.le_of_ble_eq_true rfl) dX11_bypassesRight_57 ?_
      refine aw_iload_n (pc := 60) dX11_bypassesRight_60 rfl ?_
      refine cx_ldI (pc := 61) hE r104 hx17 dX11_bypassesRight_61 H (fun x61 hx61 H => ?_)
      refine aw_istore_n (pc := 62) [(3, iv x61), (2, iv x17), (0, .ref 100), (1, iv v1_2)] dX11_bypassesRight_62 rfl (by decide) ?_
      refine AW.sel [2, 3, 1, 0] rfl (lp_ind (bot := fun _ _ => none) (fun (f9 : Int → Mem → Option Rz) => ∀ (v3_63 : Int) (m63 : Mem), inR v3_63 → f9 v3_63 m63 = some r → AW l D base sc RX11 yX11_bypassesRight cX11_bypassesRight 4 none 304 0 0 ad (E mi) (pV E r) 0 0 (E m63) 63 [(0, .ref 100), (1, iv v1_2), (2, iv x17), (3, iv v3_63)] []) (fun _ _ _ h9 => nomatch h9) (fun w63 ih63 v3_63 m63 hv3_63 H => ?_) n _ _ hx61 H)
      refine aw_iload_n (pc := 63) dX11_bypassesRight_63 rfl ?_
      refine aw_aload_n (pc := 64) dX11_bypassesRight_64 rfl ?_
      refine cx_gtC (pc := 65) 105 hE r100 fl_X11_32 rfl rfl (Nat.le_of_ble_eq_true rfl) dX11_bypassesRight_65 ?_
      refine aw_iload_n (pc := 68) dX11_bypassesRight_68 rfl ?_
      refine cx_ldI (pc := 69) hE r105 hx17 dX11_bypassesRight_69 H (fun x69 hx69 H => ?_)
      refine cx_icmp_ge (pc := 70) 89 hv3_63 hx69 dX11_bypassesRight_70 rfl H (fun H => ?_) (fun H => ?_)
      · -- 70: 73
        refine aw_aload_n (pc := 73) dX11_bypassesRight_73 rfl ?_
        refine aw_aload_n (pc := 74) dX11_bypassesRight_74 rfl ?_
        refine cx_gtC (pc := 75) 102 hE r100 fl_X11_35 rfl rfl (Nat.le_of_ble_eq_true rfl) dX11_bypassesRight_75 ?_
        refine aw_iload_n (pc := 78) dX11_bypassesRight_78 rfl ?_
        refine cx_ldI (pc := 79) hE r102 hv3_63 dX11_bypassesRight_79 H (fun x79 hx79 H => ?_)
        refine cx_callV (pc := 80) (P := pV) (dC := 1) (mcC := 0) (msC := 0) [iv x79] hE r100 (fun r1 H1 => s_X11_putsRight l sc E R hE hR n x79 hx79 m63 r1 H1) ca_X11_152 rfl ⟨_, rfl, rfl⟩ rfl rfl (Nat.le_of_ble_eq_true rfl) (Nat.le_of_ble_eq_true rfl) (Nat.le_of_ble_eq_true rfl) (Nat.le_of_ble_eq_true rfl) dX11_bypassesRight_80 H (fun x80 m80 v80 hh80 H hp => ?_)
        refine cx_backV hp ?_
        refine cx_iinc (pc := 83) [(3, iv (w32 (v3_63 + 1))), (0, .ref 100), (1, iv v1_2), (2, iv x17)] dX11_bypassesRight_83 rfl rfl (by decide) ?_
        refine aw_goto (pc := 86) 63 dX11_bypassesRight_86 rfl ?_
        exact AW.sel [1, 2, 3, 0] rfl (ih63 _ _ (inR_w32 _) H)
      · -- 70: 89
        exact AW.sel [0, 1] rfl (hj89 _ _ hv1_2 H)
  · -- 7: 92
    exact cx_vret (pc := 92) rfl (Nat.le_of_ble_eq_true rfl) (Nat.le_of_ble_eq_true rfl) dX11_bypassesRight_92 H
