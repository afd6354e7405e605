/-- X11 isWorse ([IIIZ)Z -/
def f_X11_isWorse (n : Nat) (p1 : Nat) (p2 : Int) (p3 : Int) (p4 : Int) (mi : Mem) : Option Rz :=
  lp (F := Int → Int → Mem → Option Rz) (fun _ _ _ => none) (fun w6 v5_6 v6_6 m6 =>
    jn (fun (m72 : Mem) =>
      rtZ v5_6 m72
    ) fun (j72 : Mem → Option Rz) =>
    if v6_6 < p2 then (
      if v5_6 = 0 then (
        jn (fun (s0_64 : Int) (m64 : Mem) =>
          w6 s0_64 (w32 (v6_6 + 1)) m64
        ) fun (j64 : Int → Mem → Option Rz) =>
        jn (fun (m63 : Mem) =>
          j64 0 m63
        ) fun (j63 : Mem → Option Rz) =>
        if v6_6 = p3 then (
          j63 m6
        ) else
        jn (fun (m59 : Mem) =>
          j64 1 m59
        ) fun (j59 : Mem → Option Rz) =>
        if p4 = 0 then (
          ldI m6 p1 v6_6 fun x49 =>
          ldI m6 p1 p3 fun x52 =>
          cal (f_X11_atMost n x49 x52 m6) fun x53 m53 =>
          if x53 = 0 then (
            j63 m53
          ) else
          j59 m53
        ) else
        ldI m6 p1 p3 fun x31 =>
        ldI m6 p1 v6_6 fun x35 =>
        cal (f_X11_atMost n x31 x35 m6) fun x36 m36 =>
        if x36 = 0 then (
          j63 m36
        ) else
        j59 m36
      ) else
      j72 m6
    ) else
    j72 m6
  ) n 0 0 mi
set_option maxRecDepth 100000 in
set_option maxHeartbeats 4000000 in
theorem s_X11_isWorse (l : Launch) (sc : g_S) (E : Mem → g_H) (R : Nat → Prop) (hE : LE E R) (hR : RRF R) (n : Nat)  (p1 : Nat) (p2 : Int) (p3 : Int) (p4 : Int) (hp1 : R p1) (hp2 : inR p2) (hp3 : inR p3) (hp4 : inR p4) (mi : Mem) (r : Rz) (H : f_X11_isWorse n p1 p2 p3 p4 mi = some r) : AMet l sc yX11_isWorse cX11_isWorse 7 (some FieldType.boolean) 202 0 0 [.ref 100, .ref p1, iv p2, iv p3, iv p4] (E mi) (pI E r) := by
  have r100 : R 100 := hR 100 (Nat.le_of_ble_eq_true rfl) (Nat.le_of_ble_eq_true rfl)
  unfold f_X11_isWorse at H
  refine AMet.of (own := RX11) (by decide +kernel) rfl (Nat.le_of_ble_eq_true rfl) [(0, .ref 100), (1, .ref p1), (2, iv p2), (3, iv p3), (4, iv p4)] rfl (fun D base ad => ?_)
  refine cx_iconst (pc := 0) dX11_isWorse_0 ?_
  refine aw_istore (pc := 1) [(5, iv 0), (0, .ref 100), (1, .ref p1), (2, iv p2), (3, iv p3), (4, iv p4)] dX11_isWorse_1 rfl (by decide) ?_
  refine cx_iconst (pc := 3) dX11_isWorse_3 ?_
  refine aw_istore (pc := 4) [(6, iv 0), (5, iv 0), (0, .ref 100), (1, .ref p1), (2, iv p2), (3, iv p3), (4, iv p4)] dX11_isWorse_4 rfl (by decide) ?_
  refine AW.sel [2, 3, 4, 5, 6, 1, 0] rfl (lp_ind (bot := fun _ _ _ => none) (fun (f9 : Int → Int → Mem → Option Rz) => ∀ (v5_6 : Int) (v6_6 : Int) (m6 : Mem), inR v5_6 → inR v6_6 → f9 v5_6 v6_6 m6 = some r → AW l D base sc RX11 yX11_isWorse cX11_isWorse 7 (some FieldType.boolean) 202 0 0 ad (E mi) (pI E r) 0 0 (E m6) 6 [(0, .ref 100), (1, .ref p1), (2, iv p2), (3, iv p3), (4, iv p4), (5, iv v5_6), (6, iv v6_6)] []) (fun _ _ _ _ _ h9 => nomatch h9) (fun w6 ih6 v5_6 v6_6 m6 hv5_6 hv6_6 H => ?_) n _ _ _ (inR_lit _ rfl) (inR_lit _ rfl) H)
  refine aw_iload (pc := 6) dX11_isWorse_6 rfl ?_
  refine aw_iload_n (pc := 8) dX11_isWorse_8 rfl ?_
  refine jn_ind (fun (f9 : Mem → Option Rz) => ∀ (m72 : Mem), f9 m72 = some r → AW l D base sc RX11 yX11_isWorse cX11_isWorse 7 (some FieldType.boolean) 202 0 0 ad (E mi) (pI E r) 0 0 (E m72) 72 [(5, iv v5_6)] []) (fun m72 H => ?_) (fun j72 hj72 H => ?_) H
  · -- 72
    refine aw_iload (pc := 72) dX11_isWorse_72 rfl ?_
    exact cx_zret (pc := 74) rfl (Nat.le_of_ble_eq_true rfl) (Nat.le_of_ble_eq_true rfl) dX11_isWorse_74 H
  refine cx_icmp_ge (pc := 9) 72 hv6_6 hp2 dX11_isWorse_9 rfl H (fun H => ?_) (fun H => ?_)
  · -- 9: 12
    refine aw_iload (pc := 12) dX11_isWorse_12 rfl ?_
    refine cx_if_ne (pc := 14) 72 hv5_6 dX11_isWorse_14 rfl H (fun H => ?_) (fun H => ?_)
    · -- 14: 17
      refine aw_iload (pc := 17) dX11_isWorse_17 rfl ?_
      refine aw_iload_n (pc := 19) dX11_isWorse_19 rfl ?_
      refine jn_ind (fun (f9 : Int → Mem → Option Rz) => ∀ (s0_64 : Int) (m64 : Mem), inR s0_64 → f9 s0_64 m64 = some r → AW l D base sc RX11 yX11_isWorse cX11_isWorse 7 (some FieldType.boolean) 202 0 0 ad (E mi) (pI E r) 0 0 (E m64) 64 [(0, .ref 100), (1, .ref p1), (2, iv p2), (3, iv p3), (4, iv p4), (6, iv v6_6)] [iv s0_64]) (fun s0_64 m64 hs0_64 H => ?_) (fun j64 hj64 H => ?_) H
      · -- 64
        refine aw_istore (pc := 64) [(5, iv s0_64), (0, .ref 100), (1, .ref p1), (2, iv p2), (3, iv p3), (4, iv p4), (6, iv v6_6)] dX11_isWorse_64 rfl (by decide) ?_
        refine cx_iinc (pc := 66) [(6, iv (w32 (v6_6 + 1))), (5, iv s0_64), (0, .ref 100), (1, .ref p1), (2, iv p2), (3, iv p3), (4, iv p4)] dX11_isWorse_66 rfl rfl (by decide) ?_
        refine aw_goto (pc := 69) 6 dX11_isWorse_69 rfl ?_
        exact AW.sel [2, 3, 4, 5, 6, 1, 0] rfl (ih6 _ _ _ hs0_64 (inR_w32 _) H)
      refine jn_ind (fun (f9 : Mem → Option Rz) => ∀ (m63 : Mem), f9 m63 = some r → AW l D base sc RX11 yX11_isWorse cX11_isWorse 7 (some FieldType.boolean) 202 0 0 ad (E mi) (pI E r) 0 0 (E m63) 63 [(0, .ref 100), (1, .ref p1), (2, iv p2), (3, iv p3), (4, iv p4), (6, iv v6_6)] []) (fun m63 H => ?_) (fun j63 hj63 H => ?_) H
      · -- 63
        refine cx_iconst (pc := 63) dX11_isWorse_63 ?_
        exact AW.sel [0, 1, 2, 3, 4, 5] rfl (hj64 _ _ (inR_lit _ rfl) H)
      refine cx_icmp_eq (pc := 20) 63 hv6_6 hp3 dX11_isWorse_20 rfl H (fun H => ?_) (fun H => ?_)
      · -- 20: 63
        exact AW.sel [0, 1, 2, 3, 4, 6] rfl (hj63 _ H)
      · -- 20: 23
        refine aw_iload (pc := 23) dX11_isWorse_23 rfl ?_
        refine jn_ind (fun (f9 : Mem → Option Rz) => ∀ (m59 : Mem), f9 m59 = some r → AW l D base sc RX11 yX11_isWorse cX11_isWorse 7 (some FieldType.boolean) 202 0 0 ad (E mi) (pI E r) 0 0 (E m59) 59 [(0, .ref 100), (1, .ref p1), (2, iv p2), (3, iv p3), (4, iv p4), (6, iv v6_6)] []) (fun m59 H => ?_) (fun j59 hj59 H => ?_) H
        · -- 59
          refine cx_iconst (pc := 59) dX11_isWorse_59 ?_
          refine aw_goto (pc := 60) 64 dX11_isWorse_60 rfl ?_
          exact AW.sel [0, 1, 2, 3, 4, 5] rfl (hj64 _ _ (inR_lit _ rfl) H)
        refine cx_if_eq (pc := 25) 45 hp4 dX11_isWorse_25 rfl H (fun H => ?_) (fun H => ?_)
        · -- 25: 45
          refine aw_aload_n (pc := 45) dX11_isWorse_45 rfl ?_
          refine aw_aload_n (pc := 46) dX11_isWorse_46 rfl ?_
          refine aw_iload (pc := 47) dX11_isWorse_47 rfl ?_
          refine cx_ldI (pc := 49) hE hp1 hv6_6 dX11_isWorse_49 H (fun x49 hx49 H => ?_)
          refine aw_aload_n (pc := 50) dX11_isWorse_50 rfl ?_
          refine aw_iload_n (pc := 51) dX11_isWorse_51 rfl ?_
          refine cx_ldI (pc := 52) hE hp1 hp3 dX11_isWorse_52 H (fun x52 hx52 H => ?_)
          refine cx_callV (pc := 53) (P := pI) (dC := 201) (mcC := 0) (msC := 0) [iv x49, iv x52] hE r100 (fun r1 H1 => s_X11_atMost l sc E R hE hR n x49 x52 hx49 hx52 m6 r1 H1) ca_X11_114 rfl ⟨_, rfl, rfl⟩ rfl rfl (Nat.le_of_ble_eq_true rfl) (Nat.le_of_ble_eq_true rfl) (Nat.le_of_ble_eq_true rfl) (Nat.le_of_ble_eq_true rfl) dX11_isWorse_53 H (fun x53 m53 v53 hh53 H hp => ?_)
          refine cx_backI hp (fun hx53 => ?_)
          refine cx_if_eq (pc := 56) 63 hx53 dX11_isWorse_56 rfl H (fun H => ?_) (fun H => ?_)
          · -- 56: 63
            exact AW.sel [0, 1, 2, 3, 4, 6] rfl (hj63 _ H)
          · -- 56: 59
            exact AW.sel [0, 1, 2, 3, 4, 6] rfl (hj59 _ H)
        · -- 25: 28
          refine aw_aload_n (pc := 28) dX11_isWorse_28 rfl ?_
          refine aw_aload_n (pc := 29) dX11_isWorse_29 rfl ?_
          refine aw_iload_n (pc := 30) dX11_isWorse_30 rfl ?_
          refine cx_ldI (pc := 31) hE hp1 hp3 dX11_isWorse_31 H (fun x31 hx31 H => ?_)
          refine aw_aload_n (pc := 32) dX11_isWorse_32 rfl ?_
          refine aw_iload (pc := 33) dX11_isWorse_33 rfl ?_
          refine cx_ldI (pc := 35) hE hp1 hv6_6 dX11_isWorse_35 H (fun x35 hx35 H => ?_)
          refine cx_callV (pc := 36) (P := pI) (dC := 201) (mcC := 0) (msC := 0) [iv x31, iv x35] hE r100 (fun r1 H1 => s_X11_atMost l sc E R hE hR n x31 x35 hx31 hx35 m6 r1 H1) ca_X11_114 rfl ⟨_, rfl, rfl⟩ rfl rfl (Nat.le_of_ble_eq_true rfl) (Nat.le_of_ble_eq_true rfl) (Nat.le_of_ble_eq_true rfl) (Nat.le_of_ble_eq_true rfl) dX11_isWorse_36 H (fun x36 m36 v36 hh36 H hp => ?_)
          refine cx_backI hp (fun hx36 => ?_)
          refine cx_if_eq (pc := 39) 63 hx36 dX11_isWorse_39 rfl H (fun H => ?_) (fun H => ?_)
          · -- 39: 63
            exact AW.sel [0, 1, 2, 3, 4, 6] rfl (hj63 _ H)
          · -- 39: 42
            refine aw_goto (pc := 42) 59 dX11_isWorse_42 rfl ?_
            exact AW.sel [0, 1, 2, 3, 4, 6] rfl (hj59 _ H)
    · -- 14: 72
      exact AW.sel [5] rfl (hj72 _ H)
  · -- 9: 72
    exact AW.sel [5] rfl (hj72 _ H)
/-- X11 removesWorse ()V -/
def f_X11_removesWorse (n : Nat)  (mi : Mem) : Option Rz :=
  lp (F := Int → Mem → Option Rz) (fun _ _ => none) (fun w2 v1_2 m2 =>
    gtF m2 100 23 fun x4 =>
    if v1_2 < x4 then (
      gtF m2 100 23 fun x16 =>
      cal (f_X11_isWorse n 120 x16 v1_2 1 m2) fun x21 m21 =>
      if x21 = 0 then (
        w2 (w32 (v1_2 + 1)) m21
      ) else
      gtF m21 100 23 fun x29 =>
      ptF m21 100 23 (w32 (x29 - 1)) fun m34 =>
      gtF m34 100 23 fun x47 =>
      ldI m34 120 x47 fun x50 =>
      stI m34 120 v1_2 x50 fun m51 =>
      w2 v1_2 m51
    ) else
    lp (F := Int → Mem → Option Rz) (fun _ _ => none) (fun w63 v1_63 m63 =>
      gtF m63 100 24 fun x65 =>
      if v1_63 < x65 then (
        gtF m63 100 24 fun x77 =>
        cal (f_X11_isWorse n 121 x77 v1_63 0 m63) fun x82 m82 =>
        if x82 = 0 then (
          w63 (w32 (v1_63 + 1)) m82
        ) else
        gtF m82 100 24 fun x90 =>
        ptF m82 100 24 (w32 (x90 - 1)) fun m95 =>
        gtF m95 100 24 fun x108 =>
        ldI m95 121 x108 fun x111 =>
        stI m95 121 v1_63 x111 fun m112 =>
        w63 v1_63 m112
      ) else
      rt 0 m63
    ) n 0 m2
  ) n 0 mi
set_option maxRecDepth 100000 in
set_option maxHeartbeats 4000000 in
theorem s_X11_removesWorse (l : Launch) (sc : g_S) (E : Mem → g_H) (R : Nat → Prop) (hE : LE E R) (hR : RRF R) (n : Nat)    (mi : Mem) (r : Rz) (H : f_X11_removesWorse n  mi = some r) : AMet l sc yX11_removesWorse cX11_removesWorse 2 none 203 0 0 [.ref 100] (E mi) (pV E r) := by
  have r100 : R 100 := hR 100 (Nat.le_of_ble_eq_true rfl) (Nat.le_of_ble_eq_true rfl)
  have r120 : R 120 := hR 120 (Nat.le_of_ble_eq_true rfl) (Nat.le_of_ble_eq_true rfl)
  have r121 : R 121 := hR 121 (Nat.le_of_ble_eq_true rfl) (Nat.le_of_ble_eq_true rfl)
  unfold f_X11_removesWorse at H
  refine AMet.of (own := RX11) (by decide +kernel) rfl (Nat.le_of_ble_eq_true rfl) [(0, .ref 100)] rfl (fun D base ad => ?_)
  refine cx_iconst (pc := 0) dX11_removesWorse_0 ?_
  refine aw_istore_n (pc := 1) [(1, iv 0), (0, .ref 100)] dX11_removesWorse_1 rfl (by decide) ?_
  refine AW.sel [1, 0] rfl (lp_ind (bot := fun _ _ => none) (fun (f9 : Int → Mem → Option Rz) => ∀ (v1_2 : Int) (m2 : Mem), inR v1_2 → f9 v1_2 m2 = some r → AW l D base sc RX11 yX11_removesWorse cX11_removesWorse 2 none 203 0 0 ad (E mi) (pV E r) 0 0 (E m2) 2 [(0, .ref 100), (1, iv v1_2)] []) (fun _ _ _ h9 => nomatch h9) (fun w2 ih2 v1_2 m2 hv1_2 H => ?_) n _ _ (inR_lit _ rfl) H)
  refine aw_iload_n (pc := 2) dX11_removesWorse_2 rfl ?_
  refine aw_aload_n (pc := 3) dX11_removesWorse_3 rfl ?_
  refine cx_gtF (pc := 4) hE r100 fl_X11_9 rfl rfl (Nat.le_of_ble_eq_true rfl) dX11_removesWorse_4 H (fun x4 hx4 H => ?_)
  refine cx_icmp_ge (pc := 7) 61 hv1_2 hx4 dX11_removesWorse_7 rfl H (fun H => ?_) (fun H => ?_)
  · -- 7: 10
    refine aw_aload_n (pc := 10) dX11_removesWorse_10 rfl ?_
    refine aw_aload_n (pc := 11) dX11_removesWorse_11 rfl ?_
    refine cx_gtC (pc := 12) 120 hE r100 fl_X11_13 rfl rfl (Nat.le_of_ble_eq_true rfl) dX11_removesWorse_12 ?_
    refine aw_aload_n (pc := 15) dX11_removesWorse_15 rfl ?_
    refine cx_gtF (pc := 16) hE r100 fl_X11_9 rfl rfl (Nat.le_of_ble_eq_true rfl) dX11_removesWorse_16 H (fun x16 hx16 H => ?_)
    refine aw_iload_n (pc := 19) dX11_removesWorse_19 rfl ?_
    refine cx_iconst (pc := 20) dX11_removesWorse_20 ?_
    refine cx_callV (pc := 21) (P := pI) (dC := 202) (mcC := 0) (msC := 0) [.ref 120, iv x16, iv v1_2, iv 1] hE r100 (fun r1 H1 => s_X11_isWorse l sc E R hE hR n 120 x16 v1_2 1 r120 hx16 hv1_2 (inR_lit _ rfl) m2 r1 H1) ca_X11_155 rfl ⟨_, rfl, rfl⟩ rfl rfl (Nat.le_of_ble_eq_true rfl) (Nat.le_of_ble_eq_true rfl) (Nat.le_of_ble_eq_true rfl) (Nat.le_of_ble_eq_true rfl) dX11_removesWorse_21 H (fun x21 m21 v21 hh21 H hp => ?_)
    refine cx_backI hp (fun hx21 => ?_)
    refine cx_if_eq (pc := 24) 55 hx21 dX11_removesWorse_24 rfl H (fun H => ?_) (fun H => ?_)
    · -- 24: 55
      refine cx_iinc (pc := 55) [(1, iv (w32 (v1_2 + 1))), (0, .ref 100)] dX11_removesWorse_55 rfl rfl (by decide) ?_
      refine aw_goto (pc := 58) 2 dX11_removesWorse_58 rfl ?_
      exact AW.sel [1, 0] rfl (ih2 _ _ (inR_w32 _) H)
    · -- 24: 27
      refine aw_aload_n (pc := 27) dX11_removesWorse_27 rfl ?_
      refine aw_dup (pc := 28) dX11_removesWorse_28 rfl ?_
      refine cx_gtF (pc := 29) hE r100 fl_X11_9 rfl rfl (Nat.le_of_ble_eq_true rfl) dX11_removesWorse_29 H (fun x29 hx29 H => ?_)
      refine cx_iconst (pc := 32) dX11_removesWorse_32 ?_
      refine cx_isub (pc := 33) dX11_removesWorse_33 ?_
      refine cx_ptF (pc := 34) tyX11 hE r100 fl_X11_9 (fun r h => ⟨gty_X11 r h, by cases h; rfl⟩) rfl rfl rfl (Nat.le_of_ble_eq_true rfl) dX11_removesWorse_34 H (fun m34 H => ?_)
      refine aw_aload_n (pc := 37) dX11_removesWorse_37 rfl ?_
      refine cx_gtC (pc := 38) 120 hE r100 fl_X11_13 rfl rfl (Nat.le_of_ble_eq_true rfl) dX11_removesWorse_38 ?_
      refine aw_iload_n (pc := 41) dX11_removesWorse_41 rfl ?_
      refine aw_aload_n (pc := 42) dX11_removesWorse_42 rfl ?_
      refine cx_gtC (pc := 43) 120 hE r100 fl_X11_13 rfl rfl (Nat.le_of_ble_eq_true rfl) dX11_removesWorse_43 ?_
      refine aw_aload_n (pc := 46) dX11_removesWorse_46 rfl ?_
      refine cx_gtF (pc := 47) hE r100 fl_X11_9 rfl rfl (Nat.le_of_ble_eq_true rfl) dX11_removesWorse_47 H (fun x47 hx47 H => ?_)
      refine cx_ldI (pc := 50) hE r120 hx47 dX11_removesWorse_50 H (fun x50 hx50 H => ?_)
      refine cx_stI (pc := 51) hE r120 hv1_2 dX11_removesWorse_51 H (fun m51 H => ?_)
      refine aw_goto (pc := 52) 2 dX11_removesWorse_52 rfl ?_
      exact AW.sel [0, 1] rfl (ih2 _ _ hv1_2 H)
  · -- 7: 61
    refine cx_iconst (pc := 61) dX11_removesWorse_61 ?_
    refine aw_istore_n (pc := 62) [(1, iv 0), (0, .ref 100)] dX11_removesWorse_62 rfl (by decide) ?_
    refine AW.sel [1, 0] rfl (lp_ind (bot := fun _ _ => none) (fun (f9 : Int → Mem → Option Rz) => ∀ (v1_63 : Int) (m63 : Mem), inR v1_63 → f9 v1_63 m63 = some r → AW l D base sc RX11 yX11_removesWorse cX11_removesWorse 2 none 203 0 0 ad (E mi) (pV E r) 0 0 (E m63) 63 [(0, .ref 100), (1, iv v1_63)] []) (fun _ _ _ h9 => nomatch h9) (fun w63 ih63 v1_63 m63 hv1_63 H => ?_) n _ _ (inR_lit _ rfl) H)
    refine aw_iload_n (pc := 63) dX11_removesWorse_63 rfl ?_
    refine aw_aload_n (pc := 64) dX11_removesWorse_64 rfl ?_
    refine cx_gtF (pc := 65) hE r100 fl_X11_20 rfl rfl (Nat.le_of_ble_eq_true rfl) dX11_removesWorse_65 H (fun x65 hx65 H => ?_)
    refine cx_icmp_ge (pc := 68) 122 hv1_63 hx65 dX11_removesWorse_68 rfl H (fun H => ?_) (fun H => ?_)
    · -- 68: 71
      refine aw_aload_n (pc := 71) dX11_removesWorse_71 rfl ?_
      refine aw_aload_n (pc := 72) dX11_removesWorse_72 rfl ?_
      refine cx_gtC (pc := 73) 121 hE r100 fl_X11_23 rfl rfl (Nat.le_of_ble_eq_true rfl) dX11_removesWorse_73 ?_
      refine aw_aload_n (pc := 76) dX11_removesWorse_76 rfl ?_
      refine cx_gtF (pc := 77) hE r100 fl_X11_20 rfl rfl (Nat.le_of_ble_eq_true rfl) dX11_removesWorse_77 H (fun x77 hx77 H => ?_)
      refine aw_iload_n (pc := 80) dX11_removesWorse_80 rfl ?_
      refine cx_iconst (pc := 81) dX11_removesWorse_81 ?_
      refine cx_callV (pc := 82) (P := pI) (dC := 202) (mcC := 0) (msC := 0) [.ref 121, iv x77, iv v1_63, iv 0] hE r100 (fun r1 H1 => s_X11_isWorse l sc E R hE hR n 121 x77 v1_63 0 r121 hx77 hv1_63 (inR_lit _ rfl) m63 r1 H1) ca_X11_155 rfl ⟨_, rfl, rfl⟩ rfl rfl (Nat.le_of_ble_eq_true rfl) (Nat.le_of_ble_eq_true rfl) (Nat.le_of_ble_eq_true rfl) (Nat.le_of_ble_eq_true rfl) dX11_removesWorse_82 H (fun x82 m82 v82 hh82 H hp => ?_)
      refine cx_backI hp (fun hx82 => ?_)
      refine cx_if_eq (pc := 85) 116 hx82 dX11_removesWorse_85 rfl H (fun H => ?_) (fun H => ?_)
      · -- 85: 116
        refine cx_iinc (pc := 116) [(1, iv (w32 (v1_63 + 1))), (0, .ref 100)] dX11_removesWorse_116 rfl rfl (by decide) ?_
        refine aw_goto (pc := 119) 63 dX11_removesWorse_119 rfl ?_
        exact AW.sel [1, 0] rfl (ih63 _ _ (inR_w32 _) H)
      · -- 85: 88
        refine aw_aload_n (pc := 88) dX11_removesWorse_88 rfl ?_
        refine aw_dup (pc := 89) dX11_removesWorse_89 rfl ?_
        refine cx_gtF (pc := 90) hE r100 fl_X11_20 rfl rfl (Nat.le_of_ble_eq_true rfl) dX11_removesWorse_90 H (fun x90 hx90 H => ?_)
        refine cx_iconst (pc := 93) dX11_removesWorse_93 ?_
        refine cx_isub (pc := 94) dX11_removesWorse_94 ?_
        refine cx_ptF (pc := 95) tyX11 hE r100 fl_X11_20 (fun r h => ⟨gty_X11 r h, by cases h; rfl⟩) rfl rfl rfl (Nat.le_of_ble_eq_true rfl) dX11_removesWorse_95 H (fun m95 H => ?_)
        refine aw_aload_n (pc := 98) dX11_removesWorse_98 rfl ?_
        refine cx_gtC (pc := 99) 121 hE r100 fl_X11_23 rfl rfl (Nat.le_of_ble_eq_true rfl) dX11_removesWorse_99 ?_
        refine aw_iload_n (pc := 102) dX11_removesWorse_102 rfl ?_
        refine aw_aload_n (pc := 103) dX11_removesWorse_103 rfl ?_
        refine cx_gtC (pc := 104) 121 hE r100 fl_X11_23 rfl rfl (Nat.le_of_ble_eq_true rfl) dX11_removesWorse_104 ?_
        refine aw_aload_n (pc := 107) dX11_removesWorse_107 rfl ?_
        refine cx_gtF (pc := 108) hE r100 fl_X11_20 rfl rfl (Nat.le_of_ble_eq_true rfl) dX11_removesWorse_108 H (fun x108 hx108 H => ?_)
        refine cx_ldI (pc := 111) hE r121 hx108 dX11_removesWorse_111 H (fun x111 hx111 H => ?_)
        refine cx_stI (pc := 112) hE r121 hv1_63 dX11_removesWorse_112 H (fun m112 H => ?_)
        refine aw_goto (pc := 113) 63 dX11_removesWorse_113 rfl ?_
        exact AW.sel [0, 1] rfl (ih63 _ _ hv1_63 H)
    · -- 68: 122
      exact cx_vret (pc := 122) rfl (Nat.le_of_ble_eq_true rfl) (Nat.le_of_ble_eq_true rfl) dX11_removesWorse_122 H
/-- X11 canonical ()I -/
def f_X11_canonical (n : Nat)  (mi : Mem) : Option Rz :=
  gtF mi 100 29 fun x2 =>
  ptF mi 100 29 (w32 (x2 + 1)) fun m7 =>
  cal (f_X11_bypassesLeft n m7) fun _ m11 =>
  cal (f_X11_bypassesRight n m11) fun _ m15 =>
  cal (f_X11_removesWorse n m15) fun _ m19 =>
  cal (f_X11_found n m19) fun x23 m23 =>
  rt x23 m23
set_option maxRecDepth 100000 in
set_option maxHeartbeats 4000000 in
theorem s_X11_canonical (l : Launch) (sc : g_S) (E : Mem → g_H) (R : Nat → Prop) (hE : LE E R) (hR : RRF R) (n : Nat)    (mi : Mem) (r : Rz) (H : f_X11_canonical n  mi = some r) : AMet l sc yX11_canonical cX11_canonical 1 (some FieldType.int) 305 0 0 [.ref 100] (E mi) (pI E r) := by
  have r100 : R 100 := hR 100 (Nat.le_of_ble_eq_true rfl) (Nat.le_of_ble_eq_true rfl)
  unfold f_X11_canonical at H
  refine AMet.of (own := RX11) (by decide +kernel) rfl (Nat.le_of_ble_eq_true rfl) [(0, .ref 100)] rfl (fun D base ad => ?_)
  refine aw_aload_n (pc := 0) dX11_canonical_0 rfl ?_
  refine aw_dup (pc := 1) dX11_canonical_1 rfl ?_
  refine cx_gtF (pc := 2) hE r100 fl_X11_131 rfl rfl (Nat.le_of_ble_eq_true rfl) dX11_canonical_2 H (fun x2 hx2 H => ?_)
  refine cx_iconst (pc := 5) dX11_canonical_5 ?_
  refine cx_iadd (pc := 6) dX11_canonical_6 ?_
  refine cx_ptF (pc := 7) tyX11 hE r100 fl_X11_131 (fun r h => ⟨gty_X11 r h, by cases h; rfl⟩) rfl rfl rfl (Nat.le_of_ble_eq_true rfl) dX11_canonical_7 H (fun m7 H => ?_)
  refine aw_aload_n (pc := 10) dX11_canonical_10 rfl ?_
  refine cx_callV (pc := 11) (P := pV) (dC := 304) (mcC := 0) (msC := 0) [] hE r100 (fun r1 H1 => s_X11_bypassesLeft l sc E R hE hR n m7 r1 H1) ca_X11_159 rfl ⟨_, rfl, rfl⟩ rfl rfl (Nat.le_of_ble_eq_true rfl) (Nat.le_of_ble_eq_true rfl) (Nat.le_of_ble_eq_true rfl) (Nat.le_of_ble_eq_true rfl) dX11_canonical_11 H (fun x11 m11 v11 hh11 H hp => ?_)
  refine cx_backV hp ?_
  refine aw_aload_n (pc := 14) dX11_canonical_14 rfl ?_
  refine cx_callV (pc := 15) (P := pV) (dC := 304) (mcC := 0) (msC := 0) [] hE r100 (fun r1 H1 => s_X11_bypassesRight l sc E R hE hR n m11 r1 H1) ca_X11_163 rfl ⟨_, rfl, rfl⟩ rfl rfl (Nat.le_of_ble_eq_true rfl) (Nat.le_of_ble_eq_true rfl) (Nat.le_of_ble_eq_true rfl) (Nat.le_of_ble_eq_true rfl) dX11_canonical_15 H (fun x15 m15 v15 hh15 H hp => ?_)
  refine cx_backV hp ?_
  refine aw_aload_n (pc := 18) dX11_canonical_18 rfl ?_
  refine cx_callV (pc := 19) (P := pV) (dC := 203) (mcC := 0) (msC := 0) [] hE r100 (fun r1 H1 => s_X11_removesWorse l sc E R hE hR n m15 r1 H1) ca_X11_166 rfl ⟨_, rfl, rfl⟩ rfl rfl (Nat.le_of_ble_eq_true rfl) (Nat.le_of_ble_eq_true rfl) (Nat.le_of_ble_eq_true rfl) (Nat.le_of_ble_eq_true rfl) dX11_canonical_19 H (fun x19 m19 v19 hh19 H hp => ?_)
  refine cx_backV hp ?_
  refine aw_aload_n (pc := 22) dX11_canonical_22 rfl ?_
  refine cx_callV (pc := 23) (P := pI) (dC := 3) (mcC := 0) (msC := 0) [] hE r100 (fun r1 H1 => s_X11_found l sc E R hE hR n m19 r1 H1) ca_X11_169 rfl ⟨_, rfl, rfl⟩ rfl rfl (Nat.le_of_ble_eq_true rfl) (Nat.le_of_ble_eq_true rfl) (Nat.le_of_ble_eq_true rfl) (Nat.le_of_ble_eq_true rfl) dX11_canonical_23 H (fun x23 m23 v23 hh23 H hp => ?_)
  refine cx_backI hp (fun hx23 => ?_)
  exact cx_iret (pc := 26) hx23 rfl (Nat.le_of_ble_eq_true rfl) (Nat.le_of_ble_eq_true rfl) dX11_canonical_26 H
/-- X11 canonicalOf (II)I -/
def f_X11_canonicalOf (n : Nat) (p1 : Int) (p2 : Int) (mi : Mem) : Option Rz :=
  ptF mi 100 23 0 fun m2 =>
  ptF m2 100 24 0 fun m7 =>
  lp (F := Int → Mem → Option Rz) (fun _ _ => none) (fun w12 v3_12 m12 =>
    if v3_12 < p2 then (
      ldI m12 122 v3_12 fun x23 =>
      cal (f_X11_putsLeft n x23 m12) fun _ m24 =>
      w12 (w32 (v3_12 + 1)) m24
    ) else
    lp (F := Int → Mem → Option Rz) (fun _ _ => none) (fun w35 v3_35 m35 =>
      gtF m35 100 26 fun x37 =>
      if v3_35 < x37 then (
        ldI m35 122 v3_35 fun x49 =>
        cal (f_X11_putsRight n x49 m35) fun _ m50 =>
        w35 (w32 (v3_35 + 1)) m50
      ) else
      ptF m35 100 26 p1 fun m61 =>
      cal (f_X11_canonical n m61) fun x65 m65 =>
      rt x65 m65
    ) n p2 m12
  ) n p1 m7
set_option maxRecDepth 100000 in
set_option maxHeartbeats 4000000 in
theorem s_X11_canonicalOf (l : Launch) (sc : g_S) (E : Mem → g_H) (R : Nat → Prop) (hE : LE E R) (hR : RRF R) (n : Nat)  (p1 : Int) (p2 : Int) (hp1 : inR p1) (hp2 : inR p2) (mi : Mem) (r : Rz) (H : f_X11_canonicalOf n p1 p2 mi = some r) : AMet l sc yX11_canonicalOf cX11_canonicalOf 4 (some FieldType.int) 306 0 0 [.ref 100, iv p1, iv p2] (E mi) (pI E r) := by
  have r100 : R 100 := hR 100 (Nat.le_of_ble_eq_true rfl) (Nat.le_of_ble_eq_true rfl)
  have r122 : R 122 := hR 122 (Nat.le_of_ble_eq_true rfl) (Nat.le_of_ble_eq_true rfl)
  unfold f_X11_canonicalOf at H
  refine AMet.of (own := RX11) (by decide +kernel) rfl (Nat.le_of_ble_eq_true rfl) [(0, .ref 100), (1, iv p1), (2, iv p2)] rfl (fun D base ad => ?_)
  refine aw_aload_n (pc := 0) dX11_canonicalOf_0 rfl ?_
  refine cx_iconst (pc := 1) dX11_canonicalOf_1 ?_
  refine cx_ptF (pc := 2) tyX11 hE r100 fl_X11_9 (fun r h => ⟨gty_X11 r h, by cases h; rfl⟩) rfl rfl rfl (Nat.le_of_ble_eq_true rfl) dX11_canonicalOf_2 H (fun m2 H => ?_)
  refine aw_aload_n (pc := 5) dX11_canonicalOf_5 rfl ?_
  refine cx_iconst (pc := 6) dX11_canonicalOf_6 ?_
  refine cx_ptF (pc := 7) tyX11 hE r100 fl_X11_20 (fun r h => ⟨gty_X11 r h, by cases h; rfl⟩) rfl rfl rfl (Nat.le_of_ble_eq_true rfl) dX11_canonicalOf_7 H (fun m7 H => ?_)
  refine aw_iload_n (pc := 10) dX11_canonicalOf_10 rfl ?_
  refine aw_istore_n (pc := 11) [(3, iv p1), (0, .ref 100), (1, iv p1), (2, iv p2)] dX11_canonicalOf_11 rfl (by decide) ?_
  refine AW.sel [1, 2, 3, 0] rfl (lp_ind (bot := fun _ _ => none) (fun (f9 : Int → Mem → Option Rz) => ∀ (v3_12 : Int) (m12 : Mem), inR v3_12 → f9 v3_12 m12 = some r → AW l D base sc RX11 yX11_canonicalOf cX11_canonicalOf 4 (some FieldType.int) 306 0 0 ad (E mi) (pI E r) 0 0 (E m12) 12 [(0, .ref 100), (1, iv p1), (2, iv p2), (3, iv v3_12)] []) (fun _ _ _ h9 => nomatch h9) (fun w12 ih12 v3_12 m12 hv3_12 H => ?_) n _ _ hp1 H)
  refine aw_iload_n (pc := 12) dX11_canonicalOf_12 rfl ?_
  refine aw_iload_n (pc := 13) dX11_canonicalOf_13 rfl ?_
  refine cx_icmp_ge (pc := 14) 33 hv3_12 hp2 dX11_canonicalOf_14 rfl H (fun H => ?_) (fun H => ?_)
  · -- 14: 17
    refine aw_aload_n (pc := 17) dX11_canonicalOf_17 rfl ?_
    refine aw_aload_n (pc := 18) dX11_canonicalOf_18 rfl ?_
    refine cx_gtC (pc := 19) 122 hE r100 fl_X11_172 rfl rfl (Nat.le_of_ble_eq_true rfl) dX11_canonicalOf_19 ?_
    refine aw_iload_n (pc := 22) dX11_canonicalOf_22 rfl ?_
    refine cx_ldI (pc := 23) hE r122 hv3_12 dX11_canonicalOf_23 H (fun x23 hx23 H => ?_)
    refine cx_callV (pc := 24) (P := pV) (dC := 1) (mcC := 0) (msC := 0) [iv x23] hE r100 (fun r1 H1 => s_X11_putsLeft l sc E R hE hR n x23 hx23 m12 r1 H1) ca_X11_146 rfl ⟨_, rfl, rfl⟩ rfl rfl (Nat.le_of_ble_eq_true rfl) (Nat.le_of_ble_eq_true rfl) (Nat.le_of_ble_eq_true rfl) (Nat.le_of_ble_eq_true rfl) dX11_canonicalOf_24 H (fun x24 m24 v24 hh24 H hp => ?_)
    refine cx_backV hp ?_
    refine cx_iinc (pc := 27) [(3, iv (w32 (v3_12 + 1))), (0, .ref 100), (1, iv p1), (2, iv p2)] dX11_canonicalOf_27 rfl rfl (by decide) ?_
    refine aw_goto (pc := 30) 12 dX11_canonicalOf_30 rfl ?_
    exact AW.sel [1, 2, 3, 0] rfl (ih12 _ _ (inR_w32 _) H)
  · -- 14: 33
    refine aw_iload_n (pc := 33) dX11_canonicalOf_33 rfl ?_
    refine aw_istore_n (pc := 34) [(3, iv p2), (0, .ref 100), (1, iv p1), (2, iv p2)] dX11_canonicalOf_34 rfl (by decide) ?_
    refine AW.sel [1, 2, 0] rfl (lp_ind (bot := fun _ _ => none) (fun (f9 : Int → Mem → Option Rz) => ∀ (v3_35 : Int) (m35 : Mem), inR v3_35 → f9 v3_35 m35 = some r → AW l D base sc RX11 yX11_canonicalOf cX11_canonicalOf 4 (some FieldType.int) 306 0 0 ad (E mi) (pI E r) 0 0 (E m35) 35 [(0, .ref 100), (1, iv p1), (3, iv v3_35)] []) (fun _ _ _ h9 => nomatch h9) (fun w35 ih35 v3_35 m35 hv3_35 H => ?_) n _ _ hp2 H)
    refine aw_iload_n (pc := 35) dX11_canonicalOf_35 rfl ?_
    refine aw_aload_n (pc := 36) dX11_canonicalOf_36 rfl ?_
    refine cx_gtF (pc := 37) hE r100 fl_X11_175 rfl rfl (Nat.le_of_ble_eq_true rfl) dX11_canonicalOf_37 H (fun x37 hx37 H => ?_)
    refine cx_icmp_ge (pc := 40) 59 hv3_35 hx37 dX11_canonicalOf_40 rfl H (fun H => ?_) (fun H => ?_)
    · -- 40: 43
      refine aw_aload_n (pc := 43) dX11_canonicalOf_43 rfl ?_
      refine aw_aload_n (pc := 44) dX11_canonicalOf_44 rfl ?_
      refine cx_gtC (pc := 45) 122 hE r100 fl_X11_172 rfl rfl (Nat.le_of_ble_eq_true rfl) dX11_canonicalOf_45 ?_
      refine aw_iload_n (pc := 48) dX11_canonicalOf_48 rfl ?_
      refine cx_ldI (pc := 49) hE r122 hv3_35 dX11_canonicalOf_49 H (fun x49 hx49 H => ?_)
      refine cx_callV (pc := 50) (P := pV) (dC := 1) (mcC := 0) (msC := 0) [iv x49] hE r100 (fun r1 H1 => s_X11_putsRight l sc E R hE hR n x49 hx49 m35 r1 H1) ca_X11_152 rfl ⟨_, rfl, rfl⟩ rfl rfl (Nat.le_of_ble_eq_true rfl) (Nat.le_of_ble_eq_true rfl) (Nat.le_of_ble_eq_true rfl) (Nat.le_of_ble_eq_true rfl) dX11_canonicalOf_50 H (fun x50 m50 v50 hh50 H hp => ?_)
      refine cx_backV hp ?_
      refine cx_iinc (pc := 53) [(3, iv (w32 (v3_35 + 1))), (0, .ref 100), (1, iv p1)] dX11_canonicalOf_53 rfl rfl (by decide) ?_
      refine aw_goto (pc := 56) 35 dX11_canonicalOf_56 rfl ?_
      exact AW.sel [1, 2, 0] rfl (ih35 _ _ (inR_w32 _) H)
    · -- 40: 59
      refine aw_aload_n (pc := 59) dX11_canonicalOf_59 rfl ?_
      refine aw_iload_n (pc := 60) dX11_canonicalOf_60 rfl ?_
      refine cx_ptF (pc := 61) tyX11 hE r100 fl_X11_175 (fun r h => ⟨gty_X11 r h, by cases h; rfl⟩) rfl rfl rfl (Nat.le_of_ble_eq_true rfl) dX11_canonicalOf_61 H (fun m61 H => ?_)
      refine aw_aload_n (pc := 64) dX11_canonicalOf_64 rfl ?_
      refine cx_callV (pc := 65) (P := pI) (dC := 305) (mcC := 0) (msC := 0) [] hE r100 (fun r1 H1 => s_X11_canonical l sc E R hE hR n m61 r1 H1) ca_X11_178 rfl ⟨_, rfl, rfl⟩ rfl rfl (Nat.le_of_ble_eq_true rfl) (Nat.le_of_ble_eq_true rfl) (Nat.le_of_ble_eq_true rfl) (Nat.le_of_ble_eq_true rfl) dX11_canonicalOf_65 H (fun x65 m65 v65 hh65 H hp => ?_)
      refine cx_backI hp (fun hx65 => ?_)
      exact cx_iret (pc := 68) hx65 rfl (Nat.le_of_ble_eq_true rfl) (Nat.le_of_ble_eq_true rfl) dX11_canonicalOf_68 H
/-- X11 waits (I)V -/
def f_X11_waits (n : Nat) (p1 : Int) (mi : Mem) : Option Rz :=
  gtF mi 100 26 fun x5 =>
  stI mi 122 x5 p1 fun m9 =>
  gtF m9 100 26 fun x12 =>
  ptF m9 100 26 (w32 (x12 + 1)) fun m17 =>
  rt 0 m17
set_option maxRecDepth 100000 in
set_option maxHeartbeats 4000000 in
theorem s_X11_waits (l : Launch) (sc : g_S) (E : Mem → g_H) (R : Nat → Prop) (hE : LE E R) (hR : RRF R) (n : Nat)  (p1 : Int) (hp1 : inR p1) (mi : Mem) (r : Rz) (H : f_X11_waits n p1 mi = some r) : AMet l sc yX11_waits cX11_waits 2 none 0 0 0 [.ref 100, iv p1] (E mi) (pV E r) := by
  have r100 : R 100 := hR 100 (Nat.le_of_ble_eq_true rfl) (Nat.le_of_ble_eq_true rfl)
  have r122 : R 122 := hR 122 (Nat.le_of_ble_eq_true rfl) (Nat.le_of_ble_eq_true rfl)
  unfold f_X11_waits at H
  refine AMet.of (own := RX11) (by decide +kernel) rfl (Nat.le_of_ble_eq_true rfl) [(0, .ref 100), (1, iv p1)] rfl (fun D base ad => ?_)
  refine aw_aload_n (pc := 0) dX11_waits_0 rfl ?_
  refine cx_gtC (pc := 1) 122 hE r100 fl_X11_172 rfl rfl (Nat.le_of_ble_eq_true rfl) dX11_waits_1 ?_
  refine aw_aload_n (pc := 4) dX11_waits_4 rfl ?_
  refine cx_gtF (pc := 5) hE r100 fl_X11_175 rfl rfl (Nat.le_of_ble_eq_true rfl) dX11_waits_5 H (fun x5 hx5 H => ?_)
  refine aw_iload_n (pc := 8) dX11_waits_8 rfl ?_
  refine cx_stI (pc := 9) hE r122 hx5 dX11_waits_9 H (fun m9 H => ?_)
  refine aw_aload_n (pc := 10) dX11_waits_10 rfl ?_
  refine aw_dup (pc := 11) dX11_waits_11 rfl ?_
  refine cx_gtF (pc := 12) hE r100 fl_X11_175 rfl rfl (Nat.le_of_ble_eq_true rfl) dX11_waits_12 H (fun x12 hx12 H => ?_)
  refine cx_iconst (pc := 15) dX11_waits_15 ?_
  refine cx_iadd (pc := 16) dX11_waits_16 ?_
  refine cx_ptF (pc := 17) tyX11 hE r100 fl_X11_175 (fun r h => ⟨gty_X11 r h, by cases h; rfl⟩) rfl rfl rfl (Nat.le_of_ble_eq_true rfl) dX11_waits_17 H (fun m17 H => ?_)
  exact cx_vret (pc := 20) rfl (Nat.le_of_ble_eq_true rfl) (Nat.le_of_ble_eq_true rfl) dX11_waits_20 H
/-- X11 sum (II)I -/
def b_X11_sum (n : Nat) (g_X11_sum : (Int → Int → Mem → Option Rz)) (g_X11_sumOf : (Int → Int → Mem → Option Rz)) (p1 : Int) (p2 : Int) (mi : Mem) : Option Rz :=
  jn (fun (m8 : Mem) =>
    rt (w32 (p1 + p2)) m8
  ) fun (j8 : Mem → Option Rz) =>
  if p1 = 0 then (
    j8 mi
  ) else
  if p2 = 0 then (
    j8 mi
  ) else
  jn (fun (s0_22 : Int) (m22 : Mem) =>
    nm (w32 ((w32 (p1 + p2)) - s0_22)) fun z28 =>
    nm (w32 ((w32 ((w32 (s0_22 * 16000)) + z28)) + 1)) fun z40 =>
    cal (f_X11_spread n z40 m22) fun x44 m44 =>
    nm (iand x44 32767) fun z51 =>
    ldI m44 118 z51 fun x59 =>
    if x59 = z40 then (
      ldI m44 119 z51 fun x71 =>
      rt x71 m44
    ) else
    cal (g_X11_sumOf s0_22 z28 m44) fun x77 m77 =>
    stI m77 118 z51 z40 fun m90 =>
    stI m90 119 z51 x77 fun m99 =>
    rt x77 m99
  ) fun (j22 : Int → Mem → Option Rz) =>
  if p1 < p2 then (
    j22 p1 mi
  ) else
  j22 p2 mi
/-- X11 sumOf (II)I -/
def b_X11_sumOf (n : Nat) (g_X11_sum : (Int → Int → Mem → Option Rz)) (g_X11_sumOf : (Int → Int → Mem → Option Rz)) (p1 : Int) (p2 : Int) (mi : Mem) : Option Rz :=
  gtF mi 100 26 fun x1 =>
  ldI mi 103 p1 fun x10 =>
  lp (F := Int → Mem → Option Rz) (fun _ _ => none) (fun w13 v4_13 m13 =>
    ldI m13 104 p1 fun x20 =>
    if v4_13 < x20 then (
      ldI m13 102 v4_13 fun x32 =>
      cal (g_X11_sum x32 p2 m13) fun x34 m34 =>
      cal (f_X11_waits n x34 m34) fun _ m37 =>
      w13 (w32 (v4_13 + 1)) m37
    ) else
    ldI m13 103 p2 fun x51 =>
    lp (F := Int → Mem → Option Rz) (fun _ _ => none) (fun w54 v4_54 m54 =>
      ldI m54 104 p2 fun x61 =>
      if v4_54 < x61 then (
        ldI m54 102 v4_54 fun x74 =>
        cal (g_X11_sum p1 x74 m54) fun x75 m75 =>
        cal (f_X11_waits n x75 m75) fun _ m78 =>
        w54 (w32 (v4_54 + 1)) m78
      ) else
      gtF m54 100 26 fun x88 =>
      ldI m54 104 p1 fun x98 =>
      lp (F := Int → Mem → Option Rz) (fun _ _ => none) (fun w101 v5_101 m101 =>
        ldI m101 105 p1 fun x108 =>
        if v5_101 < x108 then (
          ldI m101 102 v5_101 fun x120 =>
          cal (g_X11_sum x120 p2 m101) fun x122 m122 =>
          cal (f_X11_waits n x122 m122) fun _ m125 =>
          w101 (w32 (v5_101 + 1)) m125
        ) else
        ldI m101 104 p2 fun x139 =>
        lp (F := Int → Mem → Option Rz) (fun _ _ => none) (fun w142 v5_142 m142 =>
          ldI m142 105 p2 fun x149 =>
          if v5_142 < x149 then (
            ldI m142 102 v5_142 fun x162 =>
            cal (g_X11_sum p1 x162 m142) fun x163 m163 =>
            cal (f_X11_waits n x163 m163) fun _ m166 =>
            w142 (w32 (v5_142 + 1)) m166
          ) else
          cal (f_X11_canonicalOf n x1 x88 m142) fun x179 m179 =>
          rt x179 m179
        ) n x139 m101
      ) n x98 m54
    ) n x51 m13
  ) n x10 mi
def t_X11_sum (n : Nat) : Nat → (Int → Int → Mem → Option Rz) × (Int → Int → Mem → Option Rz)
  | 0 => (fun _ _ _ => none, fun _ _ _ => none)
  | d + 1 => (b_X11_sum n (t_X11_sum n d).1 (t_X11_sum n d).2, b_X11_sumOf n (t_X11_sum n d).1 (t_X11_sum n d).2)
def h_X11_sum (n d : Nat) : (Int → Int → Mem → Option Rz) := (t_X11_sum n d).1
def f_X11_sum (n : Nat) : (Int → Int → Mem → Option Rz) := h_X11_sum n 100
def h_X11_sumOf (n d : Nat) : (Int → Int → Mem → Option Rz) := (t_X11_sum n d).2
def f_X11_sumOf (n : Nat) : (Int → Int → Mem → Option Rz) := h_X11_sumOf n 100
theorem h_X11_sum_s (n d : Nat) (p1 : Int) (p2 : Int) (m : Mem) : h_X11_sum n (d + 1) p1 p2 m = b_X11_sum n (h_X11_sum n d) (h_X11_sumOf n d) p1 p2 m := rfl
theorem h_X11_sum_0 (n : Nat) (p1 : Int) (p2 : Int) (m : Mem) : h_X11_sum n 0 p1 p2 m = none := rfl
theorem h_X11_sumOf_s (n d : Nat) (p1 : Int) (p2 : Int) (m : Mem) : h_X11_sumOf n (d + 1) p1 p2 m = b_X11_sumOf n (h_X11_sum n d) (h_X11_sumOf n d) p1 p2 m := rfl
theorem h_X11_sumOf_0 (n : Nat) (p1 : Int) (p2 : Int) (m : Mem) : h_X11_sumOf n 0 p1 p2 m = none := rfl
def q_X11_sum (l : Launch) (sc : g_S) (E : Mem → g_H) (R : Nat → Prop) (dd : Nat) (g : (Int → Int → Mem → Option Rz)) : Prop := ∀ (p1 : Int) (p2 : Int) (m : Mem) (hp1 : inR p1) (hp2 : inR p2) (r : Rz) (H : g p1 p2 m = some r), AMet l sc yX11_sum cX11_sum 8 (some FieldType.int) dd 0 0 [.ref 100, iv p1, iv p2] (E m) (pI E r)
def q_X11_sumOf (l : Launch) (sc : g_S) (E : Mem → g_H) (R : Nat → Prop) (dd : Nat) (g : (Int → Int → Mem → Option Rz)) : Prop := ∀ (p1 : Int) (p2 : Int) (m : Mem) (hp1 : inR p1) (hp2 : inR p2) (r : Rz) (H : g p1 p2 m = some r), AMet l sc yX11_sumOf cX11_sumOf 6 (some FieldType.int) dd 0 0 [.ref 100, iv p1, iv p2] (E m) (pI E r)
set_option maxRecDepth 100000 in
set_option maxHeartbeats 4000000 in
theorem sb_X11_sum (l : Launch) (sc : g_S) (E : Mem → g_H) (R : Nat → Prop) (hE : LE E R) (hR : RRF R) (n : Nat) (dd : Nat) (hdd : 307 ≤ dd) (g_X11_sum : (Int → Int → Mem → Option Rz)) (g_X11_sumOf : (Int → Int → Mem → Option Rz)) (hg_X11_sum : q_X11_sum l sc E R dd g_X11_sum) (hg_X11_sumOf : q_X11_sumOf l sc E R dd g_X11_sumOf) (p1 : Int) (p2 : Int) (mi : Mem) (hp1 : inR p1) (hp2 : inR p2) (r : Rz) (H : b_X11_sum n g_X11_sum g_X11_sumOf p1 p2 mi = some r) : AMet l sc yX11_sum cX11_sum 8 (some FieldType.int) (dd + 1) 0 0 [.ref 100, iv p1, iv p2] (E mi) (pI E r) := by
  have r100 : R 100 := hR 100 (Nat.le_of_ble_eq_true rfl) (Nat.le_of_ble_eq_true rfl)
  have r118 : R 118 := hR 118 (Nat.le_of_ble_eq_true rfl) (Nat.le_of_ble_eq_true rfl)
  have r119 : R 119 := hR 119 (Nat.le_of_ble_eq_true rfl) (Nat.le_of_ble_eq_true rfl)
  unfold b_X11_sum at H
  refine AMet.of (own := RX11) (by decide +kernel) rfl (Nat.le_of_ble_eq_true rfl) [(0, .ref 100), (1, iv p1), (2, iv p2)] rfl (fun D base ad => ?_)
  refine aw_iload_n (pc := 0) dX11_sum_0 rfl ?_
  refine jn_ind (fun (f9 : Mem → Option Rz) => ∀ (m8 : Mem), f9 m8 = some r → AW l D base sc RX11 yX11_sum cX11_sum 8 (some FieldType.int) (dd + 1) 0 0 ad (E mi) (pI E r) 0 0 (E m8) 8 [(1, iv p1), (2, iv p2)] []) (fun m8 H => ?_) (fun j8 hj8 H => ?_) H
  · -- 8
    refine aw_iload_n (pc := 8) dX11_sum_8 rfl ?_
    refine aw_iload_n (pc := 9) dX11_sum_9 rfl ?_
    refine cx_iadd (pc := 10) dX11_sum_10 ?_
    exact cx_iret (pc := 11) (inR_w32 _) rfl (Nat.le_of_ble_eq_true rfl) (Nat.le_of_ble_eq_true rfl) dX11_sum_11 H
  refine cx_if_eq (pc := 1) 8 hp1 dX11_sum_1 rfl H (fun H => ?_) (fun H => ?_)
  · -- 1: 8
    exact AW.sel [1, 2] rfl (hj8 _ H)
  · -- 1: 4
    refine aw_iload_n (pc := 4) dX11_sum_4 rfl ?_
    refine cx_if_ne (pc := 5) 12 hp2 dX11_sum_5 rfl H (fun H => ?_) (fun H => ?_)
    · -- 5: 8
      exact AW.sel [1, 2] rfl (hj8 _ H)
    · -- 5: 12
      refine aw_iload_n (pc := 12) dX11_sum_12 rfl ?_
      refine aw_iload_n (pc := 13) dX11_sum_13 rfl ?_
      refine jn_ind (fun (f9 : Int → Mem → Option Rz) => ∀ (s0_22 : Int) (m22 : Mem), inR s0_22 → f9 s0_22 m22 = some r → AW l D base sc RX11 yX11_sum cX11_sum 8 (some FieldType.int) (dd + 1) 0 0 ad (E mi) (pI E r) 0 0 (E m22) 22 [(0, .ref 100), (1, iv p1), (2, iv p2)] [iv s0_22]) (fun s0_22 m22 hs0_22 H => ?_) (fun j22 hj22 H => ?_) H
      · -- 22
        refine aw_istore_n (pc := 22) [(3, iv s0_22), (0, .ref 100), (1, iv p1), (2, iv p2)] dX11_sum_22 rfl (by decide) ?_
        refine aw_iload_n (pc := 23) dX11_sum_23 rfl ?_
        refine aw_iload_n (pc := 24) dX11_sum_24 rfl ?_
        refine cx_iadd (pc := 25) dX11_sum_25 ?_
        refine aw_iload_n (pc := 26) dX11_sum_26 rfl ?_
        refine cx_isub (pc := 27) dX11_sum_27 ?_
        refine cx_nm (inR_w32 _) H (fun z28 hz28 H => ?_)
        refine aw_istore (pc := 28) [(4, iv z28), (3, iv s0_22), (0, .ref 100), (1, iv p1), (2, iv p2)] dX11_sum_28 rfl (by decide) ?_
        refine aw_iload_n (pc := 30) dX11_sum_30 rfl ?_
        refine cx_sipush (pc := 31) dX11_sum_31 (by decide) ?_
        refine cx_imul (pc := 34) dX11_sum_34 ?_
        refine aw_iload (pc := 35) dX11_sum_35 rfl ?_
        refine cx_iadd (pc := 37) dX11_sum_37 ?_
        refine cx_iconst (pc := 38) dX11_sum_38 ?_
        refine cx_iadd (pc := 39) dX11_sum_39 ?_
        refine cx_nm (inR_w32 _) H (fun z40 hz40 H => ?_)
        refine aw_istore (pc := 40) [(5, iv z40), (4, iv z28), (3, iv s0_22), (0, .ref 100), (1, iv p1), (2, iv p2)] dX11_sum_40 rfl (by decide) ?_
        refine aw_iload (pc := 42) dX11_sum_42 rfl ?_
        refine cx_callS (pc := 44) (P := pI) (dC := 0) (mcC := 0) (msC := 0) [iv z40] (fun r1 H1 => s_X11_spread l sc E R hE hR n z40 hz40 m22 r1 H1) ca_X11_16 rfl rfl (by omega) (Nat.le_of_ble_eq_true rfl) (Nat.le_of_ble_eq_true rfl) (Nat.le_of_ble_eq_true rfl) dX11_sum_44 H (fun x44 m44 v44 hh44 H hp => ?_)
        refine cx_backI hp (fun hx44 => ?_)
        refine cx_sipush (pc := 47) dX11_sum_47 (by decide) ?_
        refine cx_iand (pc := 50) dX11_sum_50 ?_
        refine cx_nm (inR_32 _) H (fun z51 hz51 H => ?_)
        refine aw_istore (pc := 51) [(6, iv z51), (5, iv z40), (4, iv z28), (3, iv s0_22), (0, .ref 100), (1, iv p1), (2, iv p2)] dX11_sum_51 rfl (by decide) ?_
        refine aw_aload_n (pc := 53) dX11_sum_53 rfl ?_
        refine cx_gtC (pc := 54) 118 hE r100 fl_X11_181 rfl rfl (Nat.le_of_ble_eq_true rfl) dX11_sum_54 ?_
        refine aw_iload (pc := 57) dX11_sum_57 rfl ?_
        refine cx_ldI (pc := 59) hE r118 hz51 dX11_sum_59 H (fun x59 hx59 H => ?_)
        refine aw_iload (pc := 60) dX11_sum_60 rfl ?_
        refine cx_icmp_ne (pc := 62) 73 hx59 hz40 dX11_sum_62 rfl H (fun H => ?_) (fun H => ?_)
        · -- 62: 65
          refine aw_aload_n (pc := 65) dX11_sum_65 rfl ?_
          refine cx_gtC (pc := 66) 119 hE r100 fl_X11_184 rfl rfl (Nat.le_of_ble_eq_true rfl) dX11_sum_66 ?_
          refine aw_iload (pc := 69) dX11_sum_69 rfl ?_
          refine cx_ldI (pc := 71) hE r119 hz51 dX11_sum_71 H (fun x71 hx71 H => ?_)
          exact cx_iret (pc := 72) hx71 rfl (Nat.le_of_ble_eq_true rfl) (Nat.le_of_ble_eq_true rfl) dX11_sum_72 H
        · -- 62: 73
          refine aw_aload_n (pc := 73) dX11_sum_73 rfl ?_
          refine aw_iload_n (pc := 74) dX11_sum_74 rfl ?_
          refine aw_iload (pc := 75) dX11_sum_75 rfl ?_
          refine cx_callV (pc := 77) (P := pI) (dC := dd) (mcC := 0) (msC := 0) [iv s0_22, iv z28] hE r100 (fun r1 H1 => hg_X11_sumOf s0_22 z28 m44 hs0_22 hz28 r1 H1) ca_X11_187 rfl ⟨_, rfl, rfl⟩ rfl rfl (by omega) (Nat.le_of_ble_eq_true rfl) (Nat.le_of_ble_eq_true rfl) (Nat.le_of_ble_eq_true rfl) dX11_sum_77 H (fun x77 m77 v77 hh77 H hp => ?_)
          refine cx_backI hp (fun hx77 => ?_)
          refine aw_istore (pc := 80) [(7, iv x77), (6, iv z51), (5, iv z40), (4, iv z28), (3, iv s0_22), (0, .ref 100), (1, iv p1), (2, iv p2)] dX11_sum_80 rfl (by decide) ?_
          refine aw_aload_n (pc := 82) dX11_sum_82 rfl ?_
          refine cx_gtC (pc := 83) 118 hE r100 fl_X11_181 rfl rfl (Nat.le_of_ble_eq_true rfl) dX11_sum_83 ?_
          refine aw_iload (pc := 86) dX11_sum_86 rfl ?_
          refine aw_iload (pc := 88) dX11_sum_88 rfl ?_
          refine cx_stI (pc := 90) hE r118 hz51 dX11_sum_90 H (fun m90 H => ?_)
          refine aw_aload_n (pc := 91) dX11_sum_91 rfl ?_
          refine cx_gtC (pc := 92) 119 hE r100 fl_X11_184 rfl rfl (Nat.le_of_ble_eq_true rfl) dX11_sum_92 ?_
          refine aw_iload (pc := 95) dX11_sum_95 rfl ?_
          refine aw_iload (pc := 97) dX11_sum_97 rfl ?_
          refine cx_stI (pc := 99) hE r119 hz51 dX11_sum_99 H (fun m99 H => ?_)
          refine aw_iload (pc := 100) dX11_sum_100 rfl ?_
          exact cx_iret (pc := 102) hx77 rfl (Nat.le_of_ble_eq_true rfl) (Nat.le_of_ble_eq_true rfl) dX11_sum_102 H
      refine cx_icmp_ge (pc := 14) 21 hp1 hp2 dX11_sum_14 rfl H (fun H => ?_) (fun H => ?_)
      · -- 14: 17
        refine aw_iload_n (pc := 17) dX11_sum_17 rfl ?_
        refine aw_goto (pc := 18) 22 dX11_sum_18 rfl ?_
        exact AW.sel [0, 1, 2] rfl (hj22 _ _ hp1 H)
      · -- 14: 21
        refine aw_iload_n (pc := 21) dX11_sum_21 rfl ?_
        exact AW.sel [0, 1, 2] rfl (hj22 _ _ hp2 H)
set_option maxRecDepth 100000 in
set_option maxHeartbeats 4000000 in
theorem sb_X11_sumOf (l : Launch) (sc : g_S) (E : Mem → g_H) (R : Nat → Prop) (hE : LE E R) (hR : RRF R) (n : Nat) (dd : Nat) (hdd : 307 ≤ dd) (g_X11_sum : (Int → Int → Mem → Option Rz)) (g_X11_sumOf : (Int → Int → Mem → Option Rz)) (hg_X11_sum : q_X11_sum l sc E R dd g_X11_sum) (hg_X11_sumOf : q_X11_sumOf l sc E R dd g_X11_sumOf) (p1 : Int) (p2 : Int) (mi : Mem) (hp1 : inR p1) (hp2 : inR p2) (r : Rz) (H : b_X11_sumOf n g_X11_sum g_X11_sumOf p1 p2 mi = some r) : AMet l sc yX11_sumOf cX11_sumOf 6 (some FieldType.int) (dd + 1) 0 0 [.ref 100, iv p1, iv p2] (E mi) (pI E r) := by
  have r100 : R 100 := hR 100 (Nat.le_of_ble_eq_true rfl) (Nat.le_of_ble_eq_true rfl)
  have r102 : R 102 := hR 102 (Nat.le_of_ble_eq_true rfl) (Nat.le_of_ble_eq_true rfl)
  have r103 : R 103 := hR 103 (Nat.le_of_ble_eq_true rfl) (Nat.le_of_ble_eq_true rfl)
  have r104 : R 104 := hR 104 (Nat.le_of_ble_eq_true rfl) (Nat.le_of_ble_eq_true rfl)
  have r105 : R 105 := hR 105 (Nat.le_of_ble_eq_true rfl) (Nat.le_of_ble_eq_true rfl)
  unfold b_X11_sumOf at H
  refine AMet.of (own := RX11) (by decide +kernel) rfl (Nat.le_of_ble_eq_true rfl) [(0, .ref 100), (1, iv p1), (2, iv p2)] rfl (fun D base ad => ?_)
  refine aw_aload_n (pc := 0) dX11_sumOf_0 rfl ?_
  refine cx_gtF (pc := 1) hE r100 fl_X11_175 rfl rfl (Nat.le_of_ble_eq_true rfl) dX11_sumOf_1 H (fun x1 hx1 H => ?_)
  refine aw_istore_n (pc := 4) [(3, iv x1), (0, .ref 100), (1, iv p1), (2, iv p2)] dX11_sumOf_4 rfl (by decide) ?_
  refine aw_aload_n (pc := 5) dX11_sumOf_5 rfl ?_
  refine cx_gtC (pc := 6) 103 hE r100 fl_X11_29 rfl rfl (Nat.le_of_ble_eq_true rfl) dX11_sumOf_6 ?_
  refine aw_iload_n (pc := 9) dX11_sumOf_9 rfl ?_
  refine cx_ldI (pc := 10) hE r103 hp1 dX11_sumOf_10 H (fun x10 hx10 H => ?_)
  refine aw_istore (pc := 11) [(4, iv x10), (3, iv x1), (0, .ref 100), (1, iv p1), (2, iv p2)] dX11_sumOf_11 rfl (by decide) ?_
  refine AW.sel [2, 3, 4, 1, 0] rfl (lp_ind (bot := fun _ _ => none) (fun (f9 : Int → Mem → Option Rz) => ∀ (v4_13 : Int) (m13 : Mem), inR v4_13 → f9 v4_13 m13 = some r → AW l D base sc RX11 yX11_sumOf cX11_sumOf 6 (some FieldType.int) (dd + 1) 0 0 ad (E mi) (pI E r) 0 0 (E m13) 13 [(0, .ref 100), (1, iv p1), (2, iv p2), (3, iv x1), (4, iv v4_13)] []) (fun _ _ _ h9 => nomatch h9) (fun w13 ih13 v4_13 m13 hv4_13 H => ?_) n _ _ hx10 H)
  refine aw_iload (pc := 13) dX11_sumOf_13 rfl ?_
  refine aw_aload_n (pc := 15) dX11_sumOf_15 rfl ?_
  refine cx_gtC (pc := 16) 104 hE r100 fl_X11_26 rfl rfl (Nat.le_of_ble_eq_true rfl) dX11_sumOf_16 ?_
  refine aw_iload_n (pc := 19) dX11_sumOf_19 rfl ?_
  refine cx_ldI (pc := 20) hE r104 hp1 dX11_sumOf_20 H (fun x20 hx20 H => ?_)
  refine cx_icmp_ge (pc := 21) 46 hv4_13 hx20 dX11_sumOf_21 rfl H (fun H => ?_) (fun H => ?_)
  · -- 21: 24
    refine aw_aload_n (pc := 24) dX11_sumOf_24 rfl ?_
    refine aw_aload_n (pc := 25) dX11_sumOf_25 rfl ?_
    refine aw_aload_n (pc := 26) dX11_sumOf_26 rfl ?_
    refine cx_gtC (pc := 27) 102 hE r100 fl_X11_35 rfl rfl (Nat.le_of_ble_eq_true rfl) dX11_sumOf_27 ?_
    refine aw_iload (pc := 30) dX11_sumOf_30 rfl ?_
    refine cx_ldI (pc := 32) hE r102 hv4_13 dX11_sumOf_32 H (fun x32 hx32 H => ?_)
    refine aw_iload_n (pc := 33) dX11_sumOf_33 rfl ?_
    refine cx_callV (pc := 34) (P := pI) (dC := dd) (mcC := 0) (msC := 0) [iv x32, iv p2] hE r100 (fun r1 H1 => hg_X11_sum x32 p2 m13 hx32 hp2 r1 H1) ca_X11_191 rfl ⟨_, rfl, rfl⟩ rfl rfl (by omega) (Nat.le_of_ble_eq_true rfl) (Nat.le_of_ble_eq_true rfl) (Nat.le_of_ble_eq_true rfl) dX11_sumOf_34 H (fun x34 m34 v34 hh34 H hp => ?_)
    refine cx_backI hp (fun hx34 => ?_)
    refine cx_callV (pc := 37) (P := pV) (dC := 0) (mcC := 0) (msC := 0) [iv x34] hE r100 (fun r1 H1 => s_X11_waits l sc E R hE hR n x34 hx34 m34 r1 H1) ca_X11_194 rfl ⟨_, rfl, rfl⟩ rfl rfl (by omega) (Nat.le_of_ble_eq_true rfl) (Nat.le_of_ble_eq_true rfl) (Nat.le_of_ble_eq_true rfl) dX11_sumOf_37 H (fun x37 m37 v37 hh37 H hp => ?_)
    refine cx_backV hp ?_
    refine cx_iinc (pc := 40) [(4, iv (w32 (v4_13 + 1))), (0, .ref 100), (1, iv p1), (2, iv p2), (3, iv x1)] dX11_sumOf_40 rfl rfl (by decide) ?_
    refine aw_goto (pc := 43) 13 dX11_sumOf_43 rfl ?_
    exact AW.sel [1, 2, 3, 4, 0] rfl (ih13 _ _ (inR_w32 _) H)
  · -- 21: 46
    refine aw_aload_n (pc := 46) dX11_sumOf_46 rfl ?_
    refine cx_gtC (pc := 47) 103 hE r100 fl_X11_29 rfl rfl (Nat.le_of_ble_eq_true rfl) dX11_sumOf_47 ?_
    refine aw_iload_n (pc := 50) dX11_sumOf_50 rfl ?_
    refine cx_ldI (pc := 51) hE r103 hp2 dX11_sumOf_51 H (fun x51 hx51 H => ?_)
    refine aw_istore (pc := 52) [(4, iv x51), (0, .ref 100), (1, iv p1), (2, iv p2), (3, iv x1)] dX11_sumOf_52 rfl (by decide) ?_
    refine AW.sel [1, 2, 3, 4, 0] rfl (lp_ind (bot := fun _ _ => none) (fun (f9 : Int → Mem → Option Rz) => ∀ (v4_54 : Int) (m54 : Mem), inR v4_54 → f9 v4_54 m54 = some r → AW l D base sc RX11 yX11_sumOf cX11_sumOf 6 (some FieldType.int) (dd + 1) 0 0 ad (E mi) (pI E r) 0 0 (E m54) 54 [(0, .ref 100), (1, iv p1), (2, iv p2), (3, iv x1), (4, iv v4_54)] []) (fun _ _ _ h9 => nomatch h9) (fun w54 ih54 v4_54 m54 hv4_54 H => ?_) n _ _ hx51 H)
    refine aw_iload (pc := 54) dX11_sumOf_54 rfl ?_
    refine aw_aload_n (pc := 56) dX11_sumOf_56 rfl ?_
    refine cx_gtC (pc := 57) 104 hE r100 fl_X11_26 rfl rfl (Nat.le_of_ble_eq_true rfl) dX11_sumOf_57 ?_
    refine aw_iload_n (pc := 60) dX11_sumOf_60 rfl ?_
    refine cx_ldI (pc := 61) hE r104 hp2 dX11_sumOf_61 H (fun x61 hx61 H => ?_)
    refine cx_icmp_ge (pc := 62) 87 hv4_54 hx61 dX11_sumOf_62 rfl H (fun H => ?_) (fun H => ?_)
    · -- 62: 65
      refine aw_aload_n (pc := 65) dX11_sumOf_65 rfl ?_
      refine aw_aload_n (pc := 66) dX11_sumOf_66 rfl ?_
      refine aw_iload_n (pc := 67) dX11_sumOf_67 rfl ?_
      refine aw_aload_n (pc := 68) dX11_sumOf_68 rfl ?_
      refine cx_gtC (pc := 69) 102 hE r100 fl_X11_35 rfl rfl (Nat.le_of_ble_eq_true rfl) dX11_sumOf_69 ?_
      refine aw_iload (pc := 72) dX11_sumOf_72 rfl ?_
      refine cx_ldI (pc := 74) hE r102 hv4_54 dX11_sumOf_74 H (fun x74 hx74 H => ?_)
      refine cx_callV (pc := 75) (P := pI) (dC := dd) (mcC := 0) (msC := 0) [iv p1, iv x74] hE r100 (fun r1 H1 => hg_X11_sum p1 x74 m54 hp1 hx74 r1 H1) ca_X11_191 rfl ⟨_, rfl, rfl⟩ rfl rfl (by omega) (Nat.le_of_ble_eq_true rfl) (Nat.le_of_ble_eq_true rfl) (Nat.le_of_ble_eq_true rfl) dX11_sumOf_75 H (fun x75 m75 v75 hh75 H hp => ?_)
      refine cx_backI hp (fun hx75 => ?_)
      refine cx_callV (pc := 78) (P := pV) (dC := 0) (mcC := 0) (msC := 0) [iv x75] hE r100 (fun r1 H1 => s_X11_waits l sc E R hE hR n x75 hx75 m75 r1 H1) ca_X11_194 rfl ⟨_, rfl, rfl⟩ rfl rfl (by omega) (Nat.le_of_ble_eq_true rfl) (Nat.le_of_ble_eq_true rfl) (Nat.le_of_ble_eq_true rfl) dX11_sumOf_78 H (fun x78 m78 v78 hh78 H hp => ?_)
      refine cx_backV hp ?_
      refine cx_iinc (pc := 81) [(4, iv (w32 (v4_54 + 1))), (0, .ref 100), (1, iv p1), (2, iv p2), (3, iv x1)] dX11_sumOf_81 rfl rfl (by decide) ?_
      refine aw_goto (pc := 84) 54 dX11_sumOf_84 rfl ?_
      exact AW.sel [1, 2, 3, 4, 0] rfl (ih54 _ _ (inR_w32 _) H)
    · -- 62: 87
      refine aw_aload_n (pc := 87) dX11_sumOf_87 rfl ?_
      refine cx_gtF (pc := 88) hE r100 fl_X11_175 rfl rfl (Nat.le_of_ble_eq_true rfl) dX11_sumOf_88 H (fun x88 hx88 H => ?_)
      refine aw_istore (pc := 91) [(4, iv x88), (0, .ref 100), (1, iv p1), (2, iv p2), (3, iv x1)] dX11_sumOf_91 rfl (by decide) ?_
      refine aw_aload_n (pc := 93) dX11_sumOf_93 rfl ?_
      refine cx_gtC (pc := 94) 104 hE r100 fl_X11_26 rfl rfl (Nat.le_of_ble_eq_true rfl) dX11_sumOf_94 ?_
      refine aw_iload_n (pc := 97) dX11_sumOf_97 rfl ?_
      refine cx_ldI (pc := 98) hE r104 hp1 dX11_sumOf_98 H (fun x98 hx98 H => ?_)
      refine aw_istore (pc := 99) [(5, iv x98), (4, iv x88), (0, .ref 100), (1, iv p1), (2, iv p2), (3, iv x1)] dX11_sumOf_99 rfl (by decide) ?_
      refine AW.sel [2, 3, 4, 5, 1, 0] rfl (lp_ind (bot := fun _ _ => none) (fun (f9 : Int → Mem → Option Rz) => ∀ (v5_101 : Int) (m101 : Mem), inR v5_101 → f9 v5_101 m101 = some r → AW l D base sc RX11 yX11_sumOf cX11_sumOf 6 (some FieldType.int) (dd + 1) 0 0 ad (E mi) (pI E r) 0 0 (E m101) 101 [(0, .ref 100), (1, iv p1), (2, iv p2), (3, iv x1), (4, iv x88), (5, iv v5_101)] []) (fun _ _ _ h9 => nomatch h9) (fun w101 ih101 v5_101 m101 hv5_101 H => ?_) n _ _ hx98 H)
      refine aw_iload (pc := 101) dX11_sumOf_101 rfl ?_
      refine aw_aload_n (pc := 103) dX11_sumOf_103 rfl ?_
      refine cx_gtC (pc := 104) 105 hE r100 fl_X11_32 rfl rfl (Nat.le_of_ble_eq_true rfl) dX11_sumOf_104 ?_
      refine aw_iload_n (pc := 107) dX11_sumOf_107 rfl ?_
      refine cx_ldI (pc := 108) hE r105 hp1 dX11_sumOf_108 H (fun x108 hx108 H => ?_)
      refine cx_icmp_ge (pc := 109) 134 hv5_101 hx108 dX11_sumOf_109 rfl H (fun H => ?_) (fun H => ?_)
      · -- 109: 112
        refine aw_aload_n (pc := 112) dX11_sumOf_112 rfl ?_
        refine aw_aload_n (pc := 113) dX11_sumOf_113 rfl ?_
        refine aw_aload_n (pc := 114) dX11_sumOf_114 rfl ?_
        refine cx_gtC (pc := 115) 102 hE r100 fl_X11_35 rfl rfl (Nat.le_of_ble_eq_true rfl) dX11_sumOf_115 ?_
        refine aw_iload (pc := 118) dX11_sumOf_118 rfl ?_
        refine cx_ldI (pc := 120) hE r102 hv5_101 dX11_sumOf_120 H (fun x120 hx120 H => ?_)
        refine aw_iload_n (pc := 121) dX11_sumOf_121 rfl ?_
        refine cx_callV (pc := 122) (P := pI) (dC := dd) (mcC := 0) (msC := 0) [iv x120, iv p2] hE r100 (fun r1 H1 => hg_X11_sum x120 p2 m101 hx120 hp2 r1 H1) ca_X11_191 rfl ⟨_, rfl, rfl⟩ rfl rfl (by omega) (Nat.le_of_ble_eq_true rfl) (Nat.le_of_ble_eq_true rfl) (Nat.le_of_ble_eq_true rfl) dX11_sumOf_122 H (fun x122 m122 v122 hh122 H hp => ?_)
        refine cx_backI hp (fun hx122 => ?_)
        refine cx_callV (pc := 125) (P := pV) (dC := 0) (mcC := 0) (msC := 0) [iv x122] hE r100 (fun r1 H1 => s_X11_waits l sc E R hE hR n x122 hx122 m122 r1 H1) ca_X11_194 rfl ⟨_, rfl, rfl⟩ rfl rfl (by omega) (Nat.le_of_ble_eq_true rfl) (Nat.le_of_ble_eq_true rfl) (Nat.le_of_ble_eq_true rfl) dX11_sumOf_125 H (fun x125 m125 v125 hh125 H hp => ?_)
        refine cx_backV hp ?_
        refine cx_iinc (pc := 128) [(5, iv (w32 (v5_101 + 1))), (0, .ref 100), (1, iv p1), (2, iv p2), (3, iv x1), (4, iv x88)] dX11_sumOf_128 rfl rfl (by decide) ?_
        refine aw_goto (pc := 131) 101 dX11_sumOf_131 rfl ?_
        exact AW.sel [1, 2, 3, 4, 5, 0] rfl (ih101 _ _ (inR_w32 _) H)
      · -- 109: 134
        refine aw_aload_n (pc := 134) dX11_sumOf_134 rfl ?_
        refine cx_gtC (pc := 135) 104 hE r100 fl_X11_26 rfl rfl (Nat.le_of_ble_eq_true rfl) dX11_sumOf_135 ?_
        refine aw_iload_n (pc := 138) dX11_sumOf_138 rfl ?_
        refine cx_ldI (pc := 139) hE r104 hp2 dX11_sumOf_139 H (fun x139 hx139 H => ?_)
        refine aw_istore (pc := 140) [(5, iv x139), (0, .ref 100), (1, iv p1), (2, iv p2), (3, iv x1), (4, iv x88)] dX11_sumOf_140 rfl (by decide) ?_
        refine AW.sel [1, 2, 3, 4, 5, 0] rfl (lp_ind (bot := fun _ _ => none) (fun (f9 : Int → Mem → Option Rz) => ∀ (v5_142 : Int) (m142 : Mem), inR v5_142 → f9 v5_142 m142 = some r → AW l D base sc RX11 yX11_sumOf cX11_sumOf 6 (some FieldType.int) (dd + 1) 0 0 ad (E mi) (pI E r) 0 0 (E m142) 142 [(0, .ref 100), (1, iv p1), (2, iv p2), (3, iv x1), (4, iv x88), (5, iv v5_142)] []) (fun _ _ _ h9 => nomatch h9) (fun w142 ih142 v5_142 m142 hv5_142 H => ?_) n _ _ hx139 H)
        refine aw_iload (pc := 142) dX11_sumOf_142 rfl ?_
        refine aw_aload_n (pc := 144) dX11_sumOf_144 rfl ?_
        refine cx_gtC (pc := 145) 105 hE r100 fl_X11_32 rfl rfl (Nat.le_of_ble_eq_true rfl) dX11_sumOf_145 ?_
        refine aw_iload_n (pc := 148) dX11_sumOf_148 rfl ?_
        refine cx_ldI (pc := 149) hE r105 hp2 dX11_sumOf_149 H (fun x149 hx149 H => ?_)
        refine cx_icmp_ge (pc := 150) 175 hv5_142 hx149 dX11_sumOf_150 rfl H (fun H => ?_) (fun H => ?_)
        · -- 150: 153
          refine aw_aload_n (pc := 153) dX11_sumOf_153 rfl ?_
          refine aw_aload_n (pc := 154) dX11_sumOf_154 rfl ?_
          refine aw_iload_n (pc := 155) dX11_sumOf_155 rfl ?_
          refine aw_aload_n (pc := 156) dX11_sumOf_156 rfl ?_
          refine cx_gtC (pc := 157) 102 hE r100 fl_X11_35 rfl rfl (Nat.le_of_ble_eq_true rfl) dX11_sumOf_157 ?_
          refine aw_iload (pc := 160) dX11_sumOf_160 rfl ?_
          refine cx_ldI (pc := 162) hE r102 hv5_142 dX11_sumOf_162 H (fun x162 hx162 H => ?_)
          refine cx_callV (pc := 163) (P := pI) (dC := dd) (mcC := 0) (msC := 0) [iv p1, iv x162] hE r100 (fun r1 H1 => hg_X11_sum p1 x162 m142 hp1 hx162 r1 H1) ca_X11_191 rfl ⟨_, rfl, rfl⟩ rfl rfl (by omega) (Nat.le_of_ble_eq_true rfl) (Nat.le_of_ble_eq_true rfl) (Nat.le_of_ble_eq_true rfl) dX11_sumOf_163 H (fun x163 m163 v163 hh163 H hp => ?_)
          refine cx_backI hp (fun hx163 => ?_)
          refine cx_callV (pc := 166) (P := pV) (dC := 0) (mcC := 0) (msC := 0) [iv x163] hE r100 (fun r1 H1 => s_X11_waits l sc E R hE hR n x163 hx163 m163 r1 H1) ca_X11_194 rfl ⟨_, rfl, rfl⟩ rfl rfl (by omega) (Nat.le_of_ble_eq_true rfl) (Nat.le_of_ble_eq_true rfl) (Nat.le_of_ble_eq_true rfl) dX11_sumOf_166 H (fun x166 m166 v166 hh166 H hp => ?_)
          refine cx_backV hp ?_
          refine cx_iinc (pc := 169) [(5, iv (w32 (v5_142 + 1))), (0, .ref 100), (1, iv p1), (2, iv p2), (3, iv x1), (4, iv x88)] dX11_sumOf_169 rfl rfl (by decide) ?_
          refine aw_goto (pc := 172) 142 dX11_sumOf_172 rfl ?_
          exact AW.sel [1, 2, 3, 4, 5, 0] rfl (ih142 _ _ (inR_w32 _) H)
        · -- 150: 175
          refine aw_aload_n (pc := 175) dX11_sumOf_175 rfl ?_
          refine aw_iload_n (pc := 176) dX11_sumOf_176 rfl ?_
          refine aw_iload (pc := 177) dX11_sumOf_177 rfl ?_
          refine cx_callV (pc := 179) (P := pI) (dC := 306) (mcC := 0) (msC := 0) [iv x1, iv x88] hE r100 (fun r1 H1 => s_X11_canonicalOf l sc E R hE hR n x1 x88 hx1 hx88 m142 r1 H1) ca_X11_197 rfl ⟨_, rfl, rfl⟩ rfl rfl (by omega) (Nat.le_of_ble_eq_true rfl) (Nat.le_of_ble_eq_true rfl) (Nat.le_of_ble_eq_true rfl) dX11_sumOf_179 H (fun x179 m179 v179 hh179 H hp => ?_)
          refine cx_backI hp (fun hx179 => ?_)
          exact cx_iret (pc := 182) hx179 rfl (Nat.le_of_ble_eq_true rfl) (Nat.le_of_ble_eq_true rfl) dX11_sumOf_182 H
theorem sa_X11_sum (l : Launch) (sc : g_S) (E : Mem → g_H) (R : Nat → Prop) (hE : LE E R) (hR : RRF R) (n : Nat) : ∀ dp, q_X11_sum l sc E R (307 + dp) (h_X11_sum n dp) ∧ q_X11_sumOf l sc E R (307 + dp) (h_X11_sumOf n dp)
  | 0 => ⟨(fun _ _ _ _ _ _ H => nomatch H), (fun _ _ _ _ _ _ H => nomatch H)⟩
  | dp + 1 => by
    have ih := sa_X11_sum l sc E R hE hR n dp
    refine ⟨?_, ?_⟩
    · exact fun p1 p2 m hp1 hp2 r H => sb_X11_sum l sc E R hE hR n (307 + dp) (Nat.le_add_right _ _) _ _ ih.1 ih.2 p1 p2 m hp1 hp2 r H
    · exact fun p1 p2 m hp1 hp2 r H => sb_X11_sumOf l sc E R hE hR n (307 + dp) (Nat.le_add_right _ _) _ _ ih.1 ih.2 p1 p2 m hp1 hp2 r H
theorem s_X11_sum (l : Launch) (sc : g_S) (E : Mem → g_H) (R : Nat → Prop) (hE : LE E R) (hR : RRF R) (n : Nat) (p1 : Int) (p2 : Int) (hp1 : inR p1) (hp2 : inR p2) (m : Mem) (r : Rz) (H : f_X11_sum n p1 p2 m = some r) : AMet l sc yX11_sum cX11_sum 8 (some FieldType.int) 407 0 0 [.ref 100, iv p1, iv p2] (E m) (pI E r) := (sa_X11_sum l sc E R hE hR n 100).1 p1 p2 m hp1 hp2 r H
theorem s_X11_sumOf (l : Launch) (sc : g_S) (E : Mem → g_H) (R : Nat → Prop) (hE : LE E R) (hR : RRF R) (n : Nat) (p1 : Int) (p2 : Int) (hp1 : inR p1) (hp2 : inR p2) (m : Mem) (r : Rz) (H : f_X11_sumOf n p1 p2 m = some r) : AMet l sc yX11_sumOf cX11_sumOf 6 (some FieldType.int) 407 0 0 [.ref 100, iv p1, iv p2] (E m) (pI E r) := (sa_X11_sum l sc E R hE hR n 100).2 p1 p2 m hp1 hp2 r H
/-- X11 negativeOf (I)I -/
def b_X11_negativeOf (n : Nat) (g_X11_negativeOf : (Int → Mem → Option Rz)) (p1 : Int) (mi : Mem) : Option Rz :=
  ldI mi 112 p1 fun x5 =>
  if 0 < x5 then (
    ldI mi 112 p1 fun x14 =>
    rt (w32 (x14 - 1)) mi
  ) else
  gtF mi 100 26 fun x19 =>
  ldI mi 104 p1 fun x28 =>
  lp (F := Int → Mem → Option Rz) (fun _ _ => none) (fun w30 v3_30 m30 =>
    ldI m30 105 p1 fun x36 =>
    if v3_30 < x36 then (
      ldI m30 102 v3_30 fun x47 =>
      cal (g_X11_negativeOf x47 m30) fun x48 m48 =>
      cal (f_X11_waits n x48 m48) fun _ m51 =>
      w30 (w32 (v3_30 + 1)) m51
    ) else
    gtF m30 100 26 fun x61 =>
    ldI m30 103 p1 fun x70 =>
    lp (F := Int → Mem → Option Rz) (fun _ _ => none) (fun w73 v4_73 m73 =>
      ldI m73 104 p1 fun x80 =>
      if v4_73 < x80 then (
        ldI m73 102 v4_73 fun x92 =>
        cal (g_X11_negativeOf x92 m73) fun x93 m93 =>
        cal (f_X11_waits n x93 m93) fun _ m96 =>
        w73 (w32 (v4_73 + 1)) m96
      ) else
      cal (f_X11_canonicalOf n x19 x61 m73) fun x108 m108 =>
      stI m108 112 p1 (w32 (x108 + 1)) fun m122 =>
      rt x108 m122
    ) n x70 m30
  ) n x28 mi
def t_X11_negativeOf (n : Nat) : Nat → (Int → Mem → Option Rz)
  | 0 => (fun _ _ => none)
  | d + 1 => (b_X11_negativeOf n (t_X11_negativeOf n d))
def h_X11_negativeOf (n d : Nat) : (Int → Mem → Option Rz) := (t_X11_negativeOf n d)
def f_X11_negativeOf (n : Nat) : (Int → Mem → Option Rz) := h_X11_negativeOf n 50
theorem h_X11_negativeOf_s (n d : Nat) (p1 : Int) (m : Mem) : h_X11_negativeOf n (d + 1) p1 m = b_X11_negativeOf n (h_X11_negativeOf n d) p1 m := rfl
theorem h_X11_negativeOf_0 (n : Nat) (p1 : Int) (m : Mem) : h_X11_negativeOf n 0 p1 m = none := rfl
def q_X11_negativeOf (l : Launch) (sc : g_S) (E : Mem → g_H) (R : Nat → Prop) (dd : Nat) (g : (Int → Mem → Option Rz)) : Prop := ∀ (p1 : Int) (m : Mem) (hp1 : inR p1) (r : Rz) (H : g p1 m = some r), AMet l sc yX11_negativeOf cX11_negativeOf 5 (some FieldType.int) dd 0 0 [.ref 100, iv p1] (E m) (pI E r)
set_option maxRecDepth 100000 in
set_option maxHeartbeats 4000000 in
theorem sb_X11_negativeOf (l : Launch) (sc : g_S) (E : Mem → g_H) (R : Nat → Prop) (hE : LE E R) (hR : RRF R) (n : Nat) (dd : Nat) (hdd : 307 ≤ dd) (g_X11_negativeOf : (Int → Mem → Option Rz)) (hg_X11_negativeOf : q_X11_negativeOf l sc E R dd g_X11_negativeOf) (p1 : Int) (mi : Mem) (hp1 : inR p1) (r : Rz) (H : b_X11_negativeOf n g_X11_negativeOf p1 mi = some r) : AMet l sc yX11_negativeOf cX11_negativeOf 5 (some FieldType.int) (dd + 1) 0 0 [.ref 100, iv p1] (E mi) (pI E r) := by
  have r100 : R 100 := hR 100 (Nat.le_of_ble_eq_true rfl) (Nat.le_of_ble_eq_true rfl)
  have r102 : R 102 := hR 102 (Nat.le_of_ble_eq_true rfl) (Nat.le_of_ble_eq_true rfl)
  have r103 : R 103 := hR 103 (Nat.le_of_ble_eq_true rfl) (Nat.le_of_ble_eq_true rfl)
  have r104 : R 104 := hR 104 (Nat.le_of_ble_eq_true rfl) (Nat.le_of_ble_eq_true rfl)
  have r105 : R 105 := hR 105 (Nat.le_of_ble_eq_true rfl) (Nat.le_of_ble_eq_true rfl)
  have r112 : R 112 := hR 112 (Nat.le_of_ble_eq_true rfl) (Nat.le_of_ble_eq_true rfl)
  unfold b_X11_negativeOf at H
  refine AMet.of (own := RX11) (by decide +kernel) rfl (Nat.le_of_ble_eq_true rfl) [(0, .ref 100), (1, iv p1)] rfl (fun D base ad => ?_)
  refine aw_aload_n (pc := 0) dX11_negativeOf_0 rfl ?_
  refine cx_gtC (pc := 1) 112 hE r100 fl_X11_65 rfl rfl (Nat.le_of_ble_eq_true rfl) dX11_negativeOf_1 ?_
  refine aw_iload_n (pc := 4) dX11_negativeOf_4 rfl ?_
  refine cx_ldI (pc := 5) hE r112 hp1 dX11_negativeOf_5 H (fun x5 hx5 H => ?_)
  refine cx_if_le (pc := 6) 18 hx5 dX11_negativeOf_6 rfl H (fun H => ?_) (fun H => ?_)
  · -- 6: 9
    refine aw_aload_n (pc := 9) dX11_negativeOf_9 rfl ?_
    refine cx_gtC (pc := 10) 112 hE r100 fl_X11_65 rfl rfl (Nat.le_of_ble_eq_true rfl) dX11_negativeOf_10 ?_
    refine aw_iload_n (pc := 13) dX11_negativeOf_13 rfl ?_
    refine cx_ldI (pc := 14) hE r112 hp1 dX11_negativeOf_14 H (fun x14 hx14 H => ?_)
    refine cx_iconst (pc := 15) dX11_negativeOf_15 ?_
    refine cx_isub (pc := 16) dX11_negativeOf_16 ?_
    exact cx_iret (pc := 17) (inR_w32 _) rfl (Nat.le_of_ble_eq_true rfl) (Nat.le_of_ble_eq_true rfl) dX11_negativeOf_17 H
  · -- 6: 18
    refine aw_aload_n (pc := 18) dX11_negativeOf_18 rfl ?_
    refine cx_gtF (pc := 19) hE r100 fl_X11_175 rfl rfl (Nat.le_of_ble_eq_true rfl) dX11_negativeOf_19 H (fun x19 hx19 H => ?_)
    refine aw_istore_n (pc := 22) [(2, iv x19), (0, .ref 100), (1, iv p1)] dX11_negativeOf_22 rfl (by decide) ?_
    refine aw_aload_n (pc := 23) dX11_negativeOf_23 rfl ?_
    refine cx_gtC (pc := 24) 104 hE r100 fl_X11_26 rfl rfl (Nat.le_of_ble_eq_true rfl) dX11_negativeOf_24 ?_
    refine aw_iload_n (pc := 27) dX11_negativeOf_27 rfl ?_
    refine cx_ldI (pc := 28) hE r104 hp1 dX11_negativeOf_28 H (fun x28 hx28 H => ?_)
    refine aw_istore_n (pc := 29) [(3, iv x28), (2, iv x19), (0, .ref 100), (1, iv p1)] dX11_negativeOf_29 rfl (by decide) ?_
    refine AW.sel [2, 3, 1, 0] rfl (lp_ind (bot := fun _ _ => none) (fun (f9 : Int → Mem → Option Rz) => ∀ (v3_30 : Int) (m30 : Mem), inR v3_30 → f9 v3_30 m30 = some r → AW l D base sc RX11 yX11_negativeOf cX11_negativeOf 5 (some FieldType.int) (dd + 1) 0 0 ad (E mi) (pI E r) 0 0 (E m30) 30 [(0, .ref 100), (1, iv p1), (2, iv x19), (3, iv v3_30)] []) (fun _ _ _ h9 => nomatch h9) (fun w30 ih30 v3_30 m30 hv3_30 H => ?_) n _ _ hx28 H)
    refine aw_iload_n (pc := 30) dX11_negativeOf_30 rfl ?_
    refine aw_aload_n (pc := 31) dX11_negativeOf_31 rfl ?_
    refine cx_gtC (pc := 32) 105 hE r100 fl_X11_32 rfl rfl (Nat.le_of_ble_eq_true rfl) dX11_negativeOf_32 ?_
    refine aw_iload_n (pc := 35) dX11_negativeOf_35 rfl ?_
    refine cx_ldI (pc := 36) hE r105 hp1 dX11_negativeOf_36 H (fun x36 hx36 H => ?_)
    refine cx_icmp_ge (pc := 37) 60 hv3_30 hx36 dX11_negativeOf_37 rfl H (fun H => ?_) (fun H => ?_)
    · -- 37: 40
      refine aw_aload_n (pc := 40) dX11_negativeOf_40 rfl ?_
      refine aw_aload_n (pc := 41) dX11_negativeOf_41 rfl ?_
      refine aw_aload_n (pc := 42) dX11_negativeOf_42 rfl ?_
      refine cx_gtC (pc := 43) 102 hE r100 fl_X11_35 rfl rfl (Nat.le_of_ble_eq_true rfl) dX11_negativeOf_43 ?_
      refine aw_iload_n (pc := 46) dX11_negativeOf_46 rfl ?_
      refine cx_ldI (pc := 47) hE r102 hv3_30 dX11_negativeOf_47 H (fun x47 hx47 H => ?_)
      refine cx_callV (pc := 48) (P := pI) (dC := dd) (mcC := 0) (msC := 0) [iv x47] hE r100 (fun r1 H1 => hg_X11_negativeOf x47 m30 hx47 r1 H1) ca_X11_200 rfl ⟨_, rfl, rfl⟩ rfl rfl (by omega) (Nat.le_of_ble_eq_true rfl) (Nat.le_of_ble_eq_true rfl) (Nat.le_of_ble_eq_true rfl) dX11_negativeOf_48 H (fun x48 m48 v48 hh48 H hp => ?_)
      refine cx_backI hp (fun hx48 => ?_)
      refine cx_callV (pc := 51) (P := pV) (dC := 0) (mcC := 0) (msC := 0) [iv x48] hE r100 (fun r1 H1 => s_X11_waits l sc E R hE hR n x48 hx48 m48 r1 H1) ca_X11_194 rfl ⟨_, rfl, rfl⟩ rfl rfl (by omega) (Nat.le_of_ble_eq_true rfl) (Nat.le_of_ble_eq_true rfl) (Nat.le_of_ble_eq_true rfl) dX11_negativeOf_51 H (fun x51 m51 v51 hh51 H hp => ?_)
      refine cx_backV hp ?_
      refine cx_iinc (pc := 54) [(3, iv (w32 (v3_30 + 1))), (0, .ref 100), (1, iv p1), (2, iv x19)] dX11_negativeOf_54 rfl rfl (by decide) ?_
      refine aw_goto (pc := 57) 30 dX11_negativeOf_57 rfl ?_
      exact AW.sel [1, 2, 3, 0] rfl (ih30 _ _ (inR_w32 _) H)
    · -- 37: 60
      refine aw_aload_n (pc := 60) dX11_negativeOf_60 rfl ?_
      refine cx_gtF (pc := 61) hE r100 fl_X11_175 rfl rfl (Nat.le_of_ble_eq_true rfl) dX11_negativeOf_61 H (fun x61 hx61 H => ?_)
      refine aw_istore_n (pc := 64) [(3, iv x61), (0, .ref 100), (1, iv p1), (2, iv x19)] dX11_negativeOf_64 rfl (by decide) ?_
      refine aw_aload_n (pc := 65) dX11_negativeOf_65 rfl ?_
      refine cx_gtC (pc := 66) 103 hE r100 fl_X11_29 rfl rfl (Nat.le_of_ble_eq_true rfl) dX11_negativeOf_66 ?_
      refine aw_iload_n (pc := 69) dX11_negativeOf_69 rfl ?_
      refine cx_ldI (pc := 70) hE r103 hp1 dX11_negativeOf_70 H (fun x70 hx70 H => ?_)
      refine aw_istore (pc := 71) [(4, iv x70), (3, iv x61), (0, .ref 100), (1, iv p1), (2, iv x19)] dX11_negativeOf_71 rfl (by decide) ?_
      refine AW.sel [2, 3, 4, 1, 0] rfl (lp_ind (bot := fun _ _ => none) (fun (f9 : Int → Mem → Option Rz) => ∀ (v4_73 : Int) (m73 : Mem), inR v4_73 → f9 v4_73 m73 = some r → AW l D base sc RX11 yX11_negativeOf cX11_negativeOf 5 (some FieldType.int) (dd + 1) 0 0 ad (E mi) (pI E r) 0 0 (E m73) 73 [(0, .ref 100), (1, iv p1), (2, iv x19), (3, iv x61), (4, iv v4_73)] []) (fun _ _ _ h9 => nomatch h9) (fun w73 ih73 v4_73 m73 hv4_73 H => ?_) n _ _ hx70 H)
      refine aw_iload (pc := 73) dX11_negativeOf_73 rfl ?_
      refine aw_aload_n (pc := 75) dX11_negativeOf_75 rfl ?_
      refine cx_gtC (pc := 76) 104 hE r100 fl_X11_26 rfl rfl (Nat.le_of_ble_eq_true rfl) dX11_negativeOf_76 ?_
      refine aw_iload_n (pc := 79) dX11_negativeOf_79 rfl ?_
      refine cx_ldI (pc := 80) hE r104 hp1 dX11_negativeOf_80 H (fun x80 hx80 H => ?_)
      refine cx_icmp_ge (pc := 81) 105 hv4_73 hx80 dX11_negativeOf_81 rfl H (fun H => ?_) (fun H => ?_)
      · -- 81: 84
        refine aw_aload_n (pc := 84) dX11_negativeOf_84 rfl ?_
        refine aw_aload_n (pc := 85) dX11_negativeOf_85 rfl ?_
        refine aw_aload_n (pc := 86) dX11_negativeOf_86 rfl ?_
        refine cx_gtC (pc := 87) 102 hE r100 fl_X11_35 rfl rfl (Nat.le_of_ble_eq_true rfl) dX11_negativeOf_87 ?_
        refine aw_iload (pc := 90) dX11_negativeOf_90 rfl ?_
        refine cx_ldI (pc := 92) hE r102 hv4_73 dX11_negativeOf_92 H (fun x92 hx92 H => ?_)
        refine cx_callV (pc := 93) (P := pI) (dC := dd) (mcC := 0) (msC := 0) [iv x92] hE r100 (fun r1 H1 => hg_X11_negativeOf x92 m73 hx92 r1 H1) ca_X11_200 rfl ⟨_, rfl, rfl⟩ rfl rfl (by omega) (Nat.le_of_ble_eq_true rfl) (Nat.le_of_ble_eq_true rfl) (Nat.le_of_ble_eq_true rfl) dX11_negativeOf_93 H (fun x93 m93 v93 hh93 H hp => ?_)
        refine cx_backI hp (fun hx93 => ?_)
        refine cx_callV (pc := 96) (P := pV) (dC := 0) (mcC := 0) (msC := 0) [iv x93] hE r100 (fun r1 H1 => s_X11_waits l sc E R hE hR n x93 hx93 m93 r1 H1) ca_X11_194 rfl ⟨_, rfl, rfl⟩ rfl rfl (by omega) (Nat.le_of_ble_eq_true rfl) (Nat.le_of_ble_eq_true rfl) (Nat.le_of_ble_eq_true rfl) dX11_negativeOf_96 H (fun x96 m96 v96 hh96 H hp => ?_)
        refine cx_backV hp ?_
        refine cx_iinc (pc := 99) [(4, iv (w32 (v4_73 + 1))), (0, .ref 100), (1, iv p1), (2, iv x19), (3, iv x61)] dX11_negativeOf_99 rfl rfl (by decide) ?_
        refine aw_goto (pc := 102) 73 dX11_negativeOf_102 rfl ?_
        exact AW.sel [1, 2, 3, 4, 0] rfl (ih73 _ _ (inR_w32 _) H)
      · -- 81: 105
        refine aw_aload_n (pc := 105) dX11_negativeOf_105 rfl ?_
        refine aw_iload_n (pc := 106) dX11_negativeOf_106 rfl ?_
        refine aw_iload_n (pc := 107) dX11_negativeOf_107 rfl ?_
        refine cx_callV (pc := 108) (P := pI) (dC := 306) (mcC := 0) (msC := 0) [iv x19, iv x61] hE r100 (fun r1 H1 => s_X11_canonicalOf l sc E R hE hR n x19 x61 hx19 hx61 m73 r1 H1) ca_X11_197 rfl ⟨_, rfl, rfl⟩ rfl rfl (by omega) (Nat.le_of_ble_eq_true rfl) (Nat.le_of_ble_eq_true rfl) (Nat.le_of_ble_eq_true rfl) dX11_negativeOf_108 H (fun x108 m108 v108 hh108 H hp => ?_)
        refine cx_backI hp (fun hx108 => ?_)
        refine aw_istore (pc := 111) [(4, iv x108), (0, .ref 100), (1, iv p1), (2, iv x19), (3, iv x61)] dX11_negativeOf_111 rfl (by decide) ?_
        refine aw_aload_n (pc := 113) dX11_negativeOf_113 rfl ?_
        refine cx_gtC (pc := 114) 112 hE r100 fl_X11_65 rfl rfl (Nat.le_of_ble_eq_true rfl) dX11_negativeOf_114 ?_
        refine aw_iload_n (pc := 117) dX11_negativeOf_117 rfl ?_
        refine aw_iload (pc := 118) dX11_negativeOf_118 rfl ?_
        refine cx_iconst (pc := 120) dX11_negativeOf_120 ?_
        refine cx_iadd (pc := 121) dX11_negativeOf_121 ?_
        refine cx_stI (pc := 122) hE r112 hp1 dX11_negativeOf_122 H (fun m122 H => ?_)
        refine aw_iload (pc := 123) dX11_negativeOf_123 rfl ?_
        exact cx_iret (pc := 125) hx108 rfl (Nat.le_of_ble_eq_true rfl) (Nat.le_of_ble_eq_true rfl) dX11_negativeOf_125 H
theorem sa_X11_negativeOf (l : Launch) (sc : g_S) (E : Mem → g_H) (R : Nat → Prop) (hE : LE E R) (hR : RRF R) (n : Nat) : ∀ dp, q_X11_negativeOf l sc E R (307 + dp) (h_X11_negativeOf n dp)
  | 0 => fun _ _ _ _ H => nomatch H
  | dp + 1 => by
    have ih := sa_X11_negativeOf l sc E R hE hR n dp
    · exact fun p1 m hp1 r H => sb_X11_negativeOf l sc E R hE hR n (307 + dp) (Nat.le_add_right _ _) _ ih p1 m hp1 r H
theorem s_X11_negativeOf (l : Launch) (sc : g_S) (E : Mem → g_H) (R : Nat → Prop) (hE : LE E R) (hR : RRF R) (n : Nat) (p1 : Int) (hp1 : inR p1) (m : Mem) (r : Rz) (H : f_X11_negativeOf n p1 m = some r) : AMet l sc yX11_negativeOf cX11_negativeOf 5 (some FieldType.int) 357 0 0 [.ref 100, iv p1] (E m) (pI E r) := (sa_X11_negativeOf l sc E R hE hR n 50) p1 m hp1 r H
/-- X11 wholeOf (I)I -/
def f_X11_wholeOf (n : Nat) (p1 : Int) (mi : Mem) : Option Rz :=
  lp (F := Int → Int → Mem → Option Rz) (fun _ _ _ => none) (fun w4 v2_4 v3_4 m4 =>
    jn (fun (m15 : Mem) =>
      gtF m15 100 26 fun x16 =>
      cal (f_X11_waits n v2_4 m15) fun _ m23 =>
      jn (fun (s0_42 : Int) (m42 : Mem) =>
        cal (f_X11_canonicalOf n x16 s0_42 m42) fun x42 m42 =>
        w4 x42 (w32 (v3_4 + 1)) m42
      ) fun (j42 : Int → Mem → Option Rz) =>
      if 0 < p1 then (
        j42 (w32 (x16 + 1)) m23
      ) else
      j42 x16 m23
    ) fun (j15 : Mem → Option Rz) =>
    if v3_4 < p1 then (
      j15 m4
    ) else
    if v3_4 < w32 (-p1) then (
      j15 m4
    ) else
    rt v2_4 m4
  ) n 0 0 mi
set_option maxRecDepth 100000 in
set_option maxHeartbeats 4000000 in
theorem s_X11_wholeOf (l : Launch) (sc : g_S) (E : Mem → g_H) (R : Nat → Prop) (hE : LE E R) (hR : RRF R) (n : Nat)  (p1 : Int) (hp1 : inR p1) (mi : Mem) (r : Rz) (H : f_X11_wholeOf n p1 mi = some r) : AMet l sc yX11_wholeOf cX11_wholeOf 5 (some FieldType.int) 307 0 0 [.ref 100, iv p1] (E mi) (pI E r) := by
  have r100 : R 100 := hR 100 (Nat.le_of_ble_eq_true rfl) (Nat.le_of_ble_eq_true rfl)
  unfold f_X11_wholeOf at H
  refine AMet.of (own := RX11) (by decide +kernel) rfl (Nat.le_of_ble_eq_true rfl) [(0, .ref 100), (1, iv p1)] rfl (fun D base ad => ?_)
  refine cx_iconst (pc := 0) dX11_wholeOf_0 ?_
  refine aw_istore_n (pc := 1) [(2, iv 0), (0, .ref 100), (1, iv p1)] dX11_wholeOf_1 rfl (by decide) ?_
  refine cx_iconst (pc := 2) dX11_wholeOf_2 ?_
  refine aw_istore_n (pc := 3) [(3, iv 0), (2, iv 0), (0, .ref 100), (1, iv p1)] dX11_wholeOf_3 rfl (by decide) ?_
  refine AW.sel [2, 3, 1, 0] rfl (lp_ind (bot := fun _ _ _ => none) (fun (f9 : Int → Int → Mem → Option Rz) => ∀ (v2_4 : Int) (v3_4 : Int) (m4 : Mem), inR v2_4 → inR v3_4 → f9 v2_4 v3_4 m4 = some r → AW l D base sc RX11 yX11_wholeOf cX11_wholeOf 5 (some FieldType.int) 307 0 0 ad (E mi) (pI E r) 0 0 (E m4) 4 [(0, .ref 100), (1, iv p1), (2, iv v2_4), (3, iv v3_4)] []) (fun _ _ _ _ _ h9 => nomatch h9) (fun w4 ih4 v2_4 v3_4 m4 hv2_4 hv3_4 H => ?_) n _ _ _ (inR_lit _ rfl) (inR_lit _ rfl) H)
  refine aw_iload_n (pc := 4) dX11_wholeOf_4 rfl ?_
  refine aw_iload_n (pc := 5) dX11_wholeOf_5 rfl ?_
  refine jn_ind (fun (f9 : Mem → Option Rz) => ∀ (m15 : Mem), f9 m15 = some r → AW l D base sc RX11 yX11_wholeOf cX11_wholeOf 5 (some FieldType.int) 307 0 0 ad (E mi) (pI E r) 0 0 (E m15) 15 [(0, .ref 100), (1, iv p1), (2, iv v2_4), (3, iv v3_4)] []) (fun m15 H => ?_) (fun j15 hj15 H => ?_) H
  · -- 15
    refine aw_aload_n (pc := 15) dX11_wholeOf_15 rfl ?_
    refine cx_gtF (pc := 16) hE r100 fl_X11_175 rfl rfl (Nat.le_of_ble_eq_true rfl) dX11_wholeOf_16 H (fun x16 hx16 H => ?_)
    refine aw_istore (pc := 19) [(4, iv x16), (0, .ref 100), (1, iv p1), (2, iv v2_4), (3, iv v3_4)] dX11_wholeOf_19 rfl (by decide) ?_
    refine aw_aload_n (pc := 21) dX11_wholeOf_21 rfl ?_
    refine aw_iload_n (pc := 22) dX11_wholeOf_22 rfl ?_
    refine cx_callV (pc := 23) (P := pV) (dC := 0) (mcC := 0) (msC := 0) [iv v2_4] hE r100 (fun r1 H1 => s_X11_waits l sc E R hE hR n v2_4 hv2_4 m15 r1 H1) ca_X11_194 rfl ⟨_, rfl, rfl⟩ rfl rfl (Nat.le_of_ble_eq_true rfl) (Nat.le_of_ble_eq_true rfl) (Nat.le_of_ble_eq_true rfl) (Nat.le_of_ble_eq_true rfl) dX11_wholeOf_23 H (fun x23 m23 v23 hh23 H hp => ?_)
    refine cx_backV hp ?_
    refine aw_aload_n (pc := 26) dX11_wholeOf_26 rfl ?_
    refine aw_iload (pc := 27) dX11_wholeOf_27 rfl ?_
    refine aw_iload_n (pc := 29) dX11_wholeOf_29 rfl ?_
    refine jn_ind (fun (f9 : Int → Mem → Option Rz) => ∀ (s0_42 : Int) (m42 : Mem), inR s0_42 → f9 s0_42 m42 = some r → AW l D base sc RX11 yX11_wholeOf cX11_wholeOf 5 (some FieldType.int) 307 0 0 ad (E mi) (pI E r) 0 0 (E m42) 42 [(0, .ref 100), (1, iv p1), (3, iv v3_4)] [iv s0_42, iv x16, .ref 100]) (fun s0_42 m42 hs0_42 H => ?_) (fun j42 hj42 H => ?_) H
    · -- 42
      refine cx_callV (pc := 42) (P := pI) (dC := 306) (mcC := 0) (msC := 0) [iv x16, iv s0_42] hE r100 (fun r1 H1 => s_X11_canonicalOf l sc E R hE hR n x16 s0_42 hx16 hs0_42 m42 r1 H1) ca_X11_197 rfl ⟨_, rfl, rfl⟩ rfl rfl (Nat.le_of_ble_eq_true rfl) (Nat.le_of_ble_eq_true rfl) (Nat.le_of_ble_eq_true rfl) (Nat.le_of_ble_eq_true rfl) dX11_wholeOf_42 H (fun x42 m42 v42 hh42 H hp => ?_)
      refine cx_backI hp (fun hx42 => ?_)
      refine aw_istore_n (pc := 45) [(2, iv x42), (0, .ref 100), (1, iv p1), (3, iv v3_4)] dX11_wholeOf_45 rfl (by decide) ?_
      refine cx_iinc (pc := 46) [(3, iv (w32 (v3_4 + 1))), (2, iv x42), (0, .ref 100), (1, iv p1)] dX11_wholeOf_46 rfl rfl (by decide) ?_
      refine aw_goto (pc := 49) 4 dX11_wholeOf_49 rfl ?_
      exact AW.sel [2, 3, 1, 0] rfl (ih4 _ _ _ hx42 (inR_w32 _) H)
    refine cx_if_le (pc := 30) 40 hp1 dX11_wholeOf_30 rfl H (fun H => ?_) (fun H => ?_)
    · -- 30: 33
      refine aw_iload (pc := 33) dX11_wholeOf_33 rfl ?_
      refine cx_iconst (pc := 35) dX11_wholeOf_35 ?_
      refine cx_iadd (pc := 36) dX11_wholeOf_36 ?_
      refine aw_goto (pc := 37) 42 dX11_wholeOf_37 rfl ?_
      exact AW.sel [1, 2, 4] rfl (hj42 _ _ (inR_w32 _) H)
    · -- 30: 40
      refine aw_iload (pc := 40) dX11_wholeOf_40 rfl ?_
      exact AW.sel [1, 2, 4] rfl (hj42 _ _ hx16 H)
  refine cx_icmp_lt (pc := 6) 15 hv3_4 hp1 dX11_wholeOf_6 rfl H (fun H => ?_) (fun H => ?_)
  · -- 6: 15
    exact AW.sel [0, 1, 2, 3] rfl (hj15 _ H)
  · -- 6: 9
    refine aw_iload_n (pc := 9) dX11_wholeOf_9 rfl ?_
    refine aw_iload_n (pc := 10) dX11_wholeOf_10 rfl ?_
    refine cx_ineg (pc := 11) dX11_wholeOf_11 ?_
    refine cx_icmp_ge (pc := 12) 52 hv3_4 (inR_w32 _) dX11_wholeOf_12 rfl H (fun H => ?_) (fun H => ?_)
    · -- 12: 15
      exact AW.sel [0, 1, 2, 3] rfl (hj15 _ H)
    · -- 12: 52
      refine aw_iload_n (pc := 52) dX11_wholeOf_52 rfl ?_
      exact cx_iret (pc := 53) hv2_4 rfl (Nat.le_of_ble_eq_true rfl) (Nat.le_of_ble_eq_true rfl) dX11_wholeOf_53 H
/-- X11 heapOf (I)I -/
def f_X11_heapOf (n : Nat) (p1 : Int) (mi : Mem) : Option Rz :=
  stI mi 125 0 0 fun m6 =>
  lp (F := Int → Mem → Option Rz) (fun _ _ => none) (fun w9 v2_9 m9 =>
    if p1 < v2_9 then (
      ldI m9 125 p1 fun x96 =>
      rt x96 m9
    ) else
    gtF m9 100 26 fun x15 =>
    lp (F := Int → Mem → Option Rz) (fun _ _ => none) (fun w22 v4_22 m22 =>
      if v4_22 < v2_9 then (
        ldI m22 125 v4_22 fun x35 =>
        cal (f_X11_waits n x35 m22) fun _ m36 =>
        w22 (w32 (v4_22 + 1)) m36
      ) else
      lp (F := Int → Mem → Option Rz) (fun _ _ => none) (fun w48 v4_48 m48 =>
        if v4_48 < v2_9 then (
          ldI m48 125 v4_48 fun x61 =>
          cal (f_X11_waits n x61 m48) fun _ m62 =>
          w48 (w32 (v4_48 + 1)) m62
        ) else
        cal (f_X11_canonicalOf n x15 (w32 (x15 + v2_9)) m48) fun x81 m81 =>
        stI m81 125 v2_9 x81 fun m84 =>
        w9 (w32 (v2_9 + 1)) m84
      ) n 0 m22
    ) n 0 m9
  ) n 1 m6
set_option maxRecDepth 100000 in
set_option maxHeartbeats 4000000 in
theorem s_X11_heapOf (l : Launch) (sc : g_S) (E : Mem → g_H) (R : Nat → Prop) (hE : LE E R) (hR : RRF R) (n : Nat)  (p1 : Int) (hp1 : inR p1) (mi : Mem) (r : Rz) (H : f_X11_heapOf n p1 mi = some r) : AMet l sc yX11_heapOf cX11_heapOf 5 (some FieldType.int) 307 0 0 [.ref 100, iv p1] (E mi) (pI E r) := by
  have r100 : R 100 := hR 100 (Nat.le_of_ble_eq_true rfl) (Nat.le_of_ble_eq_true rfl)
  have r125 : R 125 := hR 125 (Nat.le_of_ble_eq_true rfl) (Nat.le_of_ble_eq_true rfl)
  unfold f_X11_heapOf at H
  refine AMet.of (own := RX11) (by decide +kernel) rfl (Nat.le_of_ble_eq_true rfl) [(0, .ref 100), (1, iv p1)] rfl (fun D base ad => ?_)
  refine aw_aload_n (pc := 0) dX11_heapOf_0 rfl ?_
  refine cx_gtC (pc := 1) 125 hE r100 fl_X11_203 rfl rfl (Nat.le_of_ble_eq_true rfl) dX11_heapOf_1 ?_
  refine cx_iconst (pc := 4) dX11_heapOf_4 ?_
  refine cx_iconst (pc := 5) dX11_heapOf_5 ?_
  refine cx_stI (pc := 6) hE r125 (inR_lit _ rfl) dX11_heapOf_6 H (fun m6 H => ?_)
  refine cx_iconst (pc := 7) dX11_heapOf_7 ?_
  refine aw_istore_n (pc := 8) [(2, iv 1), (0, .ref 100), (1, iv p1)] dX11_heapOf_8 rfl (by decide) ?_
  refine AW.sel [1, 2, 0] rfl (lp_ind (bot := fun _ _ => none) (fun (f9 : Int → Mem → Option Rz) => ∀ (v2_9 : Int) (m9 : Mem), inR v2_9 → f9 v2_9 m9 = some r → AW l D base sc RX11 yX11_heapOf cX11_heapOf 5 (some FieldType.int) 307 0 0 ad (E mi) (pI E r) 0 0 (E m9) 9 [(0, .ref 100), (1, iv p1), (2, iv v2_9)] []) (fun _ _ _ h9 => nomatch h9) (fun w9 ih9 v2_9 m9 hv2_9 H => ?_) n _ _ (inR_lit _ rfl) H)
  refine aw_iload_n (pc := 9) dX11_heapOf_9 rfl ?_
  refine aw_iload_n (pc := 10) dX11_heapOf_10 rfl ?_
  refine cx_icmp_gt (pc := 11) 91 hv2_9 hp1 dX11_heapOf_11 rfl H (fun H => ?_) (fun H => ?_)
  · -- 11: 91
    refine aw_aload_n (pc := 91) dX11_heapOf_91 rfl ?_
    refine cx_gtC (pc := 92) 125 hE r100 fl_X11_203 rfl rfl (Nat.le_of_ble_eq_true rfl) dX11_heapOf_92 ?_
    refine aw_iload_n (pc := 95) dX11_heapOf_95 rfl ?_
    refine cx_ldI (pc := 96) hE r125 hp1 dX11_heapOf_96 H (fun x96 hx96 H => ?_)
    exact cx_iret (pc := 97) hx96 rfl (Nat.le_of_ble_eq_true rfl) (Nat.le_of_ble_eq_true rfl) dX11_heapOf_97 H
  · -- 11: 14
    refine aw_aload_n (pc := 14) dX11_heapOf_14 rfl ?_
    refine cx_gtF (pc := 15) hE r100 fl_X11_175 rfl rfl (Nat.le_of_ble_eq_true rfl) dX11_heapOf_15 H (fun x15 hx15 H => ?_)
    refine aw_istore_n (pc := 18) [(3, iv x15), (0, .ref 100), (1, iv p1), (2, iv v2_9)] dX11_heapOf_18 rfl (by decide) ?_
    refine cx_iconst (pc := 19) dX11_heapOf_19 ?_
    refine aw_istore (pc := 20) [(4, iv 0), (3, iv x15), (0, .ref 100), (1, iv p1), (2, iv v2_9)] dX11_heapOf_20 rfl (by decide) ?_
    refine AW.sel [2, 3, 4, 1, 0] rfl (lp_ind (bot := fun _ _ => none) (fun (f9 : Int → Mem → Option Rz) => ∀ (v4_22 : Int) (m22 : Mem), inR v4_22 → f9 v4_22 m22 = some r → AW l D base sc RX11 yX11_heapOf cX11_heapOf 5 (some FieldType.int) 307 0 0 ad (E mi) (pI E r) 0 0 (E m22) 22 [(0, .ref 100), (1, iv p1), (2, iv v2_9), (3, iv x15), (4, iv v4_22)] []) (fun _ _ _ h9 => nomatch h9) (fun w22 ih22 v4_22 m22 hv4_22 H => ?_) n _ _ (inR_lit _ rfl) H)
    refine aw_iload (pc := 22) dX11_heapOf_22 rfl ?_
    refine aw_iload_n (pc := 24) dX11_heapOf_24 rfl ?_
    refine cx_icmp_ge (pc := 25) 45 hv4_22 hv2_9 dX11_heapOf_25 rfl H (fun H => ?_) (fun H => ?_)
    · -- 25: 28
      refine aw_aload_n (pc := 28) dX11_heapOf_28 rfl ?_
      refine aw_aload_n (pc := 29) dX11_heapOf_29 rfl ?_
      refine cx_gtC (pc := 30) 125 hE r100 fl_X11_203 rfl rfl (Nat.le_of_ble_eq_true rfl) dX11_heapOf_30 ?_
      refine aw_iload (pc := 33) dX11_heapOf_33 rfl ?_
      refine cx_ldI (pc := 35) hE r125 hv4_22 dX11_heapOf_35 H (fun x35 hx35 H => ?_)
      refine cx_callV (pc := 36) (P := pV) (dC := 0) (mcC := 0) (msC := 0) [iv x35] hE r100 (fun r1 H1 => s_X11_waits l sc E R hE hR n x35 hx35 m22 r1 H1) ca_X11_194 rfl ⟨_, rfl, rfl⟩ rfl rfl (Nat.le_of_ble_eq_true rfl) (Nat.le_of_ble_eq_true rfl) (Nat.le_of_ble_eq_true rfl) (Nat.le_of_ble_eq_true rfl) dX11_heapOf_36 H (fun x36 m36 v36 hh36 H hp => ?_)
      refine cx_backV hp ?_
      refine cx_iinc (pc := 39) [(4, iv (w32 (v4_22 + 1))), (0, .ref 100), (1, iv p1), (2, iv v2_9), (3, iv x15)] dX11_heapOf_39 rfl rfl (by decide) ?_
      refine aw_goto (pc := 42) 22 dX11_heapOf_42 rfl ?_
      exact AW.sel [1, 2, 3, 4, 0] rfl (ih22 _ _ (inR_w32 _) H)
    · -- 25: 45
      refine cx_iconst (pc := 45) dX11_heapOf_45 ?_
      refine aw_istore (pc := 46) [(4, iv 0), (0, .ref 100), (1, iv p1), (2, iv v2_9), (3, iv x15)] dX11_heapOf_46 rfl (by decide) ?_
      refine AW.sel [1, 2, 3, 4, 0] rfl (lp_ind (bot := fun _ _ => none) (fun (f9 : Int → Mem → Option Rz) => ∀ (v4_48 : Int) (m48 : Mem), inR v4_48 → f9 v4_48 m48 = some r → AW l D base sc RX11 yX11_heapOf cX11_heapOf 5 (some FieldType.int) 307 0 0 ad (E mi) (pI E r) 0 0 (E m48) 48 [(0, .ref 100), (1, iv p1), (2, iv v2_9), (3, iv x15), (4, iv v4_48)] []) (fun _ _ _ h9 => nomatch h9) (fun w48 ih48 v4_48 m48 hv4_48 H => ?_) n _ _ (inR_lit _ rfl) H)
      refine aw_iload (pc := 48) dX11_heapOf_48 rfl ?_
      refine aw_iload_n (pc := 50) dX11_heapOf_50 rfl ?_
      refine cx_icmp_ge (pc := 51) 71 hv4_48 hv2_9 dX11_heapOf_51 rfl H (fun H => ?_) (fun H => ?_)
      · -- 51: 54
        refine aw_aload_n (pc := 54) dX11_heapOf_54 rfl ?_
        refine aw_aload_n (pc := 55) dX11_heapOf_55 rfl ?_
        refine cx_gtC (pc := 56) 125 hE r100 fl_X11_203 rfl rfl (Nat.le_of_ble_eq_true rfl) dX11_heapOf_56 ?_
        refine aw_iload (pc := 59) dX11_heapOf_59 rfl ?_
        refine cx_ldI (pc := 61) hE r125 hv4_48 dX11_heapOf_61 H (fun x61 hx61 H => ?_)
        refine cx_callV (pc := 62) (P := pV) (dC := 0) (mcC := 0) (msC := 0) [iv x61] hE r100 (fun r1 H1 => s_X11_waits l sc E R hE hR n x61 hx61 m48 r1 H1) ca_X11_194 rfl ⟨_, rfl, rfl⟩ rfl rfl (Nat.le_of_ble_eq_true rfl) (Nat.le_of_ble_eq_true rfl) (Nat.le_of_ble_eq_true rfl) (Nat.le_of_ble_eq_true rfl) dX11_heapOf_62 H (fun x62 m62 v62 hh62 H hp => ?_)
        refine cx_backV hp ?_
        refine cx_iinc (pc := 65) [(4, iv (w32 (v4_48 + 1))), (0, .ref 100), (1, iv p1), (2, iv v2_9), (3, iv x15)] dX11_heapOf_65 rfl rfl (by decide) ?_
        refine aw_goto (pc := 68) 48 dX11_heapOf_68 rfl ?_
        exact AW.sel [1, 2, 3, 4, 0] rfl (ih48 _ _ (inR_w32 _) H)
      · -- 51: 71
        refine aw_aload_n (pc := 71) dX11_heapOf_71 rfl ?_
        refine cx_gtC (pc := 72) 125 hE r100 fl_X11_203 rfl rfl (Nat.le_of_ble_eq_true rfl) dX11_heapOf_72 ?_
        refine aw_iload_n (pc := 75) dX11_heapOf_75 rfl ?_
        refine aw_aload_n (pc := 76) dX11_heapOf_76 rfl ?_
        refine aw_iload_n (pc := 77) dX11_heapOf_77 rfl ?_
        refine aw_iload_n (pc := 78) dX11_heapOf_78 rfl ?_
        refine aw_iload_n (pc := 79) dX11_heapOf_79 rfl ?_
        refine cx_iadd (pc := 80) dX11_heapOf_80 ?_
        refine cx_callV (pc := 81) (P := pI) (dC := 306) (mcC := 0) (msC := 0) [iv x15, iv (w32 (x15 + v2_9))] hE r100 (fun r1 H1 => s_X11_canonicalOf l sc E R hE hR n x15 (w32 (x15 + v2_9)) hx15 (inR_w32 _) m48 r1 H1) ca_X11_197 rfl ⟨_, rfl, rfl⟩ rfl rfl (Nat.le_of_ble_eq_true rfl) (Nat.le_of_ble_eq_true rfl) (Nat.le_of_ble_eq_true rfl) (Nat.le_of_ble_eq_true rfl) dX11_heapOf_81 H (fun x81 m81 v81 hh81 H hp => ?_)
        refine cx_backI hp (fun hx81 => ?_)
        refine cx_stI (pc := 84) hE r125 hv2_9 dX11_heapOf_84 H (fun m84 H => ?_)
        refine cx_iinc (pc := 85) [(2, iv (w32 (v2_9 + 1))), (0, .ref 100), (1, iv p1), (3, iv x15), (4, iv v4_48)] dX11_heapOf_85 rfl rfl (by decide) ?_
        refine aw_goto (pc := 88) 9 dX11_heapOf_88 rfl ?_
        exact AW.sel [1, 2, 0] rfl (ih9 _ _ (inR_w32 _) H)
/-- X11 up ()I -/
def f_X11_up (n : Nat)  (mi : Mem) : Option Rz :=
  cal (f_X11_heapOf n 1 mi) fun x2 m2 =>
  gtF m2 100 26 fun x7 =>
  cal (f_X11_waits n 0 m2) fun _ m13 =>
  cal (f_X11_waits n x2 m13) fun _ m18 =>
  cal (f_X11_canonicalOf n x7 (w32 (x7 + 1)) m18) fun x26 m26 =>
  rt x26 m26
set_option maxRecDepth 100000 in
set_option maxHeartbeats 4000000 in
theorem s_X11_up (l : Launch) (sc : g_S) (E : Mem → g_H) (R : Nat → Prop) (hE : LE E R) (hR : RRF R) (n : Nat)    (mi : Mem) (r : Rz) (H : f_X11_up n  mi = some r) : AMet l sc yX11_up cX11_up 3 (some FieldType.int) 308 0 0 [.ref 100] (E mi) (pI E r) := by
  have r100 : R 100 := hR 100 (Nat.le_of_ble_eq_true rfl) (Nat.le_of_ble_eq_true rfl)
  unfold f_X11_up at H
  refine AMet.of (own := RX11) (by decide +kernel) rfl (Nat.le_of_ble_eq_true rfl) [(0, .ref 100)] rfl (fun D base ad => ?_)
  refine aw_aload_n (pc := 0) dX11_up_0 rfl ?_
  refine cx_iconst (pc := 1) dX11_up_1 ?_
  refine cx_callV (pc := 2) (P := pI) (dC := 307) (mcC := 0) (msC := 0) [iv 1] hE r100 (fun r1 H1 => s_X11_heapOf l sc E R hE hR n 1 (inR_lit _ rfl) mi r1 H1) ca_X11_206 rfl ⟨_, rfl, rfl⟩ rfl rfl (Nat.le_of_ble_eq_true rfl) (Nat.le_of_ble_eq_true rfl) (Nat.le_of_ble_eq_true rfl) (Nat.le_of_ble_eq_true rfl) dX11_up_2 H (fun x2 m2 v2 hh2 H hp => ?_)
  refine cx_backI hp (fun hx2 => ?_)
  refine aw_istore_n (pc := 5) [(1, iv x2), (0, .ref 100)] dX11_up_5 rfl (by decide) ?_
  refine aw_aload_n (pc := 6) dX11_up_6 rfl ?_
  refine cx_gtF (pc := 7) hE r100 fl_X11_175 rfl rfl (Nat.le_of_ble_eq_true rfl) dX11_up_7 H (fun x7 hx7 H => ?_)
  refine aw_istore_n (pc := 10) [(2, iv x7), (1, iv x2), (0, .ref 100)] dX11_up_10 rfl (by decide) ?_
  refine aw_aload_n (pc := 11) dX11_up_11 rfl ?_
  refine cx_iconst (pc := 12) dX11_up_12 ?_
  refine cx_callV (pc := 13) (P := pV) (dC := 0) (mcC := 0) (msC := 0) [iv 0] hE r100 (fun r1 H1 => s_X11_waits l sc E R hE hR n 0 (inR_lit _ rfl) m2 r1 H1) ca_X11_194 rfl ⟨_, rfl, rfl⟩ rfl rfl (Nat.le_of_ble_eq_true rfl) (Nat.le_of_ble_eq_true rfl) (Nat.le_of_ble_eq_true rfl) (Nat.le_of_ble_eq_true rfl) dX11_up_13 H (fun x13 m13 v13 hh13 H hp => ?_)
  refine cx_backV hp ?_
  refine aw_aload_n (pc := 16) dX11_up_16 rfl ?_
  refine aw_iload_n (pc := 17) dX11_up_17 rfl ?_
  refine cx_callV (pc := 18) (P := pV) (dC := 0) (mcC := 0) (msC := 0) [iv x2] hE r100 (fun r1 H1 => s_X11_waits l sc E R hE hR n x2 hx2 m13 r1 H1) ca_X11_194 rfl ⟨_, rfl, rfl⟩ rfl rfl (Nat.le_of_ble_eq_true rfl) (Nat.le_of_ble_eq_true rfl) (Nat.le_of_ble_eq_true rfl) (Nat.le_of_ble_eq_true rfl) dX11_up_18 H (fun x18 m18 v18 hh18 H hp => ?_)
  refine cx_backV hp ?_
  refine aw_aload_n (pc := 21) dX11_up_21 rfl ?_
  refine aw_iload_n (pc := 22) dX11_up_22 rfl ?_
  refine aw_iload_n (pc := 23) dX11_up_23 rfl ?_
  refine cx_iconst (pc := 24) dX11_up_24 ?_
  refine cx_iadd (pc := 25) dX11_up_25 ?_
  refine cx_callV (pc := 26) (P := pI) (dC := 306) (mcC := 0) (msC := 0) [iv x7, iv (w32 (x7 + 1))] hE r100 (fun r1 H1 => s_X11_canonicalOf l sc E R hE hR n x7 (w32 (x7 + 1)) hx7 (inR_w32 _) m18 r1 H1) ca_X11_197 rfl ⟨_, rfl, rfl⟩ rfl rfl (Nat.le_of_ble_eq_true rfl) (Nat.le_of_ble_eq_true rfl) (Nat.le_of_ble_eq_true rfl) (Nat.le_of_ble_eq_true rfl) dX11_up_26 H (fun x26 m26 v26 hh26 H hp => ?_)
  refine cx_backI hp (fun hx26 => ?_)
  exact cx_iret (pc := 29) hx26 rfl (Nat.le_of_ble_eq_true rfl) (Nat.le_of_ble_eq_true rfl) dX11_up_29 H
/-- X11 follow (I)I -/
def b_X11_follow (n : Nat) (g_X11_follow : (Int → Mem → Option Rz)) (p1 : Int) (mi : Mem) : Option Rz :=
  ldI mi 126 p1 fun x5 =>
  gtF mi 100 32 fun x7 =>
  if x5 = x7 then (
    rt 0 mi
  ) else
  gtF mi 100 32 fun x21 =>
  stI mi 126 p1 x21 fun m24 =>
  ldI m24 103 p1 fun x32 =>
  lp (F := Int → Int → Mem → Option Rz) (fun _ _ _ => none) (fun w34 v2_34 v3_34 m34 =>
    ldI m34 105 p1 fun x40 =>
    if v3_34 < x40 then (
      ldI m34 102 v3_34 fun x51 =>
      cal (g_X11_follow x51 m34) fun x52 m52 =>
      nm (w32 (v2_34 + x52)) fun z56 =>
      w34 z56 (w32 (v3_34 + 1)) m52
    ) else
    rt v2_34 m34
  ) n 1 x32 m24
def t_X11_follow (n : Nat) : Nat → (Int → Mem → Option Rz)
  | 0 => (fun _ _ => none)
  | d + 1 => (b_X11_follow n (t_X11_follow n d))
def h_X11_follow (n d : Nat) : (Int → Mem → Option Rz) := (t_X11_follow n d)
def f_X11_follow (n : Nat) : (Int → Mem → Option Rz) := h_X11_follow n 60
theorem h_X11_follow_s (n d : Nat) (p1 : Int) (m : Mem) : h_X11_follow n (d + 1) p1 m = b_X11_follow n (h_X11_follow n d) p1 m := rfl
theorem h_X11_follow_0 (n : Nat) (p1 : Int) (m : Mem) : h_X11_follow n 0 p1 m = none := rfl
def q_X11_follow (l : Launch) (sc : g_S) (E : Mem → g_H) (R : Nat → Prop) (dd : Nat) (g : (Int → Mem → Option Rz)) : Prop := ∀ (p1 : Int) (m : Mem) (hp1 : inR p1) (r : Rz) (H : g p1 m = some r), AMet l sc yX11_follow cX11_follow 4 (some FieldType.int) dd 0 0 [.ref 100, iv p1] (E m) (pI E r)
set_option maxRecDepth 100000 in
set_option maxHeartbeats 4000000 in
theorem sb_X11_follow (l : Launch) (sc : g_S) (E : Mem → g_H) (R : Nat → Prop) (hE : LE E R) (hR : RRF R) (n : Nat) (dd : Nat) (hdd : 0 ≤ dd) (g_X11_follow : (Int → Mem → Option Rz)) (hg_X11_follow : q_X11_follow l sc E R dd g_X11_follow) (p1 : Int) (mi : Mem) (hp1 : inR p1) (r : Rz) (H : b_X11_follow n g_X11_follow p1 mi = some r) : AMet l sc yX11_follow cX11_follow 4 (some FieldType.int) (dd + 1) 0 0 [.ref 100, iv p1] (E mi) (pI E r) := by
  have r100 : R 100 := hR 100 (Nat.le_of_ble_eq_true rfl) (Nat.le_of_ble_eq_true rfl)
  have r102 : R 102 := hR 102 (Nat.le_of_ble_eq_true rfl) (Nat.le_of_ble_eq_true rfl)
  have r103 : R 103 := hR 103 (Nat.le_of_ble_eq_true rfl) (Nat.le_of_ble_eq_true rfl)
  have r105 : R 105 := hR 105 (Nat.le_of_ble_eq_true rfl) (Nat.le_of_ble_eq_true rfl)
  have r126 : R 126 := hR 126 (Nat.le_of_ble_eq_true rfl) (Nat.le_of_ble_eq_true rfl)
  unfold b_X11_follow at H
  refine AMet.of (own := RX11) (by decide +kernel) rfl (Nat.le_of_ble_eq_true rfl) [(0, .ref 100), (1, iv p1)] rfl (fun D base ad => ?_)
  refine aw_aload_n (pc := 0) dX11_follow_0 rfl ?_
  refine cx_gtC (pc := 1) 126 hE r100 fl_X11_209 rfl rfl (Nat.le_of_ble_eq_true rfl) dX11_follow_1 ?_
  refine aw_iload_n (pc := 4) dX11_follow_4 rfl ?_
  refine cx_ldI (pc := 5) hE r126 hp1 dX11_follow_5 H (fun x5 hx5 H => ?_)
  refine aw_aload_n (pc := 6) dX11_follow_6 rfl ?_
  refine cx_gtF (pc := 7) hE r100 fl_X11_212 rfl rfl (Nat.le_of_ble_eq_true rfl) dX11_follow_7 H (fun x7 hx7 H => ?_)
  refine cx_icmp_ne (pc := 10) 15 hx5 hx7 dX11_follow_10 rfl H (fun H => ?_) (fun H => ?_)
  · -- 10: 13
    refine cx_iconst (pc := 13) dX11_follow_13 ?_
    exact cx_iret (pc := 14) (inR_lit _ rfl) rfl (Nat.le_of_ble_eq_true rfl) (Nat.le_of_ble_eq_true rfl) dX11_follow_14 H
  · -- 10: 15
    refine aw_aload_n (pc := 15) dX11_follow_15 rfl ?_
    refine cx_gtC (pc := 16) 126 hE r100 fl_X11_209 rfl rfl (Nat.le_of_ble_eq_true rfl) dX11_follow_16 ?_
    refine aw_iload_n (pc := 19) dX11_follow_19 rfl ?_
    refine aw_aload_n (pc := 20) dX11_follow_20 rfl ?_
    refine cx_gtF (pc := 21) hE r100 fl_X11_212 rfl rfl (Nat.le_of_ble_eq_true rfl) dX11_follow_21 H (fun x21 hx21 H => ?_)
    refine cx_stI (pc := 24) hE r126 hp1 dX11_follow_24 H (fun m24 H => ?_)
    refine cx_iconst (pc := 25) dX11_follow_25 ?_
    refine aw_istore_n (pc := 26) [(2, iv 1), (0, .ref 100), (1, iv p1)] dX11_follow_26 rfl (by decide) ?_
    refine aw_aload_n (pc := 27) dX11_follow_27 rfl ?_
    refine cx_gtC (pc := 28) 103 hE r100 fl_X11_29 rfl rfl (Nat.le_of_ble_eq_true rfl) dX11_follow_28 ?_
    refine aw_iload_n (pc := 31) dX11_follow_31 rfl ?_
    refine cx_ldI (pc := 32) hE r103 hp1 dX11_follow_32 H (fun x32 hx32 H => ?_)
    refine aw_istore_n (pc := 33) [(3, iv x32), (2, iv 1), (0, .ref 100), (1, iv p1)] dX11_follow_33 rfl (by decide) ?_
    refine AW.sel [2, 3, 1, 0] rfl (lp_ind (bot := fun _ _ _ => none) (fun (f9 : Int → Int → Mem → Option Rz) => ∀ (v2_34 : Int) (v3_34 : Int) (m34 : Mem), inR v2_34 → inR v3_34 → f9 v2_34 v3_34 m34 = some r → AW l D base sc RX11 yX11_follow cX11_follow 4 (some FieldType.int) (dd + 1) 0 0 ad (E mi) (pI E r) 0 0 (E m34) 34 [(0, .ref 100), (1, iv p1), (2, iv v2_34), (3, iv v3_34)] []) (fun _ _ _ _ _ h9 => nomatch h9) (fun w34 ih34 v2_34 v3_34 m34 hv2_34 hv3_34 H => ?_) n _ _ _ (inR_lit _ rfl) hx32 H)
    refine aw_iload_n (pc := 34) dX11_follow_34 rfl ?_
    refine aw_aload_n (pc := 35) dX11_follow_35 rfl ?_
    refine cx_gtC (pc := 36) 105 hE r100 fl_X11_32 rfl rfl (Nat.le_of_ble_eq_true rfl) dX11_follow_36 ?_
    refine aw_iload_n (pc := 39) dX11_follow_39 rfl ?_
    refine cx_ldI (pc := 40) hE r105 hp1 dX11_follow_40 H (fun x40 hx40 H => ?_)
    refine cx_icmp_ge (pc := 41) 63 hv3_34 hx40 dX11_follow_41 rfl H (fun H => ?_) (fun H => ?_)
    · -- 41: 44
      refine aw_iload_n (pc := 44) dX11_follow_44 rfl ?_
      refine aw_aload_n (pc := 45) dX11_follow_45 rfl ?_
      refine aw_aload_n (pc := 46) dX11_follow_46 rfl ?_
      refine cx_gtC (pc := 47) 102 hE r100 fl_X11_35 rfl rfl (Nat.le_of_ble_eq_true rfl) dX11_follow_47 ?_
      refine aw_iload_n (pc := 50) dX11_follow_50 rfl ?_
      refine cx_ldI (pc := 51) hE r102 hv3_34 dX11_follow_51 H (fun x51 hx51 H => ?_)
      refine cx_callV (pc := 52) (P := pI) (dC := dd) (mcC := 0) (msC := 0) [iv x51] hE r100 (fun r1 H1 => hg_X11_follow x51 m34 hx51 r1 H1) ca_X11_215 rfl ⟨_, rfl, rfl⟩ rfl rfl (by omega) (Nat.le_of_ble_eq_true rfl) (Nat.le_of_ble_eq_true rfl) (Nat.le_of_ble_eq_true rfl) dX11_follow_52 H (fun x52 m52 v52 hh52 H hp => ?_)
      refine cx_backI hp (fun hx52 => ?_)
      refine cx_iadd (pc := 55) dX11_follow_55 ?_
      refine cx_nm (inR_w32 _) H (fun z56 hz56 H => ?_)
      refine aw_istore_n (pc := 56) [(2, iv z56), (0, .ref 100), (1, iv p1), (3, iv v3_34)] dX11_follow_56 rfl (by decide) ?_
      refine cx_iinc (pc := 57) [(3, iv (w32 (v3_34 + 1))), (2, iv z56), (0, .ref 100), (1, iv p1)] dX11_follow_57 rfl rfl (by decide) ?_
      refine aw_goto (pc := 60) 34 dX11_follow_60 rfl ?_
      exact AW.sel [2, 3, 1, 0] rfl (ih34 _ _ _ hz56 (inR_w32 _) H)
    · -- 41: 63
      refine aw_iload_n (pc := 63) dX11_follow_63 rfl ?_
      exact cx_iret (pc := 64) hv2_34 rfl (Nat.le_of_ble_eq_true rfl) (Nat.le_of_ble_eq_true rfl) dX11_follow_64 H
theorem sa_X11_follow (l : Launch) (sc : g_S) (E : Mem → g_H) (R : Nat → Prop) (hE : LE E R) (hR : RRF R) (n : Nat) : ∀ dp, q_X11_follow l sc E R (0 + dp) (h_X11_follow n dp)
  | 0 => fun _ _ _ _ H => nomatch H
  | dp + 1 => by
    have ih := sa_X11_follow l sc E R hE hR n dp
    · exact fun p1 m hp1 r H => sb_X11_follow l sc E R hE hR n (0 + dp) (Nat.le_add_right _ _) _ ih p1 m hp1 r H
theorem s_X11_follow (l : Launch) (sc : g_S) (E : Mem → g_H) (R : Nat → Prop) (hE : LE E R) (hR : RRF R) (n : Nat) (p1 : Int) (hp1 : inR p1) (m : Mem) (r : Rz) (H : f_X11_follow n p1 m = some r) : AMet l sc yX11_follow cX11_follow 4 (some FieldType.int) 60 0 0 [.ref 100, iv p1] (E m) (pI E r) := (sa_X11_follow l sc E R hE hR n 60) p1 m hp1 r H
/-- X11 width (I)I -/
def f_X11_width (n : Nat) (p1 : Int) (mi : Mem) : Option Rz :=
  gtF mi 100 32 fun x2 =>
  ptF mi 100 32 (w32 (x2 + 1)) fun m7 =>
  cal (f_X11_follow n p1 m7) fun x12 m12 =>
  rt x12 m12
set_option maxRecDepth 100000 in
set_option maxHeartbeats 4000000 in
theorem s_X11_width (l : Launch) (sc : g_S) (E : Mem → g_H) (R : Nat → Prop) (hE : LE E R) (hR : RRF R) (n : Nat)  (p1 : Int) (hp1 : inR p1) (mi : Mem) (r : Rz) (H : f_X11_width n p1 mi = some r) : AMet l sc yX11_width cX11_width 2 (some FieldType.int) 61 0 0 [.ref 100, iv p1] (E mi) (pI E r) := by
  have r100 : R 100 := hR 100 (Nat.le_of_ble_eq_true rfl) (Nat.le_of_ble_eq_true rfl)
  unfold f_X11_width at H
  refine AMet.of (own := RX11) (by decide +kernel) rfl (Nat.le_of_ble_eq_true rfl) [(0, .ref 100), (1, iv p1)] rfl (fun D base ad => ?_)
  refine aw_aload_n (pc := 0) dX11_width_0 rfl ?_
  refine aw_dup (pc := 1) dX11_width_1 rfl ?_
  refine cx_gtF (pc := 2) hE r100 fl_X11_212 rfl rfl (Nat.le_of_ble_eq_true rfl) dX11_width_2 H (fun x2 hx2 H => ?_)
  refine cx_iconst (pc := 5) dX11_width_5 ?_
  refine cx_iadd (pc := 6) dX11_width_6 ?_
  refine cx_ptF (pc := 7) tyX11 hE r100 fl_X11_212 (fun r h => ⟨gty_X11 r h, by cases h; rfl⟩) rfl rfl rfl (Nat.le_of_ble_eq_true rfl) dX11_width_7 H (fun m7 H => ?_)
  refine aw_aload_n (pc := 10) dX11_width_10 rfl ?_
  refine aw_iload_n (pc := 11) dX11_width_11 rfl ?_
  refine cx_callV (pc := 12) (P := pI) (dC := 60) (mcC := 0) (msC := 0) [iv p1] hE r100 (fun r1 H1 => s_X11_follow l sc E R hE hR n p1 hp1 m7 r1 H1) ca_X11_215 rfl ⟨_, rfl, rfl⟩ rfl rfl (Nat.le_of_ble_eq_true rfl) (Nat.le_of_ble_eq_true rfl) (Nat.le_of_ble_eq_true rfl) (Nat.le_of_ble_eq_true rfl) dX11_width_12 H (fun x12 m12 v12 hh12 H hp => ?_)
  refine cx_backI hp (fun hx12 => ?_)
  exact cx_iret (pc := 15) hx12 rfl (Nat.le_of_ble_eq_true rfl) (Nat.le_of_ble_eq_true rfl) dX11_width_15 H
/-- X11 fits (I)Z -/
def f_X11_fits (n : Nat) (p1 : Int) (mi : Mem) : Option Rz :=
  ldI mi 109 p1 fun x5 =>
  jn (fun (s0_26 : Int) (m26 : Mem) =>
    rtZ s0_26 m26
  ) fun (j26 : Int → Mem → Option Rz) =>
  jn (fun (m25 : Mem) =>
    j26 0 m25
  ) fun (j25 : Mem → Option Rz) =>
  if 100 < x5 then (
    j25 mi
  ) else
  cal (f_X11_width n p1 mi) fun x13 m13 =>
  if 10 < x13 then (
    j25 m13
  ) else
  j26 1 m13
set_option maxRecDepth 100000 in
set_option maxHeartbeats 4000000 in
theorem s_X11_fits (l : Launch) (sc : g_S) (E : Mem → g_H) (R : Nat → Prop) (hE : LE E R) (hR : RRF R) (n : Nat)  (p1 : Int) (hp1 : inR p1) (mi : Mem) (r : Rz) (H : f_X11_fits n p1 mi = some r) : AMet l sc yX11_fits cX11_fits 2 (some FieldType.boolean) 62 0 0 [.ref 100, iv p1] (E mi) (pI E r) := by
  have r100 : R 100 := hR 100 (Nat.le_of_ble_eq_true rfl) (Nat.le_of_ble_eq_true rfl)
  have r109 : R 109 := hR 109 (Nat.le_of_ble_eq_true rfl) (Nat.le_of_ble_eq_true rfl)
  unfold f_X11_fits at H
  refine AMet.of (own := RX11) (by decide +kernel) rfl (Nat.le_of_ble_eq_true rfl) [(0, .ref 100), (1, iv p1)] rfl (fun D base ad => ?_)
  refine aw_aload_n (pc := 0) dX11_fits_0 rfl ?_
  refine cx_gtC (pc := 1) 109 hE r100 fl_X11_97 rfl rfl (Nat.le_of_ble_eq_true rfl) dX11_fits_1 ?_
  refine aw_iload_n (pc := 4) dX11_fits_4 rfl ?_
  refine cx_ldI (pc := 5) hE r109 hp1 dX11_fits_5 H (fun x5 hx5 H => ?_)
  refine cx_bipush (pc := 6) dX11_fits_6 (by decide) ?_
  refine jn_ind (fun (f9 : Int → Mem → Option Rz) => ∀ (s0_26 : Int) (m26 : Mem), inR s0_26 → f9 s0_26 m26 = some r → AW l D base sc RX11 yX11_fits cX11_fits 2 (some FieldType.boolean) 62 0 0 ad (E mi) (pI E r) 0 0 (E m26) 26 [] [iv s0_26]) (fun s0_26 m26 hs0_26 H => ?_) (fun j26 hj26 H => ?_) H
  · -- 26
    exact cx_zret (pc := 26) rfl (Nat.le_of_ble_eq_true rfl) (Nat.le_of_ble_eq_true rfl) dX11_fits_26 H
  refine jn_ind (fun (f9 : Mem → Option Rz) => ∀ (m25 : Mem), f9 m25 = some r → AW l D base sc RX11 yX11_fits cX11_fits 2 (some FieldType.boolean) 62 0 0 ad (E mi) (pI E r) 0 0 (E m25) 25 [] []) (fun m25 H => ?_) (fun j25 hj25 H => ?_) H
  · -- 25
    refine cx_iconst (pc := 25) dX11_fits_25 ?_
    exact AW.sel [] rfl (hj26 _ _ (inR_lit _ rfl) H)
  refine cx_icmp_gt (pc := 8) 25 hx5 (inR_lit _ rfl) dX11_fits_8 rfl H (fun H => ?_) (fun H => ?_)
  · -- 8: 25
    exact AW.sel [] rfl (hj25 _ H)
  · -- 8: 11
    refine aw_aload_n (pc := 11) dX11_fits_11 rfl ?_
    refine aw_iload_n (pc := 12) dX11_fits_12 rfl ?_
    refine cx_callV (pc := 13) (P := pI) (dC := 61) (mcC := 0) (msC := 0) [iv p1] hE r100 (fun r1 H1 => s_X11_width l sc E R hE hR n p1 hp1 mi r1 H1) ca_X11_218 rfl ⟨_, rfl, rfl⟩ rfl rfl (Nat.le_of_ble_eq_true rfl) (Nat.le_of_ble_eq_true rfl) (Nat.le_of_ble_eq_true rfl) (Nat.le_of_ble_eq_true rfl) dX11_fits_13 H (fun x13 m13 v13 hh13 H hp => ?_)
    refine cx_backI hp (fun hx13 => ?_)
    refine cx_bipush (pc := 16) dX11_fits_16 (by decide) ?_
    refine cx_icmp_gt (pc := 18) 25 hx13 (inR_lit _ rfl) dX11_fits_18 rfl H (fun H => ?_) (fun H => ?_)
    · -- 18: 25
      exact AW.sel [] rfl (hj25 _ H)
    · -- 18: 21
      refine cx_iconst (pc := 21) dX11_fits_21 ?_
      refine aw_goto (pc := 22) 26 dX11_fits_22 rfl ?_
      exact AW.sel [] rfl (hj26 _ _ (inR_lit _ rfl) H)
/-- X11 writes (I)V -/
def f_X11_writes (n : Nat) (p1 : Int) (mi : Mem) : Option Rz :=
  gtF mi 100 35 fun x5 =>
  stI mi 127 x5 p1 fun m9 =>
  gtF m9 100 35 fun x12 =>
  ptF m9 100 35 (w32 (x12 + 1)) fun m17 =>
  rt 0 m17
set_option maxRecDepth 100000 in
set_option maxHeartbeats 4000000 in
theorem s_X11_writes (l : Launch) (sc : g_S) (E : Mem → g_H) (R : Nat → Prop) (hE : LE E R) (hR : RRF R) (n : Nat)  (p1 : Int) (hp1 : inR p1) (mi : Mem) (r : Rz) (H : f_X11_writes n p1 mi = some r) : AMet l sc yX11_writes cX11_writes 2 none 0 0 0 [.ref 100, iv p1] (E mi) (pV E r) := by
  have r100 : R 100 := hR 100 (Nat.le_of_ble_eq_true rfl) (Nat.le_of_ble_eq_true rfl)
  have r127 : R 127 := hR 127 (Nat.le_of_ble_eq_true rfl) (Nat.le_of_ble_eq_true rfl)
  unfold f_X11_writes at H
  refine AMet.of (own := RX11) (by decide +kernel) rfl (Nat.le_of_ble_eq_true rfl) [(0, .ref 100), (1, iv p1)] rfl (fun D base ad => ?_)
  refine aw_aload_n (pc := 0) dX11_writes_0 rfl ?_
  refine cx_gtC (pc := 1) 127 hE r100 fl_X11_221 rfl rfl (Nat.le_of_ble_eq_true rfl) dX11_writes_1 ?_
  refine aw_aload_n (pc := 4) dX11_writes_4 rfl ?_
  refine cx_gtF (pc := 5) hE r100 fl_X11_224 rfl rfl (Nat.le_of_ble_eq_true rfl) dX11_writes_5 H (fun x5 hx5 H => ?_)
  refine aw_iload_n (pc := 8) dX11_writes_8 rfl ?_
  refine cx_stI (pc := 9) hE r127 hx5 dX11_writes_9 H (fun m9 H => ?_)
  refine aw_aload_n (pc := 10) dX11_writes_10 rfl ?_
  refine aw_dup (pc := 11) dX11_writes_11 rfl ?_
  refine cx_gtF (pc := 12) hE r100 fl_X11_224 rfl rfl (Nat.le_of_ble_eq_true rfl) dX11_writes_12 H (fun x12 hx12 H => ?_)
  refine cx_iconst (pc := 15) dX11_writes_15 ?_
  refine cx_iadd (pc := 16) dX11_writes_16 ?_
  refine cx_ptF (pc := 17) tyX11 hE r100 fl_X11_224 (fun r h => ⟨gty_X11 r h, by cases h; rfl⟩) rfl rfl rfl (Nat.le_of_ble_eq_true rfl) dX11_writes_17 H (fun m17 H => ?_)
  exact cx_vret (pc := 20) rfl (Nat.le_of_ble_eq_true rfl) (Nat.le_of_ble_eq_true rfl) dX11_writes_20 H
/-- X11 writesNumber (I)V -/
def f_X11_writesNumber (n : Nat) (p1 : Int) (mi : Mem) : Option Rz :=
  jn (fun (m17 : Mem) =>
    ok0 (10 ≠ 0) <|
    cal (f_X11_writes n (w32 (48 + (irem p1 10))) m17) fun _ m25 =>
    rt 0 m25
  ) fun (j17 : Mem → Option Rz) =>
  if 9 < p1 then (
    ok0 (10 ≠ 0) <|
    cal (f_X11_writes n (w32 (48 + (idiv p1 10))) mi) fun _ m14 =>
    j17 m14
  ) else
  j17 mi
set_option maxRecDepth 100000 in
set_option maxHeartbeats 4000000 in
theorem s_X11_writesNumber (l : Launch) (sc : g_S) (E : Mem → g_H) (R : Nat → Prop) (hE : LE E R) (hR : RRF R) (n : Nat)  (p1 : Int) (hp1 : inR p1) (mi : Mem) (r : Rz) (H : f_X11_writesNumber n p1 mi = some r) : AMet l sc yX11_writesNumber cX11_writesNumber 2 none 1 0 0 [.ref 100, iv p1] (E mi) (pV E r) := by
  have r100 : R 100 := hR 100 (Nat.le_of_ble_eq_true rfl) (Nat.le_of_ble_eq_true rfl)
  unfold f_X11_writesNumber at H
  refine AMet.of (own := RX11) (by decide +kernel) rfl (Nat.le_of_ble_eq_true rfl) [(0, .ref 100), (1, iv p1)] rfl (fun D base ad => ?_)
  refine aw_iload_n (pc := 0) dX11_writesNumber_0 rfl ?_
  refine cx_bipush (pc := 1) dX11_writesNumber_1 (by decide) ?_
  refine jn_ind (fun (f9 : Mem → Option Rz) => ∀ (m17 : Mem), f9 m17 = some r → AW l D base sc RX11 yX11_writesNumber cX11_writesNumber 2 none 1 0 0 ad (E mi) (pV E r) 0 0 (E m17) 17 [(0, .ref 100), (1, iv p1)] []) (fun m17 H => ?_) (fun j17 hj17 H => ?_) H
  · -- 17
    refine aw_aload_n (pc := 17) dX11_writesNumber_17 rfl ?_
    refine cx_bipush (pc := 18) dX11_writesNumber_18 (by decide) ?_
    refine aw_iload_n (pc := 20) dX11_writesNumber_20 rfl ?_
    refine cx_bipush (pc := 21) dX11_writesNumber_21 (by decide) ?_
    refine cx_irem (pc := 23) (inR_lit _ rfl) dX11_writesNumber_23 H (fun H => ?_)
    refine cx_iadd (pc := 24) dX11_writesNumber_24 ?_
    refine cx_callV (pc := 25) (P := pV) (dC := 0) (mcC := 0) (msC := 0) [iv (w32 (48 + (irem p1 10)))] hE r100 (fun r1 H1 => s_X11_writes l sc E R hE hR n (w32 (48 + (irem p1 10))) (inR_w32 _) m17 r1 H1) ca_X11_227 rfl ⟨_, rfl, rfl⟩ rfl rfl (Nat.le_of_ble_eq_true rfl) (Nat.le_of_ble_eq_true rfl) (Nat.le_of_ble_eq_true rfl) (Nat.le_of_ble_eq_true rfl) dX11_writesNumber_25 H (fun x25 m25 v25 hh25 H hp => ?_)
    refine cx_backV hp ?_
    exact cx_vret (pc := 28) rfl (Nat.le_of_ble_eq_true rfl) (Nat.le_of_ble_eq_true rfl) dX11_writesNumber_28 H
  refine cx_icmp_le (pc := 3) 17 hp1 (inR_lit _ rfl) dX11_writesNumber_3 rfl H (fun H => ?_) (fun H => ?_)
  · -- 3: 6
    refine aw_aload_n (pc := 6) dX11_writesNumber_6 rfl ?_
    refine cx_bipush (pc := 7) dX11_writesNumber_7 (by decide) ?_
    refine aw_iload_n (pc := 9) dX11_writesNumber_9 rfl ?_
    refine cx_bipush (pc := 10) dX11_writesNumber_10 (by decide) ?_
    refine cx_idiv (pc := 12) (inR_lit _ rfl) dX11_writesNumber_12 H (fun H => ?_)
    refine cx_iadd (pc := 13) dX11_writesNumber_13 ?_
    refine cx_callV (pc := 14) (P := pV) (dC := 0) (mcC := 0) (msC := 0) [iv (w32 (48 + (idiv p1 10)))] hE r100 (fun r1 H1 => s_X11_writes l sc E R hE hR n (w32 (48 + (idiv p1 10))) (inR_w32 _) mi r1 H1) ca_X11_227 rfl ⟨_, rfl, rfl⟩ rfl rfl (Nat.le_of_ble_eq_true rfl) (Nat.le_of_ble_eq_true rfl) (Nat.le_of_ble_eq_true rfl) (Nat.le_of_ble_eq_true rfl) dX11_writesNumber_14 H (fun x14 m14 v14 hh14 H hp => ?_)
    refine cx_backV hp ?_
    exact AW.sel [0, 1] rfl (hj17 _ H)
  · -- 3: 17
    exact AW.sel [0, 1] rfl (hj17 _ H)
/-- X11 writesGame (I)V -/
def b_X11_writesGame (n : Nat) (g_X11_writesGame : (Int → Mem → Option Rz)) (g_X11_writesOptions : (Int → Int → Mem → Option Rz)) (p1 : Int) (mi : Mem) : Option Rz :=
  ldI mi 107 p1 fun x5 =>
  jn (fun (m147 : Mem) =>
    rt 0 m147
  ) fun (j147 : Mem → Option Rz) =>
  if x5 = (-1000) then (
    ldI mi 108 p1 fun x64 =>
    if 0 < x64 then (
      cal (f_X11_writes n 42 mi) fun _ m71 =>
      ldI m71 108 p1 fun x79 =>
      if 1 < x79 then (
        ldI m71 108 p1 fun x90 =>
        cal (f_X11_writesNumber n x90 m71) fun _ m91 =>
        j147 m91
      ) else
      j147 m71
    ) else
    cal (f_X11_writes n 123 mi) fun _ m100 =>
    ldI m100 103 p1 fun x109 =>
    ldI m100 104 p1 fun x115 =>
    cal (g_X11_writesOptions x109 x115 m100) fun _ m116 =>
    cal (f_X11_writes n 124 m116) fun _ m122 =>
    ldI m122 104 p1 fun x131 =>
    ldI m122 105 p1 fun x137 =>
    cal (g_X11_writesOptions x131 x137 m122) fun _ m138 =>
    cal (f_X11_writes n 125 m138) fun _ m144 =>
    j147 m144
  ) else
  ldI mi 107 p1 fun x17 =>
  jn (fun (m27 : Mem) =>
    ldI m27 107 p1 fun x33 =>
    jn (fun (s0_53 : Int) (m53 : Mem) =>
      cal (f_X11_writesNumber n s0_53 m53) fun _ m53 =>
      j147 m53
    ) fun (j53 : Int → Mem → Option Rz) =>
    if x33 < 0 then (
      ldI m27 107 p1 fun x42 =>
      j53 (w32 (-x42)) m27
    ) else
    ldI m27 107 p1 fun x52 =>
    j53 x52 m27
  ) fun (j27 : Mem → Option Rz) =>
  if x17 < 0 then (
    cal (f_X11_writes n 45 mi) fun _ m24 =>
    j27 m24
  ) else
  j27 mi
/-- X11 writesOptions (II)V -/
def b_X11_writesOptions (n : Nat) (g_X11_writesGame : (Int → Mem → Option Rz)) (g_X11_writesOptions : (Int → Int → Mem → Option Rz)) (p1 : Int) (p2 : Int) (mi : Mem) : Option Rz :=
  lp (F := Int → Mem → Option Rz) (fun _ _ => none) (fun w2 v3_2 m2 =>
    if v3_2 < p2 then (
      jn (fun (m18 : Mem) =>
        ldI m18 102 v3_2 fun x24 =>
        cal (g_X11_writesGame x24 m18) fun _ m25 =>
        w2 (w32 (v3_2 + 1)) m25
      ) fun (j18 : Mem → Option Rz) =>
      if p1 < v3_2 then (
        cal (f_X11_writes n 44 m2) fun _ m15 =>
        j18 m15
      ) else
      j18 m2
    ) else
    rt 0 m2
  ) n p1 mi
def t_X11_writesGame (n : Nat) : Nat → (Int → Mem → Option Rz) × (Int → Int → Mem → Option Rz)
  | 0 => (fun _ _ => none, fun _ _ _ => none)
  | d + 1 => (b_X11_writesGame n (t_X11_writesGame n d).1 (t_X11_writesGame n d).2, b_X11_writesOptions n (t_X11_writesGame n d).1 (t_X11_writesGame n d).2)
def h_X11_writesGame (n d : Nat) : (Int → Mem → Option Rz) := (t_X11_writesGame n d).1
def f_X11_writesGame (n : Nat) : (Int → Mem → Option Rz) := h_X11_writesGame n 60
def h_X11_writesOptions (n d : Nat) : (Int → Int → Mem → Option Rz) := (t_X11_writesGame n d).2
def f_X11_writesOptions (n : Nat) : (Int → Int → Mem → Option Rz) := h_X11_writesOptions n 60
theorem h_X11_writesGame_s (n d : Nat) (p1 : Int) (m : Mem) : h_X11_writesGame n (d + 1) p1 m = b_X11_writesGame n (h_X11_writesGame n d) (h_X11_writesOptions n d) p1 m := rfl
theorem h_X11_writesGame_0 (n : Nat) (p1 : Int) (m : Mem) : h_X11_writesGame n 0 p1 m = none := rfl
theorem h_X11_writesOptions_s (n d : Nat) (p1 : Int) (p2 : Int) (m : Mem) : h_X11_writesOptions n (d + 1) p1 p2 m = b_X11_writesOptions n (h_X11_writesGame n d) (h_X11_writesOptions n d) p1 p2 m := rfl
theorem h_X11_writesOptions_0 (n : Nat) (p1 : Int) (p2 : Int) (m : Mem) : h_X11_writesOptions n 0 p1 p2 m = none := rfl
def q_X11_writesGame (l : Launch) (sc : g_S) (E : Mem → g_H) (R : Nat → Prop) (dd : Nat) (g : (Int → Mem → Option Rz)) : Prop := ∀ (p1 : Int) (m : Mem) (hp1 : inR p1) (r : Rz) (H : g p1 m = some r), AMet l sc yX11_writesGame cX11_writesGame 2 none dd 0 0 [.ref 100, iv p1] (E m) (pV E r)
def q_X11_writesOptions (l : Launch) (sc : g_S) (E : Mem → g_H) (R : Nat → Prop) (dd : Nat) (g : (Int → Int → Mem → Option Rz)) : Prop := ∀ (p1 : Int) (p2 : Int) (m : Mem) (hp1 : inR p1) (hp2 : inR p2) (r : Rz) (H : g p1 p2 m = some r), AMet l sc yX11_writesOptions cX11_writesOptions 4 none dd 0 0 [.ref 100, iv p1, iv p2] (E m) (pV E r)
set_option maxRecDepth 100000 in
set_option maxHeartbeats 4000000 in
theorem sb_X11_writesGame (l : Launch) (sc : g_S) (E : Mem → g_H) (R : Nat → Prop) (hE : LE E R) (hR : RRF R) (n : Nat) (dd : Nat) (hdd : 2 ≤ dd) (g_X11_writesGame : (Int → Mem → Option Rz)) (g_X11_writesOptions : (Int → Int → Mem → Option Rz)) (hg_X11_writesGame : q_X11_writesGame l sc E R dd g_X11_writesGame) (hg_X11_writesOptions : q_X11_writesOptions l sc E R dd g_X11_writesOptions) (p1 : Int) (mi : Mem) (hp1 : inR p1) (r : Rz) (H : b_X11_writesGame n g_X11_writesGame g_X11_writesOptions p1 mi = some r) : AMet l sc yX11_writesGame cX11_writesGame 2 none (dd + 1) 0 0 [.ref 100, iv p1] (E mi) (pV E r) := by
  have r100 : R 100 := hR 100 (Nat.le_of_ble_eq_true rfl) (Nat.le_of_ble_eq_true rfl)
  have r103 : R 103 := hR 103 (Nat.le_of_ble_eq_true rfl) (Nat.le_of_ble_eq_true rfl)
  have r104 : R 104 := hR 104 (Nat.le_of_ble_eq_true rfl) (Nat.le_of_ble_eq_true rfl)
  have r105 : R 105 := hR 105 (Nat.le_of_ble_eq_true rfl) (Nat.le_of_ble_eq_true rfl)
  have r107 : R 107 := hR 107 (Nat.le_of_ble_eq_true rfl) (Nat.le_of_ble_eq_true rfl)
  have r108 : R 108 := hR 108 (Nat.le_of_ble_eq_true rfl) (Nat.le_of_ble_eq_true rfl)
  unfold b_X11_writesGame at H
  refine AMet.of (own := RX11) (by decide +kernel) rfl (Nat.le_of_ble_eq_true rfl) [(0, .ref 100), (1, iv p1)] rfl (fun D base ad => ?_)
  refine aw_aload_n (pc := 0) dX11_writesGame_0 rfl ?_
  refine cx_gtC (pc := 1) 107 hE r100 fl_X11_79 rfl rfl (Nat.le_of_ble_eq_true rfl) dX11_writesGame_1 ?_
  refine aw_iload_n (pc := 4) dX11_writesGame_4 rfl ?_
  refine cx_ldI (pc := 5) hE r107 hp1 dX11_writesGame_5 H (fun x5 hx5 H => ?_)
  refine cx_sipush (pc := 6) dX11_writesGame_6 (by decide) ?_
  refine jn_ind (fun (f9 : Mem → Option Rz) => ∀ (m147 : Mem), f9 m147 = some r → AW l D base sc RX11 yX11_writesGame cX11_writesGame 2 none (dd + 1) 0 0 ad (E mi) (pV E r) 0 0 (E m147) 147 [] []) (fun m147 H => ?_) (fun j147 hj147 H => ?_) H
  · -- 147
    exact cx_vret (pc := 147) rfl (Nat.le_of_ble_eq_true rfl) (Nat.le_of_ble_eq_true rfl) dX11_writesGame_147 H
  refine cx_icmp_eq (pc := 9) 59 hx5 (inR_lit _ rfl) dX11_writesGame_9 rfl H (fun H => ?_) (fun H => ?_)
  · -- 9: 59
    refine aw_aload_n (pc := 59) dX11_writesGame_59 rfl ?_
    refine cx_gtC (pc := 60) 108 hE r100 fl_X11_85 rfl rfl (Nat.le_of_ble_eq_true rfl) dX11_writesGame_60 ?_
    refine aw_iload_n (pc := 63) dX11_writesGame_63 rfl ?_
    refine cx_ldI (pc := 64) hE r108 hp1 dX11_writesGame_64 H (fun x64 hx64 H => ?_)
    refine cx_if_le (pc := 65) 97 hx64 dX11_writesGame_65 rfl H (fun H => ?_) (fun H => ?_)
    · -- 65: 68
      refine aw_aload_n (pc := 68) dX11_writesGame_68 rfl ?_
      refine cx_bipush (pc := 69) dX11_writesGame_69 (by decide) ?_
      refine cx_callV (pc := 71) (P := pV) (dC := 0) (mcC := 0) (msC := 0) [iv 42] hE r100 (fun r1 H1 => s_X11_writes l sc E R hE hR n 42 (inR_lit _ rfl) mi r1 H1) ca_X11_227 rfl ⟨_, rfl, rfl⟩ rfl rfl (by omega) (Nat.le_of_ble_eq_true rfl) (Nat.le_of_ble_eq_true rfl) (Nat.le_of_ble_eq_true rfl) dX11_writesGame_71 H (fun x71 m71 v71 hh71 H hp => ?_)
      refine cx_backV hp ?_
      refine aw_aload_n (pc := 74) dX11_writesGame_74 rfl ?_
      refine cx_gtC (pc := 75) 108 hE r100 fl_X11_85 rfl rfl (Nat.le_of_ble_eq_true rfl) dX11_writesGame_75 ?_
      refine aw_iload_n (pc := 78) dX11_writesGame_78 rfl ?_
      refine cx_ldI (pc := 79) hE r108 hp1 dX11_writesGame_79 H (fun x79 hx79 H => ?_)
      refine cx_iconst (pc := 80) dX11_writesGame_80 ?_
      refine cx_icmp_le (pc := 81) 147 hx79 (inR_lit _ rfl) dX11_writesGame_81 rfl H (fun H => ?_) (fun H => ?_)
      · -- 81: 84
        refine aw_aload_n (pc := 84) dX11_writesGame_84 rfl ?_
        refine aw_aload_n (pc := 85) dX11_writesGame_85 rfl ?_
        refine cx_gtC (pc := 86) 108 hE r100 fl_X11_85 rfl rfl (Nat.le_of_ble_eq_true rfl) dX11_writesGame_86 ?_
        refine aw_iload_n (pc := 89) dX11_writesGame_89 rfl ?_
        refine cx_ldI (pc := 90) hE r108 hp1 dX11_writesGame_90 H (fun x90 hx90 H => ?_)
        refine cx_callV (pc := 91) (P := pV) (dC := 1) (mcC := 0) (msC := 0) [iv x90] hE r100 (fun r1 H1 => s_X11_writesNumber l sc E R hE hR n x90 hx90 m71 r1 H1) ca_X11_233 rfl ⟨_, rfl, rfl⟩ rfl rfl (by omega) (Nat.le_of_ble_eq_true rfl) (Nat.le_of_ble_eq_true rfl) (Nat.le_of_ble_eq_true rfl) dX11_writesGame_91 H (fun x91 m91 v91 hh91 H hp => ?_)
        refine cx_backV hp ?_
        refine aw_goto (pc := 94) 147 dX11_writesGame_94 rfl ?_
        exact AW.sel [] rfl (hj147 _ H)
      · -- 81: 147
        exact AW.sel [] rfl (hj147 _ H)
    · -- 65: 97
      refine aw_aload_n (pc := 97) dX11_writesGame_97 rfl ?_
      refine cx_bipush (pc := 98) dX11_writesGame_98 (by decide) ?_
      refine cx_callV (pc := 100) (P := pV) (dC := 0) (mcC := 0) (msC := 0) [iv 123] hE r100 (fun r1 H1 => s_X11_writes l sc E R hE hR n 123 (inR_lit _ rfl) mi r1 H1) ca_X11_227 rfl ⟨_, rfl, rfl⟩ rfl rfl (by omega) (Nat.le_of_ble_eq_true rfl) (Nat.le_of_ble_eq_true rfl) (Nat.le_of_ble_eq_true rfl) dX11_writesGame_100 H (fun x100 m100 v100 hh100 H hp => ?_)
      refine cx_backV hp ?_
      refine aw_aload_n (pc := 103) dX11_writesGame_103 rfl ?_
      refine aw_aload_n (pc := 104) dX11_writesGame_104 rfl ?_
      refine cx_gtC (pc := 105) 103 hE r100 fl_X11_29 rfl rfl (Nat.le_of_ble_eq_true rfl) dX11_writesGame_105 ?_
      refine aw_iload_n (pc := 108) dX11_writesGame_108 rfl ?_
      refine cx_ldI (pc := 109) hE r103 hp1 dX11_writesGame_109 H (fun x109 hx109 H => ?_)
      refine aw_aload_n (pc := 110) dX11_writesGame_110 rfl ?_
      refine cx_gtC (pc := 111) 104 hE r100 fl_X11_26 rfl rfl (Nat.le_of_ble_eq_true rfl) dX11_writesGame_111 ?_
      refine aw_iload_n (pc := 114) dX11_writesGame_114 rfl ?_
      refine cx_ldI (pc := 115) hE r104 hp1 dX11_writesGame_115 H (fun x115 hx115 H => ?_)
      refine cx_callV (pc := 116) (P := pV) (dC := dd) (mcC := 0) (msC := 0) [iv x109, iv x115] hE r100 (fun r1 H1 => hg_X11_writesOptions x109 x115 m100 hx109 hx115 r1 H1) ca_X11_236 rfl ⟨_, rfl, rfl⟩ rfl rfl (by omega) (Nat.le_of_ble_eq_true rfl) (Nat.le_of_ble_eq_true rfl) (Nat.le_of_ble_eq_true rfl) dX11_writesGame_116 H (fun x116 m116 v116 hh116 H hp => ?_)
      refine cx_backV hp ?_
      refine aw_aload_n (pc := 119) dX11_writesGame_119 rfl ?_
      refine cx_bipush (pc := 120) dX11_writesGame_120 (by decide) ?_
      refine cx_callV (pc := 122) (P := pV) (dC := 0) (mcC := 0) (msC := 0) [iv 124] hE r100 (fun r1 H1 => s_X11_writes l sc E R hE hR n 124 (inR_lit _ rfl) m116 r1 H1) ca_X11_227 rfl ⟨_, rfl, rfl⟩ rfl rfl (by omega) (Nat.le_of_ble_eq_true rfl) (Nat.le_of_ble_eq_true rfl) (Nat.le_of_ble_eq_true rfl) dX11_writesGame_122 H (fun x122 m122 v122 hh122 H hp => ?_)
      refine cx_backV hp ?_
      refine aw_aload_n (pc := 125) dX11_writesGame_125 rfl ?_
      refine aw_aload_n (pc := 126) dX11_writesGame_126 rfl ?_
      refine cx_gtC (pc := 127) 104 hE r100 fl_X11_26 rfl rfl (Nat.le_of_ble_eq_true rfl) dX11_writesGame_127 ?_
      refine aw_iload_n (pc := 130) dX11_writesGame_130 rfl ?_
      refine cx_ldI (pc := 131) hE r104 hp1 dX11_writesGame_131 H (fun x131 hx131 H => ?_)
      refine aw_aload_n (pc := 132) dX11_writesGame_132 rfl ?_
      refine cx_gtC (pc := 133) 105 hE r100 fl_X11_32 rfl rfl (Nat.le_of_ble_eq_true rfl) dX11_writesGame_133 ?_
      refine aw_iload_n (pc := 136) dX11_writesGame_136 rfl ?_
      refine cx_ldI (pc := 137) hE r105 hp1 dX11_writesGame_137 H (fun x137 hx137 H => ?_)
      refine cx_callV (pc := 138) (P := pV) (dC := dd) (mcC := 0) (msC := 0) [iv x131, iv x137] hE r100 (fun r1 H1 => hg_X11_writesOptions x131 x137 m122 hx131 hx137 r1 H1) ca_X11_236 rfl ⟨_, rfl, rfl⟩ rfl rfl (by omega) (Nat.le_of_ble_eq_true rfl) (Nat.le_of_ble_eq_true rfl) (Nat.le_of_ble_eq_true rfl) dX11_writesGame_138 H (fun x138 m138 v138 hh138 H hp => ?_)
      refine cx_backV hp ?_
      refine aw_aload_n (pc := 141) dX11_writesGame_141 rfl ?_
      refine cx_bipush (pc := 142) dX11_writesGame_142 (by decide) ?_
      refine cx_callV (pc := 144) (P := pV) (dC := 0) (mcC := 0) (msC := 0) [iv 125] hE r100 (fun r1 H1 => s_X11_writes l sc E R hE hR n 125 (inR_lit _ rfl) m138 r1 H1) ca_X11_227 rfl ⟨_, rfl, rfl⟩ rfl rfl (by omega) (Nat.le_of_ble_eq_true rfl) (Nat.le_of_ble_eq_true rfl) (Nat.le_of_ble_eq_true rfl) dX11_writesGame_144 H (fun x144 m144 v144 hh144 H hp => ?_)
      refine cx_backV hp ?_
      exact AW.sel [] rfl (hj147 _ H)
  · -- 9: 12
    refine aw_aload_n (pc := 12) dX11_writesGame_12 rfl ?_
    refine cx_gtC (pc := 13) 107 hE r100 fl_X11_79 rfl rfl (Nat.le_of_ble_eq_true rfl) dX11_writesGame_13 ?_
    refine aw_iload_n (pc := 16) dX11_writesGame_16 rfl ?_
    refine cx_ldI (pc := 17) hE r107 hp1 dX11_writesGame_17 H (fun x17 hx17 H => ?_)
    refine jn_ind (fun (f9 : Mem → Option Rz) => ∀ (m27 : Mem), f9 m27 = some r → AW l D base sc RX11 yX11_writesGame cX11_writesGame 2 none (dd + 1) 0 0 ad (E mi) (pV E r) 0 0 (E m27) 27 [(0, .ref 100), (1, iv p1)] []) (fun m27 H => ?_) (fun j27 hj27 H => ?_) H
    · -- 27
      refine aw_aload_n (pc := 27) dX11_writesGame_27 rfl ?_
      refine aw_aload_n (pc := 28) dX11_writesGame_28 rfl ?_
      refine cx_gtC (pc := 29) 107 hE r100 fl_X11_79 rfl rfl (Nat.le_of_ble_eq_true rfl) dX11_writesGame_29 ?_
      refine aw_iload_n (pc := 32) dX11_writesGame_32 rfl ?_
      refine cx_ldI (pc := 33) hE r107 hp1 dX11_writesGame_33 H (fun x33 hx33 H => ?_)
      refine jn_ind (fun (f9 : Int → Mem → Option Rz) => ∀ (s0_53 : Int) (m53 : Mem), inR s0_53 → f9 s0_53 m53 = some r → AW l D base sc RX11 yX11_writesGame cX11_writesGame 2 none (dd + 1) 0 0 ad (E mi) (pV E r) 0 0 (E m53) 53 [] [iv s0_53, .ref 100]) (fun s0_53 m53 hs0_53 H => ?_) (fun j53 hj53 H => ?_) H
      · -- 53
        refine cx_callV (pc := 53) (P := pV) (dC := 1) (mcC := 0) (msC := 0) [iv s0_53] hE r100 (fun r1 H1 => s_X11_writesNumber l sc E R hE hR n s0_53 hs0_53 m53 r1 H1) ca_X11_233 rfl ⟨_, rfl, rfl⟩ rfl rfl (by omega) (Nat.le_of_ble_eq_true rfl) (Nat.le_of_ble_eq_true rfl) (Nat.le_of_ble_eq_true rfl) dX11_writesGame_53 H (fun x53 m53 v53 hh53 H hp => ?_)
        refine cx_backV hp ?_
        refine aw_goto (pc := 56) 147 dX11_writesGame_56 rfl ?_
        exact AW.sel [] rfl (hj147 _ H)
      refine cx_if_ge (pc := 34) 47 hx33 dX11_writesGame_34 rfl H (fun H => ?_) (fun H => ?_)
      · -- 34: 37
        refine aw_aload_n (pc := 37) dX11_writesGame_37 rfl ?_
        refine cx_gtC (pc := 38) 107 hE r100 fl_X11_79 rfl rfl (Nat.le_of_ble_eq_true rfl) dX11_writesGame_38 ?_
        refine aw_iload_n (pc := 41) dX11_writesGame_41 rfl ?_
        refine cx_ldI (pc := 42) hE r107 hp1 dX11_writesGame_42 H (fun x42 hx42 H => ?_)
        refine cx_ineg (pc := 43) dX11_writesGame_43 ?_
        refine aw_goto (pc := 44) 53 dX11_writesGame_44 rfl ?_
        exact AW.sel [] rfl (hj53 _ _ (inR_w32 _) H)
      · -- 34: 47
        refine aw_aload_n (pc := 47) dX11_writesGame_47 rfl ?_
        refine cx_gtC (pc := 48) 107 hE r100 fl_X11_79 rfl rfl (Nat.le_of_ble_eq_true rfl) dX11_writesGame_48 ?_
        refine aw_iload_n (pc := 51) dX11_writesGame_51 rfl ?_
        refine cx_ldI (pc := 52) hE r107 hp1 dX11_writesGame_52 H (fun x52 hx52 H => ?_)
        exact AW.sel [] rfl (hj53 _ _ hx52 H)
    refine cx_if_ge (pc := 18) 27 hx17 dX11_writesGame_18 rfl H (fun H => ?_) (fun H => ?_)
    · -- 18: 21
      refine aw_aload_n (pc := 21) dX11_writesGame_21 rfl ?_
      refine cx_bipush (pc := 22) dX11_writesGame_22 (by decide) ?_
      refine cx_callV (pc := 24) (P := pV) (dC := 0) (mcC := 0) (msC := 0) [iv 45] hE r100 (fun r1 H1 => s_X11_writes l sc E R hE hR n 45 (inR_lit _ rfl) mi r1 H1) ca_X11_227 rfl ⟨_, rfl, rfl⟩ rfl rfl (by omega) (Nat.le_of_ble_eq_true rfl) (Nat.le_of_ble_eq_true rfl) (Nat.le_of_ble_eq_true rfl) dX11_writesGame_24 H (fun x24 m24 v24 hh24 H hp => ?_)
      refine cx_backV hp ?_
      exact AW.sel [0, 1] rfl (hj27 _ H)
    · -- 18: 27
      exact AW.sel [0, 1] rfl (hj27 _ H)
set_option maxRecDepth 100000 in
set_option maxHeartbeats 4000000 in
theorem sb_X11_writesOptions (l : Launch) (sc : g_S) (E : Mem → g_H) (R : Nat → Prop) (hE : LE E R) (hR : RRF R) (n : Nat) (dd : Nat) (hdd : 2 ≤ dd) (g_X11_writesGame : (Int → Mem → Option Rz)) (g_X11_writesOptions : (Int → Int → Mem → Option Rz)) (hg_X11_writesGame : q_X11_writesGame l sc E R dd g_X11_writesGame) (hg_X11_writesOptions : q_X11_writesOptions l sc E R dd g_X11_writesOptions) (p1 : Int) (p2 : Int) (mi : Mem) (hp1 : inR p1) (hp2 : inR p2) (r : Rz) (H : b_X11_writesOptions n g_X11_writesGame g_X11_writesOptions p1 p2 mi = some r) : AMet l sc yX11_writesOptions cX11_writesOptions 4 none (dd + 1) 0 0 [.ref 100, iv p1, iv p2] (E mi) (pV E r) := by
  have r100 : R 100 := hR 100 (Nat.le_of_ble_eq_true rfl) (Nat.le_of_ble_eq_true rfl)
  have r102 : R 102 := hR 102 (Nat.le_of_ble_eq_true rfl) (Nat.le_of_ble_eq_true rfl)
  unfold b_X11_writesOptions at H
  refine AMet.of (own := RX11) (by decide +kernel) rfl (Nat.le_of_ble_eq_true rfl) [(0, .ref 100), (1, iv p1), (2, iv p2)] rfl (fun D base ad => ?_)
  refine aw_iload_n (pc := 0) dX11_writesOptions_0 rfl ?_
  refine aw_istore_n (pc := 1) [(3, iv p1), (0, .ref 100), (1, iv p1), (2, iv p2)] dX11_writesOptions_1 rfl (by decide) ?_
  refine AW.sel [1, 2, 3, 0] rfl (lp_ind (bot := fun _ _ => none) (fun (f9 : Int → Mem → Option Rz) => ∀ (v3_2 : Int) (m2 : Mem), inR v3_2 → f9 v3_2 m2 = some r → AW l D base sc RX11 yX11_writesOptions cX11_writesOptions 4 none (dd + 1) 0 0 ad (E mi) (pV E r) 0 0 (E m2) 2 [(0, .ref 100), (1, iv p1), (2, iv p2), (3, iv v3_2)] []) (fun _ _ _ h9 => nomatch h9) (fun w2 ih2 v3_2 m2 hv3_2 H => ?_) n _ _ hp1 H)
  refine aw_iload_n (pc := 2) dX11_writesOptions_2 rfl ?_
  refine aw_iload_n (pc := 3) dX11_writesOptions_3 rfl ?_
  refine cx_icmp_ge (pc := 4) 34 hv3_2 hp2 dX11_writesOptions_4 rfl H (fun H => ?_) (fun H => ?_)
  · -- 4: 7
    refine aw_iload_n (pc := 7) dX11_writesOptions_7 rfl ?_
    refine aw_iload_n (pc := 8) dX11_writesOptions_8 rfl ?_
    refine jn_ind (fun (f9 : Mem → Option Rz) => ∀ (m18 : Mem), f9 m18 = some r → AW l D base sc RX11 yX11_writesOptions cX11_writesOptions 4 none (dd + 1) 0 0 ad (E mi) (pV E r) 0 0 (E m18) 18 [(0, .ref 100), (1, iv p1), (2, iv p2), (3, iv v3_2)] []) (fun m18 H => ?_) (fun j18 hj18 H => ?_) H
    · -- 18
      refine aw_aload_n (pc := 18) dX11_writesOptions_18 rfl ?_
      refine aw_aload_n (pc := 19) dX11_writesOptions_19 rfl ?_
      refine cx_gtC (pc := 20) 102 hE r100 fl_X11_35 rfl rfl (Nat.le_of_ble_eq_true rfl) dX11_writesOptions_20 ?_
      refine aw_iload_n (pc := 23) dX11_writesOptions_23 rfl ?_
      refine cx_ldI (pc := 24) hE r102 hv3_2 dX11_writesOptions_24 H (fun x24 hx24 H => ?_)
      refine cx_callV (pc := 25) (P := pV) (dC := dd) (mcC := 0) (msC := 0) [iv x24] hE r100 (fun r1 H1 => hg_X11_writesGame x24 m18 hx24 r1 H1) ca_X11_230 rfl ⟨_, rfl, rfl⟩ rfl rfl (by omega) (Nat.le_of_ble_eq_true rfl) (Nat.le_of_ble_eq_true rfl) (Nat.le_of_ble_eq_true rfl) dX11_writesOptions_25 H (fun x25 m25 v25 hh25 H hp => ?_)
      refine cx_backV hp ?_
      refine cx_iinc (pc := 28) [(3, iv (w32 (v3_2 + 1))), (0, .ref 100), (1, iv p1), (2, iv p2)] dX11_writesOptions_28 rfl rfl (by decide) ?_
      refine aw_goto (pc := 31) 2 dX11_writesOptions_31 rfl ?_
      exact AW.sel [1, 2, 3, 0] rfl (ih2 _ _ (inR_w32 _) H)
    refine cx_icmp_le (pc := 9) 18 hv3_2 hp1 dX11_writesOptions_9 rfl H (fun H => ?_) (fun H => ?_)
    · -- 9: 12
      refine aw_aload_n (pc := 12) dX11_writesOptions_12 rfl ?_
      refine cx_bipush (pc := 13) dX11_writesOptions_13 (by decide) ?_
      refine cx_callV (pc := 15) (P := pV) (dC := 0) (mcC := 0) (msC := 0) [iv 44] hE r100 (fun r1 H1 => s_X11_writes l sc E R hE hR n 44 (inR_lit _ rfl) m2 r1 H1) ca_X11_227 rfl ⟨_, rfl, rfl⟩ rfl rfl (by omega) (Nat.le_of_ble_eq_true rfl) (Nat.le_of_ble_eq_true rfl) (Nat.le_of_ble_eq_true rfl) dX11_writesOptions_15 H (fun x15 m15 v15 hh15 H hp => ?_)
      refine cx_backV hp ?_
      exact AW.sel [0, 1, 2, 3] rfl (hj18 _ H)
    · -- 9: 18
      exact AW.sel [0, 1, 2, 3] rfl (hj18 _ H)
  · -- 4: 34
    exact cx_vret (pc := 34) rfl (Nat.le_of_ble_eq_true rfl) (Nat.le_of_ble_eq_true rfl) dX11_writesOptions_34 H
theorem sa_X11_writesGame (l : Launch) (sc : g_S) (E : Mem → g_H) (R : Nat → Prop) (hE : LE E R) (hR : RRF R) (n : Nat) : ∀ dp, q_X11_writesGame l sc E R (2 + dp) (h_X11_writesGame n dp) ∧ q_X11_writesOptions l sc E R (2 + dp) (h_X11_writesOptions n dp)
  | 0 => ⟨(fun _ _ _ _ H => nomatch H), (fun _ _ _ _ _ _ H => nomatch H)⟩
  | dp + 1 => by
    have ih := sa_X11_writesGame l sc E R hE hR n dp
    refine ⟨?_, ?_⟩
    · exact fun p1 m hp1 r H => sb_X11_writesGame l sc E R hE hR n (2 + dp) (Nat.le_add_right _ _) _ _ ih.1 ih.2 p1 m hp1 r H
    · exact fun p1 p2 m hp1 hp2 r H => sb_X11_writesOptions l sc E R hE hR n (2 + dp) (Nat.le_add_right _ _) _ _ ih.1 ih.2 p1 p2 m hp1 hp2 r H
theorem s_X11_writesGame (l : Launch) (sc : g_S) (E : Mem → g_H) (R : Nat → Prop) (hE : LE E R) (hR : RRF R) (n : Nat) (p1 : Int) (hp1 : inR p1) (m : Mem) (r : Rz) (H : f_X11_writesGame n p1 m = some r) : AMet l sc yX11_writesGame cX11_writesGame 2 none 62 0 0 [.ref 100, iv p1] (E m) (pV E r) := (sa_X11_writesGame l sc E R hE hR n 60).1 p1 m hp1 r H
theorem s_X11_writesOptions (l : Launch) (sc : g_S) (E : Mem → g_H) (R : Nat → Prop) (hE : LE E R) (hR : RRF R) (n : Nat) (p1 : Int) (p2 : Int) (hp1 : inR p1) (hp2 : inR p2) (m : Mem) (r : Rz) (H : f_X11_writesOptions n p1 p2 m = some r) : AMet l sc yX11_writesOptions cX11_writesOptions 4 none 62 0 0 [.ref 100, iv p1, iv p2] (E m) (pV E r) := (sa_X11_writesGame l sc E R hE hR n 60).2 p1 p2 m hp1 hp2 r H
/-- X11 spells (I)V -/
def f_X11_spells (n : Nat) (p1 : Int) (mi : Mem) : Option Rz :=
  ptF mi 100 35 0 fun m2 =>
  cal (f_X11_writesGame n p1 m2) fun _ m7 =>
  rt 0 m7
set_option maxRecDepth 100000 in
set_option maxHeartbeats 4000000 in
theorem s_X11_spells (l : Launch) (sc : g_S) (E : Mem → g_H) (R : Nat → Prop) (hE : LE E R) (hR : RRF R) (n : Nat)  (p1 : Int) (hp1 : inR p1) (mi : Mem) (r : Rz) (H : f_X11_spells n p1 mi = some r) : AMet l sc yX11_spells cX11_spells 2 none 63 0 0 [.ref 100, iv p1] (E mi) (pV E r) := by
  have r100 : R 100 := hR 100 (Nat.le_of_ble_eq_true rfl) (Nat.le_of_ble_eq_true rfl)
  unfold f_X11_spells at H
  refine AMet.of (own := RX11) (by decide +kernel) rfl (Nat.le_of_ble_eq_true rfl) [(0, .ref 100), (1, iv p1)] rfl (fun D base ad => ?_)
  refine aw_aload_n (pc := 0) dX11_spells_0 rfl ?_
  refine cx_iconst (pc := 1) dX11_spells_1 ?_
  refine cx_ptF (pc := 2) tyX11 hE r100 fl_X11_224 (fun r h => ⟨gty_X11 r h, by cases h; rfl⟩) rfl rfl rfl (Nat.le_of_ble_eq_true rfl) dX11_spells_2 H (fun m2 H => ?_)
  refine aw_aload_n (pc := 5) dX11_spells_5 rfl ?_
  refine aw_iload_n (pc := 6) dX11_spells_6 rfl ?_
  refine cx_callV (pc := 7) (P := pV) (dC := 62) (mcC := 0) (msC := 0) [iv p1] hE r100 (fun r1 H1 => s_X11_writesGame l sc E R hE hR n p1 hp1 m2 r1 H1) ca_X11_230 rfl ⟨_, rfl, rfl⟩ rfl rfl (Nat.le_of_ble_eq_true rfl) (Nat.le_of_ble_eq_true rfl) (Nat.le_of_ble_eq_true rfl) (Nat.le_of_ble_eq_true rfl) dX11_spells_7 H (fun x7 m7 v7 hh7 H hp => ?_)
  refine cx_backV hp ?_
  exact cx_vret (pc := 10) rfl (Nat.le_of_ble_eq_true rfl) (Nat.le_of_ble_eq_true rfl) dX11_spells_10 H
/-- X11 isAhead (II)Z -/
def f_X11_isAhead (n : Nat) (p1 : Int) (p2 : Int) (mi : Mem) : Option Rz :=
  ldI mi 109 p1 fun x5 =>
  ldI mi 109 p2 fun x11 =>
  if x5 = x11 then (
    cal (f_X11_spells n p1 mi) fun _ m38 =>
    lp (F := Int → Mem → Option Rz) (fun _ _ => none) (fun w43 v3_43 m43 =>
      gtF m43 100 35 fun x45 =>
      if v3_43 < x45 then (
        ldI m43 127 v3_43 fun x61 =>
        stI m43 128 v3_43 x61 fun m62 =>
        w43 (w32 (v3_43 + 1)) m62
      ) else
      cal (f_X11_spells n p2 m43) fun _ m71 =>
      lp (F := Int → Mem → Option Rz) (fun _ _ => none) (fun w76 v3_76 m76 =>
        gtF m76 100 35 fun x78 =>
        jn (fun (m105 : Mem) =>
          gtF m105 100 35 fun x107 =>
          jn (fun (s0_133 : Int) (m133 : Mem) =>
            rtZ s0_133 m133
          ) fun (j133 : Int → Mem → Option Rz) =>
          jn (fun (m132 : Mem) =>
            j133 0 m132
          ) fun (j132 : Mem → Option Rz) =>
          if v3_76 < x107 then (
            ldI m105 128 v3_76 fun x118 =>
            ldI m105 127 v3_76 fun x124 =>
            if x118 < x124 then (
              j133 1 m105
            ) else
            j132 m105
          ) else
          j132 m105
        ) fun (j105 : Mem → Option Rz) =>
        if v3_76 < x78 then (
          ldI m76 128 v3_76 fun x89 =>
          ldI m76 127 v3_76 fun x95 =>
          if x89 = x95 then (
            w76 (w32 (v3_76 + 1)) m76
          ) else
          j105 m76
        ) else
        j105 m76
      ) n 0 m71
    ) n 0 m38
  ) else
  ldI mi 109 p1 fun x20 =>
  ldI mi 109 p2 fun x26 =>
  jn (fun (s0_35 : Int) (m35 : Mem) =>
    rtZ s0_35 m35
  ) fun (j35 : Int → Mem → Option Rz) =>
  if x20 < x26 then (
    j35 1 mi
  ) else
  j35 0 mi
set_option maxRecDepth 100000 in
set_option maxHeartbeats 4000000 in
theorem s_X11_isAhead (l : Launch) (sc : g_S) (E : Mem → g_H) (R : Nat → Prop) (hE : LE E R) (hR : RRF R) (n : Nat)  (p1 : Int) (p2 : Int) (hp1 : inR p1) (hp2 : inR p2) (mi : Mem) (r : Rz) (H : f_X11_isAhead n p1 p2 mi = some r) : AMet l sc yX11_isAhead cX11_isAhead 4 (some FieldType.boolean) 64 0 0 [.ref 100, iv p1, iv p2] (E mi) (pI E r) := by
  have r100 : R 100 := hR 100 (Nat.le_of_ble_eq_true rfl) (Nat.le_of_ble_eq_true rfl)
  have r109 : R 109 := hR 109 (Nat.le_of_ble_eq_true rfl) (Nat.le_of_ble_eq_true rfl)
  have r127 : R 127 := hR 127 (Nat.le_of_ble_eq_true rfl) (Nat.le_of_ble_eq_true rfl)
  have r128 : R 128 := hR 128 (Nat.le_of_ble_eq_true rfl) (Nat.le_of_ble_eq_true rfl)
  unfold f_X11_isAhead at H
  refine AMet.of (own := RX11) (by decide +kernel) rfl (Nat.le_of_ble_eq_true rfl) [(0, .ref 100), (1, iv p1), (2, iv p2)] rfl (fun D base ad => ?_)
  refine aw_aload_n (pc := 0) dX11_isAhead_0 rfl ?_
  refine cx_gtC (pc := 1) 109 hE r100 fl_X11_97 rfl rfl (Nat.le_of_ble_eq_true rfl) dX11_isAhead_1 ?_
  refine aw_iload_n (pc := 4) dX11_isAhead_4 rfl ?_
  refine cx_ldI (pc := 5) hE r109 hp1 dX11_isAhead_5 H (fun x5 hx5 H => ?_)
  refine aw_aload_n (pc := 6) dX11_isAhead_6 rfl ?_
  refine cx_gtC (pc := 7) 109 hE r100 fl_X11_97 rfl rfl (Nat.le_of_ble_eq_true rfl) dX11_isAhead_7 ?_
  refine aw_iload_n (pc := 10) dX11_isAhead_10 rfl ?_
  refine cx_ldI (pc := 11) hE r109 hp2 dX11_isAhead_11 H (fun x11 hx11 H => ?_)
  refine cx_icmp_eq (pc := 12) 36 hx5 hx11 dX11_isAhead_12 rfl H (fun H => ?_) (fun H => ?_)
  · -- 12: 36
    refine aw_aload_n (pc := 36) dX11_isAhead_36 rfl ?_
    refine aw_iload_n (pc := 37) dX11_isAhead_37 rfl ?_
    refine cx_callV (pc := 38) (P := pV) (dC := 63) (mcC := 0) (msC := 0) [iv p1] hE r100 (fun r1 H1 => s_X11_spells l sc E R hE hR n p1 hp1 mi r1 H1) ca_X11_240 rfl ⟨_, rfl, rfl⟩ rfl rfl (Nat.le_of_ble_eq_true rfl) (Nat.le_of_ble_eq_true rfl) (Nat.le_of_ble_eq_true rfl) (Nat.le_of_ble_eq_true rfl) dX11_isAhead_38 H (fun x38 m38 v38 hh38 H hp => ?_)
    refine cx_backV hp ?_
    refine cx_iconst (pc := 41) dX11_isAhead_41 ?_
    refine aw_istore_n (pc := 42) [(3, iv 0), (0, .ref 100), (1, iv p1), (2, iv p2)] dX11_isAhead_42 rfl (by decide) ?_
    refine AW.sel [1, 3, 0] rfl (lp_ind (bot := fun _ _ => none) (fun (f9 : Int → Mem → Option Rz) => ∀ (v3_43 : Int) (m43 : Mem), inR v3_43 → f9 v3_43 m43 = some r → AW l D base sc RX11 yX11_isAhead cX11_isAhead 4 (some FieldType.boolean) 64 0 0 ad (E mi) (pI E r) 0 0 (E m43) 43 [(0, .ref 100), (2, iv p2), (3, iv v3_43)] []) (fun _ _ _ h9 => nomatch h9) (fun w43 ih43 v3_43 m43 hv3_43 H => ?_) n _ _ (inR_lit _ rfl) H)
    refine aw_iload_n (pc := 43) dX11_isAhead_43 rfl ?_
    refine aw_aload_n (pc := 44) dX11_isAhead_44 rfl ?_
    refine cx_gtF (pc := 45) hE r100 fl_X11_224 rfl rfl (Nat.le_of_ble_eq_true rfl) dX11_isAhead_45 H (fun x45 hx45 H => ?_)
    refine cx_icmp_ge (pc := 48) 69 hv3_43 hx45 dX11_isAhead_48 rfl H (fun H => ?_) (fun H => ?_)
    · -- 48: 51
      refine aw_aload_n (pc := 51) dX11_isAhead_51 rfl ?_
      refine cx_gtC (pc := 52) 128 hE r100 fl_X11_243 rfl rfl (Nat.le_of_ble_eq_true rfl) dX11_isAhead_52 ?_
      refine aw_iload_n (pc := 55) dX11_isAhead_55 rfl ?_
      refine aw_aload_n (pc := 56) dX11_isAhead_56 rfl ?_
      refine cx_gtC (pc := 57) 127 hE r100 fl_X11_221 rfl rfl (Nat.le_of_ble_eq_true rfl) dX11_isAhead_57 ?_
      refine aw_iload_n (pc := 60) dX11_isAhead_60 rfl ?_
      refine cx_ldI (pc := 61) hE r127 hv3_43 dX11_isAhead_61 H (fun x61 hx61 H => ?_)
      refine cx_stI (pc := 62) hE r128 hv3_43 dX11_isAhead_62 H (fun m62 H => ?_)
      refine cx_iinc (pc := 63) [(3, iv (w32 (v3_43 + 1))), (0, .ref 100), (2, iv p2)] dX11_isAhead_63 rfl rfl (by decide) ?_
      refine aw_goto (pc := 66) 43 dX11_isAhead_66 rfl ?_
      exact AW.sel [1, 2, 0] rfl (ih43 _ _ (inR_w32 _) H)
    · -- 48: 69
      refine aw_aload_n (pc := 69) dX11_isAhead_69 rfl ?_
      refine aw_iload_n (pc := 70) dX11_isAhead_70 rfl ?_
      refine cx_callV (pc := 71) (P := pV) (dC := 63) (mcC := 0) (msC := 0) [iv p2] hE r100 (fun r1 H1 => s_X11_spells l sc E R hE hR n p2 hp2 m43 r1 H1) ca_X11_240 rfl ⟨_, rfl, rfl⟩ rfl rfl (Nat.le_of_ble_eq_true rfl) (Nat.le_of_ble_eq_true rfl) (Nat.le_of_ble_eq_true rfl) (Nat.le_of_ble_eq_true rfl) dX11_isAhead_71 H (fun x71 m71 v71 hh71 H hp => ?_)
      refine cx_backV hp ?_
      refine cx_iconst (pc := 74) dX11_isAhead_74 ?_
      refine aw_istore_n (pc := 75) [(3, iv 0), (0, .ref 100), (2, iv p2)] dX11_isAhead_75 rfl (by decide) ?_
      refine AW.sel [1, 0] rfl (lp_ind (bot := fun _ _ => none) (fun (f9 : Int → Mem → Option Rz) => ∀ (v3_76 : Int) (m76 : Mem), inR v3_76 → f9 v3_76 m76 = some r → AW l D base sc RX11 yX11_isAhead cX11_isAhead 4 (some FieldType.boolean) 64 0 0 ad (E mi) (pI E r) 0 0 (E m76) 76 [(0, .ref 100), (3, iv v3_76)] []) (fun _ _ _ h9 => nomatch h9) (fun w76 ih76 v3_76 m76 hv3_76 H => ?_) n _ _ (inR_lit _ rfl) H)
      refine aw_iload_n (pc := 76) dX11_isAhead_76 rfl ?_
      refine aw_aload_n (pc := 77) dX11_isAhead_77 rfl ?_
      refine cx_gtF (pc := 78) hE r100 fl_X11_224 rfl rfl (Nat.le_of_ble_eq_true rfl) dX11_isAhead_78 H (fun x78 hx78 H => ?_)
      refine jn_ind (fun (f9 : Mem → Option Rz) => ∀ (m105 : Mem), f9 m105 = some r → AW l D base sc RX11 yX11_isAhead cX11_isAhead 4 (some FieldType.boolean) 64 0 0 ad (E mi) (pI E r) 0 0 (E m105) 105 [(0, .ref 100), (3, iv v3_76)] []) (fun m105 H => ?_) (fun j105 hj105 H => ?_) H
      · -- 105
        refine aw_iload_n (pc := 105) dX11_isAhead_105 rfl ?_
        refine aw_aload_n (pc := 106) dX11_isAhead_106 rfl ?_
        refine cx_gtF (pc := 107) hE r100 fl_X11_224 rfl rfl (Nat.le_of_ble_eq_true rfl) dX11_isAhead_107 H (fun x107 hx107 H => ?_)
        refine jn_ind (fun (f9 : Int → Mem → Option Rz) => ∀ (s0_133 : Int) (m133 : Mem), inR s0_133 → f9 s0_133 m133 = some r → AW l D base sc RX11 yX11_isAhead cX11_isAhead 4 (some FieldType.boolean) 64 0 0 ad (E mi) (pI E r) 0 0 (E m133) 133 [] [iv s0_133]) (fun s0_133 m133 hs0_133 H => ?_) (fun j133 hj133 H => ?_) H
        · -- 133
          exact cx_zret (pc := 133) rfl (Nat.le_of_ble_eq_true rfl) (Nat.le_of_ble_eq_true rfl) dX11_isAhead_133 H
        refine jn_ind (fun (f9 : Mem → Option Rz) => ∀ (m132 : Mem), f9 m132 = some r → AW l D base sc RX11 yX11_isAhead cX11_isAhead 4 (some FieldType.boolean) 64 0 0 ad (E mi) (pI E r) 0 0 (E m132) 132 [] []) (fun m132 H => ?_) (fun j132 hj132 H => ?_) H
        · -- 132
          refine cx_iconst (pc := 132) dX11_isAhead_132 ?_
          exact AW.sel [] rfl (hj133 _ _ (inR_lit _ rfl) H)
        refine cx_icmp_ge (pc := 110) 132 hv3_76 hx107 dX11_isAhead_110 rfl H (fun H => ?_) (fun H => ?_)
        · -- 110: 113
          refine aw_aload_n (pc := 113) dX11_isAhead_113 rfl ?_
          refine cx_gtC (pc := 114) 128 hE r100 fl_X11_243 rfl rfl (Nat.le_of_ble_eq_true rfl) dX11_isAhead_114 ?_
          refine aw_iload_n (pc := 117) dX11_isAhead_117 rfl ?_
          refine cx_ldI (pc := 118) hE r128 hv3_76 dX11_isAhead_118 H (fun x118 hx118 H => ?_)
          refine aw_aload_n (pc := 119) dX11_isAhead_119 rfl ?_
          refine cx_gtC (pc := 120) 127 hE r100 fl_X11_221 rfl rfl (Nat.le_of_ble_eq_true rfl) dX11_isAhead_120 ?_
          refine aw_iload_n (pc := 123) dX11_isAhead_123 rfl ?_
          refine cx_ldI (pc := 124) hE r127 hv3_76 dX11_isAhead_124 H (fun x124 hx124 H => ?_)
          refine cx_icmp_ge (pc := 125) 132 hx118 hx124 dX11_isAhead_125 rfl H (fun H => ?_) (fun H => ?_)
          · -- 125: 128
            refine cx_iconst (pc := 128) dX11_isAhead_128 ?_
            refine aw_goto (pc := 129) 133 dX11_isAhead_129 rfl ?_
            exact AW.sel [] rfl (hj133 _ _ (inR_lit _ rfl) H)
          · -- 125: 132
            exact AW.sel [] rfl (hj132 _ H)
        · -- 110: 132
          exact AW.sel [] rfl (hj132 _ H)
      refine cx_icmp_ge (pc := 81) 105 hv3_76 hx78 dX11_isAhead_81 rfl H (fun H => ?_) (fun H => ?_)
      · -- 81: 84
        refine aw_aload_n (pc := 84) dX11_isAhead_84 rfl ?_
        refine cx_gtC (pc := 85) 128 hE r100 fl_X11_243 rfl rfl (Nat.le_of_ble_eq_true rfl) dX11_isAhead_85 ?_
        refine aw_iload_n (pc := 88) dX11_isAhead_88 rfl ?_
        refine cx_ldI (pc := 89) hE r128 hv3_76 dX11_isAhead_89 H (fun x89 hx89 H => ?_)
        refine aw_aload_n (pc := 90) dX11_isAhead_90 rfl ?_
        refine cx_gtC (pc := 91) 127 hE r100 fl_X11_221 rfl rfl (Nat.le_of_ble_eq_true rfl) dX11_isAhead_91 ?_
        refine aw_iload_n (pc := 94) dX11_isAhead_94 rfl ?_
        refine cx_ldI (pc := 95) hE r127 hv3_76 dX11_isAhead_95 H (fun x95 hx95 H => ?_)
        refine cx_icmp_ne (pc := 96) 105 hx89 hx95 dX11_isAhead_96 rfl H (fun H => ?_) (fun H => ?_)
        · -- 96: 99
          refine cx_iinc (pc := 99) [(3, iv (w32 (v3_76 + 1))), (0, .ref 100)] dX11_isAhead_99 rfl rfl (by decide) ?_
          refine aw_goto (pc := 102) 76 dX11_isAhead_102 rfl ?_
          exact AW.sel [1, 0] rfl (ih76 _ _ (inR_w32 _) H)
        · -- 96: 105
          exact AW.sel [0, 1] rfl (hj105 _ H)
      · -- 81: 105
        exact AW.sel [0, 1] rfl (hj105 _ H)
  · -- 12: 15
    refine aw_aload_n (pc := 15) dX11_isAhead_15 rfl ?_
    refine cx_gtC (pc := 16) 109 hE r100 fl_X11_97 rfl rfl (Nat.le_of_ble_eq_true rfl) dX11_isAhead_16 ?_
    refine aw_iload_n (pc := 19) dX11_isAhead_19 rfl ?_
    refine cx_ldI (pc := 20) hE r109 hp1 dX11_isAhead_20 H (fun x20 hx20 H => ?_)
    refine aw_aload_n (pc := 21) dX11_isAhead_21 rfl ?_
    refine cx_gtC (pc := 22) 109 hE r100 fl_X11_97 rfl rfl (Nat.le_of_ble_eq_true rfl) dX11_isAhead_22 ?_
    refine aw_iload_n (pc := 25) dX11_isAhead_25 rfl ?_
    refine cx_ldI (pc := 26) hE r109 hp2 dX11_isAhead_26 H (fun x26 hx26 H => ?_)
    refine jn_ind (fun (f9 : Int → Mem → Option Rz) => ∀ (s0_35 : Int) (m35 : Mem), inR s0_35 → f9 s0_35 m35 = some r → AW l D base sc RX11 yX11_isAhead cX11_isAhead 4 (some FieldType.boolean) 64 0 0 ad (E mi) (pI E r) 0 0 (E m35) 35 [] [iv s0_35]) (fun s0_35 m35 hs0_35 H => ?_) (fun j35 hj35 H => ?_) H
    · -- 35
      exact cx_zret (pc := 35) rfl (Nat.le_of_ble_eq_true rfl) (Nat.le_of_ble_eq_true rfl) dX11_isAhead_35 H
    refine cx_icmp_ge (pc := 27) 34 hx20 hx26 dX11_isAhead_27 rfl H (fun H => ?_) (fun H => ?_)
    · -- 27: 30
      refine cx_iconst (pc := 30) dX11_isAhead_30 ?_
      refine aw_goto (pc := 31) 35 dX11_isAhead_31 rfl ?_
      exact AW.sel [] rfl (hj35 _ _ (inR_lit _ rfl) H)
    · -- 27: 34
      refine cx_iconst (pc := 34) dX11_isAhead_34 ?_
      exact AW.sel [] rfl (hj35 _ _ (inR_lit _ rfl) H)
/-- X11 sortsRow ([III)V -/
def f_X11_sortsRow (n : Nat) (p1 : Nat) (p2 : Int) (p3 : Int) (mi : Mem) : Option Rz :=
  nm (w32 (p2 + 1)) fun z3 =>
  lp (F := Int → Mem → Option Rz) (fun _ _ => none) (fun w5 v4_5 m5 =>
    if v4_5 < p3 then (
      ldI m5 p1 v4_5 fun x14 =>
      lp (F := Int → Mem → Option Rz) (fun _ _ => none) (fun w21 v6_21 m21 =>
        jn (fun (m58 : Mem) =>
          stI m58 p1 v6_21 x14 fun m63 =>
          w5 (w32 (v4_5 + 1)) m63
        ) fun (j58 : Mem → Option Rz) =>
        if p2 < v6_21 then (
          ldI m21 p1 (w32 (v6_21 - 1)) fun x35 =>
          cal (f_X11_isAhead n x14 x35 m21) fun x36 m36 =>
          if x36 = 0 then (
            j58 m36
          ) else
          ldI m36 p1 (w32 (v6_21 - 1)) fun x50 =>
          stI m36 p1 v6_21 x50 fun m51 =>
          w21 (w32 (v6_21 + (-1))) m51
        ) else
        j58 m21
      ) n v4_5 m5
    ) else
    rt 0 m5
  ) n z3 mi
set_option maxRecDepth 100000 in
set_option maxHeartbeats 4000000 in
theorem s_X11_sortsRow (l : Launch) (sc : g_S) (E : Mem → g_H) (R : Nat → Prop) (hE : LE E R) (hR : RRF R) (n : Nat)  (p1 : Nat) (p2 : Int) (p3 : Int) (hp1 : R p1) (hp2 : inR p2) (hp3 : inR p3) (mi : Mem) (r : Rz) (H : f_X11_sortsRow n p1 p2 p3 mi = some r) : AMet l sc yX11_sortsRow cX11_sortsRow 7 none 65 0 0 [.ref 100, .ref p1, iv p2, iv p3] (E mi) (pV E r) := by
  have r100 : R 100 := hR 100 (Nat.le_of_ble_eq_true rfl) (Nat.le_of_ble_eq_true rfl)
  unfold f_X11_sortsRow at H
  refine AMet.of (own := RX11) (by decide +kernel) rfl (Nat.le_of_ble_eq_true rfl) [(0, .ref 100), (1, .ref p1), (2, iv p2), (3, iv p3)] rfl (fun D base ad => ?_)
  refine aw_iload_n (pc := 0) dX11_sortsRow_0 rfl ?_
  refine cx_iconst (pc := 1) dX11_sortsRow_1 ?_
  refine cx_iadd (pc := 2) dX11_sortsRow_2 ?_
  refine cx_nm (inR_w32 _) H (fun z3 hz3 H => ?_)
  refine aw_istore (pc := 3) [(4, iv z3), (0, .ref 100), (1, .ref p1), (2, iv p2), (3, iv p3)] dX11_sortsRow_3 rfl (by decide) ?_
  refine AW.sel [1, 2, 3, 4, 0] rfl (lp_ind (bot := fun _ _ => none) (fun (f9 : Int → Mem → Option Rz) => ∀ (v4_5 : Int) (m5 : Mem), inR v4_5 → f9 v4_5 m5 = some r → AW l D base sc RX11 yX11_sortsRow cX11_sortsRow 7 none 65 0 0 ad (E mi) (pV E r) 0 0 (E m5) 5 [(0, .ref 100), (1, .ref p1), (2, iv p2), (3, iv p3), (4, iv v4_5)] []) (fun _ _ _ h9 => nomatch h9) (fun w5 ih5 v4_5 m5 hv4_5 H => ?_) n _ _ hz3 H)
  refine aw_iload (pc := 5) dX11_sortsRow_5 rfl ?_
  refine aw_iload_n (pc := 7) dX11_sortsRow_7 rfl ?_
  refine cx_icmp_ge (pc := 8) 70 hv4_5 hp3 dX11_sortsRow_8 rfl H (fun H => ?_) (fun H => ?_)
  · -- 8: 11
    refine aw_aload_n (pc := 11) dX11_sortsRow_11 rfl ?_
    refine aw_iload (pc := 12) dX11_sortsRow_12 rfl ?_
    refine cx_ldI (pc := 14) hE hp1 hv4_5 dX11_sortsRow_14 H (fun x14 hx14 H => ?_)
    refine aw_istore (pc := 15) [(5, iv x14), (0, .ref 100), (1, .ref p1), (2, iv p2), (3, iv p3), (4, iv v4_5)] dX11_sortsRow_15 rfl (by decide) ?_
    refine aw_iload (pc := 17) dX11_sortsRow_17 rfl ?_
    refine aw_istore (pc := 19) [(6, iv v4_5), (5, iv x14), (0, .ref 100), (1, .ref p1), (2, iv p2), (3, iv p3), (4, iv v4_5)] dX11_sortsRow_19 rfl (by decide) ?_
    refine AW.sel [2, 3, 4, 5, 6, 1, 0] rfl (lp_ind (bot := fun _ _ => none) (fun (f9 : Int → Mem → Option Rz) => ∀ (v6_21 : Int) (m21 : Mem), inR v6_21 → f9 v6_21 m21 = some r → AW l D base sc RX11 yX11_sortsRow cX11_sortsRow 7 none 65 0 0 ad (E mi) (pV E r) 0 0 (E m21) 21 [(0, .ref 100), (1, .ref p1), (2, iv p2), (3, iv p3), (4, iv v4_5), (5, iv x14), (6, iv v6_21)] []) (fun _ _ _ h9 => nomatch h9) (fun w21 ih21 v6_21 m21 hv6_21 H => ?_) n _ _ hv4_5 H)
    refine aw_iload (pc := 21) dX11_sortsRow_21 rfl ?_
    refine aw_iload_n (pc := 23) dX11_sortsRow_23 rfl ?_
    refine jn_ind (fun (f9 : Mem → Option Rz) => ∀ (m58 : Mem), f9 m58 = some r → AW l D base sc RX11 yX11_sortsRow cX11_sortsRow 7 none 65 0 0 ad (E mi) (pV E r) 0 0 (E m58) 58 [(0, .ref 100), (1, .ref p1), (2, iv p2), (3, iv p3), (4, iv v4_5), (5, iv x14), (6, iv v6_21)] []) (fun m58 H => ?_) (fun j58 hj58 H => ?_) H
    · -- 58
      refine aw_aload_n (pc := 58) dX11_sortsRow_58 rfl ?_
      refine aw_iload (pc := 59) dX11_sortsRow_59 rfl ?_
      refine aw_iload (pc := 61) dX11_sortsRow_61 rfl ?_
      refine cx_stI (pc := 63) hE hp1 hv6_21 dX11_sortsRow_63 H (fun m63 H => ?_)
      refine cx_iinc (pc := 64) [(4, iv (w32 (v4_5 + 1))), (0, .ref 100), (1, .ref p1), (2, iv p2), (3, iv p3), (5, iv x14), (6, iv v6_21)] dX11_sortsRow_64 rfl rfl (by decide) ?_
      refine aw_goto (pc := 67) 5 dX11_sortsRow_67 rfl ?_
      exact AW.sel [1, 2, 3, 4, 0] rfl (ih5 _ _ (inR_w32 _) H)
    refine cx_icmp_le (pc := 24) 58 hv6_21 hp2 dX11_sortsRow_24 rfl H (fun H => ?_) (fun H => ?_)
    · -- 24: 27
      refine aw_aload_n (pc := 27) dX11_sortsRow_27 rfl ?_
      refine aw_iload (pc := 28) dX11_sortsRow_28 rfl ?_
      refine aw_aload_n (pc := 30) dX11_sortsRow_30 rfl ?_
      refine aw_iload (pc := 31) dX11_sortsRow_31 rfl ?_
      refine cx_iconst (pc := 33) dX11_sortsRow_33 ?_
      refine cx_isub (pc := 34) dX11_sortsRow_34 ?_
      refine cx_ldI (pc := 35) hE hp1 (inR_w32 _) dX11_sortsRow_35 H (fun x35 hx35 H => ?_)
      refine cx_callV (pc := 36) (P := pI) (dC := 64) (mcC := 0) (msC := 0) [iv x14, iv x35] hE r100 (fun r1 H1 => s_X11_isAhead l sc E R hE hR n x14 x35 hx14 hx35 m21 r1 H1) ca_X11_246 rfl ⟨_, rfl, rfl⟩ rfl rfl (Nat.le_of_ble_eq_true rfl) (Nat.le_of_ble_eq_true rfl) (Nat.le_of_ble_eq_true rfl) (Nat.le_of_ble_eq_true rfl) dX11_sortsRow_36 H (fun x36 m36 v36 hh36 H hp => ?_)
      refine cx_backI hp (fun hx36 => ?_)
      refine cx_if_eq (pc := 39) 58 hx36 dX11_sortsRow_39 rfl H (fun H => ?_) (fun H => ?_)
      · -- 39: 58
        exact AW.sel [0, 1, 2, 3, 4, 5, 6] rfl (hj58 _ H)
      · -- 39: 42
        refine aw_aload_n (pc := 42) dX11_sortsRow_42 rfl ?_
        refine aw_iload (pc := 43) dX11_sortsRow_43 rfl ?_
        refine aw_aload_n (pc := 45) dX11_sortsRow_45 rfl ?_
        refine aw_iload (pc := 46) dX11_sortsRow_46 rfl ?_
        refine cx_iconst (pc := 48) dX11_sortsRow_48 ?_
        refine cx_isub (pc := 49) dX11_sortsRow_49 ?_
        refine cx_ldI (pc := 50) hE hp1 (inR_w32 _) dX11_sortsRow_50 H (fun x50 hx50 H => ?_)
        refine cx_stI (pc := 51) hE hp1 hv6_21 dX11_sortsRow_51 H (fun m51 H => ?_)
        refine cx_iinc (pc := 52) [(6, iv (w32 (v6_21 + (-1)))), (0, .ref 100), (1, .ref p1), (2, iv p2), (3, iv p3), (4, iv v4_5), (5, iv x14)] dX11_sortsRow_52 rfl rfl (by decide) ?_
        refine aw_goto (pc := 55) 21 dX11_sortsRow_55 rfl ?_
        exact AW.sel [1, 2, 3, 4, 5, 6, 0] rfl (ih21 _ _ (inR_w32 _) H)
    · -- 24: 58
      exact AW.sel [0, 1, 2, 3, 4, 5, 6] rfl (hj58 _ H)
  · -- 8: 70
    exact cx_vret (pc := 70) rfl (Nat.le_of_ble_eq_true rfl) (Nat.le_of_ble_eq_true rfl) dX11_sortsRow_70 H
/-- X11 sorts (I)V -/
def b_X11_sorts (n : Nat) (g_X11_sorts : (Int → Mem → Option Rz)) (p1 : Int) (mi : Mem) : Option Rz :=
  ldZ mi 111 p1 fun x5 =>
  if x5 = 0 then (
    ldI mi 103 p1 fun x15 =>
    lp (F := Int → Mem → Option Rz) (fun _ _ => none) (fun w17 v2_17 m17 =>
      ldI m17 105 p1 fun x23 =>
      if v2_17 < x23 then (
        ldI m17 102 v2_17 fun x33 =>
        cal (g_X11_sorts x33 m17) fun _ m34 =>
        w17 (w32 (v2_17 + 1)) m34
      ) else
      ldI m17 103 p1 fun x53 =>
      ldI m17 104 p1 fun x59 =>
      cal (f_X11_sortsRow n 102 x53 x59 m17) fun _ m60 =>
      ldI m60 104 p1 fun x73 =>
      ldI m60 105 p1 fun x79 =>
      cal (f_X11_sortsRow n 102 x73 x79 m60) fun _ m80 =>
      stZ m80 111 p1 1 fun m89 =>
      rt 0 m89
    ) n x15 mi
  ) else
  rt 0 mi
def t_X11_sorts (n : Nat) : Nat → (Int → Mem → Option Rz)
  | 0 => (fun _ _ => none)
  | d + 1 => (b_X11_sorts n (t_X11_sorts n d))
def h_X11_sorts (n d : Nat) : (Int → Mem → Option Rz) := (t_X11_sorts n d)
def f_X11_sorts (n : Nat) : (Int → Mem → Option Rz) := h_X11_sorts n 60
theorem h_X11_sorts_s (n d : Nat) (p1 : Int) (m : Mem) : h_X11_sorts n (d + 1) p1 m = b_X11_sorts n (h_X11_sorts n d) p1 m := rfl
theorem h_X11_sorts_0 (n : Nat) (p1 : Int) (m : Mem) : h_X11_sorts n 0 p1 m = none := rfl
def q_X11_sorts (l : Launch) (sc : g_S) (E : Mem → g_H) (R : Nat → Prop) (dd : Nat) (g : (Int → Mem → Option Rz)) : Prop := ∀ (p1 : Int) (m : Mem) (hp1 : inR p1) (r : Rz) (H : g p1 m = some r), AMet l sc yX11_sorts cX11_sorts 3 none dd 0 0 [.ref 100, iv p1] (E m) (pV E r)
set_option maxRecDepth 100000 in
set_option maxHeartbeats 4000000 in
theorem sb_X11_sorts (l : Launch) (sc : g_S) (E : Mem → g_H) (R : Nat → Prop) (hE : LE E R) (hR : RRF R) (n : Nat) (dd : Nat) (hdd : 66 ≤ dd) (g_X11_sorts : (Int → Mem → Option Rz)) (hg_X11_sorts : q_X11_sorts l sc E R dd g_X11_sorts) (p1 : Int) (mi : Mem) (hp1 : inR p1) (r : Rz) (H : b_X11_sorts n g_X11_sorts p1 mi = some r) : AMet l sc yX11_sorts cX11_sorts 3 none (dd + 1) 0 0 [.ref 100, iv p1] (E mi) (pV E r) := by
  have r100 : R 100 := hR 100 (Nat.le_of_ble_eq_true rfl) (Nat.le_of_ble_eq_true rfl)
  have r102 : R 102 := hR 102 (Nat.le_of_ble_eq_true rfl) (Nat.le_of_ble_eq_true rfl)
  have r103 : R 103 := hR 103 (Nat.le_of_ble_eq_true rfl) (Nat.le_of_ble_eq_true rfl)
  have r104 : R 104 := hR 104 (Nat.le_of_ble_eq_true rfl) (Nat.le_of_ble_eq_true rfl)
  have r105 : R 105 := hR 105 (Nat.le_of_ble_eq_true rfl) (Nat.le_of_ble_eq_true rfl)
  have r111 : R 111 := hR 111 (Nat.le_of_ble_eq_true rfl) (Nat.le_of_ble_eq_true rfl)
  unfold b_X11_sorts at H
  refine AMet.of (own := RX11) (by decide +kernel) rfl (Nat.le_of_ble_eq_true rfl) [(0, .ref 100), (1, iv p1)] rfl (fun D base ad => ?_)
  refine aw_aload_n (pc := 0) dX11_sorts_0 rfl ?_
  refine cx_gtC (pc := 1) 111 hE r100 fl_X11_71 rfl rfl (Nat.le_of_ble_eq_true rfl) dX11_sorts_1 ?_
  refine aw_iload_n (pc := 4) dX11_sorts_4 rfl ?_
  refine cx_ldZ (pc := 5) hE r111 hp1 dX11_sorts_5 H (fun x5 hx5 H => ?_)
  refine cx_if_eq (pc := 6) 10 hx5 dX11_sorts_6 rfl H (fun H => ?_) (fun H => ?_)
  · -- 6: 10
    refine aw_aload_n (pc := 10) dX11_sorts_10 rfl ?_
    refine cx_gtC (pc := 11) 103 hE r100 fl_X11_29 rfl rfl (Nat.le_of_ble_eq_true rfl) dX11_sorts_11 ?_
    refine aw_iload_n (pc := 14) dX11_sorts_14 rfl ?_
    refine cx_ldI (pc := 15) hE r103 hp1 dX11_sorts_15 H (fun x15 hx15 H => ?_)
    refine aw_istore_n (pc := 16) [(2, iv x15), (0, .ref 100), (1, iv p1)] dX11_sorts_16 rfl (by decide) ?_
    refine AW.sel [1, 2, 0] rfl (lp_ind (bot := fun _ _ => none) (fun (f9 : Int → Mem → Option Rz) => ∀ (v2_17 : Int) (m17 : Mem), inR v2_17 → f9 v2_17 m17 = some r → AW l D base sc RX11 yX11_sorts cX11_sorts 3 none (dd + 1) 0 0 ad (E mi) (pV E r) 0 0 (E m17) 17 [(0, .ref 100), (1, iv p1), (2, iv v2_17)] []) (fun _ _ _ h9 => nomatch h9) (fun w17 ih17 v2_17 m17 hv2_17 H => ?_) n _ _ hx15 H)
    refine aw_iload_n (pc := 17) dX11_sorts_17 rfl ?_
    refine aw_aload_n (pc := 18) dX11_sorts_18 rfl ?_
    refine cx_gtC (pc := 19) 105 hE r100 fl_X11_32 rfl rfl (Nat.le_of_ble_eq_true rfl) dX11_sorts_19 ?_
    refine aw_iload_n (pc := 22) dX11_sorts_22 rfl ?_
    refine cx_ldI (pc := 23) hE r105 hp1 dX11_sorts_23 H (fun x23 hx23 H => ?_)
    refine cx_icmp_ge (pc := 24) 43 hv2_17 hx23 dX11_sorts_24 rfl H (fun H => ?_) (fun H => ?_)
    · -- 24: 27
      refine aw_aload_n (pc := 27) dX11_sorts_27 rfl ?_
      refine aw_aload_n (pc := 28) dX11_sorts_28 rfl ?_
      refine cx_gtC (pc := 29) 102 hE r100 fl_X11_35 rfl rfl (Nat.le_of_ble_eq_true rfl) dX11_sorts_29 ?_
      refine aw_iload_n (pc := 32) dX11_sorts_32 rfl ?_
      refine cx_ldI (pc := 33) hE r102 hv2_17 dX11_sorts_33 H (fun x33 hx33 H => ?_)
      refine cx_callV (pc := 34) (P := pV) (dC := dd) (mcC := 0) (msC := 0) [iv x33] hE r100 (fun r1 H1 => hg_X11_sorts x33 m17 hx33 r1 H1) ca_X11_249 rfl ⟨_, rfl, rfl⟩ rfl rfl (by omega) (Nat.le_of_ble_eq_true rfl) (Nat.le_of_ble_eq_true rfl) (Nat.le_of_ble_eq_true rfl) dX11_sorts_34 H (fun x34 m34 v34 hh34 H hp => ?_)
      refine cx_backV hp ?_
      refine cx_iinc (pc := 37) [(2, iv (w32 (v2_17 + 1))), (0, .ref 100), (1, iv p1)] dX11_sorts_37 rfl rfl (by decide) ?_
      refine aw_goto (pc := 40) 17 dX11_sorts_40 rfl ?_
      exact AW.sel [1, 2, 0] rfl (ih17 _ _ (inR_w32 _) H)
    · -- 24: 43
      refine aw_aload_n (pc := 43) dX11_sorts_43 rfl ?_
      refine aw_aload_n (pc := 44) dX11_sorts_44 rfl ?_
      refine cx_gtC (pc := 45) 102 hE r100 fl_X11_35 rfl rfl (Nat.le_of_ble_eq_true rfl) dX11_sorts_45 ?_
      refine aw_aload_n (pc := 48) dX11_sorts_48 rfl ?_
      refine cx_gtC (pc := 49) 103 hE r100 fl_X11_29 rfl rfl (Nat.le_of_ble_eq_true rfl) dX11_sorts_49 ?_
      refine aw_iload_n (pc := 52) dX11_sorts_52 rfl ?_
      refine cx_ldI (pc := 53) hE r103 hp1 dX11_sorts_53 H (fun x53 hx53 H => ?_)
      refine aw_aload_n (pc := 54) dX11_sorts_54 rfl ?_
      refine cx_gtC (pc := 55) 104 hE r100 fl_X11_26 rfl rfl (Nat.le_of_ble_eq_true rfl) dX11_sorts_55 ?_
      refine aw_iload_n (pc := 58) dX11_sorts_58 rfl ?_
      refine cx_ldI (pc := 59) hE r104 hp1 dX11_sorts_59 H (fun x59 hx59 H => ?_)
      refine cx_callV (pc := 60) (P := pV) (dC := 65) (mcC := 0) (msC := 0) [.ref 102, iv x53, iv x59] hE r100 (fun r1 H1 => s_X11_sortsRow l sc E R hE hR n 102 x53 x59 r102 hx53 hx59 m17 r1 H1) ca_X11_252 rfl ⟨_, rfl, rfl⟩ rfl rfl (by omega) (Nat.le_of_ble_eq_true rfl) (Nat.le_of_ble_eq_true rfl) (Nat.le_of_ble_eq_true rfl) dX11_sorts_60 H (fun x60 m60 v60 hh60 H hp => ?_)
      refine cx_backV hp ?_
      refine aw_aload_n (pc := 63) dX11_sorts_63 rfl ?_
      refine aw_aload_n (pc := 64) dX11_sorts_64 rfl ?_
      refine cx_gtC (pc := 65) 102 hE r100 fl_X11_35 rfl rfl (Nat.le_of_ble_eq_true rfl) dX11_sorts_65 ?_
      refine aw_aload_n (pc := 68) dX11_sorts_68 rfl ?_
      refine cx_gtC (pc := 69) 104 hE r100 fl_X11_26 rfl rfl (Nat.le_of_ble_eq_true rfl) dX11_sorts_69 ?_
      refine aw_iload_n (pc := 72) dX11_sorts_72 rfl ?_
      refine cx_ldI (pc := 73) hE r104 hp1 dX11_sorts_73 H (fun x73 hx73 H => ?_)
      refine aw_aload_n (pc := 74) dX11_sorts_74 rfl ?_
      refine cx_gtC (pc := 75) 105 hE r100 fl_X11_32 rfl rfl (Nat.le_of_ble_eq_true rfl) dX11_sorts_75 ?_
      refine aw_iload_n (pc := 78) dX11_sorts_78 rfl ?_
      refine cx_ldI (pc := 79) hE r105 hp1 dX11_sorts_79 H (fun x79 hx79 H => ?_)
      refine cx_callV (pc := 80) (P := pV) (dC := 65) (mcC := 0) (msC := 0) [.ref 102, iv x73, iv x79] hE r100 (fun r1 H1 => s_X11_sortsRow l sc E R hE hR n 102 x73 x79 r102 hx73 hx79 m60 r1 H1) ca_X11_252 rfl ⟨_, rfl, rfl⟩ rfl rfl (by omega) (Nat.le_of_ble_eq_true rfl) (Nat.le_of_ble_eq_true rfl) (Nat.le_of_ble_eq_true rfl) dX11_sorts_80 H (fun x80 m80 v80 hh80 H hp => ?_)
      refine cx_backV hp ?_
      refine aw_aload_n (pc := 83) dX11_sorts_83 rfl ?_
      refine cx_gtC (pc := 84) 111 hE r100 fl_X11_71 rfl rfl (Nat.le_of_ble_eq_true rfl) dX11_sorts_84 ?_
      refine aw_iload_n (pc := 87) dX11_sorts_87 rfl ?_
      refine cx_iconst (pc := 88) dX11_sorts_88 ?_
      refine cx_stZ (pc := 89) hE r111 hp1 dX11_sorts_89 H (fun m89 H => ?_)
      exact cx_vret (pc := 90) rfl (Nat.le_of_ble_eq_true rfl) (Nat.le_of_ble_eq_true rfl) dX11_sorts_90 H
  · -- 6: 9
    exact cx_vret (pc := 9) rfl (Nat.le_of_ble_eq_true rfl) (Nat.le_of_ble_eq_true rfl) dX11_sorts_9 H
theorem sa_X11_sorts (l : Launch) (sc : g_S) (E : Mem → g_H) (R : Nat → Prop) (hE : LE E R) (hR : RRF R) (n : Nat) : ∀ dp, q_X11_sorts l sc E R (66 + dp) (h_X11_sorts n dp)
  | 0 => fun _ _ _ _ H => nomatch H
  | dp + 1 => by
    have ih := sa_X11_sorts l sc E R hE hR n dp
    · exact fun p1 m hp1 r H => sb_X11_sorts l sc E R hE hR n (66 + dp) (Nat.le_add_right _ _) _ ih p1 m hp1 r H
theorem s_X11_sorts (l : Launch) (sc : g_S) (E : Mem → g_H) (R : Nat → Prop) (hE : LE E R) (hR : RRF R) (n : Nat) (p1 : Int) (hp1 : inR p1) (m : Mem) (r : Rz) (H : f_X11_sorts n p1 m = some r) : AMet l sc yX11_sorts cX11_sorts 3 none 126 0 0 [.ref 100, iv p1] (E m) (pV E r) := (sa_X11_sorts l sc E R hE hR n 60) p1 m hp1 r H
/-- X11 optionMany (II)I -/
def f_X11_optionMany (n : Nat) (p1 : Int) (p2 : Int) (mi : Mem) : Option Rz :=
  jn (fun (s0_33 : Int) (m33 : Mem) =>
    rt s0_33 m33
  ) fun (j33 : Int → Mem → Option Rz) =>
  if p2 = 0 then (
    ldI mi 104 p1 fun x9 =>
    ldI mi 103 p1 fun x15 =>
    j33 (w32 (x9 - x15)) mi
  ) else
  ldI mi 105 p1 fun x25 =>
  ldI mi 104 p1 fun x31 =>
  j33 (w32 (x25 - x31)) mi
set_option maxRecDepth 100000 in
set_option maxHeartbeats 4000000 in
theorem s_X11_optionMany (l : Launch) (sc : g_S) (E : Mem → g_H) (R : Nat → Prop) (hE : LE E R) (hR : RRF R) (n : Nat)  (p1 : Int) (p2 : Int) (hp1 : inR p1) (hp2 : inR p2) (mi : Mem) (r : Rz) (H : f_X11_optionMany n p1 p2 mi = some r) : AMet l sc yX11_optionMany cX11_optionMany 3 (some FieldType.int) 0 0 0 [.ref 100, iv p1, iv p2] (E mi) (pI E r) := by
  have r100 : R 100 := hR 100 (Nat.le_of_ble_eq_true rfl) (Nat.le_of_ble_eq_true rfl)
  have r103 : R 103 := hR 103 (Nat.le_of_ble_eq_true rfl) (Nat.le_of_ble_eq_true rfl)
  have r104 : R 104 := hR 104 (Nat.le_of_ble_eq_true rfl) (Nat.le_of_ble_eq_true rfl)
  have r105 : R 105 := hR 105 (Nat.le_of_ble_eq_true rfl) (Nat.le_of_ble_eq_true rfl)
  unfold f_X11_optionMany at H
  refine AMet.of (own := RX11) (by decide +kernel) rfl (Nat.le_of_ble_eq_true rfl) [(0, .ref 100), (1, iv p1), (2, iv p2)] rfl (fun D base ad => ?_)
  refine aw_iload_n (pc := 0) dX11_optionMany_0 rfl ?_
  refine jn_ind (fun (f9 : Int → Mem → Option Rz) => ∀ (s0_33 : Int) (m33 : Mem), inR s0_33 → f9 s0_33 m33 = some r → AW l D base sc RX11 yX11_optionMany cX11_optionMany 3 (some FieldType.int) 0 0 0 ad (E mi) (pI E r) 0 0 (E m33) 33 [] [iv s0_33]) (fun s0_33 m33 hs0_33 H => ?_) (fun j33 hj33 H => ?_) H
  · -- 33
    exact cx_iret (pc := 33) hs0_33 rfl (Nat.le_of_ble_eq_true rfl) (Nat.le_of_ble_eq_true rfl) dX11_optionMany_33 H
  refine cx_if_ne (pc := 1) 20 hp2 dX11_optionMany_1 rfl H (fun H => ?_) (fun H => ?_)
  · -- 1: 4
    refine aw_aload_n (pc := 4) dX11_optionMany_4 rfl ?_
    refine cx_gtC (pc := 5) 104 hE r100 fl_X11_26 rfl rfl (Nat.le_of_ble_eq_true rfl) dX11_optionMany_5 ?_
    refine aw_iload_n (pc := 8) dX11_optionMany_8 rfl ?_
    refine cx_ldI (pc := 9) hE r104 hp1 dX11_optionMany_9 H (fun x9 hx9 H => ?_)
    refine aw_aload_n (pc := 10) dX11_optionMany_10 rfl ?_
    refine cx_gtC (pc := 11) 103 hE r100 fl_X11_29 rfl rfl (Nat.le_of_ble_eq_true rfl) dX11_optionMany_11 ?_
    refine aw_iload_n (pc := 14) dX11_optionMany_14 rfl ?_
    refine cx_ldI (pc := 15) hE r103 hp1 dX11_optionMany_15 H (fun x15 hx15 H => ?_)
    refine cx_isub (pc := 16) dX11_optionMany_16 ?_
    refine aw_goto (pc := 17) 33 dX11_optionMany_17 rfl ?_
    exact AW.sel [] rfl (hj33 _ _ (inR_w32 _) H)
  · -- 1: 20
    refine aw_aload_n (pc := 20) dX11_optionMany_20 rfl ?_
    refine cx_gtC (pc := 21) 105 hE r100 fl_X11_32 rfl rfl (Nat.le_of_ble_eq_true rfl) dX11_optionMany_21 ?_
    refine aw_iload_n (pc := 24) dX11_optionMany_24 rfl ?_
    refine cx_ldI (pc := 25) hE r105 hp1 dX11_optionMany_25 H (fun x25 hx25 H => ?_)
    refine aw_aload_n (pc := 26) dX11_optionMany_26 rfl ?_
    refine cx_gtC (pc := 27) 104 hE r100 fl_X11_26 rfl rfl (Nat.le_of_ble_eq_true rfl) dX11_optionMany_27 ?_
    refine aw_iload_n (pc := 30) dX11_optionMany_30 rfl ?_
    refine cx_ldI (pc := 31) hE r104 hp1 dX11_optionMany_31 H (fun x31 hx31 H => ?_)
    refine cx_isub (pc := 32) dX11_optionMany_32 ?_
    exact AW.sel [] rfl (hj33 _ _ (inR_w32 _) H)
/-- X11 optionOf (III)I -/
def f_X11_optionOf (n : Nat) (p1 : Int) (p2 : Int) (p3 : Int) (mi : Mem) : Option Rz :=
  cal (f_X11_sorts n p1 mi) fun _ m2 =>
  jn (fun (s0_28 : Int) (m28 : Mem) =>
    ldI m28 102 (w32 (s0_28 + p3)) fun x30 =>
    rt x30 m28
  ) fun (j28 : Int → Mem → Option Rz) =>
  if p2 = 0 then (
    ldI m2 103 p1 fun x18 =>
    j28 x18 m2
  ) else
  ldI m2 104 p1 fun x27 =>
  j28 x27 m2
set_option maxRecDepth 100000 in
set_option maxHeartbeats 4000000 in
theorem s_X11_optionOf (l : Launch) (sc : g_S) (E : Mem → g_H) (R : Nat → Prop) (hE : LE E R) (hR : RRF R) (n : Nat)  (p1 : Int) (p2 : Int) (p3 : Int) (hp1 : inR p1) (hp2 : inR p2) (hp3 : inR p3) (mi : Mem) (r : Rz) (H : f_X11_optionOf n p1 p2 p3 mi = some r) : AMet l sc yX11_optionOf cX11_optionOf 4 (some FieldType.int) 127 0 0 [.ref 100, iv p1, iv p2, iv p3] (E mi) (pI E r) := by
  have r100 : R 100 := hR 100 (Nat.le_of_ble_eq_true rfl) (Nat.le_of_ble_eq_true rfl)
  have r102 : R 102 := hR 102 (Nat.le_of_ble_eq_true rfl) (Nat.le_of_ble_eq_true rfl)
  have r103 : R 103 := hR 103 (Nat.le_of_ble_eq_true rfl) (Nat.le_of_ble_eq_true rfl)
  have r104 : R 104 := hR 104 (Nat.le_of_ble_eq_true rfl) (Nat.le_of_ble_eq_true rfl)
  unfold f_X11_optionOf at H
  refine AMet.of (own := RX11) (by decide +kernel) rfl (Nat.le_of_ble_eq_true rfl) [(0, .ref 100), (1, iv p1), (2, iv p2), (3, iv p3)] rfl (fun D base ad => ?_)
  refine aw_aload_n (pc := 0) dX11_optionOf_0 rfl ?_
  refine aw_iload_n (pc := 1) dX11_optionOf_1 rfl ?_
  refine cx_callV (pc := 2) (P := pV) (dC := 126) (mcC := 0) (msC := 0) [iv p1] hE r100 (fun r1 H1 => s_X11_sorts l sc E R hE hR n p1 hp1 mi r1 H1) ca_X11_249 rfl ⟨_, rfl, rfl⟩ rfl rfl (Nat.le_of_ble_eq_true rfl) (Nat.le_of_ble_eq_true rfl) (Nat.le_of_ble_eq_true rfl) (Nat.le_of_ble_eq_true rfl) dX11_optionOf_2 H (fun x2 m2 v2 hh2 H hp => ?_)
  refine cx_backV hp ?_
  refine aw_aload_n (pc := 5) dX11_optionOf_5 rfl ?_
  refine cx_gtC (pc := 6) 102 hE r100 fl_X11_35 rfl rfl (Nat.le_of_ble_eq_true rfl) dX11_optionOf_6 ?_
  refine aw_iload_n (pc := 9) dX11_optionOf_9 rfl ?_
  refine jn_ind (fun (f9 : Int → Mem → Option Rz) => ∀ (s0_28 : Int) (m28 : Mem), inR s0_28 → f9 s0_28 m28 = some r → AW l D base sc RX11 yX11_optionOf cX11_optionOf 4 (some FieldType.int) 127 0 0 ad (E mi) (pI E r) 0 0 (E m28) 28 [(3, iv p3)] [iv s0_28, .ref 102]) (fun s0_28 m28 hs0_28 H => ?_) (fun j28 hj28 H => ?_) H
  · -- 28
    refine aw_iload_n (pc := 28) dX11_optionOf_28 rfl ?_
    refine cx_iadd (pc := 29) dX11_optionOf_29 ?_
    refine cx_ldI (pc := 30) hE r102 (inR_w32 _) dX11_optionOf_30 H (fun x30 hx30 H => ?_)
    exact cx_iret (pc := 31) hx30 rfl (Nat.le_of_ble_eq_true rfl) (Nat.le_of_ble_eq_true rfl) dX11_optionOf_31 H
  refine cx_if_ne (pc := 10) 22 hp2 dX11_optionOf_10 rfl H (fun H => ?_) (fun H => ?_)
  · -- 10: 13
    refine aw_aload_n (pc := 13) dX11_optionOf_13 rfl ?_
    refine cx_gtC (pc := 14) 103 hE r100 fl_X11_29 rfl rfl (Nat.le_of_ble_eq_true rfl) dX11_optionOf_14 ?_
    refine aw_iload_n (pc := 17) dX11_optionOf_17 rfl ?_
    refine cx_ldI (pc := 18) hE r103 hp1 dX11_optionOf_18 H (fun x18 hx18 H => ?_)
    refine aw_goto (pc := 19) 28 dX11_optionOf_19 rfl ?_
    exact AW.sel [3] rfl (hj28 _ _ hx18 H)
  · -- 10: 22
    refine aw_aload_n (pc := 22) dX11_optionOf_22 rfl ?_
    refine cx_gtC (pc := 23) 104 hE r100 fl_X11_26 rfl rfl (Nat.le_of_ble_eq_true rfl) dX11_optionOf_23 ?_
    refine aw_iload_n (pc := 26) dX11_optionOf_26 rfl ?_
    refine cx_ldI (pc := 27) hE r104 hp1 dX11_optionOf_27 H (fun x27 hx27 H => ?_)
    exact AW.sel [3] rfl (hj28 _ _ hx27 H)
/-- X11 isSlot (I)Z -/
def f_X11_isSlot (n : Nat) (p0 : Int) (mi : Mem) : Option Rz :=
  cal (f_X11_in n p0 0 7 mi) fun x4 m4 =>
  rtZ x4 m4
set_option maxRecDepth 100000 in
set_option maxHeartbeats 4000000 in
theorem s_X11_isSlot (l : Launch) (sc : g_S) (E : Mem → g_H) (R : Nat → Prop) (hE : LE E R) (hR : RRF R) (n : Nat)  (p0 : Int) (hp0 : inR p0) (mi : Mem) (r : Rz) (H : f_X11_isSlot n p0 mi = some r) : AMet l sc yX11_isSlot cX11_isSlot 1 (some FieldType.boolean) 1 0 0 [iv p0] (E mi) (pI E r) := by
  unfold f_X11_isSlot at H
  refine AMet.of (own := RX11) (by decide +kernel) rfl (Nat.le_of_ble_eq_true rfl) [(0, iv p0)] rfl (fun D base ad => ?_)
  refine aw_iload_n (pc := 0) dX11_isSlot_0 rfl ?_
  refine cx_iconst (pc := 1) dX11_isSlot_1 ?_
  refine cx_bipush (pc := 2) dX11_isSlot_2 (by decide) ?_
  refine cx_callS (pc := 4) (P := pI) (dC := 0) (mcC := 0) (msC := 0) [iv p0, iv 0, iv 7] (fun r1 H1 => s_X11_in l sc E R hE hR n p0 0 7 hp0 (inR_lit _ rfl) (inR_lit _ rfl) mi r1 H1) ca_X11_106 rfl rfl (Nat.le_of_ble_eq_true rfl) (Nat.le_of_ble_eq_true rfl) (Nat.le_of_ble_eq_true rfl) (Nat.le_of_ble_eq_true rfl) dX11_isSlot_4 H (fun x4 m4 v4 hh4 H hp => ?_)
  refine cx_backI hp (fun hx4 => ?_)
  exact cx_zret (pc := 7) rfl (Nat.le_of_ble_eq_true rfl) (Nat.le_of_ble_eq_true rfl) dX11_isSlot_7 H
/-- X11 isWho (I)Z -/
def f_X11_isWho (n : Nat) (p0 : Int) (mi : Mem) : Option Rz :=
  cal (f_X11_in n p0 0 1 mi) fun x3 m3 =>
  rtZ x3 m3
set_option maxRecDepth 100000 in
set_option maxHeartbeats 4000000 in
theorem s_X11_isWho (l : Launch) (sc : g_S) (E : Mem → g_H) (R : Nat → Prop) (hE : LE E R) (hR : RRF R) (n : Nat)  (p0 : Int) (hp0 : inR p0) (mi : Mem) (r : Rz) (H : f_X11_isWho n p0 mi = some r) : AMet l sc yX11_isWho cX11_isWho 1 (some FieldType.boolean) 1 0 0 [iv p0] (E mi) (pI E r) := by
  unfold f_X11_isWho at H
  refine AMet.of (own := RX11) (by decide +kernel) rfl (Nat.le_of_ble_eq_true rfl) [(0, iv p0)] rfl (fun D base ad => ?_)
  refine aw_iload_n (pc := 0) dX11_isWho_0 rfl ?_
  refine cx_iconst (pc := 1) dX11_isWho_1 ?_
  refine cx_iconst (pc := 2) dX11_isWho_2 ?_
  refine cx_callS (pc := 3) (P := pI) (dC := 0) (mcC := 0) (msC := 0) [iv p0, iv 0, iv 1] (fun r1 H1 => s_X11_in l sc E R hE hR n p0 0 1 hp0 (inR_lit _ rfl) (inR_lit _ rfl) mi r1 H1) ca_X11_106 rfl rfl (Nat.le_of_ble_eq_true rfl) (Nat.le_of_ble_eq_true rfl) (Nat.le_of_ble_eq_true rfl) (Nat.le_of_ble_eq_true rfl) dX11_isWho_3 H (fun x3 m3 v3 hh3 H hp => ?_)
  refine cx_backI hp (fun hx3 => ?_)
  exact cx_zret (pc := 6) rfl (Nat.le_of_ble_eq_true rfl) (Nat.le_of_ble_eq_true rfl) dX11_isWho_6 H
/-- X11 holds (II)I -/
def f_X11_holds (n : Nat) (p1 : Int) (p2 : Int) (mi : Mem) : Option Rz :=
  cal (f_X11_fits n p2 mi) fun x2 m2 =>
  if x2 = 0 then (
    cal (f_X11_no n 4 m2) fun x10 m10 =>
    rt x10 m10
  ) else
  gtF m2 100 39 fun x15 =>
  jn (fun (m75 : Mem) =>
    gtF m75 100 39 fun x80 =>
    stI m75 130 x80 p1 fun m84 =>
    gtF m84 100 39 fun x90 =>
    ldI m84 129 p1 fun x98 =>
    stI m84 131 x90 x98 fun m99 =>
    gtF m99 100 39 fun x102 =>
    ptF m99 100 39 (w32 (x102 + 1)) fun m107 =>
    stI m107 129 p1 p2 fun m116 =>
    cal (f_X11_width n p2 m116) fun x119 m119 =>
    rt x119 m119
  ) fun (j75 : Mem → Option Rz) =>
  if x15 = 8 then (
    lp (F := Int → Mem → Option Rz) (fun _ _ => none) (fun w25 v3_25 m25 =>
      if v3_25 < 8 then (
        ldI m25 130 v3_25 fun x43 =>
        stI m25 130 (w32 (v3_25 - 1)) x43 fun m44 =>
        ldI m44 131 v3_25 fun x57 =>
        stI m44 131 (w32 (v3_25 - 1)) x57 fun m58 =>
        w25 (w32 (v3_25 + 1)) m58
      ) else
      gtF m25 100 39 fun x67 =>
      ptF m25 100 39 (w32 (x67 - 1)) fun m72 =>
      j75 m72
    ) n 1 m2
  ) else
  j75 m2
set_option maxRecDepth 100000 in
set_option maxHeartbeats 4000000 in
theorem s_X11_holds (l : Launch) (sc : g_S) (E : Mem → g_H) (R : Nat → Prop) (hE : LE E R) (hR : RRF R) (n : Nat)  (p1 : Int) (p2 : Int) (hp1 : inR p1) (hp2 : inR p2) (mi : Mem) (r : Rz) (H : f_X11_holds n p1 p2 mi = some r) : AMet l sc yX11_holds cX11_holds 4 (some FieldType.int) 63 0 0 [.ref 100, iv p1, iv p2] (E mi) (pI E r) := by
  have r100 : R 100 := hR 100 (Nat.le_of_ble_eq_true rfl) (Nat.le_of_ble_eq_true rfl)
  have r129 : R 129 := hR 129 (Nat.le_of_ble_eq_true rfl) (Nat.le_of_ble_eq_true rfl)
  have r130 : R 130 := hR 130 (Nat.le_of_ble_eq_true rfl) (Nat.le_of_ble_eq_true rfl)
  have r131 : R 131 := hR 131 (Nat.le_of_ble_eq_true rfl) (Nat.le_of_ble_eq_true rfl)
  unfold f_X11_holds at H
  refine AMet.of (own := RX11) (by decide +kernel) rfl (Nat.le_of_ble_eq_true rfl) [(0, .ref 100), (1, iv p1), (2, iv p2)] rfl (fun D base ad => ?_)
  refine aw_aload_n (pc := 0) dX11_holds_0 rfl ?_
  refine aw_iload_n (pc := 1) dX11_holds_1 rfl ?_
  refine cx_callV (pc := 2) (P := pI) (dC := 62) (mcC := 0) (msC := 0) [iv p2] hE r100 (fun r1 H1 => s_X11_fits l sc E R hE hR n p2 hp2 mi r1 H1) ca_X11_297 rfl ⟨_, rfl, rfl⟩ rfl rfl (Nat.le_of_ble_eq_true rfl) (Nat.le_of_ble_eq_true rfl) (Nat.le_of_ble_eq_true rfl) (Nat.le_of_ble_eq_true rfl) dX11_holds_2 H (fun x2 m2 v2 hh2 H hp => ?_)
  refine cx_backI hp (fun hx2 => ?_)
  refine cx_if_ne (pc := 5) 14 hx2 dX11_holds_5 rfl H (fun H => ?_) (fun H => ?_)
  · -- 5: 8
    refine aw_aload_n (pc := 8) dX11_holds_8 rfl ?_
    refine cx_iconst (pc := 9) dX11_holds_9 ?_
    refine cx_callV (pc := 10) (P := pI) (dC := 0) (mcC := 0) (msC := 0) [iv 4] hE r100 (fun r1 H1 => s_X11_no l sc E R hE hR n 4 (inR_lit _ rfl) m2 r1 H1) ca_X11_300 rfl ⟨_, rfl, rfl⟩ rfl rfl (Nat.le_of_ble_eq_true rfl) (Nat.le_of_ble_eq_true rfl) (Nat.le_of_ble_eq_true rfl) (Nat.le_of_ble_eq_true rfl) dX11_holds_10 H (fun x10 m10 v10 hh10 H hp => ?_)
    refine cx_backI hp (fun hx10 => ?_)
    exact cx_iret (pc := 13) hx10 rfl (Nat.le_of_ble_eq_true rfl) (Nat.le_of_ble_eq_true rfl) dX11_holds_13 H
  · -- 5: 14
    refine aw_aload_n (pc := 14) dX11_holds_14 rfl ?_
    refine cx_gtF (pc := 15) hE r100 fl_X11_303 rfl rfl (Nat.le_of_ble_eq_true rfl) dX11_holds_15 H (fun x15 hx15 H => ?_)
    refine cx_bipush (pc := 18) dX11_holds_18 (by decide) ?_
    refine jn_ind (fun (f9 : Mem → Option Rz) => ∀ (m75 : Mem), f9 m75 = some r → AW l D base sc RX11 yX11_holds cX11_holds 4 (some FieldType.int) 63 0 0 ad (E mi) (pI E r) 0 0 (E m75) 75 [(0, .ref 100), (1, iv p1), (2, iv p2)] []) (fun m75 H => ?_) (fun j75 hj75 H => ?_) H
    · -- 75
      refine aw_aload_n (pc := 75) dX11_holds_75 rfl ?_
      refine cx_gtC (pc := 76) 130 hE r100 fl_X11_267 rfl rfl (Nat.le_of_ble_eq_true rfl) dX11_holds_76 ?_
      refine aw_aload_n (pc := 79) dX11_holds_79 rfl ?_
      refine cx_gtF (pc := 80) hE r100 fl_X11_303 rfl rfl (Nat.le_of_ble_eq_true rfl) dX11_holds_80 H (fun x80 hx80 H => ?_)
      refine aw_iload_n (pc := 83) dX11_holds_83 rfl ?_
      refine cx_stI (pc := 84) hE r130 hx80 dX11_holds_84 H (fun m84 H => ?_)
      refine aw_aload_n (pc := 85) dX11_holds_85 rfl ?_
      refine cx_gtC (pc := 86) 131 hE r100 fl_X11_270 rfl rfl (Nat.le_of_ble_eq_true rfl) dX11_holds_86 ?_
      refine aw_aload_n (pc := 89) dX11_holds_89 rfl ?_
      refine cx_gtF (pc := 90) hE r100 fl_X11_303 rfl rfl (Nat.le_of_ble_eq_true rfl) dX11_holds_90 H (fun x90 hx90 H => ?_)
      refine aw_aload_n (pc := 93) dX11_holds_93 rfl ?_
      refine cx_gtC (pc := 94) 129 hE r100 fl_X11_264 rfl rfl (Nat.le_of_ble_eq_true rfl) dX11_holds_94 ?_
      refine aw_iload_n (pc := 97) dX11_holds_97 rfl ?_
      refine cx_ldI (pc := 98) hE r129 hp1 dX11_holds_98 H (fun x98 hx98 H => ?_)
      refine cx_stI (pc := 99) hE r131 hx90 dX11_holds_99 H (fun m99 H => ?_)
      refine aw_aload_n (pc := 100) dX11_holds_100 rfl ?_
      refine aw_dup (pc := 101) dX11_holds_101 rfl ?_
      refine cx_gtF (pc := 102) hE r100 fl_X11_303 rfl rfl (Nat.le_of_ble_eq_true rfl) dX11_holds_102 H (fun x102 hx102 H => ?_)
      refine cx_iconst (pc := 105) dX11_holds_105 ?_
      refine cx_iadd (pc := 106) dX11_holds_106 ?_
      refine cx_ptF (pc := 107) tyX11 hE r100 fl_X11_303 (fun r h => ⟨gty_X11 r h, by cases h; rfl⟩) rfl rfl rfl (Nat.le_of_ble_eq_true rfl) dX11_holds_107 H (fun m107 H => ?_)
      refine aw_aload_n (pc := 110) dX11_holds_110 rfl ?_
      refine cx_gtC (pc := 111) 129 hE r100 fl_X11_264 rfl rfl (Nat.le_of_ble_eq_true rfl) dX11_holds_111 ?_
      refine aw_iload_n (pc := 114) dX11_holds_114 rfl ?_
      refine aw_iload_n (pc := 115) dX11_holds_115 rfl ?_
      refine cx_stI (pc := 116) hE r129 hp1 dX11_holds_116 H (fun m116 H => ?_)
      refine aw_aload_n (pc := 117) dX11_holds_117 rfl ?_
      refine aw_iload_n (pc := 118) dX11_holds_118 rfl ?_
      refine cx_callV (pc := 119) (P := pI) (dC := 61) (mcC := 0) (msC := 0) [iv p2] hE r100 (fun r1 H1 => s_X11_width l sc E R hE hR n p2 hp2 m116 r1 H1) ca_X11_218 rfl ⟨_, rfl, rfl⟩ rfl rfl (Nat.le_of_ble_eq_true rfl) (Nat.le_of_ble_eq_true rfl) (Nat.le_of_ble_eq_true rfl) (Nat.le_of_ble_eq_true rfl) dX11_holds_119 H (fun x119 m119 v119 hh119 H hp => ?_)
      refine cx_backI hp (fun hx119 => ?_)
      exact cx_iret (pc := 122) hx119 rfl (Nat.le_of_ble_eq_true rfl) (Nat.le_of_ble_eq_true rfl) dX11_holds_122 H
    refine cx_icmp_ne (pc := 20) 75 hx15 (inR_lit _ rfl) dX11_holds_20 rfl H (fun H => ?_) (fun H => ?_)
    · -- 20: 23
      refine cx_iconst (pc := 23) dX11_holds_23 ?_
      refine aw_istore_n (pc := 24) [(3, iv 1), (0, .ref 100), (1, iv p1), (2, iv p2)] dX11_holds_24 rfl (by decide) ?_
      refine AW.sel [1, 2, 3, 0] rfl (lp_ind (bot := fun _ _ => none) (fun (f9 : Int → Mem → Option Rz) => ∀ (v3_25 : Int) (m25 : Mem), inR v3_25 → f9 v3_25 m25 = some r → AW l D base sc RX11 yX11_holds cX11_holds 4 (some FieldType.int) 63 0 0 ad (E mi) (pI E r) 0 0 (E m25) 25 [(0, .ref 100), (1, iv p1), (2, iv p2), (3, iv v3_25)] []) (fun _ _ _ h9 => nomatch h9) (fun w25 ih25 v3_25 m25 hv3_25 H => ?_) n _ _ (inR_lit _ rfl) H)
      refine aw_iload_n (pc := 25) dX11_holds_25 rfl ?_
      refine cx_bipush (pc := 26) dX11_holds_26 (by decide) ?_
      refine cx_icmp_ge (pc := 28) 65 hv3_25 (inR_lit _ rfl) dX11_holds_28 rfl H (fun H => ?_) (fun H => ?_)
      · -- 28: 31
        refine aw_aload_n (pc := 31) dX11_holds_31 rfl ?_
        refine cx_gtC (pc := 32) 130 hE r100 fl_X11_267 rfl rfl (Nat.le_of_ble_eq_true rfl) dX11_holds_32 ?_
        refine aw_iload_n (pc := 35) dX11_holds_35 rfl ?_
        refine cx_iconst (pc := 36) dX11_holds_36 ?_
        refine cx_isub (pc := 37) dX11_holds_37 ?_
        refine aw_aload_n (pc := 38) dX11_holds_38 rfl ?_
        refine cx_gtC (pc := 39) 130 hE r100 fl_X11_267 rfl rfl (Nat.le_of_ble_eq_true rfl) dX11_holds_39 ?_
        refine aw_iload_n (pc := 42) dX11_holds_42 rfl ?_
        refine cx_ldI (pc := 43) hE r130 hv3_25 dX11_holds_43 H (fun x43 hx43 H => ?_)
        refine cx_stI (pc := 44) hE r130 (inR_w32 _) dX11_holds_44 H (fun m44 H => ?_)
        refine aw_aload_n (pc := 45) dX11_holds_45 rfl ?_
        refine cx_gtC (pc := 46) 131 hE r100 fl_X11_270 rfl rfl (Nat.le_of_ble_eq_true rfl) dX11_holds_46 ?_
        refine aw_iload_n (pc := 49) dX11_holds_49 rfl ?_
        refine cx_iconst (pc := 50) dX11_holds_50 ?_
        refine cx_isub (pc := 51) dX11_holds_51 ?_
        refine aw_aload_n (pc := 52) dX11_holds_52 rfl ?_
        refine cx_gtC (pc := 53) 131 hE r100 fl_X11_270 rfl rfl (Nat.le_of_ble_eq_true rfl) dX11_holds_53 ?_
        refine aw_iload_n (pc := 56) dX11_holds_56 rfl ?_
        refine cx_ldI (pc := 57) hE r131 hv3_25 dX11_holds_57 H (fun x57 hx57 H => ?_)
        refine cx_stI (pc := 58) hE r131 (inR_w32 _) dX11_holds_58 H (fun m58 H => ?_)
        refine cx_iinc (pc := 59) [(3, iv (w32 (v3_25 + 1))), (0, .ref 100), (1, iv p1), (2, iv p2)] dX11_holds_59 rfl rfl (by decide) ?_
        refine aw_goto (pc := 62) 25 dX11_holds_62 rfl ?_
        exact AW.sel [1, 2, 3, 0] rfl (ih25 _ _ (inR_w32 _) H)
      · -- 28: 65
        refine aw_aload_n (pc := 65) dX11_holds_65 rfl ?_
        refine aw_dup (pc := 66) dX11_holds_66 rfl ?_
        refine cx_gtF (pc := 67) hE r100 fl_X11_303 rfl rfl (Nat.le_of_ble_eq_true rfl) dX11_holds_67 H (fun x67 hx67 H => ?_)
        refine cx_iconst (pc := 70) dX11_holds_70 ?_
        refine cx_isub (pc := 71) dX11_holds_71 ?_
        refine cx_ptF (pc := 72) tyX11 hE r100 fl_X11_303 (fun r h => ⟨gty_X11 r h, by cases h; rfl⟩) rfl rfl rfl (Nat.le_of_ble_eq_true rfl) dX11_holds_72 H (fun m72 H => ?_)
        exact AW.sel [0, 1, 2] rfl (hj75 _ H)
    · -- 20: 75
      exact AW.sel [0, 1, 2] rfl (hj75 _ H)
/-- X11 marks (I)V -/
def f_X11_marks (n : Nat) (p1 : Int) (mi : Mem) : Option Rz :=
  cal (f_X11_follow n p1 mi) fun x2 m2 =>
  rt 0 m2
set_option maxRecDepth 100000 in
set_option maxHeartbeats 4000000 in
theorem s_X11_marks (l : Launch) (sc : g_S) (E : Mem → g_H) (R : Nat → Prop) (hE : LE E R) (hR : RRF R) (n : Nat)  (p1 : Int) (hp1 : inR p1) (mi : Mem) (r : Rz) (H : f_X11_marks n p1 mi = some r) : AMet l sc yX11_marks cX11_marks 3 none 61 0 0 [.ref 100, iv p1] (E mi) (pV E r) := by
  have r100 : R 100 := hR 100 (Nat.le_of_ble_eq_true rfl) (Nat.le_of_ble_eq_true rfl)
  unfold f_X11_marks at H
  refine AMet.of (own := RX11) (by decide +kernel) rfl (Nat.le_of_ble_eq_true rfl) [(0, .ref 100), (1, iv p1)] rfl (fun D base ad => ?_)
  refine aw_aload_n (pc := 0) dX11_marks_0 rfl ?_
  refine aw_iload_n (pc := 1) dX11_marks_1 rfl ?_
  refine cx_callV (pc := 2) (P := pI) (dC := 60) (mcC := 0) (msC := 0) [iv p1] hE r100 (fun r1 H1 => s_X11_follow l sc E R hE hR n p1 hp1 mi r1 H1) ca_X11_215 rfl ⟨_, rfl, rfl⟩ rfl rfl (Nat.le_of_ble_eq_true rfl) (Nat.le_of_ble_eq_true rfl) (Nat.le_of_ble_eq_true rfl) (Nat.le_of_ble_eq_true rfl) dX11_marks_2 H (fun x2 m2 v2 hh2 H hp => ?_)
  refine cx_backI hp (fun hx2 => ?_)
  refine aw_istore_n (pc := 5) [(2, iv x2), (0, .ref 100), (1, iv p1)] dX11_marks_5 rfl (by decide) ?_
  exact cx_vret (pc := 6) rfl (Nat.le_of_ble_eq_true rfl) (Nat.le_of_ble_eq_true rfl) dX11_marks_6 H
/-- X11 marksAll ()V -/
def f_X11_marksAll (n : Nat)  (mi : Mem) : Option Rz :=
  gtF mi 100 32 fun x2 =>
  ptF mi 100 32 (w32 (x2 + 1)) fun m7 =>
  cal (f_X11_marks n 0 m7) fun _ m12 =>
  lp (F := Int → Mem → Option Rz) (fun _ _ => none) (fun w17 v1_17 m17 =>
    if v1_17 < 8 then (
      ldI m17 129 v1_17 fun x29 =>
      cal (f_X11_marks n x29 m17) fun _ m30 =>
      ldI m30 132 v1_17 fun x39 =>
      cal (f_X11_marks n x39 m30) fun _ m40 =>
      w17 (w32 (v1_17 + 1)) m40
    ) else
    lp (F := Int → Mem → Option Rz) (fun _ _ => none) (fun w51 v1_51 m51 =>
      gtF m51 100 39 fun x53 =>
      if v1_51 < x53 then (
        ldI m51 131 v1_51 fun x65 =>
        cal (f_X11_marks n x65 m51) fun _ m66 =>
        w51 (w32 (v1_51 + 1)) m66
      ) else
      lp (F := Int → Mem → Option Rz) (fun _ _ => none) (fun w77 v1_77 m77 =>
        gtF m77 100 44 fun x79 =>
        if v1_77 < x79 then (
          ldI m77 134 v1_77 fun x91 =>
          cal (f_X11_marks n x91 m77) fun _ m92 =>
          w77 (w32 (v1_77 + 1)) m92
        ) else
        rt 0 m77
      ) n 0 m51
    ) n 0 m17
  ) n 0 m12
set_option maxRecDepth 100000 in
set_option maxHeartbeats 4000000 in
theorem s_X11_marksAll (l : Launch) (sc : g_S) (E : Mem → g_H) (R : Nat → Prop) (hE : LE E R) (hR : RRF R) (n : Nat)    (mi : Mem) (r : Rz) (H : f_X11_marksAll n  mi = some r) : AMet l sc yX11_marksAll cX11_marksAll 2 none 62 0 0 [.ref 100] (E mi) (pV E r) := by
  have r100 : R 100 := hR 100 (Nat.le_of_ble_eq_true rfl) (Nat.le_of_ble_eq_true rfl)
  have r129 : R 129 := hR 129 (Nat.le_of_ble_eq_true rfl) (Nat.le_of_ble_eq_true rfl)
  have r131 : R 131 := hR 131 (Nat.le_of_ble_eq_true rfl) (Nat.le_of_ble_eq_true rfl)
  have r132 : R 132 := hR 132 (Nat.le_of_ble_eq_true rfl) (Nat.le_of_ble_eq_true rfl)
  have r134 : R 134 := hR 134 (Nat.le_of_ble_eq_true rfl) (Nat.le_of_ble_eq_true rfl)
  unfold f_X11_marksAll at H
  refine AMet.of (own := RX11) (by decide +kernel) rfl (Nat.le_of_ble_eq_true rfl) [(0, .ref 100)] rfl (fun D base ad => ?_)
  refine aw_aload_n (pc := 0) dX11_marksAll_0 rfl ?_
  refine aw_dup (pc := 1) dX11_marksAll_1 rfl ?_
  refine cx_gtF (pc := 2) hE r100 fl_X11_212 rfl rfl (Nat.le_of_ble_eq_true rfl) dX11_marksAll_2 H (fun x2 hx2 H => ?_)
  refine cx_iconst (pc := 5) dX11_marksAll_5 ?_
  refine cx_iadd (pc := 6) dX11_marksAll_6 ?_
  refine cx_ptF (pc := 7) tyX11 hE r100 fl_X11_212 (fun r h => ⟨gty_X11 r h, by cases h; rfl⟩) rfl rfl rfl (Nat.le_of_ble_eq_true rfl) dX11_marksAll_7 H (fun m7 H => ?_)
  refine aw_aload_n (pc := 10) dX11_marksAll_10 rfl ?_
  refine cx_iconst (pc := 11) dX11_marksAll_11 ?_
  refine cx_callV (pc := 12) (P := pV) (dC := 61) (mcC := 0) (msC := 0) [iv 0] hE r100 (fun r1 H1 => s_X11_marks l sc E R hE hR n 0 (inR_lit _ rfl) m7 r1 H1) ca_X11_306 rfl ⟨_, rfl, rfl⟩ rfl rfl (Nat.le_of_ble_eq_true rfl) (Nat.le_of_ble_eq_true rfl) (Nat.le_of_ble_eq_true rfl) (Nat.le_of_ble_eq_true rfl) dX11_marksAll_12 H (fun x12 m12 v12 hh12 H hp => ?_)
  refine cx_backV hp ?_
  refine cx_iconst (pc := 15) dX11_marksAll_15 ?_
  refine aw_istore_n (pc := 16) [(1, iv 0), (0, .ref 100)] dX11_marksAll_16 rfl (by decide) ?_
  refine AW.sel [1, 0] rfl (lp_ind (bot := fun _ _ => none) (fun (f9 : Int → Mem → Option Rz) => ∀ (v1_17 : Int) (m17 : Mem), inR v1_17 → f9 v1_17 m17 = some r → AW l D base sc RX11 yX11_marksAll cX11_marksAll 2 none 62 0 0 ad (E mi) (pV E r) 0 0 (E m17) 17 [(0, .ref 100), (1, iv v1_17)] []) (fun _ _ _ h9 => nomatch h9) (fun w17 ih17 v1_17 m17 hv1_17 H => ?_) n _ _ (inR_lit _ rfl) H)
  refine aw_iload_n (pc := 17) dX11_marksAll_17 rfl ?_
  refine cx_bipush (pc := 18) dX11_marksAll_18 (by decide) ?_
  refine cx_icmp_ge (pc := 20) 49 hv1_17 (inR_lit _ rfl) dX11_marksAll_20 rfl H (fun H => ?_) (fun H => ?_)
  · -- 20: 23
    refine aw_aload_n (pc := 23) dX11_marksAll_23 rfl ?_
    refine aw_aload_n (pc := 24) dX11_marksAll_24 rfl ?_
    refine cx_gtC (pc := 25) 129 hE r100 fl_X11_264 rfl rfl (Nat.le_of_ble_eq_true rfl) dX11_marksAll_25 ?_
    refine aw_iload_n (pc := 28) dX11_marksAll_28 rfl ?_
    refine cx_ldI (pc := 29) hE r129 hv1_17 dX11_marksAll_29 H (fun x29 hx29 H => ?_)
    refine cx_callV (pc := 30) (P := pV) (dC := 61) (mcC := 0) (msC := 0) [iv x29] hE r100 (fun r1 H1 => s_X11_marks l sc E R hE hR n x29 hx29 m17 r1 H1) ca_X11_306 rfl ⟨_, rfl, rfl⟩ rfl rfl (Nat.le_of_ble_eq_true rfl) (Nat.le_of_ble_eq_true rfl) (Nat.le_of_ble_eq_true rfl) (Nat.le_of_ble_eq_true rfl) dX11_marksAll_30 H (fun x30 m30 v30 hh30 H hp => ?_)
    refine cx_backV hp ?_
    refine aw_aload_n (pc := 33) dX11_marksAll_33 rfl ?_
    refine aw_aload_n (pc := 34) dX11_marksAll_34 rfl ?_
    refine cx_gtC (pc := 35) 132 hE r100 fl_X11_273 rfl rfl (Nat.le_of_ble_eq_true rfl) dX11_marksAll_35 ?_
    refine aw_iload_n (pc := 38) dX11_marksAll_38 rfl ?_
    refine cx_ldI (pc := 39) hE r132 hv1_17 dX11_marksAll_39 H (fun x39 hx39 H => ?_)
    refine cx_callV (pc := 40) (P := pV) (dC := 61) (mcC := 0) (msC := 0) [iv x39] hE r100 (fun r1 H1 => s_X11_marks l sc E R hE hR n x39 hx39 m30 r1 H1) ca_X11_306 rfl ⟨_, rfl, rfl⟩ rfl rfl (Nat.le_of_ble_eq_true rfl) (Nat.le_of_ble_eq_true rfl) (Nat.le_of_ble_eq_true rfl) (Nat.le_of_ble_eq_true rfl) dX11_marksAll_40 H (fun x40 m40 v40 hh40 H hp => ?_)
    refine cx_backV hp ?_
    refine cx_iinc (pc := 43) [(1, iv (w32 (v1_17 + 1))), (0, .ref 100)] dX11_marksAll_43 rfl rfl (by decide) ?_
    refine aw_goto (pc := 46) 17 dX11_marksAll_46 rfl ?_
    exact AW.sel [1, 0] rfl (ih17 _ _ (inR_w32 _) H)
  · -- 20: 49
    refine cx_iconst (pc := 49) dX11_marksAll_49 ?_
    refine aw_istore_n (pc := 50) [(1, iv 0), (0, .ref 100)] dX11_marksAll_50 rfl (by decide) ?_
    refine AW.sel [1, 0] rfl (lp_ind (bot := fun _ _ => none) (fun (f9 : Int → Mem → Option Rz) => ∀ (v1_51 : Int) (m51 : Mem), inR v1_51 → f9 v1_51 m51 = some r → AW l D base sc RX11 yX11_marksAll cX11_marksAll 2 none 62 0 0 ad (E mi) (pV E r) 0 0 (E m51) 51 [(0, .ref 100), (1, iv v1_51)] []) (fun _ _ _ h9 => nomatch h9) (fun w51 ih51 v1_51 m51 hv1_51 H => ?_) n _ _ (inR_lit _ rfl) H)
    refine aw_iload_n (pc := 51) dX11_marksAll_51 rfl ?_
    refine aw_aload_n (pc := 52) dX11_marksAll_52 rfl ?_
    refine cx_gtF (pc := 53) hE r100 fl_X11_303 rfl rfl (Nat.le_of_ble_eq_true rfl) dX11_marksAll_53 H (fun x53 hx53 H => ?_)
    refine cx_icmp_ge (pc := 56) 75 hv1_51 hx53 dX11_marksAll_56 rfl H (fun H => ?_) (fun H => ?_)
    · -- 56: 59
      refine aw_aload_n (pc := 59) dX11_marksAll_59 rfl ?_
      refine aw_aload_n (pc := 60) dX11_marksAll_60 rfl ?_
      refine cx_gtC (pc := 61) 131 hE r100 fl_X11_270 rfl rfl (Nat.le_of_ble_eq_true rfl) dX11_marksAll_61 ?_
      refine aw_iload_n (pc := 64) dX11_marksAll_64 rfl ?_
      refine cx_ldI (pc := 65) hE r131 hv1_51 dX11_marksAll_65 H (fun x65 hx65 H => ?_)
      refine cx_callV (pc := 66) (P := pV) (dC := 61) (mcC := 0) (msC := 0) [iv x65] hE r100 (fun r1 H1 => s_X11_marks l sc E R hE hR n x65 hx65 m51 r1 H1) ca_X11_306 rfl ⟨_, rfl, rfl⟩ rfl rfl (Nat.le_of_ble_eq_true rfl) (Nat.le_of_ble_eq_true rfl) (Nat.le_of_ble_eq_true rfl) (Nat.le_of_ble_eq_true rfl) dX11_marksAll_66 H (fun x66 m66 v66 hh66 H hp => ?_)
      refine cx_backV hp ?_
      refine cx_iinc (pc := 69) [(1, iv (w32 (v1_51 + 1))), (0, .ref 100)] dX11_marksAll_69 rfl rfl (by decide) ?_
      refine aw_goto (pc := 72) 51 dX11_marksAll_72 rfl ?_
      exact AW.sel [1, 0] rfl (ih51 _ _ (inR_w32 _) H)
    · -- 56: 75
      refine cx_iconst (pc := 75) dX11_marksAll_75 ?_
      refine aw_istore_n (pc := 76) [(1, iv 0), (0, .ref 100)] dX11_marksAll_76 rfl (by decide) ?_
      refine AW.sel [1, 0] rfl (lp_ind (bot := fun _ _ => none) (fun (f9 : Int → Mem → Option Rz) => ∀ (v1_77 : Int) (m77 : Mem), inR v1_77 → f9 v1_77 m77 = some r → AW l D base sc RX11 yX11_marksAll cX11_marksAll 2 none 62 0 0 ad (E mi) (pV E r) 0 0 (E m77) 77 [(0, .ref 100), (1, iv v1_77)] []) (fun _ _ _ h9 => nomatch h9) (fun w77 ih77 v1_77 m77 hv1_77 H => ?_) n _ _ (inR_lit _ rfl) H)
      refine aw_iload_n (pc := 77) dX11_marksAll_77 rfl ?_
      refine aw_aload_n (pc := 78) dX11_marksAll_78 rfl ?_
      refine cx_gtF (pc := 79) hE r100 fl_X11_309 rfl rfl (Nat.le_of_ble_eq_true rfl) dX11_marksAll_79 H (fun x79 hx79 H => ?_)
      refine cx_icmp_ge (pc := 82) 101 hv1_77 hx79 dX11_marksAll_82 rfl H (fun H => ?_) (fun H => ?_)
      · -- 82: 85
        refine aw_aload_n (pc := 85) dX11_marksAll_85 rfl ?_
        refine aw_aload_n (pc := 86) dX11_marksAll_86 rfl ?_
        refine cx_gtC (pc := 87) 134 hE r100 fl_X11_279 rfl rfl (Nat.le_of_ble_eq_true rfl) dX11_marksAll_87 ?_
        refine aw_iload_n (pc := 90) dX11_marksAll_90 rfl ?_
        refine cx_ldI (pc := 91) hE r134 hv1_77 dX11_marksAll_91 H (fun x91 hx91 H => ?_)
        refine cx_callV (pc := 92) (P := pV) (dC := 61) (mcC := 0) (msC := 0) [iv x91] hE r100 (fun r1 H1 => s_X11_marks l sc E R hE hR n x91 hx91 m77 r1 H1) ca_X11_306 rfl ⟨_, rfl, rfl⟩ rfl rfl (Nat.le_of_ble_eq_true rfl) (Nat.le_of_ble_eq_true rfl) (Nat.le_of_ble_eq_true rfl) (Nat.le_of_ble_eq_true rfl) dX11_marksAll_92 H (fun x92 m92 v92 hh92 H hp => ?_)
        refine cx_backV hp ?_
        refine cx_iinc (pc := 95) [(1, iv (w32 (v1_77 + 1))), (0, .ref 100)] dX11_marksAll_95 rfl rfl (by decide) ?_
        refine aw_goto (pc := 98) 77 dX11_marksAll_98 rfl ?_
        exact AW.sel [1, 0] rfl (ih77 _ _ (inR_w32 _) H)
      · -- 82: 101
        exact cx_vret (pc := 101) rfl (Nat.le_of_ble_eq_true rfl) (Nat.le_of_ble_eq_true rfl) dX11_marksAll_101 H
/-- X11 movesGame (II)V -/
def f_X11_movesGame (n : Nat) (p1 : Int) (p2 : Int) (mi : Mem) : Option Rz :=
  stI mi 133 p1 p2 fun m6 =>
  gtF m6 100 16 fun x8 =>
  ldI m6 103 p1 fun x17 =>
  lp (F := Int → Mem → Option Rz) (fun _ _ => none) (fun w20 v4_20 m20 =>
    ldI m20 105 p1 fun x27 =>
    if v4_20 < x27 then (
      gtF m20 100 16 fun x36 =>
      ldI m20 102 v4_20 fun x49 =>
      ldI m20 133 x49 fun x50 =>
      stI m20 102 x36 x50 fun m51 =>
      gtF m51 100 16 fun x54 =>
      ptF m51 100 16 (w32 (x54 + 1)) fun m59 =>
      w20 (w32 (v4_20 + 1)) m59
    ) else
    ldI m20 104 p1 fun x79 =>
    ldI m20 103 p1 fun x86 =>
    stI m20 104 p2 (w32 ((w32 (x8 + x79)) - x86)) fun m88 =>
    stI m88 103 p2 x8 fun m95 =>
    gtF m95 100 16 fun x102 =>
    stI m95 105 p2 x102 fun m105 =>
    ldI m105 106 p1 fun x116 =>
    stI m105 106 p2 x116 fun m117 =>
    ldI m117 107 p1 fun x128 =>
    stI m117 107 p2 x128 fun m129 =>
    ldI m129 108 p1 fun x140 =>
    stI m129 108 p2 x140 fun m141 =>
    ldI m141 109 p1 fun x152 =>
    stI m141 109 p2 x152 fun m153 =>
    ldZ m153 110 p1 fun x164 =>
    stZ m153 110 p2 x164 fun m165 =>
    ldZ m165 111 p1 fun x176 =>
    stZ m165 111 p2 x176 fun m177 =>
    stI m177 112 p2 0 fun m184 =>
    stI m184 113 p2 0 fun m191 =>
    rt 0 m191
  ) n x17 m6
set_option maxRecDepth 100000 in
set_option maxHeartbeats 4000000 in
theorem s_X11_movesGame (l : Launch) (sc : g_S) (E : Mem → g_H) (R : Nat → Prop) (hE : LE E R) (hR : RRF R) (n : Nat)  (p1 : Int) (p2 : Int) (hp1 : inR p1) (hp2 : inR p2) (mi : Mem) (r : Rz) (H : f_X11_movesGame n p1 p2 mi = some r) : AMet l sc yX11_movesGame cX11_movesGame 5 none 0 0 0 [.ref 100, iv p1, iv p2] (E mi) (pV E r) := by
  have r100 : R 100 := hR 100 (Nat.le_of_ble_eq_true rfl) (Nat.le_of_ble_eq_true rfl)
  have r102 : R 102 := hR 102 (Nat.le_of_ble_eq_true rfl) (Nat.le_of_ble_eq_true rfl)
  have r103 : R 103 := hR 103 (Nat.le_of_ble_eq_true rfl) (Nat.le_of_ble_eq_true rfl)
  have r104 : R 104 := hR 104 (Nat.le_of_ble_eq_true rfl) (Nat.le_of_ble_eq_true rfl)
  have r105 : R 105 := hR 105 (Nat.le_of_ble_eq_true rfl) (Nat.le_of_ble_eq_true rfl)
  have r106 : R 106 := hR 106 (Nat.le_of_ble_eq_true rfl) (Nat.le_of_ble_eq_true rfl)
  have r107 : R 107 := hR 107 (Nat.le_of_ble_eq_true rfl) (Nat.le_of_ble_eq_true rfl)
  have r108 : R 108 := hR 108 (Nat.le_of_ble_eq_true rfl) (Nat.le_of_ble_eq_true rfl)
  have r109 : R 109 := hR 109 (Nat.le_of_ble_eq_true rfl) (Nat.le_of_ble_eq_true rfl)
  have r110 : R 110 := hR 110 (Nat.le_of_ble_eq_true rfl) (Nat.le_of_ble_eq_true rfl)
  have r111 : R 111 := hR 111 (Nat.le_of_ble_eq_true rfl) (Nat.le_of_ble_eq_true rfl)
  have r112 : R 112 := hR 112 (Nat.le_of_ble_eq_true rfl) (Nat.le_of_ble_eq_true rfl)
  have r113 : R 113 := hR 113 (Nat.le_of_ble_eq_true rfl) (Nat.le_of_ble_eq_true rfl)
  have r133 : R 133 := hR 133 (Nat.le_of_ble_eq_true rfl) (Nat.le_of_ble_eq_true rfl)
  unfold f_X11_movesGame at H
  refine AMet.of (own := RX11) (by decide +kernel) rfl (Nat.le_of_ble_eq_true rfl) [(0, .ref 100), (1, iv p1), (2, iv p2)] rfl (fun D base ad => ?_)
  refine aw_aload_n (pc := 0) dX11_movesGame_0 rfl ?_
  refine cx_gtC (pc := 1) 133 hE r100 fl_X11_276 rfl rfl (Nat.le_of_ble_eq_true rfl) dX11_movesGame_1 ?_
  refine aw_iload_n (pc := 4) dX11_movesGame_4 rfl ?_
  refine aw_iload_n (pc := 5) dX11_movesGame_5 rfl ?_
  refine cx_stI (pc := 6) hE r133 hp1 dX11_movesGame_6 H (fun m6 H => ?_)
  refine aw_aload_n (pc := 7) dX11_movesGame_7 rfl ?_
  refine cx_gtF (pc := 8) hE r100 fl_X11_62 rfl rfl (Nat.le_of_ble_eq_true rfl) dX11_movesGame_8 H (fun x8 hx8 H => ?_)
  refine aw_istore_n (pc := 11) [(3, iv x8), (0, .ref 100), (1, iv p1), (2, iv p2)] dX11_movesGame_11 rfl (by decide) ?_
  refine aw_aload_n (pc := 12) dX11_movesGame_12 rfl ?_
  refine cx_gtC (pc := 13) 103 hE r100 fl_X11_29 rfl rfl (Nat.le_of_ble_eq_true rfl) dX11_movesGame_13 ?_
  refine aw_iload_n (pc := 16) dX11_movesGame_16 rfl ?_
  refine cx_ldI (pc := 17) hE r103 hp1 dX11_movesGame_17 H (fun x17 hx17 H => ?_)
  refine aw_istore (pc := 18) [(4, iv x17), (3, iv x8), (0, .ref 100), (1, iv p1), (2, iv p2)] dX11_movesGame_18 rfl (by decide) ?_
  refine AW.sel [2, 3, 4, 1, 0] rfl (lp_ind (bot := fun _ _ => none) (fun (f9 : Int → Mem → Option Rz) => ∀ (v4_20 : Int) (m20 : Mem), inR v4_20 → f9 v4_20 m20 = some r → AW l D base sc RX11 yX11_movesGame cX11_movesGame 5 none 0 0 0 ad (E mi) (pV E r) 0 0 (E m20) 20 [(0, .ref 100), (1, iv p1), (2, iv p2), (3, iv x8), (4, iv v4_20)] []) (fun _ _ _ h9 => nomatch h9) (fun w20 ih20 v4_20 m20 hv4_20 H => ?_) n _ _ hx17 H)
  refine aw_iload (pc := 20) dX11_movesGame_20 rfl ?_
  refine aw_aload_n (pc := 22) dX11_movesGame_22 rfl ?_
  refine cx_gtC (pc := 23) 105 hE r100 fl_X11_32 rfl rfl (Nat.le_of_ble_eq_true rfl) dX11_movesGame_23 ?_
  refine aw_iload_n (pc := 26) dX11_movesGame_26 rfl ?_
  refine cx_ldI (pc := 27) hE r105 hp1 dX11_movesGame_27 H (fun x27 hx27 H => ?_)
  refine cx_icmp_ge (pc := 28) 68 hv4_20 hx27 dX11_movesGame_28 rfl H (fun H => ?_) (fun H => ?_)
  · -- 28: 31
    refine aw_aload_n (pc := 31) dX11_movesGame_31 rfl ?_
    refine cx_gtC (pc := 32) 102 hE r100 fl_X11_35 rfl rfl (Nat.le_of_ble_eq_true rfl) dX11_movesGame_32 ?_
    refine aw_aload_n (pc := 35) dX11_movesGame_35 rfl ?_
    refine cx_gtF (pc := 36) hE r100 fl_X11_62 rfl rfl (Nat.le_of_ble_eq_true rfl) dX11_movesGame_36 H (fun x36 hx36 H => ?_)
    refine aw_aload_n (pc := 39) dX11_movesGame_39 rfl ?_
    refine cx_gtC (pc := 40) 133 hE r100 fl_X11_276 rfl rfl (Nat.le_of_ble_eq_true rfl) dX11_movesGame_40 ?_
    refine aw_aload_n (pc := 43) dX11_movesGame_43 rfl ?_
    refine cx_gtC (pc := 44) 102 hE r100 fl_X11_35 rfl rfl (Nat.le_of_ble_eq_true rfl) dX11_movesGame_44 ?_
    refine aw_iload (pc := 47) dX11_movesGame_47 rfl ?_
    refine cx_ldI (pc := 49) hE r102 hv4_20 dX11_movesGame_49 H (fun x49 hx49 H => ?_)
    refine cx_ldI (pc := 50) hE r133 hx49 dX11_movesGame_50 H (fun x50 hx50 H => ?_)
    refine cx_stI (pc := 51) hE r102 hx36 dX11_movesGame_51 H (fun m51 H => ?_)
    refine aw_aload_n (pc := 52) dX11_movesGame_52 rfl ?_
    refine aw_dup (pc := 53) dX11_movesGame_53 rfl ?_
    refine cx_gtF (pc := 54) hE r100 fl_X11_62 rfl rfl (Nat.le_of_ble_eq_true rfl) dX11_movesGame_54 H (fun x54 hx54 H => ?_)
    refine cx_iconst (pc := 57) dX11_movesGame_57 ?_
    refine cx_iadd (pc := 58) dX11_movesGame_58 ?_
    refine cx_ptF (pc := 59) tyX11 hE r100 fl_X11_62 (fun r h => ⟨gty_X11 r h, by cases h; rfl⟩) rfl rfl rfl (Nat.le_of_ble_eq_true rfl) dX11_movesGame_59 H (fun m59 H => ?_)
    refine cx_iinc (pc := 62) [(4, iv (w32 (v4_20 + 1))), (0, .ref 100), (1, iv p1), (2, iv p2), (3, iv x8)] dX11_movesGame_62 rfl rfl (by decide) ?_
    refine aw_goto (pc := 65) 20 dX11_movesGame_65 rfl ?_
    exact AW.sel [1, 2, 3, 4, 0] rfl (ih20 _ _ (inR_w32 _) H)
  · -- 28: 68
    refine aw_aload_n (pc := 68) dX11_movesGame_68 rfl ?_
    refine cx_gtC (pc := 69) 104 hE r100 fl_X11_26 rfl rfl (Nat.le_of_ble_eq_true rfl) dX11_movesGame_69 ?_
    refine aw_iload_n (pc := 72) dX11_movesGame_72 rfl ?_
    refine aw_iload_n (pc := 73) dX11_movesGame_73 rfl ?_
    refine aw_aload_n (pc := 74) dX11_movesGame_74 rfl ?_
    refine cx_gtC (pc := 75) 104 hE r100 fl_X11_26 rfl rfl (Nat.le_of_ble_eq_true rfl) dX11_movesGame_75 ?_
    refine aw_iload_n (pc := 78) dX11_movesGame_78 rfl ?_
    refine cx_ldI (pc := 79) hE r104 hp1 dX11_movesGame_79 H (fun x79 hx79 H => ?_)
    refine cx_iadd (pc := 80) dX11_movesGame_80 ?_
    refine aw_aload_n (pc := 81) dX11_movesGame_81 rfl ?_
    refine cx_gtC (pc := 82) 103 hE r100 fl_X11_29 rfl rfl (Nat.le_of_ble_eq_true rfl) dX11_movesGame_82 ?_
    refine aw_iload_n (pc := 85) dX11_movesGame_85 rfl ?_
    refine cx_ldI (pc := 86) hE r103 hp1 dX11_movesGame_86 H (fun x86 hx86 H => ?_)
    refine cx_isub (pc := 87) dX11_movesGame_87 ?_
    refine cx_stI (pc := 88) hE r104 hp2 dX11_movesGame_88 H (fun m88 H => ?_)
    refine aw_aload_n (pc := 89) dX11_movesGame_89 rfl ?_
    refine cx_gtC (pc := 90) 103 hE r100 fl_X11_29 rfl rfl (Nat.le_of_ble_eq_true rfl) dX11_movesGame_90 ?_
    refine aw_iload_n (pc := 93) dX11_movesGame_93 rfl ?_
    refine aw_iload_n (pc := 94) dX11_movesGame_94 rfl ?_
    refine cx_stI (pc := 95) hE r103 hp2 dX11_movesGame_95 H (fun m95 H => ?_)
    refine aw_aload_n (pc := 96) dX11_movesGame_96 rfl ?_
    refine cx_gtC (pc := 97) 105 hE r100 fl_X11_32 rfl rfl (Nat.le_of_ble_eq_true rfl) dX11_movesGame_97 ?_
    refine aw_iload_n (pc := 100) dX11_movesGame_100 rfl ?_
    refine aw_aload_n (pc := 101) dX11_movesGame_101 rfl ?_
    refine cx_gtF (pc := 102) hE r100 fl_X11_62 rfl rfl (Nat.le_of_ble_eq_true rfl) dX11_movesGame_102 H (fun x102 hx102 H => ?_)
    refine cx_stI (pc := 105) hE r105 hp2 dX11_movesGame_105 H (fun m105 H => ?_)
    refine aw_aload_n (pc := 106) dX11_movesGame_106 rfl ?_
    refine cx_gtC (pc := 107) 106 hE r100 fl_X11_103 rfl rfl (Nat.le_of_ble_eq_true rfl) dX11_movesGame_107 ?_
    refine aw_iload_n (pc := 110) dX11_movesGame_110 rfl ?_
    refine aw_aload_n (pc := 111) dX11_movesGame_111 rfl ?_
    refine cx_gtC (pc := 112) 106 hE r100 fl_X11_103 rfl rfl (Nat.le_of_ble_eq_true rfl) dX11_movesGame_112 ?_
    refine aw_iload_n (pc := 115) dX11_movesGame_115 rfl ?_
    refine cx_ldI (pc := 116) hE r106 hp1 dX11_movesGame_116 H (fun x116 hx116 H => ?_)
    refine cx_stI (pc := 117) hE r106 hp2 dX11_movesGame_117 H (fun m117 H => ?_)
    refine aw_aload_n (pc := 118) dX11_movesGame_118 rfl ?_
    refine cx_gtC (pc := 119) 107 hE r100 fl_X11_79 rfl rfl (Nat.le_of_ble_eq_true rfl) dX11_movesGame_119 ?_
    refine aw_iload_n (pc := 122) dX11_movesGame_122 rfl ?_
    refine aw_aload_n (pc := 123) dX11_movesGame_123 rfl ?_
    refine cx_gtC (pc := 124) 107 hE r100 fl_X11_79 rfl rfl (Nat.le_of_ble_eq_true rfl) dX11_movesGame_124 ?_
    refine aw_iload_n (pc := 127) dX11_movesGame_127 rfl ?_
    refine cx_ldI (pc := 128) hE r107 hp1 dX11_movesGame_128 H (fun x128 hx128 H => ?_)
    refine cx_stI (pc := 129) hE r107 hp2 dX11_movesGame_129 H (fun m129 H => ?_)
    refine aw_aload_n (pc := 130) dX11_movesGame_130 rfl ?_
    refine cx_gtC (pc := 131) 108 hE r100 fl_X11_85 rfl rfl (Nat.le_of_ble_eq_true rfl) dX11_movesGame_131 ?_
    refine aw_iload_n (pc := 134) dX11_movesGame_134 rfl ?_
    refine aw_aload_n (pc := 135) dX11_movesGame_135 rfl ?_
    refine cx_gtC (pc := 136) 108 hE r100 fl_X11_85 rfl rfl (Nat.le_of_ble_eq_true rfl) dX11_movesGame_136 ?_
    refine aw_iload_n (pc := 139) dX11_movesGame_139 rfl ?_
    refine cx_ldI (pc := 140) hE r108 hp1 dX11_movesGame_140 H (fun x140 hx140 H => ?_)
    refine cx_stI (pc := 141) hE r108 hp2 dX11_movesGame_141 H (fun m141 H => ?_)
    refine aw_aload_n (pc := 142) dX11_movesGame_142 rfl ?_
    refine cx_gtC (pc := 143) 109 hE r100 fl_X11_97 rfl rfl (Nat.le_of_ble_eq_true rfl) dX11_movesGame_143 ?_
    refine aw_iload_n (pc := 146) dX11_movesGame_146 rfl ?_
    refine aw_aload_n (pc := 147) dX11_movesGame_147 rfl ?_
    refine cx_gtC (pc := 148) 109 hE r100 fl_X11_97 rfl rfl (Nat.le_of_ble_eq_true rfl) dX11_movesGame_148 ?_
    refine aw_iload_n (pc := 151) dX11_movesGame_151 rfl ?_
    refine cx_ldI (pc := 152) hE r109 hp1 dX11_movesGame_152 H (fun x152 hx152 H => ?_)
    refine cx_stI (pc := 153) hE r109 hp2 dX11_movesGame_153 H (fun m153 H => ?_)
    refine aw_aload_n (pc := 154) dX11_movesGame_154 rfl ?_
    refine cx_gtC (pc := 155) 110 hE r100 fl_X11_91 rfl rfl (Nat.le_of_ble_eq_true rfl) dX11_movesGame_155 ?_
    refine aw_iload_n (pc := 158) dX11_movesGame_158 rfl ?_
    refine aw_aload_n (pc := 159) dX11_movesGame_159 rfl ?_
    refine cx_gtC (pc := 160) 110 hE r100 fl_X11_91 rfl rfl (Nat.le_of_ble_eq_true rfl) dX11_movesGame_160 ?_
    refine aw_iload_n (pc := 163) dX11_movesGame_163 rfl ?_
    refine cx_ldZ (pc := 164) hE r110 hp1 dX11_movesGame_164 H (fun x164 hx164 H => ?_)
    refine cx_stZ (pc := 165) hE r110 hp2 dX11_movesGame_165 H (fun m165 H => ?_)
    refine aw_aload_n (pc := 166) dX11_movesGame_166 rfl ?_
    refine cx_gtC (pc := 167) 111 hE r100 fl_X11_71 rfl rfl (Nat.le_of_ble_eq_true rfl) dX11_movesGame_167 ?_
    refine aw_iload_n (pc := 170) dX11_movesGame_170 rfl ?_
    refine aw_aload_n (pc := 171) dX11_movesGame_171 rfl ?_
    refine cx_gtC (pc := 172) 111 hE r100 fl_X11_71 rfl rfl (Nat.le_of_ble_eq_true rfl) dX11_movesGame_172 ?_
    refine aw_iload_n (pc := 175) dX11_movesGame_175 rfl ?_
    refine cx_ldZ (pc := 176) hE r111 hp1 dX11_movesGame_176 H (fun x176 hx176 H => ?_)
    refine cx_stZ (pc := 177) hE r111 hp2 dX11_movesGame_177 H (fun m177 H => ?_)
    refine aw_aload_n (pc := 178) dX11_movesGame_178 rfl ?_
    refine cx_gtC (pc := 179) 112 hE r100 fl_X11_65 rfl rfl (Nat.le_of_ble_eq_true rfl) dX11_movesGame_179 ?_
    refine aw_iload_n (pc := 182) dX11_movesGame_182 rfl ?_
    refine cx_iconst (pc := 183) dX11_movesGame_183 ?_
    refine cx_stI (pc := 184) hE r112 hp2 dX11_movesGame_184 H (fun m184 H => ?_)
    refine aw_aload_n (pc := 185) dX11_movesGame_185 rfl ?_
    refine cx_gtC (pc := 186) 113 hE r100 fl_X11_68 rfl rfl (Nat.le_of_ble_eq_true rfl) dX11_movesGame_186 ?_
    refine aw_iload_n (pc := 189) dX11_movesGame_189 rfl ?_
    refine cx_iconst (pc := 190) dX11_movesGame_190 ?_
    refine cx_stI (pc := 191) hE r113 hp2 dX11_movesGame_191 H (fun m191 H => ?_)
    exact cx_vret (pc := 192) rfl (Nat.le_of_ble_eq_true rfl) (Nat.le_of_ble_eq_true rfl) dX11_movesGame_192 H
/-- X11 lists (I)V -/
def f_X11_lists (n : Nat) (p1 : Int) (mi : Mem) : Option Rz :=
  ptF mi 100 23 0 fun m2 =>
  ptF m2 100 24 0 fun m7 =>
  ldI m7 103 p1 fun x15 =>
  lp (F := Int → Mem → Option Rz) (fun _ _ => none) (fun w17 v2_17 m17 =>
    ldI m17 104 p1 fun x23 =>
    if v2_17 < x23 then (
      ldI m17 102 v2_17 fun x33 =>
      cal (f_X11_putsLeft n x33 m17) fun _ m34 =>
      w17 (w32 (v2_17 + 1)) m34
    ) else
    ldI m17 104 p1 fun x48 =>
    lp (F := Int → Mem → Option Rz) (fun _ _ => none) (fun w50 v2_50 m50 =>
      ldI m50 105 p1 fun x56 =>
      if v2_50 < x56 then (
        ldI m50 102 v2_50 fun x66 =>
        cal (f_X11_putsRight n x66 m50) fun _ m67 =>
        w50 (w32 (v2_50 + 1)) m67
      ) else
      cal (f_X11_hash n m50) fun x77 m77 =>
      ldI m77 114 x77 fun x91 =>
      stI m77 115 p1 x91 fun m92 =>
      stI m92 114 x77 (w32 (p1 + 1)) fun m101 =>
      rt 0 m101
    ) n x48 m17
  ) n x15 m7
set_option maxRecDepth 100000 in
set_option maxHeartbeats 4000000 in
theorem s_X11_lists (l : Launch) (sc : g_S) (E : Mem → g_H) (R : Nat → Prop) (hE : LE E R) (hR : RRF R) (n : Nat)  (p1 : Int) (hp1 : inR p1) (mi : Mem) (r : Rz) (H : f_X11_lists n p1 mi = some r) : AMet l sc yX11_lists cX11_lists 3 none 2 0 0 [.ref 100, iv p1] (E mi) (pV E r) := by
  have r100 : R 100 := hR 100 (Nat.le_of_ble_eq_true rfl) (Nat.le_of_ble_eq_true rfl)
  have r102 : R 102 := hR 102 (Nat.le_of_ble_eq_true rfl) (Nat.le_of_ble_eq_true rfl)
  have r103 : R 103 := hR 103 (Nat.le_of_ble_eq_true rfl) (Nat.le_of_ble_eq_true rfl)
  have r104 : R 104 := hR 104 (Nat.le_of_ble_eq_true rfl) (Nat.le_of_ble_eq_true rfl)
  have r105 : R 105 := hR 105 (Nat.le_of_ble_eq_true rfl) (Nat.le_of_ble_eq_true rfl)
  have r114 : R 114 := hR 114 (Nat.le_of_ble_eq_true rfl) (Nat.le_of_ble_eq_true rfl)
  have r115 : R 115 := hR 115 (Nat.le_of_ble_eq_true rfl) (Nat.le_of_ble_eq_true rfl)
  unfold f_X11_lists at H
  refine AMet.of (own := RX11) (by decide +kernel) rfl (Nat.le_of_ble_eq_true rfl) [(0, .ref 100), (1, iv p1)] rfl (fun D base ad => ?_)
  refine aw_aload_n (pc := 0) dX11_lists_0 rfl ?_
  refine cx_iconst (pc := 1) dX11_lists_1 ?_
  refine cx_ptF (pc := 2) tyX11 hE r100 fl_X11_9 (fun r h => ⟨gty_X11 r h, by cases h; rfl⟩) rfl rfl rfl (Nat.le_of_ble_eq_true rfl) dX11_lists_2 H (fun m2 H => ?_)
  refine aw_aload_n (pc := 5) dX11_lists_5 rfl ?_
  refine cx_iconst (pc := 6) dX11_lists_6 ?_
  refine cx_ptF (pc := 7) tyX11 hE r100 fl_X11_20 (fun r h => ⟨gty_X11 r h, by cases h; rfl⟩) rfl rfl rfl (Nat.le_of_ble_eq_true rfl) dX11_lists_7 H (fun m7 H => ?_)
  refine aw_aload_n (pc := 10) dX11_lists_10 rfl ?_
  refine cx_gtC (pc := 11) 103 hE r100 fl_X11_29 rfl rfl (Nat.le_of_ble_eq_true rfl) dX11_lists_11 ?_
  refine aw_iload_n (pc := 14) dX11_lists_14 rfl ?_
  refine cx_ldI (pc := 15) hE r103 hp1 dX11_lists_15 H (fun x15 hx15 H => ?_)
  refine aw_istore_n (pc := 16) [(2, iv x15), (0, .ref 100), (1, iv p1)] dX11_lists_16 rfl (by decide) ?_
  refine AW.sel [1, 2, 0] rfl (lp_ind (bot := fun _ _ => none) (fun (f9 : Int → Mem → Option Rz) => ∀ (v2_17 : Int) (m17 : Mem), inR v2_17 → f9 v2_17 m17 = some r → AW l D base sc RX11 yX11_lists cX11_lists 3 none 2 0 0 ad (E mi) (pV E r) 0 0 (E m17) 17 [(0, .ref 100), (1, iv p1), (2, iv v2_17)] []) (fun _ _ _ h9 => nomatch h9) (fun w17 ih17 v2_17 m17 hv2_17 H => ?_) n _ _ hx15 H)
  refine aw_iload_n (pc := 17) dX11_lists_17 rfl ?_
  refine aw_aload_n (pc := 18) dX11_lists_18 rfl ?_
  refine cx_gtC (pc := 19) 104 hE r100 fl_X11_26 rfl rfl (Nat.le_of_ble_eq_true rfl) dX11_lists_19 ?_
  refine aw_iload_n (pc := 22) dX11_lists_22 rfl ?_
  refine cx_ldI (pc := 23) hE r104 hp1 dX11_lists_23 H (fun x23 hx23 H => ?_)
  refine cx_icmp_ge (pc := 24) 43 hv2_17 hx23 dX11_lists_24 rfl H (fun H => ?_) (fun H => ?_)
  · -- 24: 27
    refine aw_aload_n (pc := 27) dX11_lists_27 rfl ?_
    refine aw_aload_n (pc := 28) dX11_lists_28 rfl ?_
    refine cx_gtC (pc := 29) 102 hE r100 fl_X11_35 rfl rfl (Nat.le_of_ble_eq_true rfl) dX11_lists_29 ?_
    refine aw_iload_n (pc := 32) dX11_lists_32 rfl ?_
    refine cx_ldI (pc := 33) hE r102 hv2_17 dX11_lists_33 H (fun x33 hx33 H => ?_)
    refine cx_callV (pc := 34) (P := pV) (dC := 1) (mcC := 0) (msC := 0) [iv x33] hE r100 (fun r1 H1 => s_X11_putsLeft l sc E R hE hR n x33 hx33 m17 r1 H1) ca_X11_146 rfl ⟨_, rfl, rfl⟩ rfl rfl (Nat.le_of_ble_eq_true rfl) (Nat.le_of_ble_eq_true rfl) (Nat.le_of_ble_eq_true rfl) (Nat.le_of_ble_eq_true rfl) dX11_lists_34 H (fun x34 m34 v34 hh34 H hp => ?_)
    refine cx_backV hp ?_
    refine cx_iinc (pc := 37) [(2, iv (w32 (v2_17 + 1))), (0, .ref 100), (1, iv p1)] dX11_lists_37 rfl rfl (by decide) ?_
    refine aw_goto (pc := 40) 17 dX11_lists_40 rfl ?_
    exact AW.sel [1, 2, 0] rfl (ih17 _ _ (inR_w32 _) H)
  · -- 24: 43
    refine aw_aload_n (pc := 43) dX11_lists_43 rfl ?_
    refine cx_gtC (pc := 44) 104 hE r100 fl_X11_26 rfl rfl (Nat.le_of_ble_eq_true rfl) dX11_lists_44 ?_
    refine aw_iload_n (pc := 47) dX11_lists_47 rfl ?_
    refine cx_ldI (pc := 48) hE r104 hp1 dX11_lists_48 H (fun x48 hx48 H => ?_)
    refine aw_istore_n (pc := 49) [(2, iv x48), (0, .ref 100), (1, iv p1)] dX11_lists_49 rfl (by decide) ?_
    refine AW.sel [1, 2, 0] rfl (lp_ind (bot := fun _ _ => none) (fun (f9 : Int → Mem → Option Rz) => ∀ (v2_50 : Int) (m50 : Mem), inR v2_50 → f9 v2_50 m50 = some r → AW l D base sc RX11 yX11_lists cX11_lists 3 none 2 0 0 ad (E mi) (pV E r) 0 0 (E m50) 50 [(0, .ref 100), (1, iv p1), (2, iv v2_50)] []) (fun _ _ _ h9 => nomatch h9) (fun w50 ih50 v2_50 m50 hv2_50 H => ?_) n _ _ hx48 H)
    refine aw_iload_n (pc := 50) dX11_lists_50 rfl ?_
    refine aw_aload_n (pc := 51) dX11_lists_51 rfl ?_
    refine cx_gtC (pc := 52) 105 hE r100 fl_X11_32 rfl rfl (Nat.le_of_ble_eq_true rfl) dX11_lists_52 ?_
    refine aw_iload_n (pc := 55) dX11_lists_55 rfl ?_
    refine cx_ldI (pc := 56) hE r105 hp1 dX11_lists_56 H (fun x56 hx56 H => ?_)
    refine cx_icmp_ge (pc := 57) 76 hv2_50 hx56 dX11_lists_57 rfl H (fun H => ?_) (fun H => ?_)
    · -- 57: 60
      refine aw_aload_n (pc := 60) dX11_lists_60 rfl ?_
      refine aw_aload_n (pc := 61) dX11_lists_61 rfl ?_
      refine cx_gtC (pc := 62) 102 hE r100 fl_X11_35 rfl rfl (Nat.le_of_ble_eq_true rfl) dX11_lists_62 ?_
      refine aw_iload_n (pc := 65) dX11_lists_65 rfl ?_
      refine cx_ldI (pc := 66) hE r102 hv2_50 dX11_lists_66 H (fun x66 hx66 H => ?_)
      refine cx_callV (pc := 67) (P := pV) (dC := 1) (mcC := 0) (msC := 0) [iv x66] hE r100 (fun r1 H1 => s_X11_putsRight l sc E R hE hR n x66 hx66 m50 r1 H1) ca_X11_152 rfl ⟨_, rfl, rfl⟩ rfl rfl (Nat.le_of_ble_eq_true rfl) (Nat.le_of_ble_eq_true rfl) (Nat.le_of_ble_eq_true rfl) (Nat.le_of_ble_eq_true rfl) dX11_lists_67 H (fun x67 m67 v67 hh67 H hp => ?_)
      refine cx_backV hp ?_
      refine cx_iinc (pc := 70) [(2, iv (w32 (v2_50 + 1))), (0, .ref 100), (1, iv p1)] dX11_lists_70 rfl rfl (by decide) ?_
      refine aw_goto (pc := 73) 50 dX11_lists_73 rfl ?_
      exact AW.sel [1, 2, 0] rfl (ih50 _ _ (inR_w32 _) H)
    · -- 57: 76
      refine aw_aload_n (pc := 76) dX11_lists_76 rfl ?_
      refine cx_callV (pc := 77) (P := pI) (dC := 1) (mcC := 0) (msC := 0) [] hE r100 (fun r1 H1 => s_X11_hash l sc E R hE hR n m50 r1 H1) ca_X11_42 rfl ⟨_, rfl, rfl⟩ rfl rfl (Nat.le_of_ble_eq_true rfl) (Nat.le_of_ble_eq_true rfl) (Nat.le_of_ble_eq_true rfl) (Nat.le_of_ble_eq_true rfl) dX11_lists_77 H (fun x77 m77 v77 hh77 H hp => ?_)
      refine cx_backI hp (fun hx77 => ?_)
      refine aw_istore_n (pc := 80) [(2, iv x77), (0, .ref 100), (1, iv p1)] dX11_lists_80 rfl (by decide) ?_
      refine aw_aload_n (pc := 81) dX11_lists_81 rfl ?_
      refine cx_gtC (pc := 82) 115 hE r100 fl_X11_53 rfl rfl (Nat.le_of_ble_eq_true rfl) dX11_lists_82 ?_
      refine aw_iload_n (pc := 85) dX11_lists_85 rfl ?_
      refine aw_aload_n (pc := 86) dX11_lists_86 rfl ?_
      refine cx_gtC (pc := 87) 114 hE r100 fl_X11_46 rfl rfl (Nat.le_of_ble_eq_true rfl) dX11_lists_87 ?_
      refine aw_iload_n (pc := 90) dX11_lists_90 rfl ?_
      refine cx_ldI (pc := 91) hE r114 hx77 dX11_lists_91 H (fun x91 hx91 H => ?_)
      refine cx_stI (pc := 92) hE r115 hp1 dX11_lists_92 H (fun m92 H => ?_)
      refine aw_aload_n (pc := 93) dX11_lists_93 rfl ?_
      refine cx_gtC (pc := 94) 114 hE r100 fl_X11_46 rfl rfl (Nat.le_of_ble_eq_true rfl) dX11_lists_94 ?_
      refine aw_iload_n (pc := 97) dX11_lists_97 rfl ?_
      refine aw_iload_n (pc := 98) dX11_lists_98 rfl ?_
      refine cx_iconst (pc := 99) dX11_lists_99 ?_
      refine cx_iadd (pc := 100) dX11_lists_100 ?_
      refine cx_stI (pc := 101) hE r114 hx77 dX11_lists_101 H (fun m101 H => ?_)
      exact cx_vret (pc := 102) rfl (Nat.le_of_ble_eq_true rfl) (Nat.le_of_ble_eq_true rfl) dX11_lists_102 H
