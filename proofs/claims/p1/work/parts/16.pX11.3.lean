/-- X11 wins (II)Z -/
def f_X11_wins (n : Nat) (p1 : Int) (p2 : Int) (mi : Mem) : Option Rz :=
  jn (fun (s0_35 : Int) (m35 : Mem) =>
    rtZ s0_35 m35
  ) fun (j35 : Int → Mem → Option Rz) =>
  if p2 = 0 then (
    cal (f_X11_atMost n p1 0 mi) fun x7 m7 =>
    if x7 = 0 then (
      j35 1 m7
    ) else
    j35 0 m7
  ) else
  cal (f_X11_atMost n 0 p1 mi) fun x24 m24 =>
  if x24 = 0 then (
    j35 1 m24
  ) else
  j35 0 m24
set_option maxRecDepth 100000 in
set_option maxHeartbeats 4000000 in
theorem s_X11_wins (l : Launch) (sc : g_S) (E : Mem → g_H) (R : Nat → Prop) (hE : LE E R) (hR : RRF R) (n : Nat)  (p1 : Int) (p2 : Int) (hp1 : inR p1) (hp2 : inR p2) (mi : Mem) (r : Rz) (H : f_X11_wins n p1 p2 mi = some r) : AMet l sc yX11_wins cX11_wins 3 (some FieldType.boolean) 202 0 0 [.ref 100, iv p1, iv p2] (E mi) (pI E r) := by
  have r100 : R 100 := hR 100 (Nat.le_of_ble_eq_true rfl) (Nat.le_of_ble_eq_true rfl)
  unfold f_X11_wins at H
  refine AMet.of (own := RX11) (by decide +kernel) rfl (Nat.le_of_ble_eq_true rfl) [(0, .ref 100), (1, iv p1), (2, iv p2)] rfl (fun D base ad => ?_)
  refine aw_iload_n (pc := 0) dX11_wins_0 rfl ?_
  refine jn_ind (fun (f9 : Int → Mem → Option Rz) => ∀ (s0_35 : Int) (m35 : Mem), inR s0_35 → f9 s0_35 m35 = some r → AW l D base sc RX11 yX11_wins cX11_wins 3 (some FieldType.boolean) 202 0 0 ad (E mi) (pI E r) 0 0 (E m35) 35 [] [iv s0_35]) (fun s0_35 m35 hs0_35 H => ?_) (fun j35 hj35 H => ?_) H
  · -- 35
    exact cx_zret (pc := 35) rfl (Nat.le_of_ble_eq_true rfl) (Nat.le_of_ble_eq_true rfl) dX11_wins_35 H
  refine cx_if_ne (pc := 1) 21 hp2 dX11_wins_1 rfl H (fun H => ?_) (fun H => ?_)
  · -- 1: 4
    refine aw_aload_n (pc := 4) dX11_wins_4 rfl ?_
    refine aw_iload_n (pc := 5) dX11_wins_5 rfl ?_
    refine cx_iconst (pc := 6) dX11_wins_6 ?_
    refine cx_callV (pc := 7) (P := pI) (dC := 201) (mcC := 0) (msC := 0) [iv p1, iv 0] hE r100 (fun r1 H1 => s_X11_atMost l sc E R hE hR n p1 0 hp1 (inR_lit _ rfl) mi r1 H1) ca_X11_114 rfl ⟨_, rfl, rfl⟩ rfl rfl (Nat.le_of_ble_eq_true rfl) (Nat.le_of_ble_eq_true rfl) (Nat.le_of_ble_eq_true rfl) (Nat.le_of_ble_eq_true rfl) dX11_wins_7 H (fun x7 m7 v7 hh7 H hp => ?_)
    refine cx_backI hp (fun hx7 => ?_)
    refine cx_if_ne (pc := 10) 17 hx7 dX11_wins_10 rfl H (fun H => ?_) (fun H => ?_)
    · -- 10: 13
      refine cx_iconst (pc := 13) dX11_wins_13 ?_
      refine aw_goto (pc := 14) 35 dX11_wins_14 rfl ?_
      exact AW.sel [] rfl (hj35 _ _ (inR_lit _ rfl) H)
    · -- 10: 17
      refine cx_iconst (pc := 17) dX11_wins_17 ?_
      refine aw_goto (pc := 18) 35 dX11_wins_18 rfl ?_
      exact AW.sel [] rfl (hj35 _ _ (inR_lit _ rfl) H)
  · -- 1: 21
    refine aw_aload_n (pc := 21) dX11_wins_21 rfl ?_
    refine cx_iconst (pc := 22) dX11_wins_22 ?_
    refine aw_iload_n (pc := 23) dX11_wins_23 rfl ?_
    refine cx_callV (pc := 24) (P := pI) (dC := 201) (mcC := 0) (msC := 0) [iv 0, iv p1] hE r100 (fun r1 H1 => s_X11_atMost l sc E R hE hR n 0 p1 (inR_lit _ rfl) hp1 mi r1 H1) ca_X11_114 rfl ⟨_, rfl, rfl⟩ rfl rfl (Nat.le_of_ble_eq_true rfl) (Nat.le_of_ble_eq_true rfl) (Nat.le_of_ble_eq_true rfl) (Nat.le_of_ble_eq_true rfl) dX11_wins_24 H (fun x24 m24 v24 hh24 H hp => ?_)
    refine cx_backI hp (fun hx24 => ?_)
    refine cx_if_ne (pc := 27) 34 hx24 dX11_wins_27 rfl H (fun H => ?_) (fun H => ?_)
    · -- 27: 30
      refine cx_iconst (pc := 30) dX11_wins_30 ?_
      refine aw_goto (pc := 31) 35 dX11_wins_31 rfl ?_
      exact AW.sel [] rfl (hj35 _ _ (inR_lit _ rfl) H)
    · -- 27: 34
      refine cx_iconst (pc := 34) dX11_wins_34 ?_
      exact AW.sel [] rfl (hj35 _ _ (inR_lit _ rfl) H)
/-- X11 replyIn (III)I -/
def f_X11_replyIn (n : Nat) (p1 : Int) (p2 : Int) (p3 : Int) (mi : Mem) : Option Rz :=
  cal (f_X11_optionMany n p1 p3 mi) fun x3 m3 =>
  cal (f_X11_optionMany n p2 p3 m3) fun x13 m13 =>
  nm (w32 (x3 + x13)) fun z17 =>
  lp (F := Int → Mem → Option Rz) (fun _ _ => none) (fun w22 v6_22 m22 =>
    if v6_22 < z17 then (
      jn (fun (s0_68 : Int) (m68 : Mem) =>
        cal (f_X11_wins n s0_68 (w32 (1 - p3)) m68) fun x76 m76 =>
        if x76 = 0 then (
          rt v6_22 m76
        ) else
        w22 (w32 (v6_22 + 1)) m76
      ) fun (j68 : Int → Mem → Option Rz) =>
      if v6_22 < x3 then (
        cal (f_X11_optionOf n p1 p3 v6_22 m22) fun x42 m42 =>
        cal (f_X11_sum n x42 p2 m42) fun x46 m46 =>
        j68 x46 m46
      ) else
      cal (f_X11_optionOf n p2 p3 (w32 (v6_22 - x3)) m22) fun x62 m62 =>
      cal (f_X11_sum n p1 x62 m62) fun x65 m65 =>
      j68 x65 m65
    ) else
    rt (-1) m22
  ) n 0 m13
set_option maxRecDepth 100000 in
set_option maxHeartbeats 4000000 in
theorem s_X11_replyIn (l : Launch) (sc : g_S) (E : Mem → g_H) (R : Nat → Prop) (hE : LE E R) (hR : RRF R) (n : Nat)  (p1 : Int) (p2 : Int) (p3 : Int) (hp1 : inR p1) (hp2 : inR p2) (hp3 : inR p3) (mi : Mem) (r : Rz) (H : f_X11_replyIn n p1 p2 p3 mi = some r) : AMet l sc yX11_replyIn cX11_replyIn 8 (some FieldType.int) 408 0 0 [.ref 100, iv p1, iv p2, iv p3] (E mi) (pI E r) := by
  have r100 : R 100 := hR 100 (Nat.le_of_ble_eq_true rfl) (Nat.le_of_ble_eq_true rfl)
  unfold f_X11_replyIn at H
  refine AMet.of (own := RX11) (by decide +kernel) rfl (Nat.le_of_ble_eq_true rfl) [(0, .ref 100), (1, iv p1), (2, iv p2), (3, iv p3)] rfl (fun D base ad => ?_)
  refine aw_aload_n (pc := 0) dX11_replyIn_0 rfl ?_
  refine aw_iload_n (pc := 1) dX11_replyIn_1 rfl ?_
  refine aw_iload_n (pc := 2) dX11_replyIn_2 rfl ?_
  refine cx_callV (pc := 3) (P := pI) (dC := 0) (mcC := 0) (msC := 0) [iv p1, iv p3] hE r100 (fun r1 H1 => s_X11_optionMany l sc E R hE hR n p1 p3 hp1 hp3 mi r1 H1) ca_X11_327 rfl ⟨_, rfl, rfl⟩ rfl rfl (Nat.le_of_ble_eq_true rfl) (Nat.le_of_ble_eq_true rfl) (Nat.le_of_ble_eq_true rfl) (Nat.le_of_ble_eq_true rfl) dX11_replyIn_3 H (fun x3 m3 v3 hh3 H hp => ?_)
  refine cx_backI hp (fun hx3 => ?_)
  refine aw_istore (pc := 6) [(4, iv x3), (0, .ref 100), (1, iv p1), (2, iv p2), (3, iv p3)] dX11_replyIn_6 rfl (by decide) ?_
  refine aw_iload (pc := 8) dX11_replyIn_8 rfl ?_
  refine aw_aload_n (pc := 10) dX11_replyIn_10 rfl ?_
  refine aw_iload_n (pc := 11) dX11_replyIn_11 rfl ?_
  refine aw_iload_n (pc := 12) dX11_replyIn_12 rfl ?_
  refine cx_callV (pc := 13) (P := pI) (dC := 0) (mcC := 0) (msC := 0) [iv p2, iv p3] hE r100 (fun r1 H1 => s_X11_optionMany l sc E R hE hR n p2 p3 hp2 hp3 m3 r1 H1) ca_X11_327 rfl ⟨_, rfl, rfl⟩ rfl rfl (Nat.le_of_ble_eq_true rfl) (Nat.le_of_ble_eq_true rfl) (Nat.le_of_ble_eq_true rfl) (Nat.le_of_ble_eq_true rfl) dX11_replyIn_13 H (fun x13 m13 v13 hh13 H hp => ?_)
  refine cx_backI hp (fun hx13 => ?_)
  refine cx_iadd (pc := 16) dX11_replyIn_16 ?_
  refine cx_nm (inR_w32 _) H (fun z17 hz17 H => ?_)
  refine aw_istore (pc := 17) [(5, iv z17), (4, iv x3), (0, .ref 100), (1, iv p1), (2, iv p2), (3, iv p3)] dX11_replyIn_17 rfl (by decide) ?_
  refine cx_iconst (pc := 19) dX11_replyIn_19 ?_
  refine aw_istore (pc := 20) [(6, iv 0), (5, iv z17), (4, iv x3), (0, .ref 100), (1, iv p1), (2, iv p2), (3, iv p3)] dX11_replyIn_20 rfl (by decide) ?_
  refine AW.sel [3, 4, 5, 6, 2, 1, 0] rfl (lp_ind (bot := fun _ _ => none) (fun (f9 : Int → Mem → Option Rz) => ∀ (v6_22 : Int) (m22 : Mem), inR v6_22 → f9 v6_22 m22 = some r → AW l D base sc RX11 yX11_replyIn cX11_replyIn 8 (some FieldType.int) 408 0 0 ad (E mi) (pI E r) 0 0 (E m22) 22 [(0, .ref 100), (1, iv p1), (2, iv p2), (3, iv p3), (4, iv x3), (5, iv z17), (6, iv v6_22)] []) (fun _ _ _ h9 => nomatch h9) (fun w22 ih22 v6_22 m22 hv6_22 H => ?_) n _ _ (inR_lit _ rfl) H)
  refine aw_iload (pc := 22) dX11_replyIn_22 rfl ?_
  refine aw_iload (pc := 24) dX11_replyIn_24 rfl ?_
  refine cx_icmp_ge (pc := 26) 91 hv6_22 hz17 dX11_replyIn_26 rfl H (fun H => ?_) (fun H => ?_)
  · -- 26: 29
    refine aw_iload (pc := 29) dX11_replyIn_29 rfl ?_
    refine aw_iload (pc := 31) dX11_replyIn_31 rfl ?_
    refine jn_ind (fun (f9 : Int → Mem → Option Rz) => ∀ (s0_68 : Int) (m68 : Mem), inR s0_68 → f9 s0_68 m68 = some r → AW l D base sc RX11 yX11_replyIn cX11_replyIn 8 (some FieldType.int) 408 0 0 ad (E mi) (pI E r) 0 0 (E m68) 68 [(0, .ref 100), (1, iv p1), (2, iv p2), (3, iv p3), (4, iv x3), (5, iv z17), (6, iv v6_22)] [iv s0_68]) (fun s0_68 m68 hs0_68 H => ?_) (fun j68 hj68 H => ?_) H
    · -- 68
      refine aw_istore (pc := 68) [(7, iv s0_68), (0, .ref 100), (1, iv p1), (2, iv p2), (3, iv p3), (4, iv x3), (5, iv z17), (6, iv v6_22)] dX11_replyIn_68 rfl (by decide) ?_
      refine aw_aload_n (pc := 70) dX11_replyIn_70 rfl ?_
      refine aw_iload (pc := 71) dX11_replyIn_71 rfl ?_
      refine cx_iconst (pc := 73) dX11_replyIn_73 ?_
      refine aw_iload_n (pc := 74) dX11_replyIn_74 rfl ?_
      refine cx_isub (pc := 75) dX11_replyIn_75 ?_
      refine cx_callV (pc := 76) (P := pI) (dC := 202) (mcC := 0) (msC := 0) [iv s0_68, iv (w32 (1 - p3))] hE r100 (fun r1 H1 => s_X11_wins l sc E R hE hR n s0_68 (w32 (1 - p3)) hs0_68 (inR_w32 _) m68 r1 H1) ca_X11_377 rfl ⟨_, rfl, rfl⟩ rfl rfl (Nat.le_of_ble_eq_true rfl) (Nat.le_of_ble_eq_true rfl) (Nat.le_of_ble_eq_true rfl) (Nat.le_of_ble_eq_true rfl) dX11_replyIn_76 H (fun x76 m76 v76 hh76 H hp => ?_)
      refine cx_backI hp (fun hx76 => ?_)
      refine cx_if_ne (pc := 79) 85 hx76 dX11_replyIn_79 rfl H (fun H => ?_) (fun H => ?_)
      · -- 79: 82
        refine aw_iload (pc := 82) dX11_replyIn_82 rfl ?_
        exact cx_iret (pc := 84) hv6_22 rfl (Nat.le_of_ble_eq_true rfl) (Nat.le_of_ble_eq_true rfl) dX11_replyIn_84 H
      · -- 79: 85
        refine cx_iinc (pc := 85) [(6, iv (w32 (v6_22 + 1))), (7, iv s0_68), (0, .ref 100), (1, iv p1), (2, iv p2), (3, iv p3), (4, iv x3), (5, iv z17)] dX11_replyIn_85 rfl rfl (by decide) ?_
        refine aw_goto (pc := 88) 22 dX11_replyIn_88 rfl ?_
        exact AW.sel [2, 3, 4, 5, 6, 7, 0] rfl (ih22 _ _ (inR_w32 _) H)
    refine cx_icmp_ge (pc := 33) 52 hv6_22 hx3 dX11_replyIn_33 rfl H (fun H => ?_) (fun H => ?_)
    · -- 33: 36
      refine aw_aload_n (pc := 36) dX11_replyIn_36 rfl ?_
      refine aw_aload_n (pc := 37) dX11_replyIn_37 rfl ?_
      refine aw_iload_n (pc := 38) dX11_replyIn_38 rfl ?_
      refine aw_iload_n (pc := 39) dX11_replyIn_39 rfl ?_
      refine aw_iload (pc := 40) dX11_replyIn_40 rfl ?_
      refine cx_callV (pc := 42) (P := pI) (dC := 127) (mcC := 0) (msC := 0) [iv p1, iv p3, iv v6_22] hE r100 (fun r1 H1 => s_X11_optionOf l sc E R hE hR n p1 p3 v6_22 hp1 hp3 hv6_22 m22 r1 H1) ca_X11_355 rfl ⟨_, rfl, rfl⟩ rfl rfl (Nat.le_of_ble_eq_true rfl) (Nat.le_of_ble_eq_true rfl) (Nat.le_of_ble_eq_true rfl) (Nat.le_of_ble_eq_true rfl) dX11_replyIn_42 H (fun x42 m42 v42 hh42 H hp => ?_)
      refine cx_backI hp (fun hx42 => ?_)
      refine aw_iload_n (pc := 45) dX11_replyIn_45 rfl ?_
      refine cx_callV (pc := 46) (P := pI) (dC := 407) (mcC := 0) (msC := 0) [iv x42, iv p2] hE r100 (fun r1 H1 => s_X11_sum l sc E R hE hR n x42 p2 hx42 hp2 m42 r1 H1) ca_X11_191 rfl ⟨_, rfl, rfl⟩ rfl rfl (Nat.le_of_ble_eq_true rfl) (Nat.le_of_ble_eq_true rfl) (Nat.le_of_ble_eq_true rfl) (Nat.le_of_ble_eq_true rfl) dX11_replyIn_46 H (fun x46 m46 v46 hh46 H hp => ?_)
      refine cx_backI hp (fun hx46 => ?_)
      refine aw_goto (pc := 49) 68 dX11_replyIn_49 rfl ?_
      exact AW.sel [0, 1, 2, 3, 4, 5, 6] rfl (hj68 _ _ hx46 H)
    · -- 33: 52
      refine aw_aload_n (pc := 52) dX11_replyIn_52 rfl ?_
      refine aw_iload_n (pc := 53) dX11_replyIn_53 rfl ?_
      refine aw_aload_n (pc := 54) dX11_replyIn_54 rfl ?_
      refine aw_iload_n (pc := 55) dX11_replyIn_55 rfl ?_
      refine aw_iload_n (pc := 56) dX11_replyIn_56 rfl ?_
      refine aw_iload (pc := 57) dX11_replyIn_57 rfl ?_
      refine aw_iload (pc := 59) dX11_replyIn_59 rfl ?_
      refine cx_isub (pc := 61) dX11_replyIn_61 ?_
      refine cx_callV (pc := 62) (P := pI) (dC := 127) (mcC := 0) (msC := 0) [iv p2, iv p3, iv (w32 (v6_22 - x3))] hE r100 (fun r1 H1 => s_X11_optionOf l sc E R hE hR n p2 p3 (w32 (v6_22 - x3)) hp2 hp3 (inR_w32 _) m22 r1 H1) ca_X11_355 rfl ⟨_, rfl, rfl⟩ rfl rfl (Nat.le_of_ble_eq_true rfl) (Nat.le_of_ble_eq_true rfl) (Nat.le_of_ble_eq_true rfl) (Nat.le_of_ble_eq_true rfl) dX11_replyIn_62 H (fun x62 m62 v62 hh62 H hp => ?_)
      refine cx_backI hp (fun hx62 => ?_)
      refine cx_callV (pc := 65) (P := pI) (dC := 407) (mcC := 0) (msC := 0) [iv p1, iv x62] hE r100 (fun r1 H1 => s_X11_sum l sc E R hE hR n p1 x62 hp1 hx62 m62 r1 H1) ca_X11_191 rfl ⟨_, rfl, rfl⟩ rfl rfl (Nat.le_of_ble_eq_true rfl) (Nat.le_of_ble_eq_true rfl) (Nat.le_of_ble_eq_true rfl) (Nat.le_of_ble_eq_true rfl) dX11_replyIn_65 H (fun x65 m65 v65 hh65 H hp => ?_)
      refine cx_backI hp (fun hx65 => ?_)
      exact AW.sel [0, 1, 2, 3, 4, 5, 6] rfl (hj68 _ _ hx65 H)
  · -- 26: 91
    refine cx_iconst (pc := 91) dX11_replyIn_91 ?_
    exact cx_iret (pc := 92) (inR_lit _ rfl) rfl (Nat.le_of_ble_eq_true rfl) (Nat.le_of_ble_eq_true rfl) dX11_replyIn_92 H
/-- X11 reply (IIII)I -/
def f_X11_reply (n : Nat) (p1 : Int) (p2 : Int) (p3 : Int) (p4 : Int) (mi : Mem) : Option Rz :=
  cal (f_X11_isSlot n p1 mi) fun x1 m1 =>
  jn (fun (m31 : Mem) =>
    cal (f_X11_no n 1 m31) fun x33 m33 =>
    rt x33 m33
  ) fun (j31 : Mem → Option Rz) =>
  if x1 = 0 then (
    j31 m1
  ) else
  cal (f_X11_isSlot n p2 m1) fun x8 m8 =>
  if x8 = 0 then (
    j31 m8
  ) else
  cal (f_X11_isWho n p3 m8) fun x15 m15 =>
  if x15 = 0 then (
    j31 m15
  ) else
  cal (f_X11_in n p4 0 1 m15) fun x25 m25 =>
  if x25 = 0 then (
    j31 m25
  ) else
  cal (f_X11_gathers n m25) fun _ m38 =>
  ldI m38 129 p1 fun x47 =>
  ldI m38 129 p2 fun x53 =>
  cal (f_X11_replyIn n x47 x53 p3 m38) fun x55 m55 =>
  ldI m55 129 p1 fun x66 =>
  cal (f_X11_optionMany n x66 p3 m55) fun x68 m68 =>
  if x55 < 0 then (
    cal (f_X11_no n 2 m68) fun x80 m80 =>
    rt x80 m80
  ) else
  jn (fun (s0_121 : Int) (m121 : Mem) =>
    rt s0_121 m121
  ) fun (j121 : Int → Mem → Option Rz) =>
  if p4 = 0 then (
    if x55 < x68 then (
      j121 0 m68
    ) else
    j121 1 m68
  ) else
  if x55 < x68 then (
    j121 x55 m68
  ) else
  j121 (w32 (x55 - x68)) m68
set_option maxRecDepth 100000 in
set_option maxHeartbeats 4000000 in
theorem s_X11_reply (l : Launch) (sc : g_S) (E : Mem → g_H) (R : Nat → Prop) (hE : LE E R) (hR : RRF R) (n : Nat)  (p1 : Int) (p2 : Int) (p3 : Int) (p4 : Int) (hp1 : inR p1) (hp2 : inR p2) (hp3 : inR p3) (hp4 : inR p4) (mi : Mem) (r : Rz) (H : f_X11_reply n p1 p2 p3 p4 mi = some r) : AMet l sc yX11_reply cX11_reply 7 (some FieldType.int) 409 0 0 [.ref 100, iv p1, iv p2, iv p3, iv p4] (E mi) (pI E r) := by
  have r100 : R 100 := hR 100 (Nat.le_of_ble_eq_true rfl) (Nat.le_of_ble_eq_true rfl)
  have r129 : R 129 := hR 129 (Nat.le_of_ble_eq_true rfl) (Nat.le_of_ble_eq_true rfl)
  unfold f_X11_reply at H
  refine AMet.of (own := RX11) (by decide +kernel) rfl (Nat.le_of_ble_eq_true rfl) [(0, .ref 100), (1, iv p1), (2, iv p2), (3, iv p3), (4, iv p4)] rfl (fun D base ad => ?_)
  refine aw_iload_n (pc := 0) dX11_reply_0 rfl ?_
  refine cx_callS (pc := 1) (P := pI) (dC := 1) (mcC := 0) (msC := 0) [iv p1] (fun r1 H1 => s_X11_isSlot l sc E R hE hR n p1 hp1 mi r1 H1) ca_X11_324 rfl rfl (Nat.le_of_ble_eq_true rfl) (Nat.le_of_ble_eq_true rfl) (Nat.le_of_ble_eq_true rfl) (Nat.le_of_ble_eq_true rfl) dX11_reply_1 H (fun x1 m1 v1 hh1 H hp => ?_)
  refine cx_backI hp (fun hx1 => ?_)
  refine jn_ind (fun (f9 : Mem → Option Rz) => ∀ (m31 : Mem), f9 m31 = some r → AW l D base sc RX11 yX11_reply cX11_reply 7 (some FieldType.int) 409 0 0 ad (E mi) (pI E r) 0 0 (E m31) 31 [(0, .ref 100)] []) (fun m31 H => ?_) (fun j31 hj31 H => ?_) H
  · -- 31
    refine aw_aload_n (pc := 31) dX11_reply_31 rfl ?_
    refine cx_iconst (pc := 32) dX11_reply_32 ?_
    refine cx_callV (pc := 33) (P := pI) (dC := 0) (mcC := 0) (msC := 0) [iv 1] hE r100 (fun r1 H1 => s_X11_no l sc E R hE hR n 1 (inR_lit _ rfl) m31 r1 H1) ca_X11_300 rfl ⟨_, rfl, rfl⟩ rfl rfl (Nat.le_of_ble_eq_true rfl) (Nat.le_of_ble_eq_true rfl) (Nat.le_of_ble_eq_true rfl) (Nat.le_of_ble_eq_true rfl) dX11_reply_33 H (fun x33 m33 v33 hh33 H hp => ?_)
    refine cx_backI hp (fun hx33 => ?_)
    exact cx_iret (pc := 36) hx33 rfl (Nat.le_of_ble_eq_true rfl) (Nat.le_of_ble_eq_true rfl) dX11_reply_36 H
  refine cx_if_eq (pc := 4) 31 hx1 dX11_reply_4 rfl H (fun H => ?_) (fun H => ?_)
  · -- 4: 31
    exact AW.sel [0] rfl (hj31 _ H)
  · -- 4: 7
    refine aw_iload_n (pc := 7) dX11_reply_7 rfl ?_
    refine cx_callS (pc := 8) (P := pI) (dC := 1) (mcC := 0) (msC := 0) [iv p2] (fun r1 H1 => s_X11_isSlot l sc E R hE hR n p2 hp2 m1 r1 H1) ca_X11_324 rfl rfl (Nat.le_of_ble_eq_true rfl) (Nat.le_of_ble_eq_true rfl) (Nat.le_of_ble_eq_true rfl) (Nat.le_of_ble_eq_true rfl) dX11_reply_8 H (fun x8 m8 v8 hh8 H hp => ?_)
    refine cx_backI hp (fun hx8 => ?_)
    refine cx_if_eq (pc := 11) 31 hx8 dX11_reply_11 rfl H (fun H => ?_) (fun H => ?_)
    · -- 11: 31
      exact AW.sel [0] rfl (hj31 _ H)
    · -- 11: 14
      refine aw_iload_n (pc := 14) dX11_reply_14 rfl ?_
      refine cx_callS (pc := 15) (P := pI) (dC := 1) (mcC := 0) (msC := 0) [iv p3] (fun r1 H1 => s_X11_isWho l sc E R hE hR n p3 hp3 m8 r1 H1) ca_X11_352 rfl rfl (Nat.le_of_ble_eq_true rfl) (Nat.le_of_ble_eq_true rfl) (Nat.le_of_ble_eq_true rfl) (Nat.le_of_ble_eq_true rfl) dX11_reply_15 H (fun x15 m15 v15 hh15 H hp => ?_)
      refine cx_backI hp (fun hx15 => ?_)
      refine cx_if_eq (pc := 18) 31 hx15 dX11_reply_18 rfl H (fun H => ?_) (fun H => ?_)
      · -- 18: 31
        exact AW.sel [0] rfl (hj31 _ H)
      · -- 18: 21
        refine aw_iload (pc := 21) dX11_reply_21 rfl ?_
        refine cx_iconst (pc := 23) dX11_reply_23 ?_
        refine cx_iconst (pc := 24) dX11_reply_24 ?_
        refine cx_callS (pc := 25) (P := pI) (dC := 0) (mcC := 0) (msC := 0) [iv p4, iv 0, iv 1] (fun r1 H1 => s_X11_in l sc E R hE hR n p4 0 1 hp4 (inR_lit _ rfl) (inR_lit _ rfl) m15 r1 H1) ca_X11_106 rfl rfl (Nat.le_of_ble_eq_true rfl) (Nat.le_of_ble_eq_true rfl) (Nat.le_of_ble_eq_true rfl) (Nat.le_of_ble_eq_true rfl) dX11_reply_25 H (fun x25 m25 v25 hh25 H hp => ?_)
        refine cx_backI hp (fun hx25 => ?_)
        refine cx_if_ne (pc := 28) 37 hx25 dX11_reply_28 rfl H (fun H => ?_) (fun H => ?_)
        · -- 28: 31
          exact AW.sel [0] rfl (hj31 _ H)
        · -- 28: 37
          refine aw_aload_n (pc := 37) dX11_reply_37 rfl ?_
          refine cx_callV (pc := 38) (P := pV) (dC := 63) (mcC := 0) (msC := 0) [] hE r100 (fun r1 H1 => s_X11_gathers l sc E R hE hR n m25 r1 H1) ca_X11_333 rfl ⟨_, rfl, rfl⟩ rfl rfl (Nat.le_of_ble_eq_true rfl) (Nat.le_of_ble_eq_true rfl) (Nat.le_of_ble_eq_true rfl) (Nat.le_of_ble_eq_true rfl) dX11_reply_38 H (fun x38 m38 v38 hh38 H hp => ?_)
          refine cx_backV hp ?_
          refine aw_aload_n (pc := 41) dX11_reply_41 rfl ?_
          refine aw_aload_n (pc := 42) dX11_reply_42 rfl ?_
          refine cx_gtC (pc := 43) 129 hE r100 fl_X11_264 rfl rfl (Nat.le_of_ble_eq_true rfl) dX11_reply_43 ?_
          refine aw_iload_n (pc := 46) dX11_reply_46 rfl ?_
          refine cx_ldI (pc := 47) hE r129 hp1 dX11_reply_47 H (fun x47 hx47 H => ?_)
          refine aw_aload_n (pc := 48) dX11_reply_48 rfl ?_
          refine cx_gtC (pc := 49) 129 hE r100 fl_X11_264 rfl rfl (Nat.le_of_ble_eq_true rfl) dX11_reply_49 ?_
          refine aw_iload_n (pc := 52) dX11_reply_52 rfl ?_
          refine cx_ldI (pc := 53) hE r129 hp2 dX11_reply_53 H (fun x53 hx53 H => ?_)
          refine aw_iload_n (pc := 54) dX11_reply_54 rfl ?_
          refine cx_callV (pc := 55) (P := pI) (dC := 408) (mcC := 0) (msC := 0) [iv x47, iv x53, iv p3] hE r100 (fun r1 H1 => s_X11_replyIn l sc E R hE hR n x47 x53 p3 hx47 hx53 hp3 m38 r1 H1) ca_X11_380 rfl ⟨_, rfl, rfl⟩ rfl rfl (Nat.le_of_ble_eq_true rfl) (Nat.le_of_ble_eq_true rfl) (Nat.le_of_ble_eq_true rfl) (Nat.le_of_ble_eq_true rfl) dX11_reply_55 H (fun x55 m55 v55 hh55 H hp => ?_)
          refine cx_backI hp (fun hx55 => ?_)
          refine aw_istore (pc := 58) [(5, iv x55), (0, .ref 100), (1, iv p1), (2, iv p2), (3, iv p3), (4, iv p4)] dX11_reply_58 rfl (by decide) ?_
          refine aw_aload_n (pc := 60) dX11_reply_60 rfl ?_
          refine aw_aload_n (pc := 61) dX11_reply_61 rfl ?_
          refine cx_gtC (pc := 62) 129 hE r100 fl_X11_264 rfl rfl (Nat.le_of_ble_eq_true rfl) dX11_reply_62 ?_
          refine aw_iload_n (pc := 65) dX11_reply_65 rfl ?_
          refine cx_ldI (pc := 66) hE r129 hp1 dX11_reply_66 H (fun x66 hx66 H => ?_)
          refine aw_iload_n (pc := 67) dX11_reply_67 rfl ?_
          refine cx_callV (pc := 68) (P := pI) (dC := 0) (mcC := 0) (msC := 0) [iv x66, iv p3] hE r100 (fun r1 H1 => s_X11_optionMany l sc E R hE hR n x66 p3 hx66 hp3 m55 r1 H1) ca_X11_327 rfl ⟨_, rfl, rfl⟩ rfl rfl (Nat.le_of_ble_eq_true rfl) (Nat.le_of_ble_eq_true rfl) (Nat.le_of_ble_eq_true rfl) (Nat.le_of_ble_eq_true rfl) dX11_reply_68 H (fun x68 m68 v68 hh68 H hp => ?_)
          refine cx_backI hp (fun hx68 => ?_)
          refine aw_istore (pc := 71) [(6, iv x68), (5, iv x55), (0, .ref 100), (1, iv p1), (2, iv p2), (3, iv p3), (4, iv p4)] dX11_reply_71 rfl (by decide) ?_
          refine aw_iload (pc := 73) dX11_reply_73 rfl ?_
          refine cx_if_ge (pc := 75) 84 hx55 dX11_reply_75 rfl H (fun H => ?_) (fun H => ?_)
          · -- 75: 78
            refine aw_aload_n (pc := 78) dX11_reply_78 rfl ?_
            refine cx_iconst (pc := 79) dX11_reply_79 ?_
            refine cx_callV (pc := 80) (P := pI) (dC := 0) (mcC := 0) (msC := 0) [iv 2] hE r100 (fun r1 H1 => s_X11_no l sc E R hE hR n 2 (inR_lit _ rfl) m68 r1 H1) ca_X11_300 rfl ⟨_, rfl, rfl⟩ rfl rfl (Nat.le_of_ble_eq_true rfl) (Nat.le_of_ble_eq_true rfl) (Nat.le_of_ble_eq_true rfl) (Nat.le_of_ble_eq_true rfl) dX11_reply_80 H (fun x80 m80 v80 hh80 H hp => ?_)
            refine cx_backI hp (fun hx80 => ?_)
            exact cx_iret (pc := 83) hx80 rfl (Nat.le_of_ble_eq_true rfl) (Nat.le_of_ble_eq_true rfl) dX11_reply_83 H
          · -- 75: 84
            refine aw_iload (pc := 84) dX11_reply_84 rfl ?_
            refine jn_ind (fun (f9 : Int → Mem → Option Rz) => ∀ (s0_121 : Int) (m121 : Mem), inR s0_121 → f9 s0_121 m121 = some r → AW l D base sc RX11 yX11_reply cX11_reply 7 (some FieldType.int) 409 0 0 ad (E mi) (pI E r) 0 0 (E m121) 121 [] [iv s0_121]) (fun s0_121 m121 hs0_121 H => ?_) (fun j121 hj121 H => ?_) H
            · -- 121
              exact cx_iret (pc := 121) hs0_121 rfl (Nat.le_of_ble_eq_true rfl) (Nat.le_of_ble_eq_true rfl) dX11_reply_121 H
            refine cx_if_ne (pc := 86) 104 hp4 dX11_reply_86 rfl H (fun H => ?_) (fun H => ?_)
            · -- 86: 89
              refine aw_iload (pc := 89) dX11_reply_89 rfl ?_
              refine aw_iload (pc := 91) dX11_reply_91 rfl ?_
              refine cx_icmp_ge (pc := 93) 100 hx55 hx68 dX11_reply_93 rfl H (fun H => ?_) (fun H => ?_)
              · -- 93: 96
                refine cx_iconst (pc := 96) dX11_reply_96 ?_
                refine aw_goto (pc := 97) 121 dX11_reply_97 rfl ?_
                exact AW.sel [] rfl (hj121 _ _ (inR_lit _ rfl) H)
              · -- 93: 100
                refine cx_iconst (pc := 100) dX11_reply_100 ?_
                refine aw_goto (pc := 101) 121 dX11_reply_101 rfl ?_
                exact AW.sel [] rfl (hj121 _ _ (inR_lit _ rfl) H)
            · -- 86: 104
              refine aw_iload (pc := 104) dX11_reply_104 rfl ?_
              refine aw_iload (pc := 106) dX11_reply_106 rfl ?_
              refine cx_icmp_ge (pc := 108) 116 hx55 hx68 dX11_reply_108 rfl H (fun H => ?_) (fun H => ?_)
              · -- 108: 111
                refine aw_iload (pc := 111) dX11_reply_111 rfl ?_
                refine aw_goto (pc := 113) 121 dX11_reply_113 rfl ?_
                exact AW.sel [] rfl (hj121 _ _ hx55 H)
              · -- 108: 116
                refine aw_iload (pc := 116) dX11_reply_116 rfl ?_
                refine aw_iload (pc := 118) dX11_reply_118 rfl ?_
                refine cx_isub (pc := 120) dX11_reply_120 ?_
                exact AW.sel [] rfl (hj121 _ _ (inR_w32 _) H)
/-- X11 fight (IIII)I -/
def f_X11_fight (n : Nat) (p1 : Int) (p2 : Int) (p3 : Int) (p4 : Int) (mi : Mem) : Option Rz :=
  cal (f_X11_isSlot n p1 mi) fun x1 m1 =>
  jn (fun (m31 : Mem) =>
    cal (f_X11_no n 1 m31) fun x33 m33 =>
    rt x33 m33
  ) fun (j31 : Mem → Option Rz) =>
  if x1 = 0 then (
    j31 m1
  ) else
  cal (f_X11_isSlot n p2 m1) fun x8 m8 =>
  if x8 = 0 then (
    j31 m8
  ) else
  cal (f_X11_isWho n p3 m8) fun x15 m15 =>
  if x15 = 0 then (
    j31 m15
  ) else
  cal (f_X11_in n p4 0 1 m15) fun x25 m25 =>
  if x25 = 0 then (
    j31 m25
  ) else
  cal (f_X11_gathers n m25) fun _ m38 =>
  ldI m38 129 p1 fun x46 =>
  ldI m38 129 p2 fun x54 =>
  lp (F := Int → Int → Int → Int → Mem → Option Rz) (fun _ _ _ _ _ => none) (fun w63 v5_63 v6_63 v7_63 v8_63 m63 =>
    cal (f_X11_optionMany n v5_63 v7_63 m63) fun x68 m68 =>
    cal (f_X11_optionMany n v6_63 v7_63 m68) fun x76 m76 =>
    if 0 < w32 (x68 + x76) then (
      cal (f_X11_replyIn n v5_63 v6_63 v7_63 m76) fun x90 m90 =>
      jn (fun (s0_106 : Int) (m106 : Mem) =>
        cal (f_X11_optionMany n v5_63 v7_63 m106) fun x113 m113 =>
        jn (fun (v5_155 : Int) (v6_155 : Int) (m155 : Mem) =>
          nm (w32 (1 - v7_63)) fun z159 =>
          w63 v5_155 v6_155 z159 (w32 (v8_63 + 1)) m155
        ) fun (j155 : Int → Int → Mem → Option Rz) =>
        if s0_106 < x113 then (
          cal (f_X11_optionOf n v5_63 v7_63 s0_106 m113) fun x132 m132 =>
          j155 x132 v6_63 m132
        ) else
        cal (f_X11_optionOf n v6_63 v7_63 (w32 (s0_106 - x113)) m113) fun x150 m150 =>
        j155 v5_63 x150 m150
      ) fun (j106 : Int → Mem → Option Rz) =>
      if x90 < 0 then (
        j106 0 m90
      ) else
      j106 x90 m90
    ) else
    jn (fun (s0_179 : Int) (m179 : Mem) =>
      rt s0_179 m179
    ) fun (j179 : Int → Mem → Option Rz) =>
    if p4 = 0 then (
      j179 v7_63 m76
    ) else
    j179 v8_63 m76
  ) n x46 x54 p3 0 m38
set_option maxRecDepth 100000 in
set_option maxHeartbeats 4000000 in
theorem s_X11_fight (l : Launch) (sc : g_S) (E : Mem → g_H) (R : Nat → Prop) (hE : LE E R) (hR : RRF R) (n : Nat)  (p1 : Int) (p2 : Int) (p3 : Int) (p4 : Int) (hp1 : inR p1) (hp2 : inR p2) (hp3 : inR p3) (hp4 : inR p4) (mi : Mem) (r : Rz) (H : f_X11_fight n p1 p2 p3 p4 mi = some r) : AMet l sc yX11_fight cX11_fight 11 (some FieldType.int) 409 0 0 [.ref 100, iv p1, iv p2, iv p3, iv p4] (E mi) (pI E r) := by
  have r100 : R 100 := hR 100 (Nat.le_of_ble_eq_true rfl) (Nat.le_of_ble_eq_true rfl)
  have r129 : R 129 := hR 129 (Nat.le_of_ble_eq_true rfl) (Nat.le_of_ble_eq_true rfl)
  unfold f_X11_fight at H
  refine AMet.of (own := RX11) (by decide +kernel) rfl (Nat.le_of_ble_eq_true rfl) [(0, .ref 100), (1, iv p1), (2, iv p2), (3, iv p3), (4, iv p4)] rfl (fun D base ad => ?_)
  refine aw_iload_n (pc := 0) dX11_fight_0 rfl ?_
  refine cx_callS (pc := 1) (P := pI) (dC := 1) (mcC := 0) (msC := 0) [iv p1] (fun r1 H1 => s_X11_isSlot l sc E R hE hR n p1 hp1 mi r1 H1) ca_X11_324 rfl rfl (Nat.le_of_ble_eq_true rfl) (Nat.le_of_ble_eq_true rfl) (Nat.le_of_ble_eq_true rfl) (Nat.le_of_ble_eq_true rfl) dX11_fight_1 H (fun x1 m1 v1 hh1 H hp => ?_)
  refine cx_backI hp (fun hx1 => ?_)
  refine jn_ind (fun (f9 : Mem → Option Rz) => ∀ (m31 : Mem), f9 m31 = some r → AW l D base sc RX11 yX11_fight cX11_fight 11 (some FieldType.int) 409 0 0 ad (E mi) (pI E r) 0 0 (E m31) 31 [(0, .ref 100)] []) (fun m31 H => ?_) (fun j31 hj31 H => ?_) H
  · -- 31
    refine aw_aload_n (pc := 31) dX11_fight_31 rfl ?_
    refine cx_iconst (pc := 32) dX11_fight_32 ?_
    refine cx_callV (pc := 33) (P := pI) (dC := 0) (mcC := 0) (msC := 0) [iv 1] hE r100 (fun r1 H1 => s_X11_no l sc E R hE hR n 1 (inR_lit _ rfl) m31 r1 H1) ca_X11_300 rfl ⟨_, rfl, rfl⟩ rfl rfl (Nat.le_of_ble_eq_true rfl) (Nat.le_of_ble_eq_true rfl) (Nat.le_of_ble_eq_true rfl) (Nat.le_of_ble_eq_true rfl) dX11_fight_33 H (fun x33 m33 v33 hh33 H hp => ?_)
    refine cx_backI hp (fun hx33 => ?_)
    exact cx_iret (pc := 36) hx33 rfl (Nat.le_of_ble_eq_true rfl) (Nat.le_of_ble_eq_true rfl) dX11_fight_36 H
  refine cx_if_eq (pc := 4) 31 hx1 dX11_fight_4 rfl H (fun H => ?_) (fun H => ?_)
  · -- 4: 31
    exact AW.sel [0] rfl (hj31 _ H)
  · -- 4: 7
    refine aw_iload_n (pc := 7) dX11_fight_7 rfl ?_
    refine cx_callS (pc := 8) (P := pI) (dC := 1) (mcC := 0) (msC := 0) [iv p2] (fun r1 H1 => s_X11_isSlot l sc E R hE hR n p2 hp2 m1 r1 H1) ca_X11_324 rfl rfl (Nat.le_of_ble_eq_true rfl) (Nat.le_of_ble_eq_true rfl) (Nat.le_of_ble_eq_true rfl) (Nat.le_of_ble_eq_true rfl) dX11_fight_8 H (fun x8 m8 v8 hh8 H hp => ?_)
    refine cx_backI hp (fun hx8 => ?_)
    refine cx_if_eq (pc := 11) 31 hx8 dX11_fight_11 rfl H (fun H => ?_) (fun H => ?_)
    · -- 11: 31
      exact AW.sel [0] rfl (hj31 _ H)
    · -- 11: 14
      refine aw_iload_n (pc := 14) dX11_fight_14 rfl ?_
      refine cx_callS (pc := 15) (P := pI) (dC := 1) (mcC := 0) (msC := 0) [iv p3] (fun r1 H1 => s_X11_isWho l sc E R hE hR n p3 hp3 m8 r1 H1) ca_X11_352 rfl rfl (Nat.le_of_ble_eq_true rfl) (Nat.le_of_ble_eq_true rfl) (Nat.le_of_ble_eq_true rfl) (Nat.le_of_ble_eq_true rfl) dX11_fight_15 H (fun x15 m15 v15 hh15 H hp => ?_)
      refine cx_backI hp (fun hx15 => ?_)
      refine cx_if_eq (pc := 18) 31 hx15 dX11_fight_18 rfl H (fun H => ?_) (fun H => ?_)
      · -- 18: 31
        exact AW.sel [0] rfl (hj31 _ H)
      · -- 18: 21
        refine aw_iload (pc := 21) dX11_fight_21 rfl ?_
        refine cx_iconst (pc := 23) dX11_fight_23 ?_
        refine cx_iconst (pc := 24) dX11_fight_24 ?_
        refine cx_callS (pc := 25) (P := pI) (dC := 0) (mcC := 0) (msC := 0) [iv p4, iv 0, iv 1] (fun r1 H1 => s_X11_in l sc E R hE hR n p4 0 1 hp4 (inR_lit _ rfl) (inR_lit _ rfl) m15 r1 H1) ca_X11_106 rfl rfl (Nat.le_of_ble_eq_true rfl) (Nat.le_of_ble_eq_true rfl) (Nat.le_of_ble_eq_true rfl) (Nat.le_of_ble_eq_true rfl) dX11_fight_25 H (fun x25 m25 v25 hh25 H hp => ?_)
        refine cx_backI hp (fun hx25 => ?_)
        refine cx_if_ne (pc := 28) 37 hx25 dX11_fight_28 rfl H (fun H => ?_) (fun H => ?_)
        · -- 28: 31
          exact AW.sel [0] rfl (hj31 _ H)
        · -- 28: 37
          refine aw_aload_n (pc := 37) dX11_fight_37 rfl ?_
          refine cx_callV (pc := 38) (P := pV) (dC := 63) (mcC := 0) (msC := 0) [] hE r100 (fun r1 H1 => s_X11_gathers l sc E R hE hR n m25 r1 H1) ca_X11_333 rfl ⟨_, rfl, rfl⟩ rfl rfl (Nat.le_of_ble_eq_true rfl) (Nat.le_of_ble_eq_true rfl) (Nat.le_of_ble_eq_true rfl) (Nat.le_of_ble_eq_true rfl) dX11_fight_38 H (fun x38 m38 v38 hh38 H hp => ?_)
          refine cx_backV hp ?_
          refine aw_aload_n (pc := 41) dX11_fight_41 rfl ?_
          refine cx_gtC (pc := 42) 129 hE r100 fl_X11_264 rfl rfl (Nat.le_of_ble_eq_true rfl) dX11_fight_42 ?_
          refine aw_iload_n (pc := 45) dX11_fight_45 rfl ?_
          refine cx_ldI (pc := 46) hE r129 hp1 dX11_fight_46 H (fun x46 hx46 H => ?_)
          refine aw_istore (pc := 47) [(5, iv x46), (0, .ref 100), (1, iv p1), (2, iv p2), (3, iv p3), (4, iv p4)] dX11_fight_47 rfl (by decide) ?_
          refine aw_aload_n (pc := 49) dX11_fight_49 rfl ?_
          refine cx_gtC (pc := 50) 129 hE r100 fl_X11_264 rfl rfl (Nat.le_of_ble_eq_true rfl) dX11_fight_50 ?_
          refine aw_iload_n (pc := 53) dX11_fight_53 rfl ?_
          refine cx_ldI (pc := 54) hE r129 hp2 dX11_fight_54 H (fun x54 hx54 H => ?_)
          refine aw_istore (pc := 55) [(6, iv x54), (5, iv x46), (0, .ref 100), (1, iv p1), (2, iv p2), (3, iv p3), (4, iv p4)] dX11_fight_55 rfl (by decide) ?_
          refine aw_iload_n (pc := 57) dX11_fight_57 rfl ?_
          refine aw_istore (pc := 58) [(7, iv p3), (6, iv x54), (5, iv x46), (0, .ref 100), (1, iv p1), (2, iv p2), (3, iv p3), (4, iv p4)] dX11_fight_58 rfl (by decide) ?_
          refine cx_iconst (pc := 60) dX11_fight_60 ?_
          refine aw_istore (pc := 61) [(8, iv 0), (7, iv p3), (6, iv x54), (5, iv x46), (0, .ref 100), (1, iv p1), (2, iv p2), (3, iv p3), (4, iv p4)] dX11_fight_61 rfl (by decide) ?_
          refine AW.sel [4, 8, 3, 2, 1, 0] rfl (lp_ind (bot := fun _ _ _ _ _ => none) (fun (f9 : Int → Int → Int → Int → Mem → Option Rz) => ∀ (v5_63 : Int) (v6_63 : Int) (v7_63 : Int) (v8_63 : Int) (m63 : Mem), inR v5_63 → inR v6_63 → inR v7_63 → inR v8_63 → f9 v5_63 v6_63 v7_63 v8_63 m63 = some r → AW l D base sc RX11 yX11_fight cX11_fight 11 (some FieldType.int) 409 0 0 ad (E mi) (pI E r) 0 0 (E m63) 63 [(0, .ref 100), (4, iv p4), (5, iv v5_63), (6, iv v6_63), (7, iv v7_63), (8, iv v8_63)] []) (fun _ _ _ _ _ _ _ _ _ h9 => nomatch h9) (fun w63 ih63 v5_63 v6_63 v7_63 v8_63 m63 hv5_63 hv6_63 hv7_63 hv8_63 H => ?_) n _ _ _ _ _ hx46 hx54 hp3 (inR_lit _ rfl) H)
          refine aw_aload_n (pc := 63) dX11_fight_63 rfl ?_
          refine aw_iload (pc := 64) dX11_fight_64 rfl ?_
          refine aw_iload (pc := 66) dX11_fight_66 rfl ?_
          refine cx_callV (pc := 68) (P := pI) (dC := 0) (mcC := 0) (msC := 0) [iv v5_63, iv v7_63] hE r100 (fun r1 H1 => s_X11_optionMany l sc E R hE hR n v5_63 v7_63 hv5_63 hv7_63 m63 r1 H1) ca_X11_327 rfl ⟨_, rfl, rfl⟩ rfl rfl (Nat.le_of_ble_eq_true rfl) (Nat.le_of_ble_eq_true rfl) (Nat.le_of_ble_eq_true rfl) (Nat.le_of_ble_eq_true rfl) dX11_fight_68 H (fun x68 m68 v68 hh68 H hp => ?_)
          refine cx_backI hp (fun hx68 => ?_)
          refine aw_aload_n (pc := 71) dX11_fight_71 rfl ?_
          refine aw_iload (pc := 72) dX11_fight_72 rfl ?_
          refine aw_iload (pc := 74) dX11_fight_74 rfl ?_
          refine cx_callV (pc := 76) (P := pI) (dC := 0) (mcC := 0) (msC := 0) [iv v6_63, iv v7_63] hE r100 (fun r1 H1 => s_X11_optionMany l sc E R hE hR n v6_63 v7_63 hv6_63 hv7_63 m68 r1 H1) ca_X11_327 rfl ⟨_, rfl, rfl⟩ rfl rfl (Nat.le_of_ble_eq_true rfl) (Nat.le_of_ble_eq_true rfl) (Nat.le_of_ble_eq_true rfl) (Nat.le_of_ble_eq_true rfl) dX11_fight_76 H (fun x76 m76 v76 hh76 H hp => ?_)
          refine cx_backI hp (fun hx76 => ?_)
          refine cx_iadd (pc := 79) dX11_fight_79 ?_
          refine cx_if_le (pc := 80) 167 (inR_w32 _) dX11_fight_80 rfl H (fun H => ?_) (fun H => ?_)
          · -- 80: 83
            refine aw_aload_n (pc := 83) dX11_fight_83 rfl ?_
            refine aw_iload (pc := 84) dX11_fight_84 rfl ?_
            refine aw_iload (pc := 86) dX11_fight_86 rfl ?_
            refine aw_iload (pc := 88) dX11_fight_88 rfl ?_
            refine cx_callV (pc := 90) (P := pI) (dC := 408) (mcC := 0) (msC := 0) [iv v5_63, iv v6_63, iv v7_63] hE r100 (fun r1 H1 => s_X11_replyIn l sc E R hE hR n v5_63 v6_63 v7_63 hv5_63 hv6_63 hv7_63 m76 r1 H1) ca_X11_380 rfl ⟨_, rfl, rfl⟩ rfl rfl (Nat.le_of_ble_eq_true rfl) (Nat.le_of_ble_eq_true rfl) (Nat.le_of_ble_eq_true rfl) (Nat.le_of_ble_eq_true rfl) dX11_fight_90 H (fun x90 m90 v90 hh90 H hp => ?_)
            refine cx_backI hp (fun hx90 => ?_)
            refine aw_istore (pc := 93) [(9, iv x90), (0, .ref 100), (4, iv p4), (5, iv v5_63), (6, iv v6_63), (7, iv v7_63), (8, iv v8_63)] dX11_fight_93 rfl (by decide) ?_
            refine aw_iload (pc := 95) dX11_fight_95 rfl ?_
            refine jn_ind (fun (f9 : Int → Mem → Option Rz) => ∀ (s0_106 : Int) (m106 : Mem), inR s0_106 → f9 s0_106 m106 = some r → AW l D base sc RX11 yX11_fight cX11_fight 11 (some FieldType.int) 409 0 0 ad (E mi) (pI E r) 0 0 (E m106) 106 [(0, .ref 100), (4, iv p4), (5, iv v5_63), (6, iv v6_63), (7, iv v7_63), (8, iv v8_63)] [iv s0_106]) (fun s0_106 m106 hs0_106 H => ?_) (fun j106 hj106 H => ?_) H
            · -- 106
              refine aw_istore (pc := 106) [(9, iv s0_106), (0, .ref 100), (4, iv p4), (5, iv v5_63), (6, iv v6_63), (7, iv v7_63), (8, iv v8_63)] dX11_fight_106 rfl (by decide) ?_
              refine aw_aload_n (pc := 108) dX11_fight_108 rfl ?_
              refine aw_iload (pc := 109) dX11_fight_109 rfl ?_
              refine aw_iload (pc := 111) dX11_fight_111 rfl ?_
              refine cx_callV (pc := 113) (P := pI) (dC := 0) (mcC := 0) (msC := 0) [iv v5_63, iv v7_63] hE r100 (fun r1 H1 => s_X11_optionMany l sc E R hE hR n v5_63 v7_63 hv5_63 hv7_63 m106 r1 H1) ca_X11_327 rfl ⟨_, rfl, rfl⟩ rfl rfl (Nat.le_of_ble_eq_true rfl) (Nat.le_of_ble_eq_true rfl) (Nat.le_of_ble_eq_true rfl) (Nat.le_of_ble_eq_true rfl) dX11_fight_113 H (fun x113 m113 v113 hh113 H hp => ?_)
              refine cx_backI hp (fun hx113 => ?_)
              refine aw_istore (pc := 116) [(10, iv x113), (9, iv s0_106), (0, .ref 100), (4, iv p4), (5, iv v5_63), (6, iv v6_63), (7, iv v7_63), (8, iv v8_63)] dX11_fight_116 rfl (by decide) ?_
              refine aw_iload (pc := 118) dX11_fight_118 rfl ?_
              refine aw_iload (pc := 120) dX11_fight_120 rfl ?_
              refine jn_ind (fun (f9 : Int → Int → Mem → Option Rz) => ∀ (v5_155 : Int) (v6_155 : Int) (m155 : Mem), inR v5_155 → inR v6_155 → f9 v5_155 v6_155 m155 = some r → AW l D base sc RX11 yX11_fight cX11_fight 11 (some FieldType.int) 409 0 0 ad (E mi) (pI E r) 0 0 (E m155) 155 [(0, .ref 100), (4, iv p4), (5, iv v5_155), (6, iv v6_155), (7, iv v7_63), (8, iv v8_63)] []) (fun v5_155 v6_155 m155 hv5_155 hv6_155 H => ?_) (fun j155 hj155 H => ?_) H
              · -- 155
                refine cx_iconst (pc := 155) dX11_fight_155 ?_
                refine aw_iload (pc := 156) dX11_fight_156 rfl ?_
                refine cx_isub (pc := 158) dX11_fight_158 ?_
                refine cx_nm (inR_w32 _) H (fun z159 hz159 H => ?_)
                refine aw_istore (pc := 159) [(7, iv z159), (0, .ref 100), (4, iv p4), (5, iv v5_155), (6, iv v6_155), (8, iv v8_63)] dX11_fight_159 rfl (by decide) ?_
                refine cx_iinc (pc := 161) [(8, iv (w32 (v8_63 + 1))), (7, iv z159), (0, .ref 100), (4, iv p4), (5, iv v5_155), (6, iv v6_155)] dX11_fight_161 rfl rfl (by decide) ?_
                refine aw_goto (pc := 164) 63 dX11_fight_164 rfl ?_
                exact AW.sel [2, 3, 4, 5, 1, 0] rfl (ih63 _ _ _ _ _ hv5_155 hv6_155 hz159 (inR_w32 _) H)
              refine cx_icmp_ge (pc := 122) 140 hs0_106 hx113 dX11_fight_122 rfl H (fun H => ?_) (fun H => ?_)
              · -- 122: 125
                refine aw_aload_n (pc := 125) dX11_fight_125 rfl ?_
                refine aw_iload (pc := 126) dX11_fight_126 rfl ?_
                refine aw_iload (pc := 128) dX11_fight_128 rfl ?_
                refine aw_iload (pc := 130) dX11_fight_130 rfl ?_
                refine cx_callV (pc := 132) (P := pI) (dC := 127) (mcC := 0) (msC := 0) [iv v5_63, iv v7_63, iv s0_106] hE r100 (fun r1 H1 => s_X11_optionOf l sc E R hE hR n v5_63 v7_63 s0_106 hv5_63 hv7_63 hs0_106 m113 r1 H1) ca_X11_355 rfl ⟨_, rfl, rfl⟩ rfl rfl (Nat.le_of_ble_eq_true rfl) (Nat.le_of_ble_eq_true rfl) (Nat.le_of_ble_eq_true rfl) (Nat.le_of_ble_eq_true rfl) dX11_fight_132 H (fun x132 m132 v132 hh132 H hp => ?_)
                refine cx_backI hp (fun hx132 => ?_)
                refine aw_istore (pc := 135) [(5, iv x132), (10, iv x113), (9, iv s0_106), (0, .ref 100), (4, iv p4), (6, iv v6_63), (7, iv v7_63), (8, iv v8_63)] dX11_fight_135 rfl (by decide) ?_
                refine aw_goto (pc := 137) 155 dX11_fight_137 rfl ?_
                exact AW.sel [3, 4, 0, 5, 6, 7] rfl (hj155 _ _ _ hx132 hv6_63 H)
              · -- 122: 140
                refine aw_aload_n (pc := 140) dX11_fight_140 rfl ?_
                refine aw_iload (pc := 141) dX11_fight_141 rfl ?_
                refine aw_iload (pc := 143) dX11_fight_143 rfl ?_
                refine aw_iload (pc := 145) dX11_fight_145 rfl ?_
                refine aw_iload (pc := 147) dX11_fight_147 rfl ?_
                refine cx_isub (pc := 149) dX11_fight_149 ?_
                refine cx_callV (pc := 150) (P := pI) (dC := 127) (mcC := 0) (msC := 0) [iv v6_63, iv v7_63, iv (w32 (s0_106 - x113))] hE r100 (fun r1 H1 => s_X11_optionOf l sc E R hE hR n v6_63 v7_63 (w32 (s0_106 - x113)) hv6_63 hv7_63 (inR_w32 _) m113 r1 H1) ca_X11_355 rfl ⟨_, rfl, rfl⟩ rfl rfl (Nat.le_of_ble_eq_true rfl) (Nat.le_of_ble_eq_true rfl) (Nat.le_of_ble_eq_true rfl) (Nat.le_of_ble_eq_true rfl) dX11_fight_150 H (fun x150 m150 v150 hh150 H hp => ?_)
                refine cx_backI hp (fun hx150 => ?_)
                refine aw_istore (pc := 153) [(6, iv x150), (10, iv x113), (9, iv s0_106), (0, .ref 100), (4, iv p4), (5, iv v5_63), (7, iv v7_63), (8, iv v8_63)] dX11_fight_153 rfl (by decide) ?_
                exact AW.sel [3, 4, 5, 0, 6, 7] rfl (hj155 _ _ _ hv5_63 hx150 H)
            refine cx_if_ge (pc := 97) 104 hx90 dX11_fight_97 rfl H (fun H => ?_) (fun H => ?_)
            · -- 97: 100
              refine cx_iconst (pc := 100) dX11_fight_100 ?_
              refine aw_goto (pc := 101) 106 dX11_fight_101 rfl ?_
              exact AW.sel [1, 2, 3, 4, 5, 6] rfl (hj106 _ _ (inR_lit _ rfl) H)
            · -- 97: 104
              refine aw_iload (pc := 104) dX11_fight_104 rfl ?_
              exact AW.sel [1, 2, 3, 4, 5, 6] rfl (hj106 _ _ hx90 H)
          · -- 80: 167
            refine aw_iload (pc := 167) dX11_fight_167 rfl ?_
            refine jn_ind (fun (f9 : Int → Mem → Option Rz) => ∀ (s0_179 : Int) (m179 : Mem), inR s0_179 → f9 s0_179 m179 = some r → AW l D base sc RX11 yX11_fight cX11_fight 11 (some FieldType.int) 409 0 0 ad (E mi) (pI E r) 0 0 (E m179) 179 [] [iv s0_179]) (fun s0_179 m179 hs0_179 H => ?_) (fun j179 hj179 H => ?_) H
            · -- 179
              exact cx_iret (pc := 179) hs0_179 rfl (Nat.le_of_ble_eq_true rfl) (Nat.le_of_ble_eq_true rfl) dX11_fight_179 H
            refine cx_if_ne (pc := 169) 177 hp4 dX11_fight_169 rfl H (fun H => ?_) (fun H => ?_)
            · -- 169: 172
              refine aw_iload (pc := 172) dX11_fight_172 rfl ?_
              refine aw_goto (pc := 174) 179 dX11_fight_174 rfl ?_
              exact AW.sel [] rfl (hj179 _ _ hv7_63 H)
            · -- 169: 177
              refine aw_iload (pc := 177) dX11_fight_177 rfl ?_
              exact AW.sel [] rfl (hj179 _ _ hv8_63 H)
/-- X11 isSheet (I)Z -/
def f_X11_isSheet (n : Nat) (p0 : Int) (mi : Mem) : Option Rz :=
  cal (f_X11_in n p0 0 3 mi) fun x3 m3 =>
  rtZ x3 m3
set_option maxRecDepth 100000 in
set_option maxHeartbeats 4000000 in
theorem s_X11_isSheet (l : Launch) (sc : g_S) (E : Mem → g_H) (R : Nat → Prop) (hE : LE E R) (hR : RRF R) (n : Nat)  (p0 : Int) (hp0 : inR p0) (mi : Mem) (r : Rz) (H : f_X11_isSheet n p0 mi = some r) : AMet l sc yX11_isSheet cX11_isSheet 1 (some FieldType.boolean) 1 0 0 [iv p0] (E mi) (pI E r) := by
  unfold f_X11_isSheet at H
  refine AMet.of (own := RX11) (by decide +kernel) rfl (Nat.le_of_ble_eq_true rfl) [(0, iv p0)] rfl (fun D base ad => ?_)
  refine aw_iload_n (pc := 0) dX11_isSheet_0 rfl ?_
  refine cx_iconst (pc := 1) dX11_isSheet_1 ?_
  refine cx_iconst (pc := 2) dX11_isSheet_2 ?_
  refine cx_callS (pc := 3) (P := pI) (dC := 0) (mcC := 0) (msC := 0) [iv p0, iv 0, iv 3] (fun r1 H1 => s_X11_in l sc E R hE hR n p0 0 3 hp0 (inR_lit _ rfl) (inR_lit _ rfl) mi r1 H1) ca_X11_106 rfl rfl (Nat.le_of_ble_eq_true rfl) (Nat.le_of_ble_eq_true rfl) (Nat.le_of_ble_eq_true rfl) (Nat.le_of_ble_eq_true rfl) dX11_isSheet_3 H (fun x3 m3 v3 hh3 H hp => ?_)
  refine cx_backI hp (fun hx3 => ?_)
  exact cx_zret (pc := 6) rfl (Nat.le_of_ble_eq_true rfl) (Nat.le_of_ble_eq_true rfl) dX11_isSheet_6 H
/-- X11 plays (III)I -/
def f_X11_plays (n : Nat) (p1 : Int) (p2 : Int) (p3 : Int) (mi : Mem) : Option Rz :=
  cal (f_X11_isSheet n p1 mi) fun x1 m1 =>
  jn (fun (m23 : Mem) =>
    cal (f_X11_no n 1 m23) fun x25 m25 =>
    rt x25 m25
  ) fun (j23 : Mem → Option Rz) =>
  if x1 = 0 then (
    j23 m1
  ) else
  cal (f_X11_isSlot n p2 m1) fun x8 m8 =>
  if x8 = 0 then (
    j23 m8
  ) else
  cal (f_X11_in n p3 0 1 m8) fun x17 m17 =>
  if x17 = 0 then (
    j23 m17
  ) else
  ldI m17 137 p1 fun x34 =>
  if x34 = 0 then (
    cal (f_X11_no n 6 m17) fun x41 m41 =>
    rt x41 m41
  ) else
  ldI m17 129 p2 fun x50 =>
  lp (F := Int → Int → Mem → Option Rz) (fun _ _ _ => none) (fun w56 v4_56 v5_56 m56 =>
    ldI m56 138 p1 fun x63 =>
    jn (fun (m128 : Mem) =>
      jn (fun (s0_144 : Int) (m144 : Mem) =>
        rt s0_144 m144
      ) fun (j144 : Int → Mem → Option Rz) =>
      if p3 = 0 then (
        j144 v5_56 m128
      ) else
      cal (f_X11_orderOf n v4_56 0 m128) fun x141 m141 =>
      j144 x141 m141
    ) fun (j128 : Mem → Option Rz) =>
    if v5_56 < x63 then (
      ldI m56 139 (w32 ((w32 (24 * p1)) + v5_56)) fun x78 =>
      ok0 (2 ≠ 0) <|
      cal (f_X11_optionMany n v4_56 (irem v5_56 2) m56) fun x87 m87 =>
      cal (f_X11_in n x78 0 (w32 (x87 - 1)) m87) fun x92 m92 =>
      if x92 = 0 then (
        j128 m92
      ) else
      ok0 (2 ≠ 0) <|
      ldI m92 139 (w32 ((w32 (24 * p1)) + v5_56)) fun x116 =>
      cal (f_X11_optionOf n v4_56 (irem v5_56 2) x116 m92) fun x117 m117 =>
      w56 x117 (w32 (v5_56 + 1)) m117
    ) else
    j128 m56
  ) n x50 0 m17
set_option maxRecDepth 100000 in
set_option maxHeartbeats 4000000 in
theorem s_X11_plays (l : Launch) (sc : g_S) (E : Mem → g_H) (R : Nat → Prop) (hE : LE E R) (hR : RRF R) (n : Nat)  (p1 : Int) (p2 : Int) (p3 : Int) (hp1 : inR p1) (hp2 : inR p2) (hp3 : inR p3) (mi : Mem) (r : Rz) (H : f_X11_plays n p1 p2 p3 mi = some r) : AMet l sc yX11_plays cX11_plays 6 (some FieldType.int) 203 0 0 [.ref 100, iv p1, iv p2, iv p3] (E mi) (pI E r) := by
  have r100 : R 100 := hR 100 (Nat.le_of_ble_eq_true rfl) (Nat.le_of_ble_eq_true rfl)
  have r129 : R 129 := hR 129 (Nat.le_of_ble_eq_true rfl) (Nat.le_of_ble_eq_true rfl)
  have r137 : R 137 := hR 137 (Nat.le_of_ble_eq_true rfl) (Nat.le_of_ble_eq_true rfl)
  have r138 : R 138 := hR 138 (Nat.le_of_ble_eq_true rfl) (Nat.le_of_ble_eq_true rfl)
  have r139 : R 139 := hR 139 (Nat.le_of_ble_eq_true rfl) (Nat.le_of_ble_eq_true rfl)
  unfold f_X11_plays at H
  refine AMet.of (own := RX11) (by decide +kernel) rfl (Nat.le_of_ble_eq_true rfl) [(0, .ref 100), (1, iv p1), (2, iv p2), (3, iv p3)] rfl (fun D base ad => ?_)
  refine aw_iload_n (pc := 0) dX11_plays_0 rfl ?_
  refine cx_callS (pc := 1) (P := pI) (dC := 1) (mcC := 0) (msC := 0) [iv p1] (fun r1 H1 => s_X11_isSheet l sc E R hE hR n p1 hp1 mi r1 H1) ca_X11_383 rfl rfl (Nat.le_of_ble_eq_true rfl) (Nat.le_of_ble_eq_true rfl) (Nat.le_of_ble_eq_true rfl) (Nat.le_of_ble_eq_true rfl) dX11_plays_1 H (fun x1 m1 v1 hh1 H hp => ?_)
  refine cx_backI hp (fun hx1 => ?_)
  refine jn_ind (fun (f9 : Mem → Option Rz) => ∀ (m23 : Mem), f9 m23 = some r → AW l D base sc RX11 yX11_plays cX11_plays 6 (some FieldType.int) 203 0 0 ad (E mi) (pI E r) 0 0 (E m23) 23 [(0, .ref 100)] []) (fun m23 H => ?_) (fun j23 hj23 H => ?_) H
  · -- 23
    refine aw_aload_n (pc := 23) dX11_plays_23 rfl ?_
    refine cx_iconst (pc := 24) dX11_plays_24 ?_
    refine cx_callV (pc := 25) (P := pI) (dC := 0) (mcC := 0) (msC := 0) [iv 1] hE r100 (fun r1 H1 => s_X11_no l sc E R hE hR n 1 (inR_lit _ rfl) m23 r1 H1) ca_X11_300 rfl ⟨_, rfl, rfl⟩ rfl rfl (Nat.le_of_ble_eq_true rfl) (Nat.le_of_ble_eq_true rfl) (Nat.le_of_ble_eq_true rfl) (Nat.le_of_ble_eq_true rfl) dX11_plays_25 H (fun x25 m25 v25 hh25 H hp => ?_)
    refine cx_backI hp (fun hx25 => ?_)
    exact cx_iret (pc := 28) hx25 rfl (Nat.le_of_ble_eq_true rfl) (Nat.le_of_ble_eq_true rfl) dX11_plays_28 H
  refine cx_if_eq (pc := 4) 23 hx1 dX11_plays_4 rfl H (fun H => ?_) (fun H => ?_)
  · -- 4: 23
    exact AW.sel [0] rfl (hj23 _ H)
  · -- 4: 7
    refine aw_iload_n (pc := 7) dX11_plays_7 rfl ?_
    refine cx_callS (pc := 8) (P := pI) (dC := 1) (mcC := 0) (msC := 0) [iv p2] (fun r1 H1 => s_X11_isSlot l sc E R hE hR n p2 hp2 m1 r1 H1) ca_X11_324 rfl rfl (Nat.le_of_ble_eq_true rfl) (Nat.le_of_ble_eq_true rfl) (Nat.le_of_ble_eq_true rfl) (Nat.le_of_ble_eq_true rfl) dX11_plays_8 H (fun x8 m8 v8 hh8 H hp => ?_)
    refine cx_backI hp (fun hx8 => ?_)
    refine cx_if_eq (pc := 11) 23 hx8 dX11_plays_11 rfl H (fun H => ?_) (fun H => ?_)
    · -- 11: 23
      exact AW.sel [0] rfl (hj23 _ H)
    · -- 11: 14
      refine aw_iload_n (pc := 14) dX11_plays_14 rfl ?_
      refine cx_iconst (pc := 15) dX11_plays_15 ?_
      refine cx_iconst (pc := 16) dX11_plays_16 ?_
      refine cx_callS (pc := 17) (P := pI) (dC := 0) (mcC := 0) (msC := 0) [iv p3, iv 0, iv 1] (fun r1 H1 => s_X11_in l sc E R hE hR n p3 0 1 hp3 (inR_lit _ rfl) (inR_lit _ rfl) m8 r1 H1) ca_X11_106 rfl rfl (Nat.le_of_ble_eq_true rfl) (Nat.le_of_ble_eq_true rfl) (Nat.le_of_ble_eq_true rfl) (Nat.le_of_ble_eq_true rfl) dX11_plays_17 H (fun x17 m17 v17 hh17 H hp => ?_)
      refine cx_backI hp (fun hx17 => ?_)
      refine cx_if_ne (pc := 20) 29 hx17 dX11_plays_20 rfl H (fun H => ?_) (fun H => ?_)
      · -- 20: 23
        exact AW.sel [0] rfl (hj23 _ H)
      · -- 20: 29
        refine aw_aload_n (pc := 29) dX11_plays_29 rfl ?_
        refine cx_gtC (pc := 30) 137 hE r100 fl_X11_288 rfl rfl (Nat.le_of_ble_eq_true rfl) dX11_plays_30 ?_
        refine aw_iload_n (pc := 33) dX11_plays_33 rfl ?_
        refine cx_ldI (pc := 34) hE r137 hp1 dX11_plays_34 H (fun x34 hx34 H => ?_)
        refine cx_if_ne (pc := 35) 45 hx34 dX11_plays_35 rfl H (fun H => ?_) (fun H => ?_)
        · -- 35: 38
          refine aw_aload_n (pc := 38) dX11_plays_38 rfl ?_
          refine cx_bipush (pc := 39) dX11_plays_39 (by decide) ?_
          refine cx_callV (pc := 41) (P := pI) (dC := 0) (mcC := 0) (msC := 0) [iv 6] hE r100 (fun r1 H1 => s_X11_no l sc E R hE hR n 6 (inR_lit _ rfl) m17 r1 H1) ca_X11_300 rfl ⟨_, rfl, rfl⟩ rfl rfl (Nat.le_of_ble_eq_true rfl) (Nat.le_of_ble_eq_true rfl) (Nat.le_of_ble_eq_true rfl) (Nat.le_of_ble_eq_true rfl) dX11_plays_41 H (fun x41 m41 v41 hh41 H hp => ?_)
          refine cx_backI hp (fun hx41 => ?_)
          exact cx_iret (pc := 44) hx41 rfl (Nat.le_of_ble_eq_true rfl) (Nat.le_of_ble_eq_true rfl) dX11_plays_44 H
        · -- 35: 45
          refine aw_aload_n (pc := 45) dX11_plays_45 rfl ?_
          refine cx_gtC (pc := 46) 129 hE r100 fl_X11_264 rfl rfl (Nat.le_of_ble_eq_true rfl) dX11_plays_46 ?_
          refine aw_iload_n (pc := 49) dX11_plays_49 rfl ?_
          refine cx_ldI (pc := 50) hE r129 hp2 dX11_plays_50 H (fun x50 hx50 H => ?_)
          refine aw_istore (pc := 51) [(4, iv x50), (0, .ref 100), (1, iv p1), (2, iv p2), (3, iv p3)] dX11_plays_51 rfl (by decide) ?_
          refine cx_iconst (pc := 53) dX11_plays_53 ?_
          refine aw_istore (pc := 54) [(5, iv 0), (4, iv x50), (0, .ref 100), (1, iv p1), (2, iv p2), (3, iv p3)] dX11_plays_54 rfl (by decide) ?_
          refine AW.sel [2, 3, 5, 1, 0] rfl (lp_ind (bot := fun _ _ _ => none) (fun (f9 : Int → Int → Mem → Option Rz) => ∀ (v4_56 : Int) (v5_56 : Int) (m56 : Mem), inR v4_56 → inR v5_56 → f9 v4_56 v5_56 m56 = some r → AW l D base sc RX11 yX11_plays cX11_plays 6 (some FieldType.int) 203 0 0 ad (E mi) (pI E r) 0 0 (E m56) 56 [(0, .ref 100), (1, iv p1), (3, iv p3), (4, iv v4_56), (5, iv v5_56)] []) (fun _ _ _ _ _ h9 => nomatch h9) (fun w56 ih56 v4_56 v5_56 m56 hv4_56 hv5_56 H => ?_) n _ _ _ hx50 (inR_lit _ rfl) H)
          refine aw_iload (pc := 56) dX11_plays_56 rfl ?_
          refine aw_aload_n (pc := 58) dX11_plays_58 rfl ?_
          refine cx_gtC (pc := 59) 138 hE r100 fl_X11_291 rfl rfl (Nat.le_of_ble_eq_true rfl) dX11_plays_59 ?_
          refine aw_iload_n (pc := 62) dX11_plays_62 rfl ?_
          refine cx_ldI (pc := 63) hE r138 hp1 dX11_plays_63 H (fun x63 hx63 H => ?_)
          refine jn_ind (fun (f9 : Mem → Option Rz) => ∀ (m128 : Mem), f9 m128 = some r → AW l D base sc RX11 yX11_plays cX11_plays 6 (some FieldType.int) 203 0 0 ad (E mi) (pI E r) 0 0 (E m128) 128 [(0, .ref 100), (3, iv p3), (4, iv v4_56), (5, iv v5_56)] []) (fun m128 H => ?_) (fun j128 hj128 H => ?_) H
          · -- 128
            refine aw_iload_n (pc := 128) dX11_plays_128 rfl ?_
            refine jn_ind (fun (f9 : Int → Mem → Option Rz) => ∀ (s0_144 : Int) (m144 : Mem), inR s0_144 → f9 s0_144 m144 = some r → AW l D base sc RX11 yX11_plays cX11_plays 6 (some FieldType.int) 203 0 0 ad (E mi) (pI E r) 0 0 (E m144) 144 [] [iv s0_144]) (fun s0_144 m144 hs0_144 H => ?_) (fun j144 hj144 H => ?_) H
            · -- 144
              exact cx_iret (pc := 144) hs0_144 rfl (Nat.le_of_ble_eq_true rfl) (Nat.le_of_ble_eq_true rfl) dX11_plays_144 H
            refine cx_if_ne (pc := 129) 137 hp3 dX11_plays_129 rfl H (fun H => ?_) (fun H => ?_)
            · -- 129: 132
              refine aw_iload (pc := 132) dX11_plays_132 rfl ?_
              refine aw_goto (pc := 134) 144 dX11_plays_134 rfl ?_
              exact AW.sel [] rfl (hj144 _ _ hv5_56 H)
            · -- 129: 137
              refine aw_aload_n (pc := 137) dX11_plays_137 rfl ?_
              refine aw_iload (pc := 138) dX11_plays_138 rfl ?_
              refine cx_iconst (pc := 140) dX11_plays_140 ?_
              refine cx_callV (pc := 141) (P := pI) (dC := 202) (mcC := 0) (msC := 0) [iv v4_56, iv 0] hE r100 (fun r1 H1 => s_X11_orderOf l sc E R hE hR n v4_56 0 hv4_56 (inR_lit _ rfl) m128 r1 H1) ca_X11_330 rfl ⟨_, rfl, rfl⟩ rfl rfl (Nat.le_of_ble_eq_true rfl) (Nat.le_of_ble_eq_true rfl) (Nat.le_of_ble_eq_true rfl) (Nat.le_of_ble_eq_true rfl) dX11_plays_141 H (fun x141 m141 v141 hh141 H hp => ?_)
              refine cx_backI hp (fun hx141 => ?_)
              exact AW.sel [] rfl (hj144 _ _ hx141 H)
          refine cx_icmp_ge (pc := 64) 128 hv5_56 hx63 dX11_plays_64 rfl H (fun H => ?_) (fun H => ?_)
          · -- 64: 67
            refine aw_aload_n (pc := 67) dX11_plays_67 rfl ?_
            refine cx_gtC (pc := 68) 139 hE r100 fl_X11_294 rfl rfl (Nat.le_of_ble_eq_true rfl) dX11_plays_68 ?_
            refine cx_bipush (pc := 71) dX11_plays_71 (by decide) ?_
            refine aw_iload_n (pc := 73) dX11_plays_73 rfl ?_
            refine cx_imul (pc := 74) dX11_plays_74 ?_
            refine aw_iload (pc := 75) dX11_plays_75 rfl ?_
            refine cx_iadd (pc := 77) dX11_plays_77 ?_
            refine cx_ldI (pc := 78) hE r139 (inR_w32 _) dX11_plays_78 H (fun x78 hx78 H => ?_)
            refine cx_iconst (pc := 79) dX11_plays_79 ?_
            refine aw_aload_n (pc := 80) dX11_plays_80 rfl ?_
            refine aw_iload (pc := 81) dX11_plays_81 rfl ?_
            refine aw_iload (pc := 83) dX11_plays_83 rfl ?_
            refine cx_iconst (pc := 85) dX11_plays_85 ?_
            refine cx_irem (pc := 86) (inR_lit _ rfl) dX11_plays_86 H (fun H => ?_)
            refine cx_callV (pc := 87) (P := pI) (dC := 0) (mcC := 0) (msC := 0) [iv v4_56, iv (irem v5_56 2)] hE r100 (fun r1 H1 => s_X11_optionMany l sc E R hE hR n v4_56 (irem v5_56 2) hv4_56 (inR_32 _) m56 r1 H1) ca_X11_327 rfl ⟨_, rfl, rfl⟩ rfl rfl (Nat.le_of_ble_eq_true rfl) (Nat.le_of_ble_eq_true rfl) (Nat.le_of_ble_eq_true rfl) (Nat.le_of_ble_eq_true rfl) dX11_plays_87 H (fun x87 m87 v87 hh87 H hp => ?_)
            refine cx_backI hp (fun hx87 => ?_)
            refine cx_iconst (pc := 90) dX11_plays_90 ?_
            refine cx_isub (pc := 91) dX11_plays_91 ?_
            refine cx_callS (pc := 92) (P := pI) (dC := 0) (mcC := 0) (msC := 0) [iv x78, iv 0, iv (w32 (x87 - 1))] (fun r1 H1 => s_X11_in l sc E R hE hR n x78 0 (w32 (x87 - 1)) hx78 (inR_lit _ rfl) (inR_w32 _) m87 r1 H1) ca_X11_106 rfl rfl (Nat.le_of_ble_eq_true rfl) (Nat.le_of_ble_eq_true rfl) (Nat.le_of_ble_eq_true rfl) (Nat.le_of_ble_eq_true rfl) dX11_plays_92 H (fun x92 m92 v92 hh92 H hp => ?_)
            refine cx_backI hp (fun hx92 => ?_)
            refine cx_if_eq (pc := 95) 128 hx92 dX11_plays_95 rfl H (fun H => ?_) (fun H => ?_)
            · -- 95: 128
              exact AW.sel [0, 2, 3, 4] rfl (hj128 _ H)
            · -- 95: 98
              refine aw_aload_n (pc := 98) dX11_plays_98 rfl ?_
              refine aw_iload (pc := 99) dX11_plays_99 rfl ?_
              refine aw_iload (pc := 101) dX11_plays_101 rfl ?_
              refine cx_iconst (pc := 103) dX11_plays_103 ?_
              refine cx_irem (pc := 104) (inR_lit _ rfl) dX11_plays_104 H (fun H => ?_)
              refine aw_aload_n (pc := 105) dX11_plays_105 rfl ?_
              refine cx_gtC (pc := 106) 139 hE r100 fl_X11_294 rfl rfl (Nat.le_of_ble_eq_true rfl) dX11_plays_106 ?_
              refine cx_bipush (pc := 109) dX11_plays_109 (by decide) ?_
              refine aw_iload_n (pc := 111) dX11_plays_111 rfl ?_
              refine cx_imul (pc := 112) dX11_plays_112 ?_
              refine aw_iload (pc := 113) dX11_plays_113 rfl ?_
              refine cx_iadd (pc := 115) dX11_plays_115 ?_
              refine cx_ldI (pc := 116) hE r139 (inR_w32 _) dX11_plays_116 H (fun x116 hx116 H => ?_)
              refine cx_callV (pc := 117) (P := pI) (dC := 127) (mcC := 0) (msC := 0) [iv v4_56, iv (irem v5_56 2), iv x116] hE r100 (fun r1 H1 => s_X11_optionOf l sc E R hE hR n v4_56 (irem v5_56 2) x116 hv4_56 (inR_32 _) hx116 m92 r1 H1) ca_X11_355 rfl ⟨_, rfl, rfl⟩ rfl rfl (Nat.le_of_ble_eq_true rfl) (Nat.le_of_ble_eq_true rfl) (Nat.le_of_ble_eq_true rfl) (Nat.le_of_ble_eq_true rfl) dX11_plays_117 H (fun x117 m117 v117 hh117 H hp => ?_)
              refine cx_backI hp (fun hx117 => ?_)
              refine aw_istore (pc := 120) [(4, iv x117), (0, .ref 100), (1, iv p1), (3, iv p3), (5, iv v5_56)] dX11_plays_120 rfl (by decide) ?_
              refine cx_iinc (pc := 122) [(5, iv (w32 (v5_56 + 1))), (4, iv x117), (0, .ref 100), (1, iv p1), (3, iv p3)] dX11_plays_122 rfl rfl (by decide) ?_
              refine aw_goto (pc := 125) 56 dX11_plays_125 rfl ?_
              exact AW.sel [2, 3, 4, 1, 0] rfl (ih56 _ _ _ hx117 (inR_w32 _) H)
          · -- 64: 128
            exact AW.sel [0, 2, 3, 4] rfl (hj128 _ H)
/-- X11 areApart (II)Z -/
def f_X11_areApart (n : Nat) (p1 : Int) (p2 : Int) (mi : Mem) : Option Rz :=
  lp (F := Int → Int → Mem → Option Rz) (fun _ _ _ => none) (fun w5 v3_5 v4_5 m5 =>
    jn (fun (m92 : Mem) =>
      rtZ v3_5 m92
    ) fun (j92 : Mem → Option Rz) =>
    if v4_5 < p2 then (
      if v3_5 = 0 then (
        j92 m5
      ) else
      lp (F := Int → Int → Mem → Option Rz) (fun _ _ _ => none) (fun w18 v3_18 v5_18 m18 =>
        jn (fun (m86 : Mem) =>
          w5 v3_18 (w32 (v4_5 + 1)) m86
        ) fun (j86 : Mem → Option Rz) =>
        if v5_18 < p2 then (
          if v3_18 = 0 then (
            j86 m18
          ) else
          jn (fun (s0_79 : Int) (m79 : Mem) =>
            w18 s0_79 (w32 (v5_18 + 1)) m79
          ) fun (j79 : Int → Mem → Option Rz) =>
          jn (fun (m74 : Mem) =>
            j79 1 m74
          ) fun (j74 : Mem → Option Rz) =>
          if v4_5 = v5_18 then (
            j74 m18
          ) else
          if iand (ishr p1 v4_5) 1 = 0 then (
            j74 m18
          ) else
          if iand (ishr p1 v5_18) 1 = 0 then (
            j74 m18
          ) else
          ldI m18 134 v4_5 fun x60 =>
          ldI m18 134 v5_18 fun x67 =>
          cal (f_X11_atMost n x60 x67 m18) fun x68 m68 =>
          if x68 = 0 then (
            j74 m68
          ) else
          j79 0 m68
        ) else
        j86 m18
      ) n v3_5 0 m5
    ) else
    j92 m5
  ) n 1 0 mi
set_option maxRecDepth 100000 in
set_option maxHeartbeats 4000000 in
theorem s_X11_areApart (l : Launch) (sc : g_S) (E : Mem → g_H) (R : Nat → Prop) (hE : LE E R) (hR : RRF R) (n : Nat)  (p1 : Int) (p2 : Int) (hp1 : inR p1) (hp2 : inR p2) (mi : Mem) (r : Rz) (H : f_X11_areApart n p1 p2 mi = some r) : AMet l sc yX11_areApart cX11_areApart 6 (some FieldType.boolean) 202 0 0 [.ref 100, iv p1, iv p2] (E mi) (pI E r) := by
  have r100 : R 100 := hR 100 (Nat.le_of_ble_eq_true rfl) (Nat.le_of_ble_eq_true rfl)
  have r134 : R 134 := hR 134 (Nat.le_of_ble_eq_true rfl) (Nat.le_of_ble_eq_true rfl)
  unfold f_X11_areApart at H
  refine AMet.of (own := RX11) (by decide +kernel) rfl (Nat.le_of_ble_eq_true rfl) [(0, .ref 100), (1, iv p1), (2, iv p2)] rfl (fun D base ad => ?_)
  refine cx_iconst (pc := 0) dX11_areApart_0 ?_
  refine aw_istore_n (pc := 1) [(3, iv 1), (0, .ref 100), (1, iv p1), (2, iv p2)] dX11_areApart_1 rfl (by decide) ?_
  refine cx_iconst (pc := 2) dX11_areApart_2 ?_
  refine aw_istore (pc := 3) [(4, iv 0), (3, iv 1), (0, .ref 100), (1, iv p1), (2, iv p2)] dX11_areApart_3 rfl (by decide) ?_
  refine AW.sel [2, 3, 4, 1, 0] rfl (lp_ind (bot := fun _ _ _ => none) (fun (f9 : Int → Int → Mem → Option Rz) => ∀ (v3_5 : Int) (v4_5 : Int) (m5 : Mem), inR v3_5 → inR v4_5 → f9 v3_5 v4_5 m5 = some r → AW l D base sc RX11 yX11_areApart cX11_areApart 6 (some FieldType.boolean) 202 0 0 ad (E mi) (pI E r) 0 0 (E m5) 5 [(0, .ref 100), (1, iv p1), (2, iv p2), (3, iv v3_5), (4, iv v4_5)] []) (fun _ _ _ _ _ h9 => nomatch h9) (fun w5 ih5 v3_5 v4_5 m5 hv3_5 hv4_5 H => ?_) n _ _ _ (inR_lit _ rfl) (inR_lit _ rfl) H)
  refine aw_iload (pc := 5) dX11_areApart_5 rfl ?_
  refine aw_iload_n (pc := 7) dX11_areApart_7 rfl ?_
  refine jn_ind (fun (f9 : Mem → Option Rz) => ∀ (m92 : Mem), f9 m92 = some r → AW l D base sc RX11 yX11_areApart cX11_areApart 6 (some FieldType.boolean) 202 0 0 ad (E mi) (pI E r) 0 0 (E m92) 92 [(3, iv v3_5)] []) (fun m92 H => ?_) (fun j92 hj92 H => ?_) H
  · -- 92
    refine aw_iload_n (pc := 92) dX11_areApart_92 rfl ?_
    exact cx_zret (pc := 93) rfl (Nat.le_of_ble_eq_true rfl) (Nat.le_of_ble_eq_true rfl) dX11_areApart_93 H
  refine cx_icmp_ge (pc := 8) 92 hv4_5 hp2 dX11_areApart_8 rfl H (fun H => ?_) (fun H => ?_)
  · -- 8: 11
    refine aw_iload_n (pc := 11) dX11_areApart_11 rfl ?_
    refine cx_if_eq (pc := 12) 92 hv3_5 dX11_areApart_12 rfl H (fun H => ?_) (fun H => ?_)
    · -- 12: 92
      exact AW.sel [3] rfl (hj92 _ H)
    · -- 12: 15
      refine cx_iconst (pc := 15) dX11_areApart_15 ?_
      refine aw_istore (pc := 16) [(5, iv 0), (0, .ref 100), (1, iv p1), (2, iv p2), (3, iv v3_5), (4, iv v4_5)] dX11_areApart_16 rfl (by decide) ?_
      refine AW.sel [1, 2, 3, 4, 5, 0] rfl (lp_ind (bot := fun _ _ _ => none) (fun (f9 : Int → Int → Mem → Option Rz) => ∀ (v3_18 : Int) (v5_18 : Int) (m18 : Mem), inR v3_18 → inR v5_18 → f9 v3_18 v5_18 m18 = some r → AW l D base sc RX11 yX11_areApart cX11_areApart 6 (some FieldType.boolean) 202 0 0 ad (E mi) (pI E r) 0 0 (E m18) 18 [(0, .ref 100), (1, iv p1), (2, iv p2), (3, iv v3_18), (4, iv v4_5), (5, iv v5_18)] []) (fun _ _ _ _ _ h9 => nomatch h9) (fun w18 ih18 v3_18 v5_18 m18 hv3_18 hv5_18 H => ?_) n _ _ _ hv3_5 (inR_lit _ rfl) H)
      refine aw_iload (pc := 18) dX11_areApart_18 rfl ?_
      refine aw_iload_n (pc := 20) dX11_areApart_20 rfl ?_
      refine jn_ind (fun (f9 : Mem → Option Rz) => ∀ (m86 : Mem), f9 m86 = some r → AW l D base sc RX11 yX11_areApart cX11_areApart 6 (some FieldType.boolean) 202 0 0 ad (E mi) (pI E r) 0 0 (E m86) 86 [(0, .ref 100), (1, iv p1), (2, iv p2), (3, iv v3_18), (4, iv v4_5)] []) (fun m86 H => ?_) (fun j86 hj86 H => ?_) H
      · -- 86
        refine cx_iinc (pc := 86) [(4, iv (w32 (v4_5 + 1))), (0, .ref 100), (1, iv p1), (2, iv p2), (3, iv v3_18)] dX11_areApart_86 rfl rfl (by decide) ?_
        refine aw_goto (pc := 89) 5 dX11_areApart_89 rfl ?_
        exact AW.sel [1, 2, 3, 4, 0] rfl (ih5 _ _ _ hv3_18 (inR_w32 _) H)
      refine cx_icmp_ge (pc := 21) 86 hv5_18 hp2 dX11_areApart_21 rfl H (fun H => ?_) (fun H => ?_)
      · -- 21: 24
        refine aw_iload_n (pc := 24) dX11_areApart_24 rfl ?_
        refine cx_if_eq (pc := 25) 86 hv3_18 dX11_areApart_25 rfl H (fun H => ?_) (fun H => ?_)
        · -- 25: 86
          exact AW.sel [0, 1, 2, 3, 4] rfl (hj86 _ H)
        · -- 25: 28
          refine aw_iload (pc := 28) dX11_areApart_28 rfl ?_
          refine aw_iload (pc := 30) dX11_areApart_30 rfl ?_
          refine jn_ind (fun (f9 : Int → Mem → Option Rz) => ∀ (s0_79 : Int) (m79 : Mem), inR s0_79 → f9 s0_79 m79 = some r → AW l D base sc RX11 yX11_areApart cX11_areApart 6 (some FieldType.boolean) 202 0 0 ad (E mi) (pI E r) 0 0 (E m79) 79 [(0, .ref 100), (1, iv p1), (2, iv p2), (4, iv v4_5), (5, iv v5_18)] [iv s0_79]) (fun s0_79 m79 hs0_79 H => ?_) (fun j79 hj79 H => ?_) H
          · -- 79
            refine aw_istore_n (pc := 79) [(3, iv s0_79), (0, .ref 100), (1, iv p1), (2, iv p2), (4, iv v4_5), (5, iv v5_18)] dX11_areApart_79 rfl (by decide) ?_
            refine cx_iinc (pc := 80) [(5, iv (w32 (v5_18 + 1))), (3, iv s0_79), (0, .ref 100), (1, iv p1), (2, iv p2), (4, iv v4_5)] dX11_areApart_80 rfl rfl (by decide) ?_
            refine aw_goto (pc := 83) 18 dX11_areApart_83 rfl ?_
            exact AW.sel [2, 3, 4, 1, 5, 0] rfl (ih18 _ _ _ hs0_79 (inR_w32 _) H)
          refine jn_ind (fun (f9 : Mem → Option Rz) => ∀ (m74 : Mem), f9 m74 = some r → AW l D base sc RX11 yX11_areApart cX11_areApart 6 (some FieldType.boolean) 202 0 0 ad (E mi) (pI E r) 0 0 (E m74) 74 [(0, .ref 100), (1, iv p1), (2, iv p2), (4, iv v4_5), (5, iv v5_18)] []) (fun m74 H => ?_) (fun j74 hj74 H => ?_) H
          · -- 74
            refine cx_iconst (pc := 74) dX11_areApart_74 ?_
            refine aw_goto (pc := 75) 79 dX11_areApart_75 rfl ?_
            exact AW.sel [0, 1, 2, 3, 4] rfl (hj79 _ _ (inR_lit _ rfl) H)
          refine cx_icmp_eq (pc := 32) 74 hv4_5 hv5_18 dX11_areApart_32 rfl H (fun H => ?_) (fun H => ?_)
          · -- 32: 74
            exact AW.sel [0, 1, 2, 4, 5] rfl (hj74 _ H)
          · -- 32: 35
            refine aw_iload_n (pc := 35) dX11_areApart_35 rfl ?_
            refine aw_iload (pc := 36) dX11_areApart_36 rfl ?_
            refine cx_ishr (pc := 38) dX11_areApart_38 ?_
            refine cx_iconst (pc := 39) dX11_areApart_39 ?_
            refine cx_iand (pc := 40) dX11_areApart_40 ?_
            refine cx_if_eq (pc := 41) 74 (inR_32 _) dX11_areApart_41 rfl H (fun H => ?_) (fun H => ?_)
            · -- 41: 74
              exact AW.sel [0, 1, 2, 4, 5] rfl (hj74 _ H)
            · -- 41: 44
              refine aw_iload_n (pc := 44) dX11_areApart_44 rfl ?_
              refine aw_iload (pc := 45) dX11_areApart_45 rfl ?_
              refine cx_ishr (pc := 47) dX11_areApart_47 ?_
              refine cx_iconst (pc := 48) dX11_areApart_48 ?_
              refine cx_iand (pc := 49) dX11_areApart_49 ?_
              refine cx_if_eq (pc := 50) 74 (inR_32 _) dX11_areApart_50 rfl H (fun H => ?_) (fun H => ?_)
              · -- 50: 74
                exact AW.sel [0, 1, 2, 4, 5] rfl (hj74 _ H)
              · -- 50: 53
                refine aw_aload_n (pc := 53) dX11_areApart_53 rfl ?_
                refine aw_aload_n (pc := 54) dX11_areApart_54 rfl ?_
                refine cx_gtC (pc := 55) 134 hE r100 fl_X11_279 rfl rfl (Nat.le_of_ble_eq_true rfl) dX11_areApart_55 ?_
                refine aw_iload (pc := 58) dX11_areApart_58 rfl ?_
                refine cx_ldI (pc := 60) hE r134 hv4_5 dX11_areApart_60 H (fun x60 hx60 H => ?_)
                refine aw_aload_n (pc := 61) dX11_areApart_61 rfl ?_
                refine cx_gtC (pc := 62) 134 hE r100 fl_X11_279 rfl rfl (Nat.le_of_ble_eq_true rfl) dX11_areApart_62 ?_
                refine aw_iload (pc := 65) dX11_areApart_65 rfl ?_
                refine cx_ldI (pc := 67) hE r134 hv5_18 dX11_areApart_67 H (fun x67 hx67 H => ?_)
                refine cx_callV (pc := 68) (P := pI) (dC := 201) (mcC := 0) (msC := 0) [iv x60, iv x67] hE r100 (fun r1 H1 => s_X11_atMost l sc E R hE hR n x60 x67 hx60 hx67 m18 r1 H1) ca_X11_114 rfl ⟨_, rfl, rfl⟩ rfl rfl (Nat.le_of_ble_eq_true rfl) (Nat.le_of_ble_eq_true rfl) (Nat.le_of_ble_eq_true rfl) (Nat.le_of_ble_eq_true rfl) dX11_areApart_68 H (fun x68 m68 v68 hh68 H hp => ?_)
                refine cx_backI hp (fun hx68 => ?_)
                refine cx_if_ne (pc := 71) 78 hx68 dX11_areApart_71 rfl H (fun H => ?_) (fun H => ?_)
                · -- 71: 74
                  exact AW.sel [0, 1, 2, 4, 5] rfl (hj74 _ H)
                · -- 71: 78
                  refine cx_iconst (pc := 78) dX11_areApart_78 ?_
                  exact AW.sel [0, 1, 2, 4, 5] rfl (hj79 _ _ (inR_lit _ rfl) H)
      · -- 21: 86
        exact AW.sel [0, 1, 2, 3, 4] rfl (hj86 _ H)
  · -- 8: 92
    exact AW.sel [3] rfl (hj92 _ H)
/-- X11 waitsBorn (II)V -/
def f_X11_waitsBorn (n : Nat) (p1 : Int) (p2 : Int) (mi : Mem) : Option Rz :=
  lp (F := Int → Mem → Option Rz) (fun _ _ => none) (fun w2 v3_2 m2 =>
    if v3_2 < p2 then (
      jn (fun (m26 : Mem) =>
        w2 (w32 (v3_2 + 1)) m26
      ) fun (j26 : Mem → Option Rz) =>
      if iand (ishr p1 v3_2) 1 = 1 then (
        ldI m2 134 v3_2 fun x22 =>
        cal (f_X11_waits n x22 m2) fun _ m23 =>
        j26 m23
      ) else
      j26 m2
    ) else
    rt 0 m2
  ) n 0 mi
set_option maxRecDepth 100000 in
set_option maxHeartbeats 4000000 in
theorem s_X11_waitsBorn (l : Launch) (sc : g_S) (E : Mem → g_H) (R : Nat → Prop) (hE : LE E R) (hR : RRF R) (n : Nat)  (p1 : Int) (p2 : Int) (hp1 : inR p1) (hp2 : inR p2) (mi : Mem) (r : Rz) (H : f_X11_waitsBorn n p1 p2 mi = some r) : AMet l sc yX11_waitsBorn cX11_waitsBorn 4 none 1 0 0 [.ref 100, iv p1, iv p2] (E mi) (pV E r) := by
  have r100 : R 100 := hR 100 (Nat.le_of_ble_eq_true rfl) (Nat.le_of_ble_eq_true rfl)
  have r134 : R 134 := hR 134 (Nat.le_of_ble_eq_true rfl) (Nat.le_of_ble_eq_true rfl)
  unfold f_X11_waitsBorn at H
  refine AMet.of (own := RX11) (by decide +kernel) rfl (Nat.le_of_ble_eq_true rfl) [(0, .ref 100), (1, iv p1), (2, iv p2)] rfl (fun D base ad => ?_)
  refine cx_iconst (pc := 0) dX11_waitsBorn_0 ?_
  refine aw_istore_n (pc := 1) [(3, iv 0), (0, .ref 100), (1, iv p1), (2, iv p2)] dX11_waitsBorn_1 rfl (by decide) ?_
  refine AW.sel [1, 2, 3, 0] rfl (lp_ind (bot := fun _ _ => none) (fun (f9 : Int → Mem → Option Rz) => ∀ (v3_2 : Int) (m2 : Mem), inR v3_2 → f9 v3_2 m2 = some r → AW l D base sc RX11 yX11_waitsBorn cX11_waitsBorn 4 none 1 0 0 ad (E mi) (pV E r) 0 0 (E m2) 2 [(0, .ref 100), (1, iv p1), (2, iv p2), (3, iv v3_2)] []) (fun _ _ _ h9 => nomatch h9) (fun w2 ih2 v3_2 m2 hv3_2 H => ?_) n _ _ (inR_lit _ rfl) H)
  refine aw_iload_n (pc := 2) dX11_waitsBorn_2 rfl ?_
  refine aw_iload_n (pc := 3) dX11_waitsBorn_3 rfl ?_
  refine cx_icmp_ge (pc := 4) 32 hv3_2 hp2 dX11_waitsBorn_4 rfl H (fun H => ?_) (fun H => ?_)
  · -- 4: 7
    refine aw_iload_n (pc := 7) dX11_waitsBorn_7 rfl ?_
    refine aw_iload_n (pc := 8) dX11_waitsBorn_8 rfl ?_
    refine cx_ishr (pc := 9) dX11_waitsBorn_9 ?_
    refine cx_iconst (pc := 10) dX11_waitsBorn_10 ?_
    refine cx_iand (pc := 11) dX11_waitsBorn_11 ?_
    refine cx_iconst (pc := 12) dX11_waitsBorn_12 ?_
    refine jn_ind (fun (f9 : Mem → Option Rz) => ∀ (m26 : Mem), f9 m26 = some r → AW l D base sc RX11 yX11_waitsBorn cX11_waitsBorn 4 none 1 0 0 ad (E mi) (pV E r) 0 0 (E m26) 26 [(0, .ref 100), (1, iv p1), (2, iv p2), (3, iv v3_2)] []) (fun m26 H => ?_) (fun j26 hj26 H => ?_) H
    · -- 26
      refine cx_iinc (pc := 26) [(3, iv (w32 (v3_2 + 1))), (0, .ref 100), (1, iv p1), (2, iv p2)] dX11_waitsBorn_26 rfl rfl (by decide) ?_
      refine aw_goto (pc := 29) 2 dX11_waitsBorn_29 rfl ?_
      exact AW.sel [1, 2, 3, 0] rfl (ih2 _ _ (inR_w32 _) H)
    refine cx_icmp_ne (pc := 13) 26 (inR_32 _) (inR_lit _ rfl) dX11_waitsBorn_13 rfl H (fun H => ?_) (fun H => ?_)
    · -- 13: 16
      refine aw_aload_n (pc := 16) dX11_waitsBorn_16 rfl ?_
      refine aw_aload_n (pc := 17) dX11_waitsBorn_17 rfl ?_
      refine cx_gtC (pc := 18) 134 hE r100 fl_X11_279 rfl rfl (Nat.le_of_ble_eq_true rfl) dX11_waitsBorn_18 ?_
      refine aw_iload_n (pc := 21) dX11_waitsBorn_21 rfl ?_
      refine cx_ldI (pc := 22) hE r134 hv3_2 dX11_waitsBorn_22 H (fun x22 hx22 H => ?_)
      refine cx_callV (pc := 23) (P := pV) (dC := 0) (mcC := 0) (msC := 0) [iv x22] hE r100 (fun r1 H1 => s_X11_waits l sc E R hE hR n x22 hx22 m2 r1 H1) ca_X11_194 rfl ⟨_, rfl, rfl⟩ rfl rfl (Nat.le_of_ble_eq_true rfl) (Nat.le_of_ble_eq_true rfl) (Nat.le_of_ble_eq_true rfl) (Nat.le_of_ble_eq_true rfl) dX11_waitsBorn_23 H (fun x23 m23 v23 hh23 H hp => ?_)
      refine cx_backV hp ?_
      exact AW.sel [0, 1, 2, 3] rfl (hj26 _ H)
    · -- 13: 26
      exact AW.sel [0, 1, 2, 3] rfl (hj26 _ H)
  · -- 4: 32
    exact cx_vret (pc := 32) rfl (Nat.le_of_ble_eq_true rfl) (Nat.le_of_ble_eq_true rfl) dX11_waitsBorn_32 H
/-- X11 bornBehind (I)V -/
def f_X11_bornBehind (n : Nat) (p1 : Int) (mi : Mem) : Option Rz :=
  ptF mi 100 47 0 fun m2 =>
  lp (F := Int → Mem → Option Rz) (fun _ _ => none) (fun w7 v2_7 m7 =>
    if v2_7 < ishl 1 p1 then (
      cal (f_X11_areApart n v2_7 p1 m7) fun x17 m17 =>
      jn (fun (m43 : Mem) =>
        w7 (w32 (v2_7 + 1)) m43
      ) fun (j43 : Mem → Option Rz) =>
      if x17 = 0 then (
        j43 m17
      ) else
      gtF m17 100 47 fun x28 =>
      stI m17 135 x28 v2_7 fun m32 =>
      gtF m32 100 47 fun x35 =>
      ptF m32 100 47 (w32 (x35 + 1)) fun m40 =>
      j43 m40
    ) else
    lp (F := Int → Mem → Option Rz) (fun _ _ => none) (fun w51 v2_51 m51 =>
      gtF m51 100 47 fun x53 =>
      gtF m51 100 47 fun x57 =>
      if v2_51 < w32 (x53 * x57) then (
        gtF m51 100 26 fun x65 =>
        gtF m51 100 47 fun x76 =>
        ok0 (x76 ≠ 0) <|
        ldI m51 135 (idiv v2_51 x76) fun x80 =>
        cal (f_X11_waitsBorn n x80 p1 m51) fun _ m82 =>
        gtF m82 100 26 fun x86 =>
        gtF m82 100 47 fun x98 =>
        ok0 (x98 ≠ 0) <|
        ldI m82 135 (irem v2_51 x98) fun x102 =>
        cal (f_X11_waitsBorn n x102 p1 m82) fun _ m104 =>
        cal (f_X11_canonicalOf n x65 x86 m104) fun x111 m111 =>
        gtF m111 100 44 fun x122 =>
        cal (f_X11_has n 134 0 x122 x111 m111) fun x127 m127 =>
        jn (fun (m154 : Mem) =>
          w51 (w32 (v2_51 + 1)) m154
        ) fun (j154 : Mem → Option Rz) =>
        if x127 = 0 then (
          gtF m127 100 44 fun x138 =>
          stI m127 134 x138 x111 fun m143 =>
          gtF m143 100 44 fun x146 =>
          ptF m143 100 44 (w32 (x146 + 1)) fun m151 =>
          j154 m151
        ) else
        j154 m127
      ) else
      rt 0 m51
    ) n 0 m7
  ) n 1 m2
set_option maxRecDepth 100000 in
set_option maxHeartbeats 4000000 in
theorem s_X11_bornBehind (l : Launch) (sc : g_S) (E : Mem → g_H) (R : Nat → Prop) (hE : LE E R) (hR : RRF R) (n : Nat)  (p1 : Int) (hp1 : inR p1) (mi : Mem) (r : Rz) (H : f_X11_bornBehind n p1 mi = some r) : AMet l sc yX11_bornBehind cX11_bornBehind 6 none 307 0 0 [.ref 100, iv p1] (E mi) (pV E r) := by
  have r100 : R 100 := hR 100 (Nat.le_of_ble_eq_true rfl) (Nat.le_of_ble_eq_true rfl)
  have r134 : R 134 := hR 134 (Nat.le_of_ble_eq_true rfl) (Nat.le_of_ble_eq_true rfl)
  have r135 : R 135 := hR 135 (Nat.le_of_ble_eq_true rfl) (Nat.le_of_ble_eq_true rfl)
  unfold f_X11_bornBehind at H
  refine AMet.of (own := RX11) (by decide +kernel) rfl (Nat.le_of_ble_eq_true rfl) [(0, .ref 100), (1, iv p1)] rfl (fun D base ad => ?_)
  refine aw_aload_n (pc := 0) dX11_bornBehind_0 rfl ?_
  refine cx_iconst (pc := 1) dX11_bornBehind_1 ?_
  refine cx_ptF (pc := 2) tyX11 hE r100 fl_X11_386 (fun r h => ⟨gty_X11 r h, by cases h; rfl⟩) rfl rfl rfl (Nat.le_of_ble_eq_true rfl) dX11_bornBehind_2 H (fun m2 H => ?_)
  refine cx_iconst (pc := 5) dX11_bornBehind_5 ?_
  refine aw_istore_n (pc := 6) [(2, iv 1), (0, .ref 100), (1, iv p1)] dX11_bornBehind_6 rfl (by decide) ?_
  refine AW.sel [1, 2, 0] rfl (lp_ind (bot := fun _ _ => none) (fun (f9 : Int → Mem → Option Rz) => ∀ (v2_7 : Int) (m7 : Mem), inR v2_7 → f9 v2_7 m7 = some r → AW l D base sc RX11 yX11_bornBehind cX11_bornBehind 6 none 307 0 0 ad (E mi) (pV E r) 0 0 (E m7) 7 [(0, .ref 100), (1, iv p1), (2, iv v2_7)] []) (fun _ _ _ h9 => nomatch h9) (fun w7 ih7 v2_7 m7 hv2_7 H => ?_) n _ _ (inR_lit _ rfl) H)
  refine aw_iload_n (pc := 7) dX11_bornBehind_7 rfl ?_
  refine cx_iconst (pc := 8) dX11_bornBehind_8 ?_
  refine aw_iload_n (pc := 9) dX11_bornBehind_9 rfl ?_
  refine cx_ishl (pc := 10) dX11_bornBehind_10 ?_
  refine cx_icmp_ge (pc := 11) 49 hv2_7 (inR_32 _) dX11_bornBehind_11 rfl H (fun H => ?_) (fun H => ?_)
  · -- 11: 14
    refine aw_aload_n (pc := 14) dX11_bornBehind_14 rfl ?_
    refine aw_iload_n (pc := 15) dX11_bornBehind_15 rfl ?_
    refine aw_iload_n (pc := 16) dX11_bornBehind_16 rfl ?_
    refine cx_callV (pc := 17) (P := pI) (dC := 202) (mcC := 0) (msC := 0) [iv v2_7, iv p1] hE r100 (fun r1 H1 => s_X11_areApart l sc E R hE hR n v2_7 p1 hv2_7 hp1 m7 r1 H1) ca_X11_389 rfl ⟨_, rfl, rfl⟩ rfl rfl (Nat.le_of_ble_eq_true rfl) (Nat.le_of_ble_eq_true rfl) (Nat.le_of_ble_eq_true rfl) (Nat.le_of_ble_eq_true rfl) dX11_bornBehind_17 H (fun x17 m17 v17 hh17 H hp => ?_)
    refine cx_backI hp (fun hx17 => ?_)
    refine jn_ind (fun (f9 : Mem → Option Rz) => ∀ (m43 : Mem), f9 m43 = some r → AW l D base sc RX11 yX11_bornBehind cX11_bornBehind 6 none 307 0 0 ad (E mi) (pV E r) 0 0 (E m43) 43 [(0, .ref 100), (1, iv p1), (2, iv v2_7)] []) (fun m43 H => ?_) (fun j43 hj43 H => ?_) H
    · -- 43
      refine cx_iinc (pc := 43) [(2, iv (w32 (v2_7 + 1))), (0, .ref 100), (1, iv p1)] dX11_bornBehind_43 rfl rfl (by decide) ?_
      refine aw_goto (pc := 46) 7 dX11_bornBehind_46 rfl ?_
      exact AW.sel [1, 2, 0] rfl (ih7 _ _ (inR_w32 _) H)
    refine cx_if_eq (pc := 20) 43 hx17 dX11_bornBehind_20 rfl H (fun H => ?_) (fun H => ?_)
    · -- 20: 43
      exact AW.sel [0, 1, 2] rfl (hj43 _ H)
    · -- 20: 23
      refine aw_aload_n (pc := 23) dX11_bornBehind_23 rfl ?_
      refine cx_gtC (pc := 24) 135 hE r100 fl_X11_282 rfl rfl (Nat.le_of_ble_eq_true rfl) dX11_bornBehind_24 ?_
      refine aw_aload_n (pc := 27) dX11_bornBehind_27 rfl ?_
      refine cx_gtF (pc := 28) hE r100 fl_X11_386 rfl rfl (Nat.le_of_ble_eq_true rfl) dX11_bornBehind_28 H (fun x28 hx28 H => ?_)
      refine aw_iload_n (pc := 31) dX11_bornBehind_31 rfl ?_
      refine cx_stI (pc := 32) hE r135 hx28 dX11_bornBehind_32 H (fun m32 H => ?_)
      refine aw_aload_n (pc := 33) dX11_bornBehind_33 rfl ?_
      refine aw_dup (pc := 34) dX11_bornBehind_34 rfl ?_
      refine cx_gtF (pc := 35) hE r100 fl_X11_386 rfl rfl (Nat.le_of_ble_eq_true rfl) dX11_bornBehind_35 H (fun x35 hx35 H => ?_)
      refine cx_iconst (pc := 38) dX11_bornBehind_38 ?_
      refine cx_iadd (pc := 39) dX11_bornBehind_39 ?_
      refine cx_ptF (pc := 40) tyX11 hE r100 fl_X11_386 (fun r h => ⟨gty_X11 r h, by cases h; rfl⟩) rfl rfl rfl (Nat.le_of_ble_eq_true rfl) dX11_bornBehind_40 H (fun m40 H => ?_)
      exact AW.sel [0, 1, 2] rfl (hj43 _ H)
  · -- 11: 49
    refine cx_iconst (pc := 49) dX11_bornBehind_49 ?_
    refine aw_istore_n (pc := 50) [(2, iv 0), (0, .ref 100), (1, iv p1)] dX11_bornBehind_50 rfl (by decide) ?_
    refine AW.sel [1, 2, 0] rfl (lp_ind (bot := fun _ _ => none) (fun (f9 : Int → Mem → Option Rz) => ∀ (v2_51 : Int) (m51 : Mem), inR v2_51 → f9 v2_51 m51 = some r → AW l D base sc RX11 yX11_bornBehind cX11_bornBehind 6 none 307 0 0 ad (E mi) (pV E r) 0 0 (E m51) 51 [(0, .ref 100), (1, iv p1), (2, iv v2_51)] []) (fun _ _ _ h9 => nomatch h9) (fun w51 ih51 v2_51 m51 hv2_51 H => ?_) n _ _ (inR_lit _ rfl) H)
    refine aw_iload_n (pc := 51) dX11_bornBehind_51 rfl ?_
    refine aw_aload_n (pc := 52) dX11_bornBehind_52 rfl ?_
    refine cx_gtF (pc := 53) hE r100 fl_X11_386 rfl rfl (Nat.le_of_ble_eq_true rfl) dX11_bornBehind_53 H (fun x53 hx53 H => ?_)
    refine aw_aload_n (pc := 56) dX11_bornBehind_56 rfl ?_
    refine cx_gtF (pc := 57) hE r100 fl_X11_386 rfl rfl (Nat.le_of_ble_eq_true rfl) dX11_bornBehind_57 H (fun x57 hx57 H => ?_)
    refine cx_imul (pc := 60) dX11_bornBehind_60 ?_
    refine cx_icmp_ge (pc := 61) 160 hv2_51 (inR_w32 _) dX11_bornBehind_61 rfl H (fun H => ?_) (fun H => ?_)
    · -- 61: 64
      refine aw_aload_n (pc := 64) dX11_bornBehind_64 rfl ?_
      refine cx_gtF (pc := 65) hE r100 fl_X11_175 rfl rfl (Nat.le_of_ble_eq_true rfl) dX11_bornBehind_65 H (fun x65 hx65 H => ?_)
      refine aw_istore_n (pc := 68) [(3, iv x65), (0, .ref 100), (1, iv p1), (2, iv v2_51)] dX11_bornBehind_68 rfl (by decide) ?_
      refine aw_aload_n (pc := 69) dX11_bornBehind_69 rfl ?_
      refine aw_aload_n (pc := 70) dX11_bornBehind_70 rfl ?_
      refine cx_gtC (pc := 71) 135 hE r100 fl_X11_282 rfl rfl (Nat.le_of_ble_eq_true rfl) dX11_bornBehind_71 ?_
      refine aw_iload_n (pc := 74) dX11_bornBehind_74 rfl ?_
      refine aw_aload_n (pc := 75) dX11_bornBehind_75 rfl ?_
      refine cx_gtF (pc := 76) hE r100 fl_X11_386 rfl rfl (Nat.le_of_ble_eq_true rfl) dX11_bornBehind_76 H (fun x76 hx76 H => ?_)
      refine cx_idiv (pc := 79) hx76 dX11_bornBehind_79 H (fun H => ?_)
      refine cx_ldI (pc := 80) hE r135 (inR_32 _) dX11_bornBehind_80 H (fun x80 hx80 H => ?_)
      refine aw_iload_n (pc := 81) dX11_bornBehind_81 rfl ?_
      refine cx_callV (pc := 82) (P := pV) (dC := 1) (mcC := 0) (msC := 0) [iv x80, iv p1] hE r100 (fun r1 H1 => s_X11_waitsBorn l sc E R hE hR n x80 p1 hx80 hp1 m51 r1 H1) ca_X11_392 rfl ⟨_, rfl, rfl⟩ rfl rfl (Nat.le_of_ble_eq_true rfl) (Nat.le_of_ble_eq_true rfl) (Nat.le_of_ble_eq_true rfl) (Nat.le_of_ble_eq_true rfl) dX11_bornBehind_82 H (fun x82 m82 v82 hh82 H hp => ?_)
      refine cx_backV hp ?_
      refine aw_aload_n (pc := 85) dX11_bornBehind_85 rfl ?_
      refine cx_gtF (pc := 86) hE r100 fl_X11_175 rfl rfl (Nat.le_of_ble_eq_true rfl) dX11_bornBehind_86 H (fun x86 hx86 H => ?_)
      refine aw_istore (pc := 89) [(4, iv x86), (3, iv x65), (0, .ref 100), (1, iv p1), (2, iv v2_51)] dX11_bornBehind_89 rfl (by decide) ?_
      refine aw_aload_n (pc := 91) dX11_bornBehind_91 rfl ?_
      refine aw_aload_n (pc := 92) dX11_bornBehind_92 rfl ?_
      refine cx_gtC (pc := 93) 135 hE r100 fl_X11_282 rfl rfl (Nat.le_of_ble_eq_true rfl) dX11_bornBehind_93 ?_
      refine aw_iload_n (pc := 96) dX11_bornBehind_96 rfl ?_
      refine aw_aload_n (pc := 97) dX11_bornBehind_97 rfl ?_
      refine cx_gtF (pc := 98) hE r100 fl_X11_386 rfl rfl (Nat.le_of_ble_eq_true rfl) dX11_bornBehind_98 H (fun x98 hx98 H => ?_)
      refine cx_irem (pc := 101) hx98 dX11_bornBehind_101 H (fun H => ?_)
      refine cx_ldI (pc := 102) hE r135 (inR_32 _) dX11_bornBehind_102 H (fun x102 hx102 H => ?_)
      refine aw_iload_n (pc := 103) dX11_bornBehind_103 rfl ?_
      refine cx_callV (pc := 104) (P := pV) (dC := 1) (mcC := 0) (msC := 0) [iv x102, iv p1] hE r100 (fun r1 H1 => s_X11_waitsBorn l sc E R hE hR n x102 p1 hx102 hp1 m82 r1 H1) ca_X11_392 rfl ⟨_, rfl, rfl⟩ rfl rfl (Nat.le_of_ble_eq_true rfl) (Nat.le_of_ble_eq_true rfl) (Nat.le_of_ble_eq_true rfl) (Nat.le_of_ble_eq_true rfl) dX11_bornBehind_104 H (fun x104 m104 v104 hh104 H hp => ?_)
      refine cx_backV hp ?_
      refine aw_aload_n (pc := 107) dX11_bornBehind_107 rfl ?_
      refine aw_iload_n (pc := 108) dX11_bornBehind_108 rfl ?_
      refine aw_iload (pc := 109) dX11_bornBehind_109 rfl ?_
      refine cx_callV (pc := 111) (P := pI) (dC := 306) (mcC := 0) (msC := 0) [iv x65, iv x86] hE r100 (fun r1 H1 => s_X11_canonicalOf l sc E R hE hR n x65 x86 hx65 hx86 m104 r1 H1) ca_X11_197 rfl ⟨_, rfl, rfl⟩ rfl rfl (Nat.le_of_ble_eq_true rfl) (Nat.le_of_ble_eq_true rfl) (Nat.le_of_ble_eq_true rfl) (Nat.le_of_ble_eq_true rfl) dX11_bornBehind_111 H (fun x111 m111 v111 hh111 H hp => ?_)
      refine cx_backI hp (fun hx111 => ?_)
      refine aw_istore (pc := 114) [(5, iv x111), (4, iv x86), (3, iv x65), (0, .ref 100), (1, iv p1), (2, iv v2_51)] dX11_bornBehind_114 rfl (by decide) ?_
      refine aw_aload_n (pc := 116) dX11_bornBehind_116 rfl ?_
      refine cx_gtC (pc := 117) 134 hE r100 fl_X11_279 rfl rfl (Nat.le_of_ble_eq_true rfl) dX11_bornBehind_117 ?_
      refine cx_iconst (pc := 120) dX11_bornBehind_120 ?_
      refine aw_aload_n (pc := 121) dX11_bornBehind_121 rfl ?_
      refine cx_gtF (pc := 122) hE r100 fl_X11_309 rfl rfl (Nat.le_of_ble_eq_true rfl) dX11_bornBehind_122 H (fun x122 hx122 H => ?_)
      refine aw_iload (pc := 125) dX11_bornBehind_125 rfl ?_
      refine cx_callS (pc := 127) (P := pI) (dC := 0) (mcC := 0) (msC := 0) [.ref 134, iv 0, iv x122, iv x111] (fun r1 H1 => s_X11_has l sc E R hE hR n 134 0 x122 x111 r134 (inR_lit _ rfl) hx122 hx111 m111 r1 H1) ca_X11_38 rfl rfl (Nat.le_of_ble_eq_true rfl) (Nat.le_of_ble_eq_true rfl) (Nat.le_of_ble_eq_true rfl) (Nat.le_of_ble_eq_true rfl) dX11_bornBehind_127 H (fun x127 m127 v127 hh127 H hp => ?_)
      refine cx_backI hp (fun hx127 => ?_)
      refine jn_ind (fun (f9 : Mem → Option Rz) => ∀ (m154 : Mem), f9 m154 = some r → AW l D base sc RX11 yX11_bornBehind cX11_bornBehind 6 none 307 0 0 ad (E mi) (pV E r) 0 0 (E m154) 154 [(0, .ref 100), (1, iv p1), (2, iv v2_51)] []) (fun m154 H => ?_) (fun j154 hj154 H => ?_) H
      · -- 154
        refine cx_iinc (pc := 154) [(2, iv (w32 (v2_51 + 1))), (0, .ref 100), (1, iv p1)] dX11_bornBehind_154 rfl rfl (by decide) ?_
        refine aw_goto (pc := 157) 51 dX11_bornBehind_157 rfl ?_
        exact AW.sel [1, 2, 0] rfl (ih51 _ _ (inR_w32 _) H)
      refine cx_if_ne (pc := 130) 154 hx127 dX11_bornBehind_130 rfl H (fun H => ?_) (fun H => ?_)
      · -- 130: 133
        refine aw_aload_n (pc := 133) dX11_bornBehind_133 rfl ?_
        refine cx_gtC (pc := 134) 134 hE r100 fl_X11_279 rfl rfl (Nat.le_of_ble_eq_true rfl) dX11_bornBehind_134 ?_
        refine aw_aload_n (pc := 137) dX11_bornBehind_137 rfl ?_
        refine cx_gtF (pc := 138) hE r100 fl_X11_309 rfl rfl (Nat.le_of_ble_eq_true rfl) dX11_bornBehind_138 H (fun x138 hx138 H => ?_)
        refine aw_iload (pc := 141) dX11_bornBehind_141 rfl ?_
        refine cx_stI (pc := 143) hE r134 hx138 dX11_bornBehind_143 H (fun m143 H => ?_)
        refine aw_aload_n (pc := 144) dX11_bornBehind_144 rfl ?_
        refine aw_dup (pc := 145) dX11_bornBehind_145 rfl ?_
        refine cx_gtF (pc := 146) hE r100 fl_X11_309 rfl rfl (Nat.le_of_ble_eq_true rfl) dX11_bornBehind_146 H (fun x146 hx146 H => ?_)
        refine cx_iconst (pc := 149) dX11_bornBehind_149 ?_
        refine cx_iadd (pc := 150) dX11_bornBehind_150 ?_
        refine cx_ptF (pc := 151) tyX11 hE r100 fl_X11_309 (fun r h => ⟨gty_X11 r h, by cases h; rfl⟩) rfl rfl rfl (Nat.le_of_ble_eq_true rfl) dX11_bornBehind_151 H (fun m151 H => ?_)
        exact AW.sel [3, 4, 5] rfl (hj154 _ H)
      · -- 130: 154
        exact AW.sel [3, 4, 5] rfl (hj154 _ H)
    · -- 61: 160
      exact cx_vret (pc := 160) rfl (Nat.le_of_ble_eq_true rfl) (Nat.le_of_ble_eq_true rfl) dX11_bornBehind_160 H
/-- X11 bears ()V -/
def f_X11_bears (n : Nat)  (mi : Mem) : Option Rz :=
  gtF mi 100 45 fun x1 =>
  if x1 = 0 then (
    cal (f_X11_gathers n mi) fun _ m9 =>
    ptZ m9 100 45 1 fun m14 =>
    stI m14 134 0 0 fun m23 =>
    ptF m23 100 44 1 fun m26 =>
    lp (F := Int → Mem → Option Rz) (fun _ _ => none) (fun w31 v1_31 m31 =>
      if v1_31 < 3 then (
        gtF m31 100 44 fun x38 =>
        cal (f_X11_bornBehind n x38 m31) fun _ m41 =>
        w31 (w32 (v1_31 + 1)) m41
      ) else
      lp (F := Int → Mem → Option Rz) (fun _ _ => none) (fun w52 v1_52 m52 =>
        gtF m52 100 44 fun x54 =>
        if v1_52 < x54 then (
          ldI m52 134 v1_52 fun x66 =>
          cal (f_X11_sorts n x66 m52) fun _ m67 =>
          w52 (w32 (v1_52 + 1)) m67
        ) else
        gtF m52 100 44 fun x83 =>
        cal (f_X11_sortsRow n 134 0 x83 m52) fun _ m86 =>
        rt 0 m86
      ) n 0 m31
    ) n 0 m26
  ) else
  rt 0 mi
set_option maxRecDepth 100000 in
set_option maxHeartbeats 4000000 in
theorem s_X11_bears (l : Launch) (sc : g_S) (E : Mem → g_H) (R : Nat → Prop) (hE : LE E R) (hR : RRF R) (n : Nat)    (mi : Mem) (r : Rz) (H : f_X11_bears n  mi = some r) : AMet l sc yX11_bears cX11_bears 2 none 308 0 0 [.ref 100] (E mi) (pV E r) := by
  have r100 : R 100 := hR 100 (Nat.le_of_ble_eq_true rfl) (Nat.le_of_ble_eq_true rfl)
  have r134 : R 134 := hR 134 (Nat.le_of_ble_eq_true rfl) (Nat.le_of_ble_eq_true rfl)
  unfold f_X11_bears at H
  refine AMet.of (own := RX11) (by decide +kernel) rfl (Nat.le_of_ble_eq_true rfl) [(0, .ref 100)] rfl (fun D base ad => ?_)
  refine aw_aload_n (pc := 0) dX11_bears_0 rfl ?_
  refine cx_gtF (pc := 1) hE r100 fl_X11_395 rfl rfl (Nat.le_of_ble_eq_true rfl) dX11_bears_1 H (fun x1 hx1 H => ?_)
  refine cx_if_eq (pc := 4) 8 hx1 dX11_bears_4 rfl H (fun H => ?_) (fun H => ?_)
  · -- 4: 8
    refine aw_aload_n (pc := 8) dX11_bears_8 rfl ?_
    refine cx_callV (pc := 9) (P := pV) (dC := 63) (mcC := 0) (msC := 0) [] hE r100 (fun r1 H1 => s_X11_gathers l sc E R hE hR n mi r1 H1) ca_X11_333 rfl ⟨_, rfl, rfl⟩ rfl rfl (Nat.le_of_ble_eq_true rfl) (Nat.le_of_ble_eq_true rfl) (Nat.le_of_ble_eq_true rfl) (Nat.le_of_ble_eq_true rfl) dX11_bears_9 H (fun x9 m9 v9 hh9 H hp => ?_)
    refine cx_backV hp ?_
    refine aw_aload_n (pc := 12) dX11_bears_12 rfl ?_
    refine cx_iconst (pc := 13) dX11_bears_13 ?_
    refine cx_ptZ (pc := 14) tyX11 hE r100 fl_X11_395 (fun r h => ⟨gty_X11 r h, by cases h; rfl⟩) rfl rfl rfl (Nat.le_of_ble_eq_true rfl) dX11_bears_14 H (fun m14 H => ?_)
    refine aw_aload_n (pc := 17) dX11_bears_17 rfl ?_
    refine cx_gtC (pc := 18) 134 hE r100 fl_X11_279 rfl rfl (Nat.le_of_ble_eq_true rfl) dX11_bears_18 ?_
    refine cx_iconst (pc := 21) dX11_bears_21 ?_
    refine cx_iconst (pc := 22) dX11_bears_22 ?_
    refine cx_stI (pc := 23) hE r134 (inR_lit _ rfl) dX11_bears_23 H (fun m23 H => ?_)
    refine aw_aload_n (pc := 24) dX11_bears_24 rfl ?_
    refine cx_iconst (pc := 25) dX11_bears_25 ?_
    refine cx_ptF (pc := 26) tyX11 hE r100 fl_X11_309 (fun r h => ⟨gty_X11 r h, by cases h; rfl⟩) rfl rfl rfl (Nat.le_of_ble_eq_true rfl) dX11_bears_26 H (fun m26 H => ?_)
    refine cx_iconst (pc := 29) dX11_bears_29 ?_
    refine aw_istore_n (pc := 30) [(1, iv 0), (0, .ref 100)] dX11_bears_30 rfl (by decide) ?_
    refine AW.sel [1, 0] rfl (lp_ind (bot := fun _ _ => none) (fun (f9 : Int → Mem → Option Rz) => ∀ (v1_31 : Int) (m31 : Mem), inR v1_31 → f9 v1_31 m31 = some r → AW l D base sc RX11 yX11_bears cX11_bears 2 none 308 0 0 ad (E mi) (pV E r) 0 0 (E m31) 31 [(0, .ref 100), (1, iv v1_31)] []) (fun _ _ _ h9 => nomatch h9) (fun w31 ih31 v1_31 m31 hv1_31 H => ?_) n _ _ (inR_lit _ rfl) H)
    refine aw_iload_n (pc := 31) dX11_bears_31 rfl ?_
    refine cx_iconst (pc := 32) dX11_bears_32 ?_
    refine cx_icmp_ge (pc := 33) 50 hv1_31 (inR_lit _ rfl) dX11_bears_33 rfl H (fun H => ?_) (fun H => ?_)
    · -- 33: 36
      refine aw_aload_n (pc := 36) dX11_bears_36 rfl ?_
      refine aw_aload_n (pc := 37) dX11_bears_37 rfl ?_
      refine cx_gtF (pc := 38) hE r100 fl_X11_309 rfl rfl (Nat.le_of_ble_eq_true rfl) dX11_bears_38 H (fun x38 hx38 H => ?_)
      refine cx_callV (pc := 41) (P := pV) (dC := 307) (mcC := 0) (msC := 0) [iv x38] hE r100 (fun r1 H1 => s_X11_bornBehind l sc E R hE hR n x38 hx38 m31 r1 H1) ca_X11_399 rfl ⟨_, rfl, rfl⟩ rfl rfl (Nat.le_of_ble_eq_true rfl) (Nat.le_of_ble_eq_true rfl) (Nat.le_of_ble_eq_true rfl) (Nat.le_of_ble_eq_true rfl) dX11_bears_41 H (fun x41 m41 v41 hh41 H hp => ?_)
      refine cx_backV hp ?_
      refine cx_iinc (pc := 44) [(1, iv (w32 (v1_31 + 1))), (0, .ref 100)] dX11_bears_44 rfl rfl (by decide) ?_
      refine aw_goto (pc := 47) 31 dX11_bears_47 rfl ?_
      exact AW.sel [1, 0] rfl (ih31 _ _ (inR_w32 _) H)
    · -- 33: 50
      refine cx_iconst (pc := 50) dX11_bears_50 ?_
      refine aw_istore_n (pc := 51) [(1, iv 0), (0, .ref 100)] dX11_bears_51 rfl (by decide) ?_
      refine AW.sel [1, 0] rfl (lp_ind (bot := fun _ _ => none) (fun (f9 : Int → Mem → Option Rz) => ∀ (v1_52 : Int) (m52 : Mem), inR v1_52 → f9 v1_52 m52 = some r → AW l D base sc RX11 yX11_bears cX11_bears 2 none 308 0 0 ad (E mi) (pV E r) 0 0 (E m52) 52 [(0, .ref 100), (1, iv v1_52)] []) (fun _ _ _ h9 => nomatch h9) (fun w52 ih52 v1_52 m52 hv1_52 H => ?_) n _ _ (inR_lit _ rfl) H)
      refine aw_iload_n (pc := 52) dX11_bears_52 rfl ?_
      refine aw_aload_n (pc := 53) dX11_bears_53 rfl ?_
      refine cx_gtF (pc := 54) hE r100 fl_X11_309 rfl rfl (Nat.le_of_ble_eq_true rfl) dX11_bears_54 H (fun x54 hx54 H => ?_)
      refine cx_icmp_ge (pc := 57) 76 hv1_52 hx54 dX11_bears_57 rfl H (fun H => ?_) (fun H => ?_)
      · -- 57: 60
        refine aw_aload_n (pc := 60) dX11_bears_60 rfl ?_
        refine aw_aload_n (pc := 61) dX11_bears_61 rfl ?_
        refine cx_gtC (pc := 62) 134 hE r100 fl_X11_279 rfl rfl (Nat.le_of_ble_eq_true rfl) dX11_bears_62 ?_
        refine aw_iload_n (pc := 65) dX11_bears_65 rfl ?_
        refine cx_ldI (pc := 66) hE r134 hv1_52 dX11_bears_66 H (fun x66 hx66 H => ?_)
        refine cx_callV (pc := 67) (P := pV) (dC := 126) (mcC := 0) (msC := 0) [iv x66] hE r100 (fun r1 H1 => s_X11_sorts l sc E R hE hR n x66 hx66 m52 r1 H1) ca_X11_249 rfl ⟨_, rfl, rfl⟩ rfl rfl (Nat.le_of_ble_eq_true rfl) (Nat.le_of_ble_eq_true rfl) (Nat.le_of_ble_eq_true rfl) (Nat.le_of_ble_eq_true rfl) dX11_bears_67 H (fun x67 m67 v67 hh67 H hp => ?_)
        refine cx_backV hp ?_
        refine cx_iinc (pc := 70) [(1, iv (w32 (v1_52 + 1))), (0, .ref 100)] dX11_bears_70 rfl rfl (by decide) ?_
        refine aw_goto (pc := 73) 52 dX11_bears_73 rfl ?_
        exact AW.sel [1, 0] rfl (ih52 _ _ (inR_w32 _) H)
      · -- 57: 76
        refine aw_aload_n (pc := 76) dX11_bears_76 rfl ?_
        refine aw_aload_n (pc := 77) dX11_bears_77 rfl ?_
        refine cx_gtC (pc := 78) 134 hE r100 fl_X11_279 rfl rfl (Nat.le_of_ble_eq_true rfl) dX11_bears_78 ?_
        refine cx_iconst (pc := 81) dX11_bears_81 ?_
        refine aw_aload_n (pc := 82) dX11_bears_82 rfl ?_
        refine cx_gtF (pc := 83) hE r100 fl_X11_309 rfl rfl (Nat.le_of_ble_eq_true rfl) dX11_bears_83 H (fun x83 hx83 H => ?_)
        refine cx_callV (pc := 86) (P := pV) (dC := 65) (mcC := 0) (msC := 0) [.ref 134, iv 0, iv x83] hE r100 (fun r1 H1 => s_X11_sortsRow l sc E R hE hR n 134 0 x83 r134 (inR_lit _ rfl) hx83 m52 r1 H1) ca_X11_252 rfl ⟨_, rfl, rfl⟩ rfl rfl (Nat.le_of_ble_eq_true rfl) (Nat.le_of_ble_eq_true rfl) (Nat.le_of_ble_eq_true rfl) (Nat.le_of_ble_eq_true rfl) dX11_bears_86 H (fun x86 m86 v86 hh86 H hp => ?_)
        refine cx_backV hp ?_
        exact cx_vret (pc := 89) rfl (Nat.le_of_ble_eq_true rfl) (Nat.le_of_ble_eq_true rfl) dX11_bears_89 H
  · -- 4: 7
    exact cx_vret (pc := 7) rfl (Nat.le_of_ble_eq_true rfl) (Nat.le_of_ble_eq_true rfl) dX11_bears_7 H
/-- X11 bornAt (II)I -/
def f_X11_bornAt (n : Nat) (p1 : Int) (p2 : Int) (mi : Mem) : Option Rz :=
  lp (F := Int → Int → Mem → Option Rz) (fun _ _ _ => none) (fun w5 v3_5 v4_5 m5 =>
    gtF m5 100 44 fun x8 =>
    if v4_5 < x8 then (
      ldI m5 134 v4_5 fun x24 =>
      ldI m5 106 x24 fun x25 =>
      jn (fun (v3_45 : Int) (m45 : Mem) =>
        w5 v3_45 (w32 (v4_5 + 1)) m45
      ) fun (j45 : Int → Mem → Option Rz) =>
      if p1 < x25 then (
        j45 v3_5 m5
      ) else
      if v3_5 = 0 then (
        ldI m5 134 v4_5 fun x40 =>
        rt x40 m5
      ) else
      j45 (w32 (v3_5 + (-1))) m5
    ) else
    rt (-1) m5
  ) n p2 0 mi
set_option maxRecDepth 100000 in
set_option maxHeartbeats 4000000 in
theorem s_X11_bornAt (l : Launch) (sc : g_S) (E : Mem → g_H) (R : Nat → Prop) (hE : LE E R) (hR : RRF R) (n : Nat)  (p1 : Int) (p2 : Int) (hp1 : inR p1) (hp2 : inR p2) (mi : Mem) (r : Rz) (H : f_X11_bornAt n p1 p2 mi = some r) : AMet l sc yX11_bornAt cX11_bornAt 5 (some FieldType.int) 0 0 0 [.ref 100, iv p1, iv p2] (E mi) (pI E r) := by
  have r100 : R 100 := hR 100 (Nat.le_of_ble_eq_true rfl) (Nat.le_of_ble_eq_true rfl)
  have r106 : R 106 := hR 106 (Nat.le_of_ble_eq_true rfl) (Nat.le_of_ble_eq_true rfl)
  have r134 : R 134 := hR 134 (Nat.le_of_ble_eq_true rfl) (Nat.le_of_ble_eq_true rfl)
  unfold f_X11_bornAt at H
  refine AMet.of (own := RX11) (by decide +kernel) rfl (Nat.le_of_ble_eq_true rfl) [(0, .ref 100), (1, iv p1), (2, iv p2)] rfl (fun D base ad => ?_)
  refine aw_iload_n (pc := 0) dX11_bornAt_0 rfl ?_
  refine aw_istore_n (pc := 1) [(3, iv p2), (0, .ref 100), (1, iv p1), (2, iv p2)] dX11_bornAt_1 rfl (by decide) ?_
  refine cx_iconst (pc := 2) dX11_bornAt_2 ?_
  refine aw_istore (pc := 3) [(4, iv 0), (3, iv p2), (0, .ref 100), (1, iv p1), (2, iv p2)] dX11_bornAt_3 rfl (by decide) ?_
  refine AW.sel [2, 3, 1, 0] rfl (lp_ind (bot := fun _ _ _ => none) (fun (f9 : Int → Int → Mem → Option Rz) => ∀ (v3_5 : Int) (v4_5 : Int) (m5 : Mem), inR v3_5 → inR v4_5 → f9 v3_5 v4_5 m5 = some r → AW l D base sc RX11 yX11_bornAt cX11_bornAt 5 (some FieldType.int) 0 0 0 ad (E mi) (pI E r) 0 0 (E m5) 5 [(0, .ref 100), (1, iv p1), (3, iv v3_5), (4, iv v4_5)] []) (fun _ _ _ _ _ h9 => nomatch h9) (fun w5 ih5 v3_5 v4_5 m5 hv3_5 hv4_5 H => ?_) n _ _ _ hp2 (inR_lit _ rfl) H)
  refine aw_iload (pc := 5) dX11_bornAt_5 rfl ?_
  refine aw_aload_n (pc := 7) dX11_bornAt_7 rfl ?_
  refine cx_gtF (pc := 8) hE r100 fl_X11_309 rfl rfl (Nat.le_of_ble_eq_true rfl) dX11_bornAt_8 H (fun x8 hx8 H => ?_)
  refine cx_icmp_ge (pc := 11) 51 hv4_5 hx8 dX11_bornAt_11 rfl H (fun H => ?_) (fun H => ?_)
  · -- 11: 14
    refine aw_aload_n (pc := 14) dX11_bornAt_14 rfl ?_
    refine cx_gtC (pc := 15) 106 hE r100 fl_X11_103 rfl rfl (Nat.le_of_ble_eq_true rfl) dX11_bornAt_15 ?_
    refine aw_aload_n (pc := 18) dX11_bornAt_18 rfl ?_
    refine cx_gtC (pc := 19) 134 hE r100 fl_X11_279 rfl rfl (Nat.le_of_ble_eq_true rfl) dX11_bornAt_19 ?_
    refine aw_iload (pc := 22) dX11_bornAt_22 rfl ?_
    refine cx_ldI (pc := 24) hE r134 hv4_5 dX11_bornAt_24 H (fun x24 hx24 H => ?_)
    refine cx_ldI (pc := 25) hE r106 hx24 dX11_bornAt_25 H (fun x25 hx25 H => ?_)
    refine aw_iload_n (pc := 26) dX11_bornAt_26 rfl ?_
    refine jn_ind (fun (f9 : Int → Mem → Option Rz) => ∀ (v3_45 : Int) (m45 : Mem), inR v3_45 → f9 v3_45 m45 = some r → AW l D base sc RX11 yX11_bornAt cX11_bornAt 5 (some FieldType.int) 0 0 0 ad (E mi) (pI E r) 0 0 (E m45) 45 [(0, .ref 100), (1, iv p1), (3, iv v3_45), (4, iv v4_5)] []) (fun v3_45 m45 hv3_45 H => ?_) (fun j45 hj45 H => ?_) H
    · -- 45
      refine cx_iinc (pc := 45) [(4, iv (w32 (v4_5 + 1))), (0, .ref 100), (1, iv p1), (3, iv v3_45)] dX11_bornAt_45 rfl rfl (by decide) ?_
      refine aw_goto (pc := 48) 5 dX11_bornAt_48 rfl ?_
      exact AW.sel [1, 2, 3, 0] rfl (ih5 _ _ _ hv3_45 (inR_w32 _) H)
    refine cx_icmp_gt (pc := 27) 45 hx25 hp1 dX11_bornAt_27 rfl H (fun H => ?_) (fun H => ?_)
    · -- 27: 45
      exact AW.sel [0, 1, 2, 3] rfl (hj45 _ _ hv3_5 H)
    · -- 27: 30
      refine aw_iload_n (pc := 30) dX11_bornAt_30 rfl ?_
      refine cx_if_ne (pc := 31) 42 hv3_5 dX11_bornAt_31 rfl H (fun H => ?_) (fun H => ?_)
      · -- 31: 34
        refine aw_aload_n (pc := 34) dX11_bornAt_34 rfl ?_
        refine cx_gtC (pc := 35) 134 hE r100 fl_X11_279 rfl rfl (Nat.le_of_ble_eq_true rfl) dX11_bornAt_35 ?_
        refine aw_iload (pc := 38) dX11_bornAt_38 rfl ?_
        refine cx_ldI (pc := 40) hE r134 hv4_5 dX11_bornAt_40 H (fun x40 hx40 H => ?_)
        exact cx_iret (pc := 41) hx40 rfl (Nat.le_of_ble_eq_true rfl) (Nat.le_of_ble_eq_true rfl) dX11_bornAt_41 H
      · -- 31: 42
        refine cx_iinc (pc := 42) [(3, iv (w32 (v3_5 + (-1)))), (0, .ref 100), (1, iv p1), (4, iv v4_5)] dX11_bornAt_42 rfl rfl (by decide) ?_
        exact AW.sel [1, 2, 0, 3] rfl (hj45 _ _ (inR_w32 _) H)
  · -- 11: 51
    refine cx_iconst (pc := 51) dX11_bornAt_51 ?_
    exact cx_iret (pc := 52) (inR_lit _ rfl) rfl (Nat.le_of_ble_eq_true rfl) (Nat.le_of_ble_eq_true rfl) dX11_bornAt_52 H
/-- X11 bornBy (I)I -/
def f_X11_bornBy (n : Nat) (p1 : Int) (mi : Mem) : Option Rz :=
  lp (F := Int → Int → Mem → Option Rz) (fun _ _ _ => none) (fun w4 v2_4 v3_4 m4 =>
    gtF m4 100 44 fun x6 =>
    if v3_4 < x6 then (
      ldI m4 134 v3_4 fun x22 =>
      ldI m4 106 x22 fun x23 =>
      jn (fun (s0_33 : Int) (m33 : Mem) =>
        nm (w32 (v2_4 + s0_33)) fun z34 =>
        w4 z34 (w32 (v3_4 + 1)) m33
      ) fun (j33 : Int → Mem → Option Rz) =>
      if p1 < x23 then (
        j33 0 m4
      ) else
      j33 1 m4
    ) else
    rt v2_4 m4
  ) n 0 0 mi
set_option maxRecDepth 100000 in
set_option maxHeartbeats 4000000 in
theorem s_X11_bornBy (l : Launch) (sc : g_S) (E : Mem → g_H) (R : Nat → Prop) (hE : LE E R) (hR : RRF R) (n : Nat)  (p1 : Int) (hp1 : inR p1) (mi : Mem) (r : Rz) (H : f_X11_bornBy n p1 mi = some r) : AMet l sc yX11_bornBy cX11_bornBy 4 (some FieldType.int) 0 0 0 [.ref 100, iv p1] (E mi) (pI E r) := by
  have r100 : R 100 := hR 100 (Nat.le_of_ble_eq_true rfl) (Nat.le_of_ble_eq_true rfl)
  have r106 : R 106 := hR 106 (Nat.le_of_ble_eq_true rfl) (Nat.le_of_ble_eq_true rfl)
  have r134 : R 134 := hR 134 (Nat.le_of_ble_eq_true rfl) (Nat.le_of_ble_eq_true rfl)
  unfold f_X11_bornBy at H
  refine AMet.of (own := RX11) (by decide +kernel) rfl (Nat.le_of_ble_eq_true rfl) [(0, .ref 100), (1, iv p1)] rfl (fun D base ad => ?_)
  refine cx_iconst (pc := 0) dX11_bornBy_0 ?_
  refine aw_istore_n (pc := 1) [(2, iv 0), (0, .ref 100), (1, iv p1)] dX11_bornBy_1 rfl (by decide) ?_
  refine cx_iconst (pc := 2) dX11_bornBy_2 ?_
  refine aw_istore_n (pc := 3) [(3, iv 0), (2, iv 0), (0, .ref 100), (1, iv p1)] dX11_bornBy_3 rfl (by decide) ?_
  refine AW.sel [2, 3, 1, 0] rfl (lp_ind (bot := fun _ _ _ => none) (fun (f9 : Int → Int → Mem → Option Rz) => ∀ (v2_4 : Int) (v3_4 : Int) (m4 : Mem), inR v2_4 → inR v3_4 → f9 v2_4 v3_4 m4 = some r → AW l D base sc RX11 yX11_bornBy cX11_bornBy 4 (some FieldType.int) 0 0 0 ad (E mi) (pI E r) 0 0 (E m4) 4 [(0, .ref 100), (1, iv p1), (2, iv v2_4), (3, iv v3_4)] []) (fun _ _ _ _ _ h9 => nomatch h9) (fun w4 ih4 v2_4 v3_4 m4 hv2_4 hv3_4 H => ?_) n _ _ _ (inR_lit _ rfl) (inR_lit _ rfl) H)
  refine aw_iload_n (pc := 4) dX11_bornBy_4 rfl ?_
  refine aw_aload_n (pc := 5) dX11_bornBy_5 rfl ?_
  refine cx_gtF (pc := 6) hE r100 fl_X11_309 rfl rfl (Nat.le_of_ble_eq_true rfl) dX11_bornBy_6 H (fun x6 hx6 H => ?_)
  refine cx_icmp_ge (pc := 9) 41 hv3_4 hx6 dX11_bornBy_9 rfl H (fun H => ?_) (fun H => ?_)
  · -- 9: 12
    refine aw_iload_n (pc := 12) dX11_bornBy_12 rfl ?_
    refine aw_aload_n (pc := 13) dX11_bornBy_13 rfl ?_
    refine cx_gtC (pc := 14) 106 hE r100 fl_X11_103 rfl rfl (Nat.le_of_ble_eq_true rfl) dX11_bornBy_14 ?_
    refine aw_aload_n (pc := 17) dX11_bornBy_17 rfl ?_
    refine cx_gtC (pc := 18) 134 hE r100 fl_X11_279 rfl rfl (Nat.le_of_ble_eq_true rfl) dX11_bornBy_18 ?_
    refine aw_iload_n (pc := 21) dX11_bornBy_21 rfl ?_
    refine cx_ldI (pc := 22) hE r134 hv3_4 dX11_bornBy_22 H (fun x22 hx22 H => ?_)
    refine cx_ldI (pc := 23) hE r106 hx22 dX11_bornBy_23 H (fun x23 hx23 H => ?_)
    refine aw_iload_n (pc := 24) dX11_bornBy_24 rfl ?_
    refine jn_ind (fun (f9 : Int → Mem → Option Rz) => ∀ (s0_33 : Int) (m33 : Mem), inR s0_33 → f9 s0_33 m33 = some r → AW l D base sc RX11 yX11_bornBy cX11_bornBy 4 (some FieldType.int) 0 0 0 ad (E mi) (pI E r) 0 0 (E m33) 33 [(0, .ref 100), (1, iv p1), (3, iv v3_4)] [iv s0_33, iv v2_4]) (fun s0_33 m33 hs0_33 H => ?_) (fun j33 hj33 H => ?_) H
    · -- 33
      refine cx_iadd (pc := 33) dX11_bornBy_33 ?_
      refine cx_nm (inR_w32 _) H (fun z34 hz34 H => ?_)
      refine aw_istore_n (pc := 34) [(2, iv z34), (0, .ref 100), (1, iv p1), (3, iv v3_4)] dX11_bornBy_34 rfl (by decide) ?_
      refine cx_iinc (pc := 35) [(3, iv (w32 (v3_4 + 1))), (2, iv z34), (0, .ref 100), (1, iv p1)] dX11_bornBy_35 rfl rfl (by decide) ?_
      refine aw_goto (pc := 38) 4 dX11_bornBy_38 rfl ?_
      exact AW.sel [2, 3, 1, 0] rfl (ih4 _ _ _ hz34 (inR_w32 _) H)
    refine cx_icmp_gt (pc := 25) 32 hx23 hp1 dX11_bornBy_25 rfl H (fun H => ?_) (fun H => ?_)
    · -- 25: 32
      refine cx_iconst (pc := 32) dX11_bornBy_32 ?_
      exact AW.sel [0, 1, 3] rfl (hj33 _ _ (inR_lit _ rfl) H)
    · -- 25: 28
      refine cx_iconst (pc := 28) dX11_bornBy_28 ?_
      refine aw_goto (pc := 29) 33 dX11_bornBy_29 rfl ?_
      exact AW.sel [0, 1, 3] rfl (hj33 _ _ (inR_lit _ rfl) H)
  · -- 9: 41
    refine aw_iload_n (pc := 41) dX11_bornBy_41 rfl ?_
    exact cx_iret (pc := 42) hv2_4 rfl (Nat.le_of_ble_eq_true rfl) (Nat.le_of_ble_eq_true rfl) dX11_bornBy_42 H
/-- X11 born (III)I -/
def f_X11_born (n : Nat) (p1 : Int) (p2 : Int) (p3 : Int) (mi : Mem) : Option Rz :=
  cal (f_X11_in n p1 0 3 mi) fun x3 m3 =>
  jn (fun (m25 : Mem) =>
    cal (f_X11_no n 1 m25) fun x27 m27 =>
    rt x27 m27
  ) fun (j25 : Mem → Option Rz) =>
  if x3 = 0 then (
    j25 m3
  ) else
  if p2 < (-1) then (
    j25 m3
  ) else
  jn (fun (m31 : Mem) =>
    cal (f_X11_bears n m31) fun _ m32 =>
    if p2 < 0 then (
      cal (f_X11_bornBy n p1 m32) fun x41 m41 =>
      rt x41 m41
    ) else
    cal (f_X11_bornBy n p1 m32) fun x48 m48 =>
    jn (fun (s0_73 : Int) (m73 : Mem) =>
      rt s0_73 m73
    ) fun (j73 : Int → Mem → Option Rz) =>
    if p2 < x48 then (
      cal (f_X11_bornAt n p1 p2 m48) fun x59 m59 =>
      cal (f_X11_holds n p3 x59 m59) fun x62 m62 =>
      j73 x62 m62
    ) else
    cal (f_X11_no n 2 m48) fun x70 m70 =>
    j73 x70 m70
  ) fun (j31 : Mem → Option Rz) =>
  if p2 < 0 then (
    j31 m3
  ) else
  cal (f_X11_isSlot n p3 m3) fun x19 m19 =>
  if x19 = 0 then (
    j25 m19
  ) else
  j31 m19
set_option maxRecDepth 100000 in
set_option maxHeartbeats 4000000 in
theorem s_X11_born (l : Launch) (sc : g_S) (E : Mem → g_H) (R : Nat → Prop) (hE : LE E R) (hR : RRF R) (n : Nat)  (p1 : Int) (p2 : Int) (p3 : Int) (hp1 : inR p1) (hp2 : inR p2) (hp3 : inR p3) (mi : Mem) (r : Rz) (H : f_X11_born n p1 p2 p3 mi = some r) : AMet l sc yX11_born cX11_born 4 (some FieldType.int) 309 0 0 [.ref 100, iv p1, iv p2, iv p3] (E mi) (pI E r) := by
  have r100 : R 100 := hR 100 (Nat.le_of_ble_eq_true rfl) (Nat.le_of_ble_eq_true rfl)
  unfold f_X11_born at H
  refine AMet.of (own := RX11) (by decide +kernel) rfl (Nat.le_of_ble_eq_true rfl) [(0, .ref 100), (1, iv p1), (2, iv p2), (3, iv p3)] rfl (fun D base ad => ?_)
  refine aw_iload_n (pc := 0) dX11_born_0 rfl ?_
  refine cx_iconst (pc := 1) dX11_born_1 ?_
  refine cx_iconst (pc := 2) dX11_born_2 ?_
  refine cx_callS (pc := 3) (P := pI) (dC := 0) (mcC := 0) (msC := 0) [iv p1, iv 0, iv 3] (fun r1 H1 => s_X11_in l sc E R hE hR n p1 0 3 hp1 (inR_lit _ rfl) (inR_lit _ rfl) mi r1 H1) ca_X11_106 rfl rfl (Nat.le_of_ble_eq_true rfl) (Nat.le_of_ble_eq_true rfl) (Nat.le_of_ble_eq_true rfl) (Nat.le_of_ble_eq_true rfl) dX11_born_3 H (fun x3 m3 v3 hh3 H hp => ?_)
  refine cx_backI hp (fun hx3 => ?_)
  refine jn_ind (fun (f9 : Mem → Option Rz) => ∀ (m25 : Mem), f9 m25 = some r → AW l D base sc RX11 yX11_born cX11_born 4 (some FieldType.int) 309 0 0 ad (E mi) (pI E r) 0 0 (E m25) 25 [(0, .ref 100)] []) (fun m25 H => ?_) (fun j25 hj25 H => ?_) H
  · -- 25
    refine aw_aload_n (pc := 25) dX11_born_25 rfl ?_
    refine cx_iconst (pc := 26) dX11_born_26 ?_
    refine cx_callV (pc := 27) (P := pI) (dC := 0) (mcC := 0) (msC := 0) [iv 1] hE r100 (fun r1 H1 => s_X11_no l sc E R hE hR n 1 (inR_lit _ rfl) m25 r1 H1) ca_X11_300 rfl ⟨_, rfl, rfl⟩ rfl rfl (Nat.le_of_ble_eq_true rfl) (Nat.le_of_ble_eq_true rfl) (Nat.le_of_ble_eq_true rfl) (Nat.le_of_ble_eq_true rfl) dX11_born_27 H (fun x27 m27 v27 hh27 H hp => ?_)
    refine cx_backI hp (fun hx27 => ?_)
    exact cx_iret (pc := 30) hx27 rfl (Nat.le_of_ble_eq_true rfl) (Nat.le_of_ble_eq_true rfl) dX11_born_30 H
  refine cx_if_eq (pc := 6) 25 hx3 dX11_born_6 rfl H (fun H => ?_) (fun H => ?_)
  · -- 6: 25
    exact AW.sel [0] rfl (hj25 _ H)
  · -- 6: 9
    refine aw_iload_n (pc := 9) dX11_born_9 rfl ?_
    refine cx_iconst (pc := 10) dX11_born_10 ?_
    refine cx_icmp_lt (pc := 11) 25 hp2 (inR_lit _ rfl) dX11_born_11 rfl H (fun H => ?_) (fun H => ?_)
    · -- 11: 25
      exact AW.sel [0] rfl (hj25 _ H)
    · -- 11: 14
      refine aw_iload_n (pc := 14) dX11_born_14 rfl ?_
      refine jn_ind (fun (f9 : Mem → Option Rz) => ∀ (m31 : Mem), f9 m31 = some r → AW l D base sc RX11 yX11_born cX11_born 4 (some FieldType.int) 309 0 0 ad (E mi) (pI E r) 0 0 (E m31) 31 [(0, .ref 100), (1, iv p1), (2, iv p2), (3, iv p3)] []) (fun m31 H => ?_) (fun j31 hj31 H => ?_) H
      · -- 31
        refine aw_aload_n (pc := 31) dX11_born_31 rfl ?_
        refine cx_callV (pc := 32) (P := pV) (dC := 308) (mcC := 0) (msC := 0) [] hE r100 (fun r1 H1 => s_X11_bears l sc E R hE hR n m31 r1 H1) ca_X11_402 rfl ⟨_, rfl, rfl⟩ rfl rfl (Nat.le_of_ble_eq_true rfl) (Nat.le_of_ble_eq_true rfl) (Nat.le_of_ble_eq_true rfl) (Nat.le_of_ble_eq_true rfl) dX11_born_32 H (fun x32 m32 v32 hh32 H hp => ?_)
        refine cx_backV hp ?_
        refine aw_iload_n (pc := 35) dX11_born_35 rfl ?_
        refine cx_if_ge (pc := 36) 45 hp2 dX11_born_36 rfl H (fun H => ?_) (fun H => ?_)
        · -- 36: 39
          refine aw_aload_n (pc := 39) dX11_born_39 rfl ?_
          refine aw_iload_n (pc := 40) dX11_born_40 rfl ?_
          refine cx_callV (pc := 41) (P := pI) (dC := 0) (mcC := 0) (msC := 0) [iv p1] hE r100 (fun r1 H1 => s_X11_bornBy l sc E R hE hR n p1 hp1 m32 r1 H1) ca_X11_405 rfl ⟨_, rfl, rfl⟩ rfl rfl (Nat.le_of_ble_eq_true rfl) (Nat.le_of_ble_eq_true rfl) (Nat.le_of_ble_eq_true rfl) (Nat.le_of_ble_eq_true rfl) dX11_born_41 H (fun x41 m41 v41 hh41 H hp => ?_)
          refine cx_backI hp (fun hx41 => ?_)
          exact cx_iret (pc := 44) hx41 rfl (Nat.le_of_ble_eq_true rfl) (Nat.le_of_ble_eq_true rfl) dX11_born_44 H
        · -- 36: 45
          refine aw_iload_n (pc := 45) dX11_born_45 rfl ?_
          refine aw_aload_n (pc := 46) dX11_born_46 rfl ?_
          refine aw_iload_n (pc := 47) dX11_born_47 rfl ?_
          refine cx_callV (pc := 48) (P := pI) (dC := 0) (mcC := 0) (msC := 0) [iv p1] hE r100 (fun r1 H1 => s_X11_bornBy l sc E R hE hR n p1 hp1 m32 r1 H1) ca_X11_405 rfl ⟨_, rfl, rfl⟩ rfl rfl (Nat.le_of_ble_eq_true rfl) (Nat.le_of_ble_eq_true rfl) (Nat.le_of_ble_eq_true rfl) (Nat.le_of_ble_eq_true rfl) dX11_born_48 H (fun x48 m48 v48 hh48 H hp => ?_)
          refine cx_backI hp (fun hx48 => ?_)
          refine jn_ind (fun (f9 : Int → Mem → Option Rz) => ∀ (s0_73 : Int) (m73 : Mem), inR s0_73 → f9 s0_73 m73 = some r → AW l D base sc RX11 yX11_born cX11_born 4 (some FieldType.int) 309 0 0 ad (E mi) (pI E r) 0 0 (E m73) 73 [] [iv s0_73]) (fun s0_73 m73 hs0_73 H => ?_) (fun j73 hj73 H => ?_) H
          · -- 73
            exact cx_iret (pc := 73) hs0_73 rfl (Nat.le_of_ble_eq_true rfl) (Nat.le_of_ble_eq_true rfl) dX11_born_73 H
          refine cx_icmp_ge (pc := 51) 68 hp2 hx48 dX11_born_51 rfl H (fun H => ?_) (fun H => ?_)
          · -- 51: 54
            refine aw_aload_n (pc := 54) dX11_born_54 rfl ?_
            refine aw_iload_n (pc := 55) dX11_born_55 rfl ?_
            refine aw_aload_n (pc := 56) dX11_born_56 rfl ?_
            refine aw_iload_n (pc := 57) dX11_born_57 rfl ?_
            refine aw_iload_n (pc := 58) dX11_born_58 rfl ?_
            refine cx_callV (pc := 59) (P := pI) (dC := 0) (mcC := 0) (msC := 0) [iv p1, iv p2] hE r100 (fun r1 H1 => s_X11_bornAt l sc E R hE hR n p1 p2 hp1 hp2 m48 r1 H1) ca_X11_408 rfl ⟨_, rfl, rfl⟩ rfl rfl (Nat.le_of_ble_eq_true rfl) (Nat.le_of_ble_eq_true rfl) (Nat.le_of_ble_eq_true rfl) (Nat.le_of_ble_eq_true rfl) dX11_born_59 H (fun x59 m59 v59 hh59 H hp => ?_)
            refine cx_backI hp (fun hx59 => ?_)
            refine cx_callV (pc := 62) (P := pI) (dC := 63) (mcC := 0) (msC := 0) [iv p3, iv x59] hE r100 (fun r1 H1 => s_X11_holds l sc E R hE hR n p3 x59 hp3 hx59 m59 r1 H1) ca_X11_339 rfl ⟨_, rfl, rfl⟩ rfl rfl (Nat.le_of_ble_eq_true rfl) (Nat.le_of_ble_eq_true rfl) (Nat.le_of_ble_eq_true rfl) (Nat.le_of_ble_eq_true rfl) dX11_born_62 H (fun x62 m62 v62 hh62 H hp => ?_)
            refine cx_backI hp (fun hx62 => ?_)
            refine aw_goto (pc := 65) 73 dX11_born_65 rfl ?_
            exact AW.sel [] rfl (hj73 _ _ hx62 H)
          · -- 51: 68
            refine aw_aload_n (pc := 68) dX11_born_68 rfl ?_
            refine cx_iconst (pc := 69) dX11_born_69 ?_
            refine cx_callV (pc := 70) (P := pI) (dC := 0) (mcC := 0) (msC := 0) [iv 2] hE r100 (fun r1 H1 => s_X11_no l sc E R hE hR n 2 (inR_lit _ rfl) m48 r1 H1) ca_X11_300 rfl ⟨_, rfl, rfl⟩ rfl rfl (Nat.le_of_ble_eq_true rfl) (Nat.le_of_ble_eq_true rfl) (Nat.le_of_ble_eq_true rfl) (Nat.le_of_ble_eq_true rfl) dX11_born_70 H (fun x70 m70 v70 hh70 H hp => ?_)
            refine cx_backI hp (fun hx70 => ?_)
            exact AW.sel [] rfl (hj73 _ _ hx70 H)
      refine cx_if_lt (pc := 15) 31 hp2 dX11_born_15 rfl H (fun H => ?_) (fun H => ?_)
      · -- 15: 31
        exact AW.sel [0, 1, 2, 3] rfl (hj31 _ H)
      · -- 15: 18
        refine aw_iload_n (pc := 18) dX11_born_18 rfl ?_
        refine cx_callS (pc := 19) (P := pI) (dC := 1) (mcC := 0) (msC := 0) [iv p3] (fun r1 H1 => s_X11_isSlot l sc E R hE hR n p3 hp3 m3 r1 H1) ca_X11_324 rfl rfl (Nat.le_of_ble_eq_true rfl) (Nat.le_of_ble_eq_true rfl) (Nat.le_of_ble_eq_true rfl) (Nat.le_of_ble_eq_true rfl) dX11_born_19 H (fun x19 m19 v19 hh19 H hp => ?_)
        refine cx_backI hp (fun hx19 => ?_)
        refine cx_if_ne (pc := 22) 31 hx19 dX11_born_22 rfl H (fun H => ?_) (fun H => ?_)
        · -- 22: 25
          exact AW.sel [0] rfl (hj25 _ H)
        · -- 22: 31
          exact AW.sel [0, 1, 2, 3] rfl (hj31 _ H)
/-- X11 place (II)I -/
def f_X11_place (n : Nat) (p1 : Int) (p2 : Int) (mi : Mem) : Option Rz :=
  cal (f_X11_in n p1 0 3 mi) fun x3 m3 =>
  jn (fun (m16 : Mem) =>
    cal (f_X11_no n 1 m16) fun x18 m18 =>
    rt x18 m18
  ) fun (j16 : Mem → Option Rz) =>
  if x3 = 0 then (
    j16 m3
  ) else
  cal (f_X11_isSlot n p2 m3) fun x10 m10 =>
  if x10 = 0 then (
    j16 m10
  ) else
  cal (f_X11_bears n m10) fun _ m23 =>
  lp (F := Int → Mem → Option Rz) (fun _ _ => none) (fun w28 v3_28 m28 =>
    cal (f_X11_bornBy n p1 m28) fun x31 m31 =>
    if v3_28 < x31 then (
      cal (f_X11_bornAt n p1 v3_28 m31) fun x40 m40 =>
      ldI m40 129 p2 fun x48 =>
      if x40 = x48 then (
        rt v3_28 m40
      ) else
      w28 (w32 (v3_28 + 1)) m40
    ) else
    cal (f_X11_no n 2 m31) fun x62 m62 =>
    rt x62 m62
  ) n 0 m23
set_option maxRecDepth 100000 in
set_option maxHeartbeats 4000000 in
theorem s_X11_place (l : Launch) (sc : g_S) (E : Mem → g_H) (R : Nat → Prop) (hE : LE E R) (hR : RRF R) (n : Nat)  (p1 : Int) (p2 : Int) (hp1 : inR p1) (hp2 : inR p2) (mi : Mem) (r : Rz) (H : f_X11_place n p1 p2 mi = some r) : AMet l sc yX11_place cX11_place 4 (some FieldType.int) 309 0 0 [.ref 100, iv p1, iv p2] (E mi) (pI E r) := by
  have r100 : R 100 := hR 100 (Nat.le_of_ble_eq_true rfl) (Nat.le_of_ble_eq_true rfl)
  have r129 : R 129 := hR 129 (Nat.le_of_ble_eq_true rfl) (Nat.le_of_ble_eq_true rfl)
  unfold f_X11_place at H
  refine AMet.of (own := RX11) (by decide +kernel) rfl (Nat.le_of_ble_eq_true rfl) [(0, .ref 100), (1, iv p1), (2, iv p2)] rfl (fun D base ad => ?_)
  refine aw_iload_n (pc := 0) dX11_place_0 rfl ?_
  refine cx_iconst (pc := 1) dX11_place_1 ?_
  refine cx_iconst (pc := 2) dX11_place_2 ?_
  refine cx_callS (pc := 3) (P := pI) (dC := 0) (mcC := 0) (msC := 0) [iv p1, iv 0, iv 3] (fun r1 H1 => s_X11_in l sc E R hE hR n p1 0 3 hp1 (inR_lit _ rfl) (inR_lit _ rfl) mi r1 H1) ca_X11_106 rfl rfl (Nat.le_of_ble_eq_true rfl) (Nat.le_of_ble_eq_true rfl) (Nat.le_of_ble_eq_true rfl) (Nat.le_of_ble_eq_true rfl) dX11_place_3 H (fun x3 m3 v3 hh3 H hp => ?_)
  refine cx_backI hp (fun hx3 => ?_)
  refine jn_ind (fun (f9 : Mem → Option Rz) => ∀ (m16 : Mem), f9 m16 = some r → AW l D base sc RX11 yX11_place cX11_place 4 (some FieldType.int) 309 0 0 ad (E mi) (pI E r) 0 0 (E m16) 16 [(0, .ref 100)] []) (fun m16 H => ?_) (fun j16 hj16 H => ?_) H
  · -- 16
    refine aw_aload_n (pc := 16) dX11_place_16 rfl ?_
    refine cx_iconst (pc := 17) dX11_place_17 ?_
    refine cx_callV (pc := 18) (P := pI) (dC := 0) (mcC := 0) (msC := 0) [iv 1] hE r100 (fun r1 H1 => s_X11_no l sc E R hE hR n 1 (inR_lit _ rfl) m16 r1 H1) ca_X11_300 rfl ⟨_, rfl, rfl⟩ rfl rfl (Nat.le_of_ble_eq_true rfl) (Nat.le_of_ble_eq_true rfl) (Nat.le_of_ble_eq_true rfl) (Nat.le_of_ble_eq_true rfl) dX11_place_18 H (fun x18 m18 v18 hh18 H hp => ?_)
    refine cx_backI hp (fun hx18 => ?_)
    exact cx_iret (pc := 21) hx18 rfl (Nat.le_of_ble_eq_true rfl) (Nat.le_of_ble_eq_true rfl) dX11_place_21 H
  refine cx_if_eq (pc := 6) 16 hx3 dX11_place_6 rfl H (fun H => ?_) (fun H => ?_)
  · -- 6: 16
    exact AW.sel [0] rfl (hj16 _ H)
  · -- 6: 9
    refine aw_iload_n (pc := 9) dX11_place_9 rfl ?_
    refine cx_callS (pc := 10) (P := pI) (dC := 1) (mcC := 0) (msC := 0) [iv p2] (fun r1 H1 => s_X11_isSlot l sc E R hE hR n p2 hp2 m3 r1 H1) ca_X11_324 rfl rfl (Nat.le_of_ble_eq_true rfl) (Nat.le_of_ble_eq_true rfl) (Nat.le_of_ble_eq_true rfl) (Nat.le_of_ble_eq_true rfl) dX11_place_10 H (fun x10 m10 v10 hh10 H hp => ?_)
    refine cx_backI hp (fun hx10 => ?_)
    refine cx_if_ne (pc := 13) 22 hx10 dX11_place_13 rfl H (fun H => ?_) (fun H => ?_)
    · -- 13: 16
      exact AW.sel [0] rfl (hj16 _ H)
    · -- 13: 22
      refine aw_aload_n (pc := 22) dX11_place_22 rfl ?_
      refine cx_callV (pc := 23) (P := pV) (dC := 308) (mcC := 0) (msC := 0) [] hE r100 (fun r1 H1 => s_X11_bears l sc E R hE hR n m10 r1 H1) ca_X11_402 rfl ⟨_, rfl, rfl⟩ rfl rfl (Nat.le_of_ble_eq_true rfl) (Nat.le_of_ble_eq_true rfl) (Nat.le_of_ble_eq_true rfl) (Nat.le_of_ble_eq_true rfl) dX11_place_23 H (fun x23 m23 v23 hh23 H hp => ?_)
      refine cx_backV hp ?_
      refine cx_iconst (pc := 26) dX11_place_26 ?_
      refine aw_istore_n (pc := 27) [(3, iv 0), (0, .ref 100), (1, iv p1), (2, iv p2)] dX11_place_27 rfl (by decide) ?_
      refine AW.sel [1, 2, 3, 0] rfl (lp_ind (bot := fun _ _ => none) (fun (f9 : Int → Mem → Option Rz) => ∀ (v3_28 : Int) (m28 : Mem), inR v3_28 → f9 v3_28 m28 = some r → AW l D base sc RX11 yX11_place cX11_place 4 (some FieldType.int) 309 0 0 ad (E mi) (pI E r) 0 0 (E m28) 28 [(0, .ref 100), (1, iv p1), (2, iv p2), (3, iv v3_28)] []) (fun _ _ _ h9 => nomatch h9) (fun w28 ih28 v3_28 m28 hv3_28 H => ?_) n _ _ (inR_lit _ rfl) H)
      refine aw_iload_n (pc := 28) dX11_place_28 rfl ?_
      refine aw_aload_n (pc := 29) dX11_place_29 rfl ?_
      refine aw_iload_n (pc := 30) dX11_place_30 rfl ?_
      refine cx_callV (pc := 31) (P := pI) (dC := 0) (mcC := 0) (msC := 0) [iv p1] hE r100 (fun r1 H1 => s_X11_bornBy l sc E R hE hR n p1 hp1 m28 r1 H1) ca_X11_405 rfl ⟨_, rfl, rfl⟩ rfl rfl (Nat.le_of_ble_eq_true rfl) (Nat.le_of_ble_eq_true rfl) (Nat.le_of_ble_eq_true rfl) (Nat.le_of_ble_eq_true rfl) dX11_place_31 H (fun x31 m31 v31 hh31 H hp => ?_)
      refine cx_backI hp (fun hx31 => ?_)
      refine cx_icmp_ge (pc := 34) 60 hv3_28 hx31 dX11_place_34 rfl H (fun H => ?_) (fun H => ?_)
      · -- 34: 37
        refine aw_aload_n (pc := 37) dX11_place_37 rfl ?_
        refine aw_iload_n (pc := 38) dX11_place_38 rfl ?_
        refine aw_iload_n (pc := 39) dX11_place_39 rfl ?_
        refine cx_callV (pc := 40) (P := pI) (dC := 0) (mcC := 0) (msC := 0) [iv p1, iv v3_28] hE r100 (fun r1 H1 => s_X11_bornAt l sc E R hE hR n p1 v3_28 hp1 hv3_28 m31 r1 H1) ca_X11_408 rfl ⟨_, rfl, rfl⟩ rfl rfl (Nat.le_of_ble_eq_true rfl) (Nat.le_of_ble_eq_true rfl) (Nat.le_of_ble_eq_true rfl) (Nat.le_of_ble_eq_true rfl) dX11_place_40 H (fun x40 m40 v40 hh40 H hp => ?_)
        refine cx_backI hp (fun hx40 => ?_)
        refine aw_aload_n (pc := 43) dX11_place_43 rfl ?_
        refine cx_gtC (pc := 44) 129 hE r100 fl_X11_264 rfl rfl (Nat.le_of_ble_eq_true rfl) dX11_place_44 ?_
        refine aw_iload_n (pc := 47) dX11_place_47 rfl ?_
        refine cx_ldI (pc := 48) hE r129 hp2 dX11_place_48 H (fun x48 hx48 H => ?_)
        refine cx_icmp_ne (pc := 49) 54 hx40 hx48 dX11_place_49 rfl H (fun H => ?_) (fun H => ?_)
        · -- 49: 52
          refine aw_iload_n (pc := 52) dX11_place_52 rfl ?_
          exact cx_iret (pc := 53) hv3_28 rfl (Nat.le_of_ble_eq_true rfl) (Nat.le_of_ble_eq_true rfl) dX11_place_53 H
        · -- 49: 54
          refine cx_iinc (pc := 54) [(3, iv (w32 (v3_28 + 1))), (0, .ref 100), (1, iv p1), (2, iv p2)] dX11_place_54 rfl rfl (by decide) ?_
          refine aw_goto (pc := 57) 28 dX11_place_57 rfl ?_
          exact AW.sel [1, 2, 3, 0] rfl (ih28 _ _ (inR_w32 _) H)
      · -- 34: 60
        refine aw_aload_n (pc := 60) dX11_place_60 rfl ?_
        refine cx_iconst (pc := 61) dX11_place_61 ?_
        refine cx_callV (pc := 62) (P := pI) (dC := 0) (mcC := 0) (msC := 0) [iv 2] hE r100 (fun r1 H1 => s_X11_no l sc E R hE hR n 2 (inR_lit _ rfl) m31 r1 H1) ca_X11_300 rfl ⟨_, rfl, rfl⟩ rfl rfl (Nat.le_of_ble_eq_true rfl) (Nat.le_of_ble_eq_true rfl) (Nat.le_of_ble_eq_true rfl) (Nat.le_of_ble_eq_true rfl) dX11_place_62 H (fun x62 m62 v62 hh62 H hp => ?_)
        refine cx_backI hp (fun hx62 => ?_)
        exact cx_iret (pc := 65) hx62 rfl (Nat.le_of_ble_eq_true rfl) (Nat.le_of_ble_eq_true rfl) dX11_place_65 H
/-- X11 feed (JI)I -/
def f_X11_feed (n : Nat) (p1 : Nat) (p3 : Int) (mi : Mem) : Option Rz :=
  cal (f_X11_in n p3 1 8 mi) fun x4 m4 =>
  if x4 = 0 then (
    cal (f_X11_no n 1 m4) fun x12 m12 =>
    rt x12 m12
  ) else
  gtF m4 100 49 fun x17 =>
  if 120 < w32 (x17 + p3) then (
    cal (f_X11_no n 4 m4) fun x29 m29 =>
    rt x29 m29
  ) else
  lp (F := Int → Mem → Option Rz) (fun _ _ => none) (fun w36 v4_36 m36 =>
    if v4_36 < p3 then (
      gtF m36 100 49 fun x47 =>
      stI m36 136 x47 (j2i (jand (jshr p1 (w32 (8 * v4_36))) 255)) fun m62 =>
      gtF m62 100 49 fun x65 =>
      ptF m62 100 49 (w32 (x65 + 1)) fun m70 =>
      w36 (w32 (v4_36 + 1)) m70
    ) else
    gtF m36 100 49 fun x80 =>
    rt x80 m36
  ) n 0 m4
set_option maxRecDepth 100000 in
set_option maxHeartbeats 4000000 in
theorem s_X11_feed (l : Launch) (sc : g_S) (E : Mem → g_H) (R : Nat → Prop) (hE : LE E R) (hR : RRF R) (n : Nat)  (p1 : Nat) (p3 : Int) (hp3 : inR p3) (mi : Mem) (r : Rz) (H : f_X11_feed n p1 p3 mi = some r) : AMet l sc yX11_feed cX11_feed 5 (some FieldType.int) 1 0 0 [.ref 100, jv p1, iv p3] (E mi) (pI E r) := by
  have r100 : R 100 := hR 100 (Nat.le_of_ble_eq_true rfl) (Nat.le_of_ble_eq_true rfl)
  have r136 : R 136 := hR 136 (Nat.le_of_ble_eq_true rfl) (Nat.le_of_ble_eq_true rfl)
  unfold f_X11_feed at H
  refine AMet.of (own := RX11) (by decide +kernel) rfl (Nat.le_of_ble_eq_true rfl) [(0, .ref 100), (1, jv p1), (3, iv p3)] rfl (fun D base ad => ?_)
  refine aw_iload_n (pc := 0) dX11_feed_0 rfl ?_
  refine cx_iconst (pc := 1) dX11_feed_1 ?_
  refine cx_bipush (pc := 2) dX11_feed_2 (by decide) ?_
  refine cx_callS (pc := 4) (P := pI) (dC := 0) (mcC := 0) (msC := 0) [iv p3, iv 1, iv 8] (fun r1 H1 => s_X11_in l sc E R hE hR n p3 1 8 hp3 (inR_lit _ rfl) (inR_lit _ rfl) mi r1 H1) ca_X11_106 rfl rfl (Nat.le_of_ble_eq_true rfl) (Nat.le_of_ble_eq_true rfl) (Nat.le_of_ble_eq_true rfl) (Nat.le_of_ble_eq_true rfl) dX11_feed_4 H (fun x4 m4 v4 hh4 H hp => ?_)
  refine cx_backI hp (fun hx4 => ?_)
  refine cx_if_ne (pc := 7) 16 hx4 dX11_feed_7 rfl H (fun H => ?_) (fun H => ?_)
  · -- 7: 10
    refine aw_aload_n (pc := 10) dX11_feed_10 rfl ?_
    refine cx_iconst (pc := 11) dX11_feed_11 ?_
    refine cx_callV (pc := 12) (P := pI) (dC := 0) (mcC := 0) (msC := 0) [iv 1] hE r100 (fun r1 H1 => s_X11_no l sc E R hE hR n 1 (inR_lit _ rfl) m4 r1 H1) ca_X11_300 rfl ⟨_, rfl, rfl⟩ rfl rfl (Nat.le_of_ble_eq_true rfl) (Nat.le_of_ble_eq_true rfl) (Nat.le_of_ble_eq_true rfl) (Nat.le_of_ble_eq_true rfl) dX11_feed_12 H (fun x12 m12 v12 hh12 H hp => ?_)
    refine cx_backI hp (fun hx12 => ?_)
    exact cx_iret (pc := 15) hx12 rfl (Nat.le_of_ble_eq_true rfl) (Nat.le_of_ble_eq_true rfl) dX11_feed_15 H
  · -- 7: 16
    refine aw_aload_n (pc := 16) dX11_feed_16 rfl ?_
    refine cx_gtF (pc := 17) hE r100 fl_X11_411 rfl rfl (Nat.le_of_ble_eq_true rfl) dX11_feed_17 H (fun x17 hx17 H => ?_)
    refine aw_iload_n (pc := 20) dX11_feed_20 rfl ?_
    refine cx_iadd (pc := 21) dX11_feed_21 ?_
    refine cx_bipush (pc := 22) dX11_feed_22 (by decide) ?_
    refine cx_icmp_le (pc := 24) 33 (inR_w32 _) (inR_lit _ rfl) dX11_feed_24 rfl H (fun H => ?_) (fun H => ?_)
    · -- 24: 27
      refine aw_aload_n (pc := 27) dX11_feed_27 rfl ?_
      refine cx_iconst (pc := 28) dX11_feed_28 ?_
      refine cx_callV (pc := 29) (P := pI) (dC := 0) (mcC := 0) (msC := 0) [iv 4] hE r100 (fun r1 H1 => s_X11_no l sc E R hE hR n 4 (inR_lit _ rfl) m4 r1 H1) ca_X11_300 rfl ⟨_, rfl, rfl⟩ rfl rfl (Nat.le_of_ble_eq_true rfl) (Nat.le_of_ble_eq_true rfl) (Nat.le_of_ble_eq_true rfl) (Nat.le_of_ble_eq_true rfl) dX11_feed_29 H (fun x29 m29 v29 hh29 H hp => ?_)
      refine cx_backI hp (fun hx29 => ?_)
      exact cx_iret (pc := 32) hx29 rfl (Nat.le_of_ble_eq_true rfl) (Nat.le_of_ble_eq_true rfl) dX11_feed_32 H
    · -- 24: 33
      refine cx_iconst (pc := 33) dX11_feed_33 ?_
      refine aw_istore (pc := 34) [(4, iv 0), (0, .ref 100), (1, jv p1), (3, iv p3)] dX11_feed_34 rfl (by decide) ?_
      refine AW.sel [1, 2, 3, 0] rfl (lp_ind (bot := fun _ _ => none) (fun (f9 : Int → Mem → Option Rz) => ∀ (v4_36 : Int) (m36 : Mem), inR v4_36 → f9 v4_36 m36 = some r → AW l D base sc RX11 yX11_feed cX11_feed 5 (some FieldType.int) 1 0 0 ad (E mi) (pI E r) 0 0 (E m36) 36 [(0, .ref 100), (1, jv p1), (3, iv p3), (4, iv v4_36)] []) (fun _ _ _ h9 => nomatch h9) (fun w36 ih36 v4_36 m36 hv4_36 H => ?_) n _ _ (inR_lit _ rfl) H)
      refine aw_iload (pc := 36) dX11_feed_36 rfl ?_
      refine aw_iload_n (pc := 38) dX11_feed_38 rfl ?_
      refine cx_icmp_ge (pc := 39) 79 hv4_36 hp3 dX11_feed_39 rfl H (fun H => ?_) (fun H => ?_)
      · -- 39: 42
        refine aw_aload_n (pc := 42) dX11_feed_42 rfl ?_
        refine cx_gtC (pc := 43) 136 hE r100 fl_X11_285 rfl rfl (Nat.le_of_ble_eq_true rfl) dX11_feed_43 ?_
        refine aw_aload_n (pc := 46) dX11_feed_46 rfl ?_
        refine cx_gtF (pc := 47) hE r100 fl_X11_411 rfl rfl (Nat.le_of_ble_eq_true rfl) dX11_feed_47 H (fun x47 hx47 H => ?_)
        refine aw_lload_n (pc := 50) dX11_feed_50 rfl ?_
        refine cx_bipush (pc := 51) dX11_feed_51 (by decide) ?_
        refine aw_iload (pc := 53) dX11_feed_53 rfl ?_
        refine cx_imul (pc := 55) dX11_feed_55 ?_
        refine cx_lshr (pc := 56) dX11_feed_56 ?_
        refine cx_ldc2 (pc := 57) 255 dX11_feed_57 ct_X11_414 (by decide) ?_
        refine cx_land (pc := 60) dX11_feed_60 ?_
        refine cx_l2i (pc := 61) dX11_feed_61 ?_
        refine cx_stI (pc := 62) hE r136 hx47 dX11_feed_62 H (fun m62 H => ?_)
        refine aw_aload_n (pc := 63) dX11_feed_63 rfl ?_
        refine aw_dup (pc := 64) dX11_feed_64 rfl ?_
        refine cx_gtF (pc := 65) hE r100 fl_X11_411 rfl rfl (Nat.le_of_ble_eq_true rfl) dX11_feed_65 H (fun x65 hx65 H => ?_)
        refine cx_iconst (pc := 68) dX11_feed_68 ?_
        refine cx_iadd (pc := 69) dX11_feed_69 ?_
        refine cx_ptF (pc := 70) tyX11 hE r100 fl_X11_411 (fun r h => ⟨gty_X11 r h, by cases h; rfl⟩) rfl rfl rfl (Nat.le_of_ble_eq_true rfl) dX11_feed_70 H (fun m70 H => ?_)
        refine cx_iinc (pc := 73) [(4, iv (w32 (v4_36 + 1))), (0, .ref 100), (1, jv p1), (3, iv p3)] dX11_feed_73 rfl rfl (by decide) ?_
        refine aw_goto (pc := 76) 36 dX11_feed_76 rfl ?_
        exact AW.sel [1, 2, 3, 0] rfl (ih36 _ _ (inR_w32 _) H)
      · -- 39: 79
        refine aw_aload_n (pc := 79) dX11_feed_79 rfl ?_
        refine cx_gtF (pc := 80) hE r100 fl_X11_411 rfl rfl (Nat.le_of_ble_eq_true rfl) dX11_feed_80 H (fun x80 hx80 H => ?_)
        exact cx_iret (pc := 83) hx80 rfl (Nat.le_of_ble_eq_true rfl) (Nat.le_of_ble_eq_true rfl) dX11_feed_83 H
/-- X11 here ()I -/
def f_X11_here (n : Nat)  (mi : Mem) : Option Rz :=
  gtF mi 100 50 fun x1 =>
  gtF mi 100 49 fun x5 =>
  jn (fun (s0_24 : Int) (m24 : Mem) =>
    rt s0_24 m24
  ) fun (j24 : Int → Mem → Option Rz) =>
  if x1 < x5 then (
    gtF mi 100 50 fun x16 =>
    ldI mi 136 x16 fun x19 =>
    j24 x19 mi
  ) else
  j24 (-1) mi
set_option maxRecDepth 100000 in
set_option maxHeartbeats 4000000 in
theorem s_X11_here (l : Launch) (sc : g_S) (E : Mem → g_H) (R : Nat → Prop) (hE : LE E R) (hR : RRF R) (n : Nat)    (mi : Mem) (r : Rz) (H : f_X11_here n  mi = some r) : AMet l sc yX11_here cX11_here 1 (some FieldType.int) 0 0 0 [.ref 100] (E mi) (pI E r) := by
  have r100 : R 100 := hR 100 (Nat.le_of_ble_eq_true rfl) (Nat.le_of_ble_eq_true rfl)
  have r136 : R 136 := hR 136 (Nat.le_of_ble_eq_true rfl) (Nat.le_of_ble_eq_true rfl)
  unfold f_X11_here at H
  refine AMet.of (own := RX11) (by decide +kernel) rfl (Nat.le_of_ble_eq_true rfl) [(0, .ref 100)] rfl (fun D base ad => ?_)
  refine aw_aload_n (pc := 0) dX11_here_0 rfl ?_
  refine cx_gtF (pc := 1) hE r100 fl_X11_416 rfl rfl (Nat.le_of_ble_eq_true rfl) dX11_here_1 H (fun x1 hx1 H => ?_)
  refine aw_aload_n (pc := 4) dX11_here_4 rfl ?_
  refine cx_gtF (pc := 5) hE r100 fl_X11_411 rfl rfl (Nat.le_of_ble_eq_true rfl) dX11_here_5 H (fun x5 hx5 H => ?_)
  refine jn_ind (fun (f9 : Int → Mem → Option Rz) => ∀ (s0_24 : Int) (m24 : Mem), inR s0_24 → f9 s0_24 m24 = some r → AW l D base sc RX11 yX11_here cX11_here 1 (some FieldType.int) 0 0 0 ad (E mi) (pI E r) 0 0 (E m24) 24 [] [iv s0_24]) (fun s0_24 m24 hs0_24 H => ?_) (fun j24 hj24 H => ?_) H
  · -- 24
    exact cx_iret (pc := 24) hs0_24 rfl (Nat.le_of_ble_eq_true rfl) (Nat.le_of_ble_eq_true rfl) dX11_here_24 H
  refine cx_icmp_ge (pc := 8) 23 hx1 hx5 dX11_here_8 rfl H (fun H => ?_) (fun H => ?_)
  · -- 8: 11
    refine aw_aload_n (pc := 11) dX11_here_11 rfl ?_
    refine cx_gtC (pc := 12) 136 hE r100 fl_X11_285 rfl rfl (Nat.le_of_ble_eq_true rfl) dX11_here_12 ?_
    refine aw_aload_n (pc := 15) dX11_here_15 rfl ?_
    refine cx_gtF (pc := 16) hE r100 fl_X11_416 rfl rfl (Nat.le_of_ble_eq_true rfl) dX11_here_16 H (fun x16 hx16 H => ?_)
    refine cx_ldI (pc := 19) hE r136 hx16 dX11_here_19 H (fun x19 hx19 H => ?_)
    refine aw_goto (pc := 20) 24 dX11_here_20 rfl ?_
    exact AW.sel [] rfl (hj24 _ _ hx19 H)
  · -- 8: 23
    refine cx_iconst (pc := 23) dX11_here_23 ?_
    exact AW.sel [] rfl (hj24 _ _ (inR_lit _ rfl) H)
/-- X11 isDigit ()Z -/
def f_X11_isDigit (n : Nat)  (mi : Mem) : Option Rz :=
  cal (f_X11_here n mi) fun x1 m1 =>
  cal (f_X11_in n x1 48 57 m1) fun x8 m8 =>
  rtZ x8 m8
set_option maxRecDepth 100000 in
set_option maxHeartbeats 4000000 in
theorem s_X11_isDigit (l : Launch) (sc : g_S) (E : Mem → g_H) (R : Nat → Prop) (hE : LE E R) (hR : RRF R) (n : Nat)    (mi : Mem) (r : Rz) (H : f_X11_isDigit n  mi = some r) : AMet l sc yX11_isDigit cX11_isDigit 1 (some FieldType.boolean) 1 0 0 [.ref 100] (E mi) (pI E r) := by
  have r100 : R 100 := hR 100 (Nat.le_of_ble_eq_true rfl) (Nat.le_of_ble_eq_true rfl)
  unfold f_X11_isDigit at H
  refine AMet.of (own := RX11) (by decide +kernel) rfl (Nat.le_of_ble_eq_true rfl) [(0, .ref 100)] rfl (fun D base ad => ?_)
  refine aw_aload_n (pc := 0) dX11_isDigit_0 rfl ?_
  refine cx_callV (pc := 1) (P := pI) (dC := 0) (mcC := 0) (msC := 0) [] hE r100 (fun r1 H1 => s_X11_here l sc E R hE hR n mi r1 H1) ca_X11_419 rfl ⟨_, rfl, rfl⟩ rfl rfl (Nat.le_of_ble_eq_true rfl) (Nat.le_of_ble_eq_true rfl) (Nat.le_of_ble_eq_true rfl) (Nat.le_of_ble_eq_true rfl) dX11_isDigit_1 H (fun x1 m1 v1 hh1 H hp => ?_)
  refine cx_backI hp (fun hx1 => ?_)
  refine cx_bipush (pc := 4) dX11_isDigit_4 (by decide) ?_
  refine cx_bipush (pc := 6) dX11_isDigit_6 (by decide) ?_
  refine cx_callS (pc := 8) (P := pI) (dC := 0) (mcC := 0) (msC := 0) [iv x1, iv 48, iv 57] (fun r1 H1 => s_X11_in l sc E R hE hR n x1 48 57 hx1 (inR_lit _ rfl) (inR_lit _ rfl) m1 r1 H1) ca_X11_106 rfl rfl (Nat.le_of_ble_eq_true rfl) (Nat.le_of_ble_eq_true rfl) (Nat.le_of_ble_eq_true rfl) (Nat.le_of_ble_eq_true rfl) dX11_isDigit_8 H (fun x8 m8 v8 hh8 H hp => ?_)
  refine cx_backI hp (fun hx8 => ?_)
  exact cx_zret (pc := 11) rfl (Nat.le_of_ble_eq_true rfl) (Nat.le_of_ble_eq_true rfl) dX11_isDigit_11 H
/-- X11 faults (I)V -/
def f_X11_faults (n : Nat) (p1 : Int) (mi : Mem) : Option Rz :=
  gtF mi 100 51 fun x2 =>
  jn (fun (s0_16 : Int) (m16 : Mem) =>
    ptF m16 100 51 s0_16 fun m16 =>
    rt 0 m16
  ) fun (j16 : Int → Mem → Option Rz) =>
  if x2 < 0 then (
    j16 p1 mi
  ) else
  gtF mi 100 51 fun x13 =>
  j16 x13 mi
set_option maxRecDepth 100000 in
set_option maxHeartbeats 4000000 in
theorem s_X11_faults (l : Launch) (sc : g_S) (E : Mem → g_H) (R : Nat → Prop) (hE : LE E R) (hR : RRF R) (n : Nat)  (p1 : Int) (hp1 : inR p1) (mi : Mem) (r : Rz) (H : f_X11_faults n p1 mi = some r) : AMet l sc yX11_faults cX11_faults 2 none 0 0 0 [.ref 100, iv p1] (E mi) (pV E r) := by
  have r100 : R 100 := hR 100 (Nat.le_of_ble_eq_true rfl) (Nat.le_of_ble_eq_true rfl)
  unfold f_X11_faults at H
  refine AMet.of (own := RX11) (by decide +kernel) rfl (Nat.le_of_ble_eq_true rfl) [(0, .ref 100), (1, iv p1)] rfl (fun D base ad => ?_)
  refine aw_aload_n (pc := 0) dX11_faults_0 rfl ?_
  refine aw_aload_n (pc := 1) dX11_faults_1 rfl ?_
  refine cx_gtF (pc := 2) hE r100 fl_X11_422 rfl rfl (Nat.le_of_ble_eq_true rfl) dX11_faults_2 H (fun x2 hx2 H => ?_)
  refine jn_ind (fun (f9 : Int → Mem → Option Rz) => ∀ (s0_16 : Int) (m16 : Mem), inR s0_16 → f9 s0_16 m16 = some r → AW l D base sc RX11 yX11_faults cX11_faults 2 none 0 0 0 ad (E mi) (pV E r) 0 0 (E m16) 16 [] [iv s0_16, .ref 100]) (fun s0_16 m16 hs0_16 H => ?_) (fun j16 hj16 H => ?_) H
  · -- 16
    refine cx_ptF (pc := 16) tyX11 hE r100 fl_X11_422 (fun r h => ⟨gty_X11 r h, by cases h; rfl⟩) rfl rfl rfl (Nat.le_of_ble_eq_true rfl) dX11_faults_16 H (fun m16 H => ?_)
    exact cx_vret (pc := 19) rfl (Nat.le_of_ble_eq_true rfl) (Nat.le_of_ble_eq_true rfl) dX11_faults_19 H
  refine cx_if_ge (pc := 5) 12 hx2 dX11_faults_5 rfl H (fun H => ?_) (fun H => ?_)
  · -- 5: 8
    refine aw_iload_n (pc := 8) dX11_faults_8 rfl ?_
    refine aw_goto (pc := 9) 16 dX11_faults_9 rfl ?_
    exact AW.sel [] rfl (hj16 _ _ hp1 H)
  · -- 5: 12
    refine aw_aload_n (pc := 12) dX11_faults_12 rfl ?_
    refine cx_gtF (pc := 13) hE r100 fl_X11_422 rfl rfl (Nat.le_of_ble_eq_true rfl) dX11_faults_13 H (fun x13 hx13 H => ?_)
    exact AW.sel [] rfl (hj16 _ _ hx13 H)
/-- X11 wants (I)V -/
def f_X11_wants (n : Nat) (p1 : Int) (mi : Mem) : Option Rz :=
  gtF mi 100 51 fun x1 =>
  jn (fun (m36 : Mem) =>
    rt 0 m36
  ) fun (j36 : Mem → Option Rz) =>
  jn (fun (m28 : Mem) =>
    gtF m28 100 50 fun x30 =>
    cal (f_X11_faults n x30 m28) fun _ m33 =>
    j36 m33
  ) fun (j28 : Mem → Option Rz) =>
  if x1 < 0 then (
    cal (f_X11_here n mi) fun x8 m8 =>
    if x8 = p1 then (
      gtF m8 100 50 fun x17 =>
      ptF m8 100 50 (w32 (x17 + 1)) fun m22 =>
      j36 m22
    ) else
    j28 m8
  ) else
  j28 mi
set_option maxRecDepth 100000 in
set_option maxHeartbeats 4000000 in
theorem s_X11_wants (l : Launch) (sc : g_S) (E : Mem → g_H) (R : Nat → Prop) (hE : LE E R) (hR : RRF R) (n : Nat)  (p1 : Int) (hp1 : inR p1) (mi : Mem) (r : Rz) (H : f_X11_wants n p1 mi = some r) : AMet l sc yX11_wants cX11_wants 2 none 1 0 0 [.ref 100, iv p1] (E mi) (pV E r) := by
  have r100 : R 100 := hR 100 (Nat.le_of_ble_eq_true rfl) (Nat.le_of_ble_eq_true rfl)
  unfold f_X11_wants at H
  refine AMet.of (own := RX11) (by decide +kernel) rfl (Nat.le_of_ble_eq_true rfl) [(0, .ref 100), (1, iv p1)] rfl (fun D base ad => ?_)
  refine aw_aload_n (pc := 0) dX11_wants_0 rfl ?_
  refine cx_gtF (pc := 1) hE r100 fl_X11_422 rfl rfl (Nat.le_of_ble_eq_true rfl) dX11_wants_1 H (fun x1 hx1 H => ?_)
  refine jn_ind (fun (f9 : Mem → Option Rz) => ∀ (m36 : Mem), f9 m36 = some r → AW l D base sc RX11 yX11_wants cX11_wants 2 none 1 0 0 ad (E mi) (pV E r) 0 0 (E m36) 36 [] []) (fun m36 H => ?_) (fun j36 hj36 H => ?_) H
  · -- 36
    exact cx_vret (pc := 36) rfl (Nat.le_of_ble_eq_true rfl) (Nat.le_of_ble_eq_true rfl) dX11_wants_36 H
  refine jn_ind (fun (f9 : Mem → Option Rz) => ∀ (m28 : Mem), f9 m28 = some r → AW l D base sc RX11 yX11_wants cX11_wants 2 none 1 0 0 ad (E mi) (pV E r) 0 0 (E m28) 28 [(0, .ref 100)] []) (fun m28 H => ?_) (fun j28 hj28 H => ?_) H
  · -- 28
    refine aw_aload_n (pc := 28) dX11_wants_28 rfl ?_
    refine aw_aload_n (pc := 29) dX11_wants_29 rfl ?_
    refine cx_gtF (pc := 30) hE r100 fl_X11_416 rfl rfl (Nat.le_of_ble_eq_true rfl) dX11_wants_30 H (fun x30 hx30 H => ?_)
    refine cx_callV (pc := 33) (P := pV) (dC := 0) (mcC := 0) (msC := 0) [iv x30] hE r100 (fun r1 H1 => s_X11_faults l sc E R hE hR n x30 hx30 m28 r1 H1) ca_X11_425 rfl ⟨_, rfl, rfl⟩ rfl rfl (Nat.le_of_ble_eq_true rfl) (Nat.le_of_ble_eq_true rfl) (Nat.le_of_ble_eq_true rfl) (Nat.le_of_ble_eq_true rfl) dX11_wants_33 H (fun x33 m33 v33 hh33 H hp => ?_)
    refine cx_backV hp ?_
    exact AW.sel [] rfl (hj36 _ H)
  refine cx_if_ge (pc := 4) 28 hx1 dX11_wants_4 rfl H (fun H => ?_) (fun H => ?_)
  · -- 4: 7
    refine aw_aload_n (pc := 7) dX11_wants_7 rfl ?_
    refine cx_callV (pc := 8) (P := pI) (dC := 0) (mcC := 0) (msC := 0) [] hE r100 (fun r1 H1 => s_X11_here l sc E R hE hR n mi r1 H1) ca_X11_419 rfl ⟨_, rfl, rfl⟩ rfl rfl (Nat.le_of_ble_eq_true rfl) (Nat.le_of_ble_eq_true rfl) (Nat.le_of_ble_eq_true rfl) (Nat.le_of_ble_eq_true rfl) dX11_wants_8 H (fun x8 m8 v8 hh8 H hp => ?_)
    refine cx_backI hp (fun hx8 => ?_)
    refine aw_iload_n (pc := 11) dX11_wants_11 rfl ?_
    refine cx_icmp_ne (pc := 12) 28 hx8 hp1 dX11_wants_12 rfl H (fun H => ?_) (fun H => ?_)
    · -- 12: 15
      refine aw_aload_n (pc := 15) dX11_wants_15 rfl ?_
      refine aw_dup (pc := 16) dX11_wants_16 rfl ?_
      refine cx_gtF (pc := 17) hE r100 fl_X11_416 rfl rfl (Nat.le_of_ble_eq_true rfl) dX11_wants_17 H (fun x17 hx17 H => ?_)
      refine cx_iconst (pc := 20) dX11_wants_20 ?_
      refine cx_iadd (pc := 21) dX11_wants_21 ?_
      refine cx_ptF (pc := 22) tyX11 hE r100 fl_X11_416 (fun r h => ⟨gty_X11 r h, by cases h; rfl⟩) rfl rfl rfl (Nat.le_of_ble_eq_true rfl) dX11_wants_22 H (fun m22 H => ?_)
      refine aw_goto (pc := 25) 36 dX11_wants_25 rfl ?_
      exact AW.sel [] rfl (hj36 _ H)
    · -- 12: 28
      exact AW.sel [0] rfl (hj28 _ H)
  · -- 4: 28
    exact AW.sel [0] rfl (hj28 _ H)
/-- X11 number ()I -/
def f_X11_number (n : Nat)  (mi : Mem) : Option Rz :=
  gtF mi 100 50 fun x1 =>
  cal (f_X11_here n mi) fun x6 m6 =>
  nm (w32 (x6 - 48)) fun z12 =>
  gtF m6 100 50 fun x15 =>
  ptF m6 100 50 (w32 (x15 + 1)) fun m20 =>
  cal (f_X11_isDigit n m20) fun x24 m24 =>
  jn (fun (v2_53 : Int) (m53 : Mem) =>
    jn (fun (m64 : Mem) =>
      rt v2_53 m64
    ) fun (j64 : Mem → Option Rz) =>
    if 12 < v2_53 then (
      cal (f_X11_faults n x1 m53) fun _ m61 =>
      j64 m61
    ) else
    j64 m53
  ) fun (j53 : Int → Mem → Option Rz) =>
  if x24 = 0 then (
    j53 z12 m24
  ) else
  cal (f_X11_here n m24) fun x35 m35 =>
  nm (w32 ((w32 ((w32 (10 * z12)) + x35)) - 48)) fun z42 =>
  gtF m35 100 50 fun x45 =>
  ptF m35 100 50 (w32 (x45 + 1)) fun m50 =>
  j53 z42 m50
set_option maxRecDepth 100000 in
set_option maxHeartbeats 4000000 in
theorem s_X11_number (l : Launch) (sc : g_S) (E : Mem → g_H) (R : Nat → Prop) (hE : LE E R) (hR : RRF R) (n : Nat)    (mi : Mem) (r : Rz) (H : f_X11_number n  mi = some r) : AMet l sc yX11_number cX11_number 3 (some FieldType.int) 2 0 0 [.ref 100] (E mi) (pI E r) := by
  have r100 : R 100 := hR 100 (Nat.le_of_ble_eq_true rfl) (Nat.le_of_ble_eq_true rfl)
  unfold f_X11_number at H
  refine AMet.of (own := RX11) (by decide +kernel) rfl (Nat.le_of_ble_eq_true rfl) [(0, .ref 100)] rfl (fun D base ad => ?_)
  refine aw_aload_n (pc := 0) dX11_number_0 rfl ?_
  refine cx_gtF (pc := 1) hE r100 fl_X11_416 rfl rfl (Nat.le_of_ble_eq_true rfl) dX11_number_1 H (fun x1 hx1 H => ?_)
  refine aw_istore_n (pc := 4) [(1, iv x1), (0, .ref 100)] dX11_number_4 rfl (by decide) ?_
  refine aw_aload_n (pc := 5) dX11_number_5 rfl ?_
  refine cx_callV (pc := 6) (P := pI) (dC := 0) (mcC := 0) (msC := 0) [] hE r100 (fun r1 H1 => s_X11_here l sc E R hE hR n mi r1 H1) ca_X11_419 rfl ⟨_, rfl, rfl⟩ rfl rfl (Nat.le_of_ble_eq_true rfl) (Nat.le_of_ble_eq_true rfl) (Nat.le_of_ble_eq_true rfl) (Nat.le_of_ble_eq_true rfl) dX11_number_6 H (fun x6 m6 v6 hh6 H hp => ?_)
  refine cx_backI hp (fun hx6 => ?_)
  refine cx_bipush (pc := 9) dX11_number_9 (by decide) ?_
  refine cx_isub (pc := 11) dX11_number_11 ?_
  refine cx_nm (inR_w32 _) H (fun z12 hz12 H => ?_)
  refine aw_istore_n (pc := 12) [(2, iv z12), (1, iv x1), (0, .ref 100)] dX11_number_12 rfl (by decide) ?_
  refine aw_aload_n (pc := 13) dX11_number_13 rfl ?_
  refine aw_dup (pc := 14) dX11_number_14 rfl ?_
  refine cx_gtF (pc := 15) hE r100 fl_X11_416 rfl rfl (Nat.le_of_ble_eq_true rfl) dX11_number_15 H (fun x15 hx15 H => ?_)
  refine cx_iconst (pc := 18) dX11_number_18 ?_
  refine cx_iadd (pc := 19) dX11_number_19 ?_
  refine cx_ptF (pc := 20) tyX11 hE r100 fl_X11_416 (fun r h => ⟨gty_X11 r h, by cases h; rfl⟩) rfl rfl rfl (Nat.le_of_ble_eq_true rfl) dX11_number_20 H (fun m20 H => ?_)
  refine aw_aload_n (pc := 23) dX11_number_23 rfl ?_
  refine cx_callV (pc := 24) (P := pI) (dC := 1) (mcC := 0) (msC := 0) [] hE r100 (fun r1 H1 => s_X11_isDigit l sc E R hE hR n m20 r1 H1) ca_X11_428 rfl ⟨_, rfl, rfl⟩ rfl rfl (Nat.le_of_ble_eq_true rfl) (Nat.le_of_ble_eq_true rfl) (Nat.le_of_ble_eq_true rfl) (Nat.le_of_ble_eq_true rfl) dX11_number_24 H (fun x24 m24 v24 hh24 H hp => ?_)
  refine cx_backI hp (fun hx24 => ?_)
  refine jn_ind (fun (f9 : Int → Mem → Option Rz) => ∀ (v2_53 : Int) (m53 : Mem), inR v2_53 → f9 v2_53 m53 = some r → AW l D base sc RX11 yX11_number cX11_number 3 (some FieldType.int) 2 0 0 ad (E mi) (pI E r) 0 0 (E m53) 53 [(0, .ref 100), (1, iv x1), (2, iv v2_53)] []) (fun v2_53 m53 hv2_53 H => ?_) (fun j53 hj53 H => ?_) H
  · -- 53
    refine aw_iload_n (pc := 53) dX11_number_53 rfl ?_
    refine cx_bipush (pc := 54) dX11_number_54 (by decide) ?_
    refine jn_ind (fun (f9 : Mem → Option Rz) => ∀ (m64 : Mem), f9 m64 = some r → AW l D base sc RX11 yX11_number cX11_number 3 (some FieldType.int) 2 0 0 ad (E mi) (pI E r) 0 0 (E m64) 64 [(2, iv v2_53)] []) (fun m64 H => ?_) (fun j64 hj64 H => ?_) H
    · -- 64
      refine aw_iload_n (pc := 64) dX11_number_64 rfl ?_
      exact cx_iret (pc := 65) hv2_53 rfl (Nat.le_of_ble_eq_true rfl) (Nat.le_of_ble_eq_true rfl) dX11_number_65 H
    refine cx_icmp_le (pc := 56) 64 hv2_53 (inR_lit _ rfl) dX11_number_56 rfl H (fun H => ?_) (fun H => ?_)
    · -- 56: 59
      refine aw_aload_n (pc := 59) dX11_number_59 rfl ?_
      refine aw_iload_n (pc := 60) dX11_number_60 rfl ?_
      refine cx_callV (pc := 61) (P := pV) (dC := 0) (mcC := 0) (msC := 0) [iv x1] hE r100 (fun r1 H1 => s_X11_faults l sc E R hE hR n x1 hx1 m53 r1 H1) ca_X11_425 rfl ⟨_, rfl, rfl⟩ rfl rfl (Nat.le_of_ble_eq_true rfl) (Nat.le_of_ble_eq_true rfl) (Nat.le_of_ble_eq_true rfl) (Nat.le_of_ble_eq_true rfl) dX11_number_61 H (fun x61 m61 v61 hh61 H hp => ?_)
      refine cx_backV hp ?_
      exact AW.sel [2] rfl (hj64 _ H)
    · -- 56: 64
      exact AW.sel [2] rfl (hj64 _ H)
  refine cx_if_eq (pc := 27) 53 hx24 dX11_number_27 rfl H (fun H => ?_) (fun H => ?_)
  · -- 27: 53
    exact AW.sel [2, 1, 0] rfl (hj53 _ _ hz12 H)
  · -- 27: 30
    refine cx_bipush (pc := 30) dX11_number_30 (by decide) ?_
    refine aw_iload_n (pc := 32) dX11_number_32 rfl ?_
    refine cx_imul (pc := 33) dX11_number_33 ?_
    refine aw_aload_n (pc := 34) dX11_number_34 rfl ?_
    refine cx_callV (pc := 35) (P := pI) (dC := 0) (mcC := 0) (msC := 0) [] hE r100 (fun r1 H1 => s_X11_here l sc E R hE hR n m24 r1 H1) ca_X11_419 rfl ⟨_, rfl, rfl⟩ rfl rfl (Nat.le_of_ble_eq_true rfl) (Nat.le_of_ble_eq_true rfl) (Nat.le_of_ble_eq_true rfl) (Nat.le_of_ble_eq_true rfl) dX11_number_35 H (fun x35 m35 v35 hh35 H hp => ?_)
    refine cx_backI hp (fun hx35 => ?_)
    refine cx_iadd (pc := 38) dX11_number_38 ?_
    refine cx_bipush (pc := 39) dX11_number_39 (by decide) ?_
    refine cx_isub (pc := 41) dX11_number_41 ?_
    refine cx_nm (inR_w32 _) H (fun z42 hz42 H => ?_)
    refine aw_istore_n (pc := 42) [(2, iv z42), (1, iv x1), (0, .ref 100)] dX11_number_42 rfl (by decide) ?_
    refine aw_aload_n (pc := 43) dX11_number_43 rfl ?_
    refine aw_dup (pc := 44) dX11_number_44 rfl ?_
    refine cx_gtF (pc := 45) hE r100 fl_X11_416 rfl rfl (Nat.le_of_ble_eq_true rfl) dX11_number_45 H (fun x45 hx45 H => ?_)
    refine cx_iconst (pc := 48) dX11_number_48 ?_
    refine cx_iadd (pc := 49) dX11_number_49 ?_
    refine cx_ptF (pc := 50) tyX11 hE r100 fl_X11_416 (fun r h => ⟨gty_X11 r h, by cases h; rfl⟩) rfl rfl rfl (Nat.le_of_ble_eq_true rfl) dX11_number_50 H (fun m50 H => ?_)
    exact AW.sel [2, 1, 0] rfl (hj53 _ _ hz42 H)
/-- X11 checked (I)I -/
def f_X11_checked (n : Nat) (p1 : Int) (mi : Mem) : Option Rz :=
  gtF mi 100 54 fun x1 =>
  jn (fun (m15 : Mem) =>
    ptZ m15 100 54 1 fun m17 =>
    rt 0 m17
  ) fun (j15 : Mem → Option Rz) =>
  if x1 = 0 then (
    cal (f_X11_fits n p1 mi) fun x9 m9 =>
    if x9 = 0 then (
      j15 m9
    ) else
    rt p1 m9
  ) else
  j15 mi
set_option maxRecDepth 100000 in
set_option maxHeartbeats 4000000 in
theorem s_X11_checked (l : Launch) (sc : g_S) (E : Mem → g_H) (R : Nat → Prop) (hE : LE E R) (hR : RRF R) (n : Nat)  (p1 : Int) (hp1 : inR p1) (mi : Mem) (r : Rz) (H : f_X11_checked n p1 mi = some r) : AMet l sc yX11_checked cX11_checked 2 (some FieldType.int) 63 0 0 [.ref 100, iv p1] (E mi) (pI E r) := by
  have r100 : R 100 := hR 100 (Nat.le_of_ble_eq_true rfl) (Nat.le_of_ble_eq_true rfl)
  unfold f_X11_checked at H
  refine AMet.of (own := RX11) (by decide +kernel) rfl (Nat.le_of_ble_eq_true rfl) [(0, .ref 100), (1, iv p1)] rfl (fun D base ad => ?_)
  refine aw_aload_n (pc := 0) dX11_checked_0 rfl ?_
  refine cx_gtF (pc := 1) hE r100 fl_X11_432 rfl rfl (Nat.le_of_ble_eq_true rfl) dX11_checked_1 H (fun x1 hx1 H => ?_)
  refine jn_ind (fun (f9 : Mem → Option Rz) => ∀ (m15 : Mem), f9 m15 = some r → AW l D base sc RX11 yX11_checked cX11_checked 2 (some FieldType.int) 63 0 0 ad (E mi) (pI E r) 0 0 (E m15) 15 [(0, .ref 100)] []) (fun m15 H => ?_) (fun j15 hj15 H => ?_) H
  · -- 15
    refine aw_aload_n (pc := 15) dX11_checked_15 rfl ?_
    refine cx_iconst (pc := 16) dX11_checked_16 ?_
    refine cx_ptZ (pc := 17) tyX11 hE r100 fl_X11_432 (fun r h => ⟨gty_X11 r h, by cases h; rfl⟩) rfl rfl rfl (Nat.le_of_ble_eq_true rfl) dX11_checked_17 H (fun m17 H => ?_)
    refine cx_iconst (pc := 20) dX11_checked_20 ?_
    exact cx_iret (pc := 21) (inR_lit _ rfl) rfl (Nat.le_of_ble_eq_true rfl) (Nat.le_of_ble_eq_true rfl) dX11_checked_21 H
  refine cx_if_ne (pc := 4) 15 hx1 dX11_checked_4 rfl H (fun H => ?_) (fun H => ?_)
  · -- 4: 7
    refine aw_aload_n (pc := 7) dX11_checked_7 rfl ?_
    refine aw_iload_n (pc := 8) dX11_checked_8 rfl ?_
    refine cx_callV (pc := 9) (P := pI) (dC := 62) (mcC := 0) (msC := 0) [iv p1] hE r100 (fun r1 H1 => s_X11_fits l sc E R hE hR n p1 hp1 mi r1 H1) ca_X11_297 rfl ⟨_, rfl, rfl⟩ rfl rfl (Nat.le_of_ble_eq_true rfl) (Nat.le_of_ble_eq_true rfl) (Nat.le_of_ble_eq_true rfl) (Nat.le_of_ble_eq_true rfl) dX11_checked_9 H (fun x9 m9 v9 hh9 H hp => ?_)
    refine cx_backI hp (fun hx9 => ?_)
    refine cx_if_ne (pc := 12) 22 hx9 dX11_checked_12 rfl H (fun H => ?_) (fun H => ?_)
    · -- 12: 15
      exact AW.sel [0] rfl (hj15 _ H)
    · -- 12: 22
      refine aw_iload_n (pc := 22) dX11_checked_22 rfl ?_
      exact cx_iret (pc := 23) hp1 rfl (Nat.le_of_ble_eq_true rfl) (Nat.le_of_ble_eq_true rfl) dX11_checked_23 H
  · -- 4: 15
    exact AW.sel [0] rfl (hj15 _ H)
/-- X11 opens ()Z -/
def f_X11_opens (n : Nat)  (mi : Mem) : Option Rz :=
  gtF mi 100 52 fun x1 =>
  if x1 = 5 then (
    gtF mi 100 50 fun x10 =>
    cal (f_X11_faults n x10 mi) fun _ m13 =>
    rtZ 0 m13
  ) else
  gtF mi 100 52 fun x20 =>
  ptF mi 100 52 (w32 (x20 + 1)) fun m25 =>
  gtF m25 100 50 fun x30 =>
  ptF m25 100 50 (w32 (x30 + 1)) fun m35 =>
  rtZ 1 m35
set_option maxRecDepth 100000 in
set_option maxHeartbeats 4000000 in
theorem s_X11_opens (l : Launch) (sc : g_S) (E : Mem → g_H) (R : Nat → Prop) (hE : LE E R) (hR : RRF R) (n : Nat)    (mi : Mem) (r : Rz) (H : f_X11_opens n  mi = some r) : AMet l sc yX11_opens cX11_opens 1 (some FieldType.boolean) 1 0 0 [.ref 100] (E mi) (pI E r) := by
  have r100 : R 100 := hR 100 (Nat.le_of_ble_eq_true rfl) (Nat.le_of_ble_eq_true rfl)
  unfold f_X11_opens at H
  refine AMet.of (own := RX11) (by decide +kernel) rfl (Nat.le_of_ble_eq_true rfl) [(0, .ref 100)] rfl (fun D base ad => ?_)
  refine aw_aload_n (pc := 0) dX11_opens_0 rfl ?_
  refine cx_gtF (pc := 1) hE r100 fl_X11_435 rfl rfl (Nat.le_of_ble_eq_true rfl) dX11_opens_1 H (fun x1 hx1 H => ?_)
  refine cx_iconst (pc := 4) dX11_opens_4 ?_
  refine cx_icmp_ne (pc := 5) 18 hx1 (inR_lit _ rfl) dX11_opens_5 rfl H (fun H => ?_) (fun H => ?_)
  · -- 5: 8
    refine aw_aload_n (pc := 8) dX11_opens_8 rfl ?_
    refine aw_aload_n (pc := 9) dX11_opens_9 rfl ?_
    refine cx_gtF (pc := 10) hE r100 fl_X11_416 rfl rfl (Nat.le_of_ble_eq_true rfl) dX11_opens_10 H (fun x10 hx10 H => ?_)
    refine cx_callV (pc := 13) (P := pV) (dC := 0) (mcC := 0) (msC := 0) [iv x10] hE r100 (fun r1 H1 => s_X11_faults l sc E R hE hR n x10 hx10 mi r1 H1) ca_X11_425 rfl ⟨_, rfl, rfl⟩ rfl rfl (Nat.le_of_ble_eq_true rfl) (Nat.le_of_ble_eq_true rfl) (Nat.le_of_ble_eq_true rfl) (Nat.le_of_ble_eq_true rfl) dX11_opens_13 H (fun x13 m13 v13 hh13 H hp => ?_)
    refine cx_backV hp ?_
    refine cx_iconst (pc := 16) dX11_opens_16 ?_
    exact cx_zret (pc := 17) rfl (Nat.le_of_ble_eq_true rfl) (Nat.le_of_ble_eq_true rfl) dX11_opens_17 H
  · -- 5: 18
    refine aw_aload_n (pc := 18) dX11_opens_18 rfl ?_
    refine aw_dup (pc := 19) dX11_opens_19 rfl ?_
    refine cx_gtF (pc := 20) hE r100 fl_X11_435 rfl rfl (Nat.le_of_ble_eq_true rfl) dX11_opens_20 H (fun x20 hx20 H => ?_)
    refine cx_iconst (pc := 23) dX11_opens_23 ?_
    refine cx_iadd (pc := 24) dX11_opens_24 ?_
    refine cx_ptF (pc := 25) tyX11 hE r100 fl_X11_435 (fun r h => ⟨gty_X11 r h, by cases h; rfl⟩) rfl rfl rfl (Nat.le_of_ble_eq_true rfl) dX11_opens_25 H (fun m25 H => ?_)
    refine aw_aload_n (pc := 28) dX11_opens_28 rfl ?_
    refine aw_dup (pc := 29) dX11_opens_29 rfl ?_
    refine cx_gtF (pc := 30) hE r100 fl_X11_416 rfl rfl (Nat.le_of_ble_eq_true rfl) dX11_opens_30 H (fun x30 hx30 H => ?_)
    refine cx_iconst (pc := 33) dX11_opens_33 ?_
    refine cx_iadd (pc := 34) dX11_opens_34 ?_
    refine cx_ptF (pc := 35) tyX11 hE r100 fl_X11_416 (fun r h => ⟨gty_X11 r h, by cases h; rfl⟩) rfl rfl rfl (Nat.le_of_ble_eq_true rfl) dX11_opens_35 H (fun m35 H => ?_)
    refine cx_iconst (pc := 38) dX11_opens_38 ?_
    exact cx_zret (pc := 39) rfl (Nat.le_of_ble_eq_true rfl) (Nat.le_of_ble_eq_true rfl) dX11_opens_39 H
/-- X11 bracedUnit ()I -/
def b_X11_bracedUnit (n : Nat) (g_X11_bracedUnit : (Mem → Option Rz)) (g_X11_minusUnit : (Mem → Option Rz)) (g_X11_options : (Int → Mem → Option Rz)) (g_X11_sumRead : (Mem → Option Rz)) (g_X11_unit : (Mem → Option Rz))  (mi : Mem) : Option Rz :=
  cal (f_X11_opens n mi) fun x1 m1 =>
  if x1 = 0 then (
    rt 0 m1
  ) else
  gtF m1 100 26 fun x10 =>
  cal (g_X11_options 124 m1) fun _ m17 =>
  cal (f_X11_wants n 124 m17) fun _ m23 =>
  gtF m23 100 26 fun x27 =>
  cal (g_X11_options 125 m23) fun _ m34 =>
  cal (f_X11_wants n 125 m34) fun _ m40 =>
  gtF m40 100 52 fun x45 =>
  ptF m40 100 52 (w32 (x45 - 1)) fun m50 =>
  gtF m50 100 53 fun x54 =>
  jn (fun (m67 : Mem) =>
    ptF m67 100 26 x10 fun m69 =>
    rt 0 m69
  ) fun (j67 : Mem → Option Rz) =>
  if x54 = 0 then (
    j67 m50
  ) else
  gtF m50 100 51 fun x61 =>
  if x61 < 0 then (
    cal (f_X11_canonicalOf n x10 x27 m50) fun x78 m78 =>
    cal (f_X11_checked n x78 m78) fun x81 m81 =>
    rt x81 m81
  ) else
  j67 m50
/-- X11 minusUnit ()I -/
def b_X11_minusUnit (n : Nat) (g_X11_bracedUnit : (Mem → Option Rz)) (g_X11_minusUnit : (Mem → Option Rz)) (g_X11_options : (Int → Mem → Option Rz)) (g_X11_sumRead : (Mem → Option Rz)) (g_X11_unit : (Mem → Option Rz))  (mi : Mem) : Option Rz :=
  cal (f_X11_opens n mi) fun x1 m1 =>
  if x1 = 0 then (
    rt 0 m1
  ) else
  cal (g_X11_unit m1) fun x10 m10 =>
  gtF m10 100 52 fun x16 =>
  ptF m10 100 52 (w32 (x16 - 1)) fun m21 =>
  gtF m21 100 53 fun x25 =>
  jn (fun (s0_44 : Int) (m44 : Mem) =>
    rt s0_44 m44
  ) fun (j44 : Int → Mem → Option Rz) =>
  if x25 = 0 then (
    j44 0 m21
  ) else
  cal (f_X11_negativeOf n x10 m21) fun x34 m34 =>
  cal (f_X11_checked n x34 m34) fun x37 m37 =>
  j44 x37 m37
/-- X11 options (I)V -/
def b_X11_options (n : Nat) (g_X11_bracedUnit : (Mem → Option Rz)) (g_X11_minusUnit : (Mem → Option Rz)) (g_X11_options : (Int → Mem → Option Rz)) (g_X11_sumRead : (Mem → Option Rz)) (g_X11_unit : (Mem → Option Rz)) (p1 : Int) (mi : Mem) : Option Rz :=
  gtF mi 100 51 fun x1 =>
  jn (fun (m15 : Mem) =>
    rt 0 m15
  ) fun (j15 : Mem → Option Rz) =>
  if x1 < 0 then (
    cal (f_X11_here n mi) fun x8 m8 =>
    if x8 = p1 then (
      j15 m8
    ) else
    cal (g_X11_sumRead m8) fun x18 m18 =>
    cal (f_X11_waits n x18 m18) fun _ m21 =>
    lp (F := Mem → Option Rz) (fun  _ => none) (fun w24 m24 =>
      gtF m24 100 51 fun x25 =>
      jn (fun (m61 : Mem) =>
        rt 0 m61
      ) fun (j61 : Mem → Option Rz) =>
      if x25 < 0 then (
        cal (f_X11_here n m24) fun x32 m32 =>
        if x32 = 44 then (
          gtF m32 100 50 fun x42 =>
          ptF m32 100 50 (w32 (x42 + 1)) fun m47 =>
          cal (g_X11_sumRead m47) fun x52 m52 =>
          cal (f_X11_waits n x52 m52) fun _ m55 =>
          w24 m55
        ) else
        j61 m32
      ) else
      j61 m24
    ) n  m21
  ) else
  j15 mi
/-- X11 sumRead ()I -/
def b_X11_sumRead (n : Nat) (g_X11_bracedUnit : (Mem → Option Rz)) (g_X11_minusUnit : (Mem → Option Rz)) (g_X11_options : (Int → Mem → Option Rz)) (g_X11_sumRead : (Mem → Option Rz)) (g_X11_unit : (Mem → Option Rz))  (mi : Mem) : Option Rz :=
  cal (g_X11_unit mi) fun x1 m1 =>
  lp (F := Int → Mem → Option Rz) (fun _ _ => none) (fun w5 v1_5 m5 =>
    gtF m5 100 51 fun x6 =>
    jn (fun (m61 : Mem) =>
      rt v1_5 m61
    ) fun (j61 : Mem → Option Rz) =>
    if x6 < 0 then (
      cal (f_X11_here n m5) fun x13 m13 =>
      if x13 = 43 then (
        gtF m13 100 50 fun x23 =>
        ptF m13 100 50 (w32 (x23 + 1)) fun m28 =>
        cal (g_X11_unit m28) fun x32 m32 =>
        gtF m32 100 53 fun x37 =>
        jn (fun (s0_57 : Int) (m57 : Mem) =>
          w5 s0_57 m57
        ) fun (j57 : Int → Mem → Option Rz) =>
        if x37 = 0 then (
          j57 0 m32
        ) else
        cal (f_X11_sum n v1_5 x32 m32) fun x47 m47 =>
        cal (f_X11_checked n x47 m47) fun x50 m50 =>
        j57 x50 m50
      ) else
      j61 m13
    ) else
    j61 m5
  ) n x1 m1
/-- X11 unit ()I -/
def b_X11_unit (n : Nat) (g_X11_bracedUnit : (Mem → Option Rz)) (g_X11_minusUnit : (Mem → Option Rz)) (g_X11_options : (Int → Mem → Option Rz)) (g_X11_sumRead : (Mem → Option Rz)) (g_X11_unit : (Mem → Option Rz))  (mi : Mem) : Option Rz :=
  gtF mi 100 51 fun x1 =>
  if x1 < 0 then (
    cal (f_X11_isDigit n mi) fun x10 m10 =>
    if x10 = 0 then (
      cal (f_X11_here n m10) fun x43 m43 =>
      if x43 = 42 then (
        gtF m43 100 50 fun x90 =>
        ptF m43 100 50 (w32 (x90 + 1)) fun m95 =>
        cal (f_X11_isDigit n m95) fun x99 m99 =>
        jn (fun (s0_113 : Int) (m113 : Mem) =>
          gtF m113 100 53 fun x115 =>
          jn (fun (s0_134 : Int) (m134 : Mem) =>
            rt s0_134 m134
          ) fun (j134 : Int → Mem → Option Rz) =>
          if x115 = 0 then (
            j134 0 m113
          ) else
          cal (f_X11_heapOf n s0_113 m113) fun x124 m124 =>
          cal (f_X11_checked n x124 m124) fun x127 m127 =>
          j134 x127 m127
        ) fun (j113 : Int → Mem → Option Rz) =>
        if x99 = 0 then (
          j113 1 m99
        ) else
        cal (f_X11_number n m99) fun x106 m106 =>
        j113 x106 m106
      ) else
      if x43 = 45 then (
        cal (g_X11_minusUnit m43) fun x166 m166 =>
        rt x166 m166
      ) else
      if x43 = 94 then (
        gtF m43 100 50 fun x137 =>
        ptF m43 100 50 (w32 (x137 + 1)) fun m142 =>
        gtF m142 100 53 fun x146 =>
        jn (fun (s0_164 : Int) (m164 : Mem) =>
          rt s0_164 m164
        ) fun (j164 : Int → Mem → Option Rz) =>
        if x146 = 0 then (
          j164 0 m142
        ) else
        cal (f_X11_up n m142) fun x154 m154 =>
        cal (f_X11_checked n x154 m154) fun x157 m157 =>
        j164 x157 m157
      ) else
      if x43 = 123 then (
        cal (g_X11_bracedUnit m43) fun x171 m171 =>
        rt x171 m171
      ) else
      gtF m43 100 50 fun x177 =>
      cal (f_X11_faults n x177 m43) fun _ m180 =>
      rt 0 m180
    ) else
    cal (f_X11_number n m10) fun x17 m17 =>
    gtF m17 100 53 fun x22 =>
    jn (fun (s0_41 : Int) (m41 : Mem) =>
      rt s0_41 m41
    ) fun (j41 : Int → Mem → Option Rz) =>
    if x22 = 0 then (
      j41 0 m17
    ) else
    cal (f_X11_wholeOf n x17 m17) fun x31 m31 =>
    cal (f_X11_checked n x31 m31) fun x34 m34 =>
    j41 x34 m34
  ) else
  rt 0 mi
def t_X11_unit (n : Nat) : Nat → (Mem → Option Rz) × (Mem → Option Rz) × (Int → Mem → Option Rz) × (Mem → Option Rz) × (Mem → Option Rz)
  | 0 => (fun _ => none, fun _ => none, fun _ _ => none, fun _ => none, fun _ => none)
  | d + 1 => (b_X11_bracedUnit n (t_X11_unit n d).1 (t_X11_unit n d).2.1 (t_X11_unit n d).2.2.1 (t_X11_unit n d).2.2.2.1 (t_X11_unit n d).2.2.2.2, b_X11_minusUnit n (t_X11_unit n d).1 (t_X11_unit n d).2.1 (t_X11_unit n d).2.2.1 (t_X11_unit n d).2.2.2.1 (t_X11_unit n d).2.2.2.2, b_X11_options n (t_X11_unit n d).1 (t_X11_unit n d).2.1 (t_X11_unit n d).2.2.1 (t_X11_unit n d).2.2.2.1 (t_X11_unit n d).2.2.2.2, b_X11_sumRead n (t_X11_unit n d).1 (t_X11_unit n d).2.1 (t_X11_unit n d).2.2.1 (t_X11_unit n d).2.2.2.1 (t_X11_unit n d).2.2.2.2, b_X11_unit n (t_X11_unit n d).1 (t_X11_unit n d).2.1 (t_X11_unit n d).2.2.1 (t_X11_unit n d).2.2.2.1 (t_X11_unit n d).2.2.2.2)
def h_X11_bracedUnit (n d : Nat) : (Mem → Option Rz) := (t_X11_unit n d).1
def f_X11_bracedUnit (n : Nat) : (Mem → Option Rz) := h_X11_bracedUnit n 40
def h_X11_minusUnit (n d : Nat) : (Mem → Option Rz) := (t_X11_unit n d).2.1
def f_X11_minusUnit (n : Nat) : (Mem → Option Rz) := h_X11_minusUnit n 40
def h_X11_options (n d : Nat) : (Int → Mem → Option Rz) := (t_X11_unit n d).2.2.1
def f_X11_options (n : Nat) : (Int → Mem → Option Rz) := h_X11_options n 40
def h_X11_sumRead (n d : Nat) : (Mem → Option Rz) := (t_X11_unit n d).2.2.2.1
def f_X11_sumRead (n : Nat) : (Mem → Option Rz) := h_X11_sumRead n 40
def h_X11_unit (n d : Nat) : (Mem → Option Rz) := (t_X11_unit n d).2.2.2.2
def f_X11_unit (n : Nat) : (Mem → Option Rz) := h_X11_unit n 40
theorem h_X11_bracedUnit_s (n d : Nat)  (m : Mem) : h_X11_bracedUnit n (d + 1)  m = b_X11_bracedUnit n (h_X11_bracedUnit n d) (h_X11_minusUnit n d) (h_X11_options n d) (h_X11_sumRead n d) (h_X11_unit n d)  m := rfl
theorem h_X11_bracedUnit_0 (n : Nat)  (m : Mem) : h_X11_bracedUnit n 0  m = none := rfl
theorem h_X11_minusUnit_s (n d : Nat)  (m : Mem) : h_X11_minusUnit n (d + 1)  m = b_X11_minusUnit n (h_X11_bracedUnit n d) (h_X11_minusUnit n d) (h_X11_options n d) (h_X11_sumRead n d) (h_X11_unit n d)  m := rfl
theorem h_X11_minusUnit_0 (n : Nat)  (m : Mem) : h_X11_minusUnit n 0  m = none := rfl
theorem h_X11_options_s (n d : Nat) (p1 : Int) (m : Mem) : h_X11_options n (d + 1) p1 m = b_X11_options n (h_X11_bracedUnit n d) (h_X11_minusUnit n d) (h_X11_options n d) (h_X11_sumRead n d) (h_X11_unit n d) p1 m := rfl
theorem h_X11_options_0 (n : Nat) (p1 : Int) (m : Mem) : h_X11_options n 0 p1 m = none := rfl
theorem h_X11_sumRead_s (n d : Nat)  (m : Mem) : h_X11_sumRead n (d + 1)  m = b_X11_sumRead n (h_X11_bracedUnit n d) (h_X11_minusUnit n d) (h_X11_options n d) (h_X11_sumRead n d) (h_X11_unit n d)  m := rfl
theorem h_X11_sumRead_0 (n : Nat)  (m : Mem) : h_X11_sumRead n 0  m = none := rfl
theorem h_X11_unit_s (n d : Nat)  (m : Mem) : h_X11_unit n (d + 1)  m = b_X11_unit n (h_X11_bracedUnit n d) (h_X11_minusUnit n d) (h_X11_options n d) (h_X11_sumRead n d) (h_X11_unit n d)  m := rfl
theorem h_X11_unit_0 (n : Nat)  (m : Mem) : h_X11_unit n 0  m = none := rfl
def q_X11_bracedUnit (l : Launch) (sc : g_S) (E : Mem → g_H) (R : Nat → Prop) (dd : Nat) (g : (Mem → Option Rz)) : Prop := ∀  (m : Mem)  (r : Rz) (H : g  m = some r), AMet l sc yX11_bracedUnit cX11_bracedUnit 3 (some FieldType.int) dd 0 0 [.ref 100] (E m) (pI E r)
def q_X11_minusUnit (l : Launch) (sc : g_S) (E : Mem → g_H) (R : Nat → Prop) (dd : Nat) (g : (Mem → Option Rz)) : Prop := ∀  (m : Mem)  (r : Rz) (H : g  m = some r), AMet l sc yX11_minusUnit cX11_minusUnit 2 (some FieldType.int) dd 0 0 [.ref 100] (E m) (pI E r)
def q_X11_options (l : Launch) (sc : g_S) (E : Mem → g_H) (R : Nat → Prop) (dd : Nat) (g : (Int → Mem → Option Rz)) : Prop := ∀ (p1 : Int) (m : Mem) (hp1 : inR p1) (r : Rz) (H : g p1 m = some r), AMet l sc yX11_options cX11_options 2 none dd 0 0 [.ref 100, iv p1] (E m) (pV E r)
def q_X11_sumRead (l : Launch) (sc : g_S) (E : Mem → g_H) (R : Nat → Prop) (dd : Nat) (g : (Mem → Option Rz)) : Prop := ∀  (m : Mem)  (r : Rz) (H : g  m = some r), AMet l sc yX11_sumRead cX11_sumRead 3 (some FieldType.int) dd 0 0 [.ref 100] (E m) (pI E r)
def q_X11_unit (l : Launch) (sc : g_S) (E : Mem → g_H) (R : Nat → Prop) (dd : Nat) (g : (Mem → Option Rz)) : Prop := ∀  (m : Mem)  (r : Rz) (H : g  m = some r), AMet l sc yX11_unit cX11_unit 2 (some FieldType.int) dd 0 0 [.ref 100] (E m) (pI E r)
set_option maxRecDepth 100000 in
set_option maxHeartbeats 4000000 in
theorem sb_X11_bracedUnit (l : Launch) (sc : g_S) (E : Mem → g_H) (R : Nat → Prop) (hE : LE E R) (hR : RRF R) (n : Nat) (dd : Nat) (hdd : 408 ≤ dd) (g_X11_bracedUnit : (Mem → Option Rz)) (g_X11_minusUnit : (Mem → Option Rz)) (g_X11_options : (Int → Mem → Option Rz)) (g_X11_sumRead : (Mem → Option Rz)) (g_X11_unit : (Mem → Option Rz)) (hg_X11_bracedUnit : q_X11_bracedUnit l sc E R dd g_X11_bracedUnit) (hg_X11_minusUnit : q_X11_minusUnit l sc E R dd g_X11_minusUnit) (hg_X11_options : q_X11_options l sc E R dd g_X11_options) (hg_X11_sumRead : q_X11_sumRead l sc E R dd g_X11_sumRead) (hg_X11_unit : q_X11_unit l sc E R dd g_X11_unit)  (mi : Mem)  (r : Rz) (H : b_X11_bracedUnit n g_X11_bracedUnit g_X11_minusUnit g_X11_options g_X11_sumRead g_X11_unit  mi = some r) : AMet l sc yX11_bracedUnit cX11_bracedUnit 3 (some FieldType.int) (dd + 1) 0 0 [.ref 100] (E mi) (pI E r) := by
  have r100 : R 100 := hR 100 (Nat.le_of_ble_eq_true rfl) (Nat.le_of_ble_eq_true rfl)
  unfold b_X11_bracedUnit at H
  refine AMet.of (own := RX11) (by decide +kernel) rfl (Nat.le_of_ble_eq_true rfl) [(0, .ref 100)] rfl (fun D base ad => ?_)
  refine aw_aload_n (pc := 0) dX11_bracedUnit_0 rfl ?_
  refine cx_callV (pc := 1) (P := pI) (dC := 1) (mcC := 0) (msC := 0) [] hE r100 (fun r1 H1 => s_X11_opens l sc E R hE hR n mi r1 H1) ca_X11_438 rfl ⟨_, rfl, rfl⟩ rfl rfl (by omega) (Nat.le_of_ble_eq_true rfl) (Nat.le_of_ble_eq_true rfl) (Nat.le_of_ble_eq_true rfl) dX11_bracedUnit_1 H (fun x1 m1 v1 hh1 H hp => ?_)
  refine cx_backI hp (fun hx1 => ?_)
  refine cx_if_ne (pc := 4) 9 hx1 dX11_bracedUnit_4 rfl H (fun H => ?_) (fun H => ?_)
  · -- 4: 7
    refine cx_iconst (pc := 7) dX11_bracedUnit_7 ?_
    exact cx_iret (pc := 8) (inR_lit _ rfl) rfl (Nat.le_of_ble_eq_true rfl) (Nat.le_of_ble_eq_true rfl) dX11_bracedUnit_8 H
  · -- 4: 9
    refine aw_aload_n (pc := 9) dX11_bracedUnit_9 rfl ?_
    refine cx_gtF (pc := 10) hE r100 fl_X11_175 rfl rfl (Nat.le_of_ble_eq_true rfl) dX11_bracedUnit_10 H (fun x10 hx10 H => ?_)
    refine aw_istore_n (pc := 13) [(1, iv x10), (0, .ref 100)] dX11_bracedUnit_13 rfl (by decide) ?_
    refine aw_aload_n (pc := 14) dX11_bracedUnit_14 rfl ?_
    refine cx_bipush (pc := 15) dX11_bracedUnit_15 (by decide) ?_
    refine cx_callV (pc := 17) (P := pV) (dC := dd) (mcC := 0) (msC := 0) [iv 124] hE r100 (fun r1 H1 => hg_X11_options 124 m1 (inR_lit _ rfl) r1 H1) ca_X11_453 rfl ⟨_, rfl, rfl⟩ rfl rfl (by omega) (Nat.le_of_ble_eq_true rfl) (Nat.le_of_ble_eq_true rfl) (Nat.le_of_ble_eq_true rfl) dX11_bracedUnit_17 H (fun x17 m17 v17 hh17 H hp => ?_)
    refine cx_backV hp ?_
    refine aw_aload_n (pc := 20) dX11_bracedUnit_20 rfl ?_
    refine cx_bipush (pc := 21) dX11_bracedUnit_21 (by decide) ?_
    refine cx_callV (pc := 23) (P := pV) (dC := 1) (mcC := 0) (msC := 0) [iv 124] hE r100 (fun r1 H1 => s_X11_wants l sc E R hE hR n 124 (inR_lit _ rfl) m17 r1 H1) ca_X11_456 rfl ⟨_, rfl, rfl⟩ rfl rfl (by omega) (Nat.le_of_ble_eq_true rfl) (Nat.le_of_ble_eq_true rfl) (Nat.le_of_ble_eq_true rfl) dX11_bracedUnit_23 H (fun x23 m23 v23 hh23 H hp => ?_)
    refine cx_backV hp ?_
    refine aw_aload_n (pc := 26) dX11_bracedUnit_26 rfl ?_
    refine cx_gtF (pc := 27) hE r100 fl_X11_175 rfl rfl (Nat.le_of_ble_eq_true rfl) dX11_bracedUnit_27 H (fun x27 hx27 H => ?_)
    refine aw_istore_n (pc := 30) [(2, iv x27), (1, iv x10), (0, .ref 100)] dX11_bracedUnit_30 rfl (by decide) ?_
    refine aw_aload_n (pc := 31) dX11_bracedUnit_31 rfl ?_
    refine cx_bipush (pc := 32) dX11_bracedUnit_32 (by decide) ?_
    refine cx_callV (pc := 34) (P := pV) (dC := dd) (mcC := 0) (msC := 0) [iv 125] hE r100 (fun r1 H1 => hg_X11_options 125 m23 (inR_lit _ rfl) r1 H1) ca_X11_453 rfl ⟨_, rfl, rfl⟩ rfl rfl (by omega) (Nat.le_of_ble_eq_true rfl) (Nat.le_of_ble_eq_true rfl) (Nat.le_of_ble_eq_true rfl) dX11_bracedUnit_34 H (fun x34 m34 v34 hh34 H hp => ?_)
    refine cx_backV hp ?_
    refine aw_aload_n (pc := 37) dX11_bracedUnit_37 rfl ?_
    refine cx_bipush (pc := 38) dX11_bracedUnit_38 (by decide) ?_
    refine cx_callV (pc := 40) (P := pV) (dC := 1) (mcC := 0) (msC := 0) [iv 125] hE r100 (fun r1 H1 => s_X11_wants l sc E R hE hR n 125 (inR_lit _ rfl) m34 r1 H1) ca_X11_456 rfl ⟨_, rfl, rfl⟩ rfl rfl (by omega) (Nat.le_of_ble_eq_true rfl) (Nat.le_of_ble_eq_true rfl) (Nat.le_of_ble_eq_true rfl) dX11_bracedUnit_40 H (fun x40 m40 v40 hh40 H hp => ?_)
    refine cx_backV hp ?_
    refine aw_aload_n (pc := 43) dX11_bracedUnit_43 rfl ?_
    refine aw_dup (pc := 44) dX11_bracedUnit_44 rfl ?_
    refine cx_gtF (pc := 45) hE r100 fl_X11_435 rfl rfl (Nat.le_of_ble_eq_true rfl) dX11_bracedUnit_45 H (fun x45 hx45 H => ?_)
    refine cx_iconst (pc := 48) dX11_bracedUnit_48 ?_
    refine cx_isub (pc := 49) dX11_bracedUnit_49 ?_
    refine cx_ptF (pc := 50) tyX11 hE r100 fl_X11_435 (fun r h => ⟨gty_X11 r h, by cases h; rfl⟩) rfl rfl rfl (Nat.le_of_ble_eq_true rfl) dX11_bracedUnit_50 H (fun m50 H => ?_)
    refine aw_aload_n (pc := 53) dX11_bracedUnit_53 rfl ?_
    refine cx_gtF (pc := 54) hE r100 fl_X11_444 rfl rfl (Nat.le_of_ble_eq_true rfl) dX11_bracedUnit_54 H (fun x54 hx54 H => ?_)
    refine jn_ind (fun (f9 : Mem → Option Rz) => ∀ (m67 : Mem), f9 m67 = some r → AW l D base sc RX11 yX11_bracedUnit cX11_bracedUnit 3 (some FieldType.int) (dd + 1) 0 0 ad (E mi) (pI E r) 0 0 (E m67) 67 [(0, .ref 100), (1, iv x10)] []) (fun m67 H => ?_) (fun j67 hj67 H => ?_) H
    · -- 67
      refine aw_aload_n (pc := 67) dX11_bracedUnit_67 rfl ?_
      refine aw_iload_n (pc := 68) dX11_bracedUnit_68 rfl ?_
      refine cx_ptF (pc := 69) tyX11 hE r100 fl_X11_175 (fun r h => ⟨gty_X11 r h, by cases h; rfl⟩) rfl rfl rfl (Nat.le_of_ble_eq_true rfl) dX11_bracedUnit_69 H (fun m69 H => ?_)
      refine cx_iconst (pc := 72) dX11_bracedUnit_72 ?_
      exact cx_iret (pc := 73) (inR_lit _ rfl) rfl (Nat.le_of_ble_eq_true rfl) (Nat.le_of_ble_eq_true rfl) dX11_bracedUnit_73 H
    refine cx_if_eq (pc := 57) 67 hx54 dX11_bracedUnit_57 rfl H (fun H => ?_) (fun H => ?_)
    · -- 57: 67
      exact AW.sel [2, 1] rfl (hj67 _ H)
    · -- 57: 60
      refine aw_aload_n (pc := 60) dX11_bracedUnit_60 rfl ?_
      refine cx_gtF (pc := 61) hE r100 fl_X11_422 rfl rfl (Nat.le_of_ble_eq_true rfl) dX11_bracedUnit_61 H (fun x61 hx61 H => ?_)
      refine cx_if_lt (pc := 64) 74 hx61 dX11_bracedUnit_64 rfl H (fun H => ?_) (fun H => ?_)
      · -- 64: 74
        refine aw_aload_n (pc := 74) dX11_bracedUnit_74 rfl ?_
        refine aw_aload_n (pc := 75) dX11_bracedUnit_75 rfl ?_
        refine aw_iload_n (pc := 76) dX11_bracedUnit_76 rfl ?_
        refine aw_iload_n (pc := 77) dX11_bracedUnit_77 rfl ?_
        refine cx_callV (pc := 78) (P := pI) (dC := 306) (mcC := 0) (msC := 0) [iv x10, iv x27] hE r100 (fun r1 H1 => s_X11_canonicalOf l sc E R hE hR n x10 x27 hx10 hx27 m50 r1 H1) ca_X11_197 rfl ⟨_, rfl, rfl⟩ rfl rfl (by omega) (Nat.le_of_ble_eq_true rfl) (Nat.le_of_ble_eq_true rfl) (Nat.le_of_ble_eq_true rfl) dX11_bracedUnit_78 H (fun x78 m78 v78 hh78 H hp => ?_)
        refine cx_backI hp (fun hx78 => ?_)
        refine cx_callV (pc := 81) (P := pI) (dC := 63) (mcC := 0) (msC := 0) [iv x78] hE r100 (fun r1 H1 => s_X11_checked l sc E R hE hR n x78 hx78 m78 r1 H1) ca_X11_447 rfl ⟨_, rfl, rfl⟩ rfl rfl (by omega) (Nat.le_of_ble_eq_true rfl) (Nat.le_of_ble_eq_true rfl) (Nat.le_of_ble_eq_true rfl) dX11_bracedUnit_81 H (fun x81 m81 v81 hh81 H hp => ?_)
        refine cx_backI hp (fun hx81 => ?_)
        exact cx_iret (pc := 84) hx81 rfl (Nat.le_of_ble_eq_true rfl) (Nat.le_of_ble_eq_true rfl) dX11_bracedUnit_84 H
      · -- 64: 67
        exact AW.sel [2, 1] rfl (hj67 _ H)
set_option maxRecDepth 100000 in
set_option maxHeartbeats 4000000 in
theorem sb_X11_minusUnit (l : Launch) (sc : g_S) (E : Mem → g_H) (R : Nat → Prop) (hE : LE E R) (hR : RRF R) (n : Nat) (dd : Nat) (hdd : 408 ≤ dd) (g_X11_bracedUnit : (Mem → Option Rz)) (g_X11_minusUnit : (Mem → Option Rz)) (g_X11_options : (Int → Mem → Option Rz)) (g_X11_sumRead : (Mem → Option Rz)) (g_X11_unit : (Mem → Option Rz)) (hg_X11_bracedUnit : q_X11_bracedUnit l sc E R dd g_X11_bracedUnit) (hg_X11_minusUnit : q_X11_minusUnit l sc E R dd g_X11_minusUnit) (hg_X11_options : q_X11_options l sc E R dd g_X11_options) (hg_X11_sumRead : q_X11_sumRead l sc E R dd g_X11_sumRead) (hg_X11_unit : q_X11_unit l sc E R dd g_X11_unit)  (mi : Mem)  (r : Rz) (H : b_X11_minusUnit n g_X11_bracedUnit g_X11_minusUnit g_X11_options g_X11_sumRead g_X11_unit  mi = some r) : AMet l sc yX11_minusUnit cX11_minusUnit 2 (some FieldType.int) (dd + 1) 0 0 [.ref 100] (E mi) (pI E r) := by
  have r100 : R 100 := hR 100 (Nat.le_of_ble_eq_true rfl) (Nat.le_of_ble_eq_true rfl)
  unfold b_X11_minusUnit at H
  refine AMet.of (own := RX11) (by decide +kernel) rfl (Nat.le_of_ble_eq_true rfl) [(0, .ref 100)] rfl (fun D base ad => ?_)
  refine aw_aload_n (pc := 0) dX11_minusUnit_0 rfl ?_
  refine cx_callV (pc := 1) (P := pI) (dC := 1) (mcC := 0) (msC := 0) [] hE r100 (fun r1 H1 => s_X11_opens l sc E R hE hR n mi r1 H1) ca_X11_438 rfl ⟨_, rfl, rfl⟩ rfl rfl (by omega) (Nat.le_of_ble_eq_true rfl) (Nat.le_of_ble_eq_true rfl) (Nat.le_of_ble_eq_true rfl) dX11_minusUnit_1 H (fun x1 m1 v1 hh1 H hp => ?_)
  refine cx_backI hp (fun hx1 => ?_)
  refine cx_if_ne (pc := 4) 9 hx1 dX11_minusUnit_4 rfl H (fun H => ?_) (fun H => ?_)
  · -- 4: 7
    refine cx_iconst (pc := 7) dX11_minusUnit_7 ?_
    exact cx_iret (pc := 8) (inR_lit _ rfl) rfl (Nat.le_of_ble_eq_true rfl) (Nat.le_of_ble_eq_true rfl) dX11_minusUnit_8 H
  · -- 4: 9
    refine aw_aload_n (pc := 9) dX11_minusUnit_9 rfl ?_
    refine cx_callV (pc := 10) (P := pI) (dC := dd) (mcC := 0) (msC := 0) [] hE r100 (fun r1 H1 => hg_X11_unit m1 r1 H1) ca_X11_441 rfl ⟨_, rfl, rfl⟩ rfl rfl (by omega) (Nat.le_of_ble_eq_true rfl) (Nat.le_of_ble_eq_true rfl) (Nat.le_of_ble_eq_true rfl) dX11_minusUnit_10 H (fun x10 m10 v10 hh10 H hp => ?_)
    refine cx_backI hp (fun hx10 => ?_)
    refine aw_istore_n (pc := 13) [(1, iv x10), (0, .ref 100)] dX11_minusUnit_13 rfl (by decide) ?_
    refine aw_aload_n (pc := 14) dX11_minusUnit_14 rfl ?_
    refine aw_dup (pc := 15) dX11_minusUnit_15 rfl ?_
    refine cx_gtF (pc := 16) hE r100 fl_X11_435 rfl rfl (Nat.le_of_ble_eq_true rfl) dX11_minusUnit_16 H (fun x16 hx16 H => ?_)
    refine cx_iconst (pc := 19) dX11_minusUnit_19 ?_
    refine cx_isub (pc := 20) dX11_minusUnit_20 ?_
    refine cx_ptF (pc := 21) tyX11 hE r100 fl_X11_435 (fun r h => ⟨gty_X11 r h, by cases h; rfl⟩) rfl rfl rfl (Nat.le_of_ble_eq_true rfl) dX11_minusUnit_21 H (fun m21 H => ?_)
    refine aw_aload_n (pc := 24) dX11_minusUnit_24 rfl ?_
    refine cx_gtF (pc := 25) hE r100 fl_X11_444 rfl rfl (Nat.le_of_ble_eq_true rfl) dX11_minusUnit_25 H (fun x25 hx25 H => ?_)
    refine jn_ind (fun (f9 : Int → Mem → Option Rz) => ∀ (s0_44 : Int) (m44 : Mem), inR s0_44 → f9 s0_44 m44 = some r → AW l D base sc RX11 yX11_minusUnit cX11_minusUnit 2 (some FieldType.int) (dd + 1) 0 0 ad (E mi) (pI E r) 0 0 (E m44) 44 [] [iv s0_44]) (fun s0_44 m44 hs0_44 H => ?_) (fun j44 hj44 H => ?_) H
    · -- 44
      exact cx_iret (pc := 44) hs0_44 rfl (Nat.le_of_ble_eq_true rfl) (Nat.le_of_ble_eq_true rfl) dX11_minusUnit_44 H
    refine cx_if_eq (pc := 28) 43 hx25 dX11_minusUnit_28 rfl H (fun H => ?_) (fun H => ?_)
    · -- 28: 43
      refine cx_iconst (pc := 43) dX11_minusUnit_43 ?_
      exact AW.sel [] rfl (hj44 _ _ (inR_lit _ rfl) H)
    · -- 28: 31
      refine aw_aload_n (pc := 31) dX11_minusUnit_31 rfl ?_
      refine aw_aload_n (pc := 32) dX11_minusUnit_32 rfl ?_
      refine aw_iload_n (pc := 33) dX11_minusUnit_33 rfl ?_
      refine cx_callV (pc := 34) (P := pI) (dC := 357) (mcC := 0) (msC := 0) [iv x10] hE r100 (fun r1 H1 => s_X11_negativeOf l sc E R hE hR n x10 hx10 m21 r1 H1) ca_X11_200 rfl ⟨_, rfl, rfl⟩ rfl rfl (by omega) (Nat.le_of_ble_eq_true rfl) (Nat.le_of_ble_eq_true rfl) (Nat.le_of_ble_eq_true rfl) dX11_minusUnit_34 H (fun x34 m34 v34 hh34 H hp => ?_)
      refine cx_backI hp (fun hx34 => ?_)
      refine cx_callV (pc := 37) (P := pI) (dC := 63) (mcC := 0) (msC := 0) [iv x34] hE r100 (fun r1 H1 => s_X11_checked l sc E R hE hR n x34 hx34 m34 r1 H1) ca_X11_447 rfl ⟨_, rfl, rfl⟩ rfl rfl (by omega) (Nat.le_of_ble_eq_true rfl) (Nat.le_of_ble_eq_true rfl) (Nat.le_of_ble_eq_true rfl) dX11_minusUnit_37 H (fun x37 m37 v37 hh37 H hp => ?_)
      refine cx_backI hp (fun hx37 => ?_)
      refine aw_goto (pc := 40) 44 dX11_minusUnit_40 rfl ?_
      exact AW.sel [] rfl (hj44 _ _ hx37 H)
set_option maxRecDepth 100000 in
set_option maxHeartbeats 4000000 in
theorem sb_X11_options (l : Launch) (sc : g_S) (E : Mem → g_H) (R : Nat → Prop) (hE : LE E R) (hR : RRF R) (n : Nat) (dd : Nat) (hdd : 408 ≤ dd) (g_X11_bracedUnit : (Mem → Option Rz)) (g_X11_minusUnit : (Mem → Option Rz)) (g_X11_options : (Int → Mem → Option Rz)) (g_X11_sumRead : (Mem → Option Rz)) (g_X11_unit : (Mem → Option Rz)) (hg_X11_bracedUnit : q_X11_bracedUnit l sc E R dd g_X11_bracedUnit) (hg_X11_minusUnit : q_X11_minusUnit l sc E R dd g_X11_minusUnit) (hg_X11_options : q_X11_options l sc E R dd g_X11_options) (hg_X11_sumRead : q_X11_sumRead l sc E R dd g_X11_sumRead) (hg_X11_unit : q_X11_unit l sc E R dd g_X11_unit) (p1 : Int) (mi : Mem) (hp1 : inR p1) (r : Rz) (H : b_X11_options n g_X11_bracedUnit g_X11_minusUnit g_X11_options g_X11_sumRead g_X11_unit p1 mi = some r) : AMet l sc yX11_options cX11_options 2 none (dd + 1) 0 0 [.ref 100, iv p1] (E mi) (pV E r) := by
  have r100 : R 100 := hR 100 (Nat.le_of_ble_eq_true rfl) (Nat.le_of_ble_eq_true rfl)
  unfold b_X11_options at H
  refine AMet.of (own := RX11) (by decide +kernel) rfl (Nat.le_of_ble_eq_true rfl) [(0, .ref 100), (1, iv p1)] rfl (fun D base ad => ?_)
  refine aw_aload_n (pc := 0) dX11_options_0 rfl ?_
  refine cx_gtF (pc := 1) hE r100 fl_X11_422 rfl rfl (Nat.le_of_ble_eq_true rfl) dX11_options_1 H (fun x1 hx1 H => ?_)
  refine jn_ind (fun (f9 : Mem → Option Rz) => ∀ (m15 : Mem), f9 m15 = some r → AW l D base sc RX11 yX11_options cX11_options 2 none (dd + 1) 0 0 ad (E mi) (pV E r) 0 0 (E m15) 15 [] []) (fun m15 H => ?_) (fun j15 hj15 H => ?_) H
  · -- 15
    exact cx_vret (pc := 15) rfl (Nat.le_of_ble_eq_true rfl) (Nat.le_of_ble_eq_true rfl) dX11_options_15 H
  refine cx_if_ge (pc := 4) 15 hx1 dX11_options_4 rfl H (fun H => ?_) (fun H => ?_)
  · -- 4: 7
    refine aw_aload_n (pc := 7) dX11_options_7 rfl ?_
    refine cx_callV (pc := 8) (P := pI) (dC := 0) (mcC := 0) (msC := 0) [] hE r100 (fun r1 H1 => s_X11_here l sc E R hE hR n mi r1 H1) ca_X11_419 rfl ⟨_, rfl, rfl⟩ rfl rfl (by omega) (Nat.le_of_ble_eq_true rfl) (Nat.le_of_ble_eq_true rfl) (Nat.le_of_ble_eq_true rfl) dX11_options_8 H (fun x8 m8 v8 hh8 H hp => ?_)
    refine cx_backI hp (fun hx8 => ?_)
    refine aw_iload_n (pc := 11) dX11_options_11 rfl ?_
    refine cx_icmp_ne (pc := 12) 16 hx8 hp1 dX11_options_12 rfl H (fun H => ?_) (fun H => ?_)
    · -- 12: 15
      exact AW.sel [] rfl (hj15 _ H)
    · -- 12: 16
      refine aw_aload_n (pc := 16) dX11_options_16 rfl ?_
      refine aw_aload_n (pc := 17) dX11_options_17 rfl ?_
      refine cx_callV (pc := 18) (P := pI) (dC := dd) (mcC := 0) (msC := 0) [] hE r100 (fun r1 H1 => hg_X11_sumRead m8 r1 H1) ca_X11_450 rfl ⟨_, rfl, rfl⟩ rfl rfl (by omega) (Nat.le_of_ble_eq_true rfl) (Nat.le_of_ble_eq_true rfl) (Nat.le_of_ble_eq_true rfl) dX11_options_18 H (fun x18 m18 v18 hh18 H hp => ?_)
      refine cx_backI hp (fun hx18 => ?_)
      refine cx_callV (pc := 21) (P := pV) (dC := 0) (mcC := 0) (msC := 0) [iv x18] hE r100 (fun r1 H1 => s_X11_waits l sc E R hE hR n x18 hx18 m18 r1 H1) ca_X11_194 rfl ⟨_, rfl, rfl⟩ rfl rfl (by omega) (Nat.le_of_ble_eq_true rfl) (Nat.le_of_ble_eq_true rfl) (Nat.le_of_ble_eq_true rfl) dX11_options_21 H (fun x21 m21 v21 hh21 H hp => ?_)
      refine cx_backV hp ?_
      refine AW.sel [0] rfl (lp_ind (bot := fun  _ => none) (fun (f9 : Mem → Option Rz) => ∀ (m24 : Mem), f9 m24 = some r → AW l D base sc RX11 yX11_options cX11_options 2 none (dd + 1) 0 0 ad (E mi) (pV E r) 0 0 (E m24) 24 [(0, .ref 100)] []) (fun  _ h9 => nomatch h9) (fun w24 ih24 m24 H => ?_) n  _  H)
      refine aw_aload_n (pc := 24) dX11_options_24 rfl ?_
      refine cx_gtF (pc := 25) hE r100 fl_X11_422 rfl rfl (Nat.le_of_ble_eq_true rfl) dX11_options_25 H (fun x25 hx25 H => ?_)
      refine jn_ind (fun (f9 : Mem → Option Rz) => ∀ (m61 : Mem), f9 m61 = some r → AW l D base sc RX11 yX11_options cX11_options 2 none (dd + 1) 0 0 ad (E mi) (pV E r) 0 0 (E m61) 61 [] []) (fun m61 H => ?_) (fun j61 hj61 H => ?_) H
      · -- 61
        exact cx_vret (pc := 61) rfl (Nat.le_of_ble_eq_true rfl) (Nat.le_of_ble_eq_true rfl) dX11_options_61 H
      refine cx_if_ge (pc := 28) 61 hx25 dX11_options_28 rfl H (fun H => ?_) (fun H => ?_)
      · -- 28: 31
        refine aw_aload_n (pc := 31) dX11_options_31 rfl ?_
        refine cx_callV (pc := 32) (P := pI) (dC := 0) (mcC := 0) (msC := 0) [] hE r100 (fun r1 H1 => s_X11_here l sc E R hE hR n m24 r1 H1) ca_X11_419 rfl ⟨_, rfl, rfl⟩ rfl rfl (by omega) (Nat.le_of_ble_eq_true rfl) (Nat.le_of_ble_eq_true rfl) (Nat.le_of_ble_eq_true rfl) dX11_options_32 H (fun x32 m32 v32 hh32 H hp => ?_)
        refine cx_backI hp (fun hx32 => ?_)
        refine cx_bipush (pc := 35) dX11_options_35 (by decide) ?_
        refine cx_icmp_ne (pc := 37) 61 hx32 (inR_lit _ rfl) dX11_options_37 rfl H (fun H => ?_) (fun H => ?_)
        · -- 37: 40
          refine aw_aload_n (pc := 40) dX11_options_40 rfl ?_
          refine aw_dup (pc := 41) dX11_options_41 rfl ?_
          refine cx_gtF (pc := 42) hE r100 fl_X11_416 rfl rfl (Nat.le_of_ble_eq_true rfl) dX11_options_42 H (fun x42 hx42 H => ?_)
          refine cx_iconst (pc := 45) dX11_options_45 ?_
          refine cx_iadd (pc := 46) dX11_options_46 ?_
          refine cx_ptF (pc := 47) tyX11 hE r100 fl_X11_416 (fun r h => ⟨gty_X11 r h, by cases h; rfl⟩) rfl rfl rfl (Nat.le_of_ble_eq_true rfl) dX11_options_47 H (fun m47 H => ?_)
          refine aw_aload_n (pc := 50) dX11_options_50 rfl ?_
          refine aw_aload_n (pc := 51) dX11_options_51 rfl ?_
          refine cx_callV (pc := 52) (P := pI) (dC := dd) (mcC := 0) (msC := 0) [] hE r100 (fun r1 H1 => hg_X11_sumRead m47 r1 H1) ca_X11_450 rfl ⟨_, rfl, rfl⟩ rfl rfl (by omega) (Nat.le_of_ble_eq_true rfl) (Nat.le_of_ble_eq_true rfl) (Nat.le_of_ble_eq_true rfl) dX11_options_52 H (fun x52 m52 v52 hh52 H hp => ?_)
          refine cx_backI hp (fun hx52 => ?_)
          refine cx_callV (pc := 55) (P := pV) (dC := 0) (mcC := 0) (msC := 0) [iv x52] hE r100 (fun r1 H1 => s_X11_waits l sc E R hE hR n x52 hx52 m52 r1 H1) ca_X11_194 rfl ⟨_, rfl, rfl⟩ rfl rfl (by omega) (Nat.le_of_ble_eq_true rfl) (Nat.le_of_ble_eq_true rfl) (Nat.le_of_ble_eq_true rfl) dX11_options_55 H (fun x55 m55 v55 hh55 H hp => ?_)
          refine cx_backV hp ?_
          refine aw_goto (pc := 58) 24 dX11_options_58 rfl ?_
          exact AW.sel [0] rfl (ih24 _ H)
        · -- 37: 61
          exact AW.sel [] rfl (hj61 _ H)
      · -- 28: 61
        exact AW.sel [] rfl (hj61 _ H)
  · -- 4: 15
    exact AW.sel [] rfl (hj15 _ H)
set_option maxRecDepth 100000 in
set_option maxHeartbeats 4000000 in
theorem sb_X11_sumRead (l : Launch) (sc : g_S) (E : Mem → g_H) (R : Nat → Prop) (hE : LE E R) (hR : RRF R) (n : Nat) (dd : Nat) (hdd : 408 ≤ dd) (g_X11_bracedUnit : (Mem → Option Rz)) (g_X11_minusUnit : (Mem → Option Rz)) (g_X11_options : (Int → Mem → Option Rz)) (g_X11_sumRead : (Mem → Option Rz)) (g_X11_unit : (Mem → Option Rz)) (hg_X11_bracedUnit : q_X11_bracedUnit l sc E R dd g_X11_bracedUnit) (hg_X11_minusUnit : q_X11_minusUnit l sc E R dd g_X11_minusUnit) (hg_X11_options : q_X11_options l sc E R dd g_X11_options) (hg_X11_sumRead : q_X11_sumRead l sc E R dd g_X11_sumRead) (hg_X11_unit : q_X11_unit l sc E R dd g_X11_unit)  (mi : Mem)  (r : Rz) (H : b_X11_sumRead n g_X11_bracedUnit g_X11_minusUnit g_X11_options g_X11_sumRead g_X11_unit  mi = some r) : AMet l sc yX11_sumRead cX11_sumRead 3 (some FieldType.int) (dd + 1) 0 0 [.ref 100] (E mi) (pI E r) := by
  have r100 : R 100 := hR 100 (Nat.le_of_ble_eq_true rfl) (Nat.le_of_ble_eq_true rfl)
  unfold b_X11_sumRead at H
  refine AMet.of (own := RX11) (by decide +kernel) rfl (Nat.le_of_ble_eq_true rfl) [(0, .ref 100)] rfl (fun D base ad => ?_)
  refine aw_aload_n (pc := 0) dX11_sumRead_0 rfl ?_
  refine cx_callV (pc := 1) (P := pI) (dC := dd) (mcC := 0) (msC := 0) [] hE r100 (fun r1 H1 => hg_X11_unit mi r1 H1) ca_X11_441 rfl ⟨_, rfl, rfl⟩ rfl rfl (by omega) (Nat.le_of_ble_eq_true rfl) (Nat.le_of_ble_eq_true rfl) (Nat.le_of_ble_eq_true rfl) dX11_sumRead_1 H (fun x1 m1 v1 hh1 H hp => ?_)
  refine cx_backI hp (fun hx1 => ?_)
  refine aw_istore_n (pc := 4) [(1, iv x1), (0, .ref 100)] dX11_sumRead_4 rfl (by decide) ?_
  refine AW.sel [1, 0] rfl (lp_ind (bot := fun _ _ => none) (fun (f9 : Int → Mem → Option Rz) => ∀ (v1_5 : Int) (m5 : Mem), inR v1_5 → f9 v1_5 m5 = some r → AW l D base sc RX11 yX11_sumRead cX11_sumRead 3 (some FieldType.int) (dd + 1) 0 0 ad (E mi) (pI E r) 0 0 (E m5) 5 [(0, .ref 100), (1, iv v1_5)] []) (fun _ _ _ h9 => nomatch h9) (fun w5 ih5 v1_5 m5 hv1_5 H => ?_) n _ _ hx1 H)
  refine aw_aload_n (pc := 5) dX11_sumRead_5 rfl ?_
  refine cx_gtF (pc := 6) hE r100 fl_X11_422 rfl rfl (Nat.le_of_ble_eq_true rfl) dX11_sumRead_6 H (fun x6 hx6 H => ?_)
  refine jn_ind (fun (f9 : Mem → Option Rz) => ∀ (m61 : Mem), f9 m61 = some r → AW l D base sc RX11 yX11_sumRead cX11_sumRead 3 (some FieldType.int) (dd + 1) 0 0 ad (E mi) (pI E r) 0 0 (E m61) 61 [(1, iv v1_5)] []) (fun m61 H => ?_) (fun j61 hj61 H => ?_) H
  · -- 61
    refine aw_iload_n (pc := 61) dX11_sumRead_61 rfl ?_
    exact cx_iret (pc := 62) hv1_5 rfl (Nat.le_of_ble_eq_true rfl) (Nat.le_of_ble_eq_true rfl) dX11_sumRead_62 H
  refine cx_if_ge (pc := 9) 61 hx6 dX11_sumRead_9 rfl H (fun H => ?_) (fun H => ?_)
  · -- 9: 12
    refine aw_aload_n (pc := 12) dX11_sumRead_12 rfl ?_
    refine cx_callV (pc := 13) (P := pI) (dC := 0) (mcC := 0) (msC := 0) [] hE r100 (fun r1 H1 => s_X11_here l sc E R hE hR n m5 r1 H1) ca_X11_419 rfl ⟨_, rfl, rfl⟩ rfl rfl (by omega) (Nat.le_of_ble_eq_true rfl) (Nat.le_of_ble_eq_true rfl) (Nat.le_of_ble_eq_true rfl) dX11_sumRead_13 H (fun x13 m13 v13 hh13 H hp => ?_)
    refine cx_backI hp (fun hx13 => ?_)
    refine cx_bipush (pc := 16) dX11_sumRead_16 (by decide) ?_
    refine cx_icmp_ne (pc := 18) 61 hx13 (inR_lit _ rfl) dX11_sumRead_18 rfl H (fun H => ?_) (fun H => ?_)
    · -- 18: 21
      refine aw_aload_n (pc := 21) dX11_sumRead_21 rfl ?_
      refine aw_dup (pc := 22) dX11_sumRead_22 rfl ?_
      refine cx_gtF (pc := 23) hE r100 fl_X11_416 rfl rfl (Nat.le_of_ble_eq_true rfl) dX11_sumRead_23 H (fun x23 hx23 H => ?_)
      refine cx_iconst (pc := 26) dX11_sumRead_26 ?_
      refine cx_iadd (pc := 27) dX11_sumRead_27 ?_
      refine cx_ptF (pc := 28) tyX11 hE r100 fl_X11_416 (fun r h => ⟨gty_X11 r h, by cases h; rfl⟩) rfl rfl rfl (Nat.le_of_ble_eq_true rfl) dX11_sumRead_28 H (fun m28 H => ?_)
      refine aw_aload_n (pc := 31) dX11_sumRead_31 rfl ?_
      refine cx_callV (pc := 32) (P := pI) (dC := dd) (mcC := 0) (msC := 0) [] hE r100 (fun r1 H1 => hg_X11_unit m28 r1 H1) ca_X11_441 rfl ⟨_, rfl, rfl⟩ rfl rfl (by omega) (Nat.le_of_ble_eq_true rfl) (Nat.le_of_ble_eq_true rfl) (Nat.le_of_ble_eq_true rfl) dX11_sumRead_32 H (fun x32 m32 v32 hh32 H hp => ?_)
      refine cx_backI hp (fun hx32 => ?_)
      refine aw_istore_n (pc := 35) [(2, iv x32), (0, .ref 100), (1, iv v1_5)] dX11_sumRead_35 rfl (by decide) ?_
      refine aw_aload_n (pc := 36) dX11_sumRead_36 rfl ?_
      refine cx_gtF (pc := 37) hE r100 fl_X11_444 rfl rfl (Nat.le_of_ble_eq_true rfl) dX11_sumRead_37 H (fun x37 hx37 H => ?_)
      refine jn_ind (fun (f9 : Int → Mem → Option Rz) => ∀ (s0_57 : Int) (m57 : Mem), inR s0_57 → f9 s0_57 m57 = some r → AW l D base sc RX11 yX11_sumRead cX11_sumRead 3 (some FieldType.int) (dd + 1) 0 0 ad (E mi) (pI E r) 0 0 (E m57) 57 [(0, .ref 100)] [iv s0_57]) (fun s0_57 m57 hs0_57 H => ?_) (fun j57 hj57 H => ?_) H
      · -- 57
        refine aw_istore_n (pc := 57) [(1, iv s0_57), (0, .ref 100)] dX11_sumRead_57 rfl (by decide) ?_
        refine aw_goto (pc := 58) 5 dX11_sumRead_58 rfl ?_
        exact AW.sel [1, 0] rfl (ih5 _ _ hs0_57 H)
      refine cx_if_eq (pc := 40) 56 hx37 dX11_sumRead_40 rfl H (fun H => ?_) (fun H => ?_)
      · -- 40: 56
        refine cx_iconst (pc := 56) dX11_sumRead_56 ?_
        exact AW.sel [1] rfl (hj57 _ _ (inR_lit _ rfl) H)
      · -- 40: 43
        refine aw_aload_n (pc := 43) dX11_sumRead_43 rfl ?_
        refine aw_aload_n (pc := 44) dX11_sumRead_44 rfl ?_
        refine aw_iload_n (pc := 45) dX11_sumRead_45 rfl ?_
        refine aw_iload_n (pc := 46) dX11_sumRead_46 rfl ?_
        refine cx_callV (pc := 47) (P := pI) (dC := 407) (mcC := 0) (msC := 0) [iv v1_5, iv x32] hE r100 (fun r1 H1 => s_X11_sum l sc E R hE hR n v1_5 x32 hv1_5 hx32 m32 r1 H1) ca_X11_191 rfl ⟨_, rfl, rfl⟩ rfl rfl (by omega) (Nat.le_of_ble_eq_true rfl) (Nat.le_of_ble_eq_true rfl) (Nat.le_of_ble_eq_true rfl) dX11_sumRead_47 H (fun x47 m47 v47 hh47 H hp => ?_)
        refine cx_backI hp (fun hx47 => ?_)
        refine cx_callV (pc := 50) (P := pI) (dC := 63) (mcC := 0) (msC := 0) [iv x47] hE r100 (fun r1 H1 => s_X11_checked l sc E R hE hR n x47 hx47 m47 r1 H1) ca_X11_447 rfl ⟨_, rfl, rfl⟩ rfl rfl (by omega) (Nat.le_of_ble_eq_true rfl) (Nat.le_of_ble_eq_true rfl) (Nat.le_of_ble_eq_true rfl) dX11_sumRead_50 H (fun x50 m50 v50 hh50 H hp => ?_)
        refine cx_backI hp (fun hx50 => ?_)
        refine aw_goto (pc := 53) 57 dX11_sumRead_53 rfl ?_
        exact AW.sel [1] rfl (hj57 _ _ hx50 H)
    · -- 18: 61
      exact AW.sel [1] rfl (hj61 _ H)
  · -- 9: 61
    exact AW.sel [1] rfl (hj61 _ H)
set_option maxRecDepth 100000 in
set_option maxHeartbeats 4000000 in
theorem sb_X11_unit (l : Launch) (sc : g_S) (E : Mem → g_H) (R : Nat → Prop) (hE : LE E R) (hR : RRF R) (n : Nat) (dd : Nat) (hdd : 408 ≤ dd) (g_X11_bracedUnit : (Mem → Option Rz)) (g_X11_minusUnit : (Mem → Option Rz)) (g_X11_options : (Int → Mem → Option Rz)) (g_X11_sumRead : (Mem → Option Rz)) (g_X11_unit : (Mem → Option Rz)) (hg_X11_bracedUnit : q_X11_bracedUnit l sc E R dd g_X11_bracedUnit) (hg_X11_minusUnit : q_X11_minusUnit l sc E R dd g_X11_minusUnit) (hg_X11_options : q_X11_options l sc E R dd g_X11_options) (hg_X11_sumRead : q_X11_sumRead l sc E R dd g_X11_sumRead) (hg_X11_unit : q_X11_unit l sc E R dd g_X11_unit)  (mi : Mem)  (r : Rz) (H : b_X11_unit n g_X11_bracedUnit g_X11_minusUnit g_X11_options g_X11_sumRead g_X11_unit  mi = some r) : AMet l sc yX11_unit cX11_unit 2 (some FieldType.int) (dd + 1) 0 0 [.ref 100] (E mi) (pI E r) := by
  have r100 : R 100 := hR 100 (Nat.le_of_ble_eq_true rfl) (Nat.le_of_ble_eq_true rfl)
  unfold b_X11_unit at H
  refine AMet.of (own := RX11) (by decide +kernel) rfl (Nat.le_of_ble_eq_true rfl) [(0, .ref 100)] rfl (fun D base ad => ?_)
  refine aw_aload_n (pc := 0) dX11_unit_0 rfl ?_
  refine cx_gtF (pc := 1) hE r100 fl_X11_422 rfl rfl (Nat.le_of_ble_eq_true rfl) dX11_unit_1 H (fun x1 hx1 H => ?_)
  refine cx_if_lt (pc := 4) 9 hx1 dX11_unit_4 rfl H (fun H => ?_) (fun H => ?_)
  · -- 4: 9
    refine aw_aload_n (pc := 9) dX11_unit_9 rfl ?_
    refine cx_callV (pc := 10) (P := pI) (dC := 1) (mcC := 0) (msC := 0) [] hE r100 (fun r1 H1 => s_X11_isDigit l sc E R hE hR n mi r1 H1) ca_X11_428 rfl ⟨_, rfl, rfl⟩ rfl rfl (by omega) (Nat.le_of_ble_eq_true rfl) (Nat.le_of_ble_eq_true rfl) (Nat.le_of_ble_eq_true rfl) dX11_unit_10 H (fun x10 m10 v10 hh10 H hp => ?_)
    refine cx_backI hp (fun hx10 => ?_)
    refine cx_if_eq (pc := 13) 42 hx10 dX11_unit_13 rfl H (fun H => ?_) (fun H => ?_)
    · -- 13: 42
      refine aw_aload_n (pc := 42) dX11_unit_42 rfl ?_
      refine cx_callV (pc := 43) (P := pI) (dC := 0) (mcC := 0) (msC := 0) [] hE r100 (fun r1 H1 => s_X11_here l sc E R hE hR n m10 r1 H1) ca_X11_419 rfl ⟨_, rfl, rfl⟩ rfl rfl (by omega) (Nat.le_of_ble_eq_true rfl) (Nat.le_of_ble_eq_true rfl) (Nat.le_of_ble_eq_true rfl) dX11_unit_43 H (fun x43 m43 v43 hh43 H hp => ?_)
      refine cx_backI hp (fun hx43 => ?_)
      rcases sw_eq H with ⟨q46_42, H⟩ | ⟨q46_42, H⟩
      · -- 46 case 42
        refine cx_lookIn (pc := 46) 88 42 q46_42 dX11_unit_46 (by decide) rfl rfl ?_
        refine aw_aload_n (pc := 88) dX11_unit_88 rfl ?_
        refine aw_dup (pc := 89) dX11_unit_89 rfl ?_
        refine cx_gtF (pc := 90) hE r100 fl_X11_416 rfl rfl (Nat.le_of_ble_eq_true rfl) dX11_unit_90 H (fun x90 hx90 H => ?_)
        refine cx_iconst (pc := 93) dX11_unit_93 ?_
        refine cx_iadd (pc := 94) dX11_unit_94 ?_
        refine cx_ptF (pc := 95) tyX11 hE r100 fl_X11_416 (fun r h => ⟨gty_X11 r h, by cases h; rfl⟩) rfl rfl rfl (Nat.le_of_ble_eq_true rfl) dX11_unit_95 H (fun m95 H => ?_)
        refine aw_aload_n (pc := 98) dX11_unit_98 rfl ?_
        refine cx_callV (pc := 99) (P := pI) (dC := 1) (mcC := 0) (msC := 0) [] hE r100 (fun r1 H1 => s_X11_isDigit l sc E R hE hR n m95 r1 H1) ca_X11_428 rfl ⟨_, rfl, rfl⟩ rfl rfl (by omega) (Nat.le_of_ble_eq_true rfl) (Nat.le_of_ble_eq_true rfl) (Nat.le_of_ble_eq_true rfl) dX11_unit_99 H (fun x99 m99 v99 hh99 H hp => ?_)
        refine cx_backI hp (fun hx99 => ?_)
        refine jn_ind (fun (f9 : Int → Mem → Option Rz) => ∀ (s0_113 : Int) (m113 : Mem), inR s0_113 → f9 s0_113 m113 = some r → AW l D base sc RX11 yX11_unit cX11_unit 2 (some FieldType.int) (dd + 1) 0 0 ad (E mi) (pI E r) 0 0 (E m113) 113 [(0, .ref 100)] [iv s0_113]) (fun s0_113 m113 hs0_113 H => ?_) (fun j113 hj113 H => ?_) H
        · -- 113
          refine aw_istore_n (pc := 113) [(1, iv s0_113), (0, .ref 100)] dX11_unit_113 rfl (by decide) ?_
          refine aw_aload_n (pc := 114) dX11_unit_114 rfl ?_
          refine cx_gtF (pc := 115) hE r100 fl_X11_444 rfl rfl (Nat.le_of_ble_eq_true rfl) dX11_unit_115 H (fun x115 hx115 H => ?_)
          refine jn_ind (fun (f9 : Int → Mem → Option Rz) => ∀ (s0_134 : Int) (m134 : Mem), inR s0_134 → f9 s0_134 m134 = some r → AW l D base sc RX11 yX11_unit cX11_unit 2 (some FieldType.int) (dd + 1) 0 0 ad (E mi) (pI E r) 0 0 (E m134) 134 [] [iv s0_134]) (fun s0_134 m134 hs0_134 H => ?_) (fun j134 hj134 H => ?_) H
          · -- 134
            exact cx_iret (pc := 134) hs0_134 rfl (Nat.le_of_ble_eq_true rfl) (Nat.le_of_ble_eq_true rfl) dX11_unit_134 H
          refine cx_if_eq (pc := 118) 133 hx115 dX11_unit_118 rfl H (fun H => ?_) (fun H => ?_)
          · -- 118: 133
            refine cx_iconst (pc := 133) dX11_unit_133 ?_
            exact AW.sel [] rfl (hj134 _ _ (inR_lit _ rfl) H)
          · -- 118: 121
            refine aw_aload_n (pc := 121) dX11_unit_121 rfl ?_
            refine aw_aload_n (pc := 122) dX11_unit_122 rfl ?_
            refine aw_iload_n (pc := 123) dX11_unit_123 rfl ?_
            refine cx_callV (pc := 124) (P := pI) (dC := 307) (mcC := 0) (msC := 0) [iv s0_113] hE r100 (fun r1 H1 => s_X11_heapOf l sc E R hE hR n s0_113 hs0_113 m113 r1 H1) ca_X11_206 rfl ⟨_, rfl, rfl⟩ rfl rfl (by omega) (Nat.le_of_ble_eq_true rfl) (Nat.le_of_ble_eq_true rfl) (Nat.le_of_ble_eq_true rfl) dX11_unit_124 H (fun x124 m124 v124 hh124 H hp => ?_)
            refine cx_backI hp (fun hx124 => ?_)
            refine cx_callV (pc := 127) (P := pI) (dC := 63) (mcC := 0) (msC := 0) [iv x124] hE r100 (fun r1 H1 => s_X11_checked l sc E R hE hR n x124 hx124 m124 r1 H1) ca_X11_447 rfl ⟨_, rfl, rfl⟩ rfl rfl (by omega) (Nat.le_of_ble_eq_true rfl) (Nat.le_of_ble_eq_true rfl) (Nat.le_of_ble_eq_true rfl) dX11_unit_127 H (fun x127 m127 v127 hh127 H hp => ?_)
            refine cx_backI hp (fun hx127 => ?_)
            refine aw_goto (pc := 130) 134 dX11_unit_130 rfl ?_
            exact AW.sel [] rfl (hj134 _ _ hx127 H)
        refine cx_if_eq (pc := 102) 112 hx99 dX11_unit_102 rfl H (fun H => ?_) (fun H => ?_)
        · -- 102: 112
          refine cx_iconst (pc := 112) dX11_unit_112 ?_
          exact AW.sel [0] rfl (hj113 _ _ (inR_lit _ rfl) H)
        · -- 102: 105
          refine aw_aload_n (pc := 105) dX11_unit_105 rfl ?_
          refine cx_callV (pc := 106) (P := pI) (dC := 2) (mcC := 0) (msC := 0) [] hE r100 (fun r1 H1 => s_X11_number l sc E R hE hR n m99 r1 H1) ca_X11_459 rfl ⟨_, rfl, rfl⟩ rfl rfl (by omega) (Nat.le_of_ble_eq_true rfl) (Nat.le_of_ble_eq_true rfl) (Nat.le_of_ble_eq_true rfl) dX11_unit_106 H (fun x106 m106 v106 hh106 H hp => ?_)
          refine cx_backI hp (fun hx106 => ?_)
          refine aw_goto (pc := 109) 113 dX11_unit_109 rfl ?_
          exact AW.sel [0] rfl (hj113 _ _ hx106 H)
      rcases sw_eq H with ⟨q46_45, H⟩ | ⟨q46_45, H⟩
      · -- 46 case 45
        refine cx_lookIn (pc := 46) 165 45 q46_45 dX11_unit_46 (by decide) rfl rfl ?_
        refine aw_aload_n (pc := 165) dX11_unit_165 rfl ?_
        refine cx_callV (pc := 166) (P := pI) (dC := dd) (mcC := 0) (msC := 0) [] hE r100 (fun r1 H1 => hg_X11_minusUnit m43 r1 H1) ca_X11_462 rfl ⟨_, rfl, rfl⟩ rfl rfl (by omega) (Nat.le_of_ble_eq_true rfl) (Nat.le_of_ble_eq_true rfl) (Nat.le_of_ble_eq_true rfl) dX11_unit_166 H (fun x166 m166 v166 hh166 H hp => ?_)
        refine cx_backI hp (fun hx166 => ?_)
        exact cx_iret (pc := 169) hx166 rfl (Nat.le_of_ble_eq_true rfl) (Nat.le_of_ble_eq_true rfl) dX11_unit_169 H
      rcases sw_eq H with ⟨q46_94, H⟩ | ⟨q46_94, H⟩
      · -- 46 case 94
        refine cx_lookIn (pc := 46) 135 94 q46_94 dX11_unit_46 (by decide) rfl rfl ?_
        refine aw_aload_n (pc := 135) dX11_unit_135 rfl ?_
        refine aw_dup (pc := 136) dX11_unit_136 rfl ?_
        refine cx_gtF (pc := 137) hE r100 fl_X11_416 rfl rfl (Nat.le_of_ble_eq_true rfl) dX11_unit_137 H (fun x137 hx137 H => ?_)
        refine cx_iconst (pc := 140) dX11_unit_140 ?_
        refine cx_iadd (pc := 141) dX11_unit_141 ?_
        refine cx_ptF (pc := 142) tyX11 hE r100 fl_X11_416 (fun r h => ⟨gty_X11 r h, by cases h; rfl⟩) rfl rfl rfl (Nat.le_of_ble_eq_true rfl) dX11_unit_142 H (fun m142 H => ?_)
        refine aw_aload_n (pc := 145) dX11_unit_145 rfl ?_
        refine cx_gtF (pc := 146) hE r100 fl_X11_444 rfl rfl (Nat.le_of_ble_eq_true rfl) dX11_unit_146 H (fun x146 hx146 H => ?_)
        refine jn_ind (fun (f9 : Int → Mem → Option Rz) => ∀ (s0_164 : Int) (m164 : Mem), inR s0_164 → f9 s0_164 m164 = some r → AW l D base sc RX11 yX11_unit cX11_unit 2 (some FieldType.int) (dd + 1) 0 0 ad (E mi) (pI E r) 0 0 (E m164) 164 [] [iv s0_164]) (fun s0_164 m164 hs0_164 H => ?_) (fun j164 hj164 H => ?_) H
        · -- 164
          exact cx_iret (pc := 164) hs0_164 rfl (Nat.le_of_ble_eq_true rfl) (Nat.le_of_ble_eq_true rfl) dX11_unit_164 H
        refine cx_if_eq (pc := 149) 163 hx146 dX11_unit_149 rfl H (fun H => ?_) (fun H => ?_)
        · -- 149: 163
          refine cx_iconst (pc := 163) dX11_unit_163 ?_
          exact AW.sel [] rfl (hj164 _ _ (inR_lit _ rfl) H)
        · -- 149: 152
          refine aw_aload_n (pc := 152) dX11_unit_152 rfl ?_
          refine aw_aload_n (pc := 153) dX11_unit_153 rfl ?_
          refine cx_callV (pc := 154) (P := pI) (dC := 308) (mcC := 0) (msC := 0) [] hE r100 (fun r1 H1 => s_X11_up l sc E R hE hR n m142 r1 H1) ca_X11_342 rfl ⟨_, rfl, rfl⟩ rfl rfl (by omega) (Nat.le_of_ble_eq_true rfl) (Nat.le_of_ble_eq_true rfl) (Nat.le_of_ble_eq_true rfl) dX11_unit_154 H (fun x154 m154 v154 hh154 H hp => ?_)
          refine cx_backI hp (fun hx154 => ?_)
          refine cx_callV (pc := 157) (P := pI) (dC := 63) (mcC := 0) (msC := 0) [iv x154] hE r100 (fun r1 H1 => s_X11_checked l sc E R hE hR n x154 hx154 m154 r1 H1) ca_X11_447 rfl ⟨_, rfl, rfl⟩ rfl rfl (by omega) (Nat.le_of_ble_eq_true rfl) (Nat.le_of_ble_eq_true rfl) (Nat.le_of_ble_eq_true rfl) dX11_unit_157 H (fun x157 m157 v157 hh157 H hp => ?_)
          refine cx_backI hp (fun hx157 => ?_)
          refine aw_goto (pc := 160) 164 dX11_unit_160 rfl ?_
          exact AW.sel [] rfl (hj164 _ _ hx157 H)
      rcases sw_eq H with ⟨q46_123, H⟩ | ⟨q46_123, H⟩
      · -- 46 case 123
        refine cx_lookIn (pc := 46) 170 123 q46_123 dX11_unit_46 (by decide) rfl rfl ?_
        refine aw_aload_n (pc := 170) dX11_unit_170 rfl ?_
        refine cx_callV (pc := 171) (P := pI) (dC := dd) (mcC := 0) (msC := 0) [] hE r100 (fun r1 H1 => hg_X11_bracedUnit m43 r1 H1) ca_X11_465 rfl ⟨_, rfl, rfl⟩ rfl rfl (by omega) (Nat.le_of_ble_eq_true rfl) (Nat.le_of_ble_eq_true rfl) (Nat.le_of_ble_eq_true rfl) dX11_unit_171 H (fun x171 m171 v171 hh171 H hp => ?_)
        refine cx_backI hp (fun hx171 => ?_)
        exact cx_iret (pc := 174) hx171 rfl (Nat.le_of_ble_eq_true rfl) (Nat.le_of_ble_eq_true rfl) dX11_unit_174 H
      refine cx_lookOut (pc := 46) 175 hx43 dX11_unit_46 (by decide) (by simp only [List.mem_cons, forall_eq_or_imp, List.not_mem_nil, false_implies, implies_true, and_true]; exact ⟨q46_42, q46_45, q46_94, q46_123⟩) rfl ?_
      refine aw_aload_n (pc := 175) dX11_unit_175 rfl ?_
      refine aw_aload_n (pc := 176) dX11_unit_176 rfl ?_
      refine cx_gtF (pc := 177) hE r100 fl_X11_416 rfl rfl (Nat.le_of_ble_eq_true rfl) dX11_unit_177 H (fun x177 hx177 H => ?_)
      refine cx_callV (pc := 180) (P := pV) (dC := 0) (mcC := 0) (msC := 0) [iv x177] hE r100 (fun r1 H1 => s_X11_faults l sc E R hE hR n x177 hx177 m43 r1 H1) ca_X11_425 rfl ⟨_, rfl, rfl⟩ rfl rfl (by omega) (Nat.le_of_ble_eq_true rfl) (Nat.le_of_ble_eq_true rfl) (Nat.le_of_ble_eq_true rfl) dX11_unit_180 H (fun x180 m180 v180 hh180 H hp => ?_)
      refine cx_backV hp ?_
      refine cx_iconst (pc := 183) dX11_unit_183 ?_
      exact cx_iret (pc := 184) (inR_lit _ rfl) rfl (Nat.le_of_ble_eq_true rfl) (Nat.le_of_ble_eq_true rfl) dX11_unit_184 H
    · -- 13: 16
      refine aw_aload_n (pc := 16) dX11_unit_16 rfl ?_
      refine cx_callV (pc := 17) (P := pI) (dC := 2) (mcC := 0) (msC := 0) [] hE r100 (fun r1 H1 => s_X11_number l sc E R hE hR n m10 r1 H1) ca_X11_459 rfl ⟨_, rfl, rfl⟩ rfl rfl (by omega) (Nat.le_of_ble_eq_true rfl) (Nat.le_of_ble_eq_true rfl) (Nat.le_of_ble_eq_true rfl) dX11_unit_17 H (fun x17 m17 v17 hh17 H hp => ?_)
      refine cx_backI hp (fun hx17 => ?_)
      refine aw_istore_n (pc := 20) [(1, iv x17), (0, .ref 100)] dX11_unit_20 rfl (by decide) ?_
      refine aw_aload_n (pc := 21) dX11_unit_21 rfl ?_
      refine cx_gtF (pc := 22) hE r100 fl_X11_444 rfl rfl (Nat.le_of_ble_eq_true rfl) dX11_unit_22 H (fun x22 hx22 H => ?_)
      refine jn_ind (fun (f9 : Int → Mem → Option Rz) => ∀ (s0_41 : Int) (m41 : Mem), inR s0_41 → f9 s0_41 m41 = some r → AW l D base sc RX11 yX11_unit cX11_unit 2 (some FieldType.int) (dd + 1) 0 0 ad (E mi) (pI E r) 0 0 (E m41) 41 [] [iv s0_41]) (fun s0_41 m41 hs0_41 H => ?_) (fun j41 hj41 H => ?_) H
      · -- 41
        exact cx_iret (pc := 41) hs0_41 rfl (Nat.le_of_ble_eq_true rfl) (Nat.le_of_ble_eq_true rfl) dX11_unit_41 H
      refine cx_if_eq (pc := 25) 40 hx22 dX11_unit_25 rfl H (fun H => ?_) (fun H => ?_)
      · -- 25: 40
        refine cx_iconst (pc := 40) dX11_unit_40 ?_
        exact AW.sel [] rfl (hj41 _ _ (inR_lit _ rfl) H)
      · -- 25: 28
        refine aw_aload_n (pc := 28) dX11_unit_28 rfl ?_
        refine aw_aload_n (pc := 29) dX11_unit_29 rfl ?_
        refine aw_iload_n (pc := 30) dX11_unit_30 rfl ?_
        refine cx_callV (pc := 31) (P := pI) (dC := 307) (mcC := 0) (msC := 0) [iv x17] hE r100 (fun r1 H1 => s_X11_wholeOf l sc E R hE hR n x17 hx17 m17 r1 H1) ca_X11_336 rfl ⟨_, rfl, rfl⟩ rfl rfl (by omega) (Nat.le_of_ble_eq_true rfl) (Nat.le_of_ble_eq_true rfl) (Nat.le_of_ble_eq_true rfl) dX11_unit_31 H (fun x31 m31 v31 hh31 H hp => ?_)
        refine cx_backI hp (fun hx31 => ?_)
        refine cx_callV (pc := 34) (P := pI) (dC := 63) (mcC := 0) (msC := 0) [iv x31] hE r100 (fun r1 H1 => s_X11_checked l sc E R hE hR n x31 hx31 m31 r1 H1) ca_X11_447 rfl ⟨_, rfl, rfl⟩ rfl rfl (by omega) (Nat.le_of_ble_eq_true rfl) (Nat.le_of_ble_eq_true rfl) (Nat.le_of_ble_eq_true rfl) dX11_unit_34 H (fun x34 m34 v34 hh34 H hp => ?_)
        refine cx_backI hp (fun hx34 => ?_)
        refine aw_goto (pc := 37) 41 dX11_unit_37 rfl ?_
        exact AW.sel [] rfl (hj41 _ _ hx34 H)
  · -- 4: 7
    refine cx_iconst (pc := 7) dX11_unit_7 ?_
    exact cx_iret (pc := 8) (inR_lit _ rfl) rfl (Nat.le_of_ble_eq_true rfl) (Nat.le_of_ble_eq_true rfl) dX11_unit_8 H
theorem sa_X11_unit (l : Launch) (sc : g_S) (E : Mem → g_H) (R : Nat → Prop) (hE : LE E R) (hR : RRF R) (n : Nat) : ∀ dp, q_X11_bracedUnit l sc E R (408 + dp) (h_X11_bracedUnit n dp) ∧ q_X11_minusUnit l sc E R (408 + dp) (h_X11_minusUnit n dp) ∧ q_X11_options l sc E R (408 + dp) (h_X11_options n dp) ∧ q_X11_sumRead l sc E R (408 + dp) (h_X11_sumRead n dp) ∧ q_X11_unit l sc E R (408 + dp) (h_X11_unit n dp)
  | 0 => ⟨(fun _ _ H => nomatch H), (fun _ _ H => nomatch H), (fun _ _ _ _ H => nomatch H), (fun _ _ H => nomatch H), (fun _ _ H => nomatch H)⟩
  | dp + 1 => by
    have ih := sa_X11_unit l sc E R hE hR n dp
    refine ⟨?_, ?_, ?_, ?_, ?_⟩
    · exact fun  m  r H => sb_X11_bracedUnit l sc E R hE hR n (408 + dp) (Nat.le_add_right _ _) _ _ _ _ _ ih.1 ih.2.1 ih.2.2.1 ih.2.2.2.1 ih.2.2.2.2  m  r H
    · exact fun  m  r H => sb_X11_minusUnit l sc E R hE hR n (408 + dp) (Nat.le_add_right _ _) _ _ _ _ _ ih.1 ih.2.1 ih.2.2.1 ih.2.2.2.1 ih.2.2.2.2  m  r H
    · exact fun p1 m hp1 r H => sb_X11_options l sc E R hE hR n (408 + dp) (Nat.le_add_right _ _) _ _ _ _ _ ih.1 ih.2.1 ih.2.2.1 ih.2.2.2.1 ih.2.2.2.2 p1 m hp1 r H
    · exact fun  m  r H => sb_X11_sumRead l sc E R hE hR n (408 + dp) (Nat.le_add_right _ _) _ _ _ _ _ ih.1 ih.2.1 ih.2.2.1 ih.2.2.2.1 ih.2.2.2.2  m  r H
    · exact fun  m  r H => sb_X11_unit l sc E R hE hR n (408 + dp) (Nat.le_add_right _ _) _ _ _ _ _ ih.1 ih.2.1 ih.2.2.1 ih.2.2.2.1 ih.2.2.2.2  m  r H
theorem s_X11_bracedUnit (l : Launch) (sc : g_S) (E : Mem → g_H) (R : Nat → Prop) (hE : LE E R) (hR : RRF R) (n : Nat)   (m : Mem) (r : Rz) (H : f_X11_bracedUnit n  m = some r) : AMet l sc yX11_bracedUnit cX11_bracedUnit 3 (some FieldType.int) 448 0 0 [.ref 100] (E m) (pI E r) := (sa_X11_unit l sc E R hE hR n 40).1  m  r H
theorem s_X11_minusUnit (l : Launch) (sc : g_S) (E : Mem → g_H) (R : Nat → Prop) (hE : LE E R) (hR : RRF R) (n : Nat)   (m : Mem) (r : Rz) (H : f_X11_minusUnit n  m = some r) : AMet l sc yX11_minusUnit cX11_minusUnit 2 (some FieldType.int) 448 0 0 [.ref 100] (E m) (pI E r) := (sa_X11_unit l sc E R hE hR n 40).2.1  m  r H
theorem s_X11_options (l : Launch) (sc : g_S) (E : Mem → g_H) (R : Nat → Prop) (hE : LE E R) (hR : RRF R) (n : Nat) (p1 : Int) (hp1 : inR p1) (m : Mem) (r : Rz) (H : f_X11_options n p1 m = some r) : AMet l sc yX11_options cX11_options 2 none 448 0 0 [.ref 100, iv p1] (E m) (pV E r) := (sa_X11_unit l sc E R hE hR n 40).2.2.1 p1 m hp1 r H
theorem s_X11_sumRead (l : Launch) (sc : g_S) (E : Mem → g_H) (R : Nat → Prop) (hE : LE E R) (hR : RRF R) (n : Nat)   (m : Mem) (r : Rz) (H : f_X11_sumRead n  m = some r) : AMet l sc yX11_sumRead cX11_sumRead 3 (some FieldType.int) 448 0 0 [.ref 100] (E m) (pI E r) := (sa_X11_unit l sc E R hE hR n 40).2.2.2.1  m  r H
theorem s_X11_unit (l : Launch) (sc : g_S) (E : Mem → g_H) (R : Nat → Prop) (hE : LE E R) (hR : RRF R) (n : Nat)   (m : Mem) (r : Rz) (H : f_X11_unit n  m = some r) : AMet l sc yX11_unit cX11_unit 2 (some FieldType.int) 448 0 0 [.ref 100] (E m) (pI E r) := (sa_X11_unit l sc E R hE hR n 40).2.2.2.2  m  r H
/-- X11 reads (Z)I -/
def f_X11_reads (n : Nat) (p1 : Int) (mi : Mem) : Option Rz :=
  ptZ mi 100 53 p1 fun m2 =>
  ptF m2 100 50 0 fun m7 =>
  ptF m7 100 51 (-1) fun m12 =>
  ptF m12 100 52 0 fun m17 =>
  ptZ m17 100 54 0 fun m22 =>
  cal (f_X11_sumRead n m22) fun x26 m26 =>
  gtF m26 100 50 fun x31 =>
  gtF m26 100 49 fun x35 =>
  jn (fun (m49 : Mem) =>
    rt x26 m49
  ) fun (j49 : Mem → Option Rz) =>
  if x31 < x35 then (
    gtF m26 100 50 fun x43 =>
    cal (f_X11_faults n x43 m26) fun _ m46 =>
    j49 m46
  ) else
  j49 m26
set_option maxRecDepth 100000 in
set_option maxHeartbeats 4000000 in
theorem s_X11_reads (l : Launch) (sc : g_S) (E : Mem → g_H) (R : Nat → Prop) (hE : LE E R) (hR : RRF R) (n : Nat)  (p1 : Int) (hp1 : inR p1) (mi : Mem) (r : Rz) (H : f_X11_reads n p1 mi = some r) : AMet l sc yX11_reads cX11_reads 3 (some FieldType.int) 449 0 0 [.ref 100, iv p1] (E mi) (pI E r) := by
  have r100 : R 100 := hR 100 (Nat.le_of_ble_eq_true rfl) (Nat.le_of_ble_eq_true rfl)
  unfold f_X11_reads at H
  refine AMet.of (own := RX11) (by decide +kernel) rfl (Nat.le_of_ble_eq_true rfl) [(0, .ref 100), (1, iv p1)] rfl (fun D base ad => ?_)
  refine aw_aload_n (pc := 0) dX11_reads_0 rfl ?_
  refine aw_iload_n (pc := 1) dX11_reads_1 rfl ?_
  refine cx_ptZ (pc := 2) tyX11 hE r100 fl_X11_444 (fun r h => ⟨gty_X11 r h, by cases h; rfl⟩) rfl rfl rfl (Nat.le_of_ble_eq_true rfl) dX11_reads_2 H (fun m2 H => ?_)
  refine aw_aload_n (pc := 5) dX11_reads_5 rfl ?_
  refine cx_iconst (pc := 6) dX11_reads_6 ?_
  refine cx_ptF (pc := 7) tyX11 hE r100 fl_X11_416 (fun r h => ⟨gty_X11 r h, by cases h; rfl⟩) rfl rfl rfl (Nat.le_of_ble_eq_true rfl) dX11_reads_7 H (fun m7 H => ?_)
  refine aw_aload_n (pc := 10) dX11_reads_10 rfl ?_
  refine cx_iconst (pc := 11) dX11_reads_11 ?_
  refine cx_ptF (pc := 12) tyX11 hE r100 fl_X11_422 (fun r h => ⟨gty_X11 r h, by cases h; rfl⟩) rfl rfl rfl (Nat.le_of_ble_eq_true rfl) dX11_reads_12 H (fun m12 H => ?_)
  refine aw_aload_n (pc := 15) dX11_reads_15 rfl ?_
  refine cx_iconst (pc := 16) dX11_reads_16 ?_
  refine cx_ptF (pc := 17) tyX11 hE r100 fl_X11_435 (fun r h => ⟨gty_X11 r h, by cases h; rfl⟩) rfl rfl rfl (Nat.le_of_ble_eq_true rfl) dX11_reads_17 H (fun m17 H => ?_)
  refine aw_aload_n (pc := 20) dX11_reads_20 rfl ?_
  refine cx_iconst (pc := 21) dX11_reads_21 ?_
  refine cx_ptZ (pc := 22) tyX11 hE r100 fl_X11_432 (fun r h => ⟨gty_X11 r h, by cases h; rfl⟩) rfl rfl rfl (Nat.le_of_ble_eq_true rfl) dX11_reads_22 H (fun m22 H => ?_)
  refine aw_aload_n (pc := 25) dX11_reads_25 rfl ?_
  refine cx_callV (pc := 26) (P := pI) (dC := 448) (mcC := 0) (msC := 0) [] hE r100 (fun r1 H1 => s_X11_sumRead l sc E R hE hR n m22 r1 H1) ca_X11_450 rfl ⟨_, rfl, rfl⟩ rfl rfl (Nat.le_of_ble_eq_true rfl) (Nat.le_of_ble_eq_true rfl) (Nat.le_of_ble_eq_true rfl) (Nat.le_of_ble_eq_true rfl) dX11_reads_26 H (fun x26 m26 v26 hh26 H hp => ?_)
  refine cx_backI hp (fun hx26 => ?_)
  refine aw_istore_n (pc := 29) [(2, iv x26), (0, .ref 100), (1, iv p1)] dX11_reads_29 rfl (by decide) ?_
  refine aw_aload_n (pc := 30) dX11_reads_30 rfl ?_
  refine cx_gtF (pc := 31) hE r100 fl_X11_416 rfl rfl (Nat.le_of_ble_eq_true rfl) dX11_reads_31 H (fun x31 hx31 H => ?_)
  refine aw_aload_n (pc := 34) dX11_reads_34 rfl ?_
  refine cx_gtF (pc := 35) hE r100 fl_X11_411 rfl rfl (Nat.le_of_ble_eq_true rfl) dX11_reads_35 H (fun x35 hx35 H => ?_)
  refine jn_ind (fun (f9 : Mem → Option Rz) => ∀ (m49 : Mem), f9 m49 = some r → AW l D base sc RX11 yX11_reads cX11_reads 3 (some FieldType.int) 449 0 0 ad (E mi) (pI E r) 0 0 (E m49) 49 [(2, iv x26)] []) (fun m49 H => ?_) (fun j49 hj49 H => ?_) H
  · -- 49
    refine aw_iload_n (pc := 49) dX11_reads_49 rfl ?_
    exact cx_iret (pc := 50) hx26 rfl (Nat.le_of_ble_eq_true rfl) (Nat.le_of_ble_eq_true rfl) dX11_reads_50 H
  refine cx_icmp_ge (pc := 38) 49 hx31 hx35 dX11_reads_38 rfl H (fun H => ?_) (fun H => ?_)
  · -- 38: 41
    refine aw_aload_n (pc := 41) dX11_reads_41 rfl ?_
    refine aw_aload_n (pc := 42) dX11_reads_42 rfl ?_
    refine cx_gtF (pc := 43) hE r100 fl_X11_416 rfl rfl (Nat.le_of_ble_eq_true rfl) dX11_reads_43 H (fun x43 hx43 H => ?_)
    refine cx_callV (pc := 46) (P := pV) (dC := 0) (mcC := 0) (msC := 0) [iv x43] hE r100 (fun r1 H1 => s_X11_faults l sc E R hE hR n x43 hx43 m26 r1 H1) ca_X11_425 rfl ⟨_, rfl, rfl⟩ rfl rfl (Nat.le_of_ble_eq_true rfl) (Nat.le_of_ble_eq_true rfl) (Nat.le_of_ble_eq_true rfl) (Nat.le_of_ble_eq_true rfl) dX11_reads_46 H (fun x46 m46 v46 hh46 H hp => ?_)
    refine cx_backV hp ?_
    exact AW.sel [0] rfl (hj49 _ H)
  · -- 38: 49
    exact AW.sel [0] rfl (hj49 _ H)
/-- X11 game (I)I -/
def f_X11_game (n : Nat) (p1 : Int) (mi : Mem) : Option Rz :=
  cal (f_X11_isSlot n p1 mi) fun x1 m1 =>
  if x1 = 0 then (
    cal (f_X11_no n 1 m1) fun x9 m9 =>
    rt x9 m9
  ) else
  cal (f_X11_gathers n m1) fun _ m14 =>
  cal (f_X11_reads n 0 m14) fun x19 m19 =>
  gtF m19 100 51 fun x24 =>
  jn (fun (v2_36 : Int) (m36 : Mem) =>
    ptF m36 100 49 0 fun m38 =>
    gtF m38 100 51 fun x42 =>
    if x42 < 0 then (
      gtF m38 100 54 fun x57 =>
      jn (fun (s0_77 : Int) (m77 : Mem) =>
        rt s0_77 m77
      ) fun (j77 : Int → Mem → Option Rz) =>
      if x57 = 0 then (
        cal (f_X11_holds n p1 v2_36 m38) fun x74 m74 =>
        j77 x74 m74
      ) else
      cal (f_X11_no n 4 m38) fun x65 m65 =>
      j77 x65 m65
    ) else
    gtF m38 100 51 fun x51 =>
    rt (w32 ((-10) - x51)) m38
  ) fun (j36 : Int → Mem → Option Rz) =>
  if x24 < 0 then (
    cal (f_X11_reads n 1 m19) fun x32 m32 =>
    j36 x32 m32
  ) else
  j36 x19 m19
set_option maxRecDepth 100000 in
set_option maxHeartbeats 4000000 in
theorem s_X11_game (l : Launch) (sc : g_S) (E : Mem → g_H) (R : Nat → Prop) (hE : LE E R) (hR : RRF R) (n : Nat)  (p1 : Int) (hp1 : inR p1) (mi : Mem) (r : Rz) (H : f_X11_game n p1 mi = some r) : AMet l sc yX11_game cX11_game 3 (some FieldType.int) 450 0 0 [.ref 100, iv p1] (E mi) (pI E r) := by
  have r100 : R 100 := hR 100 (Nat.le_of_ble_eq_true rfl) (Nat.le_of_ble_eq_true rfl)
  unfold f_X11_game at H
  refine AMet.of (own := RX11) (by decide +kernel) rfl (Nat.le_of_ble_eq_true rfl) [(0, .ref 100), (1, iv p1)] rfl (fun D base ad => ?_)
  refine aw_iload_n (pc := 0) dX11_game_0 rfl ?_
  refine cx_callS (pc := 1) (P := pI) (dC := 1) (mcC := 0) (msC := 0) [iv p1] (fun r1 H1 => s_X11_isSlot l sc E R hE hR n p1 hp1 mi r1 H1) ca_X11_324 rfl rfl (Nat.le_of_ble_eq_true rfl) (Nat.le_of_ble_eq_true rfl) (Nat.le_of_ble_eq_true rfl) (Nat.le_of_ble_eq_true rfl) dX11_game_1 H (fun x1 m1 v1 hh1 H hp => ?_)
  refine cx_backI hp (fun hx1 => ?_)
  refine cx_if_ne (pc := 4) 13 hx1 dX11_game_4 rfl H (fun H => ?_) (fun H => ?_)
  · -- 4: 7
    refine aw_aload_n (pc := 7) dX11_game_7 rfl ?_
    refine cx_iconst (pc := 8) dX11_game_8 ?_
    refine cx_callV (pc := 9) (P := pI) (dC := 0) (mcC := 0) (msC := 0) [iv 1] hE r100 (fun r1 H1 => s_X11_no l sc E R hE hR n 1 (inR_lit _ rfl) m1 r1 H1) ca_X11_300 rfl ⟨_, rfl, rfl⟩ rfl rfl (Nat.le_of_ble_eq_true rfl) (Nat.le_of_ble_eq_true rfl) (Nat.le_of_ble_eq_true rfl) (Nat.le_of_ble_eq_true rfl) dX11_game_9 H (fun x9 m9 v9 hh9 H hp => ?_)
    refine cx_backI hp (fun hx9 => ?_)
    exact cx_iret (pc := 12) hx9 rfl (Nat.le_of_ble_eq_true rfl) (Nat.le_of_ble_eq_true rfl) dX11_game_12 H
  · -- 4: 13
    refine aw_aload_n (pc := 13) dX11_game_13 rfl ?_
    refine cx_callV (pc := 14) (P := pV) (dC := 63) (mcC := 0) (msC := 0) [] hE r100 (fun r1 H1 => s_X11_gathers l sc E R hE hR n m1 r1 H1) ca_X11_333 rfl ⟨_, rfl, rfl⟩ rfl rfl (Nat.le_of_ble_eq_true rfl) (Nat.le_of_ble_eq_true rfl) (Nat.le_of_ble_eq_true rfl) (Nat.le_of_ble_eq_true rfl) dX11_game_14 H (fun x14 m14 v14 hh14 H hp => ?_)
    refine cx_backV hp ?_
    refine aw_aload_n (pc := 17) dX11_game_17 rfl ?_
    refine cx_iconst (pc := 18) dX11_game_18 ?_
    refine cx_callV (pc := 19) (P := pI) (dC := 449) (mcC := 0) (msC := 0) [iv 0] hE r100 (fun r1 H1 => s_X11_reads l sc E R hE hR n 0 (inR_lit _ rfl) m14 r1 H1) ca_X11_468 rfl ⟨_, rfl, rfl⟩ rfl rfl (Nat.le_of_ble_eq_true rfl) (Nat.le_of_ble_eq_true rfl) (Nat.le_of_ble_eq_true rfl) (Nat.le_of_ble_eq_true rfl) dX11_game_19 H (fun x19 m19 v19 hh19 H hp => ?_)
    refine cx_backI hp (fun hx19 => ?_)
    refine aw_istore_n (pc := 22) [(2, iv x19), (0, .ref 100), (1, iv p1)] dX11_game_22 rfl (by decide) ?_
    refine aw_aload_n (pc := 23) dX11_game_23 rfl ?_
    refine cx_gtF (pc := 24) hE r100 fl_X11_422 rfl rfl (Nat.le_of_ble_eq_true rfl) dX11_game_24 H (fun x24 hx24 H => ?_)
    refine jn_ind (fun (f9 : Int → Mem → Option Rz) => ∀ (v2_36 : Int) (m36 : Mem), inR v2_36 → f9 v2_36 m36 = some r → AW l D base sc RX11 yX11_game cX11_game 3 (some FieldType.int) 450 0 0 ad (E mi) (pI E r) 0 0 (E m36) 36 [(0, .ref 100), (1, iv p1), (2, iv v2_36)] []) (fun v2_36 m36 hv2_36 H => ?_) (fun j36 hj36 H => ?_) H
    · -- 36
      refine aw_aload_n (pc := 36) dX11_game_36 rfl ?_
      refine cx_iconst (pc := 37) dX11_game_37 ?_
      refine cx_ptF (pc := 38) tyX11 hE r100 fl_X11_411 (fun r h => ⟨gty_X11 r h, by cases h; rfl⟩) rfl rfl rfl (Nat.le_of_ble_eq_true rfl) dX11_game_38 H (fun m38 H => ?_)
      refine aw_aload_n (pc := 41) dX11_game_41 rfl ?_
      refine cx_gtF (pc := 42) hE r100 fl_X11_422 rfl rfl (Nat.le_of_ble_eq_true rfl) dX11_game_42 H (fun x42 hx42 H => ?_)
      refine cx_if_lt (pc := 45) 56 hx42 dX11_game_45 rfl H (fun H => ?_) (fun H => ?_)
      · -- 45: 56
        refine aw_aload_n (pc := 56) dX11_game_56 rfl ?_
        refine cx_gtF (pc := 57) hE r100 fl_X11_432 rfl rfl (Nat.le_of_ble_eq_true rfl) dX11_game_57 H (fun x57 hx57 H => ?_)
        refine jn_ind (fun (f9 : Int → Mem → Option Rz) => ∀ (s0_77 : Int) (m77 : Mem), inR s0_77 → f9 s0_77 m77 = some r → AW l D base sc RX11 yX11_game cX11_game 3 (some FieldType.int) 450 0 0 ad (E mi) (pI E r) 0 0 (E m77) 77 [] [iv s0_77]) (fun s0_77 m77 hs0_77 H => ?_) (fun j77 hj77 H => ?_) H
        · -- 77
          exact cx_iret (pc := 77) hs0_77 rfl (Nat.le_of_ble_eq_true rfl) (Nat.le_of_ble_eq_true rfl) dX11_game_77 H
        refine cx_if_eq (pc := 60) 71 hx57 dX11_game_60 rfl H (fun H => ?_) (fun H => ?_)
        · -- 60: 71
          refine aw_aload_n (pc := 71) dX11_game_71 rfl ?_
          refine aw_iload_n (pc := 72) dX11_game_72 rfl ?_
          refine aw_iload_n (pc := 73) dX11_game_73 rfl ?_
          refine cx_callV (pc := 74) (P := pI) (dC := 63) (mcC := 0) (msC := 0) [iv p1, iv v2_36] hE r100 (fun r1 H1 => s_X11_holds l sc E R hE hR n p1 v2_36 hp1 hv2_36 m38 r1 H1) ca_X11_339 rfl ⟨_, rfl, rfl⟩ rfl rfl (Nat.le_of_ble_eq_true rfl) (Nat.le_of_ble_eq_true rfl) (Nat.le_of_ble_eq_true rfl) (Nat.le_of_ble_eq_true rfl) dX11_game_74 H (fun x74 m74 v74 hh74 H hp => ?_)
          refine cx_backI hp (fun hx74 => ?_)
          exact AW.sel [] rfl (hj77 _ _ hx74 H)
        · -- 60: 63
          refine aw_aload_n (pc := 63) dX11_game_63 rfl ?_
          refine cx_iconst (pc := 64) dX11_game_64 ?_
          refine cx_callV (pc := 65) (P := pI) (dC := 0) (mcC := 0) (msC := 0) [iv 4] hE r100 (fun r1 H1 => s_X11_no l sc E R hE hR n 4 (inR_lit _ rfl) m38 r1 H1) ca_X11_300 rfl ⟨_, rfl, rfl⟩ rfl rfl (Nat.le_of_ble_eq_true rfl) (Nat.le_of_ble_eq_true rfl) (Nat.le_of_ble_eq_true rfl) (Nat.le_of_ble_eq_true rfl) dX11_game_65 H (fun x65 m65 v65 hh65 H hp => ?_)
          refine cx_backI hp (fun hx65 => ?_)
          refine aw_goto (pc := 68) 77 dX11_game_68 rfl ?_
          exact AW.sel [] rfl (hj77 _ _ hx65 H)
      · -- 45: 48
        refine cx_bipush (pc := 48) dX11_game_48 (by decide) ?_
        refine aw_aload_n (pc := 50) dX11_game_50 rfl ?_
        refine cx_gtF (pc := 51) hE r100 fl_X11_422 rfl rfl (Nat.le_of_ble_eq_true rfl) dX11_game_51 H (fun x51 hx51 H => ?_)
        refine cx_isub (pc := 54) dX11_game_54 ?_
        exact cx_iret (pc := 55) (inR_w32 _) rfl (Nat.le_of_ble_eq_true rfl) (Nat.le_of_ble_eq_true rfl) dX11_game_55 H
    refine cx_if_ge (pc := 27) 36 hx24 dX11_game_27 rfl H (fun H => ?_) (fun H => ?_)
    · -- 27: 30
      refine aw_aload_n (pc := 30) dX11_game_30 rfl ?_
      refine cx_iconst (pc := 31) dX11_game_31 ?_
      refine cx_callV (pc := 32) (P := pI) (dC := 449) (mcC := 0) (msC := 0) [iv 1] hE r100 (fun r1 H1 => s_X11_reads l sc E R hE hR n 1 (inR_lit _ rfl) m19 r1 H1) ca_X11_468 rfl ⟨_, rfl, rfl⟩ rfl rfl (Nat.le_of_ble_eq_true rfl) (Nat.le_of_ble_eq_true rfl) (Nat.le_of_ble_eq_true rfl) (Nat.le_of_ble_eq_true rfl) dX11_game_32 H (fun x32 m32 v32 hh32 H hp => ?_)
      refine cx_backI hp (fun hx32 => ?_)
      refine aw_istore_n (pc := 35) [(2, iv x32), (0, .ref 100), (1, iv p1)] dX11_game_35 rfl (by decide) ?_
      exact AW.sel [1, 2, 0] rfl (hj36 _ _ hx32 H)
    · -- 27: 36
      exact AW.sel [1, 2, 0] rfl (hj36 _ _ hx19 H)
