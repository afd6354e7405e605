/-- X11 sheet (III)I -/
def f_X11_sheet (n : Nat) (p1 : Int) (p2 : Int) (p3 : Int) (mi : Mem) : Option Rz :=
  cal (f_X11_isSheet n p1 mi) fun x1 m1 =>
  jn (fun (m29 : Mem) =>
    cal (f_X11_no n 1 m29) fun x31 m31 =>
    rt x31 m31
  ) fun (j29 : Mem → Option Rz) =>
  if x1 = 0 then (
    j29 m1
  ) else
  jn (fun (m35 : Mem) =>
    jn (fun (m49 : Mem) =>
      jn (fun (m65 : Mem) =>
        stI m65 137 p1 p2 fun m71 =>
        jn (fun (s0_86 : Int) (m86 : Mem) =>
          stI m86 138 p1 s0_86 fun m86 =>
          lp (F := Int → Mem → Option Rz) (fun _ _ => none) (fun w90 v4_90 m90 =>
            if v4_90 < 24 then (
              stI m90 139 (w32 ((w32 (24 * p1)) + v4_90)) 0 fun m109 =>
              w90 (w32 (v4_90 + 1)) m109
            ) else
            rt 1 m90
          ) n 0 m86
        ) fun (j86 : Int → Mem → Option Rz) =>
        if p2 = 0 then (
          j86 0 m71
        ) else
        j86 p3 m71
      ) fun (j65 : Mem → Option Rz) =>
      if p2 = 0 then (
        j65 m49
      ) else
      if 24 < p3 then (
        cal (f_X11_no n 1 m49) fun x61 m61 =>
        rt x61 m61
      ) else
      j65 m49
    ) fun (j49 : Mem → Option Rz) =>
    if p2 = 0 then (
      j49 m35
    ) else
    if p3 < 0 then (
      cal (f_X11_no n 3 m35) fun x45 m45 =>
      rt x45 m45
    ) else
    j49 m35
  ) fun (j35 : Mem → Option Rz) =>
  if p2 = 0 then (
    j35 m1
  ) else
  if p2 = 8 then (
    j35 m1
  ) else
  if p2 = 16 then (
    j35 m1
  ) else
  if p2 = 32 then (
    j35 m1
  ) else
  j29 m1
set_option maxRecDepth 100000 in
set_option maxHeartbeats 4000000 in
theorem s_X11_sheet (l : Launch) (sc : g_S) (E : Mem → g_H) (R : Nat → Prop) (hE : LE E R) (hR : RRF R) (n : Nat)  (p1 : Int) (p2 : Int) (p3 : Int) (hp1 : inR p1) (hp2 : inR p2) (hp3 : inR p3) (mi : Mem) (r : Rz) (H : f_X11_sheet n p1 p2 p3 mi = some r) : AMet l sc yX11_sheet cX11_sheet 5 (some FieldType.int) 2 0 0 [.ref 100, iv p1, iv p2, iv p3] (E mi) (pI E r) := by
  have r100 : R 100 := hR 100 (Nat.le_of_ble_eq_true rfl) (Nat.le_of_ble_eq_true rfl)
  have r137 : R 137 := hR 137 (Nat.le_of_ble_eq_true rfl) (Nat.le_of_ble_eq_true rfl)
  have r138 : R 138 := hR 138 (Nat.le_of_ble_eq_true rfl) (Nat.le_of_ble_eq_true rfl)
  have r139 : R 139 := hR 139 (Nat.le_of_ble_eq_true rfl) (Nat.le_of_ble_eq_true rfl)
  unfold f_X11_sheet at H
  refine AMet.of (own := RX11) (by decide +kernel) rfl (Nat.le_of_ble_eq_true rfl) [(0, .ref 100), (1, iv p1), (2, iv p2), (3, iv p3)] rfl (fun D base ad => ?_)
  refine aw_iload_n (pc := 0) dX11_sheet_0 rfl ?_
  refine cx_callS (pc := 1) (P := pI) (dC := 1) (mcC := 0) (msC := 0) [iv p1] (fun r1 H1 => s_X11_isSheet l sc E R hE hR n p1 hp1 mi r1 H1) ca_X11_383 rfl rfl (Nat.le_of_ble_eq_true rfl) (Nat.le_of_ble_eq_true rfl) (Nat.le_of_ble_eq_true rfl) (Nat.le_of_ble_eq_true rfl) dX11_sheet_1 H (fun x1 m1 v1 hh1 H hp => ?_)
  refine cx_backI hp (fun hx1 => ?_)
  refine jn_ind (fun (f9 : Mem → Option Rz) => ∀ (m29 : Mem), f9 m29 = some r → AW l D base sc RX11 yX11_sheet cX11_sheet 5 (some FieldType.int) 2 0 0 ad (E mi) (pI E r) 0 0 (E m29) 29 [(0, .ref 100)] []) (fun m29 H => ?_) (fun j29 hj29 H => ?_) H
  · -- 29
    refine aw_aload_n (pc := 29) dX11_sheet_29 rfl ?_
    refine cx_iconst (pc := 30) dX11_sheet_30 ?_
    refine cx_callV (pc := 31) (P := pI) (dC := 0) (mcC := 0) (msC := 0) [iv 1] hE r100 (fun r1 H1 => s_X11_no l sc E R hE hR n 1 (inR_lit _ rfl) m29 r1 H1) ca_X11_300 rfl ⟨_, rfl, rfl⟩ rfl rfl (Nat.le_of_ble_eq_true rfl) (Nat.le_of_ble_eq_true rfl) (Nat.le_of_ble_eq_true rfl) (Nat.le_of_ble_eq_true rfl) dX11_sheet_31 H (fun x31 m31 v31 hh31 H hp => ?_)
    refine cx_backI hp (fun hx31 => ?_)
    exact cx_iret (pc := 34) hx31 rfl (Nat.le_of_ble_eq_true rfl) (Nat.le_of_ble_eq_true rfl) dX11_sheet_34 H
  refine cx_if_eq (pc := 4) 29 hx1 dX11_sheet_4 rfl H (fun H => ?_) (fun H => ?_)
  · -- 4: 29
    exact AW.sel [0] rfl (hj29 _ H)
  · -- 4: 7
    refine aw_iload_n (pc := 7) dX11_sheet_7 rfl ?_
    refine jn_ind (fun (f9 : Mem → Option Rz) => ∀ (m35 : Mem), f9 m35 = some r → AW l D base sc RX11 yX11_sheet cX11_sheet 5 (some FieldType.int) 2 0 0 ad (E mi) (pI E r) 0 0 (E m35) 35 [(0, .ref 100), (1, iv p1), (2, iv p2), (3, iv p3)] []) (fun m35 H => ?_) (fun j35 hj35 H => ?_) H
    · -- 35
      refine aw_iload_n (pc := 35) dX11_sheet_35 rfl ?_
      refine jn_ind (fun (f9 : Mem → Option Rz) => ∀ (m49 : Mem), f9 m49 = some r → AW l D base sc RX11 yX11_sheet cX11_sheet 5 (some FieldType.int) 2 0 0 ad (E mi) (pI E r) 0 0 (E m49) 49 [(0, .ref 100), (1, iv p1), (2, iv p2), (3, iv p3)] []) (fun m49 H => ?_) (fun j49 hj49 H => ?_) H
      · -- 49
        refine aw_iload_n (pc := 49) dX11_sheet_49 rfl ?_
        refine jn_ind (fun (f9 : Mem → Option Rz) => ∀ (m65 : Mem), f9 m65 = some r → AW l D base sc RX11 yX11_sheet cX11_sheet 5 (some FieldType.int) 2 0 0 ad (E mi) (pI E r) 0 0 (E m65) 65 [(0, .ref 100), (1, iv p1), (2, iv p2), (3, iv p3)] []) (fun m65 H => ?_) (fun j65 hj65 H => ?_) H
        · -- 65
          refine aw_aload_n (pc := 65) dX11_sheet_65 rfl ?_
          refine cx_gtC (pc := 66) 137 hE r100 fl_X11_288 rfl rfl (Nat.le_of_ble_eq_true rfl) dX11_sheet_66 ?_
          refine aw_iload_n (pc := 69) dX11_sheet_69 rfl ?_
          refine aw_iload_n (pc := 70) dX11_sheet_70 rfl ?_
          refine cx_stI (pc := 71) hE r137 hp1 dX11_sheet_71 H (fun m71 H => ?_)
          refine aw_aload_n (pc := 72) dX11_sheet_72 rfl ?_
          refine cx_gtC (pc := 73) 138 hE r100 fl_X11_291 rfl rfl (Nat.le_of_ble_eq_true rfl) dX11_sheet_73 ?_
          refine aw_iload_n (pc := 76) dX11_sheet_76 rfl ?_
          refine aw_iload_n (pc := 77) dX11_sheet_77 rfl ?_
          refine jn_ind (fun (f9 : Int → Mem → Option Rz) => ∀ (s0_86 : Int) (m86 : Mem), inR s0_86 → f9 s0_86 m86 = some r → AW l D base sc RX11 yX11_sheet cX11_sheet 5 (some FieldType.int) 2 0 0 ad (E mi) (pI E r) 0 0 (E m86) 86 [(0, .ref 100), (1, iv p1)] [iv s0_86, iv p1, .ref 138]) (fun s0_86 m86 hs0_86 H => ?_) (fun j86 hj86 H => ?_) H
          · -- 86
            refine cx_stI (pc := 86) hE r138 hp1 dX11_sheet_86 H (fun m86 H => ?_)
            refine cx_iconst (pc := 87) dX11_sheet_87 ?_
            refine aw_istore (pc := 88) [(4, iv 0), (0, .ref 100), (1, iv p1)] dX11_sheet_88 rfl (by decide) ?_
            refine AW.sel [1, 2, 0] rfl (lp_ind (bot := fun _ _ => none) (fun (f9 : Int → Mem → Option Rz) => ∀ (v4_90 : Int) (m90 : Mem), inR v4_90 → f9 v4_90 m90 = some r → AW l D base sc RX11 yX11_sheet cX11_sheet 5 (some FieldType.int) 2 0 0 ad (E mi) (pI E r) 0 0 (E m90) 90 [(0, .ref 100), (1, iv p1), (4, iv v4_90)] []) (fun _ _ _ h9 => nomatch h9) (fun w90 ih90 v4_90 m90 hv4_90 H => ?_) n _ _ (inR_lit _ rfl) H)
            refine aw_iload (pc := 90) dX11_sheet_90 rfl ?_
            refine cx_bipush (pc := 92) dX11_sheet_92 (by decide) ?_
            refine cx_icmp_ge (pc := 94) 116 hv4_90 (inR_lit _ rfl) dX11_sheet_94 rfl H (fun H => ?_) (fun H => ?_)
            · -- 94: 97
              refine aw_aload_n (pc := 97) dX11_sheet_97 rfl ?_
              refine cx_gtC (pc := 98) 139 hE r100 fl_X11_294 rfl rfl (Nat.le_of_ble_eq_true rfl) dX11_sheet_98 ?_
              refine cx_bipush (pc := 101) dX11_sheet_101 (by decide) ?_
              refine aw_iload_n (pc := 103) dX11_sheet_103 rfl ?_
              refine cx_imul (pc := 104) dX11_sheet_104 ?_
              refine aw_iload (pc := 105) dX11_sheet_105 rfl ?_
              refine cx_iadd (pc := 107) dX11_sheet_107 ?_
              refine cx_iconst (pc := 108) dX11_sheet_108 ?_
              refine cx_stI (pc := 109) hE r139 (inR_w32 _) dX11_sheet_109 H (fun m109 H => ?_)
              refine cx_iinc (pc := 110) [(4, iv (w32 (v4_90 + 1))), (0, .ref 100), (1, iv p1)] dX11_sheet_110 rfl rfl (by decide) ?_
              refine aw_goto (pc := 113) 90 dX11_sheet_113 rfl ?_
              exact AW.sel [1, 2, 0] rfl (ih90 _ _ (inR_w32 _) H)
            · -- 94: 116
              refine cx_iconst (pc := 116) dX11_sheet_116 ?_
              exact cx_iret (pc := 117) (inR_lit _ rfl) rfl (Nat.le_of_ble_eq_true rfl) (Nat.le_of_ble_eq_true rfl) dX11_sheet_117 H
          refine cx_if_ne (pc := 78) 85 hp2 dX11_sheet_78 rfl H (fun H => ?_) (fun H => ?_)
          · -- 78: 81
            refine cx_iconst (pc := 81) dX11_sheet_81 ?_
            refine aw_goto (pc := 82) 86 dX11_sheet_82 rfl ?_
            exact AW.sel [0, 1] rfl (hj86 _ _ (inR_lit _ rfl) H)
          · -- 78: 85
            refine aw_iload_n (pc := 85) dX11_sheet_85 rfl ?_
            exact AW.sel [0, 1] rfl (hj86 _ _ hp3 H)
        refine cx_if_eq (pc := 50) 65 hp2 dX11_sheet_50 rfl H (fun H => ?_) (fun H => ?_)
        · -- 50: 65
          exact AW.sel [0, 1, 2, 3] rfl (hj65 _ H)
        · -- 50: 53
          refine aw_iload_n (pc := 53) dX11_sheet_53 rfl ?_
          refine cx_bipush (pc := 54) dX11_sheet_54 (by decide) ?_
          refine cx_icmp_le (pc := 56) 65 hp3 (inR_lit _ rfl) dX11_sheet_56 rfl H (fun H => ?_) (fun H => ?_)
          · -- 56: 59
            refine aw_aload_n (pc := 59) dX11_sheet_59 rfl ?_
            refine cx_iconst (pc := 60) dX11_sheet_60 ?_
            refine cx_callV (pc := 61) (P := pI) (dC := 0) (mcC := 0) (msC := 0) [iv 1] hE r100 (fun r1 H1 => s_X11_no l sc E R hE hR n 1 (inR_lit _ rfl) m49 r1 H1) ca_X11_300 rfl ⟨_, rfl, rfl⟩ rfl rfl (Nat.le_of_ble_eq_true rfl) (Nat.le_of_ble_eq_true rfl) (Nat.le_of_ble_eq_true rfl) (Nat.le_of_ble_eq_true rfl) dX11_sheet_61 H (fun x61 m61 v61 hh61 H hp => ?_)
            refine cx_backI hp (fun hx61 => ?_)
            exact cx_iret (pc := 64) hx61 rfl (Nat.le_of_ble_eq_true rfl) (Nat.le_of_ble_eq_true rfl) dX11_sheet_64 H
          · -- 56: 65
            exact AW.sel [0, 1, 2, 3] rfl (hj65 _ H)
      refine cx_if_eq (pc := 36) 49 hp2 dX11_sheet_36 rfl H (fun H => ?_) (fun H => ?_)
      · -- 36: 49
        exact AW.sel [0, 1, 2, 3] rfl (hj49 _ H)
      · -- 36: 39
        refine aw_iload_n (pc := 39) dX11_sheet_39 rfl ?_
        refine cx_if_ge (pc := 40) 49 hp3 dX11_sheet_40 rfl H (fun H => ?_) (fun H => ?_)
        · -- 40: 43
          refine aw_aload_n (pc := 43) dX11_sheet_43 rfl ?_
          refine cx_iconst (pc := 44) dX11_sheet_44 ?_
          refine cx_callV (pc := 45) (P := pI) (dC := 0) (mcC := 0) (msC := 0) [iv 3] hE r100 (fun r1 H1 => s_X11_no l sc E R hE hR n 3 (inR_lit _ rfl) m35 r1 H1) ca_X11_300 rfl ⟨_, rfl, rfl⟩ rfl rfl (Nat.le_of_ble_eq_true rfl) (Nat.le_of_ble_eq_true rfl) (Nat.le_of_ble_eq_true rfl) (Nat.le_of_ble_eq_true rfl) dX11_sheet_45 H (fun x45 m45 v45 hh45 H hp => ?_)
          refine cx_backI hp (fun hx45 => ?_)
          exact cx_iret (pc := 48) hx45 rfl (Nat.le_of_ble_eq_true rfl) (Nat.le_of_ble_eq_true rfl) dX11_sheet_48 H
        · -- 40: 49
          exact AW.sel [0, 1, 2, 3] rfl (hj49 _ H)
    refine cx_if_eq (pc := 8) 35 hp2 dX11_sheet_8 rfl H (fun H => ?_) (fun H => ?_)
    · -- 8: 35
      exact AW.sel [0, 1, 2, 3] rfl (hj35 _ H)
    · -- 8: 11
      refine aw_iload_n (pc := 11) dX11_sheet_11 rfl ?_
      refine cx_bipush (pc := 12) dX11_sheet_12 (by decide) ?_
      refine cx_icmp_eq (pc := 14) 35 hp2 (inR_lit _ rfl) dX11_sheet_14 rfl H (fun H => ?_) (fun H => ?_)
      · -- 14: 35
        exact AW.sel [0, 1, 2, 3] rfl (hj35 _ H)
      · -- 14: 17
        refine aw_iload_n (pc := 17) dX11_sheet_17 rfl ?_
        refine cx_bipush (pc := 18) dX11_sheet_18 (by decide) ?_
        refine cx_icmp_eq (pc := 20) 35 hp2 (inR_lit _ rfl) dX11_sheet_20 rfl H (fun H => ?_) (fun H => ?_)
        · -- 20: 35
          exact AW.sel [0, 1, 2, 3] rfl (hj35 _ H)
        · -- 20: 23
          refine aw_iload_n (pc := 23) dX11_sheet_23 rfl ?_
          refine cx_bipush (pc := 24) dX11_sheet_24 (by decide) ?_
          refine cx_icmp_eq (pc := 26) 35 hp2 (inR_lit _ rfl) dX11_sheet_26 rfl H (fun H => ?_) (fun H => ?_)
          · -- 26: 35
            exact AW.sel [0, 1, 2, 3] rfl (hj35 _ H)
          · -- 26: 29
            exact AW.sel [0] rfl (hj29 _ H)
/-- X11 wrongCell (II)I -/
def f_X11_wrongCell (n : Nat) (p1 : Int) (p2 : Int) (mi : Mem) : Option Rz :=
  cal (f_X11_isSheet n p1 mi) fun x1 m1 =>
  jn (fun (s0_46 : Int) (m46 : Mem) =>
    rt s0_46 m46
  ) fun (j46 : Int → Mem → Option Rz) =>
  if x1 = 0 then (
    j46 1 m1
  ) else
  ldI m1 137 p1 fun x16 =>
  if x16 = 0 then (
    j46 6 m1
  ) else
  ldI m1 138 p1 fun x32 =>
  cal (f_X11_in n p2 0 (w32 (x32 - 1)) m1) fun x35 m35 =>
  if x35 = 0 then (
    j46 1 m35
  ) else
  j46 0 m35
set_option maxRecDepth 100000 in
set_option maxHeartbeats 4000000 in
theorem s_X11_wrongCell (l : Launch) (sc : g_S) (E : Mem → g_H) (R : Nat → Prop) (hE : LE E R) (hR : RRF R) (n : Nat)  (p1 : Int) (p2 : Int) (hp1 : inR p1) (hp2 : inR p2) (mi : Mem) (r : Rz) (H : f_X11_wrongCell n p1 p2 mi = some r) : AMet l sc yX11_wrongCell cX11_wrongCell 3 (some FieldType.int) 2 0 0 [.ref 100, iv p1, iv p2] (E mi) (pI E r) := by
  have r100 : R 100 := hR 100 (Nat.le_of_ble_eq_true rfl) (Nat.le_of_ble_eq_true rfl)
  have r137 : R 137 := hR 137 (Nat.le_of_ble_eq_true rfl) (Nat.le_of_ble_eq_true rfl)
  have r138 : R 138 := hR 138 (Nat.le_of_ble_eq_true rfl) (Nat.le_of_ble_eq_true rfl)
  unfold f_X11_wrongCell at H
  refine AMet.of (own := RX11) (by decide +kernel) rfl (Nat.le_of_ble_eq_true rfl) [(0, .ref 100), (1, iv p1), (2, iv p2)] rfl (fun D base ad => ?_)
  refine aw_iload_n (pc := 0) dX11_wrongCell_0 rfl ?_
  refine cx_callS (pc := 1) (P := pI) (dC := 1) (mcC := 0) (msC := 0) [iv p1] (fun r1 H1 => s_X11_isSheet l sc E R hE hR n p1 hp1 mi r1 H1) ca_X11_383 rfl rfl (Nat.le_of_ble_eq_true rfl) (Nat.le_of_ble_eq_true rfl) (Nat.le_of_ble_eq_true rfl) (Nat.le_of_ble_eq_true rfl) dX11_wrongCell_1 H (fun x1 m1 v1 hh1 H hp => ?_)
  refine cx_backI hp (fun hx1 => ?_)
  refine jn_ind (fun (f9 : Int → Mem → Option Rz) => ∀ (s0_46 : Int) (m46 : Mem), inR s0_46 → f9 s0_46 m46 = some r → AW l D base sc RX11 yX11_wrongCell cX11_wrongCell 3 (some FieldType.int) 2 0 0 ad (E mi) (pI E r) 0 0 (E m46) 46 [] [iv s0_46]) (fun s0_46 m46 hs0_46 H => ?_) (fun j46 hj46 H => ?_) H
  · -- 46
    exact cx_iret (pc := 46) hs0_46 rfl (Nat.le_of_ble_eq_true rfl) (Nat.le_of_ble_eq_true rfl) dX11_wrongCell_46 H
  refine cx_if_ne (pc := 4) 11 hx1 dX11_wrongCell_4 rfl H (fun H => ?_) (fun H => ?_)
  · -- 4: 7
    refine cx_iconst (pc := 7) dX11_wrongCell_7 ?_
    refine aw_goto (pc := 8) 46 dX11_wrongCell_8 rfl ?_
    exact AW.sel [] rfl (hj46 _ _ (inR_lit _ rfl) H)
  · -- 4: 11
    refine aw_aload_n (pc := 11) dX11_wrongCell_11 rfl ?_
    refine cx_gtC (pc := 12) 137 hE r100 fl_X11_288 rfl rfl (Nat.le_of_ble_eq_true rfl) dX11_wrongCell_12 ?_
    refine aw_iload_n (pc := 15) dX11_wrongCell_15 rfl ?_
    refine cx_ldI (pc := 16) hE r137 hp1 dX11_wrongCell_16 H (fun x16 hx16 H => ?_)
    refine cx_if_ne (pc := 17) 25 hx16 dX11_wrongCell_17 rfl H (fun H => ?_) (fun H => ?_)
    · -- 17: 20
      refine cx_bipush (pc := 20) dX11_wrongCell_20 (by decide) ?_
      refine aw_goto (pc := 22) 46 dX11_wrongCell_22 rfl ?_
      exact AW.sel [] rfl (hj46 _ _ (inR_lit _ rfl) H)
    · -- 17: 25
      refine aw_iload_n (pc := 25) dX11_wrongCell_25 rfl ?_
      refine cx_iconst (pc := 26) dX11_wrongCell_26 ?_
      refine aw_aload_n (pc := 27) dX11_wrongCell_27 rfl ?_
      refine cx_gtC (pc := 28) 138 hE r100 fl_X11_291 rfl rfl (Nat.le_of_ble_eq_true rfl) dX11_wrongCell_28 ?_
      refine aw_iload_n (pc := 31) dX11_wrongCell_31 rfl ?_
      refine cx_ldI (pc := 32) hE r138 hp1 dX11_wrongCell_32 H (fun x32 hx32 H => ?_)
      refine cx_iconst (pc := 33) dX11_wrongCell_33 ?_
      refine cx_isub (pc := 34) dX11_wrongCell_34 ?_
      refine cx_callS (pc := 35) (P := pI) (dC := 0) (mcC := 0) (msC := 0) [iv p2, iv 0, iv (w32 (x32 - 1))] (fun r1 H1 => s_X11_in l sc E R hE hR n p2 0 (w32 (x32 - 1)) hp2 (inR_lit _ rfl) (inR_w32 _) m1 r1 H1) ca_X11_106 rfl rfl (Nat.le_of_ble_eq_true rfl) (Nat.le_of_ble_eq_true rfl) (Nat.le_of_ble_eq_true rfl) (Nat.le_of_ble_eq_true rfl) dX11_wrongCell_35 H (fun x35 m35 v35 hh35 H hp => ?_)
      refine cx_backI hp (fun hx35 => ?_)
      refine cx_if_eq (pc := 38) 45 hx35 dX11_wrongCell_38 rfl H (fun H => ?_) (fun H => ?_)
      · -- 38: 45
        refine cx_iconst (pc := 45) dX11_wrongCell_45 ?_
        exact AW.sel [] rfl (hj46 _ _ (inR_lit _ rfl) H)
      · -- 38: 41
        refine cx_iconst (pc := 41) dX11_wrongCell_41 ?_
        refine aw_goto (pc := 42) 46 dX11_wrongCell_42 rfl ?_
        exact AW.sel [] rfl (hj46 _ _ (inR_lit _ rfl) H)
/-- X11 put (III)I -/
def f_X11_put (n : Nat) (p1 : Int) (p2 : Int) (p3 : Int) (mi : Mem) : Option Rz :=
  cal (f_X11_wrongCell n p1 p2 mi) fun x3 m3 =>
  if x3 = 0 then (
    ldI m3 137 p1 fun x35 =>
    jn (fun (s0_63 : Int) (m63 : Mem) =>
      stI m63 139 (w32 ((w32 (24 * p1)) + p2)) s0_63 fun m63 =>
      rt 1 m63
    ) fun (j63 : Int → Mem → Option Rz) =>
    if x35 = 8 then (
      j63 (i8 p3) m3
    ) else
    ldI m3 137 p1 fun x51 =>
    if x51 = 16 then (
      j63 (i16 p3) m3
    ) else
    j63 p3 m3
  ) else
  cal (f_X11_no n x3 m3) fun x16 m16 =>
  rt x16 m16
set_option maxRecDepth 100000 in
set_option maxHeartbeats 4000000 in
theorem s_X11_put (l : Launch) (sc : g_S) (E : Mem → g_H) (R : Nat → Prop) (hE : LE E R) (hR : RRF R) (n : Nat)  (p1 : Int) (p2 : Int) (p3 : Int) (hp1 : inR p1) (hp2 : inR p2) (hp3 : inR p3) (mi : Mem) (r : Rz) (H : f_X11_put n p1 p2 p3 mi = some r) : AMet l sc yX11_put cX11_put 5 (some FieldType.int) 3 0 0 [.ref 100, iv p1, iv p2, iv p3] (E mi) (pI E r) := by
  have r100 : R 100 := hR 100 (Nat.le_of_ble_eq_true rfl) (Nat.le_of_ble_eq_true rfl)
  have r137 : R 137 := hR 137 (Nat.le_of_ble_eq_true rfl) (Nat.le_of_ble_eq_true rfl)
  have r139 : R 139 := hR 139 (Nat.le_of_ble_eq_true rfl) (Nat.le_of_ble_eq_true rfl)
  unfold f_X11_put at H
  refine AMet.of (own := RX11) (by decide +kernel) rfl (Nat.le_of_ble_eq_true rfl) [(0, .ref 100), (1, iv p1), (2, iv p2), (3, iv p3)] rfl (fun D base ad => ?_)
  refine aw_aload_n (pc := 0) dX11_put_0 rfl ?_
  refine aw_iload_n (pc := 1) dX11_put_1 rfl ?_
  refine aw_iload_n (pc := 2) dX11_put_2 rfl ?_
  refine cx_callV (pc := 3) (P := pI) (dC := 2) (mcC := 0) (msC := 0) [iv p1, iv p2] hE r100 (fun r1 H1 => s_X11_wrongCell l sc E R hE hR n p1 p2 hp1 hp2 mi r1 H1) ca_X11_472 rfl ⟨_, rfl, rfl⟩ rfl rfl (Nat.le_of_ble_eq_true rfl) (Nat.le_of_ble_eq_true rfl) (Nat.le_of_ble_eq_true rfl) (Nat.le_of_ble_eq_true rfl) dX11_put_3 H (fun x3 m3 v3 hh3 H hp => ?_)
  refine cx_backI hp (fun hx3 => ?_)
  refine aw_istore (pc := 6) [(4, iv x3), (0, .ref 100), (1, iv p1), (2, iv p2), (3, iv p3)] dX11_put_6 rfl (by decide) ?_
  refine aw_iload (pc := 8) dX11_put_8 rfl ?_
  refine cx_if_eq (pc := 10) 20 hx3 dX11_put_10 rfl H (fun H => ?_) (fun H => ?_)
  · -- 10: 20
    refine aw_aload_n (pc := 20) dX11_put_20 rfl ?_
    refine cx_gtC (pc := 21) 139 hE r100 fl_X11_294 rfl rfl (Nat.le_of_ble_eq_true rfl) dX11_put_21 ?_
    refine cx_bipush (pc := 24) dX11_put_24 (by decide) ?_
    refine aw_iload_n (pc := 26) dX11_put_26 rfl ?_
    refine cx_imul (pc := 27) dX11_put_27 ?_
    refine aw_iload_n (pc := 28) dX11_put_28 rfl ?_
    refine cx_iadd (pc := 29) dX11_put_29 ?_
    refine aw_aload_n (pc := 30) dX11_put_30 rfl ?_
    refine cx_gtC (pc := 31) 137 hE r100 fl_X11_288 rfl rfl (Nat.le_of_ble_eq_true rfl) dX11_put_31 ?_
    refine aw_iload_n (pc := 34) dX11_put_34 rfl ?_
    refine cx_ldI (pc := 35) hE r137 hp1 dX11_put_35 H (fun x35 hx35 H => ?_)
    refine cx_bipush (pc := 36) dX11_put_36 (by decide) ?_
    refine jn_ind (fun (f9 : Int → Mem → Option Rz) => ∀ (s0_63 : Int) (m63 : Mem), inR s0_63 → f9 s0_63 m63 = some r → AW l D base sc RX11 yX11_put cX11_put 5 (some FieldType.int) 3 0 0 ad (E mi) (pI E r) 0 0 (E m63) 63 [] [iv s0_63, iv (w32 ((w32 (24 * p1)) + p2)), .ref 139]) (fun s0_63 m63 hs0_63 H => ?_) (fun j63 hj63 H => ?_) H
    · -- 63
      refine cx_stI (pc := 63) hE r139 (inR_w32 _) dX11_put_63 H (fun m63 H => ?_)
      refine cx_iconst (pc := 64) dX11_put_64 ?_
      exact cx_iret (pc := 65) (inR_lit _ rfl) rfl (Nat.le_of_ble_eq_true rfl) (Nat.le_of_ble_eq_true rfl) dX11_put_65 H
    refine cx_icmp_ne (pc := 38) 46 hx35 (inR_lit _ rfl) dX11_put_38 rfl H (fun H => ?_) (fun H => ?_)
    · -- 38: 41
      refine aw_iload_n (pc := 41) dX11_put_41 rfl ?_
      refine cx_i2b (pc := 42) dX11_put_42 ?_
      refine aw_goto (pc := 43) 63 dX11_put_43 rfl ?_
      exact AW.sel [] rfl (hj63 _ _ (inR_32 _) H)
    · -- 38: 46
      refine aw_aload_n (pc := 46) dX11_put_46 rfl ?_
      refine cx_gtC (pc := 47) 137 hE r100 fl_X11_288 rfl rfl (Nat.le_of_ble_eq_true rfl) dX11_put_47 ?_
      refine aw_iload_n (pc := 50) dX11_put_50 rfl ?_
      refine cx_ldI (pc := 51) hE r137 hp1 dX11_put_51 H (fun x51 hx51 H => ?_)
      refine cx_bipush (pc := 52) dX11_put_52 (by decide) ?_
      refine cx_icmp_ne (pc := 54) 62 hx51 (inR_lit _ rfl) dX11_put_54 rfl H (fun H => ?_) (fun H => ?_)
      · -- 54: 57
        refine aw_iload_n (pc := 57) dX11_put_57 rfl ?_
        refine cx_i2s (pc := 58) dX11_put_58 ?_
        refine aw_goto (pc := 59) 63 dX11_put_59 rfl ?_
        exact AW.sel [] rfl (hj63 _ _ (inR_32 _) H)
      · -- 54: 62
        refine aw_iload_n (pc := 62) dX11_put_62 rfl ?_
        exact AW.sel [] rfl (hj63 _ _ hp3 H)
  · -- 10: 13
    refine aw_aload_n (pc := 13) dX11_put_13 rfl ?_
    refine aw_iload (pc := 14) dX11_put_14 rfl ?_
    refine cx_callV (pc := 16) (P := pI) (dC := 0) (mcC := 0) (msC := 0) [iv x3] hE r100 (fun r1 H1 => s_X11_no l sc E R hE hR n x3 hx3 m3 r1 H1) ca_X11_300 rfl ⟨_, rfl, rfl⟩ rfl rfl (Nat.le_of_ble_eq_true rfl) (Nat.le_of_ble_eq_true rfl) (Nat.le_of_ble_eq_true rfl) (Nat.le_of_ble_eq_true rfl) dX11_put_16 H (fun x16 m16 v16 hh16 H hp => ?_)
    refine cx_backI hp (fun hx16 => ?_)
    exact cx_iret (pc := 19) hx16 rfl (Nat.le_of_ble_eq_true rfl) (Nat.le_of_ble_eq_true rfl) dX11_put_19 H
/-- X11 at (II)I -/
def f_X11_at (n : Nat) (p1 : Int) (p2 : Int) (mi : Mem) : Option Rz :=
  cal (f_X11_wrongCell n p1 p2 mi) fun x3 m3 =>
  jn (fun (s0_30 : Int) (m30 : Mem) =>
    rt s0_30 m30
  ) fun (j30 : Int → Mem → Option Rz) =>
  if x3 = 0 then (
    ldI m3 139 (w32 ((w32 (24 * p1)) + p2)) fun x29 =>
    j30 x29 m3
  ) else
  cal (f_X11_no n x3 m3) fun x13 m13 =>
  j30 x13 m13
set_option maxRecDepth 100000 in
set_option maxHeartbeats 4000000 in
theorem s_X11_at (l : Launch) (sc : g_S) (E : Mem → g_H) (R : Nat → Prop) (hE : LE E R) (hR : RRF R) (n : Nat)  (p1 : Int) (p2 : Int) (hp1 : inR p1) (hp2 : inR p2) (mi : Mem) (r : Rz) (H : f_X11_at n p1 p2 mi = some r) : AMet l sc yX11_at cX11_at 4 (some FieldType.int) 3 0 0 [.ref 100, iv p1, iv p2] (E mi) (pI E r) := by
  have r100 : R 100 := hR 100 (Nat.le_of_ble_eq_true rfl) (Nat.le_of_ble_eq_true rfl)
  have r139 : R 139 := hR 139 (Nat.le_of_ble_eq_true rfl) (Nat.le_of_ble_eq_true rfl)
  unfold f_X11_at at H
  refine AMet.of (own := RX11) (by decide +kernel) rfl (Nat.le_of_ble_eq_true rfl) [(0, .ref 100), (1, iv p1), (2, iv p2)] rfl (fun D base ad => ?_)
  refine aw_aload_n (pc := 0) dX11_at_0 rfl ?_
  refine aw_iload_n (pc := 1) dX11_at_1 rfl ?_
  refine aw_iload_n (pc := 2) dX11_at_2 rfl ?_
  refine cx_callV (pc := 3) (P := pI) (dC := 2) (mcC := 0) (msC := 0) [iv p1, iv p2] hE r100 (fun r1 H1 => s_X11_wrongCell l sc E R hE hR n p1 p2 hp1 hp2 mi r1 H1) ca_X11_472 rfl ⟨_, rfl, rfl⟩ rfl rfl (Nat.le_of_ble_eq_true rfl) (Nat.le_of_ble_eq_true rfl) (Nat.le_of_ble_eq_true rfl) (Nat.le_of_ble_eq_true rfl) dX11_at_3 H (fun x3 m3 v3 hh3 H hp => ?_)
  refine cx_backI hp (fun hx3 => ?_)
  refine aw_istore_n (pc := 6) [(3, iv x3), (0, .ref 100), (1, iv p1), (2, iv p2)] dX11_at_6 rfl (by decide) ?_
  refine aw_iload_n (pc := 7) dX11_at_7 rfl ?_
  refine jn_ind (fun (f9 : Int → Mem → Option Rz) => ∀ (s0_30 : Int) (m30 : Mem), inR s0_30 → f9 s0_30 m30 = some r → AW l D base sc RX11 yX11_at cX11_at 4 (some FieldType.int) 3 0 0 ad (E mi) (pI E r) 0 0 (E m30) 30 [] [iv s0_30]) (fun s0_30 m30 hs0_30 H => ?_) (fun j30 hj30 H => ?_) H
  · -- 30
    exact cx_iret (pc := 30) hs0_30 rfl (Nat.le_of_ble_eq_true rfl) (Nat.le_of_ble_eq_true rfl) dX11_at_30 H
  refine cx_if_eq (pc := 8) 19 hx3 dX11_at_8 rfl H (fun H => ?_) (fun H => ?_)
  · -- 8: 19
    refine aw_aload_n (pc := 19) dX11_at_19 rfl ?_
    refine cx_gtC (pc := 20) 139 hE r100 fl_X11_294 rfl rfl (Nat.le_of_ble_eq_true rfl) dX11_at_20 ?_
    refine cx_bipush (pc := 23) dX11_at_23 (by decide) ?_
    refine aw_iload_n (pc := 25) dX11_at_25 rfl ?_
    refine cx_imul (pc := 26) dX11_at_26 ?_
    refine aw_iload_n (pc := 27) dX11_at_27 rfl ?_
    refine cx_iadd (pc := 28) dX11_at_28 ?_
    refine cx_ldI (pc := 29) hE r139 (inR_w32 _) dX11_at_29 H (fun x29 hx29 H => ?_)
    exact AW.sel [] rfl (hj30 _ _ hx29 H)
  · -- 8: 11
    refine aw_aload_n (pc := 11) dX11_at_11 rfl ?_
    refine aw_iload_n (pc := 12) dX11_at_12 rfl ?_
    refine cx_callV (pc := 13) (P := pI) (dC := 0) (mcC := 0) (msC := 0) [iv x3] hE r100 (fun r1 H1 => s_X11_no l sc E R hE hR n x3 hx3 m3 r1 H1) ca_X11_300 rfl ⟨_, rfl, rfl⟩ rfl rfl (Nat.le_of_ble_eq_true rfl) (Nat.le_of_ble_eq_true rfl) (Nat.le_of_ble_eq_true rfl) (Nat.le_of_ble_eq_true rfl) dX11_at_13 H (fun x13 m13 v13 hh13 H hp => ?_)
    refine cx_backI hp (fun hx13 => ?_)
    refine aw_goto (pc := 16) 30 dX11_at_16 rfl ?_
    exact AW.sel [] rfl (hj30 _ _ hx13 H)
/-- X11 copy (IIIII)I -/
def f_X11_copy (n : Nat) (p1 : Int) (p2 : Int) (p3 : Int) (p4 : Int) (p5 : Int) (mi : Mem) : Option Rz :=
  cal (f_X11_isSheet n p1 mi) fun x1 m1 =>
  jn (fun (m14 : Mem) =>
    cal (f_X11_no n 1 m14) fun x16 m16 =>
    rt x16 m16
  ) fun (j14 : Mem → Option Rz) =>
  if x1 = 0 then (
    j14 m1
  ) else
  cal (f_X11_isSheet n p3 m1) fun x8 m8 =>
  if x8 = 0 then (
    j14 m8
  ) else
  ldI m8 137 p1 fun x25 =>
  jn (fun (m38 : Mem) =>
    cal (f_X11_no n 6 m38) fun x41 m41 =>
    rt x41 m41
  ) fun (j38 : Mem → Option Rz) =>
  if x25 = 0 then (
    j38 m8
  ) else
  ldI m8 137 p3 fun x34 =>
  if x34 = 0 then (
    j38 m8
  ) else
  ldI m8 137 p1 fun x50 =>
  ldI m8 137 p3 fun x56 =>
  if x50 = x56 then (
    jn (fun (m107 : Mem) =>
      cal (f_X11_no n 1 m107) fun x109 m109 =>
      rt x109 m109
    ) fun (j107 : Mem → Option Rz) =>
    if p5 < 0 then (
      j107 m8
    ) else
    if p2 < 0 then (
      j107 m8
    ) else
    if p4 < 0 then (
      j107 m8
    ) else
    ldI m8 138 p1 fun x87 =>
    if w32 (x87 - p2) < p5 then (
      j107 m8
    ) else
    ldI m8 138 p3 fun x100 =>
    if w32 (x100 - p4) < p5 then (
      j107 m8
    ) else
    lp (F := Int → Mem → Option Rz) (fun _ _ => none) (fun w116 v6_116 m116 =>
      if v6_116 < p5 then (
        jn (fun (s0_141 : Int) (m141 : Mem) =>
          ldI m141 139 (w32 ((w32 ((w32 (24 * p1)) + p2)) + s0_141)) fun x170 =>
          stI m141 139 (w32 ((w32 ((w32 (24 * p3)) + p4)) + s0_141)) x170 fun m171 =>
          w116 (w32 (v6_116 + 1)) m171
        ) fun (j141 : Int → Mem → Option Rz) =>
        if p2 < p4 then (
          j141 (w32 ((w32 (p5 - 1)) - v6_116)) m116
        ) else
        j141 v6_116 m116
      ) else
      rt p5 m116
    ) n 0 m8
  ) else
  cal (f_X11_no n 5 m8) fun x62 m62 =>
  rt x62 m62
set_option maxRecDepth 100000 in
set_option maxHeartbeats 4000000 in
theorem s_X11_copy (l : Launch) (sc : g_S) (E : Mem → g_H) (R : Nat → Prop) (hE : LE E R) (hR : RRF R) (n : Nat)  (p1 : Int) (p2 : Int) (p3 : Int) (p4 : Int) (p5 : Int) (hp1 : inR p1) (hp2 : inR p2) (hp3 : inR p3) (hp4 : inR p4) (hp5 : inR p5) (mi : Mem) (r : Rz) (H : f_X11_copy n p1 p2 p3 p4 p5 mi = some r) : AMet l sc yX11_copy cX11_copy 8 (some FieldType.int) 2 0 0 [.ref 100, iv p1, iv p2, iv p3, iv p4, iv p5] (E mi) (pI E r) := by
  have r100 : R 100 := hR 100 (Nat.le_of_ble_eq_true rfl) (Nat.le_of_ble_eq_true rfl)
  have r137 : R 137 := hR 137 (Nat.le_of_ble_eq_true rfl) (Nat.le_of_ble_eq_true rfl)
  have r138 : R 138 := hR 138 (Nat.le_of_ble_eq_true rfl) (Nat.le_of_ble_eq_true rfl)
  have r139 : R 139 := hR 139 (Nat.le_of_ble_eq_true rfl) (Nat.le_of_ble_eq_true rfl)
  unfold f_X11_copy at H
  refine AMet.of (own := RX11) (by decide +kernel) rfl (Nat.le_of_ble_eq_true rfl) [(0, .ref 100), (1, iv p1), (2, iv p2), (3, iv p3), (4, iv p4), (5, iv p5)] rfl (fun D base ad => ?_)
  refine aw_iload_n (pc := 0) dX11_copy_0 rfl ?_
  refine cx_callS (pc := 1) (P := pI) (dC := 1) (mcC := 0) (msC := 0) [iv p1] (fun r1 H1 => s_X11_isSheet l sc E R hE hR n p1 hp1 mi r1 H1) ca_X11_383 rfl rfl (Nat.le_of_ble_eq_true rfl) (Nat.le_of_ble_eq_true rfl) (Nat.le_of_ble_eq_true rfl) (Nat.le_of_ble_eq_true rfl) dX11_copy_1 H (fun x1 m1 v1 hh1 H hp => ?_)
  refine cx_backI hp (fun hx1 => ?_)
  refine jn_ind (fun (f9 : Mem → Option Rz) => ∀ (m14 : Mem), f9 m14 = some r → AW l D base sc RX11 yX11_copy cX11_copy 8 (some FieldType.int) 2 0 0 ad (E mi) (pI E r) 0 0 (E m14) 14 [(0, .ref 100)] []) (fun m14 H => ?_) (fun j14 hj14 H => ?_) H
  · -- 14
    refine aw_aload_n (pc := 14) dX11_copy_14 rfl ?_
    refine cx_iconst (pc := 15) dX11_copy_15 ?_
    refine cx_callV (pc := 16) (P := pI) (dC := 0) (mcC := 0) (msC := 0) [iv 1] hE r100 (fun r1 H1 => s_X11_no l sc E R hE hR n 1 (inR_lit _ rfl) m14 r1 H1) ca_X11_300 rfl ⟨_, rfl, rfl⟩ rfl rfl (Nat.le_of_ble_eq_true rfl) (Nat.le_of_ble_eq_true rfl) (Nat.le_of_ble_eq_true rfl) (Nat.le_of_ble_eq_true rfl) dX11_copy_16 H (fun x16 m16 v16 hh16 H hp => ?_)
    refine cx_backI hp (fun hx16 => ?_)
    exact cx_iret (pc := 19) hx16 rfl (Nat.le_of_ble_eq_true rfl) (Nat.le_of_ble_eq_true rfl) dX11_copy_19 H
  refine cx_if_eq (pc := 4) 14 hx1 dX11_copy_4 rfl H (fun H => ?_) (fun H => ?_)
  · -- 4: 14
    exact AW.sel [0] rfl (hj14 _ H)
  · -- 4: 7
    refine aw_iload_n (pc := 7) dX11_copy_7 rfl ?_
    refine cx_callS (pc := 8) (P := pI) (dC := 1) (mcC := 0) (msC := 0) [iv p3] (fun r1 H1 => s_X11_isSheet l sc E R hE hR n p3 hp3 m1 r1 H1) ca_X11_383 rfl rfl (Nat.le_of_ble_eq_true rfl) (Nat.le_of_ble_eq_true rfl) (Nat.le_of_ble_eq_true rfl) (Nat.le_of_ble_eq_true rfl) dX11_copy_8 H (fun x8 m8 v8 hh8 H hp => ?_)
    refine cx_backI hp (fun hx8 => ?_)
    refine cx_if_ne (pc := 11) 20 hx8 dX11_copy_11 rfl H (fun H => ?_) (fun H => ?_)
    · -- 11: 14
      exact AW.sel [0] rfl (hj14 _ H)
    · -- 11: 20
      refine aw_aload_n (pc := 20) dX11_copy_20 rfl ?_
      refine cx_gtC (pc := 21) 137 hE r100 fl_X11_288 rfl rfl (Nat.le_of_ble_eq_true rfl) dX11_copy_21 ?_
      refine aw_iload_n (pc := 24) dX11_copy_24 rfl ?_
      refine cx_ldI (pc := 25) hE r137 hp1 dX11_copy_25 H (fun x25 hx25 H => ?_)
      refine jn_ind (fun (f9 : Mem → Option Rz) => ∀ (m38 : Mem), f9 m38 = some r → AW l D base sc RX11 yX11_copy cX11_copy 8 (some FieldType.int) 2 0 0 ad (E mi) (pI E r) 0 0 (E m38) 38 [(0, .ref 100)] []) (fun m38 H => ?_) (fun j38 hj38 H => ?_) H
      · -- 38
        refine aw_aload_n (pc := 38) dX11_copy_38 rfl ?_
        refine cx_bipush (pc := 39) dX11_copy_39 (by decide) ?_
        refine cx_callV (pc := 41) (P := pI) (dC := 0) (mcC := 0) (msC := 0) [iv 6] hE r100 (fun r1 H1 => s_X11_no l sc E R hE hR n 6 (inR_lit _ rfl) m38 r1 H1) ca_X11_300 rfl ⟨_, rfl, rfl⟩ rfl rfl (Nat.le_of_ble_eq_true rfl) (Nat.le_of_ble_eq_true rfl) (Nat.le_of_ble_eq_true rfl) (Nat.le_of_ble_eq_true rfl) dX11_copy_41 H (fun x41 m41 v41 hh41 H hp => ?_)
        refine cx_backI hp (fun hx41 => ?_)
        exact cx_iret (pc := 44) hx41 rfl (Nat.le_of_ble_eq_true rfl) (Nat.le_of_ble_eq_true rfl) dX11_copy_44 H
      refine cx_if_eq (pc := 26) 38 hx25 dX11_copy_26 rfl H (fun H => ?_) (fun H => ?_)
      · -- 26: 38
        exact AW.sel [0] rfl (hj38 _ H)
      · -- 26: 29
        refine aw_aload_n (pc := 29) dX11_copy_29 rfl ?_
        refine cx_gtC (pc := 30) 137 hE r100 fl_X11_288 rfl rfl (Nat.le_of_ble_eq_true rfl) dX11_copy_30 ?_
        refine aw_iload_n (pc := 33) dX11_copy_33 rfl ?_
        refine cx_ldI (pc := 34) hE r137 hp3 dX11_copy_34 H (fun x34 hx34 H => ?_)
        refine cx_if_ne (pc := 35) 45 hx34 dX11_copy_35 rfl H (fun H => ?_) (fun H => ?_)
        · -- 35: 38
          exact AW.sel [0] rfl (hj38 _ H)
        · -- 35: 45
          refine aw_aload_n (pc := 45) dX11_copy_45 rfl ?_
          refine cx_gtC (pc := 46) 137 hE r100 fl_X11_288 rfl rfl (Nat.le_of_ble_eq_true rfl) dX11_copy_46 ?_
          refine aw_iload_n (pc := 49) dX11_copy_49 rfl ?_
          refine cx_ldI (pc := 50) hE r137 hp1 dX11_copy_50 H (fun x50 hx50 H => ?_)
          refine aw_aload_n (pc := 51) dX11_copy_51 rfl ?_
          refine cx_gtC (pc := 52) 137 hE r100 fl_X11_288 rfl rfl (Nat.le_of_ble_eq_true rfl) dX11_copy_52 ?_
          refine aw_iload_n (pc := 55) dX11_copy_55 rfl ?_
          refine cx_ldI (pc := 56) hE r137 hp3 dX11_copy_56 H (fun x56 hx56 H => ?_)
          refine cx_icmp_eq (pc := 57) 66 hx50 hx56 dX11_copy_57 rfl H (fun H => ?_) (fun H => ?_)
          · -- 57: 66
            refine aw_iload (pc := 66) dX11_copy_66 rfl ?_
            refine jn_ind (fun (f9 : Mem → Option Rz) => ∀ (m107 : Mem), f9 m107 = some r → AW l D base sc RX11 yX11_copy cX11_copy 8 (some FieldType.int) 2 0 0 ad (E mi) (pI E r) 0 0 (E m107) 107 [(0, .ref 100)] []) (fun m107 H => ?_) (fun j107 hj107 H => ?_) H
            · -- 107
              refine aw_aload_n (pc := 107) dX11_copy_107 rfl ?_
              refine cx_iconst (pc := 108) dX11_copy_108 ?_
              refine cx_callV (pc := 109) (P := pI) (dC := 0) (mcC := 0) (msC := 0) [iv 1] hE r100 (fun r1 H1 => s_X11_no l sc E R hE hR n 1 (inR_lit _ rfl) m107 r1 H1) ca_X11_300 rfl ⟨_, rfl, rfl⟩ rfl rfl (Nat.le_of_ble_eq_true rfl) (Nat.le_of_ble_eq_true rfl) (Nat.le_of_ble_eq_true rfl) (Nat.le_of_ble_eq_true rfl) dX11_copy_109 H (fun x109 m109 v109 hh109 H hp => ?_)
              refine cx_backI hp (fun hx109 => ?_)
              exact cx_iret (pc := 112) hx109 rfl (Nat.le_of_ble_eq_true rfl) (Nat.le_of_ble_eq_true rfl) dX11_copy_112 H
            refine cx_if_lt (pc := 68) 107 hp5 dX11_copy_68 rfl H (fun H => ?_) (fun H => ?_)
            · -- 68: 107
              exact AW.sel [0] rfl (hj107 _ H)
            · -- 68: 71
              refine aw_iload_n (pc := 71) dX11_copy_71 rfl ?_
              refine cx_if_lt (pc := 72) 107 hp2 dX11_copy_72 rfl H (fun H => ?_) (fun H => ?_)
              · -- 72: 107
                exact AW.sel [0] rfl (hj107 _ H)
              · -- 72: 75
                refine aw_iload (pc := 75) dX11_copy_75 rfl ?_
                refine cx_if_lt (pc := 77) 107 hp4 dX11_copy_77 rfl H (fun H => ?_) (fun H => ?_)
                · -- 77: 107
                  exact AW.sel [0] rfl (hj107 _ H)
                · -- 77: 80
                  refine aw_iload (pc := 80) dX11_copy_80 rfl ?_
                  refine aw_aload_n (pc := 82) dX11_copy_82 rfl ?_
                  refine cx_gtC (pc := 83) 138 hE r100 fl_X11_291 rfl rfl (Nat.le_of_ble_eq_true rfl) dX11_copy_83 ?_
                  refine aw_iload_n (pc := 86) dX11_copy_86 rfl ?_
                  refine cx_ldI (pc := 87) hE r138 hp1 dX11_copy_87 H (fun x87 hx87 H => ?_)
                  refine aw_iload_n (pc := 88) dX11_copy_88 rfl ?_
                  refine cx_isub (pc := 89) dX11_copy_89 ?_
                  refine cx_icmp_gt (pc := 90) 107 hp5 (inR_w32 _) dX11_copy_90 rfl H (fun H => ?_) (fun H => ?_)
                  · -- 90: 107
                    exact AW.sel [0] rfl (hj107 _ H)
                  · -- 90: 93
                    refine aw_iload (pc := 93) dX11_copy_93 rfl ?_
                    refine aw_aload_n (pc := 95) dX11_copy_95 rfl ?_
                    refine cx_gtC (pc := 96) 138 hE r100 fl_X11_291 rfl rfl (Nat.le_of_ble_eq_true rfl) dX11_copy_96 ?_
                    refine aw_iload_n (pc := 99) dX11_copy_99 rfl ?_
                    refine cx_ldI (pc := 100) hE r138 hp3 dX11_copy_100 H (fun x100 hx100 H => ?_)
                    refine aw_iload (pc := 101) dX11_copy_101 rfl ?_
                    refine cx_isub (pc := 103) dX11_copy_103 ?_
                    refine cx_icmp_le (pc := 104) 113 hp5 (inR_w32 _) dX11_copy_104 rfl H (fun H => ?_) (fun H => ?_)
                    · -- 104: 107
                      exact AW.sel [0] rfl (hj107 _ H)
                    · -- 104: 113
                      refine cx_iconst (pc := 113) dX11_copy_113 ?_
                      refine aw_istore (pc := 114) [(6, iv 0), (0, .ref 100), (1, iv p1), (2, iv p2), (3, iv p3), (4, iv p4), (5, iv p5)] dX11_copy_114 rfl (by decide) ?_
                      refine AW.sel [1, 2, 3, 4, 5, 6, 0] rfl (lp_ind (bot := fun _ _ => none) (fun (f9 : Int → Mem → Option Rz) => ∀ (v6_116 : Int) (m116 : Mem), inR v6_116 → f9 v6_116 m116 = some r → AW l D base sc RX11 yX11_copy cX11_copy 8 (some FieldType.int) 2 0 0 ad (E mi) (pI E r) 0 0 (E m116) 116 [(0, .ref 100), (1, iv p1), (2, iv p2), (3, iv p3), (4, iv p4), (5, iv p5), (6, iv v6_116)] []) (fun _ _ _ h9 => nomatch h9) (fun w116 ih116 v6_116 m116 hv6_116 H => ?_) n _ _ (inR_lit _ rfl) H)
                      refine aw_iload (pc := 116) dX11_copy_116 rfl ?_
                      refine aw_iload (pc := 118) dX11_copy_118 rfl ?_
                      refine cx_icmp_ge (pc := 120) 178 hv6_116 hp5 dX11_copy_120 rfl H (fun H => ?_) (fun H => ?_)
                      · -- 120: 123
                        refine aw_iload_n (pc := 123) dX11_copy_123 rfl ?_
                        refine aw_iload (pc := 124) dX11_copy_124 rfl ?_
                        refine jn_ind (fun (f9 : Int → Mem → Option Rz) => ∀ (s0_141 : Int) (m141 : Mem), inR s0_141 → f9 s0_141 m141 = some r → AW l D base sc RX11 yX11_copy cX11_copy 8 (some FieldType.int) 2 0 0 ad (E mi) (pI E r) 0 0 (E m141) 141 [(0, .ref 100), (1, iv p1), (2, iv p2), (3, iv p3), (4, iv p4), (5, iv p5), (6, iv v6_116)] [iv s0_141]) (fun s0_141 m141 hs0_141 H => ?_) (fun j141 hj141 H => ?_) H
                        · -- 141
                          refine aw_istore (pc := 141) [(7, iv s0_141), (0, .ref 100), (1, iv p1), (2, iv p2), (3, iv p3), (4, iv p4), (5, iv p5), (6, iv v6_116)] dX11_copy_141 rfl (by decide) ?_
                          refine aw_aload_n (pc := 143) dX11_copy_143 rfl ?_
                          refine cx_gtC (pc := 144) 139 hE r100 fl_X11_294 rfl rfl (Nat.le_of_ble_eq_true rfl) dX11_copy_144 ?_
                          refine cx_bipush (pc := 147) dX11_copy_147 (by decide) ?_
                          refine aw_iload_n (pc := 149) dX11_copy_149 rfl ?_
                          refine cx_imul (pc := 150) dX11_copy_150 ?_
                          refine aw_iload (pc := 151) dX11_copy_151 rfl ?_
                          refine cx_iadd (pc := 153) dX11_copy_153 ?_
                          refine aw_iload (pc := 154) dX11_copy_154 rfl ?_
                          refine cx_iadd (pc := 156) dX11_copy_156 ?_
                          refine aw_aload_n (pc := 157) dX11_copy_157 rfl ?_
                          refine cx_gtC (pc := 158) 139 hE r100 fl_X11_294 rfl rfl (Nat.le_of_ble_eq_true rfl) dX11_copy_158 ?_
                          refine cx_bipush (pc := 161) dX11_copy_161 (by decide) ?_
                          refine aw_iload_n (pc := 163) dX11_copy_163 rfl ?_
                          refine cx_imul (pc := 164) dX11_copy_164 ?_
                          refine aw_iload_n (pc := 165) dX11_copy_165 rfl ?_
                          refine cx_iadd (pc := 166) dX11_copy_166 ?_
                          refine aw_iload (pc := 167) dX11_copy_167 rfl ?_
                          refine cx_iadd (pc := 169) dX11_copy_169 ?_
                          refine cx_ldI (pc := 170) hE r139 (inR_w32 _) dX11_copy_170 H (fun x170 hx170 H => ?_)
                          refine cx_stI (pc := 171) hE r139 (inR_w32 _) dX11_copy_171 H (fun m171 H => ?_)
                          refine cx_iinc (pc := 172) [(6, iv (w32 (v6_116 + 1))), (7, iv s0_141), (0, .ref 100), (1, iv p1), (2, iv p2), (3, iv p3), (4, iv p4), (5, iv p5)] dX11_copy_172 rfl rfl (by decide) ?_
                          refine aw_goto (pc := 175) 116 dX11_copy_175 rfl ?_
                          exact AW.sel [2, 3, 4, 5, 6, 7, 0] rfl (ih116 _ _ (inR_w32 _) H)
                        refine cx_icmp_ge (pc := 126) 139 hp2 hp4 dX11_copy_126 rfl H (fun H => ?_) (fun H => ?_)
                        · -- 126: 129
                          refine aw_iload (pc := 129) dX11_copy_129 rfl ?_
                          refine cx_iconst (pc := 131) dX11_copy_131 ?_
                          refine cx_isub (pc := 132) dX11_copy_132 ?_
                          refine aw_iload (pc := 133) dX11_copy_133 rfl ?_
                          refine cx_isub (pc := 135) dX11_copy_135 ?_
                          refine aw_goto (pc := 136) 141 dX11_copy_136 rfl ?_
                          exact AW.sel [0, 1, 2, 3, 4, 5, 6] rfl (hj141 _ _ (inR_w32 _) H)
                        · -- 126: 139
                          refine aw_iload (pc := 139) dX11_copy_139 rfl ?_
                          exact AW.sel [0, 1, 2, 3, 4, 5, 6] rfl (hj141 _ _ hv6_116 H)
                      · -- 120: 178
                        refine aw_iload (pc := 178) dX11_copy_178 rfl ?_
                        exact cx_iret (pc := 180) hp5 rfl (Nat.le_of_ble_eq_true rfl) (Nat.le_of_ble_eq_true rfl) dX11_copy_180 H
          · -- 57: 60
            refine aw_aload_n (pc := 60) dX11_copy_60 rfl ?_
            refine cx_iconst (pc := 61) dX11_copy_61 ?_
            refine cx_callV (pc := 62) (P := pI) (dC := 0) (mcC := 0) (msC := 0) [iv 5] hE r100 (fun r1 H1 => s_X11_no l sc E R hE hR n 5 (inR_lit _ rfl) m8 r1 H1) ca_X11_300 rfl ⟨_, rfl, rfl⟩ rfl rfl (Nat.le_of_ble_eq_true rfl) (Nat.le_of_ble_eq_true rfl) (Nat.le_of_ble_eq_true rfl) (Nat.le_of_ble_eq_true rfl) dX11_copy_62 H (fun x62 m62 v62 hh62 H hp => ?_)
            refine cx_backI hp (fun hx62 => ?_)
            exact cx_iret (pc := 65) hx62 rfl (Nat.le_of_ble_eq_true rfl) (Nat.le_of_ble_eq_true rfl) dX11_copy_65 H
/-- X11 allWidths ()I -/
def f_X11_allWidths (n : Nat)  (mi : Mem) : Option Rz :=
  lp (F := Int → Int → Mem → Option Rz) (fun _ _ _ => none) (fun w4 v1_4 v2_4 m4 =>
    if v2_4 < 8 then (
      ldI m4 129 v2_4 fun x17 =>
      cal (f_X11_width n x17 m4) fun x18 m18 =>
      nm (w32 (v1_4 + x18)) fun z22 =>
      w4 z22 (w32 (v2_4 + 1)) m18
    ) else
    rt v1_4 m4
  ) n 0 0 mi
set_option maxRecDepth 100000 in
set_option maxHeartbeats 4000000 in
theorem s_X11_allWidths (l : Launch) (sc : g_S) (E : Mem → g_H) (R : Nat → Prop) (hE : LE E R) (hR : RRF R) (n : Nat)    (mi : Mem) (r : Rz) (H : f_X11_allWidths n  mi = some r) : AMet l sc yX11_allWidths cX11_allWidths 3 (some FieldType.int) 62 0 0 [.ref 100] (E mi) (pI E r) := by
  have r100 : R 100 := hR 100 (Nat.le_of_ble_eq_true rfl) (Nat.le_of_ble_eq_true rfl)
  have r129 : R 129 := hR 129 (Nat.le_of_ble_eq_true rfl) (Nat.le_of_ble_eq_true rfl)
  unfold f_X11_allWidths at H
  refine AMet.of (own := RX11) (by decide +kernel) rfl (Nat.le_of_ble_eq_true rfl) [(0, .ref 100)] rfl (fun D base ad => ?_)
  refine cx_iconst (pc := 0) dX11_allWidths_0 ?_
  refine aw_istore_n (pc := 1) [(1, iv 0), (0, .ref 100)] dX11_allWidths_1 rfl (by decide) ?_
  refine cx_iconst (pc := 2) dX11_allWidths_2 ?_
  refine aw_istore_n (pc := 3) [(2, iv 0), (1, iv 0), (0, .ref 100)] dX11_allWidths_3 rfl (by decide) ?_
  refine AW.sel [2, 1, 0] rfl (lp_ind (bot := fun _ _ _ => none) (fun (f9 : Int → Int → Mem → Option Rz) => ∀ (v1_4 : Int) (v2_4 : Int) (m4 : Mem), inR v1_4 → inR v2_4 → f9 v1_4 v2_4 m4 = some r → AW l D base sc RX11 yX11_allWidths cX11_allWidths 3 (some FieldType.int) 62 0 0 ad (E mi) (pI E r) 0 0 (E m4) 4 [(0, .ref 100), (1, iv v1_4), (2, iv v2_4)] []) (fun _ _ _ _ _ h9 => nomatch h9) (fun w4 ih4 v1_4 v2_4 m4 hv1_4 hv2_4 H => ?_) n _ _ _ (inR_lit _ rfl) (inR_lit _ rfl) H)
  refine aw_iload_n (pc := 4) dX11_allWidths_4 rfl ?_
  refine cx_bipush (pc := 5) dX11_allWidths_5 (by decide) ?_
  refine cx_icmp_ge (pc := 7) 29 hv2_4 (inR_lit _ rfl) dX11_allWidths_7 rfl H (fun H => ?_) (fun H => ?_)
  · -- 7: 10
    refine aw_iload_n (pc := 10) dX11_allWidths_10 rfl ?_
    refine aw_aload_n (pc := 11) dX11_allWidths_11 rfl ?_
    refine aw_aload_n (pc := 12) dX11_allWidths_12 rfl ?_
    refine cx_gtC (pc := 13) 129 hE r100 fl_X11_264 rfl rfl (Nat.le_of_ble_eq_true rfl) dX11_allWidths_13 ?_
    refine aw_iload_n (pc := 16) dX11_allWidths_16 rfl ?_
    refine cx_ldI (pc := 17) hE r129 hv2_4 dX11_allWidths_17 H (fun x17 hx17 H => ?_)
    refine cx_callV (pc := 18) (P := pI) (dC := 61) (mcC := 0) (msC := 0) [iv x17] hE r100 (fun r1 H1 => s_X11_width l sc E R hE hR n x17 hx17 m4 r1 H1) ca_X11_218 rfl ⟨_, rfl, rfl⟩ rfl rfl (Nat.le_of_ble_eq_true rfl) (Nat.le_of_ble_eq_true rfl) (Nat.le_of_ble_eq_true rfl) (Nat.le_of_ble_eq_true rfl) dX11_allWidths_18 H (fun x18 m18 v18 hh18 H hp => ?_)
    refine cx_backI hp (fun hx18 => ?_)
    refine cx_iadd (pc := 21) dX11_allWidths_21 ?_
    refine cx_nm (inR_w32 _) H (fun z22 hz22 H => ?_)
    refine aw_istore_n (pc := 22) [(1, iv z22), (0, .ref 100), (2, iv v2_4)] dX11_allWidths_22 rfl (by decide) ?_
    refine cx_iinc (pc := 23) [(2, iv (w32 (v2_4 + 1))), (1, iv z22), (0, .ref 100)] dX11_allWidths_23 rfl rfl (by decide) ?_
    refine aw_goto (pc := 26) 4 dX11_allWidths_26 rfl ?_
    exact AW.sel [2, 1, 0] rfl (ih4 _ _ _ hz22 (inR_w32 _) H)
  · -- 7: 29
    refine aw_iload_n (pc := 29) dX11_allWidths_29 rfl ?_
    exact cx_iret (pc := 30) hv1_4 rfl (Nat.le_of_ble_eq_true rfl) (Nat.le_of_ble_eq_true rfl) dX11_allWidths_30 H
/-- X11 image ()I -/
def f_X11_image (n : Nat)  (mi : Mem) : Option Rz :=
  lp (F := Int → Mem → Option Rz) (fun _ _ => none) (fun w2 v1_2 m2 =>
    if v1_2 < 8 then (
      ldI m2 129 v1_2 fun x18 =>
      stI m2 132 v1_2 x18 fun m19 =>
      w2 (w32 (v1_2 + 1)) m19
    ) else
    ptZ m2 100 41 1 fun m28 =>
    cal (f_X11_allWidths n m28) fun x32 m32 =>
    rt x32 m32
  ) n 0 mi
set_option maxRecDepth 100000 in
set_option maxHeartbeats 4000000 in
theorem s_X11_image (l : Launch) (sc : g_S) (E : Mem → g_H) (R : Nat → Prop) (hE : LE E R) (hR : RRF R) (n : Nat)    (mi : Mem) (r : Rz) (H : f_X11_image n  mi = some r) : AMet l sc yX11_image cX11_image 2 (some FieldType.int) 63 0 0 [.ref 100] (E mi) (pI E r) := by
  have r100 : R 100 := hR 100 (Nat.le_of_ble_eq_true rfl) (Nat.le_of_ble_eq_true rfl)
  have r129 : R 129 := hR 129 (Nat.le_of_ble_eq_true rfl) (Nat.le_of_ble_eq_true rfl)
  have r132 : R 132 := hR 132 (Nat.le_of_ble_eq_true rfl) (Nat.le_of_ble_eq_true rfl)
  unfold f_X11_image at H
  refine AMet.of (own := RX11) (by decide +kernel) rfl (Nat.le_of_ble_eq_true rfl) [(0, .ref 100)] rfl (fun D base ad => ?_)
  refine cx_iconst (pc := 0) dX11_image_0 ?_
  refine aw_istore_n (pc := 1) [(1, iv 0), (0, .ref 100)] dX11_image_1 rfl (by decide) ?_
  refine AW.sel [1, 0] rfl (lp_ind (bot := fun _ _ => none) (fun (f9 : Int → Mem → Option Rz) => ∀ (v1_2 : Int) (m2 : Mem), inR v1_2 → f9 v1_2 m2 = some r → AW l D base sc RX11 yX11_image cX11_image 2 (some FieldType.int) 63 0 0 ad (E mi) (pI E r) 0 0 (E m2) 2 [(0, .ref 100), (1, iv v1_2)] []) (fun _ _ _ h9 => nomatch h9) (fun w2 ih2 v1_2 m2 hv1_2 H => ?_) n _ _ (inR_lit _ rfl) H)
  refine aw_iload_n (pc := 2) dX11_image_2 rfl ?_
  refine cx_bipush (pc := 3) dX11_image_3 (by decide) ?_
  refine cx_icmp_ge (pc := 5) 26 hv1_2 (inR_lit _ rfl) dX11_image_5 rfl H (fun H => ?_) (fun H => ?_)
  · -- 5: 8
    refine aw_aload_n (pc := 8) dX11_image_8 rfl ?_
    refine cx_gtC (pc := 9) 132 hE r100 fl_X11_273 rfl rfl (Nat.le_of_ble_eq_true rfl) dX11_image_9 ?_
    refine aw_iload_n (pc := 12) dX11_image_12 rfl ?_
    refine aw_aload_n (pc := 13) dX11_image_13 rfl ?_
    refine cx_gtC (pc := 14) 129 hE r100 fl_X11_264 rfl rfl (Nat.le_of_ble_eq_true rfl) dX11_image_14 ?_
    refine aw_iload_n (pc := 17) dX11_image_17 rfl ?_
    refine cx_ldI (pc := 18) hE r129 hv1_2 dX11_image_18 H (fun x18 hx18 H => ?_)
    refine cx_stI (pc := 19) hE r132 hv1_2 dX11_image_19 H (fun m19 H => ?_)
    refine cx_iinc (pc := 20) [(1, iv (w32 (v1_2 + 1))), (0, .ref 100)] dX11_image_20 rfl rfl (by decide) ?_
    refine aw_goto (pc := 23) 2 dX11_image_23 rfl ?_
    exact AW.sel [1, 0] rfl (ih2 _ _ (inR_w32 _) H)
  · -- 5: 26
    refine aw_aload_n (pc := 26) dX11_image_26 rfl ?_
    refine cx_iconst (pc := 27) dX11_image_27 ?_
    refine cx_ptZ (pc := 28) tyX11 hE r100 fl_X11_475 (fun r h => ⟨gty_X11 r h, by cases h; rfl⟩) rfl rfl rfl (Nat.le_of_ble_eq_true rfl) dX11_image_28 H (fun m28 H => ?_)
    refine aw_aload_n (pc := 31) dX11_image_31 rfl ?_
    refine cx_callV (pc := 32) (P := pI) (dC := 62) (mcC := 0) (msC := 0) [] hE r100 (fun r1 H1 => s_X11_allWidths l sc E R hE hR n m28 r1 H1) ca_X11_478 rfl ⟨_, rfl, rfl⟩ rfl rfl (Nat.le_of_ble_eq_true rfl) (Nat.le_of_ble_eq_true rfl) (Nat.le_of_ble_eq_true rfl) (Nat.le_of_ble_eq_true rfl) dX11_image_32 H (fun x32 m32 v32 hh32 H hp => ?_)
    refine cx_backI hp (fun hx32 => ?_)
    exact cx_iret (pc := 35) hx32 rfl (Nat.le_of_ble_eq_true rfl) (Nat.le_of_ble_eq_true rfl) dX11_image_35 H
/-- X11 restore ()I -/
def f_X11_restore (n : Nat)  (mi : Mem) : Option Rz :=
  gtF mi 100 41 fun x1 =>
  if x1 = 0 then (
    cal (f_X11_no n 2 mi) fun x9 m9 =>
    rt x9 m9
  ) else
  lp (F := Int → Mem → Option Rz) (fun _ _ => none) (fun w15 v1_15 m15 =>
    if v1_15 < 8 then (
      ldI m15 132 v1_15 fun x31 =>
      stI m15 129 v1_15 x31 fun m32 =>
      w15 (w32 (v1_15 + 1)) m32
    ) else
    ptF m15 100 39 0 fun m41 =>
    cal (f_X11_allWidths n m41) fun x45 m45 =>
    rt x45 m45
  ) n 0 mi
set_option maxRecDepth 100000 in
set_option maxHeartbeats 4000000 in
theorem s_X11_restore (l : Launch) (sc : g_S) (E : Mem → g_H) (R : Nat → Prop) (hE : LE E R) (hR : RRF R) (n : Nat)    (mi : Mem) (r : Rz) (H : f_X11_restore n  mi = some r) : AMet l sc yX11_restore cX11_restore 2 (some FieldType.int) 63 0 0 [.ref 100] (E mi) (pI E r) := by
  have r100 : R 100 := hR 100 (Nat.le_of_ble_eq_true rfl) (Nat.le_of_ble_eq_true rfl)
  have r129 : R 129 := hR 129 (Nat.le_of_ble_eq_true rfl) (Nat.le_of_ble_eq_true rfl)
  have r132 : R 132 := hR 132 (Nat.le_of_ble_eq_true rfl) (Nat.le_of_ble_eq_true rfl)
  unfold f_X11_restore at H
  refine AMet.of (own := RX11) (by decide +kernel) rfl (Nat.le_of_ble_eq_true rfl) [(0, .ref 100)] rfl (fun D base ad => ?_)
  refine aw_aload_n (pc := 0) dX11_restore_0 rfl ?_
  refine cx_gtF (pc := 1) hE r100 fl_X11_475 rfl rfl (Nat.le_of_ble_eq_true rfl) dX11_restore_1 H (fun x1 hx1 H => ?_)
  refine cx_if_ne (pc := 4) 13 hx1 dX11_restore_4 rfl H (fun H => ?_) (fun H => ?_)
  · -- 4: 7
    refine aw_aload_n (pc := 7) dX11_restore_7 rfl ?_
    refine cx_iconst (pc := 8) dX11_restore_8 ?_
    refine cx_callV (pc := 9) (P := pI) (dC := 0) (mcC := 0) (msC := 0) [iv 2] hE r100 (fun r1 H1 => s_X11_no l sc E R hE hR n 2 (inR_lit _ rfl) mi r1 H1) ca_X11_300 rfl ⟨_, rfl, rfl⟩ rfl rfl (Nat.le_of_ble_eq_true rfl) (Nat.le_of_ble_eq_true rfl) (Nat.le_of_ble_eq_true rfl) (Nat.le_of_ble_eq_true rfl) dX11_restore_9 H (fun x9 m9 v9 hh9 H hp => ?_)
    refine cx_backI hp (fun hx9 => ?_)
    exact cx_iret (pc := 12) hx9 rfl (Nat.le_of_ble_eq_true rfl) (Nat.le_of_ble_eq_true rfl) dX11_restore_12 H
  · -- 4: 13
    refine cx_iconst (pc := 13) dX11_restore_13 ?_
    refine aw_istore_n (pc := 14) [(1, iv 0), (0, .ref 100)] dX11_restore_14 rfl (by decide) ?_
    refine AW.sel [1, 0] rfl (lp_ind (bot := fun _ _ => none) (fun (f9 : Int → Mem → Option Rz) => ∀ (v1_15 : Int) (m15 : Mem), inR v1_15 → f9 v1_15 m15 = some r → AW l D base sc RX11 yX11_restore cX11_restore 2 (some FieldType.int) 63 0 0 ad (E mi) (pI E r) 0 0 (E m15) 15 [(0, .ref 100), (1, iv v1_15)] []) (fun _ _ _ h9 => nomatch h9) (fun w15 ih15 v1_15 m15 hv1_15 H => ?_) n _ _ (inR_lit _ rfl) H)
    refine aw_iload_n (pc := 15) dX11_restore_15 rfl ?_
    refine cx_bipush (pc := 16) dX11_restore_16 (by decide) ?_
    refine cx_icmp_ge (pc := 18) 39 hv1_15 (inR_lit _ rfl) dX11_restore_18 rfl H (fun H => ?_) (fun H => ?_)
    · -- 18: 21
      refine aw_aload_n (pc := 21) dX11_restore_21 rfl ?_
      refine cx_gtC (pc := 22) 129 hE r100 fl_X11_264 rfl rfl (Nat.le_of_ble_eq_true rfl) dX11_restore_22 ?_
      refine aw_iload_n (pc := 25) dX11_restore_25 rfl ?_
      refine aw_aload_n (pc := 26) dX11_restore_26 rfl ?_
      refine cx_gtC (pc := 27) 132 hE r100 fl_X11_273 rfl rfl (Nat.le_of_ble_eq_true rfl) dX11_restore_27 ?_
      refine aw_iload_n (pc := 30) dX11_restore_30 rfl ?_
      refine cx_ldI (pc := 31) hE r132 hv1_15 dX11_restore_31 H (fun x31 hx31 H => ?_)
      refine cx_stI (pc := 32) hE r129 hv1_15 dX11_restore_32 H (fun m32 H => ?_)
      refine cx_iinc (pc := 33) [(1, iv (w32 (v1_15 + 1))), (0, .ref 100)] dX11_restore_33 rfl rfl (by decide) ?_
      refine aw_goto (pc := 36) 15 dX11_restore_36 rfl ?_
      exact AW.sel [1, 0] rfl (ih15 _ _ (inR_w32 _) H)
    · -- 18: 39
      refine aw_aload_n (pc := 39) dX11_restore_39 rfl ?_
      refine cx_iconst (pc := 40) dX11_restore_40 ?_
      refine cx_ptF (pc := 41) tyX11 hE r100 fl_X11_303 (fun r h => ⟨gty_X11 r h, by cases h; rfl⟩) rfl rfl rfl (Nat.le_of_ble_eq_true rfl) dX11_restore_41 H (fun m41 H => ?_)
      refine aw_aload_n (pc := 44) dX11_restore_44 rfl ?_
      refine cx_callV (pc := 45) (P := pI) (dC := 62) (mcC := 0) (msC := 0) [] hE r100 (fun r1 H1 => s_X11_allWidths l sc E R hE hR n m41 r1 H1) ca_X11_478 rfl ⟨_, rfl, rfl⟩ rfl rfl (Nat.le_of_ble_eq_true rfl) (Nat.le_of_ble_eq_true rfl) (Nat.le_of_ble_eq_true rfl) (Nat.le_of_ble_eq_true rfl) dX11_restore_45 H (fun x45 m45 v45 hh45 H hp => ?_)
      refine cx_backI hp (fun hx45 => ?_)
      exact cx_iret (pc := 48) hx45 rfl (Nat.le_of_ble_eq_true rfl) (Nat.le_of_ble_eq_true rfl) dX11_restore_48 H
/-- X11 smallSlots ()I -/
def f_X11_smallSlots (n : Nat)  (mi : Mem) : Option Rz :=
  lp (F := Int → Int → Mem → Option Rz) (fun _ _ _ => none) (fun w4 v1_4 v2_4 m4 =>
    if v2_4 < 8 then (
      ldI m4 129 v2_4 fun x20 =>
      ldZ m4 110 x20 fun x21 =>
      jn (fun (s0_30 : Int) (m30 : Mem) =>
        nm (w32 (v1_4 + s0_30)) fun z31 =>
        w4 z31 (w32 (v2_4 + 1)) m30
      ) fun (j30 : Int → Mem → Option Rz) =>
      if x21 = 0 then (
        j30 0 m4
      ) else
      j30 1 m4
    ) else
    rt v1_4 m4
  ) n 0 0 mi
set_option maxRecDepth 100000 in
set_option maxHeartbeats 4000000 in
theorem s_X11_smallSlots (l : Launch) (sc : g_S) (E : Mem → g_H) (R : Nat → Prop) (hE : LE E R) (hR : RRF R) (n : Nat)    (mi : Mem) (r : Rz) (H : f_X11_smallSlots n  mi = some r) : AMet l sc yX11_smallSlots cX11_smallSlots 3 (some FieldType.int) 0 0 0 [.ref 100] (E mi) (pI E r) := by
  have r100 : R 100 := hR 100 (Nat.le_of_ble_eq_true rfl) (Nat.le_of_ble_eq_true rfl)
  have r110 : R 110 := hR 110 (Nat.le_of_ble_eq_true rfl) (Nat.le_of_ble_eq_true rfl)
  have r129 : R 129 := hR 129 (Nat.le_of_ble_eq_true rfl) (Nat.le_of_ble_eq_true rfl)
  unfold f_X11_smallSlots at H
  refine AMet.of (own := RX11) (by decide +kernel) rfl (Nat.le_of_ble_eq_true rfl) [(0, .ref 100)] rfl (fun D base ad => ?_)
  refine cx_iconst (pc := 0) dX11_smallSlots_0 ?_
  refine aw_istore_n (pc := 1) [(1, iv 0), (0, .ref 100)] dX11_smallSlots_1 rfl (by decide) ?_
  refine cx_iconst (pc := 2) dX11_smallSlots_2 ?_
  refine aw_istore_n (pc := 3) [(2, iv 0), (1, iv 0), (0, .ref 100)] dX11_smallSlots_3 rfl (by decide) ?_
  refine AW.sel [2, 1, 0] rfl (lp_ind (bot := fun _ _ _ => none) (fun (f9 : Int → Int → Mem → Option Rz) => ∀ (v1_4 : Int) (v2_4 : Int) (m4 : Mem), inR v1_4 → inR v2_4 → f9 v1_4 v2_4 m4 = some r → AW l D base sc RX11 yX11_smallSlots cX11_smallSlots 3 (some FieldType.int) 0 0 0 ad (E mi) (pI E r) 0 0 (E m4) 4 [(0, .ref 100), (1, iv v1_4), (2, iv v2_4)] []) (fun _ _ _ _ _ h9 => nomatch h9) (fun w4 ih4 v1_4 v2_4 m4 hv1_4 hv2_4 H => ?_) n _ _ _ (inR_lit _ rfl) (inR_lit _ rfl) H)
  refine aw_iload_n (pc := 4) dX11_smallSlots_4 rfl ?_
  refine cx_bipush (pc := 5) dX11_smallSlots_5 (by decide) ?_
  refine cx_icmp_ge (pc := 7) 38 hv2_4 (inR_lit _ rfl) dX11_smallSlots_7 rfl H (fun H => ?_) (fun H => ?_)
  · -- 7: 10
    refine aw_iload_n (pc := 10) dX11_smallSlots_10 rfl ?_
    refine aw_aload_n (pc := 11) dX11_smallSlots_11 rfl ?_
    refine cx_gtC (pc := 12) 110 hE r100 fl_X11_91 rfl rfl (Nat.le_of_ble_eq_true rfl) dX11_smallSlots_12 ?_
    refine aw_aload_n (pc := 15) dX11_smallSlots_15 rfl ?_
    refine cx_gtC (pc := 16) 129 hE r100 fl_X11_264 rfl rfl (Nat.le_of_ble_eq_true rfl) dX11_smallSlots_16 ?_
    refine aw_iload_n (pc := 19) dX11_smallSlots_19 rfl ?_
    refine cx_ldI (pc := 20) hE r129 hv2_4 dX11_smallSlots_20 H (fun x20 hx20 H => ?_)
    refine cx_ldZ (pc := 21) hE r110 hx20 dX11_smallSlots_21 H (fun x21 hx21 H => ?_)
    refine jn_ind (fun (f9 : Int → Mem → Option Rz) => ∀ (s0_30 : Int) (m30 : Mem), inR s0_30 → f9 s0_30 m30 = some r → AW l D base sc RX11 yX11_smallSlots cX11_smallSlots 3 (some FieldType.int) 0 0 0 ad (E mi) (pI E r) 0 0 (E m30) 30 [(0, .ref 100), (2, iv v2_4)] [iv s0_30, iv v1_4]) (fun s0_30 m30 hs0_30 H => ?_) (fun j30 hj30 H => ?_) H
    · -- 30
      refine cx_iadd (pc := 30) dX11_smallSlots_30 ?_
      refine cx_nm (inR_w32 _) H (fun z31 hz31 H => ?_)
      refine aw_istore_n (pc := 31) [(1, iv z31), (0, .ref 100), (2, iv v2_4)] dX11_smallSlots_31 rfl (by decide) ?_
      refine cx_iinc (pc := 32) [(2, iv (w32 (v2_4 + 1))), (1, iv z31), (0, .ref 100)] dX11_smallSlots_32 rfl rfl (by decide) ?_
      refine aw_goto (pc := 35) 4 dX11_smallSlots_35 rfl ?_
      exact AW.sel [2, 1, 0] rfl (ih4 _ _ _ hz31 (inR_w32 _) H)
    refine cx_if_eq (pc := 22) 29 hx21 dX11_smallSlots_22 rfl H (fun H => ?_) (fun H => ?_)
    · -- 22: 29
      refine cx_iconst (pc := 29) dX11_smallSlots_29 ?_
      exact AW.sel [0, 2] rfl (hj30 _ _ (inR_lit _ rfl) H)
    · -- 22: 25
      refine cx_iconst (pc := 25) dX11_smallSlots_25 ?_
      refine aw_goto (pc := 26) 30 dX11_smallSlots_26 rfl ?_
      exact AW.sel [0, 2] rfl (hj30 _ _ (inR_lit _ rfl) H)
  · -- 7: 38
    refine aw_iload_n (pc := 38) dX11_smallSlots_38 rfl ?_
    exact cx_iret (pc := 39) hv1_4 rfl (Nat.le_of_ble_eq_true rfl) (Nat.le_of_ble_eq_true rfl) dX11_smallSlots_39 H
/-- X11 unlikeSlots ()I -/
def f_X11_unlikeSlots (n : Nat)  (mi : Mem) : Option Rz :=
  lp (F := Int → Int → Mem → Option Rz) (fun _ _ _ => none) (fun w4 v1_4 v2_4 m4 =>
    if v2_4 < 8 then (
      ldI m4 129 v2_4 fun x22 =>
      cal (f_X11_has n 129 0 v2_4 x22 m4) fun x23 m23 =>
      jn (fun (s0_34 : Int) (m34 : Mem) =>
        nm (w32 (v1_4 + s0_34)) fun z35 =>
        w4 z35 (w32 (v2_4 + 1)) m34
      ) fun (j34 : Int → Mem → Option Rz) =>
      if x23 = 0 then (
        j34 1 m23
      ) else
      j34 0 m23
    ) else
    rt v1_4 m4
  ) n 0 0 mi
set_option maxRecDepth 100000 in
set_option maxHeartbeats 4000000 in
theorem s_X11_unlikeSlots (l : Launch) (sc : g_S) (E : Mem → g_H) (R : Nat → Prop) (hE : LE E R) (hR : RRF R) (n : Nat)    (mi : Mem) (r : Rz) (H : f_X11_unlikeSlots n  mi = some r) : AMet l sc yX11_unlikeSlots cX11_unlikeSlots 3 (some FieldType.int) 1 0 0 [.ref 100] (E mi) (pI E r) := by
  have r100 : R 100 := hR 100 (Nat.le_of_ble_eq_true rfl) (Nat.le_of_ble_eq_true rfl)
  have r129 : R 129 := hR 129 (Nat.le_of_ble_eq_true rfl) (Nat.le_of_ble_eq_true rfl)
  unfold f_X11_unlikeSlots at H
  refine AMet.of (own := RX11) (by decide +kernel) rfl (Nat.le_of_ble_eq_true rfl) [(0, .ref 100)] rfl (fun D base ad => ?_)
  refine cx_iconst (pc := 0) dX11_unlikeSlots_0 ?_
  refine aw_istore_n (pc := 1) [(1, iv 0), (0, .ref 100)] dX11_unlikeSlots_1 rfl (by decide) ?_
  refine cx_iconst (pc := 2) dX11_unlikeSlots_2 ?_
  refine aw_istore_n (pc := 3) [(2, iv 0), (1, iv 0), (0, .ref 100)] dX11_unlikeSlots_3 rfl (by decide) ?_
  refine AW.sel [2, 1, 0] rfl (lp_ind (bot := fun _ _ _ => none) (fun (f9 : Int → Int → Mem → Option Rz) => ∀ (v1_4 : Int) (v2_4 : Int) (m4 : Mem), inR v1_4 → inR v2_4 → f9 v1_4 v2_4 m4 = some r → AW l D base sc RX11 yX11_unlikeSlots cX11_unlikeSlots 3 (some FieldType.int) 1 0 0 ad (E mi) (pI E r) 0 0 (E m4) 4 [(0, .ref 100), (1, iv v1_4), (2, iv v2_4)] []) (fun _ _ _ _ _ h9 => nomatch h9) (fun w4 ih4 v1_4 v2_4 m4 hv1_4 hv2_4 H => ?_) n _ _ _ (inR_lit _ rfl) (inR_lit _ rfl) H)
  refine aw_iload_n (pc := 4) dX11_unlikeSlots_4 rfl ?_
  refine cx_bipush (pc := 5) dX11_unlikeSlots_5 (by decide) ?_
  refine cx_icmp_ge (pc := 7) 42 hv2_4 (inR_lit _ rfl) dX11_unlikeSlots_7 rfl H (fun H => ?_) (fun H => ?_)
  · -- 7: 10
    refine aw_iload_n (pc := 10) dX11_unlikeSlots_10 rfl ?_
    refine aw_aload_n (pc := 11) dX11_unlikeSlots_11 rfl ?_
    refine cx_gtC (pc := 12) 129 hE r100 fl_X11_264 rfl rfl (Nat.le_of_ble_eq_true rfl) dX11_unlikeSlots_12 ?_
    refine cx_iconst (pc := 15) dX11_unlikeSlots_15 ?_
    refine aw_iload_n (pc := 16) dX11_unlikeSlots_16 rfl ?_
    refine aw_aload_n (pc := 17) dX11_unlikeSlots_17 rfl ?_
    refine cx_gtC (pc := 18) 129 hE r100 fl_X11_264 rfl rfl (Nat.le_of_ble_eq_true rfl) dX11_unlikeSlots_18 ?_
    refine aw_iload_n (pc := 21) dX11_unlikeSlots_21 rfl ?_
    refine cx_ldI (pc := 22) hE r129 hv2_4 dX11_unlikeSlots_22 H (fun x22 hx22 H => ?_)
    refine cx_callS (pc := 23) (P := pI) (dC := 0) (mcC := 0) (msC := 0) [.ref 129, iv 0, iv v2_4, iv x22] (fun r1 H1 => s_X11_has l sc E R hE hR n 129 0 v2_4 x22 r129 (inR_lit _ rfl) hv2_4 hx22 m4 r1 H1) ca_X11_38 rfl rfl (Nat.le_of_ble_eq_true rfl) (Nat.le_of_ble_eq_true rfl) (Nat.le_of_ble_eq_true rfl) (Nat.le_of_ble_eq_true rfl) dX11_unlikeSlots_23 H (fun x23 m23 v23 hh23 H hp => ?_)
    refine cx_backI hp (fun hx23 => ?_)
    refine jn_ind (fun (f9 : Int → Mem → Option Rz) => ∀ (s0_34 : Int) (m34 : Mem), inR s0_34 → f9 s0_34 m34 = some r → AW l D base sc RX11 yX11_unlikeSlots cX11_unlikeSlots 3 (some FieldType.int) 1 0 0 ad (E mi) (pI E r) 0 0 (E m34) 34 [(0, .ref 100), (2, iv v2_4)] [iv s0_34, iv v1_4]) (fun s0_34 m34 hs0_34 H => ?_) (fun j34 hj34 H => ?_) H
    · -- 34
      refine cx_iadd (pc := 34) dX11_unlikeSlots_34 ?_
      refine cx_nm (inR_w32 _) H (fun z35 hz35 H => ?_)
      refine aw_istore_n (pc := 35) [(1, iv z35), (0, .ref 100), (2, iv v2_4)] dX11_unlikeSlots_35 rfl (by decide) ?_
      refine cx_iinc (pc := 36) [(2, iv (w32 (v2_4 + 1))), (1, iv z35), (0, .ref 100)] dX11_unlikeSlots_36 rfl rfl (by decide) ?_
      refine aw_goto (pc := 39) 4 dX11_unlikeSlots_39 rfl ?_
      exact AW.sel [2, 1, 0] rfl (ih4 _ _ _ hz35 (inR_w32 _) H)
    refine cx_if_eq (pc := 26) 33 hx23 dX11_unlikeSlots_26 rfl H (fun H => ?_) (fun H => ?_)
    · -- 26: 33
      refine cx_iconst (pc := 33) dX11_unlikeSlots_33 ?_
      exact AW.sel [0, 2] rfl (hj34 _ _ (inR_lit _ rfl) H)
    · -- 26: 29
      refine cx_iconst (pc := 29) dX11_unlikeSlots_29 ?_
      refine aw_goto (pc := 30) 34 dX11_unlikeSlots_30 rfl ?_
      exact AW.sel [0, 2] rfl (hj34 _ _ (inR_lit _ rfl) H)
  · -- 7: 42
    refine aw_iload_n (pc := 42) dX11_unlikeSlots_42 rfl ?_
    exact cx_iret (pc := 43) hv1_4 rfl (Nat.le_of_ble_eq_true rfl) (Nat.le_of_ble_eq_true rfl) dX11_unlikeSlots_43 H
/-- X11 sheetsThere ()I -/
def f_X11_sheetsThere (n : Nat)  (mi : Mem) : Option Rz :=
  lp (F := Int → Int → Mem → Option Rz) (fun _ _ _ => none) (fun w4 v1_4 v2_4 m4 =>
    if v2_4 < 4 then (
      ldI m4 137 v2_4 fun x15 =>
      jn (fun (s0_24 : Int) (m24 : Mem) =>
        nm (w32 (v1_4 + s0_24)) fun z25 =>
        w4 z25 (w32 (v2_4 + 1)) m24
      ) fun (j24 : Int → Mem → Option Rz) =>
      if x15 = 0 then (
        j24 0 m4
      ) else
      j24 1 m4
    ) else
    rt v1_4 m4
  ) n 0 0 mi
set_option maxRecDepth 100000 in
set_option maxHeartbeats 4000000 in
theorem s_X11_sheetsThere (l : Launch) (sc : g_S) (E : Mem → g_H) (R : Nat → Prop) (hE : LE E R) (hR : RRF R) (n : Nat)    (mi : Mem) (r : Rz) (H : f_X11_sheetsThere n  mi = some r) : AMet l sc yX11_sheetsThere cX11_sheetsThere 3 (some FieldType.int) 0 0 0 [.ref 100] (E mi) (pI E r) := by
  have r100 : R 100 := hR 100 (Nat.le_of_ble_eq_true rfl) (Nat.le_of_ble_eq_true rfl)
  have r137 : R 137 := hR 137 (Nat.le_of_ble_eq_true rfl) (Nat.le_of_ble_eq_true rfl)
  unfold f_X11_sheetsThere at H
  refine AMet.of (own := RX11) (by decide +kernel) rfl (Nat.le_of_ble_eq_true rfl) [(0, .ref 100)] rfl (fun D base ad => ?_)
  refine cx_iconst (pc := 0) dX11_sheetsThere_0 ?_
  refine aw_istore_n (pc := 1) [(1, iv 0), (0, .ref 100)] dX11_sheetsThere_1 rfl (by decide) ?_
  refine cx_iconst (pc := 2) dX11_sheetsThere_2 ?_
  refine aw_istore_n (pc := 3) [(2, iv 0), (1, iv 0), (0, .ref 100)] dX11_sheetsThere_3 rfl (by decide) ?_
  refine AW.sel [2, 1, 0] rfl (lp_ind (bot := fun _ _ _ => none) (fun (f9 : Int → Int → Mem → Option Rz) => ∀ (v1_4 : Int) (v2_4 : Int) (m4 : Mem), inR v1_4 → inR v2_4 → f9 v1_4 v2_4 m4 = some r → AW l D base sc RX11 yX11_sheetsThere cX11_sheetsThere 3 (some FieldType.int) 0 0 0 ad (E mi) (pI E r) 0 0 (E m4) 4 [(0, .ref 100), (1, iv v1_4), (2, iv v2_4)] []) (fun _ _ _ _ _ h9 => nomatch h9) (fun w4 ih4 v1_4 v2_4 m4 hv1_4 hv2_4 H => ?_) n _ _ _ (inR_lit _ rfl) (inR_lit _ rfl) H)
  refine aw_iload_n (pc := 4) dX11_sheetsThere_4 rfl ?_
  refine cx_iconst (pc := 5) dX11_sheetsThere_5 ?_
  refine cx_icmp_ge (pc := 6) 32 hv2_4 (inR_lit _ rfl) dX11_sheetsThere_6 rfl H (fun H => ?_) (fun H => ?_)
  · -- 6: 9
    refine aw_iload_n (pc := 9) dX11_sheetsThere_9 rfl ?_
    refine aw_aload_n (pc := 10) dX11_sheetsThere_10 rfl ?_
    refine cx_gtC (pc := 11) 137 hE r100 fl_X11_288 rfl rfl (Nat.le_of_ble_eq_true rfl) dX11_sheetsThere_11 ?_
    refine aw_iload_n (pc := 14) dX11_sheetsThere_14 rfl ?_
    refine cx_ldI (pc := 15) hE r137 hv2_4 dX11_sheetsThere_15 H (fun x15 hx15 H => ?_)
    refine jn_ind (fun (f9 : Int → Mem → Option Rz) => ∀ (s0_24 : Int) (m24 : Mem), inR s0_24 → f9 s0_24 m24 = some r → AW l D base sc RX11 yX11_sheetsThere cX11_sheetsThere 3 (some FieldType.int) 0 0 0 ad (E mi) (pI E r) 0 0 (E m24) 24 [(0, .ref 100), (2, iv v2_4)] [iv s0_24, iv v1_4]) (fun s0_24 m24 hs0_24 H => ?_) (fun j24 hj24 H => ?_) H
    · -- 24
      refine cx_iadd (pc := 24) dX11_sheetsThere_24 ?_
      refine cx_nm (inR_w32 _) H (fun z25 hz25 H => ?_)
      refine aw_istore_n (pc := 25) [(1, iv z25), (0, .ref 100), (2, iv v2_4)] dX11_sheetsThere_25 rfl (by decide) ?_
      refine cx_iinc (pc := 26) [(2, iv (w32 (v2_4 + 1))), (1, iv z25), (0, .ref 100)] dX11_sheetsThere_26 rfl rfl (by decide) ?_
      refine aw_goto (pc := 29) 4 dX11_sheetsThere_29 rfl ?_
      exact AW.sel [2, 1, 0] rfl (ih4 _ _ _ hz25 (inR_w32 _) H)
    refine cx_if_ne (pc := 16) 23 hx15 dX11_sheetsThere_16 rfl H (fun H => ?_) (fun H => ?_)
    · -- 16: 19
      refine cx_iconst (pc := 19) dX11_sheetsThere_19 ?_
      refine aw_goto (pc := 20) 24 dX11_sheetsThere_20 rfl ?_
      exact AW.sel [0, 2] rfl (hj24 _ _ (inR_lit _ rfl) H)
    · -- 16: 23
      refine cx_iconst (pc := 23) dX11_sheetsThere_23 ?_
      exact AW.sel [0, 2] rfl (hj24 _ _ (inR_lit _ rfl) H)
  · -- 6: 32
    refine aw_iload_n (pc := 32) dX11_sheetsThere_32 rfl ?_
    exact cx_iret (pc := 33) hv1_4 rfl (Nat.le_of_ble_eq_true rfl) (Nat.le_of_ble_eq_true rfl) dX11_sheetsThere_33 H
/-- X11 count (I)I -/
def f_X11_count (n : Nat) (p1 : Int) (mi : Mem) : Option Rz :=
  if p1 = 0 then (
    cal (f_X11_smallSlots n mi) fun x41 m41 =>
    rt x41 m41
  ) else
  if p1 = 1 then (
    cal (f_X11_allWidths n mi) fun x46 m46 =>
    rt x46 m46
  ) else
  if p1 = 2 then (
    gtF mi 100 49 fun x51 =>
    rt x51 mi
  ) else
  if p1 = 3 then (
    gtF mi 100 39 fun x56 =>
    rt x56 mi
  ) else
  if p1 = 4 then (
    cal (f_X11_unlikeSlots n mi) fun x61 m61 =>
    rt x61 m61
  ) else
  if p1 = 5 then (
    cal (f_X11_sheetsThere n mi) fun x66 m66 =>
    rt x66 m66
  ) else
  cal (f_X11_no n 1 mi) fun x72 m72 =>
  rt x72 m72
set_option maxRecDepth 100000 in
set_option maxHeartbeats 4000000 in
theorem s_X11_count (l : Launch) (sc : g_S) (E : Mem → g_H) (R : Nat → Prop) (hE : LE E R) (hR : RRF R) (n : Nat)  (p1 : Int) (hp1 : inR p1) (mi : Mem) (r : Rz) (H : f_X11_count n p1 mi = some r) : AMet l sc yX11_count cX11_count 2 (some FieldType.int) 63 0 0 [.ref 100, iv p1] (E mi) (pI E r) := by
  have r100 : R 100 := hR 100 (Nat.le_of_ble_eq_true rfl) (Nat.le_of_ble_eq_true rfl)
  unfold f_X11_count at H
  refine AMet.of (own := RX11) (by decide +kernel) rfl (Nat.le_of_ble_eq_true rfl) [(0, .ref 100), (1, iv p1)] rfl (fun D base ad => ?_)
  refine aw_iload_n (pc := 0) dX11_count_0 rfl ?_
  rcases sw_eq H with ⟨q1_0, H⟩ | ⟨q1_0, H⟩
  · -- 1 case 0
    refine cx_tabIn (pc := 1) 40 0 q1_0 dX11_count_1 (by decide) (by decide) rfl rfl ?_
    refine aw_aload_n (pc := 40) dX11_count_40 rfl ?_
    refine cx_callV (pc := 41) (P := pI) (dC := 0) (mcC := 0) (msC := 0) [] hE r100 (fun r1 H1 => s_X11_smallSlots l sc E R hE hR n mi r1 H1) ca_X11_481 rfl ⟨_, rfl, rfl⟩ rfl rfl (Nat.le_of_ble_eq_true rfl) (Nat.le_of_ble_eq_true rfl) (Nat.le_of_ble_eq_true rfl) (Nat.le_of_ble_eq_true rfl) dX11_count_41 H (fun x41 m41 v41 hh41 H hp => ?_)
    refine cx_backI hp (fun hx41 => ?_)
    exact cx_iret (pc := 44) hx41 rfl (Nat.le_of_ble_eq_true rfl) (Nat.le_of_ble_eq_true rfl) dX11_count_44 H
  rcases sw_eq H with ⟨q1_1, H⟩ | ⟨q1_1, H⟩
  · -- 1 case 1
    refine cx_tabIn (pc := 1) 45 1 q1_1 dX11_count_1 (by decide) (by decide) rfl rfl ?_
    refine aw_aload_n (pc := 45) dX11_count_45 rfl ?_
    refine cx_callV (pc := 46) (P := pI) (dC := 62) (mcC := 0) (msC := 0) [] hE r100 (fun r1 H1 => s_X11_allWidths l sc E R hE hR n mi r1 H1) ca_X11_478 rfl ⟨_, rfl, rfl⟩ rfl rfl (Nat.le_of_ble_eq_true rfl) (Nat.le_of_ble_eq_true rfl) (Nat.le_of_ble_eq_true rfl) (Nat.le_of_ble_eq_true rfl) dX11_count_46 H (fun x46 m46 v46 hh46 H hp => ?_)
    refine cx_backI hp (fun hx46 => ?_)
    exact cx_iret (pc := 49) hx46 rfl (Nat.le_of_ble_eq_true rfl) (Nat.le_of_ble_eq_true rfl) dX11_count_49 H
  rcases sw_eq H with ⟨q1_2, H⟩ | ⟨q1_2, H⟩
  · -- 1 case 2
    refine cx_tabIn (pc := 1) 50 2 q1_2 dX11_count_1 (by decide) (by decide) rfl rfl ?_
    refine aw_aload_n (pc := 50) dX11_count_50 rfl ?_
    refine cx_gtF (pc := 51) hE r100 fl_X11_411 rfl rfl (Nat.le_of_ble_eq_true rfl) dX11_count_51 H (fun x51 hx51 H => ?_)
    exact cx_iret (pc := 54) hx51 rfl (Nat.le_of_ble_eq_true rfl) (Nat.le_of_ble_eq_true rfl) dX11_count_54 H
  rcases sw_eq H with ⟨q1_3, H⟩ | ⟨q1_3, H⟩
  · -- 1 case 3
    refine cx_tabIn (pc := 1) 55 3 q1_3 dX11_count_1 (by decide) (by decide) rfl rfl ?_
    refine aw_aload_n (pc := 55) dX11_count_55 rfl ?_
    refine cx_gtF (pc := 56) hE r100 fl_X11_303 rfl rfl (Nat.le_of_ble_eq_true rfl) dX11_count_56 H (fun x56 hx56 H => ?_)
    exact cx_iret (pc := 59) hx56 rfl (Nat.le_of_ble_eq_true rfl) (Nat.le_of_ble_eq_true rfl) dX11_count_59 H
  rcases sw_eq H with ⟨q1_4, H⟩ | ⟨q1_4, H⟩
  · -- 1 case 4
    refine cx_tabIn (pc := 1) 60 4 q1_4 dX11_count_1 (by decide) (by decide) rfl rfl ?_
    refine aw_aload_n (pc := 60) dX11_count_60 rfl ?_
    refine cx_callV (pc := 61) (P := pI) (dC := 1) (mcC := 0) (msC := 0) [] hE r100 (fun r1 H1 => s_X11_unlikeSlots l sc E R hE hR n mi r1 H1) ca_X11_484 rfl ⟨_, rfl, rfl⟩ rfl rfl (Nat.le_of_ble_eq_true rfl) (Nat.le_of_ble_eq_true rfl) (Nat.le_of_ble_eq_true rfl) (Nat.le_of_ble_eq_true rfl) dX11_count_61 H (fun x61 m61 v61 hh61 H hp => ?_)
    refine cx_backI hp (fun hx61 => ?_)
    exact cx_iret (pc := 64) hx61 rfl (Nat.le_of_ble_eq_true rfl) (Nat.le_of_ble_eq_true rfl) dX11_count_64 H
  rcases sw_eq H with ⟨q1_5, H⟩ | ⟨q1_5, H⟩
  · -- 1 case 5
    refine cx_tabIn (pc := 1) 65 5 q1_5 dX11_count_1 (by decide) (by decide) rfl rfl ?_
    refine aw_aload_n (pc := 65) dX11_count_65 rfl ?_
    refine cx_callV (pc := 66) (P := pI) (dC := 0) (mcC := 0) (msC := 0) [] hE r100 (fun r1 H1 => s_X11_sheetsThere l sc E R hE hR n mi r1 H1) ca_X11_487 rfl ⟨_, rfl, rfl⟩ rfl rfl (Nat.le_of_ble_eq_true rfl) (Nat.le_of_ble_eq_true rfl) (Nat.le_of_ble_eq_true rfl) (Nat.le_of_ble_eq_true rfl) dX11_count_66 H (fun x66 m66 v66 hh66 H hp => ?_)
    refine cx_backI hp (fun hx66 => ?_)
    exact cx_iret (pc := 69) hx66 rfl (Nat.le_of_ble_eq_true rfl) (Nat.le_of_ble_eq_true rfl) dX11_count_69 H
  refine cx_tabOut (pc := 1) 70 hp1 dX11_count_1 (by omega) rfl ?_
  refine aw_aload_n (pc := 70) dX11_count_70 rfl ?_
  refine cx_iconst (pc := 71) dX11_count_71 ?_
  refine cx_callV (pc := 72) (P := pI) (dC := 0) (mcC := 0) (msC := 0) [iv 1] hE r100 (fun r1 H1 => s_X11_no l sc E R hE hR n 1 (inR_lit _ rfl) mi r1 H1) ca_X11_300 rfl ⟨_, rfl, rfl⟩ rfl rfl (Nat.le_of_ble_eq_true rfl) (Nat.le_of_ble_eq_true rfl) (Nat.le_of_ble_eq_true rfl) (Nat.le_of_ble_eq_true rfl) dX11_count_72 H (fun x72 m72 v72 hh72 H hp => ?_)
  refine cx_backI hp (fun hx72 => ?_)
  exact cx_iret (pc := 75) hx72 rfl (Nat.le_of_ble_eq_true rfl) (Nat.le_of_ble_eq_true rfl) dX11_count_75 H
/-- X11 told (I)I -/
def f_X11_told (n : Nat) (p1 : Int) (mi : Mem) : Option Rz :=
  cal (f_X11_in n p1 1 6 mi) fun x4 m4 =>
  jn (fun (s0_24 : Int) (m24 : Mem) =>
    rt s0_24 m24
  ) fun (j24 : Int → Mem → Option Rz) =>
  if x4 = 0 then (
    cal (f_X11_no n 1 m4) fun x21 m21 =>
    j24 x21 m21
  ) else
  ldI m4 101 p1 fun x15 =>
  j24 x15 m4
set_option maxRecDepth 100000 in
set_option maxHeartbeats 4000000 in
theorem s_X11_told (l : Launch) (sc : g_S) (E : Mem → g_H) (R : Nat → Prop) (hE : LE E R) (hR : RRF R) (n : Nat)  (p1 : Int) (hp1 : inR p1) (mi : Mem) (r : Rz) (H : f_X11_told n p1 mi = some r) : AMet l sc yX11_told cX11_told 2 (some FieldType.int) 1 0 0 [.ref 100, iv p1] (E mi) (pI E r) := by
  have r100 : R 100 := hR 100 (Nat.le_of_ble_eq_true rfl) (Nat.le_of_ble_eq_true rfl)
  have r101 : R 101 := hR 101 (Nat.le_of_ble_eq_true rfl) (Nat.le_of_ble_eq_true rfl)
  unfold f_X11_told at H
  refine AMet.of (own := RX11) (by decide +kernel) rfl (Nat.le_of_ble_eq_true rfl) [(0, .ref 100), (1, iv p1)] rfl (fun D base ad => ?_)
  refine aw_iload_n (pc := 0) dX11_told_0 rfl ?_
  refine cx_iconst (pc := 1) dX11_told_1 ?_
  refine cx_bipush (pc := 2) dX11_told_2 (by decide) ?_
  refine cx_callS (pc := 4) (P := pI) (dC := 0) (mcC := 0) (msC := 0) [iv p1, iv 1, iv 6] (fun r1 H1 => s_X11_in l sc E R hE hR n p1 1 6 hp1 (inR_lit _ rfl) (inR_lit _ rfl) mi r1 H1) ca_X11_106 rfl rfl (Nat.le_of_ble_eq_true rfl) (Nat.le_of_ble_eq_true rfl) (Nat.le_of_ble_eq_true rfl) (Nat.le_of_ble_eq_true rfl) dX11_told_4 H (fun x4 m4 v4 hh4 H hp => ?_)
  refine cx_backI hp (fun hx4 => ?_)
  refine jn_ind (fun (f9 : Int → Mem → Option Rz) => ∀ (s0_24 : Int) (m24 : Mem), inR s0_24 → f9 s0_24 m24 = some r → AW l D base sc RX11 yX11_told cX11_told 2 (some FieldType.int) 1 0 0 ad (E mi) (pI E r) 0 0 (E m24) 24 [] [iv s0_24]) (fun s0_24 m24 hs0_24 H => ?_) (fun j24 hj24 H => ?_) H
  · -- 24
    exact cx_iret (pc := 24) hs0_24 rfl (Nat.le_of_ble_eq_true rfl) (Nat.le_of_ble_eq_true rfl) dX11_told_24 H
  refine cx_if_eq (pc := 7) 19 hx4 dX11_told_7 rfl H (fun H => ?_) (fun H => ?_)
  · -- 7: 19
    refine aw_aload_n (pc := 19) dX11_told_19 rfl ?_
    refine cx_iconst (pc := 20) dX11_told_20 ?_
    refine cx_callV (pc := 21) (P := pI) (dC := 0) (mcC := 0) (msC := 0) [iv 1] hE r100 (fun r1 H1 => s_X11_no l sc E R hE hR n 1 (inR_lit _ rfl) m4 r1 H1) ca_X11_300 rfl ⟨_, rfl, rfl⟩ rfl rfl (Nat.le_of_ble_eq_true rfl) (Nat.le_of_ble_eq_true rfl) (Nat.le_of_ble_eq_true rfl) (Nat.le_of_ble_eq_true rfl) dX11_told_21 H (fun x21 m21 v21 hh21 H hp => ?_)
    refine cx_backI hp (fun hx21 => ?_)
    exact AW.sel [] rfl (hj24 _ _ hx21 H)
  · -- 7: 10
    refine aw_aload_n (pc := 10) dX11_told_10 rfl ?_
    refine cx_gtC (pc := 11) 101 hE r100 fl_X11_1 rfl rfl (Nat.le_of_ble_eq_true rfl) dX11_told_11 ?_
    refine aw_iload_n (pc := 14) dX11_told_14 rfl ?_
    refine cx_ldI (pc := 15) hE r101 hp1 dX11_told_15 H (fun x15 hx15 H => ?_)
    refine aw_goto (pc := 16) 24 dX11_told_16 rfl ?_
    exact AW.sel [] rfl (hj24 _ _ hx15 H)
