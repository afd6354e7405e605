/-- X11 forgets ()V -/
def f_X11_forgets (n : Nat)  (mi : Mem) : Option Rz :=
  lp (F := Int → Mem → Option Rz) (fun _ _ => none) (fun w2 v1_2 m2 =>
    if v1_2 < 65536 then (
      stI m2 116 v1_2 0 fun m15 =>
      w2 (w32 (v1_2 + 1)) m15
    ) else
    lp (F := Int → Mem → Option Rz) (fun _ _ => none) (fun w24 v1_24 m24 =>
      if v1_24 < 32768 then (
        stI m24 118 v1_24 0 fun m37 =>
        w24 (w32 (v1_24 + 1)) m37
      ) else
      lp (F := Int → Mem → Option Rz) (fun _ _ => none) (fun w46 v1_46 m46 =>
        if v1_46 < 16384 then (
          stI m46 114 v1_46 0 fun m59 =>
          w46 (w32 (v1_46 + 1)) m59
        ) else
        rt 0 m46
      ) n 0 m24
    ) n 0 m2
  ) n 0 mi
set_option maxRecDepth 100000 in
set_option maxHeartbeats 4000000 in
theorem s_X11_forgets (l : Launch) (sc : g_S) (E : Mem → g_H) (R : Nat → Prop) (hE : LE E R) (hR : RRF R) (n : Nat)    (mi : Mem) (r : Rz) (H : f_X11_forgets n  mi = some r) : AMet l sc yX11_forgets cX11_forgets 2 none 0 0 0 [.ref 100] (E mi) (pV E r) := by
  have r100 : R 100 := hR 100 (Nat.le_of_ble_eq_true rfl) (Nat.le_of_ble_eq_true rfl)
  have r114 : R 114 := hR 114 (Nat.le_of_ble_eq_true rfl) (Nat.le_of_ble_eq_true rfl)
  have r116 : R 116 := hR 116 (Nat.le_of_ble_eq_true rfl) (Nat.le_of_ble_eq_true rfl)
  have r118 : R 118 := hR 118 (Nat.le_of_ble_eq_true rfl) (Nat.le_of_ble_eq_true rfl)
  unfold f_X11_forgets at H
  refine AMet.of (own := RX11) (by decide +kernel) rfl (Nat.le_of_ble_eq_true rfl) [(0, .ref 100)] rfl (fun D base ad => ?_)
  refine cx_iconst (pc := 0) dX11_forgets_0 ?_
  refine aw_istore_n (pc := 1) [(1, iv 0), (0, .ref 100)] dX11_forgets_1 rfl (by decide) ?_
  refine AW.sel [1, 0] rfl (lp_ind (bot := fun _ _ => none) (fun (f9 : Int → Mem → Option Rz) => ∀ (v1_2 : Int) (m2 : Mem), inR v1_2 → f9 v1_2 m2 = some r → AW l D base sc RX11 yX11_forgets cX11_forgets 2 none 0 0 0 ad (E mi) (pV E r) 0 0 (E m2) 2 [(0, .ref 100), (1, iv v1_2)] []) (fun _ _ _ h9 => nomatch h9) (fun w2 ih2 v1_2 m2 hv1_2 H => ?_) n _ _ (inR_lit _ rfl) H)
  refine aw_iload_n (pc := 2) dX11_forgets_2 rfl ?_
  refine cx_ldcw (pc := 3) 65536 dX11_forgets_3 ct_X11_262 (by decide) ?_
  refine cx_icmp_ge (pc := 6) 22 hv1_2 (inR_lit _ rfl) dX11_forgets_6 rfl H (fun H => ?_) (fun H => ?_)
  · -- 6: 9
    refine aw_aload_n (pc := 9) dX11_forgets_9 rfl ?_
    refine cx_gtC (pc := 10) 116 hE r100 fl_X11_119 rfl rfl (Nat.le_of_ble_eq_true rfl) dX11_forgets_10 ?_
    refine aw_iload_n (pc := 13) dX11_forgets_13 rfl ?_
    refine cx_iconst (pc := 14) dX11_forgets_14 ?_
    refine cx_stI (pc := 15) hE r116 hv1_2 dX11_forgets_15 H (fun m15 H => ?_)
    refine cx_iinc (pc := 16) [(1, iv (w32 (v1_2 + 1))), (0, .ref 100)] dX11_forgets_16 rfl rfl (by decide) ?_
    refine aw_goto (pc := 19) 2 dX11_forgets_19 rfl ?_
    exact AW.sel [1, 0] rfl (ih2 _ _ (inR_w32 _) H)
  · -- 6: 22
    refine cx_iconst (pc := 22) dX11_forgets_22 ?_
    refine aw_istore_n (pc := 23) [(1, iv 0), (0, .ref 100)] dX11_forgets_23 rfl (by decide) ?_
    refine AW.sel [1, 0] rfl (lp_ind (bot := fun _ _ => none) (fun (f9 : Int → Mem → Option Rz) => ∀ (v1_24 : Int) (m24 : Mem), inR v1_24 → f9 v1_24 m24 = some r → AW l D base sc RX11 yX11_forgets cX11_forgets 2 none 0 0 0 ad (E mi) (pV E r) 0 0 (E m24) 24 [(0, .ref 100), (1, iv v1_24)] []) (fun _ _ _ h9 => nomatch h9) (fun w24 ih24 v1_24 m24 hv1_24 H => ?_) n _ _ (inR_lit _ rfl) H)
    refine aw_iload_n (pc := 24) dX11_forgets_24 rfl ?_
    refine cx_ldcw (pc := 25) 32768 dX11_forgets_25 ct_X11_263 (by decide) ?_
    refine cx_icmp_ge (pc := 28) 44 hv1_24 (inR_lit _ rfl) dX11_forgets_28 rfl H (fun H => ?_) (fun H => ?_)
    · -- 28: 31
      refine aw_aload_n (pc := 31) dX11_forgets_31 rfl ?_
      refine cx_gtC (pc := 32) 118 hE r100 fl_X11_181 rfl rfl (Nat.le_of_ble_eq_true rfl) dX11_forgets_32 ?_
      refine aw_iload_n (pc := 35) dX11_forgets_35 rfl ?_
      refine cx_iconst (pc := 36) dX11_forgets_36 ?_
      refine cx_stI (pc := 37) hE r118 hv1_24 dX11_forgets_37 H (fun m37 H => ?_)
      refine cx_iinc (pc := 38) [(1, iv (w32 (v1_24 + 1))), (0, .ref 100)] dX11_forgets_38 rfl rfl (by decide) ?_
      refine aw_goto (pc := 41) 24 dX11_forgets_41 rfl ?_
      exact AW.sel [1, 0] rfl (ih24 _ _ (inR_w32 _) H)
    · -- 28: 44
      refine cx_iconst (pc := 44) dX11_forgets_44 ?_
      refine aw_istore_n (pc := 45) [(1, iv 0), (0, .ref 100)] dX11_forgets_45 rfl (by decide) ?_
      refine AW.sel [1, 0] rfl (lp_ind (bot := fun _ _ => none) (fun (f9 : Int → Mem → Option Rz) => ∀ (v1_46 : Int) (m46 : Mem), inR v1_46 → f9 v1_46 m46 = some r → AW l D base sc RX11 yX11_forgets cX11_forgets 2 none 0 0 0 ad (E mi) (pV E r) 0 0 (E m46) 46 [(0, .ref 100), (1, iv v1_46)] []) (fun _ _ _ h9 => nomatch h9) (fun w46 ih46 v1_46 m46 hv1_46 H => ?_) n _ _ (inR_lit _ rfl) H)
      refine aw_iload_n (pc := 46) dX11_forgets_46 rfl ?_
      refine cx_sipush (pc := 47) dX11_forgets_47 (by decide) ?_
      refine cx_icmp_ge (pc := 50) 66 hv1_46 (inR_lit _ rfl) dX11_forgets_50 rfl H (fun H => ?_) (fun H => ?_)
      · -- 50: 53
        refine aw_aload_n (pc := 53) dX11_forgets_53 rfl ?_
        refine cx_gtC (pc := 54) 114 hE r100 fl_X11_46 rfl rfl (Nat.le_of_ble_eq_true rfl) dX11_forgets_54 ?_
        refine aw_iload_n (pc := 57) dX11_forgets_57 rfl ?_
        refine cx_iconst (pc := 58) dX11_forgets_58 ?_
        refine cx_stI (pc := 59) hE r114 hv1_46 dX11_forgets_59 H (fun m59 H => ?_)
        refine cx_iinc (pc := 60) [(1, iv (w32 (v1_46 + 1))), (0, .ref 100)] dX11_forgets_60 rfl rfl (by decide) ?_
        refine aw_goto (pc := 63) 46 dX11_forgets_63 rfl ?_
        exact AW.sel [1, 0] rfl (ih46 _ _ (inR_w32 _) H)
      · -- 50: 66
        exact cx_vret (pc := 66) rfl (Nat.le_of_ble_eq_true rfl) (Nat.le_of_ble_eq_true rfl) dX11_forgets_66 H
/-- X11 gathers ()V -/
def f_X11_gathers (n : Nat)  (mi : Mem) : Option Rz :=
  gtF mi 100 15 fun x1 =>
  jn (fun (m20 : Mem) =>
    cal (f_X11_marksAll n m20) fun _ m21 =>
    cal (f_X11_forgets n m21) fun _ m25 =>
    gtF m25 100 15 fun x29 =>
    ptF m25 100 15 0 fun m35 =>
    ptF m35 100 16 0 fun m40 =>
    lp (F := Int → Mem → Option Rz) (fun _ _ => none) (fun w45 v2_45 m45 =>
      if v2_45 < x29 then (
        ldI m45 126 v2_45 fun x55 =>
        gtF m45 100 32 fun x57 =>
        jn (fun (m82 : Mem) =>
          w45 (w32 (v2_45 + 1)) m82
        ) fun (j82 : Mem → Option Rz) =>
        if x55 = x57 then (
          gtF m45 100 15 fun x66 =>
          cal (f_X11_movesGame n v2_45 x66 m45) fun _ m69 =>
          gtF m69 100 15 fun x74 =>
          ptF m69 100 15 (w32 (x74 + 1)) fun m79 =>
          j82 m79
        ) else
        j82 m45
      ) else
      lp (F := Int → Mem → Option Rz) (fun _ _ => none) (fun w90 v2_90 m90 =>
        gtF m90 100 15 fun x92 =>
        if v2_90 < x92 then (
          cal (f_X11_lists n v2_90 m90) fun _ m100 =>
          w90 (w32 (v2_90 + 1)) m100
        ) else
        lp (F := Int → Mem → Option Rz) (fun _ _ => none) (fun w111 v2_111 m111 =>
          if v2_111 < 8 then (
            ldI m111 129 v2_111 fun x131 =>
            ldI m111 133 x131 fun x132 =>
            stI m111 129 v2_111 x132 fun m133 =>
            ldI m133 132 v2_111 fun x148 =>
            ldI m133 133 x148 fun x149 =>
            stI m133 132 v2_111 x149 fun m150 =>
            w111 (w32 (v2_111 + 1)) m150
          ) else
          lp (F := Int → Mem → Option Rz) (fun _ _ => none) (fun w159 v2_159 m159 =>
            gtF m159 100 39 fun x161 =>
            if v2_159 < x161 then (
              ldI m159 131 v2_159 fun x181 =>
              ldI m159 133 x181 fun x182 =>
              stI m159 131 v2_159 x182 fun m183 =>
              w159 (w32 (v2_159 + 1)) m183
            ) else
            lp (F := Int → Mem → Option Rz) (fun _ _ => none) (fun w192 v2_192 m192 =>
              gtF m192 100 44 fun x194 =>
              if v2_192 < x194 then (
                ldI m192 134 v2_192 fun x214 =>
                ldI m192 133 x214 fun x215 =>
                stI m192 134 v2_192 x215 fun m216 =>
                w192 (w32 (v2_192 + 1)) m216
              ) else
              rt 0 m192
            ) n 0 m159
          ) n 0 m111
        ) n 0 m90
      ) n 0 m45
    ) n 0 m40
  ) fun (j20 : Mem → Option Rz) =>
  if x1 < 7000 then (
    gtF mi 100 16 fun x11 =>
    if x11 < 100000 then (
      rt 0 mi
    ) else
    j20 mi
  ) else
  j20 mi
set_option maxRecDepth 100000 in
set_option maxHeartbeats 4000000 in
theorem s_X11_gathers (l : Launch) (sc : g_S) (E : Mem → g_H) (R : Nat → Prop) (hE : LE E R) (hR : RRF R) (n : Nat)    (mi : Mem) (r : Rz) (H : f_X11_gathers n  mi = some r) : AMet l sc yX11_gathers cX11_gathers 3 none 63 0 0 [.ref 100] (E mi) (pV E r) := by
  have r100 : R 100 := hR 100 (Nat.le_of_ble_eq_true rfl) (Nat.le_of_ble_eq_true rfl)
  have r126 : R 126 := hR 126 (Nat.le_of_ble_eq_true rfl) (Nat.le_of_ble_eq_true rfl)
  have r129 : R 129 := hR 129 (Nat.le_of_ble_eq_true rfl) (Nat.le_of_ble_eq_true rfl)
  have r131 : R 131 := hR 131 (Nat.le_of_ble_eq_true rfl) (Nat.le_of_ble_eq_true rfl)
  have r132 : R 132 := hR 132 (Nat.le_of_ble_eq_true rfl) (Nat.le_of_ble_eq_true rfl)
  have r133 : R 133 := hR 133 (Nat.le_of_ble_eq_true rfl) (Nat.le_of_ble_eq_true rfl)
  have r134 : R 134 := hR 134 (Nat.le_of_ble_eq_true rfl) (Nat.le_of_ble_eq_true rfl)
  unfold f_X11_gathers at H
  refine AMet.of (own := RX11) (by decide +kernel) rfl (Nat.le_of_ble_eq_true rfl) [(0, .ref 100)] rfl (fun D base ad => ?_)
  refine aw_aload_n (pc := 0) dX11_gathers_0 rfl ?_
  refine cx_gtF (pc := 1) hE r100 fl_X11_59 rfl rfl (Nat.le_of_ble_eq_true rfl) dX11_gathers_1 H (fun x1 hx1 H => ?_)
  refine cx_sipush (pc := 4) dX11_gathers_4 (by decide) ?_
  refine jn_ind (fun (f9 : Mem → Option Rz) => ∀ (m20 : Mem), f9 m20 = some r → AW l D base sc RX11 yX11_gathers cX11_gathers 3 none 63 0 0 ad (E mi) (pV E r) 0 0 (E m20) 20 [(0, .ref 100)] []) (fun m20 H => ?_) (fun j20 hj20 H => ?_) H
  · -- 20
    refine aw_aload_n (pc := 20) dX11_gathers_20 rfl ?_
    refine cx_callV (pc := 21) (P := pV) (dC := 62) (mcC := 0) (msC := 0) [] hE r100 (fun r1 H1 => s_X11_marksAll l sc E R hE hR n m20 r1 H1) ca_X11_312 rfl ⟨_, rfl, rfl⟩ rfl rfl (Nat.le_of_ble_eq_true rfl) (Nat.le_of_ble_eq_true rfl) (Nat.le_of_ble_eq_true rfl) (Nat.le_of_ble_eq_true rfl) dX11_gathers_21 H (fun x21 m21 v21 hh21 H hp => ?_)
    refine cx_backV hp ?_
    refine aw_aload_n (pc := 24) dX11_gathers_24 rfl ?_
    refine cx_callV (pc := 25) (P := pV) (dC := 0) (mcC := 0) (msC := 0) [] hE r100 (fun r1 H1 => s_X11_forgets l sc E R hE hR n m21 r1 H1) ca_X11_315 rfl ⟨_, rfl, rfl⟩ rfl rfl (Nat.le_of_ble_eq_true rfl) (Nat.le_of_ble_eq_true rfl) (Nat.le_of_ble_eq_true rfl) (Nat.le_of_ble_eq_true rfl) dX11_gathers_25 H (fun x25 m25 v25 hh25 H hp => ?_)
    refine cx_backV hp ?_
    refine aw_aload_n (pc := 28) dX11_gathers_28 rfl ?_
    refine cx_gtF (pc := 29) hE r100 fl_X11_59 rfl rfl (Nat.le_of_ble_eq_true rfl) dX11_gathers_29 H (fun x29 hx29 H => ?_)
    refine aw_istore_n (pc := 32) [(1, iv x29), (0, .ref 100)] dX11_gathers_32 rfl (by decide) ?_
    refine aw_aload_n (pc := 33) dX11_gathers_33 rfl ?_
    refine cx_iconst (pc := 34) dX11_gathers_34 ?_
    refine cx_ptF (pc := 35) tyX11 hE r100 fl_X11_59 (fun r h => ⟨gty_X11 r h, by cases h; rfl⟩) rfl rfl rfl (Nat.le_of_ble_eq_true rfl) dX11_gathers_35 H (fun m35 H => ?_)
    refine aw_aload_n (pc := 38) dX11_gathers_38 rfl ?_
    refine cx_iconst (pc := 39) dX11_gathers_39 ?_
    refine cx_ptF (pc := 40) tyX11 hE r100 fl_X11_62 (fun r h => ⟨gty_X11 r h, by cases h; rfl⟩) rfl rfl rfl (Nat.le_of_ble_eq_true rfl) dX11_gathers_40 H (fun m40 H => ?_)
    refine cx_iconst (pc := 43) dX11_gathers_43 ?_
    refine aw_istore_n (pc := 44) [(2, iv 0), (1, iv x29), (0, .ref 100)] dX11_gathers_44 rfl (by decide) ?_
    refine AW.sel [2, 1, 0] rfl (lp_ind (bot := fun _ _ => none) (fun (f9 : Int → Mem → Option Rz) => ∀ (v2_45 : Int) (m45 : Mem), inR v2_45 → f9 v2_45 m45 = some r → AW l D base sc RX11 yX11_gathers cX11_gathers 3 none 63 0 0 ad (E mi) (pV E r) 0 0 (E m45) 45 [(0, .ref 100), (1, iv x29), (2, iv v2_45)] []) (fun _ _ _ h9 => nomatch h9) (fun w45 ih45 v2_45 m45 hv2_45 H => ?_) n _ _ (inR_lit _ rfl) H)
    refine aw_iload_n (pc := 45) dX11_gathers_45 rfl ?_
    refine aw_iload_n (pc := 46) dX11_gathers_46 rfl ?_
    refine cx_icmp_ge (pc := 47) 88 hv2_45 hx29 dX11_gathers_47 rfl H (fun H => ?_) (fun H => ?_)
    · -- 47: 50
      refine aw_aload_n (pc := 50) dX11_gathers_50 rfl ?_
      refine cx_gtC (pc := 51) 126 hE r100 fl_X11_209 rfl rfl (Nat.le_of_ble_eq_true rfl) dX11_gathers_51 ?_
      refine aw_iload_n (pc := 54) dX11_gathers_54 rfl ?_
      refine cx_ldI (pc := 55) hE r126 hv2_45 dX11_gathers_55 H (fun x55 hx55 H => ?_)
      refine aw_aload_n (pc := 56) dX11_gathers_56 rfl ?_
      refine cx_gtF (pc := 57) hE r100 fl_X11_212 rfl rfl (Nat.le_of_ble_eq_true rfl) dX11_gathers_57 H (fun x57 hx57 H => ?_)
      refine jn_ind (fun (f9 : Mem → Option Rz) => ∀ (m82 : Mem), f9 m82 = some r → AW l D base sc RX11 yX11_gathers cX11_gathers 3 none 63 0 0 ad (E mi) (pV E r) 0 0 (E m82) 82 [(0, .ref 100), (1, iv x29), (2, iv v2_45)] []) (fun m82 H => ?_) (fun j82 hj82 H => ?_) H
      · -- 82
        refine cx_iinc (pc := 82) [(2, iv (w32 (v2_45 + 1))), (0, .ref 100), (1, iv x29)] dX11_gathers_82 rfl rfl (by decide) ?_
        refine aw_goto (pc := 85) 45 dX11_gathers_85 rfl ?_
        exact AW.sel [1, 2, 0] rfl (ih45 _ _ (inR_w32 _) H)
      refine cx_icmp_ne (pc := 60) 82 hx55 hx57 dX11_gathers_60 rfl H (fun H => ?_) (fun H => ?_)
      · -- 60: 63
        refine aw_aload_n (pc := 63) dX11_gathers_63 rfl ?_
        refine aw_iload_n (pc := 64) dX11_gathers_64 rfl ?_
        refine aw_aload_n (pc := 65) dX11_gathers_65 rfl ?_
        refine cx_gtF (pc := 66) hE r100 fl_X11_59 rfl rfl (Nat.le_of_ble_eq_true rfl) dX11_gathers_66 H (fun x66 hx66 H => ?_)
        refine cx_callV (pc := 69) (P := pV) (dC := 0) (mcC := 0) (msC := 0) [iv v2_45, iv x66] hE r100 (fun r1 H1 => s_X11_movesGame l sc E R hE hR n v2_45 x66 hv2_45 hx66 m45 r1 H1) ca_X11_318 rfl ⟨_, rfl, rfl⟩ rfl rfl (Nat.le_of_ble_eq_true rfl) (Nat.le_of_ble_eq_true rfl) (Nat.le_of_ble_eq_true rfl) (Nat.le_of_ble_eq_true rfl) dX11_gathers_69 H (fun x69 m69 v69 hh69 H hp => ?_)
        refine cx_backV hp ?_
        refine aw_aload_n (pc := 72) dX11_gathers_72 rfl ?_
        refine aw_dup (pc := 73) dX11_gathers_73 rfl ?_
        refine cx_gtF (pc := 74) hE r100 fl_X11_59 rfl rfl (Nat.le_of_ble_eq_true rfl) dX11_gathers_74 H (fun x74 hx74 H => ?_)
        refine cx_iconst (pc := 77) dX11_gathers_77 ?_
        refine cx_iadd (pc := 78) dX11_gathers_78 ?_
        refine cx_ptF (pc := 79) tyX11 hE r100 fl_X11_59 (fun r h => ⟨gty_X11 r h, by cases h; rfl⟩) rfl rfl rfl (Nat.le_of_ble_eq_true rfl) dX11_gathers_79 H (fun m79 H => ?_)
        exact AW.sel [0, 1, 2] rfl (hj82 _ H)
      · -- 60: 82
        exact AW.sel [0, 1, 2] rfl (hj82 _ H)
    · -- 47: 88
      refine cx_iconst (pc := 88) dX11_gathers_88 ?_
      refine aw_istore_n (pc := 89) [(2, iv 0), (0, .ref 100), (1, iv x29)] dX11_gathers_89 rfl (by decide) ?_
      refine AW.sel [1, 0] rfl (lp_ind (bot := fun _ _ => none) (fun (f9 : Int → Mem → Option Rz) => ∀ (v2_90 : Int) (m90 : Mem), inR v2_90 → f9 v2_90 m90 = some r → AW l D base sc RX11 yX11_gathers cX11_gathers 3 none 63 0 0 ad (E mi) (pV E r) 0 0 (E m90) 90 [(0, .ref 100), (2, iv v2_90)] []) (fun _ _ _ h9 => nomatch h9) (fun w90 ih90 v2_90 m90 hv2_90 H => ?_) n _ _ (inR_lit _ rfl) H)
      refine aw_iload_n (pc := 90) dX11_gathers_90 rfl ?_
      refine aw_aload_n (pc := 91) dX11_gathers_91 rfl ?_
      refine cx_gtF (pc := 92) hE r100 fl_X11_59 rfl rfl (Nat.le_of_ble_eq_true rfl) dX11_gathers_92 H (fun x92 hx92 H => ?_)
      refine cx_icmp_ge (pc := 95) 109 hv2_90 hx92 dX11_gathers_95 rfl H (fun H => ?_) (fun H => ?_)
      · -- 95: 98
        refine aw_aload_n (pc := 98) dX11_gathers_98 rfl ?_
        refine aw_iload_n (pc := 99) dX11_gathers_99 rfl ?_
        refine cx_callV (pc := 100) (P := pV) (dC := 2) (mcC := 0) (msC := 0) [iv v2_90] hE r100 (fun r1 H1 => s_X11_lists l sc E R hE hR n v2_90 hv2_90 m90 r1 H1) ca_X11_321 rfl ⟨_, rfl, rfl⟩ rfl rfl (Nat.le_of_ble_eq_true rfl) (Nat.le_of_ble_eq_true rfl) (Nat.le_of_ble_eq_true rfl) (Nat.le_of_ble_eq_true rfl) dX11_gathers_100 H (fun x100 m100 v100 hh100 H hp => ?_)
        refine cx_backV hp ?_
        refine cx_iinc (pc := 103) [(2, iv (w32 (v2_90 + 1))), (0, .ref 100)] dX11_gathers_103 rfl rfl (by decide) ?_
        refine aw_goto (pc := 106) 90 dX11_gathers_106 rfl ?_
        exact AW.sel [1, 0] rfl (ih90 _ _ (inR_w32 _) H)
      · -- 95: 109
        refine cx_iconst (pc := 109) dX11_gathers_109 ?_
        refine aw_istore_n (pc := 110) [(2, iv 0), (0, .ref 100)] dX11_gathers_110 rfl (by decide) ?_
        refine AW.sel [1, 0] rfl (lp_ind (bot := fun _ _ => none) (fun (f9 : Int → Mem → Option Rz) => ∀ (v2_111 : Int) (m111 : Mem), inR v2_111 → f9 v2_111 m111 = some r → AW l D base sc RX11 yX11_gathers cX11_gathers 3 none 63 0 0 ad (E mi) (pV E r) 0 0 (E m111) 111 [(0, .ref 100), (2, iv v2_111)] []) (fun _ _ _ h9 => nomatch h9) (fun w111 ih111 v2_111 m111 hv2_111 H => ?_) n _ _ (inR_lit _ rfl) H)
        refine aw_iload_n (pc := 111) dX11_gathers_111 rfl ?_
        refine cx_bipush (pc := 112) dX11_gathers_112 (by decide) ?_
        refine cx_icmp_ge (pc := 114) 157 hv2_111 (inR_lit _ rfl) dX11_gathers_114 rfl H (fun H => ?_) (fun H => ?_)
        · -- 114: 117
          refine aw_aload_n (pc := 117) dX11_gathers_117 rfl ?_
          refine cx_gtC (pc := 118) 129 hE r100 fl_X11_264 rfl rfl (Nat.le_of_ble_eq_true rfl) dX11_gathers_118 ?_
          refine aw_iload_n (pc := 121) dX11_gathers_121 rfl ?_
          refine aw_aload_n (pc := 122) dX11_gathers_122 rfl ?_
          refine cx_gtC (pc := 123) 133 hE r100 fl_X11_276 rfl rfl (Nat.le_of_ble_eq_true rfl) dX11_gathers_123 ?_
          refine aw_aload_n (pc := 126) dX11_gathers_126 rfl ?_
          refine cx_gtC (pc := 127) 129 hE r100 fl_X11_264 rfl rfl (Nat.le_of_ble_eq_true rfl) dX11_gathers_127 ?_
          refine aw_iload_n (pc := 130) dX11_gathers_130 rfl ?_
          refine cx_ldI (pc := 131) hE r129 hv2_111 dX11_gathers_131 H (fun x131 hx131 H => ?_)
          refine cx_ldI (pc := 132) hE r133 hx131 dX11_gathers_132 H (fun x132 hx132 H => ?_)
          refine cx_stI (pc := 133) hE r129 hv2_111 dX11_gathers_133 H (fun m133 H => ?_)
          refine aw_aload_n (pc := 134) dX11_gathers_134 rfl ?_
          refine cx_gtC (pc := 135) 132 hE r100 fl_X11_273 rfl rfl (Nat.le_of_ble_eq_true rfl) dX11_gathers_135 ?_
          refine aw_iload_n (pc := 138) dX11_gathers_138 rfl ?_
          refine aw_aload_n (pc := 139) dX11_gathers_139 rfl ?_
          refine cx_gtC (pc := 140) 133 hE r100 fl_X11_276 rfl rfl (Nat.le_of_ble_eq_true rfl) dX11_gathers_140 ?_
          refine aw_aload_n (pc := 143) dX11_gathers_143 rfl ?_
          refine cx_gtC (pc := 144) 132 hE r100 fl_X11_273 rfl rfl (Nat.le_of_ble_eq_true rfl) dX11_gathers_144 ?_
          refine aw_iload_n (pc := 147) dX11_gathers_147 rfl ?_
          refine cx_ldI (pc := 148) hE r132 hv2_111 dX11_gathers_148 H (fun x148 hx148 H => ?_)
          refine cx_ldI (pc := 149) hE r133 hx148 dX11_gathers_149 H (fun x149 hx149 H => ?_)
          refine cx_stI (pc := 150) hE r132 hv2_111 dX11_gathers_150 H (fun m150 H => ?_)
          refine cx_iinc (pc := 151) [(2, iv (w32 (v2_111 + 1))), (0, .ref 100)] dX11_gathers_151 rfl rfl (by decide) ?_
          refine aw_goto (pc := 154) 111 dX11_gathers_154 rfl ?_
          exact AW.sel [1, 0] rfl (ih111 _ _ (inR_w32 _) H)
        · -- 114: 157
          refine cx_iconst (pc := 157) dX11_gathers_157 ?_
          refine aw_istore_n (pc := 158) [(2, iv 0), (0, .ref 100)] dX11_gathers_158 rfl (by decide) ?_
          refine AW.sel [1, 0] rfl (lp_ind (bot := fun _ _ => none) (fun (f9 : Int → Mem → Option Rz) => ∀ (v2_159 : Int) (m159 : Mem), inR v2_159 → f9 v2_159 m159 = some r → AW l D base sc RX11 yX11_gathers cX11_gathers 3 none 63 0 0 ad (E mi) (pV E r) 0 0 (E m159) 159 [(0, .ref 100), (2, iv v2_159)] []) (fun _ _ _ h9 => nomatch h9) (fun w159 ih159 v2_159 m159 hv2_159 H => ?_) n _ _ (inR_lit _ rfl) H)
          refine aw_iload_n (pc := 159) dX11_gathers_159 rfl ?_
          refine aw_aload_n (pc := 160) dX11_gathers_160 rfl ?_
          refine cx_gtF (pc := 161) hE r100 fl_X11_303 rfl rfl (Nat.le_of_ble_eq_true rfl) dX11_gathers_161 H (fun x161 hx161 H => ?_)
          refine cx_icmp_ge (pc := 164) 190 hv2_159 hx161 dX11_gathers_164 rfl H (fun H => ?_) (fun H => ?_)
          · -- 164: 167
            refine aw_aload_n (pc := 167) dX11_gathers_167 rfl ?_
            refine cx_gtC (pc := 168) 131 hE r100 fl_X11_270 rfl rfl (Nat.le_of_ble_eq_true rfl) dX11_gathers_168 ?_
            refine aw_iload_n (pc := 171) dX11_gathers_171 rfl ?_
            refine aw_aload_n (pc := 172) dX11_gathers_172 rfl ?_
            refine cx_gtC (pc := 173) 133 hE r100 fl_X11_276 rfl rfl (Nat.le_of_ble_eq_true rfl) dX11_gathers_173 ?_
            refine aw_aload_n (pc := 176) dX11_gathers_176 rfl ?_
            refine cx_gtC (pc := 177) 131 hE r100 fl_X11_270 rfl rfl (Nat.le_of_ble_eq_true rfl) dX11_gathers_177 ?_
            refine aw_iload_n (pc := 180) dX11_gathers_180 rfl ?_
            refine cx_ldI (pc := 181) hE r131 hv2_159 dX11_gathers_181 H (fun x181 hx181 H => ?_)
            refine cx_ldI (pc := 182) hE r133 hx181 dX11_gathers_182 H (fun x182 hx182 H => ?_)
            refine cx_stI (pc := 183) hE r131 hv2_159 dX11_gathers_183 H (fun m183 H => ?_)
            refine cx_iinc (pc := 184) [(2, iv (w32 (v2_159 + 1))), (0, .ref 100)] dX11_gathers_184 rfl rfl (by decide) ?_
            refine aw_goto (pc := 187) 159 dX11_gathers_187 rfl ?_
            exact AW.sel [1, 0] rfl (ih159 _ _ (inR_w32 _) H)
          · -- 164: 190
            refine cx_iconst (pc := 190) dX11_gathers_190 ?_
            refine aw_istore_n (pc := 191) [(2, iv 0), (0, .ref 100)] dX11_gathers_191 rfl (by decide) ?_
            refine AW.sel [1, 0] rfl (lp_ind (bot := fun _ _ => none) (fun (f9 : Int → Mem → Option Rz) => ∀ (v2_192 : Int) (m192 : Mem), inR v2_192 → f9 v2_192 m192 = some r → AW l D base sc RX11 yX11_gathers cX11_gathers 3 none 63 0 0 ad (E mi) (pV E r) 0 0 (E m192) 192 [(0, .ref 100), (2, iv v2_192)] []) (fun _ _ _ h9 => nomatch h9) (fun w192 ih192 v2_192 m192 hv2_192 H => ?_) n _ _ (inR_lit _ rfl) H)
            refine aw_iload_n (pc := 192) dX11_gathers_192 rfl ?_
            refine aw_aload_n (pc := 193) dX11_gathers_193 rfl ?_
            refine cx_gtF (pc := 194) hE r100 fl_X11_309 rfl rfl (Nat.le_of_ble_eq_true rfl) dX11_gathers_194 H (fun x194 hx194 H => ?_)
            refine cx_icmp_ge (pc := 197) 223 hv2_192 hx194 dX11_gathers_197 rfl H (fun H => ?_) (fun H => ?_)
            · -- 197: 200
              refine aw_aload_n (pc := 200) dX11_gathers_200 rfl ?_
              refine cx_gtC (pc := 201) 134 hE r100 fl_X11_279 rfl rfl (Nat.le_of_ble_eq_true rfl) dX11_gathers_201 ?_
              refine aw_iload_n (pc := 204) dX11_gathers_204 rfl ?_
              refine aw_aload_n (pc := 205) dX11_gathers_205 rfl ?_
              refine cx_gtC (pc := 206) 133 hE r100 fl_X11_276 rfl rfl (Nat.le_of_ble_eq_true rfl) dX11_gathers_206 ?_
              refine aw_aload_n (pc := 209) dX11_gathers_209 rfl ?_
              refine cx_gtC (pc := 210) 134 hE r100 fl_X11_279 rfl rfl (Nat.le_of_ble_eq_true rfl) dX11_gathers_210 ?_
              refine aw_iload_n (pc := 213) dX11_gathers_213 rfl ?_
              refine cx_ldI (pc := 214) hE r134 hv2_192 dX11_gathers_214 H (fun x214 hx214 H => ?_)
              refine cx_ldI (pc := 215) hE r133 hx214 dX11_gathers_215 H (fun x215 hx215 H => ?_)
              refine cx_stI (pc := 216) hE r134 hv2_192 dX11_gathers_216 H (fun m216 H => ?_)
              refine cx_iinc (pc := 217) [(2, iv (w32 (v2_192 + 1))), (0, .ref 100)] dX11_gathers_217 rfl rfl (by decide) ?_
              refine aw_goto (pc := 220) 192 dX11_gathers_220 rfl ?_
              exact AW.sel [1, 0] rfl (ih192 _ _ (inR_w32 _) H)
            · -- 197: 223
              exact cx_vret (pc := 223) rfl (Nat.le_of_ble_eq_true rfl) (Nat.le_of_ble_eq_true rfl) dX11_gathers_223 H
  refine cx_icmp_ge (pc := 7) 20 hx1 (inR_lit _ rfl) dX11_gathers_7 rfl H (fun H => ?_) (fun H => ?_)
  · -- 7: 10
    refine aw_aload_n (pc := 10) dX11_gathers_10 rfl ?_
    refine cx_gtF (pc := 11) hE r100 fl_X11_62 rfl rfl (Nat.le_of_ble_eq_true rfl) dX11_gathers_11 H (fun x11 hx11 H => ?_)
    refine cx_ldc (pc := 14) 100000 dX11_gathers_14 ct_X11_113 (by decide) ?_
    refine cx_icmp_ge (pc := 16) 20 hx11 (inR_lit _ rfl) dX11_gathers_16 rfl H (fun H => ?_) (fun H => ?_)
    · -- 16: 19
      exact cx_vret (pc := 19) rfl (Nat.le_of_ble_eq_true rfl) (Nat.le_of_ble_eq_true rfl) dX11_gathers_19 H
    · -- 16: 20
      exact AW.sel [0] rfl (hj20 _ H)
  · -- 7: 20
    exact AW.sel [0] rfl (hj20 _ H)
/-- X11 slot (II)I -/
def f_X11_slot (n : Nat) (p1 : Int) (p2 : Int) (mi : Mem) : Option Rz :=
  cal (f_X11_isSlot n p1 mi) fun x1 m1 =>
  jn (fun (m17 : Mem) =>
    cal (f_X11_no n 1 m17) fun x19 m19 =>
    rt x19 m19
  ) fun (j17 : Mem → Option Rz) =>
  if x1 = 0 then (
    j17 m1
  ) else
  cal (f_X11_in n p2 0 8 m1) fun x11 m11 =>
  if x11 = 0 then (
    j17 m11
  ) else
  ldI m11 129 p1 fun x28 =>
  jn (fun (m89 : Mem) =>
    cal (f_X11_optionMany n x28 (w32 (p2 - 2)) m89) fun x94 m94 =>
    rt x94 m94
  ) fun (j89 : Mem → Option Rz) =>
  if p2 = 0 then (
    cal (f_X11_width n x28 m11) fun x78 m78 =>
    rt x78 m78
  ) else
  if p2 = 1 then (
    ldI m11 106 x28 fun x87 =>
    rt x87 m11
  ) else
  if p2 = 2 then (
    j89 m11
  ) else
  if p2 = 3 then (
    j89 m11
  ) else
  if p2 = 4 then (
    cal (f_X11_orderOf n x28 0 m11) fun x101 m101 =>
    rt x101 m101
  ) else
  if p2 = 5 then (
    ldZ m11 110 x28 fun x110 =>
    jn (fun (s0_119 : Int) (m119 : Mem) =>
      rt s0_119 m119
    ) fun (j119 : Int → Mem → Option Rz) =>
    if x110 = 0 then (
      j119 0 m11
    ) else
    j119 1 m11
  ) else
  if p2 = 6 then (
    ldI m11 109 x28 fun x125 =>
    rt x125 m11
  ) else
  if p2 = 7 then (
    ldI m11 108 x28 fun x132 =>
    rt x132 m11
  ) else
  ldI m11 107 x28 fun x139 =>
  jn (fun (s0_151 : Int) (m151 : Mem) =>
    rt s0_151 m151
  ) fun (j151 : Int → Mem → Option Rz) =>
  if x139 = (-1000) then (
    j151 0 m11
  ) else
  j151 1 m11
set_option maxRecDepth 100000 in
set_option maxHeartbeats 4000000 in
theorem s_X11_slot (l : Launch) (sc : g_S) (E : Mem → g_H) (R : Nat → Prop) (hE : LE E R) (hR : RRF R) (n : Nat)  (p1 : Int) (p2 : Int) (hp1 : inR p1) (hp2 : inR p2) (mi : Mem) (r : Rz) (H : f_X11_slot n p1 p2 mi = some r) : AMet l sc yX11_slot cX11_slot 4 (some FieldType.int) 203 0 0 [.ref 100, iv p1, iv p2] (E mi) (pI E r) := by
  have r100 : R 100 := hR 100 (Nat.le_of_ble_eq_true rfl) (Nat.le_of_ble_eq_true rfl)
  have r106 : R 106 := hR 106 (Nat.le_of_ble_eq_true rfl) (Nat.le_of_ble_eq_true rfl)
  have r107 : R 107 := hR 107 (Nat.le_of_ble_eq_true rfl) (Nat.le_of_ble_eq_true rfl)
  have r108 : R 108 := hR 108 (Nat.le_of_ble_eq_true rfl) (Nat.le_of_ble_eq_true rfl)
  have r109 : R 109 := hR 109 (Nat.le_of_ble_eq_true rfl) (Nat.le_of_ble_eq_true rfl)
  have r110 : R 110 := hR 110 (Nat.le_of_ble_eq_true rfl) (Nat.le_of_ble_eq_true rfl)
  have r129 : R 129 := hR 129 (Nat.le_of_ble_eq_true rfl) (Nat.le_of_ble_eq_true rfl)
  unfold f_X11_slot at H
  refine AMet.of (own := RX11) (by decide +kernel) rfl (Nat.le_of_ble_eq_true rfl) [(0, .ref 100), (1, iv p1), (2, iv p2)] rfl (fun D base ad => ?_)
  refine aw_iload_n (pc := 0) dX11_slot_0 rfl ?_
  refine cx_callS (pc := 1) (P := pI) (dC := 1) (mcC := 0) (msC := 0) [iv p1] (fun r1 H1 => s_X11_isSlot l sc E R hE hR n p1 hp1 mi r1 H1) ca_X11_324 rfl rfl (Nat.le_of_ble_eq_true rfl) (Nat.le_of_ble_eq_true rfl) (Nat.le_of_ble_eq_true rfl) (Nat.le_of_ble_eq_true rfl) dX11_slot_1 H (fun x1 m1 v1 hh1 H hp => ?_)
  refine cx_backI hp (fun hx1 => ?_)
  refine jn_ind (fun (f9 : Mem → Option Rz) => ∀ (m17 : Mem), f9 m17 = some r → AW l D base sc RX11 yX11_slot cX11_slot 4 (some FieldType.int) 203 0 0 ad (E mi) (pI E r) 0 0 (E m17) 17 [(0, .ref 100)] []) (fun m17 H => ?_) (fun j17 hj17 H => ?_) H
  · -- 17
    refine aw_aload_n (pc := 17) dX11_slot_17 rfl ?_
    refine cx_iconst (pc := 18) dX11_slot_18 ?_
    refine cx_callV (pc := 19) (P := pI) (dC := 0) (mcC := 0) (msC := 0) [iv 1] hE r100 (fun r1 H1 => s_X11_no l sc E R hE hR n 1 (inR_lit _ rfl) m17 r1 H1) ca_X11_300 rfl ⟨_, rfl, rfl⟩ rfl rfl (Nat.le_of_ble_eq_true rfl) (Nat.le_of_ble_eq_true rfl) (Nat.le_of_ble_eq_true rfl) (Nat.le_of_ble_eq_true rfl) dX11_slot_19 H (fun x19 m19 v19 hh19 H hp => ?_)
    refine cx_backI hp (fun hx19 => ?_)
    exact cx_iret (pc := 22) hx19 rfl (Nat.le_of_ble_eq_true rfl) (Nat.le_of_ble_eq_true rfl) dX11_slot_22 H
  refine cx_if_eq (pc := 4) 17 hx1 dX11_slot_4 rfl H (fun H => ?_) (fun H => ?_)
  · -- 4: 17
    exact AW.sel [0] rfl (hj17 _ H)
  · -- 4: 7
    refine aw_iload_n (pc := 7) dX11_slot_7 rfl ?_
    refine cx_iconst (pc := 8) dX11_slot_8 ?_
    refine cx_bipush (pc := 9) dX11_slot_9 (by decide) ?_
    refine cx_callS (pc := 11) (P := pI) (dC := 0) (mcC := 0) (msC := 0) [iv p2, iv 0, iv 8] (fun r1 H1 => s_X11_in l sc E R hE hR n p2 0 8 hp2 (inR_lit _ rfl) (inR_lit _ rfl) m1 r1 H1) ca_X11_106 rfl rfl (Nat.le_of_ble_eq_true rfl) (Nat.le_of_ble_eq_true rfl) (Nat.le_of_ble_eq_true rfl) (Nat.le_of_ble_eq_true rfl) dX11_slot_11 H (fun x11 m11 v11 hh11 H hp => ?_)
    refine cx_backI hp (fun hx11 => ?_)
    refine cx_if_ne (pc := 14) 23 hx11 dX11_slot_14 rfl H (fun H => ?_) (fun H => ?_)
    · -- 14: 17
      exact AW.sel [0] rfl (hj17 _ H)
    · -- 14: 23
      refine aw_aload_n (pc := 23) dX11_slot_23 rfl ?_
      refine cx_gtC (pc := 24) 129 hE r100 fl_X11_264 rfl rfl (Nat.le_of_ble_eq_true rfl) dX11_slot_24 ?_
      refine aw_iload_n (pc := 27) dX11_slot_27 rfl ?_
      refine cx_ldI (pc := 28) hE r129 hp1 dX11_slot_28 H (fun x28 hx28 H => ?_)
      refine aw_istore_n (pc := 29) [(3, iv x28), (0, .ref 100), (1, iv p1), (2, iv p2)] dX11_slot_29 rfl (by decide) ?_
      refine aw_iload_n (pc := 30) dX11_slot_30 rfl ?_
      refine jn_ind (fun (f9 : Mem → Option Rz) => ∀ (m89 : Mem), f9 m89 = some r → AW l D base sc RX11 yX11_slot cX11_slot 4 (some FieldType.int) 203 0 0 ad (E mi) (pI E r) 0 0 (E m89) 89 [(0, .ref 100), (2, iv p2), (3, iv x28)] []) (fun m89 H => ?_) (fun j89 hj89 H => ?_) H
      · -- 89
        refine aw_aload_n (pc := 89) dX11_slot_89 rfl ?_
        refine aw_iload_n (pc := 90) dX11_slot_90 rfl ?_
        refine aw_iload_n (pc := 91) dX11_slot_91 rfl ?_
        refine cx_iconst (pc := 92) dX11_slot_92 ?_
        refine cx_isub (pc := 93) dX11_slot_93 ?_
        refine cx_callV (pc := 94) (P := pI) (dC := 0) (mcC := 0) (msC := 0) [iv x28, iv (w32 (p2 - 2))] hE r100 (fun r1 H1 => s_X11_optionMany l sc E R hE hR n x28 (w32 (p2 - 2)) hx28 (inR_w32 _) m89 r1 H1) ca_X11_327 rfl ⟨_, rfl, rfl⟩ rfl rfl (Nat.le_of_ble_eq_true rfl) (Nat.le_of_ble_eq_true rfl) (Nat.le_of_ble_eq_true rfl) (Nat.le_of_ble_eq_true rfl) dX11_slot_94 H (fun x94 m94 v94 hh94 H hp => ?_)
        refine cx_backI hp (fun hx94 => ?_)
        exact cx_iret (pc := 97) hx94 rfl (Nat.le_of_ble_eq_true rfl) (Nat.le_of_ble_eq_true rfl) dX11_slot_97 H
      rcases sw_eq H with ⟨q31_0, H⟩ | ⟨q31_0, H⟩
      · -- 31 case 0
        refine cx_tabIn (pc := 31) 76 0 q31_0 dX11_slot_31 (by decide) (by decide) rfl rfl ?_
        refine aw_aload_n (pc := 76) dX11_slot_76 rfl ?_
        refine aw_iload_n (pc := 77) dX11_slot_77 rfl ?_
        refine cx_callV (pc := 78) (P := pI) (dC := 61) (mcC := 0) (msC := 0) [iv x28] hE r100 (fun r1 H1 => s_X11_width l sc E R hE hR n x28 hx28 m11 r1 H1) ca_X11_218 rfl ⟨_, rfl, rfl⟩ rfl rfl (Nat.le_of_ble_eq_true rfl) (Nat.le_of_ble_eq_true rfl) (Nat.le_of_ble_eq_true rfl) (Nat.le_of_ble_eq_true rfl) dX11_slot_78 H (fun x78 m78 v78 hh78 H hp => ?_)
        refine cx_backI hp (fun hx78 => ?_)
        exact cx_iret (pc := 81) hx78 rfl (Nat.le_of_ble_eq_true rfl) (Nat.le_of_ble_eq_true rfl) dX11_slot_81 H
      rcases sw_eq H with ⟨q31_1, H⟩ | ⟨q31_1, H⟩
      · -- 31 case 1
        refine cx_tabIn (pc := 31) 82 1 q31_1 dX11_slot_31 (by decide) (by decide) rfl rfl ?_
        refine aw_aload_n (pc := 82) dX11_slot_82 rfl ?_
        refine cx_gtC (pc := 83) 106 hE r100 fl_X11_103 rfl rfl (Nat.le_of_ble_eq_true rfl) dX11_slot_83 ?_
        refine aw_iload_n (pc := 86) dX11_slot_86 rfl ?_
        refine cx_ldI (pc := 87) hE r106 hx28 dX11_slot_87 H (fun x87 hx87 H => ?_)
        exact cx_iret (pc := 88) hx87 rfl (Nat.le_of_ble_eq_true rfl) (Nat.le_of_ble_eq_true rfl) dX11_slot_88 H
      rcases sw_eq H with ⟨q31_2, H⟩ | ⟨q31_2, H⟩
      · -- 31 case 2
        refine cx_tabIn (pc := 31) 89 2 q31_2 dX11_slot_31 (by decide) (by decide) rfl rfl ?_
        exact AW.sel [1, 3, 0] rfl (hj89 _ H)
      rcases sw_eq H with ⟨q31_3, H⟩ | ⟨q31_3, H⟩
      · -- 31 case 3
        refine cx_tabIn (pc := 31) 89 3 q31_3 dX11_slot_31 (by decide) (by decide) rfl rfl ?_
        exact AW.sel [1, 3, 0] rfl (hj89 _ H)
      rcases sw_eq H with ⟨q31_4, H⟩ | ⟨q31_4, H⟩
      · -- 31 case 4
        refine cx_tabIn (pc := 31) 98 4 q31_4 dX11_slot_31 (by decide) (by decide) rfl rfl ?_
        refine aw_aload_n (pc := 98) dX11_slot_98 rfl ?_
        refine aw_iload_n (pc := 99) dX11_slot_99 rfl ?_
        refine cx_iconst (pc := 100) dX11_slot_100 ?_
        refine cx_callV (pc := 101) (P := pI) (dC := 202) (mcC := 0) (msC := 0) [iv x28, iv 0] hE r100 (fun r1 H1 => s_X11_orderOf l sc E R hE hR n x28 0 hx28 (inR_lit _ rfl) m11 r1 H1) ca_X11_330 rfl ⟨_, rfl, rfl⟩ rfl rfl (Nat.le_of_ble_eq_true rfl) (Nat.le_of_ble_eq_true rfl) (Nat.le_of_ble_eq_true rfl) (Nat.le_of_ble_eq_true rfl) dX11_slot_101 H (fun x101 m101 v101 hh101 H hp => ?_)
        refine cx_backI hp (fun hx101 => ?_)
        exact cx_iret (pc := 104) hx101 rfl (Nat.le_of_ble_eq_true rfl) (Nat.le_of_ble_eq_true rfl) dX11_slot_104 H
      rcases sw_eq H with ⟨q31_5, H⟩ | ⟨q31_5, H⟩
      · -- 31 case 5
        refine cx_tabIn (pc := 31) 105 5 q31_5 dX11_slot_31 (by decide) (by decide) rfl rfl ?_
        refine aw_aload_n (pc := 105) dX11_slot_105 rfl ?_
        refine cx_gtC (pc := 106) 110 hE r100 fl_X11_91 rfl rfl (Nat.le_of_ble_eq_true rfl) dX11_slot_106 ?_
        refine aw_iload_n (pc := 109) dX11_slot_109 rfl ?_
        refine cx_ldZ (pc := 110) hE r110 hx28 dX11_slot_110 H (fun x110 hx110 H => ?_)
        refine jn_ind (fun (f9 : Int → Mem → Option Rz) => ∀ (s0_119 : Int) (m119 : Mem), inR s0_119 → f9 s0_119 m119 = some r → AW l D base sc RX11 yX11_slot cX11_slot 4 (some FieldType.int) 203 0 0 ad (E mi) (pI E r) 0 0 (E m119) 119 [] [iv s0_119]) (fun s0_119 m119 hs0_119 H => ?_) (fun j119 hj119 H => ?_) H
        · -- 119
          exact cx_iret (pc := 119) hs0_119 rfl (Nat.le_of_ble_eq_true rfl) (Nat.le_of_ble_eq_true rfl) dX11_slot_119 H
        refine cx_if_eq (pc := 111) 118 hx110 dX11_slot_111 rfl H (fun H => ?_) (fun H => ?_)
        · -- 111: 118
          refine cx_iconst (pc := 118) dX11_slot_118 ?_
          exact AW.sel [] rfl (hj119 _ _ (inR_lit _ rfl) H)
        · -- 111: 114
          refine cx_iconst (pc := 114) dX11_slot_114 ?_
          refine aw_goto (pc := 115) 119 dX11_slot_115 rfl ?_
          exact AW.sel [] rfl (hj119 _ _ (inR_lit _ rfl) H)
      rcases sw_eq H with ⟨q31_6, H⟩ | ⟨q31_6, H⟩
      · -- 31 case 6
        refine cx_tabIn (pc := 31) 120 6 q31_6 dX11_slot_31 (by decide) (by decide) rfl rfl ?_
        refine aw_aload_n (pc := 120) dX11_slot_120 rfl ?_
        refine cx_gtC (pc := 121) 109 hE r100 fl_X11_97 rfl rfl (Nat.le_of_ble_eq_true rfl) dX11_slot_121 ?_
        refine aw_iload_n (pc := 124) dX11_slot_124 rfl ?_
        refine cx_ldI (pc := 125) hE r109 hx28 dX11_slot_125 H (fun x125 hx125 H => ?_)
        exact cx_iret (pc := 126) hx125 rfl (Nat.le_of_ble_eq_true rfl) (Nat.le_of_ble_eq_true rfl) dX11_slot_126 H
      rcases sw_eq H with ⟨q31_7, H⟩ | ⟨q31_7, H⟩
      · -- 31 case 7
        refine cx_tabIn (pc := 31) 127 7 q31_7 dX11_slot_31 (by decide) (by decide) rfl rfl ?_
        refine aw_aload_n (pc := 127) dX11_slot_127 rfl ?_
        refine cx_gtC (pc := 128) 108 hE r100 fl_X11_85 rfl rfl (Nat.le_of_ble_eq_true rfl) dX11_slot_128 ?_
        refine aw_iload_n (pc := 131) dX11_slot_131 rfl ?_
        refine cx_ldI (pc := 132) hE r108 hx28 dX11_slot_132 H (fun x132 hx132 H => ?_)
        exact cx_iret (pc := 133) hx132 rfl (Nat.le_of_ble_eq_true rfl) (Nat.le_of_ble_eq_true rfl) dX11_slot_133 H
      refine cx_tabOut (pc := 31) 134 hp2 dX11_slot_31 (by omega) rfl ?_
      refine aw_aload_n (pc := 134) dX11_slot_134 rfl ?_
      refine cx_gtC (pc := 135) 107 hE r100 fl_X11_79 rfl rfl (Nat.le_of_ble_eq_true rfl) dX11_slot_135 ?_
      refine aw_iload_n (pc := 138) dX11_slot_138 rfl ?_
      refine cx_ldI (pc := 139) hE r107 hx28 dX11_slot_139 H (fun x139 hx139 H => ?_)
      refine cx_sipush (pc := 140) dX11_slot_140 (by decide) ?_
      refine jn_ind (fun (f9 : Int → Mem → Option Rz) => ∀ (s0_151 : Int) (m151 : Mem), inR s0_151 → f9 s0_151 m151 = some r → AW l D base sc RX11 yX11_slot cX11_slot 4 (some FieldType.int) 203 0 0 ad (E mi) (pI E r) 0 0 (E m151) 151 [] [iv s0_151]) (fun s0_151 m151 hs0_151 H => ?_) (fun j151 hj151 H => ?_) H
      · -- 151
        exact cx_iret (pc := 151) hs0_151 rfl (Nat.le_of_ble_eq_true rfl) (Nat.le_of_ble_eq_true rfl) dX11_slot_151 H
      refine cx_icmp_ne (pc := 143) 150 hx139 (inR_lit _ rfl) dX11_slot_143 rfl H (fun H => ?_) (fun H => ?_)
      · -- 143: 146
        refine cx_iconst (pc := 146) dX11_slot_146 ?_
        refine aw_goto (pc := 147) 151 dX11_slot_147 rfl ?_
        exact AW.sel [] rfl (hj151 _ _ (inR_lit _ rfl) H)
      · -- 143: 150
        refine cx_iconst (pc := 150) dX11_slot_150 ?_
        exact AW.sel [] rfl (hj151 _ _ (inR_lit _ rfl) H)
/-- X11 integer (I)I -/
def f_X11_integer (n : Nat) (p1 : Int) (mi : Mem) : Option Rz :=
  cal (f_X11_isSlot n p1 mi) fun x1 m1 =>
  if x1 = 0 then (
    cal (f_X11_no n 1 m1) fun x9 m9 =>
    rt x9 m9
  ) else
  ldI m1 129 p1 fun x22 =>
  ldI m1 107 x22 fun x23 =>
  jn (fun (s0_49 : Int) (m49 : Mem) =>
    rt s0_49 m49
  ) fun (j49 : Int → Mem → Option Rz) =>
  if x23 = (-1000) then (
    cal (f_X11_no n 2 m1) fun x32 m32 =>
    j49 x32 m32
  ) else
  ldI m1 129 p1 fun x47 =>
  ldI m1 107 x47 fun x48 =>
  j49 x48 m1
set_option maxRecDepth 100000 in
set_option maxHeartbeats 4000000 in
theorem s_X11_integer (l : Launch) (sc : g_S) (E : Mem → g_H) (R : Nat → Prop) (hE : LE E R) (hR : RRF R) (n : Nat)  (p1 : Int) (hp1 : inR p1) (mi : Mem) (r : Rz) (H : f_X11_integer n p1 mi = some r) : AMet l sc yX11_integer cX11_integer 2 (some FieldType.int) 2 0 0 [.ref 100, iv p1] (E mi) (pI E r) := by
  have r100 : R 100 := hR 100 (Nat.le_of_ble_eq_true rfl) (Nat.le_of_ble_eq_true rfl)
  have r107 : R 107 := hR 107 (Nat.le_of_ble_eq_true rfl) (Nat.le_of_ble_eq_true rfl)
  have r129 : R 129 := hR 129 (Nat.le_of_ble_eq_true rfl) (Nat.le_of_ble_eq_true rfl)
  unfold f_X11_integer at H
  refine AMet.of (own := RX11) (by decide +kernel) rfl (Nat.le_of_ble_eq_true rfl) [(0, .ref 100), (1, iv p1)] rfl (fun D base ad => ?_)
  refine aw_iload_n (pc := 0) dX11_integer_0 rfl ?_
  refine cx_callS (pc := 1) (P := pI) (dC := 1) (mcC := 0) (msC := 0) [iv p1] (fun r1 H1 => s_X11_isSlot l sc E R hE hR n p1 hp1 mi r1 H1) ca_X11_324 rfl rfl (Nat.le_of_ble_eq_true rfl) (Nat.le_of_ble_eq_true rfl) (Nat.le_of_ble_eq_true rfl) (Nat.le_of_ble_eq_true rfl) dX11_integer_1 H (fun x1 m1 v1 hh1 H hp => ?_)
  refine cx_backI hp (fun hx1 => ?_)
  refine cx_if_ne (pc := 4) 13 hx1 dX11_integer_4 rfl H (fun H => ?_) (fun H => ?_)
  · -- 4: 7
    refine aw_aload_n (pc := 7) dX11_integer_7 rfl ?_
    refine cx_iconst (pc := 8) dX11_integer_8 ?_
    refine cx_callV (pc := 9) (P := pI) (dC := 0) (mcC := 0) (msC := 0) [iv 1] hE r100 (fun r1 H1 => s_X11_no l sc E R hE hR n 1 (inR_lit _ rfl) m1 r1 H1) ca_X11_300 rfl ⟨_, rfl, rfl⟩ rfl rfl (Nat.le_of_ble_eq_true rfl) (Nat.le_of_ble_eq_true rfl) (Nat.le_of_ble_eq_true rfl) (Nat.le_of_ble_eq_true rfl) dX11_integer_9 H (fun x9 m9 v9 hh9 H hp => ?_)
    refine cx_backI hp (fun hx9 => ?_)
    exact cx_iret (pc := 12) hx9 rfl (Nat.le_of_ble_eq_true rfl) (Nat.le_of_ble_eq_true rfl) dX11_integer_12 H
  · -- 4: 13
    refine aw_aload_n (pc := 13) dX11_integer_13 rfl ?_
    refine cx_gtC (pc := 14) 107 hE r100 fl_X11_79 rfl rfl (Nat.le_of_ble_eq_true rfl) dX11_integer_14 ?_
    refine aw_aload_n (pc := 17) dX11_integer_17 rfl ?_
    refine cx_gtC (pc := 18) 129 hE r100 fl_X11_264 rfl rfl (Nat.le_of_ble_eq_true rfl) dX11_integer_18 ?_
    refine aw_iload_n (pc := 21) dX11_integer_21 rfl ?_
    refine cx_ldI (pc := 22) hE r129 hp1 dX11_integer_22 H (fun x22 hx22 H => ?_)
    refine cx_ldI (pc := 23) hE r107 hx22 dX11_integer_23 H (fun x23 hx23 H => ?_)
    refine cx_sipush (pc := 24) dX11_integer_24 (by decide) ?_
    refine jn_ind (fun (f9 : Int → Mem → Option Rz) => ∀ (s0_49 : Int) (m49 : Mem), inR s0_49 → f9 s0_49 m49 = some r → AW l D base sc RX11 yX11_integer cX11_integer 2 (some FieldType.int) 2 0 0 ad (E mi) (pI E r) 0 0 (E m49) 49 [] [iv s0_49]) (fun s0_49 m49 hs0_49 H => ?_) (fun j49 hj49 H => ?_) H
    · -- 49
      exact cx_iret (pc := 49) hs0_49 rfl (Nat.le_of_ble_eq_true rfl) (Nat.le_of_ble_eq_true rfl) dX11_integer_49 H
    refine cx_icmp_ne (pc := 27) 38 hx23 (inR_lit _ rfl) dX11_integer_27 rfl H (fun H => ?_) (fun H => ?_)
    · -- 27: 30
      refine aw_aload_n (pc := 30) dX11_integer_30 rfl ?_
      refine cx_iconst (pc := 31) dX11_integer_31 ?_
      refine cx_callV (pc := 32) (P := pI) (dC := 0) (mcC := 0) (msC := 0) [iv 2] hE r100 (fun r1 H1 => s_X11_no l sc E R hE hR n 2 (inR_lit _ rfl) m1 r1 H1) ca_X11_300 rfl ⟨_, rfl, rfl⟩ rfl rfl (Nat.le_of_ble_eq_true rfl) (Nat.le_of_ble_eq_true rfl) (Nat.le_of_ble_eq_true rfl) (Nat.le_of_ble_eq_true rfl) dX11_integer_32 H (fun x32 m32 v32 hh32 H hp => ?_)
      refine cx_backI hp (fun hx32 => ?_)
      refine aw_goto (pc := 35) 49 dX11_integer_35 rfl ?_
      exact AW.sel [] rfl (hj49 _ _ hx32 H)
    · -- 27: 38
      refine aw_aload_n (pc := 38) dX11_integer_38 rfl ?_
      refine cx_gtC (pc := 39) 107 hE r100 fl_X11_79 rfl rfl (Nat.le_of_ble_eq_true rfl) dX11_integer_39 ?_
      refine aw_aload_n (pc := 42) dX11_integer_42 rfl ?_
      refine cx_gtC (pc := 43) 129 hE r100 fl_X11_264 rfl rfl (Nat.le_of_ble_eq_true rfl) dX11_integer_43 ?_
      refine aw_iload_n (pc := 46) dX11_integer_46 rfl ?_
      refine cx_ldI (pc := 47) hE r129 hp1 dX11_integer_47 H (fun x47 hx47 H => ?_)
      refine cx_ldI (pc := 48) hE r107 hx47 dX11_integer_48 H (fun x48 hx48 H => ?_)
      exact AW.sel [] rfl (hj49 _ _ hx48 H)
/-- X11 word (II)I -/
def f_X11_word (n : Nat) (p1 : Int) (p2 : Int) (mi : Mem) : Option Rz :=
  cal (f_X11_isSlot n p1 mi) fun x1 m1 =>
  if x1 = 0 then (
    cal (f_X11_no n 1 m1) fun x9 m9 =>
    rt x9 m9
  ) else
  ldI m1 129 p1 fun x24 =>
  ldI m1 109 x24 fun x25 =>
  cal (f_X11_in n p2 0 (w32 (x25 - 1)) m1) fun x28 m28 =>
  if x28 = 0 then (
    cal (f_X11_no n 2 m28) fun x36 m36 =>
    rt x36 m36
  ) else
  ldI m28 129 p1 fun x46 =>
  cal (f_X11_sorts n x46 m28) fun _ m47 =>
  ldI m47 129 p1 fun x56 =>
  cal (f_X11_spells n x56 m47) fun _ m57 =>
  ldI m57 127 p2 fun x65 =>
  rt x65 m57
set_option maxRecDepth 100000 in
set_option maxHeartbeats 4000000 in
theorem s_X11_word (l : Launch) (sc : g_S) (E : Mem → g_H) (R : Nat → Prop) (hE : LE E R) (hR : RRF R) (n : Nat)  (p1 : Int) (p2 : Int) (hp1 : inR p1) (hp2 : inR p2) (mi : Mem) (r : Rz) (H : f_X11_word n p1 p2 mi = some r) : AMet l sc yX11_word cX11_word 3 (some FieldType.int) 127 0 0 [.ref 100, iv p1, iv p2] (E mi) (pI E r) := by
  have r100 : R 100 := hR 100 (Nat.le_of_ble_eq_true rfl) (Nat.le_of_ble_eq_true rfl)
  have r109 : R 109 := hR 109 (Nat.le_of_ble_eq_true rfl) (Nat.le_of_ble_eq_true rfl)
  have r127 : R 127 := hR 127 (Nat.le_of_ble_eq_true rfl) (Nat.le_of_ble_eq_true rfl)
  have r129 : R 129 := hR 129 (Nat.le_of_ble_eq_true rfl) (Nat.le_of_ble_eq_true rfl)
  unfold f_X11_word at H
  refine AMet.of (own := RX11) (by decide +kernel) rfl (Nat.le_of_ble_eq_true rfl) [(0, .ref 100), (1, iv p1), (2, iv p2)] rfl (fun D base ad => ?_)
  refine aw_iload_n (pc := 0) dX11_word_0 rfl ?_
  refine cx_callS (pc := 1) (P := pI) (dC := 1) (mcC := 0) (msC := 0) [iv p1] (fun r1 H1 => s_X11_isSlot l sc E R hE hR n p1 hp1 mi r1 H1) ca_X11_324 rfl rfl (Nat.le_of_ble_eq_true rfl) (Nat.le_of_ble_eq_true rfl) (Nat.le_of_ble_eq_true rfl) (Nat.le_of_ble_eq_true rfl) dX11_word_1 H (fun x1 m1 v1 hh1 H hp => ?_)
  refine cx_backI hp (fun hx1 => ?_)
  refine cx_if_ne (pc := 4) 13 hx1 dX11_word_4 rfl H (fun H => ?_) (fun H => ?_)
  · -- 4: 7
    refine aw_aload_n (pc := 7) dX11_word_7 rfl ?_
    refine cx_iconst (pc := 8) dX11_word_8 ?_
    refine cx_callV (pc := 9) (P := pI) (dC := 0) (mcC := 0) (msC := 0) [iv 1] hE r100 (fun r1 H1 => s_X11_no l sc E R hE hR n 1 (inR_lit _ rfl) m1 r1 H1) ca_X11_300 rfl ⟨_, rfl, rfl⟩ rfl rfl (Nat.le_of_ble_eq_true rfl) (Nat.le_of_ble_eq_true rfl) (Nat.le_of_ble_eq_true rfl) (Nat.le_of_ble_eq_true rfl) dX11_word_9 H (fun x9 m9 v9 hh9 H hp => ?_)
    refine cx_backI hp (fun hx9 => ?_)
    exact cx_iret (pc := 12) hx9 rfl (Nat.le_of_ble_eq_true rfl) (Nat.le_of_ble_eq_true rfl) dX11_word_12 H
  · -- 4: 13
    refine aw_iload_n (pc := 13) dX11_word_13 rfl ?_
    refine cx_iconst (pc := 14) dX11_word_14 ?_
    refine aw_aload_n (pc := 15) dX11_word_15 rfl ?_
    refine cx_gtC (pc := 16) 109 hE r100 fl_X11_97 rfl rfl (Nat.le_of_ble_eq_true rfl) dX11_word_16 ?_
    refine aw_aload_n (pc := 19) dX11_word_19 rfl ?_
    refine cx_gtC (pc := 20) 129 hE r100 fl_X11_264 rfl rfl (Nat.le_of_ble_eq_true rfl) dX11_word_20 ?_
    refine aw_iload_n (pc := 23) dX11_word_23 rfl ?_
    refine cx_ldI (pc := 24) hE r129 hp1 dX11_word_24 H (fun x24 hx24 H => ?_)
    refine cx_ldI (pc := 25) hE r109 hx24 dX11_word_25 H (fun x25 hx25 H => ?_)
    refine cx_iconst (pc := 26) dX11_word_26 ?_
    refine cx_isub (pc := 27) dX11_word_27 ?_
    refine cx_callS (pc := 28) (P := pI) (dC := 0) (mcC := 0) (msC := 0) [iv p2, iv 0, iv (w32 (x25 - 1))] (fun r1 H1 => s_X11_in l sc E R hE hR n p2 0 (w32 (x25 - 1)) hp2 (inR_lit _ rfl) (inR_w32 _) m1 r1 H1) ca_X11_106 rfl rfl (Nat.le_of_ble_eq_true rfl) (Nat.le_of_ble_eq_true rfl) (Nat.le_of_ble_eq_true rfl) (Nat.le_of_ble_eq_true rfl) dX11_word_28 H (fun x28 m28 v28 hh28 H hp => ?_)
    refine cx_backI hp (fun hx28 => ?_)
    refine cx_if_ne (pc := 31) 40 hx28 dX11_word_31 rfl H (fun H => ?_) (fun H => ?_)
    · -- 31: 34
      refine aw_aload_n (pc := 34) dX11_word_34 rfl ?_
      refine cx_iconst (pc := 35) dX11_word_35 ?_
      refine cx_callV (pc := 36) (P := pI) (dC := 0) (mcC := 0) (msC := 0) [iv 2] hE r100 (fun r1 H1 => s_X11_no l sc E R hE hR n 2 (inR_lit _ rfl) m28 r1 H1) ca_X11_300 rfl ⟨_, rfl, rfl⟩ rfl rfl (Nat.le_of_ble_eq_true rfl) (Nat.le_of_ble_eq_true rfl) (Nat.le_of_ble_eq_true rfl) (Nat.le_of_ble_eq_true rfl) dX11_word_36 H (fun x36 m36 v36 hh36 H hp => ?_)
      refine cx_backI hp (fun hx36 => ?_)
      exact cx_iret (pc := 39) hx36 rfl (Nat.le_of_ble_eq_true rfl) (Nat.le_of_ble_eq_true rfl) dX11_word_39 H
    · -- 31: 40
      refine aw_aload_n (pc := 40) dX11_word_40 rfl ?_
      refine aw_aload_n (pc := 41) dX11_word_41 rfl ?_
      refine cx_gtC (pc := 42) 129 hE r100 fl_X11_264 rfl rfl (Nat.le_of_ble_eq_true rfl) dX11_word_42 ?_
      refine aw_iload_n (pc := 45) dX11_word_45 rfl ?_
      refine cx_ldI (pc := 46) hE r129 hp1 dX11_word_46 H (fun x46 hx46 H => ?_)
      refine cx_callV (pc := 47) (P := pV) (dC := 126) (mcC := 0) (msC := 0) [iv x46] hE r100 (fun r1 H1 => s_X11_sorts l sc E R hE hR n x46 hx46 m28 r1 H1) ca_X11_249 rfl ⟨_, rfl, rfl⟩ rfl rfl (Nat.le_of_ble_eq_true rfl) (Nat.le_of_ble_eq_true rfl) (Nat.le_of_ble_eq_true rfl) (Nat.le_of_ble_eq_true rfl) dX11_word_47 H (fun x47 m47 v47 hh47 H hp => ?_)
      refine cx_backV hp ?_
      refine aw_aload_n (pc := 50) dX11_word_50 rfl ?_
      refine aw_aload_n (pc := 51) dX11_word_51 rfl ?_
      refine cx_gtC (pc := 52) 129 hE r100 fl_X11_264 rfl rfl (Nat.le_of_ble_eq_true rfl) dX11_word_52 ?_
      refine aw_iload_n (pc := 55) dX11_word_55 rfl ?_
      refine cx_ldI (pc := 56) hE r129 hp1 dX11_word_56 H (fun x56 hx56 H => ?_)
      refine cx_callV (pc := 57) (P := pV) (dC := 63) (mcC := 0) (msC := 0) [iv x56] hE r100 (fun r1 H1 => s_X11_spells l sc E R hE hR n x56 hx56 m47 r1 H1) ca_X11_240 rfl ⟨_, rfl, rfl⟩ rfl rfl (Nat.le_of_ble_eq_true rfl) (Nat.le_of_ble_eq_true rfl) (Nat.le_of_ble_eq_true rfl) (Nat.le_of_ble_eq_true rfl) dX11_word_57 H (fun x57 m57 v57 hh57 H hp => ?_)
      refine cx_backV hp ?_
      refine aw_aload_n (pc := 60) dX11_word_60 rfl ?_
      refine cx_gtC (pc := 61) 127 hE r100 fl_X11_221 rfl rfl (Nat.le_of_ble_eq_true rfl) dX11_word_61 ?_
      refine aw_iload_n (pc := 64) dX11_word_64 rfl ?_
      refine cx_ldI (pc := 65) hE r127 hp2 dX11_word_65 H (fun x65 hx65 H => ?_)
      exact cx_iret (pc := 66) hx65 rfl (Nat.le_of_ble_eq_true rfl) (Nat.le_of_ble_eq_true rfl) dX11_word_66 H
/-- X11 whole (II)I -/
def f_X11_whole (n : Nat) (p1 : Int) (p2 : Int) (mi : Mem) : Option Rz :=
  cal (f_X11_isSlot n p1 mi) fun x1 m1 =>
  jn (fun (m18 : Mem) =>
    cal (f_X11_no n 1 m18) fun x20 m20 =>
    rt x20 m20
  ) fun (j18 : Mem → Option Rz) =>
  if x1 = 0 then (
    j18 m1
  ) else
  cal (f_X11_in n p2 (-9) 9 m1) fun x12 m12 =>
  if x12 = 0 then (
    j18 m12
  ) else
  cal (f_X11_gathers n m12) fun _ m25 =>
  cal (f_X11_wholeOf n p2 m25) fun x32 m32 =>
  cal (f_X11_holds n p1 x32 m32) fun x35 m35 =>
  rt x35 m35
set_option maxRecDepth 100000 in
set_option maxHeartbeats 4000000 in
theorem s_X11_whole (l : Launch) (sc : g_S) (E : Mem → g_H) (R : Nat → Prop) (hE : LE E R) (hR : RRF R) (n : Nat)  (p1 : Int) (p2 : Int) (hp1 : inR p1) (hp2 : inR p2) (mi : Mem) (r : Rz) (H : f_X11_whole n p1 p2 mi = some r) : AMet l sc yX11_whole cX11_whole 3 (some FieldType.int) 308 0 0 [.ref 100, iv p1, iv p2] (E mi) (pI E r) := by
  have r100 : R 100 := hR 100 (Nat.le_of_ble_eq_true rfl) (Nat.le_of_ble_eq_true rfl)
  unfold f_X11_whole at H
  refine AMet.of (own := RX11) (by decide +kernel) rfl (Nat.le_of_ble_eq_true rfl) [(0, .ref 100), (1, iv p1), (2, iv p2)] rfl (fun D base ad => ?_)
  refine aw_iload_n (pc := 0) dX11_whole_0 rfl ?_
  refine cx_callS (pc := 1) (P := pI) (dC := 1) (mcC := 0) (msC := 0) [iv p1] (fun r1 H1 => s_X11_isSlot l sc E R hE hR n p1 hp1 mi r1 H1) ca_X11_324 rfl rfl (Nat.le_of_ble_eq_true rfl) (Nat.le_of_ble_eq_true rfl) (Nat.le_of_ble_eq_true rfl) (Nat.le_of_ble_eq_true rfl) dX11_whole_1 H (fun x1 m1 v1 hh1 H hp => ?_)
  refine cx_backI hp (fun hx1 => ?_)
  refine jn_ind (fun (f9 : Mem → Option Rz) => ∀ (m18 : Mem), f9 m18 = some r → AW l D base sc RX11 yX11_whole cX11_whole 3 (some FieldType.int) 308 0 0 ad (E mi) (pI E r) 0 0 (E m18) 18 [(0, .ref 100)] []) (fun m18 H => ?_) (fun j18 hj18 H => ?_) H
  · -- 18
    refine aw_aload_n (pc := 18) dX11_whole_18 rfl ?_
    refine cx_iconst (pc := 19) dX11_whole_19 ?_
    refine cx_callV (pc := 20) (P := pI) (dC := 0) (mcC := 0) (msC := 0) [iv 1] hE r100 (fun r1 H1 => s_X11_no l sc E R hE hR n 1 (inR_lit _ rfl) m18 r1 H1) ca_X11_300 rfl ⟨_, rfl, rfl⟩ rfl rfl (Nat.le_of_ble_eq_true rfl) (Nat.le_of_ble_eq_true rfl) (Nat.le_of_ble_eq_true rfl) (Nat.le_of_ble_eq_true rfl) dX11_whole_20 H (fun x20 m20 v20 hh20 H hp => ?_)
    refine cx_backI hp (fun hx20 => ?_)
    exact cx_iret (pc := 23) hx20 rfl (Nat.le_of_ble_eq_true rfl) (Nat.le_of_ble_eq_true rfl) dX11_whole_23 H
  refine cx_if_eq (pc := 4) 18 hx1 dX11_whole_4 rfl H (fun H => ?_) (fun H => ?_)
  · -- 4: 18
    exact AW.sel [0] rfl (hj18 _ H)
  · -- 4: 7
    refine aw_iload_n (pc := 7) dX11_whole_7 rfl ?_
    refine cx_bipush (pc := 8) dX11_whole_8 (by decide) ?_
    refine cx_bipush (pc := 10) dX11_whole_10 (by decide) ?_
    refine cx_callS (pc := 12) (P := pI) (dC := 0) (mcC := 0) (msC := 0) [iv p2, iv (-9), iv 9] (fun r1 H1 => s_X11_in l sc E R hE hR n p2 (-9) 9 hp2 (inR_lit _ rfl) (inR_lit _ rfl) m1 r1 H1) ca_X11_106 rfl rfl (Nat.le_of_ble_eq_true rfl) (Nat.le_of_ble_eq_true rfl) (Nat.le_of_ble_eq_true rfl) (Nat.le_of_ble_eq_true rfl) dX11_whole_12 H (fun x12 m12 v12 hh12 H hp => ?_)
    refine cx_backI hp (fun hx12 => ?_)
    refine cx_if_ne (pc := 15) 24 hx12 dX11_whole_15 rfl H (fun H => ?_) (fun H => ?_)
    · -- 15: 18
      exact AW.sel [0] rfl (hj18 _ H)
    · -- 15: 24
      refine aw_aload_n (pc := 24) dX11_whole_24 rfl ?_
      refine cx_callV (pc := 25) (P := pV) (dC := 63) (mcC := 0) (msC := 0) [] hE r100 (fun r1 H1 => s_X11_gathers l sc E R hE hR n m12 r1 H1) ca_X11_333 rfl ⟨_, rfl, rfl⟩ rfl rfl (Nat.le_of_ble_eq_true rfl) (Nat.le_of_ble_eq_true rfl) (Nat.le_of_ble_eq_true rfl) (Nat.le_of_ble_eq_true rfl) dX11_whole_25 H (fun x25 m25 v25 hh25 H hp => ?_)
      refine cx_backV hp ?_
      refine aw_aload_n (pc := 28) dX11_whole_28 rfl ?_
      refine aw_iload_n (pc := 29) dX11_whole_29 rfl ?_
      refine aw_aload_n (pc := 30) dX11_whole_30 rfl ?_
      refine aw_iload_n (pc := 31) dX11_whole_31 rfl ?_
      refine cx_callV (pc := 32) (P := pI) (dC := 307) (mcC := 0) (msC := 0) [iv p2] hE r100 (fun r1 H1 => s_X11_wholeOf l sc E R hE hR n p2 hp2 m25 r1 H1) ca_X11_336 rfl ⟨_, rfl, rfl⟩ rfl rfl (Nat.le_of_ble_eq_true rfl) (Nat.le_of_ble_eq_true rfl) (Nat.le_of_ble_eq_true rfl) (Nat.le_of_ble_eq_true rfl) dX11_whole_32 H (fun x32 m32 v32 hh32 H hp => ?_)
      refine cx_backI hp (fun hx32 => ?_)
      refine cx_callV (pc := 35) (P := pI) (dC := 63) (mcC := 0) (msC := 0) [iv p1, iv x32] hE r100 (fun r1 H1 => s_X11_holds l sc E R hE hR n p1 x32 hp1 hx32 m32 r1 H1) ca_X11_339 rfl ⟨_, rfl, rfl⟩ rfl rfl (Nat.le_of_ble_eq_true rfl) (Nat.le_of_ble_eq_true rfl) (Nat.le_of_ble_eq_true rfl) (Nat.le_of_ble_eq_true rfl) dX11_whole_35 H (fun x35 m35 v35 hh35 H hp => ?_)
      refine cx_backI hp (fun hx35 => ?_)
      exact cx_iret (pc := 38) hx35 rfl (Nat.le_of_ble_eq_true rfl) (Nat.le_of_ble_eq_true rfl) dX11_whole_38 H
/-- X11 heap (II)I -/
def f_X11_heap (n : Nat) (p1 : Int) (p2 : Int) (mi : Mem) : Option Rz :=
  cal (f_X11_isSlot n p1 mi) fun x1 m1 =>
  jn (fun (m17 : Mem) =>
    cal (f_X11_no n 1 m17) fun x19 m19 =>
    rt x19 m19
  ) fun (j17 : Mem → Option Rz) =>
  if x1 = 0 then (
    j17 m1
  ) else
  cal (f_X11_in n p2 0 9 m1) fun x11 m11 =>
  if x11 = 0 then (
    j17 m11
  ) else
  cal (f_X11_gathers n m11) fun _ m24 =>
  cal (f_X11_heapOf n p2 m24) fun x31 m31 =>
  cal (f_X11_holds n p1 x31 m31) fun x34 m34 =>
  rt x34 m34
set_option maxRecDepth 100000 in
set_option maxHeartbeats 4000000 in
theorem s_X11_heap (l : Launch) (sc : g_S) (E : Mem → g_H) (R : Nat → Prop) (hE : LE E R) (hR : RRF R) (n : Nat)  (p1 : Int) (p2 : Int) (hp1 : inR p1) (hp2 : inR p2) (mi : Mem) (r : Rz) (H : f_X11_heap n p1 p2 mi = some r) : AMet l sc yX11_heap cX11_heap 3 (some FieldType.int) 308 0 0 [.ref 100, iv p1, iv p2] (E mi) (pI E r) := by
  have r100 : R 100 := hR 100 (Nat.le_of_ble_eq_true rfl) (Nat.le_of_ble_eq_true rfl)
  unfold f_X11_heap at H
  refine AMet.of (own := RX11) (by decide +kernel) rfl (Nat.le_of_ble_eq_true rfl) [(0, .ref 100), (1, iv p1), (2, iv p2)] rfl (fun D base ad => ?_)
  refine aw_iload_n (pc := 0) dX11_heap_0 rfl ?_
  refine cx_callS (pc := 1) (P := pI) (dC := 1) (mcC := 0) (msC := 0) [iv p1] (fun r1 H1 => s_X11_isSlot l sc E R hE hR n p1 hp1 mi r1 H1) ca_X11_324 rfl rfl (Nat.le_of_ble_eq_true rfl) (Nat.le_of_ble_eq_true rfl) (Nat.le_of_ble_eq_true rfl) (Nat.le_of_ble_eq_true rfl) dX11_heap_1 H (fun x1 m1 v1 hh1 H hp => ?_)
  refine cx_backI hp (fun hx1 => ?_)
  refine jn_ind (fun (f9 : Mem → Option Rz) => ∀ (m17 : Mem), f9 m17 = some r → AW l D base sc RX11 yX11_heap cX11_heap 3 (some FieldType.int) 308 0 0 ad (E mi) (pI E r) 0 0 (E m17) 17 [(0, .ref 100)] []) (fun m17 H => ?_) (fun j17 hj17 H => ?_) H
  · -- 17
    refine aw_aload_n (pc := 17) dX11_heap_17 rfl ?_
    refine cx_iconst (pc := 18) dX11_heap_18 ?_
    refine cx_callV (pc := 19) (P := pI) (dC := 0) (mcC := 0) (msC := 0) [iv 1] hE r100 (fun r1 H1 => s_X11_no l sc E R hE hR n 1 (inR_lit _ rfl) m17 r1 H1) ca_X11_300 rfl ⟨_, rfl, rfl⟩ rfl rfl (Nat.le_of_ble_eq_true rfl) (Nat.le_of_ble_eq_true rfl) (Nat.le_of_ble_eq_true rfl) (Nat.le_of_ble_eq_true rfl) dX11_heap_19 H (fun x19 m19 v19 hh19 H hp => ?_)
    refine cx_backI hp (fun hx19 => ?_)
    exact cx_iret (pc := 22) hx19 rfl (Nat.le_of_ble_eq_true rfl) (Nat.le_of_ble_eq_true rfl) dX11_heap_22 H
  refine cx_if_eq (pc := 4) 17 hx1 dX11_heap_4 rfl H (fun H => ?_) (fun H => ?_)
  · -- 4: 17
    exact AW.sel [0] rfl (hj17 _ H)
  · -- 4: 7
    refine aw_iload_n (pc := 7) dX11_heap_7 rfl ?_
    refine cx_iconst (pc := 8) dX11_heap_8 ?_
    refine cx_bipush (pc := 9) dX11_heap_9 (by decide) ?_
    refine cx_callS (pc := 11) (P := pI) (dC := 0) (mcC := 0) (msC := 0) [iv p2, iv 0, iv 9] (fun r1 H1 => s_X11_in l sc E R hE hR n p2 0 9 hp2 (inR_lit _ rfl) (inR_lit _ rfl) m1 r1 H1) ca_X11_106 rfl rfl (Nat.le_of_ble_eq_true rfl) (Nat.le_of_ble_eq_true rfl) (Nat.le_of_ble_eq_true rfl) (Nat.le_of_ble_eq_true rfl) dX11_heap_11 H (fun x11 m11 v11 hh11 H hp => ?_)
    refine cx_backI hp (fun hx11 => ?_)
    refine cx_if_ne (pc := 14) 23 hx11 dX11_heap_14 rfl H (fun H => ?_) (fun H => ?_)
    · -- 14: 17
      exact AW.sel [0] rfl (hj17 _ H)
    · -- 14: 23
      refine aw_aload_n (pc := 23) dX11_heap_23 rfl ?_
      refine cx_callV (pc := 24) (P := pV) (dC := 63) (mcC := 0) (msC := 0) [] hE r100 (fun r1 H1 => s_X11_gathers l sc E R hE hR n m11 r1 H1) ca_X11_333 rfl ⟨_, rfl, rfl⟩ rfl rfl (Nat.le_of_ble_eq_true rfl) (Nat.le_of_ble_eq_true rfl) (Nat.le_of_ble_eq_true rfl) (Nat.le_of_ble_eq_true rfl) dX11_heap_24 H (fun x24 m24 v24 hh24 H hp => ?_)
      refine cx_backV hp ?_
      refine aw_aload_n (pc := 27) dX11_heap_27 rfl ?_
      refine aw_iload_n (pc := 28) dX11_heap_28 rfl ?_
      refine aw_aload_n (pc := 29) dX11_heap_29 rfl ?_
      refine aw_iload_n (pc := 30) dX11_heap_30 rfl ?_
      refine cx_callV (pc := 31) (P := pI) (dC := 307) (mcC := 0) (msC := 0) [iv p2] hE r100 (fun r1 H1 => s_X11_heapOf l sc E R hE hR n p2 hp2 m24 r1 H1) ca_X11_206 rfl ⟨_, rfl, rfl⟩ rfl rfl (Nat.le_of_ble_eq_true rfl) (Nat.le_of_ble_eq_true rfl) (Nat.le_of_ble_eq_true rfl) (Nat.le_of_ble_eq_true rfl) dX11_heap_31 H (fun x31 m31 v31 hh31 H hp => ?_)
      refine cx_backI hp (fun hx31 => ?_)
      refine cx_callV (pc := 34) (P := pI) (dC := 63) (mcC := 0) (msC := 0) [iv p1, iv x31] hE r100 (fun r1 H1 => s_X11_holds l sc E R hE hR n p1 x31 hp1 hx31 m31 r1 H1) ca_X11_339 rfl ⟨_, rfl, rfl⟩ rfl rfl (Nat.le_of_ble_eq_true rfl) (Nat.le_of_ble_eq_true rfl) (Nat.le_of_ble_eq_true rfl) (Nat.le_of_ble_eq_true rfl) dX11_heap_34 H (fun x34 m34 v34 hh34 H hp => ?_)
      refine cx_backI hp (fun hx34 => ?_)
      exact cx_iret (pc := 37) hx34 rfl (Nat.le_of_ble_eq_true rfl) (Nat.le_of_ble_eq_true rfl) dX11_heap_37 H
/-- X11 ups (III)I -/
def f_X11_ups (n : Nat) (p1 : Int) (p2 : Int) (p3 : Int) (mi : Mem) : Option Rz :=
  cal (f_X11_isSlot n p1 mi) fun x1 m1 =>
  jn (fun (m26 : Mem) =>
    cal (f_X11_no n 1 m26) fun x28 m28 =>
    rt x28 m28
  ) fun (j26 : Mem → Option Rz) =>
  if x1 = 0 then (
    j26 m1
  ) else
  cal (f_X11_in n p2 (-4) 4 m1) fun x11 m11 =>
  if x11 = 0 then (
    j26 m11
  ) else
  cal (f_X11_in n p3 0 5 m11) fun x20 m20 =>
  if x20 = 0 then (
    j26 m20
  ) else
  cal (f_X11_gathers n m20) fun _ m33 =>
  cal (f_X11_heapOf n p3 m33) fun x38 m38 =>
  jn (fun (s0_62 : Int) (m62 : Mem) =>
    lp (F := Int → Int → Mem → Option Rz) (fun _ _ _ => none) (fun w67 v4_67 v6_67 m67 =>
      jn (fun (m80 : Mem) =>
        cal (f_X11_sum n v4_67 s0_62 m80) fun x85 m85 =>
        w67 x85 (w32 (v6_67 + 1)) m85
      ) fun (j80 : Mem → Option Rz) =>
      if v6_67 < p2 then (
        j80 m67
      ) else
      if v6_67 < w32 (-p2) then (
        j80 m67
      ) else
      cal (f_X11_holds n p1 v4_67 m67) fun x100 m100 =>
      rt x100 m100
    ) n x38 0 m62
  ) fun (j62 : Int → Mem → Option Rz) =>
  if p2 < 0 then (
    cal (f_X11_up n m38) fun x49 m49 =>
    cal (f_X11_negativeOf n x49 m49) fun x52 m52 =>
    j62 x52 m52
  ) else
  cal (f_X11_up n m38) fun x59 m59 =>
  j62 x59 m59
set_option maxRecDepth 100000 in
set_option maxHeartbeats 4000000 in
theorem s_X11_ups (l : Launch) (sc : g_S) (E : Mem → g_H) (R : Nat → Prop) (hE : LE E R) (hR : RRF R) (n : Nat)  (p1 : Int) (p2 : Int) (p3 : Int) (hp1 : inR p1) (hp2 : inR p2) (hp3 : inR p3) (mi : Mem) (r : Rz) (H : f_X11_ups n p1 p2 p3 mi = some r) : AMet l sc yX11_ups cX11_ups 7 (some FieldType.int) 408 0 0 [.ref 100, iv p1, iv p2, iv p3] (E mi) (pI E r) := by
  have r100 : R 100 := hR 100 (Nat.le_of_ble_eq_true rfl) (Nat.le_of_ble_eq_true rfl)
  unfold f_X11_ups at H
  refine AMet.of (own := RX11) (by decide +kernel) rfl (Nat.le_of_ble_eq_true rfl) [(0, .ref 100), (1, iv p1), (2, iv p2), (3, iv p3)] rfl (fun D base ad => ?_)
  refine aw_iload_n (pc := 0) dX11_ups_0 rfl ?_
  refine cx_callS (pc := 1) (P := pI) (dC := 1) (mcC := 0) (msC := 0) [iv p1] (fun r1 H1 => s_X11_isSlot l sc E R hE hR n p1 hp1 mi r1 H1) ca_X11_324 rfl rfl (Nat.le_of_ble_eq_true rfl) (Nat.le_of_ble_eq_true rfl) (Nat.le_of_ble_eq_true rfl) (Nat.le_of_ble_eq_true rfl) dX11_ups_1 H (fun x1 m1 v1 hh1 H hp => ?_)
  refine cx_backI hp (fun hx1 => ?_)
  refine jn_ind (fun (f9 : Mem → Option Rz) => ∀ (m26 : Mem), f9 m26 = some r → AW l D base sc RX11 yX11_ups cX11_ups 7 (some FieldType.int) 408 0 0 ad (E mi) (pI E r) 0 0 (E m26) 26 [(0, .ref 100)] []) (fun m26 H => ?_) (fun j26 hj26 H => ?_) H
  · -- 26
    refine aw_aload_n (pc := 26) dX11_ups_26 rfl ?_
    refine cx_iconst (pc := 27) dX11_ups_27 ?_
    refine cx_callV (pc := 28) (P := pI) (dC := 0) (mcC := 0) (msC := 0) [iv 1] hE r100 (fun r1 H1 => s_X11_no l sc E R hE hR n 1 (inR_lit _ rfl) m26 r1 H1) ca_X11_300 rfl ⟨_, rfl, rfl⟩ rfl rfl (Nat.le_of_ble_eq_true rfl) (Nat.le_of_ble_eq_true rfl) (Nat.le_of_ble_eq_true rfl) (Nat.le_of_ble_eq_true rfl) dX11_ups_28 H (fun x28 m28 v28 hh28 H hp => ?_)
    refine cx_backI hp (fun hx28 => ?_)
    exact cx_iret (pc := 31) hx28 rfl (Nat.le_of_ble_eq_true rfl) (Nat.le_of_ble_eq_true rfl) dX11_ups_31 H
  refine cx_if_eq (pc := 4) 26 hx1 dX11_ups_4 rfl H (fun H => ?_) (fun H => ?_)
  · -- 4: 26
    exact AW.sel [0] rfl (hj26 _ H)
  · -- 4: 7
    refine aw_iload_n (pc := 7) dX11_ups_7 rfl ?_
    refine cx_bipush (pc := 8) dX11_ups_8 (by decide) ?_
    refine cx_iconst (pc := 10) dX11_ups_10 ?_
    refine cx_callS (pc := 11) (P := pI) (dC := 0) (mcC := 0) (msC := 0) [iv p2, iv (-4), iv 4] (fun r1 H1 => s_X11_in l sc E R hE hR n p2 (-4) 4 hp2 (inR_lit _ rfl) (inR_lit _ rfl) m1 r1 H1) ca_X11_106 rfl rfl (Nat.le_of_ble_eq_true rfl) (Nat.le_of_ble_eq_true rfl) (Nat.le_of_ble_eq_true rfl) (Nat.le_of_ble_eq_true rfl) dX11_ups_11 H (fun x11 m11 v11 hh11 H hp => ?_)
    refine cx_backI hp (fun hx11 => ?_)
    refine cx_if_eq (pc := 14) 26 hx11 dX11_ups_14 rfl H (fun H => ?_) (fun H => ?_)
    · -- 14: 26
      exact AW.sel [0] rfl (hj26 _ H)
    · -- 14: 17
      refine aw_iload_n (pc := 17) dX11_ups_17 rfl ?_
      refine cx_iconst (pc := 18) dX11_ups_18 ?_
      refine cx_iconst (pc := 19) dX11_ups_19 ?_
      refine cx_callS (pc := 20) (P := pI) (dC := 0) (mcC := 0) (msC := 0) [iv p3, iv 0, iv 5] (fun r1 H1 => s_X11_in l sc E R hE hR n p3 0 5 hp3 (inR_lit _ rfl) (inR_lit _ rfl) m11 r1 H1) ca_X11_106 rfl rfl (Nat.le_of_ble_eq_true rfl) (Nat.le_of_ble_eq_true rfl) (Nat.le_of_ble_eq_true rfl) (Nat.le_of_ble_eq_true rfl) dX11_ups_20 H (fun x20 m20 v20 hh20 H hp => ?_)
      refine cx_backI hp (fun hx20 => ?_)
      refine cx_if_ne (pc := 23) 32 hx20 dX11_ups_23 rfl H (fun H => ?_) (fun H => ?_)
      · -- 23: 26
        exact AW.sel [0] rfl (hj26 _ H)
      · -- 23: 32
        refine aw_aload_n (pc := 32) dX11_ups_32 rfl ?_
        refine cx_callV (pc := 33) (P := pV) (dC := 63) (mcC := 0) (msC := 0) [] hE r100 (fun r1 H1 => s_X11_gathers l sc E R hE hR n m20 r1 H1) ca_X11_333 rfl ⟨_, rfl, rfl⟩ rfl rfl (Nat.le_of_ble_eq_true rfl) (Nat.le_of_ble_eq_true rfl) (Nat.le_of_ble_eq_true rfl) (Nat.le_of_ble_eq_true rfl) dX11_ups_33 H (fun x33 m33 v33 hh33 H hp => ?_)
        refine cx_backV hp ?_
        refine aw_aload_n (pc := 36) dX11_ups_36 rfl ?_
        refine aw_iload_n (pc := 37) dX11_ups_37 rfl ?_
        refine cx_callV (pc := 38) (P := pI) (dC := 307) (mcC := 0) (msC := 0) [iv p3] hE r100 (fun r1 H1 => s_X11_heapOf l sc E R hE hR n p3 hp3 m33 r1 H1) ca_X11_206 rfl ⟨_, rfl, rfl⟩ rfl rfl (Nat.le_of_ble_eq_true rfl) (Nat.le_of_ble_eq_true rfl) (Nat.le_of_ble_eq_true rfl) (Nat.le_of_ble_eq_true rfl) dX11_ups_38 H (fun x38 m38 v38 hh38 H hp => ?_)
        refine cx_backI hp (fun hx38 => ?_)
        refine aw_istore (pc := 41) [(4, iv x38), (0, .ref 100), (1, iv p1), (2, iv p2), (3, iv p3)] dX11_ups_41 rfl (by decide) ?_
        refine aw_iload_n (pc := 43) dX11_ups_43 rfl ?_
        refine jn_ind (fun (f9 : Int → Mem → Option Rz) => ∀ (s0_62 : Int) (m62 : Mem), inR s0_62 → f9 s0_62 m62 = some r → AW l D base sc RX11 yX11_ups cX11_ups 7 (some FieldType.int) 408 0 0 ad (E mi) (pI E r) 0 0 (E m62) 62 [(0, .ref 100), (1, iv p1), (2, iv p2), (4, iv x38)] [iv s0_62]) (fun s0_62 m62 hs0_62 H => ?_) (fun j62 hj62 H => ?_) H
        · -- 62
          refine aw_istore (pc := 62) [(5, iv s0_62), (0, .ref 100), (1, iv p1), (2, iv p2), (4, iv x38)] dX11_ups_62 rfl (by decide) ?_
          refine cx_iconst (pc := 64) dX11_ups_64 ?_
          refine aw_istore (pc := 65) [(6, iv 0), (5, iv s0_62), (0, .ref 100), (1, iv p1), (2, iv p2), (4, iv x38)] dX11_ups_65 rfl (by decide) ?_
          refine AW.sel [2, 3, 4, 5, 1, 0] rfl (lp_ind (bot := fun _ _ _ => none) (fun (f9 : Int → Int → Mem → Option Rz) => ∀ (v4_67 : Int) (v6_67 : Int) (m67 : Mem), inR v4_67 → inR v6_67 → f9 v4_67 v6_67 m67 = some r → AW l D base sc RX11 yX11_ups cX11_ups 7 (some FieldType.int) 408 0 0 ad (E mi) (pI E r) 0 0 (E m67) 67 [(0, .ref 100), (1, iv p1), (2, iv p2), (4, iv v4_67), (5, iv s0_62), (6, iv v6_67)] []) (fun _ _ _ _ _ h9 => nomatch h9) (fun w67 ih67 v4_67 v6_67 m67 hv4_67 hv6_67 H => ?_) n _ _ _ hx38 (inR_lit _ rfl) H)
          refine aw_iload (pc := 67) dX11_ups_67 rfl ?_
          refine aw_iload_n (pc := 69) dX11_ups_69 rfl ?_
          refine jn_ind (fun (f9 : Mem → Option Rz) => ∀ (m80 : Mem), f9 m80 = some r → AW l D base sc RX11 yX11_ups cX11_ups 7 (some FieldType.int) 408 0 0 ad (E mi) (pI E r) 0 0 (E m80) 80 [(0, .ref 100), (1, iv p1), (2, iv p2), (4, iv v4_67), (5, iv s0_62), (6, iv v6_67)] []) (fun m80 H => ?_) (fun j80 hj80 H => ?_) H
          · -- 80
            refine aw_aload_n (pc := 80) dX11_ups_80 rfl ?_
            refine aw_iload (pc := 81) dX11_ups_81 rfl ?_
            refine aw_iload (pc := 83) dX11_ups_83 rfl ?_
            refine cx_callV (pc := 85) (P := pI) (dC := 407) (mcC := 0) (msC := 0) [iv v4_67, iv s0_62] hE r100 (fun r1 H1 => s_X11_sum l sc E R hE hR n v4_67 s0_62 hv4_67 hs0_62 m80 r1 H1) ca_X11_191 rfl ⟨_, rfl, rfl⟩ rfl rfl (Nat.le_of_ble_eq_true rfl) (Nat.le_of_ble_eq_true rfl) (Nat.le_of_ble_eq_true rfl) (Nat.le_of_ble_eq_true rfl) dX11_ups_85 H (fun x85 m85 v85 hh85 H hp => ?_)
            refine cx_backI hp (fun hx85 => ?_)
            refine aw_istore (pc := 88) [(4, iv x85), (0, .ref 100), (1, iv p1), (2, iv p2), (5, iv s0_62), (6, iv v6_67)] dX11_ups_88 rfl (by decide) ?_
            refine cx_iinc (pc := 90) [(6, iv (w32 (v6_67 + 1))), (4, iv x85), (0, .ref 100), (1, iv p1), (2, iv p2), (5, iv s0_62)] dX11_ups_90 rfl rfl (by decide) ?_
            refine aw_goto (pc := 93) 67 dX11_ups_93 rfl ?_
            exact AW.sel [2, 3, 4, 1, 5, 0] rfl (ih67 _ _ _ hx85 (inR_w32 _) H)
          refine cx_icmp_lt (pc := 70) 80 hv6_67 hp2 dX11_ups_70 rfl H (fun H => ?_) (fun H => ?_)
          · -- 70: 80
            exact AW.sel [0, 1, 2, 3, 4, 5] rfl (hj80 _ H)
          · -- 70: 73
            refine aw_iload (pc := 73) dX11_ups_73 rfl ?_
            refine aw_iload_n (pc := 75) dX11_ups_75 rfl ?_
            refine cx_ineg (pc := 76) dX11_ups_76 ?_
            refine cx_icmp_ge (pc := 77) 96 hv6_67 (inR_w32 _) dX11_ups_77 rfl H (fun H => ?_) (fun H => ?_)
            · -- 77: 80
              exact AW.sel [0, 1, 2, 3, 4, 5] rfl (hj80 _ H)
            · -- 77: 96
              refine aw_aload_n (pc := 96) dX11_ups_96 rfl ?_
              refine aw_iload_n (pc := 97) dX11_ups_97 rfl ?_
              refine aw_iload (pc := 98) dX11_ups_98 rfl ?_
              refine cx_callV (pc := 100) (P := pI) (dC := 63) (mcC := 0) (msC := 0) [iv p1, iv v4_67] hE r100 (fun r1 H1 => s_X11_holds l sc E R hE hR n p1 v4_67 hp1 hv4_67 m67 r1 H1) ca_X11_339 rfl ⟨_, rfl, rfl⟩ rfl rfl (Nat.le_of_ble_eq_true rfl) (Nat.le_of_ble_eq_true rfl) (Nat.le_of_ble_eq_true rfl) (Nat.le_of_ble_eq_true rfl) dX11_ups_100 H (fun x100 m100 v100 hh100 H hp => ?_)
              refine cx_backI hp (fun hx100 => ?_)
              exact cx_iret (pc := 103) hx100 rfl (Nat.le_of_ble_eq_true rfl) (Nat.le_of_ble_eq_true rfl) dX11_ups_103 H
        refine cx_if_ge (pc := 44) 58 hp2 dX11_ups_44 rfl H (fun H => ?_) (fun H => ?_)
        · -- 44: 47
          refine aw_aload_n (pc := 47) dX11_ups_47 rfl ?_
          refine aw_aload_n (pc := 48) dX11_ups_48 rfl ?_
          refine cx_callV (pc := 49) (P := pI) (dC := 308) (mcC := 0) (msC := 0) [] hE r100 (fun r1 H1 => s_X11_up l sc E R hE hR n m38 r1 H1) ca_X11_342 rfl ⟨_, rfl, rfl⟩ rfl rfl (Nat.le_of_ble_eq_true rfl) (Nat.le_of_ble_eq_true rfl) (Nat.le_of_ble_eq_true rfl) (Nat.le_of_ble_eq_true rfl) dX11_ups_49 H (fun x49 m49 v49 hh49 H hp => ?_)
          refine cx_backI hp (fun hx49 => ?_)
          refine cx_callV (pc := 52) (P := pI) (dC := 357) (mcC := 0) (msC := 0) [iv x49] hE r100 (fun r1 H1 => s_X11_negativeOf l sc E R hE hR n x49 hx49 m49 r1 H1) ca_X11_200 rfl ⟨_, rfl, rfl⟩ rfl rfl (Nat.le_of_ble_eq_true rfl) (Nat.le_of_ble_eq_true rfl) (Nat.le_of_ble_eq_true rfl) (Nat.le_of_ble_eq_true rfl) dX11_ups_52 H (fun x52 m52 v52 hh52 H hp => ?_)
          refine cx_backI hp (fun hx52 => ?_)
          refine aw_goto (pc := 55) 62 dX11_ups_55 rfl ?_
          exact AW.sel [1, 2, 3, 0] rfl (hj62 _ _ hx52 H)
        · -- 44: 58
          refine aw_aload_n (pc := 58) dX11_ups_58 rfl ?_
          refine cx_callV (pc := 59) (P := pI) (dC := 308) (mcC := 0) (msC := 0) [] hE r100 (fun r1 H1 => s_X11_up l sc E R hE hR n m38 r1 H1) ca_X11_342 rfl ⟨_, rfl, rfl⟩ rfl rfl (Nat.le_of_ble_eq_true rfl) (Nat.le_of_ble_eq_true rfl) (Nat.le_of_ble_eq_true rfl) (Nat.le_of_ble_eq_true rfl) dX11_ups_59 H (fun x59 m59 v59 hh59 H hp => ?_)
          refine cx_backI hp (fun hx59 => ?_)
          exact AW.sel [1, 2, 3, 0] rfl (hj62 _ _ hx59 H)
/-- X11 flowerOf (III)I -/
def b_X11_flowerOf (n : Nat) (g_X11_flowerOf : (Int → Int → Int → Mem → Option Rz)) (p1 : Int) (p2 : Int) (p3 : Int) (mi : Mem) : Option Rz :=
  gtF mi 100 26 fun x1 =>
  lp (F := Int → Mem → Option Rz) (fun _ _ => none) (fun w9 v5_9 m9 =>
    if v5_9 < p1 then (
      cal (f_X11_heapOf n v5_9 m9) fun x19 m19 =>
      cal (f_X11_waits n x19 m19) fun _ m22 =>
      w9 (w32 (v5_9 + 1)) m22
    ) else
    jn (fun (m48 : Mem) =>
      gtF m48 100 26 fun x49 =>
      lp (F := Int → Mem → Option Rz) (fun _ _ => none) (fun w57 v6_57 m57 =>
        if v6_57 < p1 then (
          cal (f_X11_heapOf n v6_57 m57) fun x67 m67 =>
          cal (f_X11_waits n x67 m67) fun _ m70 =>
          w57 (w32 (v6_57 + 1)) m70
        ) else
        jn (fun (m96 : Mem) =>
          cal (f_X11_canonicalOf n x1 x49 m96) fun x101 m101 =>
          rt x101 m101
        ) fun (j96 : Mem → Option Rz) =>
        if 0 < p3 then (
          cal (g_X11_flowerOf p1 p2 (w32 (p3 - 1)) m57) fun x90 m90 =>
          cal (f_X11_waits n x90 m90) fun _ m93 =>
          j96 m93
        ) else
        j96 m57
      ) n 0 m48
    ) fun (j48 : Mem → Option Rz) =>
    if 0 < p2 then (
      cal (g_X11_flowerOf p1 (w32 (p2 - 1)) p3 m9) fun x42 m42 =>
      cal (f_X11_waits n x42 m42) fun _ m45 =>
      j48 m45
    ) else
    j48 m9
  ) n 0 mi
def t_X11_flowerOf (n : Nat) : Nat → (Int → Int → Int → Mem → Option Rz)
  | 0 => (fun _ _ _ _ => none)
  | d + 1 => (b_X11_flowerOf n (t_X11_flowerOf n d))
def h_X11_flowerOf (n d : Nat) : (Int → Int → Int → Mem → Option Rz) := (t_X11_flowerOf n d)
def f_X11_flowerOf (n : Nat) : (Int → Int → Int → Mem → Option Rz) := h_X11_flowerOf n 10
theorem h_X11_flowerOf_s (n d : Nat) (p1 : Int) (p2 : Int) (p3 : Int) (m : Mem) : h_X11_flowerOf n (d + 1) p1 p2 p3 m = b_X11_flowerOf n (h_X11_flowerOf n d) p1 p2 p3 m := rfl
theorem h_X11_flowerOf_0 (n : Nat) (p1 : Int) (p2 : Int) (p3 : Int) (m : Mem) : h_X11_flowerOf n 0 p1 p2 p3 m = none := rfl
def q_X11_flowerOf (l : Launch) (sc : g_S) (E : Mem → g_H) (R : Nat → Prop) (dd : Nat) (g : (Int → Int → Int → Mem → Option Rz)) : Prop := ∀ (p1 : Int) (p2 : Int) (p3 : Int) (m : Mem) (hp1 : inR p1) (hp2 : inR p2) (hp3 : inR p3) (r : Rz) (H : g p1 p2 p3 m = some r), AMet l sc yX11_flowerOf cX11_flowerOf 7 (some FieldType.int) dd 0 0 [.ref 100, iv p1, iv p2, iv p3] (E m) (pI E r)
set_option maxRecDepth 100000 in
set_option maxHeartbeats 4000000 in
theorem sb_X11_flowerOf (l : Launch) (sc : g_S) (E : Mem → g_H) (R : Nat → Prop) (hE : LE E R) (hR : RRF R) (n : Nat) (dd : Nat) (hdd : 308 ≤ dd) (g_X11_flowerOf : (Int → Int → Int → Mem → Option Rz)) (hg_X11_flowerOf : q_X11_flowerOf l sc E R dd g_X11_flowerOf) (p1 : Int) (p2 : Int) (p3 : Int) (mi : Mem) (hp1 : inR p1) (hp2 : inR p2) (hp3 : inR p3) (r : Rz) (H : b_X11_flowerOf n g_X11_flowerOf p1 p2 p3 mi = some r) : AMet l sc yX11_flowerOf cX11_flowerOf 7 (some FieldType.int) (dd + 1) 0 0 [.ref 100, iv p1, iv p2, iv p3] (E mi) (pI E r) := by
  have r100 : R 100 := hR 100 (Nat.le_of_ble_eq_true rfl) (Nat.le_of_ble_eq_true rfl)
  unfold b_X11_flowerOf at H
  refine AMet.of (own := RX11) (by decide +kernel) rfl (Nat.le_of_ble_eq_true rfl) [(0, .ref 100), (1, iv p1), (2, iv p2), (3, iv p3)] rfl (fun D base ad => ?_)
  refine aw_aload_n (pc := 0) dX11_flowerOf_0 rfl ?_
  refine cx_gtF (pc := 1) hE r100 fl_X11_175 rfl rfl (Nat.le_of_ble_eq_true rfl) dX11_flowerOf_1 H (fun x1 hx1 H => ?_)
  refine aw_istore (pc := 4) [(4, iv x1), (0, .ref 100), (1, iv p1), (2, iv p2), (3, iv p3)] dX11_flowerOf_4 rfl (by decide) ?_
  refine cx_iconst (pc := 6) dX11_flowerOf_6 ?_
  refine aw_istore (pc := 7) [(5, iv 0), (4, iv x1), (0, .ref 100), (1, iv p1), (2, iv p2), (3, iv p3)] dX11_flowerOf_7 rfl (by decide) ?_
  refine AW.sel [2, 3, 4, 5, 1, 0] rfl (lp_ind (bot := fun _ _ => none) (fun (f9 : Int → Mem → Option Rz) => ∀ (v5_9 : Int) (m9 : Mem), inR v5_9 → f9 v5_9 m9 = some r → AW l D base sc RX11 yX11_flowerOf cX11_flowerOf 7 (some FieldType.int) (dd + 1) 0 0 ad (E mi) (pI E r) 0 0 (E m9) 9 [(0, .ref 100), (1, iv p1), (2, iv p2), (3, iv p3), (4, iv x1), (5, iv v5_9)] []) (fun _ _ _ h9 => nomatch h9) (fun w9 ih9 v5_9 m9 hv5_9 H => ?_) n _ _ (inR_lit _ rfl) H)
  refine aw_iload (pc := 9) dX11_flowerOf_9 rfl ?_
  refine aw_iload_n (pc := 11) dX11_flowerOf_11 rfl ?_
  refine cx_icmp_ge (pc := 12) 31 hv5_9 hp1 dX11_flowerOf_12 rfl H (fun H => ?_) (fun H => ?_)
  · -- 12: 15
    refine aw_aload_n (pc := 15) dX11_flowerOf_15 rfl ?_
    refine aw_aload_n (pc := 16) dX11_flowerOf_16 rfl ?_
    refine aw_iload (pc := 17) dX11_flowerOf_17 rfl ?_
    refine cx_callV (pc := 19) (P := pI) (dC := 307) (mcC := 0) (msC := 0) [iv v5_9] hE r100 (fun r1 H1 => s_X11_heapOf l sc E R hE hR n v5_9 hv5_9 m9 r1 H1) ca_X11_206 rfl ⟨_, rfl, rfl⟩ rfl rfl (by omega) (Nat.le_of_ble_eq_true rfl) (Nat.le_of_ble_eq_true rfl) (Nat.le_of_ble_eq_true rfl) dX11_flowerOf_19 H (fun x19 m19 v19 hh19 H hp => ?_)
    refine cx_backI hp (fun hx19 => ?_)
    refine cx_callV (pc := 22) (P := pV) (dC := 0) (mcC := 0) (msC := 0) [iv x19] hE r100 (fun r1 H1 => s_X11_waits l sc E R hE hR n x19 hx19 m19 r1 H1) ca_X11_194 rfl ⟨_, rfl, rfl⟩ rfl rfl (by omega) (Nat.le_of_ble_eq_true rfl) (Nat.le_of_ble_eq_true rfl) (Nat.le_of_ble_eq_true rfl) dX11_flowerOf_22 H (fun x22 m22 v22 hh22 H hp => ?_)
    refine cx_backV hp ?_
    refine cx_iinc (pc := 25) [(5, iv (w32 (v5_9 + 1))), (0, .ref 100), (1, iv p1), (2, iv p2), (3, iv p3), (4, iv x1)] dX11_flowerOf_25 rfl rfl (by decide) ?_
    refine aw_goto (pc := 28) 9 dX11_flowerOf_28 rfl ?_
    exact AW.sel [1, 2, 3, 4, 5, 0] rfl (ih9 _ _ (inR_w32 _) H)
  · -- 12: 31
    refine aw_iload_n (pc := 31) dX11_flowerOf_31 rfl ?_
    refine jn_ind (fun (f9 : Mem → Option Rz) => ∀ (m48 : Mem), f9 m48 = some r → AW l D base sc RX11 yX11_flowerOf cX11_flowerOf 7 (some FieldType.int) (dd + 1) 0 0 ad (E mi) (pI E r) 0 0 (E m48) 48 [(0, .ref 100), (1, iv p1), (2, iv p2), (3, iv p3), (4, iv x1)] []) (fun m48 H => ?_) (fun j48 hj48 H => ?_) H
    · -- 48
      refine aw_aload_n (pc := 48) dX11_flowerOf_48 rfl ?_
      refine cx_gtF (pc := 49) hE r100 fl_X11_175 rfl rfl (Nat.le_of_ble_eq_true rfl) dX11_flowerOf_49 H (fun x49 hx49 H => ?_)
      refine aw_istore (pc := 52) [(5, iv x49), (0, .ref 100), (1, iv p1), (2, iv p2), (3, iv p3), (4, iv x1)] dX11_flowerOf_52 rfl (by decide) ?_
      refine cx_iconst (pc := 54) dX11_flowerOf_54 ?_
      refine aw_istore (pc := 55) [(6, iv 0), (5, iv x49), (0, .ref 100), (1, iv p1), (2, iv p2), (3, iv p3), (4, iv x1)] dX11_flowerOf_55 rfl (by decide) ?_
      refine AW.sel [2, 3, 4, 5, 6, 1, 0] rfl (lp_ind (bot := fun _ _ => none) (fun (f9 : Int → Mem → Option Rz) => ∀ (v6_57 : Int) (m57 : Mem), inR v6_57 → f9 v6_57 m57 = some r → AW l D base sc RX11 yX11_flowerOf cX11_flowerOf 7 (some FieldType.int) (dd + 1) 0 0 ad (E mi) (pI E r) 0 0 (E m57) 57 [(0, .ref 100), (1, iv p1), (2, iv p2), (3, iv p3), (4, iv x1), (5, iv x49), (6, iv v6_57)] []) (fun _ _ _ h9 => nomatch h9) (fun w57 ih57 v6_57 m57 hv6_57 H => ?_) n _ _ (inR_lit _ rfl) H)
      refine aw_iload (pc := 57) dX11_flowerOf_57 rfl ?_
      refine aw_iload_n (pc := 59) dX11_flowerOf_59 rfl ?_
      refine cx_icmp_ge (pc := 60) 79 hv6_57 hp1 dX11_flowerOf_60 rfl H (fun H => ?_) (fun H => ?_)
      · -- 60: 63
        refine aw_aload_n (pc := 63) dX11_flowerOf_63 rfl ?_
        refine aw_aload_n (pc := 64) dX11_flowerOf_64 rfl ?_
        refine aw_iload (pc := 65) dX11_flowerOf_65 rfl ?_
        refine cx_callV (pc := 67) (P := pI) (dC := 307) (mcC := 0) (msC := 0) [iv v6_57] hE r100 (fun r1 H1 => s_X11_heapOf l sc E R hE hR n v6_57 hv6_57 m57 r1 H1) ca_X11_206 rfl ⟨_, rfl, rfl⟩ rfl rfl (by omega) (Nat.le_of_ble_eq_true rfl) (Nat.le_of_ble_eq_true rfl) (Nat.le_of_ble_eq_true rfl) dX11_flowerOf_67 H (fun x67 m67 v67 hh67 H hp => ?_)
        refine cx_backI hp (fun hx67 => ?_)
        refine cx_callV (pc := 70) (P := pV) (dC := 0) (mcC := 0) (msC := 0) [iv x67] hE r100 (fun r1 H1 => s_X11_waits l sc E R hE hR n x67 hx67 m67 r1 H1) ca_X11_194 rfl ⟨_, rfl, rfl⟩ rfl rfl (by omega) (Nat.le_of_ble_eq_true rfl) (Nat.le_of_ble_eq_true rfl) (Nat.le_of_ble_eq_true rfl) dX11_flowerOf_70 H (fun x70 m70 v70 hh70 H hp => ?_)
        refine cx_backV hp ?_
        refine cx_iinc (pc := 73) [(6, iv (w32 (v6_57 + 1))), (0, .ref 100), (1, iv p1), (2, iv p2), (3, iv p3), (4, iv x1), (5, iv x49)] dX11_flowerOf_73 rfl rfl (by decide) ?_
        refine aw_goto (pc := 76) 57 dX11_flowerOf_76 rfl ?_
        exact AW.sel [1, 2, 3, 4, 5, 6, 0] rfl (ih57 _ _ (inR_w32 _) H)
      · -- 60: 79
        refine aw_iload_n (pc := 79) dX11_flowerOf_79 rfl ?_
        refine jn_ind (fun (f9 : Mem → Option Rz) => ∀ (m96 : Mem), f9 m96 = some r → AW l D base sc RX11 yX11_flowerOf cX11_flowerOf 7 (some FieldType.int) (dd + 1) 0 0 ad (E mi) (pI E r) 0 0 (E m96) 96 [(0, .ref 100), (4, iv x1), (5, iv x49)] []) (fun m96 H => ?_) (fun j96 hj96 H => ?_) H
        · -- 96
          refine aw_aload_n (pc := 96) dX11_flowerOf_96 rfl ?_
          refine aw_iload (pc := 97) dX11_flowerOf_97 rfl ?_
          refine aw_iload (pc := 99) dX11_flowerOf_99 rfl ?_
          refine cx_callV (pc := 101) (P := pI) (dC := 306) (mcC := 0) (msC := 0) [iv x1, iv x49] hE r100 (fun r1 H1 => s_X11_canonicalOf l sc E R hE hR n x1 x49 hx1 hx49 m96 r1 H1) ca_X11_197 rfl ⟨_, rfl, rfl⟩ rfl rfl (by omega) (Nat.le_of_ble_eq_true rfl) (Nat.le_of_ble_eq_true rfl) (Nat.le_of_ble_eq_true rfl) dX11_flowerOf_101 H (fun x101 m101 v101 hh101 H hp => ?_)
          refine cx_backI hp (fun hx101 => ?_)
          exact cx_iret (pc := 104) hx101 rfl (Nat.le_of_ble_eq_true rfl) (Nat.le_of_ble_eq_true rfl) dX11_flowerOf_104 H
        refine cx_if_le (pc := 80) 96 hp3 dX11_flowerOf_80 rfl H (fun H => ?_) (fun H => ?_)
        · -- 80: 83
          refine aw_aload_n (pc := 83) dX11_flowerOf_83 rfl ?_
          refine aw_aload_n (pc := 84) dX11_flowerOf_84 rfl ?_
          refine aw_iload_n (pc := 85) dX11_flowerOf_85 rfl ?_
          refine aw_iload_n (pc := 86) dX11_flowerOf_86 rfl ?_
          refine aw_iload_n (pc := 87) dX11_flowerOf_87 rfl ?_
          refine cx_iconst (pc := 88) dX11_flowerOf_88 ?_
          refine cx_isub (pc := 89) dX11_flowerOf_89 ?_
          refine cx_callV (pc := 90) (P := pI) (dC := dd) (mcC := 0) (msC := 0) [iv p1, iv p2, iv (w32 (p3 - 1))] hE r100 (fun r1 H1 => hg_X11_flowerOf p1 p2 (w32 (p3 - 1)) m57 hp1 hp2 (inR_w32 _) r1 H1) ca_X11_345 rfl ⟨_, rfl, rfl⟩ rfl rfl (by omega) (Nat.le_of_ble_eq_true rfl) (Nat.le_of_ble_eq_true rfl) (Nat.le_of_ble_eq_true rfl) dX11_flowerOf_90 H (fun x90 m90 v90 hh90 H hp => ?_)
          refine cx_backI hp (fun hx90 => ?_)
          refine cx_callV (pc := 93) (P := pV) (dC := 0) (mcC := 0) (msC := 0) [iv x90] hE r100 (fun r1 H1 => s_X11_waits l sc E R hE hR n x90 hx90 m90 r1 H1) ca_X11_194 rfl ⟨_, rfl, rfl⟩ rfl rfl (by omega) (Nat.le_of_ble_eq_true rfl) (Nat.le_of_ble_eq_true rfl) (Nat.le_of_ble_eq_true rfl) dX11_flowerOf_93 H (fun x93 m93 v93 hh93 H hp => ?_)
          refine cx_backV hp ?_
          exact AW.sel [0, 4, 5] rfl (hj96 _ H)
        · -- 80: 96
          exact AW.sel [0, 4, 5] rfl (hj96 _ H)
    refine cx_if_le (pc := 32) 48 hp2 dX11_flowerOf_32 rfl H (fun H => ?_) (fun H => ?_)
    · -- 32: 35
      refine aw_aload_n (pc := 35) dX11_flowerOf_35 rfl ?_
      refine aw_aload_n (pc := 36) dX11_flowerOf_36 rfl ?_
      refine aw_iload_n (pc := 37) dX11_flowerOf_37 rfl ?_
      refine aw_iload_n (pc := 38) dX11_flowerOf_38 rfl ?_
      refine cx_iconst (pc := 39) dX11_flowerOf_39 ?_
      refine cx_isub (pc := 40) dX11_flowerOf_40 ?_
      refine aw_iload_n (pc := 41) dX11_flowerOf_41 rfl ?_
      refine cx_callV (pc := 42) (P := pI) (dC := dd) (mcC := 0) (msC := 0) [iv p1, iv (w32 (p2 - 1)), iv p3] hE r100 (fun r1 H1 => hg_X11_flowerOf p1 (w32 (p2 - 1)) p3 m9 hp1 (inR_w32 _) hp3 r1 H1) ca_X11_345 rfl ⟨_, rfl, rfl⟩ rfl rfl (by omega) (Nat.le_of_ble_eq_true rfl) (Nat.le_of_ble_eq_true rfl) (Nat.le_of_ble_eq_true rfl) dX11_flowerOf_42 H (fun x42 m42 v42 hh42 H hp => ?_)
      refine cx_backI hp (fun hx42 => ?_)
      refine cx_callV (pc := 45) (P := pV) (dC := 0) (mcC := 0) (msC := 0) [iv x42] hE r100 (fun r1 H1 => s_X11_waits l sc E R hE hR n x42 hx42 m42 r1 H1) ca_X11_194 rfl ⟨_, rfl, rfl⟩ rfl rfl (by omega) (Nat.le_of_ble_eq_true rfl) (Nat.le_of_ble_eq_true rfl) (Nat.le_of_ble_eq_true rfl) dX11_flowerOf_45 H (fun x45 m45 v45 hh45 H hp => ?_)
      refine cx_backV hp ?_
      exact AW.sel [0, 1, 2, 3, 4] rfl (hj48 _ H)
    · -- 32: 48
      exact AW.sel [0, 1, 2, 3, 4] rfl (hj48 _ H)
theorem sa_X11_flowerOf (l : Launch) (sc : g_S) (E : Mem → g_H) (R : Nat → Prop) (hE : LE E R) (hR : RRF R) (n : Nat) : ∀ dp, q_X11_flowerOf l sc E R (308 + dp) (h_X11_flowerOf n dp)
  | 0 => fun _ _ _ _ _ _ _ _ H => nomatch H
  | dp + 1 => by
    have ih := sa_X11_flowerOf l sc E R hE hR n dp
    · exact fun p1 p2 p3 m hp1 hp2 hp3 r H => sb_X11_flowerOf l sc E R hE hR n (308 + dp) (Nat.le_add_right _ _) _ ih p1 p2 p3 m hp1 hp2 hp3 r H
theorem s_X11_flowerOf (l : Launch) (sc : g_S) (E : Mem → g_H) (R : Nat → Prop) (hE : LE E R) (hR : RRF R) (n : Nat) (p1 : Int) (p2 : Int) (p3 : Int) (hp1 : inR p1) (hp2 : inR p2) (hp3 : inR p3) (m : Mem) (r : Rz) (H : f_X11_flowerOf n p1 p2 p3 m = some r) : AMet l sc yX11_flowerOf cX11_flowerOf 7 (some FieldType.int) 318 0 0 [.ref 100, iv p1, iv p2, iv p3] (E m) (pI E r) := (sa_X11_flowerOf l sc E R hE hR n 10) p1 p2 p3 m hp1 hp2 hp3 r H
/-- X11 flower (IIII)I -/
def f_X11_flower (n : Nat) (p1 : Int) (p2 : Int) (p3 : Int) (p4 : Int) (mi : Mem) : Option Rz :=
  cal (f_X11_isSlot n p1 mi) fun x1 m1 =>
  jn (fun (m35 : Mem) =>
    cal (f_X11_no n 1 m35) fun x37 m37 =>
    rt x37 m37
  ) fun (j35 : Mem → Option Rz) =>
  if x1 = 0 then (
    j35 m1
  ) else
  cal (f_X11_in n p2 1 4 m1) fun x10 m10 =>
  if x10 = 0 then (
    j35 m10
  ) else
  cal (f_X11_in n p3 0 3 m10) fun x19 m19 =>
  if x19 = 0 then (
    j35 m19
  ) else
  cal (f_X11_in n p4 0 3 m19) fun x29 m29 =>
  if x29 = 0 then (
    j35 m29
  ) else
  cal (f_X11_gathers n m29) fun _ m42 =>
  cal (f_X11_flowerOf n p2 p3 p4 m42) fun x52 m52 =>
  cal (f_X11_holds n p1 x52 m52) fun x55 m55 =>
  rt x55 m55
set_option maxRecDepth 100000 in
set_option maxHeartbeats 4000000 in
theorem s_X11_flower (l : Launch) (sc : g_S) (E : Mem → g_H) (R : Nat → Prop) (hE : LE E R) (hR : RRF R) (n : Nat)  (p1 : Int) (p2 : Int) (p3 : Int) (p4 : Int) (hp1 : inR p1) (hp2 : inR p2) (hp3 : inR p3) (hp4 : inR p4) (mi : Mem) (r : Rz) (H : f_X11_flower n p1 p2 p3 p4 mi = some r) : AMet l sc yX11_flower cX11_flower 5 (some FieldType.int) 319 0 0 [.ref 100, iv p1, iv p2, iv p3, iv p4] (E mi) (pI E r) := by
  have r100 : R 100 := hR 100 (Nat.le_of_ble_eq_true rfl) (Nat.le_of_ble_eq_true rfl)
  unfold f_X11_flower at H
  refine AMet.of (own := RX11) (by decide +kernel) rfl (Nat.le_of_ble_eq_true rfl) [(0, .ref 100), (1, iv p1), (2, iv p2), (3, iv p3), (4, iv p4)] rfl (fun D base ad => ?_)
  refine aw_iload_n (pc := 0) dX11_flower_0 rfl ?_
  refine cx_callS (pc := 1) (P := pI) (dC := 1) (mcC := 0) (msC := 0) [iv p1] (fun r1 H1 => s_X11_isSlot l sc E R hE hR n p1 hp1 mi r1 H1) ca_X11_324 rfl rfl (Nat.le_of_ble_eq_true rfl) (Nat.le_of_ble_eq_true rfl) (Nat.le_of_ble_eq_true rfl) (Nat.le_of_ble_eq_true rfl) dX11_flower_1 H (fun x1 m1 v1 hh1 H hp => ?_)
  refine cx_backI hp (fun hx1 => ?_)
  refine jn_ind (fun (f9 : Mem → Option Rz) => ∀ (m35 : Mem), f9 m35 = some r → AW l D base sc RX11 yX11_flower cX11_flower 5 (some FieldType.int) 319 0 0 ad (E mi) (pI E r) 0 0 (E m35) 35 [(0, .ref 100)] []) (fun m35 H => ?_) (fun j35 hj35 H => ?_) H
  · -- 35
    refine aw_aload_n (pc := 35) dX11_flower_35 rfl ?_
    refine cx_iconst (pc := 36) dX11_flower_36 ?_
    refine cx_callV (pc := 37) (P := pI) (dC := 0) (mcC := 0) (msC := 0) [iv 1] hE r100 (fun r1 H1 => s_X11_no l sc E R hE hR n 1 (inR_lit _ rfl) m35 r1 H1) ca_X11_300 rfl ⟨_, rfl, rfl⟩ rfl rfl (Nat.le_of_ble_eq_true rfl) (Nat.le_of_ble_eq_true rfl) (Nat.le_of_ble_eq_true rfl) (Nat.le_of_ble_eq_true rfl) dX11_flower_37 H (fun x37 m37 v37 hh37 H hp => ?_)
    refine cx_backI hp (fun hx37 => ?_)
    exact cx_iret (pc := 40) hx37 rfl (Nat.le_of_ble_eq_true rfl) (Nat.le_of_ble_eq_true rfl) dX11_flower_40 H
  refine cx_if_eq (pc := 4) 35 hx1 dX11_flower_4 rfl H (fun H => ?_) (fun H => ?_)
  · -- 4: 35
    exact AW.sel [0] rfl (hj35 _ H)
  · -- 4: 7
    refine aw_iload_n (pc := 7) dX11_flower_7 rfl ?_
    refine cx_iconst (pc := 8) dX11_flower_8 ?_
    refine cx_iconst (pc := 9) dX11_flower_9 ?_
    refine cx_callS (pc := 10) (P := pI) (dC := 0) (mcC := 0) (msC := 0) [iv p2, iv 1, iv 4] (fun r1 H1 => s_X11_in l sc E R hE hR n p2 1 4 hp2 (inR_lit _ rfl) (inR_lit _ rfl) m1 r1 H1) ca_X11_106 rfl rfl (Nat.le_of_ble_eq_true rfl) (Nat.le_of_ble_eq_true rfl) (Nat.le_of_ble_eq_true rfl) (Nat.le_of_ble_eq_true rfl) dX11_flower_10 H (fun x10 m10 v10 hh10 H hp => ?_)
    refine cx_backI hp (fun hx10 => ?_)
    refine cx_if_eq (pc := 13) 35 hx10 dX11_flower_13 rfl H (fun H => ?_) (fun H => ?_)
    · -- 13: 35
      exact AW.sel [0] rfl (hj35 _ H)
    · -- 13: 16
      refine aw_iload_n (pc := 16) dX11_flower_16 rfl ?_
      refine cx_iconst (pc := 17) dX11_flower_17 ?_
      refine cx_iconst (pc := 18) dX11_flower_18 ?_
      refine cx_callS (pc := 19) (P := pI) (dC := 0) (mcC := 0) (msC := 0) [iv p3, iv 0, iv 3] (fun r1 H1 => s_X11_in l sc E R hE hR n p3 0 3 hp3 (inR_lit _ rfl) (inR_lit _ rfl) m10 r1 H1) ca_X11_106 rfl rfl (Nat.le_of_ble_eq_true rfl) (Nat.le_of_ble_eq_true rfl) (Nat.le_of_ble_eq_true rfl) (Nat.le_of_ble_eq_true rfl) dX11_flower_19 H (fun x19 m19 v19 hh19 H hp => ?_)
      refine cx_backI hp (fun hx19 => ?_)
      refine cx_if_eq (pc := 22) 35 hx19 dX11_flower_22 rfl H (fun H => ?_) (fun H => ?_)
      · -- 22: 35
        exact AW.sel [0] rfl (hj35 _ H)
      · -- 22: 25
        refine aw_iload (pc := 25) dX11_flower_25 rfl ?_
        refine cx_iconst (pc := 27) dX11_flower_27 ?_
        refine cx_iconst (pc := 28) dX11_flower_28 ?_
        refine cx_callS (pc := 29) (P := pI) (dC := 0) (mcC := 0) (msC := 0) [iv p4, iv 0, iv 3] (fun r1 H1 => s_X11_in l sc E R hE hR n p4 0 3 hp4 (inR_lit _ rfl) (inR_lit _ rfl) m19 r1 H1) ca_X11_106 rfl rfl (Nat.le_of_ble_eq_true rfl) (Nat.le_of_ble_eq_true rfl) (Nat.le_of_ble_eq_true rfl) (Nat.le_of_ble_eq_true rfl) dX11_flower_29 H (fun x29 m29 v29 hh29 H hp => ?_)
        refine cx_backI hp (fun hx29 => ?_)
        refine cx_if_ne (pc := 32) 41 hx29 dX11_flower_32 rfl H (fun H => ?_) (fun H => ?_)
        · -- 32: 35
          exact AW.sel [0] rfl (hj35 _ H)
        · -- 32: 41
          refine aw_aload_n (pc := 41) dX11_flower_41 rfl ?_
          refine cx_callV (pc := 42) (P := pV) (dC := 63) (mcC := 0) (msC := 0) [] hE r100 (fun r1 H1 => s_X11_gathers l sc E R hE hR n m29 r1 H1) ca_X11_333 rfl ⟨_, rfl, rfl⟩ rfl rfl (Nat.le_of_ble_eq_true rfl) (Nat.le_of_ble_eq_true rfl) (Nat.le_of_ble_eq_true rfl) (Nat.le_of_ble_eq_true rfl) dX11_flower_42 H (fun x42 m42 v42 hh42 H hp => ?_)
          refine cx_backV hp ?_
          refine aw_aload_n (pc := 45) dX11_flower_45 rfl ?_
          refine aw_iload_n (pc := 46) dX11_flower_46 rfl ?_
          refine aw_aload_n (pc := 47) dX11_flower_47 rfl ?_
          refine aw_iload_n (pc := 48) dX11_flower_48 rfl ?_
          refine aw_iload_n (pc := 49) dX11_flower_49 rfl ?_
          refine aw_iload (pc := 50) dX11_flower_50 rfl ?_
          refine cx_callV (pc := 52) (P := pI) (dC := 318) (mcC := 0) (msC := 0) [iv p2, iv p3, iv p4] hE r100 (fun r1 H1 => s_X11_flowerOf l sc E R hE hR n p2 p3 p4 hp2 hp3 hp4 m42 r1 H1) ca_X11_345 rfl ⟨_, rfl, rfl⟩ rfl rfl (Nat.le_of_ble_eq_true rfl) (Nat.le_of_ble_eq_true rfl) (Nat.le_of_ble_eq_true rfl) (Nat.le_of_ble_eq_true rfl) dX11_flower_52 H (fun x52 m52 v52 hh52 H hp => ?_)
          refine cx_backI hp (fun hx52 => ?_)
          refine cx_callV (pc := 55) (P := pI) (dC := 63) (mcC := 0) (msC := 0) [iv p1, iv x52] hE r100 (fun r1 H1 => s_X11_holds l sc E R hE hR n p1 x52 hp1 hx52 m52 r1 H1) ca_X11_339 rfl ⟨_, rfl, rfl⟩ rfl rfl (Nat.le_of_ble_eq_true rfl) (Nat.le_of_ble_eq_true rfl) (Nat.le_of_ble_eq_true rfl) (Nat.le_of_ble_eq_true rfl) dX11_flower_55 H (fun x55 m55 v55 hh55 H hp => ?_)
          refine cx_backI hp (fun hx55 => ?_)
          exact cx_iret (pc := 58) hx55 rfl (Nat.le_of_ble_eq_true rfl) (Nat.le_of_ble_eq_true rfl) dX11_flower_58 H
/-- X11 waitsSet (I)V -/
def f_X11_waitsSet (n : Nat) (p1 : Int) (mi : Mem) : Option Rz :=
  lp (F := Int → Mem → Option Rz) (fun _ _ => none) (fun w2 v2_2 m2 =>
    if v2_2 < 8 then (
      jn (fun (m27 : Mem) =>
        w2 (w32 (v2_2 + 1)) m27
      ) fun (j27 : Mem → Option Rz) =>
      if iand (ishr p1 v2_2) 1 = 1 then (
        ldI m2 129 v2_2 fun x23 =>
        cal (f_X11_waits n x23 m2) fun _ m24 =>
        j27 m24
      ) else
      j27 m2
    ) else
    rt 0 m2
  ) n 0 mi
set_option maxRecDepth 100000 in
set_option maxHeartbeats 4000000 in
theorem s_X11_waitsSet (l : Launch) (sc : g_S) (E : Mem → g_H) (R : Nat → Prop) (hE : LE E R) (hR : RRF R) (n : Nat)  (p1 : Int) (hp1 : inR p1) (mi : Mem) (r : Rz) (H : f_X11_waitsSet n p1 mi = some r) : AMet l sc yX11_waitsSet cX11_waitsSet 3 none 1 0 0 [.ref 100, iv p1] (E mi) (pV E r) := by
  have r100 : R 100 := hR 100 (Nat.le_of_ble_eq_true rfl) (Nat.le_of_ble_eq_true rfl)
  have r129 : R 129 := hR 129 (Nat.le_of_ble_eq_true rfl) (Nat.le_of_ble_eq_true rfl)
  unfold f_X11_waitsSet at H
  refine AMet.of (own := RX11) (by decide +kernel) rfl (Nat.le_of_ble_eq_true rfl) [(0, .ref 100), (1, iv p1)] rfl (fun D base ad => ?_)
  refine cx_iconst (pc := 0) dX11_waitsSet_0 ?_
  refine aw_istore_n (pc := 1) [(2, iv 0), (0, .ref 100), (1, iv p1)] dX11_waitsSet_1 rfl (by decide) ?_
  refine AW.sel [1, 2, 0] rfl (lp_ind (bot := fun _ _ => none) (fun (f9 : Int → Mem → Option Rz) => ∀ (v2_2 : Int) (m2 : Mem), inR v2_2 → f9 v2_2 m2 = some r → AW l D base sc RX11 yX11_waitsSet cX11_waitsSet 3 none 1 0 0 ad (E mi) (pV E r) 0 0 (E m2) 2 [(0, .ref 100), (1, iv p1), (2, iv v2_2)] []) (fun _ _ _ h9 => nomatch h9) (fun w2 ih2 v2_2 m2 hv2_2 H => ?_) n _ _ (inR_lit _ rfl) H)
  refine aw_iload_n (pc := 2) dX11_waitsSet_2 rfl ?_
  refine cx_bipush (pc := 3) dX11_waitsSet_3 (by decide) ?_
  refine cx_icmp_ge (pc := 5) 33 hv2_2 (inR_lit _ rfl) dX11_waitsSet_5 rfl H (fun H => ?_) (fun H => ?_)
  · -- 5: 8
    refine aw_iload_n (pc := 8) dX11_waitsSet_8 rfl ?_
    refine aw_iload_n (pc := 9) dX11_waitsSet_9 rfl ?_
    refine cx_ishr (pc := 10) dX11_waitsSet_10 ?_
    refine cx_iconst (pc := 11) dX11_waitsSet_11 ?_
    refine cx_iand (pc := 12) dX11_waitsSet_12 ?_
    refine cx_iconst (pc := 13) dX11_waitsSet_13 ?_
    refine jn_ind (fun (f9 : Mem → Option Rz) => ∀ (m27 : Mem), f9 m27 = some r → AW l D base sc RX11 yX11_waitsSet cX11_waitsSet 3 none 1 0 0 ad (E mi) (pV E r) 0 0 (E m27) 27 [(0, .ref 100), (1, iv p1), (2, iv v2_2)] []) (fun m27 H => ?_) (fun j27 hj27 H => ?_) H
    · -- 27
      refine cx_iinc (pc := 27) [(2, iv (w32 (v2_2 + 1))), (0, .ref 100), (1, iv p1)] dX11_waitsSet_27 rfl rfl (by decide) ?_
      refine aw_goto (pc := 30) 2 dX11_waitsSet_30 rfl ?_
      exact AW.sel [1, 2, 0] rfl (ih2 _ _ (inR_w32 _) H)
    refine cx_icmp_ne (pc := 14) 27 (inR_32 _) (inR_lit _ rfl) dX11_waitsSet_14 rfl H (fun H => ?_) (fun H => ?_)
    · -- 14: 17
      refine aw_aload_n (pc := 17) dX11_waitsSet_17 rfl ?_
      refine aw_aload_n (pc := 18) dX11_waitsSet_18 rfl ?_
      refine cx_gtC (pc := 19) 129 hE r100 fl_X11_264 rfl rfl (Nat.le_of_ble_eq_true rfl) dX11_waitsSet_19 ?_
      refine aw_iload_n (pc := 22) dX11_waitsSet_22 rfl ?_
      refine cx_ldI (pc := 23) hE r129 hv2_2 dX11_waitsSet_23 H (fun x23 hx23 H => ?_)
      refine cx_callV (pc := 24) (P := pV) (dC := 0) (mcC := 0) (msC := 0) [iv x23] hE r100 (fun r1 H1 => s_X11_waits l sc E R hE hR n x23 hx23 m2 r1 H1) ca_X11_194 rfl ⟨_, rfl, rfl⟩ rfl rfl (Nat.le_of_ble_eq_true rfl) (Nat.le_of_ble_eq_true rfl) (Nat.le_of_ble_eq_true rfl) (Nat.le_of_ble_eq_true rfl) dX11_waitsSet_24 H (fun x24 m24 v24 hh24 H hp => ?_)
      refine cx_backV hp ?_
      exact AW.sel [0, 1, 2] rfl (hj27 _ H)
    · -- 14: 27
      exact AW.sel [0, 1, 2] rfl (hj27 _ H)
  · -- 5: 33
    exact cx_vret (pc := 33) rfl (Nat.le_of_ble_eq_true rfl) (Nat.le_of_ble_eq_true rfl) dX11_waitsSet_33 H
/-- X11 made (III)I -/
def f_X11_made (n : Nat) (p1 : Int) (p2 : Int) (p3 : Int) (mi : Mem) : Option Rz :=
  cal (f_X11_isSlot n p1 mi) fun x1 m1 =>
  jn (fun (m29 : Mem) =>
    cal (f_X11_no n 1 m29) fun x31 m31 =>
    rt x31 m31
  ) fun (j29 : Mem → Option Rz) =>
  if x1 = 0 then (
    j29 m1
  ) else
  cal (f_X11_in n p2 0 255 m1) fun x12 m12 =>
  if x12 = 0 then (
    j29 m12
  ) else
  cal (f_X11_in n p3 0 255 m12) fun x23 m23 =>
  if x23 = 0 then (
    j29 m23
  ) else
  cal (f_X11_gathers n m23) fun _ m36 =>
  gtF m36 100 26 fun x40 =>
  cal (f_X11_waitsSet n p2 m36) fun _ m47 =>
  gtF m47 100 26 fun x51 =>
  cal (f_X11_waitsSet n p3 m47) fun _ m58 =>
  cal (f_X11_canonicalOf n x40 x51 m58) fun x68 m68 =>
  cal (f_X11_holds n p1 x68 m68) fun x71 m71 =>
  rt x71 m71
set_option maxRecDepth 100000 in
set_option maxHeartbeats 4000000 in
theorem s_X11_made (l : Launch) (sc : g_S) (E : Mem → g_H) (R : Nat → Prop) (hE : LE E R) (hR : RRF R) (n : Nat)  (p1 : Int) (p2 : Int) (p3 : Int) (hp1 : inR p1) (hp2 : inR p2) (hp3 : inR p3) (mi : Mem) (r : Rz) (H : f_X11_made n p1 p2 p3 mi = some r) : AMet l sc yX11_made cX11_made 6 (some FieldType.int) 307 0 0 [.ref 100, iv p1, iv p2, iv p3] (E mi) (pI E r) := by
  have r100 : R 100 := hR 100 (Nat.le_of_ble_eq_true rfl) (Nat.le_of_ble_eq_true rfl)
  unfold f_X11_made at H
  refine AMet.of (own := RX11) (by decide +kernel) rfl (Nat.le_of_ble_eq_true rfl) [(0, .ref 100), (1, iv p1), (2, iv p2), (3, iv p3)] rfl (fun D base ad => ?_)
  refine aw_iload_n (pc := 0) dX11_made_0 rfl ?_
  refine cx_callS (pc := 1) (P := pI) (dC := 1) (mcC := 0) (msC := 0) [iv p1] (fun r1 H1 => s_X11_isSlot l sc E R hE hR n p1 hp1 mi r1 H1) ca_X11_324 rfl rfl (Nat.le_of_ble_eq_true rfl) (Nat.le_of_ble_eq_true rfl) (Nat.le_of_ble_eq_true rfl) (Nat.le_of_ble_eq_true rfl) dX11_made_1 H (fun x1 m1 v1 hh1 H hp => ?_)
  refine cx_backI hp (fun hx1 => ?_)
  refine jn_ind (fun (f9 : Mem → Option Rz) => ∀ (m29 : Mem), f9 m29 = some r → AW l D base sc RX11 yX11_made cX11_made 6 (some FieldType.int) 307 0 0 ad (E mi) (pI E r) 0 0 (E m29) 29 [(0, .ref 100)] []) (fun m29 H => ?_) (fun j29 hj29 H => ?_) H
  · -- 29
    refine aw_aload_n (pc := 29) dX11_made_29 rfl ?_
    refine cx_iconst (pc := 30) dX11_made_30 ?_
    refine cx_callV (pc := 31) (P := pI) (dC := 0) (mcC := 0) (msC := 0) [iv 1] hE r100 (fun r1 H1 => s_X11_no l sc E R hE hR n 1 (inR_lit _ rfl) m29 r1 H1) ca_X11_300 rfl ⟨_, rfl, rfl⟩ rfl rfl (Nat.le_of_ble_eq_true rfl) (Nat.le_of_ble_eq_true rfl) (Nat.le_of_ble_eq_true rfl) (Nat.le_of_ble_eq_true rfl) dX11_made_31 H (fun x31 m31 v31 hh31 H hp => ?_)
    refine cx_backI hp (fun hx31 => ?_)
    exact cx_iret (pc := 34) hx31 rfl (Nat.le_of_ble_eq_true rfl) (Nat.le_of_ble_eq_true rfl) dX11_made_34 H
  refine cx_if_eq (pc := 4) 29 hx1 dX11_made_4 rfl H (fun H => ?_) (fun H => ?_)
  · -- 4: 29
    exact AW.sel [0] rfl (hj29 _ H)
  · -- 4: 7
    refine aw_iload_n (pc := 7) dX11_made_7 rfl ?_
    refine cx_iconst (pc := 8) dX11_made_8 ?_
    refine cx_sipush (pc := 9) dX11_made_9 (by decide) ?_
    refine cx_callS (pc := 12) (P := pI) (dC := 0) (mcC := 0) (msC := 0) [iv p2, iv 0, iv 255] (fun r1 H1 => s_X11_in l sc E R hE hR n p2 0 255 hp2 (inR_lit _ rfl) (inR_lit _ rfl) m1 r1 H1) ca_X11_106 rfl rfl (Nat.le_of_ble_eq_true rfl) (Nat.le_of_ble_eq_true rfl) (Nat.le_of_ble_eq_true rfl) (Nat.le_of_ble_eq_true rfl) dX11_made_12 H (fun x12 m12 v12 hh12 H hp => ?_)
    refine cx_backI hp (fun hx12 => ?_)
    refine cx_if_eq (pc := 15) 29 hx12 dX11_made_15 rfl H (fun H => ?_) (fun H => ?_)
    · -- 15: 29
      exact AW.sel [0] rfl (hj29 _ H)
    · -- 15: 18
      refine aw_iload_n (pc := 18) dX11_made_18 rfl ?_
      refine cx_iconst (pc := 19) dX11_made_19 ?_
      refine cx_sipush (pc := 20) dX11_made_20 (by decide) ?_
      refine cx_callS (pc := 23) (P := pI) (dC := 0) (mcC := 0) (msC := 0) [iv p3, iv 0, iv 255] (fun r1 H1 => s_X11_in l sc E R hE hR n p3 0 255 hp3 (inR_lit _ rfl) (inR_lit _ rfl) m12 r1 H1) ca_X11_106 rfl rfl (Nat.le_of_ble_eq_true rfl) (Nat.le_of_ble_eq_true rfl) (Nat.le_of_ble_eq_true rfl) (Nat.le_of_ble_eq_true rfl) dX11_made_23 H (fun x23 m23 v23 hh23 H hp => ?_)
      refine cx_backI hp (fun hx23 => ?_)
      refine cx_if_ne (pc := 26) 35 hx23 dX11_made_26 rfl H (fun H => ?_) (fun H => ?_)
      · -- 26: 29
        exact AW.sel [0] rfl (hj29 _ H)
      · -- 26: 35
        refine aw_aload_n (pc := 35) dX11_made_35 rfl ?_
        refine cx_callV (pc := 36) (P := pV) (dC := 63) (mcC := 0) (msC := 0) [] hE r100 (fun r1 H1 => s_X11_gathers l sc E R hE hR n m23 r1 H1) ca_X11_333 rfl ⟨_, rfl, rfl⟩ rfl rfl (Nat.le_of_ble_eq_true rfl) (Nat.le_of_ble_eq_true rfl) (Nat.le_of_ble_eq_true rfl) (Nat.le_of_ble_eq_true rfl) dX11_made_36 H (fun x36 m36 v36 hh36 H hp => ?_)
        refine cx_backV hp ?_
        refine aw_aload_n (pc := 39) dX11_made_39 rfl ?_
        refine cx_gtF (pc := 40) hE r100 fl_X11_175 rfl rfl (Nat.le_of_ble_eq_true rfl) dX11_made_40 H (fun x40 hx40 H => ?_)
        refine aw_istore (pc := 43) [(4, iv x40), (0, .ref 100), (1, iv p1), (2, iv p2), (3, iv p3)] dX11_made_43 rfl (by decide) ?_
        refine aw_aload_n (pc := 45) dX11_made_45 rfl ?_
        refine aw_iload_n (pc := 46) dX11_made_46 rfl ?_
        refine cx_callV (pc := 47) (P := pV) (dC := 1) (mcC := 0) (msC := 0) [iv p2] hE r100 (fun r1 H1 => s_X11_waitsSet l sc E R hE hR n p2 hp2 m36 r1 H1) ca_X11_349 rfl ⟨_, rfl, rfl⟩ rfl rfl (Nat.le_of_ble_eq_true rfl) (Nat.le_of_ble_eq_true rfl) (Nat.le_of_ble_eq_true rfl) (Nat.le_of_ble_eq_true rfl) dX11_made_47 H (fun x47 m47 v47 hh47 H hp => ?_)
        refine cx_backV hp ?_
        refine aw_aload_n (pc := 50) dX11_made_50 rfl ?_
        refine cx_gtF (pc := 51) hE r100 fl_X11_175 rfl rfl (Nat.le_of_ble_eq_true rfl) dX11_made_51 H (fun x51 hx51 H => ?_)
        refine aw_istore (pc := 54) [(5, iv x51), (4, iv x40), (0, .ref 100), (1, iv p1), (2, iv p2), (3, iv p3)] dX11_made_54 rfl (by decide) ?_
        refine aw_aload_n (pc := 56) dX11_made_56 rfl ?_
        refine aw_iload_n (pc := 57) dX11_made_57 rfl ?_
        refine cx_callV (pc := 58) (P := pV) (dC := 1) (mcC := 0) (msC := 0) [iv p3] hE r100 (fun r1 H1 => s_X11_waitsSet l sc E R hE hR n p3 hp3 m47 r1 H1) ca_X11_349 rfl ⟨_, rfl, rfl⟩ rfl rfl (Nat.le_of_ble_eq_true rfl) (Nat.le_of_ble_eq_true rfl) (Nat.le_of_ble_eq_true rfl) (Nat.le_of_ble_eq_true rfl) dX11_made_58 H (fun x58 m58 v58 hh58 H hp => ?_)
        refine cx_backV hp ?_
        refine aw_aload_n (pc := 61) dX11_made_61 rfl ?_
        refine aw_iload_n (pc := 62) dX11_made_62 rfl ?_
        refine aw_aload_n (pc := 63) dX11_made_63 rfl ?_
        refine aw_iload (pc := 64) dX11_made_64 rfl ?_
        refine aw_iload (pc := 66) dX11_made_66 rfl ?_
        refine cx_callV (pc := 68) (P := pI) (dC := 306) (mcC := 0) (msC := 0) [iv x40, iv x51] hE r100 (fun r1 H1 => s_X11_canonicalOf l sc E R hE hR n x40 x51 hx40 hx51 m58 r1 H1) ca_X11_197 rfl ⟨_, rfl, rfl⟩ rfl rfl (Nat.le_of_ble_eq_true rfl) (Nat.le_of_ble_eq_true rfl) (Nat.le_of_ble_eq_true rfl) (Nat.le_of_ble_eq_true rfl) dX11_made_68 H (fun x68 m68 v68 hh68 H hp => ?_)
        refine cx_backI hp (fun hx68 => ?_)
        refine cx_callV (pc := 71) (P := pI) (dC := 63) (mcC := 0) (msC := 0) [iv p1, iv x68] hE r100 (fun r1 H1 => s_X11_holds l sc E R hE hR n p1 x68 hp1 hx68 m68 r1 H1) ca_X11_339 rfl ⟨_, rfl, rfl⟩ rfl rfl (Nat.le_of_ble_eq_true rfl) (Nat.le_of_ble_eq_true rfl) (Nat.le_of_ble_eq_true rfl) (Nat.le_of_ble_eq_true rfl) dX11_made_71 H (fun x71 m71 v71 hh71 H hp => ?_)
        refine cx_backI hp (fun hx71 => ?_)
        exact cx_iret (pc := 74) hx71 rfl (Nat.le_of_ble_eq_true rfl) (Nat.le_of_ble_eq_true rfl) dX11_made_74 H
/-- X11 plus (III)I -/
def f_X11_plus (n : Nat) (p1 : Int) (p2 : Int) (p3 : Int) (mi : Mem) : Option Rz :=
  cal (f_X11_isSlot n p1 mi) fun x1 m1 =>
  jn (fun (m21 : Mem) =>
    cal (f_X11_no n 1 m21) fun x23 m23 =>
    rt x23 m23
  ) fun (j21 : Mem → Option Rz) =>
  if x1 = 0 then (
    j21 m1
  ) else
  cal (f_X11_isSlot n p2 m1) fun x8 m8 =>
  if x8 = 0 then (
    j21 m8
  ) else
  cal (f_X11_isSlot n p3 m8) fun x15 m15 =>
  if x15 = 0 then (
    j21 m15
  ) else
  cal (f_X11_gathers n m15) fun _ m28 =>
  ldI m28 129 p2 fun x39 =>
  ldI m28 129 p3 fun x45 =>
  cal (f_X11_sum n x39 x45 m28) fun x46 m46 =>
  cal (f_X11_holds n p1 x46 m46) fun x49 m49 =>
  rt x49 m49
set_option maxRecDepth 100000 in
set_option maxHeartbeats 4000000 in
theorem s_X11_plus (l : Launch) (sc : g_S) (E : Mem → g_H) (R : Nat → Prop) (hE : LE E R) (hR : RRF R) (n : Nat)  (p1 : Int) (p2 : Int) (p3 : Int) (hp1 : inR p1) (hp2 : inR p2) (hp3 : inR p3) (mi : Mem) (r : Rz) (H : f_X11_plus n p1 p2 p3 mi = some r) : AMet l sc yX11_plus cX11_plus 4 (some FieldType.int) 408 0 0 [.ref 100, iv p1, iv p2, iv p3] (E mi) (pI E r) := by
  have r100 : R 100 := hR 100 (Nat.le_of_ble_eq_true rfl) (Nat.le_of_ble_eq_true rfl)
  have r129 : R 129 := hR 129 (Nat.le_of_ble_eq_true rfl) (Nat.le_of_ble_eq_true rfl)
  unfold f_X11_plus at H
  refine AMet.of (own := RX11) (by decide +kernel) rfl (Nat.le_of_ble_eq_true rfl) [(0, .ref 100), (1, iv p1), (2, iv p2), (3, iv p3)] rfl (fun D base ad => ?_)
  refine aw_iload_n (pc := 0) dX11_plus_0 rfl ?_
  refine cx_callS (pc := 1) (P := pI) (dC := 1) (mcC := 0) (msC := 0) [iv p1] (fun r1 H1 => s_X11_isSlot l sc E R hE hR n p1 hp1 mi r1 H1) ca_X11_324 rfl rfl (Nat.le_of_ble_eq_true rfl) (Nat.le_of_ble_eq_true rfl) (Nat.le_of_ble_eq_true rfl) (Nat.le_of_ble_eq_true rfl) dX11_plus_1 H (fun x1 m1 v1 hh1 H hp => ?_)
  refine cx_backI hp (fun hx1 => ?_)
  refine jn_ind (fun (f9 : Mem → Option Rz) => ∀ (m21 : Mem), f9 m21 = some r → AW l D base sc RX11 yX11_plus cX11_plus 4 (some FieldType.int) 408 0 0 ad (E mi) (pI E r) 0 0 (E m21) 21 [(0, .ref 100)] []) (fun m21 H => ?_) (fun j21 hj21 H => ?_) H
  · -- 21
    refine aw_aload_n (pc := 21) dX11_plus_21 rfl ?_
    refine cx_iconst (pc := 22) dX11_plus_22 ?_
    refine cx_callV (pc := 23) (P := pI) (dC := 0) (mcC := 0) (msC := 0) [iv 1] hE r100 (fun r1 H1 => s_X11_no l sc E R hE hR n 1 (inR_lit _ rfl) m21 r1 H1) ca_X11_300 rfl ⟨_, rfl, rfl⟩ rfl rfl (Nat.le_of_ble_eq_true rfl) (Nat.le_of_ble_eq_true rfl) (Nat.le_of_ble_eq_true rfl) (Nat.le_of_ble_eq_true rfl) dX11_plus_23 H (fun x23 m23 v23 hh23 H hp => ?_)
    refine cx_backI hp (fun hx23 => ?_)
    exact cx_iret (pc := 26) hx23 rfl (Nat.le_of_ble_eq_true rfl) (Nat.le_of_ble_eq_true rfl) dX11_plus_26 H
  refine cx_if_eq (pc := 4) 21 hx1 dX11_plus_4 rfl H (fun H => ?_) (fun H => ?_)
  · -- 4: 21
    exact AW.sel [0] rfl (hj21 _ H)
  · -- 4: 7
    refine aw_iload_n (pc := 7) dX11_plus_7 rfl ?_
    refine cx_callS (pc := 8) (P := pI) (dC := 1) (mcC := 0) (msC := 0) [iv p2] (fun r1 H1 => s_X11_isSlot l sc E R hE hR n p2 hp2 m1 r1 H1) ca_X11_324 rfl rfl (Nat.le_of_ble_eq_true rfl) (Nat.le_of_ble_eq_true rfl) (Nat.le_of_ble_eq_true rfl) (Nat.le_of_ble_eq_true rfl) dX11_plus_8 H (fun x8 m8 v8 hh8 H hp => ?_)
    refine cx_backI hp (fun hx8 => ?_)
    refine cx_if_eq (pc := 11) 21 hx8 dX11_plus_11 rfl H (fun H => ?_) (fun H => ?_)
    · -- 11: 21
      exact AW.sel [0] rfl (hj21 _ H)
    · -- 11: 14
      refine aw_iload_n (pc := 14) dX11_plus_14 rfl ?_
      refine cx_callS (pc := 15) (P := pI) (dC := 1) (mcC := 0) (msC := 0) [iv p3] (fun r1 H1 => s_X11_isSlot l sc E R hE hR n p3 hp3 m8 r1 H1) ca_X11_324 rfl rfl (Nat.le_of_ble_eq_true rfl) (Nat.le_of_ble_eq_true rfl) (Nat.le_of_ble_eq_true rfl) (Nat.le_of_ble_eq_true rfl) dX11_plus_15 H (fun x15 m15 v15 hh15 H hp => ?_)
      refine cx_backI hp (fun hx15 => ?_)
      refine cx_if_ne (pc := 18) 27 hx15 dX11_plus_18 rfl H (fun H => ?_) (fun H => ?_)
      · -- 18: 21
        exact AW.sel [0] rfl (hj21 _ H)
      · -- 18: 27
        refine aw_aload_n (pc := 27) dX11_plus_27 rfl ?_
        refine cx_callV (pc := 28) (P := pV) (dC := 63) (mcC := 0) (msC := 0) [] hE r100 (fun r1 H1 => s_X11_gathers l sc E R hE hR n m15 r1 H1) ca_X11_333 rfl ⟨_, rfl, rfl⟩ rfl rfl (Nat.le_of_ble_eq_true rfl) (Nat.le_of_ble_eq_true rfl) (Nat.le_of_ble_eq_true rfl) (Nat.le_of_ble_eq_true rfl) dX11_plus_28 H (fun x28 m28 v28 hh28 H hp => ?_)
        refine cx_backV hp ?_
        refine aw_aload_n (pc := 31) dX11_plus_31 rfl ?_
        refine aw_iload_n (pc := 32) dX11_plus_32 rfl ?_
        refine aw_aload_n (pc := 33) dX11_plus_33 rfl ?_
        refine aw_aload_n (pc := 34) dX11_plus_34 rfl ?_
        refine cx_gtC (pc := 35) 129 hE r100 fl_X11_264 rfl rfl (Nat.le_of_ble_eq_true rfl) dX11_plus_35 ?_
        refine aw_iload_n (pc := 38) dX11_plus_38 rfl ?_
        refine cx_ldI (pc := 39) hE r129 hp2 dX11_plus_39 H (fun x39 hx39 H => ?_)
        refine aw_aload_n (pc := 40) dX11_plus_40 rfl ?_
        refine cx_gtC (pc := 41) 129 hE r100 fl_X11_264 rfl rfl (Nat.le_of_ble_eq_true rfl) dX11_plus_41 ?_
        refine aw_iload_n (pc := 44) dX11_plus_44 rfl ?_
        refine cx_ldI (pc := 45) hE r129 hp3 dX11_plus_45 H (fun x45 hx45 H => ?_)
        refine cx_callV (pc := 46) (P := pI) (dC := 407) (mcC := 0) (msC := 0) [iv x39, iv x45] hE r100 (fun r1 H1 => s_X11_sum l sc E R hE hR n x39 x45 hx39 hx45 m28 r1 H1) ca_X11_191 rfl ⟨_, rfl, rfl⟩ rfl rfl (Nat.le_of_ble_eq_true rfl) (Nat.le_of_ble_eq_true rfl) (Nat.le_of_ble_eq_true rfl) (Nat.le_of_ble_eq_true rfl) dX11_plus_46 H (fun x46 m46 v46 hh46 H hp => ?_)
        refine cx_backI hp (fun hx46 => ?_)
        refine cx_callV (pc := 49) (P := pI) (dC := 63) (mcC := 0) (msC := 0) [iv p1, iv x46] hE r100 (fun r1 H1 => s_X11_holds l sc E R hE hR n p1 x46 hp1 hx46 m46 r1 H1) ca_X11_339 rfl ⟨_, rfl, rfl⟩ rfl rfl (Nat.le_of_ble_eq_true rfl) (Nat.le_of_ble_eq_true rfl) (Nat.le_of_ble_eq_true rfl) (Nat.le_of_ble_eq_true rfl) dX11_plus_49 H (fun x49 m49 v49 hh49 H hp => ?_)
        refine cx_backI hp (fun hx49 => ?_)
        exact cx_iret (pc := 52) hx49 rfl (Nat.le_of_ble_eq_true rfl) (Nat.le_of_ble_eq_true rfl) dX11_plus_52 H
/-- X11 minus (II)I -/
def f_X11_minus (n : Nat) (p1 : Int) (p2 : Int) (mi : Mem) : Option Rz :=
  cal (f_X11_isSlot n p1 mi) fun x1 m1 =>
  jn (fun (m14 : Mem) =>
    cal (f_X11_no n 1 m14) fun x16 m16 =>
    rt x16 m16
  ) fun (j14 : Mem → Option Rz) =>
  if x1 = 0 then (
    j14 m1
  ) else
  cal (f_X11_isSlot n p2 m1) fun x8 m8 =>
  if x8 = 0 then (
    j14 m8
  ) else
  cal (f_X11_gathers n m8) fun _ m21 =>
  ldI m21 129 p2 fun x32 =>
  cal (f_X11_negativeOf n x32 m21) fun x33 m33 =>
  cal (f_X11_holds n p1 x33 m33) fun x36 m36 =>
  rt x36 m36
set_option maxRecDepth 100000 in
set_option maxHeartbeats 4000000 in
theorem s_X11_minus (l : Launch) (sc : g_S) (E : Mem → g_H) (R : Nat → Prop) (hE : LE E R) (hR : RRF R) (n : Nat)  (p1 : Int) (p2 : Int) (hp1 : inR p1) (hp2 : inR p2) (mi : Mem) (r : Rz) (H : f_X11_minus n p1 p2 mi = some r) : AMet l sc yX11_minus cX11_minus 3 (some FieldType.int) 358 0 0 [.ref 100, iv p1, iv p2] (E mi) (pI E r) := by
  have r100 : R 100 := hR 100 (Nat.le_of_ble_eq_true rfl) (Nat.le_of_ble_eq_true rfl)
  have r129 : R 129 := hR 129 (Nat.le_of_ble_eq_true rfl) (Nat.le_of_ble_eq_true rfl)
  unfold f_X11_minus at H
  refine AMet.of (own := RX11) (by decide +kernel) rfl (Nat.le_of_ble_eq_true rfl) [(0, .ref 100), (1, iv p1), (2, iv p2)] rfl (fun D base ad => ?_)
  refine aw_iload_n (pc := 0) dX11_minus_0 rfl ?_
  refine cx_callS (pc := 1) (P := pI) (dC := 1) (mcC := 0) (msC := 0) [iv p1] (fun r1 H1 => s_X11_isSlot l sc E R hE hR n p1 hp1 mi r1 H1) ca_X11_324 rfl rfl (Nat.le_of_ble_eq_true rfl) (Nat.le_of_ble_eq_true rfl) (Nat.le_of_ble_eq_true rfl) (Nat.le_of_ble_eq_true rfl) dX11_minus_1 H (fun x1 m1 v1 hh1 H hp => ?_)
  refine cx_backI hp (fun hx1 => ?_)
  refine jn_ind (fun (f9 : Mem → Option Rz) => ∀ (m14 : Mem), f9 m14 = some r → AW l D base sc RX11 yX11_minus cX11_minus 3 (some FieldType.int) 358 0 0 ad (E mi) (pI E r) 0 0 (E m14) 14 [(0, .ref 100)] []) (fun m14 H => ?_) (fun j14 hj14 H => ?_) H
  · -- 14
    refine aw_aload_n (pc := 14) dX11_minus_14 rfl ?_
    refine cx_iconst (pc := 15) dX11_minus_15 ?_
    refine cx_callV (pc := 16) (P := pI) (dC := 0) (mcC := 0) (msC := 0) [iv 1] hE r100 (fun r1 H1 => s_X11_no l sc E R hE hR n 1 (inR_lit _ rfl) m14 r1 H1) ca_X11_300 rfl ⟨_, rfl, rfl⟩ rfl rfl (Nat.le_of_ble_eq_true rfl) (Nat.le_of_ble_eq_true rfl) (Nat.le_of_ble_eq_true rfl) (Nat.le_of_ble_eq_true rfl) dX11_minus_16 H (fun x16 m16 v16 hh16 H hp => ?_)
    refine cx_backI hp (fun hx16 => ?_)
    exact cx_iret (pc := 19) hx16 rfl (Nat.le_of_ble_eq_true rfl) (Nat.le_of_ble_eq_true rfl) dX11_minus_19 H
  refine cx_if_eq (pc := 4) 14 hx1 dX11_minus_4 rfl H (fun H => ?_) (fun H => ?_)
  · -- 4: 14
    exact AW.sel [0] rfl (hj14 _ H)
  · -- 4: 7
    refine aw_iload_n (pc := 7) dX11_minus_7 rfl ?_
    refine cx_callS (pc := 8) (P := pI) (dC := 1) (mcC := 0) (msC := 0) [iv p2] (fun r1 H1 => s_X11_isSlot l sc E R hE hR n p2 hp2 m1 r1 H1) ca_X11_324 rfl rfl (Nat.le_of_ble_eq_true rfl) (Nat.le_of_ble_eq_true rfl) (Nat.le_of_ble_eq_true rfl) (Nat.le_of_ble_eq_true rfl) dX11_minus_8 H (fun x8 m8 v8 hh8 H hp => ?_)
    refine cx_backI hp (fun hx8 => ?_)
    refine cx_if_ne (pc := 11) 20 hx8 dX11_minus_11 rfl H (fun H => ?_) (fun H => ?_)
    · -- 11: 14
      exact AW.sel [0] rfl (hj14 _ H)
    · -- 11: 20
      refine aw_aload_n (pc := 20) dX11_minus_20 rfl ?_
      refine cx_callV (pc := 21) (P := pV) (dC := 63) (mcC := 0) (msC := 0) [] hE r100 (fun r1 H1 => s_X11_gathers l sc E R hE hR n m8 r1 H1) ca_X11_333 rfl ⟨_, rfl, rfl⟩ rfl rfl (Nat.le_of_ble_eq_true rfl) (Nat.le_of_ble_eq_true rfl) (Nat.le_of_ble_eq_true rfl) (Nat.le_of_ble_eq_true rfl) dX11_minus_21 H (fun x21 m21 v21 hh21 H hp => ?_)
      refine cx_backV hp ?_
      refine aw_aload_n (pc := 24) dX11_minus_24 rfl ?_
      refine aw_iload_n (pc := 25) dX11_minus_25 rfl ?_
      refine aw_aload_n (pc := 26) dX11_minus_26 rfl ?_
      refine aw_aload_n (pc := 27) dX11_minus_27 rfl ?_
      refine cx_gtC (pc := 28) 129 hE r100 fl_X11_264 rfl rfl (Nat.le_of_ble_eq_true rfl) dX11_minus_28 ?_
      refine aw_iload_n (pc := 31) dX11_minus_31 rfl ?_
      refine cx_ldI (pc := 32) hE r129 hp2 dX11_minus_32 H (fun x32 hx32 H => ?_)
      refine cx_callV (pc := 33) (P := pI) (dC := 357) (mcC := 0) (msC := 0) [iv x32] hE r100 (fun r1 H1 => s_X11_negativeOf l sc E R hE hR n x32 hx32 m21 r1 H1) ca_X11_200 rfl ⟨_, rfl, rfl⟩ rfl rfl (Nat.le_of_ble_eq_true rfl) (Nat.le_of_ble_eq_true rfl) (Nat.le_of_ble_eq_true rfl) (Nat.le_of_ble_eq_true rfl) dX11_minus_33 H (fun x33 m33 v33 hh33 H hp => ?_)
      refine cx_backI hp (fun hx33 => ?_)
      refine cx_callV (pc := 36) (P := pI) (dC := 63) (mcC := 0) (msC := 0) [iv p1, iv x33] hE r100 (fun r1 H1 => s_X11_holds l sc E R hE hR n p1 x33 hp1 hx33 m33 r1 H1) ca_X11_339 rfl ⟨_, rfl, rfl⟩ rfl rfl (Nat.le_of_ble_eq_true rfl) (Nat.le_of_ble_eq_true rfl) (Nat.le_of_ble_eq_true rfl) (Nat.le_of_ble_eq_true rfl) dX11_minus_36 H (fun x36 m36 v36 hh36 H hp => ?_)
      refine cx_backI hp (fun hx36 => ?_)
      exact cx_iret (pc := 39) hx36 rfl (Nat.le_of_ble_eq_true rfl) (Nat.le_of_ble_eq_true rfl) dX11_minus_39 H
/-- X11 option (IIII)I -/
def f_X11_option (n : Nat) (p1 : Int) (p2 : Int) (p3 : Int) (p4 : Int) (mi : Mem) : Option Rz :=
  cal (f_X11_isSlot n p1 mi) fun x1 m1 =>
  jn (fun (m21 : Mem) =>
    cal (f_X11_no n 1 m21) fun x23 m23 =>
    rt x23 m23
  ) fun (j21 : Mem → Option Rz) =>
  if x1 = 0 then (
    j21 m1
  ) else
  cal (f_X11_isSlot n p2 m1) fun x8 m8 =>
  if x8 = 0 then (
    j21 m8
  ) else
  cal (f_X11_isWho n p3 m8) fun x15 m15 =>
  if x15 = 0 then (
    j21 m15
  ) else
  ldI m15 129 p2 fun x36 =>
  cal (f_X11_optionMany n x36 p3 m15) fun x38 m38 =>
  cal (f_X11_in n p4 0 (w32 (x38 - 1)) m38) fun x43 m43 =>
  if x43 = 0 then (
    cal (f_X11_no n 2 m43) fun x51 m51 =>
    rt x51 m51
  ) else
  ldI m43 129 p2 fun x63 =>
  cal (f_X11_optionOf n x63 p3 p4 m43) fun x67 m67 =>
  cal (f_X11_holds n p1 x67 m67) fun x70 m70 =>
  rt x70 m70
set_option maxRecDepth 100000 in
set_option maxHeartbeats 4000000 in
theorem s_X11_option (l : Launch) (sc : g_S) (E : Mem → g_H) (R : Nat → Prop) (hE : LE E R) (hR : RRF R) (n : Nat)  (p1 : Int) (p2 : Int) (p3 : Int) (p4 : Int) (hp1 : inR p1) (hp2 : inR p2) (hp3 : inR p3) (hp4 : inR p4) (mi : Mem) (r : Rz) (H : f_X11_option n p1 p2 p3 p4 mi = some r) : AMet l sc yX11_option cX11_option 5 (some FieldType.int) 128 0 0 [.ref 100, iv p1, iv p2, iv p3, iv p4] (E mi) (pI E r) := by
  have r100 : R 100 := hR 100 (Nat.le_of_ble_eq_true rfl) (Nat.le_of_ble_eq_true rfl)
  have r129 : R 129 := hR 129 (Nat.le_of_ble_eq_true rfl) (Nat.le_of_ble_eq_true rfl)
  unfold f_X11_option at H
  refine AMet.of (own := RX11) (by decide +kernel) rfl (Nat.le_of_ble_eq_true rfl) [(0, .ref 100), (1, iv p1), (2, iv p2), (3, iv p3), (4, iv p4)] rfl (fun D base ad => ?_)
  refine aw_iload_n (pc := 0) dX11_option_0 rfl ?_
  refine cx_callS (pc := 1) (P := pI) (dC := 1) (mcC := 0) (msC := 0) [iv p1] (fun r1 H1 => s_X11_isSlot l sc E R hE hR n p1 hp1 mi r1 H1) ca_X11_324 rfl rfl (Nat.le_of_ble_eq_true rfl) (Nat.le_of_ble_eq_true rfl) (Nat.le_of_ble_eq_true rfl) (Nat.le_of_ble_eq_true rfl) dX11_option_1 H (fun x1 m1 v1 hh1 H hp => ?_)
  refine cx_backI hp (fun hx1 => ?_)
  refine jn_ind (fun (f9 : Mem → Option Rz) => ∀ (m21 : Mem), f9 m21 = some r → AW l D base sc RX11 yX11_option cX11_option 5 (some FieldType.int) 128 0 0 ad (E mi) (pI E r) 0 0 (E m21) 21 [(0, .ref 100)] []) (fun m21 H => ?_) (fun j21 hj21 H => ?_) H
  · -- 21
    refine aw_aload_n (pc := 21) dX11_option_21 rfl ?_
    refine cx_iconst (pc := 22) dX11_option_22 ?_
    refine cx_callV (pc := 23) (P := pI) (dC := 0) (mcC := 0) (msC := 0) [iv 1] hE r100 (fun r1 H1 => s_X11_no l sc E R hE hR n 1 (inR_lit _ rfl) m21 r1 H1) ca_X11_300 rfl ⟨_, rfl, rfl⟩ rfl rfl (Nat.le_of_ble_eq_true rfl) (Nat.le_of_ble_eq_true rfl) (Nat.le_of_ble_eq_true rfl) (Nat.le_of_ble_eq_true rfl) dX11_option_23 H (fun x23 m23 v23 hh23 H hp => ?_)
    refine cx_backI hp (fun hx23 => ?_)
    exact cx_iret (pc := 26) hx23 rfl (Nat.le_of_ble_eq_true rfl) (Nat.le_of_ble_eq_true rfl) dX11_option_26 H
  refine cx_if_eq (pc := 4) 21 hx1 dX11_option_4 rfl H (fun H => ?_) (fun H => ?_)
  · -- 4: 21
    exact AW.sel [0] rfl (hj21 _ H)
  · -- 4: 7
    refine aw_iload_n (pc := 7) dX11_option_7 rfl ?_
    refine cx_callS (pc := 8) (P := pI) (dC := 1) (mcC := 0) (msC := 0) [iv p2] (fun r1 H1 => s_X11_isSlot l sc E R hE hR n p2 hp2 m1 r1 H1) ca_X11_324 rfl rfl (Nat.le_of_ble_eq_true rfl) (Nat.le_of_ble_eq_true rfl) (Nat.le_of_ble_eq_true rfl) (Nat.le_of_ble_eq_true rfl) dX11_option_8 H (fun x8 m8 v8 hh8 H hp => ?_)
    refine cx_backI hp (fun hx8 => ?_)
    refine cx_if_eq (pc := 11) 21 hx8 dX11_option_11 rfl H (fun H => ?_) (fun H => ?_)
    · -- 11: 21
      exact AW.sel [0] rfl (hj21 _ H)
    · -- 11: 14
      refine aw_iload_n (pc := 14) dX11_option_14 rfl ?_
      refine cx_callS (pc := 15) (P := pI) (dC := 1) (mcC := 0) (msC := 0) [iv p3] (fun r1 H1 => s_X11_isWho l sc E R hE hR n p3 hp3 m8 r1 H1) ca_X11_352 rfl rfl (Nat.le_of_ble_eq_true rfl) (Nat.le_of_ble_eq_true rfl) (Nat.le_of_ble_eq_true rfl) (Nat.le_of_ble_eq_true rfl) dX11_option_15 H (fun x15 m15 v15 hh15 H hp => ?_)
      refine cx_backI hp (fun hx15 => ?_)
      refine cx_if_ne (pc := 18) 27 hx15 dX11_option_18 rfl H (fun H => ?_) (fun H => ?_)
      · -- 18: 21
        exact AW.sel [0] rfl (hj21 _ H)
      · -- 18: 27
        refine aw_iload (pc := 27) dX11_option_27 rfl ?_
        refine cx_iconst (pc := 29) dX11_option_29 ?_
        refine aw_aload_n (pc := 30) dX11_option_30 rfl ?_
        refine aw_aload_n (pc := 31) dX11_option_31 rfl ?_
        refine cx_gtC (pc := 32) 129 hE r100 fl_X11_264 rfl rfl (Nat.le_of_ble_eq_true rfl) dX11_option_32 ?_
        refine aw_iload_n (pc := 35) dX11_option_35 rfl ?_
        refine cx_ldI (pc := 36) hE r129 hp2 dX11_option_36 H (fun x36 hx36 H => ?_)
        refine aw_iload_n (pc := 37) dX11_option_37 rfl ?_
        refine cx_callV (pc := 38) (P := pI) (dC := 0) (mcC := 0) (msC := 0) [iv x36, iv p3] hE r100 (fun r1 H1 => s_X11_optionMany l sc E R hE hR n x36 p3 hx36 hp3 m15 r1 H1) ca_X11_327 rfl ⟨_, rfl, rfl⟩ rfl rfl (Nat.le_of_ble_eq_true rfl) (Nat.le_of_ble_eq_true rfl) (Nat.le_of_ble_eq_true rfl) (Nat.le_of_ble_eq_true rfl) dX11_option_38 H (fun x38 m38 v38 hh38 H hp => ?_)
        refine cx_backI hp (fun hx38 => ?_)
        refine cx_iconst (pc := 41) dX11_option_41 ?_
        refine cx_isub (pc := 42) dX11_option_42 ?_
        refine cx_callS (pc := 43) (P := pI) (dC := 0) (mcC := 0) (msC := 0) [iv p4, iv 0, iv (w32 (x38 - 1))] (fun r1 H1 => s_X11_in l sc E R hE hR n p4 0 (w32 (x38 - 1)) hp4 (inR_lit _ rfl) (inR_w32 _) m38 r1 H1) ca_X11_106 rfl rfl (Nat.le_of_ble_eq_true rfl) (Nat.le_of_ble_eq_true rfl) (Nat.le_of_ble_eq_true rfl) (Nat.le_of_ble_eq_true rfl) dX11_option_43 H (fun x43 m43 v43 hh43 H hp => ?_)
        refine cx_backI hp (fun hx43 => ?_)
        refine cx_if_ne (pc := 46) 55 hx43 dX11_option_46 rfl H (fun H => ?_) (fun H => ?_)
        · -- 46: 49
          refine aw_aload_n (pc := 49) dX11_option_49 rfl ?_
          refine cx_iconst (pc := 50) dX11_option_50 ?_
          refine cx_callV (pc := 51) (P := pI) (dC := 0) (mcC := 0) (msC := 0) [iv 2] hE r100 (fun r1 H1 => s_X11_no l sc E R hE hR n 2 (inR_lit _ rfl) m43 r1 H1) ca_X11_300 rfl ⟨_, rfl, rfl⟩ rfl rfl (Nat.le_of_ble_eq_true rfl) (Nat.le_of_ble_eq_true rfl) (Nat.le_of_ble_eq_true rfl) (Nat.le_of_ble_eq_true rfl) dX11_option_51 H (fun x51 m51 v51 hh51 H hp => ?_)
          refine cx_backI hp (fun hx51 => ?_)
          exact cx_iret (pc := 54) hx51 rfl (Nat.le_of_ble_eq_true rfl) (Nat.le_of_ble_eq_true rfl) dX11_option_54 H
        · -- 46: 55
          refine aw_aload_n (pc := 55) dX11_option_55 rfl ?_
          refine aw_iload_n (pc := 56) dX11_option_56 rfl ?_
          refine aw_aload_n (pc := 57) dX11_option_57 rfl ?_
          refine aw_aload_n (pc := 58) dX11_option_58 rfl ?_
          refine cx_gtC (pc := 59) 129 hE r100 fl_X11_264 rfl rfl (Nat.le_of_ble_eq_true rfl) dX11_option_59 ?_
          refine aw_iload_n (pc := 62) dX11_option_62 rfl ?_
          refine cx_ldI (pc := 63) hE r129 hp2 dX11_option_63 H (fun x63 hx63 H => ?_)
          refine aw_iload_n (pc := 64) dX11_option_64 rfl ?_
          refine aw_iload (pc := 65) dX11_option_65 rfl ?_
          refine cx_callV (pc := 67) (P := pI) (dC := 127) (mcC := 0) (msC := 0) [iv x63, iv p3, iv p4] hE r100 (fun r1 H1 => s_X11_optionOf l sc E R hE hR n x63 p3 p4 hx63 hp3 hp4 m43 r1 H1) ca_X11_355 rfl ⟨_, rfl, rfl⟩ rfl rfl (Nat.le_of_ble_eq_true rfl) (Nat.le_of_ble_eq_true rfl) (Nat.le_of_ble_eq_true rfl) (Nat.le_of_ble_eq_true rfl) dX11_option_67 H (fun x67 m67 v67 hh67 H hp => ?_)
          refine cx_backI hp (fun hx67 => ?_)
          refine cx_callV (pc := 70) (P := pI) (dC := 63) (mcC := 0) (msC := 0) [iv p1, iv x67] hE r100 (fun r1 H1 => s_X11_holds l sc E R hE hR n p1 x67 hp1 hx67 m67 r1 H1) ca_X11_339 rfl ⟨_, rfl, rfl⟩ rfl rfl (Nat.le_of_ble_eq_true rfl) (Nat.le_of_ble_eq_true rfl) (Nat.le_of_ble_eq_true rfl) (Nat.le_of_ble_eq_true rfl) dX11_option_70 H (fun x70 m70 v70 hh70 H hp => ?_)
          refine cx_backI hp (fun hx70 => ?_)
          exact cx_iret (pc := 73) hx70 rfl (Nat.le_of_ble_eq_true rfl) (Nat.le_of_ble_eq_true rfl) dX11_option_73 H
/-- X11 move (II)I -/
def f_X11_move (n : Nat) (p1 : Int) (p2 : Int) (mi : Mem) : Option Rz :=
  cal (f_X11_isSlot n p1 mi) fun x1 m1 =>
  jn (fun (s0_33 : Int) (m33 : Mem) =>
    rt s0_33 m33
  ) fun (j33 : Int → Mem → Option Rz) =>
  jn (fun (m28 : Mem) =>
    cal (f_X11_no n 1 m28) fun x30 m30 =>
    j33 x30 m30
  ) fun (j28 : Mem → Option Rz) =>
  if x1 = 0 then (
    j28 m1
  ) else
  cal (f_X11_isSlot n p2 m1) fun x8 m8 =>
  if x8 = 0 then (
    j28 m8
  ) else
  ldI m8 129 p2 fun x21 =>
  cal (f_X11_holds n p1 x21 m8) fun x22 m22 =>
  j33 x22 m22
set_option maxRecDepth 100000 in
set_option maxHeartbeats 4000000 in
theorem s_X11_move (l : Launch) (sc : g_S) (E : Mem → g_H) (R : Nat → Prop) (hE : LE E R) (hR : RRF R) (n : Nat)  (p1 : Int) (p2 : Int) (hp1 : inR p1) (hp2 : inR p2) (mi : Mem) (r : Rz) (H : f_X11_move n p1 p2 mi = some r) : AMet l sc yX11_move cX11_move 3 (some FieldType.int) 64 0 0 [.ref 100, iv p1, iv p2] (E mi) (pI E r) := by
  have r100 : R 100 := hR 100 (Nat.le_of_ble_eq_true rfl) (Nat.le_of_ble_eq_true rfl)
  have r129 : R 129 := hR 129 (Nat.le_of_ble_eq_true rfl) (Nat.le_of_ble_eq_true rfl)
  unfold f_X11_move at H
  refine AMet.of (own := RX11) (by decide +kernel) rfl (Nat.le_of_ble_eq_true rfl) [(0, .ref 100), (1, iv p1), (2, iv p2)] rfl (fun D base ad => ?_)
  refine aw_iload_n (pc := 0) dX11_move_0 rfl ?_
  refine cx_callS (pc := 1) (P := pI) (dC := 1) (mcC := 0) (msC := 0) [iv p1] (fun r1 H1 => s_X11_isSlot l sc E R hE hR n p1 hp1 mi r1 H1) ca_X11_324 rfl rfl (Nat.le_of_ble_eq_true rfl) (Nat.le_of_ble_eq_true rfl) (Nat.le_of_ble_eq_true rfl) (Nat.le_of_ble_eq_true rfl) dX11_move_1 H (fun x1 m1 v1 hh1 H hp => ?_)
  refine cx_backI hp (fun hx1 => ?_)
  refine jn_ind (fun (f9 : Int → Mem → Option Rz) => ∀ (s0_33 : Int) (m33 : Mem), inR s0_33 → f9 s0_33 m33 = some r → AW l D base sc RX11 yX11_move cX11_move 3 (some FieldType.int) 64 0 0 ad (E mi) (pI E r) 0 0 (E m33) 33 [] [iv s0_33]) (fun s0_33 m33 hs0_33 H => ?_) (fun j33 hj33 H => ?_) H
  · -- 33
    exact cx_iret (pc := 33) hs0_33 rfl (Nat.le_of_ble_eq_true rfl) (Nat.le_of_ble_eq_true rfl) dX11_move_33 H
  refine jn_ind (fun (f9 : Mem → Option Rz) => ∀ (m28 : Mem), f9 m28 = some r → AW l D base sc RX11 yX11_move cX11_move 3 (some FieldType.int) 64 0 0 ad (E mi) (pI E r) 0 0 (E m28) 28 [(0, .ref 100)] []) (fun m28 H => ?_) (fun j28 hj28 H => ?_) H
  · -- 28
    refine aw_aload_n (pc := 28) dX11_move_28 rfl ?_
    refine cx_iconst (pc := 29) dX11_move_29 ?_
    refine cx_callV (pc := 30) (P := pI) (dC := 0) (mcC := 0) (msC := 0) [iv 1] hE r100 (fun r1 H1 => s_X11_no l sc E R hE hR n 1 (inR_lit _ rfl) m28 r1 H1) ca_X11_300 rfl ⟨_, rfl, rfl⟩ rfl rfl (Nat.le_of_ble_eq_true rfl) (Nat.le_of_ble_eq_true rfl) (Nat.le_of_ble_eq_true rfl) (Nat.le_of_ble_eq_true rfl) dX11_move_30 H (fun x30 m30 v30 hh30 H hp => ?_)
    refine cx_backI hp (fun hx30 => ?_)
    exact AW.sel [] rfl (hj33 _ _ hx30 H)
  refine cx_if_eq (pc := 4) 28 hx1 dX11_move_4 rfl H (fun H => ?_) (fun H => ?_)
  · -- 4: 28
    exact AW.sel [0] rfl (hj28 _ H)
  · -- 4: 7
    refine aw_iload_n (pc := 7) dX11_move_7 rfl ?_
    refine cx_callS (pc := 8) (P := pI) (dC := 1) (mcC := 0) (msC := 0) [iv p2] (fun r1 H1 => s_X11_isSlot l sc E R hE hR n p2 hp2 m1 r1 H1) ca_X11_324 rfl rfl (Nat.le_of_ble_eq_true rfl) (Nat.le_of_ble_eq_true rfl) (Nat.le_of_ble_eq_true rfl) (Nat.le_of_ble_eq_true rfl) dX11_move_8 H (fun x8 m8 v8 hh8 H hp => ?_)
    refine cx_backI hp (fun hx8 => ?_)
    refine cx_if_eq (pc := 11) 28 hx8 dX11_move_11 rfl H (fun H => ?_) (fun H => ?_)
    · -- 11: 28
      exact AW.sel [0] rfl (hj28 _ H)
    · -- 11: 14
      refine aw_aload_n (pc := 14) dX11_move_14 rfl ?_
      refine aw_iload_n (pc := 15) dX11_move_15 rfl ?_
      refine aw_aload_n (pc := 16) dX11_move_16 rfl ?_
      refine cx_gtC (pc := 17) 129 hE r100 fl_X11_264 rfl rfl (Nat.le_of_ble_eq_true rfl) dX11_move_17 ?_
      refine aw_iload_n (pc := 20) dX11_move_20 rfl ?_
      refine cx_ldI (pc := 21) hE r129 hp2 dX11_move_21 H (fun x21 hx21 H => ?_)
      refine cx_callV (pc := 22) (P := pI) (dC := 63) (mcC := 0) (msC := 0) [iv p1, iv x21] hE r100 (fun r1 H1 => s_X11_holds l sc E R hE hR n p1 x21 hp1 hx21 m8 r1 H1) ca_X11_339 rfl ⟨_, rfl, rfl⟩ rfl rfl (Nat.le_of_ble_eq_true rfl) (Nat.le_of_ble_eq_true rfl) (Nat.le_of_ble_eq_true rfl) (Nat.le_of_ble_eq_true rfl) dX11_move_22 H (fun x22 m22 v22 hh22 H hp => ?_)
      refine cx_backI hp (fun hx22 => ?_)
      refine aw_goto (pc := 25) 33 dX11_move_25 rfl ?_
      exact AW.sel [] rfl (hj33 _ _ hx22 H)
/-- X11 undo ()I -/
def f_X11_undo (n : Nat)  (mi : Mem) : Option Rz :=
  gtF mi 100 39 fun x1 =>
  if x1 = 0 then (
    cal (f_X11_no n 2 mi) fun x9 m9 =>
    rt x9 m9
  ) else
  gtF mi 100 39 fun x15 =>
  ptF mi 100 39 (w32 (x15 - 1)) fun m20 =>
  gtF m20 100 39 fun x32 =>
  ldI m20 130 x32 fun x35 =>
  gtF m20 100 39 fun x41 =>
  ldI m20 131 x41 fun x44 =>
  stI m20 129 x35 x44 fun m45 =>
  gtF m45 100 39 fun x47 =>
  rt x47 m45
set_option maxRecDepth 100000 in
set_option maxHeartbeats 4000000 in
theorem s_X11_undo (l : Launch) (sc : g_S) (E : Mem → g_H) (R : Nat → Prop) (hE : LE E R) (hR : RRF R) (n : Nat)    (mi : Mem) (r : Rz) (H : f_X11_undo n  mi = some r) : AMet l sc yX11_undo cX11_undo 1 (some FieldType.int) 1 0 0 [.ref 100] (E mi) (pI E r) := by
  have r100 : R 100 := hR 100 (Nat.le_of_ble_eq_true rfl) (Nat.le_of_ble_eq_true rfl)
  have r129 : R 129 := hR 129 (Nat.le_of_ble_eq_true rfl) (Nat.le_of_ble_eq_true rfl)
  have r130 : R 130 := hR 130 (Nat.le_of_ble_eq_true rfl) (Nat.le_of_ble_eq_true rfl)
  have r131 : R 131 := hR 131 (Nat.le_of_ble_eq_true rfl) (Nat.le_of_ble_eq_true rfl)
  unfold f_X11_undo at H
  refine AMet.of (own := RX11) (by decide +kernel) rfl (Nat.le_of_ble_eq_true rfl) [(0, .ref 100)] rfl (fun D base ad => ?_)
  refine aw_aload_n (pc := 0) dX11_undo_0 rfl ?_
  refine cx_gtF (pc := 1) hE r100 fl_X11_303 rfl rfl (Nat.le_of_ble_eq_true rfl) dX11_undo_1 H (fun x1 hx1 H => ?_)
  refine cx_if_ne (pc := 4) 13 hx1 dX11_undo_4 rfl H (fun H => ?_) (fun H => ?_)
  · -- 4: 7
    refine aw_aload_n (pc := 7) dX11_undo_7 rfl ?_
    refine cx_iconst (pc := 8) dX11_undo_8 ?_
    refine cx_callV (pc := 9) (P := pI) (dC := 0) (mcC := 0) (msC := 0) [iv 2] hE r100 (fun r1 H1 => s_X11_no l sc E R hE hR n 2 (inR_lit _ rfl) mi r1 H1) ca_X11_300 rfl ⟨_, rfl, rfl⟩ rfl rfl (Nat.le_of_ble_eq_true rfl) (Nat.le_of_ble_eq_true rfl) (Nat.le_of_ble_eq_true rfl) (Nat.le_of_ble_eq_true rfl) dX11_undo_9 H (fun x9 m9 v9 hh9 H hp => ?_)
    refine cx_backI hp (fun hx9 => ?_)
    exact cx_iret (pc := 12) hx9 rfl (Nat.le_of_ble_eq_true rfl) (Nat.le_of_ble_eq_true rfl) dX11_undo_12 H
  · -- 4: 13
    refine aw_aload_n (pc := 13) dX11_undo_13 rfl ?_
    refine aw_dup (pc := 14) dX11_undo_14 rfl ?_
    refine cx_gtF (pc := 15) hE r100 fl_X11_303 rfl rfl (Nat.le_of_ble_eq_true rfl) dX11_undo_15 H (fun x15 hx15 H => ?_)
    refine cx_iconst (pc := 18) dX11_undo_18 ?_
    refine cx_isub (pc := 19) dX11_undo_19 ?_
    refine cx_ptF (pc := 20) tyX11 hE r100 fl_X11_303 (fun r h => ⟨gty_X11 r h, by cases h; rfl⟩) rfl rfl rfl (Nat.le_of_ble_eq_true rfl) dX11_undo_20 H (fun m20 H => ?_)
    refine aw_aload_n (pc := 23) dX11_undo_23 rfl ?_
    refine cx_gtC (pc := 24) 129 hE r100 fl_X11_264 rfl rfl (Nat.le_of_ble_eq_true rfl) dX11_undo_24 ?_
    refine aw_aload_n (pc := 27) dX11_undo_27 rfl ?_
    refine cx_gtC (pc := 28) 130 hE r100 fl_X11_267 rfl rfl (Nat.le_of_ble_eq_true rfl) dX11_undo_28 ?_
    refine aw_aload_n (pc := 31) dX11_undo_31 rfl ?_
    refine cx_gtF (pc := 32) hE r100 fl_X11_303 rfl rfl (Nat.le_of_ble_eq_true rfl) dX11_undo_32 H (fun x32 hx32 H => ?_)
    refine cx_ldI (pc := 35) hE r130 hx32 dX11_undo_35 H (fun x35 hx35 H => ?_)
    refine aw_aload_n (pc := 36) dX11_undo_36 rfl ?_
    refine cx_gtC (pc := 37) 131 hE r100 fl_X11_270 rfl rfl (Nat.le_of_ble_eq_true rfl) dX11_undo_37 ?_
    refine aw_aload_n (pc := 40) dX11_undo_40 rfl ?_
    refine cx_gtF (pc := 41) hE r100 fl_X11_303 rfl rfl (Nat.le_of_ble_eq_true rfl) dX11_undo_41 H (fun x41 hx41 H => ?_)
    refine cx_ldI (pc := 44) hE r131 hx41 dX11_undo_44 H (fun x44 hx44 H => ?_)
    refine cx_stI (pc := 45) hE r129 hx35 dX11_undo_45 H (fun m45 H => ?_)
    refine aw_aload_n (pc := 46) dX11_undo_46 rfl ?_
    refine cx_gtF (pc := 47) hE r100 fl_X11_303 rfl rfl (Nat.le_of_ble_eq_true rfl) dX11_undo_47 H (fun x47 hx47 H => ?_)
    exact cx_iret (pc := 50) hx47 rfl (Nat.le_of_ble_eq_true rfl) (Nat.le_of_ble_eq_true rfl) dX11_undo_50 H
/-- X11 order (II)I -/
def f_X11_order (n : Nat) (p1 : Int) (p2 : Int) (mi : Mem) : Option Rz :=
  cal (f_X11_isSlot n p1 mi) fun x1 m1 =>
  jn (fun (s0_38 : Int) (m38 : Mem) =>
    rt s0_38 m38
  ) fun (j38 : Int → Mem → Option Rz) =>
  jn (fun (m33 : Mem) =>
    cal (f_X11_no n 1 m33) fun x35 m35 =>
    j38 x35 m35
  ) fun (j33 : Mem → Option Rz) =>
  if x1 = 0 then (
    j33 m1
  ) else
  cal (f_X11_isSlot n p2 m1) fun x8 m8 =>
  if x8 = 0 then (
    j33 m8
  ) else
  ldI m8 129 p1 fun x20 =>
  ldI m8 129 p2 fun x26 =>
  cal (f_X11_orderOf n x20 x26 m8) fun x27 m27 =>
  j38 x27 m27
set_option maxRecDepth 100000 in
set_option maxHeartbeats 4000000 in
theorem s_X11_order (l : Launch) (sc : g_S) (E : Mem → g_H) (R : Nat → Prop) (hE : LE E R) (hR : RRF R) (n : Nat)  (p1 : Int) (p2 : Int) (hp1 : inR p1) (hp2 : inR p2) (mi : Mem) (r : Rz) (H : f_X11_order n p1 p2 mi = some r) : AMet l sc yX11_order cX11_order 3 (some FieldType.int) 203 0 0 [.ref 100, iv p1, iv p2] (E mi) (pI E r) := by
  have r100 : R 100 := hR 100 (Nat.le_of_ble_eq_true rfl) (Nat.le_of_ble_eq_true rfl)
  have r129 : R 129 := hR 129 (Nat.le_of_ble_eq_true rfl) (Nat.le_of_ble_eq_true rfl)
  unfold f_X11_order at H
  refine AMet.of (own := RX11) (by decide +kernel) rfl (Nat.le_of_ble_eq_true rfl) [(0, .ref 100), (1, iv p1), (2, iv p2)] rfl (fun D base ad => ?_)
  refine aw_iload_n (pc := 0) dX11_order_0 rfl ?_
  refine cx_callS (pc := 1) (P := pI) (dC := 1) (mcC := 0) (msC := 0) [iv p1] (fun r1 H1 => s_X11_isSlot l sc E R hE hR n p1 hp1 mi r1 H1) ca_X11_324 rfl rfl (Nat.le_of_ble_eq_true rfl) (Nat.le_of_ble_eq_true rfl) (Nat.le_of_ble_eq_true rfl) (Nat.le_of_ble_eq_true rfl) dX11_order_1 H (fun x1 m1 v1 hh1 H hp => ?_)
  refine cx_backI hp (fun hx1 => ?_)
  refine jn_ind (fun (f9 : Int → Mem → Option Rz) => ∀ (s0_38 : Int) (m38 : Mem), inR s0_38 → f9 s0_38 m38 = some r → AW l D base sc RX11 yX11_order cX11_order 3 (some FieldType.int) 203 0 0 ad (E mi) (pI E r) 0 0 (E m38) 38 [] [iv s0_38]) (fun s0_38 m38 hs0_38 H => ?_) (fun j38 hj38 H => ?_) H
  · -- 38
    exact cx_iret (pc := 38) hs0_38 rfl (Nat.le_of_ble_eq_true rfl) (Nat.le_of_ble_eq_true rfl) dX11_order_38 H
  refine jn_ind (fun (f9 : Mem → Option Rz) => ∀ (m33 : Mem), f9 m33 = some r → AW l D base sc RX11 yX11_order cX11_order 3 (some FieldType.int) 203 0 0 ad (E mi) (pI E r) 0 0 (E m33) 33 [(0, .ref 100)] []) (fun m33 H => ?_) (fun j33 hj33 H => ?_) H
  · -- 33
    refine aw_aload_n (pc := 33) dX11_order_33 rfl ?_
    refine cx_iconst (pc := 34) dX11_order_34 ?_
    refine cx_callV (pc := 35) (P := pI) (dC := 0) (mcC := 0) (msC := 0) [iv 1] hE r100 (fun r1 H1 => s_X11_no l sc E R hE hR n 1 (inR_lit _ rfl) m33 r1 H1) ca_X11_300 rfl ⟨_, rfl, rfl⟩ rfl rfl (Nat.le_of_ble_eq_true rfl) (Nat.le_of_ble_eq_true rfl) (Nat.le_of_ble_eq_true rfl) (Nat.le_of_ble_eq_true rfl) dX11_order_35 H (fun x35 m35 v35 hh35 H hp => ?_)
    refine cx_backI hp (fun hx35 => ?_)
    exact AW.sel [] rfl (hj38 _ _ hx35 H)
  refine cx_if_eq (pc := 4) 33 hx1 dX11_order_4 rfl H (fun H => ?_) (fun H => ?_)
  · -- 4: 33
    exact AW.sel [0] rfl (hj33 _ H)
  · -- 4: 7
    refine aw_iload_n (pc := 7) dX11_order_7 rfl ?_
    refine cx_callS (pc := 8) (P := pI) (dC := 1) (mcC := 0) (msC := 0) [iv p2] (fun r1 H1 => s_X11_isSlot l sc E R hE hR n p2 hp2 m1 r1 H1) ca_X11_324 rfl rfl (Nat.le_of_ble_eq_true rfl) (Nat.le_of_ble_eq_true rfl) (Nat.le_of_ble_eq_true rfl) (Nat.le_of_ble_eq_true rfl) dX11_order_8 H (fun x8 m8 v8 hh8 H hp => ?_)
    refine cx_backI hp (fun hx8 => ?_)
    refine cx_if_eq (pc := 11) 33 hx8 dX11_order_11 rfl H (fun H => ?_) (fun H => ?_)
    · -- 11: 33
      exact AW.sel [0] rfl (hj33 _ H)
    · -- 11: 14
      refine aw_aload_n (pc := 14) dX11_order_14 rfl ?_
      refine aw_aload_n (pc := 15) dX11_order_15 rfl ?_
      refine cx_gtC (pc := 16) 129 hE r100 fl_X11_264 rfl rfl (Nat.le_of_ble_eq_true rfl) dX11_order_16 ?_
      refine aw_iload_n (pc := 19) dX11_order_19 rfl ?_
      refine cx_ldI (pc := 20) hE r129 hp1 dX11_order_20 H (fun x20 hx20 H => ?_)
      refine aw_aload_n (pc := 21) dX11_order_21 rfl ?_
      refine cx_gtC (pc := 22) 129 hE r100 fl_X11_264 rfl rfl (Nat.le_of_ble_eq_true rfl) dX11_order_22 ?_
      refine aw_iload_n (pc := 25) dX11_order_25 rfl ?_
      refine cx_ldI (pc := 26) hE r129 hp2 dX11_order_26 H (fun x26 hx26 H => ?_)
      refine cx_callV (pc := 27) (P := pI) (dC := 202) (mcC := 0) (msC := 0) [iv x20, iv x26] hE r100 (fun r1 H1 => s_X11_orderOf l sc E R hE hR n x20 x26 hx20 hx26 m8 r1 H1) ca_X11_330 rfl ⟨_, rfl, rfl⟩ rfl rfl (Nat.le_of_ble_eq_true rfl) (Nat.le_of_ble_eq_true rfl) (Nat.le_of_ble_eq_true rfl) (Nat.le_of_ble_eq_true rfl) dX11_order_27 H (fun x27 m27 v27 hh27 H hp => ?_)
      refine cx_backI hp (fun hx27 => ?_)
      refine aw_goto (pc := 30) 38 dX11_order_30 rfl ?_
      exact AW.sel [] rfl (hj38 _ _ hx27 H)
/-- X11 outcome (II)I -/
def f_X11_outcome (n : Nat) (p1 : Int) (p2 : Int) (mi : Mem) : Option Rz :=
  cal (f_X11_isSlot n p1 mi) fun x1 m1 =>
  jn (fun (m14 : Mem) =>
    cal (f_X11_no n 1 m14) fun x16 m16 =>
    rt x16 m16
  ) fun (j14 : Mem → Option Rz) =>
  if x1 = 0 then (
    j14 m1
  ) else
  cal (f_X11_isSlot n p2 m1) fun x8 m8 =>
  if x8 = 0 then (
    j14 m8
  ) else
  cal (f_X11_gathers n m8) fun _ m21 =>
  ldI m21 129 p1 fun x31 =>
  ldI m21 129 p2 fun x37 =>
  cal (f_X11_sum n x31 x37 m21) fun x38 m38 =>
  cal (f_X11_orderOf n x38 0 m38) fun x42 m42 =>
  rt x42 m42
set_option maxRecDepth 100000 in
set_option maxHeartbeats 4000000 in
theorem s_X11_outcome (l : Launch) (sc : g_S) (E : Mem → g_H) (R : Nat → Prop) (hE : LE E R) (hR : RRF R) (n : Nat)  (p1 : Int) (p2 : Int) (hp1 : inR p1) (hp2 : inR p2) (mi : Mem) (r : Rz) (H : f_X11_outcome n p1 p2 mi = some r) : AMet l sc yX11_outcome cX11_outcome 3 (some FieldType.int) 408 0 0 [.ref 100, iv p1, iv p2] (E mi) (pI E r) := by
  have r100 : R 100 := hR 100 (Nat.le_of_ble_eq_true rfl) (Nat.le_of_ble_eq_true rfl)
  have r129 : R 129 := hR 129 (Nat.le_of_ble_eq_true rfl) (Nat.le_of_ble_eq_true rfl)
  unfold f_X11_outcome at H
  refine AMet.of (own := RX11) (by decide +kernel) rfl (Nat.le_of_ble_eq_true rfl) [(0, .ref 100), (1, iv p1), (2, iv p2)] rfl (fun D base ad => ?_)
  refine aw_iload_n (pc := 0) dX11_outcome_0 rfl ?_
  refine cx_callS (pc := 1) (P := pI) (dC := 1) (mcC := 0) (msC := 0) [iv p1] (fun r1 H1 => s_X11_isSlot l sc E R hE hR n p1 hp1 mi r1 H1) ca_X11_324 rfl rfl (Nat.le_of_ble_eq_true rfl) (Nat.le_of_ble_eq_true rfl) (Nat.le_of_ble_eq_true rfl) (Nat.le_of_ble_eq_true rfl) dX11_outcome_1 H (fun x1 m1 v1 hh1 H hp => ?_)
  refine cx_backI hp (fun hx1 => ?_)
  refine jn_ind (fun (f9 : Mem → Option Rz) => ∀ (m14 : Mem), f9 m14 = some r → AW l D base sc RX11 yX11_outcome cX11_outcome 3 (some FieldType.int) 408 0 0 ad (E mi) (pI E r) 0 0 (E m14) 14 [(0, .ref 100)] []) (fun m14 H => ?_) (fun j14 hj14 H => ?_) H
  · -- 14
    refine aw_aload_n (pc := 14) dX11_outcome_14 rfl ?_
    refine cx_iconst (pc := 15) dX11_outcome_15 ?_
    refine cx_callV (pc := 16) (P := pI) (dC := 0) (mcC := 0) (msC := 0) [iv 1] hE r100 (fun r1 H1 => s_X11_no l sc E R hE hR n 1 (inR_lit _ rfl) m14 r1 H1) ca_X11_300 rfl ⟨_, rfl, rfl⟩ rfl rfl (Nat.le_of_ble_eq_true rfl) (Nat.le_of_ble_eq_true rfl) (Nat.le_of_ble_eq_true rfl) (Nat.le_of_ble_eq_true rfl) dX11_outcome_16 H (fun x16 m16 v16 hh16 H hp => ?_)
    refine cx_backI hp (fun hx16 => ?_)
    exact cx_iret (pc := 19) hx16 rfl (Nat.le_of_ble_eq_true rfl) (Nat.le_of_ble_eq_true rfl) dX11_outcome_19 H
  refine cx_if_eq (pc := 4) 14 hx1 dX11_outcome_4 rfl H (fun H => ?_) (fun H => ?_)
  · -- 4: 14
    exact AW.sel [0] rfl (hj14 _ H)
  · -- 4: 7
    refine aw_iload_n (pc := 7) dX11_outcome_7 rfl ?_
    refine cx_callS (pc := 8) (P := pI) (dC := 1) (mcC := 0) (msC := 0) [iv p2] (fun r1 H1 => s_X11_isSlot l sc E R hE hR n p2 hp2 m1 r1 H1) ca_X11_324 rfl rfl (Nat.le_of_ble_eq_true rfl) (Nat.le_of_ble_eq_true rfl) (Nat.le_of_ble_eq_true rfl) (Nat.le_of_ble_eq_true rfl) dX11_outcome_8 H (fun x8 m8 v8 hh8 H hp => ?_)
    refine cx_backI hp (fun hx8 => ?_)
    refine cx_if_ne (pc := 11) 20 hx8 dX11_outcome_11 rfl H (fun H => ?_) (fun H => ?_)
    · -- 11: 14
      exact AW.sel [0] rfl (hj14 _ H)
    · -- 11: 20
      refine aw_aload_n (pc := 20) dX11_outcome_20 rfl ?_
      refine cx_callV (pc := 21) (P := pV) (dC := 63) (mcC := 0) (msC := 0) [] hE r100 (fun r1 H1 => s_X11_gathers l sc E R hE hR n m8 r1 H1) ca_X11_333 rfl ⟨_, rfl, rfl⟩ rfl rfl (Nat.le_of_ble_eq_true rfl) (Nat.le_of_ble_eq_true rfl) (Nat.le_of_ble_eq_true rfl) (Nat.le_of_ble_eq_true rfl) dX11_outcome_21 H (fun x21 m21 v21 hh21 H hp => ?_)
      refine cx_backV hp ?_
      refine aw_aload_n (pc := 24) dX11_outcome_24 rfl ?_
      refine aw_aload_n (pc := 25) dX11_outcome_25 rfl ?_
      refine aw_aload_n (pc := 26) dX11_outcome_26 rfl ?_
      refine cx_gtC (pc := 27) 129 hE r100 fl_X11_264 rfl rfl (Nat.le_of_ble_eq_true rfl) dX11_outcome_27 ?_
      refine aw_iload_n (pc := 30) dX11_outcome_30 rfl ?_
      refine cx_ldI (pc := 31) hE r129 hp1 dX11_outcome_31 H (fun x31 hx31 H => ?_)
      refine aw_aload_n (pc := 32) dX11_outcome_32 rfl ?_
      refine cx_gtC (pc := 33) 129 hE r100 fl_X11_264 rfl rfl (Nat.le_of_ble_eq_true rfl) dX11_outcome_33 ?_
      refine aw_iload_n (pc := 36) dX11_outcome_36 rfl ?_
      refine cx_ldI (pc := 37) hE r129 hp2 dX11_outcome_37 H (fun x37 hx37 H => ?_)
      refine cx_callV (pc := 38) (P := pI) (dC := 407) (mcC := 0) (msC := 0) [iv x31, iv x37] hE r100 (fun r1 H1 => s_X11_sum l sc E R hE hR n x31 x37 hx31 hx37 m21 r1 H1) ca_X11_191 rfl ⟨_, rfl, rfl⟩ rfl rfl (Nat.le_of_ble_eq_true rfl) (Nat.le_of_ble_eq_true rfl) (Nat.le_of_ble_eq_true rfl) (Nat.le_of_ble_eq_true rfl) dX11_outcome_38 H (fun x38 m38 v38 hh38 H hp => ?_)
      refine cx_backI hp (fun hx38 => ?_)
      refine cx_iconst (pc := 41) dX11_outcome_41 ?_
      refine cx_callV (pc := 42) (P := pI) (dC := 202) (mcC := 0) (msC := 0) [iv x38, iv 0] hE r100 (fun r1 H1 => s_X11_orderOf l sc E R hE hR n x38 0 hx38 (inR_lit _ rfl) m38 r1 H1) ca_X11_330 rfl ⟨_, rfl, rfl⟩ rfl rfl (Nat.le_of_ble_eq_true rfl) (Nat.le_of_ble_eq_true rfl) (Nat.le_of_ble_eq_true rfl) (Nat.le_of_ble_eq_true rfl) dX11_outcome_42 H (fun x42 m42 v42 hh42 H hp => ?_)
      refine cx_backI hp (fun hx42 => ?_)
      exact cx_iret (pc := 45) hx42 rfl (Nat.le_of_ble_eq_true rfl) (Nat.le_of_ble_eq_true rfl) dX11_outcome_45 H
/-- X11 far (I)I -/
def f_X11_far (n : Nat) (p1 : Int) (mi : Mem) : Option Rz :=
  cal (f_X11_isSlot n p1 mi) fun x1 m1 =>
  if x1 = 0 then (
    cal (f_X11_no n 1 m1) fun x9 m9 =>
    rt x9 m9
  ) else
  cal (f_X11_gathers n m1) fun _ m14 =>
  ldI m14 129 p1 fun x23 =>
  cal (f_X11_heapOf n 10 m14) fun x27 m27 =>
  cal (f_X11_orderOf n x23 x27 m27) fun x30 m30 =>
  rt x30 m30
set_option maxRecDepth 100000 in
set_option maxHeartbeats 4000000 in
theorem s_X11_far (l : Launch) (sc : g_S) (E : Mem → g_H) (R : Nat → Prop) (hE : LE E R) (hR : RRF R) (n : Nat)  (p1 : Int) (hp1 : inR p1) (mi : Mem) (r : Rz) (H : f_X11_far n p1 mi = some r) : AMet l sc yX11_far cX11_far 2 (some FieldType.int) 308 0 0 [.ref 100, iv p1] (E mi) (pI E r) := by
  have r100 : R 100 := hR 100 (Nat.le_of_ble_eq_true rfl) (Nat.le_of_ble_eq_true rfl)
  have r129 : R 129 := hR 129 (Nat.le_of_ble_eq_true rfl) (Nat.le_of_ble_eq_true rfl)
  unfold f_X11_far at H
  refine AMet.of (own := RX11) (by decide +kernel) rfl (Nat.le_of_ble_eq_true rfl) [(0, .ref 100), (1, iv p1)] rfl (fun D base ad => ?_)
  refine aw_iload_n (pc := 0) dX11_far_0 rfl ?_
  refine cx_callS (pc := 1) (P := pI) (dC := 1) (mcC := 0) (msC := 0) [iv p1] (fun r1 H1 => s_X11_isSlot l sc E R hE hR n p1 hp1 mi r1 H1) ca_X11_324 rfl rfl (Nat.le_of_ble_eq_true rfl) (Nat.le_of_ble_eq_true rfl) (Nat.le_of_ble_eq_true rfl) (Nat.le_of_ble_eq_true rfl) dX11_far_1 H (fun x1 m1 v1 hh1 H hp => ?_)
  refine cx_backI hp (fun hx1 => ?_)
  refine cx_if_ne (pc := 4) 13 hx1 dX11_far_4 rfl H (fun H => ?_) (fun H => ?_)
  · -- 4: 7
    refine aw_aload_n (pc := 7) dX11_far_7 rfl ?_
    refine cx_iconst (pc := 8) dX11_far_8 ?_
    refine cx_callV (pc := 9) (P := pI) (dC := 0) (mcC := 0) (msC := 0) [iv 1] hE r100 (fun r1 H1 => s_X11_no l sc E R hE hR n 1 (inR_lit _ rfl) m1 r1 H1) ca_X11_300 rfl ⟨_, rfl, rfl⟩ rfl rfl (Nat.le_of_ble_eq_true rfl) (Nat.le_of_ble_eq_true rfl) (Nat.le_of_ble_eq_true rfl) (Nat.le_of_ble_eq_true rfl) dX11_far_9 H (fun x9 m9 v9 hh9 H hp => ?_)
    refine cx_backI hp (fun hx9 => ?_)
    exact cx_iret (pc := 12) hx9 rfl (Nat.le_of_ble_eq_true rfl) (Nat.le_of_ble_eq_true rfl) dX11_far_12 H
  · -- 4: 13
    refine aw_aload_n (pc := 13) dX11_far_13 rfl ?_
    refine cx_callV (pc := 14) (P := pV) (dC := 63) (mcC := 0) (msC := 0) [] hE r100 (fun r1 H1 => s_X11_gathers l sc E R hE hR n m1 r1 H1) ca_X11_333 rfl ⟨_, rfl, rfl⟩ rfl rfl (Nat.le_of_ble_eq_true rfl) (Nat.le_of_ble_eq_true rfl) (Nat.le_of_ble_eq_true rfl) (Nat.le_of_ble_eq_true rfl) dX11_far_14 H (fun x14 m14 v14 hh14 H hp => ?_)
    refine cx_backV hp ?_
    refine aw_aload_n (pc := 17) dX11_far_17 rfl ?_
    refine aw_aload_n (pc := 18) dX11_far_18 rfl ?_
    refine cx_gtC (pc := 19) 129 hE r100 fl_X11_264 rfl rfl (Nat.le_of_ble_eq_true rfl) dX11_far_19 ?_
    refine aw_iload_n (pc := 22) dX11_far_22 rfl ?_
    refine cx_ldI (pc := 23) hE r129 hp1 dX11_far_23 H (fun x23 hx23 H => ?_)
    refine aw_aload_n (pc := 24) dX11_far_24 rfl ?_
    refine cx_bipush (pc := 25) dX11_far_25 (by decide) ?_
    refine cx_callV (pc := 27) (P := pI) (dC := 307) (mcC := 0) (msC := 0) [iv 10] hE r100 (fun r1 H1 => s_X11_heapOf l sc E R hE hR n 10 (inR_lit _ rfl) m14 r1 H1) ca_X11_206 rfl ⟨_, rfl, rfl⟩ rfl rfl (Nat.le_of_ble_eq_true rfl) (Nat.le_of_ble_eq_true rfl) (Nat.le_of_ble_eq_true rfl) (Nat.le_of_ble_eq_true rfl) dX11_far_27 H (fun x27 m27 v27 hh27 H hp => ?_)
    refine cx_backI hp (fun hx27 => ?_)
    refine cx_callV (pc := 30) (P := pI) (dC := 202) (mcC := 0) (msC := 0) [iv x23, iv x27] hE r100 (fun r1 H1 => s_X11_orderOf l sc E R hE hR n x23 x27 hx23 hx27 m27 r1 H1) ca_X11_330 rfl ⟨_, rfl, rfl⟩ rfl rfl (Nat.le_of_ble_eq_true rfl) (Nat.le_of_ble_eq_true rfl) (Nat.le_of_ble_eq_true rfl) (Nat.le_of_ble_eq_true rfl) dX11_far_30 H (fun x30 m30 v30 hh30 H hp => ?_)
    refine cx_backI hp (fun hx30 => ?_)
    exact cx_iret (pc := 33) hx30 rfl (Nat.le_of_ble_eq_true rfl) (Nat.le_of_ble_eq_true rfl) dX11_far_33 H
/-- X11 isAnyUnder (III)Z -/
def f_X11_isAnyUnder (n : Nat) (p1 : Int) (p2 : Int) (p3 : Int) (mi : Mem) : Option Rz :=
  lp (F := Int → Int → Mem → Option Rz) (fun _ _ _ => none) (fun w6 v4_6 v5_6 m6 =>
    jn (fun (m37 : Mem) =>
      rtZ v4_6 m37
    ) fun (j37 : Mem → Option Rz) =>
    if v5_6 < p2 then (
      if v4_6 = 0 then (
        ldI m6 122 v5_6 fun x24 =>
        cal (f_X11_atMost n x24 p3 m6) fun x26 m26 =>
        w6 x26 (w32 (v5_6 + 1)) m26
      ) else
      j37 m6
    ) else
    j37 m6
  ) n 0 p1 mi
set_option maxRecDepth 100000 in
set_option maxHeartbeats 4000000 in
theorem s_X11_isAnyUnder (l : Launch) (sc : g_S) (E : Mem → g_H) (R : Nat → Prop) (hE : LE E R) (hR : RRF R) (n : Nat)  (p1 : Int) (p2 : Int) (p3 : Int) (hp1 : inR p1) (hp2 : inR p2) (hp3 : inR p3) (mi : Mem) (r : Rz) (H : f_X11_isAnyUnder n p1 p2 p3 mi = some r) : AMet l sc yX11_isAnyUnder cX11_isAnyUnder 6 (some FieldType.boolean) 202 0 0 [.ref 100, iv p1, iv p2, iv p3] (E mi) (pI E r) := by
  have r100 : R 100 := hR 100 (Nat.le_of_ble_eq_true rfl) (Nat.le_of_ble_eq_true rfl)
  have r122 : R 122 := hR 122 (Nat.le_of_ble_eq_true rfl) (Nat.le_of_ble_eq_true rfl)
  unfold f_X11_isAnyUnder at H
  refine AMet.of (own := RX11) (by decide +kernel) rfl (Nat.le_of_ble_eq_true rfl) [(0, .ref 100), (1, iv p1), (2, iv p2), (3, iv p3)] rfl (fun D base ad => ?_)
  refine cx_iconst (pc := 0) dX11_isAnyUnder_0 ?_
  refine aw_istore (pc := 1) [(4, iv 0), (0, .ref 100), (1, iv p1), (2, iv p2), (3, iv p3)] dX11_isAnyUnder_1 rfl (by decide) ?_
  refine aw_iload_n (pc := 3) dX11_isAnyUnder_3 rfl ?_
  refine aw_istore (pc := 4) [(5, iv p1), (4, iv 0), (0, .ref 100), (1, iv p1), (2, iv p2), (3, iv p3)] dX11_isAnyUnder_4 rfl (by decide) ?_
  refine AW.sel [2, 4, 5, 1, 0] rfl (lp_ind (bot := fun _ _ _ => none) (fun (f9 : Int → Int → Mem → Option Rz) => ∀ (v4_6 : Int) (v5_6 : Int) (m6 : Mem), inR v4_6 → inR v5_6 → f9 v4_6 v5_6 m6 = some r → AW l D base sc RX11 yX11_isAnyUnder cX11_isAnyUnder 6 (some FieldType.boolean) 202 0 0 ad (E mi) (pI E r) 0 0 (E m6) 6 [(0, .ref 100), (2, iv p2), (3, iv p3), (4, iv v4_6), (5, iv v5_6)] []) (fun _ _ _ _ _ h9 => nomatch h9) (fun w6 ih6 v4_6 v5_6 m6 hv4_6 hv5_6 H => ?_) n _ _ _ (inR_lit _ rfl) hp1 H)
  refine aw_iload (pc := 6) dX11_isAnyUnder_6 rfl ?_
  refine aw_iload_n (pc := 8) dX11_isAnyUnder_8 rfl ?_
  refine jn_ind (fun (f9 : Mem → Option Rz) => ∀ (m37 : Mem), f9 m37 = some r → AW l D base sc RX11 yX11_isAnyUnder cX11_isAnyUnder 6 (some FieldType.boolean) 202 0 0 ad (E mi) (pI E r) 0 0 (E m37) 37 [(4, iv v4_6)] []) (fun m37 H => ?_) (fun j37 hj37 H => ?_) H
  · -- 37
    refine aw_iload (pc := 37) dX11_isAnyUnder_37 rfl ?_
    exact cx_zret (pc := 39) rfl (Nat.le_of_ble_eq_true rfl) (Nat.le_of_ble_eq_true rfl) dX11_isAnyUnder_39 H
  refine cx_icmp_ge (pc := 9) 37 hv5_6 hp2 dX11_isAnyUnder_9 rfl H (fun H => ?_) (fun H => ?_)
  · -- 9: 12
    refine aw_iload (pc := 12) dX11_isAnyUnder_12 rfl ?_
    refine cx_if_ne (pc := 14) 37 hv4_6 dX11_isAnyUnder_14 rfl H (fun H => ?_) (fun H => ?_)
    · -- 14: 17
      refine aw_aload_n (pc := 17) dX11_isAnyUnder_17 rfl ?_
      refine aw_aload_n (pc := 18) dX11_isAnyUnder_18 rfl ?_
      refine cx_gtC (pc := 19) 122 hE r100 fl_X11_172 rfl rfl (Nat.le_of_ble_eq_true rfl) dX11_isAnyUnder_19 ?_
      refine aw_iload (pc := 22) dX11_isAnyUnder_22 rfl ?_
      refine cx_ldI (pc := 24) hE r122 hv5_6 dX11_isAnyUnder_24 H (fun x24 hx24 H => ?_)
      refine aw_iload_n (pc := 25) dX11_isAnyUnder_25 rfl ?_
      refine cx_callV (pc := 26) (P := pI) (dC := 201) (mcC := 0) (msC := 0) [iv x24, iv p3] hE r100 (fun r1 H1 => s_X11_atMost l sc E R hE hR n x24 p3 hx24 hp3 m6 r1 H1) ca_X11_114 rfl ⟨_, rfl, rfl⟩ rfl rfl (Nat.le_of_ble_eq_true rfl) (Nat.le_of_ble_eq_true rfl) (Nat.le_of_ble_eq_true rfl) (Nat.le_of_ble_eq_true rfl) dX11_isAnyUnder_26 H (fun x26 m26 v26 hh26 H hp => ?_)
      refine cx_backI hp (fun hx26 => ?_)
      refine aw_istore (pc := 29) [(4, iv x26), (0, .ref 100), (2, iv p2), (3, iv p3), (5, iv v5_6)] dX11_isAnyUnder_29 rfl (by decide) ?_
      refine cx_iinc (pc := 31) [(5, iv (w32 (v5_6 + 1))), (4, iv x26), (0, .ref 100), (2, iv p2), (3, iv p3)] dX11_isAnyUnder_31 rfl rfl (by decide) ?_
      refine aw_goto (pc := 34) 6 dX11_isAnyUnder_34 rfl ?_
      exact AW.sel [2, 3, 4, 1, 0] rfl (ih6 _ _ _ hx26 (inR_w32 _) H)
    · -- 14: 37
      exact AW.sel [3] rfl (hj37 _ H)
  · -- 9: 37
    exact AW.sel [3] rfl (hj37 _ H)
/-- X11 isAnyOver (III)Z -/
def f_X11_isAnyOver (n : Nat) (p1 : Int) (p2 : Int) (p3 : Int) (mi : Mem) : Option Rz :=
  lp (F := Int → Int → Mem → Option Rz) (fun _ _ _ => none) (fun w6 v4_6 v5_6 m6 =>
    jn (fun (m37 : Mem) =>
      rtZ v4_6 m37
    ) fun (j37 : Mem → Option Rz) =>
    if v5_6 < p2 then (
      if v4_6 = 0 then (
        ldI m6 122 v5_6 fun x25 =>
        cal (f_X11_atMost n p3 x25 m6) fun x26 m26 =>
        w6 x26 (w32 (v5_6 + 1)) m26
      ) else
      j37 m6
    ) else
    j37 m6
  ) n 0 p1 mi
set_option maxRecDepth 100000 in
set_option maxHeartbeats 4000000 in
theorem s_X11_isAnyOver (l : Launch) (sc : g_S) (E : Mem → g_H) (R : Nat → Prop) (hE : LE E R) (hR : RRF R) (n : Nat)  (p1 : Int) (p2 : Int) (p3 : Int) (hp1 : inR p1) (hp2 : inR p2) (hp3 : inR p3) (mi : Mem) (r : Rz) (H : f_X11_isAnyOver n p1 p2 p3 mi = some r) : AMet l sc yX11_isAnyOver cX11_isAnyOver 6 (some FieldType.boolean) 202 0 0 [.ref 100, iv p1, iv p2, iv p3] (E mi) (pI E r) := by
  have r100 : R 100 := hR 100 (Nat.le_of_ble_eq_true rfl) (Nat.le_of_ble_eq_true rfl)
  have r122 : R 122 := hR 122 (Nat.le_of_ble_eq_true rfl) (Nat.le_of_ble_eq_true rfl)
  unfold f_X11_isAnyOver at H
  refine AMet.of (own := RX11) (by decide +kernel) rfl (Nat.le_of_ble_eq_true rfl) [(0, .ref 100), (1, iv p1), (2, iv p2), (3, iv p3)] rfl (fun D base ad => ?_)
  refine cx_iconst (pc := 0) dX11_isAnyOver_0 ?_
  refine aw_istore (pc := 1) [(4, iv 0), (0, .ref 100), (1, iv p1), (2, iv p2), (3, iv p3)] dX11_isAnyOver_1 rfl (by decide) ?_
  refine aw_iload_n (pc := 3) dX11_isAnyOver_3 rfl ?_
  refine aw_istore (pc := 4) [(5, iv p1), (4, iv 0), (0, .ref 100), (1, iv p1), (2, iv p2), (3, iv p3)] dX11_isAnyOver_4 rfl (by decide) ?_
  refine AW.sel [2, 4, 5, 1, 0] rfl (lp_ind (bot := fun _ _ _ => none) (fun (f9 : Int → Int → Mem → Option Rz) => ∀ (v4_6 : Int) (v5_6 : Int) (m6 : Mem), inR v4_6 → inR v5_6 → f9 v4_6 v5_6 m6 = some r → AW l D base sc RX11 yX11_isAnyOver cX11_isAnyOver 6 (some FieldType.boolean) 202 0 0 ad (E mi) (pI E r) 0 0 (E m6) 6 [(0, .ref 100), (2, iv p2), (3, iv p3), (4, iv v4_6), (5, iv v5_6)] []) (fun _ _ _ _ _ h9 => nomatch h9) (fun w6 ih6 v4_6 v5_6 m6 hv4_6 hv5_6 H => ?_) n _ _ _ (inR_lit _ rfl) hp1 H)
  refine aw_iload (pc := 6) dX11_isAnyOver_6 rfl ?_
  refine aw_iload_n (pc := 8) dX11_isAnyOver_8 rfl ?_
  refine jn_ind (fun (f9 : Mem → Option Rz) => ∀ (m37 : Mem), f9 m37 = some r → AW l D base sc RX11 yX11_isAnyOver cX11_isAnyOver 6 (some FieldType.boolean) 202 0 0 ad (E mi) (pI E r) 0 0 (E m37) 37 [(4, iv v4_6)] []) (fun m37 H => ?_) (fun j37 hj37 H => ?_) H
  · -- 37
    refine aw_iload (pc := 37) dX11_isAnyOver_37 rfl ?_
    exact cx_zret (pc := 39) rfl (Nat.le_of_ble_eq_true rfl) (Nat.le_of_ble_eq_true rfl) dX11_isAnyOver_39 H
  refine cx_icmp_ge (pc := 9) 37 hv5_6 hp2 dX11_isAnyOver_9 rfl H (fun H => ?_) (fun H => ?_)
  · -- 9: 12
    refine aw_iload (pc := 12) dX11_isAnyOver_12 rfl ?_
    refine cx_if_ne (pc := 14) 37 hv4_6 dX11_isAnyOver_14 rfl H (fun H => ?_) (fun H => ?_)
    · -- 14: 17
      refine aw_aload_n (pc := 17) dX11_isAnyOver_17 rfl ?_
      refine aw_iload_n (pc := 18) dX11_isAnyOver_18 rfl ?_
      refine aw_aload_n (pc := 19) dX11_isAnyOver_19 rfl ?_
      refine cx_gtC (pc := 20) 122 hE r100 fl_X11_172 rfl rfl (Nat.le_of_ble_eq_true rfl) dX11_isAnyOver_20 ?_
      refine aw_iload (pc := 23) dX11_isAnyOver_23 rfl ?_
      refine cx_ldI (pc := 25) hE r122 hv5_6 dX11_isAnyOver_25 H (fun x25 hx25 H => ?_)
      refine cx_callV (pc := 26) (P := pI) (dC := 201) (mcC := 0) (msC := 0) [iv p3, iv x25] hE r100 (fun r1 H1 => s_X11_atMost l sc E R hE hR n p3 x25 hp3 hx25 m6 r1 H1) ca_X11_114 rfl ⟨_, rfl, rfl⟩ rfl rfl (Nat.le_of_ble_eq_true rfl) (Nat.le_of_ble_eq_true rfl) (Nat.le_of_ble_eq_true rfl) (Nat.le_of_ble_eq_true rfl) dX11_isAnyOver_26 H (fun x26 m26 v26 hh26 H hp => ?_)
      refine cx_backI hp (fun hx26 => ?_)
      refine aw_istore (pc := 29) [(4, iv x26), (0, .ref 100), (2, iv p2), (3, iv p3), (5, iv v5_6)] dX11_isAnyOver_29 rfl (by decide) ?_
      refine cx_iinc (pc := 31) [(5, iv (w32 (v5_6 + 1))), (4, iv x26), (0, .ref 100), (2, iv p2), (3, iv p3)] dX11_isAnyOver_31 rfl rfl (by decide) ?_
      refine aw_goto (pc := 34) 6 dX11_isAnyOver_34 rfl ?_
      exact AW.sel [2, 3, 4, 1, 0] rfl (ih6 _ _ _ hx26 (inR_w32 _) H)
    · -- 14: 37
      exact AW.sel [3] rfl (hj37 _ H)
  · -- 9: 37
    exact AW.sel [3] rfl (hj37 _ H)
/-- X11 wholeWeight (IIII)I -/
def f_X11_wholeWeight (n : Nat) (p1 : Int) (p2 : Int) (p3 : Int) (p4 : Int) (mi : Mem) : Option Rz :=
  cal (f_X11_heapOf n 10 mi) fun x5 m5 =>
  cal (f_X11_orderOf n p1 x5 m5) fun x8 m8 =>
  jn (fun (v6_55 : Int) (m55 : Mem) =>
    jn (fun (v6_93 : Int) (m93 : Mem) =>
      rt v6_93 m93
    ) fun (j93 : Int → Mem → Option Rz) =>
    if x8 = (-1) then (
      lp (F := Int → Mem → Option Rz) (fun _ _ => none) (fun w65 v6_65 m65 =>
        if v6_65 < 40 then (
          cal (f_X11_wholeOf n v6_65 m65) fun x78 m78 =>
          cal (f_X11_isAnyOver n p2 p3 x78 m78) fun x81 m81 =>
          if x81 = 0 then (
            j93 v6_65 m81
          ) else
          w65 (w32 (v6_65 + 1)) m81
        ) else
        j93 v6_65 m65
      ) n (-40) m55
    ) else
    j93 v6_55 m55
  ) fun (j55 : Int → Mem → Option Rz) =>
  if x8 = 1 then (
    lp (F := Int → Mem → Option Rz) (fun _ _ => none) (fun w26 v6_26 m26 =>
      if (-40) < v6_26 then (
        cal (f_X11_wholeOf n v6_26 m26) fun x40 m40 =>
        cal (f_X11_isAnyUnder n p3 p4 x40 m40) fun x43 m43 =>
        if x43 = 0 then (
          j55 v6_26 m43
        ) else
        w26 (w32 (v6_26 + (-1))) m43
      ) else
      j55 v6_26 m26
    ) n 40 m8
  ) else
  j55 0 m8
set_option maxRecDepth 100000 in
set_option maxHeartbeats 4000000 in
theorem s_X11_wholeWeight (l : Launch) (sc : g_S) (E : Mem → g_H) (R : Nat → Prop) (hE : LE E R) (hR : RRF R) (n : Nat)  (p1 : Int) (p2 : Int) (p3 : Int) (p4 : Int) (hp1 : inR p1) (hp2 : inR p2) (hp3 : inR p3) (hp4 : inR p4) (mi : Mem) (r : Rz) (H : f_X11_wholeWeight n p1 p2 p3 p4 mi = some r) : AMet l sc yX11_wholeWeight cX11_wholeWeight 7 (some FieldType.int) 308 0 0 [.ref 100, iv p1, iv p2, iv p3, iv p4] (E mi) (pI E r) := by
  have r100 : R 100 := hR 100 (Nat.le_of_ble_eq_true rfl) (Nat.le_of_ble_eq_true rfl)
  unfold f_X11_wholeWeight at H
  refine AMet.of (own := RX11) (by decide +kernel) rfl (Nat.le_of_ble_eq_true rfl) [(0, .ref 100), (1, iv p1), (2, iv p2), (3, iv p3), (4, iv p4)] rfl (fun D base ad => ?_)
  refine aw_aload_n (pc := 0) dX11_wholeWeight_0 rfl ?_
  refine aw_iload_n (pc := 1) dX11_wholeWeight_1 rfl ?_
  refine aw_aload_n (pc := 2) dX11_wholeWeight_2 rfl ?_
  refine cx_bipush (pc := 3) dX11_wholeWeight_3 (by decide) ?_
  refine cx_callV (pc := 5) (P := pI) (dC := 307) (mcC := 0) (msC := 0) [iv 10] hE r100 (fun r1 H1 => s_X11_heapOf l sc E R hE hR n 10 (inR_lit _ rfl) mi r1 H1) ca_X11_206 rfl ⟨_, rfl, rfl⟩ rfl rfl (Nat.le_of_ble_eq_true rfl) (Nat.le_of_ble_eq_true rfl) (Nat.le_of_ble_eq_true rfl) (Nat.le_of_ble_eq_true rfl) dX11_wholeWeight_5 H (fun x5 m5 v5 hh5 H hp => ?_)
  refine cx_backI hp (fun hx5 => ?_)
  refine cx_callV (pc := 8) (P := pI) (dC := 202) (mcC := 0) (msC := 0) [iv p1, iv x5] hE r100 (fun r1 H1 => s_X11_orderOf l sc E R hE hR n p1 x5 hp1 hx5 m5 r1 H1) ca_X11_330 rfl ⟨_, rfl, rfl⟩ rfl rfl (Nat.le_of_ble_eq_true rfl) (Nat.le_of_ble_eq_true rfl) (Nat.le_of_ble_eq_true rfl) (Nat.le_of_ble_eq_true rfl) dX11_wholeWeight_8 H (fun x8 m8 v8 hh8 H hp => ?_)
  refine cx_backI hp (fun hx8 => ?_)
  refine aw_istore (pc := 11) [(5, iv x8), (0, .ref 100), (1, iv p1), (2, iv p2), (3, iv p3), (4, iv p4)] dX11_wholeWeight_11 rfl (by decide) ?_
  refine cx_iconst (pc := 13) dX11_wholeWeight_13 ?_
  refine aw_istore (pc := 14) [(6, iv 0), (5, iv x8), (0, .ref 100), (1, iv p1), (2, iv p2), (3, iv p3), (4, iv p4)] dX11_wholeWeight_14 rfl (by decide) ?_
  refine aw_iload (pc := 16) dX11_wholeWeight_16 rfl ?_
  refine cx_iconst (pc := 18) dX11_wholeWeight_18 ?_
  refine jn_ind (fun (f9 : Int → Mem → Option Rz) => ∀ (v6_55 : Int) (m55 : Mem), inR v6_55 → f9 v6_55 m55 = some r → AW l D base sc RX11 yX11_wholeWeight cX11_wholeWeight 7 (some FieldType.int) 308 0 0 ad (E mi) (pI E r) 0 0 (E m55) 55 [(0, .ref 100), (2, iv p2), (3, iv p3), (5, iv x8), (6, iv v6_55)] []) (fun v6_55 m55 hv6_55 H => ?_) (fun j55 hj55 H => ?_) H
  · -- 55
    refine aw_iload (pc := 55) dX11_wholeWeight_55 rfl ?_
    refine cx_iconst (pc := 57) dX11_wholeWeight_57 ?_
    refine jn_ind (fun (f9 : Int → Mem → Option Rz) => ∀ (v6_93 : Int) (m93 : Mem), inR v6_93 → f9 v6_93 m93 = some r → AW l D base sc RX11 yX11_wholeWeight cX11_wholeWeight 7 (some FieldType.int) 308 0 0 ad (E mi) (pI E r) 0 0 (E m93) 93 [(6, iv v6_93)] []) (fun v6_93 m93 hv6_93 H => ?_) (fun j93 hj93 H => ?_) H
    · -- 93
      refine aw_iload (pc := 93) dX11_wholeWeight_93 rfl ?_
      exact cx_iret (pc := 95) hv6_93 rfl (Nat.le_of_ble_eq_true rfl) (Nat.le_of_ble_eq_true rfl) dX11_wholeWeight_95 H
    refine cx_icmp_ne (pc := 58) 93 hx8 (inR_lit _ rfl) dX11_wholeWeight_58 rfl H (fun H => ?_) (fun H => ?_)
    · -- 58: 61
      refine cx_bipush (pc := 61) dX11_wholeWeight_61 (by decide) ?_
      refine aw_istore (pc := 63) [(6, iv (-40)), (0, .ref 100), (2, iv p2), (3, iv p3), (5, iv x8)] dX11_wholeWeight_63 rfl (by decide) ?_
      refine AW.sel [1, 2, 3, 0] rfl (lp_ind (bot := fun _ _ => none) (fun (f9 : Int → Mem → Option Rz) => ∀ (v6_65 : Int) (m65 : Mem), inR v6_65 → f9 v6_65 m65 = some r → AW l D base sc RX11 yX11_wholeWeight cX11_wholeWeight 7 (some FieldType.int) 308 0 0 ad (E mi) (pI E r) 0 0 (E m65) 65 [(0, .ref 100), (2, iv p2), (3, iv p3), (6, iv v6_65)] []) (fun _ _ _ h9 => nomatch h9) (fun w65 ih65 v6_65 m65 hv6_65 H => ?_) n _ _ (inR_lit _ rfl) H)
      refine aw_iload (pc := 65) dX11_wholeWeight_65 rfl ?_
      refine cx_bipush (pc := 67) dX11_wholeWeight_67 (by decide) ?_
      refine cx_icmp_ge (pc := 69) 93 hv6_65 (inR_lit _ rfl) dX11_wholeWeight_69 rfl H (fun H => ?_) (fun H => ?_)
      · -- 69: 72
        refine aw_aload_n (pc := 72) dX11_wholeWeight_72 rfl ?_
        refine aw_iload_n (pc := 73) dX11_wholeWeight_73 rfl ?_
        refine aw_iload_n (pc := 74) dX11_wholeWeight_74 rfl ?_
        refine aw_aload_n (pc := 75) dX11_wholeWeight_75 rfl ?_
        refine aw_iload (pc := 76) dX11_wholeWeight_76 rfl ?_
        refine cx_callV (pc := 78) (P := pI) (dC := 307) (mcC := 0) (msC := 0) [iv v6_65] hE r100 (fun r1 H1 => s_X11_wholeOf l sc E R hE hR n v6_65 hv6_65 m65 r1 H1) ca_X11_336 rfl ⟨_, rfl, rfl⟩ rfl rfl (Nat.le_of_ble_eq_true rfl) (Nat.le_of_ble_eq_true rfl) (Nat.le_of_ble_eq_true rfl) (Nat.le_of_ble_eq_true rfl) dX11_wholeWeight_78 H (fun x78 m78 v78 hh78 H hp => ?_)
        refine cx_backI hp (fun hx78 => ?_)
        refine cx_callV (pc := 81) (P := pI) (dC := 202) (mcC := 0) (msC := 0) [iv p2, iv p3, iv x78] hE r100 (fun r1 H1 => s_X11_isAnyOver l sc E R hE hR n p2 p3 x78 hp2 hp3 hx78 m78 r1 H1) ca_X11_361 rfl ⟨_, rfl, rfl⟩ rfl rfl (Nat.le_of_ble_eq_true rfl) (Nat.le_of_ble_eq_true rfl) (Nat.le_of_ble_eq_true rfl) (Nat.le_of_ble_eq_true rfl) dX11_wholeWeight_81 H (fun x81 m81 v81 hh81 H hp => ?_)
        refine cx_backI hp (fun hx81 => ?_)
        refine cx_if_eq (pc := 84) 93 hx81 dX11_wholeWeight_84 rfl H (fun H => ?_) (fun H => ?_)
        · -- 84: 93
          exact AW.sel [3] rfl (hj93 _ _ hv6_65 H)
        · -- 84: 87
          refine cx_iinc (pc := 87) [(6, iv (w32 (v6_65 + 1))), (0, .ref 100), (2, iv p2), (3, iv p3)] dX11_wholeWeight_87 rfl rfl (by decide) ?_
          refine aw_goto (pc := 90) 65 dX11_wholeWeight_90 rfl ?_
          exact AW.sel [1, 2, 3, 0] rfl (ih65 _ _ (inR_w32 _) H)
      · -- 69: 93
        exact AW.sel [3] rfl (hj93 _ _ hv6_65 H)
    · -- 58: 93
      exact AW.sel [4] rfl (hj93 _ _ hv6_55 H)
  refine cx_icmp_ne (pc := 19) 55 hx8 (inR_lit _ rfl) dX11_wholeWeight_19 rfl H (fun H => ?_) (fun H => ?_)
  · -- 19: 22
    refine cx_bipush (pc := 22) dX11_wholeWeight_22 (by decide) ?_
    refine aw_istore (pc := 24) [(6, iv 40), (5, iv x8), (0, .ref 100), (1, iv p1), (2, iv p2), (3, iv p3), (4, iv p4)] dX11_wholeWeight_24 rfl (by decide) ?_
    refine AW.sel [2, 4, 5, 6, 1, 0] rfl (lp_ind (bot := fun _ _ => none) (fun (f9 : Int → Mem → Option Rz) => ∀ (v6_26 : Int) (m26 : Mem), inR v6_26 → f9 v6_26 m26 = some r → AW l D base sc RX11 yX11_wholeWeight cX11_wholeWeight 7 (some FieldType.int) 308 0 0 ad (E mi) (pI E r) 0 0 (E m26) 26 [(0, .ref 100), (2, iv p2), (3, iv p3), (4, iv p4), (5, iv x8), (6, iv v6_26)] []) (fun _ _ _ h9 => nomatch h9) (fun w26 ih26 v6_26 m26 hv6_26 H => ?_) n _ _ (inR_lit _ rfl) H)
    refine aw_iload (pc := 26) dX11_wholeWeight_26 rfl ?_
    refine cx_bipush (pc := 28) dX11_wholeWeight_28 (by decide) ?_
    refine cx_icmp_le (pc := 30) 55 hv6_26 (inR_lit _ rfl) dX11_wholeWeight_30 rfl H (fun H => ?_) (fun H => ?_)
    · -- 30: 33
      refine aw_aload_n (pc := 33) dX11_wholeWeight_33 rfl ?_
      refine aw_iload_n (pc := 34) dX11_wholeWeight_34 rfl ?_
      refine aw_iload (pc := 35) dX11_wholeWeight_35 rfl ?_
      refine aw_aload_n (pc := 37) dX11_wholeWeight_37 rfl ?_
      refine aw_iload (pc := 38) dX11_wholeWeight_38 rfl ?_
      refine cx_callV (pc := 40) (P := pI) (dC := 307) (mcC := 0) (msC := 0) [iv v6_26] hE r100 (fun r1 H1 => s_X11_wholeOf l sc E R hE hR n v6_26 hv6_26 m26 r1 H1) ca_X11_336 rfl ⟨_, rfl, rfl⟩ rfl rfl (Nat.le_of_ble_eq_true rfl) (Nat.le_of_ble_eq_true rfl) (Nat.le_of_ble_eq_true rfl) (Nat.le_of_ble_eq_true rfl) dX11_wholeWeight_40 H (fun x40 m40 v40 hh40 H hp => ?_)
      refine cx_backI hp (fun hx40 => ?_)
      refine cx_callV (pc := 43) (P := pI) (dC := 202) (mcC := 0) (msC := 0) [iv p3, iv p4, iv x40] hE r100 (fun r1 H1 => s_X11_isAnyUnder l sc E R hE hR n p3 p4 x40 hp3 hp4 hx40 m40 r1 H1) ca_X11_358 rfl ⟨_, rfl, rfl⟩ rfl rfl (Nat.le_of_ble_eq_true rfl) (Nat.le_of_ble_eq_true rfl) (Nat.le_of_ble_eq_true rfl) (Nat.le_of_ble_eq_true rfl) dX11_wholeWeight_43 H (fun x43 m43 v43 hh43 H hp => ?_)
      refine cx_backI hp (fun hx43 => ?_)
      refine cx_if_eq (pc := 46) 55 hx43 dX11_wholeWeight_46 rfl H (fun H => ?_) (fun H => ?_)
      · -- 46: 55
        exact AW.sel [0, 1, 2, 4, 5] rfl (hj55 _ _ hv6_26 H)
      · -- 46: 49
        refine cx_iinc (pc := 49) [(6, iv (w32 (v6_26 + (-1)))), (0, .ref 100), (2, iv p2), (3, iv p3), (4, iv p4), (5, iv x8)] dX11_wholeWeight_49 rfl rfl (by decide) ?_
        refine aw_goto (pc := 52) 26 dX11_wholeWeight_52 rfl ?_
        exact AW.sel [1, 2, 3, 4, 5, 0] rfl (ih26 _ _ (inR_w32 _) H)
    · -- 30: 55
      exact AW.sel [0, 1, 2, 4, 5] rfl (hj55 _ _ hv6_26 H)
  · -- 19: 55
    exact AW.sel [2, 4, 5, 1, 0] rfl (hj55 _ _ (inR_lit _ rfl) H)
/-- X11 weightOf (I)I -/
def b_X11_weightOf (n : Nat) (g_X11_weightOf : (Int → Mem → Option Rz)) (p1 : Int) (mi : Mem) : Option Rz :=
  if p1 = 0 then (
    rt 0 mi
  ) else
  ldI mi 113 p1 fun x11 =>
  if 0 < x11 then (
    ldI mi 113 p1 fun x20 =>
    rt (w32 (x20 - 1)) mi
  ) else
  gtF mi 100 26 fun x25 =>
  ldI mi 103 p1 fun x34 =>
  lp (F := Int → Mem → Option Rz) (fun _ _ => none) (fun w36 v3_36 m36 =>
    ldI m36 104 p1 fun x42 =>
    if v3_36 < x42 then (
      ldI m36 102 v3_36 fun x54 =>
      cal (g_X11_weightOf x54 m36) fun x55 m55 =>
      cal (f_X11_wholeOf n (-2) m55) fun x61 m61 =>
      cal (f_X11_sum n x55 x61 m61) fun x64 m64 =>
      cal (f_X11_waits n x64 m64) fun _ m67 =>
      w36 (w32 (v3_36 + 1)) m67
    ) else
    gtF m36 100 26 fun x77 =>
    ldI m36 104 p1 fun x86 =>
    lp (F := Int → Mem → Option Rz) (fun _ _ => none) (fun w89 v4_89 m89 =>
      ldI m89 105 p1 fun x96 =>
      if v4_89 < x96 then (
        ldI m89 102 v4_89 fun x109 =>
        cal (g_X11_weightOf x109 m89) fun x110 m110 =>
        cal (f_X11_wholeOf n 2 m110) fun x115 m115 =>
        cal (f_X11_sum n x110 x115 m115) fun x118 m118 =>
        cal (f_X11_waits n x118 m118) fun _ m121 =>
        w89 (w32 (v4_89 + 1)) m121
      ) else
      gtF m89 100 26 fun x131 =>
      cal (f_X11_canonicalOf n x25 x77 m89) fun x139 m139 =>
      ldI m139 107 x139 fun x150 =>
      jn (fun (v5_183 : Int) (m183 : Mem) =>
        stI m183 113 p1 (w32 (v5_183 + 1)) fun m192 =>
        rt v5_183 m192
      ) fun (j183 : Int → Mem → Option Rz) =>
      if x150 = (-1000) then (
        j183 x139 m139
      ) else
      ptF m139 100 26 x131 fun m160 =>
      cal (f_X11_wholeWeight n p1 x25 x77 x131 m160) fun x170 m170 =>
      cal (f_X11_wholeOf n x170 m170) fun x173 m173 =>
      ptF m173 100 26 x25 fun m180 =>
      j183 x173 m180
    ) n x86 m36
  ) n x34 mi
def t_X11_weightOf (n : Nat) : Nat → (Int → Mem → Option Rz)
  | 0 => (fun _ _ => none)
  | d + 1 => (b_X11_weightOf n (t_X11_weightOf n d))
def h_X11_weightOf (n d : Nat) : (Int → Mem → Option Rz) := (t_X11_weightOf n d)
def f_X11_weightOf (n : Nat) : (Int → Mem → Option Rz) := h_X11_weightOf n 40
theorem h_X11_weightOf_s (n d : Nat) (p1 : Int) (m : Mem) : h_X11_weightOf n (d + 1) p1 m = b_X11_weightOf n (h_X11_weightOf n d) p1 m := rfl
theorem h_X11_weightOf_0 (n : Nat) (p1 : Int) (m : Mem) : h_X11_weightOf n 0 p1 m = none := rfl
def q_X11_weightOf (l : Launch) (sc : g_S) (E : Mem → g_H) (R : Nat → Prop) (dd : Nat) (g : (Int → Mem → Option Rz)) : Prop := ∀ (p1 : Int) (m : Mem) (hp1 : inR p1) (r : Rz) (H : g p1 m = some r), AMet l sc yX11_weightOf cX11_weightOf 6 (some FieldType.int) dd 0 0 [.ref 100, iv p1] (E m) (pI E r)
set_option maxRecDepth 100000 in
set_option maxHeartbeats 4000000 in
theorem sb_X11_weightOf (l : Launch) (sc : g_S) (E : Mem → g_H) (R : Nat → Prop) (hE : LE E R) (hR : RRF R) (n : Nat) (dd : Nat) (hdd : 408 ≤ dd) (g_X11_weightOf : (Int → Mem → Option Rz)) (hg_X11_weightOf : q_X11_weightOf l sc E R dd g_X11_weightOf) (p1 : Int) (mi : Mem) (hp1 : inR p1) (r : Rz) (H : b_X11_weightOf n g_X11_weightOf p1 mi = some r) : AMet l sc yX11_weightOf cX11_weightOf 6 (some FieldType.int) (dd + 1) 0 0 [.ref 100, iv p1] (E mi) (pI E r) := by
  have r100 : R 100 := hR 100 (Nat.le_of_ble_eq_true rfl) (Nat.le_of_ble_eq_true rfl)
  have r102 : R 102 := hR 102 (Nat.le_of_ble_eq_true rfl) (Nat.le_of_ble_eq_true rfl)
  have r103 : R 103 := hR 103 (Nat.le_of_ble_eq_true rfl) (Nat.le_of_ble_eq_true rfl)
  have r104 : R 104 := hR 104 (Nat.le_of_ble_eq_true rfl) (Nat.le_of_ble_eq_true rfl)
  have r105 : R 105 := hR 105 (Nat.le_of_ble_eq_true rfl) (Nat.le_of_ble_eq_true rfl)
  have r107 : R 107 := hR 107 (Nat.le_of_ble_eq_true rfl) (Nat.le_of_ble_eq_true rfl)
  have r113 : R 113 := hR 113 (Nat.le_of_ble_eq_true rfl) (Nat.le_of_ble_eq_true rfl)
  unfold b_X11_weightOf at H
  refine AMet.of (own := RX11) (by decide +kernel) rfl (Nat.le_of_ble_eq_true rfl) [(0, .ref 100), (1, iv p1)] rfl (fun D base ad => ?_)
  refine aw_iload_n (pc := 0) dX11_weightOf_0 rfl ?_
  refine cx_if_ne (pc := 1) 6 hp1 dX11_weightOf_1 rfl H (fun H => ?_) (fun H => ?_)
  · -- 1: 4
    refine cx_iconst (pc := 4) dX11_weightOf_4 ?_
    exact cx_iret (pc := 5) (inR_lit _ rfl) rfl (Nat.le_of_ble_eq_true rfl) (Nat.le_of_ble_eq_true rfl) dX11_weightOf_5 H
  · -- 1: 6
    refine aw_aload_n (pc := 6) dX11_weightOf_6 rfl ?_
    refine cx_gtC (pc := 7) 113 hE r100 fl_X11_68 rfl rfl (Nat.le_of_ble_eq_true rfl) dX11_weightOf_7 ?_
    refine aw_iload_n (pc := 10) dX11_weightOf_10 rfl ?_
    refine cx_ldI (pc := 11) hE r113 hp1 dX11_weightOf_11 H (fun x11 hx11 H => ?_)
    refine cx_if_le (pc := 12) 24 hx11 dX11_weightOf_12 rfl H (fun H => ?_) (fun H => ?_)
    · -- 12: 15
      refine aw_aload_n (pc := 15) dX11_weightOf_15 rfl ?_
      refine cx_gtC (pc := 16) 113 hE r100 fl_X11_68 rfl rfl (Nat.le_of_ble_eq_true rfl) dX11_weightOf_16 ?_
      refine aw_iload_n (pc := 19) dX11_weightOf_19 rfl ?_
      refine cx_ldI (pc := 20) hE r113 hp1 dX11_weightOf_20 H (fun x20 hx20 H => ?_)
      refine cx_iconst (pc := 21) dX11_weightOf_21 ?_
      refine cx_isub (pc := 22) dX11_weightOf_22 ?_
      exact cx_iret (pc := 23) (inR_w32 _) rfl (Nat.le_of_ble_eq_true rfl) (Nat.le_of_ble_eq_true rfl) dX11_weightOf_23 H
    · -- 12: 24
      refine aw_aload_n (pc := 24) dX11_weightOf_24 rfl ?_
      refine cx_gtF (pc := 25) hE r100 fl_X11_175 rfl rfl (Nat.le_of_ble_eq_true rfl) dX11_weightOf_25 H (fun x25 hx25 H => ?_)
      refine aw_istore_n (pc := 28) [(2, iv x25), (0, .ref 100), (1, iv p1)] dX11_weightOf_28 rfl (by decide) ?_
      refine aw_aload_n (pc := 29) dX11_weightOf_29 rfl ?_
      refine cx_gtC (pc := 30) 103 hE r100 fl_X11_29 rfl rfl (Nat.le_of_ble_eq_true rfl) dX11_weightOf_30 ?_
      refine aw_iload_n (pc := 33) dX11_weightOf_33 rfl ?_
      refine cx_ldI (pc := 34) hE r103 hp1 dX11_weightOf_34 H (fun x34 hx34 H => ?_)
      refine aw_istore_n (pc := 35) [(3, iv x34), (2, iv x25), (0, .ref 100), (1, iv p1)] dX11_weightOf_35 rfl (by decide) ?_
      refine AW.sel [2, 3, 1, 0] rfl (lp_ind (bot := fun _ _ => none) (fun (f9 : Int → Mem → Option Rz) => ∀ (v3_36 : Int) (m36 : Mem), inR v3_36 → f9 v3_36 m36 = some r → AW l D base sc RX11 yX11_weightOf cX11_weightOf 6 (some FieldType.int) (dd + 1) 0 0 ad (E mi) (pI E r) 0 0 (E m36) 36 [(0, .ref 100), (1, iv p1), (2, iv x25), (3, iv v3_36)] []) (fun _ _ _ h9 => nomatch h9) (fun w36 ih36 v3_36 m36 hv3_36 H => ?_) n _ _ hx34 H)
      refine aw_iload_n (pc := 36) dX11_weightOf_36 rfl ?_
      refine aw_aload_n (pc := 37) dX11_weightOf_37 rfl ?_
      refine cx_gtC (pc := 38) 104 hE r100 fl_X11_26 rfl rfl (Nat.le_of_ble_eq_true rfl) dX11_weightOf_38 ?_
      refine aw_iload_n (pc := 41) dX11_weightOf_41 rfl ?_
      refine cx_ldI (pc := 42) hE r104 hp1 dX11_weightOf_42 H (fun x42 hx42 H => ?_)
      refine cx_icmp_ge (pc := 43) 76 hv3_36 hx42 dX11_weightOf_43 rfl H (fun H => ?_) (fun H => ?_)
      · -- 43: 46
        refine aw_aload_n (pc := 46) dX11_weightOf_46 rfl ?_
        refine aw_aload_n (pc := 47) dX11_weightOf_47 rfl ?_
        refine aw_aload_n (pc := 48) dX11_weightOf_48 rfl ?_
        refine aw_aload_n (pc := 49) dX11_weightOf_49 rfl ?_
        refine cx_gtC (pc := 50) 102 hE r100 fl_X11_35 rfl rfl (Nat.le_of_ble_eq_true rfl) dX11_weightOf_50 ?_
        refine aw_iload_n (pc := 53) dX11_weightOf_53 rfl ?_
        refine cx_ldI (pc := 54) hE r102 hv3_36 dX11_weightOf_54 H (fun x54 hx54 H => ?_)
        refine cx_callV (pc := 55) (P := pI) (dC := dd) (mcC := 0) (msC := 0) [iv x54] hE r100 (fun r1 H1 => hg_X11_weightOf x54 m36 hx54 r1 H1) ca_X11_364 rfl ⟨_, rfl, rfl⟩ rfl rfl (by omega) (Nat.le_of_ble_eq_true rfl) (Nat.le_of_ble_eq_true rfl) (Nat.le_of_ble_eq_true rfl) dX11_weightOf_55 H (fun x55 m55 v55 hh55 H hp => ?_)
        refine cx_backI hp (fun hx55 => ?_)
        refine aw_aload_n (pc := 58) dX11_weightOf_58 rfl ?_
        refine cx_bipush (pc := 59) dX11_weightOf_59 (by decide) ?_
        refine cx_callV (pc := 61) (P := pI) (dC := 307) (mcC := 0) (msC := 0) [iv (-2)] hE r100 (fun r1 H1 => s_X11_wholeOf l sc E R hE hR n (-2) (inR_lit _ rfl) m55 r1 H1) ca_X11_336 rfl ⟨_, rfl, rfl⟩ rfl rfl (by omega) (Nat.le_of_ble_eq_true rfl) (Nat.le_of_ble_eq_true rfl) (Nat.le_of_ble_eq_true rfl) dX11_weightOf_61 H (fun x61 m61 v61 hh61 H hp => ?_)
        refine cx_backI hp (fun hx61 => ?_)
        refine cx_callV (pc := 64) (P := pI) (dC := 407) (mcC := 0) (msC := 0) [iv x55, iv x61] hE r100 (fun r1 H1 => s_X11_sum l sc E R hE hR n x55 x61 hx55 hx61 m61 r1 H1) ca_X11_191 rfl ⟨_, rfl, rfl⟩ rfl rfl (by omega) (Nat.le_of_ble_eq_true rfl) (Nat.le_of_ble_eq_true rfl) (Nat.le_of_ble_eq_true rfl) dX11_weightOf_64 H (fun x64 m64 v64 hh64 H hp => ?_)
        refine cx_backI hp (fun hx64 => ?_)
        refine cx_callV (pc := 67) (P := pV) (dC := 0) (mcC := 0) (msC := 0) [iv x64] hE r100 (fun r1 H1 => s_X11_waits l sc E R hE hR n x64 hx64 m64 r1 H1) ca_X11_194 rfl ⟨_, rfl, rfl⟩ rfl rfl (by omega) (Nat.le_of_ble_eq_true rfl) (Nat.le_of_ble_eq_true rfl) (Nat.le_of_ble_eq_true rfl) dX11_weightOf_67 H (fun x67 m67 v67 hh67 H hp => ?_)
        refine cx_backV hp ?_
        refine cx_iinc (pc := 70) [(3, iv (w32 (v3_36 + 1))), (0, .ref 100), (1, iv p1), (2, iv x25)] dX11_weightOf_70 rfl rfl (by decide) ?_
        refine aw_goto (pc := 73) 36 dX11_weightOf_73 rfl ?_
        exact AW.sel [1, 2, 3, 0] rfl (ih36 _ _ (inR_w32 _) H)
      · -- 43: 76
        refine aw_aload_n (pc := 76) dX11_weightOf_76 rfl ?_
        refine cx_gtF (pc := 77) hE r100 fl_X11_175 rfl rfl (Nat.le_of_ble_eq_true rfl) dX11_weightOf_77 H (fun x77 hx77 H => ?_)
        refine aw_istore_n (pc := 80) [(3, iv x77), (0, .ref 100), (1, iv p1), (2, iv x25)] dX11_weightOf_80 rfl (by decide) ?_
        refine aw_aload_n (pc := 81) dX11_weightOf_81 rfl ?_
        refine cx_gtC (pc := 82) 104 hE r100 fl_X11_26 rfl rfl (Nat.le_of_ble_eq_true rfl) dX11_weightOf_82 ?_
        refine aw_iload_n (pc := 85) dX11_weightOf_85 rfl ?_
        refine cx_ldI (pc := 86) hE r104 hp1 dX11_weightOf_86 H (fun x86 hx86 H => ?_)
        refine aw_istore (pc := 87) [(4, iv x86), (3, iv x77), (0, .ref 100), (1, iv p1), (2, iv x25)] dX11_weightOf_87 rfl (by decide) ?_
        refine AW.sel [2, 3, 4, 1, 0] rfl (lp_ind (bot := fun _ _ => none) (fun (f9 : Int → Mem → Option Rz) => ∀ (v4_89 : Int) (m89 : Mem), inR v4_89 → f9 v4_89 m89 = some r → AW l D base sc RX11 yX11_weightOf cX11_weightOf 6 (some FieldType.int) (dd + 1) 0 0 ad (E mi) (pI E r) 0 0 (E m89) 89 [(0, .ref 100), (1, iv p1), (2, iv x25), (3, iv x77), (4, iv v4_89)] []) (fun _ _ _ h9 => nomatch h9) (fun w89 ih89 v4_89 m89 hv4_89 H => ?_) n _ _ hx86 H)
        refine aw_iload (pc := 89) dX11_weightOf_89 rfl ?_
        refine aw_aload_n (pc := 91) dX11_weightOf_91 rfl ?_
        refine cx_gtC (pc := 92) 105 hE r100 fl_X11_32 rfl rfl (Nat.le_of_ble_eq_true rfl) dX11_weightOf_92 ?_
        refine aw_iload_n (pc := 95) dX11_weightOf_95 rfl ?_
        refine cx_ldI (pc := 96) hE r105 hp1 dX11_weightOf_96 H (fun x96 hx96 H => ?_)
        refine cx_icmp_ge (pc := 97) 130 hv4_89 hx96 dX11_weightOf_97 rfl H (fun H => ?_) (fun H => ?_)
        · -- 97: 100
          refine aw_aload_n (pc := 100) dX11_weightOf_100 rfl ?_
          refine aw_aload_n (pc := 101) dX11_weightOf_101 rfl ?_
          refine aw_aload_n (pc := 102) dX11_weightOf_102 rfl ?_
          refine aw_aload_n (pc := 103) dX11_weightOf_103 rfl ?_
          refine cx_gtC (pc := 104) 102 hE r100 fl_X11_35 rfl rfl (Nat.le_of_ble_eq_true rfl) dX11_weightOf_104 ?_
          refine aw_iload (pc := 107) dX11_weightOf_107 rfl ?_
          refine cx_ldI (pc := 109) hE r102 hv4_89 dX11_weightOf_109 H (fun x109 hx109 H => ?_)
          refine cx_callV (pc := 110) (P := pI) (dC := dd) (mcC := 0) (msC := 0) [iv x109] hE r100 (fun r1 H1 => hg_X11_weightOf x109 m89 hx109 r1 H1) ca_X11_364 rfl ⟨_, rfl, rfl⟩ rfl rfl (by omega) (Nat.le_of_ble_eq_true rfl) (Nat.le_of_ble_eq_true rfl) (Nat.le_of_ble_eq_true rfl) dX11_weightOf_110 H (fun x110 m110 v110 hh110 H hp => ?_)
          refine cx_backI hp (fun hx110 => ?_)
          refine aw_aload_n (pc := 113) dX11_weightOf_113 rfl ?_
          refine cx_iconst (pc := 114) dX11_weightOf_114 ?_
          refine cx_callV (pc := 115) (P := pI) (dC := 307) (mcC := 0) (msC := 0) [iv 2] hE r100 (fun r1 H1 => s_X11_wholeOf l sc E R hE hR n 2 (inR_lit _ rfl) m110 r1 H1) ca_X11_336 rfl ⟨_, rfl, rfl⟩ rfl rfl (by omega) (Nat.le_of_ble_eq_true rfl) (Nat.le_of_ble_eq_true rfl) (Nat.le_of_ble_eq_true rfl) dX11_weightOf_115 H (fun x115 m115 v115 hh115 H hp => ?_)
          refine cx_backI hp (fun hx115 => ?_)
          refine cx_callV (pc := 118) (P := pI) (dC := 407) (mcC := 0) (msC := 0) [iv x110, iv x115] hE r100 (fun r1 H1 => s_X11_sum l sc E R hE hR n x110 x115 hx110 hx115 m115 r1 H1) ca_X11_191 rfl ⟨_, rfl, rfl⟩ rfl rfl (by omega) (Nat.le_of_ble_eq_true rfl) (Nat.le_of_ble_eq_true rfl) (Nat.le_of_ble_eq_true rfl) dX11_weightOf_118 H (fun x118 m118 v118 hh118 H hp => ?_)
          refine cx_backI hp (fun hx118 => ?_)
          refine cx_callV (pc := 121) (P := pV) (dC := 0) (mcC := 0) (msC := 0) [iv x118] hE r100 (fun r1 H1 => s_X11_waits l sc E R hE hR n x118 hx118 m118 r1 H1) ca_X11_194 rfl ⟨_, rfl, rfl⟩ rfl rfl (by omega) (Nat.le_of_ble_eq_true rfl) (Nat.le_of_ble_eq_true rfl) (Nat.le_of_ble_eq_true rfl) dX11_weightOf_121 H (fun x121 m121 v121 hh121 H hp => ?_)
          refine cx_backV hp ?_
          refine cx_iinc (pc := 124) [(4, iv (w32 (v4_89 + 1))), (0, .ref 100), (1, iv p1), (2, iv x25), (3, iv x77)] dX11_weightOf_124 rfl rfl (by decide) ?_
          refine aw_goto (pc := 127) 89 dX11_weightOf_127 rfl ?_
          exact AW.sel [1, 2, 3, 4, 0] rfl (ih89 _ _ (inR_w32 _) H)
        · -- 97: 130
          refine aw_aload_n (pc := 130) dX11_weightOf_130 rfl ?_
          refine cx_gtF (pc := 131) hE r100 fl_X11_175 rfl rfl (Nat.le_of_ble_eq_true rfl) dX11_weightOf_131 H (fun x131 hx131 H => ?_)
          refine aw_istore (pc := 134) [(4, iv x131), (0, .ref 100), (1, iv p1), (2, iv x25), (3, iv x77)] dX11_weightOf_134 rfl (by decide) ?_
          refine aw_aload_n (pc := 136) dX11_weightOf_136 rfl ?_
          refine aw_iload_n (pc := 137) dX11_weightOf_137 rfl ?_
          refine aw_iload_n (pc := 138) dX11_weightOf_138 rfl ?_
          refine cx_callV (pc := 139) (P := pI) (dC := 306) (mcC := 0) (msC := 0) [iv x25, iv x77] hE r100 (fun r1 H1 => s_X11_canonicalOf l sc E R hE hR n x25 x77 hx25 hx77 m89 r1 H1) ca_X11_197 rfl ⟨_, rfl, rfl⟩ rfl rfl (by omega) (Nat.le_of_ble_eq_true rfl) (Nat.le_of_ble_eq_true rfl) (Nat.le_of_ble_eq_true rfl) dX11_weightOf_139 H (fun x139 m139 v139 hh139 H hp => ?_)
          refine cx_backI hp (fun hx139 => ?_)
          refine aw_istore (pc := 142) [(5, iv x139), (4, iv x131), (0, .ref 100), (1, iv p1), (2, iv x25), (3, iv x77)] dX11_weightOf_142 rfl (by decide) ?_
          refine aw_aload_n (pc := 144) dX11_weightOf_144 rfl ?_
          refine cx_gtC (pc := 145) 107 hE r100 fl_X11_79 rfl rfl (Nat.le_of_ble_eq_true rfl) dX11_weightOf_145 ?_
          refine aw_iload (pc := 148) dX11_weightOf_148 rfl ?_
          refine cx_ldI (pc := 150) hE r107 hx139 dX11_weightOf_150 H (fun x150 hx150 H => ?_)
          refine cx_sipush (pc := 151) dX11_weightOf_151 (by decide) ?_
          refine jn_ind (fun (f9 : Int → Mem → Option Rz) => ∀ (v5_183 : Int) (m183 : Mem), inR v5_183 → f9 v5_183 m183 = some r → AW l D base sc RX11 yX11_weightOf cX11_weightOf 6 (some FieldType.int) (dd + 1) 0 0 ad (E mi) (pI E r) 0 0 (E m183) 183 [(0, .ref 100), (1, iv p1), (5, iv v5_183)] []) (fun v5_183 m183 hv5_183 H => ?_) (fun j183 hj183 H => ?_) H
          · -- 183
            refine aw_aload_n (pc := 183) dX11_weightOf_183 rfl ?_
            refine cx_gtC (pc := 184) 113 hE r100 fl_X11_68 rfl rfl (Nat.le_of_ble_eq_true rfl) dX11_weightOf_184 ?_
            refine aw_iload_n (pc := 187) dX11_weightOf_187 rfl ?_
            refine aw_iload (pc := 188) dX11_weightOf_188 rfl ?_
            refine cx_iconst (pc := 190) dX11_weightOf_190 ?_
            refine cx_iadd (pc := 191) dX11_weightOf_191 ?_
            refine cx_stI (pc := 192) hE r113 hp1 dX11_weightOf_192 H (fun m192 H => ?_)
            refine aw_iload (pc := 193) dX11_weightOf_193 rfl ?_
            exact cx_iret (pc := 195) hv5_183 rfl (Nat.le_of_ble_eq_true rfl) (Nat.le_of_ble_eq_true rfl) dX11_weightOf_195 H
          refine cx_icmp_eq (pc := 154) 183 hx150 (inR_lit _ rfl) dX11_weightOf_154 rfl H (fun H => ?_) (fun H => ?_)
          · -- 154: 183
            exact AW.sel [2, 3, 0] rfl (hj183 _ _ hx139 H)
          · -- 154: 157
            refine aw_aload_n (pc := 157) dX11_weightOf_157 rfl ?_
            refine aw_iload (pc := 158) dX11_weightOf_158 rfl ?_
            refine cx_ptF (pc := 160) tyX11 hE r100 fl_X11_175 (fun r h => ⟨gty_X11 r h, by cases h; rfl⟩) rfl rfl rfl (Nat.le_of_ble_eq_true rfl) dX11_weightOf_160 H (fun m160 H => ?_)
            refine aw_aload_n (pc := 163) dX11_weightOf_163 rfl ?_
            refine aw_aload_n (pc := 164) dX11_weightOf_164 rfl ?_
            refine aw_iload_n (pc := 165) dX11_weightOf_165 rfl ?_
            refine aw_iload_n (pc := 166) dX11_weightOf_166 rfl ?_
            refine aw_iload_n (pc := 167) dX11_weightOf_167 rfl ?_
            refine aw_iload (pc := 168) dX11_weightOf_168 rfl ?_
            refine cx_callV (pc := 170) (P := pI) (dC := 308) (mcC := 0) (msC := 0) [iv p1, iv x25, iv x77, iv x131] hE r100 (fun r1 H1 => s_X11_wholeWeight l sc E R hE hR n p1 x25 x77 x131 hp1 hx25 hx77 hx131 m160 r1 H1) ca_X11_367 rfl ⟨_, rfl, rfl⟩ rfl rfl (by omega) (Nat.le_of_ble_eq_true rfl) (Nat.le_of_ble_eq_true rfl) (Nat.le_of_ble_eq_true rfl) dX11_weightOf_170 H (fun x170 m170 v170 hh170 H hp => ?_)
            refine cx_backI hp (fun hx170 => ?_)
            refine cx_callV (pc := 173) (P := pI) (dC := 307) (mcC := 0) (msC := 0) [iv x170] hE r100 (fun r1 H1 => s_X11_wholeOf l sc E R hE hR n x170 hx170 m170 r1 H1) ca_X11_336 rfl ⟨_, rfl, rfl⟩ rfl rfl (by omega) (Nat.le_of_ble_eq_true rfl) (Nat.le_of_ble_eq_true rfl) (Nat.le_of_ble_eq_true rfl) dX11_weightOf_173 H (fun x173 m173 v173 hh173 H hp => ?_)
            refine cx_backI hp (fun hx173 => ?_)
            refine aw_istore (pc := 176) [(5, iv x173), (4, iv x131), (0, .ref 100), (1, iv p1), (2, iv x25), (3, iv x77)] dX11_weightOf_176 rfl (by decide) ?_
            refine aw_aload_n (pc := 178) dX11_weightOf_178 rfl ?_
            refine aw_iload_n (pc := 179) dX11_weightOf_179 rfl ?_
            refine cx_ptF (pc := 180) tyX11 hE r100 fl_X11_175 (fun r h => ⟨gty_X11 r h, by cases h; rfl⟩) rfl rfl rfl (Nat.le_of_ble_eq_true rfl) dX11_weightOf_180 H (fun m180 H => ?_)
            exact AW.sel [2, 3, 0] rfl (hj183 _ _ hx173 H)
theorem sa_X11_weightOf (l : Launch) (sc : g_S) (E : Mem → g_H) (R : Nat → Prop) (hE : LE E R) (hR : RRF R) (n : Nat) : ∀ dp, q_X11_weightOf l sc E R (408 + dp) (h_X11_weightOf n dp)
  | 0 => fun _ _ _ _ H => nomatch H
  | dp + 1 => by
    have ih := sa_X11_weightOf l sc E R hE hR n dp
    · exact fun p1 m hp1 r H => sb_X11_weightOf l sc E R hE hR n (408 + dp) (Nat.le_add_right _ _) _ ih p1 m hp1 r H
theorem s_X11_weightOf (l : Launch) (sc : g_S) (E : Mem → g_H) (R : Nat → Prop) (hE : LE E R) (hR : RRF R) (n : Nat) (p1 : Int) (hp1 : inR p1) (m : Mem) (r : Rz) (H : f_X11_weightOf n p1 m = some r) : AMet l sc yX11_weightOf cX11_weightOf 6 (some FieldType.int) 448 0 0 [.ref 100, iv p1] (E m) (pI E r) := (sa_X11_weightOf l sc E R hE hR n 40) p1 m hp1 r H
/-- X11 wrongSmall (I)I -/
def f_X11_wrongSmall (n : Nat) (p1 : Int) (mi : Mem) : Option Rz :=
  cal (f_X11_isSlot n p1 mi) fun x1 m1 =>
  jn (fun (s0_30 : Int) (m30 : Mem) =>
    rt s0_30 m30
  ) fun (j30 : Int → Mem → Option Rz) =>
  if x1 = 0 then (
    j30 1 m1
  ) else
  ldI m1 129 p1 fun x20 =>
  ldZ m1 110 x20 fun x21 =>
  if x21 = 0 then (
    j30 3 m1
  ) else
  j30 0 m1
set_option maxRecDepth 100000 in
set_option maxHeartbeats 4000000 in
theorem s_X11_wrongSmall (l : Launch) (sc : g_S) (E : Mem → g_H) (R : Nat → Prop) (hE : LE E R) (hR : RRF R) (n : Nat)  (p1 : Int) (hp1 : inR p1) (mi : Mem) (r : Rz) (H : f_X11_wrongSmall n p1 mi = some r) : AMet l sc yX11_wrongSmall cX11_wrongSmall 2 (some FieldType.int) 2 0 0 [.ref 100, iv p1] (E mi) (pI E r) := by
  have r100 : R 100 := hR 100 (Nat.le_of_ble_eq_true rfl) (Nat.le_of_ble_eq_true rfl)
  have r110 : R 110 := hR 110 (Nat.le_of_ble_eq_true rfl) (Nat.le_of_ble_eq_true rfl)
  have r129 : R 129 := hR 129 (Nat.le_of_ble_eq_true rfl) (Nat.le_of_ble_eq_true rfl)
  unfold f_X11_wrongSmall at H
  refine AMet.of (own := RX11) (by decide +kernel) rfl (Nat.le_of_ble_eq_true rfl) [(0, .ref 100), (1, iv p1)] rfl (fun D base ad => ?_)
  refine aw_iload_n (pc := 0) dX11_wrongSmall_0 rfl ?_
  refine cx_callS (pc := 1) (P := pI) (dC := 1) (mcC := 0) (msC := 0) [iv p1] (fun r1 H1 => s_X11_isSlot l sc E R hE hR n p1 hp1 mi r1 H1) ca_X11_324 rfl rfl (Nat.le_of_ble_eq_true rfl) (Nat.le_of_ble_eq_true rfl) (Nat.le_of_ble_eq_true rfl) (Nat.le_of_ble_eq_true rfl) dX11_wrongSmall_1 H (fun x1 m1 v1 hh1 H hp => ?_)
  refine cx_backI hp (fun hx1 => ?_)
  refine jn_ind (fun (f9 : Int → Mem → Option Rz) => ∀ (s0_30 : Int) (m30 : Mem), inR s0_30 → f9 s0_30 m30 = some r → AW l D base sc RX11 yX11_wrongSmall cX11_wrongSmall 2 (some FieldType.int) 2 0 0 ad (E mi) (pI E r) 0 0 (E m30) 30 [] [iv s0_30]) (fun s0_30 m30 hs0_30 H => ?_) (fun j30 hj30 H => ?_) H
  · -- 30
    exact cx_iret (pc := 30) hs0_30 rfl (Nat.le_of_ble_eq_true rfl) (Nat.le_of_ble_eq_true rfl) dX11_wrongSmall_30 H
  refine cx_if_ne (pc := 4) 11 hx1 dX11_wrongSmall_4 rfl H (fun H => ?_) (fun H => ?_)
  · -- 4: 7
    refine cx_iconst (pc := 7) dX11_wrongSmall_7 ?_
    refine aw_goto (pc := 8) 30 dX11_wrongSmall_8 rfl ?_
    exact AW.sel [] rfl (hj30 _ _ (inR_lit _ rfl) H)
  · -- 4: 11
    refine aw_aload_n (pc := 11) dX11_wrongSmall_11 rfl ?_
    refine cx_gtC (pc := 12) 110 hE r100 fl_X11_91 rfl rfl (Nat.le_of_ble_eq_true rfl) dX11_wrongSmall_12 ?_
    refine aw_aload_n (pc := 15) dX11_wrongSmall_15 rfl ?_
    refine cx_gtC (pc := 16) 129 hE r100 fl_X11_264 rfl rfl (Nat.le_of_ble_eq_true rfl) dX11_wrongSmall_16 ?_
    refine aw_iload_n (pc := 19) dX11_wrongSmall_19 rfl ?_
    refine cx_ldI (pc := 20) hE r129 hp1 dX11_wrongSmall_20 H (fun x20 hx20 H => ?_)
    refine cx_ldZ (pc := 21) hE r110 hx20 dX11_wrongSmall_21 H (fun x21 hx21 H => ?_)
    refine cx_if_eq (pc := 22) 29 hx21 dX11_wrongSmall_22 rfl H (fun H => ?_) (fun H => ?_)
    · -- 22: 29
      refine cx_iconst (pc := 29) dX11_wrongSmall_29 ?_
      exact AW.sel [] rfl (hj30 _ _ (inR_lit _ rfl) H)
    · -- 22: 25
      refine cx_iconst (pc := 25) dX11_wrongSmall_25 ?_
      refine aw_goto (pc := 26) 30 dX11_wrongSmall_26 rfl ?_
      exact AW.sel [] rfl (hj30 _ _ (inR_lit _ rfl) H)
/-- X11 weight (II)I -/
def f_X11_weight (n : Nat) (p1 : Int) (p2 : Int) (mi : Mem) : Option Rz :=
  cal (f_X11_isSlot n p1 mi) fun x1 m1 =>
  jn (fun (s0_16 : Int) (m16 : Mem) =>
    if s0_16 = 0 then (
      cal (f_X11_gathers n m16) fun _ m28 =>
      ldI m28 129 p2 fun x37 =>
      cal (f_X11_weightOf n x37 m28) fun x38 m38 =>
      cal (f_X11_holds n p1 x38 m38) fun x47 m47 =>
      jn (fun (s0_80 : Int) (m80 : Mem) =>
        rt s0_80 m80
      ) fun (j80 : Int → Mem → Option Rz) =>
      if x47 < 0 then (
        j80 x47 m47
      ) else
      ldI m47 107 x38 fun x68 =>
      if x68 = (-1000) then (
        j80 0 m47
      ) else
      j80 1 m47
    ) else
    cal (f_X11_no n s0_16 m16) fun x23 m23 =>
    rt x23 m23
  ) fun (j16 : Int → Mem → Option Rz) =>
  if x1 = 0 then (
    j16 1 m1
  ) else
  cal (f_X11_wrongSmall n p2 m1) fun x9 m9 =>
  j16 x9 m9
set_option maxRecDepth 100000 in
set_option maxHeartbeats 4000000 in
theorem s_X11_weight (l : Launch) (sc : g_S) (E : Mem → g_H) (R : Nat → Prop) (hE : LE E R) (hR : RRF R) (n : Nat)  (p1 : Int) (p2 : Int) (hp1 : inR p1) (hp2 : inR p2) (mi : Mem) (r : Rz) (H : f_X11_weight n p1 p2 mi = some r) : AMet l sc yX11_weight cX11_weight 6 (some FieldType.int) 449 0 0 [.ref 100, iv p1, iv p2] (E mi) (pI E r) := by
  have r100 : R 100 := hR 100 (Nat.le_of_ble_eq_true rfl) (Nat.le_of_ble_eq_true rfl)
  have r107 : R 107 := hR 107 (Nat.le_of_ble_eq_true rfl) (Nat.le_of_ble_eq_true rfl)
  have r129 : R 129 := hR 129 (Nat.le_of_ble_eq_true rfl) (Nat.le_of_ble_eq_true rfl)
  unfold f_X11_weight at H
  refine AMet.of (own := RX11) (by decide +kernel) rfl (Nat.le_of_ble_eq_true rfl) [(0, .ref 100), (1, iv p1), (2, iv p2)] rfl (fun D base ad => ?_)
  refine aw_iload_n (pc := 0) dX11_weight_0 rfl ?_
  refine cx_callS (pc := 1) (P := pI) (dC := 1) (mcC := 0) (msC := 0) [iv p1] (fun r1 H1 => s_X11_isSlot l sc E R hE hR n p1 hp1 mi r1 H1) ca_X11_324 rfl rfl (Nat.le_of_ble_eq_true rfl) (Nat.le_of_ble_eq_true rfl) (Nat.le_of_ble_eq_true rfl) (Nat.le_of_ble_eq_true rfl) dX11_weight_1 H (fun x1 m1 v1 hh1 H hp => ?_)
  refine cx_backI hp (fun hx1 => ?_)
  refine jn_ind (fun (f9 : Int → Mem → Option Rz) => ∀ (s0_16 : Int) (m16 : Mem), inR s0_16 → f9 s0_16 m16 = some r → AW l D base sc RX11 yX11_weight cX11_weight 6 (some FieldType.int) 449 0 0 ad (E mi) (pI E r) 0 0 (E m16) 16 [(0, .ref 100), (1, iv p1), (2, iv p2)] [iv s0_16]) (fun s0_16 m16 hs0_16 H => ?_) (fun j16 hj16 H => ?_) H
  · -- 16
    refine aw_istore_n (pc := 16) [(3, iv s0_16), (0, .ref 100), (1, iv p1), (2, iv p2)] dX11_weight_16 rfl (by decide) ?_
    refine aw_iload_n (pc := 17) dX11_weight_17 rfl ?_
    refine cx_if_eq (pc := 18) 27 hs0_16 dX11_weight_18 rfl H (fun H => ?_) (fun H => ?_)
    · -- 18: 27
      refine aw_aload_n (pc := 27) dX11_weight_27 rfl ?_
      refine cx_callV (pc := 28) (P := pV) (dC := 63) (mcC := 0) (msC := 0) [] hE r100 (fun r1 H1 => s_X11_gathers l sc E R hE hR n m16 r1 H1) ca_X11_333 rfl ⟨_, rfl, rfl⟩ rfl rfl (Nat.le_of_ble_eq_true rfl) (Nat.le_of_ble_eq_true rfl) (Nat.le_of_ble_eq_true rfl) (Nat.le_of_ble_eq_true rfl) dX11_weight_28 H (fun x28 m28 v28 hh28 H hp => ?_)
      refine cx_backV hp ?_
      refine aw_aload_n (pc := 31) dX11_weight_31 rfl ?_
      refine aw_aload_n (pc := 32) dX11_weight_32 rfl ?_
      refine cx_gtC (pc := 33) 129 hE r100 fl_X11_264 rfl rfl (Nat.le_of_ble_eq_true rfl) dX11_weight_33 ?_
      refine aw_iload_n (pc := 36) dX11_weight_36 rfl ?_
      refine cx_ldI (pc := 37) hE r129 hp2 dX11_weight_37 H (fun x37 hx37 H => ?_)
      refine cx_callV (pc := 38) (P := pI) (dC := 448) (mcC := 0) (msC := 0) [iv x37] hE r100 (fun r1 H1 => s_X11_weightOf l sc E R hE hR n x37 hx37 m28 r1 H1) ca_X11_364 rfl ⟨_, rfl, rfl⟩ rfl rfl (Nat.le_of_ble_eq_true rfl) (Nat.le_of_ble_eq_true rfl) (Nat.le_of_ble_eq_true rfl) (Nat.le_of_ble_eq_true rfl) dX11_weight_38 H (fun x38 m38 v38 hh38 H hp => ?_)
      refine cx_backI hp (fun hx38 => ?_)
      refine aw_istore (pc := 41) [(4, iv x38), (3, iv s0_16), (0, .ref 100), (1, iv p1), (2, iv p2)] dX11_weight_41 rfl (by decide) ?_
      refine aw_aload_n (pc := 43) dX11_weight_43 rfl ?_
      refine aw_iload_n (pc := 44) dX11_weight_44 rfl ?_
      refine aw_iload (pc := 45) dX11_weight_45 rfl ?_
      refine cx_callV (pc := 47) (P := pI) (dC := 63) (mcC := 0) (msC := 0) [iv p1, iv x38] hE r100 (fun r1 H1 => s_X11_holds l sc E R hE hR n p1 x38 hp1 hx38 m38 r1 H1) ca_X11_339 rfl ⟨_, rfl, rfl⟩ rfl rfl (Nat.le_of_ble_eq_true rfl) (Nat.le_of_ble_eq_true rfl) (Nat.le_of_ble_eq_true rfl) (Nat.le_of_ble_eq_true rfl) dX11_weight_47 H (fun x47 m47 v47 hh47 H hp => ?_)
      refine cx_backI hp (fun hx47 => ?_)
      refine aw_istore (pc := 50) [(5, iv x47), (4, iv x38), (3, iv s0_16), (0, .ref 100), (1, iv p1), (2, iv p2)] dX11_weight_50 rfl (by decide) ?_
      refine aw_iload (pc := 52) dX11_weight_52 rfl ?_
      refine jn_ind (fun (f9 : Int → Mem → Option Rz) => ∀ (s0_80 : Int) (m80 : Mem), inR s0_80 → f9 s0_80 m80 = some r → AW l D base sc RX11 yX11_weight cX11_weight 6 (some FieldType.int) 449 0 0 ad (E mi) (pI E r) 0 0 (E m80) 80 [] [iv s0_80]) (fun s0_80 m80 hs0_80 H => ?_) (fun j80 hj80 H => ?_) H
      · -- 80
        exact cx_iret (pc := 80) hs0_80 rfl (Nat.le_of_ble_eq_true rfl) (Nat.le_of_ble_eq_true rfl) dX11_weight_80 H
      refine cx_if_ge (pc := 54) 62 hx47 dX11_weight_54 rfl H (fun H => ?_) (fun H => ?_)
      · -- 54: 57
        refine aw_iload (pc := 57) dX11_weight_57 rfl ?_
        refine aw_goto (pc := 59) 80 dX11_weight_59 rfl ?_
        exact AW.sel [] rfl (hj80 _ _ hx47 H)
      · -- 54: 62
        refine aw_aload_n (pc := 62) dX11_weight_62 rfl ?_
        refine cx_gtC (pc := 63) 107 hE r100 fl_X11_79 rfl rfl (Nat.le_of_ble_eq_true rfl) dX11_weight_63 ?_
        refine aw_iload (pc := 66) dX11_weight_66 rfl ?_
        refine cx_ldI (pc := 68) hE r107 hx38 dX11_weight_68 H (fun x68 hx68 H => ?_)
        refine cx_sipush (pc := 69) dX11_weight_69 (by decide) ?_
        refine cx_icmp_ne (pc := 72) 79 hx68 (inR_lit _ rfl) dX11_weight_72 rfl H (fun H => ?_) (fun H => ?_)
        · -- 72: 75
          refine cx_iconst (pc := 75) dX11_weight_75 ?_
          refine aw_goto (pc := 76) 80 dX11_weight_76 rfl ?_
          exact AW.sel [] rfl (hj80 _ _ (inR_lit _ rfl) H)
        · -- 72: 79
          refine cx_iconst (pc := 79) dX11_weight_79 ?_
          exact AW.sel [] rfl (hj80 _ _ (inR_lit _ rfl) H)
    · -- 18: 21
      refine aw_aload_n (pc := 21) dX11_weight_21 rfl ?_
      refine aw_iload_n (pc := 22) dX11_weight_22 rfl ?_
      refine cx_callV (pc := 23) (P := pI) (dC := 0) (mcC := 0) (msC := 0) [iv s0_16] hE r100 (fun r1 H1 => s_X11_no l sc E R hE hR n s0_16 hs0_16 m16 r1 H1) ca_X11_300 rfl ⟨_, rfl, rfl⟩ rfl rfl (Nat.le_of_ble_eq_true rfl) (Nat.le_of_ble_eq_true rfl) (Nat.le_of_ble_eq_true rfl) (Nat.le_of_ble_eq_true rfl) dX11_weight_23 H (fun x23 m23 v23 hh23 H hp => ?_)
      refine cx_backI hp (fun hx23 => ?_)
      exact cx_iret (pc := 26) hx23 rfl (Nat.le_of_ble_eq_true rfl) (Nat.le_of_ble_eq_true rfl) dX11_weight_26 H
  refine cx_if_eq (pc := 4) 15 hx1 dX11_weight_4 rfl H (fun H => ?_) (fun H => ?_)
  · -- 4: 15
    refine cx_iconst (pc := 15) dX11_weight_15 ?_
    exact AW.sel [0, 1, 2] rfl (hj16 _ _ (inR_lit _ rfl) H)
  · -- 4: 7
    refine aw_aload_n (pc := 7) dX11_weight_7 rfl ?_
    refine aw_iload_n (pc := 8) dX11_weight_8 rfl ?_
    refine cx_callV (pc := 9) (P := pI) (dC := 2) (mcC := 0) (msC := 0) [iv p2] hE r100 (fun r1 H1 => s_X11_wrongSmall l sc E R hE hR n p2 hp2 m1 r1 H1) ca_X11_371 rfl ⟨_, rfl, rfl⟩ rfl rfl (Nat.le_of_ble_eq_true rfl) (Nat.le_of_ble_eq_true rfl) (Nat.le_of_ble_eq_true rfl) (Nat.le_of_ble_eq_true rfl) dX11_weight_9 H (fun x9 m9 v9 hh9 H hp => ?_)
    refine cx_backI hp (fun hx9 => ?_)
    refine aw_goto (pc := 12) 16 dX11_weight_12 rfl ?_
    exact AW.sel [0, 1, 2] rfl (hj16 _ _ hx9 H)
/-- X11 numberOf (I)I -/
def f_X11_numberOf (n : Nat) (p1 : Int) (mi : Mem) : Option Rz :=
  ldI mi 129 p1 fun x10 =>
  cal (f_X11_weightOf n x10 mi) fun x11 m11 =>
  ldI m11 107 x11 fun x14 =>
  rt x14 m11
set_option maxRecDepth 100000 in
set_option maxHeartbeats 4000000 in
theorem s_X11_numberOf (l : Launch) (sc : g_S) (E : Mem → g_H) (R : Nat → Prop) (hE : LE E R) (hR : RRF R) (n : Nat)  (p1 : Int) (hp1 : inR p1) (mi : Mem) (r : Rz) (H : f_X11_numberOf n p1 mi = some r) : AMet l sc yX11_numberOf cX11_numberOf 2 (some FieldType.int) 449 0 0 [.ref 100, iv p1] (E mi) (pI E r) := by
  have r100 : R 100 := hR 100 (Nat.le_of_ble_eq_true rfl) (Nat.le_of_ble_eq_true rfl)
  have r107 : R 107 := hR 107 (Nat.le_of_ble_eq_true rfl) (Nat.le_of_ble_eq_true rfl)
  have r129 : R 129 := hR 129 (Nat.le_of_ble_eq_true rfl) (Nat.le_of_ble_eq_true rfl)
  unfold f_X11_numberOf at H
  refine AMet.of (own := RX11) (by decide +kernel) rfl (Nat.le_of_ble_eq_true rfl) [(0, .ref 100), (1, iv p1)] rfl (fun D base ad => ?_)
  refine aw_aload_n (pc := 0) dX11_numberOf_0 rfl ?_
  refine cx_gtC (pc := 1) 107 hE r100 fl_X11_79 rfl rfl (Nat.le_of_ble_eq_true rfl) dX11_numberOf_1 ?_
  refine aw_aload_n (pc := 4) dX11_numberOf_4 rfl ?_
  refine aw_aload_n (pc := 5) dX11_numberOf_5 rfl ?_
  refine cx_gtC (pc := 6) 129 hE r100 fl_X11_264 rfl rfl (Nat.le_of_ble_eq_true rfl) dX11_numberOf_6 ?_
  refine aw_iload_n (pc := 9) dX11_numberOf_9 rfl ?_
  refine cx_ldI (pc := 10) hE r129 hp1 dX11_numberOf_10 H (fun x10 hx10 H => ?_)
  refine cx_callV (pc := 11) (P := pI) (dC := 448) (mcC := 0) (msC := 0) [iv x10] hE r100 (fun r1 H1 => s_X11_weightOf l sc E R hE hR n x10 hx10 mi r1 H1) ca_X11_364 rfl ⟨_, rfl, rfl⟩ rfl rfl (Nat.le_of_ble_eq_true rfl) (Nat.le_of_ble_eq_true rfl) (Nat.le_of_ble_eq_true rfl) (Nat.le_of_ble_eq_true rfl) dX11_numberOf_11 H (fun x11 m11 v11 hh11 H hp => ?_)
  refine cx_backI hp (fun hx11 => ?_)
  refine cx_ldI (pc := 14) hE r107 hx11 dX11_numberOf_14 H (fun x14 hx14 H => ?_)
  exact cx_iret (pc := 15) hx14 rfl (Nat.le_of_ble_eq_true rfl) (Nat.le_of_ble_eq_true rfl) dX11_numberOf_15 H
/-- X11 atomic (I)I -/
def f_X11_atomic (n : Nat) (p1 : Int) (mi : Mem) : Option Rz :=
  cal (f_X11_wrongSmall n p1 mi) fun x2 m2 =>
  if x2 = 0 then (
    cal (f_X11_gathers n m2) fun _ m17 =>
    cal (f_X11_numberOf n p1 m17) fun x22 m22 =>
    jn (fun (s0_42 : Int) (m42 : Mem) =>
      rt s0_42 m42
    ) fun (j42 : Int → Mem → Option Rz) =>
    if x22 = (-1000) then (
      cal (f_X11_no n 2 m22) fun x35 m35 =>
      j42 x35 m35
    ) else
    j42 x22 m22
  ) else
  cal (f_X11_no n x2 m2) fun x12 m12 =>
  rt x12 m12
set_option maxRecDepth 100000 in
set_option maxHeartbeats 4000000 in
theorem s_X11_atomic (l : Launch) (sc : g_S) (E : Mem → g_H) (R : Nat → Prop) (hE : LE E R) (hR : RRF R) (n : Nat)  (p1 : Int) (hp1 : inR p1) (mi : Mem) (r : Rz) (H : f_X11_atomic n p1 mi = some r) : AMet l sc yX11_atomic cX11_atomic 4 (some FieldType.int) 450 0 0 [.ref 100, iv p1] (E mi) (pI E r) := by
  have r100 : R 100 := hR 100 (Nat.le_of_ble_eq_true rfl) (Nat.le_of_ble_eq_true rfl)
  unfold f_X11_atomic at H
  refine AMet.of (own := RX11) (by decide +kernel) rfl (Nat.le_of_ble_eq_true rfl) [(0, .ref 100), (1, iv p1)] rfl (fun D base ad => ?_)
  refine aw_aload_n (pc := 0) dX11_atomic_0 rfl ?_
  refine aw_iload_n (pc := 1) dX11_atomic_1 rfl ?_
  refine cx_callV (pc := 2) (P := pI) (dC := 2) (mcC := 0) (msC := 0) [iv p1] hE r100 (fun r1 H1 => s_X11_wrongSmall l sc E R hE hR n p1 hp1 mi r1 H1) ca_X11_371 rfl ⟨_, rfl, rfl⟩ rfl rfl (Nat.le_of_ble_eq_true rfl) (Nat.le_of_ble_eq_true rfl) (Nat.le_of_ble_eq_true rfl) (Nat.le_of_ble_eq_true rfl) dX11_atomic_2 H (fun x2 m2 v2 hh2 H hp => ?_)
  refine cx_backI hp (fun hx2 => ?_)
  refine aw_istore_n (pc := 5) [(2, iv x2), (0, .ref 100), (1, iv p1)] dX11_atomic_5 rfl (by decide) ?_
  refine aw_iload_n (pc := 6) dX11_atomic_6 rfl ?_
  refine cx_if_eq (pc := 7) 16 hx2 dX11_atomic_7 rfl H (fun H => ?_) (fun H => ?_)
  · -- 7: 16
    refine aw_aload_n (pc := 16) dX11_atomic_16 rfl ?_
    refine cx_callV (pc := 17) (P := pV) (dC := 63) (mcC := 0) (msC := 0) [] hE r100 (fun r1 H1 => s_X11_gathers l sc E R hE hR n m2 r1 H1) ca_X11_333 rfl ⟨_, rfl, rfl⟩ rfl rfl (Nat.le_of_ble_eq_true rfl) (Nat.le_of_ble_eq_true rfl) (Nat.le_of_ble_eq_true rfl) (Nat.le_of_ble_eq_true rfl) dX11_atomic_17 H (fun x17 m17 v17 hh17 H hp => ?_)
    refine cx_backV hp ?_
    refine aw_aload_n (pc := 20) dX11_atomic_20 rfl ?_
    refine aw_iload_n (pc := 21) dX11_atomic_21 rfl ?_
    refine cx_callV (pc := 22) (P := pI) (dC := 449) (mcC := 0) (msC := 0) [iv p1] hE r100 (fun r1 H1 => s_X11_numberOf l sc E R hE hR n p1 hp1 m17 r1 H1) ca_X11_374 rfl ⟨_, rfl, rfl⟩ rfl rfl (Nat.le_of_ble_eq_true rfl) (Nat.le_of_ble_eq_true rfl) (Nat.le_of_ble_eq_true rfl) (Nat.le_of_ble_eq_true rfl) dX11_atomic_22 H (fun x22 m22 v22 hh22 H hp => ?_)
    refine cx_backI hp (fun hx22 => ?_)
    refine aw_istore_n (pc := 25) [(3, iv x22), (2, iv x2), (0, .ref 100), (1, iv p1)] dX11_atomic_25 rfl (by decide) ?_
    refine aw_iload_n (pc := 26) dX11_atomic_26 rfl ?_
    refine cx_sipush (pc := 27) dX11_atomic_27 (by decide) ?_
    refine jn_ind (fun (f9 : Int → Mem → Option Rz) => ∀ (s0_42 : Int) (m42 : Mem), inR s0_42 → f9 s0_42 m42 = some r → AW l D base sc RX11 yX11_atomic cX11_atomic 4 (some FieldType.int) 450 0 0 ad (E mi) (pI E r) 0 0 (E m42) 42 [] [iv s0_42]) (fun s0_42 m42 hs0_42 H => ?_) (fun j42 hj42 H => ?_) H
    · -- 42
      exact cx_iret (pc := 42) hs0_42 rfl (Nat.le_of_ble_eq_true rfl) (Nat.le_of_ble_eq_true rfl) dX11_atomic_42 H
    refine cx_icmp_ne (pc := 30) 41 hx22 (inR_lit _ rfl) dX11_atomic_30 rfl H (fun H => ?_) (fun H => ?_)
    · -- 30: 33
      refine aw_aload_n (pc := 33) dX11_atomic_33 rfl ?_
      refine cx_iconst (pc := 34) dX11_atomic_34 ?_
      refine cx_callV (pc := 35) (P := pI) (dC := 0) (mcC := 0) (msC := 0) [iv 2] hE r100 (fun r1 H1 => s_X11_no l sc E R hE hR n 2 (inR_lit _ rfl) m22 r1 H1) ca_X11_300 rfl ⟨_, rfl, rfl⟩ rfl rfl (Nat.le_of_ble_eq_true rfl) (Nat.le_of_ble_eq_true rfl) (Nat.le_of_ble_eq_true rfl) (Nat.le_of_ble_eq_true rfl) dX11_atomic_35 H (fun x35 m35 v35 hh35 H hp => ?_)
      refine cx_backI hp (fun hx35 => ?_)
      refine aw_goto (pc := 38) 42 dX11_atomic_38 rfl ?_
      exact AW.sel [] rfl (hj42 _ _ hx35 H)
    · -- 30: 41
      refine aw_iload_n (pc := 41) dX11_atomic_41 rfl ?_
      exact AW.sel [] rfl (hj42 _ _ hx22 H)
  · -- 7: 10
    refine aw_aload_n (pc := 10) dX11_atomic_10 rfl ?_
    refine aw_iload_n (pc := 11) dX11_atomic_11 rfl ?_
    refine cx_callV (pc := 12) (P := pI) (dC := 0) (mcC := 0) (msC := 0) [iv x2] hE r100 (fun r1 H1 => s_X11_no l sc E R hE hR n x2 hx2 m2 r1 H1) ca_X11_300 rfl ⟨_, rfl, rfl⟩ rfl rfl (Nat.le_of_ble_eq_true rfl) (Nat.le_of_ble_eq_true rfl) (Nat.le_of_ble_eq_true rfl) (Nat.le_of_ble_eq_true rfl) dX11_atomic_12 H (fun x12 m12 v12 hh12 H hp => ?_)
    refine cx_backI hp (fun hx12 => ?_)
    exact cx_iret (pc := 15) hx12 rfl (Nat.le_of_ble_eq_true rfl) (Nat.le_of_ble_eq_true rfl) dX11_atomic_15 H
/-- X11 ahead (I)I -/
def f_X11_ahead (n : Nat) (p1 : Int) (mi : Mem) : Option Rz :=
  cal (f_X11_wrongSmall n p1 mi) fun x2 m2 =>
  if x2 = 0 then (
    cal (f_X11_gathers n m2) fun _ m17 =>
    cal (f_X11_numberOf n p1 m17) fun x22 m22 =>
    jn (fun (s0_57 : Int) (m57 : Mem) =>
      rt s0_57 m57
    ) fun (j57 : Int → Mem → Option Rz) =>
    if x22 = (-1000) then (
      j57 0 m22
    ) else
    if x22 < 2 then (
      if (-2) < x22 then (
        j57 0 m22
      ) else
      j57 (-1) m22
    ) else
    j57 1 m22
  ) else
  cal (f_X11_no n x2 m2) fun x12 m12 =>
  rt x12 m12
set_option maxRecDepth 100000 in
set_option maxHeartbeats 4000000 in
theorem s_X11_ahead (l : Launch) (sc : g_S) (E : Mem → g_H) (R : Nat → Prop) (hE : LE E R) (hR : RRF R) (n : Nat)  (p1 : Int) (hp1 : inR p1) (mi : Mem) (r : Rz) (H : f_X11_ahead n p1 mi = some r) : AMet l sc yX11_ahead cX11_ahead 4 (some FieldType.int) 450 0 0 [.ref 100, iv p1] (E mi) (pI E r) := by
  have r100 : R 100 := hR 100 (Nat.le_of_ble_eq_true rfl) (Nat.le_of_ble_eq_true rfl)
  unfold f_X11_ahead at H
  refine AMet.of (own := RX11) (by decide +kernel) rfl (Nat.le_of_ble_eq_true rfl) [(0, .ref 100), (1, iv p1)] rfl (fun D base ad => ?_)
  refine aw_aload_n (pc := 0) dX11_ahead_0 rfl ?_
  refine aw_iload_n (pc := 1) dX11_ahead_1 rfl ?_
  refine cx_callV (pc := 2) (P := pI) (dC := 2) (mcC := 0) (msC := 0) [iv p1] hE r100 (fun r1 H1 => s_X11_wrongSmall l sc E R hE hR n p1 hp1 mi r1 H1) ca_X11_371 rfl ⟨_, rfl, rfl⟩ rfl rfl (Nat.le_of_ble_eq_true rfl) (Nat.le_of_ble_eq_true rfl) (Nat.le_of_ble_eq_true rfl) (Nat.le_of_ble_eq_true rfl) dX11_ahead_2 H (fun x2 m2 v2 hh2 H hp => ?_)
  refine cx_backI hp (fun hx2 => ?_)
  refine aw_istore_n (pc := 5) [(2, iv x2), (0, .ref 100), (1, iv p1)] dX11_ahead_5 rfl (by decide) ?_
  refine aw_iload_n (pc := 6) dX11_ahead_6 rfl ?_
  refine cx_if_eq (pc := 7) 16 hx2 dX11_ahead_7 rfl H (fun H => ?_) (fun H => ?_)
  · -- 7: 16
    refine aw_aload_n (pc := 16) dX11_ahead_16 rfl ?_
    refine cx_callV (pc := 17) (P := pV) (dC := 63) (mcC := 0) (msC := 0) [] hE r100 (fun r1 H1 => s_X11_gathers l sc E R hE hR n m2 r1 H1) ca_X11_333 rfl ⟨_, rfl, rfl⟩ rfl rfl (Nat.le_of_ble_eq_true rfl) (Nat.le_of_ble_eq_true rfl) (Nat.le_of_ble_eq_true rfl) (Nat.le_of_ble_eq_true rfl) dX11_ahead_17 H (fun x17 m17 v17 hh17 H hp => ?_)
    refine cx_backV hp ?_
    refine aw_aload_n (pc := 20) dX11_ahead_20 rfl ?_
    refine aw_iload_n (pc := 21) dX11_ahead_21 rfl ?_
    refine cx_callV (pc := 22) (P := pI) (dC := 449) (mcC := 0) (msC := 0) [iv p1] hE r100 (fun r1 H1 => s_X11_numberOf l sc E R hE hR n p1 hp1 m17 r1 H1) ca_X11_374 rfl ⟨_, rfl, rfl⟩ rfl rfl (Nat.le_of_ble_eq_true rfl) (Nat.le_of_ble_eq_true rfl) (Nat.le_of_ble_eq_true rfl) (Nat.le_of_ble_eq_true rfl) dX11_ahead_22 H (fun x22 m22 v22 hh22 H hp => ?_)
    refine cx_backI hp (fun hx22 => ?_)
    refine aw_istore_n (pc := 25) [(3, iv x22), (2, iv x2), (0, .ref 100), (1, iv p1)] dX11_ahead_25 rfl (by decide) ?_
    refine aw_iload_n (pc := 26) dX11_ahead_26 rfl ?_
    refine cx_sipush (pc := 27) dX11_ahead_27 (by decide) ?_
    refine jn_ind (fun (f9 : Int → Mem → Option Rz) => ∀ (s0_57 : Int) (m57 : Mem), inR s0_57 → f9 s0_57 m57 = some r → AW l D base sc RX11 yX11_ahead cX11_ahead 4 (some FieldType.int) 450 0 0 ad (E mi) (pI E r) 0 0 (E m57) 57 [] [iv s0_57]) (fun s0_57 m57 hs0_57 H => ?_) (fun j57 hj57 H => ?_) H
    · -- 57
      exact cx_iret (pc := 57) hs0_57 rfl (Nat.le_of_ble_eq_true rfl) (Nat.le_of_ble_eq_true rfl) dX11_ahead_57 H
    refine cx_icmp_ne (pc := 30) 37 hx22 (inR_lit _ rfl) dX11_ahead_30 rfl H (fun H => ?_) (fun H => ?_)
    · -- 30: 33
      refine cx_iconst (pc := 33) dX11_ahead_33 ?_
      refine aw_goto (pc := 34) 57 dX11_ahead_34 rfl ?_
      exact AW.sel [] rfl (hj57 _ _ (inR_lit _ rfl) H)
    · -- 30: 37
      refine aw_iload_n (pc := 37) dX11_ahead_37 rfl ?_
      refine cx_iconst (pc := 38) dX11_ahead_38 ?_
      refine cx_icmp_lt (pc := 39) 46 hx22 (inR_lit _ rfl) dX11_ahead_39 rfl H (fun H => ?_) (fun H => ?_)
      · -- 39: 46
        refine aw_iload_n (pc := 46) dX11_ahead_46 rfl ?_
        refine cx_bipush (pc := 47) dX11_ahead_47 (by decide) ?_
        refine cx_icmp_gt (pc := 49) 56 hx22 (inR_lit _ rfl) dX11_ahead_49 rfl H (fun H => ?_) (fun H => ?_)
        · -- 49: 56
          refine cx_iconst (pc := 56) dX11_ahead_56 ?_
          exact AW.sel [] rfl (hj57 _ _ (inR_lit _ rfl) H)
        · -- 49: 52
          refine cx_iconst (pc := 52) dX11_ahead_52 ?_
          refine aw_goto (pc := 53) 57 dX11_ahead_53 rfl ?_
          exact AW.sel [] rfl (hj57 _ _ (inR_lit _ rfl) H)
      · -- 39: 42
        refine cx_iconst (pc := 42) dX11_ahead_42 ?_
        refine aw_goto (pc := 43) 57 dX11_ahead_43 rfl ?_
        exact AW.sel [] rfl (hj57 _ _ (inR_lit _ rfl) H)
  · -- 7: 10
    refine aw_aload_n (pc := 10) dX11_ahead_10 rfl ?_
    refine aw_iload_n (pc := 11) dX11_ahead_11 rfl ?_
    refine cx_callV (pc := 12) (P := pI) (dC := 0) (mcC := 0) (msC := 0) [iv x2] hE r100 (fun r1 H1 => s_X11_no l sc E R hE hR n x2 hx2 m2 r1 H1) ca_X11_300 rfl ⟨_, rfl, rfl⟩ rfl rfl (Nat.le_of_ble_eq_true rfl) (Nat.le_of_ble_eq_true rfl) (Nat.le_of_ble_eq_true rfl) (Nat.le_of_ble_eq_true rfl) dX11_ahead_12 H (fun x12 m12 v12 hh12 H hp => ?_)
    refine cx_backI hp (fun hx12 => ?_)
    exact cx_iret (pc := 15) hx12 rfl (Nat.le_of_ble_eq_true rfl) (Nat.le_of_ble_eq_true rfl) dX11_ahead_15 H
/-- X11 garden (I)I -/
def f_X11_garden (n : Nat) (p1 : Int) (mi : Mem) : Option Rz :=
  cal (f_X11_in n p1 0 255 mi) fun x5 m5 =>
  if x5 = 0 then (
    cal (f_X11_no n 1 m5) fun x13 m13 =>
    rt x13 m13
  ) else
  lp (F := Int → Int → Mem → Option Rz) (fun _ _ _ => none) (fun w21 v2_21 v3_21 m21 =>
    if v3_21 < 8 then (
      jn (fun (s0_58 : Int) (m58 : Mem) =>
        w21 s0_58 (w32 (v3_21 + 1)) m58
      ) fun (j58 : Int → Mem → Option Rz) =>
      jn (fun (m57 : Mem) =>
        j58 0 m57
      ) fun (j57 : Mem → Option Rz) =>
      if v2_21 = 0 then (
        j57 m21
      ) else
      jn (fun (m53 : Mem) =>
        j58 1 m53
      ) fun (j53 : Mem → Option Rz) =>
      if iand (ishr p1 v3_21) 1 = 0 then (
        j53 m21
      ) else
      ldI m21 129 v3_21 fun x48 =>
      ldZ m21 110 x48 fun x49 =>
      if x49 = 0 then (
        j57 m21
      ) else
      j53 m21
    ) else
    if v2_21 = 0 then (
      cal (f_X11_no n 3 m21) fun x71 m71 =>
      rt x71 m71
    ) else
    cal (f_X11_gathers n m21) fun _ m76 =>
    lp (F := Int → Int → Int → Mem → Option Rz) (fun _ _ _ _ => none) (fun w87 v3_87 v4_87 v5_87 m87 =>
      if v5_87 < 8 then (
        jn (fun (s0_113 : Int) (m113 : Mem) =>
          jn (fun (s0_133 : Int) (m133 : Mem) =>
            nm (w32 (v3_87 + s0_113)) fun z139 =>
            w87 z139 s0_133 (w32 (v5_87 + 1)) m133
          ) fun (j133 : Int → Mem → Option Rz) =>
          jn (fun (m132 : Mem) =>
            j133 0 m132
          ) fun (j132 : Mem → Option Rz) =>
          if v4_87 = 0 then (
            j132 m113
          ) else
          if s0_113 = (-1000) then (
            j132 m113
          ) else
          j133 1 m113
        ) fun (j113 : Int → Mem → Option Rz) =>
        if iand (ishr p1 v5_87) 1 = 0 then (
          j113 0 m87
        ) else
        cal (f_X11_numberOf n v5_87 m87) fun x110 m110 =>
        j113 x110 m110
      ) else
      jn (fun (s0_160 : Int) (m160 : Mem) =>
        rt s0_160 m160
      ) fun (j160 : Int → Mem → Option Rz) =>
      if v4_87 = 0 then (
        cal (f_X11_no n 2 m87) fun x157 m157 =>
        j160 x157 m157
      ) else
      j160 v3_87 m87
    ) n 0 1 0 m76
  ) n 1 0 m5
set_option maxRecDepth 100000 in
set_option maxHeartbeats 4000000 in
theorem s_X11_garden (l : Launch) (sc : g_S) (E : Mem → g_H) (R : Nat → Prop) (hE : LE E R) (hR : RRF R) (n : Nat)  (p1 : Int) (hp1 : inR p1) (mi : Mem) (r : Rz) (H : f_X11_garden n p1 mi = some r) : AMet l sc yX11_garden cX11_garden 7 (some FieldType.int) 450 0 0 [.ref 100, iv p1] (E mi) (pI E r) := by
  have r100 : R 100 := hR 100 (Nat.le_of_ble_eq_true rfl) (Nat.le_of_ble_eq_true rfl)
  have r110 : R 110 := hR 110 (Nat.le_of_ble_eq_true rfl) (Nat.le_of_ble_eq_true rfl)
  have r129 : R 129 := hR 129 (Nat.le_of_ble_eq_true rfl) (Nat.le_of_ble_eq_true rfl)
  unfold f_X11_garden at H
  refine AMet.of (own := RX11) (by decide +kernel) rfl (Nat.le_of_ble_eq_true rfl) [(0, .ref 100), (1, iv p1)] rfl (fun D base ad => ?_)
  refine aw_iload_n (pc := 0) dX11_garden_0 rfl ?_
  refine cx_iconst (pc := 1) dX11_garden_1 ?_
  refine cx_sipush (pc := 2) dX11_garden_2 (by decide) ?_
  refine cx_callS (pc := 5) (P := pI) (dC := 0) (mcC := 0) (msC := 0) [iv p1, iv 0, iv 255] (fun r1 H1 => s_X11_in l sc E R hE hR n p1 0 255 hp1 (inR_lit _ rfl) (inR_lit _ rfl) mi r1 H1) ca_X11_106 rfl rfl (Nat.le_of_ble_eq_true rfl) (Nat.le_of_ble_eq_true rfl) (Nat.le_of_ble_eq_true rfl) (Nat.le_of_ble_eq_true rfl) dX11_garden_5 H (fun x5 m5 v5 hh5 H hp => ?_)
  refine cx_backI hp (fun hx5 => ?_)
  refine cx_if_ne (pc := 8) 17 hx5 dX11_garden_8 rfl H (fun H => ?_) (fun H => ?_)
  · -- 8: 11
    refine aw_aload_n (pc := 11) dX11_garden_11 rfl ?_
    refine cx_iconst (pc := 12) dX11_garden_12 ?_
    refine cx_callV (pc := 13) (P := pI) (dC := 0) (mcC := 0) (msC := 0) [iv 1] hE r100 (fun r1 H1 => s_X11_no l sc E R hE hR n 1 (inR_lit _ rfl) m5 r1 H1) ca_X11_300 rfl ⟨_, rfl, rfl⟩ rfl rfl (Nat.le_of_ble_eq_true rfl) (Nat.le_of_ble_eq_true rfl) (Nat.le_of_ble_eq_true rfl) (Nat.le_of_ble_eq_true rfl) dX11_garden_13 H (fun x13 m13 v13 hh13 H hp => ?_)
    refine cx_backI hp (fun hx13 => ?_)
    exact cx_iret (pc := 16) hx13 rfl (Nat.le_of_ble_eq_true rfl) (Nat.le_of_ble_eq_true rfl) dX11_garden_16 H
  · -- 8: 17
    refine cx_iconst (pc := 17) dX11_garden_17 ?_
    refine aw_istore_n (pc := 18) [(2, iv 1), (0, .ref 100), (1, iv p1)] dX11_garden_18 rfl (by decide) ?_
    refine cx_iconst (pc := 19) dX11_garden_19 ?_
    refine aw_istore_n (pc := 20) [(3, iv 0), (2, iv 1), (0, .ref 100), (1, iv p1)] dX11_garden_20 rfl (by decide) ?_
    refine AW.sel [2, 3, 1, 0] rfl (lp_ind (bot := fun _ _ _ => none) (fun (f9 : Int → Int → Mem → Option Rz) => ∀ (v2_21 : Int) (v3_21 : Int) (m21 : Mem), inR v2_21 → inR v3_21 → f9 v2_21 v3_21 m21 = some r → AW l D base sc RX11 yX11_garden cX11_garden 7 (some FieldType.int) 450 0 0 ad (E mi) (pI E r) 0 0 (E m21) 21 [(0, .ref 100), (1, iv p1), (2, iv v2_21), (3, iv v3_21)] []) (fun _ _ _ _ _ h9 => nomatch h9) (fun w21 ih21 v2_21 v3_21 m21 hv2_21 hv3_21 H => ?_) n _ _ _ (inR_lit _ rfl) (inR_lit _ rfl) H)
    refine aw_iload_n (pc := 21) dX11_garden_21 rfl ?_
    refine cx_bipush (pc := 22) dX11_garden_22 (by decide) ?_
    refine cx_icmp_ge (pc := 24) 65 hv3_21 (inR_lit _ rfl) dX11_garden_24 rfl H (fun H => ?_) (fun H => ?_)
    · -- 24: 27
      refine aw_iload_n (pc := 27) dX11_garden_27 rfl ?_
      refine jn_ind (fun (f9 : Int → Mem → Option Rz) => ∀ (s0_58 : Int) (m58 : Mem), inR s0_58 → f9 s0_58 m58 = some r → AW l D base sc RX11 yX11_garden cX11_garden 7 (some FieldType.int) 450 0 0 ad (E mi) (pI E r) 0 0 (E m58) 58 [(0, .ref 100), (1, iv p1), (3, iv v3_21)] [iv s0_58]) (fun s0_58 m58 hs0_58 H => ?_) (fun j58 hj58 H => ?_) H
      · -- 58
        refine aw_istore_n (pc := 58) [(2, iv s0_58), (0, .ref 100), (1, iv p1), (3, iv v3_21)] dX11_garden_58 rfl (by decide) ?_
        refine cx_iinc (pc := 59) [(3, iv (w32 (v3_21 + 1))), (2, iv s0_58), (0, .ref 100), (1, iv p1)] dX11_garden_59 rfl rfl (by decide) ?_
        refine aw_goto (pc := 62) 21 dX11_garden_62 rfl ?_
        exact AW.sel [2, 3, 1, 0] rfl (ih21 _ _ _ hs0_58 (inR_w32 _) H)
      refine jn_ind (fun (f9 : Mem → Option Rz) => ∀ (m57 : Mem), f9 m57 = some r → AW l D base sc RX11 yX11_garden cX11_garden 7 (some FieldType.int) 450 0 0 ad (E mi) (pI E r) 0 0 (E m57) 57 [(0, .ref 100), (1, iv p1), (3, iv v3_21)] []) (fun m57 H => ?_) (fun j57 hj57 H => ?_) H
      · -- 57
        refine cx_iconst (pc := 57) dX11_garden_57 ?_
        exact AW.sel [0, 1, 2] rfl (hj58 _ _ (inR_lit _ rfl) H)
      refine cx_if_eq (pc := 28) 57 hv2_21 dX11_garden_28 rfl H (fun H => ?_) (fun H => ?_)
      · -- 28: 57
        exact AW.sel [0, 1, 3] rfl (hj57 _ H)
      · -- 28: 31
        refine aw_iload_n (pc := 31) dX11_garden_31 rfl ?_
        refine aw_iload_n (pc := 32) dX11_garden_32 rfl ?_
        refine cx_ishr (pc := 33) dX11_garden_33 ?_
        refine cx_iconst (pc := 34) dX11_garden_34 ?_
        refine cx_iand (pc := 35) dX11_garden_35 ?_
        refine jn_ind (fun (f9 : Mem → Option Rz) => ∀ (m53 : Mem), f9 m53 = some r → AW l D base sc RX11 yX11_garden cX11_garden 7 (some FieldType.int) 450 0 0 ad (E mi) (pI E r) 0 0 (E m53) 53 [(0, .ref 100), (1, iv p1), (3, iv v3_21)] []) (fun m53 H => ?_) (fun j53 hj53 H => ?_) H
        · -- 53
          refine cx_iconst (pc := 53) dX11_garden_53 ?_
          refine aw_goto (pc := 54) 58 dX11_garden_54 rfl ?_
          exact AW.sel [0, 1, 2] rfl (hj58 _ _ (inR_lit _ rfl) H)
        refine cx_if_eq (pc := 36) 53 (inR_32 _) dX11_garden_36 rfl H (fun H => ?_) (fun H => ?_)
        · -- 36: 53
          exact AW.sel [0, 1, 3] rfl (hj53 _ H)
        · -- 36: 39
          refine aw_aload_n (pc := 39) dX11_garden_39 rfl ?_
          refine cx_gtC (pc := 40) 110 hE r100 fl_X11_91 rfl rfl (Nat.le_of_ble_eq_true rfl) dX11_garden_40 ?_
          refine aw_aload_n (pc := 43) dX11_garden_43 rfl ?_
          refine cx_gtC (pc := 44) 129 hE r100 fl_X11_264 rfl rfl (Nat.le_of_ble_eq_true rfl) dX11_garden_44 ?_
          refine aw_iload_n (pc := 47) dX11_garden_47 rfl ?_
          refine cx_ldI (pc := 48) hE r129 hv3_21 dX11_garden_48 H (fun x48 hx48 H => ?_)
          refine cx_ldZ (pc := 49) hE r110 hx48 dX11_garden_49 H (fun x49 hx49 H => ?_)
          refine cx_if_eq (pc := 50) 57 hx49 dX11_garden_50 rfl H (fun H => ?_) (fun H => ?_)
          · -- 50: 57
            exact AW.sel [0, 1, 3] rfl (hj57 _ H)
          · -- 50: 53
            exact AW.sel [0, 1, 3] rfl (hj53 _ H)
    · -- 24: 65
      refine aw_iload_n (pc := 65) dX11_garden_65 rfl ?_
      refine cx_if_ne (pc := 66) 75 hv2_21 dX11_garden_66 rfl H (fun H => ?_) (fun H => ?_)
      · -- 66: 69
        refine aw_aload_n (pc := 69) dX11_garden_69 rfl ?_
        refine cx_iconst (pc := 70) dX11_garden_70 ?_
        refine cx_callV (pc := 71) (P := pI) (dC := 0) (mcC := 0) (msC := 0) [iv 3] hE r100 (fun r1 H1 => s_X11_no l sc E R hE hR n 3 (inR_lit _ rfl) m21 r1 H1) ca_X11_300 rfl ⟨_, rfl, rfl⟩ rfl rfl (Nat.le_of_ble_eq_true rfl) (Nat.le_of_ble_eq_true rfl) (Nat.le_of_ble_eq_true rfl) (Nat.le_of_ble_eq_true rfl) dX11_garden_71 H (fun x71 m71 v71 hh71 H hp => ?_)
        refine cx_backI hp (fun hx71 => ?_)
        exact cx_iret (pc := 74) hx71 rfl (Nat.le_of_ble_eq_true rfl) (Nat.le_of_ble_eq_true rfl) dX11_garden_74 H
      · -- 66: 75
        refine aw_aload_n (pc := 75) dX11_garden_75 rfl ?_
        refine cx_callV (pc := 76) (P := pV) (dC := 63) (mcC := 0) (msC := 0) [] hE r100 (fun r1 H1 => s_X11_gathers l sc E R hE hR n m21 r1 H1) ca_X11_333 rfl ⟨_, rfl, rfl⟩ rfl rfl (Nat.le_of_ble_eq_true rfl) (Nat.le_of_ble_eq_true rfl) (Nat.le_of_ble_eq_true rfl) (Nat.le_of_ble_eq_true rfl) dX11_garden_76 H (fun x76 m76 v76 hh76 H hp => ?_)
        refine cx_backV hp ?_
        refine cx_iconst (pc := 79) dX11_garden_79 ?_
        refine aw_istore_n (pc := 80) [(3, iv 0), (0, .ref 100), (1, iv p1), (2, iv v2_21)] dX11_garden_80 rfl (by decide) ?_
        refine cx_iconst (pc := 81) dX11_garden_81 ?_
        refine aw_istore (pc := 82) [(4, iv 1), (3, iv 0), (0, .ref 100), (1, iv p1), (2, iv v2_21)] dX11_garden_82 rfl (by decide) ?_
        refine cx_iconst (pc := 84) dX11_garden_84 ?_
        refine aw_istore (pc := 85) [(5, iv 0), (4, iv 1), (3, iv 0), (0, .ref 100), (1, iv p1), (2, iv v2_21)] dX11_garden_85 rfl (by decide) ?_
        refine AW.sel [3, 4, 2, 1, 0] rfl (lp_ind (bot := fun _ _ _ _ => none) (fun (f9 : Int → Int → Int → Mem → Option Rz) => ∀ (v3_87 : Int) (v4_87 : Int) (v5_87 : Int) (m87 : Mem), inR v3_87 → inR v4_87 → inR v5_87 → f9 v3_87 v4_87 v5_87 m87 = some r → AW l D base sc RX11 yX11_garden cX11_garden 7 (some FieldType.int) 450 0 0 ad (E mi) (pI E r) 0 0 (E m87) 87 [(0, .ref 100), (1, iv p1), (3, iv v3_87), (4, iv v4_87), (5, iv v5_87)] []) (fun _ _ _ _ _ _ _ h9 => nomatch h9) (fun w87 ih87 v3_87 v4_87 v5_87 m87 hv3_87 hv4_87 hv5_87 H => ?_) n _ _ _ _ (inR_lit _ rfl) (inR_lit _ rfl) (inR_lit _ rfl) H)
        refine aw_iload (pc := 87) dX11_garden_87 rfl ?_
        refine cx_bipush (pc := 89) dX11_garden_89 (by decide) ?_
        refine cx_icmp_ge (pc := 91) 146 hv5_87 (inR_lit _ rfl) dX11_garden_91 rfl H (fun H => ?_) (fun H => ?_)
        · -- 91: 94
          refine aw_iload_n (pc := 94) dX11_garden_94 rfl ?_
          refine aw_iload (pc := 95) dX11_garden_95 rfl ?_
          refine cx_ishr (pc := 97) dX11_garden_97 ?_
          refine cx_iconst (pc := 98) dX11_garden_98 ?_
          refine cx_iand (pc := 99) dX11_garden_99 ?_
          refine jn_ind (fun (f9 : Int → Mem → Option Rz) => ∀ (s0_113 : Int) (m113 : Mem), inR s0_113 → f9 s0_113 m113 = some r → AW l D base sc RX11 yX11_garden cX11_garden 7 (some FieldType.int) 450 0 0 ad (E mi) (pI E r) 0 0 (E m113) 113 [(0, .ref 100), (1, iv p1), (3, iv v3_87), (4, iv v4_87), (5, iv v5_87)] [iv s0_113]) (fun s0_113 m113 hs0_113 H => ?_) (fun j113 hj113 H => ?_) H
          · -- 113
            refine aw_istore (pc := 113) [(6, iv s0_113), (0, .ref 100), (1, iv p1), (3, iv v3_87), (4, iv v4_87), (5, iv v5_87)] dX11_garden_113 rfl (by decide) ?_
            refine aw_iload (pc := 115) dX11_garden_115 rfl ?_
            refine jn_ind (fun (f9 : Int → Mem → Option Rz) => ∀ (s0_133 : Int) (m133 : Mem), inR s0_133 → f9 s0_133 m133 = some r → AW l D base sc RX11 yX11_garden cX11_garden 7 (some FieldType.int) 450 0 0 ad (E mi) (pI E r) 0 0 (E m133) 133 [(0, .ref 100), (1, iv p1), (3, iv v3_87), (5, iv v5_87), (6, iv s0_113)] [iv s0_133]) (fun s0_133 m133 hs0_133 H => ?_) (fun j133 hj133 H => ?_) H
            · -- 133
              refine aw_istore (pc := 133) [(4, iv s0_133), (0, .ref 100), (1, iv p1), (3, iv v3_87), (5, iv v5_87), (6, iv s0_113)] dX11_garden_133 rfl (by decide) ?_
              refine aw_iload_n (pc := 135) dX11_garden_135 rfl ?_
              refine aw_iload (pc := 136) dX11_garden_136 rfl ?_
              refine cx_iadd (pc := 138) dX11_garden_138 ?_
              refine cx_nm (inR_w32 _) H (fun z139 hz139 H => ?_)
              refine aw_istore_n (pc := 139) [(3, iv z139), (4, iv s0_133), (0, .ref 100), (1, iv p1), (5, iv v5_87), (6, iv s0_113)] dX11_garden_139 rfl (by decide) ?_
              refine cx_iinc (pc := 140) [(5, iv (w32 (v5_87 + 1))), (3, iv z139), (4, iv s0_133), (0, .ref 100), (1, iv p1), (6, iv s0_113)] dX11_garden_140 rfl rfl (by decide) ?_
              refine aw_goto (pc := 143) 87 dX11_garden_143 rfl ?_
              exact AW.sel [3, 4, 1, 2, 0] rfl (ih87 _ _ _ _ hz139 hs0_133 (inR_w32 _) H)
            refine jn_ind (fun (f9 : Mem → Option Rz) => ∀ (m132 : Mem), f9 m132 = some r → AW l D base sc RX11 yX11_garden cX11_garden 7 (some FieldType.int) 450 0 0 ad (E mi) (pI E r) 0 0 (E m132) 132 [(0, .ref 100), (1, iv p1), (3, iv v3_87), (5, iv v5_87), (6, iv s0_113)] []) (fun m132 H => ?_) (fun j132 hj132 H => ?_) H
            · -- 132
              refine cx_iconst (pc := 132) dX11_garden_132 ?_
              exact AW.sel [0, 1, 2, 3, 4] rfl (hj133 _ _ (inR_lit _ rfl) H)
            refine cx_if_eq (pc := 117) 132 hv4_87 dX11_garden_117 rfl H (fun H => ?_) (fun H => ?_)
            · -- 117: 132
              exact AW.sel [1, 2, 3, 5, 0] rfl (hj132 _ H)
            · -- 117: 120
              refine aw_iload (pc := 120) dX11_garden_120 rfl ?_
              refine cx_sipush (pc := 122) dX11_garden_122 (by decide) ?_
              refine cx_icmp_eq (pc := 125) 132 hs0_113 (inR_lit _ rfl) dX11_garden_125 rfl H (fun H => ?_) (fun H => ?_)
              · -- 125: 132
                exact AW.sel [1, 2, 3, 5, 0] rfl (hj132 _ H)
              · -- 125: 128
                refine cx_iconst (pc := 128) dX11_garden_128 ?_
                refine aw_goto (pc := 129) 133 dX11_garden_129 rfl ?_
                exact AW.sel [1, 2, 3, 5, 0] rfl (hj133 _ _ (inR_lit _ rfl) H)
          refine cx_if_ne (pc := 100) 107 (inR_32 _) dX11_garden_100 rfl H (fun H => ?_) (fun H => ?_)
          · -- 100: 103
            refine cx_iconst (pc := 103) dX11_garden_103 ?_
            refine aw_goto (pc := 104) 113 dX11_garden_104 rfl ?_
            exact AW.sel [0, 1, 2, 3, 4] rfl (hj113 _ _ (inR_lit _ rfl) H)
          · -- 100: 107
            refine aw_aload_n (pc := 107) dX11_garden_107 rfl ?_
            refine aw_iload (pc := 108) dX11_garden_108 rfl ?_
            refine cx_callV (pc := 110) (P := pI) (dC := 449) (mcC := 0) (msC := 0) [iv v5_87] hE r100 (fun r1 H1 => s_X11_numberOf l sc E R hE hR n v5_87 hv5_87 m87 r1 H1) ca_X11_374 rfl ⟨_, rfl, rfl⟩ rfl rfl (Nat.le_of_ble_eq_true rfl) (Nat.le_of_ble_eq_true rfl) (Nat.le_of_ble_eq_true rfl) (Nat.le_of_ble_eq_true rfl) dX11_garden_110 H (fun x110 m110 v110 hh110 H hp => ?_)
            refine cx_backI hp (fun hx110 => ?_)
            exact AW.sel [0, 1, 2, 3, 4] rfl (hj113 _ _ hx110 H)
        · -- 91: 146
          refine aw_iload (pc := 146) dX11_garden_146 rfl ?_
          refine jn_ind (fun (f9 : Int → Mem → Option Rz) => ∀ (s0_160 : Int) (m160 : Mem), inR s0_160 → f9 s0_160 m160 = some r → AW l D base sc RX11 yX11_garden cX11_garden 7 (some FieldType.int) 450 0 0 ad (E mi) (pI E r) 0 0 (E m160) 160 [] [iv s0_160]) (fun s0_160 m160 hs0_160 H => ?_) (fun j160 hj160 H => ?_) H
          · -- 160
            exact cx_iret (pc := 160) hs0_160 rfl (Nat.le_of_ble_eq_true rfl) (Nat.le_of_ble_eq_true rfl) dX11_garden_160 H
          refine cx_if_eq (pc := 148) 155 hv4_87 dX11_garden_148 rfl H (fun H => ?_) (fun H => ?_)
          · -- 148: 155
            refine aw_aload_n (pc := 155) dX11_garden_155 rfl ?_
            refine cx_iconst (pc := 156) dX11_garden_156 ?_
            refine cx_callV (pc := 157) (P := pI) (dC := 0) (mcC := 0) (msC := 0) [iv 2] hE r100 (fun r1 H1 => s_X11_no l sc E R hE hR n 2 (inR_lit _ rfl) m87 r1 H1) ca_X11_300 rfl ⟨_, rfl, rfl⟩ rfl rfl (Nat.le_of_ble_eq_true rfl) (Nat.le_of_ble_eq_true rfl) (Nat.le_of_ble_eq_true rfl) (Nat.le_of_ble_eq_true rfl) dX11_garden_157 H (fun x157 m157 v157 hh157 H hp => ?_)
            refine cx_backI hp (fun hx157 => ?_)
            exact AW.sel [] rfl (hj160 _ _ hx157 H)
          · -- 148: 151
            refine aw_iload_n (pc := 151) dX11_garden_151 rfl ?_
            refine aw_goto (pc := 152) 160 dX11_garden_152 rfl ?_
            exact AW.sel [] rfl (hj160 _ _ hv3_87 H)
