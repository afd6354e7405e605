theorem dX6_held_0 : decode cX6_held 0 = .ok (.iload_n 1, 1) := by decide +kernel
theorem dX6_held_1 : decode cX6_held 1 = .ok (.ifCond .lt 21, 3) := by decide +kernel
theorem dX6_held_4 : decode cX6_held 4 = .ok (.iload_n 1, 1) := by decide +kernel
theorem dX6_held_5 : decode cX6_held 5 = .ok (.aload_n 0, 1) := by decide +kernel
theorem dX6_held_6 : decode cX6_held 6 = .ok (.getfield 11, 3) := by decide +kernel
theorem dX6_held_9 : decode cX6_held 9 = .ok (.arraylength, 1) := by decide +kernel
theorem dX6_held_10 : decode cX6_held 10 = .ok (.if_icmp .ge 12, 3) := by decide +kernel
theorem dX6_held_13 : decode cX6_held 13 = .ok (.aload_n 0, 1) := by decide +kernel
theorem dX6_held_14 : decode cX6_held 14 = .ok (.getfield 11, 3) := by decide +kernel
theorem dX6_held_17 : decode cX6_held 17 = .ok (.iload_n 1, 1) := by decide +kernel
theorem dX6_held_18 : decode cX6_held 18 = .ok (.aaload, 1) := by decide +kernel
theorem dX6_held_19 : decode cX6_held 19 = .ok (.goto 7, 3) := by decide +kernel
theorem dX6_held_22 : decode cX6_held 22 = .ok (.aload_n 0, 1) := by decide +kernel
theorem dX6_held_23 : decode cX6_held 23 = .ok (.getfield 27, 3) := by decide +kernel
theorem dX6_held_26 : decode cX6_held 26 = .ok (.areturn, 1) := by decide +kernel
theorem dX6_hold_0 : decode cX6_hold 0 = .ok (.iload_n 1, 1) := by decide +kernel
theorem dX6_hold_1 : decode cX6_hold 1 = .ok (.ifCond .lt 12, 3) := by decide +kernel
theorem dX6_hold_4 : decode cX6_hold 4 = .ok (.iload_n 1, 1) := by decide +kernel
theorem dX6_hold_5 : decode cX6_hold 5 = .ok (.aload_n 0, 1) := by decide +kernel
theorem dX6_hold_6 : decode cX6_hold 6 = .ok (.getfield 11, 3) := by decide +kernel
theorem dX6_hold_9 : decode cX6_hold 9 = .ok (.arraylength, 1) := by decide +kernel
theorem dX6_hold_10 : decode cX6_hold 10 = .ok (.if_icmp .lt 4, 3) := by decide +kernel
theorem dX6_hold_13 : decode cX6_hold 13 = .ok (.return_, 1) := by decide +kernel
theorem dX6_hold_14 : decode cX6_hold 14 = .ok (.aload_n 0, 1) := by decide +kernel
theorem dX6_hold_15 : decode cX6_hold 15 = .ok (.getfield 31, 3) := by decide +kernel
theorem dX6_hold_18 : decode cX6_hold 18 = .ok (.bipush 8, 2) := by decide +kernel
theorem dX6_hold_20 : decode cX6_hold 20 = .ok (.if_icmp .lt 51, 3) := by decide +kernel
theorem dX6_hold_23 : decode cX6_hold 23 = .ok (.iconst 1, 1) := by decide +kernel
theorem dX6_hold_24 : decode cX6_hold 24 = .ok (.istore_n 3, 1) := by decide +kernel
theorem dX6_hold_25 : decode cX6_hold 25 = .ok (.iload_n 3, 1) := by decide +kernel
theorem dX6_hold_26 : decode cX6_hold 26 = .ok (.bipush 8, 2) := by decide +kernel
theorem dX6_hold_28 : decode cX6_hold 28 = .ok (.if_icmp .ge 37, 3) := by decide +kernel
theorem dX6_hold_31 : decode cX6_hold 31 = .ok (.aload_n 0, 1) := by decide +kernel
theorem dX6_hold_32 : decode cX6_hold 32 = .ok (.getfield 17, 3) := by decide +kernel
theorem dX6_hold_35 : decode cX6_hold 35 = .ok (.iload_n 3, 1) := by decide +kernel
theorem dX6_hold_36 : decode cX6_hold 36 = .ok (.iconst 1, 1) := by decide +kernel
theorem dX6_hold_37 : decode cX6_hold 37 = .ok (.isub, 1) := by decide +kernel
theorem dX6_hold_38 : decode cX6_hold 38 = .ok (.aload_n 0, 1) := by decide +kernel
theorem dX6_hold_39 : decode cX6_hold 39 = .ok (.getfield 17, 3) := by decide +kernel
theorem dX6_hold_42 : decode cX6_hold 42 = .ok (.iload_n 3, 1) := by decide +kernel
theorem dX6_hold_43 : decode cX6_hold 43 = .ok (.iaload, 1) := by decide +kernel
theorem dX6_hold_44 : decode cX6_hold 44 = .ok (.iastore, 1) := by decide +kernel
theorem dX6_hold_45 : decode cX6_hold 45 = .ok (.aload_n 0, 1) := by decide +kernel
theorem dX6_hold_46 : decode cX6_hold 46 = .ok (.getfield 21, 3) := by decide +kernel
theorem dX6_hold_49 : decode cX6_hold 49 = .ok (.iload_n 3, 1) := by decide +kernel
theorem dX6_hold_50 : decode cX6_hold 50 = .ok (.iconst 1, 1) := by decide +kernel
theorem dX6_hold_51 : decode cX6_hold 51 = .ok (.isub, 1) := by decide +kernel
theorem dX6_hold_52 : decode cX6_hold 52 = .ok (.aload_n 0, 1) := by decide +kernel
theorem dX6_hold_53 : decode cX6_hold 53 = .ok (.getfield 21, 3) := by decide +kernel
theorem dX6_hold_56 : decode cX6_hold 56 = .ok (.iload_n 3, 1) := by decide +kernel
theorem dX6_hold_57 : decode cX6_hold 57 = .ok (.aaload, 1) := by decide +kernel
theorem dX6_hold_58 : decode cX6_hold 58 = .ok (.aastore, 1) := by decide +kernel
theorem dX6_hold_59 : decode cX6_hold 59 = .ok (.iinc 3 1, 3) := by decide +kernel
theorem dX6_hold_62 : decode cX6_hold 62 = .ok (.goto (-37), 3) := by decide +kernel
theorem dX6_hold_65 : decode cX6_hold 65 = .ok (.aload_n 0, 1) := by decide +kernel
theorem dX6_hold_66 : decode cX6_hold 66 = .ok (.bipush 7, 2) := by decide +kernel
theorem dX6_hold_68 : decode cX6_hold 68 = .ok (.putfield 31, 3) := by decide +kernel
theorem dX6_hold_71 : decode cX6_hold 71 = .ok (.aload_n 0, 1) := by decide +kernel
theorem dX6_hold_72 : decode cX6_hold 72 = .ok (.getfield 31, 3) := by decide +kernel
theorem dX6_hold_75 : decode cX6_hold 75 = .ok (.ifCond .lt 38, 3) := by decide +kernel
theorem dX6_hold_78 : decode cX6_hold 78 = .ok (.aload_n 0, 1) := by decide +kernel
theorem dX6_hold_79 : decode cX6_hold 79 = .ok (.getfield 17, 3) := by decide +kernel
theorem dX6_hold_82 : decode cX6_hold 82 = .ok (.aload_n 0, 1) := by decide +kernel
theorem dX6_hold_83 : decode cX6_hold 83 = .ok (.getfield 31, 3) := by decide +kernel
theorem dX6_hold_86 : decode cX6_hold 86 = .ok (.iload_n 1, 1) := by decide +kernel
theorem dX6_hold_87 : decode cX6_hold 87 = .ok (.iastore, 1) := by decide +kernel
theorem dX6_hold_88 : decode cX6_hold 88 = .ok (.aload_n 0, 1) := by decide +kernel
theorem dX6_hold_89 : decode cX6_hold 89 = .ok (.getfield 21, 3) := by decide +kernel
theorem dX6_hold_92 : decode cX6_hold 92 = .ok (.aload_n 0, 1) := by decide +kernel
theorem dX6_hold_93 : decode cX6_hold 93 = .ok (.getfield 31, 3) := by decide +kernel
theorem dX6_hold_96 : decode cX6_hold 96 = .ok (.aload_n 0, 1) := by decide +kernel
theorem dX6_hold_97 : decode cX6_hold 97 = .ok (.getfield 11, 3) := by decide +kernel
theorem dX6_hold_100 : decode cX6_hold 100 = .ok (.iload_n 1, 1) := by decide +kernel
theorem dX6_hold_101 : decode cX6_hold 101 = .ok (.aaload, 1) := by decide +kernel
theorem dX6_hold_102 : decode cX6_hold 102 = .ok (.aastore, 1) := by decide +kernel
theorem dX6_hold_103 : decode cX6_hold 103 = .ok (.aload_n 0, 1) := by decide +kernel
theorem dX6_hold_104 : decode cX6_hold 104 = .ok (.dup, 1) := by decide +kernel
theorem dX6_hold_105 : decode cX6_hold 105 = .ok (.getfield 31, 3) := by decide +kernel
theorem dX6_hold_108 : decode cX6_hold 108 = .ok (.iconst 1, 1) := by decide +kernel
theorem dX6_hold_109 : decode cX6_hold 109 = .ok (.iadd, 1) := by decide +kernel
theorem dX6_hold_110 : decode cX6_hold 110 = .ok (.putfield 31, 3) := by decide +kernel
theorem dX6_hold_113 : decode cX6_hold 113 = .ok (.aload_n 0, 1) := by decide +kernel
theorem dX6_hold_114 : decode cX6_hold 114 = .ok (.getfield 11, 3) := by decide +kernel
theorem dX6_hold_117 : decode cX6_hold 117 = .ok (.iload_n 1, 1) := by decide +kernel
theorem dX6_hold_118 : decode cX6_hold 118 = .ok (.aload_n 2, 1) := by decide +kernel
theorem dX6_hold_119 : decode cX6_hold 119 = .ok (.aastore, 1) := by decide +kernel
theorem dX6_hold_120 : decode cX6_hold 120 = .ok (.return_, 1) := by decide +kernel
theorem dX6_zero_0 : decode cX6_zero 0 = .ok (.aload_n 0, 1) := by decide +kernel
theorem dX6_zero_1 : decode cX6_zero 1 = .ok (.getfield 27, 3) := by decide +kernel
theorem dX6_zero_4 : decode cX6_zero 4 = .ok (.areturn, 1) := by decide +kernel
/-- X6 zero ()LUppityGames$Game; -/
def f_X6_zero (n : Nat)  (mi : Mem) : Option Rz :=
  gtG mi 45 0 fun x1 =>
  rt (x1 : Nat) mi
set_option maxRecDepth 100000 in
set_option maxHeartbeats 4000000 in
theorem s_X6_zero (l : Launch) (sc : g_S) (E : Mem → g_H) (R : Nat → Prop) (hE : LE E R) (hR : RCL R) (n : Nat)    (mi : Mem) (r : Rz) (H : f_X6_zero n  mi = some r) : AMet l sc yX6_zero cX6_zero 1 (some (FieldType.object "UppityGames$Game")) 0 0 0 [.ref 45] (E mi) (pG E r) := by
  have r45 : R 45 := hR.1 45 (Nat.le_of_ble_eq_true rfl) (Nat.le_of_ble_eq_true rfl)
  unfold f_X6_zero at H
  refine AMet.of (own := RX6) (by decide +kernel) rfl (Nat.le_of_ble_eq_true rfl) [(0, .ref 45)] rfl (fun D base ad => ?_)
  refine aw_aload_n (pc := 0) dX6_zero_0 rfl ?_
  refine cx_gtG (pc := 1) hE r45 fl_X6_27 rfl rfl (Nat.le_of_ble_eq_true rfl) dX6_zero_1 H (fun x1 H => ?_)
  exact cx_aret (pc := 4) ⟨_, rfl, Or.inl ⟨_, rfl⟩⟩ (Nat.le_of_ble_eq_true rfl) (Nat.le_of_ble_eq_true rfl) dX6_zero_4 H
/-- X6 held (I)LUppityGames$Game; -/
def f_X6_held (n : Nat) (p1 : Int) (mi : Mem) : Option Rz :=
  jn (fun (s0_26 : Nat) (m26 : Mem) =>
    rt (s0_26 : Nat) m26
  ) fun (j26 : Nat → Mem → Option Rz) =>
  jn (fun (m22 : Mem) =>
    gtG m22 45 0 fun x23 =>
    j26 x23 m22
  ) fun (j22 : Mem → Option Rz) =>
  if p1 < 0 then (
    j22 mi
  ) else
  if p1 < 8 then (
    ldG mi 46 p1 fun x18 =>
    j26 x18 mi
  ) else
  j22 mi
set_option maxRecDepth 100000 in
set_option maxHeartbeats 4000000 in
theorem s_X6_held (l : Launch) (sc : g_S) (E : Mem → g_H) (R : Nat → Prop) (hE : LE E R) (hR : RCL R) (n : Nat)  (p1 : Int) (hp1 : inR p1) (mi : Mem) (r : Rz) (H : f_X6_held n p1 mi = some r) : AMet l sc yX6_held cX6_held 2 (some (FieldType.object "UppityGames$Game")) 0 0 0 [.ref 45, iv p1] (E mi) (pG E r) := by
  have r45 : R 45 := hR.1 45 (Nat.le_of_ble_eq_true rfl) (Nat.le_of_ble_eq_true rfl)
  have r46 : R 46 := hR.1 46 (Nat.le_of_ble_eq_true rfl) (Nat.le_of_ble_eq_true rfl)
  unfold f_X6_held at H
  refine AMet.of (own := RX6) (by decide +kernel) rfl (Nat.le_of_ble_eq_true rfl) [(0, .ref 45), (1, iv p1)] rfl (fun D base ad => ?_)
  refine aw_iload_n (pc := 0) dX6_held_0 rfl ?_
  refine jn_ind (fun (f9 : Nat → Mem → Option Rz) => ∀ (s0_26 : Nat) (m26 : Mem), f9 s0_26 m26 = some r → AW l D base sc RX6 yX6_held cX6_held 2 (some (FieldType.object "UppityGames$Game")) 0 0 0 ad (E mi) (pG E r) 0 0 (E m26) 26 [] [rv s0_26]) (fun s0_26 m26 H => ?_) (fun j26 hj26 H => ?_) H
  · -- 26
    exact cx_aret (pc := 26) ⟨_, rfl, Or.inl ⟨_, rfl⟩⟩ (Nat.le_of_ble_eq_true rfl) (Nat.le_of_ble_eq_true rfl) dX6_held_26 H
  refine jn_ind (fun (f9 : Mem → Option Rz) => ∀ (m22 : Mem), f9 m22 = some r → AW l D base sc RX6 yX6_held cX6_held 2 (some (FieldType.object "UppityGames$Game")) 0 0 0 ad (E mi) (pG E r) 0 0 (E m22) 22 [(0, .ref 45)] []) (fun m22 H => ?_) (fun j22 hj22 H => ?_) H
  · -- 22
    refine aw_aload_n (pc := 22) dX6_held_22 rfl ?_
    refine cx_gtG (pc := 23) hE r45 fl_X6_27 rfl rfl (Nat.le_of_ble_eq_true rfl) dX6_held_23 H (fun x23 H => ?_)
    exact AW.sel [] rfl (hj26 _ _ H)
  refine cx_if_lt (pc := 1) 22 hp1 dX6_held_1 rfl H (fun H => ?_) (fun H => ?_)
  · -- 1: 22
    exact AW.sel [0] rfl (hj22 _ H)
  · -- 1: 4
    refine aw_iload_n (pc := 4) dX6_held_4 rfl ?_
    refine aw_aload_n (pc := 5) dX6_held_5 rfl ?_
    refine cx_gtC (pc := 6) 46 hE r45 fl_X6_11 rfl rfl (Nat.le_of_ble_eq_true rfl) dX6_held_6 ?_
    refine cx_lenC (pc := 9) (c := 8) hE r46 (fun _ => ⟨_, _, rfl, rfl⟩) dX6_held_9 ?_
    refine cx_icmp_ge (pc := 10) 22 hp1 (inR_lit _ rfl) dX6_held_10 rfl H (fun H => ?_) (fun H => ?_)
    · -- 10: 13
      refine aw_aload_n (pc := 13) dX6_held_13 rfl ?_
      refine cx_gtC (pc := 14) 46 hE r45 fl_X6_11 rfl rfl (Nat.le_of_ble_eq_true rfl) dX6_held_14 ?_
      refine aw_iload_n (pc := 17) dX6_held_17 rfl ?_
      refine cx_ldG (pc := 18) hE r46 hp1 dX6_held_18 H (fun x18 H => ?_)
      refine aw_goto (pc := 19) 26 dX6_held_19 rfl ?_
      exact AW.sel [] rfl (hj26 _ _ H)
    · -- 10: 22
      exact AW.sel [0] rfl (hj22 _ H)
/-- X6 hold (ILUppityGames$Game;)V -/
def f_X6_hold (n : Nat) (p1 : Int) (p2 : Nat) (mi : Mem) : Option Rz :=
  jn (fun (m13 : Mem) =>
    rt 0 m13
  ) fun (j13 : Mem → Option Rz) =>
  if p1 < 0 then (
    j13 mi
  ) else
  if p1 < 8 then (
    gtF mi 45 5 fun x15 =>
    jn (fun (m71 : Mem) =>
      gtF m71 45 5 fun x72 =>
      jn (fun (m113 : Mem) =>
        stG m113 46 p1 p2 fun m119 =>
        rt 0 m119
      ) fun (j113 : Mem → Option Rz) =>
      if x72 < 0 then (
        j113 m71
      ) else
      gtF m71 45 5 fun x83 =>
      stI m71 47 x83 p1 fun m87 =>
      gtF m87 45 5 fun x93 =>
      ldG m87 46 p1 fun x101 =>
      stG m87 48 x93 x101 fun m102 =>
      gtF m102 45 5 fun x105 =>
      ptF m102 45 5 (w32 (x105 + 1)) fun m110 =>
      j113 m110
    ) fun (j71 : Mem → Option Rz) =>
    if x15 < 8 then (
      j71 mi
    ) else
    lp (F := Int → Mem → Option Rz) (fun _ _ => none) (fun w25 v3_25 m25 =>
      if v3_25 < 8 then (
        ldI m25 47 v3_25 fun x43 =>
        stI m25 47 (w32 (v3_25 - 1)) x43 fun m44 =>
        ldG m44 48 v3_25 fun x57 =>
        stG m44 48 (w32 (v3_25 - 1)) x57 fun m58 =>
        w25 (w32 (v3_25 + 1)) m58
      ) else
      ptF m25 45 5 7 fun m68 =>
      j71 m68
    ) n 1 mi
  ) else
  j13 mi
set_option maxRecDepth 100000 in
set_option maxHeartbeats 4000000 in
theorem s_X6_hold (l : Launch) (sc : g_S) (E : Mem → g_H) (R : Nat → Prop) (hE : LE E R) (hR : RCL R) (n : Nat)  (p1 : Int) (p2 : Nat) (hp1 : inR p1) (mi : Mem) (r : Rz) (H : f_X6_hold n p1 p2 mi = some r) : AMet l sc yX6_hold cX6_hold 4 none 0 0 0 [.ref 45, iv p1, rv p2] (E mi) (pV E r) := by
  have r45 : R 45 := hR.1 45 (Nat.le_of_ble_eq_true rfl) (Nat.le_of_ble_eq_true rfl)
  have r46 : R 46 := hR.1 46 (Nat.le_of_ble_eq_true rfl) (Nat.le_of_ble_eq_true rfl)
  have r47 : R 47 := hR.1 47 (Nat.le_of_ble_eq_true rfl) (Nat.le_of_ble_eq_true rfl)
  have r48 : R 48 := hR.1 48 (Nat.le_of_ble_eq_true rfl) (Nat.le_of_ble_eq_true rfl)
  unfold f_X6_hold at H
  refine AMet.of (own := RX6) (by decide +kernel) rfl (by rcases rv_or p2 with ep2 | ⟨_, ep2⟩ <;> simp only [ep2] <;> exact Nat.le_of_ble_eq_true rfl) [(0, .ref 45), (1, iv p1), (2, rv p2)] (by rcases rv_or p2 with ep2 | ⟨_, ep2⟩ <;> simp only [ep2] <;> rfl) (fun D base ad => ?_)
  refine aw_iload_n (pc := 0) dX6_hold_0 rfl ?_
  refine jn_ind (fun (f9 : Mem → Option Rz) => ∀ (m13 : Mem), f9 m13 = some r → AW l D base sc RX6 yX6_hold cX6_hold 4 none 0 0 0 ad (E mi) (pV E r) 0 0 (E m13) 13 [] []) (fun m13 H => ?_) (fun j13 hj13 H => ?_) H
  · -- 13
    exact cx_vret (pc := 13) rfl (Nat.le_of_ble_eq_true rfl) (Nat.le_of_ble_eq_true rfl) dX6_hold_13 H
  refine cx_if_lt (pc := 1) 13 hp1 dX6_hold_1 rfl H (fun H => ?_) (fun H => ?_)
  · -- 1: 13
    exact AW.sel [] rfl (hj13 _ H)
  · -- 1: 4
    refine aw_iload_n (pc := 4) dX6_hold_4 rfl ?_
    refine aw_aload_n (pc := 5) dX6_hold_5 rfl ?_
    refine cx_gtC (pc := 6) 46 hE r45 fl_X6_11 rfl rfl (Nat.le_of_ble_eq_true rfl) dX6_hold_6 ?_
    refine cx_lenC (pc := 9) (c := 8) hE r46 (fun _ => ⟨_, _, rfl, rfl⟩) dX6_hold_9 ?_
    refine cx_icmp_lt (pc := 10) 14 hp1 (inR_lit _ rfl) dX6_hold_10 rfl H (fun H => ?_) (fun H => ?_)
    · -- 10: 14
      refine aw_aload_n (pc := 14) dX6_hold_14 rfl ?_
      refine cx_gtF (pc := 15) hE r45 fl_X6_31 rfl rfl (Nat.le_of_ble_eq_true rfl) dX6_hold_15 H (fun x15 hx15 H => ?_)
      refine cx_bipush (pc := 18) dX6_hold_18 (by decide) ?_
      refine jn_ind (fun (f9 : Mem → Option Rz) => ∀ (m71 : Mem), f9 m71 = some r → AW l D base sc RX6 yX6_hold cX6_hold 4 none 0 0 0 ad (E mi) (pV E r) 0 0 (E m71) 71 [(0, .ref 45), (1, iv p1), (2, rv p2)] []) (fun m71 H => ?_) (fun j71 hj71 H => ?_) H
      · -- 71
        refine aw_aload_n (pc := 71) dX6_hold_71 rfl ?_
        refine cx_gtF (pc := 72) hE r45 fl_X6_31 rfl rfl (Nat.le_of_ble_eq_true rfl) dX6_hold_72 H (fun x72 hx72 H => ?_)
        refine jn_ind (fun (f9 : Mem → Option Rz) => ∀ (m113 : Mem), f9 m113 = some r → AW l D base sc RX6 yX6_hold cX6_hold 4 none 0 0 0 ad (E mi) (pV E r) 0 0 (E m113) 113 [(0, .ref 45), (1, iv p1), (2, rv p2)] []) (fun m113 H => ?_) (fun j113 hj113 H => ?_) H
        · -- 113
          refine aw_aload_n (pc := 113) dX6_hold_113 rfl ?_
          refine cx_gtC (pc := 114) 46 hE r45 fl_X6_11 rfl rfl (Nat.le_of_ble_eq_true rfl) dX6_hold_114 ?_
          refine aw_iload_n (pc := 117) dX6_hold_117 rfl ?_
          refine cx_aload_n (pc := 118) dX6_hold_118 rfl ?_
          refine cx_stG (pc := 119) hE r46 hR.d hp1 dX6_hold_119 H (fun m119 H => ?_)
          exact cx_vret (pc := 120) rfl (Nat.le_of_ble_eq_true rfl) (Nat.le_of_ble_eq_true rfl) dX6_hold_120 H
        refine cx_if_lt (pc := 75) 113 hx72 dX6_hold_75 rfl H (fun H => ?_) (fun H => ?_)
        · -- 75: 113
          exact AW.sel [0, 1, 2] rfl (hj113 _ H)
        · -- 75: 78
          refine aw_aload_n (pc := 78) dX6_hold_78 rfl ?_
          refine cx_gtC (pc := 79) 47 hE r45 fl_X6_17 rfl rfl (Nat.le_of_ble_eq_true rfl) dX6_hold_79 ?_
          refine aw_aload_n (pc := 82) dX6_hold_82 rfl ?_
          refine cx_gtF (pc := 83) hE r45 fl_X6_31 rfl rfl (Nat.le_of_ble_eq_true rfl) dX6_hold_83 H (fun x83 hx83 H => ?_)
          refine aw_iload_n (pc := 86) dX6_hold_86 rfl ?_
          refine cx_stI (pc := 87) hE r47 hx83 dX6_hold_87 H (fun m87 H => ?_)
          refine aw_aload_n (pc := 88) dX6_hold_88 rfl ?_
          refine cx_gtC (pc := 89) 48 hE r45 fl_X6_21 rfl rfl (Nat.le_of_ble_eq_true rfl) dX6_hold_89 ?_
          refine aw_aload_n (pc := 92) dX6_hold_92 rfl ?_
          refine cx_gtF (pc := 93) hE r45 fl_X6_31 rfl rfl (Nat.le_of_ble_eq_true rfl) dX6_hold_93 H (fun x93 hx93 H => ?_)
          refine aw_aload_n (pc := 96) dX6_hold_96 rfl ?_
          refine cx_gtC (pc := 97) 46 hE r45 fl_X6_11 rfl rfl (Nat.le_of_ble_eq_true rfl) dX6_hold_97 ?_
          refine aw_iload_n (pc := 100) dX6_hold_100 rfl ?_
          refine cx_ldG (pc := 101) hE r46 hp1 dX6_hold_101 H (fun x101 H => ?_)
          refine cx_stG (pc := 102) hE r48 hR.d hx93 dX6_hold_102 H (fun m102 H => ?_)
          refine aw_aload_n (pc := 103) dX6_hold_103 rfl ?_
          refine aw_dup (pc := 104) dX6_hold_104 rfl ?_
          refine cx_gtF (pc := 105) hE r45 fl_X6_31 rfl rfl (Nat.le_of_ble_eq_true rfl) dX6_hold_105 H (fun x105 hx105 H => ?_)
          refine cx_iconst (pc := 108) dX6_hold_108 ?_
          refine cx_iadd (pc := 109) dX6_hold_109 ?_
          refine cx_ptF (pc := 110) tyX6 hE r45 fl_X6_31 (fun r h => ⟨gty_X6 r h, by cases h; rfl⟩) rfl rfl rfl (Nat.le_of_ble_eq_true rfl) dX6_hold_110 H (fun m110 H => ?_)
          exact AW.sel [0, 1, 2] rfl (hj113 _ H)
      refine cx_icmp_lt (pc := 20) 71 hx15 (inR_lit _ rfl) dX6_hold_20 rfl H (fun H => ?_) (fun H => ?_)
      · -- 20: 71
        exact AW.sel [0, 1, 2] rfl (hj71 _ H)
      · -- 20: 23
        refine cx_iconst (pc := 23) dX6_hold_23 ?_
        refine aw_istore_n (pc := 24) [(3, iv 1), (0, .ref 45), (1, iv p1), (2, rv p2)] dX6_hold_24 (by unfold g_st1; simp only [List.filter, rv_cat]; rfl) (by decide) ?_
        refine AW.sel [1, 2, 3, 0] rfl (lp_ind (bot := fun _ _ => none) (fun (f9 : Int → Mem → Option Rz) => ∀ (v3_25 : Int) (m25 : Mem), inR v3_25 → f9 v3_25 m25 = some r → AW l D base sc RX6 yX6_hold cX6_hold 4 none 0 0 0 ad (E mi) (pV E r) 0 0 (E m25) 25 [(0, .ref 45), (1, iv p1), (2, rv p2), (3, iv v3_25)] []) (fun _ _ _ h9 => nomatch h9) (fun w25 ih25 v3_25 m25 hv3_25 H => ?_) n _ _ (inR_lit _ rfl) H)
        refine aw_iload_n (pc := 25) dX6_hold_25 rfl ?_
        refine cx_bipush (pc := 26) dX6_hold_26 (by decide) ?_
        refine cx_icmp_ge (pc := 28) 65 hv3_25 (inR_lit _ rfl) dX6_hold_28 rfl H (fun H => ?_) (fun H => ?_)
        · -- 28: 31
          refine aw_aload_n (pc := 31) dX6_hold_31 rfl ?_
          refine cx_gtC (pc := 32) 47 hE r45 fl_X6_17 rfl rfl (Nat.le_of_ble_eq_true rfl) dX6_hold_32 ?_
          refine aw_iload_n (pc := 35) dX6_hold_35 rfl ?_
          refine cx_iconst (pc := 36) dX6_hold_36 ?_
          refine cx_isub (pc := 37) dX6_hold_37 ?_
          refine aw_aload_n (pc := 38) dX6_hold_38 rfl ?_
          refine cx_gtC (pc := 39) 47 hE r45 fl_X6_17 rfl rfl (Nat.le_of_ble_eq_true rfl) dX6_hold_39 ?_
          refine aw_iload_n (pc := 42) dX6_hold_42 rfl ?_
          refine cx_ldI (pc := 43) hE r47 hv3_25 dX6_hold_43 H (fun x43 hx43 H => ?_)
          refine cx_stI (pc := 44) hE r47 (inR_w32 _) dX6_hold_44 H (fun m44 H => ?_)
          refine aw_aload_n (pc := 45) dX6_hold_45 rfl ?_
          refine cx_gtC (pc := 46) 48 hE r45 fl_X6_21 rfl rfl (Nat.le_of_ble_eq_true rfl) dX6_hold_46 ?_
          refine aw_iload_n (pc := 49) dX6_hold_49 rfl ?_
          refine cx_iconst (pc := 50) dX6_hold_50 ?_
          refine cx_isub (pc := 51) dX6_hold_51 ?_
          refine aw_aload_n (pc := 52) dX6_hold_52 rfl ?_
          refine cx_gtC (pc := 53) 48 hE r45 fl_X6_21 rfl rfl (Nat.le_of_ble_eq_true rfl) dX6_hold_53 ?_
          refine aw_iload_n (pc := 56) dX6_hold_56 rfl ?_
          refine cx_ldG (pc := 57) hE r48 hv3_25 dX6_hold_57 H (fun x57 H => ?_)
          refine cx_stG (pc := 58) hE r48 hR.d (inR_w32 _) dX6_hold_58 H (fun m58 H => ?_)
          refine cx_iinc (pc := 59) [(3, iv (w32 (v3_25 + 1))), (0, .ref 45), (1, iv p1), (2, rv p2)] dX6_hold_59 rfl (by unfold g_st1; simp only [List.filter, rv_cat]; rfl) (by decide) ?_
          refine aw_goto (pc := 62) 25 dX6_hold_62 rfl ?_
          exact AW.sel [1, 2, 3, 0] rfl (ih25 _ _ (inR_w32 _) H)
        · -- 28: 65
          refine aw_aload_n (pc := 65) dX6_hold_65 rfl ?_
          refine cx_bipush (pc := 66) dX6_hold_66 (by decide) ?_
          refine cx_ptF (pc := 68) tyX6 hE r45 fl_X6_31 (fun r h => ⟨gty_X6 r h, by cases h; rfl⟩) rfl rfl rfl (Nat.le_of_ble_eq_true rfl) dX6_hold_68 H (fun m68 H => ?_)
          exact AW.sel [0, 1, 2] rfl (hj71 _ H)
    · -- 10: 13
      exact AW.sel [] rfl (hj13 _ H)
theorem dX2_addIf_0 : decode cX2_addIf 0 = .ok (.aload_n 1, 1) := by decide +kernel
theorem dX2_addIf_1 : decode cX2_addIf 1 = .ok (.iload_n 2, 1) := by decide +kernel
theorem dX2_addIf_2 : decode cX2_addIf 2 = .ok (.iconst 0, 1) := by decide +kernel
theorem dX2_addIf_3 : decode cX2_addIf 3 = .ok (.invokevirtual 106, 3) := by decide +kernel
theorem dX2_addIf_6 : decode cX2_addIf 6 = .ok (.iload_n 3, 1) := by decide +kernel
theorem dX2_addIf_7 : decode cX2_addIf 7 = .ok (.ishr, 1) := by decide +kernel
theorem dX2_addIf_8 : decode cX2_addIf 8 = .ok (.iconst 1, 1) := by decide +kernel
theorem dX2_addIf_9 : decode cX2_addIf 9 = .ok (.iand, 1) := by decide +kernel
theorem dX2_addIf_10 : decode cX2_addIf 10 = .ok (.ifCond .eq 12, 3) := by decide +kernel
theorem dX2_addIf_13 : decode cX2_addIf 13 = .ok (.aload_n 0, 1) := by decide +kernel
theorem dX2_addIf_14 : decode cX2_addIf 14 = .ok (.getfield 26, 3) := by decide +kernel
theorem dX2_addIf_17 : decode cX2_addIf 17 = .ok (.iload 4, 2) := by decide +kernel
theorem dX2_addIf_19 : decode cX2_addIf 19 = .ok (.invokevirtual 56, 3) := by decide +kernel
theorem dX2_addIf_22 : decode cX2_addIf 22 = .ok (.aload_n 1, 1) := by decide +kernel
theorem dX2_addIf_23 : decode cX2_addIf 23 = .ok (.iload_n 2, 1) := by decide +kernel
theorem dX2_addIf_24 : decode cX2_addIf 24 = .ok (.iconst 1, 1) := by decide +kernel
theorem dX2_addIf_25 : decode cX2_addIf 25 = .ok (.invokevirtual 106, 3) := by decide +kernel
theorem dX2_addIf_28 : decode cX2_addIf 28 = .ok (.iload_n 3, 1) := by decide +kernel
theorem dX2_addIf_29 : decode cX2_addIf 29 = .ok (.ishr, 1) := by decide +kernel
theorem dX2_addIf_30 : decode cX2_addIf 30 = .ok (.iconst 1, 1) := by decide +kernel
theorem dX2_addIf_31 : decode cX2_addIf 31 = .ok (.iand, 1) := by decide +kernel
theorem dX2_addIf_32 : decode cX2_addIf 32 = .ok (.ifCond .eq 12, 3) := by decide +kernel
theorem dX2_addIf_35 : decode cX2_addIf 35 = .ok (.aload_n 0, 1) := by decide +kernel
theorem dX2_addIf_36 : decode cX2_addIf 36 = .ok (.getfield 26, 3) := by decide +kernel
theorem dX2_addIf_39 : decode cX2_addIf 39 = .ok (.iload 4, 2) := by decide +kernel
theorem dX2_addIf_41 : decode cX2_addIf 41 = .ok (.invokevirtual 60, 3) := by decide +kernel
theorem dX2_addIf_44 : decode cX2_addIf 44 = .ok (.return_, 1) := by decide +kernel
theorem dX2_beginHeap_0 : decode cX2_beginHeap 0 = .ok (.aload_n 0, 1) := by decide +kernel
theorem dX2_beginHeap_1 : decode cX2_beginHeap 1 = .ok (.getfield 26, 3) := by decide +kernel
theorem dX2_beginHeap_4 : decode cX2_beginHeap 4 = .ok (.invokevirtual 53, 3) := by decide +kernel
theorem dX2_beginHeap_7 : decode cX2_beginHeap 7 = .ok (.iconst 0, 1) := by decide +kernel
theorem dX2_beginHeap_8 : decode cX2_beginHeap 8 = .ok (.istore_n 2, 1) := by decide +kernel
theorem dX2_beginHeap_9 : decode cX2_beginHeap 9 = .ok (.iload_n 2, 1) := by decide +kernel
theorem dX2_beginHeap_10 : decode cX2_beginHeap 10 = .ok (.iload_n 1, 1) := by decide +kernel
theorem dX2_beginHeap_11 : decode cX2_beginHeap 11 = .ok (.if_icmp .ge 44, 3) := by decide +kernel
theorem dX2_beginHeap_14 : decode cX2_beginHeap 14 = .ok (.iload_n 2, 1) := by decide +kernel
theorem dX2_beginHeap_15 : decode cX2_beginHeap 15 = .ok (.aload_n 0, 1) := by decide +kernel
theorem dX2_beginHeap_16 : decode cX2_beginHeap 16 = .ok (.getfield 18, 3) := by decide +kernel
theorem dX2_beginHeap_19 : decode cX2_beginHeap 19 = .ok (.arraylength, 1) := by decide +kernel
theorem dX2_beginHeap_20 : decode cX2_beginHeap 20 = .ok (.if_icmp .ge 35, 3) := by decide +kernel
theorem dX2_beginHeap_23 : decode cX2_beginHeap 23 = .ok (.aload_n 0, 1) := by decide +kernel
theorem dX2_beginHeap_24 : decode cX2_beginHeap 24 = .ok (.getfield 26, 3) := by decide +kernel
theorem dX2_beginHeap_27 : decode cX2_beginHeap 27 = .ok (.aload_n 0, 1) := by decide +kernel
theorem dX2_beginHeap_28 : decode cX2_beginHeap 28 = .ok (.getfield 18, 3) := by decide +kernel
theorem dX2_beginHeap_31 : decode cX2_beginHeap 31 = .ok (.iload_n 2, 1) := by decide +kernel
theorem dX2_beginHeap_32 : decode cX2_beginHeap 32 = .ok (.iaload, 1) := by decide +kernel
theorem dX2_beginHeap_33 : decode cX2_beginHeap 33 = .ok (.invokevirtual 56, 3) := by decide +kernel
theorem dX2_beginHeap_36 : decode cX2_beginHeap 36 = .ok (.aload_n 0, 1) := by decide +kernel
theorem dX2_beginHeap_37 : decode cX2_beginHeap 37 = .ok (.getfield 26, 3) := by decide +kernel
theorem dX2_beginHeap_40 : decode cX2_beginHeap 40 = .ok (.aload_n 0, 1) := by decide +kernel
theorem dX2_beginHeap_41 : decode cX2_beginHeap 41 = .ok (.getfield 18, 3) := by decide +kernel
theorem dX2_beginHeap_44 : decode cX2_beginHeap 44 = .ok (.iload_n 2, 1) := by decide +kernel
theorem dX2_beginHeap_45 : decode cX2_beginHeap 45 = .ok (.iaload, 1) := by decide +kernel
theorem dX2_beginHeap_46 : decode cX2_beginHeap 46 = .ok (.invokevirtual 60, 3) := by decide +kernel
theorem dX2_beginHeap_49 : decode cX2_beginHeap 49 = .ok (.iinc 2 1, 3) := by decide +kernel
theorem dX2_beginHeap_52 : decode cX2_beginHeap 52 = .ok (.goto (-43), 3) := by decide +kernel
theorem dX2_beginHeap_55 : decode cX2_beginHeap 55 = .ok (.return_, 1) := by decide +kernel
theorem dX2_flowerOf_0 : decode cX2_flowerOf 0 = .ok (.aload_n 0, 1) := by decide +kernel
theorem dX2_flowerOf_1 : decode cX2_flowerOf 1 = .ok (.getfield 26, 3) := by decide +kernel
theorem dX2_flowerOf_4 : decode cX2_flowerOf 4 = .ok (.invokevirtual 34, 3) := by decide +kernel
theorem dX2_flowerOf_7 : decode cX2_flowerOf 7 = .ok (.aload_n 0, 1) := by decide +kernel
theorem dX2_flowerOf_8 : decode cX2_flowerOf 8 = .ok (.iload_n 1, 1) := by decide +kernel
theorem dX2_flowerOf_9 : decode cX2_flowerOf 9 = .ok (.invokevirtual 76, 3) := by decide +kernel
theorem dX2_flowerOf_12 : decode cX2_flowerOf 12 = .ok (.pop, 1) := by decide +kernel
theorem dX2_flowerOf_13 : decode cX2_flowerOf 13 = .ok (.iconst (-1), 1) := by decide +kernel
theorem dX2_flowerOf_14 : decode cX2_flowerOf 14 = .ok (.istore 4, 2) := by decide +kernel
theorem dX2_flowerOf_16 : decode cX2_flowerOf 16 = .ok (.iconst 0, 1) := by decide +kernel
theorem dX2_flowerOf_17 : decode cX2_flowerOf 17 = .ok (.istore 5, 2) := by decide +kernel
theorem dX2_flowerOf_19 : decode cX2_flowerOf 19 = .ok (.iload 5, 2) := by decide +kernel
theorem dX2_flowerOf_21 : decode cX2_flowerOf 21 = .ok (.iload_n 2, 1) := by decide +kernel
theorem dX2_flowerOf_22 : decode cX2_flowerOf 22 = .ok (.if_icmp .gt 121, 3) := by decide +kernel
theorem dX2_flowerOf_25 : decode cX2_flowerOf 25 = .ok (.iload 5, 2) := by decide +kernel
theorem dX2_flowerOf_27 : decode cX2_flowerOf 27 = .ok (.bipush 11, 2) := by decide +kernel
theorem dX2_flowerOf_29 : decode cX2_flowerOf 29 = .ok (.if_icmp .ge 114, 3) := by decide +kernel
theorem dX2_flowerOf_32 : decode cX2_flowerOf 32 = .ok (.iconst 0, 1) := by decide +kernel
theorem dX2_flowerOf_33 : decode cX2_flowerOf 33 = .ok (.istore 6, 2) := by decide +kernel
theorem dX2_flowerOf_35 : decode cX2_flowerOf 35 = .ok (.iload 6, 2) := by decide +kernel
theorem dX2_flowerOf_37 : decode cX2_flowerOf 37 = .ok (.iload_n 3, 1) := by decide +kernel
theorem dX2_flowerOf_38 : decode cX2_flowerOf 38 = .ok (.if_icmp .gt 99, 3) := by decide +kernel
theorem dX2_flowerOf_41 : decode cX2_flowerOf 41 = .ok (.iload 6, 2) := by decide +kernel
theorem dX2_flowerOf_43 : decode cX2_flowerOf 43 = .ok (.bipush 11, 2) := by decide +kernel
theorem dX2_flowerOf_45 : decode cX2_flowerOf 45 = .ok (.if_icmp .ge 92, 3) := by decide +kernel
theorem dX2_flowerOf_48 : decode cX2_flowerOf 48 = .ok (.aload_n 0, 1) := by decide +kernel
theorem dX2_flowerOf_49 : decode cX2_flowerOf 49 = .ok (.iload_n 1, 1) := by decide +kernel
theorem dX2_flowerOf_50 : decode cX2_flowerOf 50 = .ok (.invokevirtual 79, 3) := by decide +kernel
theorem dX2_flowerOf_53 : decode cX2_flowerOf 53 = .ok (.iload 5, 2) := by decide +kernel
theorem dX2_flowerOf_55 : decode cX2_flowerOf 55 = .ok (.ifCond .le 25, 3) := by decide +kernel
theorem dX2_flowerOf_58 : decode cX2_flowerOf 58 = .ok (.aload_n 0, 1) := by decide +kernel
theorem dX2_flowerOf_59 : decode cX2_flowerOf 59 = .ok (.getfield 26, 3) := by decide +kernel
theorem dX2_flowerOf_62 : decode cX2_flowerOf 62 = .ok (.aload_n 0, 1) := by decide +kernel
theorem dX2_flowerOf_63 : decode cX2_flowerOf 63 = .ok (.getfield 15, 3) := by decide +kernel
theorem dX2_flowerOf_66 : decode cX2_flowerOf 66 = .ok (.iload 5, 2) := by decide +kernel
theorem dX2_flowerOf_68 : decode cX2_flowerOf 68 = .ok (.iconst 1, 1) := by decide +kernel
theorem dX2_flowerOf_69 : decode cX2_flowerOf 69 = .ok (.isub, 1) := by decide +kernel
theorem dX2_flowerOf_70 : decode cX2_flowerOf 70 = .ok (.bipush 11, 2) := by decide +kernel
theorem dX2_flowerOf_72 : decode cX2_flowerOf 72 = .ok (.imul, 1) := by decide +kernel
theorem dX2_flowerOf_73 : decode cX2_flowerOf 73 = .ok (.iload 6, 2) := by decide +kernel
theorem dX2_flowerOf_75 : decode cX2_flowerOf 75 = .ok (.iadd, 1) := by decide +kernel
theorem dX2_flowerOf_76 : decode cX2_flowerOf 76 = .ok (.iaload, 1) := by decide +kernel
theorem dX2_flowerOf_77 : decode cX2_flowerOf 77 = .ok (.invokevirtual 56, 3) := by decide +kernel
theorem dX2_flowerOf_80 : decode cX2_flowerOf 80 = .ok (.iload 6, 2) := by decide +kernel
theorem dX2_flowerOf_82 : decode cX2_flowerOf 82 = .ok (.ifCond .le 25, 3) := by decide +kernel
theorem dX2_flowerOf_85 : decode cX2_flowerOf 85 = .ok (.aload_n 0, 1) := by decide +kernel
theorem dX2_flowerOf_86 : decode cX2_flowerOf 86 = .ok (.getfield 26, 3) := by decide +kernel
theorem dX2_flowerOf_89 : decode cX2_flowerOf 89 = .ok (.aload_n 0, 1) := by decide +kernel
theorem dX2_flowerOf_90 : decode cX2_flowerOf 90 = .ok (.getfield 15, 3) := by decide +kernel
theorem dX2_flowerOf_93 : decode cX2_flowerOf 93 = .ok (.iload 5, 2) := by decide +kernel
theorem dX2_flowerOf_95 : decode cX2_flowerOf 95 = .ok (.bipush 11, 2) := by decide +kernel
theorem dX2_flowerOf_97 : decode cX2_flowerOf 97 = .ok (.imul, 1) := by decide +kernel
theorem dX2_flowerOf_98 : decode cX2_flowerOf 98 = .ok (.iload 6, 2) := by decide +kernel
theorem dX2_flowerOf_100 : decode cX2_flowerOf 100 = .ok (.iadd, 1) := by decide +kernel
theorem dX2_flowerOf_101 : decode cX2_flowerOf 101 = .ok (.iconst 1, 1) := by decide +kernel
theorem dX2_flowerOf_102 : decode cX2_flowerOf 102 = .ok (.isub, 1) := by decide +kernel
theorem dX2_flowerOf_103 : decode cX2_flowerOf 103 = .ok (.iaload, 1) := by decide +kernel
theorem dX2_flowerOf_104 : decode cX2_flowerOf 104 = .ok (.invokevirtual 60, 3) := by decide +kernel
theorem dX2_flowerOf_107 : decode cX2_flowerOf 107 = .ok (.aload_n 0, 1) := by decide +kernel
theorem dX2_flowerOf_108 : decode cX2_flowerOf 108 = .ok (.getfield 26, 3) := by decide +kernel
theorem dX2_flowerOf_111 : decode cX2_flowerOf 111 = .ok (.invokevirtual 63, 3) := by decide +kernel
theorem dX2_flowerOf_114 : decode cX2_flowerOf 114 = .ok (.istore 4, 2) := by decide +kernel
theorem dX2_flowerOf_116 : decode cX2_flowerOf 116 = .ok (.aload_n 0, 1) := by decide +kernel
theorem dX2_flowerOf_117 : decode cX2_flowerOf 117 = .ok (.getfield 15, 3) := by decide +kernel
theorem dX2_flowerOf_120 : decode cX2_flowerOf 120 = .ok (.iload 5, 2) := by decide +kernel
theorem dX2_flowerOf_122 : decode cX2_flowerOf 122 = .ok (.bipush 11, 2) := by decide +kernel
theorem dX2_flowerOf_124 : decode cX2_flowerOf 124 = .ok (.imul, 1) := by decide +kernel
theorem dX2_flowerOf_125 : decode cX2_flowerOf 125 = .ok (.iload 6, 2) := by decide +kernel
theorem dX2_flowerOf_127 : decode cX2_flowerOf 127 = .ok (.iadd, 1) := by decide +kernel
theorem dX2_flowerOf_128 : decode cX2_flowerOf 128 = .ok (.iload 4, 2) := by decide +kernel
theorem dX2_flowerOf_130 : decode cX2_flowerOf 130 = .ok (.iastore, 1) := by decide +kernel
theorem dX2_flowerOf_131 : decode cX2_flowerOf 131 = .ok (.iinc 6 1, 3) := by decide +kernel
theorem dX2_flowerOf_134 : decode cX2_flowerOf 134 = .ok (.goto (-99), 3) := by decide +kernel
theorem dX2_flowerOf_137 : decode cX2_flowerOf 137 = .ok (.iinc 5 1, 3) := by decide +kernel
theorem dX2_flowerOf_140 : decode cX2_flowerOf 140 = .ok (.goto (-121), 3) := by decide +kernel
theorem dX2_flowerOf_143 : decode cX2_flowerOf 143 = .ok (.aload_n 0, 1) := by decide +kernel
theorem dX2_flowerOf_144 : decode cX2_flowerOf 144 = .ok (.getfield 30, 3) := by decide +kernel
theorem dX2_flowerOf_147 : decode cX2_flowerOf 147 = .ok (.iload 4, 2) := by decide +kernel
theorem dX2_flowerOf_149 : decode cX2_flowerOf 149 = .ok (.invokevirtual 43, 3) := by decide +kernel
theorem dX2_flowerOf_152 : decode cX2_flowerOf 152 = .ok (.areturn, 1) := by decide +kernel
theorem dX2_followerOf_0 : decode cX2_followerOf 0 = .ok (.aload_n 0, 1) := by decide +kernel
theorem dX2_followerOf_1 : decode cX2_followerOf 1 = .ok (.getfield 26, 3) := by decide +kernel
theorem dX2_followerOf_4 : decode cX2_followerOf 4 = .ok (.invokevirtual 34, 3) := by decide +kernel
theorem dX2_followerOf_7 : decode cX2_followerOf 7 = .ok (.aload_n 0, 1) := by decide +kernel
theorem dX2_followerOf_8 : decode cX2_followerOf 8 = .ok (.aload_n 1, 1) := by decide +kernel
theorem dX2_followerOf_9 : decode cX2_followerOf 9 = .ok (.iconst 0, 1) := by decide +kernel
theorem dX2_followerOf_10 : decode cX2_followerOf 10 = .ok (.invokevirtual 93, 3) := by decide +kernel
theorem dX2_followerOf_13 : decode cX2_followerOf 13 = .ok (.pop, 1) := by decide +kernel
theorem dX2_followerOf_14 : decode cX2_followerOf 14 = .ok (.iload_n 2, 1) := by decide +kernel
theorem dX2_followerOf_15 : decode cX2_followerOf 15 = .ok (.ifCond .lt 28, 3) := by decide +kernel
theorem dX2_followerOf_18 : decode cX2_followerOf 18 = .ok (.iload_n 2, 1) := by decide +kernel
theorem dX2_followerOf_19 : decode cX2_followerOf 19 = .ok (.aload_n 0, 1) := by decide +kernel
theorem dX2_followerOf_20 : decode cX2_followerOf 20 = .ok (.getfield 11, 3) := by decide +kernel
theorem dX2_followerOf_23 : decode cX2_followerOf 23 = .ok (.arraylength, 1) := by decide +kernel
theorem dX2_followerOf_24 : decode cX2_followerOf 24 = .ok (.if_icmp .ge 19, 3) := by decide +kernel
theorem dX2_followerOf_27 : decode cX2_followerOf 27 = .ok (.aload_n 0, 1) := by decide +kernel
theorem dX2_followerOf_28 : decode cX2_followerOf 28 = .ok (.getfield 30, 3) := by decide +kernel
theorem dX2_followerOf_31 : decode cX2_followerOf 31 = .ok (.aload_n 0, 1) := by decide +kernel
theorem dX2_followerOf_32 : decode cX2_followerOf 32 = .ok (.getfield 11, 3) := by decide +kernel
theorem dX2_followerOf_35 : decode cX2_followerOf 35 = .ok (.iload_n 2, 1) := by decide +kernel
theorem dX2_followerOf_36 : decode cX2_followerOf 36 = .ok (.iaload, 1) := by decide +kernel
theorem dX2_followerOf_37 : decode cX2_followerOf 37 = .ok (.invokevirtual 43, 3) := by decide +kernel
theorem dX2_followerOf_40 : decode cX2_followerOf 40 = .ok (.goto 4, 3) := by decide +kernel
theorem dX2_followerOf_43 : decode cX2_followerOf 43 = .ok (.aconst_null, 1) := by decide +kernel
theorem dX2_followerOf_44 : decode cX2_followerOf 44 = .ok (.areturn, 1) := by decide +kernel
theorem dX2_gameOf_0 : decode cX2_gameOf 0 = .ok (.iload_n 2, 1) := by decide +kernel
theorem dX2_gameOf_1 : decode cX2_gameOf 1 = .ok (.ifCond .lt 22, 3) := by decide +kernel
theorem dX2_gameOf_4 : decode cX2_gameOf 4 = .ok (.iload 4, 2) := by decide +kernel
theorem dX2_gameOf_6 : decode cX2_gameOf 6 = .ok (.aload_n 1, 1) := by decide +kernel
theorem dX2_gameOf_7 : decode cX2_gameOf 7 = .ok (.arraylength, 1) := by decide +kernel
theorem dX2_gameOf_8 : decode cX2_gameOf 8 = .ok (.if_icmp .gt 15, 3) := by decide +kernel
theorem dX2_gameOf_11 : decode cX2_gameOf 11 = .ok (.iload 4, 2) := by decide +kernel
theorem dX2_gameOf_13 : decode cX2_gameOf 13 = .ok (.iload_n 2, 1) := by decide +kernel
theorem dX2_gameOf_14 : decode cX2_gameOf 14 = .ok (.isub, 1) := by decide +kernel
theorem dX2_gameOf_15 : decode cX2_gameOf 15 = .ok (.aload_n 0, 1) := by decide +kernel
theorem dX2_gameOf_16 : decode cX2_gameOf 16 = .ok (.getfield 23, 3) := by decide +kernel
theorem dX2_gameOf_19 : decode cX2_gameOf 19 = .ok (.arraylength, 1) := by decide +kernel
theorem dX2_gameOf_20 : decode cX2_gameOf 20 = .ok (.if_icmp .le 5, 3) := by decide +kernel
theorem dX2_gameOf_23 : decode cX2_gameOf 23 = .ok (.aconst_null, 1) := by decide +kernel
theorem dX2_gameOf_24 : decode cX2_gameOf 24 = .ok (.areturn, 1) := by decide +kernel
theorem dX2_gameOf_25 : decode cX2_gameOf 25 = .ok (.aload_n 0, 1) := by decide +kernel
theorem dX2_gameOf_26 : decode cX2_gameOf 26 = .ok (.getfield 26, 3) := by decide +kernel
theorem dX2_gameOf_29 : decode cX2_gameOf 29 = .ok (.invokevirtual 34, 3) := by decide +kernel
theorem dX2_gameOf_32 : decode cX2_gameOf 32 = .ok (.iload_n 2, 1) := by decide +kernel
theorem dX2_gameOf_33 : decode cX2_gameOf 33 = .ok (.istore 5, 2) := by decide +kernel
theorem dX2_gameOf_35 : decode cX2_gameOf 35 = .ok (.iload 5, 2) := by decide +kernel
theorem dX2_gameOf_37 : decode cX2_gameOf 37 = .ok (.iload 4, 2) := by decide +kernel
theorem dX2_gameOf_39 : decode cX2_gameOf 39 = .ok (.if_icmp .ge 27, 3) := by decide +kernel
theorem dX2_gameOf_42 : decode cX2_gameOf 42 = .ok (.aload_n 0, 1) := by decide +kernel
theorem dX2_gameOf_43 : decode cX2_gameOf 43 = .ok (.getfield 23, 3) := by decide +kernel
theorem dX2_gameOf_46 : decode cX2_gameOf 46 = .ok (.iload 5, 2) := by decide +kernel
theorem dX2_gameOf_48 : decode cX2_gameOf 48 = .ok (.iload_n 2, 1) := by decide +kernel
theorem dX2_gameOf_49 : decode cX2_gameOf 49 = .ok (.isub, 1) := by decide +kernel
theorem dX2_gameOf_50 : decode cX2_gameOf 50 = .ok (.aload_n 0, 1) := by decide +kernel
theorem dX2_gameOf_51 : decode cX2_gameOf 51 = .ok (.aload_n 1, 1) := by decide +kernel
theorem dX2_gameOf_52 : decode cX2_gameOf 52 = .ok (.iload 5, 2) := by decide +kernel
theorem dX2_gameOf_54 : decode cX2_gameOf 54 = .ok (.aaload, 1) := by decide +kernel
theorem dX2_gameOf_55 : decode cX2_gameOf 55 = .ok (.iconst 0, 1) := by decide +kernel
theorem dX2_gameOf_56 : decode cX2_gameOf 56 = .ok (.invokevirtual 93, 3) := by decide +kernel
theorem dX2_gameOf_59 : decode cX2_gameOf 59 = .ok (.iastore, 1) := by decide +kernel
theorem dX2_gameOf_60 : decode cX2_gameOf 60 = .ok (.iinc 5 1, 3) := by decide +kernel
theorem dX2_gameOf_63 : decode cX2_gameOf 63 = .ok (.goto (-28), 3) := by decide +kernel
theorem dX2_gameOf_66 : decode cX2_gameOf 66 = .ok (.aload_n 0, 1) := by decide +kernel
theorem dX2_gameOf_67 : decode cX2_gameOf 67 = .ok (.getfield 26, 3) := by decide +kernel
theorem dX2_gameOf_70 : decode cX2_gameOf 70 = .ok (.invokevirtual 53, 3) := by decide +kernel
theorem dX2_gameOf_73 : decode cX2_gameOf 73 = .ok (.iload_n 2, 1) := by decide +kernel
theorem dX2_gameOf_74 : decode cX2_gameOf 74 = .ok (.istore 5, 2) := by decide +kernel
theorem dX2_gameOf_76 : decode cX2_gameOf 76 = .ok (.iload 5, 2) := by decide +kernel
theorem dX2_gameOf_78 : decode cX2_gameOf 78 = .ok (.iload 4, 2) := by decide +kernel
theorem dX2_gameOf_80 : decode cX2_gameOf 80 = .ok (.if_icmp .ge 50, 3) := by decide +kernel
theorem dX2_gameOf_83 : decode cX2_gameOf 83 = .ok (.iload 5, 2) := by decide +kernel
theorem dX2_gameOf_85 : decode cX2_gameOf 85 = .ok (.iload_n 3, 1) := by decide +kernel
theorem dX2_gameOf_86 : decode cX2_gameOf 86 = .ok (.if_icmp .ge 22, 3) := by decide +kernel
theorem dX2_gameOf_89 : decode cX2_gameOf 89 = .ok (.aload_n 0, 1) := by decide +kernel
theorem dX2_gameOf_90 : decode cX2_gameOf 90 = .ok (.getfield 26, 3) := by decide +kernel
theorem dX2_gameOf_93 : decode cX2_gameOf 93 = .ok (.aload_n 0, 1) := by decide +kernel
theorem dX2_gameOf_94 : decode cX2_gameOf 94 = .ok (.getfield 23, 3) := by decide +kernel
theorem dX2_gameOf_97 : decode cX2_gameOf 97 = .ok (.iload 5, 2) := by decide +kernel
theorem dX2_gameOf_99 : decode cX2_gameOf 99 = .ok (.iload_n 2, 1) := by decide +kernel
theorem dX2_gameOf_100 : decode cX2_gameOf 100 = .ok (.isub, 1) := by decide +kernel
theorem dX2_gameOf_101 : decode cX2_gameOf 101 = .ok (.iaload, 1) := by decide +kernel
theorem dX2_gameOf_102 : decode cX2_gameOf 102 = .ok (.invokevirtual 56, 3) := by decide +kernel
theorem dX2_gameOf_105 : decode cX2_gameOf 105 = .ok (.goto 19, 3) := by decide +kernel
theorem dX2_gameOf_108 : decode cX2_gameOf 108 = .ok (.aload_n 0, 1) := by decide +kernel
theorem dX2_gameOf_109 : decode cX2_gameOf 109 = .ok (.getfield 26, 3) := by decide +kernel
theorem dX2_gameOf_112 : decode cX2_gameOf 112 = .ok (.aload_n 0, 1) := by decide +kernel
theorem dX2_gameOf_113 : decode cX2_gameOf 113 = .ok (.getfield 23, 3) := by decide +kernel
theorem dX2_gameOf_116 : decode cX2_gameOf 116 = .ok (.iload 5, 2) := by decide +kernel
theorem dX2_gameOf_118 : decode cX2_gameOf 118 = .ok (.iload_n 2, 1) := by decide +kernel
theorem dX2_gameOf_119 : decode cX2_gameOf 119 = .ok (.isub, 1) := by decide +kernel
theorem dX2_gameOf_120 : decode cX2_gameOf 120 = .ok (.iaload, 1) := by decide +kernel
theorem dX2_gameOf_121 : decode cX2_gameOf 121 = .ok (.invokevirtual 60, 3) := by decide +kernel
theorem dX2_gameOf_124 : decode cX2_gameOf 124 = .ok (.iinc 5 1, 3) := by decide +kernel
theorem dX2_gameOf_127 : decode cX2_gameOf 127 = .ok (.goto (-51), 3) := by decide +kernel
theorem dX2_gameOf_130 : decode cX2_gameOf 130 = .ok (.aload_n 0, 1) := by decide +kernel
theorem dX2_gameOf_131 : decode cX2_gameOf 131 = .ok (.getfield 30, 3) := by decide +kernel
theorem dX2_gameOf_134 : decode cX2_gameOf 134 = .ok (.aload_n 0, 1) := by decide +kernel
theorem dX2_gameOf_135 : decode cX2_gameOf 135 = .ok (.getfield 26, 3) := by decide +kernel
theorem dX2_gameOf_138 : decode cX2_gameOf 138 = .ok (.invokevirtual 63, 3) := by decide +kernel
theorem dX2_gameOf_141 : decode cX2_gameOf 141 = .ok (.invokevirtual 43, 3) := by decide +kernel
theorem dX2_gameOf_144 : decode cX2_gameOf 144 = .ok (.areturn, 1) := by decide +kernel
theorem dX2_heapNode_0 : decode cX2_heapNode 0 = .ok (.iconst 0, 1) := by decide +kernel
theorem dX2_heapNode_1 : decode cX2_heapNode 1 = .ok (.istore_n 2, 1) := by decide +kernel
theorem dX2_heapNode_2 : decode cX2_heapNode 2 = .ok (.iconst 0, 1) := by decide +kernel
theorem dX2_heapNode_3 : decode cX2_heapNode 3 = .ok (.istore_n 3, 1) := by decide +kernel
theorem dX2_heapNode_4 : decode cX2_heapNode 4 = .ok (.iload_n 3, 1) := by decide +kernel
theorem dX2_heapNode_5 : decode cX2_heapNode 5 = .ok (.iload_n 1, 1) := by decide +kernel
theorem dX2_heapNode_6 : decode cX2_heapNode 6 = .ok (.if_icmp .gt 38, 3) := by decide +kernel
theorem dX2_heapNode_9 : decode cX2_heapNode 9 = .ok (.iload_n 3, 1) := by decide +kernel
theorem dX2_heapNode_10 : decode cX2_heapNode 10 = .ok (.aload_n 0, 1) := by decide +kernel
theorem dX2_heapNode_11 : decode cX2_heapNode 11 = .ok (.getfield 18, 3) := by decide +kernel
theorem dX2_heapNode_14 : decode cX2_heapNode 14 = .ok (.arraylength, 1) := by decide +kernel
theorem dX2_heapNode_15 : decode cX2_heapNode 15 = .ok (.if_icmp .ge 29, 3) := by decide +kernel
theorem dX2_heapNode_18 : decode cX2_heapNode 18 = .ok (.aload_n 0, 1) := by decide +kernel
theorem dX2_heapNode_19 : decode cX2_heapNode 19 = .ok (.iload_n 3, 1) := by decide +kernel
theorem dX2_heapNode_20 : decode cX2_heapNode 20 = .ok (.invokevirtual 79, 3) := by decide +kernel
theorem dX2_heapNode_23 : decode cX2_heapNode 23 = .ok (.aload_n 0, 1) := by decide +kernel
theorem dX2_heapNode_24 : decode cX2_heapNode 24 = .ok (.getfield 26, 3) := by decide +kernel
theorem dX2_heapNode_27 : decode cX2_heapNode 27 = .ok (.invokevirtual 63, 3) := by decide +kernel
theorem dX2_heapNode_30 : decode cX2_heapNode 30 = .ok (.istore_n 2, 1) := by decide +kernel
theorem dX2_heapNode_31 : decode cX2_heapNode 31 = .ok (.aload_n 0, 1) := by decide +kernel
theorem dX2_heapNode_32 : decode cX2_heapNode 32 = .ok (.getfield 18, 3) := by decide +kernel
theorem dX2_heapNode_35 : decode cX2_heapNode 35 = .ok (.iload_n 3, 1) := by decide +kernel
theorem dX2_heapNode_36 : decode cX2_heapNode 36 = .ok (.iload_n 2, 1) := by decide +kernel
theorem dX2_heapNode_37 : decode cX2_heapNode 37 = .ok (.iastore, 1) := by decide +kernel
theorem dX2_heapNode_38 : decode cX2_heapNode 38 = .ok (.iinc 3 1, 3) := by decide +kernel
theorem dX2_heapNode_41 : decode cX2_heapNode 41 = .ok (.goto (-37), 3) := by decide +kernel
theorem dX2_heapNode_44 : decode cX2_heapNode 44 = .ok (.iload_n 2, 1) := by decide +kernel
theorem dX2_heapNode_45 : decode cX2_heapNode 45 = .ok (.ireturn, 1) := by decide +kernel
theorem dX2_heapOf_0 : decode cX2_heapOf 0 = .ok (.aload_n 0, 1) := by decide +kernel
theorem dX2_heapOf_1 : decode cX2_heapOf 1 = .ok (.getfield 26, 3) := by decide +kernel
theorem dX2_heapOf_4 : decode cX2_heapOf 4 = .ok (.invokevirtual 34, 3) := by decide +kernel
theorem dX2_heapOf_7 : decode cX2_heapOf 7 = .ok (.aload_n 0, 1) := by decide +kernel
theorem dX2_heapOf_8 : decode cX2_heapOf 8 = .ok (.getfield 30, 3) := by decide +kernel
theorem dX2_heapOf_11 : decode cX2_heapOf 11 = .ok (.aload_n 0, 1) := by decide +kernel
theorem dX2_heapOf_12 : decode cX2_heapOf 12 = .ok (.iload_n 1, 1) := by decide +kernel
theorem dX2_heapOf_13 : decode cX2_heapOf 13 = .ok (.invokevirtual 76, 3) := by decide +kernel
theorem dX2_heapOf_16 : decode cX2_heapOf 16 = .ok (.invokevirtual 43, 3) := by decide +kernel
theorem dX2_heapOf_19 : decode cX2_heapOf 19 = .ok (.areturn, 1) := by decide +kernel
theorem dX2_integerOf_0 : decode cX2_integerOf 0 = .ok (.aload_n 0, 1) := by decide +kernel
theorem dX2_integerOf_1 : decode cX2_integerOf 1 = .ok (.getfield 26, 3) := by decide +kernel
theorem dX2_integerOf_4 : decode cX2_integerOf 4 = .ok (.invokevirtual 34, 3) := by decide +kernel
theorem dX2_integerOf_7 : decode cX2_integerOf 7 = .ok (.iconst 0, 1) := by decide +kernel
theorem dX2_integerOf_8 : decode cX2_integerOf 8 = .ok (.istore_n 2, 1) := by decide +kernel
theorem dX2_integerOf_9 : decode cX2_integerOf 9 = .ok (.iconst 0, 1) := by decide +kernel
theorem dX2_integerOf_10 : decode cX2_integerOf 10 = .ok (.istore_n 3, 1) := by decide +kernel
theorem dX2_integerOf_11 : decode cX2_integerOf 11 = .ok (.iload_n 3, 1) := by decide +kernel
theorem dX2_integerOf_12 : decode cX2_integerOf 12 = .ok (.iload_n 1, 1) := by decide +kernel
theorem dX2_integerOf_13 : decode cX2_integerOf 13 = .ok (.invokestatic 67, 3) := by decide +kernel
theorem dX2_integerOf_16 : decode cX2_integerOf 16 = .ok (.sipush 256, 3) := by decide +kernel
theorem dX2_integerOf_19 : decode cX2_integerOf 19 = .ok (.invokestatic 73, 3) := by decide +kernel
theorem dX2_integerOf_22 : decode cX2_integerOf 22 = .ok (.if_icmp .ge 47, 3) := by decide +kernel
theorem dX2_integerOf_25 : decode cX2_integerOf 25 = .ok (.aload_n 0, 1) := by decide +kernel
theorem dX2_integerOf_26 : decode cX2_integerOf 26 = .ok (.getfield 26, 3) := by decide +kernel
theorem dX2_integerOf_29 : decode cX2_integerOf 29 = .ok (.invokevirtual 53, 3) := by decide +kernel
theorem dX2_integerOf_32 : decode cX2_integerOf 32 = .ok (.iload_n 1, 1) := by decide +kernel
theorem dX2_integerOf_33 : decode cX2_integerOf 33 = .ok (.ifCond .le 14, 3) := by decide +kernel
theorem dX2_integerOf_36 : decode cX2_integerOf 36 = .ok (.aload_n 0, 1) := by decide +kernel
theorem dX2_integerOf_37 : decode cX2_integerOf 37 = .ok (.getfield 26, 3) := by decide +kernel
theorem dX2_integerOf_40 : decode cX2_integerOf 40 = .ok (.iload_n 2, 1) := by decide +kernel
theorem dX2_integerOf_41 : decode cX2_integerOf 41 = .ok (.invokevirtual 56, 3) := by decide +kernel
theorem dX2_integerOf_44 : decode cX2_integerOf 44 = .ok (.goto 11, 3) := by decide +kernel
theorem dX2_integerOf_47 : decode cX2_integerOf 47 = .ok (.aload_n 0, 1) := by decide +kernel
theorem dX2_integerOf_48 : decode cX2_integerOf 48 = .ok (.getfield 26, 3) := by decide +kernel
theorem dX2_integerOf_51 : decode cX2_integerOf 51 = .ok (.iload_n 2, 1) := by decide +kernel
theorem dX2_integerOf_52 : decode cX2_integerOf 52 = .ok (.invokevirtual 60, 3) := by decide +kernel
theorem dX2_integerOf_55 : decode cX2_integerOf 55 = .ok (.aload_n 0, 1) := by decide +kernel
theorem dX2_integerOf_56 : decode cX2_integerOf 56 = .ok (.getfield 26, 3) := by decide +kernel
theorem dX2_integerOf_59 : decode cX2_integerOf 59 = .ok (.invokevirtual 63, 3) := by decide +kernel
theorem dX2_integerOf_62 : decode cX2_integerOf 62 = .ok (.istore_n 2, 1) := by decide +kernel
theorem dX2_integerOf_63 : decode cX2_integerOf 63 = .ok (.iinc 3 1, 3) := by decide +kernel
theorem dX2_integerOf_66 : decode cX2_integerOf 66 = .ok (.goto (-55), 3) := by decide +kernel
theorem dX2_integerOf_69 : decode cX2_integerOf 69 = .ok (.aload_n 0, 1) := by decide +kernel
theorem dX2_integerOf_70 : decode cX2_integerOf 70 = .ok (.getfield 30, 3) := by decide +kernel
theorem dX2_integerOf_73 : decode cX2_integerOf 73 = .ok (.iload_n 2, 1) := by decide +kernel
theorem dX2_integerOf_74 : decode cX2_integerOf 74 = .ok (.invokevirtual 43, 3) := by decide +kernel
theorem dX2_integerOf_77 : decode cX2_integerOf 77 = .ok (.areturn, 1) := by decide +kernel
theorem dX2_load_0 : decode cX2_load 0 = .ok (.iconst (-1), 1) := by decide +kernel
theorem dX2_load_1 : decode cX2_load 1 = .ok (.istore_n 3, 1) := by decide +kernel
theorem dX2_load_2 : decode cX2_load 2 = .ok (.iconst 0, 1) := by decide +kernel
theorem dX2_load_3 : decode cX2_load 3 = .ok (.istore 4, 2) := by decide +kernel
theorem dX2_load_5 : decode cX2_load 5 = .ok (.aload_n 1, 1) := by decide +kernel
theorem dX2_load_6 : decode cX2_load 6 = .ok (.ifnull 141, 3) := by decide +kernel
theorem dX2_load_9 : decode cX2_load 9 = .ok (.iload 4, 2) := by decide +kernel
theorem dX2_load_11 : decode cX2_load 11 = .ok (.aload_n 1, 1) := by decide +kernel
theorem dX2_load_12 : decode cX2_load 12 = .ok (.invokevirtual 97, 3) := by decide +kernel
theorem dX2_load_15 : decode cX2_load 15 = .ok (.if_icmp .ge 132, 3) := by decide +kernel
theorem dX2_load_18 : decode cX2_load 18 = .ok (.iload 4, 2) := by decide +kernel
theorem dX2_load_20 : decode cX2_load 20 = .ok (.aload_n 0, 1) := by decide +kernel
theorem dX2_load_21 : decode cX2_load 21 = .ok (.getfield 11, 3) := by decide +kernel
theorem dX2_load_24 : decode cX2_load 24 = .ok (.arraylength, 1) := by decide +kernel
theorem dX2_load_25 : decode cX2_load 25 = .ok (.if_icmp .ge 122, 3) := by decide +kernel
theorem dX2_load_28 : decode cX2_load 28 = .ok (.aload_n 0, 1) := by decide +kernel
theorem dX2_load_29 : decode cX2_load 29 = .ok (.getfield 26, 3) := by decide +kernel
theorem dX2_load_32 : decode cX2_load 32 = .ok (.invokevirtual 53, 3) := by decide +kernel
theorem dX2_load_35 : decode cX2_load 35 = .ok (.iconst 0, 1) := by decide +kernel
theorem dX2_load_36 : decode cX2_load 36 = .ok (.istore 5, 2) := by decide +kernel
theorem dX2_load_38 : decode cX2_load 38 = .ok (.iload 5, 2) := by decide +kernel
theorem dX2_load_40 : decode cX2_load 40 = .ok (.iload 4, 2) := by decide +kernel
theorem dX2_load_42 : decode cX2_load 42 = .ok (.if_icmp .ge 83, 3) := by decide +kernel
theorem dX2_load_45 : decode cX2_load 45 = .ok (.aload_n 1, 1) := by decide +kernel
theorem dX2_load_46 : decode cX2_load 46 = .ok (.iload 4, 2) := by decide +kernel
theorem dX2_load_48 : decode cX2_load 48 = .ok (.iload_n 2, 1) := by decide +kernel
theorem dX2_load_49 : decode cX2_load 49 = .ok (.ifCond .eq 7, 3) := by decide +kernel
theorem dX2_load_52 : decode cX2_load 52 = .ok (.iconst 1, 1) := by decide +kernel
theorem dX2_load_53 : decode cX2_load 53 = .ok (.goto 4, 3) := by decide +kernel
theorem dX2_load_56 : decode cX2_load 56 = .ok (.iconst 0, 1) := by decide +kernel
theorem dX2_load_57 : decode cX2_load 57 = .ok (.invokevirtual 106, 3) := by decide +kernel
theorem dX2_load_60 : decode cX2_load 60 = .ok (.iload 5, 2) := by decide +kernel
theorem dX2_load_62 : decode cX2_load 62 = .ok (.ishr, 1) := by decide +kernel
theorem dX2_load_63 : decode cX2_load 63 = .ok (.iconst 1, 1) := by decide +kernel
theorem dX2_load_64 : decode cX2_load 64 = .ok (.iand, 1) := by decide +kernel
theorem dX2_load_65 : decode cX2_load 65 = .ok (.ifCond .eq 17, 3) := by decide +kernel
theorem dX2_load_68 : decode cX2_load 68 = .ok (.aload_n 0, 1) := by decide +kernel
theorem dX2_load_69 : decode cX2_load 69 = .ok (.getfield 26, 3) := by decide +kernel
theorem dX2_load_72 : decode cX2_load 72 = .ok (.aload_n 0, 1) := by decide +kernel
theorem dX2_load_73 : decode cX2_load 73 = .ok (.getfield 11, 3) := by decide +kernel
theorem dX2_load_76 : decode cX2_load 76 = .ok (.iload 5, 2) := by decide +kernel
theorem dX2_load_78 : decode cX2_load 78 = .ok (.iaload, 1) := by decide +kernel
theorem dX2_load_79 : decode cX2_load 79 = .ok (.invokevirtual 56, 3) := by decide +kernel
theorem dX2_load_82 : decode cX2_load 82 = .ok (.aload_n 1, 1) := by decide +kernel
theorem dX2_load_83 : decode cX2_load 83 = .ok (.iload 4, 2) := by decide +kernel
theorem dX2_load_85 : decode cX2_load 85 = .ok (.iload_n 2, 1) := by decide +kernel
theorem dX2_load_86 : decode cX2_load 86 = .ok (.ifCond .eq 7, 3) := by decide +kernel
theorem dX2_load_89 : decode cX2_load 89 = .ok (.iconst 0, 1) := by decide +kernel
theorem dX2_load_90 : decode cX2_load 90 = .ok (.goto 4, 3) := by decide +kernel
theorem dX2_load_93 : decode cX2_load 93 = .ok (.iconst 1, 1) := by decide +kernel
theorem dX2_load_94 : decode cX2_load 94 = .ok (.invokevirtual 106, 3) := by decide +kernel
theorem dX2_load_97 : decode cX2_load 97 = .ok (.iload 5, 2) := by decide +kernel
theorem dX2_load_99 : decode cX2_load 99 = .ok (.ishr, 1) := by decide +kernel
theorem dX2_load_100 : decode cX2_load 100 = .ok (.iconst 1, 1) := by decide +kernel
theorem dX2_load_101 : decode cX2_load 101 = .ok (.iand, 1) := by decide +kernel
theorem dX2_load_102 : decode cX2_load 102 = .ok (.ifCond .eq 17, 3) := by decide +kernel
theorem dX2_load_105 : decode cX2_load 105 = .ok (.aload_n 0, 1) := by decide +kernel
theorem dX2_load_106 : decode cX2_load 106 = .ok (.getfield 26, 3) := by decide +kernel
theorem dX2_load_109 : decode cX2_load 109 = .ok (.aload_n 0, 1) := by decide +kernel
theorem dX2_load_110 : decode cX2_load 110 = .ok (.getfield 11, 3) := by decide +kernel
theorem dX2_load_113 : decode cX2_load 113 = .ok (.iload 5, 2) := by decide +kernel
theorem dX2_load_115 : decode cX2_load 115 = .ok (.iaload, 1) := by decide +kernel
theorem dX2_load_116 : decode cX2_load 116 = .ok (.invokevirtual 60, 3) := by decide +kernel
theorem dX2_load_119 : decode cX2_load 119 = .ok (.iinc 5 1, 3) := by decide +kernel
theorem dX2_load_122 : decode cX2_load 122 = .ok (.goto (-84), 3) := by decide +kernel
theorem dX2_load_125 : decode cX2_load 125 = .ok (.aload_n 0, 1) := by decide +kernel
theorem dX2_load_126 : decode cX2_load 126 = .ok (.getfield 26, 3) := by decide +kernel
theorem dX2_load_129 : decode cX2_load 129 = .ok (.invokevirtual 63, 3) := by decide +kernel
theorem dX2_load_132 : decode cX2_load 132 = .ok (.istore_n 3, 1) := by decide +kernel
theorem dX2_load_133 : decode cX2_load 133 = .ok (.aload_n 0, 1) := by decide +kernel
theorem dX2_load_134 : decode cX2_load 134 = .ok (.getfield 11, 3) := by decide +kernel
theorem dX2_load_137 : decode cX2_load 137 = .ok (.iload 4, 2) := by decide +kernel
theorem dX2_load_139 : decode cX2_load 139 = .ok (.iload_n 3, 1) := by decide +kernel
theorem dX2_load_140 : decode cX2_load 140 = .ok (.iastore, 1) := by decide +kernel
theorem dX2_load_141 : decode cX2_load 141 = .ok (.iinc 4 1, 3) := by decide +kernel
theorem dX2_load_144 : decode cX2_load 144 = .ok (.goto (-139), 3) := by decide +kernel
theorem dX2_load_147 : decode cX2_load 147 = .ok (.iload_n 3, 1) := by decide +kernel
theorem dX2_load_148 : decode cX2_load 148 = .ok (.ireturn, 1) := by decide +kernel
theorem dX2_negativeOf_0 : decode cX2_negativeOf 0 = .ok (.aload_n 0, 1) := by decide +kernel
theorem dX2_negativeOf_1 : decode cX2_negativeOf 1 = .ok (.getfield 26, 3) := by decide +kernel
theorem dX2_negativeOf_4 : decode cX2_negativeOf 4 = .ok (.invokevirtual 34, 3) := by decide +kernel
theorem dX2_negativeOf_7 : decode cX2_negativeOf 7 = .ok (.aload_n 0, 1) := by decide +kernel
theorem dX2_negativeOf_8 : decode cX2_negativeOf 8 = .ok (.getfield 30, 3) := by decide +kernel
theorem dX2_negativeOf_11 : decode cX2_negativeOf 11 = .ok (.aload_n 0, 1) := by decide +kernel
theorem dX2_negativeOf_12 : decode cX2_negativeOf 12 = .ok (.aload_n 1, 1) := by decide +kernel
theorem dX2_negativeOf_13 : decode cX2_negativeOf 13 = .ok (.iconst 1, 1) := by decide +kernel
theorem dX2_negativeOf_14 : decode cX2_negativeOf 14 = .ok (.invokevirtual 93, 3) := by decide +kernel
theorem dX2_negativeOf_17 : decode cX2_negativeOf 17 = .ok (.invokevirtual 43, 3) := by decide +kernel
theorem dX2_negativeOf_20 : decode cX2_negativeOf 20 = .ok (.areturn, 1) := by decide +kernel
theorem dX2_pairOf_0 : decode cX2_pairOf 0 = .ok (.aload_n 0, 1) := by decide +kernel
theorem dX2_pairOf_1 : decode cX2_pairOf 1 = .ok (.getfield 26, 3) := by decide +kernel
theorem dX2_pairOf_4 : decode cX2_pairOf 4 = .ok (.invokevirtual 53, 3) := by decide +kernel
theorem dX2_pairOf_7 : decode cX2_pairOf 7 = .ok (.aload_n 0, 1) := by decide +kernel
theorem dX2_pairOf_8 : decode cX2_pairOf 8 = .ok (.getfield 26, 3) := by decide +kernel
theorem dX2_pairOf_11 : decode cX2_pairOf 11 = .ok (.iload_n 1, 1) := by decide +kernel
theorem dX2_pairOf_12 : decode cX2_pairOf 12 = .ok (.invokevirtual 56, 3) := by decide +kernel
theorem dX2_pairOf_15 : decode cX2_pairOf 15 = .ok (.aload_n 0, 1) := by decide +kernel
theorem dX2_pairOf_16 : decode cX2_pairOf 16 = .ok (.getfield 26, 3) := by decide +kernel
theorem dX2_pairOf_19 : decode cX2_pairOf 19 = .ok (.iload_n 2, 1) := by decide +kernel
theorem dX2_pairOf_20 : decode cX2_pairOf 20 = .ok (.invokevirtual 60, 3) := by decide +kernel
theorem dX2_pairOf_23 : decode cX2_pairOf 23 = .ok (.aload_n 0, 1) := by decide +kernel
theorem dX2_pairOf_24 : decode cX2_pairOf 24 = .ok (.getfield 26, 3) := by decide +kernel
theorem dX2_pairOf_27 : decode cX2_pairOf 27 = .ok (.invokevirtual 63, 3) := by decide +kernel
theorem dX2_pairOf_30 : decode cX2_pairOf 30 = .ok (.ireturn, 1) := by decide +kernel
theorem dX2_sumOf_0 : decode cX2_sumOf 0 = .ok (.aload_n 1, 1) := by decide +kernel
theorem dX2_sumOf_1 : decode cX2_sumOf 1 = .ok (.ifnull 25, 3) := by decide +kernel
theorem dX2_sumOf_4 : decode cX2_sumOf 4 = .ok (.aload_n 2, 1) := by decide +kernel
theorem dX2_sumOf_5 : decode cX2_sumOf 5 = .ok (.ifnull 21, 3) := by decide +kernel
theorem dX2_sumOf_8 : decode cX2_sumOf 8 = .ok (.aload_n 1, 1) := by decide +kernel
theorem dX2_sumOf_9 : decode cX2_sumOf 9 = .ok (.invokevirtual 97, 3) := by decide +kernel
theorem dX2_sumOf_12 : decode cX2_sumOf 12 = .ok (.bipush 11, 2) := by decide +kernel
theorem dX2_sumOf_14 : decode cX2_sumOf 14 = .ok (.if_icmp .gt 12, 3) := by decide +kernel
theorem dX2_sumOf_17 : decode cX2_sumOf 17 = .ok (.aload_n 2, 1) := by decide +kernel
theorem dX2_sumOf_18 : decode cX2_sumOf 18 = .ok (.invokevirtual 97, 3) := by decide +kernel
theorem dX2_sumOf_21 : decode cX2_sumOf 21 = .ok (.bipush 11, 2) := by decide +kernel
theorem dX2_sumOf_23 : decode cX2_sumOf 23 = .ok (.if_icmp .le 5, 3) := by decide +kernel
theorem dX2_sumOf_26 : decode cX2_sumOf 26 = .ok (.aconst_null, 1) := by decide +kernel
theorem dX2_sumOf_27 : decode cX2_sumOf 27 = .ok (.areturn, 1) := by decide +kernel
theorem dX2_sumOf_28 : decode cX2_sumOf 28 = .ok (.aload_n 0, 1) := by decide +kernel
theorem dX2_sumOf_29 : decode cX2_sumOf 29 = .ok (.getfield 26, 3) := by decide +kernel
theorem dX2_sumOf_32 : decode cX2_sumOf 32 = .ok (.invokevirtual 34, 3) := by decide +kernel
theorem dX2_sumOf_35 : decode cX2_sumOf 35 = .ok (.iconst (-1), 1) := by decide +kernel
theorem dX2_sumOf_36 : decode cX2_sumOf 36 = .ok (.istore_n 3, 1) := by decide +kernel
theorem dX2_sumOf_37 : decode cX2_sumOf 37 = .ok (.iconst 0, 1) := by decide +kernel
theorem dX2_sumOf_38 : decode cX2_sumOf 38 = .ok (.istore 4, 2) := by decide +kernel
theorem dX2_sumOf_40 : decode cX2_sumOf 40 = .ok (.iload 4, 2) := by decide +kernel
theorem dX2_sumOf_42 : decode cX2_sumOf 42 = .ok (.aload_n 1, 1) := by decide +kernel
theorem dX2_sumOf_43 : decode cX2_sumOf 43 = .ok (.invokevirtual 97, 3) := by decide +kernel
theorem dX2_sumOf_46 : decode cX2_sumOf 46 = .ok (.if_icmp .ge 132, 3) := by decide +kernel
theorem dX2_sumOf_49 : decode cX2_sumOf 49 = .ok (.iconst 0, 1) := by decide +kernel
theorem dX2_sumOf_50 : decode cX2_sumOf 50 = .ok (.istore 5, 2) := by decide +kernel
theorem dX2_sumOf_52 : decode cX2_sumOf 52 = .ok (.iload 5, 2) := by decide +kernel
theorem dX2_sumOf_54 : decode cX2_sumOf 54 = .ok (.aload_n 2, 1) := by decide +kernel
theorem dX2_sumOf_55 : decode cX2_sumOf 55 = .ok (.invokevirtual 97, 3) := by decide +kernel
theorem dX2_sumOf_58 : decode cX2_sumOf 58 = .ok (.if_icmp .ge 114, 3) := by decide +kernel
theorem dX2_sumOf_61 : decode cX2_sumOf 61 = .ok (.aload_n 0, 1) := by decide +kernel
theorem dX2_sumOf_62 : decode cX2_sumOf 62 = .ok (.getfield 26, 3) := by decide +kernel
theorem dX2_sumOf_65 : decode cX2_sumOf 65 = .ok (.invokevirtual 53, 3) := by decide +kernel
theorem dX2_sumOf_68 : decode cX2_sumOf 68 = .ok (.iconst 0, 1) := by decide +kernel
theorem dX2_sumOf_69 : decode cX2_sumOf 69 = .ok (.istore 6, 2) := by decide +kernel
theorem dX2_sumOf_71 : decode cX2_sumOf 71 = .ok (.iload 6, 2) := by decide +kernel
theorem dX2_sumOf_73 : decode cX2_sumOf 73 = .ok (.iload 4, 2) := by decide +kernel
theorem dX2_sumOf_75 : decode cX2_sumOf 75 = .ok (.if_icmp .ge 31, 3) := by decide +kernel
theorem dX2_sumOf_78 : decode cX2_sumOf 78 = .ok (.aload_n 0, 1) := by decide +kernel
theorem dX2_sumOf_79 : decode cX2_sumOf 79 = .ok (.aload_n 1, 1) := by decide +kernel
theorem dX2_sumOf_80 : decode cX2_sumOf 80 = .ok (.iload 4, 2) := by decide +kernel
theorem dX2_sumOf_82 : decode cX2_sumOf 82 = .ok (.iload 6, 2) := by decide +kernel
theorem dX2_sumOf_84 : decode cX2_sumOf 84 = .ok (.aload_n 0, 1) := by decide +kernel
theorem dX2_sumOf_85 : decode cX2_sumOf 85 = .ok (.getfield 15, 3) := by decide +kernel
theorem dX2_sumOf_88 : decode cX2_sumOf 88 = .ok (.iload 6, 2) := by decide +kernel
theorem dX2_sumOf_90 : decode cX2_sumOf 90 = .ok (.bipush 11, 2) := by decide +kernel
theorem dX2_sumOf_92 : decode cX2_sumOf 92 = .ok (.imul, 1) := by decide +kernel
theorem dX2_sumOf_93 : decode cX2_sumOf 93 = .ok (.iload 5, 2) := by decide +kernel
theorem dX2_sumOf_95 : decode cX2_sumOf 95 = .ok (.iadd, 1) := by decide +kernel
theorem dX2_sumOf_96 : decode cX2_sumOf 96 = .ok (.iaload, 1) := by decide +kernel
theorem dX2_sumOf_97 : decode cX2_sumOf 97 = .ok (.invokevirtual 102, 3) := by decide +kernel
theorem dX2_sumOf_100 : decode cX2_sumOf 100 = .ok (.iinc 6 1, 3) := by decide +kernel
theorem dX2_sumOf_103 : decode cX2_sumOf 103 = .ok (.goto (-32), 3) := by decide +kernel
theorem dX2_sumOf_106 : decode cX2_sumOf 106 = .ok (.iconst 0, 1) := by decide +kernel
theorem dX2_sumOf_107 : decode cX2_sumOf 107 = .ok (.istore 6, 2) := by decide +kernel
theorem dX2_sumOf_109 : decode cX2_sumOf 109 = .ok (.iload 6, 2) := by decide +kernel
theorem dX2_sumOf_111 : decode cX2_sumOf 111 = .ok (.iload 5, 2) := by decide +kernel
theorem dX2_sumOf_113 : decode cX2_sumOf 113 = .ok (.if_icmp .ge 31, 3) := by decide +kernel
theorem dX2_sumOf_116 : decode cX2_sumOf 116 = .ok (.aload_n 0, 1) := by decide +kernel
theorem dX2_sumOf_117 : decode cX2_sumOf 117 = .ok (.aload_n 2, 1) := by decide +kernel
theorem dX2_sumOf_118 : decode cX2_sumOf 118 = .ok (.iload 5, 2) := by decide +kernel
theorem dX2_sumOf_120 : decode cX2_sumOf 120 = .ok (.iload 6, 2) := by decide +kernel
theorem dX2_sumOf_122 : decode cX2_sumOf 122 = .ok (.aload_n 0, 1) := by decide +kernel
theorem dX2_sumOf_123 : decode cX2_sumOf 123 = .ok (.getfield 15, 3) := by decide +kernel
theorem dX2_sumOf_126 : decode cX2_sumOf 126 = .ok (.iload 4, 2) := by decide +kernel
theorem dX2_sumOf_128 : decode cX2_sumOf 128 = .ok (.bipush 11, 2) := by decide +kernel
theorem dX2_sumOf_130 : decode cX2_sumOf 130 = .ok (.imul, 1) := by decide +kernel
theorem dX2_sumOf_131 : decode cX2_sumOf 131 = .ok (.iload 6, 2) := by decide +kernel
theorem dX2_sumOf_133 : decode cX2_sumOf 133 = .ok (.iadd, 1) := by decide +kernel
theorem dX2_sumOf_134 : decode cX2_sumOf 134 = .ok (.iaload, 1) := by decide +kernel
theorem dX2_sumOf_135 : decode cX2_sumOf 135 = .ok (.invokevirtual 102, 3) := by decide +kernel
theorem dX2_sumOf_138 : decode cX2_sumOf 138 = .ok (.iinc 6 1, 3) := by decide +kernel
theorem dX2_sumOf_141 : decode cX2_sumOf 141 = .ok (.goto (-32), 3) := by decide +kernel
theorem dX2_sumOf_144 : decode cX2_sumOf 144 = .ok (.aload_n 0, 1) := by decide +kernel
theorem dX2_sumOf_145 : decode cX2_sumOf 145 = .ok (.getfield 26, 3) := by decide +kernel
theorem dX2_sumOf_148 : decode cX2_sumOf 148 = .ok (.invokevirtual 63, 3) := by decide +kernel
theorem dX2_sumOf_151 : decode cX2_sumOf 151 = .ok (.istore_n 3, 1) := by decide +kernel
theorem dX2_sumOf_152 : decode cX2_sumOf 152 = .ok (.aload_n 0, 1) := by decide +kernel
theorem dX2_sumOf_153 : decode cX2_sumOf 153 = .ok (.getfield 15, 3) := by decide +kernel
theorem dX2_sumOf_156 : decode cX2_sumOf 156 = .ok (.iload 4, 2) := by decide +kernel
theorem dX2_sumOf_158 : decode cX2_sumOf 158 = .ok (.bipush 11, 2) := by decide +kernel
theorem dX2_sumOf_160 : decode cX2_sumOf 160 = .ok (.imul, 1) := by decide +kernel
theorem dX2_sumOf_161 : decode cX2_sumOf 161 = .ok (.iload 5, 2) := by decide +kernel
theorem dX2_sumOf_163 : decode cX2_sumOf 163 = .ok (.iadd, 1) := by decide +kernel
theorem dX2_sumOf_164 : decode cX2_sumOf 164 = .ok (.iload_n 3, 1) := by decide +kernel
theorem dX2_sumOf_165 : decode cX2_sumOf 165 = .ok (.iastore, 1) := by decide +kernel
theorem dX2_sumOf_166 : decode cX2_sumOf 166 = .ok (.iinc 5 1, 3) := by decide +kernel
theorem dX2_sumOf_169 : decode cX2_sumOf 169 = .ok (.goto (-117), 3) := by decide +kernel
theorem dX2_sumOf_172 : decode cX2_sumOf 172 = .ok (.iinc 4 1, 3) := by decide +kernel
theorem dX2_sumOf_175 : decode cX2_sumOf 175 = .ok (.goto (-135), 3) := by decide +kernel
theorem dX2_sumOf_178 : decode cX2_sumOf 178 = .ok (.aload_n 0, 1) := by decide +kernel
theorem dX2_sumOf_179 : decode cX2_sumOf 179 = .ok (.getfield 30, 3) := by decide +kernel
theorem dX2_sumOf_182 : decode cX2_sumOf 182 = .ok (.iload_n 3, 1) := by decide +kernel
theorem dX2_sumOf_183 : decode cX2_sumOf 183 = .ok (.invokevirtual 43, 3) := by decide +kernel
theorem dX2_sumOf_186 : decode cX2_sumOf 186 = .ok (.areturn, 1) := by decide +kernel
theorem dX2_upGame_0 : decode cX2_upGame 0 = .ok (.aload_n 0, 1) := by decide +kernel
theorem dX2_upGame_1 : decode cX2_upGame 1 = .ok (.getfield 49, 3) := by decide +kernel
theorem dX2_upGame_4 : decode cX2_upGame 4 = .ok (.areturn, 1) := by decide +kernel
theorem dX2_upsAndHeap_0 : decode cX2_upsAndHeap 0 = .ok (.iload_n 1, 1) := by decide +kernel
theorem dX2_upsAndHeap_1 : decode cX2_upsAndHeap 1 = .ok (.ifCond .ge 14, 3) := by decide +kernel
theorem dX2_upsAndHeap_4 : decode cX2_upsAndHeap 4 = .ok (.aload_n 0, 1) := by decide +kernel
theorem dX2_upsAndHeap_5 : decode cX2_upsAndHeap 5 = .ok (.aload_n 0, 1) := by decide +kernel
theorem dX2_upsAndHeap_6 : decode cX2_upsAndHeap 6 = .ok (.getfield 49, 3) := by decide +kernel
theorem dX2_upsAndHeap_9 : decode cX2_upsAndHeap 9 = .ok (.invokevirtual 82, 3) := by decide +kernel
theorem dX2_upsAndHeap_12 : decode cX2_upsAndHeap 12 = .ok (.goto 7, 3) := by decide +kernel
theorem dX2_upsAndHeap_15 : decode cX2_upsAndHeap 15 = .ok (.aload_n 0, 1) := by decide +kernel
theorem dX2_upsAndHeap_16 : decode cX2_upsAndHeap 16 = .ok (.getfield 49, 3) := by decide +kernel
theorem dX2_upsAndHeap_19 : decode cX2_upsAndHeap 19 = .ok (.astore_n 3, 1) := by decide +kernel
theorem dX2_upsAndHeap_20 : decode cX2_upsAndHeap 20 = .ok (.aload_n 0, 1) := by decide +kernel
theorem dX2_upsAndHeap_21 : decode cX2_upsAndHeap 21 = .ok (.iconst 0, 1) := by decide +kernel
theorem dX2_upsAndHeap_22 : decode cX2_upsAndHeap 22 = .ok (.invokevirtual 86, 3) := by decide +kernel
theorem dX2_upsAndHeap_25 : decode cX2_upsAndHeap 25 = .ok (.astore 4, 2) := by decide +kernel
theorem dX2_upsAndHeap_27 : decode cX2_upsAndHeap 27 = .ok (.iconst 0, 1) := by decide +kernel
theorem dX2_upsAndHeap_28 : decode cX2_upsAndHeap 28 = .ok (.istore 5, 2) := by decide +kernel
theorem dX2_upsAndHeap_30 : decode cX2_upsAndHeap 30 = .ok (.iload 5, 2) := by decide +kernel
theorem dX2_upsAndHeap_32 : decode cX2_upsAndHeap 32 = .ok (.iload_n 1, 1) := by decide +kernel
theorem dX2_upsAndHeap_33 : decode cX2_upsAndHeap 33 = .ok (.invokestatic 67, 3) := by decide +kernel
theorem dX2_upsAndHeap_36 : decode cX2_upsAndHeap 36 = .ok (.if_icmp .ge 25, 3) := by decide +kernel
theorem dX2_upsAndHeap_39 : decode cX2_upsAndHeap 39 = .ok (.iload 5, 2) := by decide +kernel
theorem dX2_upsAndHeap_41 : decode cX2_upsAndHeap 41 = .ok (.bipush 11, 2) := by decide +kernel
theorem dX2_upsAndHeap_43 : decode cX2_upsAndHeap 43 = .ok (.if_icmp .ge 18, 3) := by decide +kernel
theorem dX2_upsAndHeap_46 : decode cX2_upsAndHeap 46 = .ok (.aload_n 0, 1) := by decide +kernel
theorem dX2_upsAndHeap_47 : decode cX2_upsAndHeap 47 = .ok (.aload 4, 2) := by decide +kernel
theorem dX2_upsAndHeap_49 : decode cX2_upsAndHeap 49 = .ok (.aload_n 3, 1) := by decide +kernel
theorem dX2_upsAndHeap_50 : decode cX2_upsAndHeap 50 = .ok (.invokevirtual 89, 3) := by decide +kernel
theorem dX2_upsAndHeap_53 : decode cX2_upsAndHeap 53 = .ok (.astore 4, 2) := by decide +kernel
theorem dX2_upsAndHeap_55 : decode cX2_upsAndHeap 55 = .ok (.iinc 5 1, 3) := by decide +kernel
theorem dX2_upsAndHeap_58 : decode cX2_upsAndHeap 58 = .ok (.goto (-28), 3) := by decide +kernel
theorem dX2_upsAndHeap_61 : decode cX2_upsAndHeap 61 = .ok (.aload_n 0, 1) := by decide +kernel
theorem dX2_upsAndHeap_62 : decode cX2_upsAndHeap 62 = .ok (.aload 4, 2) := by decide +kernel
theorem dX2_upsAndHeap_64 : decode cX2_upsAndHeap 64 = .ok (.aload_n 0, 1) := by decide +kernel
theorem dX2_upsAndHeap_65 : decode cX2_upsAndHeap 65 = .ok (.iload_n 2, 1) := by decide +kernel
theorem dX2_upsAndHeap_66 : decode cX2_upsAndHeap 66 = .ok (.invokevirtual 86, 3) := by decide +kernel
theorem dX2_upsAndHeap_69 : decode cX2_upsAndHeap 69 = .ok (.invokevirtual 89, 3) := by decide +kernel
theorem dX2_upsAndHeap_72 : decode cX2_upsAndHeap 72 = .ok (.areturn, 1) := by decide +kernel
/-- X2 pairOf (II)I -/
def f_X2_pairOf (n : Nat) (p1 : Int) (p2 : Int) (mi : Mem) : Option Rz :=
  cal (f_X9_begin n mi) fun _ m4 =>
  cal (f_X9_addLeft n p1 m4) fun _ m12 =>
  cal (f_X9_addRight n p2 m12) fun _ m20 =>
  cal (f_X9_end n m20) fun x27 m27 =>
  rt x27 m27
set_option maxRecDepth 100000 in
set_option maxHeartbeats 4000000 in
theorem s_X2_pairOf (l : Launch) (sc : g_S) (E : Mem → g_H) (R : Nat → Prop) (hE : LE E R) (hR : RMK R) (n : Nat)  (p1 : Int) (p2 : Int) (hp1 : inR p1) (hp2 : inR p2) (mi : Mem) (r : Rz) (H : f_X2_pairOf n p1 p2 mi = some r) : AMet l sc yX2_pairOf cX2_pairOf 3 (some FieldType.int) 3 0 0 [.ref 28, iv p1, iv p2] (E mi) (pI E r) := by
  have r4 : R 4 := hR.1 4 (Nat.le_of_ble_eq_true rfl) (Nat.le_of_ble_eq_true rfl)
  have r28 : R 28 := hR.1 28 (Nat.le_of_ble_eq_true rfl) (Nat.le_of_ble_eq_true rfl)
  unfold f_X2_pairOf at H
  refine AMet.of (own := RX2) (by decide +kernel) rfl (Nat.le_of_ble_eq_true rfl) [(0, .ref 28), (1, iv p1), (2, iv p2)] rfl (fun D base ad => ?_)
  refine aw_aload_n (pc := 0) dX2_pairOf_0 rfl ?_
  refine cx_gtC (pc := 1) 4 hE r28 fl_X2_26 rfl rfl (Nat.le_of_ble_eq_true rfl) dX2_pairOf_1 ?_
  refine cx_callV (pc := 4) (P := pV) (dC := 1) (mcC := 0) (msC := 0) [] hE r4 (fun r1 H1 => s_X9_begin l sc E R hE hR.ys n mi r1 H1) ca_X2_53 rfl ⟨_, rfl, rfl⟩ rfl rfl (Nat.le_of_ble_eq_true rfl) (Nat.le_of_ble_eq_true rfl) (Nat.le_of_ble_eq_true rfl) (Nat.le_of_ble_eq_true rfl) dX2_pairOf_4 H (fun x4 m4 v4 hh4 H hp => ?_)
  refine cx_backV hp ?_
  refine aw_aload_n (pc := 7) dX2_pairOf_7 rfl ?_
  refine cx_gtC (pc := 8) 4 hE r28 fl_X2_26 rfl rfl (Nat.le_of_ble_eq_true rfl) dX2_pairOf_8 ?_
  refine aw_iload_n (pc := 11) dX2_pairOf_11 rfl ?_
  refine cx_callV (pc := 12) (P := pV) (dC := 1) (mcC := 0) (msC := 0) [iv p1] hE r4 (fun r1 H1 => s_X9_addLeft l sc E R hE hR.ys n p1 hp1 m4 r1 H1) ca_X2_56 rfl ⟨_, rfl, rfl⟩ rfl rfl (Nat.le_of_ble_eq_true rfl) (Nat.le_of_ble_eq_true rfl) (Nat.le_of_ble_eq_true rfl) (Nat.le_of_ble_eq_true rfl) dX2_pairOf_12 H (fun x12 m12 v12 hh12 H hp => ?_)
  refine cx_backV hp ?_
  refine aw_aload_n (pc := 15) dX2_pairOf_15 rfl ?_
  refine cx_gtC (pc := 16) 4 hE r28 fl_X2_26 rfl rfl (Nat.le_of_ble_eq_true rfl) dX2_pairOf_16 ?_
  refine aw_iload_n (pc := 19) dX2_pairOf_19 rfl ?_
  refine cx_callV (pc := 20) (P := pV) (dC := 1) (mcC := 0) (msC := 0) [iv p2] hE r4 (fun r1 H1 => s_X9_addRight l sc E R hE hR.ys n p2 hp2 m12 r1 H1) ca_X2_60 rfl ⟨_, rfl, rfl⟩ rfl rfl (Nat.le_of_ble_eq_true rfl) (Nat.le_of_ble_eq_true rfl) (Nat.le_of_ble_eq_true rfl) (Nat.le_of_ble_eq_true rfl) dX2_pairOf_20 H (fun x20 m20 v20 hh20 H hp => ?_)
  refine cx_backV hp ?_
  refine aw_aload_n (pc := 23) dX2_pairOf_23 rfl ?_
  refine cx_gtC (pc := 24) 4 hE r28 fl_X2_26 rfl rfl (Nat.le_of_ble_eq_true rfl) dX2_pairOf_24 ?_
  refine cx_callV (pc := 27) (P := pI) (dC := 2) (mcC := 0) (msC := 0) [] hE r4 (fun r1 H1 => s_X9_end l sc E R hE hR.ys n m20 r1 H1) ca_X2_63 rfl ⟨_, rfl, rfl⟩ rfl rfl (Nat.le_of_ble_eq_true rfl) (Nat.le_of_ble_eq_true rfl) (Nat.le_of_ble_eq_true rfl) (Nat.le_of_ble_eq_true rfl) dX2_pairOf_27 H (fun x27 m27 v27 hh27 H hp => ?_)
  refine cx_backI hp (fun hx27 => ?_)
  exact cx_iret (pc := 30) hx27 rfl (Nat.le_of_ble_eq_true rfl) (Nat.le_of_ble_eq_true rfl) dX2_pairOf_30 H
/-- X2 upGame ()LUppityGames$Game; -/
def f_X2_upGame (n : Nat)  (mi : Mem) : Option Rz :=
  gtG mi 28 6 fun x1 =>
  rt (x1 : Nat) mi
set_option maxRecDepth 100000 in
set_option maxHeartbeats 4000000 in
theorem s_X2_upGame (l : Launch) (sc : g_S) (E : Mem → g_H) (R : Nat → Prop) (hE : LE E R) (hR : RMK R) (n : Nat)    (mi : Mem) (r : Rz) (H : f_X2_upGame n  mi = some r) : AMet l sc yX2_upGame cX2_upGame 1 (some (FieldType.object "UppityGames$Game")) 0 0 0 [.ref 28] (E mi) (pG E r) := by
  have r28 : R 28 := hR.1 28 (Nat.le_of_ble_eq_true rfl) (Nat.le_of_ble_eq_true rfl)
  unfold f_X2_upGame at H
  refine AMet.of (own := RX2) (by decide +kernel) rfl (Nat.le_of_ble_eq_true rfl) [(0, .ref 28)] rfl (fun D base ad => ?_)
  refine aw_aload_n (pc := 0) dX2_upGame_0 rfl ?_
  refine cx_gtG (pc := 1) hE r28 fl_X2_49 rfl rfl (Nat.le_of_ble_eq_true rfl) dX2_upGame_1 H (fun x1 H => ?_)
  exact cx_aret (pc := 4) ⟨_, rfl, Or.inl ⟨_, rfl⟩⟩ (Nat.le_of_ble_eq_true rfl) (Nat.le_of_ble_eq_true rfl) dX2_upGame_4 H
/-- X2 integerOf (I)LUppityGames$Game; -/
def f_X2_integerOf (n : Nat) (p1 : Int) (mi : Mem) : Option Rz :=
  cal (f_X9_clear n mi) fun _ m4 =>
  lp (F := Int → Int → Mem → Option Rz) (fun _ _ _ => none) (fun w11 v2_11 v3_11 m11 =>
    if v3_11 < imin (iabs p1) 256 then (
      cal (f_X9_begin n m11) fun _ m29 =>
      jn (fun (m55 : Mem) =>
        cal (f_X9_end n m55) fun x59 m59 =>
        w11 x59 (w32 (v3_11 + 1)) m59
      ) fun (j55 : Mem → Option Rz) =>
      if 0 < p1 then (
        cal (f_X9_addLeft n v2_11 m29) fun _ m41 =>
        j55 m41
      ) else
      cal (f_X9_addRight n v2_11 m29) fun _ m52 =>
      j55 m52
    ) else
    cal (f_X4_written n v2_11 m11) fun x74 m74 =>
    rt (x74.toNat : Nat) m74
  ) n 0 0 m4
set_option maxRecDepth 100000 in
set_option maxHeartbeats 4000000 in
theorem s_X2_integerOf (l : Launch) (sc : g_S) (E : Mem → g_H) (R : Nat → Prop) (hE : LE E R) (hR : RMK R) (hsc : sc.1 = 0) (n : Nat)  (p1 : Int) (hp1 : inR p1) (mi : Mem) (r : Rz) (H : f_X2_integerOf n p1 mi = some r) : AMet l sc yX2_integerOf cX2_integerOf 4 (some (FieldType.object "UppityGames$Game")) 5 4 125 [.ref 28, iv p1] (E mi) (pG E r) := by
  have r4 : R 4 := hR.1 4 (Nat.le_of_ble_eq_true rfl) (Nat.le_of_ble_eq_true rfl)
  have r18 : R 18 := hR.1 18 (Nat.le_of_ble_eq_true rfl) (Nat.le_of_ble_eq_true rfl)
  have r28 : R 28 := hR.1 28 (Nat.le_of_ble_eq_true rfl) (Nat.le_of_ble_eq_true rfl)
  unfold f_X2_integerOf at H
  refine AMet.of (own := RX2) (by decide +kernel) rfl (Nat.le_of_ble_eq_true rfl) [(0, .ref 28), (1, iv p1)] rfl (fun D base ad => ?_)
  refine aw_aload_n (pc := 0) dX2_integerOf_0 rfl ?_
  refine cx_gtC (pc := 1) 4 hE r28 fl_X2_26 rfl rfl (Nat.le_of_ble_eq_true rfl) dX2_integerOf_1 ?_
  refine cx_callV (pc := 4) (P := pV) (dC := 3) (mcC := 0) (msC := 0) [] hE r4 (fun r1 H1 => s_X9_clear l sc E R hE hR.ys n mi r1 H1) ca_X2_34 rfl ⟨_, rfl, rfl⟩ rfl rfl (Nat.le_of_ble_eq_true rfl) (Nat.le_of_ble_eq_true rfl) (Nat.le_of_ble_eq_true rfl) (Nat.le_of_ble_eq_true rfl) dX2_integerOf_4 H (fun x4 m4 v4 hh4 H hp => ?_)
  refine cx_backV hp ?_
  refine cx_iconst (pc := 7) dX2_integerOf_7 ?_
  refine aw_istore_n (pc := 8) [(2, iv 0), (0, .ref 28), (1, iv p1)] dX2_integerOf_8 rfl (by decide) ?_
  refine cx_iconst (pc := 9) dX2_integerOf_9 ?_
  refine aw_istore_n (pc := 10) [(3, iv 0), (2, iv 0), (0, .ref 28), (1, iv p1)] dX2_integerOf_10 rfl (by decide) ?_
  refine AW.sel [2, 3, 1, 0] rfl (lp_ind (bot := fun _ _ _ => none) (fun (f9 : Int → Int → Mem → Option Rz) => ∀ (v2_11 : Int) (v3_11 : Int) (m11 : Mem), inR v2_11 → inR v3_11 → f9 v2_11 v3_11 m11 = some r → AW l D base sc RX2 yX2_integerOf cX2_integerOf 4 (some (FieldType.object "UppityGames$Game")) 5 4 125 ad (E mi) (pG E r) 0 0 (E m11) 11 [(0, .ref 28), (1, iv p1), (2, iv v2_11), (3, iv v3_11)] []) (fun _ _ _ _ _ h9 => nomatch h9) (fun w11 ih11 v2_11 v3_11 m11 hv2_11 hv3_11 H => ?_) n _ _ _ (inR_lit _ rfl) (inR_lit _ rfl) H)
  refine aw_iload_n (pc := 11) dX2_integerOf_11 rfl ?_
  refine aw_iload_n (pc := 12) dX2_integerOf_12 rfl ?_
  refine cx_mabs (pc := 13) hp1 miabs_y miabs_c (g_mem 718 (by decide +kernel) rfl) ca_X2_67 (Nat.le_of_ble_eq_true rfl) (Nat.le_of_ble_eq_true rfl) (Nat.le_of_ble_eq_true rfl) (Nat.le_of_ble_eq_true rfl) dX2_integerOf_13 ?_
  refine cx_sipush (pc := 16) dX2_integerOf_16 (by decide) ?_
  refine cx_mmin (pc := 19) (inR_abs hp1) (inR_lit _ rfl) mimin_y mimin_c (g_mem 721 (by decide +kernel) rfl) ca_X2_73 (Nat.le_of_ble_eq_true rfl) (Nat.le_of_ble_eq_true rfl) (Nat.le_of_ble_eq_true rfl) (Nat.le_of_ble_eq_true rfl) dX2_integerOf_19 ?_
  refine cx_icmp_ge (pc := 22) 69 hv3_11 (inR_min (inR_abs hp1) (inR_lit _ rfl)) dX2_integerOf_22 rfl H (fun H => ?_) (fun H => ?_)
  · -- 22: 25
    refine aw_aload_n (pc := 25) dX2_integerOf_25 rfl ?_
    refine cx_gtC (pc := 26) 4 hE r28 fl_X2_26 rfl rfl (Nat.le_of_ble_eq_true rfl) dX2_integerOf_26 ?_
    refine cx_callV (pc := 29) (P := pV) (dC := 1) (mcC := 0) (msC := 0) [] hE r4 (fun r1 H1 => s_X9_begin l sc E R hE hR.ys n m11 r1 H1) ca_X2_53 rfl ⟨_, rfl, rfl⟩ rfl rfl (Nat.le_of_ble_eq_true rfl) (Nat.le_of_ble_eq_true rfl) (Nat.le_of_ble_eq_true rfl) (Nat.le_of_ble_eq_true rfl) dX2_integerOf_29 H (fun x29 m29 v29 hh29 H hp => ?_)
    refine cx_backV hp ?_
    refine aw_iload_n (pc := 32) dX2_integerOf_32 rfl ?_
    refine jn_ind (fun (f9 : Mem → Option Rz) => ∀ (m55 : Mem), f9 m55 = some r → AW l D base sc RX2 yX2_integerOf cX2_integerOf 4 (some (FieldType.object "UppityGames$Game")) 5 4 125 ad (E mi) (pG E r) 0 0 (E m55) 55 [(0, .ref 28), (1, iv p1), (3, iv v3_11)] []) (fun m55 H => ?_) (fun j55 hj55 H => ?_) H
    · -- 55
      refine aw_aload_n (pc := 55) dX2_integerOf_55 rfl ?_
      refine cx_gtC (pc := 56) 4 hE r28 fl_X2_26 rfl rfl (Nat.le_of_ble_eq_true rfl) dX2_integerOf_56 ?_
      refine cx_callV (pc := 59) (P := pI) (dC := 2) (mcC := 0) (msC := 0) [] hE r4 (fun r1 H1 => s_X9_end l sc E R hE hR.ys n m55 r1 H1) ca_X2_63 rfl ⟨_, rfl, rfl⟩ rfl rfl (Nat.le_of_ble_eq_true rfl) (Nat.le_of_ble_eq_true rfl) (Nat.le_of_ble_eq_true rfl) (Nat.le_of_ble_eq_true rfl) dX2_integerOf_59 H (fun x59 m59 v59 hh59 H hp => ?_)
      refine cx_backI hp (fun hx59 => ?_)
      refine aw_istore_n (pc := 62) [(2, iv x59), (0, .ref 28), (1, iv p1), (3, iv v3_11)] dX2_integerOf_62 rfl (by decide) ?_
      refine cx_iinc (pc := 63) [(3, iv (w32 (v3_11 + 1))), (2, iv x59), (0, .ref 28), (1, iv p1)] dX2_integerOf_63 rfl rfl (by decide) ?_
      refine aw_goto (pc := 66) 11 dX2_integerOf_66 rfl ?_
      exact AW.sel [2, 3, 1, 0] rfl (ih11 _ _ _ hx59 (inR_w32 _) H)
    refine cx_if_le (pc := 33) 47 hp1 dX2_integerOf_33 rfl H (fun H => ?_) (fun H => ?_)
    · -- 33: 36
      refine aw_aload_n (pc := 36) dX2_integerOf_36 rfl ?_
      refine cx_gtC (pc := 37) 4 hE r28 fl_X2_26 rfl rfl (Nat.le_of_ble_eq_true rfl) dX2_integerOf_37 ?_
      refine aw_iload_n (pc := 40) dX2_integerOf_40 rfl ?_
      refine cx_callV (pc := 41) (P := pV) (dC := 1) (mcC := 0) (msC := 0) [iv v2_11] hE r4 (fun r1 H1 => s_X9_addLeft l sc E R hE hR.ys n v2_11 hv2_11 m29 r1 H1) ca_X2_56 rfl ⟨_, rfl, rfl⟩ rfl rfl (Nat.le_of_ble_eq_true rfl) (Nat.le_of_ble_eq_true rfl) (Nat.le_of_ble_eq_true rfl) (Nat.le_of_ble_eq_true rfl) dX2_integerOf_41 H (fun x41 m41 v41 hh41 H hp => ?_)
      refine cx_backV hp ?_
      refine aw_goto (pc := 44) 55 dX2_integerOf_44 rfl ?_
      exact AW.sel [0, 1, 3] rfl (hj55 _ H)
    · -- 33: 47
      refine aw_aload_n (pc := 47) dX2_integerOf_47 rfl ?_
      refine cx_gtC (pc := 48) 4 hE r28 fl_X2_26 rfl rfl (Nat.le_of_ble_eq_true rfl) dX2_integerOf_48 ?_
      refine aw_iload_n (pc := 51) dX2_integerOf_51 rfl ?_
      refine cx_callV (pc := 52) (P := pV) (dC := 1) (mcC := 0) (msC := 0) [iv v2_11] hE r4 (fun r1 H1 => s_X9_addRight l sc E R hE hR.ys n v2_11 hv2_11 m29 r1 H1) ca_X2_60 rfl ⟨_, rfl, rfl⟩ rfl rfl (Nat.le_of_ble_eq_true rfl) (Nat.le_of_ble_eq_true rfl) (Nat.le_of_ble_eq_true rfl) (Nat.le_of_ble_eq_true rfl) dX2_integerOf_52 H (fun x52 m52 v52 hh52 H hp => ?_)
      refine cx_backV hp ?_
      exact AW.sel [0, 1, 3] rfl (hj55 _ H)
  · -- 22: 69
    refine aw_aload_n (pc := 69) dX2_integerOf_69 rfl ?_
    refine cx_gtC (pc := 70) 18 hE r28 fl_X2_30 rfl rfl (Nat.le_of_ble_eq_true rfl) dX2_integerOf_70 ?_
    refine aw_iload_n (pc := 73) dX2_integerOf_73 rfl ?_
    refine cx_callV (pc := 74) (P := pG) (dC := 4) (mcC := 4) (msC := 125) [iv v2_11] hE r18 (fun r1 H1 => s_X4_written l sc E R hE hR.ys hsc n v2_11 hv2_11 m11 r1 H1) ca_X2_43 rfl ⟨_, rfl, rfl⟩ rfl rfl (Nat.le_of_ble_eq_true rfl) (Nat.le_of_ble_eq_true rfl) (Nat.le_of_ble_eq_true rfl) (Nat.le_of_ble_eq_true rfl) dX2_integerOf_74 H (fun x74 m74 v74 hh74 H hp => ?_)
    refine cx_backG hp ?_
    exact cx_aret (pc := 77) ⟨_, rfl, Or.inl ⟨_, rfl⟩⟩ (Nat.le_of_ble_eq_true rfl) (Nat.le_of_ble_eq_true rfl) dX2_integerOf_77 H
/-- X2 beginHeap (I)V -/
def f_X2_beginHeap (n : Nat) (p1 : Int) (mi : Mem) : Option Rz :=
  cal (f_X9_begin n mi) fun _ m4 =>
  lp (F := Int → Mem → Option Rz) (fun _ _ => none) (fun w9 v2_9 m9 =>
    jn (fun (m55 : Mem) =>
      rt 0 m55
    ) fun (j55 : Mem → Option Rz) =>
    if v2_9 < p1 then (
      if v2_9 < 16 then (
        ldI m9 31 v2_9 fun x32 =>
        cal (f_X9_addLeft n x32 m9) fun _ m33 =>
        ldI m33 31 v2_9 fun x45 =>
        cal (f_X9_addRight n x45 m33) fun _ m46 =>
        w9 (w32 (v2_9 + 1)) m46
      ) else
      j55 m9
    ) else
    j55 m9
  ) n 0 m4
set_option maxRecDepth 100000 in
set_option maxHeartbeats 4000000 in
theorem s_X2_beginHeap (l : Launch) (sc : g_S) (E : Mem → g_H) (R : Nat → Prop) (hE : LE E R) (hR : RMK R) (n : Nat)  (p1 : Int) (hp1 : inR p1) (mi : Mem) (r : Rz) (H : f_X2_beginHeap n p1 mi = some r) : AMet l sc yX2_beginHeap cX2_beginHeap 3 none 2 0 0 [.ref 28, iv p1] (E mi) (pV E r) := by
  have r4 : R 4 := hR.1 4 (Nat.le_of_ble_eq_true rfl) (Nat.le_of_ble_eq_true rfl)
  have r28 : R 28 := hR.1 28 (Nat.le_of_ble_eq_true rfl) (Nat.le_of_ble_eq_true rfl)
  have r31 : R 31 := hR.1 31 (Nat.le_of_ble_eq_true rfl) (Nat.le_of_ble_eq_true rfl)
  unfold f_X2_beginHeap at H
  refine AMet.of (own := RX2) (by decide +kernel) rfl (Nat.le_of_ble_eq_true rfl) [(0, .ref 28), (1, iv p1)] rfl (fun D base ad => ?_)
  refine aw_aload_n (pc := 0) dX2_beginHeap_0 rfl ?_
  refine cx_gtC (pc := 1) 4 hE r28 fl_X2_26 rfl rfl (Nat.le_of_ble_eq_true rfl) dX2_beginHeap_1 ?_
  refine cx_callV (pc := 4) (P := pV) (dC := 1) (mcC := 0) (msC := 0) [] hE r4 (fun r1 H1 => s_X9_begin l sc E R hE hR.ys n mi r1 H1) ca_X2_53 rfl ⟨_, rfl, rfl⟩ rfl rfl (Nat.le_of_ble_eq_true rfl) (Nat.le_of_ble_eq_true rfl) (Nat.le_of_ble_eq_true rfl) (Nat.le_of_ble_eq_true rfl) dX2_beginHeap_4 H (fun x4 m4 v4 hh4 H hp => ?_)
  refine cx_backV hp ?_
  refine cx_iconst (pc := 7) dX2_beginHeap_7 ?_
  refine aw_istore_n (pc := 8) [(2, iv 0), (0, .ref 28), (1, iv p1)] dX2_beginHeap_8 rfl (by decide) ?_
  refine AW.sel [1, 2, 0] rfl (lp_ind (bot := fun _ _ => none) (fun (f9 : Int → Mem → Option Rz) => ∀ (v2_9 : Int) (m9 : Mem), inR v2_9 → f9 v2_9 m9 = some r → AW l D base sc RX2 yX2_beginHeap cX2_beginHeap 3 none 2 0 0 ad (E mi) (pV E r) 0 0 (E m9) 9 [(0, .ref 28), (1, iv p1), (2, iv v2_9)] []) (fun _ _ _ h9 => nomatch h9) (fun w9 ih9 v2_9 m9 hv2_9 H => ?_) n _ _ (inR_lit _ rfl) H)
  refine aw_iload_n (pc := 9) dX2_beginHeap_9 rfl ?_
  refine aw_iload_n (pc := 10) dX2_beginHeap_10 rfl ?_
  refine jn_ind (fun (f9 : Mem → Option Rz) => ∀ (m55 : Mem), f9 m55 = some r → AW l D base sc RX2 yX2_beginHeap cX2_beginHeap 3 none 2 0 0 ad (E mi) (pV E r) 0 0 (E m55) 55 [] []) (fun m55 H => ?_) (fun j55 hj55 H => ?_) H
  · -- 55
    exact cx_vret (pc := 55) rfl (Nat.le_of_ble_eq_true rfl) (Nat.le_of_ble_eq_true rfl) dX2_beginHeap_55 H
  refine cx_icmp_ge (pc := 11) 55 hv2_9 hp1 dX2_beginHeap_11 rfl H (fun H => ?_) (fun H => ?_)
  · -- 11: 14
    refine aw_iload_n (pc := 14) dX2_beginHeap_14 rfl ?_
    refine aw_aload_n (pc := 15) dX2_beginHeap_15 rfl ?_
    refine cx_gtC (pc := 16) 31 hE r28 fl_X2_18 rfl rfl (Nat.le_of_ble_eq_true rfl) dX2_beginHeap_16 ?_
    refine cx_lenC (pc := 19) (c := 16) hE r31 (fun _ => ⟨_, _, rfl, rfl⟩) dX2_beginHeap_19 ?_
    refine cx_icmp_ge (pc := 20) 55 hv2_9 (inR_lit _ rfl) dX2_beginHeap_20 rfl H (fun H => ?_) (fun H => ?_)
    · -- 20: 23
      refine aw_aload_n (pc := 23) dX2_beginHeap_23 rfl ?_
      refine cx_gtC (pc := 24) 4 hE r28 fl_X2_26 rfl rfl (Nat.le_of_ble_eq_true rfl) dX2_beginHeap_24 ?_
      refine aw_aload_n (pc := 27) dX2_beginHeap_27 rfl ?_
      refine cx_gtC (pc := 28) 31 hE r28 fl_X2_18 rfl rfl (Nat.le_of_ble_eq_true rfl) dX2_beginHeap_28 ?_
      refine aw_iload_n (pc := 31) dX2_beginHeap_31 rfl ?_
      refine cx_ldI (pc := 32) hE r31 hv2_9 dX2_beginHeap_32 H (fun x32 hx32 H => ?_)
      refine cx_callV (pc := 33) (P := pV) (dC := 1) (mcC := 0) (msC := 0) [iv x32] hE r4 (fun r1 H1 => s_X9_addLeft l sc E R hE hR.ys n x32 hx32 m9 r1 H1) ca_X2_56 rfl ⟨_, rfl, rfl⟩ rfl rfl (Nat.le_of_ble_eq_true rfl) (Nat.le_of_ble_eq_true rfl) (Nat.le_of_ble_eq_true rfl) (Nat.le_of_ble_eq_true rfl) dX2_beginHeap_33 H (fun x33 m33 v33 hh33 H hp => ?_)
      refine cx_backV hp ?_
      refine aw_aload_n (pc := 36) dX2_beginHeap_36 rfl ?_
      refine cx_gtC (pc := 37) 4 hE r28 fl_X2_26 rfl rfl (Nat.le_of_ble_eq_true rfl) dX2_beginHeap_37 ?_
      refine aw_aload_n (pc := 40) dX2_beginHeap_40 rfl ?_
      refine cx_gtC (pc := 41) 31 hE r28 fl_X2_18 rfl rfl (Nat.le_of_ble_eq_true rfl) dX2_beginHeap_41 ?_
      refine aw_iload_n (pc := 44) dX2_beginHeap_44 rfl ?_
      refine cx_ldI (pc := 45) hE r31 hv2_9 dX2_beginHeap_45 H (fun x45 hx45 H => ?_)
      refine cx_callV (pc := 46) (P := pV) (dC := 1) (mcC := 0) (msC := 0) [iv x45] hE r4 (fun r1 H1 => s_X9_addRight l sc E R hE hR.ys n x45 hx45 m33 r1 H1) ca_X2_60 rfl ⟨_, rfl, rfl⟩ rfl rfl (Nat.le_of_ble_eq_true rfl) (Nat.le_of_ble_eq_true rfl) (Nat.le_of_ble_eq_true rfl) (Nat.le_of_ble_eq_true rfl) dX2_beginHeap_46 H (fun x46 m46 v46 hh46 H hp => ?_)
      refine cx_backV hp ?_
      refine cx_iinc (pc := 49) [(2, iv (w32 (v2_9 + 1))), (0, .ref 28), (1, iv p1)] dX2_beginHeap_49 rfl rfl (by decide) ?_
      refine aw_goto (pc := 52) 9 dX2_beginHeap_52 rfl ?_
      exact AW.sel [1, 2, 0] rfl (ih9 _ _ (inR_w32 _) H)
    · -- 20: 55
      exact AW.sel [] rfl (hj55 _ H)
  · -- 11: 55
    exact AW.sel [] rfl (hj55 _ H)
/-- X2 heapNode (I)I -/
def f_X2_heapNode (n : Nat) (p1 : Int) (mi : Mem) : Option Rz :=
  lp (F := Int → Int → Mem → Option Rz) (fun _ _ _ => none) (fun w4 v2_4 v3_4 m4 =>
    jn (fun (m44 : Mem) =>
      rt v2_4 m44
    ) fun (j44 : Mem → Option Rz) =>
    if p1 < v3_4 then (
      j44 m4
    ) else
    if v3_4 < 16 then (
      cal (f_X2_beginHeap n v3_4 m4) fun _ m20 =>
      cal (f_X9_end n m20) fun x27 m27 =>
      stI m27 31 v3_4 x27 fun m37 =>
      w4 x27 (w32 (v3_4 + 1)) m37
    ) else
    j44 m4
  ) n 0 0 mi
set_option maxRecDepth 100000 in
set_option maxHeartbeats 4000000 in
theorem s_X2_heapNode (l : Launch) (sc : g_S) (E : Mem → g_H) (R : Nat → Prop) (hE : LE E R) (hR : RMK R) (n : Nat)  (p1 : Int) (hp1 : inR p1) (mi : Mem) (r : Rz) (H : f_X2_heapNode n p1 mi = some r) : AMet l sc yX2_heapNode cX2_heapNode 4 (some FieldType.int) 3 0 0 [.ref 28, iv p1] (E mi) (pI E r) := by
  have r4 : R 4 := hR.1 4 (Nat.le_of_ble_eq_true rfl) (Nat.le_of_ble_eq_true rfl)
  have r28 : R 28 := hR.1 28 (Nat.le_of_ble_eq_true rfl) (Nat.le_of_ble_eq_true rfl)
  have r31 : R 31 := hR.1 31 (Nat.le_of_ble_eq_true rfl) (Nat.le_of_ble_eq_true rfl)
  unfold f_X2_heapNode at H
  refine AMet.of (own := RX2) (by decide +kernel) rfl (Nat.le_of_ble_eq_true rfl) [(0, .ref 28), (1, iv p1)] rfl (fun D base ad => ?_)
  refine cx_iconst (pc := 0) dX2_heapNode_0 ?_
  refine aw_istore_n (pc := 1) [(2, iv 0), (0, .ref 28), (1, iv p1)] dX2_heapNode_1 rfl (by decide) ?_
  refine cx_iconst (pc := 2) dX2_heapNode_2 ?_
  refine aw_istore_n (pc := 3) [(3, iv 0), (2, iv 0), (0, .ref 28), (1, iv p1)] dX2_heapNode_3 rfl (by decide) ?_
  refine AW.sel [2, 3, 1, 0] rfl (lp_ind (bot := fun _ _ _ => none) (fun (f9 : Int → Int → Mem → Option Rz) => ∀ (v2_4 : Int) (v3_4 : Int) (m4 : Mem), inR v2_4 → inR v3_4 → f9 v2_4 v3_4 m4 = some r → AW l D base sc RX2 yX2_heapNode cX2_heapNode 4 (some FieldType.int) 3 0 0 ad (E mi) (pI E r) 0 0 (E m4) 4 [(0, .ref 28), (1, iv p1), (2, iv v2_4), (3, iv v3_4)] []) (fun _ _ _ _ _ h9 => nomatch h9) (fun w4 ih4 v2_4 v3_4 m4 hv2_4 hv3_4 H => ?_) n _ _ _ (inR_lit _ rfl) (inR_lit _ rfl) H)
  refine aw_iload_n (pc := 4) dX2_heapNode_4 rfl ?_
  refine aw_iload_n (pc := 5) dX2_heapNode_5 rfl ?_
  refine jn_ind (fun (f9 : Mem → Option Rz) => ∀ (m44 : Mem), f9 m44 = some r → AW l D base sc RX2 yX2_heapNode cX2_heapNode 4 (some FieldType.int) 3 0 0 ad (E mi) (pI E r) 0 0 (E m44) 44 [(2, iv v2_4)] []) (fun m44 H => ?_) (fun j44 hj44 H => ?_) H
  · -- 44
    refine aw_iload_n (pc := 44) dX2_heapNode_44 rfl ?_
    exact cx_iret (pc := 45) hv2_4 rfl (Nat.le_of_ble_eq_true rfl) (Nat.le_of_ble_eq_true rfl) dX2_heapNode_45 H
  refine cx_icmp_gt (pc := 6) 44 hv3_4 hp1 dX2_heapNode_6 rfl H (fun H => ?_) (fun H => ?_)
  · -- 6: 44
    exact AW.sel [2] rfl (hj44 _ H)
  · -- 6: 9
    refine aw_iload_n (pc := 9) dX2_heapNode_9 rfl ?_
    refine aw_aload_n (pc := 10) dX2_heapNode_10 rfl ?_
    refine cx_gtC (pc := 11) 31 hE r28 fl_X2_18 rfl rfl (Nat.le_of_ble_eq_true rfl) dX2_heapNode_11 ?_
    refine cx_lenC (pc := 14) (c := 16) hE r31 (fun _ => ⟨_, _, rfl, rfl⟩) dX2_heapNode_14 ?_
    refine cx_icmp_ge (pc := 15) 44 hv3_4 (inR_lit _ rfl) dX2_heapNode_15 rfl H (fun H => ?_) (fun H => ?_)
    · -- 15: 18
      refine aw_aload_n (pc := 18) dX2_heapNode_18 rfl ?_
      refine aw_iload_n (pc := 19) dX2_heapNode_19 rfl ?_
      refine cx_callV (pc := 20) (P := pV) (dC := 2) (mcC := 0) (msC := 0) [iv v3_4] hE r28 (fun r1 H1 => s_X2_beginHeap l sc E R hE hR n v3_4 hv3_4 m4 r1 H1) ca_X2_79 rfl ⟨_, rfl, rfl⟩ rfl rfl (Nat.le_of_ble_eq_true rfl) (Nat.le_of_ble_eq_true rfl) (Nat.le_of_ble_eq_true rfl) (Nat.le_of_ble_eq_true rfl) dX2_heapNode_20 H (fun x20 m20 v20 hh20 H hp => ?_)
      refine cx_backV hp ?_
      refine aw_aload_n (pc := 23) dX2_heapNode_23 rfl ?_
      refine cx_gtC (pc := 24) 4 hE r28 fl_X2_26 rfl rfl (Nat.le_of_ble_eq_true rfl) dX2_heapNode_24 ?_
      refine cx_callV (pc := 27) (P := pI) (dC := 2) (mcC := 0) (msC := 0) [] hE r4 (fun r1 H1 => s_X9_end l sc E R hE hR.ys n m20 r1 H1) ca_X2_63 rfl ⟨_, rfl, rfl⟩ rfl rfl (Nat.le_of_ble_eq_true rfl) (Nat.le_of_ble_eq_true rfl) (Nat.le_of_ble_eq_true rfl) (Nat.le_of_ble_eq_true rfl) dX2_heapNode_27 H (fun x27 m27 v27 hh27 H hp => ?_)
      refine cx_backI hp (fun hx27 => ?_)
      refine aw_istore_n (pc := 30) [(2, iv x27), (0, .ref 28), (1, iv p1), (3, iv v3_4)] dX2_heapNode_30 rfl (by decide) ?_
      refine aw_aload_n (pc := 31) dX2_heapNode_31 rfl ?_
      refine cx_gtC (pc := 32) 31 hE r28 fl_X2_18 rfl rfl (Nat.le_of_ble_eq_true rfl) dX2_heapNode_32 ?_
      refine aw_iload_n (pc := 35) dX2_heapNode_35 rfl ?_
      refine aw_iload_n (pc := 36) dX2_heapNode_36 rfl ?_
      refine cx_stI (pc := 37) hE r31 hv3_4 dX2_heapNode_37 H (fun m37 H => ?_)
      refine cx_iinc (pc := 38) [(3, iv (w32 (v3_4 + 1))), (2, iv x27), (0, .ref 28), (1, iv p1)] dX2_heapNode_38 rfl rfl (by decide) ?_
      refine aw_goto (pc := 41) 4 dX2_heapNode_41 rfl ?_
      exact AW.sel [2, 3, 1, 0] rfl (ih4 _ _ _ hx27 (inR_w32 _) H)
    · -- 15: 44
      exact AW.sel [2] rfl (hj44 _ H)
/-- X2 heapOf (I)LUppityGames$Game; -/
def f_X2_heapOf (n : Nat) (p1 : Int) (mi : Mem) : Option Rz :=
  cal (f_X9_clear n mi) fun _ m4 =>
  cal (f_X2_heapNode n p1 m4) fun x13 m13 =>
  cal (f_X4_written n x13 m13) fun x16 m16 =>
  rt (x16.toNat : Nat) m16
set_option maxRecDepth 100000 in
set_option maxHeartbeats 4000000 in
theorem s_X2_heapOf (l : Launch) (sc : g_S) (E : Mem → g_H) (R : Nat → Prop) (hE : LE E R) (hR : RMK R) (hsc : sc.1 = 0) (n : Nat)  (p1 : Int) (hp1 : inR p1) (mi : Mem) (r : Rz) (H : f_X2_heapOf n p1 mi = some r) : AMet l sc yX2_heapOf cX2_heapOf 2 (some (FieldType.object "UppityGames$Game")) 5 4 125 [.ref 28, iv p1] (E mi) (pG E r) := by
  have r4 : R 4 := hR.1 4 (Nat.le_of_ble_eq_true rfl) (Nat.le_of_ble_eq_true rfl)
  have r18 : R 18 := hR.1 18 (Nat.le_of_ble_eq_true rfl) (Nat.le_of_ble_eq_true rfl)
  have r28 : R 28 := hR.1 28 (Nat.le_of_ble_eq_true rfl) (Nat.le_of_ble_eq_true rfl)
  unfold f_X2_heapOf at H
  refine AMet.of (own := RX2) (by decide +kernel) rfl (Nat.le_of_ble_eq_true rfl) [(0, .ref 28), (1, iv p1)] rfl (fun D base ad => ?_)
  refine aw_aload_n (pc := 0) dX2_heapOf_0 rfl ?_
  refine cx_gtC (pc := 1) 4 hE r28 fl_X2_26 rfl rfl (Nat.le_of_ble_eq_true rfl) dX2_heapOf_1 ?_
  refine cx_callV (pc := 4) (P := pV) (dC := 3) (mcC := 0) (msC := 0) [] hE r4 (fun r1 H1 => s_X9_clear l sc E R hE hR.ys n mi r1 H1) ca_X2_34 rfl ⟨_, rfl, rfl⟩ rfl rfl (Nat.le_of_ble_eq_true rfl) (Nat.le_of_ble_eq_true rfl) (Nat.le_of_ble_eq_true rfl) (Nat.le_of_ble_eq_true rfl) dX2_heapOf_4 H (fun x4 m4 v4 hh4 H hp => ?_)
  refine cx_backV hp ?_
  refine aw_aload_n (pc := 7) dX2_heapOf_7 rfl ?_
  refine cx_gtC (pc := 8) 18 hE r28 fl_X2_30 rfl rfl (Nat.le_of_ble_eq_true rfl) dX2_heapOf_8 ?_
  refine aw_aload_n (pc := 11) dX2_heapOf_11 rfl ?_
  refine aw_iload_n (pc := 12) dX2_heapOf_12 rfl ?_
  refine cx_callV (pc := 13) (P := pI) (dC := 3) (mcC := 0) (msC := 0) [iv p1] hE r28 (fun r1 H1 => s_X2_heapNode l sc E R hE hR n p1 hp1 m4 r1 H1) ca_X2_76 rfl ⟨_, rfl, rfl⟩ rfl rfl (Nat.le_of_ble_eq_true rfl) (Nat.le_of_ble_eq_true rfl) (Nat.le_of_ble_eq_true rfl) (Nat.le_of_ble_eq_true rfl) dX2_heapOf_13 H (fun x13 m13 v13 hh13 H hp => ?_)
  refine cx_backI hp (fun hx13 => ?_)
  refine cx_callV (pc := 16) (P := pG) (dC := 4) (mcC := 4) (msC := 125) [iv x13] hE r18 (fun r1 H1 => s_X4_written l sc E R hE hR.ys hsc n x13 hx13 m13 r1 H1) ca_X2_43 rfl ⟨_, rfl, rfl⟩ rfl rfl (Nat.le_of_ble_eq_true rfl) (Nat.le_of_ble_eq_true rfl) (Nat.le_of_ble_eq_true rfl) (Nat.le_of_ble_eq_true rfl) dX2_heapOf_16 H (fun x16 m16 v16 hh16 H hp => ?_)
  refine cx_backG hp ?_
  exact cx_aret (pc := 19) ⟨_, rfl, Or.inl ⟨_, rfl⟩⟩ (Nat.le_of_ble_eq_true rfl) (Nat.le_of_ble_eq_true rfl) dX2_heapOf_19 H
/-- X2 load (LUppityGames$Game;Z)I -/
def f_X2_load (n : Nat) (p1 : Nat) (p2 : Int) (mi : Mem) : Option Rz :=
  lp (F := Int → Int → Mem → Option Rz) (fun _ _ _ => none) (fun w5 v3_5 v4_5 m5 =>
    jn (fun (m147 : Mem) =>
      rt v3_5 m147
    ) fun (j147 : Mem → Option Rz) =>
    if p1 = 0 then (
      j147 m5
    ) else
    isD p1 <|
    isG m5 p1 <| cal (f_X1_width n p1 m5) fun x12 m12 =>
    if v4_5 < x12 then (
      if v4_5 < 11 then (
        cal (f_X9_begin n m12) fun _ m32 =>
        lp (F := Int → Mem → Option Rz) (fun _ _ => none) (fun w38 v5_38 m38 =>
          if v5_38 < v4_5 then (
            jn (fun (s0_57 : Int) (m57 : Mem) =>
              isD p1 <|
              isG m57 p1 <| cal (f_X1_options n p1 v4_5 s0_57 m57) fun x57 m57 =>
              jn (fun (m82 : Mem) =>
                jn (fun (s0_94 : Int) (m94 : Mem) =>
                  isD p1 <|
                  isG m94 p1 <| cal (f_X1_options n p1 v4_5 s0_94 m94) fun x94 m94 =>
                  jn (fun (m119 : Mem) =>
                    w38 (w32 (v5_38 + 1)) m119
                  ) fun (j119 : Mem → Option Rz) =>
                  if iand (ishr x94 v5_38) 1 = 0 then (
                    j119 m94
                  ) else
                  ldI m94 29 v5_38 fun x115 =>
                  cal (f_X9_addRight n x115 m94) fun _ m116 =>
                  j119 m116
                ) fun (j94 : Int → Mem → Option Rz) =>
                if p2 = 0 then (
                  j94 1 m82
                ) else
                j94 0 m82
              ) fun (j82 : Mem → Option Rz) =>
              if iand (ishr x57 v5_38) 1 = 0 then (
                j82 m57
              ) else
              ldI m57 29 v5_38 fun x78 =>
              cal (f_X9_addLeft n x78 m57) fun _ m79 =>
              j82 m79
            ) fun (j57 : Int → Mem → Option Rz) =>
            if p2 = 0 then (
              j57 0 m38
            ) else
            j57 1 m38
          ) else
          cal (f_X9_end n m38) fun x129 m129 =>
          stI m129 29 v4_5 x129 fun m140 =>
          w5 x129 (w32 (v4_5 + 1)) m140
        ) n 0 m32
      ) else
      j147 m12
    ) else
    j147 m12
  ) n (-1) 0 mi
set_option maxRecDepth 100000 in
set_option maxHeartbeats 4000000 in
theorem s_X2_load (l : Launch) (sc : g_S) (E : Mem → g_H) (R : Nat → Prop) (hE : LE E R) (hR : RMK R) (n : Nat)  (p1 : Nat) (p2 : Int) (hp2 : inR p2) (mi : Mem) (r : Rz) (H : f_X2_load n p1 p2 mi = some r) : AMet l sc yX2_load cX2_load 6 (some FieldType.int) 3 0 0 [.ref 28, rv p1, iv p2] (E mi) (pI E r) := by
  have r4 : R 4 := hR.1 4 (Nat.le_of_ble_eq_true rfl) (Nat.le_of_ble_eq_true rfl)
  have r28 : R 28 := hR.1 28 (Nat.le_of_ble_eq_true rfl) (Nat.le_of_ble_eq_true rfl)
  have r29 : R 29 := hR.1 29 (Nat.le_of_ble_eq_true rfl) (Nat.le_of_ble_eq_true rfl)
  unfold f_X2_load at H
  refine AMet.of (own := RX2) (by decide +kernel) rfl (by rcases rv_or p1 with ep1 | ⟨_, ep1⟩ <;> simp only [ep1] <;> exact Nat.le_of_ble_eq_true rfl) [(0, .ref 28), (1, rv p1), (2, iv p2)] (by rcases rv_or p1 with ep1 | ⟨_, ep1⟩ <;> simp only [ep1] <;> rfl) (fun D base ad => ?_)
  refine cx_iconst (pc := 0) dX2_load_0 ?_
  refine aw_istore_n (pc := 1) [(3, iv (-1)), (0, .ref 28), (1, rv p1), (2, iv p2)] dX2_load_1 rfl (by decide) ?_
  refine cx_iconst (pc := 2) dX2_load_2 ?_
  refine aw_istore (pc := 3) [(4, iv 0), (3, iv (-1)), (0, .ref 28), (1, rv p1), (2, iv p2)] dX2_load_3 rfl (by decide) ?_
  refine AW.sel [2, 3, 4, 1, 0] rfl (lp_ind (bot := fun _ _ _ => none) (fun (f9 : Int → Int → Mem → Option Rz) => ∀ (v3_5 : Int) (v4_5 : Int) (m5 : Mem), inR v3_5 → inR v4_5 → f9 v3_5 v4_5 m5 = some r → AW l D base sc RX2 yX2_load cX2_load 6 (some FieldType.int) 3 0 0 ad (E mi) (pI E r) 0 0 (E m5) 5 [(0, .ref 28), (1, rv p1), (2, iv p2), (3, iv v3_5), (4, iv v4_5)] []) (fun _ _ _ _ _ h9 => nomatch h9) (fun w5 ih5 v3_5 v4_5 m5 hv3_5 hv4_5 H => ?_) n _ _ _ (inR_lit _ rfl) (inR_lit _ rfl) H)
  refine cx_aload_n (pc := 5) dX2_load_5 rfl ?_
  refine jn_ind (fun (f9 : Mem → Option Rz) => ∀ (m147 : Mem), f9 m147 = some r → AW l D base sc RX2 yX2_load cX2_load 6 (some FieldType.int) 3 0 0 ad (E mi) (pI E r) 0 0 (E m147) 147 [(3, iv v3_5)] []) (fun m147 H => ?_) (fun j147 hj147 H => ?_) H
  · -- 147
    refine aw_iload_n (pc := 147) dX2_load_147 rfl ?_
    exact cx_iret (pc := 148) hv3_5 rfl (Nat.le_of_ble_eq_true rfl) (Nat.le_of_ble_eq_true rfl) dX2_load_148 H
  refine cx_ifnull (pc := 6) 147 dX2_load_6 rfl H (fun H => ?_) (fun H => ?_)
  · -- 6: 147
    exact AW.sel [3] rfl (hj147 _ H)
  · -- 6: 9
    refine aw_iload (pc := 9) dX2_load_9 rfl ?_
    refine cx_aload_n (pc := 11) dX2_load_11 rfl ?_
    refine cx_nn0 H (fun hg12_1 H => ?_)
    refine cx_callG (pc := 12) (P := pI) (dC := 0) (mcC := 0) (msC := 0) [] hE hR.d (fun r1 H1 => s_X1_width l sc E R hE hR.d n p1 hg12_1 m5 r1 H1) ca_X2_97 ⟨_, rfl, rfl⟩ rfl rfl (Nat.le_of_ble_eq_true rfl) (Nat.le_of_ble_eq_true rfl) (Nat.le_of_ble_eq_true rfl) (Nat.le_of_ble_eq_true rfl) dX2_load_12 H (fun x12 m12 v12 hh12 H hp => ?_)
    refine cx_backI hp (fun hx12 => ?_)
    refine cx_icmp_ge (pc := 15) 147 hv4_5 hx12 dX2_load_15 rfl H (fun H => ?_) (fun H => ?_)
    · -- 15: 18
      refine aw_iload (pc := 18) dX2_load_18 rfl ?_
      refine aw_aload_n (pc := 20) dX2_load_20 rfl ?_
      refine cx_gtC (pc := 21) 29 hE r28 fl_X2_11 rfl rfl (Nat.le_of_ble_eq_true rfl) dX2_load_21 ?_
      refine cx_lenC (pc := 24) (c := 11) hE r29 (fun _ => ⟨_, _, rfl, rfl⟩) dX2_load_24 ?_
      refine cx_icmp_ge (pc := 25) 147 hv4_5 (inR_lit _ rfl) dX2_load_25 rfl H (fun H => ?_) (fun H => ?_)
      · -- 25: 28
        refine aw_aload_n (pc := 28) dX2_load_28 rfl ?_
        refine cx_gtC (pc := 29) 4 hE r28 fl_X2_26 rfl rfl (Nat.le_of_ble_eq_true rfl) dX2_load_29 ?_
        refine cx_callV (pc := 32) (P := pV) (dC := 1) (mcC := 0) (msC := 0) [] hE r4 (fun r1 H1 => s_X9_begin l sc E R hE hR.ys n m12 r1 H1) ca_X2_53 rfl ⟨_, rfl, rfl⟩ rfl rfl (Nat.le_of_ble_eq_true rfl) (Nat.le_of_ble_eq_true rfl) (Nat.le_of_ble_eq_true rfl) (Nat.le_of_ble_eq_true rfl) dX2_load_32 H (fun x32 m32 v32 hh32 H hp => ?_)
        refine cx_backV hp ?_
        refine cx_iconst (pc := 35) dX2_load_35 ?_
        refine aw_istore (pc := 36) [(5, iv 0), (0, .ref 28), (1, rv p1), (2, iv p2), (3, iv v3_5), (4, iv v4_5)] dX2_load_36 rfl (by decide) ?_
        refine AW.sel [1, 2, 3, 5, 0] rfl (lp_ind (bot := fun _ _ => none) (fun (f9 : Int → Mem → Option Rz) => ∀ (v5_38 : Int) (m38 : Mem), inR v5_38 → f9 v5_38 m38 = some r → AW l D base sc RX2 yX2_load cX2_load 6 (some FieldType.int) 3 0 0 ad (E mi) (pI E r) 0 0 (E m38) 38 [(0, .ref 28), (1, rv p1), (2, iv p2), (4, iv v4_5), (5, iv v5_38)] []) (fun _ _ _ h9 => nomatch h9) (fun w38 ih38 v5_38 m38 hv5_38 H => ?_) n _ _ (inR_lit _ rfl) H)
        refine aw_iload (pc := 38) dX2_load_38 rfl ?_
        refine aw_iload (pc := 40) dX2_load_40 rfl ?_
        refine cx_icmp_ge (pc := 42) 125 hv5_38 hv4_5 dX2_load_42 rfl H (fun H => ?_) (fun H => ?_)
        · -- 42: 45
          refine cx_aload_n (pc := 45) dX2_load_45 rfl ?_
          refine aw_iload (pc := 46) dX2_load_46 rfl ?_
          refine aw_iload_n (pc := 48) dX2_load_48 rfl ?_
          refine jn_ind (fun (f9 : Int → Mem → Option Rz) => ∀ (s0_57 : Int) (m57 : Mem), inR s0_57 → f9 s0_57 m57 = some r → AW l D base sc RX2 yX2_load cX2_load 6 (some FieldType.int) 3 0 0 ad (E mi) (pI E r) 0 0 (E m57) 57 [(0, .ref 28), (1, rv p1), (2, iv p2), (4, iv v4_5), (5, iv v5_38)] [iv s0_57, iv v4_5, rv p1]) (fun s0_57 m57 hs0_57 H => ?_) (fun j57 hj57 H => ?_) H
          · -- 57
            refine cx_nn2 H (fun hg57_2 H => ?_)
            refine cx_callG (pc := 57) (P := pI) (dC := 0) (mcC := 0) (msC := 0) [iv v4_5, iv s0_57] hE hR.d (fun r1 H1 => s_X1_options l sc E R hE hR.d n p1 v4_5 s0_57 hg57_2 hv4_5 hs0_57 m57 r1 H1) ca_X2_106 ⟨_, rfl, rfl⟩ rfl rfl (Nat.le_of_ble_eq_true rfl) (Nat.le_of_ble_eq_true rfl) (Nat.le_of_ble_eq_true rfl) (Nat.le_of_ble_eq_true rfl) dX2_load_57 H (fun x57 m57 v57 hh57 H hp => ?_)
            refine cx_backI hp (fun hx57 => ?_)
            refine aw_iload (pc := 60) dX2_load_60 rfl ?_
            refine cx_ishr (pc := 62) dX2_load_62 ?_
            refine cx_iconst (pc := 63) dX2_load_63 ?_
            refine cx_iand (pc := 64) dX2_load_64 ?_
            refine jn_ind (fun (f9 : Mem → Option Rz) => ∀ (m82 : Mem), f9 m82 = some r → AW l D base sc RX2 yX2_load cX2_load 6 (some FieldType.int) 3 0 0 ad (E mi) (pI E r) 0 0 (E m82) 82 [(0, .ref 28), (1, rv p1), (2, iv p2), (4, iv v4_5), (5, iv v5_38)] []) (fun m82 H => ?_) (fun j82 hj82 H => ?_) H
            · -- 82
              refine cx_aload_n (pc := 82) dX2_load_82 rfl ?_
              refine aw_iload (pc := 83) dX2_load_83 rfl ?_
              refine aw_iload_n (pc := 85) dX2_load_85 rfl ?_
              refine jn_ind (fun (f9 : Int → Mem → Option Rz) => ∀ (s0_94 : Int) (m94 : Mem), inR s0_94 → f9 s0_94 m94 = some r → AW l D base sc RX2 yX2_load cX2_load 6 (some FieldType.int) 3 0 0 ad (E mi) (pI E r) 0 0 (E m94) 94 [(0, .ref 28), (1, rv p1), (2, iv p2), (4, iv v4_5), (5, iv v5_38)] [iv s0_94, iv v4_5, rv p1]) (fun s0_94 m94 hs0_94 H => ?_) (fun j94 hj94 H => ?_) H
              · -- 94
                refine cx_nn2 H (fun hg94_3 H => ?_)
                refine cx_callG (pc := 94) (P := pI) (dC := 0) (mcC := 0) (msC := 0) [iv v4_5, iv s0_94] hE hR.d (fun r1 H1 => s_X1_options l sc E R hE hR.d n p1 v4_5 s0_94 hg94_3 hv4_5 hs0_94 m94 r1 H1) ca_X2_106 ⟨_, rfl, rfl⟩ rfl rfl (Nat.le_of_ble_eq_true rfl) (Nat.le_of_ble_eq_true rfl) (Nat.le_of_ble_eq_true rfl) (Nat.le_of_ble_eq_true rfl) dX2_load_94 H (fun x94 m94 v94 hh94 H hp => ?_)
                refine cx_backI hp (fun hx94 => ?_)
                refine aw_iload (pc := 97) dX2_load_97 rfl ?_
                refine cx_ishr (pc := 99) dX2_load_99 ?_
                refine cx_iconst (pc := 100) dX2_load_100 ?_
                refine cx_iand (pc := 101) dX2_load_101 ?_
                refine jn_ind (fun (f9 : Mem → Option Rz) => ∀ (m119 : Mem), f9 m119 = some r → AW l D base sc RX2 yX2_load cX2_load 6 (some FieldType.int) 3 0 0 ad (E mi) (pI E r) 0 0 (E m119) 119 [(0, .ref 28), (1, rv p1), (2, iv p2), (4, iv v4_5), (5, iv v5_38)] []) (fun m119 H => ?_) (fun j119 hj119 H => ?_) H
                · -- 119
                  refine cx_iinc (pc := 119) [(5, iv (w32 (v5_38 + 1))), (0, .ref 28), (1, rv p1), (2, iv p2), (4, iv v4_5)] dX2_load_119 rfl rfl (by decide) ?_
                  refine aw_goto (pc := 122) 38 dX2_load_122 rfl ?_
                  exact AW.sel [1, 2, 3, 4, 0] rfl (ih38 _ _ (inR_w32 _) H)
                refine cx_if_eq (pc := 102) 119 (inR_32 _) dX2_load_102 rfl H (fun H => ?_) (fun H => ?_)
                · -- 102: 119
                  exact AW.sel [0, 1, 2, 3, 4] rfl (hj119 _ H)
                · -- 102: 105
                  refine aw_aload_n (pc := 105) dX2_load_105 rfl ?_
                  refine cx_gtC (pc := 106) 4 hE r28 fl_X2_26 rfl rfl (Nat.le_of_ble_eq_true rfl) dX2_load_106 ?_
                  refine aw_aload_n (pc := 109) dX2_load_109 rfl ?_
                  refine cx_gtC (pc := 110) 29 hE r28 fl_X2_11 rfl rfl (Nat.le_of_ble_eq_true rfl) dX2_load_110 ?_
                  refine aw_iload (pc := 113) dX2_load_113 rfl ?_
                  refine cx_ldI (pc := 115) hE r29 hv5_38 dX2_load_115 H (fun x115 hx115 H => ?_)
                  refine cx_callV (pc := 116) (P := pV) (dC := 1) (mcC := 0) (msC := 0) [iv x115] hE r4 (fun r1 H1 => s_X9_addRight l sc E R hE hR.ys n x115 hx115 m94 r1 H1) ca_X2_60 rfl ⟨_, rfl, rfl⟩ rfl rfl (Nat.le_of_ble_eq_true rfl) (Nat.le_of_ble_eq_true rfl) (Nat.le_of_ble_eq_true rfl) (Nat.le_of_ble_eq_true rfl) dX2_load_116 H (fun x116 m116 v116 hh116 H hp => ?_)
                  refine cx_backV hp ?_
                  exact AW.sel [0, 1, 2, 3, 4] rfl (hj119 _ H)
              refine cx_if_eq (pc := 86) 93 hp2 dX2_load_86 rfl H (fun H => ?_) (fun H => ?_)
              · -- 86: 93
                refine cx_iconst (pc := 93) dX2_load_93 ?_
                exact AW.sel [0, 1, 2, 3, 4] rfl (hj94 _ _ (inR_lit _ rfl) H)
              · -- 86: 89
                refine cx_iconst (pc := 89) dX2_load_89 ?_
                refine aw_goto (pc := 90) 94 dX2_load_90 rfl ?_
                exact AW.sel [0, 1, 2, 3, 4] rfl (hj94 _ _ (inR_lit _ rfl) H)
            refine cx_if_eq (pc := 65) 82 (inR_32 _) dX2_load_65 rfl H (fun H => ?_) (fun H => ?_)
            · -- 65: 82
              exact AW.sel [0, 1, 2, 3, 4] rfl (hj82 _ H)
            · -- 65: 68
              refine aw_aload_n (pc := 68) dX2_load_68 rfl ?_
              refine cx_gtC (pc := 69) 4 hE r28 fl_X2_26 rfl rfl (Nat.le_of_ble_eq_true rfl) dX2_load_69 ?_
              refine aw_aload_n (pc := 72) dX2_load_72 rfl ?_
              refine cx_gtC (pc := 73) 29 hE r28 fl_X2_11 rfl rfl (Nat.le_of_ble_eq_true rfl) dX2_load_73 ?_
              refine aw_iload (pc := 76) dX2_load_76 rfl ?_
              refine cx_ldI (pc := 78) hE r29 hv5_38 dX2_load_78 H (fun x78 hx78 H => ?_)
              refine cx_callV (pc := 79) (P := pV) (dC := 1) (mcC := 0) (msC := 0) [iv x78] hE r4 (fun r1 H1 => s_X9_addLeft l sc E R hE hR.ys n x78 hx78 m57 r1 H1) ca_X2_56 rfl ⟨_, rfl, rfl⟩ rfl rfl (Nat.le_of_ble_eq_true rfl) (Nat.le_of_ble_eq_true rfl) (Nat.le_of_ble_eq_true rfl) (Nat.le_of_ble_eq_true rfl) dX2_load_79 H (fun x79 m79 v79 hh79 H hp => ?_)
              refine cx_backV hp ?_
              exact AW.sel [0, 1, 2, 3, 4] rfl (hj82 _ H)
          refine cx_if_eq (pc := 49) 56 hp2 dX2_load_49 rfl H (fun H => ?_) (fun H => ?_)
          · -- 49: 56
            refine cx_iconst (pc := 56) dX2_load_56 ?_
            exact AW.sel [0, 1, 2, 3, 4] rfl (hj57 _ _ (inR_lit _ rfl) H)
          · -- 49: 52
            refine cx_iconst (pc := 52) dX2_load_52 ?_
            refine aw_goto (pc := 53) 57 dX2_load_53 rfl ?_
            exact AW.sel [0, 1, 2, 3, 4] rfl (hj57 _ _ (inR_lit _ rfl) H)
        · -- 42: 125
          refine aw_aload_n (pc := 125) dX2_load_125 rfl ?_
          refine cx_gtC (pc := 126) 4 hE r28 fl_X2_26 rfl rfl (Nat.le_of_ble_eq_true rfl) dX2_load_126 ?_
          refine cx_callV (pc := 129) (P := pI) (dC := 2) (mcC := 0) (msC := 0) [] hE r4 (fun r1 H1 => s_X9_end l sc E R hE hR.ys n m38 r1 H1) ca_X2_63 rfl ⟨_, rfl, rfl⟩ rfl rfl (Nat.le_of_ble_eq_true rfl) (Nat.le_of_ble_eq_true rfl) (Nat.le_of_ble_eq_true rfl) (Nat.le_of_ble_eq_true rfl) dX2_load_129 H (fun x129 m129 v129 hh129 H hp => ?_)
          refine cx_backI hp (fun hx129 => ?_)
          refine aw_istore_n (pc := 132) [(3, iv x129), (0, .ref 28), (1, rv p1), (2, iv p2), (4, iv v4_5), (5, iv v5_38)] dX2_load_132 rfl (by decide) ?_
          refine aw_aload_n (pc := 133) dX2_load_133 rfl ?_
          refine cx_gtC (pc := 134) 29 hE r28 fl_X2_11 rfl rfl (Nat.le_of_ble_eq_true rfl) dX2_load_134 ?_
          refine aw_iload (pc := 137) dX2_load_137 rfl ?_
          refine aw_iload_n (pc := 139) dX2_load_139 rfl ?_
          refine cx_stI (pc := 140) hE r29 hv4_5 dX2_load_140 H (fun m140 H => ?_)
          refine cx_iinc (pc := 141) [(4, iv (w32 (v4_5 + 1))), (3, iv x129), (0, .ref 28), (1, rv p1), (2, iv p2), (5, iv v5_38)] dX2_load_141 rfl rfl (by decide) ?_
          refine aw_goto (pc := 144) 5 dX2_load_144 rfl ?_
          exact AW.sel [2, 3, 4, 1, 0] rfl (ih5 _ _ _ hx129 (inR_w32 _) H)
      · -- 25: 147
        exact AW.sel [3] rfl (hj147 _ H)
    · -- 15: 147
      exact AW.sel [3] rfl (hj147 _ H)
/-- X2 negativeOf (LUppityGames$Game;)LUppityGames$Game; -/
def f_X2_negativeOf (n : Nat) (p1 : Nat) (mi : Mem) : Option Rz :=
  cal (f_X9_clear n mi) fun _ m4 =>
  cal (f_X2_load n p1 1 m4) fun x14 m14 =>
  cal (f_X4_written n x14 m14) fun x17 m17 =>
  rt (x17.toNat : Nat) m17
set_option maxRecDepth 100000 in
set_option maxHeartbeats 4000000 in
theorem s_X2_negativeOf (l : Launch) (sc : g_S) (E : Mem → g_H) (R : Nat → Prop) (hE : LE E R) (hR : RMK R) (hsc : sc.1 = 0) (n : Nat)  (p1 : Nat)  (mi : Mem) (r : Rz) (H : f_X2_negativeOf n p1 mi = some r) : AMet l sc yX2_negativeOf cX2_negativeOf 2 (some (FieldType.object "UppityGames$Game")) 5 4 125 [.ref 28, rv p1] (E mi) (pG E r) := by
  have r4 : R 4 := hR.1 4 (Nat.le_of_ble_eq_true rfl) (Nat.le_of_ble_eq_true rfl)
  have r18 : R 18 := hR.1 18 (Nat.le_of_ble_eq_true rfl) (Nat.le_of_ble_eq_true rfl)
  have r28 : R 28 := hR.1 28 (Nat.le_of_ble_eq_true rfl) (Nat.le_of_ble_eq_true rfl)
  unfold f_X2_negativeOf at H
  refine AMet.of (own := RX2) (by decide +kernel) rfl (by rcases rv_or p1 with ep1 | ⟨_, ep1⟩ <;> simp only [ep1] <;> exact Nat.le_of_ble_eq_true rfl) [(0, .ref 28), (1, rv p1)] (by rcases rv_or p1 with ep1 | ⟨_, ep1⟩ <;> simp only [ep1] <;> rfl) (fun D base ad => ?_)
  refine aw_aload_n (pc := 0) dX2_negativeOf_0 rfl ?_
  refine cx_gtC (pc := 1) 4 hE r28 fl_X2_26 rfl rfl (Nat.le_of_ble_eq_true rfl) dX2_negativeOf_1 ?_
  refine cx_callV (pc := 4) (P := pV) (dC := 3) (mcC := 0) (msC := 0) [] hE r4 (fun r1 H1 => s_X9_clear l sc E R hE hR.ys n mi r1 H1) ca_X2_34 rfl ⟨_, rfl, rfl⟩ rfl rfl (Nat.le_of_ble_eq_true rfl) (Nat.le_of_ble_eq_true rfl) (Nat.le_of_ble_eq_true rfl) (Nat.le_of_ble_eq_true rfl) dX2_negativeOf_4 H (fun x4 m4 v4 hh4 H hp => ?_)
  refine cx_backV hp ?_
  refine aw_aload_n (pc := 7) dX2_negativeOf_7 rfl ?_
  refine cx_gtC (pc := 8) 18 hE r28 fl_X2_30 rfl rfl (Nat.le_of_ble_eq_true rfl) dX2_negativeOf_8 ?_
  refine aw_aload_n (pc := 11) dX2_negativeOf_11 rfl ?_
  refine cx_aload_n (pc := 12) dX2_negativeOf_12 rfl ?_
  refine cx_iconst (pc := 13) dX2_negativeOf_13 ?_
  refine cx_callV (pc := 14) (P := pI) (dC := 3) (mcC := 0) (msC := 0) [rv p1, iv 1] hE r28 (fun r1 H1 => s_X2_load l sc E R hE hR n p1 1 (inR_lit _ rfl) m4 r1 H1) ca_X2_93 rfl ⟨_, rfl, rfl⟩ rfl rfl (Nat.le_of_ble_eq_true rfl) (Nat.le_of_ble_eq_true rfl) (Nat.le_of_ble_eq_true rfl) (Nat.le_of_ble_eq_true rfl) dX2_negativeOf_14 H (fun x14 m14 v14 hh14 H hp => ?_)
  refine cx_backI hp (fun hx14 => ?_)
  refine cx_callV (pc := 17) (P := pG) (dC := 4) (mcC := 4) (msC := 125) [iv x14] hE r18 (fun r1 H1 => s_X4_written l sc E R hE hR.ys hsc n x14 hx14 m14 r1 H1) ca_X2_43 rfl ⟨_, rfl, rfl⟩ rfl rfl (Nat.le_of_ble_eq_true rfl) (Nat.le_of_ble_eq_true rfl) (Nat.le_of_ble_eq_true rfl) (Nat.le_of_ble_eq_true rfl) dX2_negativeOf_17 H (fun x17 m17 v17 hh17 H hp => ?_)
  refine cx_backG hp ?_
  exact cx_aret (pc := 20) ⟨_, rfl, Or.inl ⟨_, rfl⟩⟩ (Nat.le_of_ble_eq_true rfl) (Nat.le_of_ble_eq_true rfl) dX2_negativeOf_20 H
/-- X2 addIf (LUppityGames$Game;III)V -/
def f_X2_addIf (n : Nat) (p1 : Nat) (p2 : Int) (p3 : Int) (p4 : Int) (mi : Mem) : Option Rz :=
  isD p1 <|
  isG mi p1 <| cal (f_X1_options n p1 p2 0 mi) fun x3 m3 =>
  jn (fun (m22 : Mem) =>
    isD p1 <|
    isG m22 p1 <| cal (f_X1_options n p1 p2 1 m22) fun x25 m25 =>
    jn (fun (m44 : Mem) =>
      rt 0 m44
    ) fun (j44 : Mem → Option Rz) =>
    if iand (ishr x25 p3) 1 = 0 then (
      j44 m25
    ) else
    cal (f_X9_addRight n p4 m25) fun _ m41 =>
    j44 m41
  ) fun (j22 : Mem → Option Rz) =>
  if iand (ishr x3 p3) 1 = 0 then (
    j22 m3
  ) else
  cal (f_X9_addLeft n p4 m3) fun _ m19 =>
  j22 m19
set_option maxRecDepth 100000 in
set_option maxHeartbeats 4000000 in
theorem s_X2_addIf (l : Launch) (sc : g_S) (E : Mem → g_H) (R : Nat → Prop) (hE : LE E R) (hR : RMK R) (n : Nat)  (p1 : Nat) (p2 : Int) (p3 : Int) (p4 : Int) (hp2 : inR p2) (hp3 : inR p3) (hp4 : inR p4) (mi : Mem) (r : Rz) (H : f_X2_addIf n p1 p2 p3 p4 mi = some r) : AMet l sc yX2_addIf cX2_addIf 5 none 2 0 0 [.ref 28, rv p1, iv p2, iv p3, iv p4] (E mi) (pV E r) := by
  have r4 : R 4 := hR.1 4 (Nat.le_of_ble_eq_true rfl) (Nat.le_of_ble_eq_true rfl)
  have r28 : R 28 := hR.1 28 (Nat.le_of_ble_eq_true rfl) (Nat.le_of_ble_eq_true rfl)
  unfold f_X2_addIf at H
  refine AMet.of (own := RX2) (by decide +kernel) rfl (by rcases rv_or p1 with ep1 | ⟨_, ep1⟩ <;> simp only [ep1] <;> exact Nat.le_of_ble_eq_true rfl) [(0, .ref 28), (1, rv p1), (2, iv p2), (3, iv p3), (4, iv p4)] (by rcases rv_or p1 with ep1 | ⟨_, ep1⟩ <;> simp only [ep1] <;> rfl) (fun D base ad => ?_)
  refine cx_aload_n (pc := 0) dX2_addIf_0 rfl ?_
  refine aw_iload_n (pc := 1) dX2_addIf_1 rfl ?_
  refine cx_iconst (pc := 2) dX2_addIf_2 ?_
  refine cx_nn2 H (fun hg3_1 H => ?_)
  refine cx_callG (pc := 3) (P := pI) (dC := 0) (mcC := 0) (msC := 0) [iv p2, iv 0] hE hR.d (fun r1 H1 => s_X1_options l sc E R hE hR.d n p1 p2 0 hg3_1 hp2 (inR_lit _ rfl) mi r1 H1) ca_X2_106 ⟨_, rfl, rfl⟩ rfl rfl (Nat.le_of_ble_eq_true rfl) (Nat.le_of_ble_eq_true rfl) (Nat.le_of_ble_eq_true rfl) (Nat.le_of_ble_eq_true rfl) dX2_addIf_3 H (fun x3 m3 v3 hh3 H hp => ?_)
  refine cx_backI hp (fun hx3 => ?_)
  refine aw_iload_n (pc := 6) dX2_addIf_6 rfl ?_
  refine cx_ishr (pc := 7) dX2_addIf_7 ?_
  refine cx_iconst (pc := 8) dX2_addIf_8 ?_
  refine cx_iand (pc := 9) dX2_addIf_9 ?_
  refine jn_ind (fun (f9 : Mem → Option Rz) => ∀ (m22 : Mem), f9 m22 = some r → AW l D base sc RX2 yX2_addIf cX2_addIf 5 none 2 0 0 ad (E mi) (pV E r) 0 0 (E m22) 22 [(0, .ref 28), (1, rv p1), (2, iv p2), (3, iv p3), (4, iv p4)] []) (fun m22 H => ?_) (fun j22 hj22 H => ?_) H
  · -- 22
    refine cx_aload_n (pc := 22) dX2_addIf_22 rfl ?_
    refine aw_iload_n (pc := 23) dX2_addIf_23 rfl ?_
    refine cx_iconst (pc := 24) dX2_addIf_24 ?_
    refine cx_nn2 H (fun hg25_2 H => ?_)
    refine cx_callG (pc := 25) (P := pI) (dC := 0) (mcC := 0) (msC := 0) [iv p2, iv 1] hE hR.d (fun r1 H1 => s_X1_options l sc E R hE hR.d n p1 p2 1 hg25_2 hp2 (inR_lit _ rfl) m22 r1 H1) ca_X2_106 ⟨_, rfl, rfl⟩ rfl rfl (Nat.le_of_ble_eq_true rfl) (Nat.le_of_ble_eq_true rfl) (Nat.le_of_ble_eq_true rfl) (Nat.le_of_ble_eq_true rfl) dX2_addIf_25 H (fun x25 m25 v25 hh25 H hp => ?_)
    refine cx_backI hp (fun hx25 => ?_)
    refine aw_iload_n (pc := 28) dX2_addIf_28 rfl ?_
    refine cx_ishr (pc := 29) dX2_addIf_29 ?_
    refine cx_iconst (pc := 30) dX2_addIf_30 ?_
    refine cx_iand (pc := 31) dX2_addIf_31 ?_
    refine jn_ind (fun (f9 : Mem → Option Rz) => ∀ (m44 : Mem), f9 m44 = some r → AW l D base sc RX2 yX2_addIf cX2_addIf 5 none 2 0 0 ad (E mi) (pV E r) 0 0 (E m44) 44 [] []) (fun m44 H => ?_) (fun j44 hj44 H => ?_) H
    · -- 44
      exact cx_vret (pc := 44) rfl (Nat.le_of_ble_eq_true rfl) (Nat.le_of_ble_eq_true rfl) dX2_addIf_44 H
    refine cx_if_eq (pc := 32) 44 (inR_32 _) dX2_addIf_32 rfl H (fun H => ?_) (fun H => ?_)
    · -- 32: 44
      exact AW.sel [] rfl (hj44 _ H)
    · -- 32: 35
      refine aw_aload_n (pc := 35) dX2_addIf_35 rfl ?_
      refine cx_gtC (pc := 36) 4 hE r28 fl_X2_26 rfl rfl (Nat.le_of_ble_eq_true rfl) dX2_addIf_36 ?_
      refine aw_iload (pc := 39) dX2_addIf_39 rfl ?_
      refine cx_callV (pc := 41) (P := pV) (dC := 1) (mcC := 0) (msC := 0) [iv p4] hE r4 (fun r1 H1 => s_X9_addRight l sc E R hE hR.ys n p4 hp4 m25 r1 H1) ca_X2_60 rfl ⟨_, rfl, rfl⟩ rfl rfl (Nat.le_of_ble_eq_true rfl) (Nat.le_of_ble_eq_true rfl) (Nat.le_of_ble_eq_true rfl) (Nat.le_of_ble_eq_true rfl) dX2_addIf_41 H (fun x41 m41 v41 hh41 H hp => ?_)
      refine cx_backV hp ?_
      exact AW.sel [] rfl (hj44 _ H)
  refine cx_if_eq (pc := 10) 22 (inR_32 _) dX2_addIf_10 rfl H (fun H => ?_) (fun H => ?_)
  · -- 10: 22
    exact AW.sel [0, 1, 2, 3, 4] rfl (hj22 _ H)
  · -- 10: 13
    refine aw_aload_n (pc := 13) dX2_addIf_13 rfl ?_
    refine cx_gtC (pc := 14) 4 hE r28 fl_X2_26 rfl rfl (Nat.le_of_ble_eq_true rfl) dX2_addIf_14 ?_
    refine aw_iload (pc := 17) dX2_addIf_17 rfl ?_
    refine cx_callV (pc := 19) (P := pV) (dC := 1) (mcC := 0) (msC := 0) [iv p4] hE r4 (fun r1 H1 => s_X9_addLeft l sc E R hE hR.ys n p4 hp4 m3 r1 H1) ca_X2_56 rfl ⟨_, rfl, rfl⟩ rfl rfl (Nat.le_of_ble_eq_true rfl) (Nat.le_of_ble_eq_true rfl) (Nat.le_of_ble_eq_true rfl) (Nat.le_of_ble_eq_true rfl) dX2_addIf_19 H (fun x19 m19 v19 hh19 H hp => ?_)
    refine cx_backV hp ?_
    exact AW.sel [0, 1, 2, 3, 4] rfl (hj22 _ H)
/-- X2 sumOf (LUppityGames$Game;LUppityGames$Game;)LUppityGames$Game; -/
def f_X2_sumOf (n : Nat) (p1 : Nat) (p2 : Nat) (mi : Mem) : Option Rz :=
  jn (fun (m26 : Mem) =>
    rt (0 : Nat) m26
  ) fun (j26 : Mem → Option Rz) =>
  if p1 = 0 then (
    j26 mi
  ) else
  if p2 = 0 then (
    j26 mi
  ) else
  isD p1 <|
  isG mi p1 <| cal (f_X1_width n p1 mi) fun x9 m9 =>
  if 11 < x9 then (
    j26 m9
  ) else
  isD p2 <|
  isG m9 p2 <| cal (f_X1_width n p2 m9) fun x18 m18 =>
  if 11 < x18 then (
    j26 m18
  ) else
  cal (f_X9_clear n m18) fun _ m32 =>
  lp (F := Int → Int → Mem → Option Rz) (fun _ _ _ => none) (fun w40 v3_40 v4_40 m40 =>
    isD p1 <|
    isG m40 p1 <| cal (f_X1_width n p1 m40) fun x43 m43 =>
    if v4_40 < x43 then (
      lp (F := Int → Int → Mem → Option Rz) (fun _ _ _ => none) (fun w52 v3_52 v5_52 m52 =>
        isD p2 <|
        isG m52 p2 <| cal (f_X1_width n p2 m52) fun x55 m55 =>
        if v5_52 < x55 then (
          cal (f_X9_begin n m55) fun _ m65 =>
          lp (F := Int → Mem → Option Rz) (fun _ _ => none) (fun w71 v6_71 m71 =>
            if v6_71 < v4_40 then (
              ldI m71 30 (w32 ((w32 (v6_71 * 11)) + v5_52)) fun x96 =>
              cal (f_X2_addIf n p1 v4_40 v6_71 x96 m71) fun _ m97 =>
              w71 (w32 (v6_71 + 1)) m97
            ) else
            lp (F := Int → Mem → Option Rz) (fun _ _ => none) (fun w109 v6_109 m109 =>
              if v6_109 < v5_52 then (
                ldI m109 30 (w32 ((w32 (v4_40 * 11)) + v6_109)) fun x134 =>
                cal (f_X2_addIf n p2 v5_52 v6_109 x134 m109) fun _ m135 =>
                w109 (w32 (v6_109 + 1)) m135
              ) else
              cal (f_X9_end n m109) fun x148 m148 =>
              stI m148 30 (w32 ((w32 (v4_40 * 11)) + v5_52)) x148 fun m165 =>
              w52 x148 (w32 (v5_52 + 1)) m165
            ) n 0 m71
          ) n 0 m65
        ) else
        w40 v3_52 (w32 (v4_40 + 1)) m55
      ) n v3_40 0 m43
    ) else
    cal (f_X4_written n v3_40 m43) fun x183 m183 =>
    rt (x183.toNat : Nat) m183
  ) n (-1) 0 m32
set_option maxRecDepth 100000 in
set_option maxHeartbeats 4000000 in
theorem s_X2_sumOf (l : Launch) (sc : g_S) (E : Mem → g_H) (R : Nat → Prop) (hE : LE E R) (hR : RMK R) (hsc : sc.1 = 0) (n : Nat)  (p1 : Nat) (p2 : Nat)  (mi : Mem) (r : Rz) (H : f_X2_sumOf n p1 p2 mi = some r) : AMet l sc yX2_sumOf cX2_sumOf 7 (some (FieldType.object "UppityGames$Game")) 5 4 125 [.ref 28, rv p1, rv p2] (E mi) (pG E r) := by
  have r4 : R 4 := hR.1 4 (Nat.le_of_ble_eq_true rfl) (Nat.le_of_ble_eq_true rfl)
  have r18 : R 18 := hR.1 18 (Nat.le_of_ble_eq_true rfl) (Nat.le_of_ble_eq_true rfl)
  have r28 : R 28 := hR.1 28 (Nat.le_of_ble_eq_true rfl) (Nat.le_of_ble_eq_true rfl)
  have r30 : R 30 := hR.1 30 (Nat.le_of_ble_eq_true rfl) (Nat.le_of_ble_eq_true rfl)
  unfold f_X2_sumOf at H
  refine AMet.of (own := RX2) (by decide +kernel) rfl (by rcases rv_or p1 with ep1 | ⟨_, ep1⟩ <;> rcases rv_or p2 with ep2 | ⟨_, ep2⟩ <;> simp only [ep1, ep2] <;> exact Nat.le_of_ble_eq_true rfl) [(0, .ref 28), (1, rv p1), (2, rv p2)] (by rcases rv_or p1 with ep1 | ⟨_, ep1⟩ <;> rcases rv_or p2 with ep2 | ⟨_, ep2⟩ <;> simp only [ep1, ep2] <;> rfl) (fun D base ad => ?_)
  refine cx_aload_n (pc := 0) dX2_sumOf_0 rfl ?_
  refine jn_ind (fun (f9 : Mem → Option Rz) => ∀ (m26 : Mem), f9 m26 = some r → AW l D base sc RX2 yX2_sumOf cX2_sumOf 7 (some (FieldType.object "UppityGames$Game")) 5 4 125 ad (E mi) (pG E r) 0 0 (E m26) 26 [] []) (fun m26 H => ?_) (fun j26 hj26 H => ?_) H
  · -- 26
    refine cx_null (pc := 26) dX2_sumOf_26 ?_
    exact cx_aret (pc := 27) ⟨_, rfl, Or.inl ⟨_, rfl⟩⟩ (Nat.le_of_ble_eq_true rfl) (Nat.le_of_ble_eq_true rfl) dX2_sumOf_27 H
  refine cx_ifnull (pc := 1) 26 dX2_sumOf_1 rfl H (fun H => ?_) (fun H => ?_)
  · -- 1: 26
    exact AW.sel [] rfl (hj26 _ H)
  · -- 1: 4
    refine cx_aload_n (pc := 4) dX2_sumOf_4 rfl ?_
    refine cx_ifnull (pc := 5) 26 dX2_sumOf_5 rfl H (fun H => ?_) (fun H => ?_)
    · -- 5: 26
      exact AW.sel [] rfl (hj26 _ H)
    · -- 5: 8
      refine cx_aload_n (pc := 8) dX2_sumOf_8 rfl ?_
      refine cx_nn0 H (fun hg9_1 H => ?_)
      refine cx_callG (pc := 9) (P := pI) (dC := 0) (mcC := 0) (msC := 0) [] hE hR.d (fun r1 H1 => s_X1_width l sc E R hE hR.d n p1 hg9_1 mi r1 H1) ca_X2_97 ⟨_, rfl, rfl⟩ rfl rfl (Nat.le_of_ble_eq_true rfl) (Nat.le_of_ble_eq_true rfl) (Nat.le_of_ble_eq_true rfl) (Nat.le_of_ble_eq_true rfl) dX2_sumOf_9 H (fun x9 m9 v9 hh9 H hp => ?_)
      refine cx_backI hp (fun hx9 => ?_)
      refine cx_bipush (pc := 12) dX2_sumOf_12 (by decide) ?_
      refine cx_icmp_gt (pc := 14) 26 hx9 (inR_lit _ rfl) dX2_sumOf_14 rfl H (fun H => ?_) (fun H => ?_)
      · -- 14: 26
        exact AW.sel [] rfl (hj26 _ H)
      · -- 14: 17
        refine cx_aload_n (pc := 17) dX2_sumOf_17 rfl ?_
        refine cx_nn0 H (fun hg18_2 H => ?_)
        refine cx_callG (pc := 18) (P := pI) (dC := 0) (mcC := 0) (msC := 0) [] hE hR.d (fun r1 H1 => s_X1_width l sc E R hE hR.d n p2 hg18_2 m9 r1 H1) ca_X2_97 ⟨_, rfl, rfl⟩ rfl rfl (Nat.le_of_ble_eq_true rfl) (Nat.le_of_ble_eq_true rfl) (Nat.le_of_ble_eq_true rfl) (Nat.le_of_ble_eq_true rfl) dX2_sumOf_18 H (fun x18 m18 v18 hh18 H hp => ?_)
        refine cx_backI hp (fun hx18 => ?_)
        refine cx_bipush (pc := 21) dX2_sumOf_21 (by decide) ?_
        refine cx_icmp_le (pc := 23) 28 hx18 (inR_lit _ rfl) dX2_sumOf_23 rfl H (fun H => ?_) (fun H => ?_)
        · -- 23: 26
          exact AW.sel [] rfl (hj26 _ H)
        · -- 23: 28
          refine aw_aload_n (pc := 28) dX2_sumOf_28 rfl ?_
          refine cx_gtC (pc := 29) 4 hE r28 fl_X2_26 rfl rfl (Nat.le_of_ble_eq_true rfl) dX2_sumOf_29 ?_
          refine cx_callV (pc := 32) (P := pV) (dC := 3) (mcC := 0) (msC := 0) [] hE r4 (fun r1 H1 => s_X9_clear l sc E R hE hR.ys n m18 r1 H1) ca_X2_34 rfl ⟨_, rfl, rfl⟩ rfl rfl (Nat.le_of_ble_eq_true rfl) (Nat.le_of_ble_eq_true rfl) (Nat.le_of_ble_eq_true rfl) (Nat.le_of_ble_eq_true rfl) dX2_sumOf_32 H (fun x32 m32 v32 hh32 H hp => ?_)
          refine cx_backV hp ?_
          refine cx_iconst (pc := 35) dX2_sumOf_35 ?_
          refine aw_istore_n (pc := 36) [(3, iv (-1)), (0, .ref 28), (1, rv p1), (2, rv p2)] dX2_sumOf_36 (by unfold g_st1; simp only [List.filter, rv_cat]; rfl) (by decide) ?_
          refine cx_iconst (pc := 37) dX2_sumOf_37 ?_
          refine aw_istore (pc := 38) [(4, iv 0), (3, iv (-1)), (0, .ref 28), (1, rv p1), (2, rv p2)] dX2_sumOf_38 rfl (by decide) ?_
          refine AW.sel [2, 3, 4, 1, 0] rfl (lp_ind (bot := fun _ _ _ => none) (fun (f9 : Int → Int → Mem → Option Rz) => ∀ (v3_40 : Int) (v4_40 : Int) (m40 : Mem), inR v3_40 → inR v4_40 → f9 v3_40 v4_40 m40 = some r → AW l D base sc RX2 yX2_sumOf cX2_sumOf 7 (some (FieldType.object "UppityGames$Game")) 5 4 125 ad (E mi) (pG E r) 0 0 (E m40) 40 [(0, .ref 28), (1, rv p1), (2, rv p2), (3, iv v3_40), (4, iv v4_40)] []) (fun _ _ _ _ _ h9 => nomatch h9) (fun w40 ih40 v3_40 v4_40 m40 hv3_40 hv4_40 H => ?_) n _ _ _ (inR_lit _ rfl) (inR_lit _ rfl) H)
          refine aw_iload (pc := 40) dX2_sumOf_40 rfl ?_
          refine cx_aload_n (pc := 42) dX2_sumOf_42 rfl ?_
          refine cx_nn0 H (fun hg43_3 H => ?_)
          refine cx_callG (pc := 43) (P := pI) (dC := 0) (mcC := 0) (msC := 0) [] hE hR.d (fun r1 H1 => s_X1_width l sc E R hE hR.d n p1 hg43_3 m40 r1 H1) ca_X2_97 ⟨_, rfl, rfl⟩ rfl rfl (Nat.le_of_ble_eq_true rfl) (Nat.le_of_ble_eq_true rfl) (Nat.le_of_ble_eq_true rfl) (Nat.le_of_ble_eq_true rfl) dX2_sumOf_43 H (fun x43 m43 v43 hh43 H hp => ?_)
          refine cx_backI hp (fun hx43 => ?_)
          refine cx_icmp_ge (pc := 46) 178 hv4_40 hx43 dX2_sumOf_46 rfl H (fun H => ?_) (fun H => ?_)
          · -- 46: 49
            refine cx_iconst (pc := 49) dX2_sumOf_49 ?_
            refine aw_istore (pc := 50) [(5, iv 0), (0, .ref 28), (1, rv p1), (2, rv p2), (3, iv v3_40), (4, iv v4_40)] dX2_sumOf_50 rfl (by decide) ?_
            refine AW.sel [1, 2, 3, 4, 5, 0] rfl (lp_ind (bot := fun _ _ _ => none) (fun (f9 : Int → Int → Mem → Option Rz) => ∀ (v3_52 : Int) (v5_52 : Int) (m52 : Mem), inR v3_52 → inR v5_52 → f9 v3_52 v5_52 m52 = some r → AW l D base sc RX2 yX2_sumOf cX2_sumOf 7 (some (FieldType.object "UppityGames$Game")) 5 4 125 ad (E mi) (pG E r) 0 0 (E m52) 52 [(0, .ref 28), (1, rv p1), (2, rv p2), (3, iv v3_52), (4, iv v4_40), (5, iv v5_52)] []) (fun _ _ _ _ _ h9 => nomatch h9) (fun w52 ih52 v3_52 v5_52 m52 hv3_52 hv5_52 H => ?_) n _ _ _ hv3_40 (inR_lit _ rfl) H)
            refine aw_iload (pc := 52) dX2_sumOf_52 rfl ?_
            refine cx_aload_n (pc := 54) dX2_sumOf_54 rfl ?_
            refine cx_nn0 H (fun hg55_4 H => ?_)
            refine cx_callG (pc := 55) (P := pI) (dC := 0) (mcC := 0) (msC := 0) [] hE hR.d (fun r1 H1 => s_X1_width l sc E R hE hR.d n p2 hg55_4 m52 r1 H1) ca_X2_97 ⟨_, rfl, rfl⟩ rfl rfl (Nat.le_of_ble_eq_true rfl) (Nat.le_of_ble_eq_true rfl) (Nat.le_of_ble_eq_true rfl) (Nat.le_of_ble_eq_true rfl) dX2_sumOf_55 H (fun x55 m55 v55 hh55 H hp => ?_)
            refine cx_backI hp (fun hx55 => ?_)
            refine cx_icmp_ge (pc := 58) 172 hv5_52 hx55 dX2_sumOf_58 rfl H (fun H => ?_) (fun H => ?_)
            · -- 58: 61
              refine aw_aload_n (pc := 61) dX2_sumOf_61 rfl ?_
              refine cx_gtC (pc := 62) 4 hE r28 fl_X2_26 rfl rfl (Nat.le_of_ble_eq_true rfl) dX2_sumOf_62 ?_
              refine cx_callV (pc := 65) (P := pV) (dC := 1) (mcC := 0) (msC := 0) [] hE r4 (fun r1 H1 => s_X9_begin l sc E R hE hR.ys n m55 r1 H1) ca_X2_53 rfl ⟨_, rfl, rfl⟩ rfl rfl (Nat.le_of_ble_eq_true rfl) (Nat.le_of_ble_eq_true rfl) (Nat.le_of_ble_eq_true rfl) (Nat.le_of_ble_eq_true rfl) dX2_sumOf_65 H (fun x65 m65 v65 hh65 H hp => ?_)
              refine cx_backV hp ?_
              refine cx_iconst (pc := 68) dX2_sumOf_68 ?_
              refine aw_istore (pc := 69) [(6, iv 0), (0, .ref 28), (1, rv p1), (2, rv p2), (3, iv v3_52), (4, iv v4_40), (5, iv v5_52)] dX2_sumOf_69 rfl (by decide) ?_
              refine AW.sel [1, 2, 3, 5, 6, 0] rfl (lp_ind (bot := fun _ _ => none) (fun (f9 : Int → Mem → Option Rz) => ∀ (v6_71 : Int) (m71 : Mem), inR v6_71 → f9 v6_71 m71 = some r → AW l D base sc RX2 yX2_sumOf cX2_sumOf 7 (some (FieldType.object "UppityGames$Game")) 5 4 125 ad (E mi) (pG E r) 0 0 (E m71) 71 [(0, .ref 28), (1, rv p1), (2, rv p2), (4, iv v4_40), (5, iv v5_52), (6, iv v6_71)] []) (fun _ _ _ h9 => nomatch h9) (fun w71 ih71 v6_71 m71 hv6_71 H => ?_) n _ _ (inR_lit _ rfl) H)
              refine aw_iload (pc := 71) dX2_sumOf_71 rfl ?_
              refine aw_iload (pc := 73) dX2_sumOf_73 rfl ?_
              refine cx_icmp_ge (pc := 75) 106 hv6_71 hv4_40 dX2_sumOf_75 rfl H (fun H => ?_) (fun H => ?_)
              · -- 75: 78
                refine aw_aload_n (pc := 78) dX2_sumOf_78 rfl ?_
                refine cx_aload_n (pc := 79) dX2_sumOf_79 rfl ?_
                refine aw_iload (pc := 80) dX2_sumOf_80 rfl ?_
                refine aw_iload (pc := 82) dX2_sumOf_82 rfl ?_
                refine aw_aload_n (pc := 84) dX2_sumOf_84 rfl ?_
                refine cx_gtC (pc := 85) 30 hE r28 fl_X2_15 rfl rfl (Nat.le_of_ble_eq_true rfl) dX2_sumOf_85 ?_
                refine aw_iload (pc := 88) dX2_sumOf_88 rfl ?_
                refine cx_bipush (pc := 90) dX2_sumOf_90 (by decide) ?_
                refine cx_imul (pc := 92) dX2_sumOf_92 ?_
                refine aw_iload (pc := 93) dX2_sumOf_93 rfl ?_
                refine cx_iadd (pc := 95) dX2_sumOf_95 ?_
                refine cx_ldI (pc := 96) hE r30 (inR_w32 _) dX2_sumOf_96 H (fun x96 hx96 H => ?_)
                refine cx_callV (pc := 97) (P := pV) (dC := 2) (mcC := 0) (msC := 0) [rv p1, iv v4_40, iv v6_71, iv x96] hE r28 (fun r1 H1 => s_X2_addIf l sc E R hE hR n p1 v4_40 v6_71 x96 hv4_40 hv6_71 hx96 m71 r1 H1) ca_X2_102 rfl ⟨_, rfl, rfl⟩ rfl rfl (Nat.le_of_ble_eq_true rfl) (Nat.le_of_ble_eq_true rfl) (Nat.le_of_ble_eq_true rfl) (Nat.le_of_ble_eq_true rfl) dX2_sumOf_97 H (fun x97 m97 v97 hh97 H hp => ?_)
                refine cx_backV hp ?_
                refine cx_iinc (pc := 100) [(6, iv (w32 (v6_71 + 1))), (0, .ref 28), (1, rv p1), (2, rv p2), (4, iv v4_40), (5, iv v5_52)] dX2_sumOf_100 rfl rfl (by decide) ?_
                refine aw_goto (pc := 103) 71 dX2_sumOf_103 rfl ?_
                exact AW.sel [1, 2, 3, 4, 5, 0] rfl (ih71 _ _ (inR_w32 _) H)
              · -- 75: 106
                refine cx_iconst (pc := 106) dX2_sumOf_106 ?_
                refine aw_istore (pc := 107) [(6, iv 0), (0, .ref 28), (1, rv p1), (2, rv p2), (4, iv v4_40), (5, iv v5_52)] dX2_sumOf_107 rfl (by decide) ?_
                refine AW.sel [1, 2, 3, 4, 5, 0] rfl (lp_ind (bot := fun _ _ => none) (fun (f9 : Int → Mem → Option Rz) => ∀ (v6_109 : Int) (m109 : Mem), inR v6_109 → f9 v6_109 m109 = some r → AW l D base sc RX2 yX2_sumOf cX2_sumOf 7 (some (FieldType.object "UppityGames$Game")) 5 4 125 ad (E mi) (pG E r) 0 0 (E m109) 109 [(0, .ref 28), (1, rv p1), (2, rv p2), (4, iv v4_40), (5, iv v5_52), (6, iv v6_109)] []) (fun _ _ _ h9 => nomatch h9) (fun w109 ih109 v6_109 m109 hv6_109 H => ?_) n _ _ (inR_lit _ rfl) H)
                refine aw_iload (pc := 109) dX2_sumOf_109 rfl ?_
                refine aw_iload (pc := 111) dX2_sumOf_111 rfl ?_
                refine cx_icmp_ge (pc := 113) 144 hv6_109 hv5_52 dX2_sumOf_113 rfl H (fun H => ?_) (fun H => ?_)
                · -- 113: 116
                  refine aw_aload_n (pc := 116) dX2_sumOf_116 rfl ?_
                  refine cx_aload_n (pc := 117) dX2_sumOf_117 rfl ?_
                  refine aw_iload (pc := 118) dX2_sumOf_118 rfl ?_
                  refine aw_iload (pc := 120) dX2_sumOf_120 rfl ?_
                  refine aw_aload_n (pc := 122) dX2_sumOf_122 rfl ?_
                  refine cx_gtC (pc := 123) 30 hE r28 fl_X2_15 rfl rfl (Nat.le_of_ble_eq_true rfl) dX2_sumOf_123 ?_
                  refine aw_iload (pc := 126) dX2_sumOf_126 rfl ?_
                  refine cx_bipush (pc := 128) dX2_sumOf_128 (by decide) ?_
                  refine cx_imul (pc := 130) dX2_sumOf_130 ?_
                  refine aw_iload (pc := 131) dX2_sumOf_131 rfl ?_
                  refine cx_iadd (pc := 133) dX2_sumOf_133 ?_
                  refine cx_ldI (pc := 134) hE r30 (inR_w32 _) dX2_sumOf_134 H (fun x134 hx134 H => ?_)
                  refine cx_callV (pc := 135) (P := pV) (dC := 2) (mcC := 0) (msC := 0) [rv p2, iv v5_52, iv v6_109, iv x134] hE r28 (fun r1 H1 => s_X2_addIf l sc E R hE hR n p2 v5_52 v6_109 x134 hv5_52 hv6_109 hx134 m109 r1 H1) ca_X2_102 rfl ⟨_, rfl, rfl⟩ rfl rfl (Nat.le_of_ble_eq_true rfl) (Nat.le_of_ble_eq_true rfl) (Nat.le_of_ble_eq_true rfl) (Nat.le_of_ble_eq_true rfl) dX2_sumOf_135 H (fun x135 m135 v135 hh135 H hp => ?_)
                  refine cx_backV hp ?_
                  refine cx_iinc (pc := 138) [(6, iv (w32 (v6_109 + 1))), (0, .ref 28), (1, rv p1), (2, rv p2), (4, iv v4_40), (5, iv v5_52)] dX2_sumOf_138 rfl rfl (by decide) ?_
                  refine aw_goto (pc := 141) 109 dX2_sumOf_141 rfl ?_
                  exact AW.sel [1, 2, 3, 4, 5, 0] rfl (ih109 _ _ (inR_w32 _) H)
                · -- 113: 144
                  refine aw_aload_n (pc := 144) dX2_sumOf_144 rfl ?_
                  refine cx_gtC (pc := 145) 4 hE r28 fl_X2_26 rfl rfl (Nat.le_of_ble_eq_true rfl) dX2_sumOf_145 ?_
                  refine cx_callV (pc := 148) (P := pI) (dC := 2) (mcC := 0) (msC := 0) [] hE r4 (fun r1 H1 => s_X9_end l sc E R hE hR.ys n m109 r1 H1) ca_X2_63 rfl ⟨_, rfl, rfl⟩ rfl rfl (Nat.le_of_ble_eq_true rfl) (Nat.le_of_ble_eq_true rfl) (Nat.le_of_ble_eq_true rfl) (Nat.le_of_ble_eq_true rfl) dX2_sumOf_148 H (fun x148 m148 v148 hh148 H hp => ?_)
                  refine cx_backI hp (fun hx148 => ?_)
                  refine aw_istore_n (pc := 151) [(3, iv x148), (0, .ref 28), (1, rv p1), (2, rv p2), (4, iv v4_40), (5, iv v5_52), (6, iv v6_109)] dX2_sumOf_151 (by unfold g_st1; simp only [List.filter, rv_cat]; rfl) (by decide) ?_
                  refine aw_aload_n (pc := 152) dX2_sumOf_152 rfl ?_
                  refine cx_gtC (pc := 153) 30 hE r28 fl_X2_15 rfl rfl (Nat.le_of_ble_eq_true rfl) dX2_sumOf_153 ?_
                  refine aw_iload (pc := 156) dX2_sumOf_156 rfl ?_
                  refine cx_bipush (pc := 158) dX2_sumOf_158 (by decide) ?_
                  refine cx_imul (pc := 160) dX2_sumOf_160 ?_
                  refine aw_iload (pc := 161) dX2_sumOf_161 rfl ?_
                  refine cx_iadd (pc := 163) dX2_sumOf_163 ?_
                  refine aw_iload_n (pc := 164) dX2_sumOf_164 rfl ?_
                  refine cx_stI (pc := 165) hE r30 (inR_w32 _) dX2_sumOf_165 H (fun m165 H => ?_)
                  refine cx_iinc (pc := 166) [(5, iv (w32 (v5_52 + 1))), (3, iv x148), (0, .ref 28), (1, rv p1), (2, rv p2), (4, iv v4_40), (6, iv v6_109)] dX2_sumOf_166 rfl rfl (by decide) ?_
                  refine aw_goto (pc := 169) 52 dX2_sumOf_169 rfl ?_
                  exact AW.sel [2, 3, 4, 1, 5, 0] rfl (ih52 _ _ _ hx148 (inR_w32 _) H)
            · -- 58: 172
              refine cx_iinc (pc := 172) [(4, iv (w32 (v4_40 + 1))), (0, .ref 28), (1, rv p1), (2, rv p2), (3, iv v3_52), (5, iv v5_52)] dX2_sumOf_172 rfl rfl (by decide) ?_
              refine aw_goto (pc := 175) 40 dX2_sumOf_175 rfl ?_
              exact AW.sel [1, 2, 3, 4, 0] rfl (ih40 _ _ _ hv3_52 (inR_w32 _) H)
          · -- 46: 178
            refine aw_aload_n (pc := 178) dX2_sumOf_178 rfl ?_
            refine cx_gtC (pc := 179) 18 hE r28 fl_X2_30 rfl rfl (Nat.le_of_ble_eq_true rfl) dX2_sumOf_179 ?_
            refine aw_iload_n (pc := 182) dX2_sumOf_182 rfl ?_
            refine cx_callV (pc := 183) (P := pG) (dC := 4) (mcC := 4) (msC := 125) [iv v3_40] hE r18 (fun r1 H1 => s_X4_written l sc E R hE hR.ys hsc n v3_40 hv3_40 m43 r1 H1) ca_X2_43 rfl ⟨_, rfl, rfl⟩ rfl rfl (Nat.le_of_ble_eq_true rfl) (Nat.le_of_ble_eq_true rfl) (Nat.le_of_ble_eq_true rfl) (Nat.le_of_ble_eq_true rfl) dX2_sumOf_183 H (fun x183 m183 v183 hh183 H hp => ?_)
            refine cx_backG hp ?_
            exact cx_aret (pc := 186) ⟨_, rfl, Or.inl ⟨_, rfl⟩⟩ (Nat.le_of_ble_eq_true rfl) (Nat.le_of_ble_eq_true rfl) dX2_sumOf_186 H
/-- X2 upsAndHeap (II)LUppityGames$Game; -/
def f_X2_upsAndHeap (n : Nat) (p1 : Int) (p2 : Int) (mi : Mem) : Option Rz :=
  jn (fun (s0_19 : Nat) (m19 : Mem) =>
    cal (f_X2_heapOf n 0 m19) fun x22 m22 =>
    lp (F := Nat → Int → Mem → Option Rz) (fun _ _ _ => none) (fun w30 v4_30 v5_30 m30 =>
      jn (fun (m61 : Mem) =>
        cal (f_X2_heapOf n p2 m61) fun x66 m66 =>
        cal (f_X2_sumOf n v4_30 x66.toNat m66) fun x69 m69 =>
        rt (x69.toNat : Nat) m69
      ) fun (j61 : Mem → Option Rz) =>
      if v5_30 < iabs p1 then (
        if v5_30 < 11 then (
          cal (f_X2_sumOf n v4_30 s0_19 m30) fun x50 m50 =>
          w30 x50.toNat (w32 (v5_30 + 1)) m50
        ) else
        j61 m30
      ) else
      j61 m30
    ) 12 x22.toNat 0 m22
  ) fun (j19 : Nat → Mem → Option Rz) =>
  if p1 < 0 then (
    gtG mi 28 6 fun x6 =>
    cal (f_X2_negativeOf n x6 mi) fun x9 m9 =>
    j19 x9.toNat m9
  ) else
  gtG mi 28 6 fun x16 =>
  j19 x16 mi
set_option maxRecDepth 100000 in
set_option maxHeartbeats 4000000 in
theorem s_X2_upsAndHeap (l : Launch) (sc : g_S) (E : Mem → g_H) (R : Nat → Prop) (hE : LE E R) (hR : RMK R) (hsc : sc.1 = 0) (n : Nat)  (p1 : Int) (p2 : Int) (hp1 : inR p1) (hp2 : inR p2) (mi : Mem) (r : Rz) (H : f_X2_upsAndHeap n p1 p2 mi = some r) : AMet l sc yX2_upsAndHeap cX2_upsAndHeap 6 (some (FieldType.object "UppityGames$Game")) 6 64 2000 [.ref 28, iv p1, iv p2] (E mi) (pG E r) := by
  have r28 : R 28 := hR.1 28 (Nat.le_of_ble_eq_true rfl) (Nat.le_of_ble_eq_true rfl)
  unfold f_X2_upsAndHeap at H
  refine AMet.of (own := RX2) (by decide +kernel) rfl (Nat.le_of_ble_eq_true rfl) [(0, .ref 28), (1, iv p1), (2, iv p2)] rfl (fun D base ad => ?_)
  refine aw_iload_n (pc := 0) dX2_upsAndHeap_0 rfl ?_
  refine jn_ind (fun (f9 : Nat → Mem → Option Rz) => ∀ (s0_19 : Nat) (m19 : Mem), f9 s0_19 m19 = some r → AW l D base sc RX2 yX2_upsAndHeap cX2_upsAndHeap 6 (some (FieldType.object "UppityGames$Game")) 6 64 2000 ad (E mi) (pG E r) 4 125 (E m19) 19 [(0, .ref 28), (1, iv p1), (2, iv p2)] [rv s0_19]) (fun s0_19 m19 H => ?_) (fun j19 hj19 H => ?_) H
  · -- 19
    refine cx_astore_n (pc := 19) [(3, rv s0_19), (0, .ref 28), (1, iv p1), (2, iv p2)] dX2_upsAndHeap_19 rfl (by decide) ?_
    refine aw_aload_n (pc := 20) dX2_upsAndHeap_20 rfl ?_
    refine cx_iconst (pc := 21) dX2_upsAndHeap_21 ?_
    refine cx_callV (pc := 22) (P := pG) (dC := 5) (mcC := 4) (msC := 125) [iv 0] hE r28 (fun r1 H1 => s_X2_heapOf l sc E R hE hR hsc n 0 (inR_lit _ rfl) m19 r1 H1) ca_X2_86 rfl ⟨_, rfl, rfl⟩ rfl rfl (Nat.le_of_ble_eq_true rfl) (Nat.le_of_ble_eq_true rfl) (Nat.le_of_ble_eq_true rfl) (Nat.le_of_ble_eq_true rfl) dX2_upsAndHeap_22 H (fun x22 m22 v22 hh22 H hp => ?_)
    refine cx_backG hp ?_
    refine cx_astore (pc := 25) [(4, rv x22.toNat), (3, rv s0_19), (0, .ref 28), (1, iv p1), (2, iv p2)] dX2_upsAndHeap_25 (by unfold g_st1; simp only [List.filter, rv_cat]; rfl) (by decide) ?_
    refine cx_iconst (pc := 27) dX2_upsAndHeap_27 ?_
    refine aw_istore (pc := 28) [(5, iv 0), (4, rv x22.toNat), (3, rv s0_19), (0, .ref 28), (1, iv p1), (2, iv p2)] dX2_upsAndHeap_28 (by unfold g_st1; simp only [List.filter, rv_cat]; rfl) (by decide) ?_
    refine AW.sel [3, 4, 5, 2, 1, 0] rfl (lp_indN (bot := fun _ _ _ => none) (fun n9 (f9 : Nat → Int → Mem → Option Rz) => ∀ (u30 w30v : Nat) (v4_30 : Nat) (v5_30 : Int) (m30 : Mem), u30 + 4 * n9 ≤ 56 → w30v + 125 * n9 ≤ 1750 → inR v5_30 → f9 v4_30 v5_30 m30 = some r → AW l D base sc RX2 yX2_upsAndHeap cX2_upsAndHeap 6 (some (FieldType.object "UppityGames$Game")) 6 64 2000 ad (E mi) (pG E r) u30 w30v (E m30) 30 [(0, .ref 28), (1, iv p1), (2, iv p2), (3, rv s0_19), (4, rv v4_30), (5, iv v5_30)] []) (fun _ _ _ _ _ _ _ _ h9 => nomatch h9) (fun n9 w30 ih30 u30 w30v v4_30 v5_30 m30 hA30 hB30 hv5_30 H => ?_) 12 _ _ _ _ _ (by omega) (by omega) (inR_lit _ rfl) H)
    refine aw_iload (pc := 30) dX2_upsAndHeap_30 rfl ?_
    refine aw_iload_n (pc := 32) dX2_upsAndHeap_32 rfl ?_
    refine cx_mabs (pc := 33) hp1 miabs_y miabs_c (g_mem 718 (by decide +kernel) rfl) ca_X2_67 (Nat.le_of_ble_eq_true rfl) (Nat.le_of_ble_eq_true rfl) (by omega) (by omega) dX2_upsAndHeap_33 ?_
    refine jn_ind (fun (f9 : Mem → Option Rz) => ∀ (m61 : Mem), f9 m61 = some r → AW l D base sc RX2 yX2_upsAndHeap cX2_upsAndHeap 6 (some (FieldType.object "UppityGames$Game")) 6 64 2000 ad (E mi) (pG E r) (u30 + 0) (w30v + 0) (E m61) 61 [(0, .ref 28), (2, iv p2), (4, rv v4_30)] []) (fun m61 H => ?_) (fun j61 hj61 H => ?_) H
    · -- 61
      refine aw_aload_n (pc := 61) dX2_upsAndHeap_61 rfl ?_
      refine cx_aload (pc := 62) dX2_upsAndHeap_62 rfl ?_
      refine aw_aload_n (pc := 64) dX2_upsAndHeap_64 rfl ?_
      refine aw_iload_n (pc := 65) dX2_upsAndHeap_65 rfl ?_
      refine cx_callV (pc := 66) (P := pG) (dC := 5) (mcC := 4) (msC := 125) [iv p2] hE r28 (fun r1 H1 => s_X2_heapOf l sc E R hE hR hsc n p2 hp2 m61 r1 H1) ca_X2_86 rfl ⟨_, rfl, rfl⟩ rfl rfl (Nat.le_of_ble_eq_true rfl) (Nat.le_of_ble_eq_true rfl) (by omega) (by omega) dX2_upsAndHeap_66 H (fun x66 m66 v66 hh66 H hp => ?_)
      refine cx_backG hp ?_
      refine cx_callV (pc := 69) (P := pG) (dC := 5) (mcC := 4) (msC := 125) [rv v4_30, rv x66.toNat] hE r28 (fun r1 H1 => s_X2_sumOf l sc E R hE hR hsc n v4_30 x66.toNat m66 r1 H1) ca_X2_89 rfl ⟨_, rfl, rfl⟩ rfl rfl (Nat.le_of_ble_eq_true rfl) (Nat.le_of_ble_eq_true rfl) (by omega) (by omega) dX2_upsAndHeap_69 H (fun x69 m69 v69 hh69 H hp => ?_)
      refine cx_backG hp ?_
      exact cx_aret (pc := 72) ⟨_, rfl, Or.inl ⟨_, rfl⟩⟩ (by omega) (by omega) dX2_upsAndHeap_72 H
    refine cx_icmp_ge (pc := 36) 61 hv5_30 (inR_abs hp1) dX2_upsAndHeap_36 rfl H (fun H => ?_) (fun H => ?_)
    · -- 36: 39
      refine aw_iload (pc := 39) dX2_upsAndHeap_39 rfl ?_
      refine cx_bipush (pc := 41) dX2_upsAndHeap_41 (by decide) ?_
      refine cx_icmp_ge (pc := 43) 61 hv5_30 (inR_lit _ rfl) dX2_upsAndHeap_43 rfl H (fun H => ?_) (fun H => ?_)
      · -- 43: 46
        refine aw_aload_n (pc := 46) dX2_upsAndHeap_46 rfl ?_
        refine cx_aload (pc := 47) dX2_upsAndHeap_47 rfl ?_
        refine cx_aload_n (pc := 49) dX2_upsAndHeap_49 rfl ?_
        refine cx_callV (pc := 50) (P := pG) (dC := 5) (mcC := 4) (msC := 125) [rv v4_30, rv s0_19] hE r28 (fun r1 H1 => s_X2_sumOf l sc E R hE hR hsc n v4_30 s0_19 m30 r1 H1) ca_X2_89 rfl ⟨_, rfl, rfl⟩ rfl rfl (Nat.le_of_ble_eq_true rfl) (Nat.le_of_ble_eq_true rfl) (by omega) (by omega) dX2_upsAndHeap_50 H (fun x50 m50 v50 hh50 H hp => ?_)
        refine cx_backG hp ?_
        refine cx_astore (pc := 53) [(4, rv x50.toNat), (0, .ref 28), (1, iv p1), (2, iv p2), (3, rv s0_19), (5, iv v5_30)] dX2_upsAndHeap_53 (by unfold g_st1; simp only [List.filter, rv_cat]; rfl) (by decide) ?_
        refine cx_iinc (pc := 55) [(5, iv (w32 (v5_30 + 1))), (4, rv x50.toNat), (0, .ref 28), (1, iv p1), (2, iv p2), (3, rv s0_19)] dX2_upsAndHeap_55 rfl (by unfold g_st1; simp only [List.filter, rv_cat]; rfl) (by decide) ?_
        refine aw_goto (pc := 58) 30 dX2_upsAndHeap_58 rfl ?_
        exact AW.sel [2, 3, 4, 5, 1, 0] rfl (ih30 _ _ _ _ _ (by omega) (by omega) (inR_w32 _) H)
      · -- 43: 61
        refine AW.widen (k' := (u30 + 0)) (n' := (w30v + 0)) (by omega) (by omega) ?_
        exact AW.sel [0, 2, 4] rfl (hj61 _ H)
    · -- 36: 61
      refine AW.widen (k' := (u30 + 0)) (n' := (w30v + 0)) (by omega) (by omega) ?_
      exact AW.sel [0, 2, 4] rfl (hj61 _ H)
  refine cx_if_ge (pc := 1) 15 hp1 dX2_upsAndHeap_1 rfl H (fun H => ?_) (fun H => ?_)
  · -- 1: 4
    refine aw_aload_n (pc := 4) dX2_upsAndHeap_4 rfl ?_
    refine aw_aload_n (pc := 5) dX2_upsAndHeap_5 rfl ?_
    refine cx_gtG (pc := 6) hE r28 fl_X2_49 rfl rfl (Nat.le_of_ble_eq_true rfl) dX2_upsAndHeap_6 H (fun x6 H => ?_)
    refine cx_callV (pc := 9) (P := pG) (dC := 5) (mcC := 4) (msC := 125) [rv x6] hE r28 (fun r1 H1 => s_X2_negativeOf l sc E R hE hR hsc n x6 mi r1 H1) ca_X2_82 rfl ⟨_, rfl, rfl⟩ rfl rfl (Nat.le_of_ble_eq_true rfl) (Nat.le_of_ble_eq_true rfl) (Nat.le_of_ble_eq_true rfl) (Nat.le_of_ble_eq_true rfl) dX2_upsAndHeap_9 H (fun x9 m9 v9 hh9 H hp => ?_)
    refine cx_backG hp ?_
    refine aw_goto (pc := 12) 19 dX2_upsAndHeap_12 rfl ?_
    exact AW.sel [0, 1, 2] rfl (hj19 _ _ H)
  · -- 1: 15
    refine aw_aload_n (pc := 15) dX2_upsAndHeap_15 rfl ?_
    refine cx_gtG (pc := 16) hE r28 fl_X2_49 rfl rfl (Nat.le_of_ble_eq_true rfl) dX2_upsAndHeap_16 H (fun x16 H => ?_)
    refine AW.widen (k' := 4) (n' := 125) (Nat.le_of_ble_eq_true rfl) (Nat.le_of_ble_eq_true rfl) ?_
    exact AW.sel [0, 1, 2] rfl (hj19 _ _ H)
/-- X2 flowerOf (III)LUppityGames$Game; -/
def f_X2_flowerOf (n : Nat) (p1 : Int) (p2 : Int) (p3 : Int) (mi : Mem) : Option Rz :=
  cal (f_X9_clear n mi) fun _ m4 =>
  cal (f_X2_heapNode n p1 m4) fun x9 m9 =>
  lp (F := Int → Int → Mem → Option Rz) (fun _ _ _ => none) (fun w19 v4_19 v5_19 m19 =>
    jn (fun (m143 : Mem) =>
      cal (f_X4_written n v4_19 m143) fun x149 m149 =>
      rt (x149.toNat : Nat) m149
    ) fun (j143 : Mem → Option Rz) =>
    if p2 < v5_19 then (
      j143 m19
    ) else
    if v5_19 < 11 then (
      lp (F := Int → Int → Mem → Option Rz) (fun _ _ _ => none) (fun w35 v4_35 v6_35 m35 =>
        jn (fun (m137 : Mem) =>
          w19 v4_35 (w32 (v5_19 + 1)) m137
        ) fun (j137 : Mem → Option Rz) =>
        if p3 < v6_35 then (
          j137 m35
        ) else
        if v6_35 < 11 then (
          cal (f_X2_beginHeap n p1 m35) fun _ m50 =>
          jn (fun (m80 : Mem) =>
            jn (fun (m107 : Mem) =>
              cal (f_X9_end n m107) fun x111 m111 =>
              stI m111 30 (w32 ((w32 (v5_19 * 11)) + v6_35)) x111 fun m130 =>
              w35 x111 (w32 (v6_35 + 1)) m130
            ) fun (j107 : Mem → Option Rz) =>
            if 0 < v6_35 then (
              ldI m80 30 (w32 ((w32 ((w32 (v5_19 * 11)) + v6_35)) - 1)) fun x103 =>
              cal (f_X9_addRight n x103 m80) fun _ m104 =>
              j107 m104
            ) else
            j107 m80
          ) fun (j80 : Mem → Option Rz) =>
          if 0 < v5_19 then (
            ldI m50 30 (w32 ((w32 ((w32 (v5_19 - 1)) * 11)) + v6_35)) fun x76 =>
            cal (f_X9_addLeft n x76 m50) fun _ m77 =>
            j80 m77
          ) else
          j80 m50
        ) else
        j137 m35
      ) n v4_19 0 m19
    ) else
    j143 m19
  ) n (-1) 0 m9
set_option maxRecDepth 100000 in
set_option maxHeartbeats 4000000 in
theorem s_X2_flowerOf (l : Launch) (sc : g_S) (E : Mem → g_H) (R : Nat → Prop) (hE : LE E R) (hR : RMK R) (hsc : sc.1 = 0) (n : Nat)  (p1 : Int) (p2 : Int) (p3 : Int) (hp1 : inR p1) (hp2 : inR p2) (hp3 : inR p3) (mi : Mem) (r : Rz) (H : f_X2_flowerOf n p1 p2 p3 mi = some r) : AMet l sc yX2_flowerOf cX2_flowerOf 7 (some (FieldType.object "UppityGames$Game")) 5 4 125 [.ref 28, iv p1, iv p2, iv p3] (E mi) (pG E r) := by
  have r4 : R 4 := hR.1 4 (Nat.le_of_ble_eq_true rfl) (Nat.le_of_ble_eq_true rfl)
  have r18 : R 18 := hR.1 18 (Nat.le_of_ble_eq_true rfl) (Nat.le_of_ble_eq_true rfl)
  have r28 : R 28 := hR.1 28 (Nat.le_of_ble_eq_true rfl) (Nat.le_of_ble_eq_true rfl)
  have r30 : R 30 := hR.1 30 (Nat.le_of_ble_eq_true rfl) (Nat.le_of_ble_eq_true rfl)
  unfold f_X2_flowerOf at H
  refine AMet.of (own := RX2) (by decide +kernel) rfl (Nat.le_of_ble_eq_true rfl) [(0, .ref 28), (1, iv p1), (2, iv p2), (3, iv p3)] rfl (fun D base ad => ?_)
  refine aw_aload_n (pc := 0) dX2_flowerOf_0 rfl ?_
  refine cx_gtC (pc := 1) 4 hE r28 fl_X2_26 rfl rfl (Nat.le_of_ble_eq_true rfl) dX2_flowerOf_1 ?_
  refine cx_callV (pc := 4) (P := pV) (dC := 3) (mcC := 0) (msC := 0) [] hE r4 (fun r1 H1 => s_X9_clear l sc E R hE hR.ys n mi r1 H1) ca_X2_34 rfl ⟨_, rfl, rfl⟩ rfl rfl (Nat.le_of_ble_eq_true rfl) (Nat.le_of_ble_eq_true rfl) (Nat.le_of_ble_eq_true rfl) (Nat.le_of_ble_eq_true rfl) dX2_flowerOf_4 H (fun x4 m4 v4 hh4 H hp => ?_)
  refine cx_backV hp ?_
  refine aw_aload_n (pc := 7) dX2_flowerOf_7 rfl ?_
  refine aw_iload_n (pc := 8) dX2_flowerOf_8 rfl ?_
  refine cx_callV (pc := 9) (P := pI) (dC := 3) (mcC := 0) (msC := 0) [iv p1] hE r28 (fun r1 H1 => s_X2_heapNode l sc E R hE hR n p1 hp1 m4 r1 H1) ca_X2_76 rfl ⟨_, rfl, rfl⟩ rfl rfl (Nat.le_of_ble_eq_true rfl) (Nat.le_of_ble_eq_true rfl) (Nat.le_of_ble_eq_true rfl) (Nat.le_of_ble_eq_true rfl) dX2_flowerOf_9 H (fun x9 m9 v9 hh9 H hp => ?_)
  refine cx_backI hp (fun hx9 => ?_)
  refine aw_pop (pc := 12) dX2_flowerOf_12 rfl ?_
  refine cx_iconst (pc := 13) dX2_flowerOf_13 ?_
  refine aw_istore (pc := 14) [(4, iv (-1)), (0, .ref 28), (1, iv p1), (2, iv p2), (3, iv p3)] dX2_flowerOf_14 rfl (by decide) ?_
  refine cx_iconst (pc := 16) dX2_flowerOf_16 ?_
  refine aw_istore (pc := 17) [(5, iv 0), (4, iv (-1)), (0, .ref 28), (1, iv p1), (2, iv p2), (3, iv p3)] dX2_flowerOf_17 rfl (by decide) ?_
  refine AW.sel [2, 3, 4, 5, 1, 0] rfl (lp_ind (bot := fun _ _ _ => none) (fun (f9 : Int → Int → Mem → Option Rz) => ∀ (v4_19 : Int) (v5_19 : Int) (m19 : Mem), inR v4_19 → inR v5_19 → f9 v4_19 v5_19 m19 = some r → AW l D base sc RX2 yX2_flowerOf cX2_flowerOf 7 (some (FieldType.object "UppityGames$Game")) 5 4 125 ad (E mi) (pG E r) 0 0 (E m19) 19 [(0, .ref 28), (1, iv p1), (2, iv p2), (3, iv p3), (4, iv v4_19), (5, iv v5_19)] []) (fun _ _ _ _ _ h9 => nomatch h9) (fun w19 ih19 v4_19 v5_19 m19 hv4_19 hv5_19 H => ?_) n _ _ _ (inR_lit _ rfl) (inR_lit _ rfl) H)
  refine aw_iload (pc := 19) dX2_flowerOf_19 rfl ?_
  refine aw_iload_n (pc := 21) dX2_flowerOf_21 rfl ?_
  refine jn_ind (fun (f9 : Mem → Option Rz) => ∀ (m143 : Mem), f9 m143 = some r → AW l D base sc RX2 yX2_flowerOf cX2_flowerOf 7 (some (FieldType.object "UppityGames$Game")) 5 4 125 ad (E mi) (pG E r) 0 0 (E m143) 143 [(0, .ref 28), (4, iv v4_19)] []) (fun m143 H => ?_) (fun j143 hj143 H => ?_) H
  · -- 143
    refine aw_aload_n (pc := 143) dX2_flowerOf_143 rfl ?_
    refine cx_gtC (pc := 144) 18 hE r28 fl_X2_30 rfl rfl (Nat.le_of_ble_eq_true rfl) dX2_flowerOf_144 ?_
    refine aw_iload (pc := 147) dX2_flowerOf_147 rfl ?_
    refine cx_callV (pc := 149) (P := pG) (dC := 4) (mcC := 4) (msC := 125) [iv v4_19] hE r18 (fun r1 H1 => s_X4_written l sc E R hE hR.ys hsc n v4_19 hv4_19 m143 r1 H1) ca_X2_43 rfl ⟨_, rfl, rfl⟩ rfl rfl (Nat.le_of_ble_eq_true rfl) (Nat.le_of_ble_eq_true rfl) (Nat.le_of_ble_eq_true rfl) (Nat.le_of_ble_eq_true rfl) dX2_flowerOf_149 H (fun x149 m149 v149 hh149 H hp => ?_)
    refine cx_backG hp ?_
    exact cx_aret (pc := 152) ⟨_, rfl, Or.inl ⟨_, rfl⟩⟩ (Nat.le_of_ble_eq_true rfl) (Nat.le_of_ble_eq_true rfl) dX2_flowerOf_152 H
  refine cx_icmp_gt (pc := 22) 143 hv5_19 hp2 dX2_flowerOf_22 rfl H (fun H => ?_) (fun H => ?_)
  · -- 22: 143
    exact AW.sel [0, 4] rfl (hj143 _ H)
  · -- 22: 25
    refine aw_iload (pc := 25) dX2_flowerOf_25 rfl ?_
    refine cx_bipush (pc := 27) dX2_flowerOf_27 (by decide) ?_
    refine cx_icmp_ge (pc := 29) 143 hv5_19 (inR_lit _ rfl) dX2_flowerOf_29 rfl H (fun H => ?_) (fun H => ?_)
    · -- 29: 32
      refine cx_iconst (pc := 32) dX2_flowerOf_32 ?_
      refine aw_istore (pc := 33) [(6, iv 0), (0, .ref 28), (1, iv p1), (2, iv p2), (3, iv p3), (4, iv v4_19), (5, iv v5_19)] dX2_flowerOf_33 rfl (by decide) ?_
      refine AW.sel [1, 2, 3, 4, 5, 6, 0] rfl (lp_ind (bot := fun _ _ _ => none) (fun (f9 : Int → Int → Mem → Option Rz) => ∀ (v4_35 : Int) (v6_35 : Int) (m35 : Mem), inR v4_35 → inR v6_35 → f9 v4_35 v6_35 m35 = some r → AW l D base sc RX2 yX2_flowerOf cX2_flowerOf 7 (some (FieldType.object "UppityGames$Game")) 5 4 125 ad (E mi) (pG E r) 0 0 (E m35) 35 [(0, .ref 28), (1, iv p1), (2, iv p2), (3, iv p3), (4, iv v4_35), (5, iv v5_19), (6, iv v6_35)] []) (fun _ _ _ _ _ h9 => nomatch h9) (fun w35 ih35 v4_35 v6_35 m35 hv4_35 hv6_35 H => ?_) n _ _ _ hv4_19 (inR_lit _ rfl) H)
      refine aw_iload (pc := 35) dX2_flowerOf_35 rfl ?_
      refine aw_iload_n (pc := 37) dX2_flowerOf_37 rfl ?_
      refine jn_ind (fun (f9 : Mem → Option Rz) => ∀ (m137 : Mem), f9 m137 = some r → AW l D base sc RX2 yX2_flowerOf cX2_flowerOf 7 (some (FieldType.object "UppityGames$Game")) 5 4 125 ad (E mi) (pG E r) 0 0 (E m137) 137 [(0, .ref 28), (1, iv p1), (2, iv p2), (3, iv p3), (4, iv v4_35), (5, iv v5_19)] []) (fun m137 H => ?_) (fun j137 hj137 H => ?_) H
      · -- 137
        refine cx_iinc (pc := 137) [(5, iv (w32 (v5_19 + 1))), (0, .ref 28), (1, iv p1), (2, iv p2), (3, iv p3), (4, iv v4_35)] dX2_flowerOf_137 rfl rfl (by decide) ?_
        refine aw_goto (pc := 140) 19 dX2_flowerOf_140 rfl ?_
        exact AW.sel [1, 2, 3, 4, 5, 0] rfl (ih19 _ _ _ hv4_35 (inR_w32 _) H)
      refine cx_icmp_gt (pc := 38) 137 hv6_35 hp3 dX2_flowerOf_38 rfl H (fun H => ?_) (fun H => ?_)
      · -- 38: 137
        exact AW.sel [0, 1, 2, 3, 4, 5] rfl (hj137 _ H)
      · -- 38: 41
        refine aw_iload (pc := 41) dX2_flowerOf_41 rfl ?_
        refine cx_bipush (pc := 43) dX2_flowerOf_43 (by decide) ?_
        refine cx_icmp_ge (pc := 45) 137 hv6_35 (inR_lit _ rfl) dX2_flowerOf_45 rfl H (fun H => ?_) (fun H => ?_)
        · -- 45: 48
          refine aw_aload_n (pc := 48) dX2_flowerOf_48 rfl ?_
          refine aw_iload_n (pc := 49) dX2_flowerOf_49 rfl ?_
          refine cx_callV (pc := 50) (P := pV) (dC := 2) (mcC := 0) (msC := 0) [iv p1] hE r28 (fun r1 H1 => s_X2_beginHeap l sc E R hE hR n p1 hp1 m35 r1 H1) ca_X2_79 rfl ⟨_, rfl, rfl⟩ rfl rfl (Nat.le_of_ble_eq_true rfl) (Nat.le_of_ble_eq_true rfl) (Nat.le_of_ble_eq_true rfl) (Nat.le_of_ble_eq_true rfl) dX2_flowerOf_50 H (fun x50 m50 v50 hh50 H hp => ?_)
          refine cx_backV hp ?_
          refine aw_iload (pc := 53) dX2_flowerOf_53 rfl ?_
          refine jn_ind (fun (f9 : Mem → Option Rz) => ∀ (m80 : Mem), f9 m80 = some r → AW l D base sc RX2 yX2_flowerOf cX2_flowerOf 7 (some (FieldType.object "UppityGames$Game")) 5 4 125 ad (E mi) (pG E r) 0 0 (E m80) 80 [(0, .ref 28), (1, iv p1), (2, iv p2), (3, iv p3), (5, iv v5_19), (6, iv v6_35)] []) (fun m80 H => ?_) (fun j80 hj80 H => ?_) H
          · -- 80
            refine aw_iload (pc := 80) dX2_flowerOf_80 rfl ?_
            refine jn_ind (fun (f9 : Mem → Option Rz) => ∀ (m107 : Mem), f9 m107 = some r → AW l D base sc RX2 yX2_flowerOf cX2_flowerOf 7 (some (FieldType.object "UppityGames$Game")) 5 4 125 ad (E mi) (pG E r) 0 0 (E m107) 107 [(0, .ref 28), (1, iv p1), (2, iv p2), (3, iv p3), (5, iv v5_19), (6, iv v6_35)] []) (fun m107 H => ?_) (fun j107 hj107 H => ?_) H
            · -- 107
              refine aw_aload_n (pc := 107) dX2_flowerOf_107 rfl ?_
              refine cx_gtC (pc := 108) 4 hE r28 fl_X2_26 rfl rfl (Nat.le_of_ble_eq_true rfl) dX2_flowerOf_108 ?_
              refine cx_callV (pc := 111) (P := pI) (dC := 2) (mcC := 0) (msC := 0) [] hE r4 (fun r1 H1 => s_X9_end l sc E R hE hR.ys n m107 r1 H1) ca_X2_63 rfl ⟨_, rfl, rfl⟩ rfl rfl (Nat.le_of_ble_eq_true rfl) (Nat.le_of_ble_eq_true rfl) (Nat.le_of_ble_eq_true rfl) (Nat.le_of_ble_eq_true rfl) dX2_flowerOf_111 H (fun x111 m111 v111 hh111 H hp => ?_)
              refine cx_backI hp (fun hx111 => ?_)
              refine aw_istore (pc := 114) [(4, iv x111), (0, .ref 28), (1, iv p1), (2, iv p2), (3, iv p3), (5, iv v5_19), (6, iv v6_35)] dX2_flowerOf_114 rfl (by decide) ?_
              refine aw_aload_n (pc := 116) dX2_flowerOf_116 rfl ?_
              refine cx_gtC (pc := 117) 30 hE r28 fl_X2_15 rfl rfl (Nat.le_of_ble_eq_true rfl) dX2_flowerOf_117 ?_
              refine aw_iload (pc := 120) dX2_flowerOf_120 rfl ?_
              refine cx_bipush (pc := 122) dX2_flowerOf_122 (by decide) ?_
              refine cx_imul (pc := 124) dX2_flowerOf_124 ?_
              refine aw_iload (pc := 125) dX2_flowerOf_125 rfl ?_
              refine cx_iadd (pc := 127) dX2_flowerOf_127 ?_
              refine aw_iload (pc := 128) dX2_flowerOf_128 rfl ?_
              refine cx_stI (pc := 130) hE r30 (inR_w32 _) dX2_flowerOf_130 H (fun m130 H => ?_)
              refine cx_iinc (pc := 131) [(6, iv (w32 (v6_35 + 1))), (4, iv x111), (0, .ref 28), (1, iv p1), (2, iv p2), (3, iv p3), (5, iv v5_19)] dX2_flowerOf_131 rfl rfl (by decide) ?_
              refine aw_goto (pc := 134) 35 dX2_flowerOf_134 rfl ?_
              exact AW.sel [2, 3, 4, 5, 1, 6, 0] rfl (ih35 _ _ _ hx111 (inR_w32 _) H)
            refine cx_if_le (pc := 82) 107 hv6_35 dX2_flowerOf_82 rfl H (fun H => ?_) (fun H => ?_)
            · -- 82: 85
              refine aw_aload_n (pc := 85) dX2_flowerOf_85 rfl ?_
              refine cx_gtC (pc := 86) 4 hE r28 fl_X2_26 rfl rfl (Nat.le_of_ble_eq_true rfl) dX2_flowerOf_86 ?_
              refine aw_aload_n (pc := 89) dX2_flowerOf_89 rfl ?_
              refine cx_gtC (pc := 90) 30 hE r28 fl_X2_15 rfl rfl (Nat.le_of_ble_eq_true rfl) dX2_flowerOf_90 ?_
              refine aw_iload (pc := 93) dX2_flowerOf_93 rfl ?_
              refine cx_bipush (pc := 95) dX2_flowerOf_95 (by decide) ?_
              refine cx_imul (pc := 97) dX2_flowerOf_97 ?_
              refine aw_iload (pc := 98) dX2_flowerOf_98 rfl ?_
              refine cx_iadd (pc := 100) dX2_flowerOf_100 ?_
              refine cx_iconst (pc := 101) dX2_flowerOf_101 ?_
              refine cx_isub (pc := 102) dX2_flowerOf_102 ?_
              refine cx_ldI (pc := 103) hE r30 (inR_w32 _) dX2_flowerOf_103 H (fun x103 hx103 H => ?_)
              refine cx_callV (pc := 104) (P := pV) (dC := 1) (mcC := 0) (msC := 0) [iv x103] hE r4 (fun r1 H1 => s_X9_addRight l sc E R hE hR.ys n x103 hx103 m80 r1 H1) ca_X2_60 rfl ⟨_, rfl, rfl⟩ rfl rfl (Nat.le_of_ble_eq_true rfl) (Nat.le_of_ble_eq_true rfl) (Nat.le_of_ble_eq_true rfl) (Nat.le_of_ble_eq_true rfl) dX2_flowerOf_104 H (fun x104 m104 v104 hh104 H hp => ?_)
              refine cx_backV hp ?_
              exact AW.sel [0, 1, 2, 3, 4, 5] rfl (hj107 _ H)
            · -- 82: 107
              exact AW.sel [0, 1, 2, 3, 4, 5] rfl (hj107 _ H)
          refine cx_if_le (pc := 55) 80 hv5_19 dX2_flowerOf_55 rfl H (fun H => ?_) (fun H => ?_)
          · -- 55: 58
            refine aw_aload_n (pc := 58) dX2_flowerOf_58 rfl ?_
            refine cx_gtC (pc := 59) 4 hE r28 fl_X2_26 rfl rfl (Nat.le_of_ble_eq_true rfl) dX2_flowerOf_59 ?_
            refine aw_aload_n (pc := 62) dX2_flowerOf_62 rfl ?_
            refine cx_gtC (pc := 63) 30 hE r28 fl_X2_15 rfl rfl (Nat.le_of_ble_eq_true rfl) dX2_flowerOf_63 ?_
            refine aw_iload (pc := 66) dX2_flowerOf_66 rfl ?_
            refine cx_iconst (pc := 68) dX2_flowerOf_68 ?_
            refine cx_isub (pc := 69) dX2_flowerOf_69 ?_
            refine cx_bipush (pc := 70) dX2_flowerOf_70 (by decide) ?_
            refine cx_imul (pc := 72) dX2_flowerOf_72 ?_
            refine aw_iload (pc := 73) dX2_flowerOf_73 rfl ?_
            refine cx_iadd (pc := 75) dX2_flowerOf_75 ?_
            refine cx_ldI (pc := 76) hE r30 (inR_w32 _) dX2_flowerOf_76 H (fun x76 hx76 H => ?_)
            refine cx_callV (pc := 77) (P := pV) (dC := 1) (mcC := 0) (msC := 0) [iv x76] hE r4 (fun r1 H1 => s_X9_addLeft l sc E R hE hR.ys n x76 hx76 m50 r1 H1) ca_X2_56 rfl ⟨_, rfl, rfl⟩ rfl rfl (Nat.le_of_ble_eq_true rfl) (Nat.le_of_ble_eq_true rfl) (Nat.le_of_ble_eq_true rfl) (Nat.le_of_ble_eq_true rfl) dX2_flowerOf_77 H (fun x77 m77 v77 hh77 H hp => ?_)
            refine cx_backV hp ?_
            exact AW.sel [0, 1, 2, 3, 5, 6] rfl (hj80 _ H)
          · -- 55: 80
            exact AW.sel [0, 1, 2, 3, 5, 6] rfl (hj80 _ H)
        · -- 45: 137
          exact AW.sel [0, 1, 2, 3, 4, 5] rfl (hj137 _ H)
    · -- 29: 143
      exact AW.sel [0, 4] rfl (hj143 _ H)
/-- X2 gameOf ([LUppityGames$Game;III)LUppityGames$Game; -/
def f_X2_gameOf (n : Nat) (p1 : Nat) (p2 : Int) (p3 : Int) (p4 : Int) (mi : Mem) : Option Rz :=
  jn (fun (m23 : Mem) =>
    rt (0 : Nat) m23
  ) fun (j23 : Mem → Option Rz) =>
  if p2 < 0 then (
    j23 mi
  ) else
  lenA mi p1 fun x7 =>
  if x7 < p4 then (
    j23 mi
  ) else
  if 120 < w32 (p4 - p2) then (
    j23 mi
  ) else
  cal (f_X9_clear n mi) fun _ m29 =>
  lp (F := Int → Mem → Option Rz) (fun _ _ => none) (fun w35 v5_35 m35 =>
    if v5_35 < p4 then (
      ldG m35 p1 v5_35 fun x54 =>
      cal (f_X2_load n x54 0 m35) fun x56 m56 =>
      stI m56 32 (w32 (v5_35 - p2)) x56 fun m59 =>
      w35 (w32 (v5_35 + 1)) m59
    ) else
    cal (f_X9_begin n m35) fun _ m70 =>
    lp (F := Int → Mem → Option Rz) (fun _ _ => none) (fun w76 v5_76 m76 =>
      if v5_76 < p4 then (
        jn (fun (m124 : Mem) =>
          w76 (w32 (v5_76 + 1)) m124
        ) fun (j124 : Mem → Option Rz) =>
        if v5_76 < p3 then (
          ldI m76 32 (w32 (v5_76 - p2)) fun x101 =>
          cal (f_X9_addLeft n x101 m76) fun _ m102 =>
          j124 m102
        ) else
        ldI m76 32 (w32 (v5_76 - p2)) fun x120 =>
        cal (f_X9_addRight n x120 m76) fun _ m121 =>
        j124 m121
      ) else
      cal (f_X9_end n m76) fun x138 m138 =>
      cal (f_X4_written n x138 m138) fun x141 m141 =>
      rt (x141.toNat : Nat) m141
    ) n p2 m70
  ) n p2 m29
set_option maxRecDepth 100000 in
set_option maxHeartbeats 4000000 in
theorem s_X2_gameOf (l : Launch) (sc : g_S) (E : Mem → g_H) (R : Nat → Prop) (hE : LE E R) (hR : RMK R) (hsc : sc.1 = 0) (n : Nat)  (p1 : Nat) (p2 : Int) (p3 : Int) (p4 : Int) (hp1 : R p1) (hp2 : inR p2) (hp3 : inR p3) (hp4 : inR p4) (mi : Mem) (r : Rz) (H : f_X2_gameOf n p1 p2 p3 p4 mi = some r) : AMet l sc yX2_gameOf cX2_gameOf 6 (some (FieldType.object "UppityGames$Game")) 5 4 125 [.ref 28, .ref p1, iv p2, iv p3, iv p4] (E mi) (pG E r) := by
  have r4 : R 4 := hR.1 4 (Nat.le_of_ble_eq_true rfl) (Nat.le_of_ble_eq_true rfl)
  have r18 : R 18 := hR.1 18 (Nat.le_of_ble_eq_true rfl) (Nat.le_of_ble_eq_true rfl)
  have r28 : R 28 := hR.1 28 (Nat.le_of_ble_eq_true rfl) (Nat.le_of_ble_eq_true rfl)
  have r32 : R 32 := hR.1 32 (Nat.le_of_ble_eq_true rfl) (Nat.le_of_ble_eq_true rfl)
  unfold f_X2_gameOf at H
  refine AMet.of (own := RX2) (by decide +kernel) rfl (Nat.le_of_ble_eq_true rfl) [(0, .ref 28), (1, .ref p1), (2, iv p2), (3, iv p3), (4, iv p4)] rfl (fun D base ad => ?_)
  refine aw_iload_n (pc := 0) dX2_gameOf_0 rfl ?_
  refine jn_ind (fun (f9 : Mem → Option Rz) => ∀ (m23 : Mem), f9 m23 = some r → AW l D base sc RX2 yX2_gameOf cX2_gameOf 6 (some (FieldType.object "UppityGames$Game")) 5 4 125 ad (E mi) (pG E r) 0 0 (E m23) 23 [] []) (fun m23 H => ?_) (fun j23 hj23 H => ?_) H
  · -- 23
    refine cx_null (pc := 23) dX2_gameOf_23 ?_
    exact cx_aret (pc := 24) ⟨_, rfl, Or.inl ⟨_, rfl⟩⟩ (Nat.le_of_ble_eq_true rfl) (Nat.le_of_ble_eq_true rfl) dX2_gameOf_24 H
  refine cx_if_lt (pc := 1) 23 hp2 dX2_gameOf_1 rfl H (fun H => ?_) (fun H => ?_)
  · -- 1: 23
    exact AW.sel [] rfl (hj23 _ H)
  · -- 1: 4
    refine aw_iload (pc := 4) dX2_gameOf_4 rfl ?_
    refine aw_aload_n (pc := 6) dX2_gameOf_6 rfl ?_
    refine cx_lenA (pc := 7) hE hp1 dX2_gameOf_7 H (fun x7 hx7 H => ?_)
    refine cx_icmp_gt (pc := 8) 23 hp4 hx7 dX2_gameOf_8 rfl H (fun H => ?_) (fun H => ?_)
    · -- 8: 23
      exact AW.sel [] rfl (hj23 _ H)
    · -- 8: 11
      refine aw_iload (pc := 11) dX2_gameOf_11 rfl ?_
      refine aw_iload_n (pc := 13) dX2_gameOf_13 rfl ?_
      refine cx_isub (pc := 14) dX2_gameOf_14 ?_
      refine aw_aload_n (pc := 15) dX2_gameOf_15 rfl ?_
      refine cx_gtC (pc := 16) 32 hE r28 fl_X2_23 rfl rfl (Nat.le_of_ble_eq_true rfl) dX2_gameOf_16 ?_
      refine cx_lenC (pc := 19) (c := 120) hE r32 (fun _ => ⟨_, _, rfl, rfl⟩) dX2_gameOf_19 ?_
      refine cx_icmp_le (pc := 20) 25 (inR_w32 _) (inR_lit _ rfl) dX2_gameOf_20 rfl H (fun H => ?_) (fun H => ?_)
      · -- 20: 23
        exact AW.sel [] rfl (hj23 _ H)
      · -- 20: 25
        refine aw_aload_n (pc := 25) dX2_gameOf_25 rfl ?_
        refine cx_gtC (pc := 26) 4 hE r28 fl_X2_26 rfl rfl (Nat.le_of_ble_eq_true rfl) dX2_gameOf_26 ?_
        refine cx_callV (pc := 29) (P := pV) (dC := 3) (mcC := 0) (msC := 0) [] hE r4 (fun r1 H1 => s_X9_clear l sc E R hE hR.ys n mi r1 H1) ca_X2_34 rfl ⟨_, rfl, rfl⟩ rfl rfl (Nat.le_of_ble_eq_true rfl) (Nat.le_of_ble_eq_true rfl) (Nat.le_of_ble_eq_true rfl) (Nat.le_of_ble_eq_true rfl) dX2_gameOf_29 H (fun x29 m29 v29 hh29 H hp => ?_)
        refine cx_backV hp ?_
        refine aw_iload_n (pc := 32) dX2_gameOf_32 rfl ?_
        refine aw_istore (pc := 33) [(5, iv p2), (0, .ref 28), (1, .ref p1), (2, iv p2), (3, iv p3), (4, iv p4)] dX2_gameOf_33 rfl (by decide) ?_
        refine AW.sel [1, 2, 3, 4, 5, 0] rfl (lp_ind (bot := fun _ _ => none) (fun (f9 : Int → Mem → Option Rz) => ∀ (v5_35 : Int) (m35 : Mem), inR v5_35 → f9 v5_35 m35 = some r → AW l D base sc RX2 yX2_gameOf cX2_gameOf 6 (some (FieldType.object "UppityGames$Game")) 5 4 125 ad (E mi) (pG E r) 0 0 (E m35) 35 [(0, .ref 28), (1, .ref p1), (2, iv p2), (3, iv p3), (4, iv p4), (5, iv v5_35)] []) (fun _ _ _ h9 => nomatch h9) (fun w35 ih35 v5_35 m35 hv5_35 H => ?_) n _ _ hp2 H)
        refine aw_iload (pc := 35) dX2_gameOf_35 rfl ?_
        refine aw_iload (pc := 37) dX2_gameOf_37 rfl ?_
        refine cx_icmp_ge (pc := 39) 66 hv5_35 hp4 dX2_gameOf_39 rfl H (fun H => ?_) (fun H => ?_)
        · -- 39: 42
          refine aw_aload_n (pc := 42) dX2_gameOf_42 rfl ?_
          refine cx_gtC (pc := 43) 32 hE r28 fl_X2_23 rfl rfl (Nat.le_of_ble_eq_true rfl) dX2_gameOf_43 ?_
          refine aw_iload (pc := 46) dX2_gameOf_46 rfl ?_
          refine aw_iload_n (pc := 48) dX2_gameOf_48 rfl ?_
          refine cx_isub (pc := 49) dX2_gameOf_49 ?_
          refine aw_aload_n (pc := 50) dX2_gameOf_50 rfl ?_
          refine aw_aload_n (pc := 51) dX2_gameOf_51 rfl ?_
          refine aw_iload (pc := 52) dX2_gameOf_52 rfl ?_
          refine cx_ldG (pc := 54) hE hp1 hv5_35 dX2_gameOf_54 H (fun x54 H => ?_)
          refine cx_iconst (pc := 55) dX2_gameOf_55 ?_
          refine cx_callV (pc := 56) (P := pI) (dC := 3) (mcC := 0) (msC := 0) [rv x54, iv 0] hE r28 (fun r1 H1 => s_X2_load l sc E R hE hR n x54 0 (inR_lit _ rfl) m35 r1 H1) ca_X2_93 rfl ⟨_, rfl, rfl⟩ rfl rfl (Nat.le_of_ble_eq_true rfl) (Nat.le_of_ble_eq_true rfl) (Nat.le_of_ble_eq_true rfl) (Nat.le_of_ble_eq_true rfl) dX2_gameOf_56 H (fun x56 m56 v56 hh56 H hp => ?_)
          refine cx_backI hp (fun hx56 => ?_)
          refine cx_stI (pc := 59) hE r32 (inR_w32 _) dX2_gameOf_59 H (fun m59 H => ?_)
          refine cx_iinc (pc := 60) [(5, iv (w32 (v5_35 + 1))), (0, .ref 28), (1, .ref p1), (2, iv p2), (3, iv p3), (4, iv p4)] dX2_gameOf_60 rfl rfl (by decide) ?_
          refine aw_goto (pc := 63) 35 dX2_gameOf_63 rfl ?_
          exact AW.sel [1, 2, 3, 4, 5, 0] rfl (ih35 _ _ (inR_w32 _) H)
        · -- 39: 66
          refine aw_aload_n (pc := 66) dX2_gameOf_66 rfl ?_
          refine cx_gtC (pc := 67) 4 hE r28 fl_X2_26 rfl rfl (Nat.le_of_ble_eq_true rfl) dX2_gameOf_67 ?_
          refine cx_callV (pc := 70) (P := pV) (dC := 1) (mcC := 0) (msC := 0) [] hE r4 (fun r1 H1 => s_X9_begin l sc E R hE hR.ys n m35 r1 H1) ca_X2_53 rfl ⟨_, rfl, rfl⟩ rfl rfl (Nat.le_of_ble_eq_true rfl) (Nat.le_of_ble_eq_true rfl) (Nat.le_of_ble_eq_true rfl) (Nat.le_of_ble_eq_true rfl) dX2_gameOf_70 H (fun x70 m70 v70 hh70 H hp => ?_)
          refine cx_backV hp ?_
          refine aw_iload_n (pc := 73) dX2_gameOf_73 rfl ?_
          refine aw_istore (pc := 74) [(5, iv p2), (0, .ref 28), (1, .ref p1), (2, iv p2), (3, iv p3), (4, iv p4)] dX2_gameOf_74 rfl (by decide) ?_
          refine AW.sel [1, 3, 4, 5, 0] rfl (lp_ind (bot := fun _ _ => none) (fun (f9 : Int → Mem → Option Rz) => ∀ (v5_76 : Int) (m76 : Mem), inR v5_76 → f9 v5_76 m76 = some r → AW l D base sc RX2 yX2_gameOf cX2_gameOf 6 (some (FieldType.object "UppityGames$Game")) 5 4 125 ad (E mi) (pG E r) 0 0 (E m76) 76 [(0, .ref 28), (2, iv p2), (3, iv p3), (4, iv p4), (5, iv v5_76)] []) (fun _ _ _ h9 => nomatch h9) (fun w76 ih76 v5_76 m76 hv5_76 H => ?_) n _ _ hp2 H)
          refine aw_iload (pc := 76) dX2_gameOf_76 rfl ?_
          refine aw_iload (pc := 78) dX2_gameOf_78 rfl ?_
          refine cx_icmp_ge (pc := 80) 130 hv5_76 hp4 dX2_gameOf_80 rfl H (fun H => ?_) (fun H => ?_)
          · -- 80: 83
            refine aw_iload (pc := 83) dX2_gameOf_83 rfl ?_
            refine aw_iload_n (pc := 85) dX2_gameOf_85 rfl ?_
            refine jn_ind (fun (f9 : Mem → Option Rz) => ∀ (m124 : Mem), f9 m124 = some r → AW l D base sc RX2 yX2_gameOf cX2_gameOf 6 (some (FieldType.object "UppityGames$Game")) 5 4 125 ad (E mi) (pG E r) 0 0 (E m124) 124 [(0, .ref 28), (2, iv p2), (3, iv p3), (4, iv p4), (5, iv v5_76)] []) (fun m124 H => ?_) (fun j124 hj124 H => ?_) H
            · -- 124
              refine cx_iinc (pc := 124) [(5, iv (w32 (v5_76 + 1))), (0, .ref 28), (2, iv p2), (3, iv p3), (4, iv p4)] dX2_gameOf_124 rfl rfl (by decide) ?_
              refine aw_goto (pc := 127) 76 dX2_gameOf_127 rfl ?_
              exact AW.sel [1, 2, 3, 4, 0] rfl (ih76 _ _ (inR_w32 _) H)
            refine cx_icmp_ge (pc := 86) 108 hv5_76 hp3 dX2_gameOf_86 rfl H (fun H => ?_) (fun H => ?_)
            · -- 86: 89
              refine aw_aload_n (pc := 89) dX2_gameOf_89 rfl ?_
              refine cx_gtC (pc := 90) 4 hE r28 fl_X2_26 rfl rfl (Nat.le_of_ble_eq_true rfl) dX2_gameOf_90 ?_
              refine aw_aload_n (pc := 93) dX2_gameOf_93 rfl ?_
              refine cx_gtC (pc := 94) 32 hE r28 fl_X2_23 rfl rfl (Nat.le_of_ble_eq_true rfl) dX2_gameOf_94 ?_
              refine aw_iload (pc := 97) dX2_gameOf_97 rfl ?_
              refine aw_iload_n (pc := 99) dX2_gameOf_99 rfl ?_
              refine cx_isub (pc := 100) dX2_gameOf_100 ?_
              refine cx_ldI (pc := 101) hE r32 (inR_w32 _) dX2_gameOf_101 H (fun x101 hx101 H => ?_)
              refine cx_callV (pc := 102) (P := pV) (dC := 1) (mcC := 0) (msC := 0) [iv x101] hE r4 (fun r1 H1 => s_X9_addLeft l sc E R hE hR.ys n x101 hx101 m76 r1 H1) ca_X2_56 rfl ⟨_, rfl, rfl⟩ rfl rfl (Nat.le_of_ble_eq_true rfl) (Nat.le_of_ble_eq_true rfl) (Nat.le_of_ble_eq_true rfl) (Nat.le_of_ble_eq_true rfl) dX2_gameOf_102 H (fun x102 m102 v102 hh102 H hp => ?_)
              refine cx_backV hp ?_
              refine aw_goto (pc := 105) 124 dX2_gameOf_105 rfl ?_
              exact AW.sel [0, 1, 2, 3, 4] rfl (hj124 _ H)
            · -- 86: 108
              refine aw_aload_n (pc := 108) dX2_gameOf_108 rfl ?_
              refine cx_gtC (pc := 109) 4 hE r28 fl_X2_26 rfl rfl (Nat.le_of_ble_eq_true rfl) dX2_gameOf_109 ?_
              refine aw_aload_n (pc := 112) dX2_gameOf_112 rfl ?_
              refine cx_gtC (pc := 113) 32 hE r28 fl_X2_23 rfl rfl (Nat.le_of_ble_eq_true rfl) dX2_gameOf_113 ?_
              refine aw_iload (pc := 116) dX2_gameOf_116 rfl ?_
              refine aw_iload_n (pc := 118) dX2_gameOf_118 rfl ?_
              refine cx_isub (pc := 119) dX2_gameOf_119 ?_
              refine cx_ldI (pc := 120) hE r32 (inR_w32 _) dX2_gameOf_120 H (fun x120 hx120 H => ?_)
              refine cx_callV (pc := 121) (P := pV) (dC := 1) (mcC := 0) (msC := 0) [iv x120] hE r4 (fun r1 H1 => s_X9_addRight l sc E R hE hR.ys n x120 hx120 m76 r1 H1) ca_X2_60 rfl ⟨_, rfl, rfl⟩ rfl rfl (Nat.le_of_ble_eq_true rfl) (Nat.le_of_ble_eq_true rfl) (Nat.le_of_ble_eq_true rfl) (Nat.le_of_ble_eq_true rfl) dX2_gameOf_121 H (fun x121 m121 v121 hh121 H hp => ?_)
              refine cx_backV hp ?_
              exact AW.sel [0, 1, 2, 3, 4] rfl (hj124 _ H)
          · -- 80: 130
            refine aw_aload_n (pc := 130) dX2_gameOf_130 rfl ?_
            refine cx_gtC (pc := 131) 18 hE r28 fl_X2_30 rfl rfl (Nat.le_of_ble_eq_true rfl) dX2_gameOf_131 ?_
            refine aw_aload_n (pc := 134) dX2_gameOf_134 rfl ?_
            refine cx_gtC (pc := 135) 4 hE r28 fl_X2_26 rfl rfl (Nat.le_of_ble_eq_true rfl) dX2_gameOf_135 ?_
            refine cx_callV (pc := 138) (P := pI) (dC := 2) (mcC := 0) (msC := 0) [] hE r4 (fun r1 H1 => s_X9_end l sc E R hE hR.ys n m76 r1 H1) ca_X2_63 rfl ⟨_, rfl, rfl⟩ rfl rfl (Nat.le_of_ble_eq_true rfl) (Nat.le_of_ble_eq_true rfl) (Nat.le_of_ble_eq_true rfl) (Nat.le_of_ble_eq_true rfl) dX2_gameOf_138 H (fun x138 m138 v138 hh138 H hp => ?_)
            refine cx_backI hp (fun hx138 => ?_)
            refine cx_callV (pc := 141) (P := pG) (dC := 4) (mcC := 4) (msC := 125) [iv x138] hE r18 (fun r1 H1 => s_X4_written l sc E R hE hR.ys hsc n x138 hx138 m138 r1 H1) ca_X2_43 rfl ⟨_, rfl, rfl⟩ rfl rfl (Nat.le_of_ble_eq_true rfl) (Nat.le_of_ble_eq_true rfl) (Nat.le_of_ble_eq_true rfl) (Nat.le_of_ble_eq_true rfl) dX2_gameOf_141 H (fun x141 m141 v141 hh141 H hp => ?_)
            refine cx_backG hp ?_
            exact cx_aret (pc := 144) ⟨_, rfl, Or.inl ⟨_, rfl⟩⟩ (Nat.le_of_ble_eq_true rfl) (Nat.le_of_ble_eq_true rfl) dX2_gameOf_144 H
/-- X2 followerOf (LUppityGames$Game;I)LUppityGames$Game; -/
def f_X2_followerOf (n : Nat) (p1 : Nat) (p2 : Int) (mi : Mem) : Option Rz :=
  cal (f_X9_clear n mi) fun _ m4 =>
  cal (f_X2_load n p1 0 m4) fun x10 m10 =>
  jn (fun (s0_44 : Nat) (m44 : Mem) =>
    rt (s0_44 : Nat) m44
  ) fun (j44 : Nat → Mem → Option Rz) =>
  jn (fun (m43 : Mem) =>
    j44 0 m43
  ) fun (j43 : Mem → Option Rz) =>
  if p2 < 0 then (
    j43 m10
  ) else
  if p2 < 11 then (
    ldI m10 29 p2 fun x36 =>
    cal (f_X4_written n x36 m10) fun x37 m37 =>
    j44 x37.toNat m37
  ) else
  j43 m10
set_option maxRecDepth 100000 in
set_option maxHeartbeats 4000000 in
theorem s_X2_followerOf (l : Launch) (sc : g_S) (E : Mem → g_H) (R : Nat → Prop) (hE : LE E R) (hR : RMK R) (hsc : sc.1 = 0) (n : Nat)  (p1 : Nat) (p2 : Int) (hp2 : inR p2) (mi : Mem) (r : Rz) (H : f_X2_followerOf n p1 p2 mi = some r) : AMet l sc yX2_followerOf cX2_followerOf 3 (some (FieldType.object "UppityGames$Game")) 5 4 125 [.ref 28, rv p1, iv p2] (E mi) (pG E r) := by
  have r4 : R 4 := hR.1 4 (Nat.le_of_ble_eq_true rfl) (Nat.le_of_ble_eq_true rfl)
  have r18 : R 18 := hR.1 18 (Nat.le_of_ble_eq_true rfl) (Nat.le_of_ble_eq_true rfl)
  have r28 : R 28 := hR.1 28 (Nat.le_of_ble_eq_true rfl) (Nat.le_of_ble_eq_true rfl)
  have r29 : R 29 := hR.1 29 (Nat.le_of_ble_eq_true rfl) (Nat.le_of_ble_eq_true rfl)
  unfold f_X2_followerOf at H
  refine AMet.of (own := RX2) (by decide +kernel) rfl (by rcases rv_or p1 with ep1 | ⟨_, ep1⟩ <;> simp only [ep1] <;> exact Nat.le_of_ble_eq_true rfl) [(0, .ref 28), (1, rv p1), (2, iv p2)] (by rcases rv_or p1 with ep1 | ⟨_, ep1⟩ <;> simp only [ep1] <;> rfl) (fun D base ad => ?_)
  refine aw_aload_n (pc := 0) dX2_followerOf_0 rfl ?_
  refine cx_gtC (pc := 1) 4 hE r28 fl_X2_26 rfl rfl (Nat.le_of_ble_eq_true rfl) dX2_followerOf_1 ?_
  refine cx_callV (pc := 4) (P := pV) (dC := 3) (mcC := 0) (msC := 0) [] hE r4 (fun r1 H1 => s_X9_clear l sc E R hE hR.ys n mi r1 H1) ca_X2_34 rfl ⟨_, rfl, rfl⟩ rfl rfl (Nat.le_of_ble_eq_true rfl) (Nat.le_of_ble_eq_true rfl) (Nat.le_of_ble_eq_true rfl) (Nat.le_of_ble_eq_true rfl) dX2_followerOf_4 H (fun x4 m4 v4 hh4 H hp => ?_)
  refine cx_backV hp ?_
  refine aw_aload_n (pc := 7) dX2_followerOf_7 rfl ?_
  refine cx_aload_n (pc := 8) dX2_followerOf_8 rfl ?_
  refine cx_iconst (pc := 9) dX2_followerOf_9 ?_
  refine cx_callV (pc := 10) (P := pI) (dC := 3) (mcC := 0) (msC := 0) [rv p1, iv 0] hE r28 (fun r1 H1 => s_X2_load l sc E R hE hR n p1 0 (inR_lit _ rfl) m4 r1 H1) ca_X2_93 rfl ⟨_, rfl, rfl⟩ rfl rfl (Nat.le_of_ble_eq_true rfl) (Nat.le_of_ble_eq_true rfl) (Nat.le_of_ble_eq_true rfl) (Nat.le_of_ble_eq_true rfl) dX2_followerOf_10 H (fun x10 m10 v10 hh10 H hp => ?_)
  refine cx_backI hp (fun hx10 => ?_)
  refine aw_pop (pc := 13) dX2_followerOf_13 rfl ?_
  refine aw_iload_n (pc := 14) dX2_followerOf_14 rfl ?_
  refine jn_ind (fun (f9 : Nat → Mem → Option Rz) => ∀ (s0_44 : Nat) (m44 : Mem), f9 s0_44 m44 = some r → AW l D base sc RX2 yX2_followerOf cX2_followerOf 3 (some (FieldType.object "UppityGames$Game")) 5 4 125 ad (E mi) (pG E r) 4 125 (E m44) 44 [] [rv s0_44]) (fun s0_44 m44 H => ?_) (fun j44 hj44 H => ?_) H
  · -- 44
    exact cx_aret (pc := 44) ⟨_, rfl, Or.inl ⟨_, rfl⟩⟩ (Nat.le_of_ble_eq_true rfl) (Nat.le_of_ble_eq_true rfl) dX2_followerOf_44 H
  refine jn_ind (fun (f9 : Mem → Option Rz) => ∀ (m43 : Mem), f9 m43 = some r → AW l D base sc RX2 yX2_followerOf cX2_followerOf 3 (some (FieldType.object "UppityGames$Game")) 5 4 125 ad (E mi) (pG E r) 0 0 (E m43) 43 [] []) (fun m43 H => ?_) (fun j43 hj43 H => ?_) H
  · -- 43
    refine cx_null (pc := 43) dX2_followerOf_43 ?_
    refine AW.widen (k' := 4) (n' := 125) (Nat.le_of_ble_eq_true rfl) (Nat.le_of_ble_eq_true rfl) ?_
    exact AW.sel [] rfl (hj44 _ _ H)
  refine cx_if_lt (pc := 15) 43 hp2 dX2_followerOf_15 rfl H (fun H => ?_) (fun H => ?_)
  · -- 15: 43
    exact AW.sel [] rfl (hj43 _ H)
  · -- 15: 18
    refine aw_iload_n (pc := 18) dX2_followerOf_18 rfl ?_
    refine aw_aload_n (pc := 19) dX2_followerOf_19 rfl ?_
    refine cx_gtC (pc := 20) 29 hE r28 fl_X2_11 rfl rfl (Nat.le_of_ble_eq_true rfl) dX2_followerOf_20 ?_
    refine cx_lenC (pc := 23) (c := 11) hE r29 (fun _ => ⟨_, _, rfl, rfl⟩) dX2_followerOf_23 ?_
    refine cx_icmp_ge (pc := 24) 43 hp2 (inR_lit _ rfl) dX2_followerOf_24 rfl H (fun H => ?_) (fun H => ?_)
    · -- 24: 27
      refine aw_aload_n (pc := 27) dX2_followerOf_27 rfl ?_
      refine cx_gtC (pc := 28) 18 hE r28 fl_X2_30 rfl rfl (Nat.le_of_ble_eq_true rfl) dX2_followerOf_28 ?_
      refine aw_aload_n (pc := 31) dX2_followerOf_31 rfl ?_
      refine cx_gtC (pc := 32) 29 hE r28 fl_X2_11 rfl rfl (Nat.le_of_ble_eq_true rfl) dX2_followerOf_32 ?_
      refine aw_iload_n (pc := 35) dX2_followerOf_35 rfl ?_
      refine cx_ldI (pc := 36) hE r29 hp2 dX2_followerOf_36 H (fun x36 hx36 H => ?_)
      refine cx_callV (pc := 37) (P := pG) (dC := 4) (mcC := 4) (msC := 125) [iv x36] hE r18 (fun r1 H1 => s_X4_written l sc E R hE hR.ys hsc n x36 hx36 m10 r1 H1) ca_X2_43 rfl ⟨_, rfl, rfl⟩ rfl rfl (Nat.le_of_ble_eq_true rfl) (Nat.le_of_ble_eq_true rfl) (Nat.le_of_ble_eq_true rfl) (Nat.le_of_ble_eq_true rfl) dX2_followerOf_37 H (fun x37 m37 v37 hh37 H hp => ?_)
      refine cx_backG hp ?_
      refine aw_goto (pc := 40) 44 dX2_followerOf_40 rfl ?_
      exact AW.sel [] rfl (hj44 _ _ H)
    · -- 24: 43
      exact AW.sel [] rfl (hj43 _ H)
