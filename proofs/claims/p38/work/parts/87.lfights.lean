/-! THE LAW: fights -/
theorem irem_2 {M : Nat} (h : M ≤ 1000) : irem (M : Int) 2 = ((M % 2 : Nat) : Int) := by
  rw [irem_tmod (inN (by omega)) (by decide), Int.tmod_eq_emod_of_nonneg (by omega)]
  omega
theorem SG.gx {m : Mem} {i K : Nat} (h : SG m i K) : GX K := by
  obtain ⟨c, f, o, _, O⟩ := h
  exact GX.of O c f.1
set_option maxRecDepth 100000 in
set_option maxHeartbeats 8000000 in
theorem s_L_fights (l : Launch) (sc : g_S) (hsc : sc.1 = 0) {n : Nat} (hn : 300 < n) {γ γy t0 : Nat → Nat} {B a b w : Nat} {F : g_H} {mx my : Mem} (ha : a < 8) (hb : b < 8) (a6 : a ≠ 6) (b6 : b ≠ 6) (hw : w < 2) (hB : B + 5000 < 2147483648) (J : JS γ γy 0 t0 B mx my) : AMet l sc yL_fights cL_fights 8 (some .boolean) 7 4 125 [.ref 1, iv (a : Int), iv (b : Int), iv (w : Int)] (E2 F mx my) (fun v hp' => v = some (iv 1) ∧ ∃ (γ' : Nat → Nat) (mx' my' : Mem), hp' = E2 F mx' my' ∧ (∀ i, i ≠ 6 → γ' i = γ i) ∧ JS γ' γy 0 t0 (B + 4000) mx' my') := by
  have Ga := (J.1.1 a ha).gx
  have Gb := (J.1.1 b hb).gx
  refine AMet.of (own := RL) (by decide +kernel) rfl (Nat.le_of_ble_eq_true rfl) [(0, .ref 1), (1, iv (a : Int)), (2, iv (b : Int)), (3, iv (w : Int))] rfl (fun D base ad => ?_)
  by_cases win : wins w (gadd (γ a) (γ b))
  · skip
    refine aw_aload_n (pc := 0) dL_fights_0 rfl ?_
    refine aw_iload_n (pc := 1) dL_fights_1 rfl ?_
    refine aw_iload_n (pc := 2) dL_fights_2 rfl ?_
    refine lx_call (pc := 3) [iv (a : Int), iv (b : Int)] J.2.2.2.1 (outcome_ok hn J.1 ha hb) (fun v m' h => h.2.2.1) (fun E R hE hR r H => s_X10_outcome l sc E R hE hR n (a : Int) (b : Int) ⟨by omega, by omega⟩ ⟨by omega, by omega⟩ mx r H) ca_L_59 rfl rfl rfl (Nat.le_of_ble_eq_true rfl) (cat_8 (Nat.le_of_ble_eq_true rfl)) (by omega) (by omega) dL_fights_3 (fun x1 mx1 my1 hx1 Q1 T1 f1 => ?_)
    obtain ⟨e1, s1⟩ := Q1
    have J1 := J.x s1.1 s1.2.2 T1 f1
    refine aw_istore (pc := 6) [(4, iv x1), (0, .ref 1), (1, iv (a : Int)), (2, iv (b : Int)), (3, iv (w : Int))] dL_fights_6 rfl (by decide) ?_
    refine aw_iload (pc := 8) dL_fights_8 rfl ?_
    refine aw_iload_n (pc := 10) dL_fights_10 rfl ?_
    refine lp_call (pc := 11) [iv x1, iv (w : Int)] (s_L_isFirst l sc x1 w hx1 hw _) ca_L_62 rfl rfl (Nat.le_of_ble_eq_true rfl) (cat_8 (Nat.le_of_ble_eq_true rfl)) (Nat.le_of_ble_eq_true rfl) (Nat.le_of_ble_eq_true rfl) dL_fights_11 ?_
    refine AW.eqs (st' := [iv 1]) (by first | (rw [e1, show isF (vd (gadd (γ a) (γ b))) w = 1 from (by unfold isF; rw [if_pos ((vd_wins hw).mpr win)])]; done) | (rw [e1, show isF (vd (gadd (γ a) (γ b))) w = 1 from (by unfold isF; rw [if_pos ((vd_wins hw).mpr win)])]; rfl)) ?_
    refine aw_istore (pc := 14) [(5, iv 1), (4, iv x1), (0, .ref 1), (1, iv (a : Int)), (2, iv (b : Int)), (3, iv (w : Int))] dL_fights_14 rfl (by decide) ?_
    refine aw_aload_n (pc := 16) dL_fights_16 rfl ?_
    refine aw_iload_n (pc := 17) dL_fights_17 rfl ?_
    refine aw_iload_n (pc := 18) dL_fights_18 rfl ?_
    refine aw_iload_n (pc := 19) dL_fights_19 rfl ?_
    refine cx_iconst (pc := 20) dL_fights_20 ?_
    refine lx_call (pc := 21) [iv (a : Int), iv (b : Int), iv (w : Int), iv ((0 : Nat) : Int)] J1.2.2.2.1 (reply_ok hn J1.1 ha hb hw (t := 0) (by decide)) (fun v m' h => h.2.2.1) (fun E R hE hR r H => s_X10_reply l sc E R hE hR n (a : Int) (b : Int) (w : Int) ((0 : Nat) : Int) ⟨by omega, by omega⟩ ⟨by omega, by omega⟩ ⟨by omega, by omega⟩ ⟨by omega, by omega⟩ mx1 r H) ca_L_66 rfl rfl rfl (Nat.le_of_ble_eq_true rfl) (cat_8 (Nat.le_of_ble_eq_true rfl)) (by omega) (by omega) dL_fights_21 (fun x2 mx2 my2 hx2 Q2 T2 f2 => ?_)
    obtain ⟨e2, s2⟩ := Q2
    have J2 := J1.x s2.1 s2.2.2 T2 f2
    refine aw_istore (pc := 24) [(6, iv x2), (5, iv 1), (4, iv x1), (0, .ref 1), (1, iv (a : Int)), (2, iv (b : Int)), (3, iv (w : Int))] dL_fights_24 rfl (by decide) ?_
    refine aw_aload_n (pc := 26) dL_fights_26 rfl ?_
    refine aw_iload_n (pc := 27) dL_fights_27 rfl ?_
    refine aw_iload_n (pc := 28) dL_fights_28 rfl ?_
    refine aw_iload_n (pc := 29) dL_fights_29 rfl ?_
    refine cx_iconst (pc := 30) dL_fights_30 ?_
    refine lx_call (pc := 31) [iv (a : Int), iv (b : Int), iv (w : Int), iv ((1 : Nat) : Int)] J2.2.2.2.1 (reply_ok hn J2.1 ha hb hw (t := 1) (by decide)) (fun v m' h => h.2.2.1) (fun E R hE hR r H => s_X10_reply l sc E R hE hR n (a : Int) (b : Int) (w : Int) ((1 : Nat) : Int) ⟨by omega, by omega⟩ ⟨by omega, by omega⟩ ⟨by omega, by omega⟩ ⟨by omega, by omega⟩ mx2 r H) ca_L_66 rfl rfl rfl (Nat.le_of_ble_eq_true rfl) (cat_8 (Nat.le_of_ble_eq_true rfl)) (by omega) (by omega) dL_fights_31 (fun x3 mx3 my3 hx3 Q3 T3 f3 => ?_)
    obtain ⟨e3, s3⟩ := Q3
    have J3 := J2.x s3.1 s3.2.2 T3 f3
    refine aw_istore (pc := 34) [(7, iv x3), (6, iv x2), (5, iv 1), (4, iv x1), (0, .ref 1), (1, iv (a : Int)), (2, iv (b : Int)), (3, iv (w : Int))] dL_fights_34 rfl (by decide) ?_
    refine aw_aload_n (pc := 36) dL_fights_36 rfl ?_
    refine aw_iload_n (pc := 37) dL_fights_37 rfl ?_
    refine aw_iload_n (pc := 38) dL_fights_38 rfl ?_
    refine aw_iload_n (pc := 39) dL_fights_39 rfl ?_
    refine cx_iconst (pc := 40) dL_fights_40 ?_
    refine lx_call (pc := 41) [iv (a : Int), iv (b : Int), iv (w : Int), iv ((0 : Nat) : Int)] J3.2.2.2.1 (fight_ok hn J3.1 ha hb hw (t := 0) (by decide)) (fun v m' h => h.2.2.1) (fun E R hE hR r H => s_X10_fight l sc E R hE hR n (a : Int) (b : Int) (w : Int) ((0 : Nat) : Int) ⟨by omega, by omega⟩ ⟨by omega, by omega⟩ ⟨by omega, by omega⟩ ⟨by omega, by omega⟩ mx3 r H) ca_L_69 rfl rfl rfl (Nat.le_of_ble_eq_true rfl) (cat_8 (Nat.le_of_ble_eq_true rfl)) (by omega) (by omega) dL_fights_41 (fun x4 mx4 my4 hx4 Q4 T4 f4 => ?_)
    obtain ⟨e4, s4⟩ := Q4
    have J4 := J3.x s4.1 s4.2.2 T4 f4
    obtain ⟨M4, e4, l4, w4⟩ := e4
    have w4 : M4 % 2 = 1 := by exact w4.mpr win
    rw [if_pos rfl] at e4
    refine aw_iload (pc := 44) dL_fights_44 rfl ?_
    refine lx_if_eq_f (pc := 46) 55 ⟨by omega, by omega⟩ dL_fights_46 rfl (by omega) ?_
    refine cx_iconst (pc := 49) dL_fights_49 ?_
    refine aw_iload_n (pc := 50) dL_fights_50 rfl ?_
    refine cx_isub (pc := 51) dL_fights_51 ?_
    refine AW.eqs (st' := [iv ((1 - w : Nat) : Int), iv x4]) (by first | (rw [w32_n (k := 1 - w) (by omega) (by omega)]; done) | (rw [w32_n (k := 1 - w) (by omega) (by omega)]; rfl)) ?_
    refine aw_goto (pc := 52) 56 dL_fights_52 rfl ?_
    refine lx_icmp_ne_f (pc := 56) 99 hx4 (inN (by omega)) dL_fights_56 rfl (by rw [e4]; omega) ?_
    refine aw_aload_n (pc := 59) dL_fights_59 rfl ?_
    refine aw_iload_n (pc := 60) dL_fights_60 rfl ?_
    refine aw_iload_n (pc := 61) dL_fights_61 rfl ?_
    refine aw_iload_n (pc := 62) dL_fights_62 rfl ?_
    refine cx_iconst (pc := 63) dL_fights_63 ?_
    refine lx_call (pc := 64) [iv (a : Int), iv (b : Int), iv (w : Int), iv ((1 : Nat) : Int)] J4.2.2.2.1 (fight_ok hn J4.1 ha hb hw (t := 1) (by decide)) (fun v m' h => h.2.2.1) (fun E R hE hR r H => s_X10_fight l sc E R hE hR n (a : Int) (b : Int) (w : Int) ((1 : Nat) : Int) ⟨by omega, by omega⟩ ⟨by omega, by omega⟩ ⟨by omega, by omega⟩ ⟨by omega, by omega⟩ mx4 r H) ca_L_69 rfl rfl rfl (Nat.le_of_ble_eq_true rfl) (cat_8 (Nat.le_of_ble_eq_true rfl)) (by omega) (by omega) dL_fights_64 (fun x5 mx5 my5 hx5 Q5 T5 f5 => ?_)
    obtain ⟨e5, s5⟩ := Q5
    have J5 := J4.x s5.1 s5.2.2 T5 f5
    obtain ⟨M5, e5, l5, w5⟩ := e5
    have w5 : M5 % 2 = 1 := by exact w5.mpr win
    rw [if_neg (by decide)] at e5
    refine cx_iconst (pc := 67) dL_fights_67 ?_
    refine lx_irem (pc := 68) (inR_lit _ rfl) (by decide) dL_fights_68 ?_
    refine AW.eqs (st' := [iv 1]) (by first | (rw [e5, irem_2 (by omega), w5]; done) | (rw [e5, irem_2 (by omega), w5]; rfl)) ?_
    refine aw_iload (pc := 69) dL_fights_69 rfl ?_
    refine lx_if_eq_f (pc := 71) 78 ⟨by omega, by omega⟩ dL_fights_71 rfl (by omega) ?_
    refine cx_iconst (pc := 74) dL_fights_74 ?_
    refine aw_goto (pc := 75) 79 dL_fights_75 rfl ?_
    refine lx_icmp_ne_f (pc := 79) 99 (inR_lit _ rfl) (inR_lit _ rfl) dL_fights_79 rfl (by decide) ?_
    obtain ⟨to, i, z2, z3, t2, i11, r0, r1⟩ := reply_wins Ga Gb hw win
    rw [z2] at e2
    rw [z3] at e3
    subst e2
    subst e3
    refine aw_iload (pc := 82) dL_fights_82 rfl ?_
    refine cx_ldc (pc := 84) (-1100000002) dL_fights_84 ct_L_72 (by decide) ?_
    refine lx_icmp_ne_t (pc := 86) 93 ⟨by omega, by omega⟩ ⟨by omega, by omega⟩ dL_fights_86 rfl (by omega) ?_
    refine cx_iconst (pc := 93) dL_fights_93 ?_
    refine aw_iload (pc := 94) dL_fights_94 rfl ?_
    refine lx_icmp_ne_t (pc := 96) 101 ⟨by omega, by omega⟩ ⟨by omega, by omega⟩ dL_fights_96 rfl (by omega) ?_
    refine aw_iload (pc := 101) dL_fights_101 rfl ?_
    refine lx_if_ne_t (pc := 103) 119 ⟨by omega, by omega⟩ dL_fights_103 rfl (by omega) ?_
    refine aw_iload (pc := 119) dL_fights_119 rfl ?_
    rcases (by omega : to = 0 ∨ to = 1) with q | q
    · skip
      obtain ⟨k, hk, nw⟩ := r0 q
      refine lx_if_eq_t (pc := 121) 130 ⟨by omega, by omega⟩ dL_fights_121 rfl (by omega) ?_
      refine aw_aload_n (pc := 130) dL_fights_130 rfl ?_
      refine cx_bipush (pc := 131) dL_fights_131 (by decide) ?_
      refine aw_iload (pc := 133) dL_fights_133 rfl ?_
      refine lx_if_ne_f (pc := 135) 142 ⟨by omega, by omega⟩ dL_fights_135 rfl (by omega) ?_
      refine aw_iload_n (pc := 138) dL_fights_138 rfl ?_
      refine aw_goto (pc := 139) 143 dL_fights_139 rfl ?_
      refine aw_iload_n (pc := 143) dL_fights_143 rfl ?_
      refine aw_iload (pc := 144) dL_fights_144 rfl ?_
      refine lx_call (pc := 146) [iv ((6 : Nat) : Int), iv (a : Int), iv (w : Int), iv (i : Int)] J5.2.2.2.1 (option_ok hn J5.1 (by decide) ha hw hk (by have := J5.2.2.2.2; omega)) (fun v m' h => h.2.2.1) (fun E R hE hR r H => s_X10_option l sc E R hE hR hsc n ((6 : Nat) : Int) (a : Int) (w : Int) (i : Int) ⟨by omega, by omega⟩ ⟨by omega, by omega⟩ ⟨by omega, by omega⟩ ⟨by omega, by omega⟩ mx5 r H) ca_L_73 rfl rfl rfl (Nat.le_of_ble_eq_true rfl) (cat_8 (Nat.le_of_ble_eq_true rfl)) (by omega) (by omega) dL_fights_146 (fun x6 mx6 my6 hx6 Q6 T6 f6 => ?_)
      obtain ⟨e6, C6, G6, n6⟩ := Q6
      have J6 := J5.x C6 n6 T6 f6
      have wp := wid_pos (en (γ a) k)
      refine cx_iconst (pc := 149) dL_fights_149 ?_
      refine lx_icmp_ge_t (pc := 150) 155 hx6 (inR_lit _ rfl) dL_fights_150 rfl (by omega) ?_
      refine aw_aload_n (pc := 155) dL_fights_155 rfl ?_
      refine cx_bipush (pc := 156) dL_fights_156 (by decide) ?_
      refine aw_iload (pc := 158) dL_fights_158 rfl ?_
      refine lx_if_ne_f (pc := 160) 167 ⟨by omega, by omega⟩ dL_fights_160 rfl (by omega) ?_
      refine aw_iload_n (pc := 163) dL_fights_163 rfl ?_
      refine aw_goto (pc := 164) 168 dL_fights_164 rfl ?_
      refine lx_call (pc := 168) [iv ((6 : Nat) : Int), iv (b : Int)] J6.2.2.2.1 (outcome_ok hn J6.1 (by decide) hb) (fun v m' h => h.2.2.1) (fun E R hE hR r H => s_X10_outcome l sc E R hE hR n ((6 : Nat) : Int) (b : Int) ⟨by omega, by omega⟩ ⟨by omega, by omega⟩ mx6 r H) ca_L_59 rfl rfl rfl (Nat.le_of_ble_eq_true rfl) (cat_8 (Nat.le_of_ble_eq_true rfl)) (by omega) (by omega) dL_fights_168 (fun x7 mx7 my7 hx7 Q7 T7 f7 => ?_)
      obtain ⟨e7, s7⟩ := Q7
      have J7 := J6.x s7.1 s7.2.2 T7 f7
      rw [gset_at, gset_ne b6] at e7
      refine cx_iconst (pc := 171) dL_fights_171 ?_
      refine aw_iload_n (pc := 172) dL_fights_172 rfl ?_
      refine cx_isub (pc := 173) dL_fights_173 ?_
      refine AW.eqs (st' := [iv ((1 - w : Nat) : Int), iv x7]) (by first | (rw [w32_n (k := 1 - w) (by omega) (by omega)]; done) | (rw [w32_n (k := 1 - w) (by omega) (by omega)]; rfl)) ?_
      refine lp_call (pc := 174) [iv x7, iv ((1 - w : Nat) : Int)] (s_L_isFirst l sc x7 (1 - w) hx7 (by omega) _) ca_L_62 rfl rfl (Nat.le_of_ble_eq_true rfl) (cat_8 (Nat.le_of_ble_eq_true rfl)) (Nat.le_of_ble_eq_true rfl) (Nat.le_of_ble_eq_true rfl) dL_fights_174 ?_
      refine AW.eqs (st' := [iv 0]) (by first | (rw [e7, show isF (vd _) (1 - w) = 0 from (by unfold isF; exact if_neg (fun q => nw ((vd_wins (by omega)).mp q)))]; done) | (rw [e7, show isF (vd _) (1 - w) = 0 from (by unfold isF; exact if_neg (fun q => nw ((vd_wins (by omega)).mp q)))]; rfl)) ?_
      refine lx_if_ne_f (pc := 177) 184 ⟨by omega, by omega⟩ dL_fights_177 rfl (by omega) ?_
      refine cx_iconst (pc := 180) dL_fights_180 ?_
      refine aw_goto (pc := 181) 185 dL_fights_181 rfl ?_
      exact aw_iret (pc := 185) rfl (by decide +kernel) (by omega) (by omega) dL_fights_185 ⟨rfl, _, mx7, my7, rfl, fun i hi => gset_ne hi, J7.le (by omega)⟩
    · skip
      obtain ⟨k, hk, nw⟩ := r1 q
      refine lx_if_eq_f (pc := 121) 130 ⟨by omega, by omega⟩ dL_fights_121 rfl (by omega) ?_
      refine aw_iload (pc := 124) dL_fights_124 rfl ?_
      refine cx_iconst (pc := 126) dL_fights_126 ?_
      refine lx_icmp_ne_f (pc := 127) 153 ⟨by omega, by omega⟩ ⟨by omega, by omega⟩ dL_fights_127 rfl (by omega) ?_
      refine aw_aload_n (pc := 130) dL_fights_130 rfl ?_
      refine cx_bipush (pc := 131) dL_fights_131 (by decide) ?_
      refine aw_iload (pc := 133) dL_fights_133 rfl ?_
      refine lx_if_ne_t (pc := 135) 142 ⟨by omega, by omega⟩ dL_fights_135 rfl (by omega) ?_
      refine aw_iload_n (pc := 142) dL_fights_142 rfl ?_
      refine aw_iload_n (pc := 143) dL_fights_143 rfl ?_
      refine aw_iload (pc := 144) dL_fights_144 rfl ?_
      refine lx_call (pc := 146) [iv ((6 : Nat) : Int), iv (b : Int), iv (w : Int), iv (i : Int)] J5.2.2.2.1 (option_ok hn J5.1 (by decide) hb hw hk (by have := J5.2.2.2.2; omega)) (fun v m' h => h.2.2.1) (fun E R hE hR r H => s_X10_option l sc E R hE hR hsc n ((6 : Nat) : Int) (b : Int) (w : Int) (i : Int) ⟨by omega, by omega⟩ ⟨by omega, by omega⟩ ⟨by omega, by omega⟩ ⟨by omega, by omega⟩ mx5 r H) ca_L_73 rfl rfl rfl (Nat.le_of_ble_eq_true rfl) (cat_8 (Nat.le_of_ble_eq_true rfl)) (by omega) (by omega) dL_fights_146 (fun x6 mx6 my6 hx6 Q6 T6 f6 => ?_)
      obtain ⟨e6, C6, G6, n6⟩ := Q6
      have J6 := J5.x C6 n6 T6 f6
      have wp := wid_pos (en (γ b) k)
      refine cx_iconst (pc := 149) dL_fights_149 ?_
      refine lx_icmp_ge_t (pc := 150) 155 hx6 (inR_lit _ rfl) dL_fights_150 rfl (by omega) ?_
      refine aw_aload_n (pc := 155) dL_fights_155 rfl ?_
      refine cx_bipush (pc := 156) dL_fights_156 (by decide) ?_
      refine aw_iload (pc := 158) dL_fights_158 rfl ?_
      refine lx_if_ne_t (pc := 160) 167 ⟨by omega, by omega⟩ dL_fights_160 rfl (by omega) ?_
      refine aw_iload_n (pc := 167) dL_fights_167 rfl ?_
      refine lx_call (pc := 168) [iv ((6 : Nat) : Int), iv (a : Int)] J6.2.2.2.1 (outcome_ok hn J6.1 (by decide) ha) (fun v m' h => h.2.2.1) (fun E R hE hR r H => s_X10_outcome l sc E R hE hR n ((6 : Nat) : Int) (a : Int) ⟨by omega, by omega⟩ ⟨by omega, by omega⟩ mx6 r H) ca_L_59 rfl rfl rfl (Nat.le_of_ble_eq_true rfl) (cat_8 (Nat.le_of_ble_eq_true rfl)) (by omega) (by omega) dL_fights_168 (fun x7 mx7 my7 hx7 Q7 T7 f7 => ?_)
      obtain ⟨e7, s7⟩ := Q7
      have J7 := J6.x s7.1 s7.2.2 T7 f7
      rw [gset_at, gset_ne a6] at e7
      refine cx_iconst (pc := 171) dL_fights_171 ?_
      refine aw_iload_n (pc := 172) dL_fights_172 rfl ?_
      refine cx_isub (pc := 173) dL_fights_173 ?_
      refine AW.eqs (st' := [iv ((1 - w : Nat) : Int), iv x7]) (by first | (rw [w32_n (k := 1 - w) (by omega) (by omega)]; done) | (rw [w32_n (k := 1 - w) (by omega) (by omega)]; rfl)) ?_
      refine lp_call (pc := 174) [iv x7, iv ((1 - w : Nat) : Int)] (s_L_isFirst l sc x7 (1 - w) hx7 (by omega) _) ca_L_62 rfl rfl (Nat.le_of_ble_eq_true rfl) (cat_8 (Nat.le_of_ble_eq_true rfl)) (Nat.le_of_ble_eq_true rfl) (Nat.le_of_ble_eq_true rfl) dL_fights_174 ?_
      refine AW.eqs (st' := [iv 0]) (by first | (rw [e7, show isF (vd _) (1 - w) = 0 from (by unfold isF; exact if_neg (fun q => nw ((vd_wins (by omega)).mp q)))]; done) | (rw [e7, show isF (vd _) (1 - w) = 0 from (by unfold isF; exact if_neg (fun q => nw ((vd_wins (by omega)).mp q)))]; rfl)) ?_
      refine lx_if_ne_f (pc := 177) 184 ⟨by omega, by omega⟩ dL_fights_177 rfl (by omega) ?_
      refine cx_iconst (pc := 180) dL_fights_180 ?_
      refine aw_goto (pc := 181) 185 dL_fights_181 rfl ?_
      exact aw_iret (pc := 185) rfl (by decide +kernel) (by omega) (by omega) dL_fights_185 ⟨rfl, _, mx7, my7, rfl, fun i hi => gset_ne hi, J7.le (by omega)⟩
  · skip
    refine aw_aload_n (pc := 0) dL_fights_0 rfl ?_
    refine aw_iload_n (pc := 1) dL_fights_1 rfl ?_
    refine aw_iload_n (pc := 2) dL_fights_2 rfl ?_
    refine lx_call (pc := 3) [iv (a : Int), iv (b : Int)] J.2.2.2.1 (outcome_ok hn J.1 ha hb) (fun v m' h => h.2.2.1) (fun E R hE hR r H => s_X10_outcome l sc E R hE hR n (a : Int) (b : Int) ⟨by omega, by omega⟩ ⟨by omega, by omega⟩ mx r H) ca_L_59 rfl rfl rfl (Nat.le_of_ble_eq_true rfl) (cat_8 (Nat.le_of_ble_eq_true rfl)) (by omega) (by omega) dL_fights_3 (fun x1 mx1 my1 hx1 Q1 T1 f1 => ?_)
    obtain ⟨e1, s1⟩ := Q1
    have J1 := J.x s1.1 s1.2.2 T1 f1
    refine aw_istore (pc := 6) [(4, iv x1), (0, .ref 1), (1, iv (a : Int)), (2, iv (b : Int)), (3, iv (w : Int))] dL_fights_6 rfl (by decide) ?_
    refine aw_iload (pc := 8) dL_fights_8 rfl ?_
    refine aw_iload_n (pc := 10) dL_fights_10 rfl ?_
    refine lp_call (pc := 11) [iv x1, iv (w : Int)] (s_L_isFirst l sc x1 w hx1 hw _) ca_L_62 rfl rfl (Nat.le_of_ble_eq_true rfl) (cat_8 (Nat.le_of_ble_eq_true rfl)) (Nat.le_of_ble_eq_true rfl) (Nat.le_of_ble_eq_true rfl) dL_fights_11 ?_
    refine AW.eqs (st' := [iv 0]) (by first | (rw [e1, show isF (vd (gadd (γ a) (γ b))) w = 0 from (by unfold isF; rw [if_neg (fun q => win ((vd_wins hw).mp q))])]; done) | (rw [e1, show isF (vd (gadd (γ a) (γ b))) w = 0 from (by unfold isF; rw [if_neg (fun q => win ((vd_wins hw).mp q))])]; rfl)) ?_
    refine aw_istore (pc := 14) [(5, iv 0), (4, iv x1), (0, .ref 1), (1, iv (a : Int)), (2, iv (b : Int)), (3, iv (w : Int))] dL_fights_14 rfl (by decide) ?_
    refine aw_aload_n (pc := 16) dL_fights_16 rfl ?_
    refine aw_iload_n (pc := 17) dL_fights_17 rfl ?_
    refine aw_iload_n (pc := 18) dL_fights_18 rfl ?_
    refine aw_iload_n (pc := 19) dL_fights_19 rfl ?_
    refine cx_iconst (pc := 20) dL_fights_20 ?_
    refine lx_call (pc := 21) [iv (a : Int), iv (b : Int), iv (w : Int), iv ((0 : Nat) : Int)] J1.2.2.2.1 (reply_ok hn J1.1 ha hb hw (t := 0) (by decide)) (fun v m' h => h.2.2.1) (fun E R hE hR r H => s_X10_reply l sc E R hE hR n (a : Int) (b : Int) (w : Int) ((0 : Nat) : Int) ⟨by omega, by omega⟩ ⟨by omega, by omega⟩ ⟨by omega, by omega⟩ ⟨by omega, by omega⟩ mx1 r H) ca_L_66 rfl rfl rfl (Nat.le_of_ble_eq_true rfl) (cat_8 (Nat.le_of_ble_eq_true rfl)) (by omega) (by omega) dL_fights_21 (fun x2 mx2 my2 hx2 Q2 T2 f2 => ?_)
    obtain ⟨e2, s2⟩ := Q2
    have J2 := J1.x s2.1 s2.2.2 T2 f2
    refine aw_istore (pc := 24) [(6, iv x2), (5, iv 0), (4, iv x1), (0, .ref 1), (1, iv (a : Int)), (2, iv (b : Int)), (3, iv (w : Int))] dL_fights_24 rfl (by decide) ?_
    refine aw_aload_n (pc := 26) dL_fights_26 rfl ?_
    refine aw_iload_n (pc := 27) dL_fights_27 rfl ?_
    refine aw_iload_n (pc := 28) dL_fights_28 rfl ?_
    refine aw_iload_n (pc := 29) dL_fights_29 rfl ?_
    refine cx_iconst (pc := 30) dL_fights_30 ?_
    refine lx_call (pc := 31) [iv (a : Int), iv (b : Int), iv (w : Int), iv ((1 : Nat) : Int)] J2.2.2.2.1 (reply_ok hn J2.1 ha hb hw (t := 1) (by decide)) (fun v m' h => h.2.2.1) (fun E R hE hR r H => s_X10_reply l sc E R hE hR n (a : Int) (b : Int) (w : Int) ((1 : Nat) : Int) ⟨by omega, by omega⟩ ⟨by omega, by omega⟩ ⟨by omega, by omega⟩ ⟨by omega, by omega⟩ mx2 r H) ca_L_66 rfl rfl rfl (Nat.le_of_ble_eq_true rfl) (cat_8 (Nat.le_of_ble_eq_true rfl)) (by omega) (by omega) dL_fights_31 (fun x3 mx3 my3 hx3 Q3 T3 f3 => ?_)
    obtain ⟨e3, s3⟩ := Q3
    have J3 := J2.x s3.1 s3.2.2 T3 f3
    refine aw_istore (pc := 34) [(7, iv x3), (6, iv x2), (5, iv 0), (4, iv x1), (0, .ref 1), (1, iv (a : Int)), (2, iv (b : Int)), (3, iv (w : Int))] dL_fights_34 rfl (by decide) ?_
    refine aw_aload_n (pc := 36) dL_fights_36 rfl ?_
    refine aw_iload_n (pc := 37) dL_fights_37 rfl ?_
    refine aw_iload_n (pc := 38) dL_fights_38 rfl ?_
    refine aw_iload_n (pc := 39) dL_fights_39 rfl ?_
    refine cx_iconst (pc := 40) dL_fights_40 ?_
    refine lx_call (pc := 41) [iv (a : Int), iv (b : Int), iv (w : Int), iv ((0 : Nat) : Int)] J3.2.2.2.1 (fight_ok hn J3.1 ha hb hw (t := 0) (by decide)) (fun v m' h => h.2.2.1) (fun E R hE hR r H => s_X10_fight l sc E R hE hR n (a : Int) (b : Int) (w : Int) ((0 : Nat) : Int) ⟨by omega, by omega⟩ ⟨by omega, by omega⟩ ⟨by omega, by omega⟩ ⟨by omega, by omega⟩ mx3 r H) ca_L_69 rfl rfl rfl (Nat.le_of_ble_eq_true rfl) (cat_8 (Nat.le_of_ble_eq_true rfl)) (by omega) (by omega) dL_fights_41 (fun x4 mx4 my4 hx4 Q4 T4 f4 => ?_)
    obtain ⟨e4, s4⟩ := Q4
    have J4 := J3.x s4.1 s4.2.2 T4 f4
    obtain ⟨M4, e4, l4, w4⟩ := e4
    have w4 : M4 % 2 = 0 := by have h9 : ¬ M4 % 2 = 1 := fun q => win (w4.mp q); omega
    rw [if_pos rfl] at e4
    refine aw_iload (pc := 44) dL_fights_44 rfl ?_
    refine lx_if_eq_t (pc := 46) 55 ⟨by omega, by omega⟩ dL_fights_46 rfl (by omega) ?_
    refine aw_iload_n (pc := 55) dL_fights_55 rfl ?_
    refine lx_icmp_ne_f (pc := 56) 99 hx4 (inN (by omega)) dL_fights_56 rfl (by rw [e4]; omega) ?_
    refine aw_aload_n (pc := 59) dL_fights_59 rfl ?_
    refine aw_iload_n (pc := 60) dL_fights_60 rfl ?_
    refine aw_iload_n (pc := 61) dL_fights_61 rfl ?_
    refine aw_iload_n (pc := 62) dL_fights_62 rfl ?_
    refine cx_iconst (pc := 63) dL_fights_63 ?_
    refine lx_call (pc := 64) [iv (a : Int), iv (b : Int), iv (w : Int), iv ((1 : Nat) : Int)] J4.2.2.2.1 (fight_ok hn J4.1 ha hb hw (t := 1) (by decide)) (fun v m' h => h.2.2.1) (fun E R hE hR r H => s_X10_fight l sc E R hE hR n (a : Int) (b : Int) (w : Int) ((1 : Nat) : Int) ⟨by omega, by omega⟩ ⟨by omega, by omega⟩ ⟨by omega, by omega⟩ ⟨by omega, by omega⟩ mx4 r H) ca_L_69 rfl rfl rfl (Nat.le_of_ble_eq_true rfl) (cat_8 (Nat.le_of_ble_eq_true rfl)) (by omega) (by omega) dL_fights_64 (fun x5 mx5 my5 hx5 Q5 T5 f5 => ?_)
    obtain ⟨e5, s5⟩ := Q5
    have J5 := J4.x s5.1 s5.2.2 T5 f5
    obtain ⟨M5, e5, l5, w5⟩ := e5
    have w5 : M5 % 2 = 0 := by have h9 : ¬ M5 % 2 = 1 := fun q => win (w5.mp q); omega
    rw [if_neg (by decide)] at e5
    refine cx_iconst (pc := 67) dL_fights_67 ?_
    refine lx_irem (pc := 68) (inR_lit _ rfl) (by decide) dL_fights_68 ?_
    refine AW.eqs (st' := [iv 0]) (by first | (rw [e5, irem_2 (by omega), w5]; done) | (rw [e5, irem_2 (by omega), w5]; rfl)) ?_
    refine aw_iload (pc := 69) dL_fights_69 rfl ?_
    refine lx_if_eq_t (pc := 71) 78 ⟨by omega, by omega⟩ dL_fights_71 rfl (by omega) ?_
    refine cx_iconst (pc := 78) dL_fights_78 ?_
    refine lx_icmp_ne_f (pc := 79) 99 (inR_lit _ rfl) (inR_lit _ rfl) dL_fights_79 rfl (by decide) ?_
    have z2 := reply_none Ga Gb hw win 0
    have z3 := reply_none Ga Gb hw win 1
    rw [z2] at e2
    rw [z3] at e3
    refine aw_iload (pc := 82) dL_fights_82 rfl ?_
    refine cx_ldc (pc := 84) (-1100000002) dL_fights_84 ct_L_72 (by decide) ?_
    refine lx_icmp_ne_f (pc := 86) 93 ⟨by omega, by omega⟩ ⟨by omega, by omega⟩ dL_fights_86 rfl (by omega) ?_
    refine cx_iconst (pc := 89) dL_fights_89 ?_
    refine aw_goto (pc := 90) 94 dL_fights_90 rfl ?_
    refine aw_iload (pc := 94) dL_fights_94 rfl ?_
    refine lx_icmp_ne_t (pc := 96) 101 ⟨by omega, by omega⟩ ⟨by omega, by omega⟩ dL_fights_96 rfl (by omega) ?_
    refine aw_iload (pc := 101) dL_fights_101 rfl ?_
    refine lx_if_ne_f (pc := 103) 119 ⟨by omega, by omega⟩ dL_fights_103 rfl (by omega) ?_
    refine aw_iload (pc := 106) dL_fights_106 rfl ?_
    refine cx_ldc (pc := 108) (-1100000002) dL_fights_108 ct_L_72 (by decide) ?_
    refine lx_icmp_ne_f (pc := 110) 117 ⟨by omega, by omega⟩ ⟨by omega, by omega⟩ dL_fights_110 rfl (by omega) ?_
    refine cx_iconst (pc := 113) dL_fights_113 ?_
    refine aw_goto (pc := 114) 118 dL_fights_114 rfl ?_
    exact aw_iret (pc := 118) rfl (by decide +kernel) (by omega) (by omega) dL_fights_118 ⟨rfl, γ, mx5, my5, rfl, fun i hi => rfl, J5.le (by omega)⟩
