/-! THE LAW: acts -/
theorem modN (x m : Int) (h : 0 < m) : ∃ s : Nat, x % m = (s : Int) ∧ (s : Int) < m := ⟨(x % m).toNat, by
  have := Int.emod_nonneg x (b := m) (by omega)
  omega, by
  have := Int.emod_nonneg x (b := m) (by omega)
  have := Int.emod_lt_of_pos x h
  omega⟩
set_option maxRecDepth 100000 in
set_option maxHeartbeats 8000000 in
theorem s_L_acts (l : Launch) (sc : g_S) (hsc : sc.1 = 0) {n N : Nat} (hn : 300 < n) (hN : 100 < N) {γ γy t0 : Nat → Nat} {B : Nat} {F : g_H} {mx my : Mem} {v : Int} (hv : inR v) (hB : B + 5000 < 2147483648) (J : JS γ γy 0 t0 B mx my) : AMet l sc yL_acts cL_acts 5 (some .int) 8 (4 * N + 64) (125 * N + 2000) [.ref 1, iv v] (E2 F mx my) (fun w hp' => ∃ (r : Int) (γ' : Nat → Nat) (mx' my' : Mem), w = some (iv r) ∧ inR r ∧ (1 ≤ r ∨ r = -1100000004) ∧ hp' = E2 F mx' my' ∧ JS γ' γy 0 t0 (B + 400) mx' my') := by
  have hb : mNext mx + 400 < 2147483648 := by have := J.2.2.2.2; omega
  have C := J.1
  obtain ⟨v1, v2⟩ := id hv
  refine AMet.of (own := RL) (by decide +kernel) rfl (Nat.le_of_ble_eq_true rfl) [(0, .ref 1), (1, iv v)] rfl (fun D base ad => ?_)
  refine aw_iload_n (pc := 0) dL_acts_0 rfl ?_
  refine cx_iconst (pc := 1) dL_acts_1 ?_
  refine cx_ishr (pc := 2) dL_acts_2 ?_
  refine cx_bipush (pc := 3) dL_acts_3 (by decide) ?_
  refine lp_call (pc := 5) [iv (ishr v 4), iv 6] (s_L_mod l sc (ishr v 4) 6 (inR_32 _) (by decide) _) ca_L_15 rfl rfl (Nat.le_of_ble_eq_true rfl) (cat_8 (Nat.le_of_ble_eq_true rfl)) (by omega) (by omega) dL_acts_5 ?_
  obtain ⟨s, es, lts⟩ := modN (ishr v 4) 6 (by decide)
  refine AW.eqs (st' := [iv (s : Int)]) (by first | (rw [es]; done) | (rw [es]; rfl)) ?_
  refine aw_istore_n (pc := 8) [(2, iv (s : Int)), (0, .ref 1), (1, iv v)] dL_acts_8 rfl (by decide) ?_
  refine aw_iload_n (pc := 9) dL_acts_9 rfl ?_
  refine cx_bipush (pc := 10) dL_acts_10 (by decide) ?_
  refine cx_ishr (pc := 12) dL_acts_12 ?_
  refine cx_bipush (pc := 13) dL_acts_13 (by decide) ?_
  refine lp_call (pc := 15) [iv (ishr v 7), iv 6] (s_L_mod l sc (ishr v 7) 6 (inR_32 _) (by decide) _) ca_L_15 rfl rfl (Nat.le_of_ble_eq_true rfl) (cat_8 (Nat.le_of_ble_eq_true rfl)) (by omega) (by omega) dL_acts_15 ?_
  obtain ⟨a, ea, lta⟩ := modN (ishr v 7) 6 (by decide)
  refine AW.eqs (st' := [iv (a : Int)]) (by first | (rw [ea]; done) | (rw [ea]; rfl)) ?_
  refine aw_istore_n (pc := 18) [(3, iv (a : Int)), (2, iv (s : Int)), (0, .ref 1), (1, iv v)] dL_acts_18 rfl (by decide) ?_
  refine aw_iload_n (pc := 19) dL_acts_19 rfl ?_
  refine cx_bipush (pc := 20) dL_acts_20 (by decide) ?_
  refine cx_ishr (pc := 22) dL_acts_22 ?_
  refine cx_bipush (pc := 23) dL_acts_23 (by decide) ?_
  refine lp_call (pc := 25) [iv (ishr v 10), iv 6] (s_L_mod l sc (ishr v 10) 6 (inR_32 _) (by decide) _) ca_L_15 rfl rfl (Nat.le_of_ble_eq_true rfl) (cat_8 (Nat.le_of_ble_eq_true rfl)) (by omega) (by omega) dL_acts_25 ?_
  obtain ⟨b, eb, ltb⟩ := modN (ishr v 10) 6 (by decide)
  refine AW.eqs (st' := [iv (b : Int)]) (by first | (rw [eb]; done) | (rw [eb]; rfl)) ?_
  refine aw_istore (pc := 28) [(4, iv (b : Int)), (3, iv (a : Int)), (2, iv (s : Int)), (0, .ref 1), (1, iv v)] dL_acts_28 rfl (by decide) ?_
  refine aw_iload_n (pc := 30) dL_acts_30 rfl ?_
  refine cx_bipush (pc := 31) dL_acts_31 (by decide) ?_
  refine lp_call (pc := 33) [iv v, iv 9] (s_L_mod l sc v 9 hv (by decide) _) ca_L_15 rfl rfl (Nat.le_of_ble_eq_true rfl) (cat_8 (Nat.le_of_ble_eq_true rfl)) (by omega) (by omega) dL_acts_33 ?_
  obtain ⟨c, ec, ltc⟩ := modN v 9 (by decide)
  refine AW.eqs (st' := [iv (c : Int)]) (by first | (rw [ec]; done) | (rw [ec]; rfl)) ?_
  rcases (by omega : c = 0 ∨ c = 1 ∨ c = 2 ∨ c = 3 ∨ c = 4 ∨ c = 5 ∨ c = 6 ∨ c = 7 ∨ c = 8) with q | q | q | q | q | q | q | q | q
  · skip
    refine cx_tabIn (pc := 36) 84 0 (by omega) dL_acts_36 (by decide) (by decide) rfl rfl ?_
    refine aw_aload_n (pc := 84) dL_acts_84 rfl ?_
    refine aw_iload_n (pc := 85) dL_acts_85 rfl ?_
    refine aw_iload_n (pc := 86) dL_acts_86 rfl ?_
    refine cx_bipush (pc := 87) dL_acts_87 (by decide) ?_
    refine cx_ishr (pc := 89) dL_acts_89 ?_
    refine cx_bipush (pc := 90) dL_acts_90 (by decide) ?_
    refine lp_call (pc := 92) [iv (ishr v 13), iv 7] (s_L_mod l sc (ishr v 13) 7 (inR_32 _) (by decide) _) ca_L_15 rfl rfl (Nat.le_of_ble_eq_true rfl) (cat_8 (Nat.le_of_ble_eq_true rfl)) (by omega) (by omega) dL_acts_92 ?_
    obtain ⟨p, ep, ltp⟩ := modN (ishr v 13) 7 (by decide)
    refine AW.eqs (st' := [iv (p : Int), iv (s : Int), .ref 1]) (by first | (rw [ep]; done) | (rw [ep]; rfl)) ?_
    refine cx_iconst (pc := 95) dL_acts_95 ?_
    refine cx_isub (pc := 96) dL_acts_96 ?_
    refine AW.eqs (st' := [iv ((p : Int) - 3), iv (s : Int), .ref 1]) (by first | (rw [w32_id (x := (p : Int) - 3) (by omega) (by omega)]; done) | (rw [w32_id (x := (p : Int) - 3) (by omega) (by omega)]; rfl)) ?_
    refine lx_call (pc := 97) [iv (s : Int), iv ((p : Int) - 3)] J.2.2.2.1 (whole_ok hn C (by omega) (by omega) hb) (fun v m' h => h.2.2.1) (fun E R hE hR r H => s_X10_whole l sc E R hE hR hsc n (s : Int) ((p : Int) - 3) ⟨by omega, by omega⟩ ⟨by omega, by omega⟩ mx r H) ca_L_19 rfl rfl rfl (Nat.le_of_ble_eq_true rfl) (cat_8 (Nat.le_of_ble_eq_true rfl)) (by omega) (by omega) dL_acts_97 (fun x1 mx1 my1 hx1 Q1 T1 f1 => ?_)
    obtain ⟨r1, ⟨γ1, C1⟩, G1, n1⟩ := Q1
    exact aw_iret (pc := 100) rfl rfl (by omega) (by omega) dL_acts_100 ⟨x1, γ1, mx1, my1, rfl, hx1, r1, rfl, J.x C1 n1 T1 f1⟩
  · skip
    refine cx_tabIn (pc := 36) 101 1 (by omega) dL_acts_36 (by decide) (by decide) rfl rfl ?_
    refine aw_aload_n (pc := 101) dL_acts_101 rfl ?_
    refine aw_iload_n (pc := 102) dL_acts_102 rfl ?_
    refine aw_iload_n (pc := 103) dL_acts_103 rfl ?_
    refine cx_bipush (pc := 104) dL_acts_104 (by decide) ?_
    refine cx_ishr (pc := 106) dL_acts_106 ?_
    refine cx_iconst (pc := 107) dL_acts_107 ?_
    refine lp_call (pc := 108) [iv (ishr v 13), iv 5] (s_L_mod l sc (ishr v 13) 5 (inR_32 _) (by decide) _) ca_L_15 rfl rfl (Nat.le_of_ble_eq_true rfl) (cat_8 (Nat.le_of_ble_eq_true rfl)) (by omega) (by omega) dL_acts_108 ?_
    obtain ⟨p, ep, ltp⟩ := modN (ishr v 13) 5 (by decide)
    refine AW.eqs (st' := [iv (p : Int), iv (s : Int), .ref 1]) (by first | (rw [ep]; done) | (rw [ep]; rfl)) ?_
    refine lx_call (pc := 111) [iv (s : Int), iv (p : Int)] J.2.2.2.1 (heap_ok hn C (by omega) (by omega) hb) (fun v m' h => h.2.2.1) (fun E R hE hR r H => s_X10_heap l sc E R hE hR hsc n (s : Int) (p : Int) ⟨by omega, by omega⟩ ⟨by omega, by omega⟩ mx r H) ca_L_22 rfl rfl rfl (Nat.le_of_ble_eq_true rfl) (cat_8 (Nat.le_of_ble_eq_true rfl)) (by omega) (by omega) dL_acts_111 (fun x1 mx1 my1 hx1 Q1 T1 f1 => ?_)
    obtain ⟨r1, ⟨γ1, C1⟩, G1, n1⟩ := Q1
    exact aw_iret (pc := 114) rfl rfl (by omega) (by omega) dL_acts_114 ⟨x1, γ1, mx1, my1, rfl, hx1, r1, rfl, J.x C1 n1 T1 f1⟩
  · skip
    refine cx_tabIn (pc := 36) 115 2 (by omega) dL_acts_36 (by decide) (by decide) rfl rfl ?_
    refine aw_aload_n (pc := 115) dL_acts_115 rfl ?_
    refine aw_iload_n (pc := 116) dL_acts_116 rfl ?_
    refine aw_iload_n (pc := 117) dL_acts_117 rfl ?_
    refine cx_bipush (pc := 118) dL_acts_118 (by decide) ?_
    refine cx_ishr (pc := 120) dL_acts_120 ?_
    refine cx_bipush (pc := 121) dL_acts_121 (by decide) ?_
    refine lp_call (pc := 123) [iv (ishr v 13), iv 7] (s_L_mod l sc (ishr v 13) 7 (inR_32 _) (by decide) _) ca_L_15 rfl rfl (Nat.le_of_ble_eq_true rfl) (cat_8 (Nat.le_of_ble_eq_true rfl)) (by omega) (by omega) dL_acts_123 ?_
    obtain ⟨p, ep, ltp⟩ := modN (ishr v 13) 7 (by decide)
    refine AW.eqs (st' := [iv (p : Int), iv (s : Int), .ref 1]) (by first | (rw [ep]; done) | (rw [ep]; rfl)) ?_
    refine cx_iconst (pc := 126) dL_acts_126 ?_
    refine cx_isub (pc := 127) dL_acts_127 ?_
    refine AW.eqs (st' := [iv ((p : Int) - 3), iv (s : Int), .ref 1]) (by first | (rw [w32_id (x := (p : Int) - 3) (by omega) (by omega)]; done) | (rw [w32_id (x := (p : Int) - 3) (by omega) (by omega)]; rfl)) ?_
    refine aw_iload_n (pc := 128) dL_acts_128 rfl ?_
    refine cx_bipush (pc := 129) dL_acts_129 (by decide) ?_
    refine cx_ishr (pc := 131) dL_acts_131 ?_
    refine cx_iconst (pc := 132) dL_acts_132 ?_
    refine lp_call (pc := 133) [iv (ishr v 16), iv 3] (s_L_mod l sc (ishr v 16) 3 (inR_32 _) (by decide) _) ca_L_15 rfl rfl (Nat.le_of_ble_eq_true rfl) (cat_8 (Nat.le_of_ble_eq_true rfl)) (by omega) (by omega) dL_acts_133 ?_
    obtain ⟨p2, ep2, ltp2⟩ := modN (ishr v 16) 3 (by decide)
    refine AW.eqs (st' := [iv (p2 : Int), iv ((p : Int) - 3), iv (s : Int), .ref 1]) (by first | (rw [ep2]; done) | (rw [ep2]; rfl)) ?_
    refine lx_call (pc := 136) [iv (s : Int), iv ((p : Int) - 3), iv (p2 : Int)] J.2.2.2.1 (upsX_ok hn C (by omega) (by omega) (by omega) hb) (fun v m' h => h.2.2.1) (fun E R hE hR r H => s_X10_ups l sc E R hE hR hsc n (s : Int) ((p : Int) - 3) (p2 : Int) ⟨by omega, by omega⟩ ⟨by omega, by omega⟩ ⟨by omega, by omega⟩ mx r H) ca_L_25 rfl rfl rfl (Nat.le_of_ble_eq_true rfl) (cat_8 (Nat.le_of_ble_eq_true rfl)) (by omega) (by omega) dL_acts_136 (fun x1 mx1 my1 hx1 Q1 T1 f1 => ?_)
    obtain ⟨r1, ⟨γ1, C1⟩, G1, n1⟩ := Q1
    exact aw_iret (pc := 139) rfl rfl (by omega) (by omega) dL_acts_139 ⟨x1, γ1, mx1, my1, rfl, hx1, r1, rfl, J.x C1 n1 T1 f1⟩
  · skip
    refine cx_tabIn (pc := 36) 140 3 (by omega) dL_acts_36 (by decide) (by decide) rfl rfl ?_
    refine aw_aload_n (pc := 140) dL_acts_140 rfl ?_
    refine aw_iload_n (pc := 141) dL_acts_141 rfl ?_
    refine cx_iconst (pc := 142) dL_acts_142 ?_
    refine aw_iload_n (pc := 143) dL_acts_143 rfl ?_
    refine cx_bipush (pc := 144) dL_acts_144 (by decide) ?_
    refine cx_ishr (pc := 146) dL_acts_146 ?_
    refine cx_iconst (pc := 147) dL_acts_147 ?_
    refine lp_call (pc := 148) [iv (ishr v 13), iv 3] (s_L_mod l sc (ishr v 13) 3 (inR_32 _) (by decide) _) ca_L_15 rfl rfl (Nat.le_of_ble_eq_true rfl) (cat_8 (Nat.le_of_ble_eq_true rfl)) (by omega) (by omega) dL_acts_148 ?_
    obtain ⟨p, ep, ltp⟩ := modN (ishr v 13) 3 (by decide)
    refine AW.eqs (st' := [iv (p : Int), iv 1, iv (s : Int), .ref 1]) (by first | (rw [ep]; done) | (rw [ep]; rfl)) ?_
    refine cx_iadd (pc := 151) dL_acts_151 ?_
    refine AW.eqs (st' := [iv ((1 + p : Nat) : Int), iv (s : Int), .ref 1]) (by first | (rw [w32_n (k := 1 + p) (by omega) (by omega)]; done) | (rw [w32_n (k := 1 + p) (by omega) (by omega)]; rfl)) ?_
    refine aw_iload_n (pc := 152) dL_acts_152 rfl ?_
    refine cx_bipush (pc := 153) dL_acts_153 (by decide) ?_
    refine cx_ishr (pc := 155) dL_acts_155 ?_
    refine cx_iconst (pc := 156) dL_acts_156 ?_
    refine lp_call (pc := 157) [iv (ishr v 15), iv 3] (s_L_mod l sc (ishr v 15) 3 (inR_32 _) (by decide) _) ca_L_15 rfl rfl (Nat.le_of_ble_eq_true rfl) (cat_8 (Nat.le_of_ble_eq_true rfl)) (by omega) (by omega) dL_acts_157 ?_
    obtain ⟨p2, ep2, ltp2⟩ := modN (ishr v 15) 3 (by decide)
    refine AW.eqs (st' := [iv (p2 : Int), iv ((1 + p : Nat) : Int), iv (s : Int), .ref 1]) (by first | (rw [ep2]; done) | (rw [ep2]; rfl)) ?_
    refine aw_iload_n (pc := 160) dL_acts_160 rfl ?_
    refine cx_bipush (pc := 161) dL_acts_161 (by decide) ?_
    refine cx_ishr (pc := 163) dL_acts_163 ?_
    refine cx_iconst (pc := 164) dL_acts_164 ?_
    refine lp_call (pc := 165) [iv (ishr v 17), iv 3] (s_L_mod l sc (ishr v 17) 3 (inR_32 _) (by decide) _) ca_L_15 rfl rfl (Nat.le_of_ble_eq_true rfl) (cat_8 (Nat.le_of_ble_eq_true rfl)) (by omega) (by omega) dL_acts_165 ?_
    obtain ⟨p3, ep3, ltp3⟩ := modN (ishr v 17) 3 (by decide)
    refine AW.eqs (st' := [iv (p3 : Int), iv (p2 : Int), iv ((1 + p : Nat) : Int), iv (s : Int), .ref 1]) (by first | (rw [ep3]; done) | (rw [ep3]; rfl)) ?_
    refine lx_call (pc := 168) [iv (s : Int), iv ((1 + p : Nat) : Int), iv (p2 : Int), iv (p3 : Int)] J.2.2.2.1 (flowerX_ok hn C (by omega) (by omega) (by omega) (by omega) hb) (fun v m' h => h.2.2.1) (fun E R hE hR r H => s_X10_flower l sc E R hE hR hsc n (s : Int) ((1 + p : Nat) : Int) (p2 : Int) (p3 : Int) ⟨by omega, by omega⟩ ⟨by omega, by omega⟩ ⟨by omega, by omega⟩ ⟨by omega, by omega⟩ mx r H) ca_L_29 rfl rfl rfl (Nat.le_of_ble_eq_true rfl) (cat_8 (Nat.le_of_ble_eq_true rfl)) (by omega) (by omega) dL_acts_168 (fun x1 mx1 my1 hx1 Q1 T1 f1 => ?_)
    obtain ⟨r1, ⟨γ1, C1⟩, G1, n1⟩ := Q1
    exact aw_iret (pc := 171) rfl rfl (by omega) (by omega) dL_acts_171 ⟨x1, γ1, mx1, my1, rfl, hx1, r1, rfl, J.x C1 n1 T1 f1⟩
  · skip
    refine cx_tabIn (pc := 36) 172 4 (by omega) dL_acts_36 (by decide) (by decide) rfl rfl ?_
    refine aw_aload_n (pc := 172) dL_acts_172 rfl ?_
    refine aw_iload_n (pc := 173) dL_acts_173 rfl ?_
    refine cx_iconst (pc := 174) dL_acts_174 ?_
    refine aw_iload_n (pc := 175) dL_acts_175 rfl ?_
    refine cx_ishl (pc := 176) dL_acts_176 ?_
    refine AW.eqs (st' := [iv ((2 ^ a : Nat) : Int), iv (s : Int), .ref 1]) (by first | (rw [shl1 (by omega)]; done) | (rw [shl1 (by omega)]; rfl)) ?_
    refine cx_iconst (pc := 177) dL_acts_177 ?_
    refine aw_iload (pc := 178) dL_acts_178 rfl ?_
    refine cx_ishl (pc := 180) dL_acts_180 ?_
    refine AW.eqs (st' := [iv ((2 ^ b : Nat) : Int), iv ((2 ^ a : Nat) : Int), iv (s : Int), .ref 1]) (by first | (rw [shl1 (by omega)]; done) | (rw [shl1 (by omega)]; rfl)) ?_
    obtain ⟨p, ep⟩ : ∃ p, p = 2 ^ a := ⟨_, rfl⟩
    obtain ⟨p2, ep2⟩ : ∃ p2, p2 = 2 ^ b := ⟨_, rfl⟩
    have lp : p < 256 := by rw [ep]; exact p2_lt (by omega)
    have lp2 : p2 < 256 := by rw [ep2]; exact p2_lt (by omega)
    refine AW.eqs (st' := [iv (p2 : Int), iv (p : Int), iv (s : Int), .ref 1]) (by rw [ep, ep2]) ?_
    refine lx_call (pc := 181) [iv (s : Int), iv (p : Int), iv (p2 : Int)] J.2.2.2.1 (made_ok hn C (by omega) lp lp2 hb) (fun v m' h => h.2.2.1) (fun E R hE hR r H => s_X10_made l sc E R hE hR hsc n (s : Int) (p : Int) (p2 : Int) ⟨by omega, by omega⟩ ⟨by omega, by omega⟩ ⟨by omega, by omega⟩ mx r H) ca_L_33 rfl rfl rfl (Nat.le_of_ble_eq_true rfl) (cat_8 (Nat.le_of_ble_eq_true rfl)) (by omega) (by omega) dL_acts_181 (fun x1 mx1 my1 hx1 Q1 T1 f1 => ?_)
    obtain ⟨r1, ⟨γ1, C1⟩, G1, n1⟩ := Q1
    exact aw_iret (pc := 184) rfl rfl (by omega) (by omega) dL_acts_184 ⟨x1, γ1, mx1, my1, rfl, hx1, r1, rfl, J.x C1 n1 T1 f1⟩
  · skip
    refine cx_tabIn (pc := 36) 185 5 (by omega) dL_acts_36 (by decide) (by decide) rfl rfl ?_
    refine aw_aload_n (pc := 185) dL_acts_185 rfl ?_
    refine aw_iload_n (pc := 186) dL_acts_186 rfl ?_
    refine aw_iload_n (pc := 187) dL_acts_187 rfl ?_
    refine cx_bipush (pc := 188) dL_acts_188 (by decide) ?_
    refine cx_ishr (pc := 190) dL_acts_190 ?_
    refine cx_bipush (pc := 191) dL_acts_191 (by decide) ?_
    refine lp_call (pc := 193) [iv (ishr v 13), iv 64] (s_L_mod l sc (ishr v 13) 64 (inR_32 _) (by decide) _) ca_L_15 rfl rfl (Nat.le_of_ble_eq_true rfl) (cat_8 (Nat.le_of_ble_eq_true rfl)) (by omega) (by omega) dL_acts_193 ?_
    obtain ⟨p, ep, ltp⟩ := modN (ishr v 13) 64 (by decide)
    refine AW.eqs (st' := [iv (p : Int), iv (s : Int), .ref 1]) (by first | (rw [ep]; done) | (rw [ep]; rfl)) ?_
    refine aw_iload_n (pc := 196) dL_acts_196 rfl ?_
    refine cx_bipush (pc := 197) dL_acts_197 (by decide) ?_
    refine cx_ishr (pc := 199) dL_acts_199 ?_
    refine cx_bipush (pc := 200) dL_acts_200 (by decide) ?_
    refine lp_call (pc := 202) [iv (ishr v 15), iv 64] (s_L_mod l sc (ishr v 15) 64 (inR_32 _) (by decide) _) ca_L_15 rfl rfl (Nat.le_of_ble_eq_true rfl) (cat_8 (Nat.le_of_ble_eq_true rfl)) (by omega) (by omega) dL_acts_202 ?_
    obtain ⟨p2, ep2, ltp2⟩ := modN (ishr v 15) 64 (by decide)
    refine AW.eqs (st' := [iv (p2 : Int), iv (p : Int), iv (s : Int), .ref 1]) (by first | (rw [ep2]; done) | (rw [ep2]; rfl)) ?_
    refine lx_call (pc := 205) [iv (s : Int), iv (p : Int), iv (p2 : Int)] J.2.2.2.1 (made_ok hn C (by omega) (by omega) (by omega) hb) (fun v m' h => h.2.2.1) (fun E R hE hR r H => s_X10_made l sc E R hE hR hsc n (s : Int) (p : Int) (p2 : Int) ⟨by omega, by omega⟩ ⟨by omega, by omega⟩ ⟨by omega, by omega⟩ mx r H) ca_L_33 rfl rfl rfl (Nat.le_of_ble_eq_true rfl) (cat_8 (Nat.le_of_ble_eq_true rfl)) (by omega) (by omega) dL_acts_205 (fun x1 mx1 my1 hx1 Q1 T1 f1 => ?_)
    obtain ⟨r1, ⟨γ1, C1⟩, G1, n1⟩ := Q1
    exact aw_iret (pc := 208) rfl rfl (by omega) (by omega) dL_acts_208 ⟨x1, γ1, mx1, my1, rfl, hx1, r1, rfl, J.x C1 n1 T1 f1⟩
  · skip
    refine cx_tabIn (pc := 36) 209 6 (by omega) dL_acts_36 (by decide) (by decide) rfl rfl ?_
    refine aw_aload_n (pc := 209) dL_acts_209 rfl ?_
    refine aw_iload_n (pc := 210) dL_acts_210 rfl ?_
    refine aw_iload_n (pc := 211) dL_acts_211 rfl ?_
    refine aw_iload (pc := 212) dL_acts_212 rfl ?_
    refine lx_call (pc := 214) [iv (s : Int), iv (a : Int), iv (b : Int)] J.2.2.2.1 (plus_ok hn C (by omega) (by omega) (by omega) hb) (fun v m' h => h.2.1) (fun E R hE hR r H => s_X10_plus l sc E R hE hR hsc n (s : Int) (a : Int) (b : Int) ⟨by omega, by omega⟩ ⟨by omega, by omega⟩ ⟨by omega, by omega⟩ mx r H) ca_L_36 rfl rfl rfl (Nat.le_of_ble_eq_true rfl) (cat_8 (Nat.le_of_ble_eq_true rfl)) (by omega) (by omega) dL_acts_214 (fun x1 mx1 my1 hx1 Q1 T1 f1 => ?_)
    obtain ⟨⟨K, -, -, R1⟩, G1, n1⟩ := Q1
    obtain ⟨r1, γ1, C1⟩ := R1.ar
    exact aw_iret (pc := 217) rfl rfl (by omega) (by omega) dL_acts_217 ⟨x1, γ1, mx1, my1, rfl, hx1, r1, rfl, J.x C1 n1 T1 f1⟩
  · skip
    refine cx_tabIn (pc := 36) 218 7 (by omega) dL_acts_36 (by decide) (by decide) rfl rfl ?_
    refine aw_aload_n (pc := 218) dL_acts_218 rfl ?_
    refine aw_iload_n (pc := 219) dL_acts_219 rfl ?_
    refine aw_iload_n (pc := 220) dL_acts_220 rfl ?_
    refine lx_call (pc := 221) [iv (s : Int), iv (a : Int)] J.2.2.2.1 (minus_ok hn C (by omega) (by omega) hb) (fun v m' h => h.2.1) (fun E R hE hR r H => s_X10_minus l sc E R hE hR hsc n (s : Int) (a : Int) ⟨by omega, by omega⟩ ⟨by omega, by omega⟩ mx r H) ca_L_39 rfl rfl rfl (Nat.le_of_ble_eq_true rfl) (cat_8 (Nat.le_of_ble_eq_true rfl)) (by omega) (by omega) dL_acts_221 (fun x1 mx1 my1 hx1 Q1 T1 f1 => ?_)
    obtain ⟨R1, G1, n1⟩ := Q1
    obtain ⟨r1, γ1, C1⟩ := R1.ar
    exact aw_iret (pc := 224) rfl rfl (by omega) (by omega) dL_acts_224 ⟨x1, γ1, mx1, my1, rfl, hx1, r1, rfl, J.x C1 n1 T1 f1⟩
  · skip
    refine cx_tabOut (pc := 36) 225 (inN (by omega)) dL_acts_36 (by omega) rfl ?_
    refine aw_aload_n (pc := 225) dL_acts_225 rfl ?_
    refine cx_iconst (pc := 226) dL_acts_226 ?_
    refine aw_iload_n (pc := 227) dL_acts_227 rfl ?_
    refine cx_bipush (pc := 228) dL_acts_228 (by decide) ?_
    refine cx_ishr (pc := 230) dL_acts_230 ?_
    refine cx_bipush (pc := 231) dL_acts_231 (by decide) ?_
    refine lp_call (pc := 233) [iv (ishr v 13), iv 67] (s_L_mod l sc (ishr v 13) 67 (inR_32 _) (by decide) _) ca_L_15 rfl rfl (Nat.le_of_ble_eq_true rfl) (cat_8 (Nat.le_of_ble_eq_true rfl)) (by omega) (by omega) dL_acts_233 ?_
    obtain ⟨p, ep, ltp⟩ := modN (ishr v 13) 67 (by decide)
    refine AW.eqs (st' := [iv (p : Int), iv 3, .ref 1]) (by first | (rw [ep]; done) | (rw [ep]; rfl)) ?_
    refine aw_iload_n (pc := 236) dL_acts_236 rfl ?_
    refine lx_call (pc := 237) [iv 3, iv (p : Int), iv (s : Int)] J.2.2.2.1 (born_ok hn hN C (by omega) (by omega) hb) (fun v m' h => h.2.2.1) (fun E R hE hR r H => s_X10_born l sc E R hE hR hsc n N 3 (p : Int) (s : Int) ⟨by omega, by omega⟩ ⟨by omega, by omega⟩ ⟨by omega, by omega⟩ mx r H) ca_L_42 rfl rfl rfl (Nat.le_of_ble_eq_true rfl) (cat_8 (Nat.le_of_ble_eq_true rfl)) (by omega) (by omega) dL_acts_237 (fun x1 mx1 my1 hx1 Q1 T1 f1 => ?_)
    obtain ⟨r1, ⟨γ1, C1⟩, G1, n1⟩ := Q1
    exact aw_iret (pc := 240) rfl rfl (by omega) (by omega) dL_acts_240 ⟨x1, γ1, mx1, my1, rfl, hx1, r1, rfl, J.x C1 n1 T1 f1⟩
