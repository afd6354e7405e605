/-! THE LAW: its body -/
set_option maxRecDepth 100000 in
set_option maxHeartbeats 8000000 in
theorem law_body {l : Launch} {D : va_G} {base Ls : Nat} {xs : Nat → Int32} {y : MethodName} {ad : Nat → Nat} (hL : Ls ≤ 260) {n : Nat} (hn : 300 < n) : AW l D base (0, Ls, xs) RL y cL_law 9 (some .boolean) 840 703444 6991915 ad hN PostL 0 0 hN 0 [(0, .ref 0)] [] := by
  have hLs : ((0, Ls, xs) : g_S).2.1 < 2147483648 := Nat.lt_of_le_of_lt hL (by decide)
  obtain ⟨v1, m1, v2, m2, Hc1, Hc2, K1, K2, J0⟩ := start_two hn
  obtain ⟨t0, -⟩ : ∃ t0 : Nat → Nat, t0 = fun _ => 0 := ⟨_, rfl⟩
  have loopB : ∀ (j i : Nat) (γ γy t : Nat → Nat) (F : g_H) (mx0 my0 : Mem), i + j = 3 → FZ i F → JS γ γy 0 t (7000 + 30000 * i) mx0 my0 → AW l D base (0, Ls, xs) RL y cL_law 9 (some .boolean) 840 703444 6991915 ad hN PostL (10616 + 2000 * i) (345500 + 60000 * i) (E2 F mx0 my0) 58 [(3, iv (i : Int)), (2, .ref 201), (1, .ref 1), (0, .ref 0)] [] := by
    intro j
    induction j with
    | zero =>
      intro i γ γy t F mx0 my0 hi hF J0
      have hi : i = 3 := by omega
      subst hi
      refine aw_iload_n (pc := 58) dL_law_58 rfl ?_
      refine cx_iconst (pc := 59) dL_law_59 ?_
      refine lx_icmp_ge_t (pc := 60) 278 ⟨by omega, by omega⟩ ⟨by omega, by omega⟩ dL_law_60 rfl (by omega) ?_
      refine cx_iconst (pc := 278) dL_law_278 ?_
      exact aw_iret (pc := 279) rfl (by decide +kernel) (by omega) (by omega) dL_law_279 rfl
    | succ j ij =>
      intro i γ γy t F mx0 my0 hi hF J0
      refine aw_iload_n (pc := 58) dL_law_58 rfl ?_
      refine cx_iconst (pc := 59) dL_law_59 ?_
      refine lx_icmp_ge_f (pc := 60) 278 ⟨by omega, by omega⟩ ⟨by omega, by omega⟩ dL_law_60 rfl (by omega) ?_
      refine aw_aload_n (pc := 63) dL_law_63 rfl ?_
      refine cx_bipush (pc := 64) dL_law_64 (by decide) ?_
      refine aw_iload_n (pc := 66) dL_law_66 rfl ?_
      refine cx_iadd (pc := 67) dL_law_67 ?_
      refine AW.eqs (st' := [iv ((12 + i : Nat) : Int), .ref 0]) (by first | (rw [w32_n (k := 12 + i) (by omega) (by omega)]; done) | (rw [w32_n (k := 12 + i) (by omega) (by omega)]; rfl)) ?_
      refine lp_call (pc := 68) [.ref 0, iv ((12 + i : Nat) : Int)] (s_L_cell l (0, Ls, xs) rfl hLs (12 + i) (by omega) _) ca_L_90 rfl rfl (Nat.le_of_ble_eq_true rfl) (cat_8 (Nat.le_of_ble_eq_true rfl)) (by omega) (by omega) dL_law_68 ?_
      obtain ⟨v, ev⟩ : ∃ v, v = cv (0, Ls, xs) (12 + i) := ⟨_, rfl⟩
      have hv : inR v := by rw [ev]; exact cv_in _ _
      refine AW.eqs (st' := [iv v]) (by first | (rw [← ev]; done) | (rw [← ev]; rfl)) ?_
      refine aw_istore (pc := 71) [(4, iv v), (3, iv (i : Int)), (2, .ref 201), (1, .ref 1), (0, .ref 0)] dL_law_71 rfl (by decide) ?_
      refine aw_iload (pc := 73) dL_law_73 rfl ?_
      refine cx_bipush (pc := 75) dL_law_75 (by decide) ?_
      refine lp_call (pc := 77) [iv v, iv 6] (s_L_mod l _ v 6 hv (by decide) _) ca_L_15 rfl rfl (Nat.le_of_ble_eq_true rfl) (cat_8 (Nat.le_of_ble_eq_true rfl)) (by omega) (by omega) dL_law_77 ?_
      obtain ⟨a, ea, lta⟩ := modN v 6 (by decide)
      refine AW.eqs (st' := [iv (a : Int)]) (by first | (rw [ea]; done) | (rw [ea]; rfl)) ?_
      refine aw_istore (pc := 80) [(5, iv (a : Int)), (4, iv v), (3, iv (i : Int)), (2, .ref 201), (1, .ref 1), (0, .ref 0)] dL_law_80 rfl (by decide) ?_
      refine aw_iload (pc := 82) dL_law_82 rfl ?_
      refine cx_iconst (pc := 84) dL_law_84 ?_
      refine cx_ishr (pc := 85) dL_law_85 ?_
      refine cx_bipush (pc := 86) dL_law_86 (by decide) ?_
      refine lp_call (pc := 88) [iv (ishr v 4), iv 6] (s_L_mod l _ (ishr v 4) 6 (inR_32 _) (by decide) _) ca_L_15 rfl rfl (Nat.le_of_ble_eq_true rfl) (cat_8 (Nat.le_of_ble_eq_true rfl)) (by omega) (by omega) dL_law_88 ?_
      obtain ⟨b, eb, ltb⟩ := modN (ishr v 4) 6 (by decide)
      refine AW.eqs (st' := [iv (b : Int)]) (by first | (rw [eb]; done) | (rw [eb]; rfl)) ?_
      have ha : a < 8 := by omega
      have hb : b < 8 := by omega
      have a6 : a ≠ 6 := by omega
      have b6 : b ≠ 6 := by omega
      refine aw_istore (pc := 91) [(6, iv (b : Int)), (5, iv (a : Int)), (4, iv v), (3, iv (i : Int)), (2, .ref 201), (1, .ref 1), (0, .ref 0)] dL_law_91 rfl (by decide) ?_
      refine aw_aload_n (pc := 93) dL_law_93 rfl ?_
      refine aw_iload (pc := 94) dL_law_94 rfl ?_
      refine aw_iload (pc := 96) dL_law_96 rfl ?_
      refine lx_call (pc := 98) [iv (a : Int), iv (b : Int)] J0.2.2.2.1 (order_ok hn J0.1 ha hb) (fun v m' h => h.2.2.1) (fun E R hE hR r H => s_X10_order l _ E R hE hR n (a : Int) (b : Int) ⟨by omega, by omega⟩ ⟨by omega, by omega⟩ mx0 r H) ca_L_99 rfl rfl rfl (Nat.le_of_ble_eq_true rfl) (cat_8 (Nat.le_of_ble_eq_true rfl)) (by omega) (by omega) dL_law_98 (fun x1 mx1 my1 hx1 Q1 T1 f1 => ?_)
      obtain ⟨e1, s1⟩ := Q1
      have J1 := J0.x s1.1 s1.2.2 T1 f1
      refine aw_istore (pc := 101) [(7, iv x1), (6, iv (b : Int)), (5, iv (a : Int)), (4, iv v), (3, iv (i : Int)), (2, .ref 201), (1, .ref 1), (0, .ref 0)] dL_law_101 rfl (by decide) ?_
      refine aw_aload_n (pc := 103) dL_law_103 rfl ?_
      refine cx_bipush (pc := 104) dL_law_104 (by decide) ?_
      refine aw_iload (pc := 106) dL_law_106 rfl ?_
      refine lx_call (pc := 108) [iv ((7 : Nat) : Int), iv (b : Int)] J1.2.2.2.1 (minus_ok hn J1.1 (by decide) hb (by have := J1.2.2.2.2; omega)) (fun v m' h => h.2.1) (fun E R hE hR r H => s_X10_minus l _ E R hE hR rfl n ((7 : Nat) : Int) (b : Int) ⟨by omega, by omega⟩ ⟨by omega, by omega⟩ mx1 r H) ca_L_39 rfl rfl rfl (Nat.le_of_ble_eq_true rfl) (cat_8 (Nat.le_of_ble_eq_true rfl)) (by omega) (by omega) dL_law_108 (fun x2 mx2 my2 hx2 Q2 T2 f2 => ?_)
      obtain ⟨R2, G2, n2⟩ := Q2
      refine aw_istore (pc := 111) [(8, iv x2), (7, iv x1), (6, iv (b : Int)), (5, iv (a : Int)), (4, iv v), (3, iv (i : Int)), (2, .ref 201), (1, .ref 1), (0, .ref 0)] dL_law_111 rfl (by decide) ?_
      refine aw_iload (pc := 113) dL_law_113 rfl ?_
      refine cx_ldc (pc := 115) (-1100000004) dL_law_115 ct_L_98 (by decide) ?_
      have next : ∀ (γ' γy' t' : Nat → Nat) (F' : g_H) (mx' my' : Mem) (k' n' : Nat), FZ (i + 1) F' → JS γ' γy' 0 t' (7000 + 30000 * (i + 1)) mx' my' → k' ≤ 10616 + 2000 * (i + 1) → n' ≤ 345500 + 60000 * (i + 1) → AW l D base (0, Ls, xs) RL y cL_law 9 (some .boolean) 840 703444 6991915 ad hN PostL k' n' (E2 F' mx' my') 272 [(3, iv (i : Int)), (2, .ref 201), (1, .ref 1), (0, .ref 0)] [] := by
        intro γ' γy' t' F' mx' my' k' n' hF' J' hk' hn'
        refine cx_iinc (pc := 272) [(3, iv (w32 ((i : Int) + 1))), (2, .ref 201), (1, .ref 1), (0, .ref 0)] dL_law_272 rfl rfl (by decide) ?_
        refine AW.eqL (L' := [(3, iv ((i + 1 : Nat) : Int)), (2, .ref 201), (1, .ref 1), (0, .ref 0)]) (by first | (rw [w32_n (k := i + 1) (by omega) (by omega)]; done) | (rw [w32_n (k := i + 1) (by omega) (by omega)]; rfl)) ?_
        refine aw_goto (pc := 275) 58 dL_law_275 rfl ?_
        exact AW.widen hk' hn' (ij (i + 1) γ' γy' t' F' mx' my' (by omega) hF' J')
      rcases R2 with ⟨fK, e2, C2⟩ | ⟨fK, e2, C2⟩
      · skip
        have J2 := J1.x C2 n2 T2 f2
        have w2 : x2 = (wid (γ b) : Int) := by rw [e2, wid_gneg]
        have S0 := J0.1.1 b hb
        obtain ⟨cb, ⟨wb10, wb100⟩, -⟩ := id S0
        have g7 : gset γ 7 (gneg (γ b)) 7 = gneg (γ b) := gset_at _ _ _
        have gn : ∀ i, i ≠ 7 → gset γ 7 (gneg (γ b)) i = γ i := fun i hi => gset_ne hi
        obtain ⟨γ2, eγ2⟩ : ∃ γ2, γ2 = gset γ 7 (gneg (γ b)) := ⟨_, rfl⟩
        rw [← eγ2] at g7 gn J2
        have ga : γ2 a = γ a := gn a (by omega)
        have gb : γ2 b = γ b := gn b (by omega)
        have bw := bd_wid (γ b)
        refine lx_icmp_ne_t (pc := 117) 123 ⟨by omega, by omega⟩ ⟨by omega, by omega⟩ dL_law_117 rfl (by omega) ?_
        refine aw_iload (pc := 123) dL_law_123 rfl ?_
        refine aw_aload_n (pc := 125) dL_law_125 rfl ?_
        refine aw_iload (pc := 126) dL_law_126 rfl ?_
        refine cx_iconst (pc := 128) dL_law_128 ?_
        refine lx_call (pc := 129) [iv (b : Int), iv 0] J2.2.2.2.1 (ok_same (slot0_eq J2.1 hb)) (fun v m' h => by rw [h.2]; exact Grow.rf _) (fun E R hE hR r H => s_X10_slot l _ E R hE hR n (b : Int) 0 ⟨by omega, by omega⟩ ⟨by omega, by omega⟩ mx2 r H) ca_L_45 rfl rfl rfl (Nat.le_of_ble_eq_true rfl) (cat_8 (Nat.le_of_ble_eq_true rfl)) (by omega) (by omega) dL_law_129 (fun x3 mx3 my3 hx3 Q3 T3 f3 => ?_)
        obtain ⟨e3, m3⟩ := Q3
        have J3 := J2.x (e := 0) (m3 ▸ J2.1) (by rw [m3]; omega) T3 f3
        rw [gb] at e3
        refine lx_icmp_ne_f (pc := 132) 223 hx2 hx3 dL_law_132 rfl (by omega) ?_
        refine aw_aload_n (pc := 135) dL_law_135 rfl ?_
        refine aw_iload (pc := 136) dL_law_136 rfl ?_
        refine cx_bipush (pc := 138) dL_law_138 (by decide) ?_
        refine lx_call (pc := 140) [iv (b : Int), iv ((7 : Nat) : Int)] J3.2.2.2.1 (outcome_ok hn J3.1 hb (by decide)) (fun v m' h => h.2.2.1) (fun E R hE hR r H => s_X10_outcome l _ E R hE hR n (b : Int) ((7 : Nat) : Int) ⟨by omega, by omega⟩ ⟨by omega, by omega⟩ mx3 r H) ca_L_59 rfl rfl rfl (Nat.le_of_ble_eq_true rfl) (cat_8 (Nat.le_of_ble_eq_true rfl)) (by omega) (by omega) dL_law_140 (fun x4 mx4 my4 hx4 Q4 T4 f4 => ?_)
        obtain ⟨e4, s4⟩ := Q4
        have J4 := J3.x s4.1 s4.2.2 T4 f4
        rw [gb, g7, vd_self] at e4
        refine lx_if_ne_f (pc := 143) 223 ⟨by omega, by omega⟩ dL_law_143 rfl (by omega) ?_
        refine aw_aload_n (pc := 146) dL_law_146 rfl ?_
        refine aw_iload (pc := 147) dL_law_147 rfl ?_
        refine cx_bipush (pc := 149) dL_law_149 (by decide) ?_
        refine lx_call (pc := 151) [iv (a : Int), iv ((7 : Nat) : Int)] J4.2.2.2.1 (outcome_ok hn J4.1 ha (by decide)) (fun v m' h => h.2.2.1) (fun E R hE hR r H => s_X10_outcome l _ E R hE hR n (a : Int) ((7 : Nat) : Int) ⟨by omega, by omega⟩ ⟨by omega, by omega⟩ mx4 r H) ca_L_59 rfl rfl rfl (Nat.le_of_ble_eq_true rfl) (cat_8 (Nat.le_of_ble_eq_true rfl)) (by omega) (by omega) dL_law_151 (fun x5 mx5 my5 hx5 Q5 T5 f5 => ?_)
        obtain ⟨e5, s5⟩ := Q5
        have J5 := J4.x s5.1 s5.2.2 T5 f5
        rw [ga, g7, ← e1] at e5
        refine aw_iload (pc := 154) dL_law_154 rfl ?_
        refine lx_icmp_ne_f (pc := 156) 223 hx5 hx1 dL_law_156 rfl (by omega) ?_
        refine aw_aload_n (pc := 159) dL_law_159 rfl ?_
        refine aw_iload (pc := 160) dL_law_160 rfl ?_
        refine aw_iload (pc := 162) dL_law_162 rfl ?_
        refine lx_call (pc := 164) [iv (b : Int), iv (a : Int)] J5.2.2.2.1 (order_ok hn J5.1 hb ha) (fun v m' h => h.2.2.1) (fun E R hE hR r H => s_X10_order l _ E R hE hR n (b : Int) (a : Int) ⟨by omega, by omega⟩ ⟨by omega, by omega⟩ mx5 r H) ca_L_99 rfl rfl rfl (Nat.le_of_ble_eq_true rfl) (cat_8 (Nat.le_of_ble_eq_true rfl)) (by omega) (by omega) dL_law_164 (fun x6 mx6 my6 hx6 Q6 T6 f6 => ?_)
        obtain ⟨e6, s6⟩ := Q6
        have J6 := J5.x s6.1 s6.2.2 T6 f6
        rw [ga, gb, vd_rev, ← e1] at e6
        have vc := vd_cases (gadd (γ a) (gneg (γ b)))
        rw [← e1] at vc
        refine aw_iload (pc := 167) dL_law_167 rfl ?_
        refine cx_iconst (pc := 169) dL_law_169 ?_
        have h183 : AW l D base (0, Ls, xs) RL y cL_law 9 (some .boolean) 840 703444 6991915 ad hN PostL (10616 + 2000 * i + 4) (345500 + 60000 * i + 125) (E2 F mx6 my6) 183 [(8, iv x2), (7, iv x1), (6, iv (b : Int)), (5, iv (a : Int)), (4, iv v), (3, iv (i : Int)), (2, .ref 201), (1, .ref 1), (0, .ref 0)] [] := by
          refine aw_aload_n (pc := 183) dL_law_183 rfl ?_
          refine aw_iload (pc := 184) dL_law_184 rfl ?_
          refine aw_iload (pc := 186) dL_law_186 rfl ?_
          refine aw_iload (pc := 188) dL_law_188 rfl ?_
          refine cx_bipush (pc := 190) dL_law_190 (by decide) ?_
          refine cx_ishr (pc := 192) dL_law_192 ?_
          refine cx_iconst (pc := 193) dL_law_193 ?_
          refine lp_call (pc := 194) [iv (ishr v 8), iv 2] (s_L_mod l _ (ishr v 8) 2 (inR_32 _) (by decide) _) ca_L_15 rfl rfl (Nat.le_of_ble_eq_true rfl) (cat_8 (Nat.le_of_ble_eq_true rfl)) (by omega) (by omega) dL_law_194 ?_
          obtain ⟨c, ec, ltc⟩ := modN (ishr v 8) 2 (by decide)
          refine AW.eqs (st' := [iv (c : Int), iv (b : Int), iv (a : Int), .ref 1]) (by first | (rw [ec]; done) | (rw [ec]; rfl)) ?_
          refine ll_call (pc := 197) [.ref 1, iv (a : Int), iv (b : Int), iv (c : Int)] (s_L_fights l _ rfl hn ha hb a6 b6 (by omega) (by omega) J6) ca_L_102 rfl rfl (Nat.le_of_ble_eq_true rfl) (cat_8 (Nat.le_of_ble_eq_true rfl)) (by omega) (by omega) dL_law_197 (fun v7r hp7 Q7 => ?_)
          obtain ⟨rfl, γ7, mx7, my7, rfl, k7, J7⟩ := Q7
          refine lx_if_eq_f (pc := 200) 223 ⟨by omega, by omega⟩ dL_law_200 rfl (by omega) ?_
          refine aw_aload_n (pc := 203) dL_law_203 rfl ?_
          refine aw_iload (pc := 204) dL_law_204 rfl ?_
          refine cx_bipush (pc := 206) dL_law_206 (by decide) ?_
          refine aw_iload (pc := 208) dL_law_208 rfl ?_
          refine cx_bipush (pc := 210) dL_law_210 (by decide) ?_
          refine cx_ishr (pc := 212) dL_law_212 ?_
          refine cx_iconst (pc := 213) dL_law_213 ?_
          refine lp_call (pc := 214) [iv (ishr v 9), iv 2] (s_L_mod l _ (ishr v 9) 2 (inR_32 _) (by decide) _) ca_L_15 rfl rfl (Nat.le_of_ble_eq_true rfl) (cat_8 (Nat.le_of_ble_eq_true rfl)) (by omega) (by omega) dL_law_214 ?_
          obtain ⟨c2, ec2, ltc2⟩ := modN (ishr v 9) 2 (by decide)
          refine AW.eqs (st' := [iv (c2 : Int), iv 7, iv (a : Int), .ref 1]) (by first | (rw [ec2]; done) | (rw [ec2]; rfl)) ?_
          refine ll_call (pc := 217) [.ref 1, iv (a : Int), iv ((7 : Nat) : Int), iv (c2 : Int)] (s_L_fights l _ rfl hn ha (by decide) a6 (by decide) (by omega) (by omega) J7) ca_L_102 rfl rfl (Nat.le_of_ble_eq_true rfl) (cat_8 (Nat.le_of_ble_eq_true rfl)) (by omega) (by omega) dL_law_217 (fun v8r hp8 Q8 => ?_)
          obtain ⟨rfl, γ8, mx8, my8, rfl, k8, J8⟩ := Q8
          refine lx_if_ne_t (pc := 220) 225 ⟨by omega, by omega⟩ dL_law_220 rfl (by omega) ?_
          refine aw_aload_n (pc := 225) dL_law_225 rfl ?_
          refine cx_bipush (pc := 226) dL_law_226 (by decide) ?_
          refine cx_bipush (pc := 228) dL_law_228 (by decide) ?_
          have g8 : γ8 7 = gneg (γ b) := by rw [k8 7 (by decide), k7 7 (by decide), g7]
          have h8b : γ8 b = γ b := by rw [k8 b b6, k7 b b6, gb]
          refine lx_call (pc := 230) [iv ((6 : Nat) : Int), iv ((7 : Nat) : Int)] J8.2.2.2.1 (minus_ok hn J8.1 (by decide) (by decide) (by have := J8.2.2.2.2; omega)) (fun v m' h => h.2.1) (fun E R hE hR r H => s_X10_minus l _ E R hE hR rfl n ((6 : Nat) : Int) ((7 : Nat) : Int) ⟨by omega, by omega⟩ ⟨by omega, by omega⟩ mx8 r H) ca_L_39 rfl rfl rfl (Nat.le_of_ble_eq_true rfl) (cat_8 (Nat.le_of_ble_eq_true rfl)) (by omega) (by omega) dL_law_230 (fun x9 mx9 my9 hx9 Q9 T9 f9 => ?_)
          obtain ⟨R9, G9, n9⟩ := Q9
          rw [g8, gneg_neg] at R9
          obtain ⟨-, e9, C9⟩ : fits (γ b) ∧ x9 = (wid (γ b) : Int) ∧ CI (gset γ8 6 (γ b)) mx9 := R9.resolve_right (fun q => q.1 ⟨wb10, wb100⟩)
          have J9 := J8.x C9 n9 T9 f9
          have g96 : gset γ8 6 (γ b) 6 = γ b := gset_at _ _ _
          have g9b : gset γ8 6 (γ b) b = γ b := (gset_ne b6).trans h8b
          obtain ⟨γ9, eγ9⟩ : ∃ γ9, γ9 = gset γ8 6 (γ b) := ⟨_, rfl⟩
          rw [← eγ9] at g96 g9b J9
          refine aw_iload (pc := 233) dL_law_233 rfl ?_
          refine lx_icmp_ne_f (pc := 235) 270 hx9 hx2 dL_law_235 rfl (by omega) ?_
          refine aw_aload_n (pc := 238) dL_law_238 rfl ?_
          refine cx_bipush (pc := 239) dL_law_239 (by decide) ?_
          refine aw_iload (pc := 241) dL_law_241 rfl ?_
          refine lx_call (pc := 243) [iv ((6 : Nat) : Int), iv (b : Int)] J9.2.2.2.1 (order_ok hn J9.1 (by decide) hb) (fun v m' h => h.2.2.1) (fun E R hE hR r H => s_X10_order l _ E R hE hR n ((6 : Nat) : Int) (b : Int) ⟨by omega, by omega⟩ ⟨by omega, by omega⟩ mx9 r H) ca_L_99 rfl rfl rfl (Nat.le_of_ble_eq_true rfl) (cat_8 (Nat.le_of_ble_eq_true rfl)) (by omega) (by omega) dL_law_243 (fun xa mxa mya hxa Qa Ta fa => ?_)
          obtain ⟨ea, sa⟩ := Qa
          have Ja := J9.x sa.1 sa.2.2 Ta fa
          rw [g96, g9b, vd_self] at ea
          refine lx_if_ne_f (pc := 246) 270 hxa dL_law_246 rfl (by omega) ?_
          refine aw_aload_n (pc := 249) dL_law_249 rfl ?_
          refine aw_iload (pc := 250) dL_law_250 rfl ?_
          refine aw_iload (pc := 252) dL_law_252 rfl ?_
          refine ll_call (pc := 254) [.ref 1, iv (a : Int), iv (b : Int)] (s_L_weighs l _ rfl hn ha hb a6 b6 (by omega) Ja) ca_L_106 rfl rfl (Nat.le_of_ble_eq_true rfl) (cat_8 (Nat.le_of_ble_eq_true rfl)) (by omega) (by omega) dL_law_254 (fun vbr hpb Qb => ?_)
          obtain ⟨rfl, γb, mxb, myb, rfl, kb, Jb⟩ := Qb
          refine lx_if_eq_f (pc := 257) 270 ⟨by omega, by omega⟩ dL_law_257 rfl (by omega) ?_
          refine aw_aload_n (pc := 260) dL_law_260 rfl ?_
          refine aw_iload (pc := 261) dL_law_261 rfl ?_
          refine aw_aload_n (pc := 263) dL_law_263 rfl ?_
          refine ll_call (pc := 264) [.ref 1, iv (a : Int), .ref 201] (s_L_comesBack l _ rfl hn (N := 201) (by decide) (u := 60 + i) (by omega) hF.1 (hF.2 _ (by omega) (by omega)) ha (by omega) Jb) ca_L_110 rfl rfl (Nat.le_of_ble_eq_true rfl) (cat_8 (Nat.le_of_ble_eq_true rfl)) (by omega) (by omega) dL_law_264 (fun vcr hpc Qc => ?_)
          obtain ⟨rfl, fc, γc, tc, mxc, myc, rfl, Jc⟩ := Qc
          refine lx_if_ne_t (pc := 267) 272 ⟨by omega, by omega⟩ dL_law_267 rfl (by omega) ?_
          refine AW.sel [5, 6, 7, 8] (L' := [(3, iv (i : Int)), (2, .ref 201), (1, .ref 1), (0, .ref 0)]) rfl ?_
          exact next _ _ _ _ _ _ _ _ (hF.up (by omega) fc) (Jc.le (by omega)) (by omega) (by omega)
        by_cases q2 : x1 = 2
        · skip
          rw [if_pos q2] at e6
          refine lx_icmp_ne_f (pc := 170) 177 hx1 (inR_lit _ rfl) dL_law_170 rfl (by omega) ?_
          refine cx_iconst (pc := 173) dL_law_173 ?_
          refine aw_goto (pc := 174) 180 dL_law_174 rfl ?_
          refine lx_icmp_ne_f (pc := 180) 223 hx6 (inR_lit _ rfl) dL_law_180 rfl (by omega) ?_
          exact h183
        · skip
          rw [if_neg q2] at e6
          refine lx_icmp_ne_t (pc := 170) 177 hx1 (inR_lit _ rfl) dL_law_170 rfl (by omega) ?_
          refine aw_iload (pc := 177) dL_law_177 rfl ?_
          refine cx_ineg (pc := 179) dL_law_179 ?_
          refine AW.eqs (st' := [iv (-x1), iv x6]) (by first | (rw [w32_id (x := -x1) (by omega) (by omega)]; done) | (rw [w32_id (x := -x1) (by omega) (by omega)]; rfl)) ?_
          refine lx_icmp_ne_f (pc := 180) 223 hx6 ⟨by omega, by omega⟩ dL_law_180 rfl (by omega) ?_
          exact h183
      · skip
        have J2 := J1.x C2 n2 T2 f2
        refine lx_icmp_ne_f (pc := 117) 123 ⟨by omega, by omega⟩ ⟨by omega, by omega⟩ dL_law_117 rfl (by omega) ?_
        refine aw_goto (pc := 120) 272 dL_law_120 rfl ?_
        refine AW.sel [5, 6, 7, 8] (L' := [(3, iv (i : Int)), (2, .ref 201), (1, .ref 1), (0, .ref 0)]) rfl ?_
        exact next _ _ _ _ _ _ _ _ ⟨hF.1, fun q h1 h2 => hF.2 q (by omega) h2⟩ (J2.le (by omega)) (by omega) (by omega)
  have loopA : ∀ (j i : Nat) (γ γy t : Nat → Nat) (mx0 my0 : Mem), i + j = 12 → JS γ γy 0 t (1100 + 400 * i) mx0 my0 → AW l D base (0, Ls, xs) RL y cL_law 9 (some .boolean) 840 703444 6991915 ad hN PostL (200 + 868 * i) (20000 + 27125 * i) (E2 hN mx0 my0) 18 [(3, iv (i : Int)), (2, .ref 201), (1, .ref 1), (0, .ref 0)] [] := by
    intro j
    induction j with
    | zero =>
      intro i γ γy t mx0 my0 hi J0
      have hi : i = 12 := by omega
      subst hi
      refine aw_iload_n (pc := 18) dL_law_18 rfl ?_
      refine cx_bipush (pc := 19) dL_law_19 (by decide) ?_
      refine lx_icmp_ge_t (pc := 21) 56 ⟨by omega, by omega⟩ ⟨by omega, by omega⟩ dL_law_21 rfl (by omega) ?_
      refine cx_iconst (pc := 56) dL_law_56 ?_
      refine aw_istore_n (pc := 57) [(3, iv 0), (2, .ref 201), (1, .ref 1), (0, .ref 0)] dL_law_57 rfl (by decide) ?_
      exact loopB 3 0 γ γy t hN mx0 my0 rfl FZ_0 (J0.le (by omega))
    | succ j ij =>
      intro i γ γy t mx0 my0 hi J0
      refine aw_iload_n (pc := 18) dL_law_18 rfl ?_
      refine cx_bipush (pc := 19) dL_law_19 (by decide) ?_
      refine lx_icmp_ge_f (pc := 21) 56 ⟨by omega, by omega⟩ ⟨by omega, by omega⟩ dL_law_21 rfl (by omega) ?_
      refine aw_aload_n (pc := 24) dL_law_24 rfl ?_
      refine aw_aload_n (pc := 25) dL_law_25 rfl ?_
      refine aw_iload_n (pc := 26) dL_law_26 rfl ?_
      refine lp_call (pc := 27) [.ref 0, iv (i : Int)] (s_L_cell l (0, Ls, xs) rfl hLs i (by omega) _) ca_L_90 rfl rfl (Nat.le_of_ble_eq_true rfl) (cat_8 (Nat.le_of_ble_eq_true rfl)) (by omega) (by omega) dL_law_27 ?_
      refine ll_call (pc := 30) [.ref 1, iv (cv (0, Ls, xs) i)] (s_L_acts l _ rfl hn (N := 201) (by decide) (cv_in _ _) (by omega) J0) ca_L_94 rfl rfl (Nat.le_of_ble_eq_true rfl) (cat_8 (Nat.le_of_ble_eq_true rfl)) (by omega) (by omega) dL_law_30 (fun v1r hp1 Q1 => ?_)
      obtain ⟨r, γ1, mx1, my1, rfl, hr, r1, rfl, J1⟩ := Q1
      refine aw_istore (pc := 33) [(4, iv r), (3, iv (i : Int)), (2, .ref 201), (1, .ref 1), (0, .ref 0)] dL_law_33 rfl (by decide) ?_
      refine aw_iload (pc := 35) dL_law_35 rfl ?_
      refine cx_iconst (pc := 37) dL_law_37 ?_
      have h50 : AW l D base (0, Ls, xs) RL y cL_law 9 (some .boolean) 840 703444 6991915 ad hN PostL (200 + 868 * i + 868) (20000 + 27125 * i + 27125) (E2 hN mx1 my1) 50 [(4, iv r), (3, iv (i : Int)), (2, .ref 201), (1, .ref 1), (0, .ref 0)] [] := by
        refine cx_iinc (pc := 50) [(3, iv (w32 ((i : Int) + 1))), (4, iv r), (2, .ref 201), (1, .ref 1), (0, .ref 0)] dL_law_50 rfl rfl (by decide) ?_
        refine AW.eqL (L' := [(3, iv ((i + 1 : Nat) : Int)), (4, iv r), (2, .ref 201), (1, .ref 1), (0, .ref 0)]) (by first | (rw [w32_n (k := i + 1) (by omega) (by omega)]; done) | (rw [w32_n (k := i + 1) (by omega) (by omega)]; rfl)) ?_
        refine aw_goto (pc := 53) 18 dL_law_53 rfl ?_
        refine AW.sel [0, 2, 3, 4] (L' := [(3, iv ((i + 1 : Nat) : Int)), (2, .ref 201), (1, .ref 1), (0, .ref 0)]) rfl ?_
        exact AW.widen (by omega) (by omega) (ij (i + 1) γ1 γy t mx1 my1 (by omega) (J1.le (by omega)))
      by_cases q : 1 ≤ r
      · skip
        refine lx_icmp_ge_t (pc := 38) 50 hr (inR_lit _ rfl) dL_law_38 rfl q ?_
        exact h50
      · skip
        refine lx_icmp_ge_f (pc := 38) 50 hr (inR_lit _ rfl) dL_law_38 rfl q ?_
        refine aw_iload (pc := 41) dL_law_41 rfl ?_
        refine cx_ldc (pc := 43) (-1100000004) dL_law_43 ct_L_98 (by decide) ?_
        refine lx_icmp_eq_t (pc := 45) 50 hr (inR_lit _ rfl) dL_law_45 rfl (r1.resolve_left q) ?_
        exact h50
  refine aw_new (pc := 0) (ci := 10) (N := 12) 1 [.null, .null, .null, .null, .null, .null, .null, .null, .null, .null, .null, .null] tyX10 ⟨TX10, rfl, tys_X10, cls_X10⟩ rfl (by show 1 ≠ 0; decide) kl_L_10 in_X10 ii_X10 (fun j hj => by rcases (by omega : j = 0 ∨ j = 1 ∨ j = 2 ∨ j = 3 ∨ j = 4 ∨ j = 5 ∨ j = 6 ∨ j = 7 ∨ j = 8 ∨ j = 9 ∨ j = 10 ∨ j = 11) with rfl | rfl | rfl | rfl | rfl | rfl | rfl | rfl | rfl | rfl | rfl | rfl <;> rfl) (fun v hv i e => by subst e; simp at hv) (Nat.le_of_ble_eq_true rfl) (Nat.le_of_ble_eq_true rfl) dL_law_0 ?_
  refine aw_dup (pc := 3) dL_law_3 rfl ?_
  refine aw_callI (pc := 4) (mcC := 67) (msC := 6868) [] (c_X10_init l (0, Ls, xs) rfl n mz _ (v1, m1) (g_up_self _ _ _) (fun q q1 q2 => g_up_ne _ _ (by omega)) (fun q q1 => by rw [g_up_ne _ _ (by omega), cel_mz_hi q1]; rfl) Hc1) ca_L_89 rfl rfl (Nat.le_of_ble_eq_true rfl) (cat_8 (Nat.le_of_ble_eq_true rfl)) (Nat.le_of_ble_eq_true rfl) (Nat.le_of_ble_eq_true rfl) dL_law_4 (fun v9 hp9 hq9 _ => ?_)
  obtain ⟨rfl, rfl⟩ := hq9
  refine AW.eqh (EC_drop1 _ _ _) ?_
  refine aw_astore_n (pc := 7) [(1, .ref 1), (0, .ref 0)] dL_law_7 rfl (by decide) ?_
  refine aw_new (pc := 8) (ci := 10) (N := 12) 201 [.null, .null, .null, .null, .null, .null, .null, .null, .null, .null, .null, .null] tyX10 ⟨TX10, rfl, tys_X10, cls_X10⟩ (EC_out (by omega)) (by show 201 ≠ 0; decide) kl_L_10 in_X10 ii_X10 (fun j hj => by rcases (by omega : j = 0 ∨ j = 1 ∨ j = 2 ∨ j = 3 ∨ j = 4 ∨ j = 5 ∨ j = 6 ∨ j = 7 ∨ j = 8 ∨ j = 9 ∨ j = 10 ∨ j = 11) with rfl | rfl | rfl | rfl | rfl | rfl | rfl | rfl | rfl | rfl | rfl | rfl <;> rfl) (fun v hv i e => by subst e; simp at hv) (Nat.le_of_ble_eq_true rfl) (Nat.le_of_ble_eq_true rfl) dL_law_8 ?_
  refine aw_dup (pc := 11) dL_law_11 rfl ?_
  refine aw_callI (pc := 12) (mcC := 67) (msC := 6868) [] (c_init2 l (0, Ls, xs) rfl n m1 K1 (v2, m2) K2 Hc2) ca_L_89 rfl rfl (Nat.le_of_ble_eq_true rfl) (cat_8 (Nat.le_of_ble_eq_true rfl)) (Nat.le_of_ble_eq_true rfl) (Nat.le_of_ble_eq_true rfl) dL_law_12 (fun v9 hp9 hq9 _ => ?_)
  obtain ⟨rfl, rfl⟩ := hq9
  refine aw_astore_n (pc := 15) [(2, .ref 201), (1, .ref 1), (0, .ref 0)] dL_law_15 rfl (by decide) ?_
  refine cx_iconst (pc := 16) dL_law_16 ?_
  refine aw_istore_n (pc := 17) [(3, iv 0), (2, .ref 201), (1, .ref 1), (0, .ref 0)] dL_law_17 rfl (by decide) ?_
  exact AW.widen (by decide) (by decide) (loopA 12 0 _ _ t0 _ _ (by omega) (J0 t0))
