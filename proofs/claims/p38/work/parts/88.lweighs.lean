/-! THE LAW: weighs -/
theorem shl1 {a : Nat} (h : a < 8) : ishl 1 (a : Int) = ((2 ^ a : Nat) : Int) := by
  have p : 2 ^ a ≤ 2 ^ 7 := Nat.pow_le_pow_right (by decide) (by omega)
  have e := ishl_nat (a := 1) (k := a) (by omega) (by omega)
  rw [Nat.one_mul] at e
  exact e
theorem p2_lt {a : Nat} (h : a < 8) : 2 ^ a < 2 ^ 8 := Nat.pow_lt_pow_right (by decide) h
theorem ior2 {a b : Nat} (ha : a < 8) (hb : b < 8) : ior ((2 ^ a : Nat) : Int) (ishl 1 (b : Int)) = ((2 ^ a ||| 2 ^ b : Nat) : Int) := ior_bit (by have := p2_lt ha; omega) (by omega)
theorem p2_or {a b : Nat} (ha : a < 8) (hb : b < 8) : 2 ^ a ||| 2 ^ b < 256 := Nat.or_lt_two_pow (n := 8) (p2_lt ha) (p2_lt hb)
theorem p2_bit {a b i : Nat} (h : (2 ^ a ||| 2 ^ b).testBit i = true) : i = a ∨ i = b := by
  rw [Nat.testBit_or, Nat.testBit_two_pow, Nat.testBit_two_pow, Bool.or_eq_true, decide_eq_true_eq, decide_eq_true_eq] at h
  omega
theorem inR_p2 {p : Nat} (h : p < 256) : inR (p : Int) := ⟨by omega, by omega⟩
theorem WV.b {g : Nat} {z : Option Int} (h : WV g z) {k : Int} (e : z = some k) : k.natAbs ≤ 9 ∧ Wt g (iz k) := by
  subst e
  exact ⟨h.2, h.1⟩
theorem atv_in {g : Nat} {z : Option Int} (h : WV g z) : (z = none ∧ atv z = -1100000002 ∧ ahv z = 0) ∨ ∃ k : Int, z = some k ∧ atv z = k ∧ k.natAbs ≤ 9 ∧ ((2 ≤ k ∧ ahv z = 1) ∨ (k ≤ -2 ∧ ahv z = -1) ∨ (-2 < k ∧ k < 2 ∧ ahv z = 0)) := by
  cases z with
  | none => exact Or.inl ⟨rfl, rfl, rfl⟩
  | some k =>
    refine Or.inr ⟨k, rfl, rfl, (h.b rfl).1, ?_⟩
    by_cases q : 2 ≤ k
    · exact Or.inl ⟨q, if_pos q⟩
    · by_cases q2 : k ≤ -2
      · exact Or.inr (Or.inl ⟨q2, (if_neg q).trans (if_pos q2)⟩)
      · exact Or.inr (Or.inr ⟨by omega, by omega, (if_neg q).trans (if_neg q2)⟩)
set_option maxRecDepth 100000 in
set_option maxHeartbeats 8000000 in
theorem s_L_weighs (l : Launch) (sc : g_S) (hsc : sc.1 = 0) {n : Nat} (hn : 300 < n) {γ γy t0 : Nat → Nat} {B a b : Nat} {F : g_H} {mx my : Mem} (ha : a < 8) (hb : b < 8) (a6 : a ≠ 6) (b6 : b ≠ 6) (hB : B + 5000 < 2147483648) (J : JS γ γy 0 t0 B mx my) : AMet l sc yL_weighs cL_weighs 6 (some .boolean) 8 4 125 [.ref 1, iv (a : Int), iv (b : Int)] (E2 F mx my) (fun v hp' => v = some (iv 1) ∧ ∃ (γ' : Nat → Nat) (mx' my' : Mem), hp' = E2 F mx' my' ∧ (∀ i, i ≠ 6 → γ' i = γ i) ∧ JS γ' γy 0 t0 (B + 4000) mx' my') := by
  refine AMet.of (own := RL) (by decide +kernel) rfl (Nat.le_of_ble_eq_true rfl) [(0, .ref 1), (1, iv (a : Int)), (2, iv (b : Int))] rfl (fun D base ad => ?_)
  refine aw_aload_n (pc := 0) dL_weighs_0 rfl ?_
  refine aw_iload_n (pc := 1) dL_weighs_1 rfl ?_
  refine lx_call (pc := 2) [iv (a : Int)] J.2.2.2.1 (atomic_ok hn J.1 ha) (fun v m' h => h.2.2.1) (fun E R hE hR r H => s_X10_atomic l sc E R hE hR n (a : Int) ⟨by omega, by omega⟩ mx r H) ca_L_76 rfl rfl rfl (Nat.le_of_ble_eq_true rfl) (cat_8 (Nat.le_of_ble_eq_true rfl)) (by omega) (by omega) dL_weighs_2 (fun x1 mx1 my1 hx1 Q1 T1 f1 => ?_)
  obtain ⟨e1, s1⟩ := Q1
  have J1 := J.x s1.1 s1.2.2 T1 f1
  refine aw_istore_n (pc := 5) [(3, iv x1), (0, .ref 1), (1, iv (a : Int)), (2, iv (b : Int))] dL_weighs_5 rfl (by decide) ?_
  refine aw_aload_n (pc := 6) dL_weighs_6 rfl ?_
  refine aw_iload_n (pc := 7) dL_weighs_7 rfl ?_
  refine lx_call (pc := 8) [iv (b : Int)] J1.2.2.2.1 (atomic_ok hn J1.1 hb) (fun v m' h => h.2.2.1) (fun E R hE hR r H => s_X10_atomic l sc E R hE hR n (b : Int) ⟨by omega, by omega⟩ mx1 r H) ca_L_76 rfl rfl rfl (Nat.le_of_ble_eq_true rfl) (cat_8 (Nat.le_of_ble_eq_true rfl)) (by omega) (by omega) dL_weighs_8 (fun x2 mx2 my2 hx2 Q2 T2 f2 => ?_)
  obtain ⟨e2, s2⟩ := Q2
  have J2 := J1.x s2.1 s2.2.2 T2 f2
  refine aw_istore (pc := 11) [(4, iv x2), (3, iv x1), (0, .ref 1), (1, iv (a : Int)), (2, iv (b : Int))] dL_weighs_11 rfl (by decide) ?_
  refine aw_aload_n (pc := 13) dL_weighs_13 rfl ?_
  refine aw_iload_n (pc := 14) dL_weighs_14 rfl ?_
  refine lx_call (pc := 15) [iv (a : Int)] J2.2.2.2.1 (ahead_ok hn J2.1 ha) (fun v m' h => h.2.2.1) (fun E R hE hR r H => s_X10_ahead l sc E R hE hR n (a : Int) ⟨by omega, by omega⟩ mx2 r H) ca_L_79 rfl rfl rfl (Nat.le_of_ble_eq_true rfl) (cat_8 (Nat.le_of_ble_eq_true rfl)) (by omega) (by omega) dL_weighs_15 (fun x3 mx3 my3 hx3 Q3 T3 f3 => ?_)
  obtain ⟨e3, s3⟩ := Q3
  have J3 := J2.x s3.1 s3.2.2 T3 f3
  refine aw_istore (pc := 18) [(5, iv x3), (4, iv x2), (3, iv x1), (0, .ref 1), (1, iv (a : Int)), (2, iv (b : Int))] dL_weighs_18 rfl (by decide) ?_
  refine aw_aload_n (pc := 20) dL_weighs_20 rfl ?_
  refine aw_iload_n (pc := 21) dL_weighs_21 rfl ?_
  refine cx_iconst (pc := 22) dL_weighs_22 ?_
  obtain ⟨ba, sa1, sa2⟩ := slot5_ok (n := n) hn J3.1 ha
  refine lx_call (pc := 23) [iv (a : Int), iv 5] J3.2.2.2.1 (ok_same sa1) (fun v m' h => by rw [h.2]; exact Grow.rf _) (fun E R hE hR r H => s_X10_slot l sc E R hE hR n (a : Int) 5 ⟨by omega, by omega⟩ ⟨by omega, by omega⟩ mx3 r H) ca_L_45 rfl rfl rfl (Nat.le_of_ble_eq_true rfl) (cat_8 (Nat.le_of_ble_eq_true rfl)) (by omega) (by omega) dL_weighs_23 (fun x4 mx4 my4 hx4 Q4 T4 f4 => ?_)
  obtain ⟨e4, m4⟩ := Q4
  have J4 := J3.x (e := 0) (m4 ▸ J3.1) (by rw [m4]; omega) T4 f4
  by_cases sa : sm (γ a)
  · skip
    have ba1 : ba = true := sa2.mpr sa
    rw [ba1] at e4
    have e4 : x4 = 1 := e4
    obtain ⟨-, za, wa, ea⟩ : sm (γ a) ∧ ∃ z, WV (γ a) z ∧ x1 = atv z := e1.resolve_right (fun q => q.1 sa)
    obtain ⟨-, zc, wc, ec⟩ : sm (γ a) ∧ ∃ z, WV (γ a) z ∧ x3 = ahv z := e3.resolve_right (fun q => q.1 sa)
    rw [← WV_uniq wa wc] at ec
    have va := atv_in wa
    have h112 : ∀ (mx4 my4 : Mem), JS γ γy 0 t0 (B + 2000) mx4 my4 → AW l D base sc RL yL_weighs cL_weighs 6 (some .boolean) 8 4 125 ad (E2 F mx my) (fun v hp' => v = some (iv 1) ∧ ∃ (γ' : Nat → Nat) (mx' my' : Mem), hp' = E2 F mx' my' ∧ (∀ i, i ≠ 6 → γ' i = γ i) ∧ JS γ' γy 0 t0 (B + 4000) mx' my') 0 0 (E2 F mx4 my4) 112 [(5, iv x3), (4, iv x2), (3, iv x1), (0, .ref 1), (1, iv (a : Int)), (2, iv (b : Int))] [] := by
      intro mx4 my4 J4
      refine aw_aload_n (pc := 112) dL_weighs_112 rfl ?_
      refine aw_iload_n (pc := 113) dL_weighs_113 rfl ?_
      refine cx_iconst (pc := 114) dL_weighs_114 ?_
      obtain ⟨bb, sb1, sb2⟩ := slot5_ok (n := n) hn J4.1 hb
      refine lx_call (pc := 115) [iv (b : Int), iv 5] J4.2.2.2.1 (ok_same sb1) (fun v m' h => by rw [h.2]; exact Grow.rf _) (fun E R hE hR r H => s_X10_slot l sc E R hE hR n (b : Int) 5 ⟨by omega, by omega⟩ ⟨by omega, by omega⟩ mx4 r H) ca_L_45 rfl rfl rfl (Nat.le_of_ble_eq_true rfl) (cat_8 (Nat.le_of_ble_eq_true rfl)) (by omega) (by omega) dL_weighs_115 (fun x5 mx5 my5 hx5 Q5 T5 f5 => ?_)
      obtain ⟨e5, m5⟩ := Q5
      have J5 := J4.x (e := 0) (m5 ▸ J4.1) (by rw [m5]; omega) T5 f5
      by_cases sb : sm (γ b)
      · skip
        have bb1 : bb = true := sb2.mpr sb
        rw [bb1] at e5
        have e5 : x5 = 1 := e5
        refine lx_if_eq_f (pc := 118) 132 ⟨by omega, by omega⟩ dL_weighs_118 rfl (by omega) ?_
        refine aw_aload_n (pc := 121) dL_weighs_121 rfl ?_
        refine cx_bipush (pc := 122) dL_weighs_122 (by decide) ?_
        refine aw_iload_n (pc := 124) dL_weighs_124 rfl ?_
        refine aw_iload_n (pc := 125) dL_weighs_125 rfl ?_
        refine lx_call (pc := 126) [iv ((6 : Nat) : Int), iv (a : Int), iv (b : Int)] J5.2.2.2.1 (plus_ok hn J5.1 (by decide) ha hb (by have := J5.2.2.2.2; omega)) (fun v m' h => h.2.1) (fun E R hE hR r H => s_X10_plus l sc E R hE hR hsc n ((6 : Nat) : Int) (a : Int) (b : Int) ⟨by omega, by omega⟩ ⟨by omega, by omega⟩ ⟨by omega, by omega⟩ mx5 r H) ca_L_36 rfl rfl rfl (Nat.le_of_ble_eq_true rfl) (cat_8 (Nat.le_of_ble_eq_true rfl)) (by omega) (by omega) dL_weighs_126 (fun x6 mx6 my6 hx6 Q6 T6 f6 => ?_)
        obtain ⟨⟨K, cK, gK, R6⟩, G6, n6⟩ := Q6
        rcases R6 with ⟨fK, e6, C6⟩ | ⟨fK, e6, C6⟩
        · skip
          have J6 := J5.x C6 n6 T6 f6
          have sK : sm K := sm_can (sm_add sa sb) cK gK
          have gs : gset γ 6 K 6 = K := gset_at _ _ _
          have gn : ∀ i, i ≠ 6 → gset γ 6 K i = γ i := fun i hi => gset_ne hi
          obtain ⟨γ6, eγ6⟩ : ∃ γ6, γ6 = gset γ 6 K := ⟨_, rfl⟩
          rw [← eγ6] at gs gn J6
          refine lx_if_ge_t (pc := 129) 134 hx6 dL_weighs_129 rfl (by omega) ?_
          refine aw_aload_n (pc := 134) dL_weighs_134 rfl ?_
          refine cx_bipush (pc := 135) dL_weighs_135 (by decide) ?_
          refine cx_iconst (pc := 137) dL_weighs_137 ?_
          obtain ⟨bk, sc1, sc2⟩ := slot5_ok (n := n) hn J6.1 (show 6 < 8 by decide)
          refine lx_call (pc := 138) [iv ((6 : Nat) : Int), iv 5] J6.2.2.2.1 (ok_same sc1) (fun v m' h => by rw [h.2]; exact Grow.rf _) (fun E R hE hR r H => s_X10_slot l sc E R hE hR n ((6 : Nat) : Int) 5 ⟨by omega, by omega⟩ ⟨by omega, by omega⟩ mx6 r H) ca_L_45 rfl rfl rfl (Nat.le_of_ble_eq_true rfl) (cat_8 (Nat.le_of_ble_eq_true rfl)) (by omega) (by omega) dL_weighs_138 (fun x7 mx7 my7 hx7 Q7 T7 f7 => ?_)
          obtain ⟨e7, m7⟩ := Q7
          have J7 := J6.x (e := 0) (m7 ▸ J6.1) (by rw [m7]; omega) T7 f7
          rw [gs] at sc2
          have bk1 : bk = true := sc2.mpr sK
          rw [bk1] at e7
          have e7 : x7 = 1 := e7
          refine cx_iconst (pc := 141) dL_weighs_141 ?_
          refine lx_icmp_eq_t (pc := 142) 147 ⟨by omega, by omega⟩ ⟨by omega, by omega⟩ dL_weighs_142 rfl (by omega) ?_
          obtain ⟨-, zb, wb, eb⟩ : sm (γ b) ∧ ∃ z, WV (γ b) z ∧ x2 = atv z := e2.resolve_right (fun q => q.1 sb)
          have vb := atv_in wb
          refine aw_iload_n (pc := 147) dL_weighs_147 rfl ?_
          refine cx_ldc (pc := 148) (-1100000002) dL_weighs_148 ct_L_72 (by decide) ?_
          rcases va with ⟨na, va, -⟩ | ⟨ka, na, va, la, -⟩
          · skip
            refine lx_icmp_eq_t (pc := 150) 200 ⟨by omega, by omega⟩ ⟨by omega, by omega⟩ dL_weighs_150 rfl (by omega) ?_
            refine cx_iconst (pc := 200) dL_weighs_200 ?_
            refine aw_goto (pc := 201) 205 dL_weighs_201 rfl ?_
            exact aw_iret (pc := 205) rfl (by decide +kernel) (by omega) (by omega) dL_weighs_205 ⟨rfl, γ6, mx7, my7, rfl, gn, J7.le (by omega)⟩
          · skip
            refine lx_icmp_eq_f (pc := 150) 200 ⟨by omega, by omega⟩ ⟨by omega, by omega⟩ dL_weighs_150 rfl (by omega) ?_
            refine aw_iload (pc := 153) dL_weighs_153 rfl ?_
            refine cx_ldc (pc := 155) (-1100000002) dL_weighs_155 ct_L_72 (by decide) ?_
            rcases vb with ⟨nb1, vb, -⟩ | ⟨kb, nb1, vb, lb, -⟩
            · skip
              refine lx_icmp_eq_t (pc := 157) 200 ⟨by omega, by omega⟩ ⟨by omega, by omega⟩ dL_weighs_157 rfl (by omega) ?_
              refine cx_iconst (pc := 200) dL_weighs_200 ?_
              refine aw_goto (pc := 201) 205 dL_weighs_201 rfl ?_
              exact aw_iret (pc := 205) rfl (by decide +kernel) (by omega) (by omega) dL_weighs_205 ⟨rfl, γ6, mx7, my7, rfl, gn, J7.le (by omega)⟩
            · skip
              refine lx_icmp_eq_f (pc := 157) 200 ⟨by omega, by omega⟩ ⟨by omega, by omega⟩ dL_weighs_157 rfl (by omega) ?_
              refine aw_aload_n (pc := 160) dL_weighs_160 rfl ?_
              refine cx_bipush (pc := 161) dL_weighs_161 (by decide) ?_
              refine lx_call (pc := 163) [iv ((6 : Nat) : Int)] J7.2.2.2.1 (atomic_ok hn J7.1 (by decide)) (fun v m' h => h.2.2.1) (fun E R hE hR r H => s_X10_atomic l sc E R hE hR n ((6 : Nat) : Int) ⟨by omega, by omega⟩ mx7 r H) ca_L_76 rfl rfl rfl (Nat.le_of_ble_eq_true rfl) (cat_8 (Nat.le_of_ble_eq_true rfl)) (by omega) (by omega) dL_weighs_163 (fun x8 mx8 my8 hx8 Q8 T8 f8 => ?_)
              obtain ⟨e8, s8⟩ := Q8
              have J8 := J7.x s8.1 s8.2.2 T8 f8
              rw [gs] at e8
              obtain ⟨-, zk, wk, ek⟩ : sm K ∧ ∃ z, WV K z ∧ x8 = atv z := e8.resolve_right (fun q => q.1 sK)
              have zs := sum_WV wa wb wk gK na nb1
              have e8 : x8 = ka + kb := by rw [ek, zs]; rfl
              have ex1 : x1 = ka := by omega
              have ex2 : x2 = kb := by omega
              have ikk : inR (ka + kb) := ⟨by omega, by omega⟩
              refine aw_iload_n (pc := 166) dL_weighs_166 rfl ?_
              refine aw_iload (pc := 167) dL_weighs_167 rfl ?_
              refine cx_iadd (pc := 169) dL_weighs_169 ?_
              refine AW.eqs (st' := [iv (ka + kb), iv x8]) (by first | (rw [ex1, ex2, w32_in ikk]; done) | (rw [ex1, ex2, w32_in ikk]; rfl)) ?_
              refine lx_icmp_ne_f (pc := 170) 204 ⟨by omega, by omega⟩ ⟨by omega, by omega⟩ dL_weighs_170 rfl (by omega) ?_
              refine aw_aload_n (pc := 173) dL_weighs_173 rfl ?_
              refine cx_iconst (pc := 174) dL_weighs_174 ?_
              refine aw_iload_n (pc := 175) dL_weighs_175 rfl ?_
              refine cx_ishl (pc := 176) dL_weighs_176 ?_
              refine AW.eqs (st' := [iv ((2 ^ a : Nat) : Int), .ref 1]) (by first | (rw [shl1 ha]; done) | (rw [shl1 ha]; rfl)) ?_
              refine cx_iconst (pc := 177) dL_weighs_177 ?_
              refine aw_iload_n (pc := 178) dL_weighs_178 rfl ?_
              refine cx_ishl (pc := 179) dL_weighs_179 ?_
              refine cx_ior (pc := 180) dL_weighs_180 ?_
              refine AW.eqs (st' := [iv ((2 ^ a ||| 2 ^ b : Nat) : Int), .ref 1]) (by first | (rw [ior2 ha hb]; done) | (rw [ior2 ha hb]; rfl)) ?_
              obtain ⟨p, ep⟩ : ∃ p, p = 2 ^ a ||| 2 ^ b := ⟨_, rfl⟩
              have p256 : p < 256 := by rw [ep]; exact p2_or ha hb
              refine AW.eqs (st' := [iv (p : Int), .ref 1]) (by first | (rw [← ep]; done) | (rw [← ep]; rfl)) ?_
              obtain ⟨ζ, eζ⟩ : ∃ ζ : Nat → Int, ζ = fun i => if i = a then ka else if i = b then kb else 0 := ⟨_, rfl⟩
              have ζa : ζ a = ka := by rw [eζ]; exact if_pos rfl
              have ζb : b ≠ a → ζ b = kb := fun q => by rw [eζ]; exact (if_neg q).trans (if_pos rfl)
              have z9 : ∀ i, (ζ i).natAbs ≤ 9 := fun i => by
                rw [eζ]
                show (if i = a then ka else if i = b then kb else 0).natAbs ≤ 9
                by_cases q : i = a
                · rw [if_pos q]; exact la
                · rw [if_neg q]
                  by_cases q2 : i = b
                  · rw [if_pos q2]; exact lb
                  · rw [if_neg q2]; decide
              have zw : ∀ i, i < 8 → p.testBit i = true → sm (γ6 i) ∧ Wt (γ6 i) (iz (ζ i)) := fun i hi hp => by
                rw [ep] at hp
                by_cases q : i = a
                · subst q; rw [gn i a6, ζa]; exact ⟨sa, (wa.b na).2⟩
                · have q2 : i = b := (p2_bit hp).resolve_left q
                  subst q2; rw [gn i b6, ζb q]; exact ⟨sb, (wb.b nb1).2⟩
              refine lx_call (pc := 181) [iv (p : Int)] J8.2.2.2.1 (garden_ok hn J8.1 p256 z9 zw) (fun v m' h => h.2.2.1) (fun E R hE hR r H => s_X10_garden l sc E R hE hR n (p : Int) ⟨by omega, by omega⟩ mx8 r H) ca_L_86 rfl rfl rfl (Nat.le_of_ble_eq_true rfl) (cat_8 (Nat.le_of_ble_eq_true rfl)) (by omega) (by omega) dL_weighs_181 (fun x9 mx9 my9 hx9 Q9 T9 f9 => ?_)
              obtain ⟨e9, s9⟩ := Q9
              have J9 := J8.x s9.1 s9.2.2 T9 f9
              rw [ep, gsum_two, if_pos ha, ζa] at e9
              refine aw_iload_n (pc := 184) dL_weighs_184 rfl ?_
              refine aw_iload_n (pc := 185) dL_weighs_185 rfl ?_
              by_cases q : a = b
              · skip
                rw [if_neg (fun h => h.2 q.symm)] at e9
                refine lx_icmp_ne_f (pc := 186) 193 ⟨by omega, by omega⟩ ⟨by omega, by omega⟩ dL_weighs_186 rfl (by omega) ?_
                refine aw_iload_n (pc := 189) dL_weighs_189 rfl ?_
                refine aw_goto (pc := 190) 197 dL_weighs_190 rfl ?_
                refine lx_icmp_ne_f (pc := 197) 204 hx9 hx1 dL_weighs_197 rfl (by omega) ?_
                refine cx_iconst (pc := 200) dL_weighs_200 ?_
                refine aw_goto (pc := 201) 205 dL_weighs_201 rfl ?_
                exact aw_iret (pc := 205) rfl (by decide +kernel) (by omega) (by omega) dL_weighs_205 ⟨rfl, γ6, mx9, my9, rfl, gn, J9.le (by omega)⟩
              · skip
                rw [if_pos ⟨hb, fun h => q h.symm⟩, ζb (fun h => q h.symm)] at e9
                refine lx_icmp_ne_t (pc := 186) 193 ⟨by omega, by omega⟩ ⟨by omega, by omega⟩ dL_weighs_186 rfl (by omega) ?_
                refine aw_iload_n (pc := 193) dL_weighs_193 rfl ?_
                refine aw_iload (pc := 194) dL_weighs_194 rfl ?_
                refine cx_iadd (pc := 196) dL_weighs_196 ?_
                refine AW.eqs (st' := [iv (ka + kb), iv x9]) (by first | (rw [ex1, ex2, w32_in ikk]; done) | (rw [ex1, ex2, w32_in ikk]; rfl)) ?_
                refine lx_icmp_ne_f (pc := 197) 204 hx9 ikk dL_weighs_197 rfl (fun h => h e9) ?_
                refine cx_iconst (pc := 200) dL_weighs_200 ?_
                refine aw_goto (pc := 201) 205 dL_weighs_201 rfl ?_
                exact aw_iret (pc := 205) rfl (by decide +kernel) (by omega) (by omega) dL_weighs_205 ⟨rfl, γ6, mx9, my9, rfl, gn, J9.le (by omega)⟩
        · skip
          have J6 := J5.x C6 n6 T6 f6
          refine lx_if_ge_f (pc := 129) 134 hx6 dL_weighs_129 rfl (by omega) ?_
          refine cx_iconst (pc := 132) dL_weighs_132 ?_
          exact aw_iret (pc := 133) rfl (by decide +kernel) (by omega) (by omega) dL_weighs_133 ⟨rfl, γ, mx6, my6, rfl, fun i hi => rfl, J6.le (by omega)⟩
      · skip
        have bb1 : bb = false := by cases bb with | false => rfl | true => exact absurd (sb2.mp rfl) sb
        rw [bb1] at e5
        have e5 : x5 = 0 := e5
        refine lx_if_eq_t (pc := 118) 132 ⟨by omega, by omega⟩ dL_weighs_118 rfl (by omega) ?_
        refine cx_iconst (pc := 132) dL_weighs_132 ?_
        exact aw_iret (pc := 133) rfl (by decide +kernel) (by omega) (by omega) dL_weighs_133 ⟨rfl, γ, mx5, my5, rfl, fun i hi => rfl, J5.le (by omega)⟩
    have h76 : ∀ (mx4 my4 : Mem), JS γ γy 0 t0 (B + 2000) mx4 my4 → AW l D base sc RL yL_weighs cL_weighs 6 (some .boolean) 8 4 125 ad (E2 F mx my) (fun v hp' => v = some (iv 1) ∧ ∃ (γ' : Nat → Nat) (mx' my' : Mem), hp' = E2 F mx' my' ∧ (∀ i, i ≠ 6 → γ' i = γ i) ∧ JS γ' γy 0 t0 (B + 4000) mx' my') 0 0 (E2 F mx4 my4) 76 [(5, iv x3), (4, iv x2), (3, iv x1), (0, .ref 1), (1, iv (a : Int)), (2, iv (b : Int))] [] := by
      intro mx4 my4 J4
      refine aw_iload (pc := 76) dL_weighs_76 rfl ?_
      refine aw_iload_n (pc := 78) dL_weighs_78 rfl ?_
      refine cx_ldc (pc := 79) (-1100000002) dL_weighs_79 ct_L_72 (by decide) ?_
      rcases va with ⟨na, va, ha0⟩ | ⟨ka, na, va, la, ⟨k2, ha0⟩ | ⟨k2, ha0⟩ | ⟨k2, k3, ha0⟩⟩
      · skip
        refine lx_icmp_ne_f (pc := 81) 88 ⟨by omega, by omega⟩ ⟨by omega, by omega⟩ dL_weighs_81 rfl (by omega) ?_
        refine cx_iconst (pc := 84) dL_weighs_84 ?_
        refine aw_goto (pc := 85) 107 dL_weighs_85 rfl ?_
        refine lx_icmp_eq_t (pc := 107) 112 ⟨by omega, by omega⟩ ⟨by omega, by omega⟩ dL_weighs_107 rfl (by omega) ?_
        exact h112 mx4 my4 J4
      · skip
        refine lx_icmp_ne_t (pc := 81) 88 ⟨by omega, by omega⟩ ⟨by omega, by omega⟩ dL_weighs_81 rfl (by omega) ?_
        refine aw_iload_n (pc := 88) dL_weighs_88 rfl ?_
        refine cx_iconst (pc := 89) dL_weighs_89 ?_
        refine lx_icmp_le_f (pc := 90) 97 ⟨by omega, by omega⟩ ⟨by omega, by omega⟩ dL_weighs_90 rfl (by omega) ?_
        refine cx_iconst (pc := 93) dL_weighs_93 ?_
        refine aw_goto (pc := 94) 107 dL_weighs_94 rfl ?_
        refine lx_icmp_eq_t (pc := 107) 112 ⟨by omega, by omega⟩ ⟨by omega, by omega⟩ dL_weighs_107 rfl (by omega) ?_
        exact h112 mx4 my4 J4
      · skip
        refine lx_icmp_ne_t (pc := 81) 88 ⟨by omega, by omega⟩ ⟨by omega, by omega⟩ dL_weighs_81 rfl (by omega) ?_
        refine aw_iload_n (pc := 88) dL_weighs_88 rfl ?_
        refine cx_iconst (pc := 89) dL_weighs_89 ?_
        refine lx_icmp_le_t (pc := 90) 97 ⟨by omega, by omega⟩ ⟨by omega, by omega⟩ dL_weighs_90 rfl (by omega) ?_
        refine aw_iload_n (pc := 97) dL_weighs_97 rfl ?_
        refine cx_iconst (pc := 98) dL_weighs_98 ?_
        refine lx_icmp_ge_f (pc := 99) 106 ⟨by omega, by omega⟩ ⟨by omega, by omega⟩ dL_weighs_99 rfl (by omega) ?_
        refine cx_iconst (pc := 102) dL_weighs_102 ?_
        refine aw_goto (pc := 103) 107 dL_weighs_103 rfl ?_
        refine lx_icmp_eq_t (pc := 107) 112 ⟨by omega, by omega⟩ ⟨by omega, by omega⟩ dL_weighs_107 rfl (by omega) ?_
        exact h112 mx4 my4 J4
      · skip
        refine lx_icmp_ne_t (pc := 81) 88 ⟨by omega, by omega⟩ ⟨by omega, by omega⟩ dL_weighs_81 rfl (by omega) ?_
        refine aw_iload_n (pc := 88) dL_weighs_88 rfl ?_
        refine cx_iconst (pc := 89) dL_weighs_89 ?_
        refine lx_icmp_le_t (pc := 90) 97 ⟨by omega, by omega⟩ ⟨by omega, by omega⟩ dL_weighs_90 rfl (by omega) ?_
        refine aw_iload_n (pc := 97) dL_weighs_97 rfl ?_
        refine cx_iconst (pc := 98) dL_weighs_98 ?_
        refine lx_icmp_ge_t (pc := 99) 106 ⟨by omega, by omega⟩ ⟨by omega, by omega⟩ dL_weighs_99 rfl (by omega) ?_
        refine cx_iconst (pc := 106) dL_weighs_106 ?_
        refine lx_icmp_eq_t (pc := 107) 112 ⟨by omega, by omega⟩ ⟨by omega, by omega⟩ dL_weighs_107 rfl (by omega) ?_
        exact h112 mx4 my4 J4
    refine lx_if_ne_t (pc := 26) 60 ⟨by omega, by omega⟩ dL_weighs_26 rfl (by omega) ?_
    refine aw_iload (pc := 60) dL_weighs_60 rfl ?_
    by_cases q0 : x3 = 0
    · skip
      refine lx_if_eq_t (pc := 62) 76 ⟨by omega, by omega⟩ dL_weighs_62 rfl (by omega) ?_
      exact h76 mx4 my4 (J4.le (by omega))
    · skip
      refine lx_if_eq_f (pc := 62) 76 ⟨by omega, by omega⟩ dL_weighs_62 rfl (by omega) ?_
      refine aw_aload_n (pc := 65) dL_weighs_65 rfl ?_
      refine aw_iload_n (pc := 66) dL_weighs_66 rfl ?_
      refine cx_iconst (pc := 67) dL_weighs_67 ?_
      refine lx_call (pc := 68) [iv (a : Int), iv 4] J4.2.2.2.1 (slot4_ok hn J4.1 ha) (fun v m' h => h.2.2.1) (fun E R hE hR r H => s_X10_slot l sc E R hE hR n (a : Int) 4 ⟨by omega, by omega⟩ ⟨by omega, by omega⟩ mx4 r H) ca_L_45 rfl rfl rfl (Nat.le_of_ble_eq_true rfl) (cat_8 (Nat.le_of_ble_eq_true rfl)) (by omega) (by omega) dL_weighs_68 (fun x5 mx5 my5 hx5 Q5 T5 f5 => ?_)
      obtain ⟨e5, s5⟩ := Q5
      have J5 := J4.x s5.1 s5.2.2 T5 f5
      rw [ahead_vd wa (fun q => q0 (by rw [ec, q])), ← ec] at e5
      refine aw_iload (pc := 71) dL_weighs_71 rfl ?_
      refine lx_icmp_ne_f (pc := 73) 110 hx5 hx3 dL_weighs_73 rfl (by omega) ?_
      exact h76 mx5 my5 (J5.le (by omega))
  · skip
    have ba1 : ba = false := by cases ba with | false => rfl | true => exact absurd (sa2.mp rfl) sa
    rw [ba1] at e4
    have e4 : x4 = 0 := e4
    have e1 : x1 = -1100000003 := (e1.resolve_left (fun q => sa q.1)).2
    have e3 : x3 = -1100000003 := (e3.resolve_left (fun q => sa q.1)).2
    refine lx_if_ne_f (pc := 26) 60 ⟨by omega, by omega⟩ dL_weighs_26 rfl (by omega) ?_
    refine aw_iload_n (pc := 29) dL_weighs_29 rfl ?_
    refine cx_ldc (pc := 30) (-1100000003) dL_weighs_30 ct_L_82 (by decide) ?_
    refine lx_icmp_ne_f (pc := 32) 58 ⟨by omega, by omega⟩ ⟨by omega, by omega⟩ dL_weighs_32 rfl (by omega) ?_
    refine aw_iload (pc := 35) dL_weighs_35 rfl ?_
    refine cx_ldc (pc := 37) (-1100000003) dL_weighs_37 ct_L_82 (by decide) ?_
    refine lx_icmp_ne_f (pc := 39) 58 ⟨by omega, by omega⟩ ⟨by omega, by omega⟩ dL_weighs_39 rfl (by omega) ?_
    refine aw_aload_n (pc := 42) dL_weighs_42 rfl ?_
    refine cx_bipush (pc := 43) dL_weighs_43 (by decide) ?_
    refine aw_iload_n (pc := 45) dL_weighs_45 rfl ?_
    refine lx_call (pc := 46) [iv ((6 : Nat) : Int), iv (a : Int)] J4.2.2.2.1 (weight_no hn J4.1 (by decide) ha sa) (fun v m' h => h.2.2.1) (fun E R hE hR r H => s_X10_weight l sc E R hE hR hsc n ((6 : Nat) : Int) (a : Int) ⟨by omega, by omega⟩ ⟨by omega, by omega⟩ mx4 r H) ca_L_83 rfl rfl rfl (Nat.le_of_ble_eq_true rfl) (cat_8 (Nat.le_of_ble_eq_true rfl)) (by omega) (by omega) dL_weighs_46 (fun x5 mx5 my5 hx5 Q5 T5 f5 => ?_)
    obtain ⟨e5, s5⟩ := Q5
    have J5 := J4.x s5.1 s5.2.2 T5 f5
    refine cx_ldc (pc := 49) (-1100000003) dL_weighs_49 ct_L_82 (by decide) ?_
    refine lx_icmp_ne_f (pc := 51) 58 ⟨by omega, by omega⟩ ⟨by omega, by omega⟩ dL_weighs_51 rfl (by omega) ?_
    refine cx_iconst (pc := 54) dL_weighs_54 ?_
    refine aw_goto (pc := 55) 59 dL_weighs_55 rfl ?_
    exact aw_iret (pc := 59) rfl (by decide +kernel) (by omega) (by omega) dL_weighs_59 ⟨rfl, γ, mx5, my5, rfl, fun i hi => rfl, J5.le (by omega)⟩
