/-! THE LAW: comesBack -/
theorem up_rn {F : g_H} {u : Nat} (hu : 58 ≤ u ∧ u < 200) (hF : rnh swp F = F) (f : Nat → Int) : rnh swp (g_up F u (txt 100 f)) = g_up F u (txt 100 f) := by
  funext i
  show (g_up F u (txt 100 f) (swp i)).map (rne swp) = _
  by_cases h : i = u
  · subst h
    rw [swp_id (by omega) (by omega), g_up_self]
    rfl
  · have h2 : swp i ≠ u := fun e => h (by have := swp_sw i; rw [e, swp_id (by omega) (by omega)] at this; exact this.symm)
    rw [g_up_ne _ _ h, g_up_ne _ _ h2]
    exact congrFun hF i
theorem JS.t0 {γ γy t : Nat → Nat} {B : Nat} {mx my : Mem} (J : JS γ γy 0 t B mx my) (t' : Nat → Nat) : JS γ γy 0 t' B mx my := ⟨J.1, J.2.1, ⟨J.2.2.1.1, fun i hi => absurd hi (Nat.not_lt_zero _)⟩, J.2.2.2⟩
set_option maxRecDepth 100000 in
set_option maxHeartbeats 8000000 in
theorem s_L_comesBack (l : Launch) (sc : g_S) (hsc : sc.1 = 0) {n N : Nat} (hn : 300 < n) (hN : 200 < N) {γ γy t0 : Nat → Nat} {B u a : Nat} {F : g_H} {mx my : Mem} (hu : 58 ≤ u ∧ u < 200) (hF : rnh swp F = F) (hFu : F u = none) (ha : a < 8) (hB : B + 5000 < 2147483648) (J : JS γ γy 0 t0 B mx my) : AMet l sc yL_comesBack cL_comesBack 9 (some .boolean) 45 (4 * N + 1) (125 * N + 100) [.ref 1, iv (a : Int), .ref 201] (E2 F mx my) (fun v hp' => v = some (iv 1) ∧ ∃ (f : Nat → Int) (γy' t' : Nat → Nat) (mx' my' : Mem), hp' = E2 (g_up F u (txt 100 f)) mx' my' ∧ JS γ γy' 0 t' (B + 3000) mx' my') := by
  have S0 := J.1.1 a ha
  obtain ⟨cg, ⟨w10, l100⟩, -⟩ := id S0
  have b9 : bd (γ a) ≤ 9 := by have := bd_wid (γ a); omega
  obtain ⟨ln, eln⟩ : ∃ ln, ln = (wd (γ a)).length := ⟨_, rfl⟩
  obtain ⟨T, eT⟩ : ∃ T : Nat → Nat, T = fun i => (wd (γ a)).getD i 0 := ⟨_, rfl⟩
  have T128 : ∀ i, T i < 128 := fun i => by rw [eT]; exact getD_128 b9 i
  rw [← eln] at l100
  have n2 : inR (2 : Int) := inR_lit _ rfl
  refine AMet.of (own := RL) (by decide +kernel) rfl (Nat.le_of_ble_eq_true rfl) [(0, .ref 1), (1, iv (a : Int)), (2, .ref 201)] rfl (fun D base ad => ?_)
  have last : ∀ (f : Nat → Int) (mx1 my1 : Mem), (∀ i, i < ln → f i = (T i : Int)) → JS γ γy 0 t0 B mx1 my1 → ∀ (S D0 : Int), S = fI (scanI 0 (wd (γ a))) → AW l D base sc RL yL_comesBack cL_comesBack 9 (some .boolean) 45 (4 * N + 1) (125 * N + 100) ad (E2 F mx my) (fun v hp' => v = some (iv 1) ∧ ∃ (f : Nat → Int) (γy' t' : Nat → Nat) (mx' my' : Mem), hp' = E2 (g_up F u (txt 100 f)) mx' my' ∧ JS γ γy' 0 t' (B + 3000) mx' my') 1 100 (E2 (g_up F u (txt 100 f)) mx1 my1) 133 [(7, iv (ln : Int)), (6, iv S), (5, iv D0), (4, .ref u), (3, iv (ln : Int)), (0, .ref 1), (1, iv (a : Int)), (2, .ref 201)] [] := by
    intro f mx1 my1 hf J1 S D0 hS
    have hF1 := up_rn hu hF f
    rw [scanI_wd b9] at hS
    have Sb : -1 ≤ S ∧ S ≤ 100 := by
      have := fI_bd (w := wd (γ a)) (Nat.le_refl _)
      rw [List.take_length, scanI_wd b9, ← hS] at this
      omega
    refine aw_aload_n (pc := 133) dL_comesBack_133 rfl ?_
    refine aw_aload (pc := 134) dL_comesBack_134 rfl ?_
    refine aw_iload_n (pc := 136) dL_comesBack_136 rfl ?_
    refine ll_call (pc := 137) [.ref 201, .ref u, iv (ln : Int)] (s_L_feeds l sc hsc hn hu hF1 (g_up_self _ _ _) l100 T128 hf (J1.t0 T)) ca_L_51 rfl rfl (Nat.le_of_ble_eq_true rfl) (cat_8 (Nat.le_of_ble_eq_true rfl)) (Nat.le_of_ble_eq_true rfl) (Nat.le_of_ble_eq_true rfl) dL_comesBack_137 (fun v2 hp2 Q2 => ?_)
    obtain ⟨rfl, mx2, my2, rfl, J2⟩ := Q2
    refine lx_if_ne_t (pc := 140) 145 ⟨by omega, by omega⟩ dL_comesBack_140 rfl (by omega) ?_
    refine aw_aload_n (pc := 145) dL_comesBack_145 rfl ?_
    refine cx_iconst (pc := 146) dL_comesBack_146 ?_
    refine ly_call (pc := 147) [iv ((0 : Nat) : Int)] hsc rfl hF1 J2.2.2.2.1 (game_ok hn hN J2.2.1 (by decide) cg ⟨w10, by rw [← eln]; exact l100⟩ J2.2.2.1 eln (fun i _ => by rw [eT, Nat.zero_add]) (by have := J2.2.2.2.1.next; have := J2.2.2.2.2; omega)) (fun v m' h => h.2.2.1) (fun E R hE hR r H => s_X10_game l sc E R hE hR hsc n N ((0 : Nat) : Int) ⟨by omega, by omega⟩ my2 r H) ca_L_55 rfl rfl rfl (Nat.le_of_ble_eq_true rfl) (cat_8 (Nat.le_of_ble_eq_true rfl)) (by omega) (by omega) dL_comesBack_147 (fun x3 mx3 my3 hx3 Q3 T3 f3 => ?_)
    obtain ⟨Q3, X3, G3, n3⟩ := Q3
    have J3c : ∀ {γ3 : Nat → Nat}, CI γ3 my3 → JS γ γ3 0 t0 (B + 400) mx3 my3 := fun C => J2.y C (X3 _) (by omega) T3 f3
    refine aw_istore (pc := 150) [(7, iv x3), (6, iv S), (5, iv D0), (4, .ref u), (3, iv (ln : Int)), (0, .ref 1), (1, iv (a : Int)), (2, .ref 201)] dL_comesBack_150 rfl (by decide) ?_
    refine aw_iload (pc := 152) dL_comesBack_152 rfl ?_
    cases es : scanF 0 (wd (γ a)) with
    | some i =>
      rw [es] at Q3 hS
      obtain ⟨e3, C3⟩ := Q3
      have hS : S = (i : Int) := hS
      refine lx_if_lt_f (pc := 154) 173 ⟨by omega, by omega⟩ dL_comesBack_154 rfl (by omega) ?_
      refine aw_iload (pc := 157) dL_comesBack_157 rfl ?_
      refine cx_bipush (pc := 159) dL_comesBack_159 (by decide) ?_
      refine aw_iload (pc := 161) dL_comesBack_161 rfl ?_
      refine cx_isub (pc := 163) dL_comesBack_163 ?_
      refine AW.eqs (st' := [iv (-10 - S), iv x3]) (by first | (rw [w32_id (by omega) (by omega)]; done) | (rw [w32_id (by omega) (by omega)]; rfl)) ?_
      refine lx_icmp_ne_f (pc := 164) 171 ⟨by omega, by omega⟩ ⟨by omega, by omega⟩ dL_comesBack_164 rfl (by omega) ?_
      refine cx_iconst (pc := 167) dL_comesBack_167 ?_
      refine aw_goto (pc := 168) 172 dL_comesBack_168 rfl ?_
      exact aw_iret (pc := 172) rfl (by decide +kernel) (by omega) (by omega) dL_comesBack_172 ⟨rfl, f, γy, t0, mx3, my3, rfl, (J3c C3).le (by omega)⟩
    | none =>
      rw [es] at Q3 hS
      obtain ⟨e3, C3⟩ := Q3
      have hS : S = -1 := hS
      have J3 := J3c C3
      have gs : gset γy 0 (γ a) 0 = γ a := gset_at _ _ _
      obtain ⟨γ3, eγ3⟩ : ∃ γ3, γ3 = gset γy 0 (γ a) := ⟨_, rfl⟩
      rw [← eγ3] at gs J3
      refine lx_if_lt_t (pc := 154) 173 ⟨by omega, by omega⟩ dL_comesBack_154 rfl (by omega) ?_
      refine aw_iload (pc := 173) dL_comesBack_173 rfl ?_
      refine aw_aload_n (pc := 175) dL_comesBack_175 rfl ?_
      refine aw_iload_n (pc := 176) dL_comesBack_176 rfl ?_
      refine cx_iconst (pc := 177) dL_comesBack_177 ?_
      refine lx_call (pc := 178) [iv (a : Int), iv 0] J3.2.2.2.1 (ok_same (slot0_eq J3.1 ha)) (fun v m' h => by rw [h.2]; exact Grow.rf _) (fun E R hE hR r H => s_X10_slot l sc E R hE hR n (a : Int) 0 ⟨by omega, by omega⟩ ⟨by omega, by omega⟩ mx3 r H) ca_L_45 rfl rfl rfl (Nat.le_of_ble_eq_true rfl) (cat_8 (Nat.le_of_ble_eq_true rfl)) (by omega) (by omega) dL_comesBack_178 (fun x4 mx4 my4 hx4 Q4 T4 f4 => ?_)
      obtain ⟨e4, m4⟩ := Q4
      have J4 := J3.x (e := 0) (m4 ▸ J3.1) (by rw [m4]; omega) T4 f4
      refine lx_icmp_ne_f (pc := 181) 195 hx3 hx4 dL_comesBack_181 rfl (by omega) ?_
      refine aw_aload_n (pc := 184) dL_comesBack_184 rfl ?_
      refine cx_iconst (pc := 185) dL_comesBack_185 ?_
      refine cx_bipush (pc := 186) dL_comesBack_186 (by decide) ?_
      refine ly_call (pc := 188) [iv ((0 : Nat) : Int), iv 6] hsc rfl hF1 J4.2.2.2.1 (ok_same (slot6_eq J4.2.1 (by decide))) (fun v m' h => by rw [h.2]; exact Grow.rf _) (fun E R hE hR r H => s_X10_slot l sc E R hE hR n ((0 : Nat) : Int) 6 ⟨by omega, by omega⟩ ⟨by omega, by omega⟩ my4 r H) ca_L_45 rfl rfl rfl (Nat.le_of_ble_eq_true rfl) (cat_8 (Nat.le_of_ble_eq_true rfl)) (by omega) (by omega) dL_comesBack_188 (fun x5 mx5 my5 hx5 Q5 T5 f5 => ?_)
      obtain ⟨e5, m5⟩ := Q5
      have J5 := J4.y (e := 0) (m5 ▸ J4.2.1) (m5 ▸ J4.2.2.1) (by rw [m5]; omega) T5 f5
      rw [gs, ← eln] at e5
      refine aw_iload_n (pc := 191) dL_comesBack_191 rfl ?_
      refine lx_icmp_eq_t (pc := 192) 197 hx5 (inN (by omega)) dL_comesBack_192 rfl e5 ?_
      refine cx_iconst (pc := 197) dL_comesBack_197 ?_
      refine aw_istore (pc := 198) [(8, iv 0), (7, iv x3), (6, iv S), (5, iv D0), (4, .ref u), (3, iv (ln : Int)), (0, .ref 1), (1, iv (a : Int)), (2, .ref 201)] dL_comesBack_198 rfl (by decide) ?_
      have J5 := J5.le (B' := B + 400) (by omega)
      have end2 : ∀ (k : Nat) (mx1 my1 : Mem), JS γ γ3 0 t0 (B + 400) mx1 my1 → AW l D base sc RL yL_comesBack cL_comesBack 9 (some .boolean) 45 (4 * N + 1) (125 * N + 100) ad (E2 F mx my) (fun v hp' => v = some (iv 1) ∧ ∃ (f : Nat → Int) (γy' t' : Nat → Nat) (mx' my' : Mem), hp' = E2 (g_up F u (txt 100 f)) mx' my' ∧ JS γ γy' 0 t' (B + 3000) mx' my') (1 + (4 * N)) (100 + (125 * N)) (E2 (g_up F u (txt 100 f)) mx1 my1) 229 [(8, iv (k : Int)), (7, iv x3), (6, iv S), (5, iv D0), (4, .ref u), (3, iv (ln : Int)), (0, .ref 1), (1, iv (a : Int)), (2, .ref 201)] [] := by
        intro k mx5 my5 J5
        refine aw_aload_n (pc := 229) dL_comesBack_229 rfl ?_
        refine cx_iconst (pc := 230) dL_comesBack_230 ?_
        refine cx_iconst (pc := 231) dL_comesBack_231 ?_
        refine ly_call (pc := 232) [iv ((0 : Nat) : Int), iv 4] hsc rfl hF1 J5.2.2.2.1 (slot4_y hn J5.2.1 (by decide)) (fun v m' h => h.2.1.2.1) (fun E R hE hR r H => s_X10_slot l sc E R hE hR n ((0 : Nat) : Int) 4 ⟨by omega, by omega⟩ ⟨by omega, by omega⟩ my5 r H) ca_L_45 rfl rfl rfl (Nat.le_of_ble_eq_true rfl) (cat_8 (Nat.le_of_ble_eq_true rfl)) (by omega) (by omega) dL_comesBack_232 (fun x6 mx6 my6 hx6 Q6 T6 f6 => ?_)
        obtain ⟨e6, s6, t6⟩ := Q6
        have J6 := J5.y (t' := t0) s6.1 ⟨t6.trans J5.2.2.1.1, fun i hi => absurd hi (Nat.not_lt_zero _)⟩ s6.2.2 T6 f6
        rw [gs] at e6
        refine aw_aload_n (pc := 235) dL_comesBack_235 rfl ?_
        refine aw_iload_n (pc := 236) dL_comesBack_236 rfl ?_
        refine cx_iconst (pc := 237) dL_comesBack_237 ?_
        refine lx_call (pc := 238) [iv (a : Int), iv 4] J6.2.2.2.1 (slot4_ok hn J6.1 ha) (fun v m' h => h.2.2.1) (fun E R hE hR r H => s_X10_slot l sc E R hE hR n (a : Int) 4 ⟨by omega, by omega⟩ ⟨by omega, by omega⟩ mx6 r H) ca_L_45 rfl rfl rfl (Nat.le_of_ble_eq_true rfl) (cat_8 (Nat.le_of_ble_eq_true rfl)) (by omega) (by omega) dL_comesBack_238 (fun x7 mx7 my7 hx7 Q7 T7 f7 => ?_)
        obtain ⟨e7, s7⟩ := Q7
        have J7 := J6.x s7.1 s7.2.2 T7 f7
        refine lx_icmp_ne_f (pc := 241) 278 hx6 hx7 dL_comesBack_241 rfl (by omega) ?_
        refine aw_aload_n (pc := 244) dL_comesBack_244 rfl ?_
        refine cx_iconst (pc := 245) dL_comesBack_245 ?_
        refine cx_iconst (pc := 246) dL_comesBack_246 ?_
        refine ly_call (pc := 247) [iv ((0 : Nat) : Int), iv 1] hsc rfl hF1 J7.2.2.2.1 (ok_same (slot1_eq J7.2.1 (by decide))) (fun v m' h => by rw [h.2]; exact Grow.rf _) (fun E R hE hR r H => s_X10_slot l sc E R hE hR n ((0 : Nat) : Int) 1 ⟨by omega, by omega⟩ ⟨by omega, by omega⟩ my7 r H) ca_L_45 rfl rfl rfl (Nat.le_of_ble_eq_true rfl) (cat_8 (Nat.le_of_ble_eq_true rfl)) (by omega) (by omega) dL_comesBack_247 (fun x8 mx8 my8 hx8 Q8 T8 f8 => ?_)
        obtain ⟨e8, m8⟩ := Q8
        have J8 := J7.y (e := 0) (m8 ▸ J7.2.1) (m8 ▸ J7.2.2.1) (by rw [m8]; omega) T8 f8
        rw [gs] at e8
        refine aw_aload_n (pc := 250) dL_comesBack_250 rfl ?_
        refine aw_iload_n (pc := 251) dL_comesBack_251 rfl ?_
        refine cx_iconst (pc := 252) dL_comesBack_252 ?_
        refine lx_call (pc := 253) [iv (a : Int), iv 1] J8.2.2.2.1 (ok_same (slot1_eq J8.1 ha)) (fun v m' h => by rw [h.2]; exact Grow.rf _) (fun E R hE hR r H => s_X10_slot l sc E R hE hR n (a : Int) 1 ⟨by omega, by omega⟩ ⟨by omega, by omega⟩ mx8 r H) ca_L_45 rfl rfl rfl (Nat.le_of_ble_eq_true rfl) (cat_8 (Nat.le_of_ble_eq_true rfl)) (by omega) (by omega) dL_comesBack_253 (fun x9 mx9 my9 hx9 Q9 T9 f9 => ?_)
        obtain ⟨e9, m9⟩ := Q9
        have J9 := J8.x (e := 0) (m9 ▸ J8.1) (by rw [m9]; omega) T9 f9
        refine lx_icmp_ne_f (pc := 256) 278 hx8 hx9 dL_comesBack_256 rfl (by omega) ?_
        refine aw_aload_n (pc := 259) dL_comesBack_259 rfl ?_
        refine cx_iconst (pc := 260) dL_comesBack_260 ?_
        refine cx_iconst (pc := 261) dL_comesBack_261 ?_
        refine ly_call (pc := 262) [iv ((0 : Nat) : Int), iv 2] hsc rfl hF1 J9.2.2.2.1 (ok_same (slot2_ok J9.2.1 (by decide))) (fun v m' h => by rw [h.2]; exact Grow.rf _) (fun E R hE hR r H => s_X10_slot l sc E R hE hR n ((0 : Nat) : Int) 2 ⟨by omega, by omega⟩ ⟨by omega, by omega⟩ my9 r H) ca_L_45 rfl rfl rfl (Nat.le_of_ble_eq_true rfl) (cat_8 (Nat.le_of_ble_eq_true rfl)) (by omega) (by omega) dL_comesBack_262 (fun xa mxa mya hxa Qa Ta fa => ?_)
        obtain ⟨ea, ma⟩ := Qa
        have Ja := J9.y (e := 0) (ma ▸ J9.2.1) (ma ▸ J9.2.2.1) (by rw [ma]; omega) Ta fa
        rw [gs] at ea
        refine aw_aload_n (pc := 265) dL_comesBack_265 rfl ?_
        refine aw_iload_n (pc := 266) dL_comesBack_266 rfl ?_
        refine cx_iconst (pc := 267) dL_comesBack_267 ?_
        refine lx_call (pc := 268) [iv (a : Int), iv 2] Ja.2.2.2.1 (ok_same (slot2_ok Ja.1 ha)) (fun v m' h => by rw [h.2]; exact Grow.rf _) (fun E R hE hR r H => s_X10_slot l sc E R hE hR n (a : Int) 2 ⟨by omega, by omega⟩ ⟨by omega, by omega⟩ mxa r H) ca_L_45 rfl rfl rfl (Nat.le_of_ble_eq_true rfl) (cat_8 (Nat.le_of_ble_eq_true rfl)) (by omega) (by omega) dL_comesBack_268 (fun xb mxb myb hxb Qb Tb fb => ?_)
        obtain ⟨eb, mb⟩ := Qb
        have Jb := Ja.x (e := 0) (mb ▸ Ja.1) (by rw [mb]; omega) Tb fb
        refine lx_icmp_ne_f (pc := 271) 278 hxa hxb dL_comesBack_271 rfl (by omega) ?_
        refine cx_iconst (pc := 274) dL_comesBack_274 ?_
        refine aw_goto (pc := 275) 279 dL_comesBack_275 rfl ?_
        exact aw_iret (pc := 279) rfl (by decide +kernel) (by omega) (by omega) dL_comesBack_279 ⟨rfl, f, γ3, t0, mxb, myb, rfl, Jb.le (by omega)⟩
      have loop2 : ∀ (j k : Nat) (mx1 my1 : Mem), k + j = ln → JS γ γ3 0 t0 (B + 400) mx1 my1 → AW l D base sc RL yL_comesBack cL_comesBack 9 (some .boolean) 45 (4 * N + 1) (125 * N + 100) ad (E2 F mx my) (fun v hp' => v = some (iv 1) ∧ ∃ (f : Nat → Int) (γy' t' : Nat → Nat) (mx' my' : Mem), hp' = E2 (g_up F u (txt 100 f)) mx' my' ∧ JS γ γy' 0 t' (B + 3000) mx' my') (1 + (4 * N)) (100 + (125 * N)) (E2 (g_up F u (txt 100 f)) mx1 my1) 200 [(8, iv (k : Int)), (7, iv x3), (6, iv S), (5, iv D0), (4, .ref u), (3, iv (ln : Int)), (0, .ref 1), (1, iv (a : Int)), (2, .ref 201)] [] := by
        intro j
        induction j with
        | zero =>
          intro k mx5 my5 hk J5
          refine aw_iload (pc := 200) dL_comesBack_200 rfl ?_
          refine aw_iload_n (pc := 202) dL_comesBack_202 rfl ?_
          refine lx_icmp_ge_t (pc := 203) 229 ⟨by omega, by omega⟩ ⟨by omega, by omega⟩ dL_comesBack_203 rfl (by omega) ?_
          exact end2 k mx5 my5 J5
        | succ j ij =>
          intro k mx5 my5 hk J5
          refine aw_iload (pc := 200) dL_comesBack_200 rfl ?_
          refine aw_iload_n (pc := 202) dL_comesBack_202 rfl ?_
          refine lx_icmp_ge_f (pc := 203) 229 ⟨by omega, by omega⟩ ⟨by omega, by omega⟩ dL_comesBack_203 rfl (by omega) ?_
          refine aw_aload_n (pc := 206) dL_comesBack_206 rfl ?_
          refine cx_iconst (pc := 207) dL_comesBack_207 ?_
          refine aw_iload (pc := 208) dL_comesBack_208 rfl ?_
          refine ly_call (pc := 210) [iv ((0 : Nat) : Int), iv (k : Int)] hsc rfl hF1 J5.2.2.2.1 (ok_same (word_eq J5.2.1 (by decide) (by rw [gs]; omega))) (fun v m' h => by rw [h.2]; exact Grow.rf _) (fun E R hE hR r H => s_X10_word l sc E R hE hR n ((0 : Nat) : Int) (k : Int) ⟨by omega, by omega⟩ ⟨by omega, by omega⟩ my5 r H) ca_L_48 rfl rfl rfl (Nat.le_of_ble_eq_true rfl) (cat_8 (Nat.le_of_ble_eq_true rfl)) (by omega) (by omega) dL_comesBack_210 (fun x6 mx6 my6 hx6 Q6 T6 f6 => ?_)
          obtain ⟨e6, m6⟩ := Q6
          have J6 := J5.y (e := 0) (m6 ▸ J5.2.1) (m6 ▸ J5.2.2.1) (by rw [m6]; omega) T6 f6
          have e6 : x6 = (T k : Int) := by rw [e6, gs, eT]
          refine aw_aload (pc := 213) dL_comesBack_213 rfl ?_
          refine aw_iload (pc := 215) dL_comesBack_215 rfl ?_
          refine lx_ald (pc := 217) ((E2_F (by omega) (by omega) (by omega)).trans (g_up_self _ _ _)) (by omega) (inN (by omega)) dL_comesBack_217 ?_
          refine AW.eqs (st' := [iv x6, iv x6]) (by first | (rw [hf k (by omega), ← e6]; done) | (rw [hf k (by omega), ← e6]; rfl)) ?_
          refine lx_icmp_eq_t (pc := 218) 223 hx6 hx6 dL_comesBack_218 rfl rfl ?_
          refine cx_iinc (pc := 223) [(8, iv (w32 ((k : Int) + 1))), (7, iv x3), (6, iv S), (5, iv D0), (4, .ref u), (3, iv (ln : Int)), (0, .ref 1), (1, iv (a : Int)), (2, .ref 201)] dL_comesBack_223 rfl rfl (by decide) ?_
          refine AW.eqL (L' := [(8, iv ((k + 1 : Nat) : Int)), (7, iv x3), (6, iv S), (5, iv D0), (4, .ref u), (3, iv (ln : Int)), (0, .ref 1), (1, iv (a : Int)), (2, .ref 201)]) (by first | (rw [w32_n (k := k + 1) (by omega) (by omega)]; done) | (rw [w32_n (k := k + 1) (by omega) (by omega)]; rfl)) ?_
          refine aw_goto (pc := 226) 200 dL_comesBack_226 rfl ?_
          exact ij (k + 1) mx6 my6 (by omega) J6
      exact loop2 ln 0 mx5 my5 (by omega) J5
  have loop : ∀ (j k : Nat) (S D0 : Int) (f : Nat → Int) (mx1 my1 : Mem), k + j = ln → D0 = depI 0 ((wd (γ a)).take k) → S = fI (scanI 0 ((wd (γ a)).take k)) → (∀ i, i < k → f i = (T i : Int)) → JS γ γy 0 t0 B mx1 my1 → AW l D base sc RL yL_comesBack cL_comesBack 9 (some .boolean) 45 (4 * N + 1) (125 * N + 100) ad (E2 F mx my) (fun v hp' => v = some (iv 1) ∧ ∃ (f : Nat → Int) (γy' t' : Nat → Nat) (mx' my' : Mem), hp' = E2 (g_up F u (txt 100 f)) mx' my' ∧ JS γ γy' 0 t' (B + 3000) mx' my') 1 100 (E2 (g_up F u (txt 100 f)) mx1 my1) 23 [(7, iv (k : Int)), (6, iv S), (5, iv D0), (4, .ref u), (3, iv (ln : Int)), (0, .ref 1), (1, iv (a : Int)), (2, .ref 201)] [] := by
    intro j
    induction j with
    | zero =>
      intro k S D0 f mx1 my1 hk hD hS hf J1
      have hk : k = ln := by omega
      subst hk
      refine aw_iload (pc := 23) dL_comesBack_23 rfl ?_
      refine aw_iload_n (pc := 25) dL_comesBack_25 rfl ?_
      refine lx_icmp_ge_t (pc := 26) 133 ⟨by omega, by omega⟩ ⟨by omega, by omega⟩ dL_comesBack_26 rfl (by omega) ?_
      exact last f mx1 my1 hf J1 S D0 (by rw [hS, eln, List.take_length])
    | succ j ij =>
      intro k S D0 f mx1 my1 hk hD hS hf J1
      have kl : k < (wd (γ a)).length := by omega
      have dk := depI_bd ((wd (γ a)).take k) 0
      rw [List.length_take, ← hD] at dk
      have sk := fI_bd (w := wd (γ a)) (k := k) (by omega)
      rw [← hS] at sk
      have d1 := dep_step kl
      rw [← hD] at d1
      have s1 := scan_step kl
      rw [← hD, ← hS] at s1
      obtain ⟨c, ec⟩ : ∃ c, c = (wd (γ a)).getD k 0 := ⟨_, rfl⟩
      rw [← ec] at d1 s1
      have Tk : T k = c := by rw [eT, ec]
      have c128 : c < 128 := by rw [← Tk]; exact T128 k
      have sd := stepI_bd D0 c
      refine aw_iload (pc := 23) dL_comesBack_23 rfl ?_
      refine aw_iload_n (pc := 25) dL_comesBack_25 rfl ?_
      refine lx_icmp_ge_f (pc := 26) 133 ⟨by omega, by omega⟩ ⟨by omega, by omega⟩ dL_comesBack_26 rfl (by omega) ?_
      refine aw_aload (pc := 29) dL_comesBack_29 rfl ?_
      refine aw_iload (pc := 31) dL_comesBack_31 rfl ?_
      refine aw_aload_n (pc := 33) dL_comesBack_33 rfl ?_
      refine aw_iload_n (pc := 34) dL_comesBack_34 rfl ?_
      refine aw_iload (pc := 35) dL_comesBack_35 rfl ?_
      refine lx_call (pc := 37) [iv (a : Int), iv (k : Int)] J1.2.2.2.1 (ok_same (word_eq J1.1 ha kl)) (fun v m' h => by rw [h.2]; exact Grow.rf _) (fun E R hE hR r H => s_X10_word l sc E R hE hR n (a : Int) (k : Int) ⟨by omega, by omega⟩ ⟨by omega, by omega⟩ mx1 r H) ca_L_48 rfl rfl rfl (Nat.le_of_ble_eq_true rfl) (by first | exact cat_8 (Nat.le_of_ble_eq_true rfl) | decide) (by omega) (by omega) dL_comesBack_37 (fun x6 mx6 my6 hx6 Q6 T6 f6 => ?_)
      obtain ⟨e6, m6⟩ := Q6
      have J6 := J1.x (e := 0) (m6 ▸ J1.1) (by rw [m6]; omega) T6 f6
      have e6 : x6 = (c : Int) := by rw [e6, ec]
      subst e6
      refine lx_ast (pc := 40) ((E2_F (by omega) (by omega) (by omega)).trans (g_up_self _ _ _)) (by omega) (inN (by omega)) dL_comesBack_40 ?_
      obtain ⟨f1, ef1⟩ : ∃ f1 : Nat → Int, f1 = fun i => if i = k then (c : Int) else f i := ⟨_, rfl⟩
      rw [← ef1]
      have fk : f1 k = (c : Int) := by rw [ef1]; exact if_pos rfl
      have hf1 : ∀ i, i < k + 1 → f1 i = (T i : Int) := fun i hi => by
        rw [ef1]
        by_cases q : i = k
        · show (if i = k then (c : Int) else f i) = _; rw [if_pos q, q, Tk]
        · show (if i = k then (c : Int) else f i) = _; rw [if_neg q]; exact hf i (by omega)
      refine AW.eqh (hp' := E2 (g_up F u (txt 100 f1)) mx6 my6) (by rw [E2_up hu, g_up_up]) ?_
      have h124 : ∀ (O S1 E : Int), E = stepI D0 c - D0 → S1 = fI (scanI 0 ((wd (γ a)).take (k + 1))) → AW l D base sc RL yL_comesBack cL_comesBack 9 (some .boolean) 45 (4 * N + 1) (125 * N + 100) ad (E2 F mx my) (fun v hp' => v = some (iv 1) ∧ ∃ (f : Nat → Int) (γy' t' : Nat → Nat) (mx' my' : Mem), hp' = E2 (g_up F u (txt 100 f)) mx' my' ∧ JS γ γy' 0 t' (B + 3000) mx' my') 1 100 (E2 (g_up F u (txt 100 f1)) mx6 my6) 124 [(6, iv S1), (8, iv O), (7, iv (k : Int)), (5, iv D0), (4, .ref u), (3, iv (ln : Int)), (0, .ref 1), (1, iv (a : Int)), (2, .ref 201)] [iv E, iv D0] := by
        intro O S1 E hE hS1
        refine cx_iadd (pc := 124) dL_comesBack_124 ?_
        refine AW.eqs (st' := [iv (stepI D0 c)]) (by first | (rw [hE, show D0 + (stepI D0 c - D0) = stepI D0 c by omega, w32_id (x := stepI D0 c) (by omega) (by omega)]; done) | (rw [hE, show D0 + (stepI D0 c - D0) = stepI D0 c by omega, w32_id (x := stepI D0 c) (by omega) (by omega)]; rfl)) ?_
        refine aw_istore (pc := 125) [(5, iv (stepI D0 c)), (6, iv S1), (8, iv O), (7, iv (k : Int)), (4, .ref u), (3, iv (ln : Int)), (0, .ref 1), (1, iv (a : Int)), (2, .ref 201)] dL_comesBack_125 rfl (by decide) ?_
        refine cx_iinc (pc := 127) [(7, iv (w32 ((k : Int) + 1))), (5, iv (stepI D0 c)), (6, iv S1), (8, iv O), (4, .ref u), (3, iv (ln : Int)), (0, .ref 1), (1, iv (a : Int)), (2, .ref 201)] dL_comesBack_127 rfl rfl (by decide) ?_
        refine AW.eqL (L' := [(7, iv ((k + 1 : Nat) : Int)), (5, iv (stepI D0 c)), (6, iv S1), (8, iv O), (4, .ref u), (3, iv (ln : Int)), (0, .ref 1), (1, iv (a : Int)), (2, .ref 201)]) (by first | (rw [w32_n (k := k + 1) (by omega) (by omega)]; done) | (rw [w32_n (k := k + 1) (by omega) (by omega)]; rfl)) ?_
        refine aw_goto (pc := 130) 23 dL_comesBack_130 rfl ?_
        refine AW.sel [0, 2, 1, 4, 5, 6, 7, 8] (L' := [(7, iv ((k + 1 : Nat) : Int)), (6, iv S1), (5, iv (stepI D0 c)), (4, .ref u), (3, iv (ln : Int)), (0, .ref 1), (1, iv (a : Int)), (2, .ref 201)]) rfl ?_
        exact ij (k + 1) S1 (stepI D0 c) f1 mx6 my6 (by omega) d1.symm hS1 hf1 J6
      have h91 : ∀ (O S1 : Int), S1 = fI (scanI 0 ((wd (γ a)).take (k + 1))) → AW l D base sc RL yL_comesBack cL_comesBack 9 (some .boolean) 45 (4 * N + 1) (125 * N + 100) ad (E2 F mx my) (fun v hp' => v = some (iv 1) ∧ ∃ (f : Nat → Int) (γy' t' : Nat → Nat) (mx' my' : Mem), hp' = E2 (g_up F u (txt 100 f)) mx' my' ∧ JS γ γy' 0 t' (B + 3000) mx' my') 1 100 (E2 (g_up F u (txt 100 f1)) mx6 my6) 91 [(8, iv O), (7, iv (k : Int)), (6, iv S), (5, iv D0), (4, .ref u), (3, iv (ln : Int)), (0, .ref 1), (1, iv (a : Int)), (2, .ref 201)] [iv S1] := by
        intro O S1 hS1
        refine aw_istore (pc := 91) [(6, iv S1), (8, iv O), (7, iv (k : Int)), (5, iv D0), (4, .ref u), (3, iv (ln : Int)), (0, .ref 1), (1, iv (a : Int)), (2, .ref 201)] dL_comesBack_91 rfl (by decide) ?_
        refine aw_iload (pc := 93) dL_comesBack_93 rfl ?_
        refine aw_aload (pc := 95) dL_comesBack_95 rfl ?_
        refine aw_iload (pc := 97) dL_comesBack_97 rfl ?_
        refine lx_ald (pc := 99) ((E2_F (by omega) (by omega) (by omega)).trans (g_up_self _ _ _)) (by omega) (inN (by omega)) dL_comesBack_99 ?_
        refine AW.eqs (st' := [iv (c : Int), iv D0]) (by first | (rw [fk]; done) | (rw [fk]; rfl)) ?_
        refine cx_bipush (pc := 100) dL_comesBack_100 (by decide) ?_
        refine lx_icmp_ne (pc := 102) 109 ⟨by omega, by omega⟩ ⟨by omega, by omega⟩ dL_comesBack_102 rfl (fun hb => ?_) (fun hb => ?_)
        · skip
          refine aw_aload (pc := 109) dL_comesBack_109 rfl ?_
          refine aw_iload (pc := 111) dL_comesBack_111 rfl ?_
          refine lx_ald (pc := 113) ((E2_F (by omega) (by omega) (by omega)).trans (g_up_self _ _ _)) (by omega) (inN (by omega)) dL_comesBack_113 ?_
          refine AW.eqs (st' := [iv (c : Int), iv D0]) (by first | (rw [fk]; done) | (rw [fk]; rfl)) ?_
          refine cx_bipush (pc := 114) dL_comesBack_114 (by decide) ?_
          refine lx_icmp_ne (pc := 116) 123 ⟨by omega, by omega⟩ ⟨by omega, by omega⟩ dL_comesBack_116 rfl (fun hb => ?_) (fun hb => ?_)
          · skip
            refine cx_iconst (pc := 123) dL_comesBack_123 ?_
            exact h124 O S1 0 (by unfold stepI; rw [if_neg (by omega), if_neg (by omega)]; omega) hS1
          · skip
            refine cx_iconst (pc := 119) dL_comesBack_119 ?_
            refine aw_goto (pc := 120) 124 dL_comesBack_120 rfl ?_
            exact h124 O S1 (-1) (by unfold stepI; rw [if_neg (by omega), if_pos (by omega)]; omega) hS1
        · skip
          refine cx_iconst (pc := 105) dL_comesBack_105 ?_
          refine aw_goto (pc := 106) 124 dL_comesBack_106 rfl ?_
          exact h124 O S1 1 (by unfold stepI; rw [if_pos (by omega)]; omega) hS1
      have h66 : ∀ O : Int, ((O = 1 ∧ (c = 123 ∨ c = 45)) ∨ (O = 0 ∧ ¬ (c = 123 ∨ c = 45))) → AW l D base sc RL yL_comesBack cL_comesBack 9 (some .boolean) 45 (4 * N + 1) (125 * N + 100) ad (E2 F mx my) (fun v hp' => v = some (iv 1) ∧ ∃ (f : Nat → Int) (γy' t' : Nat → Nat) (mx' my' : Mem), hp' = E2 (g_up F u (txt 100 f)) mx' my' ∧ JS γ γy' 0 t' (B + 3000) mx' my') 1 100 (E2 (g_up F u (txt 100 f1)) mx6 my6) 66 [(7, iv (k : Int)), (6, iv S), (5, iv D0), (4, .ref u), (3, iv (ln : Int)), (0, .ref 1), (1, iv (a : Int)), (2, .ref 201)] [iv O] := by
        intro O hO
        have sN : ¬ (((c = 123 ∨ c = 45) ∧ D0 = 5) ∧ S < 0) → S = fI (scanI 0 ((wd (γ a)).take (k + 1))) := fun q => by rw [s1, if_neg q]
        refine aw_istore (pc := 66) [(8, iv O), (7, iv (k : Int)), (6, iv S), (5, iv D0), (4, .ref u), (3, iv (ln : Int)), (0, .ref 1), (1, iv (a : Int)), (2, .ref 201)] dL_comesBack_66 rfl (by decide) ?_
        refine aw_iload (pc := 68) dL_comesBack_68 rfl ?_
        refine lx_if_eq (pc := 70) 89 ⟨by omega, by omega⟩ dL_comesBack_70 rfl (fun h1 => ?_) (fun h1 => ?_)
        · skip
          refine aw_iload (pc := 89) dL_comesBack_89 rfl ?_
          exact h91 O S (sN (by omega))
        · skip
          refine aw_iload (pc := 73) dL_comesBack_73 rfl ?_
          refine cx_iconst (pc := 75) dL_comesBack_75 ?_
          refine lx_icmp_ne (pc := 76) 89 ⟨by omega, by omega⟩ ⟨by omega, by omega⟩ dL_comesBack_76 rfl (fun h2 => ?_) (fun h2 => ?_)
          · skip
            refine aw_iload (pc := 89) dL_comesBack_89 rfl ?_
            exact h91 O S (sN (by omega))
          · skip
            refine aw_iload (pc := 79) dL_comesBack_79 rfl ?_
            refine lx_if_ge (pc := 81) 89 ⟨by omega, by omega⟩ dL_comesBack_81 rfl (fun h3 => ?_) (fun h3 => ?_)
            · skip
              refine aw_iload (pc := 89) dL_comesBack_89 rfl ?_
              exact h91 O S (sN (by omega))
            · skip
              refine aw_iload (pc := 84) dL_comesBack_84 rfl ?_
              refine aw_goto (pc := 86) 91 dL_comesBack_86 rfl ?_
              exact h91 O (k : Int) (by rw [s1, if_pos ⟨⟨by omega, by omega⟩, by omega⟩])
      refine aw_aload (pc := 41) dL_comesBack_41 rfl ?_
      refine aw_iload (pc := 43) dL_comesBack_43 rfl ?_
      refine lx_ald (pc := 45) ((E2_F (by omega) (by omega) (by omega)).trans (g_up_self _ _ _)) (by omega) (inN (by omega)) dL_comesBack_45 ?_
      refine AW.eqs (st' := [iv (c : Int)]) (by first | (rw [fk]; done) | (rw [fk]; rfl)) ?_
      refine cx_bipush (pc := 46) dL_comesBack_46 (by decide) ?_
      refine lx_icmp_eq (pc := 48) 61 ⟨by omega, by omega⟩ ⟨by omega, by omega⟩ dL_comesBack_48 rfl (fun hb => ?_) (fun hb => ?_)
      · skip
        refine cx_iconst (pc := 61) dL_comesBack_61 ?_
        refine aw_goto (pc := 62) 66 dL_comesBack_62 rfl ?_
        exact h66 1 (Or.inl ⟨rfl, Or.inl (by omega)⟩)
      · skip
        refine aw_aload (pc := 51) dL_comesBack_51 rfl ?_
        refine aw_iload (pc := 53) dL_comesBack_53 rfl ?_
        refine lx_ald (pc := 55) ((E2_F (by omega) (by omega) (by omega)).trans (g_up_self _ _ _)) (by omega) (inN (by omega)) dL_comesBack_55 ?_
        refine AW.eqs (st' := [iv (c : Int)]) (by first | (rw [fk]; done) | (rw [fk]; rfl)) ?_
        refine cx_bipush (pc := 56) dL_comesBack_56 (by decide) ?_
        refine lx_icmp_ne (pc := 58) 65 ⟨by omega, by omega⟩ ⟨by omega, by omega⟩ dL_comesBack_58 rfl (fun hb => ?_) (fun hb => ?_)
        · skip
          refine cx_iconst (pc := 65) dL_comesBack_65 ?_
          exact h66 0 (Or.inr ⟨rfl, by omega⟩)
        · skip
          refine cx_iconst (pc := 61) dL_comesBack_61 ?_
          refine aw_goto (pc := 62) 66 dL_comesBack_62 rfl ?_
          exact h66 1 (Or.inl ⟨rfl, Or.inr (by omega)⟩)
  refine aw_aload_n (pc := 0) dL_comesBack_0 rfl ?_
  refine aw_iload_n (pc := 1) dL_comesBack_1 rfl ?_
  refine cx_bipush (pc := 2) dL_comesBack_2 (by decide) ?_
  refine lx_call (pc := 4) [iv (a : Int), iv 6] J.2.2.2.1 (ok_same (slot6_eq J.1 ha)) (fun v m' h => by rw [h.2]; exact Grow.rf _) (fun E R hE hR r H => s_X10_slot l sc E R hE hR n (a : Int) 6 ⟨by omega, by omega⟩ ⟨by omega, by omega⟩ mx r H) ca_L_45 rfl rfl rfl (Nat.le_of_ble_eq_true rfl) (cat_8 (Nat.le_of_ble_eq_true rfl)) (by omega) (by omega) dL_comesBack_4 (fun x1 mx1 my1 hx1 Q1 T1 f1 => ?_)
  obtain ⟨e1, m1⟩ := Q1
  have J1 := J.x (e := 0) (m1 ▸ J.1) (by rw [m1]; omega) T1 f1
  rw [← eln] at e1
  subst e1
  refine aw_istore_n (pc := 7) [(3, iv (ln : Int)), (0, .ref 1), (1, iv (a : Int)), (2, .ref 201)] dL_comesBack_7 rfl (by decide) ?_
  refine cx_bipush (pc := 8) dL_comesBack_8 (by decide) ?_
  refine aw_newI (pc := 10) u (N' := 100) ((E2_F (by omega) (by omega) (by omega)).trans hFu) (by rw [hsc]; omega) ac_int (by decide) (by decide) (by decide) (by omega) (by omega) dL_comesBack_10 ?_
  refine AW.eqh (hp' := E2 (g_up F u (txt 100 (fun _ => 0))) mx1 my1) (by rw [E2_up hu]; rfl) ?_
  refine aw_astore (pc := 12) [(4, .ref u), (3, iv (ln : Int)), (0, .ref 1), (1, iv (a : Int)), (2, .ref 201)] dL_comesBack_12 rfl (by decide) ?_
  refine cx_iconst (pc := 14) dL_comesBack_14 ?_
  refine aw_istore (pc := 15) [(5, iv 0), (4, .ref u), (3, iv (ln : Int)), (0, .ref 1), (1, iv (a : Int)), (2, .ref 201)] dL_comesBack_15 rfl (by decide) ?_
  refine cx_iconst (pc := 17) dL_comesBack_17 ?_
  refine aw_istore (pc := 18) [(6, iv (-1)), (5, iv 0), (4, .ref u), (3, iv (ln : Int)), (0, .ref 1), (1, iv (a : Int)), (2, .ref 201)] dL_comesBack_18 rfl (by decide) ?_
  refine cx_iconst (pc := 20) dL_comesBack_20 ?_
  refine aw_istore (pc := 21) [(7, iv 0), (6, iv (-1)), (5, iv 0), (4, .ref u), (3, iv (ln : Int)), (0, .ref 1), (1, iv (a : Int)), (2, .ref 201)] dL_comesBack_21 rfl (by decide) ?_
  exact loop ln 0 (-1) 0 (fun _ => 0) mx1 my1 (by omega) rfl rfl (fun i hi => absurd hi (Nat.not_lt_zero _)) J1
