/-! THE LAW: feeds -/
theorem w32_n {x : Int} {k : Nat} (h : x = (k : Int)) (hk : k < 2147483648) : w32 x = (k : Int) := by rw [h]; exact w32_id (by omega) (by omega)
set_option maxRecDepth 100000 in
set_option maxHeartbeats 4000000 in
theorem s_L_feeds (l : Launch) (sc : g_S) (hsc : sc.1 = 0) {n : Nat} (hn : 300 < n) {γ γy t : Nat → Nat} {B q N : Nat} {f : Nat → Int} {F : g_H} {mx my : Mem} (hq : 58 ≤ q ∧ q < 200) (hF : rnh swp F = F) (hFq : F q = some (txt 100 f)) (hN : N ≤ 100) (h128 : ∀ i, t i < 128) (ft : ∀ i, i < N → f i = (t i : Int)) (J : JS γ γy 0 t B mx my) : AMet l sc yL_feeds cL_feeds 9 (some .boolean) 3 0 0 [.ref 201, .ref q, iv (N : Int)] (E2 F mx my) (fun v hp' => v = some (iv 1) ∧ ∃ mx' my', hp' = E2 F mx' my' ∧ JS γ γy N t B mx' my') := by
  refine AMet.of (own := RL) (by decide +kernel) rfl (Nat.le_of_ble_eq_true rfl) [(0, .ref 201), (1, .ref q), (2, iv (N : Int))] rfl (fun D base ad => ?_)
  have loop : ∀ (r k a : Nat) (mx1 my1 : Mem), N ≤ k + 8 * r → k ≤ N + 8 → a = min k N → JS γ γy a t B mx1 my1 → AW l D base sc RL yL_feeds cL_feeds 9 (some .boolean) 3 0 0 ad (E2 F mx my) (fun v hp' => v = some (iv 1) ∧ ∃ mx' my', hp' = E2 F mx' my' ∧ JS γ γy N t B mx' my') 0 0 (E2 F mx1 my1) 5 [(4, iv (k : Int)), (3, iv (a : Int)), (0, .ref 201), (1, .ref q), (2, iv (N : Int))] [] := by
    have fin : ∀ (k a : Nat) (mx1 my1 : Mem), N ≤ k → k ≤ N + 8 → a = min k N → JS γ γy a t B mx1 my1 → AW l D base sc RL yL_feeds cL_feeds 9 (some .boolean) 3 0 0 ad (E2 F mx my) (fun v hp' => v = some (iv 1) ∧ ∃ mx' my', hp' = E2 F mx' my' ∧ JS γ γy N t B mx' my') 0 0 (E2 F mx1 my1) 5 [(4, iv (k : Int)), (3, iv (a : Int)), (0, .ref 201), (1, .ref q), (2, iv (N : Int))] [] := by
      intro k a mx1 my1 h1 h2 h3 J1
      have h3 : a = N := by omega
      subst h3
      refine aw_iload (pc := 5) dL_feeds_5 rfl ?_
      refine aw_iload_n (pc := 7) dL_feeds_7 rfl ?_
      refine lx_icmp_ge_t (pc := 8) 94 ⟨by omega, by omega⟩ ⟨by omega, by omega⟩ dL_feeds_8 rfl (by omega) ?_
      refine cx_iconst (pc := 94) dL_feeds_94 ?_
      exact aw_iret (pc := 95) rfl (by decide +kernel) (Nat.le_of_ble_eq_true rfl) (Nat.le_of_ble_eq_true rfl) dL_feeds_95 ⟨rfl, mx1, my1, rfl, J1⟩
    intro r
    induction r with
    | zero =>
      intro k a mx1 my1 h1 h2 h3 J1
      exact fin k a mx1 my1 (by omega) h2 h3 J1
    | succ r ih =>
      intro k a mx1 my1 h1 h2 h3 J1
      by_cases hk : N ≤ k
      · exact fin k a mx1 my1 hk h2 h3 J1
      have h3 : a = k := by omega
      subst h3
      obtain ⟨M, eM⟩ : ∃ M, M = min 8 (N - a) := ⟨_, rfl⟩
      have p8 : ∀ i, t (a + i) < 128 := fun i => h128 _
      have done : AW l D base sc RL yL_feeds cL_feeds 9 (some .boolean) 3 0 0 ad (E2 F mx my) (fun v hp' => v = some (iv 1) ∧ ∃ mx' my', hp' = E2 F mx' my' ∧ JS γ γy N t B mx' my') 0 0 (E2 F mx1 my1) 69 [(8, iv (M : Int)), (6, jv (pk8 (fun j => t (a + j)) M)), (5, iv (M : Int)), (4, iv (a : Int)), (3, iv (a : Int)), (0, .ref 201), (1, .ref q), (2, iv (N : Int))] [] := by
        refine aw_iload_n (pc := 69) dL_feeds_69 rfl ?_
        refine aw_iload (pc := 70) dL_feeds_70 rfl ?_
        refine cx_iadd (pc := 72) dL_feeds_72 ?_
        refine AW.eqs (st' := [iv ((a + M : Nat) : Int)]) (by rw [w32_n (k := a + M) (by omega) (by omega)]) ?_
        refine aw_istore_n (pc := 73) [(3, iv ((a + M : Nat) : Int)), (8, iv (M : Int)), (6, jv (pk8 (fun j => t (a + j)) M)), (5, iv (M : Int)), (4, iv (a : Int)), (0, .ref 201), (1, .ref q), (2, iv (N : Int))] dL_feeds_73 rfl (by decide) ?_
        refine aw_aload_n (pc := 74) dL_feeds_74 rfl ?_
        refine aw_lload (pc := 75) dL_feeds_75 rfl ?_
        refine aw_iload (pc := 77) dL_feeds_77 rfl ?_
        refine ly_call (pc := 79) [jv (pk8 (fun j => t (a + j)) M), iv (M : Int)] hsc rfl hF J1.2.2.2.1 (feed_ok hn J1.2.1 J1.2.2.1 (by omega) (by omega) (pk8_top p8 M (by omega) (by omega)) (fun i hi => ⟨pk8_byte p8 M i hi, h128 _⟩)) (fun v m' h => h.2.2.2.1) (fun E R hE hR r H => s_X10_feed l sc E R hE hR n (pk8 (fun j => t (a + j)) M) (M : Int) ⟨by omega, by omega⟩ my1 r H) ca_L_9 rfl rfl rfl (Nat.le_of_ble_eq_true rfl) (cat_8 (Nat.le_of_ble_eq_true rfl)) (Nat.le_of_ble_eq_true rfl) (Nat.le_of_ble_eq_true rfl) dL_feeds_79 (fun x1 mx2 my2 hx Q1 T2 f2 => ?_)
        obtain ⟨rfl, X2, C2, G2, n2⟩ := Q1
        refine aw_iload_n (pc := 82) dL_feeds_82 rfl ?_
        refine lx_icmp_eq_t (pc := 83) 88 hx hx dL_feeds_83 rfl rfl ?_
        refine cx_iinc (pc := 88) [(4, iv (w32 ((a : Int) + 8))), (3, iv ((a + M : Nat) : Int)), (8, iv (M : Int)), (6, jv (pk8 (fun j => t (a + j)) M)), (5, iv (M : Int)), (0, .ref 201), (1, .ref q), (2, iv (N : Int))] dL_feeds_88 rfl rfl (by decide) ?_
        refine AW.eqL (L' := [(4, iv ((a + 8 : Nat) : Int)), (3, iv ((a + M : Nat) : Int)), (8, iv (M : Int)), (6, jv (pk8 (fun j => t (a + j)) M)), (5, iv (M : Int)), (0, .ref 201), (1, .ref q), (2, iv (N : Int))]) (by rw [w32_n (k := a + 8) (by omega) (by omega)]) ?_
        refine aw_goto (pc := 91) 5 dL_feeds_91 rfl ?_
        refine AW.sel [0, 1, 5, 6, 7] (L' := [(4, iv ((a + 8 : Nat) : Int)), (3, iv ((a + M : Nat) : Int)), (0, .ref 201), (1, .ref q), (2, iv (N : Int))]) rfl ?_
        have J2 := J1.y (e := 0) C2 X2 (by omega) T2 f2
        exact ih (a + 8) (a + M) mx2 my2 (by omega) (by omega) (by omega) J2
      have inner : ∀ (j i : Nat), i + j = M → AW l D base sc RL yL_feeds cL_feeds 9 (some .boolean) 3 0 0 ad (E2 F mx my) (fun v hp' => v = some (iv 1) ∧ ∃ mx' my', hp' = E2 F mx' my' ∧ JS γ γy N t B mx' my') 0 0 (E2 F mx1 my1) 37 [(8, iv (i : Int)), (6, jv (pk8 (fun j => t (a + j)) i)), (5, iv (M : Int)), (4, iv (a : Int)), (3, iv (a : Int)), (0, .ref 201), (1, .ref q), (2, iv (N : Int))] [] := by
        intro j
        induction j with
        | zero =>
          intro i hi
          have hi : i = M := by omega
          subst hi
          refine aw_iload (pc := 37) dL_feeds_37 rfl ?_
          refine aw_iload (pc := 39) dL_feeds_39 rfl ?_
          refine lx_icmp_ge_t (pc := 41) 69 ⟨by omega, by omega⟩ ⟨by omega, by omega⟩ dL_feeds_41 rfl (by omega) ?_
          exact done
        | succ j ij =>
          intro i hi
          refine aw_iload (pc := 37) dL_feeds_37 rfl ?_
          refine aw_iload (pc := 39) dL_feeds_39 rfl ?_
          refine lx_icmp_ge_f (pc := 41) 69 ⟨by omega, by omega⟩ ⟨by omega, by omega⟩ dL_feeds_41 rfl (by omega) ?_
          refine aw_lload (pc := 44) dL_feeds_44 rfl ?_
          refine aw_aload_n (pc := 46) dL_feeds_46 rfl ?_
          refine aw_iload (pc := 47) dL_feeds_47 rfl ?_
          refine aw_iload (pc := 49) dL_feeds_49 rfl ?_
          refine cx_iadd (pc := 51) dL_feeds_51 ?_
          refine AW.eqs (st' := [iv ((a + i : Nat) : Int), .ref q, jv (pk8 (fun j => t (a + j)) i)]) (by rw [w32_n (k := a + i) (by omega) (by omega)]) ?_
          refine lx_ald (pc := 52) ((E2_F (by omega) (by omega) (by omega)).trans hFq) (by omega) (inN (by omega)) dL_feeds_52 ?_
          refine AW.eqs (st' := [iv (t (a + i) : Int), jv (pk8 (fun j => t (a + j)) i)]) (by rw [ft (a + i) (by omega)]) ?_
          refine cx_i2l (pc := 53) dL_feeds_53 ?_
          refine cx_bipush (pc := 54) dL_feeds_54 (by decide) ?_
          refine aw_iload (pc := 56) dL_feeds_56 rfl ?_
          refine cx_imul (pc := 58) dL_feeds_58 ?_
          refine AW.eqs (st' := [iv ((8 * i : Nat) : Int), jv (i2j (t (a + i) : Int)), jv (pk8 (fun j => t (a + j)) i)]) (by rw [w32_n (k := 8 * i) (by omega) (by omega)]) ?_
          refine cx_lshl (pc := 59) dL_feeds_59 ?_
          refine cx_lor (pc := 60) dL_feeds_60 ?_
          refine AW.eqs (st' := [jv (pk8 (fun j => t (a + j)) (i + 1))]) (by rw [pk8_step p8 (by omega)]) ?_
          refine aw_lstore (pc := 61) [(6, jv (pk8 (fun j => t (a + j)) (i + 1))), (8, iv (i : Int)), (5, iv (M : Int)), (4, iv (a : Int)), (3, iv (a : Int)), (0, .ref 201), (1, .ref q), (2, iv (N : Int))] dL_feeds_61 rfl (by decide) ?_
          refine cx_iinc (pc := 63) [(8, iv (w32 ((i : Int) + 1))), (6, jv (pk8 (fun j => t (a + j)) (i + 1))), (5, iv (M : Int)), (4, iv (a : Int)), (3, iv (a : Int)), (0, .ref 201), (1, .ref q), (2, iv (N : Int))] dL_feeds_63 rfl rfl (by decide) ?_
          refine AW.eqL (L' := [(8, iv ((i + 1 : Nat) : Int)), (6, jv (pk8 (fun j => t (a + j)) (i + 1))), (5, iv (M : Int)), (4, iv (a : Int)), (3, iv (a : Int)), (0, .ref 201), (1, .ref q), (2, iv (N : Int))]) (by rw [w32_n (k := i + 1) (by omega) (by omega)]) ?_
          refine aw_goto (pc := 66) 37 dL_feeds_66 rfl ?_
          exact ij (i + 1) (by omega)
      have h29 : AW l D base sc RL yL_feeds cL_feeds 9 (some .boolean) 3 0 0 ad (E2 F mx my) (fun v hp' => v = some (iv 1) ∧ ∃ mx' my', hp' = E2 F mx' my' ∧ JS γ γy N t B mx' my') 0 0 (E2 F mx1 my1) 29 [(4, iv (a : Int)), (3, iv (a : Int)), (0, .ref 201), (1, .ref q), (2, iv (N : Int))] [iv (M : Int)] := by
        refine aw_istore (pc := 29) [(5, iv (M : Int)), (4, iv (a : Int)), (3, iv (a : Int)), (0, .ref 201), (1, .ref q), (2, iv (N : Int))] dL_feeds_29 rfl (by decide) ?_
        refine cx_lconst (pc := 31) dL_feeds_31 ?_
        refine aw_lstore (pc := 32) [(6, jv 0), (5, iv (M : Int)), (4, iv (a : Int)), (3, iv (a : Int)), (0, .ref 201), (1, .ref q), (2, iv (N : Int))] dL_feeds_32 rfl (by decide) ?_
        refine cx_iconst (pc := 34) dL_feeds_34 ?_
        refine aw_istore (pc := 35) [(8, iv 0), (6, jv 0), (5, iv (M : Int)), (4, iv (a : Int)), (3, iv (a : Int)), (0, .ref 201), (1, .ref q), (2, iv (N : Int))] dL_feeds_35 rfl (by decide) ?_
        exact inner M 0 (by omega)
      refine aw_iload (pc := 5) dL_feeds_5 rfl ?_
      refine aw_iload_n (pc := 7) dL_feeds_7 rfl ?_
      refine lx_icmp_ge_f (pc := 8) 94 ⟨by omega, by omega⟩ ⟨by omega, by omega⟩ dL_feeds_8 rfl (by omega) ?_
      refine aw_iload_n (pc := 11) dL_feeds_11 rfl ?_
      refine aw_iload (pc := 12) dL_feeds_12 rfl ?_
      refine cx_isub (pc := 14) dL_feeds_14 ?_
      refine AW.eqs (st' := [iv ((N - a : Nat) : Int)]) (by rw [w32_n (k := N - a) (by omega) (by omega)]) ?_
      refine cx_bipush (pc := 15) dL_feeds_15 (by decide) ?_
      refine lx_icmp_ge (pc := 17) 27 ⟨by omega, by omega⟩ ⟨by omega, by omega⟩ dL_feeds_17 rfl (fun hb => ?_) (fun hb => ?_)
      · skip
        refine cx_bipush (pc := 27) dL_feeds_27 (by decide) ?_
        have eM : M = 8 := by omega
        rw [eM] at h29
        exact h29
      · skip
        refine aw_iload_n (pc := 20) dL_feeds_20 rfl ?_
        refine aw_iload (pc := 21) dL_feeds_21 rfl ?_
        refine cx_isub (pc := 23) dL_feeds_23 ?_
        refine AW.eqs (st' := [iv ((N - a : Nat) : Int)]) (by rw [w32_n (k := N - a) (by omega) (by omega)]) ?_
        refine aw_goto (pc := 24) 29 dL_feeds_24 rfl ?_
        have eM : M = N - a := by omega
        rw [eM] at h29
        exact h29
  refine cx_iconst (pc := 0) dL_feeds_0 ?_
  refine aw_istore_n (pc := 1) [(3, iv 0), (0, .ref 201), (1, .ref q), (2, iv (N : Int))] dL_feeds_1 rfl (by decide) ?_
  refine cx_iconst (pc := 2) dL_feeds_2 ?_
  refine aw_istore (pc := 3) [(4, iv 0), (3, iv 0), (0, .ref 201), (1, .ref q), (2, iv (N : Int))] dL_feeds_3 rfl (by decide) ?_
  exact loop 13 0 0 mx my (by omega) (by omega) (by omega) J
