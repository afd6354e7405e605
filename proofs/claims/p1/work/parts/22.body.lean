theorem EC_drop1 (h : g_H) (c : g_E) (m : Mem) : EC (g_up h 1 c) m = EC h m := by
  funext j
  unfold EC
  by_cases q : (1 ≤ j ∧ j < 58) ∨ 1000 ≤ j
  · rw [if_pos q, if_pos q]
  · rw [if_neg q, if_neg q, g_up_ne _ _ (by omega)]
theorem EC_up100 (h : g_H) (c : g_E) (m : Mem) : g_up (EC h m) 100 c = EC (g_up h 100 c) m := by
  funext j
  by_cases hj : j = 100
  · subst hj
    rw [g_up_self]
    unfold EC
    rw [if_neg (by decide), g_up_self]
  · rw [g_up_ne _ _ hj]
    unfold EC
    by_cases q : (1 ≤ j ∧ j < 58) ∨ 1000 ≤ j
    · rw [if_pos q, if_pos q]
    · rw [if_neg q, if_neg q, g_up_ne _ _ hj]
theorem E2_of (c : g_E) (mc mr : Mem) : ovl 100 140 mr (EC (g_up hN 100 c) mc) = E2 mc mr := by
  funext j
  unfold E2 EC
  by_cases q : (1 ≤ j ∧ j < 58) ∨ 1000 ≤ j
  · rw [ovl_out (by omega), if_pos q, if_pos q]
  · by_cases q2 : 100 ≤ j ∧ j < 140
    · rw [ovl_in q2.1 q2.2, if_neg q, ovl_in q2.1 q2.2]
    · rw [ovl_out q2, if_neg q, if_neg q, ovl_out q2, g_up_ne _ _ (by omega)]
/-- what the law's start makes -/
def K0 : Nat := 108
def S0 : Nat := 744863
set_option maxRecDepth 100000 in
set_option maxHeartbeats 8000000 in
theorem law_body {l : Launch} {D : va_G} {base Ls : Nat} {xs : Nat → Int32} {y : MethodName} {ad : Nat → Nat} (hL : Ls ≤ 3072) (n f : Nat) (rc rr : Rz) (Hc : f_init n mz = some rc) (Hr : f_X11_tail n mz = some rr) (Hrun : lawRun n xs Ls f 0 K0 S0 rc.2 rr.2) : AW l D base (0, Ls, xs) RL y cL_law 4 (some .boolean) 840 600000 7302250 ad hN PostL 0 0 hN 0 [(0, .ref 0)] [] := by
  refine aw_new (pc := 0) (ci := 10) (N := 12) 1 [.null, .null, .null, .null, .null, .null, .null, .null, .null, .null, .null, .null] tyX10 ⟨TX10, rfl, tys_X10, cls_X10⟩ rfl (by show 1 ≠ 0; decide) kl_L_7 in_X10 ii_X10 (fun j hj => by rcases (by omega : j = 0 ∨ j = 1 ∨ j = 2 ∨ j = 3 ∨ j = 4 ∨ j = 5 ∨ j = 6 ∨ j = 7 ∨ j = 8 ∨ j = 9 ∨ j = 10 ∨ j = 11) with rfl | rfl | rfl | rfl | rfl | rfl | rfl | rfl | rfl | rfl | rfl | rfl <;> rfl) (fun v hv i e => by subst e; simp at hv) (Nat.le_of_ble_eq_true rfl) (Nat.le_of_ble_eq_true rfl) dL_law_0 ?_
  refine aw_dup (pc := 3) dL_law_3 rfl ?_
  refine aw_callI (pc := 4) (mcC := 67) (msC := 6868) [] (c_X10_init l (0, Ls, xs) rfl n mz _ rc (g_up_self _ _ _) (fun q q1 q2 => g_up_ne _ _ (by omega)) (fun q q1 => by rw [g_up_ne _ _ (by omega), cel_mz_hi q1]; rfl) Hc) ca_L_9 rfl rfl (Nat.le_of_ble_eq_true rfl) (cat_8 (Nat.le_of_ble_eq_true rfl)) (Nat.le_of_ble_eq_true rfl) (Nat.le_of_ble_eq_true rfl) dL_law_4 (fun v9 hp9 hq9 _ => ?_)
  obtain ⟨rfl, rfl⟩ := hq9
  refine AW.eqh (EC_drop1 _ _ _) ?_
  refine aw_astore_n (pc := 7) [(1, .ref 1), (0, .ref 0)] dL_law_7 rfl (by decide) ?_
  refine aw_new (pc := 8) (ci := 11) (N := 58) 100 [.null, .null, .null, .null, .null, .null, .null, .null, .null, .null, .null, .null, .null, .null, .null, .int 0, .int 0, .null, .null, .null, .null, .null, .null, .int 0, .int 0, .null, .int 0, .null, .null, .int 0, .null, .null, .int 0, .null, .null, .int 0, .null, .null, .null, .int 0, .null, .int 0, .null, .null, .int 0, .int 0, .null, .int 0, .null, .int 0, .int 0, .int 0, .int 0, .int 0, .int 0, .null, .null, .null] tyX11 ⟨TX11, rfl, tys_X11, cls_X11⟩ rfl (by show 100 ≠ 0; decide) kl_L_10 in_X11 ii_X11 (fun j hj => by rcases (by omega : j = 0 ∨ j = 1 ∨ j = 2 ∨ j = 3 ∨ j = 4 ∨ j = 5 ∨ j = 6 ∨ j = 7 ∨ j = 8 ∨ j = 9 ∨ j = 10 ∨ j = 11 ∨ j = 12 ∨ j = 13 ∨ j = 14 ∨ j = 15 ∨ j = 16 ∨ j = 17 ∨ j = 18 ∨ j = 19 ∨ j = 20 ∨ j = 21 ∨ j = 22 ∨ j = 23 ∨ j = 24 ∨ j = 25 ∨ j = 26 ∨ j = 27 ∨ j = 28 ∨ j = 29 ∨ j = 30 ∨ j = 31 ∨ j = 32 ∨ j = 33 ∨ j = 34 ∨ j = 35 ∨ j = 36 ∨ j = 37 ∨ j = 38 ∨ j = 39 ∨ j = 40 ∨ j = 41 ∨ j = 42 ∨ j = 43 ∨ j = 44 ∨ j = 45 ∨ j = 46 ∨ j = 47 ∨ j = 48 ∨ j = 49 ∨ j = 50 ∨ j = 51 ∨ j = 52 ∨ j = 53 ∨ j = 54 ∨ j = 55 ∨ j = 56 ∨ j = 57) with rfl | rfl | rfl | rfl | rfl | rfl | rfl | rfl | rfl | rfl | rfl | rfl | rfl | rfl | rfl | rfl | rfl | rfl | rfl | rfl | rfl | rfl | rfl | rfl | rfl | rfl | rfl | rfl | rfl | rfl | rfl | rfl | rfl | rfl | rfl | rfl | rfl | rfl | rfl | rfl | rfl | rfl | rfl | rfl | rfl | rfl | rfl | rfl | rfl | rfl | rfl | rfl | rfl | rfl | rfl | rfl | rfl | rfl <;> rfl) (fun v hv i e => by subst e; simp at hv) (Nat.le_of_ble_eq_true rfl) (Nat.le_of_ble_eq_true rfl) dL_law_8 ?_
  refine AW.eqh (EC_up100 _ _ _) ?_
  refine aw_dup (pc := 11) dL_law_11 rfl ?_
  refine aw_callI (pc := 12) (mcC := 39) (msC := 737925) [] (c_X11_init l (0, Ls, xs) rfl n _ rr (by unfold EC; rw [if_neg (by decide), g_up_self]) (fun q q1 q2 => by unfold EC; rw [if_neg (by omega), g_up_ne _ _ (by omega)]; rfl) Hr) ca_L_12 rfl rfl (Nat.le_of_ble_eq_true rfl) (cat_8 (Nat.le_of_ble_eq_true rfl)) (Nat.le_of_ble_eq_true rfl) (Nat.le_of_ble_eq_true rfl) dL_law_12 (fun v9 hp9 hq9 _ => ?_)
  obtain ⟨rfl, rfl⟩ := hq9
  refine AW.eqh (E2_of _ _ _) ?_
  refine aw_astore_n (pc := 15) [(2, .ref 100), (1, .ref 1), (0, .ref 0)] dL_law_15 rfl (by decide) ?_
  refine cx_iconst (pc := 16) dL_law_16 ?_
  refine aw_istore_n (pc := 17) [(3, iv ((0 : Nat) : Int)), (2, .ref 100), (1, .ref 1), (0, .ref 0)] dL_law_17 rfl (by decide) ?_
  exact law_loop hL n f 0 K0 S0 rc.2 rr.2 (by decide) Hrun
