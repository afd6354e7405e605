theorem cal_inv {X : Option Rz} {K : Int → Mem → Option Rz} {r : Rz} (H : cal X K = some r) : ∃ x m, X = some (x, m) ∧ K x m = some r := by
  cases hX : X with
  | none => rw [hX] at H; cases H
  | some q => rw [hX] at H; exact ⟨q.1, q.2, rfl, H⟩
theorem cel_mz_hi {q : Nat} (h : 1000 ≤ q) : cel mz q = none := by
  have e : sKind mz q = (0, 0) := by unfold sKind; rw [if_neg (by omega)]; rfl
  unfold cel
  rw [e]; rfl
theorem ovS_start {h : g_H} {o : g_E} {m0 : Mem} (h1 : h 1 = some o) (h2 : ∀ q, 1000 ≤ q → h q = cel m0 q) : h = ovS 4 m0 (g_up h 1 o) := by
  rw [← g_up_id h1]
  funext j
  unfold ovS
  by_cases q : (4 ≤ j ∧ j < 4) ∨ 1000 ≤ j
  · rw [if_pos q, h2 j (by omega)]
  · rw [if_neg q]
theorem g_up_comm {h : g_H} {a b : Nat} {x y : g_E} (hab : a ≠ b) : g_up (g_up h a x) b y = g_up (g_up h b y) a x := by
  funext j
  by_cases h1 : j = a
  · subst h1; rw [g_up_ne _ _ hab, g_up_self, g_up_self]
  · by_cases h2 : j = b
    · subst h2; rw [g_up_self, g_up_ne _ _ h1, g_up_self]
    · rw [g_up_ne _ _ h2, g_up_ne _ _ h1, g_up_ne _ _ h1, g_up_ne _ _ h2]
/-- the class as it stands: its own cells and the new ones -/
def EC (h : g_H) (m : Mem) : g_H := fun id => if (1 ≤ id ∧ id < 58) ∨ 1000 ≤ id then cel m id else h id
theorem LE_EC (h : g_H) : LE (EC h) (fun q => (1 ≤ q ∧ q < 58) ∨ 1000 ≤ q) := ⟨fun m id hr => if_pos hr, fun m m' id hr => by
  unfold EC
  rw [if_neg hr, if_neg hr]⟩
theorem RCL_EC : RCL (fun q => (1 ≤ q ∧ q < 58) ∨ 1000 ≤ q) := ⟨fun q h1 h2 => Or.inl ⟨h1, h2⟩, fun q h => Or.inr h⟩
def f_init (n : Nat) (m0 : Mem) : Option Rz :=
  cal (f_X2_tail n (mg 28 33 mz (mg 18 28 mz (mg 4 18 mz m0)))) fun _ m2 =>
  cal (f_X1_farHeap n m2) fun far mF =>
  ok0 (far.toNat < 2147483648) <|
  cal (f_X1_zero n (mg 41 45 mz (mg 39 41 mz (mg 36 39 (mSet mz 36 2 (far.toNat : Nat)) (mg 33 36 mz mF))))) fun z mZ =>
  ok0 (z.toNat < 2147483648) <|
  cal (f_X6_tail n z.toNat (mg 45 50 (mSet mz 45 0 (z.toNat : Nat)) mZ)) fun _ mS =>
  rt 0 (mg 1 4 (mSet mz 1 9 (far.toNat : Nat)) (mg 50 58 mz mS))
set_option maxRecDepth 100000 in
set_option maxHeartbeats 8000000 in
theorem c_X10_init (l : Launch) (sc : g_S) (hsc : sc.1 = 0) (n : Nat) (m0 : Mem) (h : g_H) (r : Rz) (ho : h 1 = some (.inr (10, [.null, .null, .null, .null, .null, .null, .null, .null, .null, .null, .null, .null]))) (hf : ∀ q, 2 ≤ q → q < 58 → h q = none) (hf2 : ∀ q, 1000 ≤ q → h q = cel m0 q) (H : f_init n m0 = some r) : AMet l sc yX10_init cX10_init 1 none 6 67 6868 [.ref 1] h (pV (EC h) r) := by
  unfold f_init at H
  refine AMet.of (own := RX10) (by decide +kernel) rfl (Nat.le_of_ble_eq_true rfl) [(0, .ref 1)] rfl (fun D base ad => ?_)
  refine AW.eqh (ovS_start ho hf2) ?_
  refine aw_aload_n (pc := 0) dX10_init_0 rfl ?_
  refine aw_objInit (pc := 1) oi_X10_3 oi_inst oi_code (Nat.le_of_ble_eq_true rfl) (Nat.le_of_ble_eq_true rfl) dX10_init_1 ?_
  refine aw_aload_n (pc := 4) dX10_init_4 rfl ?_
  refine aw_new (pc := 5) (ci := 9) (N := 15) 4 [.null, .null, .null, .null, .null, .null, .null, .null, .null, .null, .null, .null, .null, .int 0, .int 0] tyX9 ⟨TX9, rfl, tys_X9, cls_X9⟩ (by rw [ovS_at (by decide), g_up_ne _ _ (by decide)]; exact hf 4 (by decide) (by decide)) (by rw [hsc]; decide) kl_X10_9 in_X9 ii_X9 (fun j hj => by rcases (by omega : j = 0 ∨ j = 1 ∨ j = 2 ∨ j = 3 ∨ j = 4 ∨ j = 5 ∨ j = 6 ∨ j = 7 ∨ j = 8 ∨ j = 9 ∨ j = 10 ∨ j = 11 ∨ j = 12 ∨ j = 13 ∨ j = 14) with rfl | rfl | rfl | rfl | rfl | rfl | rfl | rfl | rfl | rfl | rfl | rfl | rfl | rfl | rfl <;> rfl) (fun v hv i e => by subst e; simp at hv) (Nat.le_of_ble_eq_true rfl) (Nat.le_of_ble_eq_true rfl) dX10_init_5 ?_
  refine AW.eqh (ovS_up (by decide)) ?_
  refine aw_dup (pc := 8) dX10_init_8 rfl ?_
  refine aw_callI (pc := 9) (mcC := 13) (msC := 4636) [] (c_X9_init l sc hsc _ (by rw [ovS_at (by decide), g_up_self]) (fun q q1 q2 => by rw [ovS_at (by omega), g_up_ne _ _ (by omega), g_up_ne _ _ (by omega)]; exact hf q (by omega) (by omega))) ca_X10_11 rfl rfl (Nat.le_of_ble_eq_true rfl) (cat_8 (Nat.le_of_ble_eq_true rfl)) (Nat.le_of_ble_eq_true rfl) (Nat.le_of_ble_eq_true rfl) dX10_init_9 (fun v9 hp9 hq9 _ => ?_)
  obtain ⟨rfl, rfl⟩ := hq9
  refine AW.eqh (ovS_ovl (by decide) (by decide) (by decide)) ?_
  refine AW.eqh (hp' := ovS 18 (mg 4 18 mz m0) (g_up h 1 (.inr (10, [.null, .null, .null, .null, .null, .null, .null, .null, .null, .null, .null, .null])))) (ovS_drop (by decide) (by decide)) ?_
  refine aw_putF (pc := 12) tyX10 flo_X10_12 (fun r h => ⟨gty_X10 r h, by cases h; rfl⟩) rfl (fun r h => by cases h; rfl) (by rw [ovS_at (by decide), g_up_self]) rfl rfl (Nat.le_of_ble_eq_true rfl) dX10_init_12 ?_
  refine AW.eqh (ovS_up (by decide)) ?_
  refine AW.eqh (hp' := ovS 18 (mg 4 18 mz m0) (g_up h 1 (.inr (10, [.ref 4, .null, .null, .null, .null, .null, .null, .null, .null, .null, .null, .null])))) (congrArg (ovS 18 _) (g_up_up _ _ _ _)) ?_
  refine aw_aload_n (pc := 15) dX10_init_15 rfl ?_
  refine aw_new (pc := 16) (ci := 4) (N := 11) 18 [.null, .null, .null, .null, .null, .null, .null, .null, .null, .null, .int 0] tyX4 ⟨TX4, rfl, tys_X4, cls_X4⟩ (by rw [ovS_at (by decide), g_up_ne _ _ (by decide)]; exact hf 18 (by decide) (by decide)) (by rw [hsc]; decide) kl_X10_16 in_X4 ii_X4 (fun j hj => by rcases (by omega : j = 0 ∨ j = 1 ∨ j = 2 ∨ j = 3 ∨ j = 4 ∨ j = 5 ∨ j = 6 ∨ j = 7 ∨ j = 8 ∨ j = 9 ∨ j = 10) with rfl | rfl | rfl | rfl | rfl | rfl | rfl | rfl | rfl | rfl | rfl <;> rfl) (fun v hv i e => by subst e; simp at hv) (Nat.le_of_ble_eq_true rfl) (Nat.le_of_ble_eq_true rfl) dX10_init_16 ?_
  refine AW.eqh (ovS_up (by decide)) ?_
  refine aw_dup (pc := 19) dX10_init_19 rfl ?_
  refine aw_aload_n (pc := 20) dX10_init_20 rfl ?_
  refine aw_get (pc := 21) fl_X10_12 (by rw [ovS_at (by decide), g_up_ne _ _ (by decide), g_up_self]) rfl dX10_init_21 ?_
  refine aw_callI (pc := 24) (mcC := 9) (msC := 1080) [.ref 4] (c_X4_init l sc hsc _ (by rw [ovS_at (by decide), g_up_self]) (fun q q1 q2 => by rw [ovS_at (by omega), g_up_ne _ _ (by omega), g_up_ne _ _ (by omega)]; exact hf q (by omega) (by omega))) ca_X10_18 rfl rfl (Nat.le_of_ble_eq_true rfl) (cat_8 (Nat.le_of_ble_eq_true rfl)) (Nat.le_of_ble_eq_true rfl) (Nat.le_of_ble_eq_true rfl) dX10_init_24 (fun v9 hp9 hq9 _ => ?_)
  obtain ⟨rfl, rfl⟩ := hq9
  refine AW.eqh (ovS_ovl (by decide) (by decide) (by decide)) ?_
  refine AW.eqh (hp' := ovS 28 (mg 18 28 mz (mg 4 18 mz m0)) (g_up h 1 (.inr (10, [.ref 4, .null, .null, .null, .null, .null, .null, .null, .null, .null, .null, .null])))) (ovS_drop (by decide) (by decide)) ?_
  refine aw_putF (pc := 27) tyX10 flo_X10_21 (fun r h => ⟨gty_X10 r h, by cases h; rfl⟩) rfl (fun r h => by cases h; rfl) (by rw [ovS_at (by decide), g_up_self]) rfl rfl (Nat.le_of_ble_eq_true rfl) dX10_init_27 ?_
  refine AW.eqh (ovS_up (by decide)) ?_
  refine AW.eqh (hp' := ovS 28 (mg 18 28 mz (mg 4 18 mz m0)) (g_up h 1 (.inr (10, [.ref 4, .ref 18, .null, .null, .null, .null, .null, .null, .null, .null, .null, .null])))) (congrArg (ovS 28 _) (g_up_up _ _ _ _)) ?_
  refine aw_aload_n (pc := 30) dX10_init_30 rfl ?_
  refine aw_new (pc := 31) (ci := 2) (N := 7) 28 [.null, .null, .null, .null, .null, .null, .null] tyX2 ⟨TX2, rfl, tys_X2, cls_X2⟩ (by rw [ovS_at (by decide), g_up_ne _ _ (by decide)]; exact hf 28 (by decide) (by decide)) (by rw [hsc]; decide) kl_X10_25 in_X2 ii_X2 (fun j hj => by rcases (by omega : j = 0 ∨ j = 1 ∨ j = 2 ∨ j = 3 ∨ j = 4 ∨ j = 5 ∨ j = 6) with rfl | rfl | rfl | rfl | rfl | rfl | rfl <;> rfl) (fun v hv i e => by subst e; simp at hv) (Nat.le_of_ble_eq_true rfl) (Nat.le_of_ble_eq_true rfl) dX10_init_31 ?_
  refine AW.eqh (ovS_up (by decide)) ?_
  refine aw_dup (pc := 34) dX10_init_34 rfl ?_
  refine aw_aload_n (pc := 35) dX10_init_35 rfl ?_
  refine aw_get (pc := 36) fl_X10_12 (by rw [ovS_at (by decide), g_up_ne _ _ (by decide), g_up_self]) rfl dX10_init_36 ?_
  refine aw_aload_n (pc := 39) dX10_init_39 rfl ?_
  refine aw_get (pc := 40) fl_X10_21 (by rw [ovS_at (by decide), g_up_ne _ _ (by decide), g_up_self]) rfl dX10_init_40 ?_
  obtain ⟨x2, m2, hX2, H⟩ := cal_inv H
  refine aw_callI (pc := 43) (mcC := 8) (msC := 393) [.ref 4, .ref 18] (c_X2_init l sc hsc n _ _ (x2, m2) (g_up_self _ _ _) (fun q q1 q2 => by rw [g_up_ne _ _ (by omega), g_up_ne _ _ (by omega)]; exact hf q (by omega) (by omega)) hX2) ca_X10_27 rfl rfl (Nat.le_of_ble_eq_true rfl) (cat_8 (Nat.le_of_ble_eq_true rfl)) (Nat.le_of_ble_eq_true rfl) (Nat.le_of_ble_eq_true rfl) dX10_init_43 (fun v9 hp9 hq9 _ => ?_)
  obtain ⟨rfl, rfl⟩ := hq9
  refine AW.eqh (hp' := ovS 33 m2 (g_up h 1 (.inr (10, [.ref 4, .ref 18, .null, .null, .null, .null, .null, .null, .null, .null, .null, .null])))) (ovS_drop (by decide) (by decide)) ?_
  refine aw_putF (pc := 46) tyX10 flo_X10_30 (fun r h => ⟨gty_X10 r h, by cases h; rfl⟩) rfl (fun r h => by cases h; rfl) (by rw [ovS_at (by decide), g_up_self]) rfl rfl (Nat.le_of_ble_eq_true rfl) dX10_init_46 ?_
  refine AW.eqh (ovS_up (by decide)) ?_
  refine AW.eqh (hp' := ovS 33 m2 (g_up h 1 (.inr (10, [.ref 4, .ref 18, .ref 28, .null, .null, .null, .null, .null, .null, .null, .null, .null])))) (congrArg (ovS 33 _) (g_up_up _ _ _ _)) ?_
  refine aw_aload_n (pc := 49) dX10_init_49 rfl ?_
  refine cx_callS (pc := 50) (P := pG) (E := (fun m => ovS 33 m (g_up h 1 (.inr (10, [.ref 4, .ref 18, .ref 28, .null, .null, .null, .null, .null, .null, .null, .null, .null]))))) (dC := 2) (mcC := 3) (msC := 27) [] (fun r1 H1 => s_X1_farHeap l sc (fun m => ovS 33 m (g_up h 1 (.inr (10, [.ref 4, .ref 18, .ref 28, .null, .null, .null, .null, .null, .null, .null, .null, .null])))) _ (LE_ovS 33 _) (fun _ h => Or.inr h) hsc n _ r1 H1) ca_X10_34 rfl rfl (Nat.le_of_ble_eq_true rfl) (Nat.le_of_ble_eq_true rfl) (Nat.le_of_ble_eq_true rfl) (Nat.le_of_ble_eq_true rfl) dX10_init_50 H (fun far mF v9 hp9 H hq => ?_)
  refine cx_backG hq ?_
  refine AW.eqh (hp' := ovS 33 mF (g_up h 1 (.inr (10, [.ref 4, .ref 18, .ref 28, .null, .null, .null, .null, .null, .null, .null, .null, .null])))) rfl ?_
  obtain ⟨hfar, H⟩ := chk H
  refine aw_putF (pc := 53) tyX10 flo_X10_40 (fun r h => ⟨gty_X10 r h, by cases h; rfl⟩) rfl (fun r h => by cases h; rfl) (by rw [ovS_at (by decide), g_up_self]) (rv_narrow _ _) (by rcases rv_or far.toNat with e | ⟨_, e⟩ <;> rw [e] <;> rfl) (Nat.le_of_ble_eq_true rfl) dX10_init_53 ?_
  refine AW.eqh (ovS_up (by decide)) ?_
  refine AW.eqh (hp' := ovS 33 mF (g_up h 1 (.inr (10, [.ref 4, .ref 18, .ref 28, .null, .null, .null, .null, .null, .null, rv far.toNat, .null, .null])))) (congrArg (ovS 33 _) (g_up_up _ _ _ _)) ?_
  refine aw_aload_n (pc := 56) dX10_init_56 rfl ?_
  refine aw_new (pc := 57) (ci := 0) (N := 5) 33 [.null, .null, .null, .null, .int 0] tyX0 ⟨TX0, rfl, tys_X0, cls_X0⟩ (by rw [ovS_at (by decide), g_up_ne _ _ (by decide)]; exact hf 33 (by decide) (by decide)) (by rw [hsc]; decide) kl_X10_44 in_X0 ii_X0 (fun j hj => by rcases (by omega : j = 0 ∨ j = 1 ∨ j = 2 ∨ j = 3 ∨ j = 4) with rfl | rfl | rfl | rfl | rfl <;> rfl) (fun v hv i e => by subst e; simp at hv) (Nat.le_of_ble_eq_true rfl) (Nat.le_of_ble_eq_true rfl) dX10_init_57 ?_
  refine AW.eqh (ovS_up (by decide)) ?_
  refine aw_dup (pc := 60) dX10_init_60 rfl ?_
  refine aw_callI (pc := 61) (mcC := 2) (msC := 22) [] (c_X0_init l sc hsc _ (by rw [ovS_at (by decide), g_up_self]) (fun q q1 q2 => by rw [ovS_at (by omega), g_up_ne _ _ (by omega), g_up_ne _ _ (by omega)]; exact hf q (by omega) (by omega))) ca_X10_46 rfl rfl (Nat.le_of_ble_eq_true rfl) (cat_8 (Nat.le_of_ble_eq_true rfl)) (Nat.le_of_ble_eq_true rfl) (Nat.le_of_ble_eq_true rfl) dX10_init_61 (fun v9 hp9 hq9 _ => ?_)
  obtain ⟨rfl, rfl⟩ := hq9
  refine AW.eqh (ovS_ovl (by decide) (by decide) (by decide)) ?_
  refine AW.eqh (hp' := ovS 36 (mg 33 36 mz mF) (g_up h 1 (.inr (10, [.ref 4, .ref 18, .ref 28, .null, .null, .null, .null, .null, .null, rv far.toNat, .null, .null])))) (ovS_drop (by decide) (by decide)) ?_
  refine aw_putF (pc := 64) tyX10 flo_X10_47 (fun r h => ⟨gty_X10 r h, by cases h; rfl⟩) rfl (fun r h => by cases h; rfl) (by rw [ovS_at (by decide), g_up_self]) rfl rfl (Nat.le_of_ble_eq_true rfl) dX10_init_64 ?_
  refine AW.eqh (ovS_up (by decide)) ?_
  refine AW.eqh (hp' := ovS 36 (mg 33 36 mz mF) (g_up h 1 (.inr (10, [.ref 4, .ref 18, .ref 28, .ref 33, .null, .null, .null, .null, .null, rv far.toNat, .null, .null])))) (congrArg (ovS 36 _) (g_up_up _ _ _ _)) ?_
  refine aw_aload_n (pc := 67) dX10_init_67 rfl ?_
  refine aw_new (pc := 68) (ci := 8) (N := 5) 36 [.null, .null, .null, .null, .null] tyX8 ⟨TX8, rfl, tys_X8, cls_X8⟩ (by rw [ovS_at (by decide), g_up_ne _ _ (by decide)]; exact hf 36 (by decide) (by decide)) (by rw [hsc]; decide) kl_X10_51 in_X8 ii_X8 (fun j hj => by rcases (by omega : j = 0 ∨ j = 1 ∨ j = 2 ∨ j = 3 ∨ j = 4) with rfl | rfl | rfl | rfl | rfl <;> rfl) (fun v hv i e => by subst e; simp at hv) (Nat.le_of_ble_eq_true rfl) (Nat.le_of_ble_eq_true rfl) dX10_init_68 ?_
  refine AW.eqh (ovS_up (by decide)) ?_
  refine aw_dup (pc := 71) dX10_init_71 rfl ?_
  refine aw_aload_n (pc := 72) dX10_init_72 rfl ?_
  refine aw_get (pc := 73) fl_X10_12 (by rw [ovS_at (by decide), g_up_ne _ _ (by decide), g_up_self]) rfl dX10_init_73 ?_
  refine aw_aload_n (pc := 76) dX10_init_76 rfl ?_
  refine aw_get (pc := 77) fl_X10_47 (by rw [ovS_at (by decide), g_up_ne _ _ (by decide), g_up_self]) rfl dX10_init_77 ?_
  refine aw_aload_n (pc := 80) dX10_init_80 rfl ?_
  refine aw_get (pc := 81) fl_X10_40 (by rw [ovS_at (by decide), g_up_ne _ _ (by decide), g_up_self]) rfl dX10_init_81 ?_
  refine aw_callI (pc := 84) (mcC := 2) (msC := 20) [.ref 4, .ref 33, rv far.toNat] (c_X8_init l sc hsc _ far.toNat hfar (by rw [ovS_at (by decide), g_up_self]) (fun q q1 q2 => by rw [ovS_at (by omega), g_up_ne _ _ (by omega), g_up_ne _ _ (by omega)]; exact hf q (by omega) (by omega))) ca_X10_53 rfl rfl (Nat.le_of_ble_eq_true rfl) (cat_8 (Nat.le_of_ble_eq_true rfl)) (Nat.le_of_ble_eq_true rfl) (Nat.le_of_ble_eq_true rfl) dX10_init_84 (fun v9 hp9 hq9 _ => ?_)
  obtain ⟨rfl, rfl⟩ := hq9
  refine AW.eqh (ovS_ovl (by decide) (by decide) (by decide)) ?_
  refine AW.eqh (hp' := ovS 39 (mg 36 39 (mSet mz 36 2 (far.toNat : Nat)) (mg 33 36 mz mF)) (g_up h 1 (.inr (10, [.ref 4, .ref 18, .ref 28, .ref 33, .null, .null, .null, .null, .null, rv far.toNat, .null, .null])))) (ovS_drop (by decide) (by decide)) ?_
  refine aw_putF (pc := 87) tyX10 flo_X10_56 (fun r h => ⟨gty_X10 r h, by cases h; rfl⟩) rfl (fun r h => by cases h; rfl) (by rw [ovS_at (by decide), g_up_self]) rfl rfl (Nat.le_of_ble_eq_true rfl) dX10_init_87 ?_
  refine AW.eqh (ovS_up (by decide)) ?_
  refine AW.eqh (hp' := ovS 39 (mg 36 39 (mSet mz 36 2 (far.toNat : Nat)) (mg 33 36 mz mF)) (g_up h 1 (.inr (10, [.ref 4, .ref 18, .ref 28, .ref 33, .ref 36, .null, .null, .null, .null, rv far.toNat, .null, .null])))) (congrArg (ovS 39 _) (g_up_up _ _ _ _)) ?_
  refine aw_aload_n (pc := 90) dX10_init_90 rfl ?_
  refine aw_new (pc := 91) (ci := 3) (N := 4) 39 [.null, .null, .null, .int 0] tyX3 ⟨TX3, rfl, tys_X3, cls_X3⟩ (by rw [ovS_at (by decide), g_up_ne _ _ (by decide)]; exact hf 39 (by decide) (by decide)) (by rw [hsc]; decide) kl_X10_60 in_X3 ii_X3 (fun j hj => by rcases (by omega : j = 0 ∨ j = 1 ∨ j = 2 ∨ j = 3) with rfl | rfl | rfl | rfl <;> rfl) (fun v hv i e => by subst e; simp at hv) (Nat.le_of_ble_eq_true rfl) (Nat.le_of_ble_eq_true rfl) dX10_init_91 ?_
  refine AW.eqh (ovS_up (by decide)) ?_
  refine aw_dup (pc := 94) dX10_init_94 rfl ?_
  refine aw_aload_n (pc := 95) dX10_init_95 rfl ?_
  refine aw_get (pc := 96) fl_X10_12 (by rw [ovS_at (by decide), g_up_ne _ _ (by decide), g_up_self]) rfl dX10_init_96 ?_
  refine aw_aload_n (pc := 99) dX10_init_99 rfl ?_
  refine aw_get (pc := 100) fl_X10_21 (by rw [ovS_at (by decide), g_up_ne _ _ (by decide), g_up_self]) rfl dX10_init_100 ?_
  refine aw_callI (pc := 103) (mcC := 1) (msC := 67) [.ref 4, .ref 18] (c_X3_init l sc hsc _ (by rw [ovS_at (by decide), g_up_self]) (fun q q1 q2 => by rw [ovS_at (by omega), g_up_ne _ _ (by omega), g_up_ne _ _ (by omega)]; exact hf q (by omega) (by omega))) ca_X10_62 rfl rfl (Nat.le_of_ble_eq_true rfl) (cat_8 (Nat.le_of_ble_eq_true rfl)) (Nat.le_of_ble_eq_true rfl) (Nat.le_of_ble_eq_true rfl) dX10_init_103 (fun v9 hp9 hq9 _ => ?_)
  obtain ⟨rfl, rfl⟩ := hq9
  refine AW.eqh (ovS_ovl (by decide) (by decide) (by decide)) ?_
  refine AW.eqh (hp' := ovS 41 (mg 39 41 mz (mg 36 39 (mSet mz 36 2 (far.toNat : Nat)) (mg 33 36 mz mF))) (g_up h 1 (.inr (10, [.ref 4, .ref 18, .ref 28, .ref 33, .ref 36, .null, .null, .null, .null, rv far.toNat, .null, .null])))) (ovS_drop (by decide) (by decide)) ?_
  refine aw_putF (pc := 106) tyX10 flo_X10_63 (fun r h => ⟨gty_X10 r h, by cases h; rfl⟩) rfl (fun r h => by cases h; rfl) (by rw [ovS_at (by decide), g_up_self]) rfl rfl (Nat.le_of_ble_eq_true rfl) dX10_init_106 ?_
  refine AW.eqh (ovS_up (by decide)) ?_
  refine AW.eqh (hp' := ovS 41 (mg 39 41 mz (mg 36 39 (mSet mz 36 2 (far.toNat : Nat)) (mg 33 36 mz mF))) (g_up h 1 (.inr (10, [.ref 4, .ref 18, .ref 28, .ref 33, .ref 36, .ref 39, .null, .null, .null, rv far.toNat, .null, .null])))) (congrArg (ovS 41 _) (g_up_up _ _ _ _)) ?_
  refine aw_aload_n (pc := 109) dX10_init_109 rfl ?_
  refine aw_new (pc := 110) (ci := 7) (N := 8) 41 [.null, .null, .null, .null, .int 0, .int 0, .int 0, .int 0] tyX7 ⟨TX7, rfl, tys_X7, cls_X7⟩ (by rw [ovS_at (by decide), g_up_ne _ _ (by decide)]; exact hf 41 (by decide) (by decide)) (by rw [hsc]; decide) kl_X10_67 in_X7 ii_X7 (fun j hj => by rcases (by omega : j = 0 ∨ j = 1 ∨ j = 2 ∨ j = 3 ∨ j = 4 ∨ j = 5 ∨ j = 6 ∨ j = 7) with rfl | rfl | rfl | rfl | rfl | rfl | rfl | rfl <;> rfl) (fun v hv i e => by subst e; simp at hv) (Nat.le_of_ble_eq_true rfl) (Nat.le_of_ble_eq_true rfl) dX10_init_110 ?_
  refine AW.eqh (ovS_up (by decide)) ?_
  refine aw_dup (pc := 113) dX10_init_113 rfl ?_
  refine aw_aload_n (pc := 114) dX10_init_114 rfl ?_
  refine aw_get (pc := 115) fl_X10_30 (by rw [ovS_at (by decide), g_up_ne _ _ (by decide), g_up_self]) rfl dX10_init_115 ?_
  refine aw_callI (pc := 118) (mcC := 3) (msC := 360) [.ref 28] (c_X7_init l sc hsc _ (by rw [ovS_at (by decide), g_up_self]) (fun q q1 q2 => by rw [ovS_at (by omega), g_up_ne _ _ (by omega), g_up_ne _ _ (by omega)]; exact hf q (by omega) (by omega))) ca_X10_69 rfl rfl (Nat.le_of_ble_eq_true rfl) (cat_8 (Nat.le_of_ble_eq_true rfl)) (Nat.le_of_ble_eq_true rfl) (Nat.le_of_ble_eq_true rfl) dX10_init_118 (fun v9 hp9 hq9 _ => ?_)
  obtain ⟨rfl, rfl⟩ := hq9
  refine AW.eqh (ovS_ovl (by decide) (by decide) (by decide)) ?_
  refine AW.eqh (hp' := ovS 45 (mg 41 45 mz (mg 39 41 mz (mg 36 39 (mSet mz 36 2 (far.toNat : Nat)) (mg 33 36 mz mF)))) (g_up h 1 (.inr (10, [.ref 4, .ref 18, .ref 28, .ref 33, .ref 36, .ref 39, .null, .null, .null, rv far.toNat, .null, .null])))) (ovS_drop (by decide) (by decide)) ?_
  refine aw_putF (pc := 121) tyX10 flo_X10_72 (fun r h => ⟨gty_X10 r h, by cases h; rfl⟩) rfl (fun r h => by cases h; rfl) (by rw [ovS_at (by decide), g_up_self]) rfl rfl (Nat.le_of_ble_eq_true rfl) dX10_init_121 ?_
  refine AW.eqh (ovS_up (by decide)) ?_
  refine AW.eqh (hp' := ovS 45 (mg 41 45 mz (mg 39 41 mz (mg 36 39 (mSet mz 36 2 (far.toNat : Nat)) (mg 33 36 mz mF)))) (g_up h 1 (.inr (10, [.ref 4, .ref 18, .ref 28, .ref 33, .ref 36, .ref 39, .ref 41, .null, .null, rv far.toNat, .null, .null])))) (congrArg (ovS 45 _) (g_up_up _ _ _ _)) ?_
  refine aw_aload_n (pc := 124) dX10_init_124 rfl ?_
  refine aw_new (pc := 125) (ci := 6) (N := 7) 45 [.null, .null, .null, .null, .null, .int 0, .int 0] tyX6 ⟨TX6, rfl, tys_X6, cls_X6⟩ (by rw [ovS_at (by decide), g_up_ne _ _ (by decide)]; exact hf 45 (by decide) (by decide)) (by rw [hsc]; decide) kl_X10_76 in_X6 ii_X6 (fun j hj => by rcases (by omega : j = 0 ∨ j = 1 ∨ j = 2 ∨ j = 3 ∨ j = 4 ∨ j = 5 ∨ j = 6) with rfl | rfl | rfl | rfl | rfl | rfl | rfl <;> rfl) (fun v hv i e => by subst e; simp at hv) (Nat.le_of_ble_eq_true rfl) (Nat.le_of_ble_eq_true rfl) dX10_init_125 ?_
  refine AW.eqh (ovS_up (by decide)) ?_
  refine aw_dup (pc := 128) dX10_init_128 rfl ?_
  refine cx_callS (pc := 129) (P := pG) (E := (fun m => ovS 45 m (g_up (g_up h 1 (.inr (10, [.ref 4, .ref 18, .ref 28, .ref 33, .ref 36, .ref 39, .ref 41, .null, .null, rv far.toNat, .null, .null]))) 45 (.inr (6, [.null, .null, .null, .null, .null, .int 0, .int 0]))))) (dC := 2) (mcC := 4) (msC := 35) [] (fun r1 H1 => s_X1_zero l sc (fun m => ovS 45 m (g_up (g_up h 1 (.inr (10, [.ref 4, .ref 18, .ref 28, .ref 33, .ref 36, .ref 39, .ref 41, .null, .null, rv far.toNat, .null, .null]))) 45 (.inr (6, [.null, .null, .null, .null, .null, .int 0, .int 0])))) _ (LE_ovS 45 _) (fun _ h => Or.inr h) hsc n _ r1 H1) ca_X10_78 rfl rfl (Nat.le_of_ble_eq_true rfl) (Nat.le_of_ble_eq_true rfl) (Nat.le_of_ble_eq_true rfl) (Nat.le_of_ble_eq_true rfl) dX10_init_129 H (fun z mZ v9 hp9 H hq => ?_)
  refine cx_backG hq ?_
  refine AW.eqh (hp' := ovS 45 mZ (g_up (g_up h 1 (.inr (10, [.ref 4, .ref 18, .ref 28, .ref 33, .ref 36, .ref 39, .ref 41, .null, .null, rv far.toNat, .null, .null]))) 45 (.inr (6, [.null, .null, .null, .null, .null, .int 0, .int 0])))) rfl ?_
  obtain ⟨hz, H⟩ := chk H
  obtain ⟨xS, mS, hXS, H⟩ := cal_inv H
  refine aw_callI (pc := 132) (mcC := 4) (msC := 32) [rv z.toNat] (c_X6_init l sc hsc n z.toNat hz _ _ (xS, mS) (g_up_self _ _ _) (fun q q1 q2 => by rw [g_up_ne _ _ (by omega), g_up_ne _ _ (by omega)]; exact hf q (by omega) (by omega)) hXS) ca_X10_81 rfl rfl (Nat.le_of_ble_eq_true rfl) (cat_8 (Nat.le_of_ble_eq_true rfl)) (Nat.le_of_ble_eq_true rfl) (Nat.le_of_ble_eq_true rfl) dX10_init_132 (fun v9 hp9 hq9 _ => ?_)
  obtain ⟨rfl, rfl⟩ := hq9
  refine AW.eqh (hp' := ovS 50 mS (g_up h 1 (.inr (10, [.ref 4, .ref 18, .ref 28, .ref 33, .ref 36, .ref 39, .ref 41, .null, .null, rv far.toNat, .null, .null])))) (ovS_drop (by decide) (by decide)) ?_
  refine aw_putF (pc := 135) tyX10 flo_X10_84 (fun r h => ⟨gty_X10 r h, by cases h; rfl⟩) rfl (fun r h => by cases h; rfl) (by rw [ovS_at (by decide), g_up_self]) rfl rfl (Nat.le_of_ble_eq_true rfl) dX10_init_135 ?_
  refine AW.eqh (ovS_up (by decide)) ?_
  refine AW.eqh (hp' := ovS 50 mS (g_up h 1 (.inr (10, [.ref 4, .ref 18, .ref 28, .ref 33, .ref 36, .ref 39, .ref 41, .ref 45, .null, rv far.toNat, .null, .null])))) (congrArg (ovS 50 _) (g_up_up _ _ _ _)) ?_
  refine aw_aload_n (pc := 138) dX10_init_138 rfl ?_
  refine aw_new (pc := 139) (ci := 5) (N := 3) 50 [.null, .null, .null] tyX5 ⟨TX5, rfl, tys_X5, cls_X5⟩ (by rw [ovS_at (by decide), g_up_ne _ _ (by decide)]; exact hf 50 (by decide) (by decide)) (by rw [hsc]; decide) kl_X10_88 in_X5 ii_X5 (fun j hj => by rcases (by omega : j = 0 ∨ j = 1 ∨ j = 2) with rfl | rfl | rfl <;> rfl) (fun v hv i e => by subst e; simp at hv) (Nat.le_of_ble_eq_true rfl) (Nat.le_of_ble_eq_true rfl) dX10_init_139 ?_
  refine AW.eqh (ovS_up (by decide)) ?_
  refine aw_dup (pc := 142) dX10_init_142 rfl ?_
  refine aw_callI (pc := 143) (mcC := 7) (msC := 108) [] (c_X5_init l sc hsc _ _ (by unfold ovS; rw [if_pos (by decide)]; exact cel_int rfl) (by rw [ovS_at (by decide), g_up_self]) (fun q q1 q2 => by rw [ovS_at (by omega), g_up_ne _ _ (by omega), g_up_ne _ _ (by omega)]; exact hf q (by omega) (by omega))) ca_X10_90 rfl rfl (Nat.le_of_ble_eq_true rfl) (cat_8 (Nat.le_of_ble_eq_true rfl)) (Nat.le_of_ble_eq_true rfl) (Nat.le_of_ble_eq_true rfl) dX10_init_143 (fun v9 hp9 hq9 _ => ?_)
  obtain ⟨rfl, rfl⟩ := hq9
  refine AW.eqh (ovS_ovl (by decide) (by decide) (by decide)) ?_
  refine AW.eqh (hp' := ovS 58 (mg 50 58 mz mS) (g_up h 1 (.inr (10, [.ref 4, .ref 18, .ref 28, .ref 33, .ref 36, .ref 39, .ref 41, .ref 45, .null, rv far.toNat, .null, .null])))) (ovS_drop (by decide) (by decide)) ?_
  refine aw_putF (pc := 146) tyX10 flo_X10_91 (fun r h => ⟨gty_X10 r h, by cases h; rfl⟩) rfl (fun r h => by cases h; rfl) (by rw [ovS_at (by decide), g_up_self]) rfl rfl (Nat.le_of_ble_eq_true rfl) dX10_init_146 ?_
  refine AW.eqh (ovS_up (by decide)) ?_
  refine AW.eqh (hp' := ovS 58 (mg 50 58 mz mS) (g_up h 1 (.inr (10, [.ref 4, .ref 18, .ref 28, .ref 33, .ref 36, .ref 39, .ref 41, .ref 45, .ref 50, rv far.toNat, .null, .null])))) (congrArg (ovS 58 _) (g_up_up _ _ _ _)) ?_
  refine aw_aload_n (pc := 149) dX10_init_149 rfl ?_
  refine aw_bipush (pc := 150) (16) dX10_init_150 (by decide) ?_
  refine aw_newQ (pc := 152) (N' := 16) 2 (by rw [ovS_at (by decide), g_up_ne _ _ (by decide)]; exact hf 2 (by decide) (by decide)) (by rw [hsc]; decide) kl_X10_35 (by decide) (by decide) (Nat.le_of_ble_eq_true rfl) (Nat.le_of_ble_eq_true rfl) (Nat.le_of_ble_eq_true rfl) dX10_init_152 ?_
  refine AW.eqh (ovS_up (by decide)) ?_
  refine AW.eqh (hp' := ovS 58 (mg 50 58 mz mS) (g_up (g_up h 2 (.inl (.object "UppityGames$Game", (16, .inr (.inr (.inr (.inr fun _ => none))))))) 1 (.inr (10, [.ref 4, .ref 18, .ref 28, .ref 33, .ref 36, .ref 39, .ref 41, .ref 45, .ref 50, rv far.toNat, .null, .null])))) (congrArg (ovS 58 _) (g_up_comm (by decide))) ?_
  refine aw_putF (pc := 155) tyX10 flo_X10_95 (fun r h => ⟨gty_X10 r h, by cases h; rfl⟩) rfl (fun r h => by cases h; rfl) (by rw [ovS_at (by decide), g_up_self]) rfl rfl (Nat.le_of_ble_eq_true rfl) dX10_init_155 ?_
  refine AW.eqh (ovS_up (by decide)) ?_
  refine AW.eqh (hp' := ovS 58 (mg 50 58 mz mS) (g_up (g_up h 2 (.inl (.object "UppityGames$Game", (16, .inr (.inr (.inr (.inr fun _ => none))))))) 1 (.inr (10, [.ref 4, .ref 18, .ref 28, .ref 33, .ref 36, .ref 39, .ref 41, .ref 45, .ref 50, rv far.toNat, .ref 2, .null])))) (congrArg (ovS 58 _) (g_up_up _ _ _ _)) ?_
  refine aw_aload_n (pc := 158) dX10_init_158 rfl ?_
  refine aw_bipush (pc := 159) (7) dX10_init_159 (by decide) ?_
  refine aw_newI (pc := 161) (N' := 7) 3 (by rw [ovS_at (by decide), g_up_ne _ _ (by decide), g_up_ne _ _ (by decide)]; exact hf 3 (by decide) (by decide)) (by rw [hsc]; decide) ac_int (by decide) (by decide) (Nat.le_of_ble_eq_true rfl) (Nat.le_of_ble_eq_true rfl) (Nat.le_of_ble_eq_true rfl) dX10_init_161 ?_
  refine AW.eqh (ovS_up (by decide)) ?_
  refine AW.eqh (hp' := ovS 58 (mg 50 58 mz mS) (g_up (g_up (g_up h 2 (.inl (.object "UppityGames$Game", (16, .inr (.inr (.inr (.inr fun _ => none))))))) 3 (.inl (.int, (7, .inl fun _ => 0)))) 1 (.inr (10, [.ref 4, .ref 18, .ref 28, .ref 33, .ref 36, .ref 39, .ref 41, .ref 45, .ref 50, rv far.toNat, .ref 2, .null])))) (congrArg (ovS 58 _) (g_up_comm (by decide))) ?_
  refine aw_putF (pc := 163) tyX10 flo_X10_99 (fun r h => ⟨gty_X10 r h, by cases h; rfl⟩) rfl (fun r h => by cases h; rfl) (by rw [ovS_at (by decide), g_up_self]) rfl rfl (Nat.le_of_ble_eq_true rfl) dX10_init_163 ?_
  refine AW.eqh (ovS_up (by decide)) ?_
  refine AW.eqh (hp' := ovS 58 (mg 50 58 mz mS) (g_up (g_up (g_up h 2 (.inl (.object "UppityGames$Game", (16, .inr (.inr (.inr (.inr fun _ => none))))))) 3 (.inl (.int, (7, .inl fun _ => 0)))) 1 (.inr (10, [.ref 4, .ref 18, .ref 28, .ref 33, .ref 36, .ref 39, .ref 41, .ref 45, .ref 50, rv far.toNat, .ref 2, .ref 3])))) (congrArg (ovS 58 _) (g_up_up _ _ _ _)) ?_
  cases H
  refine aw_vret (pc := 166) rfl (Nat.le_of_ble_eq_true rfl) (Nat.le_of_ble_eq_true rfl) dX10_init_166 ⟨rfl, ?_⟩
  show _ = EC h (mg 1 4 (mSet mz 1 9 (far.toNat : Nat)) (mg 50 58 mz mS))
  have e2 : mGet (mg 1 4 (mSet mz 1 9 (far.toNat : Nat)) (mg 50 58 mz mS)) 1 9 = (far.toNat : Nat) := by rw [mGet_mg, if_pos (by decide), mGet_mSet, if_pos ⟨rfl, rfl⟩]; exact w32_id (by omega) (by omega)
  funext j
  by_cases h1 : j = 1
  · subst h1
    rw [ovS_at (by decide), g_up_self]
    unfold EC
    rw [if_pos (by decide), cel_obj (c := 10) rfl]
    refine congrArg (fun f => some (Sum.inr (10, f))) ?_
    show _ = [Value.ref 4, .ref 18, .ref 28, .ref 33, .ref 36, .ref 39, .ref 41, .ref 45, .ref 50, rv (mGet (mg 1 4 (mSet mz 1 9 (far.toNat : Nat)) (mg 50 58 mz mS)) 1 9).toNat, .ref 2, .ref 3]
    rw [e2, Int.toNat_natCast]
  · by_cases h2 : j = 3
    · subst h2
      rw [ovS_at (by decide), g_up_ne _ _ (by decide), g_up_self]
      unfold EC
      rw [if_pos (by decide), cel_zI rfl (fun i => by rw [mGet_mg, if_pos (by decide), mGet_mSet, if_neg (fun q => by omega), mz_0])]
    · by_cases h3 : j = 2
      · subst h3
        rw [ovS_at (by decide), g_up_ne _ _ (by decide), g_up_ne _ _ (by decide), g_up_self]
        unfold EC
        rw [if_pos (by decide), cel_zQ rfl (fun i => by rw [mGet_mg, if_pos (by decide), mGet_mSet, if_neg (fun q => by omega), mz_0])]
      · unfold EC ovS
        by_cases h4 : (4 ≤ j ∧ j < 58) ∨ 1000 ≤ j
        · rw [if_pos h4, if_pos (by omega)]
          exact (cel_ext (m := mg 50 58 mz mS) (m' := mg 1 4 (mSet mz 1 9 (far.toNat : Nat)) (mg 50 58 mz mS)) (sKind_mg _ _ _ _ j) (fun i => by rw [mGet_mg, if_neg (by omega)]) (fun i => by rw [lGet_mg, if_neg (by omega)])).symm
        · rw [if_neg h4, if_neg (by omega), g_up_ne _ _ h1, g_up_ne _ _ h2, g_up_ne _ _ h3]
