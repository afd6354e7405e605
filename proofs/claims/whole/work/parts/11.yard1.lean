/-! Yard's helpers over rows of bits -/
/-- bit b of row r (four longs a row) -/
def yb (f : Nat → Int64) (r b : Nat) : Bool := (f (r * 4 + b / 64)).toBitVec.getLsbD (b % 64)
theorem y_ix {r b : Nat} (hb : b < 2 ^ 31) : nI r * 4 + (nI b >>> ((6 : Int32) &&& 31)) = nI (r * 4 + b / 64) := by
  rw [pk_shrN hb _ 6 (by decide)]
  show nI r * nI 4 + _ = _
  rw [pk_mul, nI_add]
theorem y_cmp0 {x : Int64} : lg_cmp x 0 = 0 ↔ x = 0 := by
  unfold lg_cmp
  constructor
  · intro h
    by_cases h1 : (0 : Int64) < x
    · rw [if_pos h1] at h; exact absurd h (by decide)
    · rw [if_neg h1] at h
      by_cases h2 : x = 0
      · exact h2
      · first | (rw [if_neg h2] at h; exact absurd h (by decide)) | (rw [if_neg (fun q => h2 q.symm)] at h; exact absurd h (by decide))
  · rintro rfl
    decide +kernel
theorem y_m63 {b : Nat} (hb : b < 2 ^ 31) : nI b &&& (63 : Int32) = nI (b % 64) := pk_andN (by omega) 6 (by decide)
theorem y_bit {w : Int64} {b : Nat} (hb : b < 2 ^ 31) : lg_cmp ((w.toUInt64 >>> ((nI b &&& (63 : Int32)).toInt64.toUInt64 &&& Int64.toUInt64 63)).toInt64 &&& 1) 0 = 0 ↔ w.toBitVec.getLsbD (b % 64) = false := by
  rw [y_cmp0, y_m63 hb, wb_cu _ (Nat.mod_lt _ (by decide))]
  exact ts_bit (Nat.mod_lt _ (by decide)) (u_tn (by omega))

set_option maxRecDepth 100000 in
set_option maxHeartbeats 4000000 in
theorem c_has (l : Launch) (sc : g_S) (hp : g_H) (rows N r b : Nat) (f : Nat → Int64) (hN : N < 2 ^ 31) (hb : b < 2 ^ 31) (hr : r * 4 + b / 64 < 2 ^ 31) (hrows : hp rows = some (.inl (.long, (N, .inr (.inl f))))) : AMet l sc yX9_has cX9_has 4 (some .boolean) 0 0 0 [.ref rows, .int (nI r), .int (nI b)] hp (fun v hp' => v = some (.int (if r * 4 + b / 64 < N ∧ yb f r b = true then 1 else 0)) ∧ hp' = hp) := by
  refine AMet.of (own := RX9) (by decide +kernel) rfl (Nat.le_of_ble_eq_true rfl) [(0, .ref rows), (1, .int (nI r)), (2, .int (nI b))] rfl (fun D base ad => ?_)
  refine aw_iload_n (pc := 0) dX9_has_0 rfl ?_
  refine aw_iconst (pc := 1) (4) dX9_has_1 (by decide) ?_
  refine aw_imul (pc := 2) dX9_has_2 ?_
  refine aw_iload_n (pc := 3) dX9_has_3 rfl ?_
  refine aw_bipush (pc := 4) (6) dX9_has_4 (by decide) ?_
  refine aw_ishr (pc := 6) dX9_has_6 ?_
  refine aw_iadd (pc := 7) dX9_has_7 ?_
  refine aw_topi (fun v8 e8 => ?_)
  refine aw_istore_n (pc := 8) [(3, .int v8), (0, .ref rows), (1, .int (nI r)), (2, .int (nI b))] dX9_has_8 rfl (by decide) ?_
  refine aw_iload_n (pc := 9) dX9_has_9 rfl ?_
  refine aw_if_lt (pc := 10) 38 dX9_has_10 rfl (fun h10 => ?_) (fun h10 => ?_)
  · -- 10 -> 38
    refine aw_iconst (pc := 38) (0) dX9_has_38 (by decide) ?_
    exact absurd (by rw [y_ix hb] at e8; rw [← e8]; exact h10) (nI_pos hr)
  · -- 10 not
    refine aw_iload_n (pc := 13) dX9_has_13 rfl ?_
    refine aw_aload_n (pc := 14) dX9_has_14 rfl ?_
    refine aw_alen (pc := 15) ((nI N)) hrows rfl dX9_has_15 ?_
    refine aw_icmp_ge (pc := 16) 38 dX9_has_16 rfl (fun h16 => ?_) (fun h16 => ?_)
    · -- 16 -> 38
      refine aw_iconst (pc := 38) (0) dX9_has_38 (by decide) ?_
      refine aw_iret (pc := 39) rfl (by first | rfl | decide) (by omega) (by omega) dX9_has_39 ⟨?_, rfl⟩
      congr 2
      rw [y_ix hb] at e8
      subst e8
      rw [if_neg (fun q => absurd q.1 (Nat.not_lt.mpr ((nI_leI hN hr).mp h16)))]
    · -- 16 not
      refine aw_aload_n (pc := 19) dX9_has_19 rfl ?_
      refine aw_iload_n (pc := 20) dX9_has_20 rfl ?_
      refine aw_lald (pc := 21) hrows (by rw [y_ix hb] at e8; subst e8; exact vp_in_nI (Nat.not_le.mp (fun q => h16 ((nI_leI hN hr).mpr q))) hN) dX9_has_21 ?_
      refine aw_iload_n (pc := 22) dX9_has_22 rfl ?_
      refine aw_bipush (pc := 23) (63) dX9_has_23 (by decide) ?_
      refine aw_iand (pc := 25) dX9_has_25 ?_
      refine aw_lushr (pc := 26) dX9_has_26 ?_
      refine aw_lconst (pc := 27) 1 dX9_has_27 (by decide) ?_
      refine aw_land (pc := 28) dX9_has_28 ?_
      refine aw_lconst (pc := 29) 0 dX9_has_29 (by decide) ?_
      refine aw_lcmp (pc := 30) dX9_has_30 ?_
      refine aw_if_eq (pc := 31) 38 dX9_has_31 rfl (fun h31 => ?_) (fun h31 => ?_)
      · -- 31 -> 38
        refine aw_iconst (pc := 38) (0) dX9_has_38 (by decide) ?_
        refine aw_iret (pc := 39) rfl (by first | rfl | decide) (by omega) (by omega) dX9_has_39 ⟨?_, rfl⟩
        congr 2
        rw [y_ix hb] at e8
        subst e8
        rw [pk_cl (r * 4 + b / 64), y_bit hb] at h31
        rw [if_neg (fun q => by have q2 := q.2; unfold yb at q2; rw [h31] at q2; cases q2)]
      · -- 31 not
        refine aw_iconst (pc := 34) (1) dX9_has_34 (by decide) ?_
        refine aw_goto (pc := 35) 39 dX9_has_35 rfl ?_
        refine aw_iret (pc := 39) rfl (by first | rfl | decide) (by omega) (by omega) dX9_has_39 ⟨?_, rfl⟩
        congr 2
        rw [y_ix hb] at e8
        subst e8
        rw [pk_cl (r * 4 + b / 64), y_bit hb] at h31
        rw [if_pos ⟨Nat.not_le.mp (fun q => h16 ((nI_leI hN hr).mpr q)), ts_nf h31⟩]
