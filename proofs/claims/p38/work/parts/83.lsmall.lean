/-! THE LAW: mod, cell, isFirst -/
theorem inN {k : Nat} (h : k < 2147483648) : inR (k : Int) := ⟨by omega, by omega⟩
theorem irem_tmod {x z : Int} (hx : inR x) (hz : 0 < z ∧ z < 1000) : irem x z = x.tmod z := by
  obtain ⟨h1, h2⟩ := hx
  have b1 : (x.tmod z).natAbs < z.natAbs := by rw [Int.natAbs_tmod]; exact Nat.mod_lt _ (by omega)
  have e1 : Int32.ofInt x / Int32.ofInt z = Int32.ofInt (x.tdiv z) := (Int32.ofInt_tdiv h1 (by show x ≤ 2147483647; omega) (by show (-2147483648 : Int) ≤ z; omega) (by show z ≤ 2147483647; omega)).symm
  unfold irem
  rw [e1, ← Int32.ofInt_mul, ← Int32.ofInt_sub, show x - x.tdiv z * z = x.tmod z by rw [Int.tmod_def, Int.mul_comm]]
  exact w32_id (by omega) (by omega)
theorem tmod_mod {x z : Int} (hz : 0 < z) : (0 ≤ x.tmod z → x.tmod z = x % z) ∧ (x.tmod z < 0 → x.tmod z + z = x % z) := by
  have e := Int.tmod_eq_emod (a := x) (b := z)
  have p := Int.emod_nonneg x (b := z) (by omega)
  have q := Int.emod_lt_of_pos x hz
  by_cases h : 0 ≤ x ∨ z ∣ x
  · rw [if_pos h] at e
    constructor <;> intro _ <;> omega
  · rw [if_neg h] at e
    constructor <;> intro _ <;> omega
theorem s_L_mod (l : Launch) (sc : g_S) (v m : Int) (hv : inR v) (hm : 0 < m ∧ m < 1000) (hp : g_H) : AMet l sc yL_mod cL_mod 3 (some .int) 0 0 0 [iv v, iv m] hp (fun w hp' => w = some (iv (v % m)) ∧ hp' = hp) := by
  refine AMet.of (own := RL) (by decide +kernel) rfl (Nat.le_of_ble_eq_true rfl) [(0, iv v), (1, iv m)] rfl (fun D base ad => ?_)
  obtain ⟨h1, h2⟩ := tmod_mod (x := v) (z := m) hm.1
  have b : (v.tmod m).natAbs < m.natAbs := by rw [Int.natAbs_tmod]; exact Nat.mod_lt _ (by omega)
  have it := irem_tmod hv hm
  obtain ⟨z, ez⟩ : ∃ z, z = v.tmod m := ⟨_, rfl⟩
  rw [← ez] at it h1 h2 b
  refine aw_iload_n (pc := 0) dL_mod_0 rfl ?_
  refine aw_iload_n (pc := 1) dL_mod_1 rfl ?_
  refine lx_irem (pc := 2) ⟨by omega, by omega⟩ (by omega) dL_mod_2 ?_
  refine AW.eqs (st' := [iv z]) (by rw [it]) ?_
  refine aw_istore_n (pc := 3) [(2, iv z), (0, iv v), (1, iv m)] dL_mod_3 rfl (by decide) ?_
  refine aw_iload_n (pc := 4) dL_mod_4 rfl ?_
  refine lx_if_ge (pc := 5) 14 ⟨by omega, by omega⟩ dL_mod_5 rfl (fun hb => ?_) (fun hb => ?_)
  · skip
    refine aw_iload_n (pc := 14) dL_mod_14 rfl ?_
    exact aw_iret (pc := 15) rfl rfl (Nat.le_of_ble_eq_true rfl) (Nat.le_of_ble_eq_true rfl) dL_mod_15 ⟨by rw [h1 (by omega)], rfl⟩
  · skip
    refine aw_iload_n (pc := 8) dL_mod_8 rfl ?_
    refine aw_iload_n (pc := 9) dL_mod_9 rfl ?_
    refine cx_iadd (pc := 10) dL_mod_10 ?_
    refine AW.eqs (st' := [iv (z + m)]) (by rw [w32_id (by omega) (by omega)]) ?_
    refine aw_goto (pc := 11) 15 dL_mod_11 rfl ?_
    exact aw_iret (pc := 15) rfl rfl (Nat.le_of_ble_eq_true rfl) (Nat.le_of_ble_eq_true rfl) dL_mod_15 ⟨by rw [h2 (by omega)], rfl⟩
/-- the script's value at k, 0 behind its end -/
def cv (sc : g_S) (k : Nat) : Int := if k < sc.2.1 then (sc.2.2 k).toInt else 0
theorem cv_in (sc : g_S) (k : Nat) : inR (cv sc k) := by
  unfold cv
  by_cases h : k < sc.2.1
  · rw [if_pos h]; exact inR_32 _
  · rw [if_neg h]; exact inR_0
theorem s_L_cell (l : Launch) (sc : g_S) (hsc : sc.1 = 0) (hL : sc.2.1 < 2147483648) (k : Nat) (hk : k < 2147483648) (hp : g_H) : AMet l sc yL_cell cL_cell 2 (some .int) 0 0 0 [.ref 0, iv (k : Int)] hp (fun w hp' => w = some (iv (cv sc k)) ∧ hp' = hp) := by
  obtain ⟨s1, Ls, xs⟩ := sc
  have hsc : s1 = 0 := hsc
  subst hsc
  have hL : Ls < 2147483648 := hL
  refine AMet.of (own := RL) (by decide +kernel) rfl (Nat.le_of_ble_eq_true rfl) [(0, .ref 0), (1, iv (k : Int))] rfl (fun D base ad => ?_)
  refine aw_iload_n (pc := 0) dL_cell_0 rfl ?_
  refine aw_aload_n (pc := 1) dL_cell_1 rfl ?_
  refine lx_slen (pc := 2) (z := (Ls : Int)) (inN hL) rfl dL_cell_2 ?_
  refine lx_icmp_ge (pc := 3) 12 ⟨by omega, by omega⟩ ⟨by omega, by omega⟩ dL_cell_3 rfl (fun hb => ?_) (fun hb => ?_)
  · skip
    refine cx_iconst (pc := 12) dL_cell_12 ?_
    exact aw_iret (pc := 13) rfl rfl (Nat.le_of_ble_eq_true rfl) (Nat.le_of_ble_eq_true rfl) dL_cell_13 ⟨by unfold cv; rw [if_neg (show ¬ k < Ls by omega)], rfl⟩
  · skip
    refine aw_aload_n (pc := 6) dL_cell_6 rfl ?_
    refine aw_iload_n (pc := 7) dL_cell_7 rfl ?_
    refine lx_sld (pc := 8) (show k < Ls by omega) (inN hk) dL_cell_8 ?_
    refine aw_goto (pc := 9) 13 dL_cell_9 rfl ?_
    exact aw_iret (pc := 13) rfl rfl (Nat.le_of_ble_eq_true rfl) (Nat.le_of_ble_eq_true rfl) dL_cell_13 ⟨by unfold cv; rw [if_pos (show k < Ls by omega)], rfl⟩
def isF (o : Int) (w : Nat) : Int := if o = 2 ∨ o = (if w = 0 then 1 else -1) then 1 else 0
theorem isF_01 (o : Int) (w : Nat) : isF o w = 0 ∨ isF o w = 1 := by
  unfold isF
  by_cases h : o = 2 ∨ o = (if w = 0 then 1 else -1)
  · rw [if_pos h]; exact Or.inr rfl
  · rw [if_neg h]; exact Or.inl rfl
theorem s_L_isFirst (l : Launch) (sc : g_S) (o : Int) (w : Nat) (ho : inR o) (hw : w < 2) (hp : g_H) : AMet l sc yL_isFirst cL_isFirst 2 (some .boolean) 0 0 0 [iv o, iv (w : Int)] hp (fun v hp' => v = some (iv (isF o w)) ∧ hp' = hp) := by
  obtain ⟨o1, o2⟩ := id ho
  refine AMet.of (own := RL) (by decide +kernel) rfl (Nat.le_of_ble_eq_true rfl) [(0, iv o), (1, iv (w : Int))] rfl (fun D base ad => ?_)
  refine aw_iload_n (pc := 0) dL_isFirst_0 rfl ?_
  refine cx_iconst (pc := 1) dL_isFirst_1 ?_
  refine lx_icmp_eq (pc := 2) 18 ⟨by omega, by omega⟩ ⟨by omega, by omega⟩ dL_isFirst_2 rfl (fun hb => ?_) (fun hb => ?_)
  · skip
    refine cx_iconst (pc := 18) dL_isFirst_18 ?_
    refine aw_goto (pc := 19) 23 dL_isFirst_19 rfl ?_
    exact aw_iret (pc := 23) rfl (by decide +kernel) (Nat.le_of_ble_eq_true rfl) (Nat.le_of_ble_eq_true rfl) dL_isFirst_23 ⟨by unfold isF; rw [if_pos (Or.inl (by omega))], rfl⟩
  · skip
    refine aw_iload_n (pc := 5) dL_isFirst_5 rfl ?_
    refine aw_iload_n (pc := 6) dL_isFirst_6 rfl ?_
    refine lx_if_ne (pc := 7) 14 ⟨by omega, by omega⟩ dL_isFirst_7 rfl (fun hw1 => ?_) (fun hw1 => ?_)
    · skip
      have e : (if w = 0 then (1 : Int) else -1) = -1 := if_neg (by omega)
      refine cx_iconst (pc := 14) dL_isFirst_14 ?_
      refine lx_icmp_ne (pc := 15) 22 ⟨by omega, by omega⟩ ⟨by omega, by omega⟩ dL_isFirst_15 rfl (fun hb => ?_) (fun hb => ?_)
      · skip
        refine cx_iconst (pc := 22) dL_isFirst_22 ?_
        exact aw_iret (pc := 23) rfl (by decide +kernel) (Nat.le_of_ble_eq_true rfl) (Nat.le_of_ble_eq_true rfl) dL_isFirst_23 ⟨by unfold isF; rw [e, if_neg (by omega)], rfl⟩
      · skip
        refine cx_iconst (pc := 18) dL_isFirst_18 ?_
        refine aw_goto (pc := 19) 23 dL_isFirst_19 rfl ?_
        exact aw_iret (pc := 23) rfl (by decide +kernel) (Nat.le_of_ble_eq_true rfl) (Nat.le_of_ble_eq_true rfl) dL_isFirst_23 ⟨by unfold isF; rw [e, if_pos (by omega)], rfl⟩
    · skip
      have e : (if w = 0 then (1 : Int) else -1) = 1 := if_pos (by omega)
      refine cx_iconst (pc := 10) dL_isFirst_10 ?_
      refine aw_goto (pc := 11) 15 dL_isFirst_11 rfl ?_
      refine lx_icmp_ne (pc := 15) 22 ⟨by omega, by omega⟩ ⟨by omega, by omega⟩ dL_isFirst_15 rfl (fun hb => ?_) (fun hb => ?_)
      · skip
        refine cx_iconst (pc := 22) dL_isFirst_22 ?_
        exact aw_iret (pc := 23) rfl (by decide +kernel) (Nat.le_of_ble_eq_true rfl) (Nat.le_of_ble_eq_true rfl) dL_isFirst_23 ⟨by unfold isF; rw [e, if_neg (by omega)], rfl⟩
      · skip
        refine cx_iconst (pc := 18) dL_isFirst_18 ?_
        refine aw_goto (pc := 19) 23 dL_isFirst_19 rfl ?_
        exact aw_iret (pc := 23) rfl (by decide +kernel) (Nat.le_of_ble_eq_true rfl) (Nat.le_of_ble_eq_true rfl) dL_isFirst_23 ⟨by unfold isF; rw [e, if_pos (by omega)], rfl⟩
