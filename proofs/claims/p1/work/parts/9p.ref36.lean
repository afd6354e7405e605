/-! SHEETS, COUNTS, REPLIES -/
section FR3
variable {n : Nat} {m : Mem}
theorem no6 (m2 : Mem) : Ok (cal (f_X11_no n 6 m2) fun x27 m27 => rt x27 m27) (fun v _ => v = -1100000006) := ok_calE (no_eq (k := 6) (by decide)) (ok_rt rfl)
theorem FR.z (h : FR m) {a i : Nat} (ha : 116 ≤ a ∨ a = 101 ∨ a = 102 ∨ (a = 100 ∧ ¬ (i = 15 ∨ i = 16 ∨ i = 23 ∨ i = 24))) : mGet m a i = 0 := h.2.2 a i (by omega)
theorem sheet_eq {p : Int} (m2 : Mem) : f_X11_isSheet n p m2 = some (b2i (decide (0 ≤ p ∧ p ≤ 3)), m2) := by
  apply rk_eq
  unfold f_X11_isSheet
  exact ok_calE in_eq (ok_rtZ (rb_01 _) ⟨rfl, rfl⟩)
theorem wrongCell_eq (h : FR m) {p q : Int} : f_X11_wrongCell n p q m = some (if 0 ≤ p ∧ p ≤ 3 then 6 else 1, m) := by
  apply rk_eq
  unfold f_X11_wrongCell
  refine ok_calE (sheet_eq m) ?_
  refine ok_jn ?_
  by_cases hp : 0 ≤ p ∧ p ≤ 3
  · rw [decide_eq_true hp, if_neg (by decide), if_pos hp]
    obtain ⟨p', rfl⟩ : ∃ p' : Nat, p = (p' : Int) := ⟨p.toNat, by omega⟩
    rw [ldI_ok (len := 4) rfl (by omega), h.z (by omega), if_pos rfl]
    exact ok_rt ⟨rfl, rfl⟩
  · rw [decide_eq_false hp, if_pos rb_f, if_neg hp]
    exact ok_rt ⟨rfl, rfl⟩
def ansS (p : Int) : Int := if 0 ≤ p ∧ p ≤ 3 then -1100000006 else -1100000001
theorem rput_ok (h : FR m) {p q r : Int} : Ok (f_X11_put n p q r m) (fun v _ => v = ansS p) := by
  unfold f_X11_put
  refine ok_calE (wrongCell_eq h) ?_
  unfold ansS
  by_cases hp : 0 ≤ p ∧ p ≤ 3
  · rw [if_pos hp, if_neg (by decide), if_pos hp]
    exact no6 m
  · rw [if_neg hp, if_neg (by decide), if_neg hp]
    exact no1 m
theorem rat_ok (h : FR m) {p q : Int} : Ok (f_X11_at n p q m) (fun v _ => v = ansS p) := by
  unfold f_X11_at
  refine ok_calE (wrongCell_eq h) ?_
  refine ok_jn ?_
  unfold ansS
  by_cases hp : 0 ≤ p ∧ p ≤ 3
  · rw [if_pos hp, if_neg (by decide), if_pos hp]
    exact no6 m
  · rw [if_neg hp, if_neg (by decide), if_neg hp]
    exact no1 m
def ansC (p q : Int) : Int := if (0 ≤ p ∧ p ≤ 3) ∧ (0 ≤ q ∧ q ≤ 3) then -1100000006 else -1100000001
theorem rcopy_ok (h : FR m) {p a q b c : Int} : Ok (f_X11_copy n p a q b c m) (fun v _ => v = ansC p q) := by
  unfold f_X11_copy
  refine ok_calE (sheet_eq m) ?_
  refine ok_jn ?_
  unfold ansC
  by_cases hp : 0 ≤ p ∧ p ≤ 3
  · rw [decide_eq_true hp, if_neg (by decide)]
    refine ok_calE (sheet_eq m) ?_
    by_cases hq : 0 ≤ q ∧ q ≤ 3
    · rw [decide_eq_true hq, if_neg (by decide), if_pos ⟨hp, hq⟩]
      obtain ⟨p', rfl⟩ : ∃ p' : Nat, p = (p' : Int) := ⟨p.toNat, by omega⟩
      rw [ldI_ok (len := 4) rfl (by omega), h.z (by omega)]
      refine ok_jn ?_
      rw [if_pos rfl]
      exact no6 m
    · rw [decide_eq_false hq, if_pos rb_f, if_neg (fun z => hq z.2)]
      exact no1 m
  · rw [decide_eq_false hp, if_pos rb_f, if_neg (fun z => hp z.1)]
    exact no1 m
def ansPl (p q w : Int) : Int := if (0 ≤ p ∧ p ≤ 3) ∧ (0 ≤ q ∧ q ≤ 7) ∧ (0 ≤ w ∧ w ≤ 1) then -1100000006 else -1100000001
theorem rplays_ok (h : FR m) {p q w : Int} : Ok (f_X11_plays n p q w m) (fun v _ => v = ansPl p q w) := by
  unfold f_X11_plays
  refine ok_calE (sheet_eq m) ?_
  refine ok_jn ?_
  unfold ansPl
  by_cases hp : 0 ≤ p ∧ p ≤ 3
  · rw [decide_eq_true hp, if_neg (by decide)]
    refine ok_calE rSlot_eq ?_
    by_cases hq : 0 ≤ q ∧ q ≤ 7
    · rw [decide_eq_true hq, if_neg (by decide)]
      refine ok_calE in_eq ?_
      by_cases hr : 0 ≤ w ∧ w ≤ 1
      · rw [decide_eq_true hr, if_neg (by decide), if_pos ⟨hp, hq, hr⟩]
        obtain ⟨p', rfl⟩ : ∃ p' : Nat, p = (p' : Int) := ⟨p.toNat, by omega⟩
        rw [ldI_ok (len := 4) rfl (by omega), h.z (by omega), if_pos rfl]
        exact no6 m
      · rw [decide_eq_false hr, if_pos rb_f, if_neg (fun z => hr z.2.2)]
        exact no1 m
    · rw [decide_eq_false hq, if_pos rb_f, if_neg (fun z => hq z.2.1)]
      exact no1 m
  · rw [decide_eq_false hp, if_pos rb_f, if_neg (fun z => hp z.1)]
    exact no1 m
theorem rrestore_ok (h : FR m) : Ok (f_X11_restore n m) (fun v _ => v = -1100000002) := by
  unfold f_X11_restore
  rw [gtF_eq, h.z (by omega), if_pos rfl]
  exact no2 m
def ansT (p : Int) : Int := if 1 ≤ p ∧ p ≤ 6 then 0 else -1100000001
theorem rtold_ok (h : FR m) {p : Int} : Ok (f_X11_told n p m) (fun v _ => v = ansT p) := by
  unfold f_X11_told
  refine ok_calE in_eq ?_
  refine ok_jn ?_
  unfold ansT
  by_cases hp : 1 ≤ p ∧ p ≤ 6
  · rw [decide_eq_true hp, if_neg (by decide), if_pos hp]
    obtain ⟨p', rfl⟩ : ∃ p' : Nat, p = (p' : Int) := ⟨p.toNat, by omega⟩
    rw [ldI_ok (len := 7) rfl (by omega), h.z (by omega)]
    exact ok_rt rfl
  · rw [decide_eq_false hp, if_pos rb_f, if_neg hp]
    exact no1 m
/-- a table with nothing but zero, whatever was seen -/
theorem allWidths_ok (hn : BIG < n) {q0 : Nat} (R : ∃ F, RT m T0.N T0.P T0.lo T0.ro T0.st T0.d F) (S : SnW m q0) (hq : q0 ≤ 100) (h129 : ∀ i, i < 8 → mGet m 129 i = 0) : Ok (f_X11_allWidths n m) (fun v _ => v = 8) := by
  obtain ⟨F, R⟩ := R
  have n4 := BIG_m hn
  unfold f_X11_allWidths
  refine ok_up2 (i := 0) 8 (fun k a m1 => a = (k : Int) ∧ (∃ q1, q1 ≤ q0 + k ∧ SnW m1 q1) ∧ Ch (fun a i => a = 126 ∨ (a = 100 ∧ i = 32)) m m1) (fun w k a m1 hk hI hw => ?_) (fun w a m1 hI => ?_) n 0 m (Nat.zero_le _) ⟨rfl, ⟨q0, by omega, S⟩, Ch.rf _ _⟩ (by omega)
  · obtain ⟨rfl, ⟨q1, l1, S1⟩, c1⟩ := hI
    have R1 : RT m1 T0.N T0.P T0.lo T0.ro T0.st T0.d F := R.ext (fun a i z => c1.2 a i (by unfold RCe at z; omega))
    rw [if_pos (by omega), ldI_ok (len := 8) rfl hk, c1.2 _ _ (by omega), h129 k hk]
    refine ok_cal (width_ok (g := 0) (BIG_n hn) R1 (by decide) S1 (by omega)) (fun v m2 hq => ?_)
    obtain ⟨rfl, S2, c2⟩ := hq
    refine ok_nm ?_
    rw [show T0.d 0 = 0 from rfl, wid_0', show (k : Int) + ((1 : Nat) : Int) = ((k + 1 : Nat) : Int) by omega, w32_nat (by omega), w32_1 (by omega)]
    exact hw _ m2 ⟨rfl, ⟨q1 + 1, by omega, S2⟩, c1.tr c2⟩
  · obtain ⟨rfl, _⟩ := hI
    rw [if_neg (by decide)]
    exact ok_rt rfl
theorem rimage_ok (hn : BIG < n) (h : FR m) : Ok (f_X11_image n m) (fun v _ => v = 8) := by
  have n4 := BIG_m hn
  have b := h.rb
  unfold f_X11_image
  refine ok_up1 (i := 0) 8 (fun k m1 => ∀ a i, a ≠ 132 → mGet m1 a i = mGet m a i) (fun w k m1 hk hI hw => ?_) (fun w m1 hI => ?_) n m (Nat.zero_le _) (fun _ _ _ => rfl) (by omega)
  · rw [if_pos (by omega), ldI_ok (len := 8) rfl hk, stI_ok (len := 8) rfl hk, w32_1 (by omega)]
    refine hw _ (fun a i z => ?_)
    rw [mGet_mSet, if_neg (by omega)]
    exact hI a i z
  · rw [if_neg (by decide)]
    have pz : ∀ K : Mem → Option Rz, ptZ m1 100 41 1 K = K (mSet m1 100 41 1) := fun K => rfl
    rw [pz]
    obtain ⟨m2, e2⟩ : ∃ m2, m2 = mSet m1 100 41 1 := ⟨_, rfl⟩
    rw [← e2]
    have g2 : ∀ a i, a ≠ 132 → ¬ (a = 100 ∧ i = 41) → mGet m2 a i = mGet m a i := fun a i z1 z2 => by
      rw [e2, mGet_mSet, if_neg z2]
      exact hI a i z1
    refine ok_cal (allWidths_ok hn ⟨WF, b.1.1.ext (fun a i z => g2 a i (by unfold RCe at z; omega) (by unfold RCe at z; omega))⟩ (b.2.2.2.2.1.ext (fun a i z => g2 a i (by omega) (by omega))) (by decide) (fun i hi => (g2 _ _ (by decide) (by omega)).trans (h.s hi))) (fun v m3 hv => ok_rt hv)
def ansR (p q w x v : Int) : Int := if (0 ≤ p ∧ p ≤ 7) ∧ (0 ≤ q ∧ q ≤ 7) ∧ (0 ≤ w ∧ w ≤ 1) ∧ (0 ≤ x ∧ x ≤ 1) then v else -1100000001
theorem replyIn_00 (hn : BIG < n) (h : FR m) {w : Int} : f_X11_replyIn n 0 0 w m = some (-1, m) := by
  have n4 := BIG_m hn
  apply rk_eq
  unfold f_X11_replyIn
  refine ok_calE (optionMany_00 h) ?_
  refine ok_calE (optionMany_00 h) ?_
  refine ok_nm ?_
  rw [Int.add_zero, w32_0']
  refine ok_up1 (i := 0) 0 (fun k m1 => m1 = m) (fun w k m1 hk hI hw => absurd hk (Nat.not_lt_zero _)) (fun w m1 hI => ?_) n m (Nat.le_refl _) rfl (by omega)
  rw [if_neg (by decide)]
  exact ok_rt ⟨rfl, hI⟩
theorem rreply_ok (hn : BIG < n) (h : FR m) {p q w x : Int} : Ok (f_X11_reply n p q w x m) (fun v _ => v = ansR p q w x (-1100000002)) := by
  unfold f_X11_reply
  refine ok_calE rSlot_eq ?_
  refine ok_jn ?_
  unfold ansR
  by_cases hp : 0 ≤ p ∧ p ≤ 7
  · rw [decide_eq_true hp, if_neg (by decide)]
    refine ok_calE rSlot_eq ?_
    by_cases hq : 0 ≤ q ∧ q ≤ 7
    · rw [decide_eq_true hq, if_neg (by decide)]
      refine ok_calE (who_eq m) ?_
      by_cases hw : 0 ≤ w ∧ w ≤ 1
      · rw [decide_eq_true hw, if_neg (by decide)]
        refine ok_calE in_eq ?_
        by_cases hx : 0 ≤ x ∧ x ≤ 1
        · rw [decide_eq_true hx, if_neg (by decide), if_pos ⟨hp, hq, hw, hx⟩]
          obtain ⟨p', rfl⟩ : ∃ p' : Nat, p = (p' : Int) := ⟨p.toNat, by omega⟩
          obtain ⟨q', rfl⟩ : ∃ q' : Nat, q = (q' : Int) := ⟨q.toNat, by omega⟩
          refine ok_calE (gathers_eq h.rb.1) ?_
          rw [ldI_ok (len := 8) rfl (by omega), h.s (by omega), ldI_ok (len := 8) rfl (by omega), h.s (by omega)]
          refine ok_calE (replyIn_00 hn h) ?_
          rw [ldI_ok (len := 8) rfl (by omega), h.s (by omega)]
          refine ok_calE (optionMany_00 h) ?_
          rw [if_pos (by decide)]
          exact no2 m
        · rw [decide_eq_false hx, if_pos rb_f, if_neg (fun z => hx z.2.2.2)]
          exact no1 m
      · rw [decide_eq_false hw, if_pos rb_f, if_neg (fun z => hw z.2.2.1)]
        exact no1 m
    · rw [decide_eq_false hq, if_pos rb_f, if_neg (fun z => hq z.2.1)]
      exact no1 m
  · rw [decide_eq_false hp, if_pos rb_f, if_neg (fun z => hp z.1)]
    exact no1 m
end FR3
