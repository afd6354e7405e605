/-! MORE SMALL CALLS -/
section FR2
variable {n : Nat} {m : Mem}
theorem sum_00 (m2 : Mem) : f_X11_sum n 0 0 m2 = some (0, m2) := by
  show h_X11_sum n (99 + 1) 0 0 m2 = _
  rw [h_X11_sum_s]
  apply rk_eq
  unfold b_X11_sum
  refine ok_jn ?_
  rw [if_pos rfl]
  exact ok_rt ⟨w32_0', rfl⟩
theorem who_eq {w : Int} (m2 : Mem) : f_X11_isWho n w m2 = some (b2i (decide (0 ≤ w ∧ w ≤ 1)), m2) := by
  apply rk_eq
  unfold f_X11_isWho
  exact ok_calE in_eq (ok_rtZ (rb_01 _) ⟨rfl, rfl⟩)
theorem weightOf_0 (m2 : Mem) : f_X11_weightOf n 0 m2 = some (0, m2) := by
  show h_X11_weightOf n (39 + 1) 0 m2 = _
  rw [h_X11_weightOf_s]
  unfold b_X11_weightOf
  rw [if_pos rfl]
  rfl
theorem routcome_ok (h : FR m) {p q : Int} : Ok (f_X11_outcome n p q m) (fun v _ => v = ans2 p q 0) := by
  unfold f_X11_outcome
  refine ok_calE rSlot_eq ?_
  refine ok_jn ?_
  unfold ans2
  by_cases hp : 0 ≤ p ∧ p ≤ 7
  · rw [decide_eq_true hp, if_neg (by decide)]
    refine ok_calE rSlot_eq ?_
    by_cases hq : 0 ≤ q ∧ q ≤ 7
    · rw [decide_eq_true hq, if_neg (by decide), if_pos ⟨hp.1, hp.2, hq.1, hq.2⟩]
      obtain ⟨p', rfl⟩ : ∃ p' : Nat, p = (p' : Int) := ⟨p.toNat, by omega⟩
      obtain ⟨q', rfl⟩ : ∃ q' : Nat, q = (q' : Int) := ⟨q.toNat, by omega⟩
      refine ok_calE (gathers_eq h.rb.1) ?_
      rw [ldI_ok (len := 8) rfl (by omega), h.s (by omega), ldI_ok (len := 8) rfl (by omega), h.s (by omega)]
      exact ok_calE (sum_00 m) (ok_calE (orderOf_00 m) (ok_rt rfl))
    · rw [decide_eq_false hq, if_pos rb_f, if_neg (fun z => hq ⟨z.2.2.1, z.2.2.2⟩)]
      exact no1 m
  · rw [decide_eq_false hp, if_pos rb_f, if_neg (fun z => hp ⟨z.1, z.2.1⟩)]
    exact no1 m
def ans3 (p q r v : Int) : Int := if (0 ≤ p ∧ p ≤ 7) ∧ (0 ≤ q ∧ q ≤ 7) ∧ (0 ≤ r ∧ r ≤ 7) then v else -1100000001
theorem rplus_ok (hn : BIG < n) (h : FR m) {p q r : Int} : Ok (f_X11_plus n p q r m) (fun v _ => v = ans3 p q r 1) := by
  unfold f_X11_plus
  refine ok_calE rSlot_eq ?_
  refine ok_jn ?_
  unfold ans3
  by_cases hp : 0 ≤ p ∧ p ≤ 7
  · rw [decide_eq_true hp, if_neg (by decide)]
    refine ok_calE rSlot_eq ?_
    by_cases hq : 0 ≤ q ∧ q ≤ 7
    · rw [decide_eq_true hq, if_neg (by decide)]
      refine ok_calE rSlot_eq ?_
      by_cases hr : 0 ≤ r ∧ r ≤ 7
      · rw [decide_eq_true hr, if_neg (by decide), if_pos ⟨hp, hq, hr⟩]
        obtain ⟨p', rfl⟩ : ∃ p' : Nat, p = (p' : Int) := ⟨p.toNat, by omega⟩
        obtain ⟨q', rfl⟩ : ∃ q' : Nat, q = (q' : Int) := ⟨q.toNat, by omega⟩
        obtain ⟨r', rfl⟩ : ∃ r' : Nat, r = (r' : Int) := ⟨r.toNat, by omega⟩
        refine ok_calE (gathers_eq h.rb.1) ?_
        rw [ldI_ok (len := 8) rfl (by omega), h.s (by omega), ldI_ok (len := 8) rfl (by omega), h.s (by omega)]
        exact ok_calE (sum_00 m) (ok_cal (holds0_ok hn h (by omega)) (fun v m2 hv => ok_rt hv))
      · rw [decide_eq_false hr, if_pos rb_f, if_neg (fun z => hr z.2.2)]
        exact no1 m
    · rw [decide_eq_false hq, if_pos rb_f, if_neg (fun z => hq z.2.1)]
      exact no1 m
  · rw [decide_eq_false hp, if_pos rb_f, if_neg (fun z => hp z.1)]
    exact no1 m
theorem rminus_ok (hn : BIG < n) (h : FR m) {p q : Int} : Ok (f_X11_minus n p q m) (fun v _ => v = ans2 p q 1) := by
  unfold f_X11_minus
  refine ok_calE rSlot_eq ?_
  refine ok_jn ?_
  unfold ans2
  by_cases hp : 0 ≤ p ∧ p ≤ 7
  · rw [decide_eq_true hp, if_neg (by decide)]
    refine ok_calE rSlot_eq ?_
    by_cases hq : 0 ≤ q ∧ q ≤ 7
    · rw [decide_eq_true hq, if_neg (by decide), if_pos ⟨hp.1, hp.2, hq.1, hq.2⟩]
      obtain ⟨p', rfl⟩ : ∃ p' : Nat, p = (p' : Int) := ⟨p.toNat, by omega⟩
      obtain ⟨q', rfl⟩ : ∃ q' : Nat, q = (q' : Int) := ⟨q.toNat, by omega⟩
      refine ok_calE (gathers_eq h.rb.1) ?_
      rw [ldI_ok (len := 8) rfl (by omega), h.s (by omega)]
      have g0 : gneg 0 = 0 := gneg_0
      have f0 := fz_0
      have z0 : T0.d 0 = 0 := rfl
      have NI0 : NI WF 0 := fun x' hx K hK e => by
        have : x' = 0 := by have := fol_le hx; omega
        subst this
        rw [g0] at e
        rw [can_uniq hK (can_hc 0) e]
        exact WF_hc (by decide)
      have ng := fneg_ok (a := 0) (t := 0) hn h.rb.1 (by decide) (by rw [z0, bd_0]; decide) (by rw [z0]; exact NI0) h.rb.2.2.1 (by rw [z0, bd_0]; decide) (by rw [z0, f0]; decide)
      rw [z0, g0] at ng
      refine ok_cal ng (fun v m2 hq => ?_)
      refine ok_cal (holdsS_ok (p := p') hn h.rb hq (can_hc 0) (by omega)) (fun v m3 hv => ok_rt ?_)
      rw [hv, ans_y fits_0, wid_0']
      rfl
    · rw [decide_eq_false hq, if_pos rb_f, if_neg (fun z => hq ⟨z.2.2.1, z.2.2.2⟩)]
      exact no1 m
  · rw [decide_eq_false hp, if_pos rb_f, if_neg (fun z => hp ⟨z.1, z.2.1⟩)]
    exact no1 m
def ansO (p q w : Int) : Int := if (0 ≤ p ∧ p ≤ 7) ∧ (0 ≤ q ∧ q ≤ 7) ∧ (0 ≤ w ∧ w ≤ 1) then -1100000002 else -1100000001
theorem roption_ok (h : FR m) {p q w i : Int} : Ok (f_X11_option n p q w i m) (fun v _ => v = ansO p q w) := by
  unfold f_X11_option
  refine ok_calE rSlot_eq ?_
  refine ok_jn ?_
  unfold ansO
  by_cases hp : 0 ≤ p ∧ p ≤ 7
  · rw [decide_eq_true hp, if_neg (by decide)]
    refine ok_calE rSlot_eq ?_
    by_cases hq : 0 ≤ q ∧ q ≤ 7
    · rw [decide_eq_true hq, if_neg (by decide)]
      refine ok_calE (who_eq m) ?_
      by_cases hr : 0 ≤ w ∧ w ≤ 1
      · rw [decide_eq_true hr, if_neg (by decide), if_pos ⟨hp, hq, hr⟩]
        obtain ⟨q', rfl⟩ : ∃ q' : Nat, q = (q' : Int) := ⟨q.toNat, by omega⟩
        rw [ldI_ok (len := 8) rfl (by omega), h.s (by omega)]
        refine ok_calE (optionMany_00 h) ?_
        refine ok_calE in_eq ?_
        have e : w32 (0 - 1) = -1 := by decide +kernel
        rw [e, decide_eq_false (show ¬ (0 ≤ i ∧ i ≤ -1) by omega), if_pos rb_f]
        exact no2 m
      · rw [decide_eq_false hr, if_pos rb_f, if_neg (fun z => hr z.2.2)]
        exact no1 m
    · rw [decide_eq_false hq, if_pos rb_f, if_neg (fun z => hq z.2.1)]
      exact no1 m
  · rw [decide_eq_false hp, if_pos rb_f, if_neg (fun z => hp z.1)]
    exact no1 m
def ans1 (p v : Int) : Int := if 0 ≤ p ∧ p ≤ 7 then v else -1100000001
theorem rfar_ok (hn : BIG < n) (h : FR m) {p : Int} : Ok (f_X11_far n p m) (fun v _ => v = ans1 p 2) := by
  have hF : ∀ j, j ≤ 10 → hc j ∈ hc 10 :: WF := fun j hj => by
    by_cases q : j = 10
    · rw [q]; exact List.mem_cons_self ..
    · exact List.mem_cons_of_mem _ (WF_hc (by omega))
  have B := h.1 (hc 10 :: WF) (by rw [List.length_cons, WF_len]; decide) (fun x hx => by
    rcases List.mem_cons.mp hx with e | hx
    · rw [e, bd_hc]; decide
    · have := WF_bd hx; omega) (List.mem_cons_of_mem _ (by rw [← hc_0]; exact WF_hc (by decide)))
  unfold f_X11_far
  refine ok_calE rSlot_eq ?_
  unfold ans1
  by_cases hp : 0 ≤ p ∧ p ≤ 7
  · rw [decide_eq_true hp, if_neg (by decide), if_pos hp]
    obtain ⟨p', rfl⟩ : ∃ p' : Nat, p = (p' : Int) := ⟨p.toNat, by omega⟩
    refine ok_calE (gathers_eq h.rb.1) ?_
    rw [ldI_ok (len := 8) rfl (by omega), h.s (by omega)]
    refine ok_cal (rheapOf_ok (p := 10) hn B.1 B.2.2.1 (by decide) (by decide) (by decide) hF) (fun v m2 hq => ?_)
    obtain ⟨⟨u, T2, s2, rfl, hu, gu, ex, R2, _, _⟩, _⟩ := hq
    have du : T2.d u = hc 10 := can_uniq (R2.1.can hu) (can_hc 10) gu
    have d0 := R2.1.d0
    have n0 := R2.1.1.2.2.1
    have z : ∀ a b, a ≠ b → gleB (hc a) (hc b) = false := fun a b ne => Bool.eq_false_iff.mpr (fun e => ne (hc_le ((gleB_iff _ _).mp e)))
    have u0 : u ≠ 0 := fun e => by
      rw [e, d0, ← hc_0] at du
      have := hc_inj du
      omega
    unfold f_X11_orderOf
    rw [if_neg (by omega)]
    refine ok_cal (P := fun v m' => v = 2) ?_ (fun v m3 hv => ok_rt hv)
    refine ok_cal (atMost_ok (g := 0) (h := u) (BIG_n hn) R2.1 R2.2.1 n0 hu) (fun v m3 hq => ?_)
    obtain ⟨rfl, M3, c3⟩ := hq
    refine ok_jn ?_
    have e1 : gleB (T2.d 0) (T2.d u) = false := by rw [d0, du, ← hc_0]; exact z 0 10 (by decide)
    have e2 : gleB (T2.d u) (T2.d 0) = false := by rw [d0, du, ← hc_0]; exact z 10 0 (by decide)
    rw [e1, if_pos rb_f]
    refine ok_cal (atMost_ok (g := u) (h := 0) (BIG_n hn) (R2.1.sp c3) M3 hu n0) (fun v m4 hq => ?_)
    obtain ⟨rfl, _, _⟩ := hq
    rw [e2, if_pos rb_f]
    exact ok_rt rfl
  · rw [decide_eq_false hp, if_pos rb_f, if_neg hp]
    exact no1 m
theorem wrongSmall_eq (h : FR m) {p : Int} : f_X11_wrongSmall n p m = some (if 0 ≤ p ∧ p ≤ 7 then 0 else 1, m) := by
  obtain ⟨r1, r2, r3, r4, r5, r6, r7, r8⟩ := h.row
  apply rk_eq
  unfold f_X11_wrongSmall
  refine ok_calE rSlot_eq ?_
  refine ok_jn ?_
  by_cases hp : 0 ≤ p ∧ p ≤ 7
  · rw [decide_eq_true hp, if_neg (by decide), if_pos hp]
    obtain ⟨p', rfl⟩ : ∃ p' : Nat, p = (p' : Int) := ⟨p.toNat, by omega⟩
    have e : ldZ m 110 0 = fun K => K (mGet m 110 0) := funext (fun K => ldZ_ok (i := 0) (len := 16000) rfl (by decide))
    rw [ldI_ok (len := 8) rfl (by omega), h.s (by omega), e]
    show Ok (if mGet m 110 0 = 0 then _ else _) _
    rw [r8, if_neg (by decide)]
    exact ok_rt ⟨rfl, rfl⟩
  · rw [decide_eq_false hp, if_pos rb_f, if_neg hp]
    exact ok_rt ⟨rfl, rfl⟩
theorem numberOf_eq (h : FR m) {p : Nat} (hp : p < 8) : f_X11_numberOf n (p : Int) m = some (0, m) := by
  obtain ⟨r1, r2, r3, r4, r5, r6, r7, r8⟩ := h.row
  apply rk_eq
  unfold f_X11_numberOf
  rw [ldI_ok (len := 8) rfl hp, h.s hp]
  refine ok_calE (weightOf_0 m) ?_
  rw [ld0 (len := 16000) rfl (by decide), r5]
  exact ok_rt ⟨rfl, rfl⟩
theorem ratomic_ok (h : FR m) {p : Int} : Ok (f_X11_atomic n p m) (fun v _ => v = ans1 p 0) := by
  unfold f_X11_atomic
  refine ok_calE (wrongSmall_eq h) ?_
  unfold ans1
  by_cases hp : 0 ≤ p ∧ p ≤ 7
  · rw [if_pos hp, if_pos rfl, if_pos hp]
    obtain ⟨p', rfl⟩ : ∃ p' : Nat, p = (p' : Int) := ⟨p.toNat, by omega⟩
    refine ok_calE (gathers_eq h.rb.1) ?_
    refine ok_calE (numberOf_eq h (by omega)) ?_
    refine ok_jn ?_
    rw [if_neg (by decide)]
    exact ok_rt rfl
  · rw [if_neg hp, if_neg (by decide), if_neg hp]
    exact no1 m
theorem rahead_ok (h : FR m) {p : Int} : Ok (f_X11_ahead n p m) (fun v _ => v = ans1 p 0) := by
  unfold f_X11_ahead
  refine ok_calE (wrongSmall_eq h) ?_
  unfold ans1
  by_cases hp : 0 ≤ p ∧ p ≤ 7
  · rw [if_pos hp, if_pos rfl, if_pos hp]
    obtain ⟨p', rfl⟩ : ∃ p' : Nat, p = (p' : Int) := ⟨p.toNat, by omega⟩
    refine ok_calE (gathers_eq h.rb.1) ?_
    refine ok_calE (numberOf_eq h (by omega)) ?_
    refine ok_jn ?_
    rw [if_neg (by decide), if_pos (by decide), if_pos (by decide)]
    exact ok_rt rfl
  · rw [if_neg hp, if_neg (by decide), if_neg hp]
    exact no1 m
theorem rweight_ok (hn : BIG < n) (h : FR m) {p q : Int} : Ok (f_X11_weight n p q m) (fun v _ => v = ans2 p q 1) := by
  obtain ⟨r1, r2, r3, r4, r5, r6, r7, r8⟩ := h.row
  unfold f_X11_weight
  refine ok_calE rSlot_eq ?_
  refine ok_jn ?_
  unfold ans2
  by_cases hp : 0 ≤ p ∧ p ≤ 7
  · rw [decide_eq_true hp, if_neg (by decide)]
    refine ok_calE (wrongSmall_eq h) ?_
    by_cases hq : 0 ≤ q ∧ q ≤ 7
    · rw [if_pos hq, if_pos ⟨hp.1, hp.2, hq.1, hq.2⟩]
      show Ok (if (0 : Int) = 0 then _ else _) _
      rw [if_pos rfl]
      obtain ⟨p', rfl⟩ : ∃ p' : Nat, p = (p' : Int) := ⟨p.toNat, by omega⟩
      obtain ⟨q', rfl⟩ : ∃ q' : Nat, q = (q' : Int) := ⟨q.toNat, by omega⟩
      refine ok_calE (gathers_eq h.rb.1) ?_
      rw [ldI_ok (len := 8) rfl (by omega), h.s (by omega)]
      refine ok_calE (weightOf_0 m) ?_
      have b := h.rb
      have hh := holds_ok2 (n := n) (g := 0) (p := p') (BIG_n hn) b.1.1 (by decide) b.2.2.2.2.1 (by decide) (by omega) b.2.2.2.2.2.2.1
      refine ok_cal hh (fun v m2 hv => ?_)
      have e : v = 1 := hv.1.trans (by rw [show T0.d 0 = 0 from rfl, ans_y fits_0, wid_0']; rfl)
      rw [e]
      refine ok_jn ?_
      rw [if_neg (by decide), ld0 (len := 16000) rfl (by decide), hv.2 0, r5, if_neg (by decide)]
      exact ok_rt rfl
    · rw [if_neg hq, if_neg (fun z => hq ⟨z.2.2.1, z.2.2.2⟩)]
      show Ok (if (1 : Int) = 0 then _ else _) _
      rw [if_neg (by decide)]
      exact no1 m
  · rw [decide_eq_false hp, if_pos rb_f, if_neg (fun z => hp ⟨z.1, z.2.1⟩)]
    show Ok (if (1 : Int) = 0 then _ else _) _
    rw [if_neg (by decide)]
    exact no1 m
end FR2
