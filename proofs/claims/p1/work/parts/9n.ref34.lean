/-! THE SMALL CALLS, ALL SLOTS ZERO -/
def FR (m : Mem) : Prop := (∀ F : List Nat, F.length ≤ 200 → (∀ x, x ∈ F → bd x ≤ 40) → 0 ∈ F → RB m T0 F 0 0 0) ∧ mGet m 110 0 = 1 ∧ ∀ a i, ¬ ((a = 100 ∧ (i = 15 ∨ i = 16 ∨ i = 23 ∨ i = 24)) ∨ (103 ≤ a ∧ a ≤ 115)) → mGet m a i = 0
theorem FR_of {n : Nat} (hn : BIG < n) : Ok (f_X11_tail n mz) (fun _ m => FR m) := ok_mono (rstart_ok hn) (fun _ m h => ⟨h.1, h.2.1, h.2.2.2⟩)
theorem wv_0 : wv 0 = 0 := wv_pc 0
theorem hpv_0 : hpv 0 = 0 := by rw [← hc_0, hpv_hc]; rfl
theorem wid_0' : wid 0 = 1 := by rw [← iz_0, wid_iz]; rfl
theorem bl_0 : bl 0 = 1 := by unfold bl; rw [wd_0_len]; rfl
section FRs
variable {n : Nat} {m : Mem}
theorem FR.rb (h : FR m) : RB m T0 WF 0 0 0 := h.1 WF (by rw [WF_len]; decide) (fun x hx => by have := WF_bd hx; omega) (by rw [← hc_0]; exact WF_hc (by decide))
theorem FR.row (h : FR m) : mGet m 103 0 = 0 ∧ mGet m 104 0 = 0 ∧ mGet m 105 0 = 0 ∧ mGet m 106 0 = 0 ∧ mGet m 107 0 = 0 ∧ mGet m 108 0 = 0 ∧ mGet m 109 0 = 1 ∧ mGet m 110 0 = 1 := by
  obtain ⟨⟨a1, a2, a3, _⟩, _, c1, c2, c3, c4, _⟩ := h.rb.1.1.2.1 0 (by decide)
  have e : T0.d 0 = 0 := rfl
  rw [e] at c1 c2 c3 c4
  rw [bd_0] at c1
  rw [wv_0] at c2
  rw [hpv_0] at c3
  rw [bl_0] at c4
  exact ⟨a1, a2, a3, c1, c2, c3, c4, h.2.1⟩
theorem FR.s (h : FR m) {i : Nat} (hi : i < 8) : mGet m 129 i = 0 := h.rb.2.2.2.2.2.2.2 i hi
theorem no1 (m2 : Mem) : Ok (cal (f_X11_no n 1 m2) fun x27 m27 => rt x27 m27) (fun v _ => v = -1100000001) := ok_calE (no_eq (k := 1) (by decide)) (ok_rt rfl)
theorem no2 (m2 : Mem) : Ok (cal (f_X11_no n 2 m2) fun x27 m27 => rt x27 m27) (fun v _ => v = -1100000002) := ok_calE (no_eq (k := 2) (by decide)) (ok_rt rfl)
theorem orderOf_00 (m2 : Mem) : f_X11_orderOf n 0 0 m2 = some (0, m2) := by
  unfold f_X11_orderOf
  rw [if_pos rfl]
  rfl
def ansSlot (p f : Int) : Int := if 0 ≤ p ∧ p ≤ 7 ∧ 0 ≤ f ∧ f ≤ 8 then (if f = 0 ∨ f = 5 ∨ f = 6 ∨ f = 8 then 1 else 0) else -1100000001
theorem ld0 {c : Nat} {K : Int → Option Rz} {m2 : Mem} {len : Nat} (hk : sKind m2 c = (1, len)) (hi : 0 < len) : ldI m2 c 0 K = K (mGet m2 c 0) := ldI_ok (i := 0) hk hi
theorem optionMany_00 (h : FR m) {w : Int} : f_X11_optionMany n 0 w m = some (0, m) := by
  obtain ⟨r1, r2, r3, _⟩ := h.row
  apply rk_eq
  unfold f_X11_optionMany
  refine ok_jn ?_
  by_cases q : w = 0
  · rw [if_pos q, ld0 (len := 16000) rfl (by decide), ld0 (len := 16000) rfl (by decide), r1, r2]
    exact ok_rt ⟨w32_0', rfl⟩
  · rw [if_neg q, ld0 (len := 16000) rfl (by decide), ld0 (len := 16000) rfl (by decide), r3, r2]
    exact ok_rt ⟨w32_0', rfl⟩
theorem rslot_ok (hn : BIG < n) (h : FR m) {p f : Int} : Ok (f_X11_slot n p f m) (fun v _ => v = ansSlot p f) := by
  obtain ⟨r1, r2, r3, r4, r5, r6, r7, r8⟩ := h.row
  unfold f_X11_slot
  refine ok_calE rSlot_eq ?_
  refine ok_jn ?_
  by_cases hp : 0 ≤ p ∧ p ≤ 7
  · rw [decide_eq_true hp, if_neg (by decide)]
    refine ok_calE in_eq ?_
    by_cases hf : 0 ≤ f ∧ f ≤ 8
    · rw [decide_eq_true hf, if_neg (by decide)]
      unfold ansSlot
      rw [if_pos ⟨hp.1, hp.2, hf.1, hf.2⟩]
      obtain ⟨p', rfl⟩ : ∃ p' : Nat, p = (p' : Int) := ⟨p.toNat, by omega⟩
      rw [ldI_ok (len := 8) rfl (by omega), h.s (by omega)]
      refine ok_jn ?_
      by_cases q0 : f = 0
      · rw [if_pos q0, if_pos (Or.inl q0)]
        have := width_ok (n := n) (g := 0) (BIG_n hn) h.rb.1.1 (by decide) h.rb.2.2.2.2.1 (by decide)
        refine ok_cal this (fun v m2 hq => ok_rt (hq.1.trans ?_))
        rw [show T0.d 0 = 0 from rfl, wid_0']
        rfl
      · rw [if_neg q0]
        by_cases q1 : f = 1
        · rw [if_pos q1, if_neg (by omega), ld0 (len := 16000) rfl (by decide), r4]
          exact ok_rt rfl
        · rw [if_neg q1]
          by_cases q2 : f = 2
          · rw [if_pos q2, if_neg (by omega)]
            exact ok_calE (optionMany_00 h) (ok_rt rfl)
          · rw [if_neg q2]
            by_cases q3 : f = 3
            · rw [if_pos q3, if_neg (by omega)]
              exact ok_calE (optionMany_00 h) (ok_rt rfl)
            · rw [if_neg q3]
              by_cases q4 : f = 4
              · rw [if_pos q4, if_neg (by omega)]
                exact ok_calE (orderOf_00 m) (ok_rt rfl)
              · rw [if_neg q4]
                by_cases q5 : f = 5
                · have e : ldZ m 110 0 = fun K => K (mGet m 110 0) := funext (fun K => ldZ_ok (i := 0) (len := 16000) rfl (by decide))
                  rw [if_pos q5, if_pos (by omega), e]
                  show Ok (jn _ _) _
                  refine ok_jn ?_
                  rw [r8, if_neg (by decide)]
                  exact ok_rt rfl
                · rw [if_neg q5]
                  by_cases q6 : f = 6
                  · rw [if_pos q6, if_pos (by omega), ld0 (len := 16000) rfl (by decide), r7]
                    exact ok_rt rfl
                  · rw [if_neg q6]
                    by_cases q7 : f = 7
                    · rw [if_pos q7, if_neg (by omega), ld0 (len := 16000) rfl (by decide), r6]
                      exact ok_rt rfl
                    · rw [if_neg q7, if_pos (by omega), ld0 (len := 16000) rfl (by decide), r5]
                      refine ok_jn ?_
                      rw [if_neg (by decide)]
                      exact ok_rt rfl
    · rw [decide_eq_false hf, if_pos rb_f]
      unfold ansSlot
      rw [if_neg (fun z => hf ⟨z.2.2.1, z.2.2.2⟩)]
      exact no1 m
  · rw [decide_eq_false hp, if_pos rb_f]
    unfold ansSlot
    rw [if_neg (fun z => hp ⟨z.1, z.2.1⟩)]
    exact no1 m
def ansInt (p : Int) : Int := if 0 ≤ p ∧ p ≤ 7 then 0 else -1100000001
theorem rinteger_ok (h : FR m) {p : Int} : Ok (f_X11_integer n p m) (fun v _ => v = ansInt p) := by
  obtain ⟨r1, r2, r3, r4, r5, r6, r7, r8⟩ := h.row
  unfold f_X11_integer
  refine ok_calE rSlot_eq ?_
  by_cases hp : 0 ≤ p ∧ p ≤ 7
  · rw [decide_eq_true hp, if_neg (by decide)]
    unfold ansInt
    rw [if_pos hp]
    obtain ⟨p', rfl⟩ : ∃ p' : Nat, p = (p' : Int) := ⟨p.toNat, by omega⟩
    rw [ldI_ok (len := 8) rfl (by omega), h.s (by omega), ld0 (len := 16000) rfl (by decide), r5]
    refine ok_jn ?_
    rw [if_neg (by decide), ldI_ok (len := 8) rfl (by omega), h.s (by omega), ld0 (len := 16000) rfl (by decide), r5]
    exact ok_rt rfl
  · rw [decide_eq_false hp, if_pos rb_f]
    unfold ansInt
    rw [if_neg hp]
    exact no1 m
/-- the answer where two slots are asked for -/
def ans2 (p q v : Int) : Int := if 0 ≤ p ∧ p ≤ 7 ∧ 0 ≤ q ∧ q ≤ 7 then v else -1100000001
theorem rorder_ok (h : FR m) {p q : Int} : Ok (f_X11_order n p q m) (fun v _ => v = ans2 p q 0) := by
  have bad : ∀ m2, Ok (cal (f_X11_no n 1 m2) fun x27 m27 => rt x27 m27) (fun v _ => v = -1100000001) := no1
  unfold f_X11_order
  refine ok_calE rSlot_eq ?_
  refine ok_jn ?_
  refine ok_jn ?_
  unfold ans2
  by_cases hp : 0 ≤ p ∧ p ≤ 7
  · rw [decide_eq_true hp, if_neg (by decide)]
    refine ok_calE rSlot_eq ?_
    by_cases hq : 0 ≤ q ∧ q ≤ 7
    · rw [decide_eq_true hq, if_neg (by decide), if_pos ⟨hp.1, hp.2, hq.1, hq.2⟩]
      obtain ⟨p', rfl⟩ : ∃ p' : Nat, p = (p' : Int) := ⟨p.toNat, by omega⟩
      obtain ⟨q', rfl⟩ : ∃ q' : Nat, q = (q' : Int) := ⟨q.toNat, by omega⟩
      rw [ldI_ok (len := 8) rfl (by omega), h.s (by omega), ldI_ok (len := 8) rfl (by omega), h.s (by omega)]
      exact ok_calE (orderOf_00 m) (ok_rt rfl)
    · rw [decide_eq_false hq, if_pos rb_f, if_neg (fun z => hq ⟨z.2.2.1, z.2.2.2⟩)]
      exact bad m
  · rw [decide_eq_false hp, if_pos rb_f, if_neg (fun z => hp ⟨z.1, z.2.1⟩)]
    exact bad m
theorem holds0_ok (hn : BIG < n) (h : FR m) {p : Nat} (hp : p < 8) : Ok (f_X11_holds n (p : Int) 0 m) (fun v _ => v = 1) := by
  have b := h.rb
  have := holds_ok (n := n) (g := 0) (p := p) (BIG_n hn) b.1.1 (by decide) b.2.2.2.2.1 (by decide) hp b.2.2.2.2.2.2.1
  refine ok_mono this (fun v m2 hv => hv.trans ?_)
  rw [show T0.d 0 = 0 from rfl, ans_y fits_0, wid_0']
  rfl
theorem rmove_ok (hn : BIG < n) (h : FR m) {p q : Int} : Ok (f_X11_move n p q m) (fun v _ => v = ans2 p q 1) := by
  unfold f_X11_move
  refine ok_calE rSlot_eq ?_
  refine ok_jn ?_
  refine ok_jn ?_
  unfold ans2
  by_cases hp : 0 ≤ p ∧ p ≤ 7
  · rw [decide_eq_true hp, if_neg (by decide)]
    refine ok_calE rSlot_eq ?_
    by_cases hq : 0 ≤ q ∧ q ≤ 7
    · rw [decide_eq_true hq, if_neg (by decide), if_pos ⟨hp.1, hp.2, hq.1, hq.2⟩]
      obtain ⟨p', rfl⟩ : ∃ p' : Nat, p = (p' : Int) := ⟨p.toNat, by omega⟩
      obtain ⟨q', rfl⟩ : ∃ q' : Nat, q = (q' : Int) := ⟨q.toNat, by omega⟩
      rw [ldI_ok (len := 8) rfl (by omega), h.s (by omega)]
      exact ok_cal (holds0_ok hn h (by omega)) (fun v m2 hv => ok_rt hv)
    · rw [decide_eq_false hq, if_pos rb_f, if_neg (fun z => hq ⟨z.2.2.1, z.2.2.2⟩)]
      exact no1 m
  · rw [decide_eq_false hp, if_pos rb_f, if_neg (fun z => hp ⟨z.1, z.2.1⟩)]
    exact no1 m
theorem rundo_ok (h : FR m) : Ok (f_X11_undo n m) (fun v _ => v = -1100000002) := by
  unfold f_X11_undo
  rw [gtF_eq, h.rb.2.2.2.2.2.2.1, if_pos rfl]
  exact no2 m
end FRs
