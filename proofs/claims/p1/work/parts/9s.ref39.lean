/-! AN EMPTY TAPE IS READ -/
section FR6
variable {n : Nat} {m : Mem}
theorem here_e (h50 : mGet m 100 50 = 0) (h49 : mGet m 100 49 = 0) : f_X11_here n m = some (-1, m) := by
  apply rk_eq
  unfold f_X11_here
  rw [gtF_eq, gtF_eq, h50, h49]
  refine ok_jn ?_
  rw [if_neg (by decide)]
  exact ok_rt ⟨rfl, rfl⟩
theorem isDigit_e (h50 : mGet m 100 50 = 0) (h49 : mGet m 100 49 = 0) : f_X11_isDigit n m = some (0, m) := by
  apply rk_eq
  unfold f_X11_isDigit
  refine ok_calE (here_e h50 h49) ?_
  refine ok_calE in_eq ?_
  exact ok_rtZ (rb_01 _) ⟨rfl, rfl⟩
/-- only the reader's own numbers change -/
def SRd (a i : Nat) : Prop := a = 100 ∧ (49 ≤ i ∧ i ≤ 54)
theorem sumRead_e (hn : BIG < n) (h50 : mGet m 100 50 = 0) (h49 : mGet m 100 49 = 0) (h51 : mGet m 100 51 = -1) : Ok (f_X11_sumRead n m) (fun v m' => v = 0 ∧ m' = mSet m 100 51 0) := by
  have n4 := BIG_m hn
  show Ok (h_X11_sumRead n (39 + 1) m) _
  rw [h_X11_sumRead_s]
  unfold b_X11_sumRead
  have un : Ok (h_X11_unit n 39 m) (fun v m' => v = 0 ∧ m' = mSet m 100 51 0) := by
    show Ok (h_X11_unit n (38 + 1) m) _
    rw [h_X11_unit_s]
    unfold b_X11_unit
    rw [gtF_eq, h51, if_pos (by decide)]
    refine ok_calE (isDigit_e h50 h49) ?_
    rw [if_pos rfl]
    refine ok_calE (here_e h50 h49) ?_
    rw [if_neg (by decide), if_neg (by decide), if_neg (by decide), if_neg (by decide), gtF_eq, h50]
    refine ok_cal (P := fun _ m' => m' = mSet m 100 51 0) ?_ (fun _ m2 e => ok_rt ⟨rfl, e⟩)
    unfold f_X11_faults
    rw [gtF_eq, h51]
    refine ok_jn ?_
    rw [if_pos (by decide)]
    show Ok (ptF m 100 51 0 _) _
    rw [ptF_eq]
    exact ok_rt rfl
  refine ok_cal un (fun v m2 hq => ?_)
  obtain ⟨rfl, rfl⟩ := hq
  refine ok_up1 (i := 0) 0 (fun _ m2 => m2 = mSet m 100 51 0) (fun w k m2 hk => absurd hk (Nat.not_lt_zero _)) (fun w m2 hI => ?_) n _ (Nat.le_refl _) rfl (by omega)
  subst hI
  rw [gtF_eq, mGet_mSet, if_pos ⟨rfl, rfl⟩, w32_0']
  refine ok_jn ?_
  rw [if_neg (by decide)]
  exact ok_rt ⟨rfl, rfl⟩
theorem reads_e (hn : BIG < n) (h49 : mGet m 100 49 = 0) : Ok (f_X11_reads n 0 m) (fun v m' => v = 0 ∧ mGet m' 100 51 = 0 ∧ Ch SRd m m') := by
  unfold f_X11_reads
  have pz : ∀ (m2 : Mem) (i : Nat) (K : Mem → Option Rz), ptZ m2 100 i 0 K = K (mSet m2 100 i 0) := fun m2 i K => rfl
  rw [pz, ptF_eq, ptF_eq, ptF_eq, pz]
  obtain ⟨m1, e1⟩ : ∃ m1, m1 = mSet (mSet (mSet (mSet (mSet m 100 53 0) 100 50 0) 100 51 (-1)) 100 52 0) 100 54 0 := ⟨_, rfl⟩
  rw [← e1]
  have w1 : w32 (-1) = -1 := by decide +kernel
  have g1 : ∀ a i, mGet m1 a i = if a = 100 ∧ i = 54 then 0 else if a = 100 ∧ i = 52 then 0 else if a = 100 ∧ i = 51 then -1 else if a = 100 ∧ i = 50 then 0 else if a = 100 ∧ i = 53 then 0 else mGet m a i := fun a i => by rw [e1, mGet_mSet, mGet_mSet, mGet_mSet, mGet_mSet, mGet_mSet, w32_0', w1]
  have c1 : Ch SRd m m1 := by
    rw [e1]
    exact ((((Ch.set ⟨rfl, by omega⟩).tr (Ch.set ⟨rfl, by omega⟩)).tr (Ch.set ⟨rfl, by omega⟩)).tr (Ch.set ⟨rfl, by omega⟩)).tr (Ch.set ⟨rfl, by omega⟩)
  have x49 : mGet m1 100 49 = 0 := by rw [g1, if_neg (by omega), if_neg (by omega), if_neg (by omega), if_neg (by omega), if_neg (by omega)]; exact h49
  refine ok_cal (sumRead_e hn (by rw [g1, if_neg (by omega), if_neg (by omega), if_neg (by omega), if_pos ⟨rfl, rfl⟩]) x49 (by rw [g1, if_neg (by omega), if_neg (by omega), if_pos ⟨rfl, rfl⟩])) (fun v m2 hq => ?_)
  obtain ⟨rfl, rfl⟩ := hq
  rw [gtF_eq, gtF_eq, mGet_mSet, if_neg (by omega), mGet_mSet, if_neg (by omega), x49, g1, if_neg (by omega), if_neg (by omega), if_neg (by omega), if_pos ⟨rfl, rfl⟩]
  refine ok_jn ?_
  rw [if_neg (by decide)]
  exact ok_rt ⟨rfl, by rw [mGet_mSet, if_pos ⟨rfl, rfl⟩, w32_0'], c1.tr (Ch.set ⟨rfl, by omega⟩)⟩
theorem rgame_ok (hn : BIG < n) (h : FR m) {p : Int} : Ok (f_X11_game n p m) (fun v _ => v = ans1 p (-10)) := by
  unfold f_X11_game
  refine ok_calE rSlot_eq ?_
  unfold ans1
  by_cases hp : 0 ≤ p ∧ p ≤ 7
  · rw [decide_eq_true hp, if_neg (by decide), if_pos hp]
    refine ok_calE (gathers_eq h.rb.1) ?_
    refine ok_cal (reads_e hn (h.z (by omega))) (fun v m2 hq => ?_)
    obtain ⟨rfl, h51, c2⟩ := hq
    rw [gtF_eq, h51]
    refine ok_jn ?_
    rw [if_neg (by decide)]
    show Ok (ptF m2 100 49 0 _) _
    have e51 : mGet (mSet m2 100 49 0) 100 51 = 0 := by rw [mGet_mSet, if_neg (by omega)]; exact h51
    rw [ptF_eq, gtF_eq, e51, if_neg (by decide), gtF_eq, e51]
    refine ok_rt ?_
    decide +kernel
  · rw [decide_eq_false hp, if_pos rb_f, if_neg hp]
    exact no1 m
/-! THE LARGE CALLS, WITH ANY NUMBERS -/
noncomputable def ansWh (p z : Int) : Int := if (0 ≤ p ∧ p ≤ 7) ∧ (-9 ≤ z ∧ z ≤ 9) then ans (iz z) else -1100000001
noncomputable def ansHp (p z : Int) : Int := if (0 ≤ p ∧ p ≤ 7) ∧ (0 ≤ z ∧ z ≤ 9) then ans (hc z.toNat) else -1100000001
noncomputable def ansU (p k a : Int) : Int := if (0 ≤ p ∧ p ≤ 7) ∧ (-4 ≤ k ∧ k ≤ 4) ∧ (0 ≤ a ∧ a ≤ 5) then ans (Uk k a.toNat) else -1100000001
noncomputable def ansFl (p a b c : Int) : Int := if (0 ≤ p ∧ p ≤ 7) ∧ (1 ≤ a ∧ a ≤ 4) ∧ (0 ≤ b ∧ b ≤ 3) ∧ (0 ≤ c ∧ c ≤ 3) then ans (cf (fl a.toNat b.toNat c.toNat)) else -1100000001
noncomputable def ansMd (p a b : Int) : Int := if (0 ≤ p ∧ p ≤ 7) ∧ (0 ≤ a ∧ a ≤ 255) ∧ (0 ≤ b ∧ b ≤ 255) then ans (Mz a.toNat b.toNat) else -1100000001
theorem Rwhole (hn : BIG < n) (h : FR m) {p z : Int} : Ok (f_X11_whole n p z m) (fun v _ => v = ansWh p z) := by
  unfold ansWh
  by_cases hp : 0 ≤ p ∧ p ≤ 7
  · by_cases hz : -9 ≤ z ∧ z ≤ 9
    · rw [if_pos ⟨hp, hz⟩]
      obtain ⟨p', rfl⟩ : ∃ p' : Nat, p = (p' : Int) := ⟨p.toNat, by omega⟩
      exact rwhole_ok hn h.rb (by omega) (by omega)
    · rw [if_neg (fun q => hz q.2)]
      unfold f_X11_whole
      refine ok_calE rSlot_eq ?_
      refine ok_jn ?_
      rw [decide_eq_true hp, if_neg (by decide)]
      refine ok_calE in_eq ?_
      rw [decide_eq_false hz, if_pos rb_f]
      exact no1 m
  · rw [if_neg (fun q => hp q.1)]
    unfold f_X11_whole
    refine ok_calE rSlot_eq ?_
    refine ok_jn ?_
    rw [decide_eq_false hp, if_pos rb_f]
    exact no1 m
theorem Rheap (hn : BIG < n) (h : FR m) {p z : Int} : Ok (f_X11_heap n p z m) (fun v _ => v = ansHp p z) := by
  unfold ansHp
  by_cases hp : 0 ≤ p ∧ p ≤ 7
  · by_cases hz : 0 ≤ z ∧ z ≤ 9
    · rw [if_pos ⟨hp, hz⟩]
      obtain ⟨p', rfl⟩ : ∃ p' : Nat, p = (p' : Int) := ⟨p.toNat, by omega⟩
      obtain ⟨z', rfl⟩ : ∃ z' : Nat, z = (z' : Int) := ⟨z.toNat, by omega⟩
      exact rheap_ok hn h.rb (by omega) (by omega)
    · rw [if_neg (fun q => hz q.2)]
      unfold f_X11_heap
      refine ok_calE rSlot_eq ?_
      refine ok_jn ?_
      rw [decide_eq_true hp, if_neg (by decide)]
      refine ok_calE in_eq ?_
      rw [decide_eq_false hz, if_pos rb_f]
      exact no1 m
  · rw [if_neg (fun q => hp q.1)]
    unfold f_X11_heap
    refine ok_calE rSlot_eq ?_
    refine ok_jn ?_
    rw [decide_eq_false hp, if_pos rb_f]
    exact no1 m
theorem Rups (hn : BIG < n) (h : FR m) {p k a : Int} : Ok (f_X11_ups n p k a m) (fun v _ => v = ansU p k a) := by
  have rb := h.1 UF2 (by rw [UF2_len]; decide) (fun x hx => by have := UF2_bd hx; omega) (List.mem_append_left _ (mem_UF.mpr ⟨0, 0, by decide, by decide, hc_0.symm⟩))
  unfold ansU
  by_cases hp : 0 ≤ p ∧ p ≤ 7
  · by_cases hk : -4 ≤ k ∧ k ≤ 4
    · by_cases ha : 0 ≤ a ∧ a ≤ 5
      · rw [if_pos ⟨hp, hk, ha⟩]
        obtain ⟨p', rfl⟩ : ∃ p' : Nat, p = (p' : Int) := ⟨p.toNat, by omega⟩
        obtain ⟨a', rfl⟩ : ∃ a' : Nat, a = (a' : Int) := ⟨a.toNat, by omega⟩
        exact rups_ok hn rb (by omega) (by omega) (by omega)
      · rw [if_neg (fun q => ha q.2.2)]
        unfold f_X11_ups
        refine ok_calE rSlot_eq ?_
        refine ok_jn ?_
        rw [decide_eq_true hp, if_neg (by decide)]
        refine ok_calE in_eq ?_
        rw [decide_eq_true hk, if_neg (by decide)]
        refine ok_calE in_eq ?_
        rw [decide_eq_false ha, if_pos rb_f]
        exact no1 m
    · rw [if_neg (fun q => hk q.2.1)]
      unfold f_X11_ups
      refine ok_calE rSlot_eq ?_
      refine ok_jn ?_
      rw [decide_eq_true hp, if_neg (by decide)]
      refine ok_calE in_eq ?_
      rw [decide_eq_false hk, if_pos rb_f]
      exact no1 m
  · rw [if_neg (fun q => hp q.1)]
    unfold f_X11_ups
    refine ok_calE rSlot_eq ?_
    refine ok_jn ?_
    rw [decide_eq_false hp, if_pos rb_f]
    exact no1 m
theorem Rmade (hn : BIG < n) (h : FR m) {p a b : Int} : Ok (f_X11_made n p a b m) (fun v _ => v = ansMd p a b) := by
  unfold ansMd
  by_cases hp : 0 ≤ p ∧ p ≤ 7
  · by_cases hk : 0 ≤ a ∧ a ≤ 255
    · by_cases ha : 0 ≤ b ∧ b ≤ 255
      · rw [if_pos ⟨hp, hk, ha⟩]
        obtain ⟨p', rfl⟩ : ∃ p' : Nat, p = (p' : Int) := ⟨p.toNat, by omega⟩
        obtain ⟨a', rfl⟩ : ∃ a' : Nat, a = (a' : Int) := ⟨a.toNat, by omega⟩
        obtain ⟨b', rfl⟩ : ∃ b' : Nat, b = (b' : Int) := ⟨b.toNat, by omega⟩
        exact rmade_ok hn h.rb (by omega) (by omega) (by omega)
      · rw [if_neg (fun q => ha q.2.2)]
        unfold f_X11_made
        refine ok_calE rSlot_eq ?_
        refine ok_jn ?_
        rw [decide_eq_true hp, if_neg (by decide)]
        refine ok_calE in_eq ?_
        rw [decide_eq_true hk, if_neg (by decide)]
        refine ok_calE in_eq ?_
        rw [decide_eq_false ha, if_pos rb_f]
        exact no1 m
    · rw [if_neg (fun q => hk q.2.1)]
      unfold f_X11_made
      refine ok_calE rSlot_eq ?_
      refine ok_jn ?_
      rw [decide_eq_true hp, if_neg (by decide)]
      refine ok_calE in_eq ?_
      rw [decide_eq_false hk, if_pos rb_f]
      exact no1 m
  · rw [if_neg (fun q => hp q.1)]
    unfold f_X11_made
    refine ok_calE rSlot_eq ?_
    refine ok_jn ?_
    rw [decide_eq_false hp, if_pos rb_f]
    exact no1 m
theorem Rflower (hn : BIG < n) (h : FR m) {p a b c : Int} : Ok (f_X11_flower n p a b c m) (fun v _ => v = ansFl p a b c) := by
  unfold ansFl
  by_cases hp : 0 ≤ p ∧ p ≤ 7
  · by_cases hk : 1 ≤ a ∧ a ≤ 4
    · by_cases ha : 0 ≤ b ∧ b ≤ 3
      · by_cases hc2 : 0 ≤ c ∧ c ≤ 3
        · rw [if_pos ⟨hp, hk, ha, hc2⟩]
          obtain ⟨p', rfl⟩ : ∃ p' : Nat, p = (p' : Int) := ⟨p.toNat, by omega⟩
          obtain ⟨a', rfl⟩ : ∃ a' : Nat, a = (a' : Int) := ⟨a.toNat, by omega⟩
          obtain ⟨b', rfl⟩ : ∃ b' : Nat, b = (b' : Int) := ⟨b.toNat, by omega⟩
          obtain ⟨c', rfl⟩ : ∃ c' : Nat, c = (c' : Int) := ⟨c.toNat, by omega⟩
          have rb := h.1 (FF a') (by rw [FF_len]; decide) (fun x hx => by have := FF_bd (s := a') (by omega) hx; omega) (mem_FF.mpr (Or.inl ⟨0, by decide, hc_0.symm⟩))
          exact rflower_ok hn rb (by omega) ⟨by omega, by omega⟩ (by omega) (by omega)
        · rw [if_neg (fun q => hc2 q.2.2.2)]
          unfold f_X11_flower
          refine ok_calE rSlot_eq ?_
          refine ok_jn ?_
          rw [decide_eq_true hp, if_neg (by decide)]
          refine ok_calE in_eq ?_
          rw [decide_eq_true hk, if_neg (by decide)]
          refine ok_calE in_eq ?_
          rw [decide_eq_true ha, if_neg (by decide)]
          refine ok_calE in_eq ?_
          rw [decide_eq_false hc2, if_pos rb_f]
          exact no1 m
      · rw [if_neg (fun q => ha q.2.2.1)]
        unfold f_X11_flower
        refine ok_calE rSlot_eq ?_
        refine ok_jn ?_
        rw [decide_eq_true hp, if_neg (by decide)]
        refine ok_calE in_eq ?_
        rw [decide_eq_true hk, if_neg (by decide)]
        refine ok_calE in_eq ?_
        rw [decide_eq_false ha, if_pos rb_f]
        exact no1 m
    · rw [if_neg (fun q => hk q.2.1)]
      unfold f_X11_flower
      refine ok_calE rSlot_eq ?_
      refine ok_jn ?_
      rw [decide_eq_true hp, if_neg (by decide)]
      refine ok_calE in_eq ?_
      rw [decide_eq_false hk, if_pos rb_f]
      exact no1 m
  · rw [if_neg (fun q => hp q.1)]
    unfold f_X11_flower
    refine ok_calE rSlot_eq ?_
    refine ok_jn ?_
    rw [decide_eq_false hp, if_pos rb_f]
    exact no1 m
theorem FR.bf (h : FR m) : RB m T0 BF 0 0 0 ∧ mGet m 100 45 = 0 := ⟨h.1 BF (by rw [BF_len]; decide) (fun x hx => by have := BF_bd hx; omega) BF_0, h.z (by omega)⟩
end FR6
