/-! FIGHTS, GARDENS, COUNTS, WORDS -/
section FR4
variable {n : Nat} {m : Mem}
theorem lpF {body : (Int → Int → Int → Int → Mem → Option Rz) → Int → Int → Int → Int → Mem → Option Rz} {a b c d : Int} {f : Nat} (z : Int → Int → Int → Int → Mem → Option Rz) : lp (F := Int → Int → Int → Int → Mem → Option Rz) z body (f + 1) a b c d m = body (lp z body f) a b c d m := rfl
theorem rfight_ok (hn : BIG < n) (h : FR m) {p q w x : Int} : Ok (f_X11_fight n p q w x m) (fun v _ => v = ansR p q w x (if x = 0 then w else 0)) := by
  have n4 := BIG_m hn
  unfold f_X11_fight
  refine ok_calE rSlot_eq ?_
  refine ok_jn ?_
  unfold ansR
  by_cases hp : 0 ≤ p ∧ p ≤ 7
  · rw [decide_eq_true hp, if_neg (by decide)]
    refine ok_calE rSlot_eq ?_
    by_cases hq : 0 ≤ q ∧ q ≤ 7
    · rw [decide_eq_true hq, if_neg (by decide)]
      refine ok_calE (who_eq m) ?_
      by_cases hw : 0 ≤ w ∧ w ≤ 1
      · rw [decide_eq_true hw, if_neg (by decide)]
        refine ok_calE in_eq ?_
        by_cases hx : 0 ≤ x ∧ x ≤ 1
        · rw [decide_eq_true hx, if_neg (by decide), if_pos ⟨hp, hq, hw, hx⟩]
          obtain ⟨p', rfl⟩ : ∃ p' : Nat, p = (p' : Int) := ⟨p.toNat, by omega⟩
          obtain ⟨q', rfl⟩ : ∃ q' : Nat, q = (q' : Int) := ⟨q.toNat, by omega⟩
          refine ok_calE (gathers_eq h.rb.1) ?_
          rw [ldI_ok (len := 8) rfl (by omega), h.s (by omega), ldI_ok (len := 8) rfl (by omega), h.s (by omega)]
          obtain ⟨f, ef⟩ : ∃ f, n = f + 1 := ⟨n - 1, by omega⟩
          have om : ∀ w2 : Int, f_X11_optionMany n 0 w2 m = some (0, m) := fun w2 => optionMany_00 h
          rw [ef] at om ⊢
          rw [lpF]
          refine ok_calE (om _) ?_
          refine ok_calE (om _) ?_
          rw [Int.add_zero, w32_0', if_neg (by decide)]
          refine ok_jn ?_
          by_cases qx : x = 0
          · rw [if_pos qx, if_pos qx]
            exact ok_rt rfl
          · rw [if_neg qx, if_neg qx]
            exact ok_rt rfl
        · rw [decide_eq_false hx, if_pos rb_f, if_neg (fun z => hx z.2.2.2)]
          exact no1 m
      · rw [decide_eq_false hw, if_pos rb_f, if_neg (fun z => hw z.2.2.1)]
        exact no1 m
    · rw [decide_eq_false hq, if_pos rb_f, if_neg (fun z => hq z.2.1)]
      exact no1 m
  · rw [decide_eq_false hp, if_pos rb_f, if_neg (fun z => hp z.1)]
    exact no1 m
def ansG (p : Int) : Int := if 0 ≤ p ∧ p ≤ 255 then 0 else -1100000001
theorem ok_up3 {body : (Int → Int → Int → Mem → Option Rz) → Int → Int → Int → Mem → Option Rz} {Q : Int → Mem → Prop} (N : Nat) (I : Nat → Int → Int → Mem → Prop) (hstep : ∀ (w : Int → Int → Int → Mem → Option Rz) (i : Nat) a b m, i < N → I i a b m → (∀ a' b' m', I (i + 1) a' b' m' → Ok (w a' b' ((i + 1 : Nat) : Int) m') Q) → Ok (body w a b (i : Int) m) Q) (hend : ∀ (w : Int → Int → Int → Mem → Option Rz) a b m, I N a b m → Ok (body w a b (N : Int) m) Q) : ∀ (n i : Nat) a b m, i ≤ N → I i a b m → N - i < n → Ok (lp (F := Int → Int → Int → Mem → Option Rz) (fun _ _ _ _ => none) body n a b (i : Int) m) Q
  | 0, i, a, b, m, _, _, h => absurd h (Nat.not_lt_zero _)
  | n + 1, i, a, b, m, hi, hI, h => by
    show Ok (body (lp (F := Int → Int → Int → Mem → Option Rz) (fun _ _ _ _ => none) body n) a b (i : Int) m) Q
    rcases Nat.lt_or_ge i N with lt | ge
    · exact hstep _ i a b m lt hI (fun a' b' m' h2 => ok_up3 N I hstep hend n (i + 1) a' b' m' lt h2 (by omega))
    · have : i = N := by omega
      subst this
      exact hend _ a b m hI
theorem rgarden_ok (hn : BIG < n) (h : FR m) {p : Int} : Ok (f_X11_garden n p m) (fun v _ => v = ansG p) := by
  have n4 := BIG_m hn
  obtain ⟨r1, r2, r3, r4, r5, r6, r7, r8⟩ := h.row
  unfold f_X11_garden
  refine ok_calE in_eq ?_
  unfold ansG
  by_cases hp : 0 ≤ p ∧ p ≤ 255
  · rw [decide_eq_true hp, if_neg (by decide), if_pos hp]
    refine ok_up2 (i := 0) 8 (fun k a m1 => m1 = m ∧ a = 1) (fun w k a m1 hk hI hw => ?_) (fun w a m1 hI => ?_) n 1 m (Nat.zero_le _) ⟨rfl, rfl⟩ (by omega)
    · obtain ⟨rfl, rfl⟩ := hI
      have go : Ok (w 1 (w32 ((k : Int) + 1)) m1) (fun v _ => v = 0) := by
        rw [w32_1 (by omega)]
        exact hw _ m1 ⟨rfl, rfl⟩
      rw [if_pos (by omega)]
      refine ok_jn ?_
      refine ok_jn ?_
      rw [if_neg (by decide)]
      refine ok_jn ?_
      by_cases q : iand (ishr p (k : Int)) 1 = 0
      · rw [if_pos q]
        exact go
      · have e : ldZ m1 110 0 = fun K => K (mGet m1 110 0) := funext (fun K => ldZ_ok (i := 0) (len := 16000) rfl (by decide))
        rw [if_neg q, ldI_ok (len := 8) rfl hk, h.s hk, e]
        show Ok (if mGet m1 110 0 = 0 then _ else _) _
        rw [r8, if_neg (by decide)]
        exact go
    · obtain ⟨rfl, rfl⟩ := hI
      rw [if_neg (by decide), if_neg (by decide)]
      refine ok_calE (gathers_eq h.rb.1) ?_
      refine ok_up3 (i := 0) 8 (fun k a b m2 => m2 = m1 ∧ a = 0 ∧ b = 1) (fun w k a b m2 hk hI hw => ?_) (fun w a b m2 hI => ?_) n 0 1 m1 (Nat.zero_le _) ⟨rfl, rfl, rfl⟩ (by omega)
      · obtain ⟨rfl, rfl, rfl⟩ := hI
        have go : Ok (w (w32 (0 + 0)) 1 (w32 ((k : Int) + 1)) m2) (fun v _ => v = 0) := by
          rw [w32_1 (by omega)]
          exact hw _ _ m2 ⟨rfl, w32_0', rfl⟩
        rw [if_pos (by omega)]
        refine ok_jn ?_
        have nx : Ok (jn (fun (s0_133 : Int) (m133 : Mem) => nm (w32 (0 + 0)) fun z139 => w z139 s0_133 (w32 ((k : Int) + 1)) m133) fun (j133 : Int → Mem → Option Rz) => jn (fun (m132 : Mem) => j133 0 m132) fun (j132 : Mem → Option Rz) => if (1 : Int) = 0 then j132 m2 else if (0 : Int) = (-1000) then j132 m2 else j133 1 m2) (fun v _ => v = 0) := by
          refine ok_jn ?_
          refine ok_jn ?_
          rw [if_neg (by decide), if_neg (by decide)]
          exact ok_nm go
        by_cases q : iand (ishr p (k : Int)) 1 = 0
        · rw [if_pos q]
          exact nx
        · rw [if_neg q]
          exact ok_calE (numberOf_eq h hk) nx
      · obtain ⟨rfl, rfl, rfl⟩ := hI
        rw [if_neg (by decide)]
        refine ok_jn ?_
        rw [if_neg (by decide)]
        exact ok_rt rfl
  · rw [decide_eq_false hp, if_pos rb_f, if_neg hp]
    exact no1 m
def ansN (p : Int) : Int := if p = 0 ∨ p = 1 then 8 else if p = 2 ∨ p = 3 ∨ p = 5 then 0 else if p = 4 then 1 else -1100000001
theorem rcount_ok (hn : BIG < n) (h : FR m) {p : Int} : Ok (f_X11_count n p m) (fun v _ => v = ansN p) := by
  have n4 := BIG_m hn
  obtain ⟨r1, r2, r3, r4, r5, r6, r7, r8⟩ := h.row
  have b := h.rb
  unfold f_X11_count ansN
  by_cases q0 : p = 0
  · rw [if_pos q0, if_pos (Or.inl q0)]
    refine ok_cal (P := fun v _ => v = 8) ?_ (fun v m2 hv => ok_rt hv)
    unfold f_X11_smallSlots
    refine ok_up2 (i := 0) 8 (fun k a m1 => m1 = m ∧ a = (k : Int)) (fun w k a m1 hk hI hw => ?_) (fun w a m1 hI => ?_) n 0 m (Nat.zero_le _) ⟨rfl, rfl⟩ (by omega)
    · obtain ⟨rfl, rfl⟩ := hI
      have e : ldZ m1 110 0 = fun K => K (mGet m1 110 0) := funext (fun K => ldZ_ok (i := 0) (len := 16000) rfl (by decide))
      rw [if_pos (by omega), ldI_ok (len := 8) rfl hk, h.s hk, e]
      show Ok (jn _ _) _
      refine ok_jn ?_
      rw [r8, if_neg (by decide)]
      refine ok_nm ?_
      rw [w32_1 (by omega)]
      exact hw _ m1 ⟨rfl, rfl⟩
    · obtain ⟨rfl, rfl⟩ := hI
      rw [if_neg (by decide)]
      exact ok_rt rfl
  · rw [if_neg q0]
    by_cases q1 : p = 1
    · rw [if_pos q1, if_pos (Or.inr q1)]
      exact ok_cal (allWidths_ok hn ⟨WF, b.1.1⟩ b.2.2.2.2.1 (by decide) (fun i hi => h.s hi)) (fun v m2 hv => ok_rt hv)
    · rw [if_neg q1, if_neg (show ¬ (p = 0 ∨ p = 1) from fun z => z.elim q0 q1)]
      by_cases q2 : p = 2
      · rw [if_pos q2, if_pos (Or.inl q2), gtF_eq, h.z (by omega)]
        exact ok_rt rfl
      · rw [if_neg q2]
        by_cases q3 : p = 3
        · rw [if_pos q3, if_pos (Or.inr (Or.inl q3)), gtF_eq, h.z (by omega)]
          exact ok_rt rfl
        · rw [if_neg q3]
          by_cases q4 : p = 4
          · rw [if_pos q4, if_neg (by omega), if_pos q4]
            refine ok_cal (P := fun v _ => v = 1) ?_ (fun v m2 hv => ok_rt hv)
            unfold f_X11_unlikeSlots
            refine ok_up2 (i := 0) 8 (fun k a m1 => m1 = m ∧ a = if k = 0 then 0 else 1) (fun w k a m1 hk hI hw => ?_) (fun w a m1 hI => ?_) n 0 m (Nat.zero_le _) ⟨rfl, rfl⟩ (by omega)
            · obtain ⟨rfl, rfl⟩ := hI
              have rz : Row m1 129 0 (List.replicate k 0) := fun j hj => by
                rw [List.length_replicate] at hj
                rw [Nat.zero_add, List.getElem_replicate, h.s (by omega)]
                rfl
              have he := rhas_eq (n := n) (m := m1) (a := 129) (len := 8) (s := 0) (v := 0) (l := List.replicate k 0) rfl (by rw [List.length_replicate]; omega) (by decide) rz (by rw [List.length_replicate]; omega)
              rw [Nat.zero_add, List.length_replicate] at he
              rw [if_pos (by omega), ldI_ok (len := 8) rfl hk, h.s hk]
              refine ok_calE he ?_
              refine ok_jn ?_
              cases k with
              | zero =>
                rw [if_pos rfl]
                have : b2i ((List.replicate 0 0).contains 0) = 0 := rfl
                rw [if_pos this]
                refine ok_nm ?_
                refine hw _ m1 ⟨rfl, ?_⟩
                decide +kernel
              | succ k =>
                have : (List.replicate (k + 1) 0).contains 0 = true := List.contains_iff_mem.mpr (by rw [List.mem_replicate]; exact ⟨by omega, rfl⟩)
                rw [this, if_neg (by decide)]
                refine ok_nm ?_
                rw [w32_1 (by omega)]
                refine hw _ m1 ⟨rfl, ?_⟩
                rw [if_neg (by omega), if_neg (by omega)]
                decide +kernel
            · obtain ⟨rfl, rfl⟩ := hI
              rw [if_neg (by decide)]
              exact ok_rt rfl
          · rw [if_neg q4]
            by_cases q5 : p = 5
            · rw [if_pos q5, if_pos (Or.inr (Or.inr q5))]
              refine ok_cal (P := fun v _ => v = 0) ?_ (fun v m2 hv => ok_rt hv)
              unfold f_X11_sheetsThere
              refine ok_up2 (i := 0) 4 (fun k a m1 => m1 = m ∧ a = 0) (fun w k a m1 hk hI hw => ?_) (fun w a m1 hI => ?_) n 0 m (Nat.zero_le _) ⟨rfl, rfl⟩ (by omega)
              · obtain ⟨rfl, rfl⟩ := hI
                rw [if_pos (by omega), ldI_ok (len := 4) rfl hk, h.z (by omega)]
                refine ok_jn ?_
                rw [if_pos rfl]
                refine ok_nm ?_
                rw [w32_1 (by omega)]
                exact hw _ m1 ⟨rfl, w32_0'⟩
              · obtain ⟨rfl, rfl⟩ := hI
                rw [if_neg (by decide)]
                exact ok_rt rfl
            · rw [if_neg q5, if_neg (by omega), if_neg q4]
              exact no1 m
end FR4
