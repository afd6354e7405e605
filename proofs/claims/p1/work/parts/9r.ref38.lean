/-! WORDS, SHEETS, WHAT IS FED -/
section FR5
variable {n : Nat} {m : Mem}
def ansW (p i : Int) : Int := if 0 ≤ p ∧ p ≤ 7 then (if i = 0 then 48 else -1100000002) else -1100000001
theorem rword_ok (hn : BIG < n) (h : FR m) {p i : Int} : Ok (f_X11_word n p i m) (fun v _ => v = ansW p i) := by
  have n4 := BIG_m hn
  obtain ⟨r1, r2, r3, r4, r5, r6, r7, r8⟩ := h.row
  have b := h.1 BF (by rw [BF_len]; decide) (fun x hx => by have := BF_bd hx; omega) BF_0
  unfold f_X11_word
  refine ok_calE rSlot_eq ?_
  unfold ansW
  by_cases hp : 0 ≤ p ∧ p ≤ 7
  · rw [decide_eq_true hp, if_neg (by decide), if_pos hp]
    obtain ⟨p', rfl⟩ : ∃ p' : Nat, p = (p' : Int) := ⟨p.toNat, by omega⟩
    have e0 : w32 (1 - 1) = 0 := w32_0'
    rw [ldI_ok (len := 8) rfl (by omega), h.s (by omega), ld0 (len := 16000) rfl (by decide), r7, e0]
    refine ok_calE in_eq ?_
    by_cases q : i = 0
    · rw [decide_eq_true (show 0 ≤ i ∧ i ≤ 0 by omega), if_neg (by decide), if_pos q]
      have fl : ∀ x, x < T0.N → mGet m 111 x = 0 ∨ mGet m 111 x = 1 := fun x hx => (b.1.2.2.2.2.2 x hx).imp id (fun h => h.2)
      have S : SrF m T0.N T0.lo T0.ro T0.d := fun g hg _ => ⟨List.Pairwise.nil, List.Pairwise.nil, fun o ho => by cases ho⟩
      have z0 : T0.d 0 = 0 := rfl
      rw [ldI_ok (len := 8) rfl (by omega), h.s (by omega)]
      refine ok_cal (sorts_ok n4 60 0 T0.lo T0.ro m b.1.1 S fl (by decide) (by rw [z0, bd_0]; decide)) (fun _ m2 hq => ?_)
      obtain ⟨lo', ro', R2, S2, _, o2, _, _, c2⟩ := hq
      rw [ldI_ok (len := 8) rfl (by omega), c2.2 _ _ (by unfold SSo SAh; omega), h.s (by omega)]
      have l1 : (wd (T0.d 0)).length = 1 := by rw [z0]; exact wd_0_len
      refine ok_cal (spells_ok (g := 0) (BIG_n hn) (fun x hx => by have := BF_bd hx; omega) R2 (Nat.le_refl _) (R2.ga (Nat.le_refl _)) S2 (by decide) o2 (by rw [l1]; decide)) (fun _ m3 w3 => ?_)
      have e := w3.2.1 0 (by rw [l1]; decide)
      rw [q, ld0 (len := 128) rfl (by decide)]
      refine ok_rt ?_
      rw [show (0 : Nat) + 0 = 0 from rfl] at e
      rw [e]
      simp only [z0, wd_0]
      rfl
    · rw [decide_eq_false (show ¬ (0 ≤ i ∧ i ≤ 0) by omega), if_pos rb_f, if_neg q]
      exact no2 m
  · rw [decide_eq_false hp, if_pos rb_f, if_neg hp]
    exact no1 m
def ansF (c : Int) : Int := if 1 ≤ c ∧ c ≤ 8 then c else -1100000001
theorem rfeed_ok (hn : BIG < n) (h : FR m) {x : Nat} {c : Int} : Ok (f_X11_feed n x c m) (fun v _ => v = ansF c) := by
  have n4 := BIG_m hn
  unfold f_X11_feed
  refine ok_calE in_eq ?_
  unfold ansF
  by_cases hp : 1 ≤ c ∧ c ≤ 8
  · rw [decide_eq_true hp, if_neg (by decide), if_pos hp]
    obtain ⟨c', rfl⟩ : ∃ c' : Nat, c = (c' : Int) := ⟨c.toNat, by omega⟩
    rw [gtF_eq, h.z (by omega), Int.zero_add, w32_nat (by omega), if_neg (by omega)]
    refine ok_up1 (i := 0) c' (fun k m1 => mGet m1 100 49 = (k : Int)) (fun w k m1 hk hI hw => ?_) (fun w m1 hI => ?_) n m (Nat.zero_le _) (h.z (by omega)) (by omega)
    · rw [if_pos (by omega), gtF_eq, hI, stI_ok (len := 120) rfl (by omega), gtF_eq, mGet_mSet, if_neg (by omega), hI, ptF_eq, w32_1 (by omega)]
      refine hw _ ?_
      rw [mGet_mSet, if_pos ⟨rfl, rfl⟩, w32_nat (by omega)]
    · rw [if_neg (by omega), gtF_eq, hI]
      exact ok_rt rfl
  · rw [decide_eq_false hp, if_pos rb_f, if_neg hp]
    exact no1 m
def ansSh (p w l : Int) : Int := if (0 ≤ p ∧ p ≤ 3) ∧ (w = 0 ∨ w = 8 ∨ w = 16 ∨ w = 32) then (if w = 0 then 1 else if l < 0 then -1100000003 else if 24 < l then -1100000001 else 1) else -1100000001
theorem no3 (m2 : Mem) : Ok (cal (f_X11_no n 3 m2) fun x27 m27 => rt x27 m27) (fun v _ => v = -1100000003) := ok_calE (no_eq (k := 3) (by decide)) (ok_rt rfl)
theorem rsheet_ok (hn : BIG < n) {p w l : Int} : Ok (f_X11_sheet n p w l m) (fun v _ => v = ansSh p w l) := by
  have n4 := BIG_m hn
  unfold f_X11_sheet
  refine ok_calE (sheet_eq m) ?_
  refine ok_jn ?_
  unfold ansSh
  by_cases hp : 0 ≤ p ∧ p ≤ 3
  · rw [decide_eq_true hp, if_neg (by decide)]
    obtain ⟨p', rfl⟩ : ∃ p' : Nat, p = (p' : Int) := ⟨p.toNat, by omega⟩
    -- the cells are cleared
    have fin : ∀ s0 : Int, ∀ m71 : Mem, Ok (stI m71 138 (p' : Int) s0 fun m86 => lp (F := Int → Mem → Option Rz) (fun _ _ => none) (fun w90 v4_90 m90 => if v4_90 < 24 then (stI m90 139 (w32 ((w32 (24 * (p' : Int))) + v4_90)) 0 fun m109 => w90 (w32 (v4_90 + 1)) m109) else rt 1 m90) n 0 m86) (fun v _ => v = 1) := fun s0 m71 => by
      rw [stI_ok (len := 4) rfl (by omega)]
      refine ok_up1 (i := 0) 24 (fun _ _ => True) (fun w k m1 hk hI hw => ?_) (fun w m1 hI => ?_) n _ (Nat.zero_le _) trivial (by omega)
      · rw [if_pos (by omega), show (24 : Int) * (p' : Int) = ((24 * p' : Nat) : Int) by omega, w32_nat (by omega), show ((24 * p' : Nat) : Int) + (k : Int) = ((24 * p' + k : Nat) : Int) by omega, w32_nat (by omega), stI_ok (len := 96) rfl (by omega), w32_1 (by omega)]
        exact hw _ trivial
      · rw [if_neg (by decide)]
        exact ok_rt rfl
    refine ok_jn ?_
    have go : ∀ (hw : w = 0 ∨ w = 8 ∨ w = 16 ∨ w = 32), Ok (jn (fun (m49 : Mem) =>
      jn (fun (m65 : Mem) =>
        stI m65 137 (p' : Int) w fun m71 =>
        jn (fun (s0_86 : Int) (m86 : Mem) =>
          stI m86 138 (p' : Int) s0_86 fun m86 =>
          lp (F := Int → Mem → Option Rz) (fun _ _ => none) (fun w90 v4_90 m90 =>
            if v4_90 < 24 then (
              stI m90 139 (w32 ((w32 (24 * (p' : Int))) + v4_90)) 0 fun m109 =>
              w90 (w32 (v4_90 + 1)) m109
            ) else
            rt 1 m90
          ) n 0 m86
        ) fun (j86 : Int → Mem → Option Rz) =>
        if w = 0 then (
          j86 0 m71
        ) else
        j86 l m71
      ) fun (j65 : Mem → Option Rz) =>
      if w = 0 then (
        j65 m49
      ) else
      if 24 < l then (
        cal (f_X11_no n 1 m49) fun x61 m61 =>
        rt x61 m61
      ) else
      j65 m49
    ) fun (j49 : Mem → Option Rz) =>
    if w = 0 then (
      j49 m
    ) else
    if l < 0 then (
      cal (f_X11_no n 3 m) fun x45 m45 =>
      rt x45 m45
    ) else
    j49 m) (fun v _ => v = if (0 ≤ (p' : Int) ∧ (p' : Int) ≤ 3) ∧ (w = 0 ∨ w = 8 ∨ w = 16 ∨ w = 32) then (if w = 0 then 1 else if l < 0 then -1100000003 else if 24 < l then -1100000001 else 1) else -1100000001) := fun hw => by
      rw [if_pos (show (0 ≤ (p' : Int) ∧ (p' : Int) ≤ 3) ∧ (w = 0 ∨ w = 8 ∨ w = 16 ∨ w = 32) from ⟨hp, hw⟩)]
      refine ok_jn ?_
      by_cases q : w = 0
      · rw [if_pos q, if_pos q]
        refine ok_jn ?_
        rw [if_pos q]
        show Ok (stI m 137 (p' : Int) w _) _
        rw [stI_ok (len := 4) rfl (by omega)]
        refine ok_jn ?_
        rw [if_pos q]
        exact fin 0 _
      · rw [if_neg q, if_neg q]
        by_cases q2 : l < 0
        · rw [if_pos q2, if_pos q2]
          exact no3 m
        · rw [if_neg q2, if_neg q2]
          refine ok_jn ?_
          rw [if_neg q]
          by_cases q3 : 24 < l
          · rw [if_pos q3, if_pos q3]
            exact no1 m
          · rw [if_neg q3, if_neg q3]
            show Ok (stI m 137 (p' : Int) w _) _
            rw [stI_ok (len := 4) rfl (by omega)]
            refine ok_jn ?_
            rw [if_neg q]
            exact fin l _
    by_cases q0 : w = 0
    · rw [if_pos q0]; exact go (Or.inl q0)
    · rw [if_neg q0]
      by_cases q1 : w = 8
      · rw [if_pos q1]; exact go (Or.inr (Or.inl q1))
      · rw [if_neg q1]
        by_cases q2 : w = 16
        · rw [if_pos q2]; exact go (Or.inr (Or.inr (Or.inl q2)))
        · rw [if_neg q2]
          by_cases q3 : w = 32
          · rw [if_pos q3]; exact go (Or.inr (Or.inr (Or.inr q3)))
          · rw [if_neg q3, if_neg (fun z => by omega)]
            exact no1 m
  · rw [decide_eq_false hp, if_pos rb_f, if_neg (fun z => hp z.1)]
    exact no1 m
end FR5
