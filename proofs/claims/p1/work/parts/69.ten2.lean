/-! THE CLASS: games into slots -/
theorem fits_wid {K : Nat} : 1 ≤ wid K := wid_pos K
/-- a game held, or none could be -/
def SRes (γ : Nat → Nat) (s K : Nat) (r : Int) (m' : Mem) : Prop := (fits K ∧ r = (wid K : Int) ∧ CI (gset γ s K) m') ∨ (¬ fits K ∧ r = -1100000004 ∧ CI γ m')
theorem hold_fr {m m' : Mem} {S : Nat → Prop} (h1 : m'.2 = m.2) (h2 : ∀ a i, ¬ S a → mGet m' a i = mGet m a i) (hS : ∀ a, S a → a < 1000) : Grow m m' := (f2_fr h1 h2 hS).1
theorem full_ok {n : Nat} {γ : Nat → Nat} {m : Mem} (C : CI γ m) : Ok (f_X10_fail n (-1100000004) m) (fun v m' => v = -1100000004 ∧ CI γ m' ∧ Grow m m' ∧ mNext m' = mNext m) := by
  refine ok_mono (fail_ok (n := n) (z := 4) (m := m) (by decide)) (fun v m' h => ?_)
  obtain ⟨h1, h2, h3⟩ := h
  have f : Fr m m' SC := f2_fr h2 (fun a i ha => h3 a i (by omega)) (fun a ha => by omega)
  exact ⟨h1, C.fr f, f.1, mNext_eq (by rw [h2])⟩
theorem faul_ok {n z : Nat} {γ : Nat → Nat} {m : Mem} (C : CI γ m) (hz : 1 ≤ z ∧ z ≤ 6) : Ok (f_X10_fail n (-1100000000 - (z : Int)) m) (fun v m' => v = -1100000000 - (z : Int) ∧ CI γ m' ∧ Grow m m' ∧ mNext m' = mNext m) := by
  refine ok_mono (fail_ok (n := n) (z := z) (m := m) hz) (fun v m' h => ?_)
  obtain ⟨h1, h2, h3⟩ := h
  have f : Fr m m' SC := f2_fr h2 (fun a i ha => h3 a i (by omega)) (fun a ha => by omega)
  exact ⟨h1, C.fr f, f.1, mNext_eq (by rw [h2])⟩
theorem settle_o {n s o K : Nat} {γ : Nat → Nat} {m : Mem} (hn : 300 < n) (C : CI γ m) (hs : s < 8) (cK : can K) (fK : fits K) (O : GOb m o K) : Ok (f_X10_settle n (s : Int) o m) (fun r m' => r = (wid K : Int) ∧ CI (gset γ s K) m' ∧ Grow m m' ∧ mNext m' = mNext m) := by
  unfold f_X10_settle
  rw [if_neg O.o.2.2.2]
  refine ok_cal (hold_ok hn C hs cK fK O) (fun _ m1 h1 => ?_)
  obtain ⟨C1, z1, f1⟩ := h1
  have g1 : Grow m m1 := hold_fr z1 f1 (fun a ha => by omega)
  have O1 := O.mono g1
  have f10 := fK.1
  rw [isD_ok O.o.1, isG_ok O1.o.2.2.1 O.o.1]
  refine ok_calE (width_eq O1 (by omega)) ?_
  exact ok_rt ⟨rfl, C1, g1, mNext_eq (by rw [z1])⟩
theorem settle_0 {n s : Nat} {γ : Nat → Nat} {m : Mem} (C : CI γ m) : Ok (f_X10_settle n (s : Int) 0 m) (fun r m' => r = -1100000004 ∧ CI γ m' ∧ Grow m m' ∧ mNext m' = mNext m) := by
  unfold f_X10_settle
  rw [if_pos rfl]
  exact ok_cal (full_ok C) (fun v m' h => ok_rt h)
theorem settle_ok {n s K : Nat} {v : Int} {γ : Nat → Nat} {m : Mem} (hn : 300 < n) (C : CI γ m) (hs : s < 8) (cK : can K) (R : Res m v K) : Ok (f_X10_settle n (s : Int) v.toNat m) (fun r m' => SRes γ s K r m' ∧ Grow m m' ∧ mNext m' = mNext m) := by
  rcases R with ⟨fK, o, rfl, O⟩ | ⟨no, rfl⟩
  · rw [Int.toNat_natCast]
    exact ok_mono (settle_o hn C hs cK fK O) (fun r m' h => ⟨Or.inl ⟨fK, h.1, h.2.1⟩, h.2.2⟩)
  · exact ok_mono (settle_0 C) (fun r m' h => ⟨Or.inr ⟨no, h.1, h.2.1⟩, h.2.2⟩)
/-- what an act comes to -/
def AR (m : Mem) (r : Int) (m' : Mem) : Prop := (1 ≤ r ∨ r = -1100000004) ∧ (∃ γ', CI γ' m') ∧ Grow m m' ∧ mNext m' ≤ mNext m + 400
theorem SRes.ar {γ : Nat → Nat} {s K : Nat} {r : Int} {m' : Mem} (h : SRes γ s K r m') : (1 ≤ r ∨ r = -1100000004) ∧ ∃ γ', CI γ' m' := by
  rcases h with ⟨_, h1, h2⟩ | ⟨_, h1, h2⟩
  · have := wid_pos K
    exact ⟨Or.inl (by omega), _, h2⟩
  · exact ⟨Or.inr h1, _, h2⟩
theorem settle_wg {n s : Nat} {v : Int} {γ : Nat → Nat} {m : Mem} (hn : 300 < n) (C : CI γ m) (hs : s < 8) (R : WG m v) : Ok (f_X10_settle n (s : Int) v.toNat m) (fun r m' => ((1 ≤ r ∨ r = -1100000004) ∧ ∃ γ', CI γ' m') ∧ Grow m m' ∧ mNext m' = mNext m) := by
  obtain ⟨o, rfl, h⟩ := R
  rw [Int.toNat_natCast]
  rcases h with rfl | ⟨K, cK, fK, O⟩
  · exact ok_mono (settle_0 C) (fun r m' h => ⟨⟨Or.inr h.1, _, h.2.1⟩, h.2.2⟩)
  · refine ok_mono (settle_o hn C hs cK fK O) (fun r m' h => ⟨⟨Or.inl ?_, _, h.2.1⟩, h.2.2⟩)
    have := wid_pos K
    omega
theorem SM_SC {a : Nat} (h : SM a) : SC a := by
  unfold SC
  rcases h with h | h
  · exact Or.inl h
  · exact Or.inr (Or.inl (by omega))
theorem whole_ok {n s : Nat} {p : Int} {γ : Nat → Nat} {m : Mem} (hn : 300 < n) (C : CI γ m) (hs : s < 8) (hp : p.natAbs ≤ 9) (hb : mNext m + 400 < 2147483648) : Ok (f_X10_whole n (s : Int) p m) (AR m) := by
  unfold f_X10_whole
  refine ok_calE (isSlot_eq hs) ?_
  dsimp only [jn]
  rw [if_neg (by decide)]
  refine ok_calE isWithin_eq ?_
  rw [decide_eq_true (by omega), if_neg (show ¬ b2i true = 0 by decide)]
  refine ok_cal (integerOf_ok hn (by omega) (by omega)) (fun v m1 h1 => ?_)
  obtain ⟨R, f1, n1⟩ := h1
  refine ok_cal (settle_ok hn (C.fr (f1.weak (fun a h => SM_SC h))) hs (can_iz p) R) (fun r m2 h2 => ?_)
  obtain ⟨S, g2, n2⟩ := h2
  exact ok_rt ⟨S.ar.1, S.ar.2, f1.1.tr g2, by omega⟩
theorem heap_ok {n s p : Nat} {γ : Nat → Nat} {m : Mem} (hn : 300 < n) (C : CI γ m) (hs : s < 8) (hp : p ≤ 9) (hb : mNext m + 400 < 2147483648) : Ok (f_X10_heap n (s : Int) (p : Int) m) (AR m) := by
  unfold f_X10_heap
  refine ok_calE (isSlot_eq hs) ?_
  dsimp only [jn]
  rw [if_neg (by decide)]
  refine ok_calE isWithin_eq ?_
  rw [decide_eq_true (by omega), if_neg (show ¬ b2i true = 0 by decide)]
  refine ok_cal (heapOf_ok2 hn (by omega) (by omega)) (fun v m1 h1 => ?_)
  obtain ⟨R, f1, n1⟩ := h1
  refine ok_cal (settle_ok hn (C.fr (f1.weak (fun a h => SM_SC h))) hs (can_hc p) R) (fun r m2 h2 => ?_)
  obtain ⟨S, g2, n2⟩ := h2
  exact ok_rt ⟨S.ar.1, S.ar.2, f1.1.tr g2, by omega⟩
theorem upsX_ok {n s q : Nat} {p : Int} {γ : Nat → Nat} {m : Mem} (hn : 300 < n) (C : CI γ m) (hs : s < 8) (hp : p.natAbs ≤ 4) (hq : q ≤ 5) (hb : mNext m + 400 < 2147483648) : Ok (f_X10_ups n (s : Int) p (q : Int) m) (AR m) := by
  unfold f_X10_ups
  refine ok_calE (isSlot_eq hs) ?_
  dsimp only [jn]
  rw [if_neg (by decide)]
  refine ok_calE isWithin_eq ?_
  rw [decide_eq_true (by omega), if_neg (show ¬ b2i true = 0 by decide)]
  refine ok_calE isWithin_eq ?_
  rw [decide_eq_true (by omega), if_neg (show ¬ b2i true = 0 by decide)]
  refine ok_cal (ups_ok hn hp (by omega) C.2.2.2.2.1 (by omega)) (fun v m1 h1 => ?_)
  obtain ⟨R, f1, n1⟩ := h1
  refine ok_cal (settle_wg hn (C.fr (f1.weak (fun a h => SM_SC h))) hs R) (fun r m2 h2 => ?_)
  obtain ⟨S, g2, n2⟩ := h2
  exact ok_rt ⟨S.1, S.2, f1.1.tr g2, by omega⟩
theorem flowerX_ok {n s p q t : Nat} {γ : Nat → Nat} {m : Mem} (hn : 300 < n) (C : CI γ m) (hs : s < 8) (hp : 1 ≤ p ∧ p ≤ 4) (hq : q ≤ 3) (ht : t ≤ 3) (hb : mNext m + 400 < 2147483648) : Ok (f_X10_flower n (s : Int) (p : Int) (q : Int) (t : Int) m) (AR m) := by
  unfold f_X10_flower
  refine ok_calE (isSlot_eq hs) ?_
  dsimp only [jn]
  rw [if_neg (by decide)]
  refine ok_calE isWithin_eq ?_
  rw [decide_eq_true (by omega), if_neg (show ¬ b2i true = 0 by decide)]
  refine ok_calE isWithin_eq ?_
  rw [decide_eq_true (by omega), if_neg (show ¬ b2i true = 0 by decide)]
  refine ok_calE isWithin_eq ?_
  rw [decide_eq_true (by omega), if_neg (show ¬ b2i true = 0 by decide)]
  refine ok_cal (flower_ok hn (by omega) (by omega) (by omega) (by omega)) (fun v m1 h1 => ?_)
  obtain ⟨R, f1, n1⟩ := h1
  refine ok_cal (settle_wg hn (C.fr (f1.weak (fun a h => SM_SC h))) hs R) (fun r m2 h2 => ?_)
  obtain ⟨S, g2, n2⟩ := h2
  exact ok_rt ⟨S.1, S.2, f1.1.tr g2, by omega⟩
theorem minus_ok {n s a : Nat} {γ : Nat → Nat} {m : Mem} (hn : 300 < n) (C : CI γ m) (hs : s < 8) (ha : a < 8) (hb : mNext m + 400 < 2147483648) : Ok (f_X10_minus n (s : Int) (a : Int) m) (fun r m' => SRes γ s (gneg (γ a)) r m' ∧ Grow m m' ∧ mNext m' ≤ mNext m + 400) := by
  unfold f_X10_minus
  refine ok_calE (isSlot_eq hs) ?_
  dsimp only [jn]
  rw [if_neg (by decide)]
  refine ok_calE (isSlot_eq ha) ?_
  rw [if_neg (by decide)]
  obtain ⟨cg, fg, _⟩ := C.1 a ha
  obtain ⟨o, O, e⟩ := held_eq (n := n) ha (C.1 a ha)
  refine ok_calE e ?_
  rw [Int.toNat_natCast]
  refine ok_cal (negativeOf_ok hn O cg fg (by omega)) (fun v m1 h1 => ?_)
  obtain ⟨R, f1, n1⟩ := h1
  refine ok_cal (settle_ok hn (C.fr (f1.weak (fun a h => SM_SC h))) hs (can_gneg _ cg) R) (fun r m2 h2 => ?_)
  obtain ⟨S, g2, n2⟩ := h2
  exact ok_rt ⟨S, f1.1.tr g2, by omega⟩
theorem plus_ok {n s a b : Nat} {γ : Nat → Nat} {m : Mem} (hn : 300 < n) (C : CI γ m) (hs : s < 8) (ha : a < 8) (hb8 : b < 8) (hb : mNext m + 400 < 2147483648) : Ok (f_X10_plus n (s : Int) (a : Int) (b : Int) m) (fun r m' => (∃ K, can K ∧ geq K (gadd (γ a) (γ b)) ∧ SRes γ s K r m') ∧ Grow m m' ∧ mNext m' ≤ mNext m + 400) := by
  unfold f_X10_plus
  refine ok_calE (isSlot_eq hs) ?_
  dsimp only [jn]
  rw [if_neg (by decide)]
  refine ok_calE (isSlot_eq ha) ?_
  rw [if_neg (by decide)]
  refine ok_calE (isSlot_eq hb8) ?_
  rw [if_neg (by decide)]
  obtain ⟨cg, fg, _⟩ := C.1 a ha
  obtain ⟨ch, fh, _⟩ := C.1 b hb8
  obtain ⟨o, O, e⟩ := held_eq (n := n) ha (C.1 a ha)
  obtain ⟨o2, O2, e2⟩ := held_eq (n := n) hb8 (C.1 b hb8)
  refine ok_calE e ?_
  refine ok_calE e2 ?_
  rw [Int.toNat_natCast, Int.toNat_natCast]
  refine ok_cal (sumOf_ok hn O O2 cg ch fg fh (by omega)) (fun v m1 h1 => ?_)
  obtain ⟨⟨K, cK, eK, R⟩, f1, n1⟩ := h1
  refine ok_cal (settle_ok hn (C.fr (f1.weak (fun a h => SM_SC h))) hs cK R) (fun r m2 h2 => ?_)
  obtain ⟨S, g2, n2⟩ := h2
  exact ok_rt ⟨⟨K, cK, eK, S⟩, f1.1.tr g2, by omega⟩
theorem CI.nur {γ : Nat → Nat} {m m' : Mem} (h : CI γ m) (f : Fr m m' SF) (R : NRow40 m' 67) : CI γ m' := by
  have e : ∀ a i, a < 1000 → ¬ SF a → mGet m' a i = mGet m a i := f.2
  obtain ⟨h1, ⟨c, h2, h2'⟩, h3, ⟨o, h4, h5⟩, h6, ⟨z, h7, h8⟩, _⟩ := h
  refine ⟨fun i hi => (h1 i hi).mono f.1 (e 46 i (by decide) (by decide)), ⟨c, (e 45 5 (by decide) (by decide)).trans h2, h2'⟩, fun i hi => ?_, ⟨o, (e 36 2 (by decide) (by decide)).trans h4, h5.mono f.1⟩, ?_, ⟨z, (e 45 0 (by decide) (by decide)).trans h7, h8.mono f.1⟩, Or.inr R⟩
  · obtain ⟨o, o1, o2⟩ := h3 i hi
    exact ⟨o, (e 48 i (by decide) (by decide)).trans o1, o2.imp id (fun h => h.mono f.1)⟩
  · rw [e 28 6 (by decide) (by decide)]; exact h6.mono f.1
theorem born_ok {n N s k : Nat} {γ : Nat → Nat} {m : Mem} (hn : 300 < n) (hN : 100 < N) (C : CI γ m) (hs : s < 8) (hk : k < 67) (hb : mNext m + 400 < 2147483648) : Ok (f_X10_born n N 3 (k : Int) (s : Int) m) (AR m) := by
  unfold f_X10_born
  have e : f_X3_isDay n 3 m = some (1, m) := by
    unfold f_X3_isDay
    dsimp only [jn]
    rw [if_neg (by decide), if_neg (by decide)]
    rfl
  refine ok_calE e ?_
  dsimp only [jn]
  rw [if_neg (by decide), if_neg (by omega), if_neg (by omega)]
  refine ok_calE (isSlot_eq hs) ?_
  rw [if_neg (by decide), if_neg (by omega)]
  refine ok_cal (numbered_ok hn hN C.2.2.2.2.2.2 (by omega) hk) (fun v m1 h1 => ?_)
  obtain ⟨⟨o, rfl, K, cK, fK, O⟩, R, f1, n1⟩ := h1
  rw [Int.toNat_natCast, if_neg O.o.2.2.2]
  refine ok_cal (settle_o hn (C.nur f1 R) hs cK fK O) (fun r m2 h2 => ?_)
  obtain ⟨rfl, C2, g2, n2⟩ := h2
  have := wid_pos K
  exact ok_rt ⟨Or.inl (by omega), ⟨_, C2⟩, f1.1.tr g2, by omega⟩
