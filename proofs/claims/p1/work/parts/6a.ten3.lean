/-! THE CLASS: games made of slots -/
theorem isIn_eq {n p i : Nat} {m : Mem} (hp : p < 256) (hi : i < 8) : f_X10_isIn n (p : Int) (i : Int) m = some (b2i (p.testBit i), m) := by
  unfold f_X10_isIn
  dsimp only [jn]
  cases e : p.testBit i
  · rw [if_pos ((ibit0 (by omega) (by omega)).mpr e)]; rfl
  · rw [if_neg (fun q => by rw [(ibit0 (by omega) (by omega)).mp q] at e; cases e)]; rfl
theorem isSet_eq {n p : Nat} {m : Mem} (hp : p < 256) : f_X10_isSet n (p : Int) m = some (1, m) := by
  unfold f_X10_isSet
  rw [isWithin_eq, decide_eq_true (by omega)]
  rfl
/-- the row of picked games: slots, by number -/
def Pk (m : Mem) (c : Nat) (κ : Nat → Nat) : Prop := ∀ i, i < c → κ i < 8 ∧ mGet m 2 i = mGet m 46 (κ i)
theorem pick_ok {n p c : Nat} {κ : Nat → Nat} {γ : Nat → Nat} {m : Mem} (hn : 300 < n) (C : CI γ m) (hp : p < 256) (hc : c ≤ 8) (H : Pk m c κ) : Ok (f_X10_pick n (p : Int) (c : Int) m) (fun v m' => ∃ (c' : Nat) (κ' : Nat → Nat), v = (c' : Int) ∧ c ≤ c' ∧ c' ≤ c + 8 ∧ Pk m' c' κ' ∧ (∀ i, i < c → κ' i = κ i) ∧ m'.2 = m.2 ∧ ∀ a i, a ≠ 2 → mGet m' a i = mGet m a i) := by
  unfold f_X10_pick
  refine ok_up2 8 (fun j a m1 => ∃ (c' : Nat) (κ' : Nat → Nat), a = (c' : Int) ∧ c ≤ c' ∧ c' ≤ c + j ∧ Pk m1 c' κ' ∧ (∀ i, i < c → κ' i = κ i) ∧ m1.2 = m.2 ∧ ∀ a i, a ≠ 2 → mGet m1 a i = mGet m a i) (fun w j a m1 hj hI hw => ?_) (fun w a m1 hI => ?_) n 0 (c : Int) m (Nat.zero_le _) ⟨c, κ, rfl, Nat.le_refl _, by omega, H, fun _ _ => rfl, rfl, fun _ _ _ => rfl⟩ (by omega)
  · obtain ⟨c1, κ1, rfl, l1, l2, H1, k1, z1, f1⟩ := hI
    rw [if_pos (by omega)]
    refine ok_calE (isIn_eq hp hj) ?_
    dsimp only [jn]
    cases e : p.testBit j
    · rw [if_pos (show b2i false = 0 from rfl), k_1 (by omega)]
      exact hw _ _ ⟨c1, κ1, rfl, l1, by omega, H1, k1, z1, f1⟩
    · rw [if_neg (show ¬ b2i true = 0 by decide), if_neg (by omega), if_pos (by omega)]
      have C1 : CI γ m1 := C.fr (f2_fr z1 (S := SC) (fun a i ha => f1 a i (by omega)) (fun a ha => by omega))
      obtain ⟨cK, fK, o, o1, O⟩ := C1.1 j hj
      have hh : f_X6_held n (j : Int) m1 = some ((o : Int), m1) := by
        unfold f_X6_held
        dsimp only [jn]
        rw [if_neg (by omega), if_pos (by omega), ldG_ok (kG46 _) hj, o1, Int.toNat_natCast]
        rfl
      refine ok_calE hh ?_
      obtain ⟨q1, q2, q3, q4⟩ := O.o
      rw [Int.toNat_natCast, stG_ok (kG2 _) (by omega) (Or.inr ⟨q1, q2, by rw [q3]⟩), k_1 (by omega), k_1 (by omega)]
      have G8 : ∀ a i, mGet (mSet m1 2 c1 (o : Int)) a i = if a = 2 ∧ i = c1 then (o : Int) else mGet m1 a i := fun a i => by rw [mGet_mSet, w32_nat (by omega)]
      refine hw _ _ ⟨c1 + 1, fun i => if i = c1 then j else κ1 i, rfl, by omega, by omega, fun i hi => ?_, fun i hi => ?_, z1, fun a i h => by rw [G8, if_neg (fun e => h e.1)]; exact f1 a i h⟩
      · by_cases q : i = c1
        · refine ⟨by show (if i = c1 then j else κ1 i) < 8; rw [if_pos q]; exact hj, ?_⟩
          show _ = mGet _ 46 (if i = c1 then j else κ1 i)
          rw [if_pos q, G8, if_pos ⟨rfl, q⟩, G8, if_neg (by omega), o1]
        · obtain ⟨h1, h2⟩ := H1 i (by omega)
          refine ⟨by show (if i = c1 then j else κ1 i) < 8; rw [if_neg q]; exact h1, ?_⟩
          show _ = mGet _ 46 (if i = c1 then j else κ1 i)
          rw [if_neg q, G8, if_neg (fun e => q e.2), G8, if_neg (by omega), h2]
      · show (if i = c1 then j else κ1 i) = κ i
        rw [if_neg (by omega)]
        exact k1 i hi
  · obtain ⟨c1, κ1, rfl, l1, l2, H1, k1, z1, f1⟩ := hI
    rw [if_neg (by omega)]
    exact ok_rt ⟨c1, κ1, rfl, l1, l2, H1, k1, z1, f1⟩
theorem flat_len (f : Nat → List Nat) (b : Nat) : ∀ l : List Nat, (∀ x, x ∈ l → (f x).length ≤ b) → (l.flatMap f).length ≤ b * l.length
  | [], _ => Nat.zero_le _
  | a :: l, h => by
    rw [List.flatMap_cons, List.length_append, List.length_cons, Nat.mul_succ]
    have h1 := h a (List.mem_cons_self ..)
    have h2 := flat_len f b l (fun x hx => h x (List.mem_cons_of_mem _ hx))
    omega
theorem made_ok {n s p q : Nat} {γ : Nat → Nat} {m : Mem} (hn : 300 < n) (C : CI γ m) (hs : s < 8) (hp : p < 256) (hq : q < 256) (hb : mNext m + 400 < 2147483648) : Ok (f_X10_made n (s : Int) (p : Int) (q : Int) m) (AR m) := by
  unfold f_X10_made
  refine ok_calE (isSlot_eq hs) ?_
  dsimp only [jn]
  rw [if_neg (by decide)]
  refine ok_calE (isSet_eq hp) ?_
  rw [if_neg (by decide)]
  refine ok_calE (isSet_eq hq) ?_
  rw [if_neg (by decide)]
  refine ok_cal (pick_ok (c := 0) (κ := fun _ => 0) hn C hp (by decide) (fun i hi => absurd hi (Nat.not_lt_zero _))) (fun v m1 h1 => ?_)
  obtain ⟨md, κ1, rfl, _, l1, H1, _, z1, f1⟩ := h1
  have C1 : CI γ m1 := C.fr (f2_fr z1 (S := SC) (fun a i ha => f1 a i (by omega)) (fun a ha => by omega))
  refine ok_cal (pick_ok hn C1 hq (by omega) H1) (fun v m2 h2 => ?_)
  obtain ⟨to, κ2, rfl, l2, l3, H2, _, z2, f2⟩ := h2
  have C2 : CI γ m2 := C1.fr (f2_fr z2 (S := SC) (fun a i ha => f2 a i (by omega)) (fun a ha => by omega))
  have g02 : Grow m m2 := hold_fr (S := fun a => a = 2) (z2.trans z1) (fun a i ha => (f2 a i ha).trans (f1 a i ha)) (fun a ha => by omega)
  have n2 : mNext m2 = mNext m := mNext_eq (by rw [z2, z1])
  obtain ⟨F, eF⟩ : ∃ F, F = (List.range 8).flatMap (fun i => fls (γ i)) := ⟨_, rfl⟩
  have inF : ∀ i, i < 8 → ∀ x, fol (γ i) x → x ∈ F := fun i hi x hx => by
    rw [eF, List.mem_flatMap]
    exact ⟨i, List.mem_range.mpr hi, mem_fls.mpr hx⟩
  have lF : F.length ≤ 255 := by
    have := flat_len (fun i => fls (γ i)) 10 (List.range 8) (fun x hx => (C.1 x (List.mem_range.mp hx)).2.1.1)
    rw [← eF, List.length_range] at this
    omega
  obtain ⟨kk, ekk⟩ : ∃ kk : Nat → Nat, kk = fun i => γ (κ2 i) := ⟨_, rfl⟩
  have row : GRow m2 2 0 to kk := fun i _ hi => by
    obtain ⟨h3, h4⟩ := H2 i hi
    obtain ⟨cK, fK, o, o1, O⟩ := C2.1 (κ2 i) h3
    rw [ekk]
    exact ⟨o, h4.trans o1, O, cK, fK⟩
  obtain ⟨G, eG⟩ : ∃ G, G = mkg ((List.range md).map kk) (((List.range to).filter (fun i => decide (md ≤ i))).map kk) := ⟨_, rfl⟩
  have fit : Fits (RG kk 0 md) (RG kk md to) G := by
    have eL : ∀ x, op G 0 x = true ↔ RG kk 0 md x := fun x => by
      rw [eG, op_mkgL, List.mem_map]
      constructor
      · rintro ⟨i, h3, h4⟩; exact ⟨i, Nat.zero_le _, List.mem_range.mp h3, h4.symm⟩
      · rintro ⟨i, _, h3, h4⟩; exact ⟨i, List.mem_range.mpr h3, h4.symm⟩
    have eR : ∀ x, op G 1 x = true ↔ RG kk md to x := fun x => by
      rw [eG, op_mkgR, List.mem_map]
      constructor
      · rintro ⟨i, h3, h4⟩
        obtain ⟨h5, h6⟩ := List.mem_filter.mp h3
        exact ⟨i, decide_eq_true_eq.mp h6, List.mem_range.mp h5, h4.symm⟩
      · rintro ⟨i, h3, h4, h5⟩
        exact ⟨i, List.mem_filter.mpr ⟨List.mem_range.mpr h4, decide_eq_true_eq.mpr h3⟩, h5.symm⟩
    exact ⟨fun x hx => ⟨x, (eL x).mp hx, geq_rfl _⟩, fun y hy => ⟨y, (eL y).mpr hy, geq_rfl _⟩, fun x hx => ⟨x, (eR x).mp hx, geq_rfl _⟩, fun y hy => ⟨y, (eR y).mpr hy, geq_rfl _⟩⟩
  refine ok_cal (gameOf_ok (a := 2) (len := 16) (fr := 0) (F := F) hn (kG2 _) (by decide) (by decide) (by decide) (Nat.zero_le _) l2 (by omega) (by omega) row (inF 0 (by decide) 0 (fol_zero _)) (fun i _ hi x hx => by rw [ekk] at hx; exact inF (κ2 i) (H2 i hi).1 x hx) lF fit (by omega)) (fun v m3 h3 => ?_)
  obtain ⟨⟨K, cK, _, R⟩, f3, n3⟩ := h3
  refine ok_cal (settle_ok hn (C2.fr (f3.weak (fun a h => SM_SC h))) hs cK R) (fun r m4 h4 => ?_)
  obtain ⟨S, g4, n4⟩ := h4
  exact ok_rt ⟨S.ar.1, S.ar.2, (g02.tr f3.1).tr g4, by omega⟩
