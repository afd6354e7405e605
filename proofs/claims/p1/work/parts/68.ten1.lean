/-! THE CLASS: what holds between calls -/
def gset (γ : Nat → Nat) (s K : Nat) : Nat → Nat := fun i => if i = s then K else γ i
theorem gset_at (γ : Nat → Nat) (s K : Nat) : gset γ s K s = K := if_pos rfl
theorem gset_ne {γ : Nat → Nat} {s K i : Nat} (h : i ≠ s) : gset γ s K i = γ i := if_neg h
/-- the game of a slot -/
def SG (m : Mem) (i K : Nat) : Prop := can K ∧ fits K ∧ ∃ o : Nat, mGet m 46 i = (o : Int) ∧ GOb m o K
def CI (γ : Nat → Nat) (m : Mem) : Prop := (∀ i, i < 8 → SG m i (γ i)) ∧ (∃ c : Nat, mGet m 45 5 = (c : Int) ∧ c ≤ 8) ∧ (∀ i, i < 8 → ∃ o : Nat, mGet m 48 i = (o : Int) ∧ (o = 0 ∨ VG m o)) ∧ (∃ o : Nat, mGet m 36 2 = (o : Int) ∧ GOb m o (hc 10)) ∧ VG m (mGet m 28 6).toNat ∧ (∃ o : Nat, mGet m 45 0 = (o : Int) ∧ GOb m o 0) ∧ NU m
/-- cells that the invariant doesn't speak of -/
abbrev SC (a : Nat) : Prop := SY a ∨ (29 ≤ a ∧ a ≤ 35) ∨ a = 37 ∨ a = 38 ∨ a = 2 ∨ a = 3 ∨ (41 ≤ a ∧ a ≤ 44)
theorem SG.mono {m m' : Mem} {i K : Nat} (h : SG m i K) (f : Grow m m') (e : mGet m' 46 i = mGet m 46 i) : SG m' i K := by
  obtain ⟨h1, h2, o, h3, h4⟩ := h
  exact ⟨h1, h2, o, e.trans h3, h4.mono f⟩
theorem NRow40.mono {m m' : Mem} {c : Nat} (h : NRow40 m c) (f : Grow m m') (e1 : mGet m' 39 3 = mGet m 39 3) (e2 : ∀ i, mGet m' 40 i = mGet m 40 i) : NRow40 m' c := ⟨e1.trans h.1, fun i hi => by
  obtain ⟨o, h1, h2⟩ := h.2 i hi
  exact ⟨o, (e2 i).trans h1, h2.mono f⟩⟩
theorem NU.mono {m m' : Mem} (h : NU m) (f : Grow m m') (e1 : mGet m' 39 3 = mGet m 39 3) (e2 : ∀ i, mGet m' 40 i = mGet m 40 i) : NU m' := by
  rcases h with h | h
  · exact Or.inl (e1.trans h)
  · exact Or.inr (h.mono f e1 e2)
/-- all but the slots' own cells is as it was -/
theorem CI.but {γ : Nat → Nat} {m m' : Mem} (h : CI γ m) (f : Grow m m') (e36 : mGet m' 36 2 = mGet m 36 2) (e28 : mGet m' 28 6 = mGet m 28 6) (e45 : mGet m' 45 0 = mGet m 45 0) (e39 : mGet m' 39 3 = mGet m 39 3) (e40 : ∀ i, mGet m' 40 i = mGet m 40 i) : (∃ o : Nat, mGet m' 36 2 = (o : Int) ∧ GOb m' o (hc 10)) ∧ VG m' (mGet m' 28 6).toNat ∧ (∃ o : Nat, mGet m' 45 0 = (o : Int) ∧ GOb m' o 0) ∧ NU m' := by
  obtain ⟨h1, h2, h3, ⟨o, h4, h5⟩, h6, ⟨z, h7, h8⟩, h9⟩ := h
  exact ⟨⟨o, e36.trans h4, h5.mono f⟩, by rw [e28]; exact h6.mono f, ⟨z, e45.trans h7, h8.mono f⟩, h9.mono f e39 e40⟩
theorem CI.fr {γ : Nat → Nat} {m m' : Mem} (h : CI γ m) (f : Fr m m' SC) : CI γ m' := by
  have e : ∀ a i, a < 1000 → ¬ SC a → mGet m' a i = mGet m a i := f.2
  have b := h.but f.1 (e 36 2 (by decide) (by decide)) (e 28 6 (by decide) (by decide)) (e 45 0 (by decide) (by decide)) (e 39 3 (by decide) (by decide)) (fun i => e 40 i (by decide) (by decide))
  obtain ⟨h1, ⟨c, h2, h2'⟩, h3, _⟩ := h
  refine ⟨fun i hi => (h1 i hi).mono f.1 (e 46 i (by decide) (by decide)), ⟨c, (e 45 5 (by decide) (by decide)).trans h2, h2'⟩, fun i hi => ?_, b⟩
  obtain ⟨o, o1, o2⟩ := h3 i hi
  exact ⟨o, (e 48 i (by decide) (by decide)).trans o1, o2.imp id (fun h => h.mono f.1)⟩
theorem kI3 (m : Mem) : sKind m 3 = (1, 7) := rfl
theorem kG2 (m : Mem) : sKind m 2 = (5, 16) := rfl
theorem kG46 (m : Mem) : sKind m 46 = (5, 8) := rfl
theorem kI47 (m : Mem) : sKind m 47 = (1, 8) := rfl
theorem kG48 (m : Mem) : sKind m 48 = (5, 8) := rfl
theorem isWithin_eq {n : Nat} {x a b : Int} {m : Mem} : f_X10_isWithin n x a b m = some (b2i (decide (a ≤ x ∧ x ≤ b)), m) := by
  unfold f_X10_isWithin
  dsimp only [jn]
  by_cases q : x < a
  · rw [if_pos q, decide_eq_false (by omega)]; rfl
  · rw [if_neg q]
    by_cases q2 : b < x
    · rw [if_pos q2, decide_eq_false (by omega)]; rfl
    · rw [if_neg q2, decide_eq_true (by omega)]; rfl
theorem isSlot_eq {n s : Nat} {m : Mem} (hs : s < 8) : f_X10_isSlot n (s : Int) m = some (1, m) := by
  unfold f_X10_isSlot
  rw [isWithin_eq, decide_eq_true (by omega)]
  rfl
/-- a fault: its code, and one more counted -/
theorem fail_ok {n z : Nat} {m : Mem} (hz : 1 ≤ z ∧ z ≤ 6) : Ok (f_X10_fail n (-1100000000 - (z : Int)) m) (fun v m' => v = -1100000000 - (z : Int) ∧ m'.2 = m.2 ∧ ∀ a i, a ≠ 3 → mGet m' a i = mGet m a i) := by
  unfold f_X10_fail
  dsimp only [nm, jn]
  rw [w32_id (x := (-1100000000) - (-1100000000 - (z : Int))) (by omega) (by omega), show (-1100000000) - (-1100000000 - (z : Int)) = (z : Int) by omega]
  refine ok_calE isWithin_eq ?_
  rw [decide_eq_true (by omega), if_neg (show ¬ b2i true = 0 by decide), ldI_ok (kI3 _) (by omega), stI_ok (kI3 _) (by omega)]
  refine ok_rt ⟨rfl, rfl, fun a i h => ?_⟩
  rw [mGet_mSet, if_neg (fun e => h e.1)]
theorem f2_fr {m m' : Mem} {S : Nat → Prop} (h1 : m'.2 = m.2) (h2 : ∀ a i, ¬ S a → mGet m' a i = mGet m a i) (hS : ∀ a, S a → a < 1000) : Fr m m' S := Fr.of (by rw [h1]) (fun a i q => h2 a i (fun e => q ⟨hS a e, e⟩))
theorem held_eq {n s : Nat} {m : Mem} {K : Nat} (hs : s < 8) (h : SG m s K) : ∃ o : Nat, GOb m o K ∧ f_X6_held n (s : Int) m = some ((o : Int), m) := by
  obtain ⟨_, _, o, h3, h4⟩ := h
  refine ⟨o, h4, ?_⟩
  unfold f_X6_held
  dsimp only [jn]
  rw [if_neg (by omega), if_pos (by omega), ldG_ok (kG46 _) hs, h3, Int.toNat_natCast]
  rfl
theorem zero_eq {n : Nat} {γ : Nat → Nat} {m : Mem} (h : CI γ m) : ∃ o : Nat, GOb m o 0 ∧ f_X6_zero n m = some ((o : Int), m) := by
  obtain ⟨_, _, _, _, _, ⟨o, h1, h2⟩, _⟩ := h
  refine ⟨o, h2, ?_⟩
  unfold f_X6_zero
  dsimp only [gtG]
  rw [h1, Int.toNat_natCast]
  rfl
abbrev SH (a : Nat) : Prop := 45 ≤ a ∧ a ≤ 48
theorem hold_ok {n s o K : Nat} {γ : Nat → Nat} {m : Mem} (hn : 300 < n) (C : CI γ m) (hs : s < 8) (cK : can K) (fK : fits K) (O : GOb m o K) : Ok (f_X6_hold n (s : Int) o m) (fun _ m' => CI (gset γ s K) m' ∧ m'.2 = m.2 ∧ ∀ a i, ¬ SH a → mGet m' a i = mGet m a i) := by
  obtain ⟨o1, o2, o3, o4⟩ := O.o
  obtain ⟨sl, ⟨c, c1, c2⟩, hi, rest⟩ := id C
  unfold f_X6_hold
  dsimp only [jn, gtF, ptF]
  rw [if_neg (by omega), if_pos (by omega), c1]
  -- the state while history is kept
  obtain ⟨J, eJ⟩ : ∃ J : Mem → Prop, J = fun m1 => m1.2 = m.2 ∧ (∀ a i, ¬ SH a → mGet m1 a i = mGet m a i) ∧ (∀ i, mGet m1 46 i = mGet m 46 i) ∧ mGet m1 45 0 = mGet m 45 0 ∧ ∀ i, i < 8 → ∃ o : Nat, mGet m1 48 i = (o : Int) ∧ (o = 0 ∨ VG m o) := ⟨_, rfl⟩
  have grow : ∀ m1 : Mem, m1.2 = m.2 → (∀ a i, ¬ SH a → mGet m1 a i = mGet m a i) → Grow m m1 := fun m1 h1 h2 => m2_grow h1 (fun a i ha => h2 a i (by omega))
  have last : ∀ m1, J m1 → (∃ c : Nat, mGet m1 45 5 = (c : Int) ∧ c ≤ 8) → Ok (stG m1 46 (s : Int) o fun m119 => rt 0 m119) (fun _ m' => CI (gset γ s K) m' ∧ m'.2 = m.2 ∧ ∀ a i, ¬ SH a → mGet m' a i = mGet m a i) := by
    intro m1 h1 hc
    rw [eJ] at h1
    obtain ⟨z1, f1, e46, e45, h48⟩ := h1
    rw [stG_ok (kG46 _) hs (Or.inr ⟨o1, o2, by rw [(O.mono (grow m1 z1 f1)).o.2.2.1]⟩)]
    have G8 : ∀ a i, mGet (mSet m1 46 s (o : Int)) a i = if a = 46 ∧ i = s then (o : Int) else mGet m1 a i := fun a i => by rw [mGet_mSet, w32_nat (by omega)]
    obtain ⟨m2, e2⟩ : ∃ m2, m2 = mSet m1 46 s (o : Int) := ⟨_, rfl⟩
    rw [← e2] at G8 ⊢
    have z2 : m2.2 = m.2 := by rw [e2]; exact z1
    have f2 : ∀ a i, ¬ SH a → mGet m2 a i = mGet m a i := fun a i h => by rw [G8, if_neg (by omega)]; exact f1 a i h
    have gr2 := grow m2 z2 f2
    refine ok_rt ⟨⟨fun i hi8 => ?_, ?_, fun i hi8 => ?_, C.but gr2 (f2 36 2 (by decide)) (f2 28 6 (by decide)) (by rw [G8, if_neg (by omega)]; exact e45) (f2 39 3 (by decide)) (fun i => f2 40 i (by decide))⟩, z2, f2⟩
    · by_cases q : i = s
      · rw [q, gset_at]
        exact ⟨cK, fK, o, by rw [G8, if_pos ⟨rfl, rfl⟩], O.mono gr2⟩
      · rw [gset_ne q]
        exact (sl i hi8).mono gr2 (by rw [G8, if_neg (fun e => q e.2), e46])
    · obtain ⟨c, h3, h4⟩ := hc
      exact ⟨c, by rw [G8, if_neg (by omega)]; exact h3, h4⟩
    · obtain ⟨x, x1, x2⟩ := h48 i hi8
      exact ⟨x, by rw [G8, if_neg (by omega)]; exact x1, x2.imp id (fun h => h.mono gr2)⟩
  have mid : ∀ m1 (k : Nat), J m1 → mGet m1 45 5 = (k : Int) → k < 8 → Ok (if mGet m1 45 5 < 0 then (stG m1 46 (s : Int) o fun m119 => rt 0 m119) else stI m1 47 (mGet m1 45 5) (s : Int) fun m87 => ldG m87 46 (s : Int) fun x101 => stG m87 48 (mGet m87 45 5) x101 fun m102 => stG (mSet m102 45 5 (w32 (mGet m102 45 5 + 1))) 46 (s : Int) o fun m119 => rt 0 m119) (fun _ m' => CI (gset γ s K) m' ∧ m'.2 = m.2 ∧ ∀ a i, ¬ SH a → mGet m' a i = mGet m a i) := by
    intro m1 k h1 hk k8
    rw [hk, if_neg (by omega), stI_ok (kI47 _) k8]
    rw [eJ] at h1
    obtain ⟨z1, f1, e46, e45, h48⟩ := h1
    obtain ⟨cs, fs, x, x1, X⟩ := sl s hs
    have x31 := X.o.2.1
    have G2 : ∀ a i, mGet (mSet m1 47 k (s : Int)) a i = if a = 47 ∧ i = k then (s : Int) else mGet m1 a i := fun a i => by rw [mGet_mSet, w32_nat (by omega)]
    rw [ldG_ok (kG46 _) hs, G2 46 s, if_neg (by omega), e46, x1, Int.toNat_natCast, G2 45 5, if_neg (by omega), hk]
    have kx : (sKind (mSet m1 47 k (s : Int)) x).1 = 11 := by
      have : sKind (mSet m1 47 k (s : Int)) x = sKind m x := by
        show sKind (_, m1.2) x = _
        rw [z1]; rfl
      rw [this, X.o.2.2.1]
    rw [stG_ok (kG48 _) k8 (Or.inr ⟨X.o.1, x31, kx⟩)]
    obtain ⟨m3, e3⟩ : ∃ m3, m3 = mSet (mSet m1 47 k (s : Int)) 48 k (x : Int) := ⟨_, rfl⟩
    have G3 : ∀ a i, mGet m3 a i = if a = 48 ∧ i = k then (x : Int) else if a = 47 ∧ i = k then (s : Int) else mGet m1 a i := fun a i => by rw [e3, mGet_mSet, w32_nat (by omega), G2]
    rw [← e3, G3, if_neg (by omega), if_neg (by omega), hk, k_1 (by omega)]
    obtain ⟨m4, e4⟩ : ∃ m4, m4 = mSet m3 45 5 ((k + 1 : Nat) : Int) := ⟨_, rfl⟩
    have G4 : ∀ a i, mGet m4 a i = if a = 45 ∧ i = 5 then ((k + 1 : Nat) : Int) else if a = 48 ∧ i = k then (x : Int) else if a = 47 ∧ i = k then (s : Int) else mGet m1 a i := fun a i => by rw [e4, mGet_mSet, w32_nat (by omega), G3]
    rw [← e4]
    refine last m4 ?_ ⟨k + 1, by rw [G4, if_pos ⟨rfl, rfl⟩], by omega⟩
    rw [eJ]
    refine ⟨by rw [e4, e3]; exact z1, fun a i h => by rw [G4, if_neg (by omega), if_neg (by omega), if_neg (by omega)]; exact f1 a i h, fun i => by rw [G4, if_neg (by omega), if_neg (by omega), if_neg (by omega)]; exact e46 i, by rw [G4, if_neg (by omega), if_neg (by omega), if_neg (by omega)]; exact e45, fun i hi8 => ?_⟩
    by_cases q : i = k
    · exact ⟨x, by rw [G4, if_neg (by omega), if_pos ⟨rfl, q⟩], Or.inr ⟨_, cs, fs, X⟩⟩
    · obtain ⟨y, y1, y2⟩ := h48 i hi8
      exact ⟨y, by rw [G4, if_neg (by omega), if_neg (by omega), if_neg (by omega)]; exact y1, y2⟩
  have J0 : J m := by
    rw [eJ]
    exact ⟨rfl, fun _ _ _ => rfl, fun _ => rfl, rfl, hi⟩
  by_cases q : c < 8
  · rw [if_pos (by omega)]
    have := mid m c J0 c1 q
    rw [c1] at this
    exact this
  · rw [if_neg (by omega)]
    refine ok_up1 8 (fun i m1 => 1 ≤ i ∧ J m1) (fun w i m1 hi1 hI hw => ?_) (fun w m1 hI => ?_) n 1 m (by decide) ⟨Nat.le_refl _, J0⟩ (by omega)
    · obtain ⟨i1, h1⟩ := hI
      rw [eJ] at h1
      obtain ⟨z1, f1, e46, e45, h48⟩ := h1
      rw [if_pos (by omega), ldI_ok (kI47 _) hi1, w32_id (x := (i : Int) - 1) (by omega) (by omega), show (i : Int) - 1 = ((i - 1 : Nat) : Int) by omega, stI_ok (kI47 _) (by omega), ldG_ok (kG48 _) hi1]
      obtain ⟨x, x1, x2⟩ := h48 i hi1
      have G2 : ∀ a j, a ≠ 47 → mGet (mSet m1 47 (i - 1) (mGet m1 47 i)) a j = mGet m1 a j := fun a j h => by rw [mGet_mSet, if_neg (fun e => h e.1)]
      rw [G2 48 i (by decide), x1, Int.toNat_natCast]
      have x31 : x < 2147483648 := by
        rcases x2 with rfl | ⟨H, _, _, OH⟩
        · decide
        · exact OH.o.2.1
      have hv : x = 0 ∨ 1000 ≤ x ∧ x < 2147483648 ∧ (sKind (mSet m1 47 (i - 1) (mGet m1 47 i)) x).1 = 11 := by
        rcases x2 with h | ⟨H, _, _, OH⟩
        · exact Or.inl h
        · refine Or.inr ⟨OH.o.1, OH.o.2.1, ?_⟩
          have : sKind (mSet m1 47 (i - 1) (mGet m1 47 i)) x = sKind m x := by
            show sKind (_, m1.2) x = _
            rw [z1]; rfl
          rw [this, OH.o.2.2.1]
      rw [stG_ok (kG48 _) (by omega) hv, k_1 (by omega)]
      have G3 : ∀ a j, a ≠ 47 → mGet (mSet (mSet m1 47 (i - 1) (mGet m1 47 i)) 48 (i - 1) (x : Int)) a j = if a = 48 ∧ j = i - 1 then (x : Int) else mGet m1 a j := fun a j h => by rw [mGet_mSet, w32_nat (by omega), G2 a j h]
      refine hw _ ⟨by omega, ?_⟩
      rw [eJ]
      refine ⟨z1, fun a j h => by rw [G3 a j (by omega), if_neg (by omega)]; exact f1 a j h, fun j => by rw [G3 46 j (by decide), if_neg (by omega)]; exact e46 j, by rw [G3 45 0 (by decide), if_neg (by omega)]; exact e45, fun j hj => ?_⟩
      by_cases q2 : j = i - 1
      · exact ⟨x, by rw [G3 48 j (by decide), if_pos ⟨rfl, q2⟩], x2⟩
      · obtain ⟨y, y1, y2⟩ := h48 j hj
        exact ⟨y, by rw [G3 48 j (by decide), if_neg (fun e => q2 e.2)]; exact y1, y2⟩
    · obtain ⟨_, h1⟩ := hI
      rw [if_neg (by omega)]
      have h1' := h1
      rw [eJ] at h1
      obtain ⟨z1, f1, e46, e45, h48⟩ := h1
      have G2 : ∀ a j, mGet (mSet m1 45 5 7) a j = if a = 45 ∧ j = 5 then 7 else mGet m1 a j := fun a j => by rw [mGet_mSet]; rfl
      refine mid (mSet m1 45 5 7) 7 ?_ (by rw [G2, if_pos ⟨rfl, rfl⟩]; rfl) (by decide)
      rw [eJ]
      exact ⟨z1, fun a j h => by rw [G2, if_neg (by omega)]; exact f1 a j h, fun j => by rw [G2, if_neg (by omega)]; exact e46 j, by rw [G2, if_neg (by omega)]; exact e45, fun j hj => by
        obtain ⟨y, y1, y2⟩ := h48 j hj
        exact ⟨y, by rw [G2, if_neg (by omega)]; exact y1, y2⟩⟩
