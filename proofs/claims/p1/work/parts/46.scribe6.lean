/-! THE SCRIBE: a game of its own, laid down -/
theorem ldI0_ok {m : Mem} {a len : Nat} {K : Int → Option Rz} (hk : sKind m a = (1, len)) (hi : 0 < len) : ldI m a 0 K = K (mGet m a 0) := ldI_ok (i := 0) hk hi
theorem stI1_ok {m : Mem} {a len : Nat} {v : Int} {K : Mem → Option Rz} (hk : sKind m a = (1, len)) (hi : 1 < len) : stI m a 1 v K = K (mSet m a 1 v) := stI_ok (i := 1) hk hi
theorem stI0_ok {m : Mem} {a len : Nat} {v : Int} {K : Mem → Option Rz} (hk : sKind m a = (1, len)) (hi : 0 < len) : stI m a 0 v K = K (mSet m a 0 v) := stI_ok (i := 0) hk hi
theorem rankedMask_ok {n W x : Nat} {m : Mem} {r : Nat → Nat} (hn : 300 < n) (hW : W ≤ 10) (hx : x < 1024) (hr : ∀ g, g < W → mGet m 25 g = (r g : Int) ∧ r g < W) : Ok (f_X4_rankedMask n (x : Int) (W : Int) m) (fun a m' => m' = m ∧ ∃ y : Nat, a = (y : Int) ∧ y < 1024 ∧ ∀ b, y.testBit b = true ↔ ∃ g, g < W ∧ x.testBit g = true ∧ r g = b) := by
  unfold f_X4_rankedMask
  refine ok_up2 W (fun i a m1 => m1 = m ∧ ∃ y : Nat, a = (y : Int) ∧ y < 2 ^ 10 ∧ ∀ b, y.testBit b = true ↔ ∃ g, g < i ∧ x.testBit g = true ∧ r g = b) (fun w i a m1 hi hI hw => ?_) (fun w a m1 hI => ?_) n 0 0 m (Nat.zero_le _) ⟨rfl, 0, rfl, by decide, fun b => by rw [Nat.zero_testBit]; exact ⟨(fun h => by cases h), fun ⟨g, h, _⟩ => absurd h (Nat.not_lt_zero _)⟩⟩ (by omega)
  · obtain ⟨rfl, y, rfl, hy, hb⟩ := hI
    dsimp only [jn, nm]
    obtain ⟨r1, r2⟩ := hr i hi
    rw [if_pos (by omega), if_pos (by omega), k_1 (by omega)]
    cases e : x.testBit i
    · rw [if_pos ((ibit0 (by omega) (by omega)).mpr e)]
      refine hw _ _ ⟨rfl, y, rfl, hy, fun b => ?_⟩
      rw [hb]
      constructor
      · rintro ⟨g, h1, h2⟩; exact ⟨g, by omega, h2⟩
      · rintro ⟨g, h1, h2, h3⟩
        rcases (by omega : g < i ∨ g = i) with q | rfl
        · exact ⟨g, q, h2, h3⟩
        · rw [e] at h2; cases h2
    · rw [if_neg (fun q => by rw [(ibit0 (by omega) (by omega)).mp q] at e; cases e), ldI_ok (kI20 _ (by decide)) (by omega), r1, ior_bit hy (by omega)]
      refine hw _ _ ⟨rfl, _, rfl, Nat.or_lt_two_pow hy (Nat.pow_lt_pow_right (by decide) (by omega)), fun b => ?_⟩
      rw [or_bit, hb]
      constructor
      · rintro (⟨g, h1, h2⟩ | rfl)
        · exact ⟨g, by omega, h2⟩
        · exact ⟨i, by omega, e, rfl⟩
      · rintro ⟨g, h1, h2, h3⟩
        rcases (by omega : g < i ∨ g = i) with q | rfl
        · exact Or.inl ⟨g, q, h2, h3⟩
        · exact Or.inr h3.symm
  · obtain ⟨rfl, y, rfl, hy, hb⟩ := hI
    dsimp only [jn]
    rw [if_neg (by omega)]
    exact ok_rt ⟨rfl, y, rfl, hy, hb⟩
/-- the order that settled lays down: 0 first -/
theorem settle_order {d : Nat → Nat} {t : Nat → List Nat} {s : Nat → Nat} {g W : Nat} (hD : FolD g d) (eW : W = wid g) (cg : can g) (h10 : W ≤ 10) (hP : Pm s W) (ht : ∀ j, j < W → t j = wd (d j)) (hS : ∀ i j, i < j → j < W → wlt (t (s i)) (t (s j)) = true) : ∃ s' : Nat → Nat, Pm s' W ∧ Enum g (fun k => d (s' k)) ∧ ((s 0 = 0 ∧ s' = s) ∨ (s 0 ≠ 0 ∧ 1 < W ∧ s 1 = 0 ∧ s' = fun k => if k = 0 then 0 else if k = 1 then s 0 else s k)) := by
  have wp : 0 < W := by rw [eW]; exact wid_pos g
  have hcan : ∀ j, j < W → can (d j) := fun j hj => hD.can cg (by rw [← eW]; exact hj)
  have hb9 : ∀ j, j < W → bd (d j) ≤ 9 := fun j hj => hD.bd (by rw [← eW]; exact h10) (by rw [← eW]; exact hj)
  have S2 : ∀ i j, i < j → j < W → wlt (wd (d (s i))) (wd (d (s j))) = true := fun i j hij hj => by
    rw [← ht _ (hP.1 i (by omega)), ← ht _ (hP.1 j hj)]
    exact hS i j hij hj
  obtain ⟨j0, hj0, ej0⟩ := hP.2.1 0 wp
  have star : ∀ i, i < j0 → d (s i) = hc 1 := by
    intro i hi
    have h1 := S2 i j0 hi hj0
    rw [ej0, hD.2.2.2.2.1, wd_0] at h1
    exact wlt_zero (hcan _ (hP.1 i (by omega))) (hb9 _ (hP.1 i (by omega))) h1
  have j01 : j0 ≤ 1 := by
    apply Classical.byContradiction
    intro q
    have h0 := star 0 (by omega)
    have h1 := star 1 (by omega)
    have h2 := hD.2.2.1 _ _ (by rw [← eW]; exact hP.1 0 (by omega)) (by rw [← eW]; exact hP.1 1 (by omega)) (h0.trans h1.symm)
    have := hP.2.2 0 1 (by omega) (by omega) h2
    omega
  have nz : ∀ i, i < W → i ≠ j0 → d (s i) ≠ 0 := by
    intro i hi hne e
    have h2 := hD.2.2.1 (s i) 0 (by rw [← eW]; exact hP.1 i hi) (by rw [← eW]; exact wp) (e.trans hD.2.2.2.2.1.symm)
    exact hne (hP.2.2 i j0 hi hj0 (h2.trans ej0.symm))
  by_cases q : s 0 = 0
  · have e0 : j0 = 0 := hP.2.2 j0 0 hj0 wp (ej0.trans q.symm)
    subst e0
    refine ⟨s, hP, ⟨fun k hk => hD.1 _ (by rw [← eW]; exact hP.1 k (by rw [eW]; exact hk)), fun x hx => ?_, fun j k hjk hk => ?_⟩, Or.inl ⟨q, rfl⟩⟩
    · obtain ⟨j, hj, e⟩ := hD.2.1 x hx
      obtain ⟨k, hk, e2⟩ := hP.2.1 j (by rw [eW]; exact hj)
      exact ⟨k, by rw [← eW]; exact hk, by show d (s k) = x; rw [e2, e]⟩
    · rw [← eW] at hk
      by_cases q2 : j = 0
      · refine Or.inl ⟨?_, nz k hk (by omega)⟩
        show d (s j) = 0
        rw [q2, q, hD.2.2.2.2.1]
      · exact Or.inr ⟨nz j (by omega) q2, nz k hk (by omega), S2 j k hjk hk⟩
  · have e1 : j0 = 1 := by
      rcases (by omega : j0 = 0 ∨ j0 = 1) with h | h
      · rw [h] at ej0; exact absurd ej0 q
      · exact h
    subst e1
    obtain ⟨s', es⟩ : ∃ s' : Nat → Nat, s' = fun k => if k = 0 then 0 else if k = 1 then s 0 else s k := ⟨_, rfl⟩
    have a0 : s' 0 = 0 := by rw [es]; rfl
    have a1 : s' 1 = s 0 := by rw [es]; rfl
    have a2 : ∀ k, 2 ≤ k → s' k = s k := fun k hk => by rw [es]; show (if k = 0 then 0 else if k = 1 then s 0 else s k) = s k; rw [if_neg (by omega), if_neg (by omega)]
    have hP' : Pm s' W := by
      refine ⟨fun j hj => ?_, fun g2 hg2 => ?_, fun i j hi hj e => ?_⟩
      · rcases (by omega : j = 0 ∨ j = 1 ∨ 2 ≤ j) with h | h | h
        · rw [h, a0]; exact wp
        · rw [h, a1]; exact hP.1 0 wp
        · rw [a2 j h]; exact hP.1 j hj
      · obtain ⟨j, hj, e⟩ := hP.2.1 g2 hg2
        rcases (by omega : j = 0 ∨ j = 1 ∨ 2 ≤ j) with h | h | h
        · exact ⟨1, hj0, by rw [a1, ← e, h]⟩
        · exact ⟨0, wp, by rw [a0, ← e, h, ej0]⟩
        · exact ⟨j, hj, by rw [a2 j h, e]⟩
      · have inj := hP.2.2
        rcases (by omega : i = 0 ∨ i = 1 ∨ 2 ≤ i) with h | h | h <;> rcases (by omega : j = 0 ∨ j = 1 ∨ 2 ≤ j) with h2 | h2 | h2
        · omega
        · rw [h, h2, a0, a1] at e; exact absurd e.symm q
        · rw [h, a0, a2 j h2] at e
          have := inj 1 j hj0 hj (ej0.trans e); omega
        · rw [h, h2, a0, a1] at e; exact absurd e q
        · omega
        · rw [h, a1, a2 j h2] at e
          have := inj 0 j wp hj e; omega
        · rw [h2, a0, a2 i h] at e
          have := inj i 1 hi hj0 (e.trans ej0.symm); omega
        · rw [h2, a1, a2 i h] at e
          have := inj i 0 hi wp e; omega
        · rw [a2 i h, a2 j h2] at e
          exact inj i j hi hj e
    refine ⟨s', hP', ⟨fun k hk => hD.1 _ (by rw [← eW]; exact hP'.1 k (by rw [eW]; exact hk)), fun x hx => ?_, fun j k hjk hk => ?_⟩, Or.inr ⟨q, hj0, ej0, es⟩⟩
    · obtain ⟨j, hj, e⟩ := hD.2.1 x hx
      obtain ⟨k, hk, e2⟩ := hP'.2.1 j (by rw [eW]; exact hj)
      exact ⟨k, by rw [← eW]; exact hk, by show d (s' k) = x; rw [e2, e]⟩
    · rw [← eW] at hk
      show fo (d (s' j)) (d (s' k))
      rcases (by omega : j = 0 ∨ (j = 1 ∧ 2 ≤ k) ∨ 2 ≤ j) with h | ⟨h, h2⟩ | h
      · refine Or.inl ⟨by rw [h, a0]; exact hD.2.2.2.2.1, ?_⟩
        rcases (by omega : k = 1 ∨ 2 ≤ k) with h2 | h2
        · rw [h2, a1]; exact nz 0 wp (by omega)
        · rw [a2 k h2]; exact nz k hk (by omega)
      · rw [h, a1, a2 k h2]
        exact Or.inr ⟨nz 0 wp (by omega), nz k hk (by omega), S2 0 k (by omega) hk⟩
      · rw [a2 j h, a2 k (by omega)]
        exact Or.inr ⟨nz j (by omega) (by omega), nz k hk (by omega), S2 j k hjk hk⟩
/-! new cells that go well -/
theorem nwI_ok {m : Mem} {x cap : Nat} {K : Nat → Mem → Option Rz} (h : x ≤ cap) : nwI m (x : Int) cap K = K (mNext m) (mNew m 1 x) := by
  unfold nwI
  rw [if_pos ⟨by omega, by omega⟩, Int.toNat_natCast]
theorem nwB_ok {m : Mem} {x cap : Nat} {K : Nat → Mem → Option Rz} (h : x ≤ cap) : nwB m (x : Int) cap K = K (mNext m) (mNew m 3 x) := by
  unfold nwB
  rw [if_pos ⟨by omega, by omega⟩, Int.toNat_natCast]
theorem mNext_new (m : Mem) (k len : Nat) : mNext (mNew m k len) = mNext m + 1 := by
  unfold mNext mNew
  show 1000 + (m.2.2 ++ [(k, len)]).length = _
  rw [List.length_append]
  rfl
theorem mNext_ge (m : Mem) : 1000 ≤ mNext m := Nat.le_add_right _ _
theorem Grow.new (m : Mem) (k len : Nat) (hk : KO [(k, len)]) : Grow m (mNew m k len) := ⟨⟨[(k, len)], rfl, hk⟩, fun a i _ h2 => by rw [mGet_mNew, if_neg (by omega)]⟩
/-- a cell that was not there is written -/
theorem Grow.set {m m' : Mem} {a i : Nat} {v : Int} (h : Grow m m') (ha : mNext m ≤ a) : Grow m (mSet m' a i v) := ⟨h.1, fun b j h1 h2 => by rw [mGet_mSet, if_neg (by omega)]; exact h.2 b j h1 h2⟩
theorem isG_ok {m : Mem} {g : Nat} {K : Option Rz} (h : sKind m g = (11, 5)) (hg : 1000 ≤ g) : isG m g K = K := by
  unfold isG
  rw [h, if_pos ⟨hg, rfl⟩]
theorem ptG_ok {m : Mem} {a k v : Nat} {K : Mem → Option Rz} (h : v < 2147483648) : ptG m a k v K = K (mSet m a k (v : Int)) := if_pos h
theorem game_init_ok {n o l r w : Nat} {b h : Int} {m : Mem} (hk : sKind m o = (11, 5)) (ho : 1000 ≤ o) (hl : l < 2147483648) (hr : r < 2147483648) (hw : w < 2147483648) : f_X1_init n o l r w b h m = some (0, mSet (mSet (mSet (mSet (mSet m o 0 (l : Int)) o 1 (r : Int)) o 2 (w : Int)) o 3 b) o 4 h) := by
  have K : ∀ (m' : Mem) (X : Option Rz), m'.2 = m.2 → isG m' o X = X := fun m' X e => isG_ok (by unfold sKind; rw [e]; exact hk) ho
  unfold f_X1_init
  rw [K m _ rfl, ptG_ok hl, K (mSet m o 0 (l : Int)) _ rfl, ptG_ok hr, K (mSet (mSet m o 0 (l : Int)) o 1 (r : Int)) _ rfl, ptG_ok hw, K (mSet (mSet (mSet m o 0 (l : Int)) o 1 (r : Int)) o 2 (w : Int)) _ rfl]
  dsimp only [ptF]
  rw [K (mSet (mSet (mSet (mSet m o 0 (l : Int)) o 1 (r : Int)) o 2 (w : Int)) o 3 b) _ rfl]
  rfl
theorem rank_loop {n W : Nat} {m0 : Mem} {s' : Nat → Nat} {K : Mem → Option Rz} {Q : Int → Mem → Prop} (hn : 300 < n) (h10 : W ≤ 10) (hP : Pm s' W) (h24 : ∀ j, j < W → mGet m0 24 j = (s' j : Int)) (hk : ∀ m : Mem, m.2 = m0.2 → (∀ a i, a ≠ 25 → mGet m a i = mGet m0 a i) → (∀ j, j < W → mGet m 25 (s' j) = (j : Int)) → Ok (K m) Q) : Ok (lp (F := Int → Mem → Option Rz) (fun _ _ => none) (fun w44 v2_44 m44 =>
      jn (fun (m99 : Mem) => K m99) fun (j99 : Mem → Option Rz) =>
      if v2_44 < (W : Int) then (
        if v2_44 < 10 then (
          ldI m44 24 v2_44 fun x63 =>
          jn (fun (m93 : Mem) =>
            w44 (w32 (v2_44 + 1)) m93
          ) fun (j93 : Mem → Option Rz) =>
          if x63 < 0 then (
            j93 m44
          ) else
          ldI m44 24 v2_44 fun x72 =>
          if x72 < 10 then (
            ldI m44 24 v2_44 fun x90 =>
            stI m44 25 x90 v2_44 fun m92 =>
            j93 m92
          ) else
          j93 m44
        ) else
        j99 m44
      ) else
      j99 m44
    ) n 0 m0) Q := by
  refine ok_up1 W (fun i m => m.2 = m0.2 ∧ (∀ a j, a ≠ 25 → mGet m a j = mGet m0 a j) ∧ ∀ j, j < i → mGet m 25 (s' j) = (j : Int)) (fun w i m hi hI hw => ?_) (fun w m hI => ?_) n 0 m0 (Nat.zero_le _) ⟨rfl, fun _ _ _ => rfl, fun j hj => absurd hj (Nat.not_lt_zero _)⟩ (by omega)
  · obtain ⟨e2, e3, e4⟩ := hI
    dsimp only [jn]
    have es := h24 i hi
    have lt := hP.1 i hi
    rw [if_pos (by omega), if_pos (by omega), ldI_ok (kI20 _ (by decide)) (by omega), e3 24 i (by decide), es, if_neg (by omega), ldI_ok (kI20 _ (by decide)) (by omega), e3 24 i (by decide), es, if_pos (by omega), ldI_ok (kI20 _ (by decide)) (by omega), e3 24 i (by decide), es, stI_ok (kI20 _ (by decide)) (by omega), k_1 (by omega)]
    refine hw _ ⟨e2, fun a j ha => by rw [mGet_mSet, if_neg (by omega)]; exact e3 a j ha, fun j hj => ?_⟩
    rw [mGet_mSet]
    by_cases q : j = i
    · rw [q, if_pos ⟨rfl, rfl⟩, w32_nat (by omega)]
    · rw [if_neg (fun h => q (hP.2.2 j i (by omega) hi h.2))]
      exact e4 j (by omega)
  · obtain ⟨e2, e3, e4⟩ := hI
    dsimp only [jn]
    rw [if_neg (by omega)]
    exact hk m e2 e3 e4
theorem lay_mask {d s' r : Nat → Nat} {g W f w x y : Nat} (hD : FolD g d) (eW : W = wid g) (cg : can g) (h10 : W ≤ 10) (hP : Pm s' W) (hE : Enum g (fun k => d (s' k))) (hr : ∀ j, j < W → r (s' j) = j) (hw : w < 2) (hf : f < W) (hm : Mask d f w x) (hy : ∀ b, y.testBit b = true ↔ ∃ g2, g2 < W ∧ x.testBit g2 = true ∧ r g2 = b) : Mask (fun k => d (s' k)) (r f) w y := by
  have hb9 : bd g ≤ 9 := by have := bd_wid g; omega
  have back : ∀ g2, g2 < W → s' (r g2) = g2 ∧ r g2 < W := by
    intro g2 hg2
    obtain ⟨j, hj, e⟩ := hP.2.1 g2 hg2
    rw [← e, hr j hj]
    exact ⟨rfl, hj⟩
  have bits : ∀ b, y.testBit b = true ↔ b < r f ∧ op (d (s' (r f))) w (d (s' b)) = true := by
    intro b
    rw [hy, (back f hf).1]
    constructor
    · rintro ⟨g2, h1, h2, rfl⟩
      have h3 := (hm.2 g2).mp h2
      rw [(back g2 h1).1]
      refine ⟨?_, h3.2⟩
      obtain ⟨j, hj, e⟩ := hE.ahead cg hb9 (k := r f) (by rw [← eW]; exact (back f hf).2) hw (x := d g2) (by show op (d (s' (r f))) w (d g2) = true; rw [(back f hf).1]; exact h3.2)
      have e : d (s' j) = d g2 := e
      have hjW : j < W := by have := (back f hf).2; omega
      have := hD.2.2.1 _ _ (by rw [← eW]; exact hP.1 j hjW) (by rw [← eW]; exact h1) e
      rw [← this, hr j hjW]
      exact hj
    · rintro ⟨h1, h2⟩
      have hbW : b < W := by have := (back f hf).2; omega
      obtain ⟨g3, h3, e⟩ := hD.2.2.2.1 f (by rw [← eW]; exact hf) w hw _ h2
      have := hD.2.2.1 _ _ (by rw [← eW]; omega) (by rw [← eW]; exact hP.1 b hbW) e
      exact ⟨s' b, hP.1 b hbW, (hm.2 _).mpr ⟨by omega, h2⟩, hr b hbW⟩
  refine ⟨Nat.lt_pow_two_of_testBit y (fun i hi => ?_), bits⟩
  cases e : y.testBit i
  · rfl
  · have := ((bits i).mp e).1
    omega
theorem lay_loop {n W g q1 q2 : Nat} {m0 : Mem} {d s' r : Nat → Nat} {K : Mem → Option Rz} {Q : Int → Mem → Prop} (hn : 300 < n) (hD : FolD g d) (eW : W = wid g) (cg : can g) (h10 : W ≤ 10) (hP : Pm s' W) (hE : Enum g (fun k => d (s' k))) (hr : ∀ j, j < W → r (s' j) = j) (h25 : ∀ f, f < W → mGet m0 25 f = (r f : Int)) (hx : ∀ f, f < W → (∃ x : Nat, mGet m0 20 f = (x : Int) ∧ Mask d f 0 x) ∧ ∃ x : Nat, mGet m0 21 f = (x : Int) ∧ Mask d f 1 x) (k1 : sKind m0 q1 = (1, W)) (k2 : sKind m0 q2 = (1, W)) (hq : 1000 ≤ q1 ∧ 1000 ≤ q2 ∧ q1 ≠ q2) (hk : ∀ m : Mem, m.2 = m0.2 → (∀ a i, a ≠ q1 → a ≠ q2 → mGet m a i = mGet m0 a i) → (∀ k, k < W → (∃ y : Nat, mGet m q1 k = (y : Int) ∧ Mask (fun k => d (s' k)) k 0 y) ∧ ∃ y : Nat, mGet m q2 k = (y : Int) ∧ Mask (fun k => d (s' k)) k 1 y) → Ok (K m) Q) : Ok (lp (F := Int → Mem → Option Rz) (fun _ _ => none) (fun w117 v5_117 m117 =>
          jn (fun (m192 : Mem) => K m192) fun (j192 : Mem → Option Rz) =>
          if v5_117 < (W : Int) then (
            if v5_117 < 10 then (
              ldI m117 25 v5_117 fun x139 =>
              jn (fun (m186 : Mem) =>
                w117 (w32 (v5_117 + 1)) m186
              ) fun (j186 : Mem → Option Rz) =>
              if x139 < 0 then (
                j186 m117
              ) else
              if x139 < (W : Int) then (
                ldI m117 20 v5_117 fun x163 =>
                cal (f_X4_rankedMask n x163 (W : Int) m117) fun x165 m165 =>
                stI m165 q1 x139 x165 fun m168 =>
                ldI m168 21 v5_117 fun x180 =>
                cal (f_X4_rankedMask n x180 (W : Int) m168) fun x182 m182 =>
                stI m182 q2 x139 x182 fun m185 =>
                j186 m185
              ) else
              j186 m117
            ) else
            j192 m117
          ) else
          j192 m117
        ) n 0 m0) Q := by
  obtain ⟨b1, b2, b3⟩ := hq
  have back : ∀ g2, g2 < W → s' (r g2) = g2 ∧ r g2 < W := by
    intro g2 hg2
    obtain ⟨j, hj, e⟩ := hP.2.1 g2 hg2
    rw [← e, hr j hj]
    exact ⟨rfl, hj⟩
  have rinj : ∀ a b, a < W → b < W → r a = r b → a = b := fun a b ha hb e => by rw [← (back a ha).1, ← (back b hb).1, e]
  refine ok_up1 W (fun i m => m.2 = m0.2 ∧ (∀ a j, a ≠ q1 → a ≠ q2 → mGet m a j = mGet m0 a j) ∧ ∀ f, f < i → (∃ y : Nat, mGet m q1 (r f) = (y : Int) ∧ Mask (fun k => d (s' k)) (r f) 0 y) ∧ ∃ y : Nat, mGet m q2 (r f) = (y : Int) ∧ Mask (fun k => d (s' k)) (r f) 1 y) (fun w i m hi hI hw => ?_) (fun w m hI => ?_) n 0 m0 (Nat.zero_le _) ⟨rfl, fun _ _ _ _ => rfl, fun j hj => absurd hj (Nat.not_lt_zero _)⟩ (by omega)
  · obtain ⟨e2, e3, e4⟩ := hI
    dsimp only [jn]
    have lt := (back i hi).2
    obtain ⟨⟨xl, h20, ml⟩, xr, h21, mr⟩ := hx i hi
    have p10 := p2_10 (show i ≤ 10 by omega)
    have l1 := ml.1
    have l2 := mr.1
    have low : ∀ a, a < 1000 → ∀ j, mGet m a j = mGet m0 a j := fun a ha j => e3 a j (by omega) (by omega)
    have kk : ∀ m' : Mem, m'.2 = m.2 → ∀ a, sKind m' a = sKind m0 a := fun m' h a => by unfold sKind; rw [h, e2]
    rw [if_pos (by omega), if_pos (by omega), ldI_ok (kI20 _ (by decide)) (by omega), low 25 (by decide), h25 i hi, if_neg (by omega), if_pos (by omega), ldI_ok (kI20 _ (by decide)) (by omega), low 20 (by decide), h20]
    refine ok_cal (rankedMask_ok (r := r) hn h10 (by omega) (fun g2 hg2 => ⟨by rw [low 25 (by decide)]; exact h25 g2 hg2, (back g2 hg2).2⟩)) (fun _ m1 h1 => ?_)
    obtain ⟨rfl, y1, rfl, y1a, y1b⟩ := h1
    rw [stI_ok (len := W) (by rw [kk m1 rfl]; exact k1) lt, ldI_ok (kI20 _ (by decide)) (by omega), mGet_mSet, if_neg (by omega), low 21 (by decide), h21]
    refine ok_cal (rankedMask_ok (r := r) hn h10 (by omega) (fun g2 hg2 => ⟨by rw [mGet_mSet, if_neg (by omega), low 25 (by decide)]; exact h25 g2 hg2, (back g2 hg2).2⟩)) (fun _ m2 h2 => ?_)
    obtain ⟨rfl, y2, rfl, y2a, y2b⟩ := h2
    rw [stI_ok (len := W) (by rw [kk (mSet m1 q1 (r i) (y1 : Int)) rfl]; exact k2) lt, k_1 (by omega)]
    have G : ∀ a j, mGet (mSet (mSet m1 q1 (r i) (y1 : Int)) q2 (r i) (y2 : Int)) a j = if a = q2 ∧ j = r i then (y2 : Int) else if a = q1 ∧ j = r i then (y1 : Int) else mGet m1 a j := fun a j => by rw [mGet_mSet, mGet_mSet, w32_nat (by omega), w32_nat (by omega)]
    refine hw _ ⟨e2, fun a j h1 h2 => by rw [G, if_neg (by omega), if_neg (by omega)]; exact e3 a j h1 h2, fun f hf => ?_⟩
    by_cases q : f = i
    · rw [q]
      refine ⟨⟨y1, by rw [G, if_neg (fun h => b3 h.1), if_pos ⟨rfl, rfl⟩], lay_mask hD eW cg h10 hP hE hr (by decide) hi ml y1b⟩, y2, by rw [G, if_pos ⟨rfl, rfl⟩], lay_mask hD eW cg h10 hP hE hr (by decide) hi mr y2b⟩
    · have hne : r f ≠ r i := fun h => q (rinj f i (by omega) hi h)
      obtain ⟨⟨z1, a1, c1⟩, z2, a2, c2⟩ := e4 f (by omega)
      exact ⟨⟨z1, by rw [G, if_neg (fun h => hne h.2), if_neg (fun h => hne h.2)]; exact a1, c1⟩, z2, by rw [G, if_neg (fun h => hne h.2), if_neg (fun h => hne h.2)]; exact a2, c2⟩
  · obtain ⟨e2, e3, e4⟩ := hI
    dsimp only [jn]
    rw [if_neg (by omega)]
    refine hk m e2 e3 (fun k hk2 => ?_)
    have := e4 (s' k) (hP.1 k hk2)
    rw [hr k hk2] at this
    exact this
theorem copyRange_eq {n a L : Nat} {m : Mem} (hL : L ≤ 100) (ha : a + L ≤ 1000) (hb : ∀ i, i < L → -128 ≤ mGet m 27 (a + i) ∧ mGet m 27 (a + i) < 128) : f_J7_copyOfRange_39247 n 27 (a : Int) ((a + L : Nat) : Int) m = some ((mNext m : Int), mCpy (mNew m 3 L) 27 a (mNext m) 0 L) := by
  have core : ∀ m', m' = m → f_J7_copyOfRangeByte_39247 n 27 (a : Int) ((a + L : Nat) : Int) m' = some ((mNext m : Int), mCpy (mNew m 3 L) 27 a (mNext m) 0 L) := by
    intro m' e
    rw [e]
    unfold f_J7_copyOfRangeByte_39247 f_J7_checkLength_df160
    rw [if_neg (by omega)]
    dsimp only [rt, cal, nm]
    rw [show w32 (((a + L : Nat) : Int) - (a : Int)) = (L : Int) by rw [w32_id (by omega) (by omega)]; omega, nwB_ok hL]
    rw [lenA_ok (kd := 3) (len := 1000) (by rw [sKind_mNew, if_neg (by have := mNext_ge m; omega)]; exact kB27 m) (by decide) (by decide) (by decide)]
    have ei : imin (w32 (((1000 : Nat) : Int) - (a : Int))) (L : Int) = (L : Int) := by
      rw [w32_id (by omega) (by omega)]
      unfold imin
      by_cases q : (L : Int) < ((1000 : Nat) : Int) - (a : Int)
      · rw [if_pos q]
      · rw [if_neg q]; omega
    rw [ei]
    have g := mNext_ge m
    have k27 : sKind (mNew m 3 L) 27 = (3, 1000) := by rw [sKind_mNew, if_neg (by omega)]; exact kB27 m
    have kq : sKind (mNew m 3 L) (mNext m) = (3, L) := by rw [sKind_mNew, if_pos rfl]
    unfold cpB
    rw [k27, kq, if_pos ⟨rfl, rfl, by omega, by omega, by omega, by show (a : Int).toNat + (L : Int).toNat ≤ 1000; omega, by show (0 : Int).toNat + (L : Int).toNat ≤ L; omega, fun i hi => by
      rw [Int.toNat_natCast] at hi
      rw [Int.toNat_natCast, mGet_mNew, if_neg (by omega)]
      exact hb i hi⟩]
    rw [Int.toNat_natCast, Int.toNat_natCast]
    rfl
  unfold f_J7_copyOfRange_39247
  dsimp only [jn]
  by_cases q : (a : Int) = 0
  · rw [if_pos q, lenA_ok (kB27 m) (by decide) (by decide) (by decide), if_neg (by omega), core m rfl]
    dsimp only [cal, rt]
    rw [Int.toNat_natCast]
  · rw [if_neg q, core m rfl]
    dsimp only [cal, rt]
    rw [Int.toNat_natCast]
set_option maxHeartbeats 2000000 in
theorem settled_ok {n W g : Nat} {m : Mem} {d s : Nat → Nat} {t : Nat → List Nat} (hn : 300 < n) (eW : W = wid g) (h10 : W ≤ 10) (cg : can g) (hD : FolD g d) (hR : Rows m d t W) (h24 : ∀ j, j < W → mGet m 24 j = (s j : Int)) (hP : Pm s W) (ht : ∀ j, j < W → t j = wd (d j)) (hS : ∀ i j, i < j → j < W → wlt (t (s i)) (t (s j)) = true) (hb : mNext m + 4 < 2147483648) : Ok (f_X4_settled n (W : Int) m) (fun v m' => ∃ o : Nat, v = (o : Int) ∧ GOb m' o g ∧ mNext m' = mNext m + 4 ∧ Fr m m' (fun a => a = 24 ∨ a = 25) ∧ m'.2.1 = m.2.1) := by
  have wp : 0 < W := by rw [eW]; exact wid_pos g
  obtain ⟨s', hP', hE, hs'⟩ := settle_order hD eW cg h10 hP ht hS
  have g1000 := mNext_ge m
  unfold f_X4_settled
  refine ok_jn1 (fun m1 => m1.2 = m.2 ∧ (∀ a i, a ≠ 24 → mGet m1 a i = mGet m a i) ∧ ∀ j, j < W → mGet m1 24 j = (s' j : Int)) (fun m1 hI => ?_) (fun j hj => ?_)
  · obtain ⟨e2, e3, e4⟩ := hI
    refine rank_loop hn h10 hP' e4 (fun mA a2 a3 a4 => ?_)
    dsimp only [nm]
    rw [show imax (W : Int) 0 = (W : Int) by unfold imax; rw [if_neg (by omega)], nwI_ok h10, nwI_ok h10]
    obtain ⟨q1, eq1⟩ : ∃ q1, q1 = mNext mA := ⟨_, rfl⟩
    obtain ⟨mB, eB⟩ : ∃ mB, mB = mNew mA 1 W := ⟨_, rfl⟩
    have eq2 : mNext mB = q1 + 1 := by rw [eB, mNext_new, eq1]
    obtain ⟨mC, eC⟩ : ∃ mC, mC = mNew mB 1 W := ⟨_, rfl⟩
    rw [← eq1, ← eB, eq2, ← eC]
    have q1m : q1 = mNext m := by rw [eq1]; unfold mNext; rw [a2, e2]
    have kC : ∀ a, sKind mC a = if a = q1 + 1 then (1, W) else if a = q1 then (1, W) else sKind m a := fun a => by
      rw [eC, sKind_mNew, eq2, eB, sKind_mNew, ← eq1]
      have : sKind mA a = sKind m a := by unfold sKind; rw [a2, e2]
      rw [this]
    have gC : ∀ a i, a < q1 → a ≠ 24 → a ≠ 25 → mGet mC a i = mGet m a i := fun a i h1 h2 h3 => by
      rw [eC, mGet_mNew, if_neg (by omega), eB, mGet_mNew, if_neg (by omega), a3 a i h3, e3 a i h2]
    have g25 : ∀ i, mGet mC 25 i = mGet mA 25 i := fun i => by rw [eC, mGet_mNew, if_neg (by omega), eB, mGet_mNew, if_neg (by omega)]
    -- the ranks
    obtain ⟨r, hr⟩ : ∃ r : Nat → Nat, ∀ j, j < W → r (s' j) = j := by
      refine ⟨fun f => (mGet mA 25 f).toNat, fun j hj => ?_⟩
      show (mGet mA 25 (s' j)).toNat = j
      rw [a4 j hj, Int.toNat_natCast]
    have h25 : ∀ f, f < W → mGet mC 25 f = (r f : Int) := by
      intro f hf
      obtain ⟨j, hj, e⟩ := hP'.2.1 f hf
      rw [g25, ← e, a4 j hj, hr j hj]
    refine lay_loop hn hD eW cg h10 hP' hE hr h25 (fun f hf => ?_) (by rw [kC, if_neg (by omega), if_pos rfl]) (by rw [kC, if_pos rfl]) (by omega) (fun mD d2 d3 d4 => ?_)
    · obtain ⟨⟨y1, p1, p2⟩, ⟨y2, p3, p4⟩, _⟩ := hR f hf
      exact ⟨⟨y1, by rw [gC 20 f (by omega) (by decide) (by decide)]; exact p1, p2⟩, y2, by rw [gC 21 f (by omega) (by decide) (by decide)]; exact p3, p4⟩
    · dsimp only [jn]
      have gD : ∀ a i, a < q1 → a ≠ 24 → a ≠ 25 → mGet mD a i = mGet m a i := fun a i h1 h2 h3 => by rw [d3 a i (by omega) (by omega), gC a i h1 h2 h3]
      obtain ⟨_, _, r3, r4, tx⟩ := hR (W - 1) (by omega)
      obtain ⟨t1, t2, t3, t4⟩ := tx
      rw [ht (W - 1) (by omega)] at t1 t2 t3 t4
      have dtop : d (W - 1) = g := by rw [eW]; exact hD.2.2.2.2.2
      rw [dtop] at t1 t2 t3 t4 r3 r4
      obtain ⟨L, eL⟩ : ∃ L, L = (wd g).length := ⟨_, rfl⟩
      rw [← eL] at t1 t2 t3
      rw [show w32 ((W : Int) - 1) = ((W - 1 : Nat) : Int) by rw [w32_id (by omega) (by omega)]; omega, if_neg (by omega), if_pos (by omega)]
      rw [show w32 (((W - 1 : Nat) : Int) * 100) = ((100 * (W - 1) : Nat) : Int) by rw [w32_id (by omega) (by omega)]; omega, ldI_ok (kI20 _ (by decide)) (by omega), gD 26 _ (by omega) (by decide) (by decide), t2]
      rw [show w32 (((100 * (W - 1) : Nat) : Int) + imin (imax (L : Int) 0) 100) = ((100 * (W - 1) + L : Nat) : Int) by
        rw [show imax (L : Int) 0 = (L : Int) by unfold imax; rw [if_neg (by omega)], show imin (L : Int) 100 = (L : Int) by
          unfold imin
          by_cases q : (100 : Int) < (L : Int)
          · omega
          · rw [if_neg q], w32_id (by omega) (by omega)]
        omega]
      have q3D : mNext mD = q1 + 2 := by unfold mNext; rw [d2]; have := mNext_new mB 1 W; rw [← eC, eq2] at this; unfold mNext at this; omega
      refine ok_calE (copyRange_eq t1 (by omega) (fun i hi => ?_)) ?_
      · rw [gD 27 _ (by omega) (by decide) (by decide), t3 i hi]
        have := t4 _ (getD_mem (by rw [← eL]; exact hi) : (wd g).getD i 0 ∈ wd g)
        omega
      · rw [q3D]
        obtain ⟨mE, eE⟩ : ∃ mE, mE = mCpy (mNew mD 3 L) 27 (100 * (W - 1)) (q1 + 2) 0 L := ⟨_, rfl⟩
        rw [← eE]
        have q4E : mNext mE = q1 + 3 := by rw [eE]; show mNext (mNew mD 3 L) = _; rw [mNext_new, q3D]
        have kE : ∀ a, sKind mE a = if a = q1 + 2 then (3, L) else sKind mC a := fun a => by
          rw [eE]
          show sKind (mNew mD 3 L) a = _
          rw [sKind_mNew, q3D]
          have : sKind mD a = sKind mC a := by unfold sKind; rw [d2]
          rw [this]
        have gE : ∀ a i, a ≠ q1 + 2 → mGet mE a i = mGet mD a i := fun a i h1 => by
          rw [eE, mGet_mCpy, if_neg (fun h => h1 h.1), mGet_mNew, if_neg (by rw [q3D]; exact h1)]
        have gE2 : ∀ i, i < L → mGet mE (q1 + 2) i = ((wd g).getD i 0 : Int) := fun i hi => by
          rw [eE, mGet_mCpy, if_pos ⟨rfl, Nat.zero_le _, by omega⟩, Nat.sub_zero, mGet_mNew, if_neg (by rw [q3D]; omega), gD 27 _ (by omega) (by decide) (by decide)]
          exact t3 i hi
        unfold nwG
        rw [q4E]
        obtain ⟨mF, eF⟩ : ∃ mF, mF = mNew mE 11 5 := ⟨_, rfl⟩
        rw [← eF]
        have kF : ∀ a, sKind mF a = if a = q1 + 3 then (11, 5) else sKind mE a := fun a => by rw [eF, sKind_mNew, q4E]
        have gF : ∀ a i, a ≠ q1 + 3 → mGet mF a i = mGet mE a i := fun a i h1 => by rw [eF, mGet_mNew, if_neg (by rw [q4E]; exact h1)]
        dsimp only
        rw [ldI_ok (kI20 _ (by decide)) (by omega), ldI_ok (kI20 _ (by decide)) (by omega)]
        rw [gF 22 _ (by omega), gE 22 _ (by omega), gD 22 _ (by omega) (by decide) (by decide), r3, gF 23 _ (by omega), gE 23 _ (by omega), gD 23 _ (by omega) (by decide) (by decide), r4]
        rw [Int.toNat_natCast]
        refine ok_calE (game_init_ok (by rw [kF, if_pos rfl]) (by omega) (by omega) (by omega) (by omega)) ?_
        have bg : bd g ≤ 9 := by have := bd_wid g; omega
        have hle := @hpv_le g
        have hge := @hpv_ge g
        obtain ⟨mG, eG⟩ : ∃ mG, mG = mSet (mSet (mSet (mSet (mSet mF (q1 + 3) 0 (q1 : Int)) (q1 + 3) 1 ((q1 + 1 : Nat) : Int)) (q1 + 3) 2 ((q1 + 2 : Nat) : Int)) (q1 + 3) 3 (bd g : Int)) (q1 + 3) 4 (hpv g) := ⟨_, rfl⟩
        rw [← eG]
        have gG : ∀ a i, a ≠ q1 + 3 → mGet mG a i = mGet mF a i := fun a i h1 => by
          rw [eG]
          simp only [mGet_mSet]
          rw [if_neg (by omega), if_neg (by omega), if_neg (by omega), if_neg (by omega), if_neg (by omega)]
        have zG : mG.2 = mF.2 := by rw [eG]; rfl
        have kG : ∀ a, sKind mG a = sKind mF a := fun a => by unfold sKind; rw [zG]
        have o0 : mGet mG (q1 + 3) 0 = (q1 : Int) := by rw [eG, mGet_mSet, if_neg (by omega), mGet_mSet, if_neg (by omega), mGet_mSet, if_neg (by omega), mGet_mSet, if_neg (by omega), mGet_mSet, if_pos ⟨rfl, rfl⟩, w32_nat (by omega)]
        have o1 : mGet mG (q1 + 3) 1 = ((q1 + 1 : Nat) : Int) := by rw [eG, mGet_mSet, if_neg (by omega), mGet_mSet, if_neg (by omega), mGet_mSet, if_neg (by omega), mGet_mSet, if_pos ⟨rfl, rfl⟩, w32_nat (by omega)]
        have o2 : mGet mG (q1 + 3) 2 = ((q1 + 2 : Nat) : Int) := by rw [eG, mGet_mSet, if_neg (by omega), mGet_mSet, if_neg (by omega), mGet_mSet, if_pos ⟨rfl, rfl⟩, w32_nat (by omega)]
        have o3 : mGet mG (q1 + 3) 3 = (bd g : Int) := by rw [eG, mGet_mSet, if_neg (by omega), mGet_mSet, if_pos ⟨rfl, rfl⟩, w32_nat (by omega)]
        have o4 : mGet mG (q1 + 3) 4 = hpv g := by rw [eG, mGet_mSet, if_pos ⟨rfl, rfl⟩, w32_id (by omega) (by omega)]
        refine ok_rt ⟨q1 + 3, rfl, ⟨q1, q1 + 1, q1 + 2, fun k => d (s' k), ⟨?_, ?_, ?_, ?_⟩, ⟨by omega, by omega, by omega, by omega, by omega⟩, ⟨o0, o1, o2, o3, o4⟩, hE, fun k hk => ?_, fun i hi => ?_⟩, ?_, ⟨⟨?_, ?_⟩, ?_⟩, ?_⟩
        · rw [kG, kF, if_pos rfl]
        · rw [kG, kF, if_neg (by omega), kE, if_neg (by omega), kC, if_neg (by omega), if_pos rfl, eW]
        · rw [kG, kF, if_neg (by omega), kE, if_neg (by omega), kC, if_pos rfl, eW]
        · rw [kG, kF, if_neg (by omega), kE, if_pos rfl, eL]
        · rw [← eW] at hk
          obtain ⟨⟨y1, p1, p2⟩, y2, p3, p4⟩ := d4 k hk
          exact ⟨⟨y1, by rw [gG _ _ (by omega), gF _ _ (by omega), gE _ _ (by omega)]; exact p1, p2⟩, y2, by rw [gG _ _ (by omega), gF _ _ (by omega), gE _ _ (by omega)]; exact p3, p4⟩
        · rw [gG _ _ (by omega), gF _ _ (by omega)]
          exact gE2 i (by rw [eL]; exact hi)
        · have : mNext mG = mNext mF := by unfold mNext; rw [zG]
          rw [this, eF, mNext_new, q4E]
          omega
        · refine ⟨[(1, W), (1, W), (3, L), (11, 5)], ?_, rfl⟩
          rw [zG, eF]
          show (mE.2.2 ++ [(11, 5)]) = _
          rw [eE]
          show ((mD.2.2 ++ [(3, L)]) ++ [(11, 5)]) = _
          rw [d2, eC]
          show (((mB.2.2 ++ [(1, W)]) ++ [(3, L)]) ++ [(11, 5)]) = _
          rw [eB]
          show ((((mA.2.2 ++ [(1, W)]) ++ [(1, W)]) ++ [(3, L)]) ++ [(11, 5)]) = _
          rw [a2, e2]
          simp
        · intro a i h1 h2
          rw [gG _ _ (by omega), gF _ _ (by omega), gE _ _ (by omega)]
          exact gD a i (by omega) (by omega) (by omega)
        · intro a i h1 h2
          rw [gG _ _ (by omega), gF _ _ (by omega), gE _ _ (by omega)]
          exact gD a i (by omega) (by omega) (by omega)
        · rw [zG, eF, show (mNew mE 11 5).2.1 = mE.2.1 from rfl, eE]
          show mD.2.1 = _
          rw [d2, eC]
          show mB.2.1 = _
          rw [eB]
          show mA.2.1 = _
          rw [a2, e2]
  · by_cases q : 1 < W
    · rw [if_pos (by omega), if_neg (by omega), ldI0_ok (kI20 _ (by decide)) (by decide), h24 0 wp]
      rcases hs' with ⟨h1, h2⟩ | ⟨h1, h2, h3, h4⟩
      · rw [if_pos (by omega)]
        exact hj m ⟨rfl, fun _ _ _ => rfl, fun j hj2 => by rw [h2]; exact h24 j hj2⟩
      · have s0 := hP.1 0 wp
        rw [if_neg (by omega), ldI0_ok (kI20 _ (by decide)) (by decide), h24 0 wp]
        rw [stI1_ok (kI20 _ (by decide)) (by decide), stI0_ok (kI20 _ (by decide)) (by decide)]
        have G : ∀ a j, mGet (mSet (mSet m 24 1 (s 0 : Int)) 24 0 0) a j = if a = 24 ∧ j = 0 then 0 else if a = 24 ∧ j = 1 then (s 0 : Int) else mGet m a j := fun a j => by rw [mGet_mSet, mGet_mSet, w32_id (by decide) (by decide), w32_nat (by omega)]
        refine hj _ ⟨rfl, fun a i ha => by rw [G, if_neg (by omega), if_neg (by omega)], fun j hj2 => ?_⟩
        rw [G, h4]
        show _ = (((if j = 0 then 0 else if j = 1 then s 0 else s j : Nat)) : Int)
        by_cases q0 : j = 0
        · rw [if_pos ⟨rfl, q0⟩, if_pos q0]; rfl
        · rw [if_neg (by omega), if_neg q0]
          by_cases q1 : j = 1
          · rw [if_pos ⟨rfl, q1⟩, if_pos q1]
          · rw [if_neg (by omega), if_neg q1]
            exact h24 j hj2
    · rw [if_neg (by omega)]
      rcases hs' with ⟨h1, h2⟩ | ⟨_, h2, _⟩
      · exact hj m ⟨rfl, fun _ _ _ => rfl, fun j hj2 => by rw [h2]; exact h24 j hj2⟩
      · omega
/-- a node is written -/
theorem written_ok {n N u : Nat} {m : Mem} (hn : 300 < n) (Y : YI m N) (hu : u < N) (hs : mGet m 4 14 = 0) (hb : mNext m + 4 < 2147483648) : Ok (f_X4_written n (u : Int) m) (fun v m' => Fr m m' SY ∧ mNext m' ≤ mNext m + 4 ∧ YI m' N ∧ yden m' = yden m ∧ mGet m' 4 14 = 0 ∧ (((wid (yden m u) ≤ 10 ∧ (wd (yden m u)).length ≤ 100) ∧ ∃ o : Nat, v = (o : Int) ∧ GOb m' o (yden m u)) ∨ (¬ (wid (yden m u) ≤ 10 ∧ (wd (yden m u)).length ≤ 100) ∧ v = 0))) := by
  unfold f_X4_written
  refine ok_cal (followers_ok hn Y hu hs) (fun v1 m1 h1 => ?_)
  obtain ⟨Y1, d1, l1, s1, g1, hv⟩ := h1
  obtain ⟨v, hW, hv2, hv3, hv4, hv5⟩ := nl_spec Y hu
  have wp := wid_pos (yden m u)
  dsimp only [jn]
  have fr1 : Fr m m1 SY := Fr.of l1 (fun a i q => by
    by_cases h : a = 19
    · subst h; exact absurd ⟨by decide, by decide, by decide⟩ q
    · exact g1 a i h)
  have nx1 : mNext m1 = mNext m := by unfold mNext; rw [l1]
  rcases hv with ⟨rfl, h10⟩ | ⟨rfl, h10, h19⟩
  · rw [if_pos (by decide)]
    exact ok_rt ⟨fr1, by omega, Y1, d1, s1, Or.inr ⟨fun q => by omega, rfl⟩⟩
  · rw [if_neg (by omega), if_neg (by omega)]
    unfold ptZ
    rw [if_pos (Or.inl rfl), hW]
    obtain ⟨m2, e2⟩ : ∃ m2, m2 = mSet m1 18 10 0 := ⟨_, rfl⟩
    rw [← e2]
    have g2 : ∀ a i, mGet m2 a i = if a = 18 ∧ i = 10 then 0 else mGet m1 a i := fun a i => by rw [e2, mGet_mSet, w32_id (by decide) (by decide)]
    obtain ⟨Y2, d2⟩ := Y1.lg (m' := m2) (by rw [e2]; rfl) (fun a i q => by rw [g2, if_neg (by omega)])
    have d20 : yden m2 = yden m := d2.trans d1
    have := writ_loop (n := n) (N := N) (u := u) (m0 := m2) (v := v) (K := fun m33 => gtF m33 18 10 fun x101 =>
    jn (fun (s0_116 : Nat) (m116 : Mem) =>
      rt (s0_116 : Nat) m116
    ) fun (j116 : Nat → Mem → Option Rz) =>
    if x101 = 0 then (
      cal (f_X4_settled n ((wid (yden m u) : Nat) : Int) m33) fun x113 m113 =>
      j116 x113.toNat m113
    ) else
    j116 0 m33) (Q := fun v m' => Fr m m' SY ∧ mNext m' ≤ mNext m + 4 ∧ YI m' N ∧ yden m' = yden m ∧ mGet m' 4 14 = 0 ∧ (((wid (yden m u) ≤ 10 ∧ (wd (yden m u)).length ≤ 100) ∧ ∃ o : Nat, v = (o : Int) ∧ GOb m' o (yden m u)) ∨ (¬ (wid (yden m u) ≤ 10 ∧ (wd (yden m u)).length ≤ 100) ∧ v = 0))) hn Y2 hu (by rw [d20]; omega) (by rw [d20]; exact hv3) (by rw [d20]; exact hv4) (by rw [d20]; exact hv5) (fun j hj => by
      rw [d20, ← hW] at hj
      rw [g2, if_neg (by omega), h19 j hj, hv2 j hj]) (by rw [g2, if_pos ⟨rfl, rfl⟩]) (fun m3 h3 => by
      rw [d20] at h3
      obtain ⟨z3, g3, s, t, hR, h24, hP, hF⟩ := h3
      rw [d20] at hR hF
      dsimp only [gtF, jn]
      have fr3 : Fr m m3 SY := fr1.tr (Fr.of (by rw [z3, e2]; rfl) (fun a i q => by
        rw [g3 a i (by by_cases h : a < 1000 <;> omega), g2, if_neg (by rintro ⟨rfl, _⟩; exact q ⟨by decide, by decide, by decide⟩)]))
      have nx3 : mNext m3 = mNext m := by unfold mNext; rw [z3, e2]; show 1000 + m1.2.2.length = _; rw [l1]
      obtain ⟨Y3, d3⟩ := Y2.lg (m' := m3) (by rw [z3]) (fun a i q => g3 a i (by omega))
      have s3 : mGet m3 4 14 = 0 := by rw [g3 4 14 (by decide), g2, if_neg (by omega)]; exact s1
      have hD := fold_nl Y hu hv3 hv4 hv5
      have cu : can (yden m u) := Y.1.2.2.2.2.2.1 u hu
      have b9 : bd (yden m u) ≤ 9 := by have := bd_wid (yden m u); omega
      rcases hF with ⟨b1, b2, b3⟩ | ⟨b1, j, b2, b3⟩
      · rw [b1, if_pos rfl]
        refine ok_cal (settled_ok hn rfl (by omega) cu hD hR h24 hP b2 b3 (by omega)) (fun v4 m4 h4 => ?_)
        obtain ⟨o, rfl, hO, nx4, fr4, z4⟩ := h4
        obtain ⟨Y4, d4⟩ := Y3.lg (m' := m4) z4 (fun a i q => fr4.2 a i (by omega) (by omega))
        refine ok_rt ⟨fr3.tr (fr4.weak (fun a h => by omega)), by omega, Y4, d4.trans (d3.trans d20), by rw [fr4.2 4 14 (by decide) (by decide)]; exact s3, Or.inl ⟨⟨by omega, ?_⟩, o, by rw [Int.toNat_natCast], hO⟩⟩
        have h5 := hD.2.2.2.2.2
        have h6 := (hR (wid (yden m u) - 1) (by omega)).2.2.2.2.1
        rw [b2 _ (by omega)] at h6
        have h5 : yden m (v (wid (yden m u) - 1)) = yden m u := h5
        have h6 : (wd (yden m (v (wid (yden m u) - 1)))).length ≤ 100 := h6
        rw [h5] at h6
        exact h6
      · rw [b1, if_neg (by decide)]
        refine ok_rt ⟨fr3, by omega, Y3, d3.trans d20, s3, Or.inr ⟨fun q => ?_, rfl⟩⟩
        have h5 := wlen_fol cu b9 (hv3 j b2).2.2
        have b3 : 100 < (wd (yden m (v j))).length := b3
        omega)
    rw [d20] at this
    exact this
