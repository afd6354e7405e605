/-! THE TABLE: all of it; the game at hand is found in it -/
theorem nodup_lt {l : List Nat} {n : Nat} (h : l.Nodup) (hl : ∀ x, x ∈ l → x < n) : l.length ≤ n := by
  have := nodup_le l (List.range n) h (fun x hx => List.mem_range.mpr (hl x hx))
  rw [List.length_range] at this
  exact this
theorem Row.left {m : Mem} {a s : Nat} {l r : List Nat} (h : Row m a s (l ++ r)) : Row m a s l := fun k hk => by
  rw [h k (by rw [app_len]; omega), List.getElem_append_left hk]
theorem Row.right {m : Mem} {a s : Nat} {l r : List Nat} (h : Row m a s (l ++ r)) : Row m a (s + l.length) r := fun k hk => by
  rw [Nat.add_assoc, h (l.length + k) (by rw [app_len]; omega), List.getElem_append_right (by omega)]
  congr 2
  omega
/-- the games of one place among the heads -/
def Chn (m : Mem) : Int → List Nat → Prop
  | v, [] => v = 0
  | v, g :: L => v = (g : Int) + 1 ∧ Chn m (mGet m 115 g) L
theorem Chn.ext {m m' : Mem} : ∀ {L : List Nat} {v : Int}, Chn m v L → (∀ g, g ∈ L → mGet m' 115 g = mGet m 115 g) → Chn m' v L
  | [], v, h, _ => h
  | g :: L, v, h, e => ⟨h.1, by rw [e g List.mem_cons_self]; exact Chn.ext h.2 (fun x hx => e x (List.mem_cons_of_mem _ hx))⟩
def CHs (m : Mem) (N : Nat) (lo ro : Nat → List Nat) : Prop := ∀ h, h < 16384 → ∃ L : List Nat, Chn m (mGet m 114 h) L ∧ L.length ≤ N ∧ (∀ g, g ∈ L → g < N) ∧ ∀ g, g < N → hs (lo g) (ro g) = (h : Int) → g ∈ L
def RT (m : Mem) (N P : Nat) (lo ro : Nat → List Nat) (st : Nat → Nat) (d : Nat → Nat) (F : List Nat) : Prop :=
  (mGet m 100 15 = (N : Int) ∧ mGet m 100 16 = (P : Int) ∧ 1 ≤ N ∧ P ≤ 2 * (N * N)) ∧
  (∀ g, g < N → GR m g (st g) (lo g) (ro g) ∧ st g + (lo g ++ ro g).length ≤ P ∧ AT1 m g (d g)) ∧
  (∀ g, g < N → (lo g).Nodup ∧ (ro g).Nodup ∧ (∀ o, o ∈ lo g ++ ro g → o < g) ∧ d g = MK d (lo g) (ro g) ∧ can (d g) ∧ d g ∈ F) ∧
  (∀ g h, g < N → h < N → d g = d h → g = h) ∧ (F.length ≤ 200 ∧ ∀ x, x ∈ F → bd x ≤ 40) ∧ CHs m N lo ro ∧ ∀ g h, g < h → h < N → st g + (lo g ++ ro g).length ≤ st h
/-- where the table lies -/
def RCe (a i : Nat) : Prop := (a = 100 ∧ (i = 15 ∨ i = 16)) ∨ (102 ≤ a ∧ a ≤ 110) ∨ a = 114 ∨ a = 115
section RT
variable {m m' : Mem} {N P : Nat} {lo ro : Nat → List Nat} {st : Nat → Nat} {d : Nat → Nat} {F : List Nat}
theorem RT.ext (h : RT m N P lo ro st d F) (e : ∀ a i, RCe a i → mGet m' a i = mGet m a i) : RT m' N P lo ro st d F := by
  obtain ⟨⟨h1, h2, h3, h4⟩, h5, h6, h7, h8, h9, h10⟩ := h
  refine ⟨⟨(e _ _ (Or.inl ⟨rfl, Or.inl rfl⟩)).trans h1, (e _ _ (Or.inl ⟨rfl, Or.inr rfl⟩)).trans h2, h3, h4⟩, fun g hg => ?_, h6, h7, h8, fun h hh => ?_, h10⟩
  · obtain ⟨a, b, c1, c2, c3, c4, c5⟩ := h5 g hg
    have q : ∀ a i, 102 ≤ a → a ≤ 110 → mGet m' a i = mGet m a i := fun a i z1 z2 => e a i (Or.inr (Or.inl ⟨z1, z2⟩))
    exact ⟨a.ext (fun a i z => q a i (by omega) (by omega)), b, (q _ _ (by decide) (by decide)).trans c1, (q _ _ (by decide) (by decide)).trans c2, (q _ _ (by decide) (by decide)).trans c3, (q _ _ (by decide) (by decide)).trans c4, by rw [q _ _ (by decide) (by decide)]; exact c5⟩
  · obtain ⟨L, a, b, c⟩ := h9 h hh
    refine ⟨L, ?_, b, c⟩
    rw [e 114 h (Or.inr (Or.inr (Or.inl rfl)))]
    exact a.ext (fun g _ => e 115 g (Or.inr (Or.inr (Or.inr rfl))))
theorem RT.nn (h : RT m N P lo ro st d F) : N ≤ 200 := by
  obtain ⟨_, _, h6, h7, h8, _⟩ := h
  have nd : ((List.range N).map d).Nodup := nodup_mapd List.nodup_range (fun x hx y hy => h7 x y (List.mem_range.mp hx) (List.mem_range.mp hy))
  have := nodup_le _ F nd (fun x hx => by
    obtain ⟨g, hg, rfl⟩ := List.mem_map.mp hx
    exact (h6 g (List.mem_range.mp hg)).2.2.2.2.2)
  rw [List.length_map, List.length_range] at this
  omega
theorem RT.bd (h : RT m N P lo ro st d F) {g : Nat} (hg : g < N) : bd (d g) ≤ 40 := h.2.2.2.2.1.2 _ (h.2.2.1 g hg).2.2.2.2.2
theorem RT.can (h : RT m N P lo ro st d F) {g : Nat} (hg : g < N) : can (d g) := (h.2.2.1 g hg).2.2.2.2.1
theorem RT.opL (h : RT m N P lo ro st d F) {g x : Nat} (hg : g < N) : op (d g) 0 x = true ↔ ∃ o, o ∈ lo g ∧ d o = x := by
  have e := (h.2.2.1 g hg).2.2.2.1
  exact Iff.trans (by rw [← e]) (op_MKL (d := d) (l := lo g) (r := ro g))
theorem RT.opR (h : RT m N P lo ro st d F) {g x : Nat} (hg : g < N) : op (d g) 1 x = true ↔ ∃ o, o ∈ ro g ∧ d o = x := by
  have e := (h.2.2.1 g hg).2.2.2.1
  exact Iff.trans (by rw [← e]) (op_MKR (d := d) (l := lo g) (r := ro g))
theorem RT.lt (h : RT m N P lo ro st d F) {g o : Nat} (hg : g < N) (ho : o ∈ lo g ++ ro g) : o < g := (h.2.2.1 g hg).2.2.1 o ho
theorem RT.len (h : RT m N P lo ro st d F) {g : Nat} (hg : g < N) : (lo g).length ≤ 199 ∧ (ro g).length ≤ 199 := by
  have h1 := h.nn
  have a := nodup_lt (h.2.2.1 g hg).1 (fun x hx => (h.2.2.1 g hg).2.2.1 x (List.mem_append_left _ hx))
  have b := nodup_lt (h.2.2.1 g hg).2.1 (fun x hx => (h.2.2.1 g hg).2.2.1 x (List.mem_append_right _ hx))
  exact ⟨by omega, by omega⟩
theorem RT.pp (h : RT m N P lo ro st d F) : P ≤ 80000 := by
  have h1 := h.nn
  have h2 := h.1.2.2.2
  have : N * N ≤ 200 * 200 := Nat.mul_le_mul h1 h1
  omega
/-- whether the one at hand is a game of the table, by its options -/
def mt (lo ro l r : List Nat) : Bool := decide (lo.length = l.length) && (decide (ro.length = r.length) && (l.all (fun x => lo.contains x) && r.all (fun x => ro.contains x)))
theorem mt_iff {lo ro l r : List Nat} (h1 : lo.Nodup) (h2 : ro.Nodup) (h3 : l.Nodup) (h4 : r.Nodup) : mt lo ro l r = true ↔ (∀ x, x ∈ lo ↔ x ∈ l) ∧ ∀ x, x ∈ ro ↔ x ∈ r := by
  unfold mt
  rw [Bool.and_eq_true, Bool.and_eq_true, Bool.and_eq_true, decide_eq_true_eq, decide_eq_true_eq, List.all_eq_true, List.all_eq_true]
  constructor
  · rintro ⟨a, b, c, d⟩
    have c' : ∀ x, x ∈ l → x ∈ lo := fun x hx => List.contains_iff_mem.mp (c x hx)
    have d' : ∀ x, x ∈ r → x ∈ ro := fun x hx => List.contains_iff_mem.mp (d x hx)
    exact ⟨fun x => ⟨fun hx => nodup_full h3 c' (by omega) x hx, c' x⟩, fun x => ⟨fun hx => nodup_full h4 d' (by omega) x hx, d' x⟩⟩
  · rintro ⟨a, b⟩
    exact ⟨nodup_len h1 h3 a, nodup_len h2 h4 b, fun x hx => List.contains_iff_mem.mpr ((a x).mpr hx), fun x hx => List.contains_iff_mem.mpr ((b x).mpr hx)⟩
theorem isAtHand_eq {n g : Nat} {l r : List Nat} (R : RT m N P lo ro st d F) (hg : g < N) (H : Hd m l r) (hn : 3000 < n) (hb : ∀ o, o ∈ l ++ r → o < N) : f_X11_isAtHand n (g : Int) m = some (b2i (mt (lo g) (ro g) l r), m) := by
  obtain ⟨q1, q2, q3, q4, q5, q6⟩ := H
  have N2 := R.nn
  have P8 := R.pp
  have laN : (lo g).length ≤ g := nodup_lt (R.2.2.1 g hg).1 (fun x hx => (R.2.2.1 g hg).2.2.1 x (List.mem_append_left _ hx))
  have raN : (ro g).length ≤ g := nodup_lt (R.2.2.1 g hg).2.1 (fun x hx => (R.2.2.1 g hg).2.2.1 x (List.mem_append_right _ hx))
  obtain ⟨⟨g1, g2, g3, g4⟩, gP, _⟩ := R.2.1 g hg
  have ln := app_len (lo g) (ro g)
  apply rk_eq
  unfold f_X11_isAtHand
  dsimp only [jn]
  have z1 : w32 (((st g + (lo g).length : Nat) : Int) - (st g : Int)) = ((lo g).length : Int) := by
    rw [w32_sub (by omega) (by omega), Nat.add_sub_cancel_left]
  have z2 : w32 (((st g + (lo g ++ ro g).length : Nat) : Int) - ((st g + (lo g).length : Nat) : Int)) = ((ro g).length : Int) := by
    rw [w32_sub (by omega) (by omega), ln, show st g + ((lo g).length + (ro g).length) - (st g + (lo g).length) = (ro g).length by omega]
  have e3 : (st g + (lo g ++ ro g).length) = (st g + (lo g).length) + (ro g).length := by omega
  have loopR : ∀ b1 : Bool, (decide ((lo g).length = l.length) = true → decide ((ro g).length = r.length) = true → b1 = l.all (fun x => (lo g).contains x)) → (¬ (decide ((lo g).length = l.length) = true ∧ decide ((ro g).length = r.length) = true) → b1 = false) → Ok (lp (F := Int → Int → Mem → Option Rz) (fun _ _ _ => none) (fun w94 v2_94 v3_94 m94 =>
          gtF m94 100 24 fun x96 =>
          if v3_94 < x96 then (
            if v2_94 = 0 then (
              rtZ v2_94 m94
            ) else
            ldI m94 104 (g : Int) fun x115 =>
            ldI m94 105 (g : Int) fun x121 =>
            ldI m94 121 v3_94 fun x127 =>
            cal (f_X11_has n 102 x115 x121 x127 m94) fun x128 m128 =>
            w94 x128 (w32 (v3_94 + 1)) m128
          ) else
          rtZ v2_94 m94
        ) n (b2i b1) 0 m) (fun v' m' => v' = b2i (mt (lo g) (ro g) l r) ∧ m' = m) := by
    intro b1 hb1 hb2
    have val : ∀ k, k ≤ r.length → (b1 && (r.take k).all (fun x => (ro g).contains x)) = false → mt (lo g) (ro g) l r = false := by
      intro k hk hf
      cases q : mt (lo g) (ro g) l r
      · rfl
      · exfalso
        unfold mt at q
        rw [Bool.and_eq_true, Bool.and_eq_true, Bool.and_eq_true] at q
        obtain ⟨a1, a2, a3, a4⟩ := q
        rw [hb1 a1 a2, a3, Bool.true_and] at hf
        have : (r.take k).all (fun x => (ro g).contains x) = true := List.all_eq_true.mpr (fun x hx => List.all_eq_true.mp a4 x (List.mem_of_mem_take hx))
        rw [this] at hf
        cases hf
    refine ok_row2 (s := 0) (k := 0) r.length (fun k a m' => m' = m ∧ a = b2i (b1 && (r.take k).all (fun x => (ro g).contains x))) (fun w k a m' hk hI hw => ?_) (fun w a m' hI => ?_) n (b2i b1) m (Nat.zero_le _) ⟨rfl, by simp⟩ (by omega)
    · obtain ⟨rfl, rfl⟩ := hI
      dsimp only [gtF]
      rw [q2, if_pos (by omega)]
      cases q : (b1 && (r.take k).all (fun x => (ro g).contains x)) with
      | false =>
        rw [if_pos rb_f]
        exact ok_rtZ (Or.inl rfl) ⟨by rw [val k (by omega) q], rfl⟩
      | true =>
        have e121 := q4 k hk
        have rk := hb _ (List.mem_append_right _ (List.getElem_mem hk))
        rw [if_neg (by decide), ldI_ok (len := 16000) rfl (by omega), ldI_ok (len := 16000) rfl (by omega), g2, g3, ldI_ok (len := 4000) rfl (by omega), e121, e3]
        refine ok_calE (rhas_eq (len := 240000) rfl (by omega) (by decide) g4.right (by omega)) ?_
        rw [w32_s (by omega)]
        refine hw _ m' ⟨rfl, ?_⟩
        rw [take_s hk, List.all_append, ← Bool.and_assoc, q, Bool.true_and]
        simp
    · obtain ⟨rfl, rfl⟩ := hI
      dsimp only [gtF]
      rw [q2, if_neg (by omega), List.take_length]
      refine ok_rtZ (rb_01 _) ⟨?_, rfl⟩
      congr 1
      by_cases h1 : decide ((lo g).length = l.length) = true ∧ decide ((ro g).length = r.length) = true
      · unfold mt
        rw [hb1 h1.1 h1.2, h1.1, h1.2, Bool.true_and, Bool.true_and]
      · rw [hb2 h1, Bool.false_and]
        cases q : mt (lo g) (ro g) l r
        · rfl
        · exfalso
          unfold mt at q
          rw [Bool.and_eq_true, Bool.and_eq_true] at q
          exact h1 ⟨q.1, q.2.1⟩
  have loopL : ∀ b0 : Bool, (b0 = true ↔ decide ((lo g).length = l.length) = true ∧ decide ((ro g).length = r.length) = true) → Ok (lp (F := Int → Int → Mem → Option Rz) (fun _ _ _ => none) (fun w48 v2_48 v3_48 m48 =>
      gtF m48 100 23 fun x50 =>
      if v3_48 < x50 then (
        if v2_48 = 0 then (
          lp (F := Int → Int → Mem → Option Rz) (fun _ _ _ => none) (fun w94 v2_94 v3_94 m94 =>
          gtF m94 100 24 fun x96 =>
          if v3_94 < x96 then (
            if v2_94 = 0 then (
              rtZ v2_94 m94
            ) else
            ldI m94 104 (g : Int) fun x115 =>
            ldI m94 105 (g : Int) fun x121 =>
            ldI m94 121 v3_94 fun x127 =>
            cal (f_X11_has n 102 x115 x121 x127 m94) fun x128 m128 =>
            w94 x128 (w32 (v3_94 + 1)) m128
          ) else
          rtZ v2_94 m94
        ) n v2_48 0 m48
        ) else
        ldI m48 103 (g : Int) fun x69 =>
        ldI m48 104 (g : Int) fun x75 =>
        ldI m48 120 v3_48 fun x81 =>
        cal (f_X11_has n 102 x69 x75 x81 m48) fun x82 m82 =>
        w48 x82 (w32 (v3_48 + 1)) m82
      ) else
      lp (F := Int → Int → Mem → Option Rz) (fun _ _ _ => none) (fun w94 v2_94 v3_94 m94 =>
          gtF m94 100 24 fun x96 =>
          if v3_94 < x96 then (
            if v2_94 = 0 then (
              rtZ v2_94 m94
            ) else
            ldI m94 104 (g : Int) fun x115 =>
            ldI m94 105 (g : Int) fun x121 =>
            ldI m94 121 v3_94 fun x127 =>
            cal (f_X11_has n 102 x115 x121 x127 m94) fun x128 m128 =>
            w94 x128 (w32 (v3_94 + 1)) m128
          ) else
          rtZ v2_94 m94
        ) n v2_48 0 m48
    ) n (b2i b0) 0 m) (fun v' m' => v' = b2i (mt (lo g) (ro g) l r) ∧ m' = m) := by
    intro b0 hb0
    refine ok_row2 (s := 0) (k := 0) l.length (fun k a m' => m' = m ∧ a = b2i (b0 && (l.take k).all (fun x => (lo g).contains x))) (fun w k a m' hk hI hw => ?_) (fun w a m' hI => ?_) n (b2i b0) m (Nat.zero_le _) ⟨rfl, by simp⟩ (by omega)
    · obtain ⟨rfl, rfl⟩ := hI
      rw [gtF_eq, q1, if_pos (by omega)]
      cases q : (b0 && (l.take k).all (fun x => (lo g).contains x)) with
      | false =>
        rw [if_pos rb_f]
        refine loopR false (fun a1 a2 => ?_) (fun _ => rfl)
        cases q2 : l.all (fun x => (lo g).contains x)
        · rfl
        · exfalso
          have t : (l.take k).all (fun x => (lo g).contains x) = true := List.all_eq_true.mpr (fun x hx => List.all_eq_true.mp q2 x (List.mem_of_mem_take hx))
          rw [hb0.mpr ⟨a1, a2⟩, t] at q
          cases q
      | true =>
        have e120 := q3 k hk
        have lk := hb _ (List.mem_append_left _ (List.getElem_mem hk))
        rw [if_neg (by decide), ldI_ok (len := 16000) rfl (by omega), ldI_ok (len := 16000) rfl (by omega), g1, g2, ldI_ok (len := 4000) rfl (by omega), e120]
        refine ok_calE (rhas_eq (len := 240000) rfl (by omega) (by decide) g4.left (by omega)) ?_
        rw [w32_s (by omega)]
        refine hw _ m' ⟨rfl, ?_⟩
        rw [take_s hk, List.all_append, ← Bool.and_assoc, q, Bool.true_and]
        simp
    · obtain ⟨rfl, rfl⟩ := hI
      rw [gtF_eq, q1, if_neg (by omega), List.take_length]
      refine loopR _ (fun a1 a2 => by rw [hb0.mpr ⟨a1, a2⟩, Bool.true_and]) (fun h => ?_)
      cases q : b0
      · rfl
      · exact absurd (hb0.mp q) h
  rw [ldI_ok (len := 16000) rfl (by omega), ldI_ok (len := 16000) rfl (by omega), g2, g1, z1]
  have e1 : ∀ K : Int → Option Rz, gtF m 100 23 K = K (mGet m 100 23) := fun _ => rfl
  have e2 : ∀ K : Int → Option Rz, gtF m 100 24 K = K (mGet m 100 24) := fun _ => rfl
  rw [e1, q1]
  by_cases h1 : (lo g).length = l.length
  · rw [if_pos (by omega), ldI_ok (len := 16000) rfl (by omega), ldI_ok (len := 16000) rfl (by omega), g2, g3, z2, e2, q2]
    by_cases h2 : (ro g).length = r.length
    · rw [if_pos (by omega)]
      exact loopL true ⟨fun _ => ⟨decide_eq_true h1, decide_eq_true h2⟩, fun _ => rfl⟩
    · rw [if_neg (by omega)]
      exact loopL false ⟨fun h => (by cases h), fun h => absurd (of_decide_eq_true h.2) h2⟩
  · rw [if_neg (by omega)]
    exact loopL false ⟨fun h => (by cases h), fun h => absurd (of_decide_eq_true h.1) h1⟩
end RT
