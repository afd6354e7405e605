/-! THE TABLE: orders of its games -/
def SP (a i : Nat) : Prop := a = 116 ∨ a = 117
def MP (m : Mem) (N : Nat) (d : Nat → Nat) : Prop := ∀ k, k < 65536 → mGet m 116 k = 0 ∨ ∃ g h : Nat, g < N ∧ h < N ∧ mGet m 116 k = ((g * 16000 + h + 1 : Nat) : Int) ∧ mGet m 117 k = b2i (gleB (d g) (d h))
theorem MP.ext {m m' : Mem} {N N' : Nat} {d d' : Nat → Nat} (h : MP m N d) (hN : N ≤ N') (hd : ∀ g, g < N → d' g = d g) (e : ∀ k, mGet m' 116 k = mGet m 116 k ∧ mGet m' 117 k = mGet m 117 k) : MP m' N' d' := fun k hk => by
  rw [(e k).1, (e k).2]
  rcases h k hk with h1 | ⟨g, h2, a, b, c, c2⟩
  · exact Or.inl h1
  · exact Or.inr ⟨g, h2, by omega, by omega, c, by rw [hd g a, hd h2 b]; exact c2⟩
theorem gleB_all {d : Nat → Nat} {g h : Nat} {l r : List Nat} (hl : ∀ x, op g 0 x = true ↔ ∃ o, o ∈ l ∧ d o = x) (hr : ∀ x, op h 1 x = true ↔ ∃ o, o ∈ r ∧ d o = x) : gleB g h = (l.all (fun o => !gleB h (d o)) && r.all (fun o => !gleB (d o) g)) := by
  apply Bool.eq_iff_iff.mpr
  rw [gleB_iff, gle_def, Bool.and_eq_true, List.all_eq_true, List.all_eq_true]
  have nb : ∀ a b : Nat, (!gleB a b) = true ↔ ¬ gle a b := fun a b => by
    rw [← gleB_iff]
    cases gleB a b <;> decide
  constructor
  · rintro ⟨a, b⟩
    exact ⟨fun o ho => (nb _ _).mpr (a _ ((hl _).mpr ⟨o, ho, rfl⟩)), fun o ho => (nb _ _).mpr (b _ ((hr _).mpr ⟨o, ho, rfl⟩))⟩
  · rintro ⟨a, b⟩
    refine ⟨fun x hx => ?_, fun x hx => ?_⟩
    · obtain ⟨o, ho, rfl⟩ := (hl _).mp hx
      exact (nb _ _).mp (a o ho)
    · obtain ⟨o, ho, rfl⟩ := (hr _).mp hx
      exact (nb _ _).mp (b o ho)
theorem all_take {p : Nat → Bool} {l : List Nat} {k : Nat} (h : (l.take k).all p = false) : l.all p = false := by
  cases q : l.all p
  · rfl
  · have : (l.take k).all p = true := List.all_eq_true.mpr (fun x hx => List.all_eq_true.mp q x (List.mem_of_mem_take hx))
    rw [this] at h
    cases h
theorem b2i_not (b : Bool) : (if b2i b = 0 then (1 : Int) else 0) = b2i (!b) := by cases b <;> rfl
section RO
variable {n N P : Nat} {lo ro : Nat → List Nat} {st : Nat → Nat} {d : Nat → Nat} {F : List Nat}
theorem SP_RC {a i : Nat} (h : RCe a i) : ¬ SP a i := by
  unfold RCe at h
  unfold SP
  omega
theorem RT.sp {m m' : Mem} (R : RT m N P lo ro st d F) (c : Ch SP m m') : RT m' N P lo ro st d F := R.ext (fun a i h => c.2 a i (SP_RC h))
/-- a place of the table of orders -/
theorem pair_at {g h : Nat} (hg : g < 200) (hh : h < 200) : w32 (w32 (w32 ((g : Int) * 16000) + (h : Int)) + 1) = ((g * 16000 + h + 1 : Nat) : Int) := by
  rw [w32_id (x := (g : Int) * 16000) (by omega) (by omega), w32_id (x := (g : Int) * 16000 + (h : Int)) (by omega) (by omega), w32_id (by omega) (by omega)]
  omega
theorem iand_65535 (x : Int) : ∃ k : Nat, iand x 65535 = (k : Int) ∧ k < 65536 := by
  have := iand_mask x 16 (by decide)
  rw [show ((2 ^ 16 - 1 : Nat) : Int) = 65535 from rfl, show ((2 ^ 16 : Nat) : Int) = 65536 from rfl] at this
  exact ⟨(x % 65536).toNat, by rw [this]; omega, by omega⟩
set_option maxHeartbeats 1000000 in
theorem atMost_all (hn : 3000 < n) : ∀ D, (∀ (g h : Nat) (m : Mem), RT m N P lo ro st d F → MP m N d → g < N → h < N → 2 * (bd (d g) + bd (d h)) + 2 ≤ D → Ok (h_X11_atMost n D (g : Int) (h : Int) m) (fun v m' => v = b2i (gleB (d g) (d h)) ∧ MP m' N d ∧ Ch SP m m')) ∧ (∀ (g h : Nat) (m : Mem), RT m N P lo ro st d F → MP m N d → g < N → h < N → 2 * (bd (d g) + bd (d h)) + 1 ≤ D → Ok (h_X11_isAtMost n D (g : Int) (h : Int) m) (fun v m' => v = b2i (gleB (d g) (d h)) ∧ MP m' N d ∧ Ch SP m m')) := by
  intro D
  induction D with
  | zero => exact ⟨fun g h m _ _ _ _ hD => by omega, fun g h m _ _ _ _ hD => by omega⟩
  | succ D ih =>
    obtain ⟨ih1, ih2⟩ := ih
    refine ⟨fun g h m R M hg hh hD => ?_, fun g h m R M hg hh hD => ?_⟩
    · have N2 := R.nn
      show Ok (b_X11_atMost n (h_X11_atMost n D) (h_X11_isAtMost n D) (g : Int) (h : Int) m) _
      unfold b_X11_atMost
      by_cases q : (g : Int) = (h : Int)
      · rw [if_pos q]
        have e : g = h := by omega
        subst e
        refine ok_rtZ (Or.inr rfl) ⟨?_, M, Ch.rf _ _⟩
        rw [(gleB_iff _ _).mpr (gle_rfl _)]
        rfl
      · rw [if_neg q]
        dsimp only [nm]
        rw [pair_at (by omega) (by omega)]
        refine ok_calE spread_eq ?_
        obtain ⟨k, ek, hk⟩ := iand_65535 (sp ((g * 16000 + h + 1 : Nat) : Int))
        rw [ek, ldI_ok (len := 65536) rfl hk]
        by_cases q2 : mGet m 116 k = ((g * 16000 + h + 1 : Nat) : Int)
        · rw [if_pos q2, ldZ_ok (len := 65536) rfl hk]
          rcases M k hk with h0 | ⟨g2, h2, a, b, c, c2⟩
          · omega
          · have e1 : g2 = g := by omega
            have e2 : h2 = h := by omega
            subst e1
            subst e2
            rw [c2]
            exact ok_rtZ (rb_01 _) ⟨rfl, M, Ch.rf _ _⟩
        · rw [if_neg q2]
          refine ok_cal (ih2 g h m R M hg hh (by omega)) (fun v m1 hq => ?_)
          obtain ⟨rfl, M1, c1⟩ := hq
          rw [stI_ok (len := 65536) rfl hk, stZ_ok (len := 65536) rfl hk (rb_01 _)]
          have G8 : ∀ a i, mGet (mSet (mSet m1 116 k ((g * 16000 + h + 1 : Nat) : Int)) 117 k (b2i (gleB (d g) (d h)))) a i = if a = 117 ∧ i = k then b2i (gleB (d g) (d h)) else if a = 116 ∧ i = k then ((g * 16000 + h + 1 : Nat) : Int) else mGet m1 a i := fun a i => by
            have b01 := rb_01 (gleB (d g) (d h))
            rw [mGet_mSet, mGet_mSet, w32_nat (by omega), w32_id (x := b2i (gleB (d g) (d h))) (by omega) (by omega)]
          refine ok_rtZ (rb_01 _) ⟨rfl, fun k2 hk2 => ?_, c1.tr ⟨rfl, fun a i z => ?_⟩⟩
          · by_cases q3 : k2 = k
            · subst q3
              exact Or.inr ⟨g, h, hg, hh, by rw [G8, if_neg (by omega), if_pos ⟨rfl, rfl⟩], by rw [G8, if_pos ⟨rfl, rfl⟩]⟩
            · rw [G8, if_neg (by omega), if_neg (by omega), G8, if_neg (by omega), if_neg (by omega)]
              exact M1 k2 hk2
          · rw [G8, if_neg (fun w => z (Or.inr w.1)), if_neg (fun w => z (Or.inl w.1))]
    · have N2 := R.nn
      have P8 := R.pp
      have lng2 := R.len hg
      have lnh2 := R.len hh
      obtain ⟨⟨g1, g2, g3, g4⟩, gP, _⟩ := R.2.1 g hg
      obtain ⟨⟨h1, h2, h3, h4⟩, hP, _⟩ := R.2.1 h hh
      have lng := app_len (lo g) (ro g)
      have lnh := app_len (lo h) (ro h)
      have ga := gleB_all (d := d) (g := d g) (h := d h) (l := lo g) (r := ro h) (fun x => R.opL hg) (fun x => R.opR hh)
      have RC : ∀ {m1 : Mem}, Ch SP m m1 → ∀ a i, 102 ≤ a → a ≤ 110 → mGet m1 a i = mGet m a i := fun c a i z1 z2 => c.2 a i (by unfold SP; omega)
      -- the second loop
      have loop2 : ∀ (b1 : Bool) (m1 : Mem), MP m1 N d → Ch SP m m1 → ((lo g).all (fun o => !gleB (d h) (d o)) = b1) → Ok (lp (F := Int → Int → Mem → Option Rz) (fun _ _ _ => none) (fun w60 v3_60 v4_60 m60 =>
        ldI m60 105 (h : Int) fun x67 =>
        if v4_60 < x67 then (
          if v3_60 = 0 then (
            rtZ v3_60 m60
          ) else
          ldI m60 102 v4_60 fun x82 =>
          cal (h_X11_atMost n D x82 (g : Int) m60) fun x84 m84 =>
          if x84 = 0 then (
            w60 1 (w32 (v4_60 + 1)) m84
          ) else
          w60 0 (w32 (v4_60 + 1)) m84
        ) else
        rtZ v3_60 m60
      ) n (b2i b1) ((st h + (lo h).length : Nat) : Int) m1) (fun v m' => v = b2i (gleB (d g) (d h)) ∧ MP m' N d ∧ Ch SP m m') := by
        intro b1 m1 M1 c1 hb1
        refine ok_row2 (s := st h + (lo h).length) (k := 0) (ro h).length (fun k a m2 => MP m2 N d ∧ Ch SP m m2 ∧ a = b2i (b1 && ((ro h).take k).all (fun o => !gleB (d o) (d g)))) (fun w k a m2 hk hI hw => ?_) (fun w a m2 hI => ?_) n (b2i b1) m1 (Nat.zero_le _) ⟨M1, c1, by simp⟩ (by omega)
        · obtain ⟨M2, c2, rfl⟩ := hI
          rw [ldI_ok (len := 16000) rfl (by omega), RC c2 105 h (by decide) (by decide), h3, if_pos (by omega)]
          cases q : (b1 && ((ro h).take k).all (fun o => !gleB (d o) (d g))) with
          | false =>
            rw [if_pos rb_f]
            refine ok_rtZ (Or.inl rfl) ⟨?_, M2, c2⟩
            rw [ga, hb1]
            cases b1
            · rfl
            · rw [Bool.true_and] at q
              rw [all_take q]
              rfl
          | true =>
            have e := h4.right k hk
            have ok := R.lt hh (List.mem_append_right (lo h) (List.getElem_mem hk))
            have bo : bd (d (ro h)[k]) < bd (d h) := bd_op (w := 1) (by decide) ((R.opR hh).mpr ⟨_, List.getElem_mem hk, rfl⟩)
            rw [if_neg (by decide), ldI_ok (len := 240000) rfl (by omega), RC c2 102 _ (by decide) (by decide), e]
            refine ok_cal (ih1 _ g m2 (R.sp c2) M2 (by omega) hg (by omega)) (fun v m3 hq => ?_)
            obtain ⟨rfl, M3, c3⟩ := hq
            rw [w32_s (by omega)]
            have step : ∀ c : Int, (c = b2i (!gleB (d (ro h)[k]) (d g))) → Ok (w c ((st h + (lo h).length + (k + 1) : Nat) : Int) m3) (fun v m' => v = b2i (gleB (d g) (d h)) ∧ MP m' N d ∧ Ch SP m m') := by
              intro c hc
              refine hw c m3 ⟨M3, c2.tr c3, ?_⟩
              rw [hc, take_s hk, List.all_append, ← Bool.and_assoc, q, Bool.true_and]
              simp
            have e2 := b2i_not (gleB (d (ro h)[k]) (d g))
            by_cases q2 : b2i (gleB (d (ro h)[k]) (d g)) = 0
            · rw [if_pos q2]; rw [if_pos q2] at e2; exact step 1 e2
            · rw [if_neg q2]; rw [if_neg q2] at e2; exact step 0 e2
        · obtain ⟨M2, c2, rfl⟩ := hI
          rw [ldI_ok (len := 16000) rfl (by omega), RC c2 105 h (by decide) (by decide), h3, if_neg (by omega), List.take_length, ← hb1, ← ga]
          exact ok_rtZ (rb_01 _) ⟨rfl, M2, c2⟩
      rw [h_X11_isAtMost_s]
      unfold b_X11_isAtMost
      dsimp only [jn]
      rw [ldI_ok (len := 16000) rfl (by omega), g1]
      refine ok_row2 (s := st g) (k := 0) (lo g).length (fun k a m2 => MP m2 N d ∧ Ch SP m m2 ∧ a = b2i (((lo g).take k).all (fun o => !gleB (d h) (d o)))) (fun w k a m2 hk hI hw => ?_) (fun w a m2 hI => ?_) n 1 m (Nat.zero_le _) ⟨M, Ch.rf _ _, rfl⟩ (by omega)
      · obtain ⟨M2, c2, rfl⟩ := hI
        rw [ldI_ok (len := 16000) rfl (by omega), RC c2 104 g (by decide) (by decide), g2, if_pos (by omega)]
        cases q : ((lo g).take k).all (fun o => !gleB (d h) (d o)) with
        | false =>
          rw [if_pos rb_f, ldI_ok (len := 16000) rfl (by omega), RC c2 104 h (by decide) (by decide), h2]
          exact loop2 false m2 M2 c2 (all_take q)
        | true =>
          have e := g4.left k hk
          have ok := R.lt hg (List.mem_append_left (ro g) (List.getElem_mem hk))
          have bo : bd (d (lo g)[k]) < bd (d g) := bd_op (w := 0) (by decide) ((R.opL hg).mpr ⟨_, List.getElem_mem hk, rfl⟩)
          rw [if_neg (by decide), ldI_ok (len := 240000) rfl (by omega), RC c2 102 _ (by decide) (by decide), e]
          refine ok_cal (ih1 h _ m2 (R.sp c2) M2 hh (by omega) (by omega)) (fun v m3 hq => ?_)
          obtain ⟨rfl, M3, c3⟩ := hq
          rw [w32_s (by omega)]
          have step : ∀ c : Int, (c = b2i (!gleB (d h) (d (lo g)[k]))) → Ok (w c ((st g + (k + 1) : Nat) : Int) m3) (fun v m' => v = b2i (gleB (d g) (d h)) ∧ MP m' N d ∧ Ch SP m m') := by
            intro c hc
            refine hw c m3 ⟨M3, c2.tr c3, ?_⟩
            rw [hc, take_s hk, List.all_append, q, Bool.true_and]
            simp
          have e2 := b2i_not (gleB (d h) (d (lo g)[k]))
          by_cases q2 : b2i (gleB (d h) (d (lo g)[k])) = 0
          · rw [if_pos q2]; rw [if_pos q2] at e2; exact step 1 e2
          · rw [if_neg q2]; rw [if_neg q2] at e2; exact step 0 e2
      · obtain ⟨M2, c2, rfl⟩ := hI
        rw [ldI_ok (len := 16000) rfl (by omega), RC c2 104 g (by decide) (by decide), g2, if_neg (by omega), ldI_ok (len := 16000) rfl (by omega), RC c2 104 h (by decide) (by decide), h2, List.take_length]
        exact loop2 _ m2 M2 c2 rfl
theorem atMost_ok {g h : Nat} {m : Mem} (hn : 3000 < n) (R : RT m N P lo ro st d F) (M : MP m N d) (hg : g < N) (hh : h < N) : Ok (f_X11_atMost n (g : Int) (h : Int) m) (fun v m' => v = b2i (gleB (d g) (d h)) ∧ MP m' N d ∧ Ch SP m m') := (atMost_all hn 200).1 g h m R M hg hh (by have := R.bd hg; have := R.bd hh; omega)
end RO
