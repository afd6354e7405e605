/-! THE TABLE: its games against the one at hand -/
def SU (a i : Nat) : Prop := a = 116 ∨ a = 117 ∨ a = 123 ∨ a = 124
def Un1 (v : Int) (s : Nat) (b : Bool) (c : Prop) : Prop := (c ∧ v = 2 * (s : Int) + b2i b) ∨ (0 ≤ v ∧ v < 2 * (s : Int))
def HU (m : Mem) (N : Nat) (d : Nat → Nat) (H s : Nat) : Prop := mGet m 100 29 = (s : Int) ∧ s ≤ 1000000000 ∧ ∀ x, x < 16000 → Un1 (mGet m 123 x) s (gleB (d x) H) (x < N) ∧ Un1 (mGet m 124 x) s (gleB H (d x)) (x < N)
theorem idiv_2 {v : Int} (h : 0 ≤ v) (h2 : v < 2147483648) : idiv v 2 = v / 2 := by
  unfold idiv
  rw [show Int32.ofInt v / Int32.ofInt 2 = Int32.ofInt (v.tdiv 2) from (Int32.ofInt_tdiv (by show (-2147483648 : Int) ≤ v; omega) (by show v ≤ 2147483647; omega) (by decide) (by decide)).symm, Int.tdiv_eq_ediv_of_nonneg h]
  exact w32_id (by omega) (by omega)
theorem irem_2 {v : Int} (h : 0 ≤ v) (h2 : v < 2147483648) : irem v 2 = v % 2 := by
  unfold irem
  rw [show Int32.ofInt v / Int32.ofInt 2 = Int32.ofInt (v.tdiv 2) from (Int32.ofInt_tdiv (by show (-2147483648 : Int) ≤ v; omega) (by show v ≤ 2147483647; omega) (by decide) (by decide)).symm, Int.tdiv_eq_ediv_of_nonneg h, ← Int32.ofInt_mul, ← Int32.ofInt_sub, show v - v / 2 * 2 = v % 2 by omega]
  exact w32_id (by omega) (by omega)
theorem geq_B {H H2 x : Nat} (e : geq H H2) : gleB x H = gleB x H2 ∧ gleB H x = gleB H2 x := by
  constructor
  · apply Bool.eq_iff_iff.mpr
    rw [gleB_iff, gleB_iff]
    exact e.r
  · apply Bool.eq_iff_iff.mpr
    rw [gleB_iff, gleB_iff]
    exact e.l
theorem HU.geq {m : Mem} {N s H H2 : Nat} {d : Nat → Nat} (h : HU m N d H s) (e : geq H H2) : HU m N d H2 s := ⟨h.1, h.2.1, fun x hx => by
  have q := h.2.2 x hx
  rw [(geq_B e).1, (geq_B e).2] at q
  exact q⟩
theorem HU.ext {m m' : Mem} {N s H : Nat} {d : Nat → Nat} (h : HU m N d H s) (e : ∀ a i, (a = 100 ∧ i = 29) ∨ a = 123 ∨ a = 124 → mGet m' a i = mGet m a i) : HU m' N d H s := ⟨(e _ _ (Or.inl ⟨rfl, rfl⟩)).trans h.1, h.2.1, fun x hx => by
  rw [e 123 x (Or.inr (Or.inl rfl)), e 124 x (Or.inr (Or.inr rfl))]
  exact h.2.2 x hx⟩
theorem Un1.read {v : Int} {s : Nat} {b : Bool} {c : Prop} (h : Un1 v s b c) (hs : s ≤ 1000000000) : (idiv v 2 = (s : Int) → c ∧ irem v 2 = b2i b) := by
  intro e
  have b01 := rb_01 b
  rcases h with ⟨hc, hv⟩ | ⟨h0, h1⟩
  · rw [irem_2 (by omega) (by omega)]
    exact ⟨hc, by omega⟩
  · rw [idiv_2 (by omega) (by omega)] at e
    omega
theorem Hd.ext {m m' : Mem} {l r : List Nat} (h : Hd m l r) (e : ∀ a i, (a = 100 ∧ (i = 23 ∨ i = 24)) ∨ a = 120 ∨ a = 121 → mGet m' a i = mGet m a i) : Hd m' l r := ⟨(e _ _ (Or.inl ⟨rfl, Or.inl rfl⟩)).trans h.1, (e _ _ (Or.inl ⟨rfl, Or.inr rfl⟩)).trans h.2.1, h.2.2.1.ext (fun k _ => e _ _ (Or.inr (Or.inl rfl))), h.2.2.2.1.ext (fun k _ => e _ _ (Or.inr (Or.inr rfl))), h.2.2.2.2⟩
section RU
variable {n N P : Nat} {lo ro : Nat → List Nat} {st : Nat → Nat} {d : Nat → Nat} {F : List Nat}
theorem RT.su {m m' : Mem} (R : RT m N P lo ro st d F) (c : Ch SU m m') : RT m' N P lo ro st d F := R.ext (fun a i h => c.2 a i (by unfold RCe at h; unfold SU; omega))
theorem Hd.su {m m' : Mem} {l r : List Nat} (h : Hd m l r) (c : Ch SU m m') : Hd m' l r := h.ext (fun a i z => c.2 a i (by unfold SU; omega))
theorem SP_SU {a i : Nat} (h : SP a i) : SU a i := h.imp id (fun h => Or.inl h)
/-- a word of what is known is written -/
theorem HU.set {m : Mem} {H s x : Nat} (U : HU m N d H s) (hx : x < N) (h16 : x < 16000) (a : Nat) (ha : a = 123 ∨ a = 124) (b : Bool) (hb : (a = 123 → b = gleB (d x) H) ∧ (a = 124 → b = gleB H (d x))) : HU (mSet m a x (2 * (s : Int) + b2i b)) N d H s := by
  have b01 := rb_01 b
  have hs := U.2.1
  have G8 : ∀ c i, mGet (mSet m a x (2 * (s : Int) + b2i b)) c i = if c = a ∧ i = x then 2 * (s : Int) + b2i b else mGet m c i := fun c i => by rw [mGet_mSet, w32_id (by omega) (by omega)]
  refine ⟨by rw [G8, if_neg (by omega)]; exact U.1, hs, fun y hy => ?_⟩
  obtain ⟨u1, u2⟩ := U.2.2 y hy
  rcases ha with rfl | rfl
  · rw [G8, G8, if_neg (show ¬ (124 = 123 ∧ y = x) by omega)]
    refine ⟨?_, u2⟩
    by_cases q : y = x
    · subst q
      rw [if_pos ⟨rfl, rfl⟩]
      exact Or.inl ⟨hx, by rw [hb.1 rfl]⟩
    · rw [if_neg (fun z => q z.2)]
      exact u1
  · rw [G8, G8, if_neg (show ¬ (123 = 124 ∧ y = x) by omega)]
    refine ⟨u1, ?_⟩
    by_cases q : y = x
    · subst q
      rw [if_pos ⟨rfl, rfl⟩]
      exact Or.inl ⟨hx, by rw [hb.2 rfl]⟩
    · rw [if_neg (fun z => q z.2)]
      exact u2
theorem w32_2s {s : Nat} {b : Bool} (h : s ≤ 1000000000) : w32 (w32 (2 * (s : Int)) + b2i b) = 2 * (s : Int) + b2i b := by
  have b01 := rb_01 b
  rw [w32_id (x := 2 * (s : Int)) (by omega) (by omega), w32_id (by omega) (by omega)]
theorem un_not (b : Bool) {A B : Option Rz} {Q : Int → Mem → Prop} (h1 : b = false → Ok A Q) (h2 : b = true → Ok B Q) : Ok (if b2i b = 0 then A else B) Q := by
  cases b
  · rw [if_pos rb_f]; exact h1 rfl
  · rw [if_neg (by decide)]; exact h2 rfl
set_option maxHeartbeats 2000000 in
theorem under_all {l r : List Nat} {s : Nat} (hn : 3000 < n) (hb : ∀ o, o ∈ l ++ r → o < N) : ∀ D, (∀ (x : Nat) (m : Mem), RT m N P lo ro st d F → MP m N d → Hd m l r → HU m N d (MK d l r) s → x < N → bd (d x) + 1 ≤ D → Ok (h_X11_isOver n D (x : Int) m) (fun v m' => v = b2i (gleB (MK d l r) (d x)) ∧ MP m' N d ∧ HU m' N d (MK d l r) s ∧ Ch SU m m')) ∧ (∀ (x : Nat) (m : Mem), RT m N P lo ro st d F → MP m N d → Hd m l r → HU m N d (MK d l r) s → x < N → bd (d x) + 1 ≤ D → Ok (h_X11_isUnder n D (x : Int) m) (fun v m' => v = b2i (gleB (d x) (MK d l r)) ∧ MP m' N d ∧ HU m' N d (MK d l r) s ∧ Ch SU m m')) := by
  intro D
  induction D with
  | zero => exact ⟨fun x m _ _ _ _ _ hD => by omega, fun x m _ _ _ _ _ hD => by omega⟩
  | succ D ih =>
    obtain ⟨ih1, ih2⟩ := ih
    refine ⟨fun x m R M H U hx hD => ?_, fun x m R M H U hx hD => ?_⟩
    · have N2 := R.nn
      have P8 := R.pp
      have lnx2 := R.len hx
      obtain ⟨⟨g1, g2, g3, g4⟩, gP, _⟩ := R.2.1 x hx
      have lng := app_len (lo x) (ro x)
      have hs := U.2.1
      obtain ⟨q1, q2, q3, q4, q5, q6⟩ := id H
      have ga := gleB_all (d := d) (g := MK d l r) (h := d x) (l := l) (r := ro x) (fun y => op_MKL) (fun y => R.opR hx)
      rw [h_X11_isOver_s]
      unfold b_X11_isOver
      have gt : ∀ (m1 : Mem) (i : Nat) (K : Int → Option Rz), gtF m1 100 i K = K (mGet m1 100 i) := fun _ _ _ => rfl
      rw [ldI_ok (len := 16000) rfl (by omega)]
      unfold ok0
      rw [if_pos (by decide), gt, U.1]
      by_cases k : idiv (mGet m 124 x) 2 = (s : Int)
      · rw [if_pos k, ldI_ok (len := 16000) rfl (by omega), if_pos (by decide), ((U.2.2 x (by omega)).2.read hs k).2]
        dsimp only [jn]
        refine ok_mono (P := fun v m' => v = b2i (gleB (MK d l r) (d x)) ∧ m' = m) ?_ (fun v m' h => ⟨h.1, by rw [h.2]; exact M, by rw [h.2]; exact U, by rw [h.2]; exact Ch.rf _ _⟩)
        cases gleB (MK d l r) (d x)
        · exact ok_rtZ (Or.inl rfl) ⟨rfl, rfl⟩
        · exact ok_rtZ (Or.inr rfl) ⟨rfl, rfl⟩
      · rw [if_neg k]
        dsimp only [jn]
        -- the second loop, the end
        have RC : ∀ {m1 : Mem}, Ch SU m m1 → ∀ a i, 102 ≤ a → a ≤ 110 → mGet m1 a i = mGet m a i := fun c a i z1 z2 => c.2 a i (by unfold SU; omega)
        have fin : ∀ (b : Bool) (m1 : Mem), MP m1 N d → HU m1 N d (MK d l r) s → Ch SU m m1 → b = gleB (MK d l r) (d x) → Ok (if b2i b = 0 then stI m1 124 (x : Int) (w32 (w32 (2 * (s : Int)) + 0)) (fun m142 => rtZ (b2i b) m142) else stI m1 124 (x : Int) (w32 (w32 (2 * (s : Int)) + 1)) fun m142 => rtZ (b2i b) m142) (fun v m' => v = b2i (gleB (MK d l r) (d x)) ∧ MP m' N d ∧ HU m' N d (MK d l r) s ∧ Ch SU m m') := by
          intro b m1 M1 U1 c1 hb
          have e : ∀ v : Int, v = b2i b → Ok (stI m1 124 (x : Int) (w32 (w32 (2 * (s : Int)) + v)) (fun m142 => rtZ (b2i b) m142)) (fun v m' => v = b2i (gleB (MK d l r) (d x)) ∧ MP m' N d ∧ HU m' N d (MK d l r) s ∧ Ch SU m m') := by
            intro v hv
            rw [hv, w32_2s hs, stI_ok (len := 16000) rfl (by omega)]
            refine ok_rtZ (rb_01 _) ⟨by rw [hb], M1.ext (Nat.le_refl _) (fun _ _ => rfl) (fun i => ⟨by rw [mGet_mSet, if_neg (by omega)], by rw [mGet_mSet, if_neg (by omega)]⟩), U1.set hx (by omega) 124 (Or.inr rfl) b ⟨fun h => (by cases h), fun _ => hb⟩, c1.tr (Ch.set (Or.inr (Or.inr (Or.inr rfl))))⟩
          exact un_not b (fun h => e 0 (by rw [h]; rfl)) (fun h => e 1 (by rw [h]; rfl))
        have loop2 : ∀ (b1 : Bool) (m1 : Mem), MP m1 N d → HU m1 N d (MK d l r) s → Ch SU m m1 → l.all (fun o => !gleB (d x) (d o)) = b1 → Ok (lp (F := Int → Int → Mem → Option Rz) (fun _ _ _ => none) (fun w82 v2_82 v3_82 m82 =>
        ldI m82 105 (x : Int) fun x88 =>
        if v3_82 < x88 then (
          if v2_82 = 0 then (
            gtF m82 100 29 fun x128 =>
            if v2_82 = 0 then stI m82 124 (x : Int) (w32 ((w32 (2 * x128)) + 0)) (fun m142 => rtZ v2_82 m142)
            else stI m82 124 (x : Int) (w32 ((w32 (2 * x128)) + 1)) fun m142 => rtZ v2_82 m142
          ) else
          ldI m82 102 v3_82 fun x102 =>
          cal (h_X11_isUnder n D x102 m82) fun x103 m103 =>
          if x103 = 0 then (
            w82 1 (w32 (v3_82 + 1)) m103
          ) else
          w82 0 (w32 (v3_82 + 1)) m103
        ) else
        gtF m82 100 29 fun x128 =>
        if v2_82 = 0 then stI m82 124 (x : Int) (w32 ((w32 (2 * x128)) + 0)) (fun m142 => rtZ v2_82 m142)
        else stI m82 124 (x : Int) (w32 ((w32 (2 * x128)) + 1)) fun m142 => rtZ v2_82 m142
      ) n (b2i b1) ((st x + (lo x).length : Nat) : Int) m1) (fun v m' => v = b2i (gleB (MK d l r) (d x)) ∧ MP m' N d ∧ HU m' N d (MK d l r) s ∧ Ch SU m m') := by
          intro b1 m1 M1 U1 c1 hb1
          refine ok_row2 (s := st x + (lo x).length) (k := 0) (ro x).length (fun k a m2 => MP m2 N d ∧ HU m2 N d (MK d l r) s ∧ Ch SU m m2 ∧ a = b2i (b1 && ((ro x).take k).all (fun o => !gleB (d o) (MK d l r)))) (fun w k a m2 hk hI hw => ?_) (fun w a m2 hI => ?_) n (b2i b1) m1 (Nat.zero_le _) ⟨M1, U1, c1, by simp⟩ (by omega)
          · obtain ⟨M2, U2, c2, rfl⟩ := hI
            rw [ldI_ok (len := 16000) rfl (by omega), RC c2 105 x (by decide) (by decide), g3, if_pos (by omega)]
            cases q : (b1 && ((ro x).take k).all (fun o => !gleB (d o) (MK d l r))) with
            | false =>
              rw [if_pos rb_f, gt, U2.1]
              refine fin false m2 M2 U2 c2 ?_
              rw [ga, hb1]
              cases b1
              · rfl
              · rw [Bool.true_and] at q ⊢
                exact (all_take q).symm
            | true =>
              have e := g4.right k hk
              have ok := R.lt hx (List.mem_append_right (lo x) (List.getElem_mem hk))
              have bo : bd (d (ro x)[k]) < bd (d x) := bd_op (w := 1) (by decide) ((R.opR hx).mpr ⟨_, List.getElem_mem hk, rfl⟩)
              rw [if_neg (by decide), ldI_ok (len := 240000) rfl (by omega), RC c2 102 _ (by decide) (by decide), e]
              refine ok_cal (ih2 _ m2 (R.su c2) M2 (H.su c2) U2 (by omega) (by omega)) (fun v m3 hq => ?_)
              obtain ⟨rfl, M3, U3, c3⟩ := hq
              rw [w32_s (by omega)]
              have step : ∀ c : Int, (c = b2i (!gleB (d (ro x)[k]) (MK d l r))) → Ok (w c ((st x + (lo x).length + (k + 1) : Nat) : Int) m3) (fun v m' => v = b2i (gleB (MK d l r) (d x)) ∧ MP m' N d ∧ HU m' N d (MK d l r) s ∧ Ch SU m m') := by
                intro c hc
                refine hw c m3 ⟨M3, U3, c2.tr c3, ?_⟩
                rw [hc, take_s hk, List.all_append, ← Bool.and_assoc, q, Bool.true_and]
                simp
              exact un_not _ (fun h => step 1 (by rw [h]; rfl)) (fun h => step 0 (by rw [h]; rfl))
          · obtain ⟨M2, U2, c2, rfl⟩ := hI
            rw [ldI_ok (len := 16000) rfl (by omega), RC c2 105 x (by decide) (by decide), g3, if_neg (by omega), List.take_length, gt, U2.1, ← hb1, ← ga]
            exact fin _ m2 M2 U2 c2 rfl
        refine ok_row2 (s := 0) (k := 0) l.length (fun k a m2 => MP m2 N d ∧ HU m2 N d (MK d l r) s ∧ Ch SU m m2 ∧ a = b2i ((l.take k).all (fun o => !gleB (d x) (d o)))) (fun w k a m2 hk hI hw => ?_) (fun w a m2 hI => ?_) n 1 m (Nat.zero_le _) ⟨M, U, Ch.rf _ _, rfl⟩ (by omega)
        · obtain ⟨M2, U2, c2, rfl⟩ := hI
          obtain ⟨p1, p2, p3, p4, _, _⟩ := H.su c2
          rw [gt, p1, if_pos (by omega)]
          cases q : (l.take k).all (fun o => !gleB (d x) (d o)) with
          | false =>
            rw [if_pos rb_f, ldI_ok (len := 16000) rfl (by omega), RC c2 104 x (by decide) (by decide), g2]
            exact loop2 false m2 M2 U2 c2 (all_take q)
          | true =>
            have e := p3 k hk
            have lk := hb _ (List.mem_append_left r (List.getElem_mem hk))
            rw [if_neg (by decide), ldI_ok (len := 4000) rfl (by omega), e]
            refine ok_cal (atMost_ok hn (R.su c2) M2 hx lk) (fun v m3 hq => ?_)
            obtain ⟨rfl, M3, c3⟩ := hq
            have c3' : Ch SU m2 m3 := c3.weak (fun a i => SP_SU)
            have U3 := U2.ext (m' := m3) (fun a i z => c3.2 a i (by unfold SP; omega))
            rw [w32_s (by omega)]
            have step : ∀ c : Int, (c = b2i (!gleB (d x) (d l[k]))) → Ok (w c ((0 + (k + 1) : Nat) : Int) m3) (fun v m' => v = b2i (gleB (MK d l r) (d x)) ∧ MP m' N d ∧ HU m' N d (MK d l r) s ∧ Ch SU m m') := by
              intro c hc
              refine hw c m3 ⟨M3, U3, c2.tr c3', ?_⟩
              rw [hc, take_s hk, List.all_append, q, Bool.true_and]
              simp
            exact un_not _ (fun h => step 1 (by rw [h]; rfl)) (fun h => step 0 (by rw [h]; rfl))
        · obtain ⟨M2, U2, c2, rfl⟩ := hI
          obtain ⟨p1, p2, p3, p4, _, _⟩ := H.su c2
          rw [gt, p1, if_neg (by omega), ldI_ok (len := 16000) rfl (by omega), RC c2 104 x (by decide) (by decide), g2, List.take_length]
          exact loop2 _ m2 M2 U2 c2 rfl
    · have N2 := R.nn
      have P8 := R.pp
      have lnx2 := R.len hx
      obtain ⟨⟨g1, g2, g3, g4⟩, gP, _⟩ := R.2.1 x hx
      have lng := app_len (lo x) (ro x)
      have hs := U.2.1
      obtain ⟨q1, q2, q3, q4, q5, q6⟩ := id H
      have ga := gleB_all (d := d) (g := d x) (h := MK d l r) (l := lo x) (r := r) (fun y => R.opL hx) (fun y => op_MKR)
      rw [h_X11_isUnder_s]
      unfold b_X11_isUnder
      have gt : ∀ (m1 : Mem) (i : Nat) (K : Int → Option Rz), gtF m1 100 i K = K (mGet m1 100 i) := fun _ _ _ => rfl
      rw [ldI_ok (len := 16000) rfl (by omega)]
      unfold ok0
      rw [if_pos (by decide), gt, U.1]
      by_cases k : idiv (mGet m 123 x) 2 = (s : Int)
      · rw [if_pos k, ldI_ok (len := 16000) rfl (by omega), if_pos (by decide), ((U.2.2 x (by omega)).1.read hs k).2]
        dsimp only [jn]
        refine ok_mono (P := fun v m' => v = b2i (gleB (d x) (MK d l r)) ∧ m' = m) ?_ (fun v m' h => ⟨h.1, by rw [h.2]; exact M, by rw [h.2]; exact U, by rw [h.2]; exact Ch.rf _ _⟩)
        cases gleB (d x) (MK d l r)
        · exact ok_rtZ (Or.inl rfl) ⟨rfl, rfl⟩
        · exact ok_rtZ (Or.inr rfl) ⟨rfl, rfl⟩
      · rw [if_neg k]
        dsimp only [jn]
        have RC : ∀ {m1 : Mem}, Ch SU m m1 → ∀ a i, 102 ≤ a → a ≤ 110 → mGet m1 a i = mGet m a i := fun c a i z1 z2 => c.2 a i (by unfold SU; omega)
        have fin : ∀ (b : Bool) (m1 : Mem), MP m1 N d → HU m1 N d (MK d l r) s → Ch SU m m1 → b = gleB (d x) (MK d l r) → Ok (if b2i b = 0 then stI m1 123 (x : Int) (w32 (w32 (2 * (s : Int)) + 0)) (fun m142 => rtZ (b2i b) m142) else stI m1 123 (x : Int) (w32 (w32 (2 * (s : Int)) + 1)) fun m142 => rtZ (b2i b) m142) (fun v m' => v = b2i (gleB (d x) (MK d l r)) ∧ MP m' N d ∧ HU m' N d (MK d l r) s ∧ Ch SU m m') := by
          intro b m1 M1 U1 c1 hb
          have e : ∀ v : Int, v = b2i b → Ok (stI m1 123 (x : Int) (w32 (w32 (2 * (s : Int)) + v)) (fun m142 => rtZ (b2i b) m142)) (fun v m' => v = b2i (gleB (d x) (MK d l r)) ∧ MP m' N d ∧ HU m' N d (MK d l r) s ∧ Ch SU m m') := by
            intro v hv
            rw [hv, w32_2s hs, stI_ok (len := 16000) rfl (by omega)]
            refine ok_rtZ (rb_01 _) ⟨by rw [hb], M1.ext (Nat.le_refl _) (fun _ _ => rfl) (fun i => ⟨by rw [mGet_mSet, if_neg (by omega)], by rw [mGet_mSet, if_neg (by omega)]⟩), U1.set hx (by omega) 123 (Or.inl rfl) b ⟨fun _ => hb, fun h => (by cases h)⟩, c1.tr (Ch.set (Or.inr (Or.inr (Or.inl rfl))))⟩
          exact un_not b (fun h => e 0 (by rw [h]; rfl)) (fun h => e 1 (by rw [h]; rfl))
        have loop2 : ∀ (b1 : Bool) (m1 : Mem), MP m1 N d → HU m1 N d (MK d l r) s → Ch SU m m1 → (lo x).all (fun o => !gleB (MK d l r) (d o)) = b1 → Ok (lp (F := Int → Int → Mem → Option Rz) (fun _ _ _ => none) (fun w83 v2_83 v3_83 m83 =>
        gtF m83 100 24 fun x85 =>
        if v3_83 < x85 then (
          if v2_83 = 0 then (
            gtF m83 100 29 fun x128 =>
            if v2_83 = 0 then stI m83 123 (x : Int) (w32 ((w32 (2 * x128)) + 0)) (fun m142 => rtZ v2_83 m142)
            else stI m83 123 (x : Int) (w32 ((w32 (2 * x128)) + 1)) fun m142 => rtZ v2_83 m142
          ) else
          ldI m83 121 v3_83 fun x101 =>
          cal (f_X11_atMost n x101 (x : Int) m83) fun x103 m103 =>
          if x103 = 0 then (
            w83 1 (w32 (v3_83 + 1)) m103
          ) else
          w83 0 (w32 (v3_83 + 1)) m103
        ) else
        gtF m83 100 29 fun x128 =>
        if v2_83 = 0 then stI m83 123 (x : Int) (w32 ((w32 (2 * x128)) + 0)) (fun m142 => rtZ v2_83 m142)
        else stI m83 123 (x : Int) (w32 ((w32 (2 * x128)) + 1)) fun m142 => rtZ v2_83 m142
      ) n (b2i b1) 0 m1) (fun v m' => v = b2i (gleB (d x) (MK d l r)) ∧ MP m' N d ∧ HU m' N d (MK d l r) s ∧ Ch SU m m') := by
          intro b1 m1 M1 U1 c1 hb1
          refine ok_row2 (s := 0) (k := 0) r.length (fun k a m2 => MP m2 N d ∧ HU m2 N d (MK d l r) s ∧ Ch SU m m2 ∧ a = b2i (b1 && (r.take k).all (fun o => !gleB (d o) (d x)))) (fun w k a m2 hk hI hw => ?_) (fun w a m2 hI => ?_) n (b2i b1) m1 (Nat.zero_le _) ⟨M1, U1, c1, by simp⟩ (by omega)
          · obtain ⟨M2, U2, c2, rfl⟩ := hI
            obtain ⟨p1, p2, p3, p4, _, _⟩ := H.su c2
            rw [gt, p2, if_pos (by omega)]
            cases q : (b1 && (r.take k).all (fun o => !gleB (d o) (d x))) with
            | false =>
              rw [if_pos rb_f, gt, U2.1]
              refine fin false m2 M2 U2 c2 ?_
              rw [ga, hb1]
              cases b1
              · rfl
              · rw [Bool.true_and] at q ⊢
                exact (all_take q).symm
            | true =>
              have e := p4 k hk
              have rk := hb _ (List.mem_append_right l (List.getElem_mem hk))
              rw [if_neg (by decide), ldI_ok (len := 4000) rfl (by omega), e]
              refine ok_cal (atMost_ok hn (R.su c2) M2 rk hx) (fun v m3 hq => ?_)
              obtain ⟨rfl, M3, c3⟩ := hq
              have c3' : Ch SU m2 m3 := c3.weak (fun a i => SP_SU)
              have U3 := U2.ext (m' := m3) (fun a i z => c3.2 a i (by unfold SP; omega))
              rw [w32_s (by omega)]
              have step : ∀ c : Int, (c = b2i (!gleB (d r[k]) (d x))) → Ok (w c ((0 + (k + 1) : Nat) : Int) m3) (fun v m' => v = b2i (gleB (d x) (MK d l r)) ∧ MP m' N d ∧ HU m' N d (MK d l r) s ∧ Ch SU m m') := by
                intro c hc
                refine hw c m3 ⟨M3, U3, c2.tr c3', ?_⟩
                rw [hc, take_s hk, List.all_append, ← Bool.and_assoc, q, Bool.true_and]
                simp
              exact un_not _ (fun h => step 1 (by rw [h]; rfl)) (fun h => step 0 (by rw [h]; rfl))
          · obtain ⟨M2, U2, c2, rfl⟩ := hI
            obtain ⟨p1, p2, p3, p4, _, _⟩ := H.su c2
            rw [gt, p2, if_neg (by omega), List.take_length, gt, U2.1, ← hb1, ← ga]
            exact fin _ m2 M2 U2 c2 rfl
        rw [ldI_ok (len := 16000) rfl (by omega), g1]
        refine ok_row2 (s := st x) (k := 0) (lo x).length (fun k a m2 => MP m2 N d ∧ HU m2 N d (MK d l r) s ∧ Ch SU m m2 ∧ a = b2i (((lo x).take k).all (fun o => !gleB (MK d l r) (d o)))) (fun w k a m2 hk hI hw => ?_) (fun w a m2 hI => ?_) n 1 m (Nat.zero_le _) ⟨M, U, Ch.rf _ _, rfl⟩ (by omega)
        · obtain ⟨M2, U2, c2, rfl⟩ := hI
          rw [ldI_ok (len := 16000) rfl (by omega), RC c2 104 x (by decide) (by decide), g2, if_pos (by omega)]
          cases q : ((lo x).take k).all (fun o => !gleB (MK d l r) (d o)) with
          | false =>
            rw [if_pos rb_f]
            exact loop2 false m2 M2 U2 c2 (all_take q)
          | true =>
            have e := g4.left k hk
            have ok := R.lt hx (List.mem_append_left (ro x) (List.getElem_mem hk))
            have bo : bd (d (lo x)[k]) < bd (d x) := bd_op (w := 0) (by decide) ((R.opL hx).mpr ⟨_, List.getElem_mem hk, rfl⟩)
            rw [if_neg (by decide), ldI_ok (len := 240000) rfl (by omega), RC c2 102 _ (by decide) (by decide), e]
            refine ok_cal (ih1 _ m2 (R.su c2) M2 (H.su c2) U2 (by omega) (by omega)) (fun v m3 hq => ?_)
            obtain ⟨rfl, M3, U3, c3⟩ := hq
            rw [w32_s (by omega)]
            have step : ∀ c : Int, (c = b2i (!gleB (MK d l r) (d (lo x)[k]))) → Ok (w c ((st x + (k + 1) : Nat) : Int) m3) (fun v m' => v = b2i (gleB (d x) (MK d l r)) ∧ MP m' N d ∧ HU m' N d (MK d l r) s ∧ Ch SU m m') := by
              intro c hc
              refine hw c m3 ⟨M3, U3, c2.tr c3, ?_⟩
              rw [hc, take_s hk, List.all_append, q, Bool.true_and]
              simp
            exact un_not _ (fun h => step 1 (by rw [h]; rfl)) (fun h => step 0 (by rw [h]; rfl))
        · obtain ⟨M2, U2, c2, rfl⟩ := hI
          rw [ldI_ok (len := 16000) rfl (by omega), RC c2 104 x (by decide) (by decide), g2, if_neg (by omega), List.take_length]
          exact loop2 _ m2 M2 U2 c2 rfl
theorem isUnder_ok {l r : List Nat} {s x : Nat} {m : Mem} (hn : 3000 < n) (hb : ∀ o, o ∈ l ++ r → o < N) (R : RT m N P lo ro st d F) (M : MP m N d) (H : Hd m l r) (U : HU m N d (MK d l r) s) (hx : x < N) : Ok (f_X11_isUnder n (x : Int) m) (fun v m' => v = b2i (gleB (d x) (MK d l r)) ∧ MP m' N d ∧ HU m' N d (MK d l r) s ∧ Ch SU m m') := (under_all hn hb 100).2 x m R M H U hx (by have := R.bd hx; omega)
theorem isOver_ok {l r : List Nat} {s x : Nat} {m : Mem} (hn : 3000 < n) (hb : ∀ o, o ∈ l ++ r → o < N) (R : RT m N P lo ro st d F) (M : MP m N d) (H : Hd m l r) (U : HU m N d (MK d l r) s) (hx : x < N) : Ok (f_X11_isOver n (x : Int) m) (fun v m' => v = b2i (gleB (MK d l r) (d x)) ∧ MP m' N d ∧ HU m' N d (MK d l r) s ∧ Ch SU m m') := (under_all hn hb 100).1 x m R M H U hx (by have := R.bd hx; omega)
end RU
