/-! GAMES BY THEIR WORDS -/
theorem lexlt_cons (a b : Nat) (s t : List Nat) : lexlt (a :: s) (b :: t) = (decide (a < b) || (decide (a = b) && lexlt s t)) := rfl
def SAh (a i : Nat) : Prop := a = 127 ∨ a = 128 ∨ (a = 100 ∧ i = 35)
section AH
variable {n N P : Nat} {lo ro : Nat → List Nat} {st d : Nat → Nat} {F : List Nat}
theorem isAhead_ok {m0 : Mem} {B x y : Nat} {m : Mem} (hn : 3000 < n) (h9 : ∀ x, x ∈ F → bd x ≤ 9) (R0 : RT m0 N P lo ro st d F) (hB : B ≤ N) (R : GA m B lo ro st d) (S : SrF m B lo ro d) (hx : x < B) (hy : y < B) (x1 : mGet m 111 x = 1) (y1 : mGet m 111 y = 1) (lx : (wd (d x)).length ≤ 128) (ly : (wd (d y)).length ≤ 128) : Ok (f_X11_isAhead n (x : Int) (y : Int) m) (fun v m' => v = b2i (wlt (wd (d x)) (wd (d y))) ∧ Ch SAh m m') := by
  have N2 := R0.nn
  have bx : mGet m 109 x = ((wd (d x)).length : Int) := by
    have := (R x hx).2.2.2.2.1
    unfold bl at this
    rw [this, Nat.min_eq_left (by omega)]
  have bY : mGet m 109 y = ((wd (d y)).length : Int) := by
    have := (R y hy).2.2.2.2.1
    unfold bl at this
    rw [this, Nat.min_eq_left (by omega)]
  unfold f_X11_isAhead
  rw [ldI_ok (len := 16000) rfl (by omega), ldI_ok (len := 16000) rfl (by omega), bx, bY]
  obtain ⟨W, eW⟩ : ∃ W, W = wd (d x) := ⟨_, rfl⟩
  obtain ⟨V, eV⟩ : ∃ V, V = wd (d y) := ⟨_, rfl⟩
  rw [← eW, ← eV]
  rw [← eW] at lx
  rw [← eV] at ly
  by_cases q : W.length = V.length
  · rw [if_pos (by omega)]
    have wl : wlt W V = lexlt W V := by
      unfold wlt
      rw [decide_eq_false (show ¬ W.length < V.length by omega), decide_eq_true q, Bool.false_or, Bool.true_and]
    refine ok_cal (spells_ok hn h9 R0 hB R S hx x1 (by rw [← eW]; omega)) (fun _ m2 w2 => ?_)
    rw [← eW] at w2
    have cW : Ch SAh m m2 := w2.2.2.weak (fun a i z => by unfold CT at z; unfold SAh; omega)
    -- the words are laid aside
    refine ok_up1 (i := 0) W.length (fun k m3 => Ch SAh m m3 ∧ mGet m3 100 35 = (W.length : Int) ∧ Row m3 127 0 W ∧ ∀ j, (hj : j < W.length) → j < k → mGet m3 128 j = (W[j] : Int)) (fun w k m3 hk hI hw => ?_) (fun w m3 hI => ?_) n m2 (Nat.zero_le _) ⟨cW, by rw [w2.1, Nat.zero_add], w2.2.1, fun j _ h => absurd h (Nat.not_lt_zero _)⟩ (by omega)
    · obtain ⟨c3, l3, r3, k3⟩ := hI
      have e := r3 k hk
      rw [Nat.zero_add] at e
      rw [gtF_eq, l3, if_pos (by omega), ldI_ok (len := 128) rfl (by omega), e, stI_ok (len := 128) rfl (by omega), w32_1 (by omega)]
      obtain ⟨m4, e4⟩ : ∃ m4, m4 = mSet m3 128 k (W[k] : Int) := ⟨_, rfl⟩
      rw [← e4]
      have inr : w32 (W[k] : Int) = (W[k] : Int) := by rw [← e]; exact w32_in (inR_mGet m3 127 k)
      have g4 : ∀ a i, mGet m4 a i = if a = 128 ∧ i = k then (W[k] : Int) else mGet m3 a i := fun a i => by rw [e4, mGet_mSet, inr]
      refine hw m4 ⟨c3.tr (by rw [e4]; exact Ch.set (Or.inr (Or.inl rfl))), by rw [g4, if_neg (by omega)]; exact l3, r3.ext (fun j hj => by rw [g4, if_neg (by omega)]), fun j hj h => ?_⟩
      rw [g4]
      by_cases z : j = k
      · subst z; rw [if_pos ⟨rfl, rfl⟩]
      · rw [if_neg (by omega)]; exact k3 j hj (by omega)
    · obtain ⟨c3, l3, r3, k3⟩ := hI
      rw [gtF_eq, l3, if_neg (by omega)]
      have u3 : ∀ a i, ¬ SAh a i → mGet m3 a i = mGet m a i := c3.2
      have R3 : GA m3 B lo ro st d := R.ext (P := P) (fun g hg => (R0.2.1 g (by omega)).2.1) (fun a i z => u3 a i (by unfold SAh; omega))
      refine ok_cal (spells_ok hn h9 R0 hB R3 (S.ext (fun i => u3 _ _ (by unfold SAh; omega))) hy ((u3 _ _ (by unfold SAh; omega)).trans y1) (by rw [← eV]; omega)) (fun _ m4 w4 => ?_)
      rw [← eV] at w4
      have c4 : Ch SAh m m4 := c3.tr (w4.2.2.weak (fun a i z => by unfold CT at z; unfold SAh; omega))
      have l4 : mGet m4 100 35 = (V.length : Int) := by rw [w4.1, Nat.zero_add]
      have k4 : ∀ j, (hj : j < W.length) → mGet m4 128 j = (W[j] : Int) := fun j hj => (w4.2.2.2 _ _ (by unfold CT; omega)).trans (k3 j hj hj)
      have v4 : ∀ j, (hj : j < V.length) → mGet m4 127 j = (V[j] : Int) := fun j hj => by
        have := w4.2.1 j hj
        rw [Nat.zero_add] at this
        exact this
      refine ok_up1 (i := 0) V.length (fun k m5 => m5 = m4 ∧ lexlt W V = lexlt (W.drop k) (V.drop k)) (fun w k m5 hk hI hw => ?_) (fun w m5 hI => ?_) n m4 (Nat.zero_le _) ⟨rfl, rfl⟩ (by omega)
      · obtain ⟨rfl, hl⟩ := hI
        have hkW : k < W.length := by omega
        rw [List.drop_eq_getElem_cons hkW, List.drop_eq_getElem_cons hk] at hl
        rw [lexlt_cons] at hl
        rw [gtF_eq, l4]
        refine ok_jn ?_
        rw [if_pos (by omega), ldI_ok (len := 128) rfl (by omega), ldI_ok (len := 128) rfl (by omega), k4 k hkW, v4 k hk]
        by_cases z : W[k] = V[k]
        · rw [if_pos (by omega), w32_1 (by omega)]
          refine hw m5 ⟨rfl, ?_⟩
          rw [decide_eq_false (show ¬ W[k] < V[k] by omega), decide_eq_true z, Bool.false_or, Bool.true_and] at hl
          exact hl
        · rw [if_neg (by omega)]
          rw [decide_eq_false z, Bool.false_and, Bool.or_false] at hl
          show Ok (gtF m5 100 35 _) _
          rw [gtF_eq, l4]
          refine ok_jn ?_
          refine ok_jn ?_
          rw [if_pos (by omega), ldI_ok (len := 128) rfl (by omega), ldI_ok (len := 128) rfl (by omega), k4 k hkW, v4 k hk]
          by_cases z2 : W[k] < V[k]
          · rw [if_pos (by omega)]
            rw [decide_eq_true z2] at hl
            refine ok_rtZ (Or.inr rfl) ⟨?_, c4⟩
            rw [wl, hl]; rfl
          · rw [if_neg (by omega)]
            rw [decide_eq_false z2] at hl
            refine ok_rtZ (Or.inl rfl) ⟨?_, c4⟩
            rw [wl, hl]; rfl
      · obtain ⟨rfl, hl⟩ := hI
        rw [gtF_eq, l4]
        refine ok_jn ?_
        rw [if_neg (by omega)]
        show Ok (gtF m5 100 35 _) _
        rw [gtF_eq, l4]
        refine ok_jn ?_
        refine ok_jn ?_
        rw [if_neg (by omega)]
        refine ok_rtZ (Or.inl rfl) ⟨?_, c4⟩
        rw [← q, List.drop_length] at hl
        rw [wl, hl]
        cases (V.drop W.length) <;> rfl
  · rw [if_neg (by omega), ldI_ok (len := 16000) rfl (by omega), ldI_ok (len := 16000) rfl (by omega), bx, bY, ← eW, ← eV]
    have wl : wlt W V = decide (W.length < V.length) := by
      unfold wlt
      rw [decide_eq_false q, Bool.false_and, Bool.or_false]
    refine ok_jn ?_
    by_cases z : W.length < V.length
    · rw [if_pos (by omega)]
      refine ok_rtZ (Or.inr rfl) ⟨?_, Ch.rf _ _⟩
      rw [wl, decide_eq_true z]; rfl
    · rw [if_neg (by omega)]
      refine ok_rtZ (Or.inl rfl) ⟨?_, Ch.rf _ _⟩
      rw [wl, decide_eq_false z]; rfl
/-- a row is sorted -/
def SQ (c p e a i : Nat) : Prop := SAh a i ∨ (a = c ∧ p ≤ i ∧ i < e)
theorem sortsRow_ok {m0 : Mem} {B c p len : Nat} {m : Mem} {L : List Nat} (hn : 300000 < n) (h9 : ∀ x, x ∈ F → bd x ≤ 9) (R0 : RT m0 N P lo ro st d F) (hB : B ≤ N) (hc2 : c = 102 ∧ len = 240000 ∨ c = 134 ∧ len = 200) (hL : p + L.length ≤ len) (hrow : Row m c p L) (hLx : ∀ x, x ∈ L → x < B ∧ mGet m 111 x = 1 ∧ (wd (d x)).length ≤ 128) (nd : (L.map (fun o => wd (d o))).Nodup) (stab : ∀ m2, Ch (SQ c p (p + L.length)) m m2 → GA m2 B lo ro st d ∧ SrF m2 B lo ro d) : Ok (f_X11_sortsRow n c (p : Int) ((p + L.length : Nat) : Int) m) (fun _ m' => ∃ L', L'.Perm L ∧ Row m' c p L' ∧ Srt (L'.map (fun o => wd (d o))) ∧ Ch (SQ c p (p + L.length)) m m') := by
  have N2 := R0.nn
  have kc : ∀ m1 : Mem, sKind m1 c = (1, len) := fun m1 => by rcases hc2 with ⟨rfl, rfl⟩ | ⟨rfl, rfl⟩ <;> rfl
  have l24 : len ≤ 240000 := by omega
  obtain ⟨w, ew⟩ : ∃ w : Nat → List Nat, w = fun o => wd (d o) := ⟨_, rfl⟩
  rw [← ew] at nd ⊢
  unfold f_X11_sortsRow
  refine ok_nm ?_
  rw [w32_1 (by omega)]
  refine ok_row1 (s := p + 1) (k := 0) (L.length - 1) (fun k m2 => ∃ S, S.Perm (L.take (k + 1)) ∧ Srt (S.map w) ∧ Row m2 c p S ∧ Row m2 c (p + S.length) (L.drop (k + 1)) ∧ Ch (SQ c p (p + L.length)) m m2) (fun lw k m2 hk hI hw => ?_) (fun lw m2 hI => ?_) n m (Nat.zero_le _) ?_ (by omega)
  · obtain ⟨S, pS, sS, rS, rD, c2⟩ := hI
    have lS : S.length = k + 1 := by rw [pS.length_eq, List.length_take]; omega
    have hk1 : k + 1 < L.length := by omega
    have dS : L.drop (k + 1) = L[k + 1] :: L.drop (k + 2) := List.drop_eq_getElem_cons hk1
    obtain ⟨x, ex⟩ : ∃ x, x = L[k + 1] := ⟨_, rfl⟩
    rw [← ex] at dS
    have xL : x ∈ L := by rw [ex]; exact List.getElem_mem hk1
    obtain ⟨xB, x1, x8⟩ := hLx x xL
    have sL : ∀ s, s ∈ S → s ∈ L := fun s hs => List.mem_of_mem_take ((pS.mem_iff).mp hs)
    have e0 : mGet m2 c (p + 1 + k) = (x : Int) := by
      have := rD 0 (by rw [dS]; exact Nat.zero_lt_succ _)
      simp only [dS, List.getElem_cons_zero] at this
      rw [lS] at this
      rw [show p + 1 + k = p + (k + 1) + 0 by omega]
      exact this
    rw [if_pos (by omega), ldI_ok (kc _) (by omega), e0]
    -- x differs from all that are sorted
    have dif : ∀ s, s ∈ S → w s ≠ w x := fun s hs e => by
      have h1 : s ∈ L.take (k + 1) := (pS.mem_iff).mp hs
      obtain ⟨i, hi, ei⟩ := List.mem_iff_getElem.mp h1
      rw [List.length_take] at hi
      rw [List.getElem_take] at ei
      have h2 : (L.map w)[i]'(by rw [List.length_map]; omega) = (L.map w)[k + 1]'(by rw [List.length_map]; omega) := by
        rw [List.getElem_map, List.getElem_map, ei, ← ex]
        exact e
      exact (List.pairwise_iff_getElem.mp nd) i (k + 1) _ _ (by omega) h2
    refine ok_lpG (fun μ v m3 => v = ((p + μ : Nat) : Int) ∧ μ ≤ S.length ∧ Row m3 c p (S.take μ) ∧ Row m3 c (p + μ + 1) (S.drop μ) ∧ Row m3 c (p + k + 2) (L.drop (k + 2)) ∧ (∀ s, s ∈ S.drop μ → wlt (w x) (w s) = true) ∧ Ch (SQ c p (p + L.length)) m m3) (fun w2 μ v m3 hJ hw2 => ?_) n (k + 1) _ m2 ⟨by rw [show p + 1 + k = p + (k + 1) by omega], by omega, ?_, ?_, ?_, ?_, c2⟩ (by omega)
    · obtain ⟨rfl, lμ, r1, r2, r3, gt, c3⟩ := hJ
      -- x is put in its place
      have nc : ∀ i, ¬ SAh c i := fun i => by unfold SAh; omega
      have put : ∀ m3' : Mem, Ch SAh m3 m3' → (∀ s, s ∈ S.take μ → wlt (w s) (w x) = true) → Ok (stI m3' c ((p + μ : Nat) : Int) (x : Int) fun m63 => lw (w32 (((p + 1 + k : Nat) : Int) + 1)) m63) (fun _ m' => ∃ L', L'.Perm L ∧ Row m' c p L' ∧ Srt (L'.map w) ∧ Ch (SQ c p (p + L.length)) m m') := fun m3' c3' lt => by
        rw [stI_ok (kc _) (by omega), w32_s (by omega)]
        obtain ⟨m4, e4⟩ : ∃ m4, m4 = mSet m3' c (p + μ) (x : Int) := ⟨_, rfl⟩
        rw [← e4]
        have g4 : ∀ a i, mGet m4 a i = if a = c ∧ i = p + μ then (x : Int) else mGet m3' a i := fun a i => by rw [e4, mGet_mSet, w32_nat (by omega)]
        have lt1 : (S.take μ).length = μ := by rw [List.length_take]; omega
        have lS2 : (S.take μ ++ x :: S.drop μ).length = k + 2 := by rw [List.length_append, List.length_cons, List.length_drop, lt1]; omega
        refine hw m4 ⟨S.take μ ++ x :: S.drop μ, ?_, ?_, ?_, ?_, (c3.tr (c3'.weak (fun a i z => Or.inl z))).tr (by rw [e4]; exact Ch.set (Or.inr ⟨rfl, by omega, by omega⟩))⟩
        · have h1 : (S.take μ ++ x :: S.drop μ).Perm (x :: (S.take μ ++ S.drop μ)) := List.perm_middle
          rw [List.take_append_drop] at h1
          have h2 : L.take (k + 1 + 1) = L.take (k + 1) ++ [x] := by rw [take_s hk1, ex]
          rw [h2]
          exact (h1.trans (pS.cons x)).trans (List.perm_append_singleton x _).symm
        · unfold Srt at sS ⊢
          rw [List.map_append, List.map_cons, List.pairwise_append, List.pairwise_cons]
          have sS' := sS
          rw [← List.take_append_drop μ S, List.map_append, List.pairwise_append] at sS'
          refine ⟨sS'.1, ⟨fun a ha => ?_, sS'.2.1⟩, fun a ha b hb => ?_⟩
          · obtain ⟨s, hs, rfl⟩ := List.mem_map.mp ha
            exact gt s hs
          · rcases List.mem_cons.mp hb with rfl | hb
            · obtain ⟨s, hs, rfl⟩ := List.mem_map.mp ha
              exact lt s hs
            · exact sS'.2.2 a ha b hb
        · refine Row.glue (r1.ext (fun j hj => by rw [g4, if_neg (by rw [lt1] at hj; omega), c3'.2 _ _ (nc _)])) ?_
          rw [lt1]
          intro j hj
          cases j with
          | zero => rw [g4, if_pos ⟨rfl, by omega⟩]; rfl
          | succ j =>
            rw [g4, if_neg (by omega), c3'.2 _ _ (nc _), show p + μ + (j + 1) = p + μ + 1 + j by omega]
            exact r2 j (by rw [List.length_cons] at hj; omega)
        · rw [lS2, show p + (k + 2) = p + k + 2 by omega]
          exact r3.ext (fun j hj => by rw [g4, if_neg (by omega), c3'.2 _ _ (nc _)])
      refine ok_jn ?_
      cases μ with
      | zero =>
        rw [if_neg (by omega)]
        exact put m3 (Ch.rf _ _) (fun s hs => by cases hs)
      | succ ν =>
        rw [if_pos (by omega)]
        have hν : ν < S.length := by omega
        have tk : S.take (ν + 1) = S.take ν ++ [S[ν]] := take_s hν
        have er : mGet m3 c (p + ν) = (S[ν] : Int) := by
          have := r1 ν (by rw [List.length_take]; omega)
          rw [List.getElem_take] at this
          exact this
        have yL := sL _ (List.getElem_mem hν)
        obtain ⟨yB, y1, y8⟩ := hLx _ yL
        obtain ⟨G3, F3⟩ := stab m3 c3
        have u111 : ∀ i, mGet m3 111 i = mGet m 111 i := fun i => c3.2 _ _ (by unfold SQ SAh; omega)
        rw [show ((p + (ν + 1) : Nat) : Int) - 1 = ((p + ν : Nat) : Int) by omega, w32_nat (by omega), ldI_ok (kc _) (by omega), er]
        refine ok_cal (isAhead_ok (by omega) h9 R0 hB G3 F3 xB yB ((u111 x).trans x1) ((u111 _).trans y1) x8 y8) (fun v m4 hq => ?_)
        obtain ⟨rfl, c4⟩ := hq
        have u4 : ∀ a i, ¬ SAh a i → mGet m4 a i = mGet m3 a i := c4.2
        have c34 : Ch (SQ c p (p + L.length)) m m4 := c3.tr (c4.weak (fun a i z => Or.inl z))
        have ewx : wd (d x) = w x := by rw [ew]
        have ewy : wd (d S[ν]) = w S[ν] := by rw [ew]
        rw [ewx, ewy]
        cases ah : wlt (w x) (w S[ν]) with
        | false =>
          rw [if_pos rb_f]
          refine put m4 c4 (fun s hs => ?_)
          have hy : wlt (w S[ν]) (w x) = true := by
            rcases wlt_tot (dif _ (List.getElem_mem hν)) with h | h
            · exact h
            · rw [ah] at h; cases h
          rw [tk] at hs
          rcases List.mem_append.mp hs with hs | hs
          · have sS' := sS
            have tk2 : S = S.take ν ++ S[ν] :: S.drop (ν + 1) := by
              rw [← List.drop_eq_getElem_cons hν, List.take_append_drop]
            unfold Srt at sS'
            rw [tk2, List.map_append, List.pairwise_append] at sS'
            exact wlt_tr (sS'.2.2 _ (List.mem_map.mpr ⟨s, hs, rfl⟩) _ (by rw [List.map_cons]; exact List.mem_cons_self ..)) hy
          · rw [List.mem_singleton.mp hs]
            exact hy
        | true =>
          rw [if_neg (by decide), ldI_ok (kc _) (by omega), u4 _ _ (nc _), er, stI_ok (kc _) (by omega)]
          obtain ⟨m5, e5⟩ : ∃ m5, m5 = mSet m4 c (p + (ν + 1)) (S[ν] : Int) := ⟨_, rfl⟩
          rw [← e5]
          have g5 : ∀ a i, mGet m5 a i = if a = c ∧ i = p + (ν + 1) then (S[ν] : Int) else mGet m4 a i := fun a i => by rw [e5, mGet_mSet, w32_nat (by omega)]
          rw [show ((p + (ν + 1) : Nat) : Int) + (-1) = ((p + ν : Nat) : Int) by omega, w32_nat (by omega)]
          have dν : S.drop ν = S[ν] :: S.drop (ν + 1) := List.drop_eq_getElem_cons hν
          refine hw2 ν _ m5 (Nat.lt_succ_self _) ⟨rfl, by omega, ?_, ?_, ?_, ?_, c34.tr (by rw [e5]; exact Ch.set (Or.inr ⟨rfl, by omega, by omega⟩))⟩
          · rw [tk] at r1
            exact r1.left.ext (fun j hj => by rw [List.length_take] at hj; rw [g5, if_neg (by omega), u4 _ _ (nc _)])
          · rw [dν]
            intro j hj
            cases j with
            | zero => rw [g5, if_pos ⟨rfl, by omega⟩]; rfl
            | succ j =>
              rw [g5, if_neg (by omega), u4 _ _ (nc _), show p + ν + 1 + (j + 1) = p + (ν + 1) + 1 + j by omega]
              exact r2 j (by rw [List.length_cons] at hj; omega)
          · exact r3.ext (fun j hj => by rw [g5, if_neg (by omega), u4 _ _ (nc _)])
          · rw [dν]
            intro s hs
            rcases List.mem_cons.mp hs with rfl | hs
            · exact ah
            · exact gt s hs
    · rw [← lS, List.take_length]
      exact rS
    · rw [← lS, List.drop_length]
      intro j hj; cases hj
    · have := rD
      rw [dS, lS] at this
      intro j hj
      have h := this (j + 1) (by rw [List.length_cons]; omega)
      rw [show p + (k + 1) + (j + 1) = p + k + 2 + j by omega] at h
      exact h
    · rw [← lS, List.drop_length]
      intro s hs; cases hs
  · obtain ⟨S, pS, sS, rS, rD, c2⟩ := hI
    rw [if_neg (by omega)]
    refine ok_rt ⟨S, ?_, rS, sS, c2⟩
    rw [List.take_of_length_le (by omega)] at pS
    exact pS
  · cases L with
    | nil => exact ⟨[], List.Perm.refl _, List.Pairwise.nil, (fun k hk => by cases hk), (fun k hk => by cases hk), Ch.rf _ _⟩
    | cons a L => exact ⟨[a], List.Perm.refl _, List.pairwise_singleton _ _, fun k hk => by
        have : k = 0 := by simp at hk; omega
        subst this
        exact hrow 0 (Nat.zero_lt_succ _), fun k hk => by
        have h := hrow (k + 1) (by rw [List.length_cons]; simp at hk; omega)
        rw [show p + [a].length + k = p + (k + 1) by simp; omega]
        exact h, Ch.rf _ _⟩
end AH
