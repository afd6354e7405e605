/-! A GAME'S ROWS ARE SORTED, AND THOSE OF ALL THAT FOLLOWS -/
theorem fits_128 {K : Nat} (h : K ∈ BF) : (wd K).length ≤ 128 := by
  obtain ⟨s, _, rfl⟩ := List.mem_map.mp h
  have := (fits_nG s.1 s.2).2
  omega
section SO
variable {n N P : Nat} {st d : Nat → Nat}
/-- new rows, the same options -/
theorem RT.rows {m m' : Mem} {lo ro : Nat → List Nat} {F : List Nat} {g : Nat} {l r : List Nat} (R : RT m N P lo ro st d F) (hg : g < N) (pl : l.Perm (lo g)) (pr : r.Perm (ro g)) (hrow : Row m' 102 (st g) (l ++ r)) (c : ∀ a i, RCe a i → ¬ (a = 102 ∧ st g ≤ i ∧ i < st g + (lo g ++ ro g).length) → mGet m' a i = mGet m a i) : RT m' N P (fun x => if x = g then l else lo x) (fun x => if x = g then r else ro x) st d F := by
  obtain ⟨⟨h1, h2, h3, h4⟩, h5, h6, h7, h8, h9, h10⟩ := R
  have ll := pl.length_eq
  have lr := pr.length_eq
  have llr : (l ++ r).length = (lo g ++ ro g).length := by rw [app_len, app_len, ll, lr]
  refine ⟨⟨(c _ _ (Or.inl ⟨rfl, Or.inl rfl⟩) (by omega)).trans h1, (c _ _ (Or.inl ⟨rfl, Or.inr rfl⟩) (by omega)).trans h2, h3, h4⟩, fun x hx => ?_, fun x hx => ?_, h7, h8, fun h hh => ?_, fun x y lt hy => ?_⟩
  · obtain ⟨⟨a1, a2, a3, a4⟩, b, c1, c2, c3, c4, c5⟩ := h5 x hx
    have q : ∀ a i, 103 ≤ a → a ≤ 110 → mGet m' a i = mGet m a i := fun a i z1 z2 => c a i (Or.inr (Or.inl ⟨by omega, z2⟩)) (by omega)
    have at1 : AT1 m' x (d x) := ⟨(q _ _ (by decide) (by decide)).trans c1, (q _ _ (by decide) (by decide)).trans c2, (q _ _ (by decide) (by decide)).trans c3, (q _ _ (by decide) (by decide)).trans c4, by rw [q _ _ (by decide) (by decide)]; exact c5⟩
    by_cases e : x = g
    · subst e
      simp only [↓reduceIte]
      refine ⟨⟨(q _ _ (by decide) (by decide)).trans a1, ?_, ?_, hrow⟩, by rw [llr]; exact b, at1⟩
      · rw [q _ _ (by decide) (by decide), a2, ll]
      · rw [q _ _ (by decide) (by decide), a3, llr]
    · simp only [if_neg e]
      refine ⟨⟨(q _ _ (by decide) (by decide)).trans a1, (q _ _ (by decide) (by decide)).trans a2, (q _ _ (by decide) (by decide)).trans a3, a4.ext (fun k hk => c _ _ (Or.inr (Or.inl ⟨by decide, by decide⟩)) (fun z => ?_))⟩, b, at1⟩
      rcases Nat.lt_or_ge x g with lt | ge
      · have := h10 x g lt hg
        omega
      · have := h10 g x (by omega) hx
        omega
  · obtain ⟨b1, b2, b3, b4, b5, b6⟩ := h6 x hx
    by_cases e : x = g
    · subst e
      simp only [↓reduceIte]
      refine ⟨pl.nodup_iff.mpr b1, pr.nodup_iff.mpr b2, fun o ho => b3 o ?_, ?_, b5, b6⟩
      · rcases List.mem_append.mp ho with h | h
        · exact List.mem_append_left _ (pl.mem_iff.mp h)
        · exact List.mem_append_right _ (pr.mem_iff.mp h)
      · rw [b4]
        exact MK_ext (fun z => ⟨fun ⟨o, a, b⟩ => ⟨o, pl.mem_iff.mpr a, b⟩, fun ⟨o, a, b⟩ => ⟨o, pl.mem_iff.mp a, b⟩⟩) (fun z => ⟨fun ⟨o, a, b⟩ => ⟨o, pr.mem_iff.mpr a, b⟩, fun ⟨o, a, b⟩ => ⟨o, pr.mem_iff.mp a, b⟩⟩)
    · simp only [if_neg e]
      exact ⟨b1, b2, b3, b4, b5, b6⟩
  · obtain ⟨L, a, b, c1, c2⟩ := h9 h hh
    refine ⟨L, ?_, b, c1, fun x hx e => c2 x hx ?_⟩
    · rw [c 114 h (Or.inr (Or.inr (Or.inl rfl))) (by omega)]
      exact a.ext (fun x _ => c 115 x (Or.inr (Or.inr (Or.inr rfl))) (by omega))
    · by_cases q : x = g
      · subst q
        simp only [↓reduceIte] at e
        rw [hs_perm pl.symm pr.symm]
        exact e
      · simp only [if_neg q] at e
        exact e
  · have := h10 x y lt hy
    by_cases q : x = g
    · subst q
      simp only [↓reduceIte, llr]
      exact this
    · simp only [if_neg q]
      exact this
def SSo (a i : Nat) : Prop := SAh a i ∨ a = 102 ∨ a = 111
theorem sorts_ok (hn : 300000 < n) : ∀ (D g : Nat) (lo ro : Nat → List Nat) (m : Mem), RT m N P lo ro st d BF → SrF m N lo ro d → (∀ x, x < N → mGet m 111 x = 0 ∨ mGet m 111 x = 1) → g < N → bd (d g) + 1 ≤ D → Ok (h_X11_sorts n D (g : Int) m) (fun _ m' => ∃ lo' ro' : Nat → List Nat, RT m' N P lo' ro' st d BF ∧ SrF m' N lo' ro' d ∧ (∀ x, x < N → mGet m' 111 x = 0 ∨ mGet m' 111 x = 1) ∧ mGet m' 111 g = 1 ∧ (∀ x, mGet m 111 x = 1 → mGet m' 111 x = 1) ∧ (∀ x, g < x → lo' x = lo x ∧ ro' x = ro x ∧ mGet m' 111 x = mGet m 111 x) ∧ Ch SSo m m')
  | 0, _, _, _, _, _, _, _, _, hD => by omega
  | D + 1, g, lo, ro, m, R, S, fl, hg, hD => by
    have N2 := R.nn
    have P8 := R.pp
    have len := R.len hg
    obtain ⟨⟨g1, g2, g3, g4⟩, gP, _⟩ := R.2.1 g hg
    have lng := app_len (lo g) (ro g)
    rw [h_X11_sorts_s]
    unfold b_X11_sorts
    rw [ldZ_ok (len := 16000) rfl (by omega)]
    rcases fl g hg with f0 | f1
    · rw [if_pos f0, ldI_ok (len := 16000) rfl (by omega), g1]
      refine ok_row1 (s := st g) (k := 0) (lo g ++ ro g).length (fun k m2 => ∃ lo' ro' : Nat → List Nat, RT m2 N P lo' ro' st d BF ∧ SrF m2 N lo' ro' d ∧ (∀ x, x < N → mGet m2 111 x = 0 ∨ mGet m2 111 x = 1) ∧ (∀ o, o ∈ (lo g ++ ro g).take k → mGet m2 111 o = 1) ∧ (∀ x, mGet m 111 x = 1 → mGet m2 111 x = 1) ∧ (∀ x, g ≤ x → lo' x = lo x ∧ ro' x = ro x ∧ mGet m2 111 x = mGet m 111 x) ∧ Ch SSo m m2) (fun w k m2 hk hI hw => ?_) (fun w m2 hI => ?_) n m (Nat.zero_le _) ⟨lo, ro, R, S, fl, (fun o ho => by cases ho), fun x h => h, fun x _ => ⟨rfl, rfl, rfl⟩, Ch.rf _ _⟩ (by omega)
      · obtain ⟨lo', ro', R2, S2, fl2, a2, m2', u2, c2⟩ := hI
        obtain ⟨⟨g1', g2', g3', g4'⟩, _, _⟩ := R2.2.1 g hg
        obtain ⟨e1, e2, _⟩ := u2 g (Nat.le_refl _)
        rw [e1, e2] at g3' g4'
        have oM := List.getElem_mem hk
        have oL := R.lt hg oM
        obtain ⟨w', hw', q'⟩ := R.opx hg oM
        have bo := bd_op hw' q'
        rw [ldI_ok (len := 16000) rfl (by omega), g3', if_pos (by omega), ldI_ok (len := 240000) rfl (by omega), g4' k hk]
        refine ok_cal (sorts_ok hn D (lo g ++ ro g)[k] lo' ro' m2 R2 S2 fl2 (by omega) (by omega)) (fun _ m3 hq => ?_)
        obtain ⟨lo3, ro3, R3, S3, fl3, o1, m3', u3, c3⟩ := hq
        rw [w32_s (by omega)]
        refine hw m3 ⟨lo3, ro3, R3, S3, fl3, fun o ho => ?_, fun x h => m3' x (m2' x h), fun x hx => ?_, c2.tr c3⟩
        · rw [take_s hk] at ho
          rcases List.mem_append.mp ho with h | h
          · exact m3' o (a2 o h)
          · rw [List.mem_singleton.mp h]; exact o1
        · obtain ⟨p1, p2, p3⟩ := u3 x (by omega)
          obtain ⟨p4, p5, p6⟩ := u2 x hx
          exact ⟨p1.trans p4, p2.trans p5, p3.trans p6⟩
      · obtain ⟨lo', ro', R2, S2, fl2, a2, m2', u2, c2⟩ := hI
        rw [List.take_length] at a2
        obtain ⟨⟨g1', g2', g3', g4'⟩, _, _⟩ := R2.2.1 g hg
        obtain ⟨e1, e2, e3⟩ := u2 g (Nat.le_refl _)
        rw [e1, e2] at g3' g4'
        rw [e1] at g2'
        obtain ⟨b1, b2, b3, b4, b5, b6⟩ := R2.2.2.1 g hg
        rw [e1] at b1
        rw [e2] at b2
        have inj := R2.2.2.2.1
        have lt : ∀ o, o ∈ lo g ++ ro g → o < g := fun o ho => R.lt hg ho
        have BFo : ∀ o, o < N → d o ∈ BF := fun o ho => (R2.2.2.1 o ho).2.2.2.2.2
        have h9 : ∀ x, x ∈ BF → bd x ≤ 9 := fun x hx => by have := BF_bd hx; omega
        have ndw : ∀ L : List Nat, L.Nodup → (∀ o, o ∈ L → o < N) → (L.map (fun o => wd (d o))).Nodup := fun L nd hb => nodup_mapW nd (fun x hx y hy e => inj x y (hb x hx) (hb y hy) (wd_inj (R2.can (hb x hx)) (R2.can (hb y hy)) (h9 _ (BFo x (hb x hx))) (h9 _ (BFo y (hb y hy))) e))
        have stab : ∀ m3, (∀ a i, (a = 102 ∧ i < st g) ∨ (103 ≤ a ∧ a ≤ 111) → mGet m3 a i = mGet m2 a i) → GA m3 g lo' ro' st d ∧ SrF m3 g lo' ro' d := fun m3 h => by
          constructor
          · exact (R2.ga (B := g) (by omega)).ext (P := st g) (fun x hx => R2.2.2.2.2.2.2 x g hx hg) (fun a i z => h a i (by omega))
          · intro x hx x1
            rw [h 111 x (by omega)] at x1
            obtain ⟨p, q, r⟩ := S2 x (by omega) x1
            exact ⟨p, q, fun o ho => (h 111 o (by omega)).trans (r o ho)⟩
        rw [ldI_ok (len := 16000) rfl (by omega), g3', if_neg (by omega), ldI_ok (len := 16000) rfl (by omega), ldI_ok (len := 16000) rfl (by omega), g1', g2']
        refine ok_cal (sortsRow_ok (B := g) (len := 240000) hn h9 R2 (by omega) (Or.inl ⟨rfl, rfl⟩) (by omega) g4'.left (fun x hx => ⟨lt x (List.mem_append_left _ hx), a2 x (List.mem_append_left _ hx), fits_128 (BFo x (by have := lt x (List.mem_append_left _ hx); omega))⟩) (ndw _ b1 (fun o ho => by have := lt o (List.mem_append_left _ ho); omega)) (fun m3 c3 => stab m3 (fun a i z => c3.2 a i (by unfold SQ SAh; omega)))) (fun _ m3 hq => ?_)
        obtain ⟨L', pL, rL, sL, c3⟩ := hq
        have u3 : ∀ a i, ¬ SQ 102 (st g) (st g + (lo g).length) a i → mGet m3 a i = mGet m2 a i := c3.2
        rw [ldI_ok (len := 16000) rfl (by omega), ldI_ok (len := 16000) rfl (by omega), u3 _ _ (by unfold SQ SAh; omega), u3 _ _ (by unfold SQ SAh; omega), g2', g3', lng, ← Nat.add_assoc]
        have nd2 := ndw _ b2 (fun o ho => by have := lt o (List.mem_append_right _ ho); omega)
        have row3 : Row m3 102 (st g + (lo g).length) (ro g) := g4'.right.ext (fun k hk => u3 _ _ (by unfold SQ SAh; omega))
        refine ok_cal (sortsRow_ok (B := g) (len := 240000) (p := st g + (lo g).length) (L := ro g) hn h9 R2 (by omega) (Or.inl ⟨rfl, rfl⟩) (by omega) row3 (fun x hx => ⟨lt x (List.mem_append_right _ hx), (u3 _ _ (by unfold SQ SAh; omega)).trans (a2 x (List.mem_append_right _ hx)), fits_128 (BFo x (by have := lt x (List.mem_append_right _ hx); omega))⟩) nd2 (fun m4 c4 => stab m4 (fun a i z => (c4.2 a i (by unfold SQ SAh; omega)).trans (u3 a i (by unfold SQ SAh; omega))))) (fun _ m4 hq => ?_)
        obtain ⟨R', pR, rR, sR, c4⟩ := hq
        have u4 : ∀ a i, ¬ SQ 102 (st g + (lo g).length) (st g + (lo g).length + (ro g).length) a i → mGet m4 a i = mGet m3 a i := c4.2
        have lL := pL.length_eq
        have lR := pR.length_eq
        rw [stZ_ok (len := 16000) rfl (by omega) (Or.inr rfl)]
        obtain ⟨m5, e5⟩ : ∃ m5, m5 = mSet m4 111 g 1 := ⟨_, rfl⟩
        rw [← e5]
        have g5 : ∀ a i, mGet m5 a i = if a = 111 ∧ i = g then 1 else mGet m4 a i := fun a i => by rw [e5, mGet_mSet]; rfl
        have rowLR : Row m5 102 (st g) (L' ++ R') := by
          refine Row.glue (rL.ext (fun k hk => ?_)) ?_
          · rw [g5, if_neg (by omega), u4 _ _ (by unfold SQ SAh; omega)]
          · rw [lL]
            exact rR.ext (fun k hk => by rw [g5, if_neg (by omega)])
        have R5 := R2.rows (m' := m5) (g := g) (l := L') (r := R') hg (by rw [e1]; exact pL) (by rw [e2]; exact pR) rowLR (fun a i z z2 => by
          rw [e1, e2] at z2
          unfold RCe at z
          rw [g5, if_neg (by omega), u4 _ _ (by unfold SQ SAh; omega), u3 _ _ (by unfold SQ SAh; omega)])
        have u5 : ∀ i, i ≠ g → mGet m5 111 i = mGet m2 111 i := fun i hi => by rw [g5, if_neg (by omega), u4 _ _ (by unfold SQ SAh; omega), u3 _ _ (by unfold SQ SAh; omega)]
        have one : ∀ i, mGet m2 111 i = 1 → mGet m5 111 i = 1 := fun i hi => by
          by_cases q : i = g
          · rw [q, g5, if_pos ⟨rfl, rfl⟩]
          · rw [u5 i q]; exact hi
        refine ok_rt ⟨_, _, R5, fun x hx x1 => ?_, fun x hx => ?_, by rw [g5, if_pos ⟨rfl, rfl⟩], fun x h => one x (m2' x h), fun x hx => ?_, ?_⟩
        · by_cases q : x = g
          · subst q
            simp only [↓reduceIte]
            refine ⟨sL, sR, fun o ho => one o (a2 o ?_)⟩
            rcases List.mem_append.mp ho with h | h
            · exact List.mem_append_left _ (pL.mem_iff.mp h)
            · exact List.mem_append_right _ (pR.mem_iff.mp h)
          · simp only [if_neg q]
            rw [u5 x q] at x1
            obtain ⟨p, q2, r⟩ := S2 x hx x1
            exact ⟨p, q2, fun o ho => one o (r o ho)⟩
        · by_cases q : x = g
          · subst q; rw [g5, if_pos ⟨rfl, rfl⟩]; exact Or.inr rfl
          · rw [u5 x q]; exact fl2 x hx
        · obtain ⟨p4, p5, p6⟩ := u2 x (by omega)
          simp only [if_neg (show ¬ x = g by omega)]
          exact ⟨p4, p5, (u5 x (by omega)).trans p6⟩
        · refine ((c2.tr (c3.weak (fun a i z => ?_))).tr (c4.weak (fun a i z => ?_))).tr (by rw [e5]; exact Ch.set (Or.inr (Or.inr rfl)))
          · unfold SQ SAh at z; unfold SSo SAh; omega
          · unfold SQ SAh at z; unfold SSo SAh; omega
    · rw [if_neg (by omega)]
      exact ok_rt ⟨lo, ro, R, S, fl, f1, fun x h => h, fun x _ => ⟨rfl, rfl, rfl⟩, Ch.rf _ _⟩
end SO
