/-! THE SCRIBE: all followers, one by one -/
/-- the followers' games in their row -/
def FolD (g : Nat) (d : Nat → Nat) : Prop := (∀ j, j < wid g → fol g (d j)) ∧ (∀ x, fol g x → ∃ j, j < wid g ∧ d j = x) ∧ (∀ i j, i < wid g → j < wid g → d i = d j → i = j) ∧ (∀ f, f < wid g → Ahead d f) ∧ d 0 = 0 ∧ d (wid g - 1) = g
theorem fold_nl {m : Mem} {N u : Nat} {v : Nat → Nat} (Y : YI m N) (hu : u < N) (h3 : ∀ j, j < wid (yden m u) → v j < N ∧ v j ≤ u ∧ fol (yden m u) (yden m (v j))) (h4 : ∀ i j, i < j → j < wid (yden m u) → v i < v j) (h5 : ∀ c, c < N → fol (yden m u) (yden m c) → ∃ j, j < wid (yden m u) ∧ v j = c) : FolD (yden m u) (fun j => yden m (v j)) := by
  obtain ⟨y1, y2, y3, y4, y5, y6, y7⟩ := Y.1
  have opn : ∀ c, c < N → ∀ w x, w < 2 → op (yden m c) w x = true → ∃ b, b < c ∧ yden m b = x := by
    intro c hc w x hw hx
    rcases (by omega : w = 0 ∨ w = 1) with rfl | rfl
    · obtain ⟨b, _, h2, h3⟩ := (Y.1.opL hc x).mp hx
      exact ⟨b, y3 c hc b (Or.inl h2), h3⟩
    · obtain ⟨b, _, h2, h3⟩ := (Y.1.opR hc x).mp hx
      exact ⟨b, y3 c hc b (Or.inr h2), h3⟩
  have folN : ∀ n c x, c ≤ n → c < N → fol (yden m c) x → ∃ b, b ≤ c ∧ yden m b = x := by
    intro n
    induction n with
    | zero =>
      intro c x hc hcN h
      rcases (fol_def _ x).mp h with rfl | ⟨y, hy, h3⟩
      · exact ⟨c, Nat.le_refl _, rfl⟩
      · obtain ⟨b, hb, rfl⟩ := hy.elim (opn c hcN 0 y (by decide)) (opn c hcN 1 y (by decide))
        omega
    | succ n ih =>
      intro c x hc hcN h
      rcases (fol_def _ x).mp h with rfl | ⟨y, hy, h3⟩
      · exact ⟨c, Nat.le_refl _, rfl⟩
      · obtain ⟨b, hb, rfl⟩ := hy.elim (opn c hcN 0 y (by decide)) (opn c hcN 1 y (by decide))
        obtain ⟨b2, h4, h5⟩ := ih b x (by omega) (by omega) h3
        exact ⟨b2, by omega, h5⟩
  have mono : ∀ i j, i < wid (yden m u) → j < wid (yden m u) → v i < v j → i < j := by
    intro i j hi hj hv
    rcases (by omega : i < j ∨ i = j ∨ j < i) with q | q | q
    · exact q
    · subst q; omega
    · have := h4 j i q hi; omega
  have inj : ∀ i j, i < wid (yden m u) → j < wid (yden m u) → yden m (v i) = yden m (v j) → i = j := by
    intro i j hi hj e
    have ev := y7 _ _ (h3 i hi).1 (h3 j hj).1 e
    rcases (by omega : i < j ∨ i = j ∨ j < i) with q | q | q
    · have := h4 i j q hj; omega
    · exact q
    · have := h4 j i q hi; omega
  refine ⟨fun j hj => (h3 j hj).2.2, fun x hx => ?_, inj, fun f hf w hw x hx => ?_, ?_, ?_⟩
  · obtain ⟨b, hb, rfl⟩ := folN u u x (Nat.le_refl _) hu hx
    obtain ⟨j, hj, e⟩ := h5 b (by omega) hx
    exact ⟨j, hj, by show yden m (v j) = yden m b; rw [e]⟩
  · obtain ⟨b, hb, rfl⟩ := opn (v f) (h3 f hf).1 w x hw hx
    obtain ⟨j, hj, e⟩ := h5 b (by have := (h3 f hf).1; omega) (fol_tr (h3 f hf).2.2 (fol_op hw hx (fol_rf _)))
    exact ⟨j, mono j f hj hf (by omega), by show yden m (v j) = yden m b; rw [e]⟩
  · obtain ⟨b, hb, e⟩ := folN u u 0 (Nat.le_refl _) hu (fol_zero _)
    obtain ⟨j, hj, e2⟩ := h5 b (by omega) (by rw [e]; exact fol_zero _)
    by_cases q : j = 0
    · subst q
      show yden m (v 0) = 0
      rw [e2, e]
    · -- an option of the first would stand ahead of it
      show yden m (v 0) = 0
      apply Classical.byContradiction
      intro hne
      obtain ⟨y, hy⟩ := op_ex hne
      have h0 := h3 0 (by omega)
      obtain ⟨w, hw, hy⟩ : ∃ w, w < 2 ∧ op (yden m (v 0)) w y = true := hy.elim (fun q => ⟨0, by decide, q⟩) (fun q => ⟨1, by decide, q⟩)
      obtain ⟨b2, h6, rfl⟩ := opn (v 0) h0.1 w y hw hy
      obtain ⟨j2, hj2, e3⟩ := h5 b2 (by omega) (fol_tr h0.2.2 (fol_op hw hy (fol_rf _)))
      have := mono j2 0 hj2 (by omega) (by omega)
      omega
  · obtain ⟨j, hj, e⟩ := h5 u hu (fol_rf _)
    show yden m (v (wid (yden m u) - 1)) = yden m u
    by_cases q : j = wid (yden m u) - 1
    · rw [← q, e]
    · have := h4 j (wid (yden m u) - 1) (by omega) (by omega)
      have := (h3 (wid (yden m u) - 1) (by omega)).2.1
      omega
theorem FolD.can {g : Nat} {d : Nat → Nat} (h : FolD g d) (hc0 : can g) {j : Nat} (hj : j < wid g) : can (d j) := can_fol hc0 (h.1 j hj)
theorem FolD.bd {g : Nat} {d : Nat → Nat} (h : FolD g d) (h10 : wid g ≤ 10) {j : Nat} (hj : j < wid g) : bd (d j) ≤ 9 := by
  have := bd_fol (h.1 j hj)
  have := bd_wid g
  omega
/-- the loop over all followers: what stands behind f of them -/
def WI (m0 : Mem) (N : Nat) (v : Nat → Nat) (W f : Nat) (m : Mem) : Prop := m.2 = m0.2 ∧ (∀ a i, (a < 18 ∨ a = 19 ∨ 28 ≤ a) → mGet m a i = mGet m0 a i) ∧ ∃ (s : Nat → Nat) (t : Nat → List Nat), Rows m (fun j => yden m0 (v j)) t f ∧ (∀ j, j < f → mGet m 24 j = (s j : Int)) ∧ Pm s f ∧ Fine m (fun j => yden m0 (v j)) t s f
theorem WI.yi {m0 m : Mem} {N W f : Nat} {v : Nat → Nat} (h : m.2 = m0.2 ∧ ∀ a i, (a < 18 ∨ a = 19 ∨ 28 ≤ a) → mGet m a i = mGet m0 a i) (Y : YI m0 N) : YI m N ∧ yden m = yden m0 := Y.lg (by rw [h.1]) (fun a i q => h.2 a i (by omega))
theorem hpv_le {g : Nat} : hpv g ≤ (bd g : Int) := by
  unfold hpv
  split <;> omega
theorem hpv_ge {g : Nat} : -1 ≤ hpv g := by
  unfold hpv
  split <;> omega
set_option maxHeartbeats 4000000 in
theorem writ_loop {n N u : Nat} {m0 : Mem} {v : Nat → Nat} {K : Mem → Option Rz} {Q : Int → Mem → Prop} (hn : 300 < n) (Y : YI m0 N) (hu : u < N) (h10 : wid (yden m0 u) ≤ 10) (hv3 : ∀ j, j < wid (yden m0 u) → v j < N ∧ v j ≤ u ∧ fol (yden m0 u) (yden m0 (v j))) (hv4 : ∀ i j, i < j → j < wid (yden m0 u) → v i < v j) (hv5 : ∀ c, c < N → fol (yden m0 u) (yden m0 c) → ∃ j, j < wid (yden m0 u) ∧ v j = c) (h19 : ∀ j, j < wid (yden m0 u) → mGet m0 19 j = (v j : Int)) (hfl : mGet m0 18 10 = 0)
    (hk : ∀ m, WI m0 N v (wid (yden m0 u)) (wid (yden m0 u)) m → Ok (K m) Q) : Ok (lp (F := Int → Mem → Option Rz) (fun _ _ => none) (fun w33 v3_33 m33 =>
    if v3_33 < ((wid (yden m0 u) : Nat) : Int) then (
      cal (f_X4_maskOf n v3_33 0 m33) fun x46 m46 =>
      stI m46 20 v3_33 x46 fun m49 =>
      cal (f_X4_maskOf n v3_33 1 m49) fun x58 m58 =>
      stI m58 21 v3_33 x58 fun m61 =>
      cal (f_X4_dayOf n v3_33 m61) fun x69 m69 =>
      stI m69 22 v3_33 x69 fun m72 =>
      cal (f_X4_heapOf n v3_33 m72) fun x80 m80 =>
      stI m80 23 v3_33 x80 fun m83 =>
      cal (f_X4_spell n v3_33 m83) fun _ m86 =>
      cal (f_X4_sortIn n v3_33 m86) fun _ m91 =>
      w33 (w32 (v3_33 + 1)) m91
    ) else
    K m33) n 0 m0) Q := by
  have hD := fold_nl Y hu hv3 hv4 hv5
  have cu : can (yden m0 u) := Y.1.2.2.2.2.2.1 u hu
  obtain ⟨d, ed⟩ : ∃ d : Nat → Nat, d = fun j => yden m0 (v j) := ⟨_, rfl⟩
  have edj : ∀ j, d j = yden m0 (v j) := fun j => by rw [ed]
  obtain ⟨W, eW⟩ : ∃ W, W = wid (yden m0 u) := ⟨_, rfl⟩
  obtain ⟨g, eg⟩ : ∃ g, g = yden m0 u := ⟨_, rfl⟩
  rw [← eg] at eW hD cu h10 hv3 hv4 hv5 h19 hk ⊢
  rw [← ed] at hD
  rw [← eW] at h10 hv3 hv4 hv5 h19 hk ⊢
  have N256 := Y.1.2.1
  refine ok_up1 W (fun f m => WI m0 N v W f m) (fun w f m hf hI hw => ?_) (fun w m hI => ?_) n 0 m0 (Nat.zero_le _) ⟨rfl, fun _ _ _ => rfl, fun _ => 0, fun _ => [], fun g hg => absurd hg (Nat.not_lt_zero _), fun j hj => absurd hj (Nat.not_lt_zero _), ⟨fun j hj => absurd hj (Nat.not_lt_zero _), fun j hj => absurd hj (Nat.not_lt_zero _), fun j _ hj => absurd hj (Nat.not_lt_zero _)⟩, Or.inl ⟨hfl, fun g hg => absurd hg (Nat.not_lt_zero _), fun i j _ hj => absurd hj (Nat.not_lt_zero _)⟩⟩ (by omega)
  · obtain ⟨e2, eg2, s, t, hR, h24, hP, hF⟩ := hI
    rw [if_pos (by omega)]
    have f10 : f < 10 := by omega
    have hA : Ahead d f := hD.2.2.2.1 f (by rw [← eW]; exact hf)
    have hInj : Inj d f := fun a ha b hb e => hD.2.2.1 a b (by omega) (by omega) e
    have hb9 : ∀ j, j < W → bd (d j) ≤ 9 := fun j hj => hD.bd (by rw [← eW]; exact h10) (by rw [← eW]; exact hj)
    have hcan : ∀ j, j < W → can (d j) := fun j hj => hD.can cu (by rw [← eW]; exact hj)
    rw [← ed] at hR hF
    -- masks of left
    obtain ⟨Ym, ydm⟩ := WI.yi (W := W) (f := f) (v := v) ⟨e2, eg2⟩ Y
    have nr : ∀ m', (∀ j, mGet m' 19 j = mGet m0 19 j) → NRow m' N W v := fun m' h => ⟨h10, fun j hj => ⟨(hv3 j hj).1, by rw [h]; exact h19 j hj⟩⟩
    refine ok_cal (maskOf_ok (w := 0) hn Ym (nr m (fun j => eg2 19 j (by decide))) hf (by decide)) (fun x1 m1 h1 => ?_)
    obtain ⟨rfl, xl, rfl, hxl, hml⟩ := h1
    have ml : Mask d f 0 xl := ⟨hxl, fun j => by rw [hml, ydm, edj, edj]⟩
    have p10 := p2_10 (show f ≤ 10 by omega)
    rw [stI_ok (kI20 _ (by decide)) f10]
    obtain ⟨ma, ea⟩ : ∃ ma, ma = mSet m1 20 f (xl : Int) := ⟨_, rfl⟩
    rw [← ea]
    have ga : ∀ a i, mGet ma a i = if a = 20 ∧ i = f then (xl : Int) else mGet m1 a i := fun a i => by rw [ea, mGet_mSet, w32_nat (by omega)]
    have za : ma.2 = m0.2 ∧ ∀ a i, (a < 18 ∨ a = 19 ∨ 28 ≤ a) → mGet ma a i = mGet m0 a i := ⟨by rw [ea]; exact e2, fun a i q => by rw [ga, if_neg (by omega)]; exact eg2 a i q⟩
    obtain ⟨Ya, yda⟩ := WI.yi (W := W) (f := f) (v := v) za Y
    refine ok_cal (maskOf_ok (w := 1) hn Ya (nr ma (fun j => za.2 19 j (by decide))) hf (by decide)) (fun x2 m2 h2 => ?_)
    obtain ⟨rfl, xr, rfl, hxr, hmr⟩ := h2
    have mr : Mask d f 1 xr := ⟨hxr, fun j => by rw [hmr, yda, edj, edj]⟩
    rw [stI_ok (kI20 _ (by decide)) f10]
    obtain ⟨mb, eb⟩ : ∃ mb, mb = mSet m2 21 f (xr : Int) := ⟨_, rfl⟩
    rw [← eb]
    have gb : ∀ a i, mGet mb a i = if a = 21 ∧ i = f then (xr : Int) else mGet m2 a i := fun a i => by rw [eb, mGet_mSet, w32_nat (by omega)]
    refine ok_cal (dayOf_ok (d := d) (xl := xl) (xr := xr) hn f10 (by rw [gb, if_neg (by omega), ga, if_pos ⟨rfl, rfl⟩]) (by rw [gb, if_pos ⟨rfl, rfl⟩]) ml mr (fun j hj => by rw [gb, if_neg (by omega), ga, if_neg (by omega)]; exact (hR j hj).2.2.1) hA (fun j hj => by have := hb9 j (by omega); omega)) (fun x3 m3 h3 => ?_)
    obtain ⟨rfl, rfl⟩ := h3
    rw [stI_ok (kI20 _ (by decide)) f10]
    have bf := hb9 f hf
    obtain ⟨mc, ec⟩ : ∃ mc, mc = mSet m3 22 f (bd (d f) : Int) := ⟨_, rfl⟩
    rw [← ec]
    have gc : ∀ a i, mGet mc a i = if a = 22 ∧ i = f then (bd (d f) : Int) else mGet m3 a i := fun a i => by rw [ec, mGet_mSet, w32_nat (by omega)]
    refine ok_cal (heapOf_ok (d := d) (xl := xl) (xr := xr) hn f10 (by rw [gc, if_neg (by omega), gb, if_neg (by omega), ga, if_pos ⟨rfl, rfl⟩]) (by rw [gc, if_neg (by omega), gb, if_pos ⟨rfl, rfl⟩]) ml mr (fun j hj => by rw [gc, if_neg (by omega), gb, if_neg (by omega), ga, if_neg (by omega)]; exact (hR j hj).2.2.2.1) hA hInj) (fun x4 m4 h4 => ?_)
    obtain ⟨rfl, rfl⟩ := h4
    rw [stI_ok (kI20 _ (by decide)) f10]
    have hle := @hpv_le (d f)
    have hge := @hpv_ge (d f)
    obtain ⟨me, ee⟩ : ∃ me, me = mSet m4 23 f (hpv (d f)) := ⟨_, rfl⟩
    rw [← ee]
    have ge' : ∀ a i, mGet me a i = if a = 23 ∧ i = f then hpv (d f) else mGet m4 a i := fun a i => by rw [ee, mGet_mSet, w32_id (by omega) (by omega)]
    have gall : ∀ a i, mGet me a i = if a = 23 ∧ i = f then hpv (d f) else if a = 22 ∧ i = f then (bd (d f) : Int) else if a = 21 ∧ i = f then (xr : Int) else if a = 20 ∧ i = f then (xl : Int) else mGet m1 a i := fun a i => by rw [ge', gc, gb, ga]
    have ze : me.2 = m0.2 := by rw [ee, ec, eb]; exact za.1
    have hfl2 : mGet me 18 10 = mGet m1 18 10 := by rw [gall, if_neg (by omega), if_neg (by omega), if_neg (by omega), if_neg (by omega)]
    have keep : ∀ a i, (a < 20 ∨ 23 < a ∨ i ≠ f) → mGet me a i = mGet m1 a i := fun a i q => by rw [gall, if_neg (by omega), if_neg (by omega), if_neg (by omega), if_neg (by omega)]
    have tx : ∀ j, j < f → Tx me j (t j) := fun j hj => (hR j hj).2.2.2.2.eq (keep _ _ (by omega)) (fun i => keep _ _ (by omega))
    have so : So me f s := fun j hj => ⟨by rw [keep 24 j (by omega)]; exact h24 j hj, hP.1 j hj⟩
    refine ok_cal (spell_ok (b := bd (d f)) (h := hpv (d f)) (fl := mGet m1 18 10) (xl := xl) (xr := xr) (s := s) (t := t) hn f10 bf (by omega) (by rw [gall, if_neg (by omega), if_neg (by omega), if_neg (by omega), if_pos ⟨rfl, rfl⟩]) (by rw [gall, if_neg (by omega), if_neg (by omega), if_pos ⟨rfl, rfl⟩]) (by rw [gall, if_neg (by omega), if_pos ⟨rfl, rfl⟩]) (by rw [gall, if_pos ⟨rfl, rfl⟩]) hfl2 (by omega) (by omega) so tx) (fun _ m5 h5 => ?_)
    obtain ⟨f5, tp5⟩ := h5
    obtain ⟨FT, eFT⟩ : ∃ FT, FT = ftx xl xr (bd (d f)) (hpv (d f)) s t f := ⟨_, rfl⟩
    rw [← eFT] at tp5
    obtain ⟨t', et⟩ : ∃ t' : Nat → List Nat, t' = fun j => if j = f then FT.take 100 else t j := ⟨_, rfl⟩
    have et1 : t' f = FT.take 100 := by rw [et]; exact if_pos rfl
    have et2 : ∀ j, j ≠ f → t' j = t j := fun j hj => by rw [et]; exact if_neg hj
    have tx5 : ∀ j, j ≤ f → Tx m5 j (t' j) := by
      intro j hj
      by_cases q : j = f
      · rw [q, et1]; exact tp5.1
      · rw [et2 j q]; exact (tx j (by omega)).fr f5 q
    have so5 : So m5 f s := fun j hj => ⟨by rw [f5.2 24 j (by omega) (by omega) (by omega)]; exact (so j hj).1, hP.1 j hj⟩
    refine ok_cal (sortIn_ok (t := t') hn f10 so5 tx5) (fun _ m6 h6 => ?_)
    obtain ⟨p, hp, z6, g6, s6, hi6, lo6⟩ := h6
    rw [k_1 (by omega)]
    have k6 : ∀ a i, a ≠ 24 → ¬ (a = 18 ∧ i = 10) → ¬ (a = 26 ∧ i = f) → ¬ (a = 27 ∧ 100 * f ≤ i ∧ i < 100 * f + 100) → mGet m6 a i = mGet me a i := fun a i q1 q2 q3 q4 => by rw [g6 a i q1, f5.2 a i q2 q3 q4]
    refine hw m6 ⟨by rw [z6, f5.1]; exact ze, fun a i q => ?_, insP s f p, t', ?_, fun j hj => s6 j (by omega), hP.ins hp, ?_⟩
    · rw [k6 a i (by omega) (by omega) (by omega) (by omega), keep a i (by omega)]
      exact eg2 a i q
    · rw [← ed]
      intro j hj
      have tx6 : Tx m6 j (t' j) := (tx5 j (by omega)).eq (g6 _ _ (by decide)) (fun i => g6 _ _ (by decide))
      by_cases q : j = f
      · rw [q]
        rw [q] at tx6
        refine ⟨⟨xl, ?_, ml⟩, ⟨xr, ?_, mr⟩, ?_, ?_, tx6⟩
        · rw [k6 20 f (by omega) (by omega) (by omega) (by omega), gall, if_neg (by omega), if_neg (by omega), if_neg (by omega), if_pos ⟨rfl, rfl⟩]
        · rw [k6 21 f (by omega) (by omega) (by omega) (by omega), gall, if_neg (by omega), if_neg (by omega), if_pos ⟨rfl, rfl⟩]
        · rw [k6 22 f (by omega) (by omega) (by omega) (by omega), gall, if_neg (by omega), if_pos ⟨rfl, rfl⟩]
        · rw [k6 23 f (by omega) (by omega) (by omega) (by omega), gall, if_pos ⟨rfl, rfl⟩]
      · obtain ⟨⟨y1, a1, b1⟩, ⟨y2, a2, b2⟩, a3, a4, _⟩ := hR j (by omega)
        refine ⟨⟨y1, ?_, b1⟩, ⟨y2, ?_, b2⟩, ?_, ?_, tx6⟩
        · rw [k6 20 j (by omega) (by omega) (by omega) (by omega), keep 20 j (by omega)]; exact a1
        · rw [k6 21 j (by omega) (by omega) (by omega) (by omega), keep 21 j (by omega)]; exact a2
        · rw [k6 22 j (by omega) (by omega) (by omega) (by omega), keep 22 j (by omega)]; exact a3
        · rw [k6 23 j (by omega) (by omega) (by omega) (by omega), keep 23 j (by omega)]; exact a4
    · rw [← ed]
      have fl6 : mGet m6 18 10 = if FT.length ≤ 100 then mGet m1 18 10 else 1 := by rw [g6 18 10 (by decide)]; exact tp5.2
      rcases hF with ⟨b1, b2, b3⟩ | ⟨b1, j, b2, b3⟩
      · have ew : FT = wd (d f) := by
          rw [eFT]
          exact ftx_wd (fun j hj => ⟨hcan j (by omega), hb9 j (by omega)⟩) hA hInj ml mr hP b2 b3
        by_cases q : FT.length ≤ 100
        · rw [if_pos q, b1] at fl6
          have et3 : t' f = wd (d f) := by rw [et1, List.take_of_length_le q, ew]
          have all : ∀ j, j < f + 1 → t' j = wd (d j) := by
            intro j hj
            by_cases q2 : j = f
            · rw [q2]; exact et3
            · rw [et2 j q2]; exact b2 j (by omega)
          refine Or.inl ⟨fl6, all, fun i j hij hj => ?_⟩
          -- sorted
          have old : ∀ i j, i < j → j < f → wlt (t' (s i)) (t' (s j)) = true := by
            intro i j h1 h2
            have q3 := hP.1 i (by omega)
            have q4 := hP.1 j h2
            rw [et2 _ (by omega), et2 _ (by omega)]
            exact b3 i j h1 h2
          have low : ∀ i, i < p → wlt (t' (s i)) (t' f) = true := by
            intro i h1
            have l1 := lo6 (by omega)
            have q4 := hP.1 (p - 1) (by omega)
            have q5 : wlt (t' (s (p - 1))) (t' f) = true := by
              refine (wlt_tot (fun e => ?_)).resolve_right (fun e => by rw [l1] at e; cases e)
              rw [all _ (by omega), et3] at e
              have e2 := wd_inj (hcan _ (by omega)) (hcan f hf) (hb9 _ (by omega)) bf e
              have := hD.2.2.1 _ _ (by omega) (by omega) e2
              omega
            rcases (by omega : i < p - 1 ∨ i = p - 1) with q6 | q6
            · exact wlt_tr (old i (p - 1) q6 (by omega)) q5
            · rw [q6]; exact q5
          have e1 : ∀ j, j < p → insP s f p j = s j := fun j hj => by unfold insP; rw [if_pos hj]
          have e2 : insP s f p p = f := by unfold insP; rw [if_neg (by omega), if_pos rfl]
          have e3 : ∀ j, p < j → insP s f p j = s (j - 1) := fun j hj => by unfold insP; rw [if_neg (by omega), if_neg (by omega)]
          rcases (by omega : i < p ∨ i = p ∨ p < i) with qi | qi | qi <;> rcases (by omega : j < p ∨ j = p ∨ p < j) with qj | qj | qj
          · rw [e1 i qi, e1 j qj]; exact old i j hij (by omega)
          · subst qj; rw [e1 i qi, e2]; exact low i qi
          · rw [e1 i qi, e3 j qj]; exact old i (j - 1) (by omega) (by omega)
          · omega
          · omega
          · subst qi; rw [e2, e3 j qj]; exact hi6 (j - 1) (by omega) (by omega)
          · omega
          · omega
          · rw [e3 i qi, e3 j qj]; exact old (i - 1) (j - 1) (by omega) (by omega)
        · rw [if_neg q] at fl6
          exact Or.inr ⟨fl6, f, by omega, by rw [← ew]; omega⟩
      · refine Or.inr ⟨?_, j, by omega, b3⟩
        rw [fl6, b1]
        split <;> rfl
  · rw [if_neg (by omega)]
    exact hk m hI
