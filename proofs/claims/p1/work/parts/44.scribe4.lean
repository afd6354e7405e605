/-! THE SCRIBE: a node written as a game of its own -/
theorem YI.fr2 {m m' : Mem} {N : Nat} (Y : YI m N) (h5 : ∀ a r, a < 9 → row m' a r = row m a r) (hg : ∀ a i, (a = 4 ∧ i = 13) ∨ a = 9 ∨ a = 10 → mGet m' a i = mGet m a i) : YI m' N ∧ yden m' = yden m := by
  have hd : yden m' = yden m := by
    funext v
    exact den_congr v (fun u _ => ⟨h5 5 u (by decide), h5 6 u (by decide)⟩)
  obtain ⟨⟨y1, y2, y3, y4, y5, y6, y7⟩, R⟩ := Y
  refine ⟨⟨⟨by rw [hg _ _ (Or.inl ⟨rfl, rfl⟩)]; exact y1, y2, fun v hv u hu => y3 v hv u (by rw [h5 5 v (by decide), h5 6 v (by decide)] at hu; exact hu), fun v hv u => ?_, fun v hv u => ?_, fun v hv => by rw [hd]; exact y6 v hv, fun u v hu hv q => y7 u v hu hv (by rw [hd] at q; exact q)⟩, fun u hu => ?_⟩, hd⟩
  · rw [h5 7 v (by decide), hd]; exact y4 v hv u
  · rw [h5 8 v (by decide), hd]; exact y5 v hv u
  · rw [hg 9 u (Or.inr (Or.inl rfl)), hg 10 u (Or.inr (Or.inr rfl)), hd]; exact R u hu
/-- the longs are as they were, and so are the yard's own numbers -/
theorem YI.lg {m m' : Mem} {N : Nat} (Y : YI m N) (h : m'.2.1 = m.2.1) (hg : ∀ a i, (a = 4 ∧ i = 13) ∨ a = 9 ∨ a = 10 → mGet m' a i = mGet m a i) : YI m' N ∧ yden m' = yden m := Y.fr2 (fun a r _ => row_ext (fun k _ => by unfold lGet; rw [h])) hg
/-- the nodes of a node's followers, in their row -/
theorem nl_spec {m : Mem} {N u : Nat} (Y : YI m N) (hu : u < N) : ∃ v : Nat → Nat, (nl m u).length = wid (yden m u) ∧ (∀ j (h : j < (nl m u).length), (nl m u)[j] = v j) ∧ (∀ j, j < wid (yden m u) → v j < N ∧ v j ≤ u ∧ fol (yden m u) (yden m (v j))) ∧ (∀ i j, i < j → j < wid (yden m u) → v i < v j) ∧ ∀ c, c < N → fol (yden m u) (yden m c) → ∃ j, j < wid (yden m u) ∧ v j = c := by
  obtain ⟨y1, y2, y3, y4, y5, y6, y7⟩ := Y.1
  -- options of nodes are nodes ahead
  have opn : ∀ c, c < N → ∀ w x, w < 2 → op (yden m c) w x = true → ∃ b, b < c ∧ yden m b = x := by
    intro c hc w x hw hx
    rcases (by omega : w = 0 ∨ w = 1) with rfl | rfl
    · obtain ⟨b, _, h2, h3⟩ := (Y.1.opL hc x).mp hx
      exact ⟨b, y3 c hc b (Or.inl h2), h3⟩
    · obtain ⟨b, _, h2, h3⟩ := (Y.1.opR hc x).mp hx
      exact ⟨b, y3 c hc b (Or.inr h2), h3⟩
  have folN : ∀ n c x, c ≤ n → c < N → fol (yden m c) x → ∃ b, b ≤ c ∧ yden m b = x := by
    intro n
    induction n with
    | zero =>
      intro c x hc hcN h
      rcases (fol_def _ x).mp h with rfl | ⟨y, hy, h3⟩
      · exact ⟨c, Nat.le_refl _, rfl⟩
      · obtain ⟨b, hb, rfl⟩ := hy.elim (opn c hcN 0 y (by decide)) (opn c hcN 1 y (by decide))
        omega
    | succ n ih =>
      intro c x hc hcN h
      rcases (fol_def _ x).mp h with rfl | ⟨y, hy, h3⟩
      · exact ⟨c, Nat.le_refl _, rfl⟩
      · obtain ⟨b, hb, rfl⟩ := hy.elim (opn c hcN 0 y (by decide)) (opn c hcN 1 y (by decide))
        obtain ⟨b2, h4, h5⟩ := ih b x (by omega) (by omega) h3
        exact ⟨b2, by omega, h5⟩
  have mem : ∀ c, c ∈ nl m u ↔ c ≤ u ∧ fol (yden m u) (yden m c) := by
    intro c
    unfold nl
    rw [List.mem_filter, List.mem_range, folB_iff]
    exact ⟨fun h => ⟨by omega, h.2⟩, fun h => ⟨by omega, h.2⟩⟩
  have hw : wid (yden m u) = (nl m u).length := by
    rw [← List.length_map (f := yden m)]
    refine wid_of (nodup_map (List.Pairwise.filter _ List.nodup_range) (fun a ha b hb e => ?_)) (fun x => ?_)
    · have h1 := (mem a).mp ha
      have h2 := (mem b).mp hb
      exact y7 a b (by omega) (by omega) e
    · rw [List.mem_map]
      constructor
      · rintro ⟨c, h1, rfl⟩; exact ((mem c).mp h1).2
      · intro h
        obtain ⟨b, h1, h2⟩ := folN u u x (Nat.le_refl _) hu h
        exact ⟨b, (mem b).mpr ⟨h1, by rw [h2]; exact h⟩, h2⟩
  have srt : (nl m u).Pairwise (· < ·) := List.Pairwise.filter _ List.pairwise_lt_range
  have get : ∀ j (h : j < (nl m u).length), (nl m u).getD j 0 = (nl m u)[j] := fun j h => by rw [List.getD_eq_getElem?_getD, List.getElem?_eq_getElem h]; rfl
  refine ⟨fun j => (nl m u).getD j 0, hw.symm, fun j h => (get j h).symm, fun j hj => ?_, fun i j hij hj => ?_, fun c hc hf => ?_⟩
  · rw [hw] at hj
    show (nl m u).getD j 0 < N ∧ (nl m u).getD j 0 ≤ u ∧ fol (yden m u) (yden m ((nl m u).getD j 0))
    rw [get j hj]
    have := (mem _).mp (List.getElem_mem hj)
    exact ⟨by omega, this⟩
  · rw [hw] at hj
    show (nl m u).getD i 0 < (nl m u).getD j 0
    rw [get j hj, get i (by omega)]
    exact List.pairwise_iff_getElem.mp srt i j (by omega) hj hij
  · have h1 : c ≤ u := by
      obtain ⟨b, h2, h3⟩ := folN u u _ (Nat.le_refl _) hu hf
      have := y7 b c (by omega) hc h3
      omega
    obtain ⟨j, hj, e⟩ := List.getElem_of_mem ((mem c).mpr ⟨h1, hf⟩)
    exact ⟨j, by rw [hw]; exact hj, by show (nl m u).getD j 0 = c; rw [get j hj]; exact e⟩
/-- a game of its own, at o -/
def GOb (m : Mem) (o g : Nat) : Prop := ∃ (l r w : Nat) (e : Nat → Nat), (sKind m o = (11, 5) ∧ sKind m l = (1, wid g) ∧ sKind m r = (1, wid g) ∧ sKind m w = (3, (wd g).length)) ∧ (1000 ≤ o ∧ 1000 ≤ l ∧ 1000 ≤ r ∧ 1000 ≤ w ∧ o < 2147483648) ∧ (mGet m o 0 = (l : Int) ∧ mGet m o 1 = (r : Int) ∧ mGet m o 2 = (w : Int) ∧ mGet m o 3 = (bd g : Int) ∧ mGet m o 4 = hpv g) ∧ Enum g e ∧ (∀ k, k < wid g → (∃ x : Nat, mGet m l k = (x : Int) ∧ Mask e k 0 x) ∧ ∃ x : Nat, mGet m r k = (x : Int) ∧ Mask e k 1 x) ∧ ∀ i, i < (wd g).length → mGet m w i = ((wd g).getD i 0 : Int)
/-- kinds of new cells: arrays, games -/
def KO (l : List (Nat × Nat)) : Prop := l.all (fun x => decide (x.1 < 7 ∨ x.1 = 11)) = true
theorem KO.app {l l2 : List (Nat × Nat)} (h : KO l) (h2 : KO l2) : KO (l ++ l2) := by
  unfold KO at *
  rw [List.all_append, h, h2]
  rfl
/-- new cells only -/
def Grow (m m' : Mem) : Prop := (∃ l, m'.2.2 = m.2.2 ++ l ∧ KO l) ∧ ∀ a i, 1000 ≤ a → a < mNext m → mGet m' a i = mGet m a i
theorem Grow.rf (m : Mem) : Grow m m := ⟨⟨[], (List.append_nil _).symm, rfl⟩, fun _ _ _ _ => rfl⟩
theorem Grow.le {m m' : Mem} (h : Grow m m') : mNext m ≤ mNext m' := by
  obtain ⟨⟨l, e, _⟩, _⟩ := h
  unfold mNext
  rw [e, List.length_append]
  omega
theorem Grow.tr {a b c : Mem} (x : Grow a b) (y : Grow b c) : Grow a c := by
  have hl := x.le
  obtain ⟨⟨l, e, k⟩, h1⟩ := x
  obtain ⟨⟨l2, e2, k2⟩, h2⟩ := y
  exact ⟨⟨l ++ l2, by rw [e2, e, List.append_assoc], k.app k2⟩, fun i j h3 h4 => (h2 i j h3 (by omega)).trans (h1 i j h3 h4)⟩
theorem Grow.kind {m m' : Mem} (h : Grow m m') {a : Nat} (ha : a < mNext m) : sKind m' a = sKind m a := by
  obtain ⟨⟨l, e, _⟩, _⟩ := h
  unfold sKind
  by_cases q : a < 1000
  · rw [if_pos q, if_pos q]
  · rw [if_neg q, if_neg q, e, List.getD_eq_getElem?_getD, List.getD_eq_getElem?_getD, List.getElem?_append_left (by unfold mNext at ha; omega)]
theorem kind_lt {m : Mem} {a : Nat} (h : (sKind m a).1 ≠ 0) : a < mNext m := by
  apply Classical.byContradiction
  intro q
  apply h
  unfold sKind mNext at *
  rw [if_neg (by omega), List.getD_eq_getElem?_getD, List.getElem?_eq_none (by omega)]
  rfl
theorem GOb.mono {m m' : Mem} {o g : Nat} (h : GOb m o g) (x : Grow m m') : GOb m' o g := by
  obtain ⟨l, r, w, e, ⟨k1, k2, k3, k4⟩, ⟨b1, b2, b3, b4, b5⟩, ⟨v1, v2, v3, v4, v5⟩, hE, hm, hw⟩ := h
  have lo : o < mNext m := kind_lt (by rw [k1]; decide)
  have ll : l < mNext m := kind_lt (by rw [k2]; exact (by decide : (1 : Nat) ≠ 0))
  have lr : r < mNext m := kind_lt (by rw [k3]; exact (by decide : (1 : Nat) ≠ 0))
  have lw : w < mNext m := kind_lt (by rw [k4]; exact (by decide : (3 : Nat) ≠ 0))
  refine ⟨l, r, w, e, ⟨by rw [x.kind lo]; exact k1, by rw [x.kind ll]; exact k2, by rw [x.kind lr]; exact k3, by rw [x.kind lw]; exact k4⟩, ⟨b1, b2, b3, b4, b5⟩, ⟨by rw [x.2 o 0 b1 lo]; exact v1, by rw [x.2 o 1 b1 lo]; exact v2, by rw [x.2 o 2 b1 lo]; exact v3, by rw [x.2 o 3 b1 lo]; exact v4, by rw [x.2 o 4 b1 lo]; exact v5⟩, hE, fun k hk => ?_, fun i hi => by rw [x.2 w i b4 lw]; exact hw i hi⟩
  obtain ⟨⟨y1, h1, h2⟩, y2, h3, h4⟩ := hm k hk
  exact ⟨⟨y1, by rw [x.2 l k b2 ll]; exact h1, h2⟩, y2, by rw [x.2 r k b3 lr]; exact h3, h4⟩
/-- the static cells that an act may change -/
def Fr (m m' : Mem) (S : Nat → Prop) : Prop := Grow m m' ∧ ∀ a i, a < 1000 → ¬ S a → mGet m' a i = mGet m a i
theorem Fr.rf (m : Mem) (S : Nat → Prop) : Fr m m S := ⟨Grow.rf m, fun _ _ _ _ => rfl⟩
theorem Fr.tr {a b c : Mem} {S : Nat → Prop} (x : Fr a b S) (y : Fr b c S) : Fr a c S := ⟨x.1.tr y.1, fun i j h1 h2 => (y.2 i j h1 h2).trans (x.2 i j h1 h2)⟩
theorem Fr.weak {m m' : Mem} {S T : Nat → Prop} (h : Fr m m' S) (hs : ∀ a, S a → T a) : Fr m m' T := ⟨h.1, fun a i h1 h2 => h.2 a i h1 (fun q => h2 (hs a q))⟩
theorem Fr.of {m m' : Mem} {S : Nat → Prop} (h1 : m'.2.2 = m.2.2) (h2 : ∀ a i, ¬ (a < 1000 ∧ S a) → mGet m' a i = mGet m a i) : Fr m m' S := ⟨⟨⟨[], by rw [h1, List.append_nil], rfl⟩, fun a i h3 _ => h2 a i (fun q => absurd q.1 (by omega))⟩, fun a i h3 h4 => h2 a i (fun q => h4 q.2)⟩
/-- the yard and the scribe -/
abbrev SY (a : Nat) : Prop := 4 ≤ a ∧ a < 28
/-- what the scribe's rows tell of the first f -/
def Rows (m : Mem) (d : Nat → Nat) (t : Nat → List Nat) (f : Nat) : Prop := ∀ g, g < f → (∃ x : Nat, mGet m 20 g = (x : Int) ∧ Mask d g 0 x) ∧ (∃ x : Nat, mGet m 21 g = (x : Int) ∧ Mask d g 1 x) ∧ mGet m 22 g = (bd (d g) : Int) ∧ mGet m 23 g = hpv (d g) ∧ Tx m g (t g)
def Pm (s : Nat → Nat) (f : Nat) : Prop := (∀ j, j < f → s j < f) ∧ (∀ g, g < f → ∃ j, j < f ∧ s j = g) ∧ ∀ i j, i < f → j < f → s i = s j → i = j
def Fine (m : Mem) (d : Nat → Nat) (t : Nat → List Nat) (s : Nat → Nat) (f : Nat) : Prop := (mGet m 18 10 = 0 ∧ (∀ g, g < f → t g = wd (d g)) ∧ ∀ i j, i < j → j < f → wlt (t (s i)) (t (s j)) = true) ∨ (mGet m 18 10 = 1 ∧ ∃ g, g < f ∧ 100 < (wd (d g)).length)
theorem Pm.ins {s : Nat → Nat} {f p : Nat} (h : Pm s f) (hp : p ≤ f) : Pm (insP s f p) (f + 1) := by
  obtain ⟨h1, h2, h3⟩ := h
  have e1 : ∀ j, j < p → insP s f p j = s j := fun j hj => by unfold insP; rw [if_pos hj]
  have e2 : insP s f p p = f := by unfold insP; rw [if_neg (by omega), if_pos rfl]
  have e3 : ∀ j, p < j → insP s f p j = s (j - 1) := fun j hj => by unfold insP; rw [if_neg (by omega), if_neg (by omega)]
  refine ⟨fun j hj => ?_, fun g hg => ?_, fun i j hi hj e => ?_⟩
  · rcases (by omega : j < p ∨ j = p ∨ p < j) with q | rfl | q
    · rw [e1 j q]; have := h1 j (by omega); omega
    · rw [e2]; omega
    · rw [e3 j q]; have := h1 (j - 1) (by omega); omega
  · by_cases q : g = f
    · exact ⟨p, by omega, by rw [e2, q]⟩
    · obtain ⟨j, hj, e⟩ := h2 g (by omega)
      by_cases q2 : j < p
      · exact ⟨j, by omega, by rw [e1 j q2, e]⟩
      · exact ⟨j + 1, by omega, by rw [e3 (j + 1) (by omega), Nat.add_sub_cancel, e]⟩
  · rcases (by omega : i < p ∨ i = p ∨ p < i) with qi | qi | qi <;> rcases (by omega : j < p ∨ j = p ∨ p < j) with qj | qj | qj
    · rw [e1 i qi, e1 j qj] at e; exact h3 i j (by omega) (by omega) e
    · subst qj; rw [e1 i qi, e2] at e; have := h1 i (by omega); omega
    · rw [e1 i qi, e3 j qj] at e; have := h3 i (j - 1) (by omega) (by omega) e; omega
    · subst qi; rw [e1 j qj, e2] at e; have := h1 j (by omega); omega
    · omega
    · subst qi; rw [e3 j qj, e2] at e; have := h1 (j - 1) (by omega); omega
    · rw [e3 i qi, e1 j qj] at e; have := h3 (i - 1) j (by omega) (by omega) e; omega
    · subst qj; rw [e3 i qi, e2] at e; have := h1 (i - 1) (by omega); omega
    · rw [e3 i qi, e3 j qj] at e; have := h3 (i - 1) (j - 1) (by omega) (by omega) e; omega
theorem nodup_mapw {f : Nat → List Nat} : ∀ {l : List Nat}, l.Nodup → (∀ x, x ∈ l → ∀ y, y ∈ l → f x = f y → x = y) → (l.map f).Nodup
  | [], _, _ => List.nodup_nil
  | a :: l, h, hi => by
    have h1 := List.nodup_cons.mp h
    refine List.nodup_cons.mpr ⟨fun hm => ?_, nodup_mapw h1.2 (fun x hx y hy => hi x (List.mem_cons_of_mem _ hx) y (List.mem_cons_of_mem _ hy))⟩
    obtain ⟨b, hb, e⟩ := List.mem_map.mp hm
    have := hi b (List.mem_cons_of_mem _ hb) a List.mem_cons_self e
    rw [this] at hb
    exact h1.1 hb
/-- what is typed is the words -/
theorem ftx_wd {d : Nat → Nat} {t : Nat → List Nat} {s : Nat → Nat} {f xl xr : Nat} (hcan : ∀ g, g ≤ f → can (d g) ∧ bd (d g) ≤ 9) (hA : Ahead d f) (hI : Inj d f) (ml : Mask d f 0 xl) (mr : Mask d f 1 xr) (hP : Pm s f) (ht : ∀ g, g < f → t g = wd (d g)) (hS : ∀ i j, i < j → j < f → wlt (t (s i)) (t (s j)) = true) : ftx xl xr (bd (d f)) (hpv (d f)) s t f = wd (d f) := by
  obtain ⟨cf, b9⟩ := hcan f (Nat.le_refl _)
  have z : ∀ w x, w < 2 → Mask d f w x → (x = 0 ↔ Bare (d f) w) := by
    intro w x hw hm
    constructor
    · intro h0 y
      cases e : op (d f) w y
      · rfl
      · obtain ⟨g, h1, rfl⟩ := hA w hw y e
        have := (hm.2 g).mpr ⟨h1, e⟩
        rw [h0, Nat.zero_testBit] at this
        cases this
    · intro hb
      apply Nat.eq_of_testBit_eq
      intro g
      rw [Nat.zero_testBit]
      cases e : x.testBit g
      · rfl
      · have := ((hm.2 g).mp e).2
        rw [hb] at this; cases this
  have zl := z 0 xl (by decide) ml
  have zr := z 1 xr (by decide) mr
  have sel : ∀ w x, w < 2 → Mask d f w x → sortw ((opts (d f) w).map wd) = selw x s t f := by
    intro w x hw hm
    refine srt_uniq (sortw_srt (nodup_mapw (nodup_opts _ _) (fun a ha b hb e => ?_))) ?_ (fun a => ?_)
    · have oa := mem_opts.mp ha
      have ob := mem_opts.mp hb
      have := bd_op hw oa
      have := bd_op hw ob
      exact wd_inj (cf.op oa hw) (cf.op ob hw) (by omega) (by omega) e
    · unfold selw Srt
      rw [List.pairwise_map]
      refine List.Pairwise.imp_of_mem (fun {i j} hi hj hij => ?_) (List.Pairwise.filter _ List.pairwise_lt_range : (fr (fun j => x.testBit (s j)) f).Pairwise (· < ·))
      exact hS i j hij (mem_fr.mp hj).1
    · rw [mem_sortw, List.mem_map]
      unfold selw
      rw [List.mem_map]
      constructor
      · rintro ⟨y, hy, rfl⟩
        have oy := mem_opts.mp hy
        obtain ⟨g, h1, rfl⟩ := hA w hw y oy
        obtain ⟨j, h2, h3⟩ := hP.2.1 g h1
        exact ⟨j, mem_fr.mpr ⟨h2, by rw [h3]; exact (hm.2 g).mpr ⟨h1, oy⟩⟩, by rw [h3, ht g h1]⟩
      · rintro ⟨j, hj, rfl⟩
        obtain ⟨h1, h2⟩ := mem_fr.mp hj
        have h3 := (hm.2 _).mp h2
        exact ⟨d (s j), mem_opts.mpr h3.2, (ht _ h3.1).symm⟩
  unfold ftx
  by_cases q1 : Bare (d f) 1
  · rw [if_pos (Or.inr (zr.mpr q1)), if_pos (zr.mpr q1), wd_nn q1, numw_small b9]
    rfl
  · by_cases q0 : Bare (d f) 0
    · rw [if_pos (Or.inl (zl.mpr q0)), if_neg (fun h => q1 (zr.mp h)), wd_neg q0 q1, numw_small b9]
      rfl
    · rw [if_neg (fun h => h.elim (fun h => q0 (zl.mp h)) (fun h => q1 (zr.mp h)))]
      have hb := bd_pos q0
      by_cases q2 : d f = hc (bd (d f))
      · have eh : hpv (d f) = (bd (d f) : Int) := by unfold hpv; rw [if_pos q2]
        rw [eh, if_pos (by omega), wd_hp q0 q1 q2, numw_small b9, Int.toNat_natCast]
        by_cases q3 : bd (d f) > 1
        · rw [if_pos (by omega), if_pos q3]
        · rw [if_neg (by omega), if_neg q3]
      · have eh : hpv (d f) = -1 := by unfold hpv; rw [if_neg q2]
        rw [eh, if_neg (by decide), wd_br q0 q1 q2, sel 0 xl (by decide) ml, sel 1 xr (by decide) mr]
