/-! THE MAKER: games laid into the yard -/
def sg (neg : Bool) (z : Nat) : Nat := if neg then gneg z else z
theorem can_sg {neg : Bool} {z : Nat} (h : can z) : can (sg neg z) := by
  cases neg
  · exact h
  · exact can_gneg z h
theorem GX.sg_op {g : Nat} (G : GX g) {neg : Bool} {k w z : Nat} (hk : k < wid g) (hw : w < 2) : op (sg neg (en g k)) w z = true ↔ ∃ j, (om g k (dwho neg w)).testBit j = true ∧ z = sg neg (en g j) := by
  cases neg
  · show op (en g k) w z = true ↔ ∃ j, (om g k w).testBit j = true ∧ z = en g j
    rw [G.2.2.1 k w z hk hw]
    exact ⟨fun ⟨j, h1, h2⟩ => ⟨j, h1, h2.symm⟩, fun ⟨j, h1, h2⟩ => ⟨j, h1, h2.symm⟩⟩
  · show op (gneg (en g k)) w z = true ↔ ∃ j, (om g k (1 - w)).testBit j = true ∧ z = gneg (en g j)
    rw [op_gneg hw]
    constructor
    · rintro ⟨x, h1, rfl⟩
      obtain ⟨j, h2, rfl⟩ := (G.2.2.1 k (1 - w) x hk (by omega)).mp h1
      exact ⟨j, h2, rfl⟩
    · rintro ⟨j, h1, rfl⟩
      exact ⟨_, (G.2.2.1 k (1 - w) _ hk (by omega)).mpr ⟨j, h1, rfl⟩, rfl⟩
/-- the yard holds games of a list alone, which bounds it -/
def YB (m : Mem) (N : Nat) (F : List Nat) : Prop := YI m N ∧ mGet m 4 14 = 0 ∧ (∀ v, v < N → yden m v ∈ F) ∧ F.length ≤ 255
theorem YB.lt {m : Mem} {N : Nat} {F : List Nat} (h : YB m N F) : N ≤ 255 := by
  obtain ⟨Y, _, h2, h3⟩ := h
  have h4 := nodup_le ((List.range N).map (yden m)) F (nodup_map List.nodup_range (fun a ha b hb e => Y.1.2.2.2.2.2.2 a b (List.mem_range.mp ha) (List.mem_range.mp hb) e)) (fun x hx => by
    obtain ⟨v, hv, rfl⟩ := List.mem_map.mp hx
    exact h2 v (List.mem_range.mp hv))
  rw [List.length_map, List.length_range] at h4
  omega
theorem YF.toFr {m m' : Mem} {N N' : Nat} (h : YF m m' N N') (hN : N ≤ N') : Fr m m' SY := by
  refine Fr.of h.2.1 (fun a i q => ?_)
  exact h.1 a i (fun e => q (by omega)) (fun e => absurd (by omega : a < 1000 ∧ SY a) q)
theorem Fr.gob {m m' : Mem} {S : Nat → Prop} {o g : Nat} (h : Fr m m' S) (O : GOb m o g) : GOb m' o g := O.mono h.1
theorem endF_ok {n N g : Nat} {F : List Nat} {m : Mem} {SL SR : Nat → Prop} (hn : 300 < n) (G : YG m N SL SR) (hv : ∀ v, v < N → yden m v ∈ F) (hl : F.length ≤ 255) (hF : Fits SL SR g) (hc0 : ∀ K, can K → geq K g → K ∈ F) : Ok (f_X9_end n m) (fun v m' => ∃ u N' : Nat, v = (u : Int) ∧ u < N' ∧ N ≤ N' ∧ YB m' N' F ∧ YF m m' N N' ∧ geq (yden m' u) g) := by
  have hN : N ≤ 255 := YB.lt (m := m) (F := F) ⟨G.1, G.2.1, hv, hl⟩
  refine ok_mono (gof_ok hn G (by omega) hF) (fun v m' h => ?_)
  obtain ⟨u, N', h1, h2, h3, h4, h5, h6, h7⟩ := h
  refine ⟨u, N', h1, h2, h6.2.2.2.2, ⟨h4, h5, fun x hx => ?_, hl⟩, h6, h7⟩
  rcases h3 with ⟨e, _⟩ | ⟨e, e2⟩
  · rw [h6.2.2.2.1 x (by omega)]
    exact hv x (by omega)
  · by_cases q : x < N
    · rw [h6.2.2.2.1 x q]; exact hv x q
    · rw [show x = u by omega]
      exact hc0 _ (h4.1.2.2.2.2.2.1 u h2) h7
theorem YB.beg {n N : Nat} {F : List Nat} {m : Mem} (hn : 300 < n) (Y : YB m N F) : Ok (f_X9_begin n m) (fun _ m' => YG m' N (fun _ => False) (fun _ => False) ∧ YF m m' N N ∧ ∀ v, v < N → yden m' v ∈ F) := by
  refine ok_mono (begin_ok hn Y.1) (fun _ m' h => ⟨h.1, h.2, fun v hv => ?_⟩)
  rw [h.2.2.2.2.1 v hv]
  exact Y.2.2.1 v hv
theorem YF.old {m m' : Mem} {N N' x : Nat} (h : YF m m' N N') (hx : x < N) : yden m' x = yden m x := h.2.2.2.1 x hx
theorem kI29 (m : Mem) : sKind m 29 = (1, 11) := rfl
abbrev S29 (a : Nat) : Prop := SY a ∨ a = 29
/-- the options of one side, among the first i -/
def SS (g k w : Nat) (neg : Bool) (i : Nat) (z : Nat) : Prop := ∃ j, j < i ∧ (om g k (dwho neg w)).testBit j = true ∧ z = sg neg (en g j)
theorem SS_0 {g k w : Nat} {neg : Bool} (z : Nat) : SS g k w neg 0 z ↔ False := ⟨fun ⟨_, h, _⟩ => absurd h (Nat.not_lt_zero _), fun h => h.elim⟩
theorem SS_no {g k w i : Nat} {neg : Bool} (h : (om g k (dwho neg w)).testBit i = false) (z : Nat) : SS g k w neg (i + 1) z ↔ SS g k w neg i z := by
  constructor
  · rintro ⟨j, h1, h2, h3⟩
    rcases (by omega : j < i ∨ j = i) with q | rfl
    · exact ⟨j, q, h2, h3⟩
    · rw [h] at h2; cases h2
  · rintro ⟨j, h1, h2⟩; exact ⟨j, by omega, h2⟩
theorem SS_yes {g k w i : Nat} {neg : Bool} (h : (om g k (dwho neg w)).testBit i = true) (z : Nat) : SS g k w neg (i + 1) z ↔ SS g k w neg i z ∨ z = sg neg (en g i) := by
  constructor
  · rintro ⟨j, h1, h2, h3⟩
    rcases (by omega : j < i ∨ j = i) with q | rfl
    · exact Or.inl ⟨j, q, h2, h3⟩
    · exact Or.inr h3
  · rintro (⟨j, h1, h2⟩ | h1)
    · exact ⟨j, by omega, h2⟩
    · exact ⟨i, by omega, h, h1⟩
theorem SS_fits {g k : Nat} {neg : Bool} (G : GX g) (hk : k < wid g) : Fits (SS g k 0 neg k) (SS g k 1 neg k) (sg neg (en g k)) := by
  have one : ∀ w, w < 2 → (∀ x, op (sg neg (en g k)) w x = true → ∃ y, SS g k w neg k y ∧ geq y x) ∧ ∀ y, SS g k w neg k y → ∃ x, op (sg neg (en g k)) w x = true ∧ geq y x := by
    intro w hw
    refine ⟨fun x hx => ?_, fun y hy => ?_⟩
    · obtain ⟨j, h1, rfl⟩ := (G.sg_op hk hw).mp hx
      exact ⟨_, ⟨j, (om_bit.mp h1).2.1, h1, rfl⟩, geq_rfl _⟩
    · obtain ⟨j, h1, h2, rfl⟩ := hy
      exact ⟨_, (G.sg_op hk hw).mpr ⟨j, h2, rfl⟩, geq_rfl _⟩
  exact ⟨(one 0 (by decide)).1, (one 0 (by decide)).2, (one 1 (by decide)).1, (one 1 (by decide)).2⟩
theorem dwho_lt {neg : Bool} {w : Nat} (hw : w < 2) : dwho neg w < 2 := by
  unfold dwho
  cases neg
  · exact hw
  · show 1 - w < 2; omega
set_option maxHeartbeats 2000000 in
theorem load_ok {n o g N : Nat} {neg : Bool} {F : List Nat} {m : Mem} (hn : 300 < n) (O : GOb m o g) (G : GX g) (cg : can g) (Y : YB m N F) (hF : ∀ x, fol g x → sg neg x ∈ F) : Ok (f_X2_load n o (b2i neg) m) (fun v m' => ∃ u N' : Nat, v = (u : Int) ∧ u < N' ∧ N ≤ N' ∧ YB m' N' F ∧ (m'.2.2 = m.2.2 ∧ Fr m m' S29) ∧ (∀ x, x < N → yden m' x = yden m x) ∧ yden m' u = sg neg g ∧ ∀ k, k < wid g → ∃ c : Nat, c < N' ∧ mGet m' 29 k = (c : Int) ∧ yden m' c = sg neg (en g k)) := by
  obtain ⟨a1, a2, a3, a4⟩ := O.o
  have Wg := G.1
  have wp := wid_pos g
  unfold f_X2_load
  refine ok_up2 (wid g) (fun k a m1 => ∃ Nk, N ≤ Nk ∧ YB m1 Nk F ∧ (m1.2.2 = m.2.2 ∧ Fr m m1 S29) ∧ (∀ x, x < N → yden m1 x = yden m x) ∧ (∀ j, j < k → ∃ c : Nat, c < Nk ∧ mGet m1 29 j = (c : Int) ∧ yden m1 c = sg neg (en g j)) ∧ (0 < k → a = mGet m1 29 (k - 1))) (fun w k a m1 hk hI hw => ?_) (fun w a m1 hI => ?_) n 0 (-1) m (Nat.zero_le _) ⟨N, Nat.le_refl _, Y, ⟨rfl, Fr.rf _ _⟩, fun _ _ => rfl, fun j hj => absurd hj (Nat.not_lt_zero _), fun h => absurd h (Nat.not_lt_zero _)⟩ (by omega)
  · obtain ⟨Nk, hNk, Yk, ⟨zk, fk⟩, ok, rk, ak⟩ := hI
    have O1 := fk.gob O
    dsimp only [jn]
    rw [if_neg a4, isD_ok a1, isG_ok O1.o.2.2.1 a1]
    refine ok_calE (width_eq O1 Wg) ?_
    rw [if_pos (by omega), if_pos (by omega), k_1 (by omega)]
    refine ok_cal (Yk.beg hn) (fun _ m2 h2 => ?_)
    obtain ⟨G2, F2, v2⟩ := h2
    refine ok_up1 k (fun i m3 => YG m3 Nk (SS g k 0 neg i) (SS g k 1 neg i) ∧ YF m2 m3 Nk Nk) (fun w2 i m3 hi hJ hw2 => ?_) (fun w2 m3 hJ => ?_) n 0 m2 (Nat.zero_le _) ⟨G2.iff SS_0 SS_0, YF.rf _ _⟩ (by omega)
    · obtain ⟨G3, F3⟩ := hJ
      have F13 := F2.tr F3
      have fr13 := F13.toFr (Nat.le_refl _)
      have O3 := fr13.gob O1
      obtain ⟨c, c1, c2, c3⟩ := rk i hi
      have r29 : ∀ m4 : Mem, Fr m1 m4 SY → mGet m4 29 i = (c : Int) := fun m4 h => by rw [h.2 29 i (by decide) (by decide)]; exact c2
      have gi : ∀ m4, YF m2 m4 Nk Nk → yden m4 c = sg neg (en g i) := fun m4 h => by rw [h.old c1, F2.old c1]; exact c3
      have oml0 := om_lt11 Wg k (dwho neg 0)
      have oml1 := om_lt11 Wg k (dwho neg 1)
      rw [if_pos (by omega)]
      -- the second half: an option of right
      have half : ∀ m4, YG m4 Nk (SS g k 0 neg (i + 1)) (SS g k 1 neg i) → YF m2 m4 Nk Nk → Ok (isD o <| isG m4 o <| cal (f_X1_options n o (k : Int) ((dwho neg 1 : Nat) : Int) m4) fun x94 m94 => if iand (ishr x94 (i : Int)) 1 = 0 then w2 (w32 ((i : Int) + 1)) m94 else ldI m94 29 (i : Int) fun x115 => cal (f_X9_addRight n x115 m94) fun _ m116 => w2 (w32 ((i : Int) + 1)) m116) (fun v m' => ∃ u N' : Nat, v = (u : Int) ∧ u < N' ∧ N ≤ N' ∧ YB m' N' F ∧ (m'.2.2 = m.2.2 ∧ Fr m m' S29) ∧ (∀ x, x < N → yden m' x = yden m x) ∧ yden m' u = sg neg g ∧ ∀ k, k < wid g → ∃ c : Nat, c < N' ∧ mGet m' 29 k = (c : Int) ∧ yden m' c = sg neg (en g k)) := by
        intro m4 G4 F4
        have fr14 := (F2.tr F4).toFr (Nat.le_refl _)
        have O4 := fr14.gob O1
        rw [isD_ok a1, isG_ok O4.o.2.2.1 a1]
        refine ok_calE (options_eq O4 Wg (dwho_lt (by decide))) ?_
        rw [k_1 (by omega)]
        cases e : (om g k (dwho neg 1)).testBit i
        · rw [if_pos ((ibit0 (by omega) (by omega)).mpr e)]
          exact hw2 m4 ⟨G4.iff (fun z => Iff.rfl) (SS_no e), F4⟩
        · rw [if_neg (fun q => by rw [(ibit0 (by omega) (by omega)).mp q] at e; cases e), ldI_ok (kI29 _) (by omega), r29 m4 fr14]
          refine ok_cal (addRight_ok G4 c1) (fun _ m5 h5 => ?_)
          exact hw2 m5 ⟨h5.1.iff (fun z => Iff.rfl) (fun z => by rw [SS_yes e, gi m4 F4]), F4.tr h5.2⟩
      have full : Ok (isD o <| isG m3 o <| cal (f_X1_options n o (k : Int) ((dwho neg 0 : Nat) : Int) m3) fun x57 m57 => if iand (ishr x57 (i : Int)) 1 = 0 then (isD o <| isG m57 o <| cal (f_X1_options n o (k : Int) ((dwho neg 1 : Nat) : Int) m57) fun x94 m94 => if iand (ishr x94 (i : Int)) 1 = 0 then w2 (w32 ((i : Int) + 1)) m94 else ldI m94 29 (i : Int) fun x115 => cal (f_X9_addRight n x115 m94) fun _ m116 => w2 (w32 ((i : Int) + 1)) m116) else ldI m57 29 (i : Int) fun x78 => cal (f_X9_addLeft n x78 m57) fun _ m79 => (isD o <| isG m79 o <| cal (f_X1_options n o (k : Int) ((dwho neg 1 : Nat) : Int) m79) fun x94 m94 => if iand (ishr x94 (i : Int)) 1 = 0 then w2 (w32 ((i : Int) + 1)) m94 else ldI m94 29 (i : Int) fun x115 => cal (f_X9_addRight n x115 m94) fun _ m116 => w2 (w32 ((i : Int) + 1)) m116)) (fun v m' => ∃ u N' : Nat, v = (u : Int) ∧ u < N' ∧ N ≤ N' ∧ YB m' N' F ∧ (m'.2.2 = m.2.2 ∧ Fr m m' S29) ∧ (∀ x, x < N → yden m' x = yden m x) ∧ yden m' u = sg neg g ∧ ∀ k, k < wid g → ∃ c : Nat, c < N' ∧ mGet m' 29 k = (c : Int) ∧ yden m' c = sg neg (en g k)) := by
        rw [isD_ok a1, isG_ok O3.o.2.2.1 a1]
        refine ok_calE (options_eq O3 Wg (dwho_lt (by decide))) ?_
        cases e : (om g k (dwho neg 0)).testBit i
        · rw [if_pos ((ibit0 (by omega) (by omega)).mpr e)]
          exact half m3 (G3.iff (SS_no e) (fun z => Iff.rfl)) F3
        · rw [if_neg (fun q => by rw [(ibit0 (by omega) (by omega)).mp q] at e; cases e), ldI_ok (kI29 _) (by omega), r29 m3 fr13]
          refine ok_cal (addLeft_ok G3 c1) (fun _ m5 h5 => ?_)
          exact half m5 (h5.1.iff (fun z => by rw [SS_yes e, gi m3 F3]) (fun z => Iff.rfl)) (F3.tr h5.2)
      cases neg <;> exact full
    · obtain ⟨G3, F3⟩ := hJ
      rw [if_neg (by omega)]
      have F13 := F2.tr F3
      have ck : can (sg neg (en g k)) := can_sg (can_fol cg (G.2.1.1 k hk))
      refine ok_cal (endF_ok (F := F) hn G3 (fun v hv => by rw [F3.old hv]; exact v2 v hv) Y.2.2.2 (SS_fits G hk) (fun K cK e => by rw [can_uniq cK ck e]; exact hF _ (G.2.1.1 k hk))) (fun v4 m4 h4 => ?_)
      obtain ⟨u, N', rfl, u1, u2, Y4, F4, g4⟩ := h4
      have e4 : yden m4 u = sg neg (en g k) := can_uniq (Y4.1.1.2.2.2.2.2.1 u u1) ck g4
      rw [stI_ok (kI29 _) (by omega)]
      have F14 := F13.tr F4
      have u256 := Y4.lt
      have G5 : ∀ a i, mGet (mSet m4 29 k (u : Int)) a i = if a = 29 ∧ i = k then (u : Int) else mGet m4 a i := fun a i => by rw [mGet_mSet, w32_nat (by omega)]
      obtain ⟨Y5, d5⟩ := Y4.1.lg (m' := mSet m4 29 k (u : Int)) rfl (fun a i q => by rw [G5, if_neg (by omega)])
      have fr5 : Fr m4 (mSet m4 29 k (u : Int)) S29 := Fr.of rfl (fun a i q => by
        rw [G5, if_neg (fun h => q ⟨by omega, Or.inr h.1⟩)])
      refine hw (u : Int) _ ⟨N', by omega, ⟨Y5, by rw [G5, if_neg (by omega)]; exact Y4.2.1, fun v hv => by rw [d5]; exact Y4.2.2.1 v hv, Y4.2.2.2⟩, ⟨by show m4.2.2 = _; rw [F14.2.1]; exact zk, (fk.tr ((F14.toFr u2).weak (fun a h => Or.inl h))).tr fr5⟩, fun x hx => by rw [d5, F14.old (by omega)]; exact ok x hx, fun j hj => ?_, fun _ => by rw [Nat.add_sub_cancel, G5, if_pos ⟨rfl, rfl⟩]⟩
      by_cases q : j = k
      · exact ⟨u, u1, by rw [G5, if_pos ⟨rfl, q⟩], by rw [d5, q]; exact e4⟩
      · obtain ⟨c, c1, c2, c3⟩ := rk j (by omega)
        refine ⟨c, by omega, ?_, by rw [d5, F14.old c1]; exact c3⟩
        rw [G5, if_neg (by omega), (F14.toFr u2).2 29 j (by decide) (by decide)]
        exact c2
  · obtain ⟨Nk, hNk, Yk, ⟨zk, fk⟩, ok, rk, ak⟩ := hI
    have O1 := fk.gob O
    dsimp only [jn]
    rw [if_neg a4, isD_ok a1, isG_ok O1.o.2.2.1 a1]
    refine ok_calE (width_eq O1 Wg) ?_
    rw [if_neg (by omega)]
    obtain ⟨c, c1, c2, c3⟩ := rk (wid g - 1) (by omega)
    rw [ak wp, c2]
    exact ok_rt ⟨c, Nk, rfl, c1, hNk, Yk, ⟨zk, fk⟩, ok, by rw [c3, G.2.2.2], rk⟩
