/-! THE MAKER: negatives, followers, integers, heaps -/
/-- what a slot can hold -/
def fits (K : Nat) : Prop := wid K ≤ 10 ∧ (wd K).length ≤ 100
/-- an answer: the game of its own, or null if no slot can hold it -/
def Res (m : Mem) (v : Int) (K : Nat) : Prop := (fits K ∧ ∃ o : Nat, v = (o : Int) ∧ GOb m o K) ∨ (¬ fits K ∧ v = 0)
theorem wd_0_len : (wd 0).length = 1 := by rw [wd_0]; rfl
theorem writ_res {n N u : Nat} {m : Mem} {Q : Int → Mem → Prop} (hn : 300 < n) (Y : YI m N) (hu : u < N) (hs : mGet m 4 14 = 0) (hb : mNext m + 4 < 2147483648) (hQ : ∀ v m', Res m' v (yden m u) → Fr m m' SY → mNext m' ≤ mNext m + 4 → YI m' N → yden m' = yden m → mGet m' 4 14 = 0 → Q v m') : Ok (cal (f_X4_written n (u : Int) m) fun x m2 => rt (x.toNat : Nat) m2) Q := by
  refine ok_cal (written_ok hn Y hu hs hb) (fun v m' h => ?_)
  obtain ⟨h1, h2, h3, h4, h5, h6⟩ := h
  refine ok_rt ?_
  rcases h6 with ⟨h7, o, rfl, h8⟩ | ⟨h7, rfl⟩
  · refine hQ _ _ (Or.inl ⟨h7, o, ?_, h8⟩) h1 h2 h3 h4 h5
    rw [Int.toNat_natCast]
  · exact hQ _ _ (Or.inr ⟨h7, rfl⟩) h1 h2 h3 h4 h5
theorem clearB {n : Nat} {F : List Nat} {m : Mem} (hn : 300 < n) (h0 : 0 ∈ F) (hl : F.length ≤ 255) : Ok (f_X9_clear n m) (fun _ m' => YB m' 1 F ∧ Fr m m' SY ∧ mNext m' = mNext m ∧ yden m' 0 = 0) := by
  refine ok_mono (clear_ok hn) (fun _ m' h => ?_)
  obtain ⟨h1, h2, h3, h4, h5⟩ := h
  refine ⟨⟨h1, h2, fun v hv => by rw [show v = 0 by omega, h3]; exact h0, hl⟩, Fr.of h5 (fun a i q => h4 a i (fun e => q (by omega)) (fun e => q (by omega)) (fun e => q (by omega))), by unfold mNext; rw [h5], h3⟩
theorem Fr.next {m m' : Mem} {S : Nat → Prop} (h : m'.2.2 = m.2.2) : mNext m' = mNext m := by unfold mNext; rw [h]
theorem YB.next {m m' : Mem} {N N' : Nat} (h : YF m m' N N') : mNext m' = mNext m := by unfold mNext; rw [h.2.1]
theorem fls_len (g : Nat) : (fls g).length = wid g := rfl
theorem negF {g : Nat} {neg : Bool} : ∀ x, fol g x → sg neg x ∈ (fls g).map (sg neg) := fun x hx => List.mem_map.mpr ⟨x, mem_fls.mpr hx, rfl⟩
theorem negF0 {g : Nat} {neg : Bool} : 0 ∈ (fls g).map (sg neg) := List.mem_map.mpr ⟨0, mem_fls.mpr (fol_zero g), by cases neg; rfl; exact gneg_0⟩
theorem fitsGX {m : Mem} {o g : Nat} (O : GOb m o g) (cg : can g) (f : fits g) : GX g := GX.of O cg f.1
theorem mNext_eq {m m' : Mem} (h : m'.2.2 = m.2.2) : mNext m' = mNext m := by unfold mNext; rw [h]
abbrev SM (a : Nat) : Prop := SY a ∨ (29 ≤ a ∧ a ≤ 32)
theorem negativeOf_ok {n o g : Nat} {m : Mem} (hn : 300 < n) (O : GOb m o g) (cg : can g) (hf : fits g) (hb : mNext m + 4 < 2147483648) : Ok (f_X2_negativeOf n o m) (fun v m' => Res m' v (gneg g) ∧ Fr m m' SM ∧ mNext m' ≤ mNext m + 4) := by
  have G := fitsGX O cg hf
  unfold f_X2_negativeOf
  refine ok_cal (clearB (F := (fls g).map (sg true)) hn negF0 (by rw [List.length_map, fls_len]; have := hf.1; omega)) (fun _ m1 h1 => ?_)
  obtain ⟨Y1, f1, n1, _⟩ := h1
  refine ok_cal (load_ok (neg := true) hn (f1.gob O) G cg Y1 negF) (fun v m2 h2 => ?_)
  obtain ⟨u, N', rfl, u1, _, Y2, ⟨z2, f2⟩, _, e2, _⟩ := h2
  refine writ_res hn Y2.1 u1 Y2.2.1 (by rw [mNext_eq z2]; omega) (fun v m' r1 r2 r3 _ _ _ => ?_)
  rw [e2] at r1
  exact ⟨r1, ((f1.weak (fun a h => Or.inl h)).tr (f2.weak (fun a h => h.elim Or.inl (fun h => Or.inr (by omega))))).tr (r2.weak (fun a h => Or.inl h)), by rw [mNext_eq z2] at r3; omega⟩
theorem followerOf_ok {n o g k : Nat} {m : Mem} (hn : 300 < n) (O : GOb m o g) (cg : can g) (hf : fits g) (hk : k < wid g) (hb : mNext m + 4 < 2147483648) : Ok (f_X2_followerOf n o (k : Int) m) (fun v m' => Res m' v (en g k) ∧ Fr m m' SM ∧ mNext m' ≤ mNext m + 4) := by
  have G := fitsGX O cg hf
  have Wg := hf.1
  unfold f_X2_followerOf
  refine ok_cal (clearB (F := (fls g).map (sg false)) hn negF0 (by rw [List.length_map, fls_len]; omega)) (fun _ m1 h1 => ?_)
  obtain ⟨Y1, f1, n1, _⟩ := h1
  refine ok_cal (load_ok (neg := false) hn (f1.gob O) G cg Y1 negF) (fun v m2 h2 => ?_)
  obtain ⟨u, N', rfl, u1, _, Y2, ⟨z2, f2⟩, _, e2, hrow⟩ := h2
  obtain ⟨c, c1, c2, c3⟩ := hrow k hk
  dsimp only [jn]
  rw [if_neg (by omega), if_pos (by omega), ldI_ok (kI29 _) (by omega), c2]
  refine writ_res hn Y2.1 c1 Y2.2.1 (by rw [mNext_eq z2]; omega) (fun v m' r1 r2 r3 _ _ _ => ?_)
  rw [c3] at r1
  exact ⟨r1, ((f1.weak (fun a h => Or.inl h)).tr (f2.weak (fun a h => h.elim Or.inl (fun h => Or.inr (by omega))))).tr (r2.weak (fun a h => Or.inl h)), by rw [mNext_eq z2] at r3; omega⟩
/-! integers -/
theorem iz_list {p : Int} {k : Nat} (h : k ≤ p.natAbs) : iz (if 0 < p then (k : Int) else -(k : Int)) ∈ (List.range (p.natAbs + 1)).map (fun k => iz (if 0 < p then ((k : Nat) : Int) else -((k : Nat) : Int))) := List.mem_map.mpr ⟨k, List.mem_range.mpr (by omega), rfl⟩
theorem integerOf_ok {n : Nat} {p : Int} {m : Mem} (hn : 300 < n) (hp : p.natAbs ≤ 100) (hb : mNext m + 4 < 2147483648) : Ok (f_X2_integerOf n p m) (fun v m' => Res m' v (iz p) ∧ Fr m m' SM ∧ mNext m' ≤ mNext m + 4) := by
  obtain ⟨F, eF⟩ : ∃ F, F = (List.range (p.natAbs + 1)).map (fun k => iz (if 0 < p then ((k : Nat) : Int) else -((k : Nat) : Int))) := ⟨_, rfl⟩
  have mem : ∀ k, k ≤ p.natAbs → iz (if 0 < p then (k : Int) else -(k : Int)) ∈ F := fun k hk => by rw [eF]; exact iz_list hk
  unfold f_X2_integerOf
  refine ok_cal (clearB (F := F) hn (by
    have := mem 0 (Nat.zero_le _)
    rw [show (if 0 < p then ((0 : Nat) : Int) else -((0 : Nat) : Int)) = 0 by split <;> rfl, iz_0] at this
    exact this) (by rw [eF, List.length_map, List.length_range]; omega)) (fun _ m1 h1 => ?_)
  obtain ⟨Y1, f1, n1, d1⟩ := h1
  have emin : imin (iabs p) 256 = ((p.natAbs : Nat) : Int) := by
    unfold imin iabs
    split
    · rw [if_neg (by omega)]; omega
    · rw [w32_id (by omega) (by omega), if_neg (by omega)]; omega
  rw [emin]
  refine ok_up2 p.natAbs (fun k a m2 => ∃ u N : Nat, a = (u : Int) ∧ u < N ∧ YB m2 N F ∧ Fr m m2 SM ∧ mNext m2 = mNext m ∧ yden m2 u = iz (if 0 < p then (k : Int) else -(k : Int))) (fun w k a m2 hk hI hw => ?_) (fun w a m2 hI => ?_) n 0 0 m1 (Nat.zero_le _) ⟨0, 1, rfl, by decide, Y1, f1.weak (fun a h => Or.inl h), n1, by rw [d1, show (if 0 < p then ((0 : Nat) : Int) else -((0 : Nat) : Int)) = 0 by split <;> rfl, iz_0]⟩ (by omega)
  · obtain ⟨u, N, rfl, hu, Y2, f2, n2, d2⟩ := hI
    rw [if_pos (by omega)]
    refine ok_cal (Y2.beg hn) (fun _ m3 h3 => ?_)
    obtain ⟨G3, F3, v3⟩ := h3
    dsimp only [jn]
    rw [k_1 (by omega)]
    have fin : ∀ (SL SR : Nat → Prop) m4, YG m4 N SL SR → YF m3 m4 N N → Fits SL SR (iz (if 0 < p then ((k + 1 : Nat) : Int) else -((k + 1 : Nat) : Int))) → Ok (cal (f_X9_end n m4) fun x59 m59 => w x59 ((k + 1 : Nat) : Int) m59) (fun v m' => Res m' v (iz p) ∧ Fr m m' SM ∧ mNext m' ≤ mNext m + 4) := by
      intro SL SR m4 G4 F4 hF
      have F34 := F3.tr F4
      refine ok_cal (endF_ok (F := F) hn G4 (fun v hv => by rw [F4.old hv]; exact v3 v hv) Y2.2.2.2 hF (fun K cK e => by rw [can_uniq cK (can_iz _) e]; exact mem (k + 1) (by omega))) (fun v5 m5 h5 => ?_)
      obtain ⟨u5, N5, rfl, u6, u7, Y5, F5, g5⟩ := h5
      refine hw _ m5 ⟨u5, N5, rfl, u6, Y5, f2.tr (((F34.tr F5).toFr u7).weak (fun a h => Or.inl h)), by rw [YB.next (F34.tr F5)]; exact n2, can_uniq (Y5.1.1.2.2.2.2.2.1 u5 u6) (can_iz _) g5⟩
    have du : yden m3 u = iz (if 0 < p then (k : Int) else -(k : Int)) := by rw [F3.old hu]; exact d2
    by_cases q : 0 < p
    · rw [if_pos q]
      refine ok_cal (addLeft_ok G3 hu) (fun _ m4 h4 => ?_)
      refine fin _ _ m4 h4.1 h4.2 ?_
      rw [du, if_pos q, if_pos q]
      refine ⟨fun x hx => ?_, fun y hy => ?_, fun x hx => ?_, fun y hy => hy.elim⟩
      · obtain ⟨_, rfl⟩ := iz_L.mp hx
        exact ⟨_, Or.inr rfl, by rw [show ((k + 1 : Nat) : Int) - 1 = (k : Int) by omega]; exact geq_rfl _⟩
      · rcases hy with hy | rfl
        · exact hy.elim
        · exact ⟨_, iz_L.mpr ⟨by omega, by rw [show ((k + 1 : Nat) : Int) - 1 = (k : Int) by omega]⟩, geq_rfl _⟩
      · have := (iz_R.mp hx).1; omega
    · rw [if_neg q]
      refine ok_cal (addRight_ok G3 hu) (fun _ m4 h4 => ?_)
      refine fin _ _ m4 h4.1 h4.2 ?_
      rw [du, if_neg q, if_neg q]
      refine ⟨fun x hx => ?_, fun y hy => hy.elim, fun x hx => ?_, fun y hy => ?_⟩
      · have := (iz_L.mp hx).1; omega
      · obtain ⟨_, rfl⟩ := iz_R.mp hx
        exact ⟨_, Or.inr rfl, by rw [show -((k + 1 : Nat) : Int) + 1 = -(k : Int) by omega]; exact geq_rfl _⟩
      · rcases hy with hy | rfl
        · exact hy.elim
        · exact ⟨_, iz_R.mpr ⟨by omega, by rw [show -((k + 1 : Nat) : Int) + 1 = -(k : Int) by omega]⟩, geq_rfl _⟩
  · obtain ⟨u, N, rfl, hu, Y2, f2, n2, d2⟩ := hI
    rw [if_neg (by omega)]
    refine writ_res hn Y2.1 hu Y2.2.1 (by omega) (fun v m' r1 r2 r3 _ _ _ => ?_)
    rw [d2, show (if 0 < p then ((p.natAbs : Nat) : Int) else -((p.natAbs : Nat) : Int)) = p by split <;> omega] at r1
    exact ⟨r1, f2.tr (r2.weak (fun a h => Or.inl h)), by omega⟩
/-! heaps -/
theorem kI31 (m : Mem) : sKind m 31 = (1, 16) := rfl
/-- the row of heaps: the nodes of *0 .. *(k - 1) -/
def HR (m : Mem) (N k : Nat) : Prop := ∀ j, j < k → ∃ c : Nat, c < N ∧ mGet m 31 j = (c : Int) ∧ yden m c = hc j
theorem HR.fr {m m' : Mem} {N N' k : Nat} (h : HR m N k) (f : YF m m' N N') (hN : N ≤ N') : HR m' N' k := fun j hj => by
  obtain ⟨c, c1, c2, c3⟩ := h j hj
  exact ⟨c, by omega, by rw [(f.toFr hN).2 31 j (by decide) (by decide)]; exact c2, by rw [f.old c1]; exact c3⟩
def HS (k : Nat) (z : Nat) : Prop := ∃ j, j < k ∧ z = hc j
theorem beginHeap_ok {n N k : Nat} {F : List Nat} {m : Mem} (hn : 300 < n) (Y : YB m N F) (hk : k ≤ 15) (H : HR m N k) : Ok (f_X2_beginHeap n (k : Int) m) (fun _ m' => YG m' N (HS k) (HS k) ∧ YF m m' N N) := by
  unfold f_X2_beginHeap
  refine ok_cal (Y.beg hn) (fun _ m1 h1 => ?_)
  obtain ⟨G1, F1, v1⟩ := h1
  refine ok_up1 k (fun i m2 => YG m2 N (HS i) (HS i) ∧ YF m1 m2 N N) (fun w i m2 hi hI hw => ?_) (fun w m2 hI => ?_) n 0 m1 (Nat.zero_le _) ⟨G1.iff (fun z => ⟨fun ⟨_, h, _⟩ => absurd h (Nat.not_lt_zero _), fun h => h.elim⟩) (fun z => ⟨fun ⟨_, h, _⟩ => absurd h (Nat.not_lt_zero _), fun h => h.elim⟩), YF.rf _ _⟩ (by omega)
  · obtain ⟨G2, F2⟩ := hI
    have H2 := H.fr (F1.tr F2) (Nat.le_refl _)
    obtain ⟨c, c1, c2, c3⟩ := H2 i hi
    dsimp only [jn]
    rw [if_pos (by omega), if_pos (by omega), ldI_ok (kI31 _) (by omega), c2]
    refine ok_cal (addLeft_ok G2 c1) (fun _ m3 h3 => ?_)
    obtain ⟨c', c1', c2', c3'⟩ := (H2.fr h3.2 (Nat.le_refl _)) i hi
    rw [ldI_ok (kI31 _) (by omega), c2', k_1 (by omega)]
    refine ok_cal (addRight_ok h3.1 c1') (fun _ m4 h4 => ?_)
    have up : ∀ z, HS (i + 1) z ↔ HS i z ∨ z = hc i := fun z => by
      constructor
      · rintro ⟨j, h5, h6⟩
        rcases (by omega : j < i ∨ j = i) with q | rfl
        · exact Or.inl ⟨j, q, h6⟩
        · exact Or.inr h6
      · rintro (⟨j, h5, h6⟩ | h6)
        · exact ⟨j, by omega, h6⟩
        · exact ⟨i, by omega, h6⟩
    exact hw m4 ⟨h4.1.iff (fun z => by rw [up, c3]) (fun z => by rw [up, c3']), (F2.tr h3.2).tr h4.2⟩
  · obtain ⟨G2, F2⟩ := hI
    dsimp only [jn]
    rw [if_neg (by omega)]
    exact ok_rt ⟨G2, F1.tr F2⟩
theorem HS_fits (k : Nat) : Fits (HS k) (HS k) (hc k) := by
  have one : ∀ w, w < 2 → (∀ x, op (hc k) w x = true → ∃ y, HS k y ∧ geq y x) ∧ ∀ y, HS k y → ∃ x, op (hc k) w x = true ∧ geq y x := by
    intro w hw
    refine ⟨fun x hx => ?_, fun y hy => ?_⟩
    · obtain ⟨j, h1, rfl⟩ := (op_hc hw).mp hx
      exact ⟨_, ⟨j, h1, rfl⟩, geq_rfl _⟩
    · obtain ⟨j, h1, rfl⟩ := hy
      exact ⟨_, (op_hc hw).mpr ⟨j, h1, rfl⟩, geq_rfl _⟩
  exact ⟨(one 0 (by decide)).1, (one 0 (by decide)).2, (one 1 (by decide)).1, (one 1 (by decide)).2⟩
abbrev S31 (a : Nat) : Prop := SY a ∨ a = 31
theorem heapNode_ok {n p N : Nat} {F : List Nat} {m : Mem} (hn : 300 < n) (Y : YB m N F) (hp : p ≤ 14) (hF : ∀ k, k ≤ p → hc k ∈ F) : Ok (f_X2_heapNode n (p : Int) m) (fun v m' => ∃ u N' : Nat, v = (u : Int) ∧ u < N' ∧ N ≤ N' ∧ YB m' N' F ∧ Fr m m' S31 ∧ m'.2.2 = m.2.2 ∧ yden m' u = hc p ∧ HR m' N' (p + 1)) := by
  unfold f_X2_heapNode
  refine ok_up2 (p + 1) (fun k a m1 => ∃ N1, N ≤ N1 ∧ YB m1 N1 F ∧ Fr m m1 S31 ∧ m1.2.2 = m.2.2 ∧ HR m1 N1 k ∧ (0 < k → a = mGet m1 31 (k - 1))) (fun w k a m1 hk hI hw => ?_) (fun w a m1 hI => ?_) n 0 0 m (Nat.zero_le _) ⟨N, Nat.le_refl _, Y, Fr.rf _ _, rfl, fun j hj => absurd hj (Nat.not_lt_zero _), fun h => absurd h (Nat.not_lt_zero _)⟩ (by omega)
  · obtain ⟨N1, hN1, Y1, f1, z1, H1, _⟩ := hI
    dsimp only [jn]
    rw [if_neg (by omega), if_pos (by omega)]
    refine ok_cal (beginHeap_ok hn Y1 (by omega) H1) (fun _ m2 h2 => ?_)
    obtain ⟨G2, F2⟩ := h2
    refine ok_cal (endF_ok (F := F) hn G2 (fun v hv => by rw [F2.old hv]; exact Y1.2.2.1 v hv) Y1.2.2.2 (HS_fits k) (fun K cK e => by rw [can_uniq cK (can_hc k) e]; exact hF k (by omega))) (fun v3 m3 h3 => ?_)
    obtain ⟨u, N3, rfl, u1, u2, Y3, F3, g3⟩ := h3
    have e3 : yden m3 u = hc k := can_uniq (Y3.1.1.2.2.2.2.2.1 u u1) (can_hc k) g3
    have F23 := F2.tr F3
    rw [stI_ok (kI31 _) (by omega), k_1 (by omega)]
    have u256 := Y3.lt
    have G5 : ∀ a i, mGet (mSet m3 31 k (u : Int)) a i = if a = 31 ∧ i = k then (u : Int) else mGet m3 a i := fun a i => by rw [mGet_mSet, w32_nat (by omega)]
    obtain ⟨Y5, d5⟩ := Y3.1.lg (m' := mSet m3 31 k (u : Int)) rfl (fun a i q => by rw [G5, if_neg (by omega)])
    have H3 := H1.fr F23 u2
    refine hw _ _ ⟨N3, by omega, ⟨Y5, by rw [G5, if_neg (by omega)]; exact Y3.2.1, fun v hv => by rw [d5]; exact Y3.2.2.1 v hv, Y3.2.2.2⟩, (f1.tr ((F23.toFr u2).weak (fun a h => Or.inl h))).tr (Fr.of rfl (fun a i q => by rw [G5, if_neg (fun h => q ⟨by omega, Or.inr h.1⟩)])), by show m3.2.2 = _; rw [F23.2.1]; exact z1, fun j hj => ?_, fun _ => by rw [Nat.add_sub_cancel, G5, if_pos ⟨rfl, rfl⟩]⟩
    by_cases q : j = k
    · exact ⟨u, u1, by rw [G5, if_pos ⟨rfl, q⟩], by rw [d5, q]; exact e3⟩
    · obtain ⟨c, c1, c2, c3⟩ := H3 j (by omega)
      exact ⟨c, c1, by rw [G5, if_neg (by omega)]; exact c2, by rw [d5]; exact c3⟩
  · obtain ⟨N1, hN1, Y1, f1, z1, H1, ha⟩ := hI
    dsimp only [jn]
    rw [if_pos (by omega)]
    obtain ⟨c, c1, c2, c3⟩ := H1 p (by omega)
    have := ha (by omega)
    rw [Nat.add_sub_cancel, c2] at this
    rw [this]
    exact ok_rt ⟨c, N1, rfl, c1, hN1, Y1, f1, z1, c3, H1⟩
theorem heapOf_ok2 {n p : Nat} {m : Mem} (hn : 300 < n) (hp : p ≤ 14) (hb : mNext m + 4 < 2147483648) : Ok (f_X2_heapOf n (p : Int) m) (fun v m' => Res m' v (hc p) ∧ Fr m m' SM ∧ mNext m' ≤ mNext m + 4) := by
  unfold f_X2_heapOf
  obtain ⟨F, eF⟩ : ∃ F, F = (List.range (p + 1)).map hc := ⟨_, rfl⟩
  have mem : ∀ k, k ≤ p → hc k ∈ F := fun k hk => by rw [eF]; exact List.mem_map.mpr ⟨k, List.mem_range.mpr (by omega), rfl⟩
  refine ok_cal (clearB (F := F) hn (mem 0 (Nat.zero_le _)) (by rw [eF, List.length_map, List.length_range]; omega)) (fun _ m1 h1 => ?_)
  obtain ⟨Y1, f1, n1, _⟩ := h1
  refine ok_cal (heapNode_ok hn Y1 hp mem) (fun v m2 h2 => ?_)
  obtain ⟨u, N', rfl, u1, _, Y2, f2, z2, e2, _⟩ := h2
  refine writ_res hn Y2.1 u1 Y2.2.1 (by rw [mNext_eq z2]; omega) (fun v m' r1 r2 r3 _ _ _ => ?_)
  rw [e2] at r1
  exact ⟨r1, ((f1.weak (fun a h => Or.inl h)).tr (f2.weak (fun a h => h.elim Or.inl (fun h => Or.inr (by omega))))).tr (r2.weak (fun a h => Or.inl h)), by rw [mNext_eq z2] at r3; omega⟩
