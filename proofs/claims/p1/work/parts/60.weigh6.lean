/-! THE WEIGHER: a game's weight -/
/-- the nodes of the options on one side, among the first i -/
def SA (g k : Nat) (s : Nat) (c : Nat → Nat) (d : Nat → Nat) (i : Nat) (z : Nat) : Prop := ∃ j, j < i ∧ (om g k s).testBit j = true ∧ z = d (c j)
theorem SA_0 {g k s : Nat} {c d : Nat → Nat} (z : Nat) : SA g k s c d 0 z ↔ False := ⟨fun ⟨_, h, _⟩ => absurd h (Nat.not_lt_zero _), fun h => h.elim⟩
theorem SA_no {g k s i : Nat} {c d : Nat → Nat} (h : (om g k s).testBit i = false) (z : Nat) : SA g k s c d (i + 1) z ↔ SA g k s c d i z := by
  constructor
  · rintro ⟨j, h1, h2, h3⟩
    rcases (by omega : j < i ∨ j = i) with q | rfl
    · exact ⟨j, q, h2, h3⟩
    · rw [h] at h2; cases h2
  · rintro ⟨j, h1, h2⟩; exact ⟨j, by omega, h2⟩
theorem SA_yes {g k s i : Nat} {c d : Nat → Nat} (h : (om g k s).testBit i = true) (z : Nat) : SA g k s c d (i + 1) z ↔ SA g k s c d i z ∨ z = d (c i) := by
  constructor
  · rintro ⟨j, h1, h2, h3⟩
    rcases (by omega : j < i ∨ j = i) with q | rfl
    · exact Or.inl ⟨j, q, h2, h3⟩
    · exact Or.inr h3
  · rintro (⟨j, h1, h2⟩ | h1)
    · exact ⟨j, by omega, h2⟩
    · exact ⟨i, by omega, h, h1⟩
set_option maxHeartbeats 2000000 in
theorem weigh_ok {n o fo g : Nat} {m : Mem} (hn : 300 < n) (O : GOb m o g) (cg : can g) (fg : fits g) (sg : sm g) (hfar : mGet m 36 2 = (fo : Int)) (OF : GOb m fo (hc 10)) : Ok (f_X8_weigh n o m) (fun v m' => ∃ u N : Nat, v = (u : Int) ∧ u < N ∧ YI m' N ∧ mGet m' 4 14 = 0 ∧ Wt g (yden m' u) ∧ Nr (yden m' u) 9 ∧ Fr m m' SX ∧ m'.2.2 = m.2.2) := by
  have G := fitsGX O cg fg
  have Wg1 := G.1
  have W10 := fg.1
  have wp := wid_pos g
  obtain ⟨a1, a2, a3, a4⟩ := O.o
  unfold f_X8_weigh
  dsimp only [gtG]
  rw [hfar, Int.toNat_natCast]
  refine ok_cal (fill_ok (mir := true) hn O OF G GX_far) (fun _ m1 h1 => ?_)
  obtain ⟨z1, f1, D1⟩ := h1
  refine ok_cal (clear_ok hn) (fun _ m2 h2 => ?_)
  obtain ⟨Y2, s2, e2, f2, z2⟩ := h2
  have fr2 : Fr m m2 SX := Fr.of (z2.trans (by rw [z1])) (fun a i q => by
    rw [f2 a i (fun e => q (by rw [e]; exact ⟨by decide, Or.inl (by decide)⟩)) (fun e => q (by rw [e]; exact ⟨by decide, Or.inl (by decide)⟩)) (fun e => q (by rw [e]; exact ⟨by decide, Or.inl (by decide)⟩))]
    exact f1 a i (fun e => q ⟨by omega, Or.inr (Or.inl e)⟩))
  have S2 : WS m o fo g 1 m2 := ⟨Y2, s2, by decide, e2, fr2, z2.trans (by rw [z1]), D1.mono (fun a i ha => f2 a i (by omega) (by omega) (by omega))⟩
  refine ok_up2 (wid g) (fun k a m3 => WQ m o fo g k a m3) (fun w24 k a m3 hk hI hw => ?_) (fun w24 a m3 hI => ?_) n 0 0 m2 (Nat.zero_le _) ⟨1, fun _ => 0, S2, fun j hj => absurd hj (Nat.not_lt_zero _), fun x hx => Or.inl ⟨0, by omega, by omega, by rw [show x = 0 by omega, e2, iz_0]; exact geq_rfl _⟩, fun h => absurd h (Nat.not_lt_zero _)⟩ (by omega)
  · obtain ⟨N, w, S3, T3, P3, _⟩ := hI
    have O3 := S3.2.2.2.2.1.gob O
    rw [isD_ok a1, isG_ok O3.o.2.2.1 a1]
    refine ok_calE (width_eq O3 Wg1) ?_
    dsimp only [jn]
    rw [if_pos (by omega), if_pos (by omega), k_1 (by omega)]
    refine ok_cal (begin_ok hn S3.1) (fun _ m4 h4 => ?_)
    obtain ⟨G4, F4⟩ := h4
    have T4 := T3.yd F4.d
    -- the tables' nodes
    obtain ⟨c7, ec7⟩ : ∃ c : Nat → Nat, c = fun j => (mGet m4 37 j).toNat := ⟨_, rfl⟩
    obtain ⟨c8, ec8⟩ : ∃ c : Nat → Nat, c = fun j => (mGet m4 38 j).toNat := ⟨_, rfl⟩
    have C7 : ∀ j, j < k → c7 j < N ∧ mGet m4 37 j = (c7 j : Int) ∧ geq (yden m4 (c7 j)) (gadd (w j) (iz (-2))) := fun j hj => by
      obtain ⟨_, _, ⟨c, h5, h6, h7⟩, _⟩ := T4 j hj
      have : c7 j = c := by rw [ec7]; show (mGet m4 37 j).toNat = c; rw [h6, Int.toNat_natCast]
      rw [this]; exact ⟨h5, h6, h7⟩
    have C8 : ∀ j, j < k → c8 j < N ∧ mGet m4 38 j = (c8 j : Int) ∧ geq (yden m4 (c8 j)) (gadd (w j) (iz 2)) := fun j hj => by
      obtain ⟨_, _, _, c, h5, h6, h7⟩ := T4 j hj
      have : c8 j = c := by rw [ec8]; show (mGet m4 38 j).toNat = c; rw [h6, Int.toNat_natCast]
      rw [this]; exact ⟨h5, h6, h7⟩
    have om0 := om_lt11 Wg1 k 0
    have om1 := om_lt11 Wg1 k 1
    refine ok_up1 k (fun i m5 => YG m5 N (SA g k 0 c7 (yden m4) i) (SA g k 1 c8 (yden m4) i) ∧ YF m4 m5 N N) (fun w2 i m5 hi hJ hw2 => ?_) (fun w2 m5 hJ => ?_) n 0 m4 (Nat.zero_le _) ⟨G4.iff SA_0 SA_0, YF.rf _ _⟩ (by omega)
    · obtain ⟨G5, F5⟩ := hJ
      have fr45 : ∀ m6, YF m4 m6 N N → Fr m3 m6 SX := fun m6 F6 => ((F4.tr F6).toFr (Nat.le_refl _)).weak (fun a h => Or.inl h)
      have O5 := (fr45 m5 F5).gob O3
      rw [if_pos (by omega), k_1 (by omega), isD_ok a1, isG_ok O5.o.2.2.1 a1]
      refine ok_calE (options_eq (w := 0) O5 Wg1 (by decide)) ?_
      have half : ∀ m6, YG m6 N (SA g k 0 c7 (yden m4) (i + 1)) (SA g k 1 c8 (yden m4) i) → YF m4 m6 N N → ∀ Q, (∀ m7, YG m7 N (SA g k 0 c7 (yden m4) (i + 1)) (SA g k 1 c8 (yden m4) (i + 1)) ∧ YF m4 m7 N N → Ok (w2 ((i + 1 : Nat) : Int) m7) Q) → Ok (isD o <| isG m6 o <| cal (f_X1_options n o (k : Int) 1 m6) fun x85 m85 => if iand (ishr x85 (i : Int)) 1 = 0 then w2 ((i + 1 : Nat) : Int) m85 else ldI m85 38 (i : Int) fun x106 => cal (f_X9_addRight n x106 m85) fun _ m107 => w2 ((i + 1 : Nat) : Int) m107) Q := by
        intro m6 G6 F6 Q hQ
        have O6 := (fr45 m6 F6).gob O3
        rw [isD_ok a1, isG_ok O6.o.2.2.1 a1]
        refine ok_calE (options_eq (w := 1) O6 Wg1 (by decide)) ?_
        cases e : (om g k 1).testBit i
        · rw [if_pos ((ibit0 (by omega) (by omega)).mpr e)]
          exact hQ m6 ⟨G6.iff (fun z => Iff.rfl) (SA_no e), F6⟩
        · obtain ⟨q1, q2, _⟩ := C8 i hi
          rw [if_neg (fun q => by rw [(ibit0 (by omega) (by omega)).mp q] at e; cases e), ldI_ok (kI38 _) (by omega), (F6.toFr (Nat.le_refl _)).2 38 i (by decide) (by decide), q2]
          refine ok_cal (addRight_ok G6 q1) (fun _ m7 h7 => ?_)
          exact hQ m7 ⟨h7.1.iff (fun z => Iff.rfl) (fun z => by rw [SA_yes e, F6.old q1]), F6.tr h7.2⟩
      cases e : (om g k 0).testBit i
      · rw [if_pos ((ibit0 (by omega) (by omega)).mpr e)]
        exact half m5 (G5.iff (SA_no e) (fun z => Iff.rfl)) F5 _ hw2
      · obtain ⟨q1, q2, _⟩ := C7 i hi
        rw [if_neg (fun q => by rw [(ibit0 (by omega) (by omega)).mp q] at e; cases e), ldI_ok (kI37 _) (by omega), (F5.toFr (Nat.le_refl _)).2 37 i (by decide) (by decide), q2]
        refine ok_cal (addLeft_ok G5 q1) (fun _ m6 h6 => ?_)
        exact half m6 (h6.1.iff (fun z => by rw [SA_yes e, F5.old q1]) (fun z => Iff.rfl)) (F5.tr h6.2) _ hw2
    · obtain ⟨G5, F5⟩ := hJ
      rw [if_neg (by omega)]
      have N230 := wN S3.1 (show k ≤ 9 by omega) (by omega) (by decide) (by decide) P3
      have fitW : Fits (SA g k 0 c7 (yden m4) k) (SA g k 1 c8 (yden m4) k) (Wg g k w) := by
        refine ⟨fun x hx => ?_, fun y hy => ?_, fun x hx => ?_, fun y hy => ?_⟩
        · obtain ⟨j, h1, h2, rfl⟩ := op_WgL.mp hx
          exact ⟨_, ⟨j, h1, h2, rfl⟩, (C7 j h1).2.2⟩
        · obtain ⟨j, h1, h2, rfl⟩ := hy
          exact ⟨_, op_WgL.mpr ⟨j, h1, h2, rfl⟩, (C7 j h1).2.2⟩
        · obtain ⟨j, h1, h2, rfl⟩ := op_WgR.mp hx
          exact ⟨_, ⟨j, h1, h2, rfl⟩, (C8 j h1).2.2⟩
        · obtain ⟨j, h1, h2, rfl⟩ := hy
          exact ⟨_, op_WgR.mpr ⟨j, h1, h2, rfl⟩, (C8 j h1).2.2⟩
      refine ok_cal (gof_ok hn G5 (by omega) fitW) (fun v6 m6 h6 => ?_)
      obtain ⟨u, N6, rfl, hu6, hN6, Y6, s6, F6, g6⟩ := h6
      have d36 := ((F4.tr F5).tr F6).d
      have F46 := F5.tr F6
      have S6 := S3.yd d36 Y6 s6
      have T6 := T3.yd d36
      have nearW : Nr (Wg g k w) k := Wg_near (fun j hj => (T3 j hj).2.1)
      have cu := Y6.1.2.2.2.2.2.1 u hu6
      -- nodes of old, and the new one
      have P6 : ∀ x, x < N6 → x ≠ u → Fw2 w k k 0 0 (yden m6 x) := fun x hx q => by
        rw [d36.2.2.1 x (by omega)]
        exact P3 x (by omega)
      -- the end: a node c, the weight
      have fin : ∀ (m7 : Mem) (N7 c : Nat), WS m o fo g N7 m7 → WT m7 N7 g w k → c < N7 → (∀ x, x < N7 → yden m7 x ≠ yden m7 c → Fw2 w k k 0 0 (yden m7 x)) → (Fw2 w k k 0 0 (yden m7 c) ∨ 1 ≤ k) → Wt (en g k) (yden m7 c) → Nr (yden m7 c) k → Ok (cal (f_X9_shifted n (c : Int) 0 m7) fun x222 m222 => cal (f_X9_shifted n x222 0 m222) fun x226 m226 => stI m226 37 (k : Int) x226 fun m229 => cal (f_X9_shifted n (c : Int) 1 m229) fun x245 m245 => cal (f_X9_shifted n x245 1 m245) fun x249 m249 => stI m249 38 (k : Int) x249 fun m252 => w24 (c : Int) ((k + 1 : Nat) : Int) m252) (fun v m' => ∃ u N : Nat, v = (u : Int) ∧ u < N ∧ YI m' N ∧ mGet m' 4 14 = 0 ∧ Wt g (yden m' u) ∧ Nr (yden m' u) 9 ∧ Fr m m' SX ∧ m'.2.2 = m.2.2) := by
        intro m7 N7 c S7 T7 hc P7 pc W7 N7r
        obtain ⟨w', ew'⟩ : ∃ w' : Nat → Nat, w' = fun j => if j = k then yden m7 c else w j := ⟨_, rfl⟩
        have ew : ∀ j, j < k → w' j = w j := fun j hj => by rw [ew']; exact if_neg (by omega)
        have ek : w' k = yden m7 c := by rw [ew']; exact if_pos rfl
        refine weigh_fin (w := w') (K := fun a m => w24 a ((k + 1 : Nat) : Int) m) hn (by omega) S7 (T7.cong ew) (fun x hx => ?_) hc (by rw [ek]; exact geq_rfl _) (by rw [ek]; exact W7) (by rw [ek]; exact N7r) (fun m' h => hw _ m' h)
        by_cases q : yden m7 x = yden m7 c
        · rcases pc with pc | pc
          · rw [q]; exact (pc.cong ew).up (by omega) (by omega) (by omega)
          · refine Or.inr ⟨k, 0, pc, by omega, by omega, by omega, ?_⟩
            rw [ek, q, iz_0, gadd_0]
            exact geq_rfl _
        · exact ((P7 x hx q).cong ew).up (by omega) (by omega) (by omega)
      by_cases k0 : k = 0
      · rw [if_neg (by omega)]
        have z0 : yden m6 u = 0 := by
          refine can_uniq cu can_0 (g6.tr ?_)
          have := Nr.eq (show Nr (Wg g k w) 0 by rw [← k0]; exact nearW) (geq_rfl _)
          rw [← iz_0]
          exact ⟨this.2, this.1⟩
        have f0 : Fw2 w k k 0 0 (yden m6 u) := Or.inl ⟨0, by omega, by omega, by rw [z0, iz_0]; exact geq_rfl _⟩
        exact fin m6 N6 u S6 T6 hu6 (fun x hx q => P6 x hx (fun e => q (by rw [e]))) (Or.inl f0) (by rw [z0, k0, G.2.1.zero]; exact Wt_0) (by rw [z0, ← iz_0]; exact Nr_z (by show (0 : Int).natAbs ≤ k; exact Nat.zero_le _))
      · rw [if_pos (by omega)]
        have kf : fol g (en g k) := G.2.1.1 k hk
        obtain ⟨b, hb1, hb2⟩ := isWhole_ok hn Y6.1 hu6
        refine ok_calE hb1 ?_
        have wholeI : b = true ↔ ∃ z : Int, geq (Wg g k w) (iz z) := by
          rw [hb2]
          constructor
          · rintro (h | h)
            · obtain ⟨j, hj⟩ := bareL_nc cu h
              exact ⟨-(j : Int), by rw [iz_neg, ← hj]; exact g6.sy⟩
            · obtain ⟨j, hj⟩ := bareR_pc cu h
              exact ⟨(j : Int), by rw [iz_nn, ← hj]; exact g6.sy⟩
          · rintro ⟨z, hz⟩
            have : yden m6 u = iz z := can_uniq cu (can_iz z) (g6.tr hz)
            rw [this]
            by_cases q : 0 ≤ z
            · refine Or.inr ?_
              rw [show z = ((z.toNat : Nat) : Int) by omega, iz_nn]
              exact pc_bare _
            · refine Or.inl ?_
              rw [show z = -((z.natAbs : Nat) : Int) by omega, iz_neg]
              exact nc_bare _
        cases b
        · rw [if_pos (show b2i false = 0 from rfl)]
          have no : ¬ ∃ z : Int, geq (Wg g k w) (iz z) := fun h => Bool.noConfusion (wholeI.mpr h)
          exact fin m6 N6 u S6 T6 hu6 (fun x hx q => P6 x hx (fun e => q (by rw [e]))) (Or.inr (by omega)) (Wt_fol G hk (fun j hj => (T3 j hj).1) (Or.inl ⟨g6, no⟩)) (nearW.eq g6.sy)
        · rw [if_neg (show ¬ b2i true = 0 by decide)]
          obtain ⟨z, hz⟩ := wholeI.mp rfl
          have zk := nearW.z hz
          have gz : geq (yden m6 u) (iz z) := g6.tr hz
          have P6' : ∀ x, x < N6 → Fw2 w k k 0 0 (yden m6 x) := fun x hx => by
            by_cases q : x = u
            · rw [q]; exact Or.inl ⟨z, by omega, by omega, gz⟩
            · exact P6 x hx q
          have O6 := S6.2.2.2.2.1.gob O
          have OF6 := S6.2.2.2.2.1.gob OF
          have fo3 := OF6.o
          rw [S6.2.2.2.2.1.2 36 2 (by decide) (by decide), hfar, Int.toNat_natCast, isD_ok fo3.1, isG_ok fo3.2.2.1 fo3.1]
          refine ok_calE (top_eq OF6 GX_far.1) ?_
          refine ok_calE (verdict_eq S6.2.2.2.2.2.2 Wg1 GX_far.1 hk (by rw [wid_hc]; decide)) ?_
          have ed : dpos g (hc 10) true k (wid (hc 10) - 1) = gadd (en g k) (gneg (hc 10)) := by
            show gadd (en g k) (gneg (en (hc 10) (wid (hc 10) - 1))) = _
            rw [GX_far.2.2.2]
          rw [ed]
          obtain ⟨vE, vR⟩ := far_vd cg W10 kf
          obtain ⟨vv, evv⟩ : ∃ vv, vv = vd (gadd (en g k) (gneg (hc 10))) := ⟨_, rfl⟩
          rw [← evv] at vE vR ⊢
          have C76 : ∀ j, (om g k 0).testBit j = true → c7 j < N6 ∧ mGet m6 (if false = true then 38 else 37) j = (c7 j : Int) := fun j hj => by
            have lt := (om_bit.mp hj).2.1
            obtain ⟨q1, q2, _⟩ := C7 j lt
            refine ⟨by omega, ?_⟩
            show mGet m6 37 j = _
            rw [F46.d.1 37 j (by decide) (by decide) (by decide)]; exact q2
          have C86 : ∀ j, (om g k 1).testBit j = true → c8 j < N6 ∧ mGet m6 (if true = true then 38 else 37) j = (c8 j : Int) := fun j hj => by
            have lt := (om_bit.mp hj).2.1
            obtain ⟨q1, q2, _⟩ := C8 j lt
            refine ⟨by omega, ?_⟩
            show mGet m6 38 j = _
            rw [F46.d.1 38 j (by decide) (by decide) (by decide)]; exact q2
          have D7 : ∀ j, (om g k 0).testBit j = true → geq (yden m6 (c7 j)) (gadd (w j) (iz (-2))) := fun j hj => by
            have lt := (om_bit.mp hj).2.1
            rw [F46.old (C7 j lt).1]; exact (C7 j lt).2.2
          have D8 : ∀ j, (om g k 1).testBit j = true → geq (yden m6 (c8 j)) (gadd (w j) (iz 2)) := fun j hj => by
            have lt := (om_bit.mp hj).2.1
            rw [F46.old (C8 j lt).1]; exact (C8 j lt).2.2
          have rule : ∀ (c N7 : Nat) (m7 : Mem) (y : Int), c < N7 → YI m7 N7 → mGet m7 4 14 = 0 → YD m6 m7 N6 N7 → geq (yden m7 c) (iz y) → y.natAbs ≤ k → (∀ x, x < N7 → Fw2 w k k 0 0 (yden m7 x)) → ((El (en g k) ∧ RW (Wg g k w) y ∧ ¬ RW (Wg g k w) (y + 1)) ∨ (Er (en g k) ∧ LW (Wg g k w) y ∧ ¬ LW (Wg g k w) (y - 1)) ∨ (¬ El (en g k) ∧ ¬ Er (en g k) ∧ y = 0)) → Ok (cal (f_X9_shifted n (c : Int) 0 m7) fun x222 m222 => cal (f_X9_shifted n x222 0 m222) fun x226 m226 => stI m226 37 (k : Int) x226 fun m229 => cal (f_X9_shifted n (c : Int) 1 m229) fun x245 m245 => cal (f_X9_shifted n x245 1 m245) fun x249 m249 => stI m249 38 (k : Int) x249 fun m252 => w24 (c : Int) ((k + 1 : Nat) : Int) m252) (fun v m' => ∃ u N : Nat, v = (u : Int) ∧ u < N ∧ YI m' N ∧ mGet m' 4 14 = 0 ∧ Wt g (yden m' u) ∧ Nr (yden m' u) 9 ∧ Fr m m' SX ∧ m'.2.2 = m.2.2) := by
            intro c N7 m7 y hc Y7 s7 d7 g7 yk P7 hr
            exact fin m7 N7 c (S6.yd d7 Y7 s7) (T6.yd d7) hc (fun x hx _ => P7 x hx) (Or.inl (P7 c hc)) (Wt_fol G hk (fun j hj => (T3 j hj).1) (Or.inr ⟨⟨z, hz⟩, y, g7, hr⟩)) ((Nr_z yk).eq g7.sy)
          obtain ⟨lw, rw0⟩ := geq_LW hz
          by_cases qE : vv = 1
          · rw [if_pos qE, if_neg (show ¬ ((1 : Int) = 0) by decide), if_neg (show ¬ ((1 : Int) = 0) by decide), isD_ok a1, isG_ok O6.o.2.2.1 a1]
            refine ok_calE (options_eq (w := 1) O6 Wg1 (by decide)) ?_
            obtain ⟨j, hj1, hj2⟩ := sm_both G sg hk (by omega) 1 (by decide)
            refine ok_cal (furthest_ok (p := true) (c := c8) (w := w) (z := z) hn Y6 s6 hu6 om1 C86 (show 1 ≤ k ∧ k ≤ 9 by omega) P6' gz zk (fun h => (Bz_R (d := fun j => yden m6 (c8 j)) D8 z).mp h rw0) (by
              rw [show sw true * ((k : Int) + 1) = (k : Int) + 1 by rw [show sw true = 1 from rfl]; omega]
              exact Bz_farR hj2 hj1 (D8 j hj2) (T3 j hj1).2.1)) (fun v7 m7 h7 => ?_)
            obtain ⟨c, N7, y, rfl, hc, Y7, s7, d7, g7, yk, b0, b1, P7⟩ := h7
            refine rule c N7 m7 y hc Y7 s7 d7 g7 yk P7 (Or.inl ⟨vE.mp qE, ?_, (Bz_R (d := fun j => yden m6 (c8 j)) D8 (y + 1)).mp b1⟩)
            exact Classical.byContradiction (fun q => b0 ((Bz_R (d := fun j => yden m6 (c8 j)) D8 y).mpr q))
          · rw [if_neg qE, if_pos rfl]
            by_cases qR : vv = -1
            · rw [if_pos qR, if_pos rfl, isD_ok a1, isG_ok O6.o.2.2.1 a1]
              refine ok_calE (options_eq (w := 0) O6 Wg1 (by decide)) ?_
              obtain ⟨j, hj1, hj2⟩ := sm_both G sg hk (by omega) 0 (by decide)
              refine ok_cal (furthest_ok (p := false) (c := c7) (w := w) (z := z) hn Y6 s6 hu6 om0 C76 (show 1 ≤ k ∧ k ≤ 9 by omega) P6' gz zk (fun h => (Bz_L (d := fun j => yden m6 (c7 j)) D7 z).mp h lw) (by
                rw [show sw false * ((k : Int) + 1) = -((k : Int) + 1) by rw [show sw false = -1 from rfl]; omega]
                exact Bz_farL hj2 hj1 (D7 j hj2) (T3 j hj1).2.1)) (fun v7 m7 h7 => ?_)
              obtain ⟨c, N7, y, rfl, hc, Y7, s7, d7, g7, yk, b0, b1, P7⟩ := h7
              refine rule c N7 m7 y hc Y7 s7 d7 g7 yk P7 (Or.inr (Or.inl ⟨vR.mp qR, ?_, (Bz_L (d := fun j => yden m6 (c7 j)) D7 (y - 1)).mp b1⟩))
              exact Classical.byContradiction (fun q => b0 ((Bz_L (d := fun j => yden m6 (c7 j)) D7 y).mpr q))
            · rw [if_neg qR]
              exact rule 0 N6 m6 0 S6.2.2.1 Y6 s6 (YD.rf _ _) (by rw [S6.2.2.2.1, iz_0]; exact geq_rfl _) (Nat.zero_le _) P6' (Or.inr (Or.inr ⟨fun h => qE (vE.mpr h), fun h => qR (vR.mpr h), rfl⟩))
  · obtain ⟨N, w, S3, T3, P3, hl⟩ := hI
    have O3 := S3.2.2.2.2.1.gob O
    rw [isD_ok a1, isG_ok O3.o.2.2.1 a1]
    refine ok_calE (width_eq O3 Wg1) ?_
    dsimp only [jn]
    rw [if_neg (by omega)]
    obtain ⟨c, hc, rfl, gc⟩ := hl wp
    obtain ⟨t1, t2, _⟩ := T3 (wid g - 1) (by omega)
    rw [G.2.2.2] at t1
    refine ok_rt ⟨c, N, rfl, hc, S3.1, S3.2.1, t1.eq gc.sy, ?_, S3.2.2.2.2.1, S3.2.2.2.2.2.1⟩
    have := t2.eq gc.sy
    exact ⟨gle_tr (iz_le.mpr (by omega)) this.1, gle_tr this.2 (iz_le.mpr (by omega))⟩
