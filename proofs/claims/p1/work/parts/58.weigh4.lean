/-! THE WEIGHER: the rule, by followers -/
theorem DU.mono {m m' : Mem} {o1 o2 g h : Nat} {mir : Bool} (D : DU m o1 o2 g h mir) (e : ∀ a i, SD a → mGet m' a i = mGet m a i) : DU m' o1 o2 g h mir := ⟨(e 33 2 (by decide)).trans D.1, (e 33 3 (by decide)).trans D.2.1, fun i hi => ⟨(D.2.2 i hi).1.eq (e 34 i (by decide)), (D.2.2 i hi).2.eq (e 35 i (by decide))⟩⟩
/-- which follower -/
noncomputable def ixo (g x : Nat) : Nat := @dite Nat (∃ j, j < wid g ∧ en g j = x) (Classical.propDecidable _) (fun h => Classical.choose h) (fun _ => 0)
theorem ixo_en {g j : Nat} (G : GX g) (hj : j < wid g) : ixo g (en g j) = j := by
  have h : ∃ i, i < wid g ∧ en g i = en g j := ⟨j, hj, rfl⟩
  unfold ixo
  rw [dif_pos h]
  obtain ⟨h1, h2⟩ := Classical.choose_spec h
  exact G.2.1.inj h1 hj h2
/-- the weights of the options on one side -/
def Wl (w : Nat → Nat) (x : Nat) (t : Int) (k : Nat) : List Nat := (fr (fun j => x.testBit j) k).map (fun j => gadd (w j) (iz t))
theorem mem_Wl {w : Nat → Nat} {x k u : Nat} {t : Int} : u ∈ Wl w x t k ↔ ∃ j, j < k ∧ x.testBit j = true ∧ gadd (w j) (iz t) = u := by
  unfold Wl
  rw [List.mem_map]
  constructor
  · rintro ⟨j, h1, h2⟩
    obtain ⟨h3, h4⟩ := mem_fr.mp h1
    exact ⟨j, h3, h4, h2⟩
  · rintro ⟨j, h1, h2, h3⟩
    exact ⟨j, mem_fr.mpr ⟨h1, h2⟩, h3⟩
noncomputable def Wg (g k : Nat) (w : Nat → Nat) : Nat := mkg (Wl w (om g k 0) (-2) k) (Wl w (om g k 1) 2 k)
theorem op_WgL {g k u : Nat} {w : Nat → Nat} : op (Wg g k w) 0 u = true ↔ ∃ j, j < k ∧ (om g k 0).testBit j = true ∧ gadd (w j) (iz (-2)) = u := by unfold Wg; rw [op_mkgL, mem_Wl]
theorem op_WgR {g k u : Nat} {w : Nat → Nat} : op (Wg g k w) 1 u = true ↔ ∃ j, j < k ∧ (om g k 1).testBit j = true ∧ gadd (w j) (iz 2) = u := by unfold Wg; rw [op_mkgR, mem_Wl]
theorem Wt_fol {g k v : Nat} {w : Nat → Nat} (G : GX g) (hk : k < wid g) (hw : ∀ j, j < k → Wt (en g j) (w j)) (hr : Rule (en g k) (Wg g k w) v) : Wt (en g k) v := by
  have at0 : ∀ s x, s < 2 → op (en g k) s x = true → ∃ j, j < k ∧ (om g k s).testBit j = true ∧ en g j = x ∧ w (ixo g x) = w j := by
    intro s x hs hx
    obtain ⟨j, h1, rfl⟩ := (G.2.2.1 k s x hk hs).mp hx
    have := (om_bit.mp h1).2.1
    exact ⟨j, this, h1, rfl, by rw [ixo_en G (by omega)]⟩
  refine Wt_rule (fun x => w (ixo g x)) (fun x hx => ?_) (fun u hu => ?_) (fun x hx => ?_) (fun u hu => ?_) (fun x hx => ?_) hr
  · show Wt x (w (ixo g x))
    rcases hx with hx | hx
    · obtain ⟨j, h1, _, h3, h4⟩ := at0 0 x (by decide) hx
      rw [h4, ← h3]
      exact hw j h1
    · obtain ⟨j, h1, _, h3, h4⟩ := at0 1 x (by decide) hx
      rw [h4, ← h3]
      exact hw j h1
  · obtain ⟨j, h1, h2, rfl⟩ := op_WgL.mp hu
    refine ⟨en g j, (G.2.2.1 k 0 _ hk (by decide)).mpr ⟨j, h2, rfl⟩, ?_⟩
    show geq _ (gadd (w (ixo g (en g j))) _)
    rw [ixo_en G (by omega)]
    exact geq_rfl _
  · obtain ⟨j, h1, h2, h3, h4⟩ := at0 0 x (by decide) hx
    refine ⟨_, op_WgL.mpr ⟨j, h1, h2, rfl⟩, ?_⟩
    show geq _ (gadd (w (ixo g x)) _)
    rw [h4]
    exact geq_rfl _
  · obtain ⟨j, h1, h2, rfl⟩ := op_WgR.mp hu
    refine ⟨en g j, (G.2.2.1 k 1 _ hk (by decide)).mpr ⟨j, h2, rfl⟩, ?_⟩
    show geq _ (gadd (w (ixo g (en g j))) _)
    rw [ixo_en G (by omega)]
    exact geq_rfl _
  · obtain ⟨j, h1, h2, h3, h4⟩ := at0 1 x (by decide) hx
    refine ⟨_, op_WgR.mpr ⟨j, h1, h2, rfl⟩, ?_⟩
    show geq _ (gadd (w (ixo g x)) _)
    rw [h4]
    exact geq_rfl _
/-- a weight is bounded by the place of its follower -/
def Nr (v k : Nat) : Prop := gle (iz (-(k : Int))) v ∧ gle v (iz (k : Int))
theorem Wg_near {g k : Nat} {w : Nat → Nat} (hw : ∀ j, j < k → Nr (w j) j) : Nr (Wg g k w) k := by
  constructor
  · refine gle_of (fun x hx => ?_) (fun y hy => ?_)
    · obtain ⟨h1, _⟩ := iz_L.mp hx
      omega
    · obtain ⟨j, h1, h2, rfl⟩ := op_WgR.mp hy
      intro q
      have := iz_le.mp (gle_tr (iz_shL.mpr (show gle (iz (-(j : Int) + 2 - 2)) (w j) by rw [show -(j : Int) + 2 - 2 = -(j : Int) by omega]; exact (hw j h1).1)) q)
      omega
  · refine gle_of (fun x hx => ?_) (fun y hy => ?_)
    · obtain ⟨j, h1, h2, rfl⟩ := op_WgL.mp hx
      intro q
      have := iz_le.mp (gle_tr q (iz_shR.mpr (show gle (w j) (iz ((j : Int) - 2 - -2)) by rw [show (j : Int) - 2 - -2 = (j : Int) by omega]; exact (hw j h1).2)))
      omega
    · obtain ⟨h1, _⟩ := iz_R.mp hy
      omega
theorem Nr.eq {v u k : Nat} (h : Nr v k) (e : geq v u) : Nr u k := ⟨e.r.mp h.1, e.l.mp h.2⟩
theorem Nr.z {v k : Nat} {n : Int} (h : Nr v k) (e : geq v (iz n)) : n.natAbs ≤ k := by
  have h1 := iz_le.mp (e.r.mp h.1)
  have h2 := iz_le.mp (e.l.mp h.2)
  omega
theorem Nr_z {k : Nat} {n : Int} (h : n.natAbs ≤ k) : Nr (iz n) k := ⟨iz_le.mpr (by omega), iz_le.mpr (by omega)⟩
/-- barred means what the rule says -/
theorem Bz_R {g k : Nat} {w d : Nat → Nat} (hd : ∀ j, (om g k 1).testBit j = true → geq (d j) (gadd (w j) (iz 2))) (z : Int) : Bz (om g k 1) true d (iz z) ↔ ¬ RW (Wg g k w) z := by
  constructor
  · rintro ⟨j, h1, h2⟩ q
    rw [if_pos rfl] at h2
    exact q _ (op_WgR.mpr ⟨j, (om_bit.mp h1).2.1, h1, rfl⟩) ((hd j h1).l.mp h2)
  · intro q
    apply Classical.byContradiction
    intro q2
    refine q (fun y hy q3 => q2 ?_)
    obtain ⟨j, h1, h2, rfl⟩ := op_WgR.mp hy
    exact ⟨j, h2, by rw [if_pos rfl]; exact (hd j h2).l.mpr q3⟩
theorem Bz_L {g k : Nat} {w d : Nat → Nat} (hd : ∀ j, (om g k 0).testBit j = true → geq (d j) (gadd (w j) (iz (-2)))) (z : Int) : Bz (om g k 0) false d (iz z) ↔ ¬ LW (Wg g k w) z := by
  constructor
  · rintro ⟨j, h1, h2⟩ q
    rw [if_neg (by decide)] at h2
    exact q _ (op_WgL.mpr ⟨j, (om_bit.mp h1).2.1, h1, rfl⟩) ((hd j h1).r.mp h2)
  · intro q
    apply Classical.byContradiction
    intro q2
    refine q (fun y hy q3 => q2 ?_)
    obtain ⟨j, h1, h2, rfl⟩ := op_WgL.mp hy
    exact ⟨j, h2, by rw [if_neg (by decide)]; exact (hd j h2).r.mpr q3⟩
/-- who has an option is barred, far enough -/
theorem Bz_farR {x k : Nat} {w d : Nat → Nat} {j : Nat} (hj : x.testBit j = true) (hjk : j < k) (hd : geq (d j) (gadd (w j) (iz 2))) (hw : Nr (w j) j) : Bz x true d (iz ((k : Int) + 1)) := ⟨j, hj, by
  rw [if_pos rfl]
  exact hd.l.mpr (iz_shR.mpr (gle_tr hw.2 (iz_le.mpr (by omega))))⟩
theorem Bz_farL {x k : Nat} {w d : Nat → Nat} {j : Nat} (hj : x.testBit j = true) (hjk : j < k) (hd : geq (d j) (gadd (w j) (iz (-2)))) (hw : Nr (w j) j) : Bz x false d (iz (-((k : Int) + 1))) := ⟨j, hj, by
  rw [if_neg (by decide)]
  exact hd.r.mpr (iz_shL.mpr (gle_tr (iz_le.mpr (by omega)) hw.1))⟩
/-- small games that are not nothing have options on both sides -/
theorem sm_both {g k : Nat} (G : GX g) (s : sm g) (hk : k < wid g) (h0 : 0 < k) : ∀ w, w < 2 → ∃ j, j < k ∧ (om g k w).testBit j = true := by
  intro w hw
  have ne : en g k ≠ 0 := fun e => by
    have := G.2.1.inj hk (show 0 < wid g by omega) (e.trans G.2.1.zero.symm)
    omega
  have f := G.2.1.1 k hk
  have nb : ¬ Bare (en g k) 0 ∧ ¬ Bare (en g k) 1 := by
    obtain ⟨y, hy⟩ := op_ex ne
    rcases hy with hy | hy
    · have := not_bare hy
      exact ⟨this, fun q => this ((s _ f).mpr q)⟩
    · have := not_bare hy
      exact ⟨fun q => this ((s _ f).mp q), this⟩
  have nbw : ¬ Bare (en g k) w := by
    rcases (by omega : w = 0 ∨ w = 1) with rfl | rfl
    · exact nb.1
    · exact nb.2
  apply Classical.byContradiction
  intro q
  refine nbw (fun x => ?_)
  cases e : op (en g k) w x
  · rfl
  · obtain ⟨j, h1, h2⟩ := (G.2.2.1 k w x hk hw).mp e
    exact absurd ⟨j, (om_bit.mp h1).2.1, h1⟩ q
/-- who is ahead of a heap far off -/
theorem far_vd {g k : Nat} (cg : can g) (W10 : wid g ≤ 10) (f : fol g (en g k)) : (vd (gadd (en g k) (gneg (hc 10))) = 1 ↔ El (en g k)) ∧ (vd (gadd (en g k) (gneg (hc 10))) = -1 ↔ Er (en g k)) := by
  have rm : Rm (en g k) 10 := by
    intro x hx e
    have fx := fol_tr f hx
    have ex := can_uniq (can_fol cg fx) (can_hc 10) e
    have := wid_fol fx
    rw [ex, wid_hc] at this
    omega
  have e1 := El_at rm
  have e2 := Er_at rm
  have b1 : gleB 0 (gadd (en g k) (gneg (hc 10))) = true ↔ El (en g k) := by rw [gleB_iff, sub_gle, e1]
  have b2 : gleB (gadd (en g k) (gneg (hc 10))) 0 = true ↔ Er (en g k) := by rw [gleB_iff, gle_sub, e2]
  have nb : El (en g k) → ¬ Er (en g k) := El.notEr
  unfold vd
  cases q1 : gleB 0 (gadd (en g k) (gneg (hc 10))) <;> cases q2 : gleB (gadd (en g k) (gneg (hc 10))) 0 <;> rw [q1] at b1 <;> rw [q2] at b2
  · exact ⟨⟨fun h => absurd h (by decide), fun h => absurd (b1.mpr h) (by decide)⟩, ⟨fun h => absurd h (by decide), fun h => absurd (b2.mpr h) (by decide)⟩⟩
  · exact ⟨⟨fun h => absurd h (by decide), fun h => absurd (b1.mpr h) (by decide)⟩, ⟨fun _ => b2.mp rfl, fun _ => rfl⟩⟩
  · exact ⟨⟨fun _ => b1.mp rfl, fun _ => rfl⟩, ⟨fun h => absurd h (by decide), fun h => absurd (b2.mpr h) (by decide)⟩⟩
  · exact absurd (b2.mp rfl) (nb (b1.mp rfl))
