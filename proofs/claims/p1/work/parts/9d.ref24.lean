/-! THE REFERENCE'S START -/
def T0 : Tb := (1, 0, fun _ => [], fun _ => [], fun _ => 0, fun _ => 0)
theorem rstart_ok {n : Nat} (hn : BIG < n) : Ok (f_X11_tail n mz) (fun _ m => (∀ F : List Nat, F.length ≤ 200 → (∀ x, x ∈ F → bd x ≤ 40) → 0 ∈ F → RB m T0 F 0 0 0) ∧ (mGet m 110 0 = 1) ∧ m.2 = mz.2 ∧ ∀ a i, ¬ ((a = 100 ∧ (i = 15 ∨ i = 16 ∨ i = 23 ∨ i = 24)) ∨ (103 ≤ a ∧ a ≤ 115)) → mGet m a i = 0) := by
  have n3 := BIG_n hn
  unfold f_X11_tail
  rw [ptF_eq, ptF_eq]
  obtain ⟨m1, e1⟩ : ∃ m1, m1 = mSet (mSet mz 100 23 0) 100 24 0 := ⟨_, rfl⟩
  rw [← e1]
  have g1 : ∀ a i, mGet m1 a i = 0 := fun a i => by
    rw [e1, mGet_mSet, mGet_mSet, w32_0', mz_0]
    split
    · rfl
    · split <;> rfl
  have H1 : Hd m1 [] [] := ⟨g1 _ _, g1 _ _, (fun k hk => by cases hk), (fun k hk => by cases hk), by decide, by decide⟩
  obtain ⟨hb1, hb2⟩ := hs_bd [] []
  obtain ⟨h, eh⟩ : ∃ h : Nat, hs [] [] = (h : Int) := ⟨(hs [] []).toNat, by omega⟩
  have h16 : h < 16384 := by omega
  have mk0 : MK (fun _ => 0) [] [] = 0 := op_ext (fun w hw x => by
    rw [op_0]
    refine Bool.eq_false_iff.mpr (fun q => ?_)
    rcases (by omega : w = 0 ∨ w = 1) with rfl | rfl
    · obtain ⟨o, ho, _⟩ := op_MKL.mp q; cases ho
    · obtain ⟨o, ho, _⟩ := op_MKR.mp q; cases ho)
  have c0 : can 0 := can_hc 0
  refine ok_cal (P := fun _ m => (∀ F : List Nat, F.length ≤ 200 → (∀ x, x ∈ F → bd x ≤ 40) → 0 ∈ F → RB m T0 F 0 0 0) ∧ (mGet m 110 0 = 1) ∧ m.2 = mz.2 ∧ ∀ a i, ¬ ((a = 100 ∧ (i = 15 ∨ i = 16 ∨ i = 23 ∨ i = 24)) ∨ (103 ≤ a ∧ a ≤ 115)) → mGet m a i = 0) ?_ (fun v m hq => ok_rt hq)
  unfold f_X11_found
  refine ok_calE (hash_eq H1 n3) ?_
  rw [eh, ldI_ok (len := 16384) rfl h16, g1]
  refine ok_nm ?_
  obtain ⟨f, ef⟩ : ∃ f, n = f + 1 := ⟨n - 1, by omega⟩
  obtain ⟨z, ez⟩ : ∃ z : Int, w32 (0 - 1) = z := ⟨_, rfl⟩
  have zn : z < 0 := by rw [← ez]; decide +kernel
  rw [ez]
  have add := added_ok (n := n) (N := 0) (P := 0) (h := h) (l := []) (r := []) (d := fun _ => 0) (g1 _ _) (g1 _ _) (by decide) (by decide) H1 h16 (fun o ho => by cases ho) (by rw [mk0]; exact c0) (by rw [mk0, bd_0]; decide) List.nodup_nil List.nodup_nil (fun x hx => by cases hx) (by decide) n3
  rw [mk0] at add
  rw [ef]
  rw [ef] at add
  show Ok (if z < 0 then _ else _) _
  rw [if_pos zn]
  refine ok_cal add (fun v m2 hq => ok_rt ?_)
  obtain ⟨rfl, ch, p15, p16, gr, at1, sm0, n112, n115, n114, n111⟩ := hq
  have un : ∀ a i, ¬ SAd 0 h 0 0 a i → mGet m2 a i = 0 := fun a i z => (ch.2 a i z).trans (g1 a i)
  have n115' : mGet m2 115 0 = 0 := n115.trans (g1 _ _)
  refine ⟨fun F f1 f2 f3 => ⟨⟨⟨⟨p15, p16, Nat.le_refl _, Nat.zero_le _⟩, fun g hg => ?_, fun g hg => ⟨List.nodup_nil, List.nodup_nil, (fun o ho => by cases ho), mk0.symm, c0, f3⟩, fun g g2 hg hg2 _ => ?_, ⟨f1, f2⟩, fun k hk => ?_, fun g g2 lt hg2 => absurd lt (by have : g2 < 1 := hg2; omega)⟩, fun k hk => Or.inl (un _ _ (by unfold SAd; omega)), fun k hk => Or.inl (un _ _ (by unfold SAd; omega)), fun g hg => Or.inl ?_, ⟨un _ _ (by unfold SAd; omega), fun x hx => ?_⟩, fun g hg => ?_⟩, by decide, un _ _ (by unfold SAd; omega), by decide, ⟨un _ _ (by unfold SAd; omega), fun x => ?_⟩, by decide, un _ _ (by unfold SAd; omega), fun i hi => un _ _ (by unfold SAd; omega)⟩, sm0 rfl rfl, ?_, fun a i z => un a i (by unfold SAd; omega)⟩
  · have : g = 0 := by have : g < 1 := hg; omega
    subst this
    exact ⟨gr, Nat.le_refl _, at1⟩
  · have h1 : g < 1 := hg
    have h2 : g2 < 1 := hg2
    omega
  · by_cases q : k = h
    · subst q
      refine ⟨[0], ⟨n114, n115'⟩, Nat.le_refl _, fun g hg => ?_, fun g hg _ => ?_⟩
      · rw [List.mem_singleton] at hg; subst hg; exact Nat.one_pos
      · have : g < 1 := hg
        rw [List.mem_singleton]; omega
    · refine ⟨[], un _ _ (by unfold SAd; omega), Nat.zero_le _, (fun g hg => by cases hg), fun g hg e => ?_⟩
      have e2 : hs [] [] = (k : Int) := e
      rw [eh] at e2
      omega
  · have : g = 0 := by have : g < 1 := hg; omega
    subst this
    exact n112
  · rw [un _ _ (by unfold SAd; omega), un _ _ (by unfold SAd; omega)]
    exact ⟨⟨by decide, by decide⟩, ⟨by decide, by decide⟩⟩
  · have : g = 0 := by have : g < 1 := hg; omega
    subst this
    exact n111.imp id (fun h => ⟨rfl, h.2⟩)
  · rw [un _ _ (by unfold SAd; omega)]
    exact ⟨by decide, by decide⟩
  · rw [ch.1, e1]
    rfl
