/-! WHAT IS BORN STANDS SORTED -/
def SBe (a i : Nat) : Prop := SBn a i ∨ SSo a i ∨ (a = 100 ∧ i = 45)
/-- the row of all that is born by day three, by words -/
def Born (m : Mem) (N P : Nat) (lo ro : Nat → List Nat) (st d : Nat → Nat) (B : List Nat) : Prop := RT m N P lo ro st d BF ∧ mGet m 100 44 = (B.length : Int) ∧ Row m 134 0 B ∧ (∀ o, o ∈ B → o < N) ∧ B.length ≤ 67 ∧ Srt (B.map (fun o => wd (d o))) ∧ (∀ K, K ∈ BF ↔ ∃ o, o ∈ B ∧ d o = K)
theorem bears_ok {n s t q : Nat} {m : Mem} {T : Tb} (hn : BIG < n) (B0 : RB m T BF s t q) (h45 : mGet m 100 45 = 0) : Ok (f_X11_bears n m) (fun _ m' => (∃ N P lo ro st d B, Born m' N P lo ro st d B) ∧ Ch SBe m m') := by
  have B' := B0
  obtain ⟨b1, b2, b3, b4, b5, b6, b7, b8⟩ := B'
  have n4 := BIG_m hn
  unfold f_X11_bears
  rw [gtF_eq, h45, if_pos rfl]
  refine ok_calE (gathers_eq b1) ?_
  have pz : ∀ K : Mem → Option Rz, ptZ m 100 45 1 K = K (mSet m 100 45 1) := fun K => rfl
  rw [pz, stI0_ok (len := 200) rfl (by decide), ptF_eq]
  obtain ⟨m1, e1⟩ : ∃ m1, m1 = mSet (mSet (mSet m 100 45 1) 134 0 0) 100 44 1 := ⟨_, rfl⟩
  rw [← e1]
  have g1 : ∀ a i, mGet m1 a i = if a = 100 ∧ i = 44 then 1 else if a = 134 ∧ i = 0 then 0 else if a = 100 ∧ i = 45 then 1 else mGet m a i := fun a i => by rw [e1, mGet_mSet, mGet_mSet, mGet_mSet]; rfl
  have c1 : Ch SBe m m1 := by
    rw [e1]
    exact ((Ch.set (Or.inr (Or.inr ⟨rfl, rfl⟩))).tr (Ch.set (Or.inl (Or.inr (Or.inl rfl))))).tr (Ch.set (Or.inl (Or.inr (Or.inr (Or.inr ⟨rfl, Or.inl rfl⟩)))))
  have R1 : RSt m1 T BF s := b1.ext (fun a i z => by unfold RSc at z; rw [g1, if_neg (by omega), if_neg (by omega), if_neg (by omega)])
  refine days_ok hn R1 (by rw [g1, if_pos ⟨rfl, rfl⟩]) (by rw [g1, if_neg (by omega), if_pos ⟨rfl, rfl⟩]) (by rw [g1, if_neg (by omega), if_neg (by omega), if_neg (by omega)]; exact b3) (by omega) (by omega) (fun m2 T2 s2 B R2 be s22 t2 c2 => ?_)
  obtain ⟨⟨h44, rB, bN, l67⟩, nd, all⟩ := be
  have N2 := R2.1.nn
  have c12 : Ch SBe m m2 := c1.tr (c2.weak (fun a i z => Or.inl z))
  have fl2 : ∀ x, x < T2.N → mGet m2 111 x = 0 ∨ mGet m2 111 x = 1 := fun x hx => (R2.2.2.2.2.2 x hx).imp id (fun h => h.2)
  have S2 : SrF m2 T2.N T2.lo T2.ro T2.d := fun g hg h1 => by
    rcases R2.2.2.2.2.2 g hg with h | ⟨rfl, _⟩
    · rw [h] at h1; cases h1
    · have e : ∀ o, ¬ o ∈ T2.lo 0 ++ T2.ro 0 := fun o ho => absurd (R2.1.lt hg ho) (Nat.not_lt_zero _)
      have e1 : T2.lo 0 = [] := List.eq_nil_iff_forall_not_mem.mpr (fun o ho => e o (List.mem_append_left _ ho))
      have e2 : T2.ro 0 = [] := List.eq_nil_iff_forall_not_mem.mpr (fun o ho => e o (List.mem_append_right _ ho))
      rw [e1, e2]
      exact ⟨List.Pairwise.nil, List.Pairwise.nil, fun o ho => by cases ho⟩
  refine ok_up1 (i := 0) B.length (fun k m3 => ∃ lo ro : Nat → List Nat, RT m3 T2.N T2.P lo ro T2.st T2.d BF ∧ SrF m3 T2.N lo ro T2.d ∧ (∀ x, x < T2.N → mGet m3 111 x = 0 ∨ mGet m3 111 x = 1) ∧ (∀ o, o ∈ B.take k → mGet m3 111 o = 1) ∧ Ch SSo m2 m3) (fun w k m3 hk hI hw => ?_) (fun w m3 hI => ?_) n m2 (Nat.zero_le _) ⟨T2.lo, T2.ro, R2.1, S2, fl2, (fun o ho => by cases ho), Ch.rf _ _⟩ (by omega)
  · obtain ⟨lo, ro, R3, S3, fl3, o3, c3⟩ := hI
    have u3 : ∀ a i, ¬ SSo a i → mGet m3 a i = mGet m2 a i := c3.2
    have e := rB k hk
    rw [Nat.zero_add] at e
    have bk := bN _ (List.getElem_mem hk)
    rw [gtF_eq, u3 _ _ (by unfold SSo SAh; omega), h44, if_pos (by omega), ldI_ok (len := 200) rfl (by omega), u3 _ _ (by unfold SSo SAh; omega), e]
    have b40 := R3.bd bk
    refine ok_cal (sorts_ok n4 60 B[k] lo ro m3 R3 S3 fl3 bk (by omega)) (fun _ m4 hq => ?_)
    obtain ⟨lo4, ro4, R4, S4, fl4, o4, m4', _, c4⟩ := hq
    rw [w32_1 (by omega)]
    refine hw m4 ⟨lo4, ro4, R4, S4, fl4, fun o ho => ?_, c3.tr c4⟩
    rw [take_s hk] at ho
    rcases List.mem_append.mp ho with h | h
    · exact m4' o (o3 o h)
    · rw [List.mem_singleton.mp h]; exact o4
  · obtain ⟨lo, ro, R3, S3, fl3, o3, c3⟩ := hI
    rw [List.take_length] at o3
    have u3 : ∀ a i, ¬ SSo a i → mGet m3 a i = mGet m2 a i := c3.2
    rw [gtF_eq, u3 _ _ (by unfold SSo SAh; omega), h44, if_neg (by omega), gtF_eq, u3 _ _ (by unfold SSo SAh; omega), h44]
    have BFo : ∀ o, o < T2.N → T2.d o ∈ BF := fun o ho => (R3.2.2.1 o ho).2.2.2.2.2
    have h9 : ∀ x, x ∈ BF → bd x ≤ 9 := fun x hx => by have := BF_bd hx; omega
    have inj := R3.2.2.2.1
    have row3 : Row m3 134 0 B := rB.ext (fun k hk => u3 _ _ (by unfold SSo SAh; omega))
    have sr := sortsRow_ok (c := 134) (p := 0) (len := 200) (B := T2.N) n4 h9 R3 (Nat.le_refl _) (Or.inr ⟨rfl, rfl⟩) (by omega) row3 (fun x hx => ⟨bN x hx, o3 x hx, fits_128 (BFo x (bN x hx))⟩) (nodup_mapW nd (fun x hx y hy e => inj x y (bN x hx) (bN y hy) (wd_inj (R3.can (bN x hx)) (R3.can (bN y hy)) (h9 _ (BFo x (bN x hx))) (h9 _ (BFo y (bN y hy))) e))) (fun m4 c4 => ⟨(R3.ga (Nat.le_refl _)).ext (P := T2.P) (fun g hg => (R3.2.1 g hg).2.1) (fun a i z => c4.2 a i (by unfold SQ SAh; omega)), S3.ext (fun i => c4.2 _ _ (by unfold SQ SAh; omega))⟩)
    rw [Nat.zero_add] at sr
    refine ok_cal sr (fun _ m4 hq => ?_)
    obtain ⟨L', pL, rL, sL, c4⟩ := hq
    have u4 : ∀ a i, ¬ SQ 134 0 B.length a i → mGet m4 a i = mGet m3 a i := c4.2
    have lL := pL.length_eq
    refine ok_rt ⟨⟨T2.N, T2.P, lo, ro, T2.st, T2.d, L', R3.ext (fun a i z => u4 a i (by unfold RCe at z; unfold SQ SAh; omega)), ?_, rL, fun o ho => bN o (pL.mem_iff.mp ho), by omega, sL, fun K => ⟨fun hK => ?_, fun ⟨o, ho, e⟩ => by rw [← e]; exact BFo o (bN o (pL.mem_iff.mp ho))⟩⟩, (c12.tr (c3.weak (fun a i z => Or.inr (Or.inl z)))).tr (c4.weak (fun a i z => ?_))⟩
    · rw [u4 _ _ (by unfold SQ SAh; omega), u3 _ _ (by unfold SSo SAh; omega), h44, lL]
    · obtain ⟨o, ho, e⟩ := all K hK
      exact ⟨o, pL.mem_iff.mpr ho, e⟩
    · unfold SQ SAh at z
      unfold SBe SBn SSo SAh
      omega
