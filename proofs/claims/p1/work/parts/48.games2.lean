/-! THE DUEL: who wins each sum of two followers -/
/-- what is asked of a game in a duel -/
def GX (g : Nat) : Prop := wid g ≤ 11 ∧ Enum g (en g) ∧ (∀ k w x, k < wid g → w < 2 → (op (en g k) w x = true ↔ ∃ j, (om g k w).testBit j = true ∧ en g j = x)) ∧ en g (wid g - 1) = g
theorem GX.of {m : Mem} {o g : Nat} (h : GOb m o g) (cg : can g) (hW : wid g ≤ 10) : GX g := by
  have h9 : bd g ≤ 9 := by have := bd_wid g; omega
  exact ⟨by omega, h.enum, fun k w x hk hw => om_op cg h9 h.enum hk hw, h.enum.top cg h9⟩
theorem fol_hc {n x : Nat} : fol (hc n) x ↔ ∃ k, k ≤ n ∧ x = hc k := by
  constructor
  · have aux : ∀ N n x, n ≤ N → fol (hc n) x → ∃ k, k ≤ n ∧ x = hc k := by
      intro N
      induction N with
      | zero =>
        intro n x hn h
        rcases (fol_def _ _).mp h with rfl | ⟨y, hy, _⟩
        · exact ⟨n, Nat.le_refl _, rfl⟩
        · obtain ⟨k, hk, _⟩ := hy.elim (op_hc (by decide)).mp (op_hc (by decide)).mp
          omega
      | succ N ih =>
        intro n x hn h
        rcases (fol_def _ _).mp h with rfl | ⟨y, hy, h2⟩
        · exact ⟨n, Nat.le_refl _, rfl⟩
        · obtain ⟨k, hk, rfl⟩ := hy.elim (op_hc (by decide)).mp (op_hc (by decide)).mp
          obtain ⟨j, hj, rfl⟩ := ih k x (by omega) h2
          exact ⟨j, by omega, rfl⟩
    exact aux n n x (Nat.le_refl _)
  · rintro ⟨k, hk, rfl⟩
    rcases (by omega : k = n ∨ k < n) with rfl | h
    · exact fol_rf _
    · exact fol_op (w := 0) (by decide) ((op_hc (by decide)).mpr ⟨k, h, rfl⟩) (fol_rf _)
theorem wid_hc (n : Nat) : wid (hc n) = n + 1 := by
  rw [wid_of (l := (List.range (n + 1)).map hc) (nodup_map List.nodup_range (fun a _ b _ e => hc_inj e)) (fun x => ?_), List.length_map, List.length_range]
  rw [List.mem_map, fol_hc]
  constructor
  · rintro ⟨k, hk, rfl⟩
    exact ⟨k, by have := List.mem_range.mp hk; omega, rfl⟩
  · rintro ⟨k, hk, rfl⟩
    exact ⟨k, List.mem_range.mpr (by omega), rfl⟩
theorem wd_hc10 : wd (hc 10) = [42, 49, 48] := by
  have o : ∀ w, w < 2 → op (hc 10) w (hc 0) = true := fun w hw => (op_hc hw).mpr ⟨0, by decide, rfl⟩
  rw [wd_hp (not_bare (o 0 (by decide))) (not_bare (o 1 (by decide))) (by rw [bd_hc]), bd_hc]
  rfl
theorem hc_ne0 {k : Nat} (h : 0 < k) : hc k ≠ 0 := fun e => by
  rw [← hc_0] at e
  have := hc_inj e
  omega
theorem fo_hc {j k : Nat} (h : j < k) (hk : k ≤ 10) : fo (hc j) (hc k) := by
  by_cases q : j = 0
  · exact Or.inl ⟨by rw [q]; rfl, hc_ne0 (by omega)⟩
  · refine Or.inr ⟨hc_ne0 (by omega), hc_ne0 (by omega), ?_⟩
    rw [wd_hcs (by omega) (by omega)]
    by_cases q2 : k = 10
    · rw [q2, wd_hc10]
      refine wlt_len ?_
      by_cases q3 : j > 1
      · rw [if_pos q3]; exact (by decide : 2 < 3)
      · rw [if_neg q3]; exact (by decide : 1 < 3)
    · rw [wd_hcs (by omega) (by omega), if_pos (show k > 1 by omega)]
      by_cases q3 : j > 1
      · rw [if_pos q3]; exact wlt_2 (by omega)
      · rw [if_neg q3]; exact wlt_len (by show 1 < 2; decide)
theorem enum_hc {n : Nat} (h : n ≤ 10) : Enum (hc n) hc := by
  rw [Enum, wid_hc]
  exact ⟨fun k hk => fol_hc.mpr ⟨k, by omega, rfl⟩, fun x hx => by
    obtain ⟨k, hk, rfl⟩ := fol_hc.mp hx
    exact ⟨k, by omega, rfl⟩, fun j k hj hk => fo_hc hj (by omega)⟩
theorem GX_far : GX (hc 10) := by
  have e1 := enum_hc (n := 10) (by decide)
  have e2 := en_spec e1
  have e3 : ∀ k, k < 11 → en (hc 10) k = hc k := fun k hk => e2.uniq e1 k (by rw [wid_hc]; omega)
  refine ⟨by rw [wid_hc]; omega, e2, fun k w x hk hw => ?_, by rw [wid_hc]; exact e3 10 (by decide)⟩
  rw [wid_hc] at hk
  rw [e3 k (by omega), op_hc hw]
  constructor
  · rintro ⟨j, hj, rfl⟩
    exact ⟨j, om_bit.mpr ⟨by rw [wid_hc]; omega, hj, by rw [e3 k (by omega), e3 j (by omega)]; exact (op_hc hw).mpr ⟨j, hj, rfl⟩⟩, e3 j (by omega)⟩
  · rintro ⟨j, hj, rfl⟩
    have := (om_bit.mp hj).2.1
    exact ⟨j, this, e3 j (by omega)⟩
/-- two followers together, the second one as it is or its negative -/
noncomputable def dpos (g h : Nat) (mir : Bool) (i j : Nat) : Nat := gadd (en g i) (if mir then gneg (en h j) else en h j)
def dwho (mir : Bool) (w : Nat) : Nat := if mir then 1 - w else w
theorem dpos_op {g h : Nat} {mir : Bool} {i j w z : Nat} (Gg : GX g) (Gh : GX h) (hi : i < wid g) (hj : j < wid h) (hw : w < 2) : op (dpos g h mir i j) w z = true ↔ (∃ k, (om g i w).testBit k = true ∧ z = dpos g h mir k j) ∨ ∃ b, (om h j (dwho mir w)).testBit b = true ∧ z = dpos g h mir i b := by
  have hw2 : dwho mir w < 2 := by unfold dwho; cases mir <;> simp <;> omega
  have sec : ∀ y, op (if mir then gneg (en h j) else en h j) w y = true ↔ ∃ b, (om h j (dwho mir w)).testBit b = true ∧ (if mir then gneg (en h b) else en h b) = y := by
    intro y
    cases mir
    · exact Gh.2.2.1 j w y hj hw
    · rw [if_pos rfl, op_gneg hw]
      show (∃ x, op (en h j) (1 - w) x = true ∧ gneg x = y) ↔ _
      constructor
      · rintro ⟨x, h1, rfl⟩
        obtain ⟨b, h2, rfl⟩ := (Gh.2.2.1 j (1 - w) x hj (by omega)).mp h1
        exact ⟨b, h2, rfl⟩
      · rintro ⟨b, h1, rfl⟩
        exact ⟨en h b, (Gh.2.2.1 j (1 - w) _ hj (by omega)).mpr ⟨b, h1, rfl⟩, rfl⟩
  unfold dpos
  rw [op_gadd hw]
  constructor
  · rintro (⟨x, hx, rfl⟩ | ⟨y, hy, rfl⟩)
    · obtain ⟨k, h1, rfl⟩ := (Gg.2.2.1 i w x hi hw).mp hx
      exact Or.inl ⟨k, h1, rfl⟩
    · obtain ⟨b, h1, rfl⟩ := (sec y).mp hy
      exact Or.inr ⟨b, h1, rfl⟩
  · rintro (⟨k, h1, rfl⟩ | ⟨b, h1, rfl⟩)
    · exact Or.inl ⟨_, (Gg.2.2.1 i w _ hi hw).mpr ⟨k, h1, rfl⟩, rfl⟩
    · exact Or.inr ⟨_, (sec _).mpr ⟨b, h1, rfl⟩, rfl⟩
/-- row i of a table holds P up to j -/
def DR (m : Mem) (a : Nat) (P : Nat → Nat → Prop) (i j : Nat) : Prop := ∃ x : Nat, mGet m a i = (x : Int) ∧ x < 2 ^ j ∧ ∀ b, b < j → (x.testBit b = true ↔ P i b)
theorem kI34 (m : Mem) {a : Nat} (h : a = 34 ∨ a = 35) : sKind m a = (1, 11) := by
  rcases h with rfl | rfl <;> rfl
theorem p2_11 {f : Nat} (h : f ≤ 11) : 2 ^ f ≤ 2048 := Nat.pow_le_pow_right (by decide) h
theorem iand0 {x y : Nat} (hx : x < 2147483648) (hy : y < 2147483648) : iand (x : Int) (y : Int) = 0 ↔ ∀ c, ¬ (x.testBit c = true ∧ y.testBit c = true) := by
  rw [iand_nn hx hy]
  have h := and_ne0 x y
  constructor
  · intro e c hc
    exact h.mpr ⟨c, hc⟩ (by omega)
  · intro e
    have : x &&& y = 0 := Classical.byContradiction fun q => by
      obtain ⟨c, hc⟩ := h.mp q
      exact e c hc
    rw [this]; rfl
theorem canReach_ok {n o1 o2 g h i j w a : Nat} {m : Mem} {mir : Bool} {P : Nat → Nat → Prop} (hn : 300 < n) (O1 : GOb m o1 g) (O2 : GOb m o2 h) (Wg : wid g ≤ 11) (Wh : wid h ≤ 11) (f2 : mGet m 33 2 = (o1 : Int)) (f3 : mGet m 33 3 = (o2 : Int)) (f4 : mGet m 33 4 = b2i mir) (hi : i < wid g) (hj : j < wid h) (hw : w < 2) (ha : a = 34 ∨ a = 35) (hk : ∀ k, k < i → DR m a P k (wid h)) {J : Nat} (hJ : j ≤ J) (hJ2 : J ≤ 11) (hij : DR m a P i J) : ∃ b, f_X0_canReach n (i : Int) (j : Int) (w : Int) a m = some (b2i b, m) ∧ (b = true ↔ (∃ k, (om g i w).testBit k = true ∧ P k j) ∨ ∃ b, (om h j (dwho mir w)).testBit b = true ∧ P i b) := by
  obtain ⟨a1, a2, a3, _⟩ := O1.o
  obtain ⟨c1, c2, c3, _⟩ := O2.o
  have hw2 : dwho mir w < 2 := by unfold dwho; cases mir <;> simp <;> omega
  have main : Ok (f_X0_canReach n (i : Int) (j : Int) (w : Int) a m) (fun v m' => m' = m ∧ ((v = 1 ∧ ((∃ k, (om g i w).testBit k = true ∧ P k j) ∨ ∃ b, (om h j (dwho mir w)).testBit b = true ∧ P i b)) ∨ (v = 0 ∧ ¬ ((∃ k, (om g i w).testBit k = true ∧ P k j) ∨ ∃ b, (om h j (dwho mir w)).testBit b = true ∧ P i b)))) := by
    unfold f_X0_canReach
    dsimp only [gtG, gtF]
    rw [f2, Int.toNat_natCast, isD_ok a1, isG_ok a3 a1]
    refine ok_calE (options_eq O1 Wg hw) ?_
    have o1l := om_lt11 Wg i w
    have o2l := om_lt11 Wh j (dwho mir w)
    refine ok_up1 i (fun k m1 => m1 = m ∧ ∀ c, c < k → ¬ ((om g i w).testBit c = true ∧ P c j)) (fun w1 k m1 hk1 hI hw1 => ?_) (fun w1 m1 hI => ?_) n 0 m (Nat.zero_le _) ⟨rfl, fun c hc => absurd hc (Nat.not_lt_zero _)⟩ (by omega)
    · obtain ⟨rfl, hI⟩ := hI
      dsimp only [jn]
      rw [if_pos (by omega), lenA_ok (kI34 _ ha) (by decide) (by decide) (by decide), if_pos (by omega), k_1 (by omega)]
      cases e : (om g i w).testBit k
      · rw [if_pos ((ibit0 (by omega) (by omega)).mpr e)]
        refine hw1 m1 ⟨rfl, fun c hc q => ?_⟩
        rcases (by omega : c < k ∨ c = k) with h1 | rfl
        · exact hI c h1 q
        · rw [e] at q; cases q.1
      · rw [if_neg (fun q => by rw [(ibit0 (by omega) (by omega)).mp q] at e; cases e), ldI_ok (kI34 _ ha) (by omega)]
        obtain ⟨x, x1, x2, x3⟩ := hk k hk1
        have x2b := p2_11 Wh
        rw [x1]
        by_cases q : x.testBit j = true
        · rw [if_neg (fun q2 => by rw [(ibit0 (by omega) (by omega)).mp q2] at q; cases q)]
          exact ok_rtZ (Or.inr rfl) ⟨rfl, Or.inl ⟨rfl, Or.inl ⟨k, e, (x3 j hj).mp q⟩⟩⟩
        · have q0 : x.testBit j = false := by cases e2 : x.testBit j <;> simp_all
          rw [if_pos ((ibit0 (by omega) (by omega)).mpr q0)]
          refine hw1 m1 ⟨rfl, fun c hc q2 => ?_⟩
          rcases (by omega : c < k ∨ c = k) with h1 | rfl
          · exact hI c h1 q2
          · exact q ((x3 j hj).mpr q2.2)
    · obtain ⟨rfl, hI⟩ := hI
      dsimp only [jn]
      rw [if_neg (by omega), f3, f4, Int.toNat_natCast]
      have no1 : ¬ ∃ k, (om g i w).testBit k = true ∧ P k j := fun ⟨k, h1, h2⟩ => hI k (om_bit.mp h1).2.1 ⟨h1, h2⟩
      have tail : Ok (isD o2 <| isG m1 o2 <| cal (f_X1_options n o2 (j : Int) ((dwho mir w : Nat) : Int) m1) fun x77 m77 => if (i : Int) < 0 then rtZ 0 m77 else lenA m77 a fun x89 => if (i : Int) < x89 then ldI m77 a (i : Int) fun x96 => if iand x96 x77 = 0 then rtZ 0 m77 else rtZ 1 m77 else rtZ 0 m77) (fun v m' => m' = m1 ∧ ((v = 1 ∧ ((∃ k, (om g i w).testBit k = true ∧ P k j) ∨ ∃ b, (om h j (dwho mir w)).testBit b = true ∧ P i b)) ∨ (v = 0 ∧ ¬ ((∃ k, (om g i w).testBit k = true ∧ P k j) ∨ ∃ b, (om h j (dwho mir w)).testBit b = true ∧ P i b)))) := by
        rw [isD_ok c1, isG_ok c3 c1]
        refine ok_calE (options_eq O2 Wh hw2) ?_
        rw [if_neg (by omega), lenA_ok (kI34 _ ha) (by decide) (by decide) (by decide), if_pos (by omega), ldI_ok (kI34 _ ha) (by omega)]
        obtain ⟨x, x1, x2, x3⟩ := hij
        have x2b := p2_11 hJ2
        rw [x1]
        by_cases q : iand (x : Int) ((om h j (dwho mir w) : Nat) : Int) = 0
        · rw [if_pos q]
          refine ok_rtZ (Or.inl rfl) ⟨rfl, Or.inr ⟨rfl, fun hh => hh.elim no1 (fun ⟨b, h1, h2⟩ => ?_)⟩⟩
          exact (iand0 (by omega) (by omega)).mp q b ⟨(x3 b (by have := (om_bit.mp h1).2.1; omega)).mpr h2, h1⟩
        · rw [if_neg q]
          refine ok_rtZ (Or.inr rfl) ⟨rfl, Or.inl ⟨rfl, Or.inr ?_⟩⟩
          apply Classical.byContradiction
          intro hno
          refine q ((iand0 (by omega) (by omega)).mpr (fun c hc => hno ⟨c, hc.2, (x3 c (by have := (om_bit.mp hc.2).2.1; omega)).mp hc.1⟩))
      cases mir
      · rw [if_pos (show b2i false = 0 from rfl)]
        exact tail
      · rw [if_neg (by decide)]
        have e1 : w32 (1 - (w : Int)) = ((dwho true w : Nat) : Int) := by
          rw [w32_id (by omega) (by omega)]
          show 1 - (w : Int) = ((1 - w : Nat) : Int)
          omega
        rw [e1]
        exact tail
  obtain ⟨v, m', h1, rfl, h2⟩ := main
  rcases h2 with ⟨rfl, h2⟩ | ⟨rfl, h2⟩
  · exact ⟨true, h1, ⟨fun _ => h2, fun _ => rfl⟩⟩
  · exact ⟨false, h1, ⟨(fun q => by cases q), fun q => absurd q h2⟩⟩
/-- the duel's rows are filled -/
def DU (m : Mem) (o1 o2 g h : Nat) (mir : Bool) : Prop := mGet m 33 2 = (o1 : Int) ∧ mGet m 33 3 = (o2 : Int) ∧ ∀ i, i < wid g → DR m 34 (fun i j => gle 0 (dpos g h mir i j)) i (wid h) ∧ DR m 35 (fun i j => gle (dpos g h mir i j) 0) i (wid h)
theorem DR.eq {m m' : Mem} {a i j : Nat} {P : Nat → Nat → Prop} (h : DR m a P i j) (e : mGet m' a i = mGet m a i) : DR m' a P i j := by
  obtain ⟨x, x1, x2⟩ := h
  exact ⟨x, by rw [e]; exact x1, x2⟩
theorem ior_bit11 {x b : Nat} (hx : x < 2 ^ b) (hb : b < 11) : ior (x : Int) (ishl 1 (b : Int)) = ((x ||| 2 ^ b : Nat) : Int) ∧ x ||| 2 ^ b < 2 ^ (b + 1) := by
  have h1 : 2 ^ b ≤ 2 ^ 10 := Nat.pow_le_pow_right (by decide) (by omega)
  have e : ishl 1 (b : Int) = ((2 ^ b : Nat) : Int) := by
    have := ishl_nat (a := 1) (k := b) (by omega) (by omega)
    rw [Nat.one_mul] at this
    exact this
  refine ⟨by rw [e, ior_nn (by omega) (by omega)], Nat.or_lt_two_pow ?_ (Nat.pow_lt_pow_right (by decide) (by omega))⟩
  rw [Nat.pow_succ]; omega
theorem DR.up {m m' : Mem} {a i j : Nat} {P : Nat → Nat → Prop} (h : DR m a P i j) (hj : j < 11) (hb : ¬ P i j) (e : mGet m' a i = mGet m a i) : DR m' a P i (j + 1) := by
  obtain ⟨x, x1, x2, x3⟩ := h
  refine ⟨x, by rw [e]; exact x1, by rw [Nat.pow_succ]; omega, fun b hb2 => ?_⟩
  rcases (by omega : b < j ∨ b = j) with q | rfl
  · exact x3 b q
  · rw [Nat.testBit_lt_two_pow x2]
    exact ⟨(fun q => by cases q), fun q => absurd q hb⟩
theorem DR.set {m m' : Mem} {a i j x : Nat} {P : Nat → Nat → Prop} (x1 : mGet m a i = (x : Int)) (x2 : x < 2 ^ j) (x3 : ∀ b, b < j → (x.testBit b = true ↔ P i b)) (hj : j < 11) (hb : P i j) (e : mGet m' a i = ((x ||| 2 ^ j : Nat) : Int)) : DR m' a P i (j + 1) := by
  refine ⟨_, e, (ior_bit11 x2 hj).2, fun b hb2 => ?_⟩
  rw [or_bit]
  rcases (by omega : b < j ∨ b = j) with q | rfl
  · rw [x3 b q]
    exact ⟨fun h => h.elim id (fun h => by omega), Or.inl⟩
  · exact ⟨fun _ => hb, fun _ => Or.inr rfl⟩
abbrev SD (a : Nat) : Prop := 33 ≤ a ∧ a < 36
set_option maxHeartbeats 2000000 in
theorem fill_ok {n o1 o2 g h : Nat} {m : Mem} {mir : Bool} (hn : 300 < n) (O1 : GOb m o1 g) (O2 : GOb m o2 h) (Gg : GX g) (Gh : GX h) : Ok (f_X0_fill n o1 o2 (b2i mir) m) (fun _ m' => m'.2 = m.2 ∧ (∀ a i, ¬ SD a → mGet m' a i = mGet m a i) ∧ DU m' o1 o2 g h mir) := by
  obtain ⟨a1, a2, a3, _⟩ := O1.o
  obtain ⟨c1, c2, c3, _⟩ := O2.o
  have Wg := Gg.1
  have Wh := Gh.1
  unfold f_X0_fill
  rw [ptG_ok a2, ptG_ok c2]
  unfold ptZ
  rw [if_pos (b2i_01 mir)]
  obtain ⟨m0, e0⟩ : ∃ m0, m0 = mSet (mSet (mSet m 33 2 (o1 : Int)) 33 3 (o2 : Int)) 33 4 (b2i mir) := ⟨_, rfl⟩
  rw [← e0]
  have bm : inR (b2i mir) := by cases mir <;> exact ⟨by decide, by decide⟩
  have g0 : ∀ a i, a ≠ 33 → mGet m0 a i = mGet m a i := fun a i ha => by rw [e0, mGet_mSet, if_neg (by omega), mGet_mSet, if_neg (by omega), mGet_mSet, if_neg (by omega)]
  have t2 : mGet m0 33 2 = (o1 : Int) := by rw [e0, mGet_mSet, if_neg (by omega), mGet_mSet, if_neg (by omega), mGet_mSet, if_pos ⟨rfl, rfl⟩, w32_nat a2]
  have t3 : mGet m0 33 3 = (o2 : Int) := by rw [e0, mGet_mSet, if_neg (by omega), mGet_mSet, if_pos ⟨rfl, rfl⟩, w32_nat c2]
  have t4 : mGet m0 33 4 = b2i mir := by rw [e0, mGet_mSet, if_pos ⟨rfl, rfl⟩, w32_in bm]
  have z0 : m0.2 = m.2 := by rw [e0]; rfl
  obtain ⟨Po, ePo⟩ : ∃ Po : Nat → Nat → Prop, Po = fun i j => gle 0 (dpos g h mir i j) := ⟨_, rfl⟩
  obtain ⟨Pu, ePu⟩ : ∃ Pu : Nat → Nat → Prop, Pu = fun i j => gle (dpos g h mir i j) 0 := ⟨_, rfl⟩
  -- what the two bits are
  have over : ∀ i j, i < wid g → j < wid h → (Po i j ↔ ¬ ((∃ k, (om g i 1).testBit k = true ∧ Pu k j) ∨ ∃ b, (om h j (dwho mir 1)).testBit b = true ∧ Pu i b)) := by
    intro i j hi hj
    rw [ePo, ePu]
    show gle 0 (dpos g h mir i j) ↔ _
    rw [gle_def]
    constructor
    · rintro ⟨_, h2⟩ (⟨k, h3, h4⟩ | ⟨b, h3, h4⟩)
      · exact h2 _ ((dpos_op Gg Gh hi hj (by decide)).mpr (Or.inl ⟨k, h3, rfl⟩)) h4
      · exact h2 _ ((dpos_op Gg Gh hi hj (by decide)).mpr (Or.inr ⟨b, h3, rfl⟩)) h4
    · intro hno
      refine ⟨fun x hx => (by rw [op_0] at hx; cases hx), fun y hy q => hno ?_⟩
      rcases (dpos_op Gg Gh hi hj (by decide)).mp hy with ⟨k, h3, rfl⟩ | ⟨b, h3, rfl⟩
      · exact Or.inl ⟨k, h3, q⟩
      · exact Or.inr ⟨b, h3, q⟩
  have under : ∀ i j, i < wid g → j < wid h → (Pu i j ↔ ¬ ((∃ k, (om g i 0).testBit k = true ∧ Po k j) ∨ ∃ b, (om h j (dwho mir 0)).testBit b = true ∧ Po i b)) := by
    intro i j hi hj
    rw [ePo, ePu]
    show gle (dpos g h mir i j) 0 ↔ _
    rw [gle_def]
    constructor
    · rintro ⟨h2, _⟩ (⟨k, h3, h4⟩ | ⟨b, h3, h4⟩)
      · exact h2 _ ((dpos_op Gg Gh hi hj (by decide)).mpr (Or.inl ⟨k, h3, rfl⟩)) h4
      · exact h2 _ ((dpos_op Gg Gh hi hj (by decide)).mpr (Or.inr ⟨b, h3, rfl⟩)) h4
    · intro hno
      refine ⟨fun y hy q => hno ?_, fun x hx => (by rw [op_0] at hx; cases hx)⟩
      rcases (dpos_op Gg Gh hi hj (by decide)).mp hy with ⟨k, h3, rfl⟩ | ⟨b, h3, rfl⟩
      · exact Or.inl ⟨k, h3, q⟩
      · exact Or.inr ⟨b, h3, q⟩
  obtain ⟨W2, eW2⟩ : ∃ W2, W2 = wid h := ⟨_, rfl⟩
  have common : ∀ m1 : Mem, m1.2 = m0.2 → (∀ a i, a ≠ 34 → a ≠ 35 → mGet m1 a i = mGet m0 a i) → GOb m1 o1 g ∧ GOb m1 o2 h ∧ mGet m1 33 2 = (o1 : Int) ∧ mGet m1 33 3 = (o2 : Int) ∧ mGet m1 33 4 = b2i mir := by
    intro m1 h1 h2
    have gr : Grow m m1 := ⟨⟨[], by rw [h1, z0, List.append_nil], rfl⟩, fun a i h3 _ => by rw [h2 a i (by omega) (by omega), g0 a i (by omega)]⟩
    exact ⟨O1.mono gr, O2.mono gr, by rw [h2 33 2 (by decide) (by decide)]; exact t2, by rw [h2 33 3 (by decide) (by decide)]; exact t3, by rw [h2 33 4 (by decide) (by decide)]; exact t4⟩
  refine ok_up1 (wid g) (fun i m1 => (m1.2 = m0.2 ∧ ∀ a i, a ≠ 34 → a ≠ 35 → mGet m1 a i = mGet m0 a i) ∧ ∀ k, k < i → DR m1 34 Po k (wid h) ∧ DR m1 35 Pu k (wid h)) (fun w i m1 hi hI hw => ?_) (fun w m1 hI => ?_) n 0 m0 (Nat.zero_le _) ⟨⟨rfl, fun _ _ _ _ => rfl⟩, fun k hk => absurd hk (Nat.not_lt_zero _)⟩ (by omega)
  · obtain ⟨⟨e2, e3⟩, hI⟩ := hI
    obtain ⟨p1, p2, p3, p4, p5⟩ := common m1 e2 e3
    rw [isD_ok a1, isG_ok p1.o.2.2.1 a1]
    refine ok_calE (width_eq p1 Wg) ?_
    dsimp only [jn]
    rw [if_pos (by omega), if_pos (by omega), stI_ok (kI34 _ (Or.inl rfl)) (by omega), stI_ok (kI34 _ (Or.inr rfl)) (by omega)]
    obtain ⟨m2, e4⟩ : ∃ m2, m2 = mSet (mSet m1 34 i 0) 35 i 0 := ⟨_, rfl⟩
    rw [← e4]
    have g2 : ∀ a k, mGet m2 a k = if a = 35 ∧ k = i then 0 else if a = 34 ∧ k = i then 0 else mGet m1 a k := fun a k => by rw [e4, mGet_mSet, mGet_mSet, w32_id (by decide) (by decide)]
    have z2 : m2.2 = m0.2 := by rw [e4]; exact e2
    have k_1' : w32 ((i : Int) + 1) = ((i + 1 : Nat) : Int) := k_1 (by omega)
    rw [k_1']
    refine ok_up1 (wid h) (fun j m3 => (m3.2 = m0.2 ∧ ∀ a i, a ≠ 34 → a ≠ 35 → mGet m3 a i = mGet m0 a i) ∧ (∀ k, k < i → DR m3 34 Po k (wid h) ∧ DR m3 35 Pu k (wid h)) ∧ DR m3 34 Po i j ∧ DR m3 35 Pu i j) (fun w2 j m3 hj hJ hw2 => ?_) (fun w2 m3 hJ => ?_) n 0 m2 (Nat.zero_le _) ⟨⟨z2, fun a k h1 h2 => by rw [g2, if_neg (by omega), if_neg (by omega)]; exact e3 a k h1 h2⟩, fun k hk => ⟨(hI k hk).1.eq (by rw [g2, if_neg (by omega), if_neg (by omega)]), (hI k hk).2.eq (by rw [g2, if_neg (by omega), if_neg (by omega)])⟩, ⟨0, by rw [g2, if_neg (by omega), if_pos ⟨rfl, rfl⟩]; rfl, by decide, fun b hb => absurd hb (Nat.not_lt_zero _)⟩, ⟨0, by rw [g2, if_pos ⟨rfl, rfl⟩]; rfl, by decide, fun b hb => absurd hb (Nat.not_lt_zero _)⟩⟩ (by omega)
    · obtain ⟨⟨e5, e6⟩, hJ, ro, ru⟩ := hJ
      obtain ⟨q1, q2, q3, q4, q5⟩ := common m3 e5 e6
      rw [isD_ok c1, isG_ok q2.o.2.2.1 c1]
      refine ok_calE (width_eq q2 Wh) ?_
      rw [if_pos (by omega), if_pos (by omega), k_1 (by omega)]
      obtain ⟨b1, hb1, hb2⟩ := canReach_ok (n := n) (w := 1) (a := 35) hn q1 q2 Wg Wh q3 q4 q5 hi hj (by decide) (Or.inr rfl) (fun k hk => (hJ k hk).2) (Nat.le_refl j) (by omega) ru
      refine ok_calE hb1 ?_
      have u1 := over i j hi hj
      have u2 := under i j hi hj
      -- the second half, for each memory
      have half : ∀ m4 : Mem, m4.2 = m0.2 → (∀ a i, a ≠ 34 → a ≠ 35 → mGet m4 a i = mGet m0 a i) → (∀ k, k < i → DR m4 34 Po k (wid h) ∧ DR m4 35 Pu k (wid h)) → DR m4 34 Po i (j + 1) → DR m4 35 Pu i j → Ok (cal (f_X0_canReach n (i : Int) (j : Int) 0 34 m4) fun x109 m109 => if x109 = 0 then ldI m109 35 (i : Int) fun x122 => stI m109 35 (i : Int) (ior x122 (ishl 1 (j : Int))) fun m128 => w2 ((j + 1 : Nat) : Int) m128 else w2 ((j + 1 : Nat) : Int) m109) (fun _ m' => m'.2 = m.2 ∧ (∀ a i, ¬ SD a → mGet m' a i = mGet m a i) ∧ DU m' o1 o2 g h mir) := by
        intro m4 f1 f2 f3 f4 f5
        obtain ⟨r1, r2, r3, r4, r5⟩ := common m4 f1 f2
        obtain ⟨b3, hb3, hb4⟩ := canReach_ok (n := n) (w := 0) (a := 34) hn r1 r2 Wg Wh r3 r4 r5 hi hj (by decide) (Or.inl rfl) (fun k hk => (f3 k hk).1) (show j ≤ j + 1 by omega) (by omega) f4
        refine ok_calE hb3 ?_
        cases b3
        · rw [if_pos (show b2i false = 0 from rfl), ldI_ok (kI34 _ (Or.inr rfl)) (by omega)]
          obtain ⟨x, x1, x2, x3⟩ := f5
          have pj := p2_11 (show j ≤ 11 by omega)
          obtain ⟨e7, e8⟩ := ior_bit11 x2 (by omega)
          have pj1 := p2_11 (show j + 1 ≤ 11 by omega)
          rw [x1, e7, stI_ok (kI34 _ (Or.inr rfl)) (by omega)]
          have g5 : ∀ a k, mGet (mSet m4 35 i ((x ||| 2 ^ j : Nat) : Int)) a k = if a = 35 ∧ k = i then ((x ||| 2 ^ j : Nat) : Int) else mGet m4 a k := fun a k => by rw [mGet_mSet, w32_nat (by omega)]
          refine hw2 _ ⟨⟨f1, fun a k h1 h2 => by rw [g5, if_neg (by omega)]; exact f2 a k h1 h2⟩, fun k hk => ⟨(f3 k hk).1.eq (by rw [g5, if_neg (by omega)]), (f3 k hk).2.eq (by rw [g5, if_neg (by omega)])⟩, f4.eq (by rw [g5, if_neg (by omega)]), DR.set x1 x2 x3 (by omega) (u2.mpr (fun q => by have := hb4.mpr q; cases this)) (by rw [g5, if_pos ⟨rfl, rfl⟩])⟩
        · rw [if_neg (by decide)]
          exact hw2 _ ⟨⟨f1, f2⟩, f3, f4, f5.up (by omega) (fun q => (u2.mp q) (hb4.mp rfl)) rfl⟩
      cases b1
      · rw [if_pos (show b2i false = 0 from rfl), ldI_ok (kI34 _ (Or.inl rfl)) (by omega)]
        obtain ⟨x, x1, x2, x3⟩ := ro
        have pj := p2_11 (show j ≤ 11 by omega)
        obtain ⟨e7, e8⟩ := ior_bit11 x2 (by omega)
        have pj1 := p2_11 (show j + 1 ≤ 11 by omega)
        rw [x1, e7, stI_ok (kI34 _ (Or.inl rfl)) (by omega)]
        have g5 : ∀ a k, mGet (mSet m3 34 i ((x ||| 2 ^ j : Nat) : Int)) a k = if a = 34 ∧ k = i then ((x ||| 2 ^ j : Nat) : Int) else mGet m3 a k := fun a k => by rw [mGet_mSet, w32_nat (by omega)]
        exact half _ e5 (fun a k h1 h2 => by rw [g5, if_neg (by omega)]; exact e6 a k h1 h2) (fun k hk => ⟨(hJ k hk).1.eq (by rw [g5, if_neg (by omega)]), (hJ k hk).2.eq (by rw [g5, if_neg (by omega)])⟩) (DR.set x1 x2 x3 (by omega) (u1.mpr (fun q => by have := hb2.mpr q; cases this)) (by rw [g5, if_pos ⟨rfl, rfl⟩])) (ru.eq (by rw [g5, if_neg (by omega)]))
      · rw [if_neg (by decide)]
        exact half _ e5 e6 hJ (ro.up (by omega) (fun q => (u1.mp q) (hb2.mp rfl)) rfl) ru
    · obtain ⟨⟨e5, e6⟩, hJ, ro, ru⟩ := hJ
      obtain ⟨q1, q2, q3, q4, q5⟩ := common m3 e5 e6
      rw [isD_ok c1, isG_ok q2.o.2.2.1 c1]
      refine ok_calE (width_eq q2 Wh) ?_
      rw [if_neg (by omega)]
      refine hw m3 ⟨⟨e5, e6⟩, fun k hk => ?_⟩
      rcases (by omega : k < i ∨ k = i) with h1 | rfl
      · exact hJ k h1
      · exact ⟨ro, ru⟩
  · obtain ⟨⟨e2, e3⟩, hI⟩ := hI
    obtain ⟨p1, p2, p3, p4, p5⟩ := common m1 e2 e3
    rw [isD_ok a1, isG_ok p1.o.2.2.1 a1]
    refine ok_calE (width_eq p1 Wg) ?_
    dsimp only [jn]
    rw [if_neg (by omega)]
    refine ok_rt ⟨e2.trans z0, fun a i ha => by rw [e3 a i (by omega) (by omega), g0 a i (by omega)], p3, p4, fun i hi => ?_⟩
    have := hI i hi
    rw [ePo, ePu] at this
    exact this
/-- what the two rows tell together -/
noncomputable def vd (z : Nat) : Int := if gleB 0 z then (if gleB z 0 then 0 else 1) else if gleB z 0 then -1 else 2
theorem verdict_eq {n o1 o2 g h i j : Nat} {m : Mem} {mir : Bool} (D : DU m o1 o2 g h mir) (Wg : wid g ≤ 11) (Wh : wid h ≤ 11) (hi : i < wid g) (hj : j < wid h) : f_X0_verdict n (i : Int) (j : Int) m = some (vd (dpos g h mir i j), m) := by
  obtain ⟨⟨x, x1, x2, x3⟩, y, y1, y2, y3⟩ := D.2.2 i hi
  have p11 := p2_11 Wh
  unfold f_X0_verdict
  dsimp only [jn]
  rw [if_neg (by omega), if_pos (by omega), if_neg (by omega), if_pos (by omega), ldI_ok (kI34 _ (Or.inl rfl)) (by omega), x1]
  have bx : x.testBit j = gleB 0 (dpos g h mir i j) := Bool.eq_iff_iff.mpr (by rw [x3 j hj, gleB_iff])
  have bY : y.testBit j = gleB (dpos g h mir i j) 0 := Bool.eq_iff_iff.mpr (by rw [y3 j hj, gleB_iff])
  unfold vd
  rw [← bx, ← bY]
  have px := ibit0 (x := x) (g := j) (by omega) (by omega)
  have py := ibit0 (x := y) (g := j) (by omega) (by omega)
  cases ex : x.testBit j
  · rw [if_pos (px.mpr ex), ldI_ok (kI34 _ (Or.inr rfl)) (by omega), y1]
    cases ey : y.testBit j
    · rw [if_pos (py.mpr ey)]
      rfl
    · rw [if_neg (fun q => by rw [py.mp q] at ey; cases ey)]
      rfl
  · rw [if_neg (fun q => by rw [px.mp q] at ex; cases ex), ldI_ok (kI34 _ (Or.inr rfl)) (by omega), y1]
    cases ey : y.testBit j
    · rw [if_pos (py.mpr ey)]
      rfl
    · rw [if_neg (fun q => by rw [py.mp q] at ey; cases ey)]
      rfl
theorem dpos_top {g h : Nat} {mir : Bool} (Gg : GX g) (Gh : GX h) : dpos g h mir (wid g - 1) (wid h - 1) = gadd g (if mir then gneg h else h) := by
  unfold dpos
  rw [Gg.2.2.2, Gh.2.2.2]
