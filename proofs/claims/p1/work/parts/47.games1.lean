/-! GAMES OF THEIR OWN: what is asked of them -/
theorem fo_asym {x y : Nat} (h1 : fo x y) (h2 : fo y x) : False := by
  rcases h1 with ⟨a, b⟩ | ⟨a, b, c⟩ <;> rcases h2 with ⟨a2, b2⟩ | ⟨a2, b2, c2⟩
  · exact b a2
  · exact b2 a
  · exact b a2
  · rw [wlt_asym c] at c2; cases c2
theorem Enum.uniq {g : Nat} {e e' : Nat → Nat} (h : Enum g e) (h' : Enum g e') : ∀ k, k < wid g → e k = e' k := by
  intro k
  induction k using Nat.strongRecOn with
  | _ k ih =>
    intro hk
    obtain ⟨j, hj, e1⟩ := h'.2.1 (e k) (h.1 k hk)
    obtain ⟨i, hi, e2⟩ := h.2.1 (e' k) (h'.1 k hk)
    rcases (by omega : j < k ∨ j = k ∨ k < j) with q | q | q
    · have := ih j q hj
      have := h.inj hj hk (this.trans e1)
      omega
    · rw [← e1, q]
    · rcases (by omega : i < k ∨ i = k ∨ k < i) with q2 | q2 | q2
      · have := ih i q2 hi
        have := h'.inj hi hk (this.symm.trans e2)
        omega
      · rw [← e2, q2]
      · have a := h.2.2 k i q2 hi
        have b := h'.2.2 k j q hj
        rw [e1] at b
        rw [e2] at a
        exact (fo_asym a b).elim
/-- the followers of a game in their order -/
noncomputable def en (g : Nat) : Nat → Nat := @dite (Nat → Nat) (∃ e, Enum g e) (Classical.propDecidable _) (fun h => Classical.choose h) (fun _ _ => 0)
theorem en_spec {g : Nat} {e : Nat → Nat} (h : Enum g e) : Enum g (en g) := by
  have h0 : ∃ e, Enum g e := ⟨e, h⟩
  have e1 : en g = Classical.choose h0 := by
    unfold en
    exact dif_pos h0
  rw [e1]
  exact Classical.choose_spec h0
/-- a number by its bits -/
def bitsOf (l : List Nat) : Nat := l.foldr (fun j a => a ||| 2 ^ j) 0
theorem bitsOf_bit (l : List Nat) (j : Nat) : (bitsOf l).testBit j = true ↔ j ∈ l := by
  induction l with
  | nil => show (0 : Nat).testBit j = true ↔ _; rw [Nat.zero_testBit]; simp
  | cons a l ih =>
    show ((bitsOf l) ||| 2 ^ a).testBit j = true ↔ _
    rw [or_bit, ih, List.mem_cons]
    exact ⟨fun h => h.elim Or.inr Or.inl, fun h => h.elim Or.inr Or.inl⟩
/-- the options of follower k, by bits -/
noncomputable def om (g k w : Nat) : Nat := if k < wid g then bitsOf (fr (fun j => op (en g k) w (en g j)) k) else 0
theorem om_bit {g k w j : Nat} : (om g k w).testBit j = true ↔ k < wid g ∧ j < k ∧ op (en g k) w (en g j) = true := by
  unfold om
  by_cases h : k < wid g
  · rw [if_pos h, bitsOf_bit, mem_fr]
    exact ⟨fun q => ⟨h, q⟩, fun q => q.2⟩
  · rw [if_neg h, Nat.zero_testBit]
    exact ⟨(fun q => by cases q), fun q => absurd q.1 h⟩
theorem om_lt (g k w : Nat) : om g k w < 2 ^ k := Nat.lt_pow_two_of_testBit _ (fun i hi => by
  cases e : (om g k w).testBit i
  · rfl
  · have := (om_bit.mp e).2.1; omega)
theorem om_lt11 {g : Nat} (h : wid g ≤ 11) (k w : Nat) : om g k w < 1024 := by
  by_cases hk : k < wid g
  · have h1 := om_lt g k w
    have h2 : 2 ^ k ≤ 2 ^ 10 := Nat.pow_le_pow_right (by decide) (by omega)
    omega
  · unfold om
    rw [if_neg hk]
    decide
theorem om_eq {g k w x : Nat} {e : Nat → Nat} (hE : Enum g e) (hk : k < wid g) (hm : Mask e k w x) : x = om g k w := by
  have h2 := en_spec hE
  apply Nat.eq_of_testBit_eq
  intro j
  apply Bool.eq_iff_iff.mpr
  rw [hm.2, om_bit]
  constructor
  · rintro ⟨h3, h4⟩
    exact ⟨hk, h3, by rw [← hE.uniq h2 k hk, ← hE.uniq h2 j (by omega)]; exact h4⟩
  · rintro ⟨_, h3, h4⟩
    exact ⟨h3, by rw [hE.uniq h2 k hk, hE.uniq h2 j (by omega)]; exact h4⟩
theorem GOb.get {m : Mem} {o g : Nat} (h : GOb m o g) : ∃ l r w : Nat, (sKind m o = (11, 5) ∧ sKind m l = (1, wid g) ∧ sKind m r = (1, wid g) ∧ sKind m w = (3, (wd g).length)) ∧ (1000 ≤ o ∧ 1000 ≤ l ∧ 1000 ≤ r ∧ 1000 ≤ w ∧ o < 2147483648) ∧ (mGet m o 0 = (l : Int) ∧ mGet m o 1 = (r : Int) ∧ mGet m o 2 = (w : Int) ∧ mGet m o 3 = (bd g : Int) ∧ mGet m o 4 = hpv g) ∧ (∀ k, k < wid g → mGet m l k = (om g k 0 : Int) ∧ mGet m r k = (om g k 1 : Int)) ∧ (∀ i, i < (wd g).length → mGet m w i = ((wd g).getD i 0 : Int)) ∧ Enum g (en g) := by
  obtain ⟨l, r, w, e, h1, h2, h3, hE, h4, h5⟩ := h
  refine ⟨l, r, w, h1, h2, h3, fun k hk => ?_, h5, en_spec hE⟩
  obtain ⟨⟨x, a1, a2⟩, y, a3, a4⟩ := h4 k hk
  rw [a1, a3, om_eq hE hk a2, om_eq hE hk a4]
  exact ⟨rfl, rfl⟩
theorem GOb.enum {m : Mem} {o g : Nat} (h : GOb m o g) : Enum g (en g) := by
  obtain ⟨_, _, _, _, _, _, _, _, h9⟩ := h.get
  exact h9
theorem GOb.o {m : Mem} {o g : Nat} (h : GOb m o g) : 1000 ≤ o ∧ o < 2147483648 ∧ sKind m o = (11, 5) ∧ o ≠ 0 := by
  obtain ⟨l, r, w, e, h1, h2, _⟩ := h
  exact ⟨h2.1, h2.2.2.2.2, h1.1, by omega⟩
theorem gmG_ok {m : Mem} {o k v : Nat} {K : Nat → Option Rz} (hk : sKind m o = (11, 5)) (hv : mGet m o k = (v : Int)) : gmG m o k K = K v := by
  unfold gmG
  rw [hk, if_pos rfl, hv, Int.toNat_natCast]
theorem gmF_ok {m : Mem} {o k : Nat} {K : Int → Option Rz} (hk : sKind m o = (11, 5)) : gmF m o k K = K (mGet m o k) := by
  unfold gmF
  rw [hk, if_pos rfl]
theorem isD_ok {g : Nat} {K : Option Rz} (h : 1000 ≤ g) : isD g K = K := if_pos h
theorem options_eq {n o g k w : Nat} {m : Mem} (h : GOb m o g) (hW : wid g ≤ 11) (hw : w < 2) : f_X1_options n o (k : Int) (w : Int) m = some ((om g k w : Int), m) := by
  obtain ⟨l, r, wo, ⟨k1, k2, k3, k4⟩, ⟨b1, b2, b3, b4, b5⟩, ⟨v1, v2, v3, v4, v5⟩, hm, _, _⟩ := h.get
  unfold f_X1_options
  dsimp only [jn]
  have out : ¬ k < wid g → om g k w = 0 := fun q => by unfold om; rw [if_neg q]
  rcases (by omega : w = 0 ∨ w = 1) with rfl | rfl
  · rw [if_pos (by decide), gmG_ok k1 v1, if_neg (by omega), isD_ok b2, lenA_ok k2 (by decide) (by decide) (by omega)]
    by_cases q : k < wid g
    · rw [if_pos (by omega), isD_ok b2, ldI_ok k2 q, (hm k q).1]
      rfl
    · rw [if_neg (by omega), out q]
      rfl
  · rw [if_neg (by decide), gmG_ok k1 v2, if_neg (by omega), isD_ok b3, lenA_ok k3 (by decide) (by decide) (by omega)]
    by_cases q : k < wid g
    · rw [if_pos (by omega), isD_ok b3, ldI_ok k3 q, (hm k q).2]
      rfl
    · rw [if_neg (by omega), out q]
      rfl
theorem width_eq {n o g : Nat} {m : Mem} (h : GOb m o g) (hW : wid g ≤ 11) : f_X1_width n o m = some ((wid g : Int), m) := by
  obtain ⟨l, r, wo, ⟨k1, k2, k3, k4⟩, ⟨b1, b2, b3, b4, b5⟩, ⟨v1, v2, v3, v4, v5⟩, hm, _, _⟩ := h.get
  unfold f_X1_width
  rw [gmG_ok k1 v1, isD_ok b2, lenA_ok k2 (by decide) (by decide) (by omega)]
  rfl
theorem top_eq {n o g : Nat} {m : Mem} (h : GOb m o g) (hW : wid g ≤ 11) : f_X1_top n o m = some (((wid g - 1 : Nat) : Int), m) := by
  obtain ⟨l, r, wo, ⟨k1, k2, k3, k4⟩, ⟨b1, b2, b3, b4, b5⟩, ⟨v1, v2, v3, v4, v5⟩, hm, _, _⟩ := h.get
  have wp := wid_pos g
  unfold f_X1_top
  rw [gmG_ok k1 v1, isD_ok b2, lenA_ok k2 (by decide) (by decide) (by omega)]
  unfold rt
  rw [w32_id (by omega) (by omega)]
  congr 2
  omega
/-- the order by words: only * goes ahead of 0 -/
noncomputable def bw (g i : Nat) : Nat := if om g 1 0 = 1 ∧ om g 1 1 = 1 ∧ i < 2 then 1 - i else i
theorem byWords_eq {n o g i : Nat} {m : Mem} (h : GOb m o g) (hW : wid g ≤ 11) (hi : i < 100) : f_X1_byWords n o (i : Int) m = some ((bw g i : Int), m) := by
  obtain ⟨b1, b2, k1, _⟩ := h.o
  have o0 := options_eq (n := n) (k := 1) (w := 0) h hW (by decide)
  have o1 := options_eq (n := n) (k := 1) (w := 1) h hW (by decide)
  unfold f_X1_byWords
  rw [isG_ok k1 b1]
  rw [show f_X1_options n o 1 0 m = some ((om g 1 0 : Int), m) from o0]
  dsimp only [cal, jn]
  have fin1 : om g 1 0 = 1 → om g 1 1 = 1 → (if (i : Int) < 2 then rt (w32 (1 - (i : Int))) m else rt (i : Int) m) = some ((bw g i : Int), m) := by
    intro q1 q2
    unfold bw
    by_cases q : i < 2
    · rw [if_pos (by omega), if_pos ⟨q1, q2, q⟩]
      unfold rt
      rw [w32_id (by omega) (by omega)]
      congr 2
      omega
    · rw [if_neg (by omega), if_neg (fun h => q h.2.2)]
      rfl
  by_cases q1 : om g 1 0 = 1
  · rw [if_pos (by omega), isG_ok k1 b1, show f_X1_options n o 1 1 m = some ((om g 1 1 : Int), m) from o1]
    dsimp only
    by_cases q2 : om g 1 1 = 1
    · rw [if_pos (by omega), if_neg (by decide)]
      exact fin1 q1 q2
    · rw [if_neg (by omega), if_pos rfl]
      unfold bw
      rw [if_neg (fun h => q2 h.2.1)]
      rfl
  · rw [if_neg (by omega), if_pos rfl]
    unfold bw
    rw [if_neg (fun h => q1 h.1)]
    rfl
theorem star_wid {g : Nat} (h : om g 1 0 = 1) : 1 < wid g := by
  have : (om g 1 0).testBit 0 = true := by rw [h]; rfl
  exact (om_bit.mp this).1
theorem bw_lt {g i : Nat} (hi : i < wid g) : bw g i < wid g := by
  unfold bw
  by_cases q : om g 1 0 = 1 ∧ om g 1 1 = 1 ∧ i < 2
  · rw [if_pos q]; have := star_wid q.1; omega
  · rw [if_neg q]; exact hi
theorem bw_bw {g i : Nat} : bw g (bw g i) = i := by
  unfold bw
  by_cases q : om g 1 0 = 1 ∧ om g 1 1 = 1 ∧ i < 2
  · rw [if_pos q, if_pos ⟨q.1, q.2.1, by omega⟩]; omega
  · rw [if_neg q, if_neg q]
/-- the options of follower k, in the order of their numbers -/
noncomputable def nbl (g k w i : Nat) : List Nat := (fr (fun j => (om g k w).testBit (bw g j)) i).map (bw g)
noncomputable def nb (g k w : Nat) (i : Int) : Int := if 0 ≤ i ∧ i < ((nbl g k w (wid g)).length : Int) then ((nbl g k w (wid g)).getD i.toNat 0 : Int) else -1
theorem nbl_succ (g k w i : Nat) : nbl g k w (i + 1) = nbl g k w i ++ (if (om g k w).testBit (bw g i) then [bw g i] else []) := by
  unfold nbl
  rw [fr_succ, List.map_append]
  cases (om g k w).testBit (bw g i) <;> rfl
theorem nbl_pre {g k w i : Nat} : ∀ j, i ≤ j → ∃ l, nbl g k w j = nbl g k w i ++ l := by
  intro j hj
  induction j with
  | zero => exact ⟨[], by rw [show i = 0 by omega, List.append_nil]⟩
  | succ j ih =>
    rcases (by omega : i ≤ j ∨ i = j + 1) with h | h
    · obtain ⟨l, e⟩ := ih h
      exact ⟨l ++ (if (om g k w).testBit (bw g j) then [bw g j] else []), by rw [nbl_succ, e, List.append_assoc]⟩
    · exact ⟨[], by rw [h, List.append_nil]⟩
theorem numbered_eq {n o g k w : Nat} {i : Int} {m : Mem} (hn : 300 < n) (h : GOb m o g) (hW : wid g ≤ 11) (hw : w < 2) : f_X1_numbered n o (k : Int) (w : Int) i m = some (nb g k w i, m) := by
  obtain ⟨b1, b2, k1, _⟩ := h.o
  refine ok_eq ?_
  unfold f_X1_numbered
  rw [isG_ok k1 b1]
  refine ok_calE (options_eq h hW hw) ?_
  obtain ⟨l, r, wo, ⟨_, k2, k3, k4⟩, ⟨_, b3, _⟩, ⟨v1, _⟩, _⟩ := h.get
  have oml := om_lt11 hW k w
  refine ok_up2 (wid g) (fun j a m1 => m1 = m ∧ a = ((nbl g k w j).length : Int) ∧ (i < 0 ∨ a ≤ i)) (fun w1 j a m1 hj hI hw1 => ?_) (fun w1 a m1 hI => ?_) n 0 0 m (Nat.zero_le _) ⟨rfl, rfl, by show i < 0 ∨ (0 : Int) ≤ i; omega⟩ (by omega)
  · obtain ⟨rfl, ha, hi⟩ := hI
    rw [gmG_ok k1 v1, isD_ok b3, lenA_ok k2 (by decide) (by decide) (by omega), if_pos (by omega), isG_ok k1 b1]
    refine ok_calE (byWords_eq h hW (by omega)) ?_
    have lt := bw_lt hj
    dsimp only [jn]
    rw [k_1 (by omega)]
    have e1 := nbl_succ g k w j
    have ll : (nbl g k w j).length ≤ j := by unfold nbl; rw [List.length_map]; exact fr_le _ _
    cases e : (om g k w).testBit (bw g j)
    · rw [if_pos ((ibit0 (by omega) (by omega)).mpr e)]
      rw [e] at e1
      refine hw1 a m1 ⟨rfl, ?_, hi⟩
      rw [e1, ha]
      simp
    · rw [if_neg (fun q => by rw [(ibit0 (by omega) (by omega)).mp q] at e; cases e)]
      rw [e, if_pos rfl] at e1
      by_cases q : a = i
      · rw [if_pos q]
        refine ok_rt ⟨rfl, ?_⟩
        obtain ⟨l2, e2⟩ := nbl_pre (g := g) (k := k) (w := w) (wid g) (show j + 1 ≤ wid g by omega)
        rw [e1] at e2
        unfold nb
        rw [← q, ha]
        rw [if_pos ⟨by omega, by rw [e2]; simp only [List.length_append, List.length_cons]; omega⟩, Int.toNat_natCast, e2, List.getD_eq_getElem?_getD, List.append_assoc, List.getElem?_append_right (Nat.le_refl _), Nat.sub_self]
        rfl
      · rw [if_neg q]
        rw [w32_id (by omega) (by omega)]
        refine hw1 _ m1 ⟨rfl, ?_, by omega⟩
        rw [e1, ha]
        simp
  · obtain ⟨rfl, ha, hi⟩ := hI
    rw [gmG_ok k1 v1, isD_ok b3, lenA_ok k2 (by decide) (by decide) (by omega), if_neg (by omega)]
    refine ok_rt ⟨rfl, ?_⟩
    unfold nb
    rw [if_neg (by omega)]
/-- what a number tells -/
theorem nb_mem {g k w : Nat} {i : Int} (h : 0 ≤ nb g k w i) : ∃ j : Nat, nb g k w i = (j : Int) ∧ j < wid g ∧ (om g k w).testBit j = true := by
  unfold nb at h ⊢
  by_cases q : 0 ≤ i ∧ i < ((nbl g k w (wid g)).length : Int)
  · rw [if_pos q] at h ⊢
    have := getD_mem (t := nbl g k w (wid g)) (i := i.toNat) (by omega)
    refine ⟨_, rfl, ?_⟩
    obtain ⟨a, h1, h2⟩ := List.mem_map.mp this
    obtain ⟨h3, h4⟩ := mem_fr.mp h1
    rw [← h2]
    exact ⟨bw_lt h3, h4⟩
  · rw [if_neg q] at h
    omega
theorem nb_ex {g k w j : Nat} (hj : (om g k w).testBit j = true) : ∃ i : Nat, i < wid g ∧ nb g k w (i : Int) = (j : Int) := by
  have h1 := om_bit.mp hj
  have hjW : j < wid g := by omega
  have hm : j ∈ nbl g k w (wid g) := List.mem_map.mpr ⟨bw g j, mem_fr.mpr ⟨bw_lt hjW, by rw [bw_bw]; exact hj⟩, bw_bw⟩
  obtain ⟨i, hi, e⟩ := List.getElem_of_mem hm
  have ll : (nbl g k w (wid g)).length ≤ wid g := by unfold nbl; rw [List.length_map]; exact fr_le _ _
  refine ⟨i, by omega, ?_⟩
  unfold nb
  rw [if_pos ⟨by omega, by omega⟩, Int.toNat_natCast, List.getD_eq_getElem?_getD, List.getElem?_eq_getElem hi, e]
  rfl
/-- the options of a follower, by its place -/
theorem om_op {g k w x : Nat} (cg : can g) (h9 : bd g ≤ 9) (hE : Enum g (en g)) (hk : k < wid g) (hw : w < 2) : op (en g k) w x = true ↔ ∃ j, (om g k w).testBit j = true ∧ en g j = x := by
  constructor
  · intro h
    obtain ⟨j, h1, h2⟩ := hE.ahead cg h9 hk hw h
    exact ⟨j, om_bit.mpr ⟨hk, h1, by rw [h2]; exact h⟩, h2⟩
  · rintro ⟨j, h1, rfl⟩
    exact (om_bit.mp h1).2.2
theorem om_zero {g k w : Nat} (cg : can g) (h9 : bd g ≤ 9) (hE : Enum g (en g)) (hk : k < wid g) (hw : w < 2) : om g k w = 0 ↔ Bare (en g k) w := by
  constructor
  · intro h x
    cases e : op (en g k) w x
    · rfl
    · obtain ⟨j, h1, _⟩ := (om_op cg h9 hE hk hw).mp e
      rw [h, Nat.zero_testBit] at h1
      cases h1
  · intro h
    apply Nat.eq_of_testBit_eq
    intro j
    rw [Nat.zero_testBit]
    cases e : (om g k w).testBit j
    · rfl
    · have := (om_bit.mp e).2.2
      rw [h] at this; cases this
/-- SMALL -/
def sm (g : Nat) : Prop := ∀ x, fol g x → (Bare x 0 ↔ Bare x 1)
theorem sm.op {g w x : Nat} (h : sm g) (hw : w < 2) (hx : op g w x = true) : sm x := fun y hy => h y (fol_op hw hx hy)
theorem isSmall_eq {n o g : Nat} {m : Mem} (hn : 300 < n) (h : GOb m o g) (cg : can g) (hW : wid g ≤ 10) : ∃ b, f_X1_isSmall n o m = some (b2i b, m) ∧ (b = true ↔ sm g) := by
  have h9 : bd g ≤ 9 := by have := bd_wid g; omega
  have hE := h.enum
  obtain ⟨b1, b2, k1, _⟩ := h.o
  obtain ⟨l, r, wo, ⟨_, k2, k3, k4⟩, ⟨_, b3, _⟩, ⟨v1, _⟩, _⟩ := h.get
  have main : Ok (f_X1_isSmall n o m) (fun a m' => m' = m ∧ ((a = 1 ∧ sm g) ∨ (a = 0 ∧ ¬ sm g))) := by
    unfold f_X1_isSmall
    refine ok_up1 (wid g) (fun j m1 => m1 = m ∧ ∀ k, k < j → (Bare (en g k) 0 ↔ Bare (en g k) 1)) (fun w1 j m1 hj hI hw1 => ?_) (fun w1 m1 hI => ?_) n 0 m (Nat.zero_le _) ⟨rfl, fun k hk => absurd hk (Nat.not_lt_zero _)⟩ (by omega)
    · obtain ⟨rfl, hI⟩ := hI
      rw [gmG_ok k1 v1, isD_ok b3, lenA_ok k2 (by decide) (by decide) (by omega), if_pos (by omega), isG_ok k1 b1]
      refine ok_calE (options_eq (w := 0) h (by omega) (by decide)) ?_
      dsimp only [jn]
      have z0 := om_zero (w := 0) cg h9 hE hj (by decide)
      have z1 := om_zero (w := 1) cg h9 hE hj (by decide)
      rw [k_1 (by omega)]
      have good : (Bare (en g j) 0 ↔ Bare (en g j) 1) → ∀ k, k < j + 1 → (Bare (en g k) 0 ↔ Bare (en g k) 1) := fun q k hk => by
        rcases (by omega : k < j ∨ k = j) with h1 | rfl
        · exact hI k h1
        · exact q
      have bad : ¬ (Bare (en g j) 0 ↔ Bare (en g j) 1) → ¬ sm g := fun q hs => q (hs _ (hE.1 j hj))
      by_cases q0 : om g j 0 = 0 <;> by_cases q1 : om g j 1 = 0
      · rw [if_pos (by omega), isG_ok k1 b1]
        refine ok_calE (options_eq (w := 1) h (by omega) (by decide)) ?_
        rw [if_pos (by omega), if_pos rfl]
        exact hw1 m1 ⟨rfl, good ⟨fun _ => z1.mp q1, fun _ => z0.mp q0⟩⟩
      · rw [if_pos (by omega), isG_ok k1 b1]
        refine ok_calE (options_eq (w := 1) h (by omega) (by decide)) ?_
        rw [if_neg (by omega), if_neg (by decide)]
        exact ok_rtZ (Or.inl rfl) ⟨rfl, Or.inr ⟨rfl, bad (fun q => q1 (z1.mpr (q.mp (z0.mp q0))))⟩⟩
      · rw [if_neg (by omega), isG_ok k1 b1]
        refine ok_calE (options_eq (w := 1) h (by omega) (by decide)) ?_
        rw [if_pos (by omega), if_neg (by decide)]
        exact ok_rtZ (Or.inl rfl) ⟨rfl, Or.inr ⟨rfl, bad (fun q => q0 (z0.mpr (q.mpr (z1.mp q1))))⟩⟩
      · rw [if_neg (by omega), isG_ok k1 b1]
        refine ok_calE (options_eq (w := 1) h (by omega) (by decide)) ?_
        rw [if_neg (by omega), if_pos rfl]
        exact hw1 m1 ⟨rfl, good ⟨fun q => absurd (z0.mpr q) q0, fun q => absurd (z1.mpr q) q1⟩⟩
    · obtain ⟨rfl, hI⟩ := hI
      rw [gmG_ok k1 v1, isD_ok b3, lenA_ok k2 (by decide) (by decide) (by omega), if_neg (by omega)]
      refine ok_rtZ (Or.inr rfl) ⟨rfl, Or.inl ⟨rfl, fun x hx => ?_⟩⟩
      obtain ⟨k, hk, e⟩ := hE.2.1 x hx
      rw [← e]
      exact hI k hk
  obtain ⟨a, m', h1, rfl, h2⟩ := main
  rcases h2 with ⟨rfl, h2⟩ | ⟨rfl, h2⟩
  · exact ⟨true, h1, ⟨fun _ => h2, fun _ => rfl⟩⟩
  · exact ⟨false, h1, ⟨(fun q => by cases q), fun q => absurd q h2⟩⟩
