/-! THE NURSERY: its row of games -/
theorem cmp_ok {n : Nat} {x y : Int} {m : Mem} : Ok (f_J6_compare_7cf53 n x y m) (fun _ m' => m' = m) := by
  unfold f_J6_compare_7cf53
  dsimp only [jn]
  by_cases q : x < y
  · rw [if_pos q]; exact ok_rt rfl
  · rw [if_neg q]
    by_cases q2 : x = y
    · rw [if_pos q2]; exact ok_rt rfl
    · rw [if_neg q2]; exact ok_rt rfl
theorem compareWords_ok {n o p g h : Nat} {m : Mem} (hn : 300 < n) (O : GOb m o g) (O2 : GOb m p h) (hg : (wd g).length ≤ 100) (hh : (wd h).length ≤ 100) : Ok (f_X1_compareWords n o p m) (fun _ m' => m' = m) := by
  obtain ⟨_, _, w, ⟨k1, _, _, kw⟩, ⟨o1, _, _, w1, _⟩, ⟨_, _, v2, _⟩, _⟩ := O.get
  obtain ⟨_, _, x, ⟨l1, _, _, kx⟩, ⟨p1, _, _, x1, _⟩, ⟨_, _, u2, _⟩, _⟩ := O2.get
  unfold f_X1_compareWords
  rw [gmG_ok k1 v2, isD_ok w1, lenA_ok kw (by decide) (by decide) (by omega), isD_ok p1, gmG_ok l1 u2, isD_ok x1, lenA_ok kx (by decide) (by decide) (by omega)]
  by_cases q : ((wd g).length : Int) = ((wd h).length : Int)
  · rw [if_pos q]
    refine ok_up1 (wd g).length (fun i m' => m' = m) (fun w2 i m' hi hI hw => ?_) (fun w2 m' hI => ?_) n 0 m (Nat.zero_le _) rfl (by omega)
    · subst hI
      dsimp only [jn]
      rw [gmG_ok k1 v2, isD_ok w1, lenA_ok kw (by decide) (by decide) (by omega), if_pos (by omega), isD_ok p1, gmG_ok l1 u2, isD_ok x1, lenA_ok kx (by decide) (by decide) (by omega), if_pos (by omega), gmG_ok k1 v2, isD_ok w1, ldB_ok kw hi, isD_ok p1, gmG_ok l1 u2, isD_ok x1, ldB_ok kx (by omega)]
      by_cases q2 : mGet m' w i = mGet m' x i
      · rw [if_pos q2, k_1 (by omega)]
        exact hw m' rfl
      · rw [if_neg q2, gmG_ok k1 v2, isD_ok w1, ldB_ok kw hi, isD_ok p1, gmG_ok l1 u2, isD_ok x1, ldB_ok kx (by omega)]
        exact ok_cal cmp_ok (fun v m'' e => ok_rt e)
    · subst hI
      dsimp only [jn]
      rw [gmG_ok k1 v2, isD_ok w1, lenA_ok kw (by decide) (by decide) (by omega), if_neg (by omega)]
      exact ok_rt rfl
  · rw [if_neg q, gmG_ok k1 v2, isD_ok w1, lenA_ok kw (by decide) (by decide) (by omega), isD_ok p1, gmG_ok l1 u2, isD_ok x1, lenA_ok kx (by decide) (by decide) (by omega)]
    exact ok_cal cmp_ok (fun v m'' e => ok_rt e)
theorem kG40 (m : Mem) : sKind m 40 = (5, 67) := rfl
theorem stG_ok {m : Mem} {a len i v : Nat} {K : Mem → Option Rz} (hk : sKind m a = (5, len)) (hi : i < len) (hv : v = 0 ∨ 1000 ≤ v ∧ v < 2147483648 ∧ (sKind m v).1 = 11) : stG m a (i : Int) v K = K (mSet m a i (v : Int)) := by
  unfold stG
  rw [hk, if_pos ⟨rfl, by omega, by show (i : Int) < (len : Int); omega, hv⟩, Int.toNat_natCast]
/-- a game of the third day at the latest -/
def VB (m : Mem) (o : Nat) : Prop := ∃ K, can K ∧ fits K ∧ GOb m o K ∧ bd K ≤ 3
theorem VB.mono {m m' : Mem} {o : Nat} (h : VB m o) (f : Grow m m') : VB m' o := by
  obtain ⟨K, h1, h2, h3, h4⟩ := h
  exact ⟨K, h1, h2, h3.mono f, h4⟩
theorem VB.st {m : Mem} {o : Nat} (h : VB m o) : o = 0 ∨ 1000 ≤ o ∧ o < 2147483648 ∧ (sKind m o).1 = 11 := by
  obtain ⟨K, _, _, O, _⟩ := h
  obtain ⟨a, b, c, _⟩ := O.o
  exact Or.inr ⟨a, b, by rw [c]⟩
theorem VG.st {m : Mem} {o : Nat} (h : VG m o) : o = 0 ∨ 1000 ≤ o ∧ o < 2147483648 ∧ (sKind m o).1 = 11 := by
  obtain ⟨K, _, _, O⟩ := h
  obtain ⟨a, b, c, _⟩ := O.o
  exact Or.inr ⟨a, b, by rw [c]⟩
abbrev SN (a : Nat) : Prop := a = 39 ∨ a = 40
def NRow40 (m : Mem) (c : Nat) : Prop := mGet m 39 3 = (c : Int) ∧ ∀ i, i < c → ∃ o : Nat, mGet m 40 i = (o : Int) ∧ VB m o
theorem m2_grow {m m' : Mem} (h : m'.2 = m.2) (hg : ∀ a i, 1000 ≤ a → mGet m' a i = mGet m a i) : Grow m m' := ⟨⟨[], by rw [h, List.append_nil], rfl⟩, fun a i h1 _ => hg a i h1⟩
theorem sortIn40_ok {n o c : Nat} {m : Mem} (hn : 300 < n) (R : NRow40 m c) (hc : c < 67) (V : VB m o) : Ok (f_X3_sortIn n o m) (fun _ m' => m'.2 = m.2 ∧ (∀ a i, ¬ SN a → mGet m' a i = mGet m a i) ∧ NRow40 m' (c + 1)) := by
  obtain ⟨c0, row⟩ := R
  obtain ⟨K, cK, fK, O, bK⟩ := V
  obtain ⟨o1, o2, o3, o4⟩ := O.o
  have gr : ∀ m' : Mem, m'.2 = m.2 → (∀ a i, ¬ SN a → mGet m' a i = mGet m a i) → Grow m m' := fun m' h1 h2 => m2_grow h1 (fun a i ha => h2 a i (by omega))
  unfold f_X3_sortIn
  dsimp only [jn, gtF]
  rw [if_neg o4, c0, if_pos (by omega)]
  refine ok_lp1 (fun v m1 => ∃ i : Nat, v = (i : Int) ∧ i ≤ c ∧ m1.2 = m.2 ∧ (∀ a i, ¬ SN a → mGet m1 a i = mGet m a i) ∧ mGet m1 39 3 = (c : Int) ∧ ∀ j, j ≤ c → j ≠ i → ∃ x : Nat, mGet m1 40 j = (x : Int) ∧ VB m x) (fun v _ => v.toNat) (fun w v m1 hI hw => ?_) n (c : Int) m ⟨c, rfl, Nat.le_refl _, rfl, fun _ _ _ => rfl, c0, fun j h1 h2 => row j (by omega)⟩ (by rw [Int.toNat_natCast]; omega)
  obtain ⟨i, rfl, hi, z1, f1, c1, r1⟩ := hI
  have G1 := gr m1 z1 f1
  have O1 := O.mono G1
  have fin : Ok (stG m1 40 (i : Int) o fun m67 => ptF m67 39 3 (w32 (mGet m67 39 3 + 1)) fun m75 => rt 0 m75) (fun _ m' => m'.2 = m.2 ∧ (∀ a i, ¬ SN a → mGet m' a i = mGet m a i) ∧ NRow40 m' (c + 1)) := by
    have G8 : ∀ a j, mGet (mSet m1 40 i (o : Int)) a j = if a = 40 ∧ j = i then (o : Int) else mGet m1 a j := fun a j => by rw [mGet_mSet, w32_nat (by omega)]
    rw [stG_ok (kG40 _) (by omega) (Or.inr ⟨o1, o2, by rw [O1.o.2.2.1]⟩)]
    dsimp only [ptF]
    rw [G8, if_neg (by omega), c1, k_1 (by omega)]
    have G9 : ∀ a j, mGet (mSet (mSet m1 40 i (o : Int)) 39 3 ((c + 1 : Nat) : Int)) a j = if a = 39 ∧ j = 3 then ((c + 1 : Nat) : Int) else if a = 40 ∧ j = i then (o : Int) else mGet m1 a j := fun a j => by rw [mGet_mSet, w32_nat (by omega), G8]
    obtain ⟨m2, e2⟩ : ∃ m2, m2 = mSet (mSet m1 40 i (o : Int)) 39 3 ((c + 1 : Nat) : Int) := ⟨_, rfl⟩
    rw [← e2] at G9 ⊢
    have z2 : m2.2 = m.2 := by rw [e2]; exact z1
    have f2 : ∀ a i, ¬ SN a → mGet m2 a i = mGet m a i := fun a j ha => by rw [G9, if_neg (by omega), if_neg (by omega)]; exact f1 a j ha
    refine ok_rt ⟨z2, f2, by rw [G9, if_pos ⟨rfl, rfl⟩], fun j hj => ?_⟩
    by_cases q : j = i
    · exact ⟨o, by rw [G9, if_neg (by omega), if_pos ⟨rfl, q⟩], K, cK, fK, O.mono (gr m2 z2 f2), bK⟩
    · obtain ⟨x, x1, x2⟩ := r1 j (by omega) q
      exact ⟨x, by rw [G9, if_neg (by omega), if_neg (by omega)]; exact x1, x2.mono (gr m2 z2 f2)⟩
  by_cases q : i = 0
  · rw [if_neg (by omega)]
    exact fin
  · rw [if_pos (by omega), w32_id (x := (i : Int) - 1) (by omega) (by omega), show (i : Int) - 1 = ((i - 1 : Nat) : Int) by omega, ldG_ok (kG40 _) (by omega)]
    obtain ⟨x, x1, X⟩ := r1 (i - 1) (by omega) (by omega)
    have X1 := X.mono G1
    obtain ⟨H, cH, fH, OH, bH⟩ := X1
    rw [x1, Int.toNat_natCast, isD_ok o1, isG_ok O1.o.2.2.1 o1]
    refine ok_cal (compareWords_ok hn O1 OH fK.2 fH.2) (fun v5 m5 e5 => ?_)
    subst e5
    by_cases q2 : v5 < 0
    · rw [if_pos q2, ldG_ok (kG40 _) (by omega), x1, Int.toNat_natCast, stG_ok (kG40 _) (by omega) (VB.st ⟨H, cH, fH, OH, bH⟩), w32_id (x := (i : Int) + -1) (by omega) (by omega), show (i : Int) + -1 = ((i - 1 : Nat) : Int) by omega]
      have x31 : x < 2147483648 := OH.o.2.1
      have G8 : ∀ a j, mGet (mSet m5 40 i (x : Int)) a j = if a = 40 ∧ j = i then (x : Int) else mGet m5 a j := fun a j => by rw [mGet_mSet, w32_nat (by omega)]
      refine hw _ _ ⟨i - 1, rfl, by omega, z1, fun a j ha => by rw [G8, if_neg (by omega)]; exact f1 a j ha, by rw [G8, if_neg (by omega)]; exact c1, fun j hj hne => ?_⟩ (by rw [Int.toNat_natCast, Int.toNat_natCast]; omega)
      by_cases q3 : j = i
      · exact ⟨x, by rw [G8, if_pos ⟨rfl, q3⟩], X⟩
      · obtain ⟨y, y1, y2⟩ := r1 j hj q3
        exact ⟨y, by rw [G8, if_neg (by omega)]; exact y1, y2⟩
    · rw [if_neg q2]
      exact fin
/-! words of the third day are short -/
theorem insw_len (a : List Nat) : ∀ l : List (List Nat), ((insw a l).map (fun w => w.length + 1)).sum ≤ (a.length + 1) + (l.map (fun w => w.length + 1)).sum
  | [] => Nat.le_refl _
  | b :: l => by
    have ih := insw_len a l
    unfold insw
    split
    · show (a.length + 1) + ((b.length + 1) + _) ≤ _
      exact Nat.le_refl _
    · rw [List.map_cons, List.map_cons, List.sum_cons, List.sum_cons]
      omega
theorem sortw_len : ∀ l : List (List Nat), ((sortw l).map (fun w => w.length + 1)).sum ≤ (l.map (fun w => w.length + 1)).sum
  | [] => Nat.le_refl _
  | a :: l => by
    have ih := sortw_len l
    have h := insw_len a (sortw l)
    rw [List.map_cons, List.sum_cons]
    show ((insw a (sortw l)).map (fun w => w.length + 1)).sum ≤ _
    omega
theorem joinw_le : ∀ l : List (List Nat), (joinw l).length ≤ (l.map (fun w => w.length + 1)).sum
  | [] => Nat.zero_le _
  | [a] => by show a.length ≤ (a.length + 1) + 0; omega
  | a :: b :: l => by
    have ih := joinw_le (b :: l)
    show (a ++ 44 :: joinw (b :: l)).length ≤ (a.length + 1) + ((b :: l).map (fun w => w.length + 1)).sum
    rw [List.length_append, List.length_cons]
    omega
