/-! THE TAPE: a word's game built -/
theorem parse_ok {n c g : Nat} {t : Nat → Nat} {m : Mem} (hn : 300 < n) (X : TX m c t) (h9 : bd g ≤ 9) (W : wid g ≤ 10) (hc : c = (wd g).length) (c100 : c ≤ 100) (A : At t 0 (wd g)) : Ok (f_X7_parse n m) (fun v m' => PF m m' ∧ match scanF 0 (wd g) with
    | none => v = -1 ∧ PS m' c t c (prog g)
    | some k => v = (k : Int)) := by
  unfold f_X7_parse
  dsimp only [jn, gtF, ptF]
  obtain ⟨m1, e1⟩ : ∃ m1, m1 = mSet (mSet (mSet m 41 5 0) 41 7 0) 41 6 (-1) := ⟨_, rfl⟩
  have G : ∀ a i, mGet m1 a i = if a = 41 ∧ i = 6 then -1 else if a = 41 ∧ i = 7 then 0 else if a = 41 ∧ i = 5 then 0 else mGet m a i := fun a i => by
    rw [e1, mGet_mSet, mGet_mSet, mGet_mSet]; rfl
  rw [← e1]
  have S : PS m1 c t 0 [] := ⟨⟨by rw [G, if_neg (by omega), if_neg (by omega), if_neg (by omega)]; exact X.1, fun i hi => by rw [G, if_neg (by omega), if_neg (by omega), if_neg (by omega)]; exact X.2 i hi⟩, c100, Nat.zero_le _, by rw [G, if_neg (by omega), if_neg (by omega), if_pos ⟨rfl, rfl⟩]; rfl, by rw [G, if_neg (by omega), if_pos ⟨rfl, rfl⟩]; rfl, Nat.le_refl _, fun i hi => absurd hi (Nat.not_lt_zero _)⟩
  have F1 : PF m m1 := ⟨by rw [e1]; rfl, fun a i h1 _ => by rw [G, if_neg (fun e => h1 e.1), if_neg (fun e => h1 e.1), if_neg (fun e => h1 e.1)]⟩
  have f6 : mGet m1 41 6 = -1 := by rw [G, if_pos ⟨rfl, rfl⟩]
  have sok : SOK n c t 40 0 g := sum_of (dd := 39) hn (unit_ok hn g g (Nat.le_refl _) h9 W 39 0 (by decide) (by decide))
  refine ok_cal (sok 0 [] m1 S A (by omega) (Or.inl (by omega))) (fun v m2 h2 => ?_)
  obtain ⟨F2, r⟩ := h2
  cases e : scanF 0 (wd g) with
  | none =>
    rw [e] at r
    obtain ⟨rfl, S2, k2⟩ := r
    rw [Nat.zero_add, ← hc, List.nil_append] at S2
    rw [if_neg (by decide), S2.2.2.2.1, S2.1.1, if_neg (by omega), k2, f6]
    exact ok_rt ⟨F1.tr F2, rfl, S2⟩
  | some k =>
    rw [e] at r
    obtain ⟨rfl, r2⟩ := r
    rw [if_pos rfl, r2]
    exact ok_rt ⟨F1.tr F2, by rw [Nat.zero_add]⟩
theorem dec_all : ∀ a : Fin 6, ∀ b : Fin 16, ∀ e : Fin 16, iand ((a.val + 16 * b.val + 4096 * e.val : Nat) : Int) 15 = (a.val : Int) ∧ iand (ishr ((a.val + 16 * b.val + 4096 * e.val : Nat) : Int) 4) 255 = (b.val : Int) ∧ iand (ishr ((a.val + 16 * b.val + 4096 * e.val : Nat) : Int) 12) 255 = (e.val : Int) := by decide +kernel
theorem kG44 (m : Mem) : sKind m 44 = (5, 120) := rfl
/-- steps to be done, games done -/
def BS (m : Mem) (gs st : List Nat) : Prop := mGet m 41 7 = (st.length : Int) ∧ st.length ≤ 100 ∧ (∀ i, i < st.length → mGet m 43 i = (st.getD i 0 : Int)) ∧ gs.length ≤ 100 ∧ ∀ j, j < gs.length → ∃ o : Nat, mGet m 44 j = (o : Int) ∧ GOb m o (gs.getD j 0) ∧ can (gs.getD j 0) ∧ fits (gs.getD j 0)
abbrev SB (a : Nat) : Prop := SM a ∨ a = 44
theorem BS.mono {m m' : Mem} {gs st : List Nat} (h : BS m gs st) (f : Fr m m' SM) : BS m' gs st := by
  obtain ⟨h1, h2, h3, h4, h5⟩ := h
  refine ⟨(f.2 41 7 (by decide) (by decide)).trans h1, h2, fun i hi => (f.2 43 i (by decide) (by decide)).trans (h3 i hi), h4, fun j hj => ?_⟩
  obtain ⟨o, o1, o2, o3⟩ := h5 j hj
  exact ⟨o, (f.2 44 j (by decide) (by decide)).trans o1, f.gob o2, o3⟩
def bodyB (n : Nat) : (Int → Int → Mem → Option Rz) → Int → Int → Mem → Option Rz := fun w4 v1_4 v2_4 m4 =>
    gtF m4 41 7 fun x6 =>
    jn (fun (m301 : Mem) =>
      ldG m301 44 0 fun x306 =>
      rt (x306 : Nat) m301
    ) fun (j301 : Mem → Option Rz) =>
    if v2_4 < x6 then (
      if v2_4 < 120 then (
        ldI m4 43 v2_4 fun x26 =>
        nm (iand x26 15) fun z30 =>
        ldI m4 43 v2_4 fun x36 =>
        nm (iand (ishr x36 4) 255) fun z43 =>
        ldI m4 43 v2_4 fun x50 =>
        nm (iand (ishr x50 12) 255) fun z58 =>
        cal (f_X7_taken n z30 z43 z58 m4) fun x66 m66 =>
        nm (w32 (v1_4 - x66)) fun z70 =>
        jn (fun (m96 : Mem) =>
          rt (0 : Nat) m96
        ) fun (j96 : Mem → Option Rz) =>
        if z70 < 0 then (
          j96 m66
        ) else
        if z70 < 120 then (
          if 120 < v1_4 then (
            j96 m66
          ) else
          jn (fun (s0_114 : Nat) (m114 : Mem) =>
            jn (fun (m278 : Mem) =>
              ldG m278 44 z70 fun x284 =>
              if x284 = 0 then (
                rt (0 : Nat) m278
              ) else
              nm (w32 (z70 + 1)) fun z294 =>
              w4 z294 (w32 (v2_4 + 1)) m278
            ) fun (j278 : Mem → Option Rz) =>
            if z30 = 0 then (
              cal (f_X2_integerOf n z43 m114) fun x164 m164 =>
              stG m164 44 z70 x164.toNat fun m167 =>
              j278 m167
            ) else
            if z30 = 1 then (
              cal (f_X2_heapOf n z43 m114) fun x183 m183 =>
              stG m183 44 z70 x183.toNat fun m186 =>
              j278 m186
            ) else
            if z30 = 2 then (
              cal (f_X2_upGame n m114) fun x200 m200 =>
              stG m200 44 z70 x200.toNat fun m203 =>
              j278 m203
            ) else
            if z30 = 3 then (
              cal (f_X2_negativeOf n s0_114 m114) fun x219 m219 =>
              stG m219 44 z70 x219.toNat fun m222 =>
              j278 m222
            ) else
            if z30 = 4 then (
              ldG m114 44 z70 fun x242 =>
              cal (f_X2_sumOf n x242 s0_114 m114) fun x245 m245 =>
              stG m245 44 z70 x245.toNat fun m248 =>
              j278 m248
            ) else
            cal (f_X2_gameOf n 44 z70 (w32 (z70 + z43)) v1_4 m114) fun x274 m274 =>
            stG m274 44 z70 x274.toNat fun m277 =>
            j278 m277
          ) fun (j114 : Nat → Mem → Option Rz) =>
          if 0 < v1_4 then (
            ldG m66 44 (w32 (v1_4 - 1)) fun x109 =>
            j114 x109 m66
          ) else
          j114 0 m66
        ) else
        j96 m66
      ) else
      j301 m4
    ) else
    j301 m4
theorem build_def (n N : Nat) (m : Mem) : f_X7_build n N m = lp (F := Int → Int → Mem → Option Rz) (fun _ _ _ => none) (bodyB n) N 0 0 m := rfl
theorem getD_lt {gs hs : List Nat} {i : Nat} (h : i < gs.length) : (gs ++ hs).getD i 0 = gs.getD i 0 := by
  rw [List.getD_eq_getElem?_getD, List.getD_eq_getElem?_getD, List.getElem?_append_left h]
theorem getD_ge {gs hs : List Nat} {i : Nat} (h : gs.length ≤ i) : (gs ++ hs).getD i 0 = hs.getD (i - gs.length) 0 := by
  rw [List.getD_eq_getElem?_getD, List.getD_eq_getElem?_getD, List.getElem?_append_right h]
/-- a step's end: the game put where its arguments stood -/
theorem put_ok {n : Nat} {z i K : Nat} {v : Int} {gs st rest : List Nat} {w : Int → Int → Mem → Option Rz} {m m1 : Mem} {Q : Int → Mem → Prop} (B : BS m (gs ++ rest) st) (f1 : Fr m m1 SM) (n1 : mNext m1 ≤ mNext m + 4) (R : Res m1 v K) (cK : can K) (fK : fits K) (hz : z = gs.length) (hz1 : z < 100) (hi : i < 100) (hK : ∀ m', BS m' (gs ++ [K]) st → Fr m m' SB → mNext m' ≤ mNext m + 4 → Ok (w ((z + 1 : Nat) : Int) ((i + 1 : Nat) : Int) m') Q) : Ok (stG m1 44 (z : Int) v.toNat fun m2 => ldG m2 44 (z : Int) fun x284 => if x284 = 0 then rt (0 : Nat) m2 else w (w32 ((z : Int) + 1)) (w32 ((i : Int) + 1)) m2) Q := by
  rcases R with ⟨_, o, rfl, O⟩ | ⟨no, _⟩
  · obtain ⟨o1, o2, o3, o4⟩ := O.o
    rw [Int.toNat_natCast, stG_ok (kG44 _) (by omega) (Or.inr ⟨o1, o2, by rw [o3]⟩), ldG_ok (kG44 _) (by omega)]
    have G8 : ∀ a j, mGet (mSet m1 44 z (o : Int)) a j = if a = 44 ∧ j = z then (o : Int) else mGet m1 a j := fun a j => by rw [mGet_mSet, w32_nat (by omega)]
    have e44 : mGet (mSet m1 44 z (o : Int)) 44 z = (o : Int) := by rw [G8, if_pos ⟨rfl, rfl⟩]
    rw [e44, Int.toNat_natCast, if_neg o4, k_1 (by omega), k_1 (by omega)]
    obtain ⟨m2, e2⟩ : ∃ m2, m2 = mSet m1 44 z (o : Int) := ⟨_, rfl⟩
    rw [← e2] at G8 ⊢
    have f2 : Fr m1 m2 SB := Fr.of (by rw [e2]; rfl) (fun a j q => by rw [G8, if_neg (fun e => q ⟨by omega, Or.inr e.1⟩)])
    obtain ⟨b1, b2, b3, b4, b5⟩ := B.mono f1
    rw [List.length_append] at b4 b5
    refine hK m2 ⟨by rw [G8, if_neg (by omega)]; exact b1, b2, fun j hj => by rw [G8, if_neg (by omega)]; exact b3 j hj, by rw [List.length_append, List.length_singleton]; omega, fun j hj => ?_⟩ ((f1.weak (fun a h => Or.inl h)).tr f2) (by rw [show mNext m2 = mNext m1 by rw [e2]; rfl]; exact n1)
    rw [List.length_append, List.length_singleton] at hj
    by_cases q : j = z
    · rw [q, hz, getD_ge (Nat.le_refl _), Nat.sub_self, show [K].getD 0 0 = K from rfl]
      exact ⟨o, by rw [G8, if_pos ⟨rfl, hz.symm⟩], f2.gob O, cK, fK⟩
    · obtain ⟨x, x1, x2, x3⟩ := b5 j (by omega)
      rw [getD_lt (by omega)] at x2 x3 ⊢
      exact ⟨x, by rw [G8, if_neg (fun e => q e.2)]; exact x1, f2.gob x2, x3⟩
  · exact absurd fK no
