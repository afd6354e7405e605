/-! THE TABLE: what turns back is passed by, on both sides -/
theorem ok_lpG {body : (Int → Mem → Option Rz) → Int → Mem → Option Rz} {Q : Int → Mem → Prop} (I : Nat → Int → Mem → Prop) (h : ∀ (w : Int → Mem → Option Rz) μ k m, I μ k m → (∀ μ' k' m', μ' < μ → I μ' k' m' → Ok (w k' m') Q) → Ok (body w k m) Q) : ∀ n μ k m, I μ k m → μ < n → Ok (lp (F := Int → Mem → Option Rz) (fun _ _ => none) body n k m) Q
  | 0, μ, k, m, _, hn => absurd hn (Nat.not_lt_zero _)
  | n + 1, μ, k, m, hI, hn => h _ μ k m hI (fun μ' k' m' h1 h2 => ok_lpG I h n μ' k' m' h2 (by omega))
def SB (a i : Nat) : Prop := SU a i ∨ SLt a i ∨ SRt a i
theorem take_ins {l t : List Nat} {k x : Nat} (hk : k ≤ l.length) (h : x ∈ (l ++ t).take k) : x ∈ l.take k := by
  rw [List.take_append_of_le_length hk] at h
  exact h
theorem drop_ins {l t : List Nat} {k x : Nat} (hk : k ≤ l.length) (h : x ∈ (l ++ t).drop k) : x ∈ l.drop k ∨ x ∈ t := by
  rw [List.drop_append_of_le_length hk] at h
  exact List.mem_append.mp h
theorem drop_s {l : List Nat} {k x : Nat} (h : x ∈ l.drop (k + 1)) : x ∈ l.drop k := by
  obtain ⟨j, hj, kj, e⟩ := mem_dropx.mp h
  exact mem_dropx.mpr ⟨j, hj, by omega, e⟩
/-- a list of which the one at k is gone, by what is smaller, counts less -/
theorem code_by {l l2 : List Nat} {k N : Nat} (hk : k < l.length) (kN : l[k] < N) (ng : ¬ l[k] ∈ l2.drop k) (e : ∀ x, l[k] < x → x ∈ l2.drop k → x ∈ l.drop k) : codeP (fun i => (l2.drop k).contains i) N < codeP (fun i => (l.drop k).contains i) N := by
  refine code_dec (g := l[k]) (List.contains_iff_mem.mpr (mem_dropx.mpr ⟨k, hk, Nat.le_refl _, rfl⟩)) ?_ N kN (fun x h1 _ h3 => List.contains_iff_mem.mpr (e x h1 (List.contains_iff_mem.mp h3)))
  cases q : (l2.drop k).contains l[k]
  · rfl
  · exact absurd (List.contains_iff_mem.mp q) ng
theorem code_up {l : List Nat} {k N : Nat} (hk : k < l.length) (nd : l.Nodup) (kN : l[k] < N) : codeP (fun i => (l.drop (k + 1)).contains i) N < codeP (fun i => (l.drop k).contains i) N := by
  refine code_dec (g := l[k]) (List.contains_iff_mem.mpr (mem_dropx.mpr ⟨k, hk, Nat.le_refl _, rfl⟩)) ?_ N kN (fun x _ _ h3 => List.contains_iff_mem.mpr (drop_s (List.contains_iff_mem.mp h3)))
  cases q : (l.drop (k + 1)).contains l[k]
  · rfl
  · obtain ⟨j, hj, kj, e⟩ := mem_dropx.mp (List.contains_iff_mem.mp q)
    have := nodup_ix nd hj hk e
    omega
section RC3
variable {n N P : Nat} {lo ro : Nat → List Nat} {st : Nat → Nat} {d : Nat → Nat} {F : List Nat}
theorem RT.sb {m m' : Mem} (R : RT m N P lo ro st d F) (c : Ch SB m m') : RT m' N P lo ro st d F := R.ext (fun a i h => c.2 a i (by unfold RCe at h; unfold SB SU SLt SRt; omega))
theorem MP.sb {m m' : Mem} (M : MP m N d) (e : ∀ a i, a = 116 ∨ a = 117 → mGet m' a i = mGet m a i) : MP m' N d := M.ext (Nat.le_refl _) (fun _ _ => rfl) (fun k => ⟨e _ _ (Or.inl rfl), e _ _ (Or.inr rfl)⟩)
set_option maxHeartbeats 1000000 in
theorem byL_ok {l r : List Nat} {s : Nat} {m : Mem} (hn : BIG < n) (R : RT m N P lo ro st d F) (M : MP m N d) (H : Hd m l r) (U : HU m N d (MK d l r) s) (hl : l.Nodup) (hr : r.Nodup) (hb : ∀ o, o ∈ l ++ r → o < N) : Ok (f_X11_bypassesLeft n m) (fun _ m' => ∃ a : List Nat, a.Nodup ∧ (∀ o, o ∈ a ++ r → o < N) ∧ Hd m' a r ∧ geq (MK d l r) (MK d a r) ∧ (∀ x, x ∈ a → ∀ o, o ∈ ro x → ¬ gle (d o) (MK d a r)) ∧ MP m' N d ∧ HU m' N d (MK d a r) s ∧ Ch SB m m') := by
  have n3 := BIG_n hn
  have N2 := R.nn
  have P8 := R.pp
  have RC : ∀ {m1 : Mem}, Ch SB m m1 → ∀ a i, 102 ≤ a → a ≤ 110 → mGet m1 a i = mGet m a i := fun c a i z1 z2 => c.2 a i (by unfold SB SU SLt SRt; omega)
  have cN : ∀ p, codeP p N < n := fun p => Nat.lt_trans (Nat.lt_of_lt_of_le (code_lt p N) (Nat.pow_le_pow_right (by decide) N2)) hn
  unfold f_X11_bypassesLeft
  dsimp only [jn]
  refine ok_lpG (fun μ k m1 => ∃ (kk : Nat) (a : List Nat), k = (kk : Int) ∧ kk ≤ a.length ∧ μ = codeP (fun i => (a.drop kk).contains i) N ∧ a.Nodup ∧ (∀ o, o ∈ a ++ r → o < N) ∧ Hd m1 a r ∧ geq (MK d l r) (MK d a r) ∧ (∀ x, x ∈ a.take kk → ∀ o, o ∈ ro x → ¬ gle (d o) (MK d a r)) ∧ MP m1 N d ∧ HU m1 N d (MK d a r) s ∧ Ch SB m m1) (fun w μ k m1 hI hw => ?_) n _ 0 m ⟨0, l, rfl, Nat.zero_le _, rfl, hl, hb, H, geq_rfl _, (fun x hx => by cases hx), M, U, Ch.rf _ _⟩ (cN _)
  obtain ⟨kk, a, rfl, ka, rfl, nd, hb1, H1, ge, pr, M1, U1, c1⟩ := hI
  obtain ⟨q1, q2, q3, q4, q5, q6⟩ := id H1
  rw [gtF_eq, q1]
  by_cases q : kk < a.length
  · have aN := hb1 _ (List.mem_append_left _ (List.getElem_mem q))
    have e := q3 kk q
    rw [Nat.zero_add] at e
    rw [if_pos (by omega), ldI_ok (len := 4000) rfl (by omega), e]
    refine ok_cal (leftBack_ok n3 hb1 (R.sb c1) M1 H1 U1 aN) (fun v m2 hq => ?_)
    obtain ⟨hv, M2, U2, c2⟩ := hq
    have c2' : Ch SB m1 m2 := c2.weak (fun _ _ => Or.inl)
    rcases hv with ⟨rfl, hno⟩ | ⟨o, ho, rfl, hle⟩
    · rw [if_pos (by decide), w32_1 (by omega)]
      refine hw _ _ m2 (code_up q nd aN) ⟨kk + 1, a, rfl, by omega, rfl, nd, hb1, H1.su c2, ge, fun x hx => ?_, M2, U2, c1.tr c2'⟩
      rw [take_s q] at hx
      rcases List.mem_append.mp hx with hx | hx
      · exact pr x hx
      · rw [List.mem_singleton.mp hx]; exact hno
    · have oN : o < a[kk] := R.lt aN (List.mem_append_right _ ho)
      obtain ⟨m3, e3, l3, g3, H3⟩ := Hd.rmL (H1.su c2) q (fun x hx => by have := hb1 x (List.mem_append_left _ hx); omega)
      have H2 := H1.su c2
      rw [if_neg (by omega), gtF_eq, H2.1, ptF_eq, ← e3, gtF_eq, l3, ldI_ok (len := 4000) rfl (by omega), g3, stI_ok (len := 4000) rfl (by omega)]
      obtain ⟨m4, e4⟩ : ∃ m4, m4 = mSet m3 120 kk (a.getD (a.length - 1) 0 : Int) := ⟨_, rfl⟩
      rw [← e4] at H3 ⊢
      have c4 : Ch SB m2 m4 := by
        rw [e4, e3]
        exact (Ch.set (Or.inr (Or.inl (Or.inl ⟨rfl, rfl⟩)))).tr (Ch.set (Or.inr (Or.inl (Or.inr rfl))))
      have c14 := (c1.tr c2').tr c4
      obtain ⟨⟨g1, g2, g3', g4⟩, gP, _⟩ := R.2.1 o (by omega)
      have lng := app_len (lo o) (ro o)
      have lno2 := R.len (g := o) (by omega)
      rw [ldI_ok (len := 16000) rfl (by omega), RC c14 103 o (by decide) (by decide), g1]
      have ht := insA_ex (lo o) (rm a kk)
      obtain ⟨t, et, tt⟩ := ht
      have kr : kk ≤ (rm a kk).length := by rw [rm_len]; omega
      refine ok_row1 (s := st o) (k := 0) (lo o).length (fun j m5 => Hd m5 (insA (rm a kk) ((lo o).take j)) r ∧ Ch SB m4 m5 ∧ (∀ b i, b = 116 ∨ b = 117 ∨ b = 123 ∨ b = 124 ∨ (b = 100 ∧ i = 29) → mGet m5 b i = mGet m4 b i)) (fun w2 j m5 hj hI hw2 => ?_) (fun w2 m5 hI => ?_) n m4 (Nat.zero_le _) ⟨H3, Ch.rf _ _, fun _ _ _ => rfl⟩ (by omega)
      · obtain ⟨H5, c5, u5⟩ := hI
        have ej := g4.left j hj
        have xo : (lo o)[j] < o := R.lt (by omega) (List.mem_append_left _ (List.getElem_mem hj))
        have c15 := c14.tr c5
        have len5 : (insA (rm a kk) ((lo o).take j)).length ≤ 200 := by
          have nd5 := insA_nodup (a := (lo o).take j) (rm_nodup q nd)
          have := nodup_lt nd5 (n := N) (fun x hx => by
            rcases insA_mem.mp hx with hx | hx
            · exact hb1 x (List.mem_append_left _ ((rm_mem q nd).mp hx).1)
            · have := R.lt (show o < N by omega) (List.mem_append_left _ (List.mem_of_mem_take hx)); omega)
          omega
        rw [ldI_ok (len := 16000) rfl (by omega), RC c15 104 o (by decide) (by decide), g2, if_pos (by omega), ldI_ok (len := 240000) rfl (by omega), RC c15 102 _ (by decide) (by decide), ej]
        refine ok_cal (putsLeft_ok n3 H5 (by omega) (by omega)) (fun _ m6 hq => ?_)
        obtain ⟨H6, c6⟩ := hq
        rw [w32_s (by omega)]
        refine hw2 m6 ⟨?_, c5.tr (c6.weak (fun _ _ z => Or.inr (Or.inl z))), fun b i z => (c6.2 b i (by unfold SLt; omega)).trans (u5 b i z)⟩
        rw [take_s hj, insA_app]
        exact H6
      · obtain ⟨H5, c5, u5⟩ := hI
        rw [List.take_length] at H5
        have c15 := c14.tr c5
        rw [ldI_ok (len := 16000) rfl (by omega), RC c15 104 o (by decide) (by decide), g2, if_neg (by omega)]
        have mem : ∀ x, x ∈ insA (rm a kk) (lo o) ↔ (x ∈ a ∧ x ≠ a[kk]) ∨ x ∈ lo o := fun x => by rw [insA_mem, rm_mem q nd]
        have ge2 : geq (MK d a r) (MK d (insA (rm a kk) (lo o)) r) := by
          refine byL (x := d a[kk]) (z := d o) (op_MKL.mpr ⟨_, List.getElem_mem q, rfl⟩) ((R.opR aN).mpr ⟨o, ho, rfl⟩) hle (fun y => ?_) (fun u hu => ?_) (fun u hu => ?_) (fun u hu => ?_)
          · apply Bool.eq_iff_iff.mpr
            rw [op_MKR, op_MKR]
          · obtain ⟨x, hx, rfl⟩ := op_MKL.mp hu
            rcases (mem x).mp hx with h | h
            · exact Or.inl (op_MKL.mpr ⟨x, h.1, rfl⟩)
            · exact Or.inr ((R.opL (by omega)).mpr ⟨x, h, rfl⟩)
          · obtain ⟨x, hx, rfl⟩ := op_MKL.mp hu
            by_cases z : x = a[kk]
            · exact Or.inl (by rw [z])
            · exact Or.inr (op_MKL.mpr ⟨x, (mem x).mpr (Or.inl ⟨hx, z⟩), rfl⟩)
          · obtain ⟨x, hx, rfl⟩ := (R.opL (show o < N by omega)).mp hu
            exact op_MKL.mpr ⟨x, (mem x).mpr (Or.inr hx), rfl⟩
        have U5 : HU m5 N d (MK d (insA (rm a kk) (lo o)) r) s := (U2.ext (m' := m5) (fun b i z => by
          rw [u5 b i (by omega), e4, mGet_mSet, if_neg (by omega), e3, mGet_mSet, if_neg (by omega)])).geq ge2
        have M5 : MP m5 N d := M2.sb (fun b i z => by
          rw [u5 b i (by omega), e4, mGet_mSet, if_neg (by omega), e3, mGet_mSet, if_neg (by omega)])
        refine hw _ _ m5 (code_by q aN ?_ (fun x h1 hx => ?_)) ⟨kk, insA (rm a kk) (lo o), rfl, by rw [et, List.length_append]; omega, rfl, insA_nodup (rm_nodup q nd), fun x hx => ?_, H5, ge.tr ge2, fun x hx y hy z => ?_, M5, U5, c15⟩
        · intro z
          rcases (mem _).mp (List.mem_of_mem_drop z) with h | h
          · exact h.2 rfl
          · have := R.lt (show o < N by omega) (List.mem_append_left _ h); omega
        · rw [et] at hx
          rcases drop_ins kr hx with h | h
          · exact drop_s (rm_drop q h)
          · have := R.lt (show o < N by omega) (List.mem_append_left _ (tt x h)); omega
        · rcases List.mem_append.mp hx with h | h
          · rcases (mem x).mp h with h | h
            · exact hb1 x (List.mem_append_left _ h.1)
            · have := R.lt (show o < N by omega) (List.mem_append_left _ h); omega
          · exact hb1 x (List.mem_append_right _ h)
        · rw [et] at hx
          exact pr x (rm_take q (take_ins kr hx)) y hy (ge2.r.mpr z)
  · rw [if_neg (by omega)]
    have e : kk = a.length := by omega
    subst e
    rw [List.take_length] at pr
    exact ok_rt ⟨a, nd, hb1, H1, ge, pr, M1, U1, c1⟩
set_option maxHeartbeats 1000000 in
theorem byR_ok {l r : List Nat} {s : Nat} {m : Mem} (hn : BIG < n) (R : RT m N P lo ro st d F) (M : MP m N d) (H : Hd m l r) (U : HU m N d (MK d l r) s) (hl : l.Nodup) (hr : r.Nodup) (hb : ∀ o, o ∈ l ++ r → o < N) : Ok (f_X11_bypassesRight n m) (fun _ m' => ∃ a : List Nat, a.Nodup ∧ (∀ o, o ∈ l ++ a → o < N) ∧ Hd m' l a ∧ geq (MK d l r) (MK d l a) ∧ (∀ x, x ∈ a → ∀ o, o ∈ lo x → ¬ gle (MK d l a) (d o)) ∧ MP m' N d ∧ HU m' N d (MK d l a) s ∧ Ch SB m m') := by
  have n3 := BIG_n hn
  have N2 := R.nn
  have P8 := R.pp
  have RC : ∀ {m1 : Mem}, Ch SB m m1 → ∀ a i, 102 ≤ a → a ≤ 110 → mGet m1 a i = mGet m a i := fun c a i z1 z2 => c.2 a i (by unfold SB SU SLt SRt; omega)
  have cN : ∀ p, codeP p N < n := fun p => Nat.lt_trans (Nat.lt_of_lt_of_le (code_lt p N) (Nat.pow_le_pow_right (by decide) N2)) hn
  unfold f_X11_bypassesRight
  dsimp only [jn]
  refine ok_lpG (fun μ k m1 => ∃ (kk : Nat) (a : List Nat), k = (kk : Int) ∧ kk ≤ a.length ∧ μ = codeP (fun i => (a.drop kk).contains i) N ∧ a.Nodup ∧ (∀ o, o ∈ l ++ a → o < N) ∧ Hd m1 l a ∧ geq (MK d l r) (MK d l a) ∧ (∀ x, x ∈ a.take kk → ∀ o, o ∈ lo x → ¬ gle (MK d l a) (d o)) ∧ MP m1 N d ∧ HU m1 N d (MK d l a) s ∧ Ch SB m m1) (fun w μ k m1 hI hw => ?_) n _ 0 m ⟨0, r, rfl, Nat.zero_le _, rfl, hr, hb, H, geq_rfl _, (fun x hx => by cases hx), M, U, Ch.rf _ _⟩ (cN _)
  obtain ⟨kk, a, rfl, ka, rfl, nd, hb1, H1, ge, pr, M1, U1, c1⟩ := hI
  obtain ⟨q1, q2, q3, q4, q5, q6⟩ := id H1
  rw [gtF_eq, q2]
  by_cases q : kk < a.length
  · have aN := hb1 _ (List.mem_append_right _ (List.getElem_mem q))
    have e := q4 kk q
    rw [Nat.zero_add] at e
    rw [if_pos (by omega), ldI_ok (len := 4000) rfl (by omega), e]
    refine ok_cal (rightBack_ok n3 hb1 (R.sb c1) M1 H1 U1 aN) (fun v m2 hq => ?_)
    obtain ⟨hv, M2, U2, c2⟩ := hq
    have c2' : Ch SB m1 m2 := c2.weak (fun _ _ => Or.inl)
    rcases hv with ⟨rfl, hno⟩ | ⟨o, ho, rfl, hle⟩
    · rw [if_pos (by decide), w32_1 (by omega)]
      refine hw _ _ m2 (code_up q nd aN) ⟨kk + 1, a, rfl, by omega, rfl, nd, hb1, H1.su c2, ge, fun x hx => ?_, M2, U2, c1.tr c2'⟩
      rw [take_s q] at hx
      rcases List.mem_append.mp hx with hx | hx
      · exact pr x hx
      · rw [List.mem_singleton.mp hx]; exact hno
    · have oN : o < a[kk] := R.lt aN (List.mem_append_left _ ho)
      obtain ⟨m3, e3, l3, g3, H3⟩ := Hd.rmR (H1.su c2) q (fun x hx => by have := hb1 x (List.mem_append_right _ hx); omega)
      have H2 := H1.su c2
      rw [if_neg (by omega), gtF_eq, H2.2.1, ptF_eq, ← e3, gtF_eq, l3, ldI_ok (len := 4000) rfl (by omega), g3, stI_ok (len := 4000) rfl (by omega)]
      obtain ⟨m4, e4⟩ : ∃ m4, m4 = mSet m3 121 kk (a.getD (a.length - 1) 0 : Int) := ⟨_, rfl⟩
      rw [← e4] at H3 ⊢
      have c4 : Ch SB m2 m4 := by
        rw [e4, e3]
        exact (Ch.set (Or.inr (Or.inr (Or.inl ⟨rfl, rfl⟩)))).tr (Ch.set (Or.inr (Or.inr (Or.inr rfl))))
      have c14 := (c1.tr c2').tr c4
      obtain ⟨⟨g1, g2, g3', g4⟩, gP, _⟩ := R.2.1 o (by omega)
      have lng := app_len (lo o) (ro o)
      have lno2 := R.len (g := o) (by omega)
      rw [ldI_ok (len := 16000) rfl (by omega), RC c14 104 o (by decide) (by decide), g2]
      have ht := insA_ex (ro o) (rm a kk)
      obtain ⟨t, et, tt⟩ := ht
      have kr : kk ≤ (rm a kk).length := by rw [rm_len]; omega
      refine ok_row1 (s := st o + (lo o).length) (k := 0) (ro o).length (fun j m5 => Hd m5 l (insA (rm a kk) ((ro o).take j)) ∧ Ch SB m4 m5 ∧ (∀ b i, b = 116 ∨ b = 117 ∨ b = 123 ∨ b = 124 ∨ (b = 100 ∧ i = 29) → mGet m5 b i = mGet m4 b i)) (fun w2 j m5 hj hI hw2 => ?_) (fun w2 m5 hI => ?_) n m4 (Nat.zero_le _) ⟨H3, Ch.rf _ _, fun _ _ _ => rfl⟩ (by omega)
      · obtain ⟨H5, c5, u5⟩ := hI
        have ej := g4.right j hj
        have xo : (ro o)[j] < o := R.lt (by omega) (List.mem_append_right _ (List.getElem_mem hj))
        have c15 := c14.tr c5
        have len5 : (insA (rm a kk) ((ro o).take j)).length ≤ 200 := by
          have nd5 := insA_nodup (a := (ro o).take j) (rm_nodup q nd)
          have := nodup_lt nd5 (n := N) (fun x hx => by
            rcases insA_mem.mp hx with hx | hx
            · exact hb1 x (List.mem_append_right _ ((rm_mem q nd).mp hx).1)
            · have := R.lt (show o < N by omega) (List.mem_append_right _ (List.mem_of_mem_take hx)); omega)
          omega
        rw [ldI_ok (len := 16000) rfl (by omega), RC c15 105 o (by decide) (by decide), g3', if_pos (by omega), ldI_ok (len := 240000) rfl (by omega), RC c15 102 _ (by decide) (by decide), ej]
        refine ok_cal (putsRight_ok n3 H5 (by omega) (by omega)) (fun _ m6 hq => ?_)
        obtain ⟨H6, c6⟩ := hq
        rw [w32_s (by omega)]
        refine hw2 m6 ⟨?_, c5.tr (c6.weak (fun _ _ z => Or.inr (Or.inr z))), fun b i z => (c6.2 b i (by unfold SRt; omega)).trans (u5 b i z)⟩
        rw [take_s hj, insA_app]
        exact H6
      · obtain ⟨H5, c5, u5⟩ := hI
        rw [List.take_length] at H5
        have c15 := c14.tr c5
        rw [ldI_ok (len := 16000) rfl (by omega), RC c15 105 o (by decide) (by decide), g3', if_neg (by omega)]
        have mem : ∀ x, x ∈ insA (rm a kk) (ro o) ↔ (x ∈ a ∧ x ≠ a[kk]) ∨ x ∈ ro o := fun x => by rw [insA_mem, rm_mem q nd]
        have ge2 : geq (MK d l a) (MK d l (insA (rm a kk) (ro o))) := by
          refine byR (x := d a[kk]) (z := d o) (op_MKR.mpr ⟨_, List.getElem_mem q, rfl⟩) ((R.opL aN).mpr ⟨o, ho, rfl⟩) hle (fun y => ?_) (fun u hu => ?_) (fun u hu => ?_) (fun u hu => ?_)
          · apply Bool.eq_iff_iff.mpr
            rw [op_MKL, op_MKL]
          · obtain ⟨x, hx, rfl⟩ := op_MKR.mp hu
            rcases (mem x).mp hx with h | h
            · exact Or.inl (op_MKR.mpr ⟨x, h.1, rfl⟩)
            · exact Or.inr ((R.opR (by omega)).mpr ⟨x, h, rfl⟩)
          · obtain ⟨x, hx, rfl⟩ := op_MKR.mp hu
            by_cases z : x = a[kk]
            · exact Or.inl (by rw [z])
            · exact Or.inr (op_MKR.mpr ⟨x, (mem x).mpr (Or.inl ⟨hx, z⟩), rfl⟩)
          · obtain ⟨x, hx, rfl⟩ := (R.opR (show o < N by omega)).mp hu
            exact op_MKR.mpr ⟨x, (mem x).mpr (Or.inr hx), rfl⟩
        have U5 : HU m5 N d (MK d l (insA (rm a kk) (ro o))) s := (U2.ext (m' := m5) (fun b i z => by
          rw [u5 b i (by omega), e4, mGet_mSet, if_neg (by omega), e3, mGet_mSet, if_neg (by omega)])).geq ge2
        have M5 : MP m5 N d := M2.sb (fun b i z => by
          rw [u5 b i (by omega), e4, mGet_mSet, if_neg (by omega), e3, mGet_mSet, if_neg (by omega)])
        refine hw _ _ m5 (code_by q aN ?_ (fun x h1 hx => ?_)) ⟨kk, insA (rm a kk) (ro o), rfl, by rw [et, List.length_append]; omega, rfl, insA_nodup (rm_nodup q nd), fun x hx => ?_, H5, ge.tr ge2, fun x hx y hy z => ?_, M5, U5, c15⟩
        · intro z
          rcases (mem _).mp (List.mem_of_mem_drop z) with h | h
          · exact h.2 rfl
          · have := R.lt (show o < N by omega) (List.mem_append_right _ h); omega
        · rw [et] at hx
          rcases drop_ins kr hx with h | h
          · exact drop_s (rm_drop q h)
          · have := R.lt (show o < N by omega) (List.mem_append_right _ (tt x h)); omega
        · rcases List.mem_append.mp hx with h | h
          · exact hb1 x (List.mem_append_left _ h)
          · rcases (mem x).mp h with h | h
            · exact hb1 x (List.mem_append_right _ h.1)
            · have := R.lt (show o < N by omega) (List.mem_append_right _ h); omega
        · rw [et] at hx
          exact pr x (rm_take q (take_ins kr hx)) y hy (ge2.l.mpr z)
  · rw [if_neg (by omega)]
    have e : kk = a.length := by omega
    subst e
    rw [List.take_length] at pr
    exact ok_rt ⟨a, nd, hb1, H1, ge, pr, M1, U1, c1⟩
end RC3
