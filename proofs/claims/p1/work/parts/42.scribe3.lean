/-! THE SCRIBE: typing -/
theorem ldB_ok {m : Mem} {a len i : Nat} {K : Int → Option Rz} (hk : sKind m a = (3, len)) (hi : i < len) : ldB m a (i : Int) K = K (mGet m a i) := by
  unfold ldB
  rw [hk, if_pos ⟨rfl, by omega, by show (i : Int) < (len : Int); omega⟩, Int.toNat_natCast]
theorem stB_ok {m : Mem} {a len i : Nat} {v : Int} {K : Mem → Option Rz} (hk : sKind m a = (3, len)) (hi : i < len) : stB m a (i : Int) v K = K (mSet m a i (i8 v)) := by
  unfold stB
  rw [hk, if_pos ⟨rfl, by omega, by show (i : Int) < (len : Int); omega⟩, Int.toNat_natCast]
theorem kB27 (m : Mem) : sKind m 27 = (3, 1000) := rfl
theorem i8_all : ∀ c : Fin 128, i8 (c.val : Int) = (c.val : Int) := by decide +kernel
theorem i8_nat {c : Nat} (h : c < 128) : i8 (c : Int) = (c : Int) := i8_all ⟨c, h⟩
theorem t_ix {f i : Nat} (hf : f < 10) (hi : i ≤ 1000) : w32 (w32 ((f : Int) * 100) + (i : Int)) = ((100 * f + i : Nat) : Int) := by
  rw [w32_id (x := (f : Int) * 100) (by omega) (by omega), w32_id (by omega) (by omega)]
  omega
theorem ok_eq {X : Option Rz} {v : Int} {m : Mem} (h : Ok X (fun a m' => m' = m ∧ a = v)) : X = some (v, m) := by
  obtain ⟨a, m', h1, rfl, rfl⟩ := h
  exact h1
theorem mGet_ofNat {m : Mem} {a i v : Nat} (h : v < 2147483648) : mGet (mSet m a i (v : Int)) a i = (v : Int) := by
  rw [mGet_mSet, if_pos ⟨rfl, rfl⟩, w32_nat h]
/-- row f of the texts holds w -/
def Tx (m : Mem) (f : Nat) (w : List Nat) : Prop := w.length ≤ 100 ∧ mGet m 26 f = (w.length : Int) ∧ (∀ i, i < w.length → mGet m 27 (100 * f + i) = (w.getD i 0 : Int)) ∧ ∀ c, c ∈ w → c < 128
/-- w has been typed into row f: what is more than 100 bytes is told by the flag -/
def TP (m : Mem) (fl : Int) (f : Nat) (w : List Nat) : Prop := Tx m f (w.take 100) ∧ mGet m 18 10 = if w.length ≤ 100 then fl else 1
/-- what typing into row f may change -/
def TF (m m' : Mem) (f : Nat) : Prop := m'.2 = m.2 ∧ ∀ a i, ¬ (a = 18 ∧ i = 10) → ¬ (a = 26 ∧ i = f) → ¬ (a = 27 ∧ 100 * f ≤ i ∧ i < 100 * f + 100) → mGet m' a i = mGet m a i
theorem TF.rf (m : Mem) (f : Nat) : TF m m f := ⟨rfl, fun _ _ _ _ _ => rfl⟩
theorem TF.tr {a b c : Mem} {f : Nat} (x : TF a b f) (y : TF b c f) : TF a c f := ⟨y.1.trans x.1, fun i j h1 h2 h3 => (y.2 i j h1 h2 h3).trans (x.2 i j h1 h2 h3)⟩
theorem Tx.fr {m m' : Mem} {f g : Nat} {w : List Nat} (h : Tx m g w) (x : TF m m' f) (hfg : g ≠ f) : Tx m' g w := by
  obtain ⟨h1, h2, h3, h4⟩ := h
  refine ⟨h1, by rw [x.2 26 g (by omega) (by omega) (by omega)]; exact h2, fun i hi => ?_, h4⟩
  rw [x.2 27 (100 * g + i) (by omega) (by omega) (by omega)]
  exact h3 i hi
theorem Tx.eq {m m' : Mem} {f : Nat} {w : List Nat} (h : Tx m f w) (e6 : mGet m' 26 f = mGet m 26 f) (e7 : ∀ i, mGet m' 27 i = mGet m 27 i) : Tx m' f w := ⟨h.1, by rw [e6]; exact h.2.1, fun i hi => by rw [e7]; exact h.2.2.1 i hi, h.2.2.2⟩
theorem type_ok {n f c : Nat} {fl : Int} {m : Mem} {w : List Nat} (hf : f < 10) (hc : c < 128) (h : TP m fl f w) : Ok (f_X4_type n (f : Int) (c : Int) m) (fun _ m' => TF m m' f ∧ TP m' fl f (w ++ [c])) := by
  obtain ⟨⟨h1, h2, h3, h4⟩, h5⟩ := h
  unfold f_X4_type
  dsimp only [jn]
  rw [if_neg (by omega), if_pos (by omega), ldI_ok (kI20 _ (by decide)) hf, h2, if_neg (by omega), ldI_ok (kI20 _ (by decide)) hf, h2]
  by_cases hl : w.length < 100
  · have et : w.take 100 = w := List.take_of_length_le (by omega)
    rw [et] at h1 h2 h3 h4 ⊢
    rw [if_pos (by omega), ldI_ok (kI20 _ (by decide)) hf, h2, t_ix hf (by omega), stB_ok (kB27 _) (by omega), i8_nat hc, i8_nat hc, ldI_ok (kI20 _ (by decide)) hf, mGet_mSet, if_neg (by omega), h2, stI_ok (kI20 _ (by decide)) hf, w32_id (by omega) (by omega)]
    have el : (w ++ [c]).length = w.length + 1 := by rw [List.length_append]; rfl
    have g : ∀ a i, mGet (mSet (mSet m 27 (100 * f + w.length) (c : Int)) 26 f ((w.length : Int) + 1)) a i = if a = 26 ∧ i = f then (w.length : Int) + 1 else if a = 27 ∧ i = 100 * f + w.length then (c : Int) else mGet m a i := by
      intro a i
      rw [mGet_mSet, mGet_mSet, w32_id (by omega) (by omega), w32_id (by omega) (by omega)]
    refine ok_rt ⟨⟨rfl, fun a i q1 q2 q3 => ?_⟩, ⟨?_, ?_, ?_, ?_⟩, ?_⟩
    · rw [g, if_neg q2, if_neg (by omega)]
    · rw [List.take_of_length_le (by omega)]; omega
    · rw [List.take_of_length_le (by omega), g, if_pos ⟨rfl, rfl⟩, el]; omega
    · rw [List.take_of_length_le (by omega)]
      intro i hi
      rw [g, if_neg (by omega)]
      rcases (by omega : i < w.length ∨ i = w.length) with q | rfl
      · rw [if_neg (by omega), h3 i q]
        rw [List.getD_eq_getElem?_getD, List.getD_eq_getElem?_getD, List.getElem?_append_left q]
      · rw [if_pos ⟨rfl, rfl⟩, List.getD_eq_getElem?_getD, List.getElem?_append_right (Nat.le_refl _), Nat.sub_self]
        rfl
    · rw [List.take_of_length_le (by omega)]
      intro x hx
      rcases List.mem_append.mp hx with hx | hx
      · exact h4 x hx
      · rw [List.mem_singleton.mp hx]; exact hc
    · rw [g, if_neg (by omega), if_neg (by omega), h5, if_pos (by omega), if_pos (by omega)]
  · have et : (w.take 100).length = 100 := by rw [List.length_take]; omega
    rw [if_neg (by omega)]
    unfold ptZ
    rw [if_pos (Or.inr rfl)]
    have e : (w ++ [c]).take 100 = w.take 100 := List.take_append_of_le_length (by omega)
    have g : ∀ a i, mGet (mSet m 18 10 1) a i = if a = 18 ∧ i = 10 then 1 else mGet m a i := by
      intro a i
      rw [mGet_mSet, w32_id (by decide) (by decide)]
    refine ok_rt ⟨⟨rfl, fun a i q1 _ _ => by rw [g, if_neg q1]⟩, ?_, ?_⟩
    · rw [e]
      exact ⟨h1, by rw [g, if_neg (by omega)]; exact h2, fun i hi => by rw [g, if_neg (by omega)]; exact h3 i hi, h4⟩
    · rw [g, if_pos ⟨rfl, rfl⟩, if_neg (by rw [List.length_append]; show ¬ w.length + 1 ≤ 100; omega)]
/-- a row is typed after another one: its bytes from i on -/
theorem getD_drop {t : List Nat} {i : Nat} (h : i < t.length) : t.drop i = t.getD i 0 :: t.drop (i + 1) := by
  rw [List.drop_eq_getElem_cons h, List.getD_eq_getElem?_getD, List.getElem?_eq_getElem h]
  rfl
theorem getD_mem {t : List Nat} {i : Nat} (h : i < t.length) : t.getD i 0 ∈ t := by
  rw [List.getD_eq_getElem?_getD, List.getElem?_eq_getElem h]
  exact List.getElem_mem h
theorem TP.nil {m : Mem} {fl : Int} {f : Nat} (h : mGet m 26 f = 0) (h2 : mGet m 18 10 = fl) : TP m fl f [] := ⟨⟨by decide, by rw [h]; rfl, (fun i hi => absurd hi (Nat.not_lt_zero _)), (fun c hc => by cases hc)⟩, by rw [h2]; rfl⟩
/-! which of two rows stands ahead -/
theorem isAhead_eq {n f g : Nat} {m : Mem} {t u : List Nat} (hn : 300 < n) (hf : f < 10) (hg : g < 10) (ht : Tx m f t) (hu : Tx m g u) : f_X4_isAhead n (f : Int) (g : Int) m = some (b2i (wlt t u), m) := by
  obtain ⟨t1, t2, t3, t4⟩ := ht
  obtain ⟨u1, u2, u3, u4⟩ := hu
  refine ok_eq ?_
  unfold f_X4_isAhead
  dsimp only [jn]
  rw [if_neg (by omega), if_neg (by omega), if_pos (by omega), if_pos (by omega), ldI_ok (kI20 _ (by decide)) hf, ldI_ok (kI20 _ (by decide)) hg, t2, u2]
  by_cases hl : t.length = u.length
  · rw [if_pos (by omega)]
    have ew : wlt t u = lexlt t u := by
      unfold wlt
      simp [hl]
    rw [ew]
    refine ok_up1 t.length (fun i m1 => m1 = m ∧ lexlt (t.drop i) (u.drop i) = lexlt t u) (fun w i m1 hi hI hw => ?_) (fun w m1 hI => ?_) n 0 m (Nat.zero_le _) ⟨rfl, rfl⟩ (by omega)
    · obtain ⟨rfl, hI⟩ := hI
      rw [ldI_ok (kI20 _ (by decide)) hf, t2, if_pos (by omega), if_pos (by omega), t_ix hf (by omega), t_ix hg (by omega), ldB_ok (kB27 _) (by omega), ldB_ok (kB27 _) (by omega), t3 i hi, u3 i (by omega), k_1 (by omega)]
      rw [getD_drop hi, getD_drop (show i < u.length by omega)] at hI
      have hI2 : (decide (t.getD i 0 < u.getD i 0) || (decide (t.getD i 0 = u.getD i 0) && lexlt (t.drop (i + 1)) (u.drop (i + 1)))) = lexlt t u := hI
      by_cases q : t.getD i 0 = u.getD i 0
      · rw [if_pos (by omega)]
        refine hw m1 ⟨rfl, ?_⟩
        rw [← hI2, q]
        simp
      · rw [if_neg (by omega)]
        by_cases q2 : t.getD i 0 < u.getD i 0
        · rw [if_pos (by omega)]
          refine ok_rtZ (Or.inr rfl) ⟨rfl, ?_⟩
          rw [← hI2, decide_eq_true q2]
          rfl
        · rw [if_neg (by omega)]
          refine ok_rtZ (Or.inl rfl) ⟨rfl, ?_⟩
          rw [← hI2, decide_eq_false q2, decide_eq_false q]
          rfl
    · obtain ⟨rfl, hI⟩ := hI
      rw [ldI_ok (kI20 _ (by decide)) hf, t2, if_neg (by omega)]
      refine ok_rtZ (Or.inl rfl) ⟨rfl, ?_⟩
      rw [← hI, List.drop_of_length_le (Nat.le_refl _)]
      rfl
  · rw [if_neg (by omega), ldI_ok (kI20 _ (by decide)) hf, ldI_ok (kI20 _ (by decide)) hg, t2, u2]
    have ew : wlt t u = decide (t.length < u.length) := by
      unfold wlt
      simp [hl]
    rw [ew]
    by_cases q : t.length < u.length
    · rw [if_pos (by omega)]
      exact ok_rtZ (Or.inr rfl) ⟨rfl, by simp [q, b2i]⟩
    · rw [if_neg (by omega)]
      exact ok_rtZ (Or.inl rfl) ⟨rfl, by simp [q, b2i]⟩
/-! the rows in their order: s 0, s 1 .. below f -/
def So (m : Mem) (f : Nat) (s : Nat → Nat) : Prop := ∀ j, j < f → mGet m 24 j = (s j : Int) ∧ s j < f
def insP (s : Nat → Nat) (f p : Nat) : Nat → Nat := fun j => if j < p then s j else if j = p then f else s (j - 1)
theorem sortIn_ok {n f : Nat} {m : Mem} {s : Nat → Nat} {t : Nat → List Nat} (hn : 300 < n) (hf : f < 10) (hs : So m f s) (ht : ∀ g, g ≤ f → Tx m g (t g)) : Ok (f_X4_sortIn n (f : Int) m) (fun _ m' => ∃ p, p ≤ f ∧ m'.2 = m.2 ∧ (∀ a i, a ≠ 24 → mGet m' a i = mGet m a i) ∧ (∀ j, j ≤ f → mGet m' 24 j = (insP s f p j : Int)) ∧ (∀ j, p ≤ j → j < f → wlt (t f) (t (s j)) = true) ∧ (0 < p → wlt (t f) (t (s (p - 1))) = false)) := by
  unfold f_X4_sortIn
  refine ok_lp1 (fun k m1 => ∃ p : Nat, k = (p : Int) ∧ p ≤ f ∧ m1.2 = m.2 ∧ (∀ a i, a ≠ 24 → mGet m1 a i = mGet m a i) ∧ (∀ j, j < p → mGet m1 24 j = (s j : Int)) ∧ (∀ j, p < j → j ≤ f → mGet m1 24 j = (s (j - 1) : Int)) ∧ (∀ j, p ≤ j → j < f → wlt (t f) (t (s j)) = true)) (fun k m1 => k.toNat) (fun w k m1 hI hw => ?_) n (f : Int) m ⟨f, rfl, Nat.le_refl _, rfl, fun _ _ _ => rfl, fun j hj => (hs j hj).1, fun j h1 h2 => absurd h1 (by omega), fun j h1 h2 => absurd h1 (by omega)⟩ (by omega)
  obtain ⟨p, rfl, hp, e2, e3, e4, e5, e6⟩ := hI
  dsimp only [jn]
  have fin : (0 < p → wlt (t f) (t (s (p - 1))) = false) → Ok (if (p : Int) < 0 then rt 0 m1 else if (p : Int) < 10 then stI m1 24 (p : Int) (f : Int) fun m70 => rt 0 m70 else rt 0 m1) (fun _ m' => ∃ p, p ≤ f ∧ m'.2 = m.2 ∧ (∀ a i, a ≠ 24 → mGet m' a i = mGet m a i) ∧ (∀ j, j ≤ f → mGet m' 24 j = (insP s f p j : Int)) ∧ (∀ j, p ≤ j → j < f → wlt (t f) (t (s j)) = true) ∧ (0 < p → wlt (t f) (t (s (p - 1))) = false)) := by
    intro hz
    rw [if_neg (by omega), if_pos (by omega), stI_ok (kI20 _ (by decide)) (by omega)]
    refine ok_rt ⟨p, hp, e2, fun a i ha => by rw [mGet_mSet, if_neg (by omega)]; exact e3 a i ha, fun j hj => ?_, e6, hz⟩
    unfold insP
    rw [mGet_mSet]
    rcases (by omega : j < p ∨ j = p ∨ p < j) with q | q | q
    · rw [if_neg (by omega), if_pos q]; exact e4 j q
    · rw [if_pos ⟨rfl, q⟩, if_neg (by omega), if_pos q, w32_nat (by omega)]
    · rw [if_neg (by omega), if_neg (by omega), if_neg (by omega)]; exact e5 j q hj
  by_cases hp0 : 0 < p
  · rw [if_pos (by omega), if_pos (by omega), w32_id (by omega) (by omega)]
    rw [show (p : Int) - 1 = ((p - 1 : Nat) : Int) by omega, ldI_ok (kI20 _ (by decide)) (by omega), e4 (p - 1) (by omega)]
    have hsp := (hs (p - 1) (by omega)).2
    have tf : Tx m1 f (t f) := (ht f (Nat.le_refl _)).eq (e3 _ _ (by decide)) (fun i => e3 _ _ (by decide))
    have tg : Tx m1 (s (p - 1)) (t (s (p - 1))) := (ht _ (by omega)).eq (e3 _ _ (by decide)) (fun i => e3 _ _ (by decide))
    refine ok_calE (isAhead_eq hn hf (by omega) tf tg) ?_
    cases hb : wlt (t f) (t (s (p - 1)))
    · rw [if_pos (by decide)]
      exact fin (fun _ => hb)
    · rw [if_neg (by decide), ldI_ok (kI20 _ (by decide)) (by omega), e4 (p - 1) (by omega), stI_ok (kI20 _ (by decide)) (by omega), w32_id (by omega) (by omega)]
      rw [show (p : Int) + -1 = ((p - 1 : Nat) : Int) by omega]
      refine hw _ _ ⟨p - 1, rfl, by omega, e2, fun a i ha => by rw [mGet_mSet, if_neg (by omega)]; exact e3 a i ha, fun j hj => by rw [mGet_mSet, if_neg (by omega)]; exact e4 j (by omega), fun j h1 h2 => ?_, fun j h1 h2 => ?_⟩ (by omega)
      · rw [mGet_mSet]
        by_cases q : j = p
        · rw [if_pos ⟨rfl, q⟩, q, w32_nat (by omega)]
        · rw [if_neg (by omega)]; exact e5 j (by omega) h2
      · by_cases q : j = p - 1
        · rw [q]; exact hb
        · exact e6 j (by omega) h2
  · rw [if_neg (by omega)]
    exact fin (fun h => absurd h hp0)
/-! options, with commas between -/
theorem joinw_snoc (l : List (List Nat)) (a : List Nat) : joinw (l ++ [a]) = if l = [] then a else joinw l ++ 44 :: a := by
  induction l with
  | nil => rfl
  | cons b l ih =>
    rw [if_neg (by simp)]
    cases l with
    | nil => rfl
    | cons c l =>
      rw [if_neg (by simp)] at ih
      show b ++ 44 :: joinw (c :: l ++ [a]) = (b ++ 44 :: joinw (c :: l)) ++ 44 :: a
      rw [ih]
      simp
/-- the texts of the rows whose bits are set, in their order -/
def selw (x : Nat) (s : Nat → Nat) (t : Nat → List Nat) (i : Nat) : List (List Nat) := (fr (fun j => x.testBit (s j)) i).map (fun j => t (s j))
theorem selw_succ (x : Nat) (s : Nat → Nat) (t : Nat → List Nat) (i : Nat) : selw x s t (i + 1) = selw x s t i ++ (if x.testBit (s i) then [t (s i)] else []) := by
  unfold selw
  rw [fr_succ, List.map_append]
  cases x.testBit (s i) <;> rfl
theorem copy_ok {n f g : Nat} {fl : Int} {m : Mem} {w t : List Nat} {K : Mem → Option Rz} {Q : Int → Mem → Prop} (hn : 300 < n) (hf : f < 10) (hg : g < 10) (hgf : g ≠ f) (ht : Tx m g t) (h : TP m fl f w) (hk : ∀ m', TF m m' f → TP m' fl f (w ++ t) → Ok (K m') Q) : Ok (lp (F := Int → Mem → Option Rz) (fun _ _ => none) (fun w70 v6_70 m70 =>
      ldI m70 26 (g : Int) fun x78 =>
      if v6_70 < x78 then (
        if v6_70 < 100 then (
          ldB m70 27 (w32 ((w32 ((g : Int) * 100)) + v6_70)) fun x103 =>
          cal (f_X4_type n (f : Int) x103 m70) fun _ m104 =>
          w70 (w32 (v6_70 + 1)) m104
        ) else
        K m70
      ) else
      K m70
    ) n 0 m) Q := by
  have l1 := ht.1
  refine ok_up1 t.length (fun i m1 => TF m m1 f ∧ TP m1 fl f (w ++ t.take i)) (fun w1 i m1 hi hI hw => ?_) (fun w1 m1 hI => ?_) n 0 m (Nat.zero_le _) ⟨TF.rf _ _, by rw [List.take_zero, List.append_nil]; exact h⟩ (by omega)
  · obtain ⟨f1, p1⟩ := hI
    have ht1 := ht.fr f1 hgf
    obtain ⟨_, t2, t3, t4⟩ := id ht1
    rw [ldI_ok (kI20 _ (by decide)) hg, t2, if_pos (by omega), if_pos (by omega), t_ix hg (by omega), ldB_ok (kB27 _) (by omega), t3 i hi, k_1 (by omega)]
    refine ok_cal (type_ok hf (t4 _ (getD_mem hi)) p1) (fun _ m2 h2 => ?_)
    refine hw m2 ⟨f1.tr h2.1, ?_⟩
    have e : w ++ t.take (i + 1) = w ++ t.take i ++ [t.getD i 0] := by
      rw [List.append_assoc, List.take_succ, List.getD_eq_getElem?_getD, List.getElem?_eq_getElem hi]
      rfl
    rw [e]
    exact h2.2
  · obtain ⟨f1, p1⟩ := hI
    have ht1 := ht.fr f1 hgf
    rw [List.take_length] at p1
    rw [ldI_ok (kI20 _ (by decide)) hg, ht1.2.1, if_neg (by omega)]
    exact hk m1 f1 p1
theorem spellOptions_ok {n f x : Nat} {fl : Int} {m : Mem} {w : List Nat} {s : Nat → Nat} {t : Nat → List Nat} (hn : 300 < n) (hf : f < 10) (hx : x < 1024) (hs : So m f s) (ht : ∀ g, g < f → Tx m g (t g)) (h : TP m fl f w) : Ok (f_X4_spellOptions n (f : Int) (x : Int) m) (fun _ m' => TF m m' f ∧ TP m' fl f (w ++ joinw (selw x s t f))) := by
  unfold f_X4_spellOptions
  refine ok_up2 f (fun i a m1 => TF m m1 f ∧ TP m1 fl f (w ++ joinw (selw x s t i)) ∧ a = if selw x s t i = [] then 1 else 0) (fun w1 i a m1 hi hI hw => ?_) (fun w1 a m1 hI => ?_) n 0 1 m (Nat.zero_le _) ⟨TF.rf _ _, by rw [show joinw (selw x s t 0) = [] from rfl, List.append_nil]; exact h, rfl⟩ (by omega)
  · obtain ⟨f1, p1, ha⟩ := hI
    dsimp only [jn]
    have e24 : mGet m1 24 i = (s i : Int) := by rw [f1.2 24 i (by omega) (by omega) (by omega)]; exact (hs i hi).1
    have hsi := (hs i hi).2
    rw [if_pos (by omega), if_pos (by omega), ldI_ok (kI20 _ (by decide)) (by omega), e24, if_neg (by omega), if_pos (by omega), k_1 (by omega)]
    by_cases hb : x.testBit (s i) = true
    · rw [if_neg (fun q => by rw [(ibit0 (by omega) (by omega)).mp q] at hb; cases hb)]
      have e1 : selw x s t (i + 1) = selw x s t i ++ [t (s i)] := by rw [selw_succ, if_pos hb]
      have tg := (ht (s i) hsi).fr f1 (by omega)
      by_cases hl : selw x s t i = []
      · rw [if_neg (by rw [ha, if_pos hl]; decide)]
        refine copy_ok hn hf (by omega) (by omega) tg p1 (fun m3 f3 p3 => ?_)
        refine hw 0 m3 ⟨f1.tr f3, ?_, by rw [e1, if_neg (by simp)]⟩
        rw [e1, joinw_snoc, if_pos hl]
        rw [hl] at p3
        rw [show joinw [] = ([] : List Nat) from rfl, List.append_nil] at p3
        exact p3
      · rw [if_pos (by rw [ha, if_neg hl])]
        refine ok_cal (type_ok hf (by decide) p1) (fun _ m2 h2 => ?_)
        refine copy_ok hn hf (by omega) (by omega) (tg.fr h2.1 (by omega)) h2.2 (fun m3 f3 p3 => ?_)
        refine hw 0 m3 ⟨(f1.tr h2.1).tr f3, ?_, by rw [e1, if_neg (by simp)]⟩
        rw [e1, joinw_snoc, if_neg hl]
        rw [List.append_assoc, List.append_assoc] at p3
        exact p3
    · have hb0 : x.testBit (s i) = false := by cases e : x.testBit (s i) <;> simp_all
      rw [if_pos ((ibit0 (by omega) (by omega)).mpr hb0)]
      have e1 : selw x s t (i + 1) = selw x s t i := by rw [selw_succ, if_neg hb, List.append_nil]
      exact hw a m1 ⟨f1, by rw [e1]; exact p1, by rw [e1]; exact ha⟩
  · obtain ⟨f1, p1, ha⟩ := hI
    dsimp only [jn]
    rw [if_neg (by omega)]
    exact ok_rt ⟨f1, p1⟩
/-- what is typed for row f -/
def ftx (xl xr b : Nat) (h : Int) (s : Nat → Nat) (t : Nat → List Nat) (f : Nat) : List Nat := if xl = 0 ∨ xr = 0 then (if xr = 0 then [] else [45]) ++ [48 + b] else if 0 < h then 42 :: (if 1 < h then [48 + h.toNat] else []) else 123 :: (joinw (selw xl s t f) ++ 124 :: (joinw (selw xr s t f) ++ [125]))
theorem spell_ok {n f xl xr b : Nat} {h fl : Int} {m : Mem} {s : Nat → Nat} {t : Nat → List Nat} (hn : 300 < n) (hf : f < 10) (hb : b ≤ 9) (hh : h ≤ 9) (h20 : mGet m 20 f = (xl : Int)) (h21 : mGet m 21 f = (xr : Int)) (h22 : mGet m 22 f = (b : Int)) (h23 : mGet m 23 f = h) (hfl : mGet m 18 10 = fl) (hxl : xl < 1024) (hxr : xr < 1024) (hs : So m f s) (ht : ∀ g, g < f → Tx m g (t g)) : Ok (f_X4_spell n (f : Int) m) (fun _ m' => TF m m' f ∧ TP m' fl f (ftx xl xr b h s t f)) := by
  unfold f_X4_spell
  dsimp only [jn]
  rw [if_neg (by omega), if_pos (by omega), stI_ok (kI20 _ (by decide)) hf, ldI_ok (kI20 _ (by decide)) hf]
  obtain ⟨m0, e0⟩ : ∃ m0, m0 = mSet m 26 f 0 := ⟨_, rfl⟩
  rw [← e0]
  have g0 : ∀ a i, mGet m0 a i = if a = 26 ∧ i = f then 0 else mGet m a i := fun a i => by rw [e0, mGet_mSet, w32_id (by decide) (by decide)]
  have f0 : TF m m0 f := ⟨by rw [e0]; rfl, fun a i _ q _ => by rw [g0, if_neg q]⟩
  have p0 : TP m0 fl f [] := TP.nil (by rw [g0, if_pos ⟨rfl, rfl⟩]) (by rw [g0, if_neg (by omega)]; exact hfl)
  have a20 : mGet m0 20 f = (xl : Int) := by rw [g0, if_neg (by omega)]; exact h20
  have a21 : ∀ m', TF m0 m' f → mGet m' 21 f = (xr : Int) := fun m' q => by rw [q.2 21 f (by omega) (by omega) (by omega), g0, if_neg (by omega)]; exact h21
  have a22 : ∀ m', TF m0 m' f → mGet m' 22 f = (b : Int) := fun m' q => by rw [q.2 22 f (by omega) (by omega) (by omega), g0, if_neg (by omega)]; exact h22
  have a23 : ∀ m', TF m0 m' f → mGet m' 23 f = h := fun m' q => by rw [q.2 23 f (by omega) (by omega) (by omega), g0, if_neg (by omega)]; exact h23
  have s0 : ∀ m', TF m0 m' f → So m' f s := fun m' q j hj => ⟨by rw [q.2 24 j (by omega) (by omega) (by omega), g0, if_neg (by omega)]; exact (hs j hj).1, (hs j hj).2⟩
  have t0 : ∀ m', TF m0 m' f → ∀ g, g < f → Tx m' g (t g) := fun m' q g hg => ((ht g hg).fr f0 (by omega)).fr q (by omega)
  rw [a20]
  have num : xl = 0 ∨ xr = 0 → Ok (ldI m0 21 (f : Int) fun x44 => if x44 = 0 then (ldI m0 22 (f : Int) fun x64 => cal (f_X4_type n (f : Int) (w32 (48 + x64)) m0) fun _ m66 => rt 0 m66) else cal (f_X4_type n (f : Int) 45 m0) fun _ m52 => ldI m52 22 (f : Int) fun x64 => cal (f_X4_type n (f : Int) (w32 (48 + x64)) m52) fun _ m66 => rt 0 m66) (fun _ m' => TF m m' f ∧ TP m' fl f (ftx xl xr b h s t f)) := by
    intro hz
    have ef : ftx xl xr b h s t f = (if xr = 0 then [] else [45]) ++ [48 + b] := by unfold ftx; rw [if_pos hz]
    rw [ef, ldI_ok (kI20 _ (by decide)) hf, a21 m0 (TF.rf _ _)]
    have ew : w32 (48 + (b : Int)) = ((48 + b : Nat) : Int) := by rw [w32_id (by omega) (by omega)]; omega
    by_cases q : xr = 0
    · rw [if_pos (by omega), if_pos q, ldI_ok (kI20 _ (by decide)) hf, a22 m0 (TF.rf _ _), ew]
      refine ok_cal (type_ok hf (by omega) p0) (fun _ m1 h1 => ?_)
      exact ok_rt ⟨f0.tr h1.1, h1.2⟩
    · rw [if_neg (by omega), if_neg q]
      refine ok_cal (type_ok (c := 45) hf (by decide) p0) (fun _ m1 h1 => ?_)
      rw [ldI_ok (kI20 _ (by decide)) hf, a22 m1 h1.1, ew]
      refine ok_cal (type_ok hf (by omega) h1.2) (fun _ m2 h2 => ?_)
      exact ok_rt ⟨(f0.tr h1.1).tr h2.1, h2.2⟩
  by_cases q1 : xl = 0
  · rw [if_pos (by omega)]
    exact num (Or.inl q1)
  · rw [if_neg (by omega), ldI_ok (kI20 _ (by decide)) hf, a21 m0 (TF.rf _ _)]
    by_cases q2 : xr = 0
    · rw [if_pos (by omega)]
      exact num (Or.inr q2)
    · rw [if_neg (by omega), ldI_ok (kI20 _ (by decide)) hf, a23 m0 (TF.rf _ _)]
      have ef : ftx xl xr b h s t f = if 0 < h then 42 :: (if 1 < h then [48 + h.toNat] else []) else 123 :: (joinw (selw xl s t f) ++ 124 :: (joinw (selw xr s t f) ++ [125])) := by unfold ftx; rw [if_neg (by omega)]
      rw [ef]
      by_cases q3 : 0 < h
      · rw [if_pos q3, if_pos q3]
        refine ok_cal (type_ok (c := 42) hf (by decide) p0) (fun _ m1 h1 => ?_)
        rw [ldI_ok (kI20 _ (by decide)) hf, a23 m1 h1.1]
        by_cases q4 : 1 < h
        · rw [if_pos q4, if_pos q4, ldI_ok (kI20 _ (by decide)) hf, a23 m1 h1.1]
          have ew : w32 (48 + h) = ((48 + h.toNat : Nat) : Int) := by rw [w32_id (by omega) (by omega)]; omega
          rw [ew]
          refine ok_cal (type_ok hf (by omega) h1.2) (fun _ m2 h2 => ?_)
          exact ok_rt ⟨(f0.tr h1.1).tr h2.1, h2.2⟩
        · rw [if_neg q4, if_neg q4]
          exact ok_rt ⟨f0.tr h1.1, h1.2⟩
      · rw [if_neg q3, if_neg q3]
        refine ok_cal (type_ok (c := 123) hf (by decide) p0) (fun _ m1 h1 => ?_)
        rw [ldI_ok (kI20 _ (by decide)) hf, h1.1.2 20 f (by omega) (by omega) (by omega), a20]
        refine ok_cal (spellOptions_ok hn hf hxl (s0 m1 h1.1) (t0 m1 h1.1) h1.2) (fun _ m2 h2 => ?_)
        have f2 := h1.1.tr h2.1
        refine ok_cal (type_ok (c := 124) hf (by decide) h2.2) (fun _ m3 h3 => ?_)
        have f3 := f2.tr h3.1
        rw [ldI_ok (kI20 _ (by decide)) hf, a21 m3 f3]
        refine ok_cal (spellOptions_ok hn hf hxr (s0 m3 f3) (t0 m3 f3) h3.2) (fun _ m4 h4 => ?_)
        have f4 := f3.tr h4.1
        refine ok_cal (type_ok (c := 125) hf (by decide) h4.2) (fun _ m5 h5 => ?_)
        refine ok_rt ⟨f0.tr (f4.tr h5.1), ?_⟩
        have e9 := h5.2
        rw [List.append_assoc, List.append_assoc, List.append_assoc] at e9
        simpa using e9
