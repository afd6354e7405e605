/-! SUMS -/
theorem sum_sub (f : Nat → Nat) : ∀ {A B : List Nat}, A.Nodup → (∀ x, x ∈ A → x ∈ B) → (A.map f).sum ≤ (B.map f).sum
  | [], _, _, _ => Nat.zero_le _
  | a :: A, B, nd, h => by
    have p := List.perm_cons_erase (h a (List.mem_cons_self ..))
    have e := ((p.map f).sum_nat)
    rw [e]
    rw [List.nodup_cons] at nd
    have := sum_sub f (B := B.erase a) nd.2 (fun x hx => (List.mem_erase_of_ne (fun e => nd.1 (by rw [← e]; exact hx))).mpr (h x (List.mem_cons_of_mem _ hx)))
    simp only [List.map_cons, List.sum_cons]
    omega
theorem sum_mapc (c : Nat) (f : Nat → Nat) : ∀ A : List Nat, (A.map (fun x => f x * c)).sum = (A.map f).sum * c
  | [] => by simp
  | a :: A => by
    simp only [List.map_cons, List.sum_cons]
    rw [sum_mapc c f A, Nat.add_mul]
theorem sum_take (f : Nat → Nat) {A : List Nat} {k : Nat} (hk : k < A.length) : ((A.take (k + 1)).map f).sum = ((A.take k).map f).sum + f A[k] := by
  rw [take_s hk, List.map_append, List.sum_append]
  simp
/-- what a game weighs in the count of sums -/
def fz (g : Nat) : Nat := 1 + 2 * (((opts g 0).attach.map (fun x => fz x.1)).sum + ((opts g 1).attach.map (fun x => fz x.1)).sum)
termination_by g
decreasing_by
  · exact op_lt (mem_opts.mp x.2)
  · exact op_lt (mem_opts.mp x.2)
theorem fz_def (g : Nat) : fz g = 1 + 2 * (((opts g 0).map fz).sum + ((opts g 1).map fz).sum) := by
  rw [fz, List.attach_map_val, List.attach_map_val]
theorem fz_pos (g : Nat) : 1 ≤ fz g := by rw [fz_def]; omega
theorem fz_le {g : Nat} {A B : List Nat} (h0 : ∀ x, op g 0 x = true → x ∈ A) (h1 : ∀ x, op g 1 x = true → x ∈ B) : fz g ≤ 1 + 2 * ((A.map fz).sum + (B.map fz).sum) := by
  rw [fz_def]
  have a := sum_sub fz (nodup_opts g 0) (fun x hx => h0 x (mem_opts.mp hx))
  have b := sum_sub fz (nodup_opts g 1) (fun x hx => h1 x (mem_opts.mp hx))
  omega
theorem le_fz {g : Nat} {A B : List Nat} (a : A.Nodup) (b : B.Nodup) (h0 : ∀ x, x ∈ A → op g 0 x = true) (h1 : ∀ x, x ∈ B → op g 1 x = true) : 1 + 2 * ((A.map fz).sum + (B.map fz).sum) ≤ fz g := by
  rw [fz_def]
  have a := sum_sub fz a (fun x hx => mem_opts.mpr (h0 x hx))
  have b := sum_sub fz b (fun x hx => mem_opts.mpr (h1 x hx))
  omega
theorem fz_cost {a b x y : Nat} (ha : 1 + 2 * a ≤ x) (hb : 1 + 2 * b ≤ y) : 1 + a * y + x * b ≤ x * y := by
  have h1 := Nat.mul_le_mul_right y ha
  have h2 := Nat.mul_le_mul_left x hb
  rw [Nat.add_mul, Nat.one_mul, Nat.mul_assoc] at h1
  rw [Nat.mul_add, Nat.mul_one, ← Nat.mul_assoc, Nat.mul_comm x 2, Nat.mul_assoc] at h2
  have hx : 1 ≤ x := by omega
  omega
theorem RT.fz {m : Mem} {N P : Nat} {lo ro : Nat → List Nat} {st d : Nat → Nat} {F : List Nat} (h : RT m N P lo ro st d F) {g : Nat} (hg : g < N) : 1 + 2 * (((lo g).map (fun o => fz (d o))).sum + ((ro g).map (fun o => fz (d o))).sum) ≤ fz (d g) := by
  obtain ⟨b1, b2, b3, b4, b5, b6⟩ := h.2.2.1 g hg
  have inj := h.2.2.2.1
  have nl : ((lo g).map d).Nodup := nodup_mapd b1 (fun x hx y hy => inj x y (Nat.lt_trans (b3 x (List.mem_append_left _ hx)) hg) (Nat.lt_trans (b3 y (List.mem_append_left _ hy)) hg))
  have nr : ((ro g).map d).Nodup := nodup_mapd b2 (fun x hx y hy => inj x y (Nat.lt_trans (b3 x (List.mem_append_right _ hx)) hg) (Nat.lt_trans (b3 y (List.mem_append_right _ hy)) hg))
  have q := le_fz nl nr (fun x hx => by
    obtain ⟨o, ho, rfl⟩ := List.mem_map.mp hx
    exact (h.opL hg).mpr ⟨o, ho, rfl⟩) (fun x hx => by
    obtain ⟨o, ho, rfl⟩ := List.mem_map.mp hx
    exact (h.opR hg).mpr ⟨o, ho, rfl⟩)
  rw [List.map_map, List.map_map] at q
  exact q
theorem RT.d0 {m : Mem} {N P : Nat} {lo ro : Nat → List Nat} {st d : Nat → Nat} {F : List Nat} (h : RT m N P lo ro st d F) : d 0 = 0 := by
  have e : ∀ w, w < 2 → ∀ x, ¬ op (d 0) w x = true := fun w hw x hx => by
    rcases (by omega : w = 0 ∨ w = 1) with rfl | rfl
    · obtain ⟨o, ho, _⟩ := (h.opL h.1.2.2.1).mp hx
      exact absurd (h.lt h.1.2.2.1 (List.mem_append_left _ ho)) (Nat.not_lt_zero _)
    · obtain ⟨o, ho, _⟩ := (h.opR h.1.2.2.1).mp hx
      exact absurd (h.lt h.1.2.2.1 (List.mem_append_right _ ho)) (Nat.not_lt_zero _)
  exact op_ext (fun w hw x => by
    rw [Bool.eq_false_iff.mpr (fun z => e w hw x z)]
    unfold op
    exact (Nat.zero_testBit _).symm)
/-- all sums of followers are among the games allowed -/
def SI (F : List Nat) (x y : Nat) : Prop := ∀ x' y', fol x x' → fol y y' → ∀ K, can K → geq K (gadd x' y') → K ∈ F
theorem SI.l {F : List Nat} {x y x2 w : Nat} (h : SI F x y) (hw : w < 2) (ho : op x w x2 = true) : SI F x2 y := fun a b ha hb => h a b (fol_op hw ho ha) hb
theorem SI.r {F : List Nat} {x y y2 w : Nat} (h : SI F x y) (hw : w < 2) (ho : op y w y2 = true) : SI F x y2 := fun a b ha hb => h a b ha (fol_op hw ho hb)
theorem SI.sw {F : List Nat} {x y : Nat} (h : SI F x y) : SI F y x := fun a b ha hb K hK e => h b a hb ha K hK (by rw [gadd_comm]; exact e)
def SSm (a i : Nat) : Prop := SCt a i ∨ a = 118 ∨ a = 119 ∨ a = 122 ∨ a = 125
/-- a sum: what is left -/
def Sumd (m : Mem) (T : Tb) (F : List Nat) (s c K : Nat) (v : Int) (m' : Mem) : Prop := Made m T F s c K v m' ∧ mGet m' 100 26 = mGet m 100 26 ∧ (∀ i : Nat, (i : Int) < mGet m 100 26 → mGet m' 122 i = mGet m 122 i) ∧ Ch SSm m m'
/-- the sums of options wait: A, for the games of G -/
def Wts (m : Mem) (T : Tb) (F : List Nat) (s c f : Nat) (A : List Nat) (G : Nat → Prop) (m' : Mem) (T' : Tb) (s' : Nat) : Prop := RSt m' T' F s' ∧ Ex T T' ∧ s ≤ s' ∧ s' ≤ s + c ∧ Stk m' f A ∧ (∀ i : Nat, i < f → mGet m' 122 i = mGet m 122 i) ∧ Ch SSm m m' ∧ (∀ o, o ∈ A → o < T'.N ∧ ∃ x, G x ∧ geq (T'.d o) x) ∧ ∀ x, G x → ∃ o, o ∈ A ∧ geq (T'.d o) x
/-- one more waits -/
theorem Wts.push {n : Nat} {m m2 m3 : Mem} {T T2 : Tb} {F : List Nat} {s c c2 s2 f K : Nat} {v : Int} {A : List Nat} {G : Nat → Prop} {X : Mem → Option Rz} {Q : Int → Mem → Prop} (W : Wts m T F s c f A G m2 T2 s2) (Z : Sumd m2 T2 F s2 c2 K v m3) (hf : f + A.length < 20000) (k : ∀ u T4 s4 m4, Wts m T F s (c + c2) f (A ++ [u]) (fun x => G x ∨ x = K) m4 T4 s4 → Ex T2 T4 → Ok (X m4) Q) : Ok (cal (f_X11_waits n v m3) fun _ m4 => X m4) Q := by
  obtain ⟨w1, w2, w3, w4, w5, w6, w7, w8, w9⟩ := W
  obtain ⟨⟨u, T4, s4, rfl, hu, gu, ex, R4, h1, h2⟩, z2, z3, z4⟩ := Z
  have uN := R4.1.nn
  have t3 : mGet m3 100 26 = ((f + A.length : Nat) : Int) := z2.trans w5.1
  refine ok_calE (waits_eq (n := n) t3 hf (by omega)) ?_
  obtain ⟨m4, e4⟩ : ∃ m4, m4 = mSet (mSet m3 122 (f + A.length) (u : Int)) 100 26 ((f + A.length + 1 : Nat) : Int) := ⟨_, rfl⟩
  have g4 : ∀ a i, mGet m4 a i = if a = 100 ∧ i = 26 then ((f + A.length + 1 : Nat) : Int) else if a = 122 ∧ i = f + A.length then (u : Int) else mGet m3 a i := fun a i => by
    rw [e4, mGet_mSet, mGet_mSet, w32_nat (by omega), w32_nat (by omega)]
  have st3 : Stk m3 f A := ⟨t3, w5.2.ext (fun k hk => z3 _ (by rw [w5.1]; omega))⟩
  have st4 := st3.push (v := u) (by omega) hf
  rw [← e4] at st4 ⊢
  refine k u T4 s4 m4 ⟨R4.ext (fun a i z => by rw [g4, if_neg (by unfold RSc at z; omega), if_neg (by unfold RSc at z; omega)]), w2.tr ex, by omega, by omega, st4, fun i hi => ?_, (w7.tr z4).tr ?_, fun o ho => ?_, fun x hx => ?_⟩ ex
  · rw [g4, if_neg (by omega), if_neg (by omega), z3 _ (by rw [w5.1]; omega)]
    exact w6 i hi
  · rw [e4]
    exact (Ch.set (Or.inr (Or.inr (Or.inr (Or.inl rfl))))).tr (Ch.set (Or.inl (Or.inr ⟨rfl, rfl⟩)))
  · rcases List.mem_append.mp ho with h | h
    · obtain ⟨a, x, gx, ex1⟩ := w8 o h
      exact ⟨ex.lt a, x, Or.inl gx, by rw [ex.d a]; exact ex1⟩
    · rw [List.mem_singleton] at h
      subst h
      exact ⟨hu, K, Or.inr rfl, gu⟩
  · rcases hx with hx | rfl
    · obtain ⟨o, ho, e⟩ := w9 x hx
      exact ⟨o, List.mem_append_left _ ho, by rw [ex.d (w8 o ho).1]; exact e⟩
    · exact ⟨u, List.mem_append_right _ (List.mem_singleton.mpr rfl), gu⟩
theorem Wts.g {m : Mem} {T : Tb} {F : List Nat} {s c f : Nat} {A : List Nat} {G G2 : Nat → Prop} {m' : Mem} {T' : Tb} {s' c2 : Nat} (W : Wts m T F s c f A G m' T' s') (h : ∀ x, G x ↔ G2 x) (hc : c ≤ c2) : Wts m T F s c2 f A G2 m' T' s' := by
  have e : G = G2 := funext (fun x => propext (h x))
  subst e
  obtain ⟨w1, w2, w3, w4, w⟩ := W
  exact ⟨w1, w2, w3, by omega, w⟩
theorem sum_le_take (f : Nat → Nat) : ∀ (A : List Nat) (k : Nat), ((A.take k).map f).sum ≤ (A.map f).sum
  | [], k => by rw [List.take_nil]; exact Nat.le_refl _
  | x :: A, 0 => by simp
  | x :: A, k + 1 => by
    have := sum_le_take f A k
    simp only [List.take_succ_cons, List.map_cons, List.sum_cons]
    omega
theorem Row.glue {m : Mem} {a s : Nat} {l r : List Nat} (h : Row m a s l) (k : Row m a (s + l.length) r) : Row m a s (l ++ r) := fun i hi => by
  by_cases q : i < l.length
  · rw [h i q, List.getElem_append_left q]
  · rw [app_len] at hi
    have := k (i - l.length) (by omega)
    rw [show s + l.length + (i - l.length) = s + i by omega] at this
    rw [this, List.getElem_append_right (by omega)]
theorem iand_32767 (x : Int) : ∃ k : Nat, iand x 32767 = (k : Int) ∧ k < 32768 := by
  have := iand_mask x 15 (by decide)
  rw [show ((2 ^ 15 - 1 : Nat) : Int) = 32767 from rfl, show ((2 ^ 15 : Nat) : Int) = 32768 from rfl] at this
  exact ⟨(x % 32768).toNat, by rw [this]; omega, by omega⟩
/-- a row of options is gone through, each sum waits -/
theorem wloop {CALL : Int → Mem → Option Rz} {K : Mem → Option Rz} {Q : Int → Mem → Prop} {N0 N1 fld p s0 : Nat} {L : List Nat} {val cst : Nat → Nat} {F : List Nat} {m : Mem} {T : Tb} {s c f : Nat} {G0 : Nat → Prop} (hfld : fld = 104 ∨ fld = 105) (hp : p < 16000) (hend : ∀ m2 T2 s2, RSt m2 T2 F s2 → Ex T T2 → mGet m2 fld p = ((s0 + L.length : Nat) : Int)) (hrow : ∀ m2 T2 s2, RSt m2 T2 F s2 → Ex T T2 → Row m2 102 s0 L) (hs0 : s0 + L.length ≤ 240000) (hN : L.length < N1) (lA : Nat) (hf : L ≠ [] → f + lA + L.length < 20000) (call : ∀ o, o ∈ L → ∀ m2 T2 s2 (t : Nat), RSt m2 T2 F s2 → Ex T T2 → mGet m2 100 26 = (t : Int) → t ≤ f + lA + L.length → s2 + cst o ≤ s + c + (L.map cst).sum → Ok (CALL (o : Int) m2) (Sumd m2 T2 F s2 (cst o) (val o))) (fin : ∀ m2 T2 s2 A, A.length = lA + L.length → Wts m T F s (c + (L.map cst).sum) f A (fun z => G0 z ∨ ∃ o, o ∈ L ∧ z = val o) m2 T2 s2 → Ok (K m2) Q) {m1 : Mem} {T1 : Tb} {s1 : Nat} {A0 : List Nat} (lA0 : A0.length = lA) (W : Wts m T F s c f A0 G0 m1 T1 s1) : Ok (lp (F := Int → Mem → Option Rz) (fun _ _ => none) (fun w v mm => ldI mm fld (p : Int) fun x20 => if v < x20 then (ldI mm 102 v fun x32 => cal (CALL x32 mm) fun x34 m34 => cal (f_X11_waits N0 x34 m34) fun _ m37 => w (w32 (v + 1)) m37) else K mm) N1 (s0 : Int) m1) Q := by
  refine ok_row1 (s := s0) (k := 0) L.length (fun k m2 => ∃ T2 s2 A, A.length = lA + k ∧ Wts m T F s (c + ((L.take k).map cst).sum) f A (fun z => G0 z ∨ ∃ o, o ∈ L.take k ∧ z = val o) m2 T2 s2) (fun w k m2 hk hI hw => ?_) (fun w m2 hI => ?_) N1 m1 (Nat.zero_le _) ⟨T1, s1, A0, lA0, W.g (fun z => ⟨Or.inl, fun h => h.elim id (fun ⟨o, ho, _⟩ => by cases ho)⟩) (by simp)⟩ (by omega)
  · obtain ⟨T2, s2, A, lA2, W2⟩ := hI
    obtain ⟨w1, w2, w3, w4, w5, w6, w7, w8, w9⟩ := id W2
    rw [ldI_ok (len := 16000) (by rcases hfld with rfl | rfl <;> rfl) hp, hend m2 T2 s2 w1 w2, if_pos (by omega), ldI_ok (len := 240000) rfl (by omega), hrow m2 T2 s2 w1 w2 k hk]
    have oL : L[k] ∈ L := List.getElem_mem hk
    have st := sum_take cst hk
    have sl := sum_le_take cst L (k + 1)
    have ne : L ≠ [] := fun e => absurd hk (by rw [e]; exact Nat.not_lt_zero _)
    have f2 := hf ne
    refine ok_cal (call _ oL m2 T2 s2 (f + A.length) w1 w2 w5.1 (by omega) (by omega)) (fun v m3 hq => ?_)
    refine W2.push hq (by omega) (fun u T4 s4 m4 W4 ex4 => ?_)
    rw [w32_s (by omega)]
    refine hw m4 ⟨T4, s4, A ++ [u], by rw [List.length_append, lA2]; rfl, W4.g (fun z => ?_) (by omega)⟩
    rw [take_s hk]
    constructor
    · rintro ((h | ⟨o, ho, e⟩) | rfl)
      · exact Or.inl h
      · exact Or.inr ⟨o, List.mem_append_left _ ho, e⟩
      · exact Or.inr ⟨L[k], List.mem_append_right _ (List.mem_singleton.mpr rfl), rfl⟩
    · rintro (h | ⟨o, ho, e⟩)
      · exact Or.inl (Or.inl h)
      · rcases List.mem_append.mp ho with h | h
        · exact Or.inl (Or.inr ⟨o, h, e⟩)
        · rw [List.mem_singleton] at h
          subst h
          exact Or.inr e
  · obtain ⟨T2, s2, A, lA2, W2⟩ := hI
    rw [List.take_length] at W2
    rw [ldI_ok (len := 16000) (by rcases hfld with rfl | rfl <;> rfl) hp, hend m2 T2 s2 W2.1 W2.2.1, if_neg (by omega)]
    exact fin m2 T2 s2 A lA2 W2
theorem geq_of {g h : Nat} (a : ∀ x, op g 0 x = true → ∃ y, op h 0 y = true ∧ geq x y) (b : ∀ y, op h 0 y = true → ∃ x, op g 0 x = true ∧ geq x y) (c : ∀ x, op g 1 x = true → ∃ y, op h 1 y = true ∧ geq x y) (e : ∀ y, op h 1 y = true → ∃ x, op g 1 x = true ∧ geq x y) : geq g h :=
  ⟨gle_congr (fun x hx => by obtain ⟨y, h1, h2⟩ := a x hx; exact ⟨y, h1, h2.1⟩) (fun y hy => by obtain ⟨x, h1, h2⟩ := e y hy; exact ⟨x, h1, h2.1⟩), gle_congr (fun y hy => by obtain ⟨x, h1, h2⟩ := b y hy; exact ⟨x, h1, h2.2⟩) (fun x hx => by obtain ⟨y, h1, h2⟩ := c x hx; exact ⟨y, h1, h2.2⟩)⟩
section SM
variable {n D : Nat} {F : List Nat} {call : Int → Int → Mem → Option Rz} {m : Mem} {T : Tb} {s t a b : Nat}
theorem row_of {m2 : Mem} {T2 : Tb} {s2 : Nat} (R2 : RSt m2 T2 F s2) (ex : Ex T T2) (ha : a < T.N) : GR m2 a (T.st a) (T.lo a) (T.ro a) := by
  have h := (R2.1.2.1 a (ex.lt ha)).1
  obtain ⟨_, e2, e3, e4⟩ := ex.2 a ha
  rw [e2, e3, e4] at h
  exact h
/-- the sum of two games, option by option; the call is one level below -/
theorem rsumOf_ok (hn : BIG < n) (IH : ∀ (g h : Nat) (T2 : Tb) (m2 : Mem) (s2 t2 : Nat), RSt m2 T2 F s2 → g < T2.N → h < T2.N → bd (T2.d g) + bd (T2.d h) + 1 ≤ D → SI F (T2.d g) (T2.d h) → mGet m2 100 26 = (t2 : Int) → t2 + 800 * (bd (T2.d g) + bd (T2.d h)) ≤ 20000 → s2 + fz (T2.d g) * fz (T2.d h) < 1000000000 → Ok (call (g : Int) (h : Int) m2) (Sumd m2 T2 F s2 (fz (T2.d g) * fz (T2.d h)) (gadd (T2.d g) (T2.d h)))) (R : RSt m T F s) (ha : a < T.N) (hb : b < T.N) (hD : bd (T.d a) + bd (T.d b) ≤ D) (I : SI F (T.d a) (T.d b)) (ht : mGet m 100 26 = (t : Int)) (h8 : t + 800 * (bd (T.d a) + bd (T.d b)) ≤ 20000) (hs : s + fz (T.d a) * fz (T.d b) < 1000000000) {g2 : Int → Int → Mem → Option Rz} : Ok (b_X11_sumOf n call g2 (a : Int) (b : Int) m) (Sumd m T F s (fz (T.d a) * fz (T.d b)) (gadd (T.d a) (T.d b))) := by
  have n3 := BIG_n hn
  have N2 := R.1.nn
  have cost := fz_cost (R.1.fz ha) (R.1.fz hb)
  obtain ⟨x, hx⟩ : ∃ x, x = fz (T.d a) := ⟨_, rfl⟩
  obtain ⟨y, hy⟩ : ∃ y, y = fz (T.d b) := ⟨_, rfl⟩
  rw [← hx, ← hy] at cost hs ⊢
  obtain ⟨la1, la2, la3, la4, _, _⟩ := R.1.2.2.1 a ha
  obtain ⟨lb1, lb2, lb3, lb4, _, _⟩ := R.1.2.2.1 b hb
  have lA : (T.lo a).length ≤ 199 := Nat.le_trans (nodup_lt la1 (fun x hx => la3 x (List.mem_append_left _ hx))) (by omega)
  have lA2 : (T.ro a).length ≤ 199 := Nat.le_trans (nodup_lt la2 (fun x hx => la3 x (List.mem_append_right _ hx))) (by omega)
  have lB : (T.lo b).length ≤ 199 := Nat.le_trans (nodup_lt lb1 (fun x hx => lb3 x (List.mem_append_left _ hx))) (by omega)
  have lB2 : (T.ro b).length ≤ 199 := Nat.le_trans (nodup_lt lb2 (fun x hx => lb3 x (List.mem_append_right _ hx))) (by omega)
  have pA : ∀ {w o : Nat}, w < 2 → op (T.d a) w (T.d o) = true → o ∈ T.lo a ++ T.ro a → bd (T.d o) + 1 ≤ bd (T.d a) ∧ o < T.N ∧ SI F (T.d o) (T.d b) := fun hw q ho => ⟨bd_op hw q, Nat.lt_trans (la3 _ ho) ha, I.l hw q⟩
  have pB : ∀ {w o : Nat}, w < 2 → op (T.d b) w (T.d o) = true → o ∈ T.lo b ++ T.ro b → bd (T.d o) + 1 ≤ bd (T.d b) ∧ o < T.N ∧ SI F (T.d a) (T.d o) := fun hw q ho => ⟨bd_op hw q, Nat.lt_trans (lb3 _ ho) hb, I.r hw q⟩
  have pAl : ∀ {o : Nat}, o ∈ T.lo a → bd (T.d o) + 1 ≤ bd (T.d a) ∧ o < T.N ∧ SI F (T.d o) (T.d b) := fun ho => pA (by decide : 0 < 2) ((R.1.opL ha).mpr ⟨_, ho, rfl⟩) (List.mem_append_left _ ho)
  have pAr : ∀ {o : Nat}, o ∈ T.ro a → bd (T.d o) + 1 ≤ bd (T.d a) ∧ o < T.N ∧ SI F (T.d o) (T.d b) := fun ho => pA (by decide : 1 < 2) ((R.1.opR ha).mpr ⟨_, ho, rfl⟩) (List.mem_append_right _ ho)
  have pBl : ∀ {o : Nat}, o ∈ T.lo b → bd (T.d o) + 1 ≤ bd (T.d b) ∧ o < T.N ∧ SI F (T.d a) (T.d o) := fun ho => pB (by decide : 0 < 2) ((R.1.opL hb).mpr ⟨_, ho, rfl⟩) (List.mem_append_left _ ho)
  have pBr : ∀ {o : Nat}, o ∈ T.ro b → bd (T.d o) + 1 ≤ bd (T.d b) ∧ o < T.N ∧ SI F (T.d a) (T.d o) := fun ho => pB (by decide : 1 < 2) ((R.1.opR hb).mpr ⟨_, ho, rfl⟩) (List.mem_append_right _ ho)
  have mem0 : ∀ {L : List Nat}, L ≠ [] → ∃ o, o ∈ L := fun {L} h => by
    cases L with
    | nil => exact absurd rfl h
    | cons o L => exact ⟨o, List.mem_cons_self ..⟩
  have rA := row_of R (Ex.rf T) ha
  have rB := row_of R (Ex.rf T) hb
  have eA := (R.1.2.1 a ha).2.1
  have eB := (R.1.2.1 b hb).2.1
  have P8 := R.1.pp
  have lna := app_len (T.lo a) (T.ro a)
  have lnb := app_len (T.lo b) (T.ro b)
  have sA : ∀ L : List Nat, (L.map (fun o => fz (T.d o) * y)).sum = (L.map (fun o => fz (T.d o))).sum * y := fun L => by
    induction L with
    | nil => simp
    | cons o L ih =>
      simp only [List.map_cons, List.sum_cons]
      rw [ih, Nat.add_mul]
  have sB : ∀ L : List Nat, (L.map (fun o => x * fz (T.d o))).sum = x * (L.map (fun o => fz (T.d o))).sum := fun L => by
    induction L with
    | nil => simp
    | cons o L ih =>
      simp only [List.map_cons, List.sum_cons]
      rw [ih, Nat.mul_add]
  rw [Nat.add_mul, Nat.mul_add, ← sA, ← sA, ← sB, ← sB] at cost
  obtain ⟨C1, hC1⟩ : ∃ z, z = ((T.lo a).map (fun o => fz (T.d o) * y)).sum := ⟨_, rfl⟩
  obtain ⟨C2, hC2⟩ : ∃ z, z = ((T.ro a).map (fun o => fz (T.d o) * y)).sum := ⟨_, rfl⟩
  obtain ⟨C3, hC3⟩ : ∃ z, z = ((T.lo b).map (fun o => x * fz (T.d o))).sum := ⟨_, rfl⟩
  obtain ⟨C4, hC4⟩ : ∃ z, z = ((T.ro b).map (fun o => x * fz (T.d o))).sum := ⟨_, rfl⟩
  rw [← hC1, ← hC2, ← hC3, ← hC4] at cost
  have callA : ∀ {o : Nat}, bd (T.d o) + 1 ≤ bd (T.d a) ∧ o < T.N ∧ SI F (T.d o) (T.d b) → ∀ m2 T2 s2 t2, RSt m2 T2 F s2 → Ex T T2 → mGet m2 100 26 = ((t2 : Nat) : Int) → t2 ≤ t + 800 → s2 + fz (T.d o) * y < 1000000000 → Ok (call (o : Int) (b : Int) m2) (Sumd m2 T2 F s2 (fz (T.d o) * y) (gadd (T.d o) (T.d b))) := fun {o} ⟨q1, q2, q3⟩ m2 T2 s2 t2 R2 ex h26 ht2 hs2 => by
    have e1 := ex.d q2
    have e2 := ex.d hb
    have := IH o b T2 m2 s2 t2 R2 (ex.lt q2) (ex.lt hb) (by rw [e1, e2]; omega) (by rw [e1, e2]; exact q3) h26 (by rw [e1, e2]; omega) (by rw [e1, e2, ← hy]; exact hs2)
    rw [e1, e2, ← hy] at this
    exact this
  have callB : ∀ {o : Nat}, bd (T.d o) + 1 ≤ bd (T.d b) ∧ o < T.N ∧ SI F (T.d a) (T.d o) → ∀ m2 T2 s2 t2, RSt m2 T2 F s2 → Ex T T2 → mGet m2 100 26 = ((t2 : Nat) : Int) → t2 ≤ t + 800 → s2 + x * fz (T.d o) < 1000000000 → Ok (call (a : Int) (o : Int) m2) (Sumd m2 T2 F s2 (x * fz (T.d o)) (gadd (T.d a) (T.d o))) := fun {o} ⟨q1, q2, q3⟩ m2 T2 s2 t2 R2 ex h26 ht2 hs2 => by
    have e1 := ex.d q2
    have e2 := ex.d ha
    have := IH a o T2 m2 s2 t2 R2 (ex.lt ha) (ex.lt q2) (by rw [e1, e2]; omega) (by rw [e1, e2]; exact q3) h26 (by rw [e1, e2]; omega) (by rw [e1, e2, ← hx]; exact hs2)
    rw [e1, e2, ← hx] at this
    exact this
  have st0 : Wts m T F s 0 t [] (fun _ => False) m T s := ⟨R, Ex.rf T, Nat.le_refl _, Nat.le_refl _, ⟨ht, fun k hk => by cases hk⟩, fun _ _ => rfl, Ch.rf _ _, (fun o ho => by cases ho), fun x hx => hx.elim⟩
  unfold b_X11_sumOf
  rw [gtF_eq, ht, ldI_ok (len := 16000) rfl (by omega), rA.1]
  refine wloop (CALL := fun x32 m13 => call x32 (b : Int) m13) (fld := 104) (p := a) (L := T.lo a) (val := fun o => gadd (T.d o) (T.d b)) (cst := fun o => fz (T.d o) * y) (Or.inl rfl) (by omega) (fun m2 T2 s2 R2 ex => (row_of R2 ex ha).2.1) (fun m2 T2 s2 R2 ex => (row_of R2 ex ha).2.2.2.left) (by omega) (by omega) 0 (fun ne => by obtain ⟨o, ho⟩ := mem0 ne; have := (pAl ho).1; omega) (fun o ho m2 T2 s2 t2 R2 ex h26 ht2 hs2 => callA (pAl ho) m2 T2 s2 t2 R2 ex h26 (by omega) (by omega)) (fun m2 T2 s2 A lA3 W2 => ?_) rfl st0
  rw [← hC1] at W2
  rw [ldI_ok (len := 16000) rfl (by omega), (row_of W2.1 W2.2.1 hb).1]
  refine wloop (CALL := fun x74 m54 => call (a : Int) x74 m54) (fld := 104) (p := b) (L := T.lo b) (val := fun o => gadd (T.d a) (T.d o)) (cst := fun o => x * fz (T.d o)) (Or.inl rfl) (by omega) (fun m2 T2 s2 R2 ex => (row_of R2 ex hb).2.1) (fun m2 T2 s2 R2 ex => (row_of R2 ex hb).2.2.2.left) (by omega) (by omega) A.length (fun ne => by obtain ⟨o, ho⟩ := mem0 ne; have := (pBl ho).1; omega) (fun o ho m2 T2 s2 t2 R2 ex h26 ht2 hs2 => callB (pBl ho) m2 T2 s2 t2 R2 ex h26 (by omega) (by omega)) (fun m3 T3 s3 A3 lA4 W3 => ?_) rfl W2
  rw [← hC3] at W3
  have W3' := W3
  obtain ⟨w1, w2, w3, w4, w5, w6, w7, w8, w9⟩ := W3'
  have st1 : Wts m3 T3 F s3 0 (t + A3.length) [] (fun _ => False) m3 T3 s3 := ⟨w1, Ex.rf T3, Nat.le_refl _, Nat.le_refl _, ⟨w5.1, fun k hk => by cases hk⟩, fun _ _ => rfl, Ch.rf _ _, (fun o ho => by cases ho), fun x hx => hx.elim⟩
  rw [gtF_eq, w5.1, ldI_ok (len := 16000) rfl (by omega), (row_of w1 w2 ha).2.1]
  refine wloop (CALL := fun x120 m101 => call x120 (b : Int) m101) (fld := 105) (p := a) (s0 := T.st a + (T.lo a).length) (L := T.ro a) (val := fun o => gadd (T.d o) (T.d b)) (cst := fun o => fz (T.d o) * y) (Or.inr rfl) (by omega) (fun m2 T2 s2 R2 ex => by rw [(row_of R2 (w2.tr ex) ha).2.2.1, lna, Nat.add_assoc]) (fun m2 T2 s2 R2 ex => (row_of R2 (w2.tr ex) ha).2.2.2.right) (by omega) (by omega) 0 (fun ne => by obtain ⟨o, ho⟩ := mem0 ne; have := (pAr ho).1; omega) (fun o ho m2 T2 s2 t2 R2 ex h26 ht2 hs2 => callA (pAr ho) m2 T2 s2 t2 R2 (w2.tr ex) h26 (by omega) (by omega)) (fun m4 T4 s4 B lB3 W4 => ?_) rfl st1
  rw [← hC2] at W4
  rw [ldI_ok (len := 16000) rfl (by omega), (row_of W4.1 (w2.tr W4.2.1) hb).2.1]
  refine wloop (CALL := fun x162 m142 => call (a : Int) x162 m142) (fld := 105) (p := b) (s0 := T.st b + (T.lo b).length) (L := T.ro b) (val := fun o => gadd (T.d a) (T.d o)) (cst := fun o => x * fz (T.d o)) (Or.inr rfl) (by omega) (fun m2 T2 s2 R2 ex => by rw [(row_of R2 (w2.tr ex) hb).2.2.1, lnb, Nat.add_assoc]) (fun m2 T2 s2 R2 ex => (row_of R2 (w2.tr ex) hb).2.2.2.right) (by omega) (by omega) B.length (fun ne => by obtain ⟨o, ho⟩ := mem0 ne; have := (pBr ho).1; omega) (fun o ho m2 T2 s2 t2 R2 ex h26 ht2 hs2 => callB (pBr ho) m2 T2 s2 t2 R2 (w2.tr ex) h26 (by omega) (by omega)) (fun m5 T5 s5 B3 lB4 W5 => ?_) rfl W4
  rw [← hC4] at W5
  obtain ⟨v1, v2, v3, v4, v5, v6, v7, v8, v9⟩ := W5
  have lAB := app_len A3 B3
  have K5 : Stk m5 t (A3 ++ B3) := ⟨by rw [v5.1, lAB, Nat.add_assoc], Row.glue (w5.2.ext (fun k hk => v6 _ (by omega))) v5.2⟩
  have ge5 : geq (MK T5.d A3 B3) (gadd (T.d a) (T.d b)) := by
    refine geq_of (fun z hz => ?_) (fun z hz => ?_) (fun z hz => ?_) (fun z hz => ?_)
    · obtain ⟨o, ho, rfl⟩ := op_MKL.mp hz
      obtain ⟨q, k, gk, ek⟩ := w8 o ho
      refine ⟨k, (op_gadd (by decide)).mpr ?_, by rw [v2.d q]; exact ek⟩
      rcases gk with (h | ⟨o2, h, rfl⟩) | ⟨o2, h, rfl⟩
      · exact h.elim
      · exact Or.inl ⟨_, (R.1.opL ha).mpr ⟨o2, h, rfl⟩, rfl⟩
      · exact Or.inr ⟨_, (R.1.opL hb).mpr ⟨o2, h, rfl⟩, rfl⟩
    · have q : (((False ∨ ∃ o, o ∈ T.lo a ∧ z = gadd (T.d o) (T.d b))) ∨ ∃ o, o ∈ T.lo b ∧ z = gadd (T.d a) (T.d o)) := by
        rcases (op_gadd (by decide)).mp hz with ⟨k, h, rfl⟩ | ⟨k, h, rfl⟩
        · obtain ⟨o, ho, rfl⟩ := (R.1.opL ha).mp h
          exact Or.inl (Or.inr ⟨o, ho, rfl⟩)
        · obtain ⟨o, ho, rfl⟩ := (R.1.opL hb).mp h
          exact Or.inr ⟨o, ho, rfl⟩
      obtain ⟨o, ho, e⟩ := w9 z q
      exact ⟨_, op_MKL.mpr ⟨o, ho, rfl⟩, by rw [v2.d (w8 o ho).1]; exact e⟩
    · obtain ⟨o, ho, rfl⟩ := op_MKR.mp hz
      obtain ⟨q, k, gk, ek⟩ := v8 o ho
      refine ⟨k, (op_gadd (by decide)).mpr ?_, ek⟩
      rcases gk with (h | ⟨o2, h, rfl⟩) | ⟨o2, h, rfl⟩
      · exact h.elim
      · exact Or.inl ⟨_, (R.1.opR ha).mpr ⟨o2, h, rfl⟩, rfl⟩
      · exact Or.inr ⟨_, (R.1.opR hb).mpr ⟨o2, h, rfl⟩, rfl⟩
    · have q : (((False ∨ ∃ o, o ∈ T.ro a ∧ z = gadd (T.d o) (T.d b))) ∨ ∃ o, o ∈ T.ro b ∧ z = gadd (T.d a) (T.d o)) := by
        rcases (op_gadd (by decide)).mp hz with ⟨k, h, rfl⟩ | ⟨k, h, rfl⟩
        · obtain ⟨o, ho, rfl⟩ := (R.1.opR ha).mp h
          exact Or.inl (Or.inr ⟨o, ho, rfl⟩)
        · obtain ⟨o, ho, rfl⟩ := (R.1.opR hb).mp h
          exact Or.inr ⟨o, ho, rfl⟩
      obtain ⟨o, ho, e⟩ := v9 z q
      exact ⟨_, op_MKR.mpr ⟨o, ho, rfl⟩, e⟩
  have b5 : ∀ o, o ∈ A3 ++ B3 → o < T5.N := fun o ho => (List.mem_append.mp ho).elim (fun h => v2.lt (w8 o h).1) (fun h => (v8 o h).1)
  have big : t + (A3 ++ B3).length ≤ 20000 := by
    have h0 : bd (T.d a) + bd (T.d b) = 0 → (A3 ++ B3).length = 0 := fun h => by
      have e1 : ∀ {L : List Nat}, (∀ o, ¬ o ∈ L) → L.length = 0 := fun {L} h => by
        cases L with
        | nil => rfl
        | cons o L => exact absurd (List.mem_cons_self ..) (h o)
      have z1 := e1 (L := T.lo a) (fun o ho => by have := (pAl ho).1; omega)
      have z2 := e1 (L := T.ro a) (fun o ho => by have := (pAr ho).1; omega)
      have z3 := e1 (L := T.lo b) (fun o ho => by have := (pBl ho).1; omega)
      have z4 := e1 (L := T.ro b) (fun o ho => by have := (pBr ho).1; omega)
      omega
    by_cases q : bd (T.d a) + bd (T.d b) = 0
    · have := h0 q; omega
    · omega
  refine ok_cal (canOf_ok hn v1 K5 (by omega) big b5 (fun K hK e => I _ _ (fol_rf _) (fol_rf _) K hK (e.tr ge5))) (fun v m6 hq => ?_)
  obtain ⟨⟨u, T6, s6, rfl, hu, gu, ex6, R6, s61, s62⟩, t6, c6⟩ := hq
  have exA : Ex T T6 := (w2.tr v2).tr ex6
  refine ok_rt ⟨⟨u, T6, s6, rfl, hu, gu.tr ge5, exA, R6, by omega, by omega⟩, t6.trans ht.symm, fun i hi => ?_, (w7.tr v7).tr (c6.weak (fun a i z => Or.inl z))⟩
  rw [ht] at hi
  rw [c6.2 _ _ (by unfold SCt SCn; omega), v6 _ (by omega), w6 _ (by omega)]
/-- sums, D levels deep -/
theorem rsum_ok (hn : BIG < n) : ∀ (D a b : Nat) (T : Tb) (m : Mem) (s t : Nat), RSt m T F s → a < T.N → b < T.N → bd (T.d a) + bd (T.d b) + 1 ≤ D → SI F (T.d a) (T.d b) → mGet m 100 26 = (t : Int) → t + 800 * (bd (T.d a) + bd (T.d b)) ≤ 20000 → s + fz (T.d a) * fz (T.d b) < 1000000000 → Ok (h_X11_sum n (2 * D) (a : Int) (b : Int) m) (Sumd m T F s (fz (T.d a) * fz (T.d b)) (gadd (T.d a) (T.d b)))
  | 0, _, _, _, _, _, _, _, _, _, hD, _, _, _, _ => by omega
  | D + 1, a, b, T, m, s, t, R, ha, hb, hD, I, ht, h8, hs => by
    have N2 := R.1.nn
    have d0 := R.1.d0
    rw [show 2 * (D + 1) = (2 * D + 1) + 1 by omega, h_X11_sum_s]
    unfold b_X11_sum
    refine ok_jn ?_
    by_cases qa : a = 0
    · subst qa
      rw [if_pos (show ((0 : Nat) : Int) = 0 from rfl), show ((0 : Nat) : Int) + (b : Int) = (b : Int) by omega, w32_nat (by omega)]
      exact ok_rt ⟨⟨b, T, s, rfl, hb, by rw [d0, gadd_comm, gadd_0]; exact geq_rfl _, Ex.rf T, R, Nat.le_refl _, by omega⟩, rfl, fun _ _ => rfl, Ch.rf _ _⟩
    rw [if_neg (by omega)]
    by_cases qb : b = 0
    · subst qb
      rw [if_pos (show ((0 : Nat) : Int) = 0 from rfl), show (a : Int) + ((0 : Nat) : Int) = (a : Int) by omega, w32_nat (by omega)]
      exact ok_rt ⟨⟨a, T, s, rfl, ha, by rw [d0, gadd_0]; exact geq_rfl _, Ex.rf T, R, Nat.le_refl _, by omega⟩, rfl, fun _ _ => rfl, Ch.rf _ _⟩
    rw [if_neg (by omega)]
    refine ok_jn ?_
    have main : ∀ x y : Nat, (x = a ∧ y = b) ∨ (x = b ∧ y = a) → Ok (nm (w32 ((w32 ((a : Int) + (b : Int))) - (x : Int))) fun z28 =>
    nm (w32 ((w32 ((w32 ((x : Int) * 16000)) + z28)) + 1)) fun z40 =>
    cal (f_X11_spread n z40 m) fun x44 m44 =>
    nm (iand x44 32767) fun z51 =>
    ldI m44 118 z51 fun x59 =>
    if x59 = z40 then (
      ldI m44 119 z51 fun x71 =>
      rt x71 m44
    ) else
    cal (h_X11_sumOf n (2 * D + 1) (x : Int) z28 m44) fun x77 m77 =>
    stI m77 118 z51 z40 fun m90 =>
    stI m90 119 z51 x77 fun m99 =>
    rt x77 m99) (Sumd m T F s (fz (T.d a) * fz (T.d b)) (gadd (T.d a) (T.d b))) := fun x y hxy => by
      dsimp only [nm]
      have hx : x < T.N := by omega
      have hy : y < T.N := by omega
      have e1 : w32 (w32 ((a : Int) + (b : Int)) - (x : Int)) = (y : Int) := by
        rw [show (a : Int) + (b : Int) = ((a + b : Nat) : Int) by omega, w32_nat (by omega), w32_sub (by omega) (by omega)]
        congr 1
        omega
      have e2 : w32 (w32 (w32 ((x : Int) * 16000) + (y : Int)) + 1) = ((x * 16000 + y + 1 : Nat) : Int) := by
        rw [show (x : Int) * 16000 = ((x * 16000 : Nat) : Int) by omega, w32_nat (by omega), show ((x * 16000 : Nat) : Int) + (y : Int) = ((x * 16000 + y : Nat) : Int) by omega, w32_nat (by omega), w32_1 (by omega)]
      have e3 : gadd (T.d x) (T.d y) = gadd (T.d a) (T.d b) ∧ fz (T.d x) * fz (T.d y) = fz (T.d a) * fz (T.d b) ∧ bd (T.d x) + bd (T.d y) = bd (T.d a) + bd (T.d b) ∧ SI F (T.d x) (T.d y) := by
        rcases hxy with ⟨rfl, rfl⟩ | ⟨rfl, rfl⟩
        · exact ⟨rfl, rfl, rfl, I⟩
        · exact ⟨gadd_comm _ _, Nat.mul_comm _ _, Nat.add_comm _ _, I.sw⟩
      obtain ⟨e3, e4, e5, e6⟩ := e3
      rw [e1, e2, ← e3, ← e4]
      refine ok_calE spread_eq ?_
      obtain ⟨k, ek, hk⟩ := iand_32767 (sp ((x * 16000 + y + 1 : Nat) : Int))
      rw [ek, ldI_ok (len := 32768) rfl hk]
      obtain ⟨R1, M1, S1, G1, U1, W1⟩ := id R
      by_cases q : mGet m 118 k = ((x * 16000 + y + 1 : Nat) : Int)
      · rw [if_pos q, ldI_ok (len := 32768) rfl hk]
        rcases S1 k hk with h | ⟨g, h, r, g1, g2, g3, g4, g5, g6⟩
        · rw [h] at q; omega
        · rw [g4] at q
          have z1 : g = x := by omega
          have z2 : h = y := by omega
          subst z1
          subst z2
          rw [g5]
          exact ok_rt ⟨⟨r, T, s, rfl, g3, g6, Ex.rf T, R, Nat.le_refl _, by omega⟩, rfl, fun _ _ => rfl, Ch.rf _ _⟩
      · rw [if_neg q, h_X11_sumOf_s]
        refine ok_cal (rsumOf_ok (D := D) hn (fun g h T2 m2 s2 t2 r1 r2 r3 r4 r5 r6 r7 r8 => rsum_ok hn D g h T2 m2 s2 t2 r1 r2 r3 r4 r5 r6 r7 r8) R hx hy (by omega) e6 ht (by omega) (by omega)) (fun v m2 hq => ?_)
        obtain ⟨⟨u, T2, s2, rfl, hu, gu, ex, R2, s21, s22⟩, t2, k2, c2⟩ := hq
        have N3 := R2.1.nn
        rw [stI_ok (len := 32768) rfl hk, stI_ok (len := 32768) rfl hk]
        obtain ⟨m3, e3'⟩ : ∃ m3, m3 = mSet (mSet m2 118 k ((x * 16000 + y + 1 : Nat) : Int)) 119 k (u : Int) := ⟨_, rfl⟩
        rw [← e3']
        have g3 : ∀ a i, mGet m3 a i = if a = 119 ∧ i = k then (u : Int) else if a = 118 ∧ i = k then ((x * 16000 + y + 1 : Nat) : Int) else mGet m2 a i := fun a i => by
          rw [e3', mGet_mSet, mGet_mSet, w32_nat (by omega), w32_nat (by omega)]
        obtain ⟨R3, M3, S3, G3, U3, W3⟩ := R2
        refine ok_rt ⟨⟨u, T2, s2, rfl, hu, gu, ex, ⟨R3.ext (fun a i z => by rw [g3, if_neg (by unfold RCe at z; omega), if_neg (by unfold RCe at z; omega)]), M3.ext (Nat.le_refl _) (fun _ _ => rfl) (fun j => ⟨by rw [g3, if_neg (by omega), if_neg (by omega)], by rw [g3, if_neg (by omega), if_neg (by omega)]⟩), fun j hj => ?_, fun g hg => ?_, U3.ext (fun a i z => by rw [g3, if_neg (by omega), if_neg (by omega)]), fun g hg => ?_⟩, s21, s22⟩, ?_, fun i hi => ?_, c2.tr ?_⟩
        · by_cases z : j = k
          · subst z
            exact Or.inr ⟨x, y, u, ex.lt hx, ex.lt hy, hu, by rw [g3, if_neg (by omega), if_pos ⟨rfl, rfl⟩], by rw [g3, if_pos ⟨rfl, rfl⟩], by rw [ex.d hx, ex.d hy]; exact gu⟩
          · rw [g3, g3, if_neg (by omega), if_neg (by omega), if_neg (by omega), if_neg (by omega)]
            exact S3 j hj
        · rw [g3, if_neg (by omega), if_neg (by omega)]
          exact G3 g hg
        · rw [g3, if_neg (by omega), if_neg (by omega)]
          exact W3 g hg
        · rw [g3, if_neg (by omega), if_neg (by omega)]
          exact t2
        · rw [g3, if_neg (by omega), if_neg (by omega)]
          exact k2 i hi
        · rw [e3']
          exact (Ch.set (Or.inr (Or.inl rfl))).tr (Ch.set (Or.inr (Or.inr (Or.inl rfl))))
    by_cases q : (a : Int) < (b : Int)
    · rw [if_pos q]
      exact main a b (Or.inl ⟨rfl, rfl⟩)
    · rw [if_neg q]
      exact main b a (Or.inr ⟨rfl, rfl⟩)
theorem fsum_ok (hn : BIG < n) (R : RSt m T F s) (ha : a < T.N) (hb : b < T.N) (hD : bd (T.d a) + bd (T.d b) + 1 ≤ 50) (I : SI F (T.d a) (T.d b)) (ht : mGet m 100 26 = (t : Int)) (h8 : t + 800 * (bd (T.d a) + bd (T.d b)) ≤ 20000) (hs : s + fz (T.d a) * fz (T.d b) < 1000000000) : Ok (f_X11_sum n (a : Int) (b : Int) m) (Sumd m T F s (fz (T.d a) * fz (T.d b)) (gadd (T.d a) (T.d b))) := rsum_ok hn 50 a b T m s t R ha hb hD I ht h8 hs
end SM
