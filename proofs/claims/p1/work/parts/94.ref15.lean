/-! THE REFERENCE BETWEEN ITS STEPS: the table, what it remembers, what waits -/
def Tb : Type := Nat × Nat × (Nat → List Nat) × (Nat → List Nat) × (Nat → Nat) × (Nat → Nat)
def Tb.N (T : Tb) : Nat := T.1
def Tb.P (T : Tb) : Nat := T.2.1
def Tb.lo (T : Tb) : Nat → List Nat := T.2.2.1
def Tb.ro (T : Tb) : Nat → List Nat := T.2.2.2.1
def Tb.st (T : Tb) : Nat → Nat := T.2.2.2.2.1
def Tb.d (T : Tb) : Nat → Nat := T.2.2.2.2.2
def SMm (m : Mem) (N : Nat) (d : Nat → Nat) : Prop := ∀ k, k < 32768 → mGet m 118 k = 0 ∨ ∃ g h r : Nat, g < N ∧ h < N ∧ r < N ∧ mGet m 118 k = ((g * 16000 + h + 1 : Nat) : Int) ∧ mGet m 119 k = (r : Int) ∧ geq (d r) (gadd (d g) (d h))
def NGm (m : Mem) (N : Nat) (d : Nat → Nat) : Prop := ∀ g, g < N → mGet m 112 g = 0 ∨ ∃ r : Nat, r < N ∧ mGet m 112 g = ((r + 1 : Nat) : Int) ∧ geq (d r) (gneg (d g))
/-- the table has grown -/
def Ex (T T' : Tb) : Prop := T.N ≤ T'.N ∧ ∀ g, g < T.N → T'.d g = T.d g ∧ T'.lo g = T.lo g ∧ T'.ro g = T.ro g ∧ T'.st g = T.st g
theorem Ex.rf (T : Tb) : Ex T T := ⟨Nat.le_refl _, fun _ _ => ⟨rfl, rfl, rfl, rfl⟩⟩
theorem Ex.tr {T T2 T3 : Tb} (h : Ex T T2) (k : Ex T2 T3) : Ex T T3 := ⟨Nat.le_trans h.1 k.1, fun g hg => by
  have a := h.2 g hg
  have b := k.2 g (Nat.lt_of_lt_of_le hg h.1)
  exact ⟨b.1.trans a.1, b.2.1.trans a.2.1, b.2.2.1.trans a.2.2.1, b.2.2.2.trans a.2.2.2⟩⟩
theorem Ex.lt {T T' : Tb} (h : Ex T T') {g : Nat} (hg : g < T.N) : g < T'.N := Nat.lt_of_lt_of_le hg h.1
theorem Ex.d {T T' : Tb} (h : Ex T T') {g : Nat} (hg : g < T.N) : T'.d g = T.d g := (h.2 g hg).1
/-- the table, what is remembered; s is the stamp -/
def RSt (m : Mem) (T : Tb) (F : List Nat) (s : Nat) : Prop := RT m T.N T.P T.lo T.ro T.st T.d F ∧ MP m T.N T.d ∧ SMm m T.N T.d ∧ NGm m T.N T.d ∧ STm m s ∧ ∀ g, g < T.N → mGet m 111 g = 0 ∨ (g = 0 ∧ mGet m 111 g = 1)
theorem SMm.ext {m m' : Mem} {N N' : Nat} {d d' : Nat → Nat} (h : SMm m N d) (hN : N ≤ N') (hd : ∀ g, g < N → d' g = d g) (e : ∀ k, mGet m' 118 k = mGet m 118 k ∧ mGet m' 119 k = mGet m 119 k) : SMm m' N' d' := fun k hk => by
  rw [(e k).1, (e k).2]
  rcases h k hk with h1 | ⟨g, h2, r, a, b, c, c1, c2, c3⟩
  · exact Or.inl h1
  · exact Or.inr ⟨g, h2, r, by omega, by omega, by omega, c1, c2, by rw [hd g a, hd h2 b, hd r c]; exact c3⟩
theorem NGm.gw {m m' : Mem} {N N' : Nat} {d d' : Nat → Nat} (h : NGm m N d) (G : Gw m m' N N' d d') : NGm m' N' d' := fun g hg => by
  by_cases q : g < N
  · rw [G.2.2.1 g q]
    rcases h g q with h1 | ⟨r, h1, h2, h3⟩
    · exact Or.inl h1
    · exact Or.inr ⟨r, by have := G.1; omega, h2, by rw [G.2.1 r h1, G.2.1 g q]; exact h3⟩
  · exact Or.inl (G.2.2.2 g (by omega) hg)
/-- where all of this lies -/
def RSc (a i : Nat) : Prop := (a = 100 ∧ (i = 15 ∨ i = 16 ∨ i = 29)) ∨ (102 ≤ a ∧ a ≤ 119) ∨ a = 123 ∨ a = 124
theorem RSt.ext {m m' : Mem} {T : Tb} {F : List Nat} {s : Nat} (h : RSt m T F s) (e : ∀ a i, RSc a i → mGet m' a i = mGet m a i) : RSt m' T F s := by
  obtain ⟨R, M, S, G, U, W⟩ := h
  refine ⟨R.ext (fun a i z => e a i (by unfold RCe at z; unfold RSc; omega)), M.ext (Nat.le_refl _) (fun _ _ => rfl) (fun k => ⟨e _ _ (by unfold RSc; omega), e _ _ (by unfold RSc; omega)⟩), S.ext (Nat.le_refl _) (fun _ _ => rfl) (fun k => ⟨e _ _ (by unfold RSc; omega), e _ _ (by unfold RSc; omega)⟩), fun g hg => ?_, U.ext (fun a i z => e a i (by unfold RSc; omega)), fun g hg => by rw [e 111 g (by unfold RSc; omega)]; exact W g hg⟩
  rw [e 112 g (by unfold RSc; omega)]
  exact G g hg
theorem waits_eq {n t v : Nat} {m : Mem} (h : mGet m 100 26 = (t : Int)) (ht : t < 20000) (hv : v < 2147483648) : f_X11_waits n (v : Int) m = some (0, mSet (mSet m 122 t (v : Int)) 100 26 ((t + 1 : Nat) : Int)) := by
  unfold f_X11_waits
  rw [gtF_eq, h, stI_ok (len := 20000) rfl ht, gtF_eq, ptF_eq]
  have p : mGet (mSet m 122 t (v : Int)) 100 26 = (t : Int) := by rw [mGet_mSet, if_neg (by omega)]; exact h
  rw [p, w32_1 (by omega)]
  rfl
/-- what waits: from f on -/
def Stk (m : Mem) (f : Nat) (A : List Nat) : Prop := mGet m 100 26 = ((f + A.length : Nat) : Int) ∧ Row m 122 f A
theorem Stk.push {m : Mem} {f v : Nat} {A : List Nat} (h : Stk m f A) (hv : v < 2147483648) (hf : f + A.length < 20000) : Stk (mSet (mSet m 122 (f + A.length) (v : Int)) 100 26 ((f + A.length + 1 : Nat) : Int)) f (A ++ [v]) := by
  have G8 : ∀ a i, mGet (mSet (mSet m 122 (f + A.length) (v : Int)) 100 26 ((f + A.length + 1 : Nat) : Int)) a i = if a = 100 ∧ i = 26 then ((f + A.length + 1 : Nat) : Int) else if a = 122 ∧ i = f + A.length then (v : Int) else mGet m a i := fun a i => by
    rw [mGet_mSet, mGet_mSet, w32_nat (by omega), w32_nat hv]
  refine ⟨by rw [G8, if_pos ⟨rfl, rfl⟩, List.length_append]; rfl, Row.app (h.2.ext (fun k hk => by rw [G8, if_neg (by omega), if_neg (by omega)])) (by rw [G8, if_neg (by omega), if_pos ⟨rfl, rfl⟩])⟩
def SCt (a i : Nat) : Prop := SCn a i ∨ (a = 100 ∧ i = 26)
/-- what a step that makes a game leaves -/
def Made (m : Mem) (T : Tb) (F : List Nat) (s c : Nat) (K : Nat) (v : Int) (m' : Mem) : Prop := ∃ (u : Nat) (T' : Tb) (s' : Nat), v = (u : Int) ∧ u < T'.N ∧ geq (T'.d u) K ∧ Ex T T' ∧ RSt m' T' F s' ∧ s ≤ s' ∧ s' ≤ s + c
/-- what waits is made canonical -/
theorem canOf_ok {n s f : Nat} {T : Tb} {F A B : List Nat} {m : Mem} (hn : BIG < n) (S : RSt m T F s) (K : Stk m f (A ++ B)) (hs : s < 1000000000) (hf : f + (A ++ B).length ≤ 20000) (hb : ∀ o, o ∈ A ++ B → o < T.N) (hF : ∀ K, can K → geq K (MK T.d A B) → K ∈ F) : Ok (f_X11_canonicalOf n (f : Int) ((f + A.length : Nat) : Int) m) (fun v m' => Made m T F s 1 (MK T.d A B) v m' ∧ mGet m' 100 26 = (f : Int) ∧ Ch SCt m m') := by
  obtain ⟨R, M, SM, NG, U, W⟩ := S
  have n3 := BIG_n hn
  have n4 := BIG_m hn
  have N2 := R.nn
  have lab := app_len A B
  obtain ⟨k1, k2⟩ := K
  unfold f_X11_canonicalOf
  rw [ptF_eq, ptF_eq]
  obtain ⟨m1, e1⟩ : ∃ m1, m1 = mSet (mSet m 100 23 0) 100 24 0 := ⟨_, rfl⟩
  rw [← e1]
  have g1 : ∀ a i, mGet m1 a i = if a = 100 ∧ i = 24 then 0 else if a = 100 ∧ i = 23 then 0 else mGet m a i := fun a i => by rw [e1, mGet_mSet, mGet_mSet, w32_0']
  have H1 : Hd m1 [] [] := ⟨by rw [g1, if_neg (by omega), if_pos ⟨rfl, rfl⟩]; rfl, by rw [g1, if_pos ⟨rfl, rfl⟩]; rfl, (fun k hk => by cases hk), (fun k hk => by cases hk), by decide, by decide⟩
  have c1 : Ch SCt m m1 := by rw [e1]; exact (Ch.set (Or.inl (Or.inl ⟨rfl, by omega⟩))).tr (Ch.set (Or.inl (Or.inl ⟨rfl, by omega⟩)))
  -- nothing else is touched while options are put
  have insb : ∀ {X Y : List Nat}, (∀ x, x ∈ X → x < T.N) → (∀ x, x ∈ Y → x < T.N) → X.Nodup → (insA X Y).length ≤ 200 := fun hX hY nd => by
    have := nodup_lt (insA_nodup (a := _) nd) (n := T.N) (fun x hx => (insA_mem.mp hx).elim (hX x) (hY x))
    omega
  refine ok_row1 (s := f) (k := 0) A.length (fun k m2 => Hd m2 (insA [] (A.take k)) [] ∧ Ch SLt m1 m2) (fun w k m2 hk hI hw => ?_) (fun w m2 hI => ?_) n m1 (Nat.zero_le _) ⟨H1, Ch.rf _ _⟩ (by omega)
  · obtain ⟨H2, c2⟩ := hI
    have e := k2.left k hk
    have aN := hb _ (List.mem_append_left B (List.getElem_mem hk))
    have e2 : mGet m2 122 (f + k) = (A[k] : Int) := by rw [c2.2 _ _ (by unfold SLt; omega), g1, if_neg (by omega), if_neg (by omega)]; exact e
    rw [if_pos (by omega), ldI_ok (len := 20000) rfl (by omega), e2]
    have lb := insb (X := []) (Y := A.take k) (fun x hx => by cases hx) (fun x hx => hb x (List.mem_append_left _ (List.mem_of_mem_take hx))) List.nodup_nil
    refine ok_cal (putsLeft_ok n3 H2 (by omega) (by omega)) (fun _ m3 hq => ?_)
    rw [w32_s (by omega)]
    refine hw m3 ⟨?_, c2.tr hq.2⟩
    rw [take_s hk, insA_app]
    exact hq.1
  · obtain ⟨H2, c2⟩ := hI
    rw [List.take_length] at H2
    rw [if_neg (by omega)]
    refine ok_row1 (s := f + A.length) (k := 0) B.length (fun k m3 => Hd m3 (insA [] A) (insA [] (B.take k)) ∧ Ch SRt m2 m3) (fun w k m3 hk hI hw => ?_) (fun w m3 hI => ?_) n m2 (Nat.zero_le _) ⟨H2, Ch.rf _ _⟩ (by omega)
    · obtain ⟨H3, c3⟩ := hI
      have e := k2.right k hk
      have bN := hb _ (List.mem_append_right A (List.getElem_mem hk))
      have t3 : mGet m3 100 26 = ((f + (A ++ B).length : Nat) : Int) := by rw [c3.2 _ _ (by unfold SRt; omega), c2.2 _ _ (by unfold SLt; omega), g1, if_neg (by omega), if_neg (by omega)]; exact k1
      have e2 : mGet m3 122 (f + A.length + k) = (B[k] : Int) := by rw [c3.2 _ _ (by unfold SRt; omega), c2.2 _ _ (by unfold SLt; omega), g1, if_neg (by omega), if_neg (by omega)]; exact e
      rw [gtF_eq, t3, if_pos (by omega), ldI_ok (len := 20000) rfl (by omega), e2]
      have lb := insb (X := []) (Y := B.take k) (fun x hx => by cases hx) (fun x hx => hb x (List.mem_append_right _ (List.mem_of_mem_take hx))) List.nodup_nil
      refine ok_cal (putsRight_ok n3 H3 (by omega) (by omega)) (fun _ m4 hq => ?_)
      rw [w32_s (by omega)]
      refine hw m4 ⟨?_, c3.tr hq.2⟩
      rw [take_s hk, insA_app]
      exact hq.1
    · obtain ⟨H3, c3⟩ := hI
      rw [List.take_length] at H3
      have t3 : mGet m3 100 26 = ((f + (A ++ B).length : Nat) : Int) := by rw [c3.2 _ _ (by unfold SRt; omega), c2.2 _ _ (by unfold SLt; omega), g1, if_neg (by omega), if_neg (by omega)]; exact k1
      rw [gtF_eq, t3, if_neg (by omega), ptF_eq]
      obtain ⟨m4, e4⟩ : ∃ m4, m4 = mSet m3 100 26 (f : Int) := ⟨_, rfl⟩
      rw [← e4]
      have g4 : ∀ a i, mGet m4 a i = if a = 100 ∧ i = 26 then (f : Int) else mGet m3 a i := fun a i => by rw [e4, mGet_mSet, w32_nat (by omega)]
      have c4 : Ch SCt m m4 := by
        refine ((c1.tr (c2.weak (fun a i z => ?_))).tr (c3.weak (fun a i z => ?_))).tr (by rw [e4]; exact Ch.set (Or.inr ⟨rfl, rfl⟩))
        · unfold SLt at z; unfold SCt SCn; omega
        · unfold SRt at z; unfold SCt SCn; omega
      have u4 : ∀ a i, ¬ (a = 100 ∧ (i = 23 ∨ i = 24 ∨ i = 26)) → a ≠ 120 → a ≠ 121 → mGet m4 a i = mGet m a i := fun a i z1 z2 z3 => by
        rw [g4, if_neg (by omega), c3.2 _ _ (by unfold SRt; omega), c2.2 _ _ (by unfold SLt; omega), g1, if_neg (by omega), if_neg (by omega)]
      have mk : MK T.d (insA [] A) (insA [] B) = MK T.d A B := MK_ext (fun x => ⟨fun ⟨o, h1, h2⟩ => ⟨o, (insA_mem.mp h1).resolve_left (fun z => by cases z), h2⟩, fun ⟨o, h1, h2⟩ => ⟨o, insA_mem.mpr (Or.inr h1), h2⟩⟩) (fun x => ⟨fun ⟨o, h1, h2⟩ => ⟨o, (insA_mem.mp h1).resolve_left (fun z => by cases z), h2⟩, fun ⟨o, h1, h2⟩ => ⟨o, insA_mem.mpr (Or.inr h1), h2⟩⟩)
      have sub : ∀ {X : List Nat} {x : Nat}, x ∈ insA [] X → x ∈ X := fun h => (insA_mem.mp h).resolve_left (fun z => by cases z)
      refine ok_cal (canonical_ok hn (R.ext (m' := m4) (fun a i z => u4 a i (by unfold RCe at z; omega) (by unfold RCe at z; omega) (by unfold RCe at z; omega))) (M.sb (m' := m4) (fun a i z => u4 a i (by omega) (by omega) (by omega))) (H3.ext (m' := m4) (fun a i z => by rw [g4, if_neg (by omega)])) (U.ext (m' := m4) (fun a i z => u4 a i (by omega) (by omega) (by omega))) hs (insA_nodup List.nodup_nil) (insA_nodup List.nodup_nil) (fun o ho => (List.mem_append.mp ho).elim (fun h => hb o (List.mem_append_left _ (sub h))) (fun h => hb o (List.mem_append_right _ (sub h)))) (by rw [mk]; exact hF)) (fun v m5 hq => ?_)
      obtain ⟨u, N', P', lo', ro', st', d', rfl, hu, R5, gu, G5, hN', M5, U5, c5, old, new⟩ := hq
      rw [mk] at gu
      have c15 : Ch SCt m m5 := c4.tr (c5.weak (fun a i z => Or.inl z))
      have G15 : Gw m m5 T.N N' T.d d' := ⟨G5.1, G5.2.1, fun g hg => (G5.2.2.1 g hg).trans (u4 _ _ (by omega) (by omega) (by omega)), G5.2.2.2⟩
      refine ok_rt ⟨⟨u, (N', P', lo', ro', st', d'), s + 1, rfl, hu, gu, ⟨G5.1, fun g hg => ⟨G5.2.1 g hg, (old g hg).1, (old g hg).2.1, (old g hg).2.2.1⟩⟩, ⟨R5, M5, SM.ext G5.1 G5.2.1 (fun k => ⟨c15.2 _ _ (by unfold SCt SCn; omega), c15.2 _ _ (by unfold SCt SCn; omega)⟩), NG.gw G15, U5, fun g hg => ?_⟩, by omega, Nat.le_refl _⟩, ?_, c15⟩
      · by_cases q : g < T.N
        · rw [((old g q).2.2.2).trans (u4 _ _ (by omega) (by omega) (by omega))]; exact W g q
        · exact Or.inl (new g (by omega) hg)
      · rw [c5.2 _ _ (by unfold SCn; omega), g4, if_pos ⟨rfl, rfl⟩]
