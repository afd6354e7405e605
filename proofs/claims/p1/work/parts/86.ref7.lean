/-! THE TABLE: the game at hand is found, or written -/
def SFd (a i : Nat) : Prop := (a = 100 ∧ (i = 15 ∨ i = 16)) ∨ (102 ≤ a ∧ a ≤ 115)
/-- a table that has grown -/
def Gw (m m' : Mem) (N N' : Nat) (d d' : Nat → Nat) : Prop := N ≤ N' ∧ (∀ g, g < N → d' g = d g) ∧ (∀ g, g < N → mGet m' 112 g = mGet m 112 g) ∧ (∀ g, N ≤ g → g < N' → mGet m' 112 g = 0)
theorem Gw.rf (m : Mem) (N : Nat) (d : Nat → Nat) : Gw m m N N d d := ⟨Nat.le_refl _, fun _ _ => rfl, fun _ _ => rfl, fun g h1 h2 => by omega⟩
theorem MK_inj {d : Nat → Nat} {N : Nat} {l r l2 r2 : List Nat} (inj : ∀ g h, g < N → h < N → d g = d h → g = h) (b1 : ∀ o, o ∈ l ++ r → o < N) (b2 : ∀ o, o ∈ l2 ++ r2 → o < N) (e : MK d l r = MK d l2 r2) : (∀ x, x ∈ l ↔ x ∈ l2) ∧ ∀ x, x ∈ r ↔ x ∈ r2 := by
  have L : ∀ {l r l2 r2 : List Nat}, (∀ o, o ∈ l ++ r → o < N) → (∀ o, o ∈ l2 ++ r2 → o < N) → MK d l r = MK d l2 r2 → (∀ x, x ∈ l → x ∈ l2) ∧ ∀ x, x ∈ r → x ∈ r2 := by
    intro l r l2 r2 b1 b2 e
    refine ⟨fun x hx => ?_, fun x hx => ?_⟩
    · have h := (op_MKL (d := d) (r := r)).mpr ⟨x, hx, rfl⟩
      rw [e] at h
      obtain ⟨o, ho, h2⟩ := op_MKL.mp h
      rw [← inj o x (b2 o (List.mem_append_left _ ho)) (b1 x (List.mem_append_left _ hx)) h2]
      exact ho
    · have h := (op_MKR (d := d) (l := l)).mpr ⟨x, hx, rfl⟩
      rw [e] at h
      obtain ⟨o, ho, h2⟩ := op_MKR.mp h
      rw [← inj o x (b2 o (List.mem_append_right _ ho)) (b1 x (List.mem_append_right _ hx)) h2]
      exact ho
  obtain ⟨a, b⟩ := L b1 b2 e
  obtain ⟨a2, b2⟩ := L b2 b1 e.symm
  exact ⟨fun x => ⟨a x, a2 x⟩, fun x => ⟨b x, b2 x⟩⟩
section RF
variable {m : Mem} {N P : Nat} {lo ro : Nat → List Nat} {st : Nat → Nat} {d : Nat → Nat} {F : List Nat}
theorem scan_ok {n h : Nat} {l r : List Nat} {Q : Int → Mem → Prop} (R : RT m N P lo ro st d F) (H : Hd m l r) (hn : 3000 < n) (hb : ∀ o, o ∈ l ++ r → o < N) : ∀ (L : List Nat) (f : Nat) (v : Int), Chn m v L → (∀ g, g ∈ L → g < N) → L.length < f → (∀ g, g ∈ L → mt (lo g) (ro g) l r = true → Q (g : Int) m) → ((∀ g, g ∈ L → mt (lo g) (ro g) l r = false) → Ok (cal (f_X11_added n (h : Int) m) fun x42 m42 => rt x42 m42) Q) → Ok (lp (F := Int → Mem → Option Rz) (fun _ _ => none) (fun w14 v2_14 m14 =>
    if v2_14 < 0 then (
      cal (f_X11_added n (h : Int) m14) fun x42 m42 =>
      rt x42 m42
    ) else
    cal (f_X11_isAtHand n v2_14 m14) fun x20 m20 =>
    if x20 = 0 then (
      ldI m20 115 v2_14 fun x33 =>
      nm (w32 (x33 - 1)) fun z36 =>
      w14 z36 m20
    ) else
    rt v2_14 m20
  ) f (w32 (v - 1)) m) Q
  | L, 0, v, _, _, hf, _, _ => absurd hf (Nat.not_lt_zero _)
  | [], f + 1, v, hc, hN, hf, hit, miss => by
    have e : v = 0 := hc
    show Ok (if w32 (v - 1) < 0 then _ else _) Q
    rw [e, if_pos (by decide +kernel)]
    exact miss (fun g hg => by cases hg)
  | g :: L, f + 1, v, hc, hN, hf, hit, miss => by
    obtain ⟨e, hc⟩ := hc
    have gN := hN g List.mem_cons_self
    have N2 := R.nn
    have e2 : w32 (v - 1) = (g : Int) := by rw [e, show (g : Int) + 1 - 1 = (g : Int) by omega]; exact w32_nat (by omega)
    show Ok (if w32 (v - 1) < 0 then _ else cal (f_X11_isAtHand n (w32 (v - 1)) m) _) Q
    rw [e2, if_neg (by omega)]
    refine ok_calE (isAtHand_eq R gN H hn hb) ?_
    cases q : mt (lo g) (ro g) l r with
    | true =>
      rw [if_neg (by decide)]
      exact ok_rt (hit g List.mem_cons_self q)
    | false =>
      rw [if_pos rb_f, ldI_ok (len := 16000) rfl (by omega)]
      exact scan_ok R H hn hb L f _ hc (fun x hx => hN x (List.mem_cons_of_mem _ hx)) (by rw [List.length_cons] at hf; omega) (fun x hx => hit x (List.mem_cons_of_mem _ hx)) (fun hall => miss (fun x hx => by
        rcases List.mem_cons.mp hx with rfl | hx
        · exact q
        · exact hall x hx))
theorem found_ok {n : Nat} {l r : List Nat} (R : RT m N P lo ro st d F) (H : Hd m l r) (hl : l.Nodup) (hr : r.Nodup) (hb : ∀ o, o ∈ l ++ r → o < N) (c : can (MK d l r)) (hF : MK d l r ∈ F) (hn : 3000 < n) : Ok (f_X11_found n m) (fun v m' => ∃ (u N' P' : Nat) (lo' ro' : Nat → List Nat) (st' d' : Nat → Nat), v = (u : Int) ∧ u < N' ∧ RT m' N' P' lo' ro' st' d' F ∧ d' u = MK d l r ∧ Gw m m' N N' d d' ∧ N' ≤ N + 1 ∧ Ch SFd m m' ∧ (∀ g, g < N → lo' g = lo g ∧ ro' g = ro g ∧ st' g = st g ∧ mGet m' 111 g = mGet m 111 g) ∧ (∀ g, N ≤ g → g < N' → mGet m' 111 g = 0)) := by
  have N2 := R.nn
  have P8 := R.pp
  obtain ⟨⟨a1, a2, a3, a4⟩, a5, a6, a7, a8, a9, a10⟩ := id R
  have inj : ∀ x, x ∈ l ++ r → ∀ y, y ∈ l ++ r → d x = d y → x = y := fun x hx y hy => a7 x y (hb x hx) (hb y hy)
  have ll : l.length ≤ N := nodup_lt hl (fun x hx => hb x (List.mem_append_left _ hx))
  have lr : r.length ≤ N := nodup_lt hr (fun x hx => hb x (List.mem_append_right _ hx))
  have ln := app_len l r
  obtain ⟨hb1, hb2⟩ := hs_bd l r
  obtain ⟨h, eh⟩ : ∃ h : Nat, hs l r = (h : Int) := ⟨(hs l r).toNat, by omega⟩
  have h16 : h < 16384 := by omega
  obtain ⟨L, cL, lL, LN, all⟩ := a9 h h16
  -- a game of the table that is the one at hand
  have same : ∀ g, g < N → d g = MK d l r → mt (lo g) (ro g) l r = true ∧ g ∈ L := by
    intro g hg e
    obtain ⟨b1, b2, b3, b4, b5, b6⟩ := a6 g hg
    have q := MK_inj a7 (fun o ho => Nat.lt_trans (b3 o ho) hg) hb (b4.symm.trans e)
    refine ⟨(mt_iff b1 b2 hl hr).mpr q, all g hg ?_⟩
    rw [hs_perm (nodup_perm b1 hl q.1) (nodup_perm b2 hr q.2)]
    exact eh
  unfold f_X11_found
  refine ok_calE (hash_eq H hn) ?_
  dsimp only [nm]
  rw [eh, ldI_ok (len := 16384) rfl h16]
  refine scan_ok R H hn hb L n _ cL LN (by omega) (fun g hg q => ?_) (fun hall => ?_)
  · have gN := LN g hg
    obtain ⟨b1, b2, b3, b4, b5, b6⟩ := a6 g gN
    have q := (mt_iff b1 b2 hl hr).mp q
    refine ⟨g, N, P, lo, ro, st, d, rfl, gN, R, ?_, Gw.rf _ _ _, Nat.le_succ _, Ch.rf _ _, fun _ _ => ⟨rfl, rfl, rfl, rfl⟩, fun x h1 h2 => by omega⟩
    rw [b4]
    exact MK_ext (fun x => ⟨fun ⟨o, h1, h2⟩ => ⟨o, (q.1 o).mp h1, h2⟩, fun ⟨o, h1, h2⟩ => ⟨o, (q.1 o).mpr h1, h2⟩⟩) (fun x => ⟨fun ⟨o, h1, h2⟩ => ⟨o, (q.2 o).mp h1, h2⟩, fun ⟨o, h1, h2⟩ => ⟨o, (q.2 o).mpr h1, h2⟩⟩)
  · have new : ∀ g, g < N → d g ≠ MK d l r := fun g hg e => by
      obtain ⟨q1, q2⟩ := same g hg e
      rw [hall g q2] at q1
      cases q1
    have b40 := a8.2 _ hF
    refine ok_cal (added_ok (d := d) a1 a2 (by omega) (by omega) H h16 (fun o ho => ⟨hb o ho, (a5 o (hb o ho)).2.2, by have := R.bd (hb o ho); omega⟩) c (by omega) hl hr inj (by omega) hn) (fun v m' hq => ?_)
    obtain ⟨rfl, ch, p15, p16, gr, at1, sm0, n112, n115, n114, n111⟩ := hq
    have un : ∀ a i, ¬ SAd N h P (P + (l ++ r).length) a i → mGet m' a i = mGet m a i := ch.2
    have nn : ¬ (l ++ r = []) := fun e => by
      have el : l = [] := by cases l with | nil => rfl | cons a t => cases e
      subst el
      have er : r = [] := e
      subst er
      refine new 0 (by omega) ?_
      obtain ⟨b1, b2, b3, b4, b5, b6⟩ := a6 0 (by omega)
      rw [b4]
      have e0 : ∀ o, ¬ o ∈ lo 0 ++ ro 0 := fun o ho => absurd (b3 o ho) (Nat.not_lt_zero _)
      exact MK_ext (fun x => ⟨fun ⟨o, h1, _⟩ => absurd (List.mem_append_left _ h1) (e0 o), fun ⟨o, h1, _⟩ => by cases h1⟩) (fun x => ⟨fun ⟨o, h1, _⟩ => absurd (List.mem_append_right _ h1) (e0 o), fun ⟨o, h1, _⟩ => by cases h1⟩)
    refine ok_rt ⟨N, N + 1, P + (l ++ r).length, fun g => if g = N then l else lo g, fun g => if g = N then r else ro g, fun g => if g = N then P else st g, fun g => if g = N then MK d l r else d g, rfl, by omega, ⟨⟨p15, p16, by omega, ?_⟩, fun g hg => ?_, fun g hg => ?_, fun g g2 hg hg2 e => ?_, a8, fun k hk => ?_, fun g g2 lt hg2 => ?_⟩, if_pos rfl, ⟨by omega, fun g hg => if_neg (by omega), fun g hg => un _ _ ?_, fun g h1 h2 => by rw [show g = N by omega]; exact n112⟩, Nat.le_refl _, ⟨ch.1, fun a i q => un a i (fun z => q ?_)⟩, fun g hg => ⟨if_neg (by omega), if_neg (by omega), if_neg (by omega), un _ _ ?_⟩, fun g h1 h2 => ?_⟩
    · have : (N + 1) * (N + 1) = N * N + 2 * N + 1 := by rw [Nat.add_mul, Nat.mul_add]; omega
      omega
    · by_cases q : g = N
      · subst q
        simp only [if_pos rfl]
        exact ⟨gr, Nat.le_refl _, at1⟩
      · simp only [if_neg q]
        obtain ⟨c1, c2, c3⟩ := a5 g (by omega)
        have u : ∀ a i, 106 ≤ a → a ≤ 110 → i = g → mGet m' a i = mGet m a i := fun a i z1 z2 z3 => un a i (by
          rintro (z | z | z | z | z) <;> omega)
        refine ⟨c1.ext (fun a i z => un a i (by rintro (w | w | w | w | w) <;> omega)), by omega, ?_⟩
        obtain ⟨e1, e2, e3, e4, e5⟩ := c3
        exact ⟨(u _ _ (by decide) (by decide) rfl).trans e1, (u _ _ (by decide) (by decide) rfl).trans e2, (u _ _ (by decide) (by decide) rfl).trans e3, (u _ _ (by decide) (by decide) rfl).trans e4, by rw [u _ _ (by decide) (by decide) rfl]; exact e5⟩
    · by_cases q : g = N
      · subst q
        simp only [if_pos rfl]
        exact ⟨hl, hr, hb, (MK_congr (fun o ho => if_neg (by have := hb o ho; omega))).symm, c, hF⟩
      · simp only [if_neg q]
        obtain ⟨c1, c2, c3, c4, c5, c6⟩ := a6 g (by omega)
        exact ⟨c1, c2, c3, c4.trans (MK_congr (fun o ho => (if_neg (by have := c3 o ho; omega)).symm)), c5, c6⟩
    · by_cases q : g = N <;> by_cases q2 : g2 = N
      · rw [q, q2]
      · simp only [if_pos q, if_neg q2] at e
        exact absurd e.symm (new g2 (by omega))
      · simp only [if_pos q2, if_neg q] at e
        exact absurd e (new g (by omega))
      · simp only [if_neg q, if_neg q2] at e
        exact a7 g g2 (by omega) (by omega) e
    · by_cases q : k = h
      · subst q
        refine ⟨N :: L, ?_, by rw [List.length_cons]; omega, fun g hg => ?_, fun g hg e => ?_⟩
        · rw [n114]
          refine ⟨by omega, ?_⟩
          rw [n115]
          exact cL.ext (fun g hg => un 115 g (by have := LN g hg; rintro (z | z | z | z | z) <;> omega))
        · rcases List.mem_cons.mp hg with rfl | hg
          · omega
          · have := LN g hg; omega
        · by_cases q2 : g = N
          · rw [q2]; exact List.mem_cons_self
          · simp only [if_neg q2] at e
            exact List.mem_cons_of_mem _ (all g (by omega) e)
      · obtain ⟨L2, cL2, lL2, LN2, all2⟩ := a9 k hk
        refine ⟨L2, ?_, by omega, fun g hg => by have := LN2 g hg; omega, fun g hg e => ?_⟩
        · rw [un 114 k (by rintro (z | z | z | z | z) <;> omega)]
          exact cL2.ext (fun g hg => un 115 g (by have := LN2 g hg; rintro (z | z | z | z | z) <;> omega))
        · by_cases q2 : g = N
          · simp only [if_pos q2] at e
            rw [eh] at e
            omega
          · simp only [if_neg q2] at e
            exact all2 g (by omega) e
    · by_cases q2 : g2 = N
      · subst q2
        simp only [if_pos rfl, if_neg (show ¬ g = g2 by omega)]
        exact (a5 g lt).2.1
      · simp only [if_neg q2, if_neg (show ¬ g = N by omega)]
        exact a10 g g2 lt (by omega)
    · rintro (z | z | z | z | z) <;> omega
    · rcases z with z | z | z | z | z
      · exact Or.inl z
      · exact Or.inr ⟨by omega, by omega⟩
      · exact Or.inr ⟨by omega, by omega⟩
      · exact Or.inr ⟨by omega, by omega⟩
      · exact Or.inr ⟨by omega, by omega⟩
    · rintro (z | z | z | z | z) <;> omega
    · rw [show g = N by omega]
      exact n111.resolve_right (fun q => nn q.1)
end RF
