/-! HOW MANY FOLLOWERS; WHAT FITS; A GAME IS HELD -/
theorem fr_split {p a b : Nat → Bool} (h : ∀ x, p x = (a x || b x)) (h2 : ∀ x, ¬ (a x = true ∧ b x = true)) : ∀ N, (fr p N).length = (fr a N).length + (fr b N).length
  | 0 => rfl
  | N + 1 => by
    have ih := fr_split h h2 N
    rw [fr_len, fr_len, fr_len, ih, h N]
    have := h2 N
    cases ea : a N <;> cases eb : b N <;> simp [ea, eb] at this ⊢ <;> omega
theorem fr_congr {p a : Nat → Bool} {N : Nat} (h : ∀ x, x < N → p x = a x) : (fr p N).length = (fr a N).length := by
  induction N with
  | zero => rfl
  | succ N ih => rw [fr_len, fr_len, ih (fun x hx => h x (by omega)), h N (by omega)]
noncomputable def dcB (p : Prop) : Bool := @decide p (Classical.propDecidable p)
theorem dcB_iff {p : Prop} : dcB p = true ↔ p := by unfold dcB; exact @decide_eq_true_iff _ (Classical.propDecidable _)
theorem dcB_or {p a b : Prop} (h : p ↔ a ∨ b) : dcB p = (dcB a || dcB b) := by
  apply Bool.eq_iff_iff.mpr
  rw [Bool.or_eq_true, dcB_iff, dcB_iff, dcB_iff]
  exact h
theorem dcB_eq {p a : Prop} (h : p ↔ a) : dcB p = dcB a := by
  apply Bool.eq_iff_iff.mpr
  rw [dcB_iff, dcB_iff]
  exact h
/-- how many of the table are new -/
noncomputable def nw (N : Nat) (p : Nat → Prop) : Nat := (fr (fun x => dcB (p x)) N).length
theorem nw_split {N : Nat} {p a b : Nat → Prop} (h : ∀ x, p x ↔ a x ∨ b x) (h2 : ∀ x, ¬ (a x ∧ b x)) : nw N p = nw N a + nw N b := fr_split (fun x => dcB_or (h x)) (fun x q => h2 x ⟨dcB_iff.mp q.1, dcB_iff.mp q.2⟩) N
theorem nw_congr {N : Nat} {p a : Nat → Prop} (h : ∀ x, x < N → (p x ↔ a x)) : nw N p = nw N a := fr_congr (fun x hx => dcB_eq (h x hx))
theorem nw_le (N : Nat) (p : Nat → Prop) : nw N p ≤ N := fr_le _ _
theorem nw_1 {N g : Nat} (hg : g < N) : nw N (fun x => x = g) = 1 := by
  induction N with
  | zero => omega
  | succ N ih =>
    show (fr (fun x => dcB (x = g)) (N + 1)).length = 1
    rw [fr_len]
    by_cases q : g < N
    · have := ih q
      rw [show (fr (fun x => dcB (x = g)) N).length = 1 from this, show dcB (N = g) = false from Bool.eq_false_iff.mpr (fun e => by have := dcB_iff.mp e; omega)]
      rfl
    · have e : g = N := by omega
      subst e
      have z : (fr (fun x => dcB (x = g)) g).length = 0 := by
        have : fr (fun x => dcB (x = g)) g = [] := fr_none (fun k hk => Bool.eq_false_iff.mpr (fun e => by have := dcB_iff.mp e; omega))
        rw [this]; rfl
      rw [z, show dcB (g = g) = true from dcB_iff.mpr rfl]
      rfl
theorem nw_0 {N : Nat} {p : Nat → Prop} (h : ∀ x, x < N → ¬ p x) : nw N p = 0 := by
  have : fr (fun x => dcB (p x)) N = [] := fr_none (fun k hk => Bool.eq_false_iff.mpr (fun e => h k hk (dcB_iff.mp e)))
  unfold nw
  rw [this]; rfl
section FW
variable {n N P : Nat} {lo ro : Nat → List Nat} {st d : Nat → Nat} {F : List Nat}
/-- all of a game's followers stand in the table -/
theorem RT.folx {m : Mem} (R : RT m N P lo ro st d F) : ∀ (g x : Nat), g < N → fol (d g) x → ∃ i, i ≤ g ∧ d i = x := by
  intro g
  induction g using Nat.strongRecOn with
  | _ g ih =>
    intro x hg h
    rcases (fol_def _ x).mp h with rfl | ⟨y, hy, h3⟩
    · exact ⟨g, Nat.le_refl _, rfl⟩
    · have : ∃ o, o ∈ lo g ++ ro g ∧ d o = y := hy.elim (fun h => by obtain ⟨o, a, b⟩ := (R.opL hg).mp h; exact ⟨o, List.mem_append_left _ a, b⟩) (fun h => by obtain ⟨o, a, b⟩ := (R.opR hg).mp h; exact ⟨o, List.mem_append_right _ a, b⟩)
      obtain ⟨o, ho, rfl⟩ := this
      have lt := R.lt hg ho
      obtain ⟨i, hi, e⟩ := ih o lt x (by omega) h3
      exact ⟨i, by omega, e⟩
theorem RT.opx {m : Mem} (R : RT m N P lo ro st d F) {g o : Nat} (hg : g < N) (ho : o ∈ lo g ++ ro g) : ∃ w, w < 2 ∧ op (d g) w (d o) = true := (List.mem_append.mp ho).elim (fun h => ⟨0, by decide, (R.opL hg).mpr ⟨o, h, rfl⟩⟩) (fun h => ⟨1, by decide, (R.opR hg).mpr ⟨o, h, rfl⟩⟩)
theorem RT.folI {m : Mem} (R : RT m N P lo ro st d F) {g x : Nat} (hg : g < N) (hx : x < N) : fol (d g) (d x) ↔ x = g ∨ ∃ o, o ∈ lo g ++ ro g ∧ fol (d o) (d x) := by
  constructor
  · intro h
    rcases (fol_def _ _).mp h with e | ⟨y, hy, h3⟩
    · exact Or.inl (R.2.2.2.1 x g hx hg e)
    · have : ∃ o, o ∈ lo g ++ ro g ∧ d o = y := hy.elim (fun h => by obtain ⟨o, a, b⟩ := (R.opL hg).mp h; exact ⟨o, List.mem_append_left _ a, b⟩) (fun h => by obtain ⟨o, a, b⟩ := (R.opR hg).mp h; exact ⟨o, List.mem_append_right _ a, b⟩)
      obtain ⟨o, ho, rfl⟩ := this
      exact Or.inr ⟨o, ho, h3⟩
  · rintro (rfl | ⟨o, ho, h⟩)
    · exact fol_rf _
    · obtain ⟨w, hw, q⟩ := R.opx hg ho
      exact fol_op hw q h
def mk (m : Mem) (q : Int) (x : Nat) : Prop := mGet m 126 x = q
theorem follow_ok (hn : 3000 < n) (q : Nat) (hq : q < 1000000) : ∀ (D g : Nat) (m : Mem), RT m N P lo ro st d F → g < N → bd (d g) + 1 ≤ D → mGet m 100 32 = (q : Int) → (∀ x, x ≤ g → mk m q x → ∀ o, o ∈ lo x ++ ro x → mk m q o) → Ok (h_X11_follow n D (g : Int) m) (fun v m' => Ch (fun a _ => a = 126) m m' ∧ (∀ x, x < N → (mk m' q x ↔ mk m q x ∨ fol (d g) (d x))) ∧ (∀ x, mGet m' 126 x = mGet m 126 x ∨ mGet m' 126 x = q) ∧ v = (nw N (fun x => fol (d g) (d x) ∧ ¬ mk m q x) : Int))
  | 0, _, _, _, _, hD, _, _ => by omega
  | D + 1, g, m, R, hg, hD, h32, cl => by
    have N2 := R.nn
    have P8 := R.pp
    have len := R.len hg
    obtain ⟨⟨g1, g2, g3, g4⟩, gP, _⟩ := R.2.1 g hg
    have lng := app_len (lo g) (ro g)
    rw [h_X11_follow_s]
    unfold b_X11_follow
    rw [ldI_ok (len := 16000) rfl (by omega), gtF_eq, h32]
    by_cases z : mGet m 126 g = (q : Int)
    · rw [if_pos z]
      -- all that follows is marked
      have all : ∀ x, x < N → fol (d g) (d x) → mk m q x := by
        have : ∀ y, y ≤ g → mk m q y → ∀ x, x < N → fol (d y) (d x) → mk m q x := by
          intro y
          induction y using Nat.strongRecOn with
          | _ y ih =>
            intro hy my x hx h
            rcases (R.folI (by omega) hx).mp h with e | ⟨o, ho, h2⟩
            · rw [e]; exact my
            · have lt := R.lt (g := y) (by omega) ho
              exact ih o lt (by omega) (cl y hy my o ho) x hx h2
        exact this g (Nat.le_refl _) z
      refine ok_rt ⟨Ch.rf _ _, fun x hx => ⟨Or.inl, fun h => h.elim id (all x hx)⟩, fun x => Or.inl rfl, ?_⟩
      rw [nw_0 (fun x hx h => h.2 (all x hx h.1))]
      rfl
    · rw [if_neg z, gtF_eq, h32, stI_ok (len := 16000) rfl (by omega)]
      obtain ⟨m1, e1⟩ : ∃ m1, m1 = mSet m 126 g (q : Int) := ⟨_, rfl⟩
      rw [← e1]
      have u1 : ∀ a i, mGet m1 a i = if a = 126 ∧ i = g then (q : Int) else mGet m a i := fun a i => by rw [e1, mGet_mSet, w32_nat (by omega)]
      have c1 : Ch (fun a _ => a = 126) m m1 := by rw [e1]; exact Ch.set rfl
      have mk1 : ∀ x, mk m1 q x ↔ mk m q x ∨ x = g := fun x => by
        unfold mk
        rw [u1]
        by_cases e : x = g
        · rw [if_pos ⟨rfl, e⟩]; exact ⟨fun _ => Or.inr e, fun _ => rfl⟩
        · rw [if_neg (fun h => e h.2)]; exact ⟨Or.inl, fun h => h.elim id (fun h => absurd h e)⟩
      rw [ldI_ok (len := 16000) rfl (by omega), u1, if_neg (by omega), g1]
      refine ok_row2 (s := st g) (k := 0) (lo g ++ ro g).length (fun k v m2 => Ch (fun a _ => a = 126) m m2 ∧ (∀ x, x < N → (mk m2 q x ↔ mk m q x ∨ x = g ∨ ∃ o, o ∈ (lo g ++ ro g).take k ∧ fol (d o) (d x))) ∧ (∀ x, mGet m2 126 x = mGet m 126 x ∨ mGet m2 126 x = q) ∧ v = (nw N (fun x => (x = g ∨ ∃ o, o ∈ (lo g ++ ro g).take k ∧ fol (d o) (d x)) ∧ ¬ mk m q x) : Int)) (fun w k v m2 hk hI hw => ?_) (fun w v m2 hI => ?_) n 1 m1 (Nat.zero_le _) ⟨c1, fun x hx => ?_, fun x => ?_, ?_⟩ (by omega)
      · obtain ⟨c2, mk2, o2, rfl⟩ := hI
        have u2 : ∀ a i, a ≠ 126 → mGet m2 a i = mGet m a i := fun a i h => c2.2 a i h
        have R2 : RT m2 N P lo ro st d F := R.ext (fun a i z => u2 a i (by unfold RCe at z; omega))
        have oM := List.getElem_mem hk
        have oL := R.lt hg oM
        rw [ldI_ok (len := 16000) rfl (by omega), u2 _ _ (by decide), g3, if_pos (by omega), ldI_ok (len := 240000) rfl (by omega), u2 _ _ (by decide), g4 k hk]
        obtain ⟨o, eo⟩ : ∃ o, o = (lo g ++ ro g)[k] := ⟨_, rfl⟩
        rw [← eo] at oM oL ⊢
        obtain ⟨w', hw', q'⟩ := R.opx hg oM
        have bo := bd_op hw' q'
        have cl2 : ∀ x, x ≤ o → mk m2 q x → ∀ o2, o2 ∈ lo x ++ ro x → mk m2 q o2 := fun x hx h o2 ho2 => by
          have lt2 := R.lt (g := x) (by omega) ho2
          rcases (mk2 x (by omega)).mp h with h | h | ⟨o3, h3, h4⟩
          · exact (mk2 o2 (by omega)).mpr (Or.inl (cl x (by omega) h o2 ho2))
          · omega
          · obtain ⟨w2, hw2, q2⟩ := R.opx (g := x) (by omega) ho2
            exact (mk2 o2 (by omega)).mpr (Or.inr (Or.inr ⟨o3, h3, fol_tr h4 (fol_op hw2 q2 (fol_rf _))⟩))
        refine ok_cal (follow_ok hn q hq D o m2 R2 (by omega) (by omega) (by rw [u2 _ _ (by decide)]; exact h32) cl2) (fun v m3 hq3 => ?_)
        obtain ⟨c3, mk3, o3, rfl⟩ := hq3
        refine ok_nm ?_
        have b1 := nw_le N (fun x => (x = g ∨ ∃ o, o ∈ (lo g ++ ro g).take k ∧ fol (d o) (d x)) ∧ ¬ mk m q x)
        have b2 := nw_le N (fun x => fol (d o) (d x) ∧ ¬ mk m2 q x)
        have tk : (lo g ++ ro g).take (k + 1) = (lo g ++ ro g).take k ++ [o] := by rw [take_s hk, eo]
        have mem : ∀ x, (∃ y, y ∈ (lo g ++ ro g).take (k + 1) ∧ fol (d y) (d x)) ↔ (∃ y, y ∈ (lo g ++ ro g).take k ∧ fol (d y) (d x)) ∨ fol (d o) (d x) := fun x => by
          rw [tk]
          constructor
          · rintro ⟨y, hy, h⟩
            rcases List.mem_append.mp hy with hy | hy
            · exact Or.inl ⟨y, hy, h⟩
            · rw [List.mem_singleton.mp hy] at h; exact Or.inr h
          · rintro (⟨y, hy, h⟩ | h)
            · exact ⟨y, List.mem_append_left _ hy, h⟩
            · exact ⟨o, List.mem_append_right _ (List.mem_singleton.mpr rfl), h⟩
        have sum : nw N (fun x => (x = g ∨ ∃ o, o ∈ (lo g ++ ro g).take (k + 1) ∧ fol (d o) (d x)) ∧ ¬ mk m q x) = nw N (fun x => (x = g ∨ ∃ o, o ∈ (lo g ++ ro g).take k ∧ fol (d o) (d x)) ∧ ¬ mk m q x) + nw N (fun x => fol (d o) (d x) ∧ ¬ mk m2 q x) := by
          rw [← nw_split (p := fun x => ((x = g ∨ ∃ o, o ∈ (lo g ++ ro g).take k ∧ fol (d o) (d x)) ∧ ¬ mk m q x) ∨ (x < N ∧ fol (d o) (d x) ∧ ¬ mk m2 q x)) (b := fun x => x < N ∧ fol (d o) (d x) ∧ ¬ mk m2 q x) (fun x => Iff.rfl) (fun x ⟨⟨h1, h2⟩, h3, h4, h5⟩ => h5 ((mk2 x h3).mpr (Or.inr h1))) |>.symm.symm |> (fun e => e.trans (congrArg _ (nw_congr (fun x hx => ⟨fun h => h.2, fun h => ⟨hx, h⟩⟩))))]
          refine nw_congr (fun x hx => ?_)
          rw [mem x]
          constructor
          · rintro ⟨h | h | h, h2⟩
            · exact Or.inl ⟨Or.inl h, h2⟩
            · exact Or.inl ⟨Or.inr h, h2⟩
            · by_cases z2 : mk m2 q x
              · rcases (mk2 x hx).mp z2 with h3 | h3
                · exact absurd h3 h2
                · exact Or.inl ⟨h3, h2⟩
              · exact Or.inr ⟨hx, h, z2⟩
          · rintro (⟨h | h, h2⟩ | ⟨_, h, h2⟩)
            · exact ⟨Or.inl h, h2⟩
            · exact ⟨Or.inr (Or.inl h), h2⟩
            · exact ⟨Or.inr (Or.inr h), fun h3 => h2 ((mk2 x hx).mpr (Or.inl h3))⟩
        rw [show ((nw N (fun x => (x = g ∨ ∃ o, o ∈ (lo g ++ ro g).take k ∧ fol (d o) (d x)) ∧ ¬ mk m q x) : Nat) : Int) + ((nw N (fun x => fol (d o) (d x) ∧ ¬ mk m2 q x) : Nat) : Int) = ((nw N (fun x => (x = g ∨ ∃ o, o ∈ (lo g ++ ro g).take (k + 1) ∧ fol (d o) (d x)) ∧ ¬ mk m q x) : Nat) : Int) by rw [sum]; omega, w32_nat (by omega), w32_s (by omega)]
        refine hw _ m3 ⟨c2.tr c3, fun x hx => ?_, fun x => ?_, rfl⟩
        · rw [mk3 x hx, mk2 x hx, mem x]
          constructor
          · rintro ((h | h | h) | h)
            · exact Or.inl h
            · exact Or.inr (Or.inl h)
            · exact Or.inr (Or.inr (Or.inl h))
            · exact Or.inr (Or.inr (Or.inr h))
          · rintro (h | h | h | h)
            · exact Or.inl (Or.inl h)
            · exact Or.inl (Or.inr (Or.inl h))
            · exact Or.inl (Or.inr (Or.inr h))
            · exact Or.inr h
        · rcases o3 x with h | h
          · rw [h]; exact o2 x
          · exact Or.inr h
      · obtain ⟨c2, mk2, o2, rfl⟩ := hI
        rw [List.take_length] at mk2
        have u2 : ∀ a i, a ≠ 126 → mGet m2 a i = mGet m a i := fun a i h => c2.2 a i h
        rw [ldI_ok (len := 16000) rfl (by omega), u2 _ _ (by decide), g3, if_neg (by omega), List.take_length]
        refine ok_rt ⟨c2, fun x hx => ?_, o2, ?_⟩
        · rw [mk2 x hx, R.folI hg hx]
        · rw [nw_congr (fun x hx => by rw [← R.folI hg hx])]
      · rw [mk1 x]
        exact ⟨fun h => h.elim Or.inl (fun h => Or.inr (Or.inl h)), fun h => h.elim Or.inl (fun h => h.elim Or.inr (fun ⟨o, ho, _⟩ => by cases ho))⟩
      · rw [u1]
        by_cases e : x = g
        · rw [if_pos ⟨rfl, e⟩]; exact Or.inr rfl
        · rw [if_neg (fun h => e h.2)]; exact Or.inl rfl
      · rw [nw_congr (N := N) (a := fun x => x = g) (fun x hx => ⟨fun ⟨h, _⟩ => h.elim id (fun ⟨o, ho, _⟩ => by cases ho), fun h => ⟨Or.inl h, fun h2 => z (by rw [h] at h2; exact h2)⟩⟩), nw_1 hg]
        rfl
/-- the marks of what was seen: none is above the last -/
def SnW (m : Mem) (q : Nat) : Prop := mGet m 100 32 = (q : Int) ∧ ∀ x, 0 ≤ mGet m 126 x ∧ mGet m 126 x ≤ (q : Int)
theorem SnW.ext {m m' : Mem} {q : Nat} (h : SnW m q) (e : ∀ a i, (a = 100 ∧ i = 32) ∨ a = 126 → mGet m' a i = mGet m a i) : SnW m' q := ⟨(e _ _ (Or.inl ⟨rfl, rfl⟩)).trans h.1, fun x => by rw [e 126 x (Or.inr rfl)]; exact h.2 x⟩
theorem nw_wid {m : Mem} (R : RT m N P lo ro st d F) {g : Nat} (hg : g < N) : nw N (fun x => fol (d g) (d x)) = wid (d g) := by
  have e := wid_of (g := d g) (l := (fr (fun x => dcB (fol (d g) (d x))) N).map d) (nodup_mapd (nodup_fr _ _) (fun x hx y hy => R.2.2.2.1 x y (mem_fr.mp hx).1 (mem_fr.mp hy).1)) (fun x => by
    rw [List.mem_map]
    constructor
    · rintro ⟨y, hy, rfl⟩
      exact dcB_iff.mp (mem_fr.mp hy).2
    · intro h
      obtain ⟨i, hi, rfl⟩ := R.folx g x hg h
      exact ⟨i, mem_fr.mpr ⟨by omega, dcB_iff.mpr h⟩, rfl⟩)
  rw [List.length_map] at e
  exact e.symm
theorem width_ok {m : Mem} {g q : Nat} (hn : 3000 < n) (R : RT m N P lo ro st d F) (hg : g < N) (S : SnW m q) (hq : q + 1 < 1000000) : Ok (f_X11_width n (g : Int) m) (fun v m' => v = (wid (d g) : Int) ∧ SnW m' (q + 1) ∧ Ch (fun a i => a = 126 ∨ (a = 100 ∧ i = 32)) m m') := by
  unfold f_X11_width
  rw [gtF_eq, ptF_eq, S.1, w32_1 (by omega)]
  obtain ⟨m1, e1⟩ : ∃ m1, m1 = mSet m 100 32 ((q + 1 : Nat) : Int) := ⟨_, rfl⟩
  rw [← e1]
  have u1 : ∀ a i, mGet m1 a i = if a = 100 ∧ i = 32 then ((q + 1 : Nat) : Int) else mGet m a i := fun a i => by rw [e1, mGet_mSet, w32_nat (by omega)]
  have c1 : Ch (fun a i => a = 126 ∨ (a = 100 ∧ i = 32)) m m1 := by rw [e1]; exact Ch.set (Or.inr ⟨rfl, rfl⟩)
  have no : ∀ x, ¬ mk m1 ((q + 1 : Nat) : Int) x := fun x h => by
    unfold mk at h
    rw [u1, if_neg (by omega)] at h
    have := (S.2 x).2
    omega
  have R1 : RT m1 N P lo ro st d F := R.ext (fun a i z => by rw [u1, if_neg (by unfold RCe at z; omega)])
  have bdg := R.bd hg
  refine ok_cal (follow_ok hn (q + 1) hq 60 g m1 R1 hg (by omega) (by rw [u1, if_pos ⟨rfl, rfl⟩]) (fun x _ h => absurd h (no x))) (fun v m2 hq2 => ?_)
  obtain ⟨c2, mk2, o2, rfl⟩ := hq2
  refine ok_rt ⟨?_, ⟨?_, fun x => ?_⟩, c1.tr (c2.weak (fun a i z => Or.inl z))⟩
  · rw [nw_congr (fun x hx => ⟨fun h => h.1, fun h => ⟨h, no x⟩⟩), nw_wid R hg]
  · rw [c2.2 _ _ (by omega), u1, if_pos ⟨rfl, rfl⟩]
  · rcases o2 x with h | h
    · rw [h, u1, if_neg (by omega)]
      have := S.2 x
      exact ⟨this.1, by omega⟩
    · rw [h]
      exact ⟨by omega, Int.le_refl _⟩
theorem fits_ok {m : Mem} {g q : Nat} (hn : 3000 < n) (R : RT m N P lo ro st d F) (hg : g < N) (S : SnW m q) (hq : q + 1 < 1000000) : Ok (f_X11_fits n (g : Int) m) (fun v m' => ((fits (d g) ∧ v = 1) ∨ (¬ fits (d g) ∧ v = 0)) ∧ (∃ q', q' ≤ q + 1 ∧ SnW m' q') ∧ Ch (fun a i => a = 126 ∨ (a = 100 ∧ i = 32)) m m') := by
  have N2 := R.nn
  have at1 := (R.2.1 g hg).2.2.2.2.2.1
  unfold f_X11_fits
  rw [ldI_ok (len := 16000) rfl (by omega), at1]
  refine ok_jn ?_
  refine ok_jn ?_
  have e : bl (d g) = ((min (wd (d g)).length 100000 : Nat) : Int) := rfl
  by_cases z : 100 < bl (d g)
  · rw [if_pos z]
    refine ok_rtZ (Or.inl rfl) ⟨Or.inr ⟨fun h => ?_, rfl⟩, ⟨q, by omega, S⟩, Ch.rf _ _⟩
    have := h.2
    omega
  · rw [if_neg z]
    refine ok_cal (width_ok hn R hg S hq) (fun v m2 hq2 => ?_)
    obtain ⟨rfl, S2, c2⟩ := hq2
    by_cases z2 : (10 : Int) < (wid (d g) : Int)
    · rw [if_pos z2]
      refine ok_rtZ (Or.inl rfl) ⟨Or.inr ⟨fun h => ?_, rfl⟩, ⟨q + 1, by omega, S2⟩, c2⟩
      have := h.1
      omega
    · rw [if_neg z2]
      exact ok_rtZ (Or.inr rfl) ⟨Or.inl ⟨⟨by omega, by omega⟩, rfl⟩, ⟨q + 1, by omega, S2⟩, c2⟩
end FW
theorem no_eq {n : Nat} {k : Nat} {m : Mem} (hk : k < 7) : f_X11_no n (k : Int) m = some (-1100000000 - (k : Int), mSet m 101 k (w32 (mGet m 101 k + 1))) := by
  unfold f_X11_no
  rw [ldI_ok (len := 7) rfl hk, stI_ok (len := 7) rfl hk]
  rw [w32_id (by omega) (by omega)]
  rfl
/-- what a call that gives a slot a game answers -/
noncomputable def ans (K : Nat) : Int := if dcB (fits K) = true then (wid K : Int) else -1100000004
theorem ans_y {K : Nat} (h : fits K) : ans K = (wid K : Int) := if_pos (dcB_iff.mpr h)
theorem ans_n {K : Nat} (h : ¬ fits K) : ans K = -1100000004 := if_neg (fun e => h (dcB_iff.mp e))
/-- a slot is given a game; nothing is past yet -/
theorem holds_ok2 {n N P g q p : Nat} {lo ro : Nat → List Nat} {st d : Nat → Nat} {F : List Nat} {m : Mem} (hn : 3000 < n) (R : RT m N P lo ro st d F) (hg : g < N) (S : SnW m q) (hq : q + 2 < 1000000) (hp : p < 8) (h39 : mGet m 100 39 = 0) : Ok (f_X11_holds n (p : Int) (g : Int) m) (fun v m' => v = ans (d g) ∧ ∀ i, mGet m' 107 i = mGet m 107 i) := by
  have N2 := R.nn
  unfold f_X11_holds
  refine ok_cal (fits_ok hn R hg S (by omega)) (fun v m2 hq2 => ?_)
  obtain ⟨h, ⟨q2, hq2, S2⟩, c2⟩ := hq2
  rcases h with ⟨hf, rfl⟩ | ⟨hf, rfl⟩
  · rw [if_neg (by decide), gtF_eq, c2.2 _ _ (by omega), h39]
    refine ok_jn ?_
    rw [if_neg (by decide)]
    show Ok (gtF m2 100 39 _) _
    rw [gtF_eq, c2.2 _ _ (by omega), h39, stI0_ok (len := 8) rfl (by decide), gtF_eq, mGet_mSet, if_neg (by omega), c2.2 _ _ (by omega), h39, ldI_ok (len := 8) rfl hp, stI0_ok (len := 8) rfl (by decide), gtF_eq, ptF_eq, stI_ok (len := 8) rfl hp]
    obtain ⟨x, hx⟩ : ∃ x, x = mGet (mSet m2 130 0 (p : Int)) 129 p := ⟨_, rfl⟩
    obtain ⟨y, hy⟩ : ∃ y, y = w32 (mGet (mSet (mSet m2 130 0 (p : Int)) 131 0 x) 100 39 + 1) := ⟨_, rfl⟩
    rw [← hx, ← hy]
    obtain ⟨m3, e3⟩ : ∃ m3, m3 = mSet (mSet (mSet (mSet m2 130 0 (p : Int)) 131 0 x) 100 39 y) 129 p (g : Int) := ⟨_, rfl⟩
    rw [← e3]
    have u3 : ∀ a i, ¬ (a = 129 ∨ a = 130 ∨ a = 131 ∨ (a = 100 ∧ i = 39)) → mGet m3 a i = mGet m2 a i := fun a i h => by
      rw [e3, mGet_mSet, mGet_mSet, mGet_mSet, mGet_mSet, if_neg (by omega), if_neg (by omega), if_neg (by omega), if_neg (by omega)]
    have R3 : RT m3 N P lo ro st d F := R.ext (fun a i z => by
      unfold RCe at z
      rw [u3 a i (by omega), c2.2 a i (by omega)])
    refine ok_cal (width_ok hn R3 hg (S2.ext (fun a i z => u3 a i (by omega))) (by omega)) (fun v m4 hq4 => ?_)
    exact ok_rt ⟨hq4.1.trans (ans_y hf).symm, fun i => by rw [hq4.2.2.2 _ _ (by omega), u3 _ _ (by omega), c2.2 _ _ (by omega)]⟩
  · rw [if_pos rfl]
    refine ok_calE (no_eq (k := 4) (by decide)) ?_
    exact ok_rt ⟨(ans_n hf).symm, fun i => by rw [mGet_mSet, if_neg (by omega), c2.2 _ _ (by omega)]⟩
theorem holds_ok {n N P g q p : Nat} {lo ro : Nat → List Nat} {st d : Nat → Nat} {F : List Nat} {m : Mem} (hn : 3000 < n) (R : RT m N P lo ro st d F) (hg : g < N) (S : SnW m q) (hq : q + 2 < 1000000) (hp : p < 8) (h39 : mGet m 100 39 = 0) : Ok (f_X11_holds n (p : Int) (g : Int) m) (fun v _ => v = ans (d g)) := ok_mono (holds_ok2 hn R hg S hq hp h39) (fun _ _ h => h.1)
