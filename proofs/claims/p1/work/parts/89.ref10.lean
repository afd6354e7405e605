/-! THE TABLE: options are put to hand; what turns back -/
def SLt (a i : Nat) : Prop := (a = 100 ∧ i = 23) ∨ a = 120
def SRt (a i : Nat) : Prop := (a = 100 ∧ i = 24) ∨ a = 121
theorem Row.app {m : Mem} {a s : Nat} {l : List Nat} {v : Nat} (h : Row m a s l) (e : mGet m a (s + l.length) = (v : Int)) : Row m a s (l ++ [v]) := fun k hk => by
  rw [List.length_append, List.length_singleton] at hk
  by_cases q : k < l.length
  · rw [List.getElem_append_left q]; exact h k q
  · have e2 : k = l.length := by omega
    subst e2
    rw [e, List.getElem_append_right (Nat.le_refl _)]
    simp
theorem putsLeft_ok {n v : Nat} {l r : List Nat} {m : Mem} (hn : 3000 < n) (H : Hd m l r) (hl : l.length < 2999) (hv : v < 2147483648) : Ok (f_X11_putsLeft n (v : Int) m) (fun _ m' => Hd m' (if v ∈ l then l else l ++ [v]) r ∧ Ch SLt m m') := by
  obtain ⟨q1, q2, q3, q4, q5, q6⟩ := id H
  unfold f_X11_putsLeft
  dsimp only [jn]
  rw [gtF_eq, q1]
  have e := rhas_eq (n := n) (m := m) (a := 120) (len := 4000) (s := 0) (v := v) (l := l) rfl (by omega) (by decide) q3 (by omega)
  rw [Nat.zero_add] at e
  refine ok_calE e ?_
  by_cases q : v ∈ l
  · rw [List.contains_iff_mem.mpr q, if_neg (by decide), if_pos q]
    exact ok_rt ⟨H, Ch.rf _ _⟩
  · have c : l.contains v = false := by
      cases h : l.contains v
      · rfl
      · exact absurd (List.contains_iff_mem.mp h) q
    rw [c, if_pos rb_f, if_neg q, gtF_eq, q1, stI_ok (len := 4000) rfl (by omega), gtF_eq, ptF_eq]
    have p1 : mGet (mSet m 120 l.length (v : Int)) 100 23 = (l.length : Int) := by rw [mGet_mSet, if_neg (by omega)]; exact q1
    rw [p1, w32_1 (by omega)]
    have G8 : ∀ a i, mGet (mSet (mSet m 120 l.length (v : Int)) 100 23 ((l.length + 1 : Nat) : Int)) a i = if a = 100 ∧ i = 23 then ((l.length + 1 : Nat) : Int) else if a = 120 ∧ i = l.length then (v : Int) else mGet m a i := fun a i => by
      rw [mGet_mSet, mGet_mSet, w32_nat (by omega), w32_nat hv]
    refine ok_rt ⟨⟨?_, ?_, ?_, ?_, ?_, q6⟩, ⟨rfl, fun a i z => ?_⟩⟩
    · rw [G8, if_pos ⟨rfl, rfl⟩, List.length_append]; rfl
    · rw [G8, if_neg (by omega), if_neg (by omega)]; exact q2
    · refine Row.app (q3.ext (fun k hk => by rw [G8, if_neg (by omega), if_neg (by omega)])) ?_
      rw [G8, if_neg (by omega), if_pos ⟨rfl, by omega⟩]
    · exact q4.ext (fun k hk => by rw [G8, if_neg (by omega), if_neg (by omega)])
    · rw [List.length_append, List.length_singleton]; omega
    · rw [G8, if_neg (fun w => z (Or.inl w)), if_neg (fun w => z (Or.inr w.1))]
theorem putsRight_ok {n v : Nat} {l r : List Nat} {m : Mem} (hn : 3000 < n) (H : Hd m l r) (hl : r.length < 2999) (hv : v < 2147483648) : Ok (f_X11_putsRight n (v : Int) m) (fun _ m' => Hd m' l (if v ∈ r then r else r ++ [v]) ∧ Ch SRt m m') := by
  obtain ⟨q1, q2, q3, q4, q5, q6⟩ := id H
  unfold f_X11_putsRight
  dsimp only [jn]
  rw [gtF_eq, q2]
  have e := rhas_eq (n := n) (m := m) (a := 121) (len := 4000) (s := 0) (v := v) (l := r) rfl (by omega) (by decide) q4 (by omega)
  rw [Nat.zero_add] at e
  refine ok_calE e ?_
  by_cases q : v ∈ r
  · rw [List.contains_iff_mem.mpr q, if_neg (by decide), if_pos q]
    exact ok_rt ⟨H, Ch.rf _ _⟩
  · have c : r.contains v = false := by
      cases h : r.contains v
      · rfl
      · exact absurd (List.contains_iff_mem.mp h) q
    rw [c, if_pos rb_f, if_neg q, gtF_eq, q2, stI_ok (len := 4000) rfl (by omega), gtF_eq, ptF_eq]
    have p1 : mGet (mSet m 121 r.length (v : Int)) 100 24 = (r.length : Int) := by rw [mGet_mSet, if_neg (by omega)]; exact q2
    rw [p1, w32_1 (by omega)]
    have G8 : ∀ a i, mGet (mSet (mSet m 121 r.length (v : Int)) 100 24 ((r.length + 1 : Nat) : Int)) a i = if a = 100 ∧ i = 24 then ((r.length + 1 : Nat) : Int) else if a = 121 ∧ i = r.length then (v : Int) else mGet m a i := fun a i => by
      rw [mGet_mSet, mGet_mSet, w32_nat (by omega), w32_nat hv]
    refine ok_rt ⟨⟨?_, ?_, ?_, ?_, q5, ?_⟩, ⟨rfl, fun a i z => ?_⟩⟩
    · rw [G8, if_neg (by omega), if_neg (by omega)]; exact q1
    · rw [G8, if_pos ⟨rfl, rfl⟩, List.length_append]; rfl
    · exact q3.ext (fun k hk => by rw [G8, if_neg (by omega), if_neg (by omega)])
    · refine Row.app (q4.ext (fun k hk => by rw [G8, if_neg (by omega), if_neg (by omega)])) ?_
      rw [G8, if_neg (by omega), if_pos ⟨rfl, by omega⟩]
    · rw [List.length_append, List.length_singleton]; omega
    · rw [G8, if_neg (fun w => z (Or.inl w)), if_neg (fun w => z (Or.inr w.1))]
/-- what is put behind a list: those that are not yet there -/
def ins (l : List Nat) (v : Nat) : List Nat := if v ∈ l then l else l ++ [v]
def insA (l : List Nat) : List Nat → List Nat
  | [] => l
  | v :: t => insA (ins l v) t
theorem ins_mem {l : List Nat} {v x : Nat} : x ∈ ins l v ↔ x ∈ l ∨ x = v := by
  unfold ins
  by_cases h : v ∈ l
  · rw [if_pos h]
    exact ⟨Or.inl, fun q => q.elim id (fun e => e ▸ h)⟩
  · rw [if_neg h, List.mem_append, List.mem_singleton]
theorem ins_nodup {l : List Nat} {v : Nat} (h : l.Nodup) : (ins l v).Nodup := by
  unfold ins
  by_cases q : v ∈ l
  · rw [if_pos q]; exact h
  · rw [if_neg q]
    refine List.nodup_append.mpr ⟨h, List.nodup_cons.mpr ⟨by simp, List.nodup_nil⟩, fun a ha b hb e => ?_⟩
    rw [List.mem_singleton.mp hb] at e
    exact q (e ▸ ha)
theorem ins_ex (l : List Nat) (v : Nat) : ∃ t, ins l v = l ++ t ∧ ∀ x, x ∈ t → x = v := by
  unfold ins
  by_cases q : v ∈ l
  · rw [if_pos q]; exact ⟨[], (List.append_nil _).symm, fun x h => by cases h⟩
  · rw [if_neg q]; exact ⟨[v], rfl, fun x h => List.mem_singleton.mp h⟩
theorem insA_app (l a b : List Nat) : insA l (a ++ b) = insA (insA l a) b := by
  induction a generalizing l with
  | nil => rfl
  | cons v t ih => exact ih (ins l v)
theorem insA_mem {x : Nat} : ∀ {a l : List Nat}, x ∈ insA l a ↔ x ∈ l ∨ x ∈ a
  | [], l => ⟨Or.inl, fun h => h.elim id (fun h => by cases h)⟩
  | v :: t, l => by
    show x ∈ insA (ins l v) t ↔ _
    rw [insA_mem, ins_mem, List.mem_cons, or_assoc]
theorem insA_nodup : ∀ {a l : List Nat}, l.Nodup → (insA l a).Nodup
  | [], _, h => h
  | v :: t, _, h => insA_nodup (a := t) (ins_nodup h)
theorem insA_ex : ∀ (a l : List Nat), ∃ t, insA l a = l ++ t ∧ ∀ x, x ∈ t → x ∈ a
  | [], l => ⟨[], (List.append_nil _).symm, fun x h => by cases h⟩
  | v :: t, l => by
    obtain ⟨t1, e1, h1⟩ := ins_ex l v
    obtain ⟨t2, e2, h2⟩ := insA_ex t (ins l v)
    refine ⟨t1 ++ t2, ?_, fun x hx => ?_⟩
    · show insA (ins l v) t = _
      rw [e2, e1, List.append_assoc]
    · rcases List.mem_append.mp hx with h | h
      · rw [h1 x h]; exact List.mem_cons_self
      · exact List.mem_cons_of_mem _ (h2 x h)
section RB2
variable {n N P : Nat} {lo ro : Nat → List Nat} {st : Nat → Nat} {d : Nat → Nat} {F : List Nat}
theorem leftBack_ok {l r : List Nat} {s g : Nat} {m : Mem} (hn : 3000 < n) (hb : ∀ o, o ∈ l ++ r → o < N) (R : RT m N P lo ro st d F) (M : MP m N d) (H : Hd m l r) (U : HU m N d (MK d l r) s) (hg : g < N) : Ok (f_X11_leftBack n (g : Int) m) (fun v m' => ((v = -1 ∧ ∀ o, o ∈ ro g → ¬ gle (d o) (MK d l r)) ∨ ∃ o, o ∈ ro g ∧ v = (o : Int) ∧ gle (d o) (MK d l r)) ∧ MP m' N d ∧ HU m' N d (MK d l r) s ∧ Ch SU m m') := by
  have N2 := R.nn
  have P8 := R.pp
  have lng2 := R.len hg
  obtain ⟨⟨g1, g2, g3, g4⟩, gP, _⟩ := R.2.1 g hg
  have lng := app_len (lo g) (ro g)
  have RC : ∀ {m1 : Mem}, Ch SU m m1 → ∀ a i, 102 ≤ a → a ≤ 110 → mGet m1 a i = mGet m a i := fun c a i z1 z2 => c.2 a i (by unfold SU; omega)
  unfold f_X11_leftBack
  rw [ldI_ok (len := 16000) rfl (by omega), g2]
  refine ok_row1 (s := st g + (lo g).length) (k := 0) (ro g).length (fun k m2 => MP m2 N d ∧ HU m2 N d (MK d l r) s ∧ Ch SU m m2 ∧ ∀ o, o ∈ (ro g).take k → ¬ gle (d o) (MK d l r)) (fun w k m2 hk hI hw => ?_) (fun w m2 hI => ?_) n m (Nat.zero_le _) ⟨M, U, Ch.rf _ _, fun o ho => by cases ho⟩ (by omega)
  · obtain ⟨M2, U2, c2, hno⟩ := hI
    have e := g4.right k hk
    have ok := R.lt hg (List.mem_append_right (lo g) (List.getElem_mem hk))
    rw [ldI_ok (len := 16000) rfl (by omega), RC c2 105 g (by decide) (by decide), g3, if_pos (by omega), ldI_ok (len := 240000) rfl (by omega), RC c2 102 _ (by decide) (by decide), e]
    refine ok_cal (isUnder_ok hn hb (R.su c2) M2 (H.su c2) U2 (by omega)) (fun v m3 hq => ?_)
    obtain ⟨rfl, M3, U3, c3⟩ := hq
    refine un_not _ (fun h => ?_) (fun h => ?_)
    · rw [w32_s (by omega)]
      refine hw m3 ⟨M3, U3, c2.tr c3, fun o ho => ?_⟩
      rw [take_s hk] at ho
      rcases List.mem_append.mp ho with ho | ho
      · exact hno o ho
      · rw [List.mem_singleton.mp ho]
        intro q
        rw [(gleB_iff _ _).mpr q] at h
        cases h
    · rw [ldI_ok (len := 240000) rfl (by omega), RC (c2.tr c3) 102 _ (by decide) (by decide), e]
      exact ok_rt ⟨Or.inr ⟨_, List.getElem_mem hk, rfl, (gleB_iff _ _).mp h⟩, M3, U3, c2.tr c3⟩
  · obtain ⟨M2, U2, c2, hno⟩ := hI
    rw [List.take_length] at hno
    rw [ldI_ok (len := 16000) rfl (by omega), RC c2 105 g (by decide) (by decide), g3, if_neg (by omega)]
    exact ok_rt ⟨Or.inl ⟨rfl, hno⟩, M2, U2, c2⟩
theorem rightBack_ok {l r : List Nat} {s g : Nat} {m : Mem} (hn : 3000 < n) (hb : ∀ o, o ∈ l ++ r → o < N) (R : RT m N P lo ro st d F) (M : MP m N d) (H : Hd m l r) (U : HU m N d (MK d l r) s) (hg : g < N) : Ok (f_X11_rightBack n (g : Int) m) (fun v m' => ((v = -1 ∧ ∀ o, o ∈ lo g → ¬ gle (MK d l r) (d o)) ∨ ∃ o, o ∈ lo g ∧ v = (o : Int) ∧ gle (MK d l r) (d o)) ∧ MP m' N d ∧ HU m' N d (MK d l r) s ∧ Ch SU m m') := by
  have N2 := R.nn
  have P8 := R.pp
  have lng2 := R.len hg
  obtain ⟨⟨g1, g2, g3, g4⟩, gP, _⟩ := R.2.1 g hg
  have lng := app_len (lo g) (ro g)
  have RC : ∀ {m1 : Mem}, Ch SU m m1 → ∀ a i, 102 ≤ a → a ≤ 110 → mGet m1 a i = mGet m a i := fun c a i z1 z2 => c.2 a i (by unfold SU; omega)
  unfold f_X11_rightBack
  rw [ldI_ok (len := 16000) rfl (by omega), g1]
  refine ok_row1 (s := st g) (k := 0) (lo g).length (fun k m2 => MP m2 N d ∧ HU m2 N d (MK d l r) s ∧ Ch SU m m2 ∧ ∀ o, o ∈ (lo g).take k → ¬ gle (MK d l r) (d o)) (fun w k m2 hk hI hw => ?_) (fun w m2 hI => ?_) n m (Nat.zero_le _) ⟨M, U, Ch.rf _ _, fun o ho => by cases ho⟩ (by omega)
  · obtain ⟨M2, U2, c2, hno⟩ := hI
    have e := g4.left k hk
    have ok := R.lt hg (List.mem_append_left (ro g) (List.getElem_mem hk))
    rw [ldI_ok (len := 16000) rfl (by omega), RC c2 104 g (by decide) (by decide), g2, if_pos (by omega), ldI_ok (len := 240000) rfl (by omega), RC c2 102 _ (by decide) (by decide), e]
    refine ok_cal (isOver_ok hn hb (R.su c2) M2 (H.su c2) U2 (by omega)) (fun v m3 hq => ?_)
    obtain ⟨rfl, M3, U3, c3⟩ := hq
    refine un_not _ (fun h => ?_) (fun h => ?_)
    · rw [w32_s (by omega)]
      refine hw m3 ⟨M3, U3, c2.tr c3, fun o ho => ?_⟩
      rw [take_s hk] at ho
      rcases List.mem_append.mp ho with ho | ho
      · exact hno o ho
      · rw [List.mem_singleton.mp ho]
        intro q
        rw [(gleB_iff _ _).mpr q] at h
        cases h
    · rw [ldI_ok (len := 240000) rfl (by omega), RC (c2.tr c3) 102 _ (by decide) (by decide), e]
      exact ok_rt ⟨Or.inr ⟨_, List.getElem_mem hk, rfl, (gleB_iff _ _).mp h⟩, M3, U3, c2.tr c3⟩
  · obtain ⟨M2, U2, c2, hno⟩ := hI
    rw [List.take_length] at hno
    rw [ldI_ok (len := 16000) rfl (by omega), RC c2 104 g (by decide) (by decide), g2, if_neg (by omega)]
    exact ok_rt ⟨Or.inl ⟨rfl, hno⟩, M2, U2, c2⟩
end RB2
