/-! A GAME IS SPELLED -/
def CT (f a i : Nat) : Prop := (a = 127 ∧ f ≤ i) ∨ (a = 100 ∧ i = 35)
def Wr (f : Nat) (W : List Nat) (m m' : Mem) : Prop := mGet m' 100 35 = ((f + W.length : Nat) : Int) ∧ Row m' 127 f W ∧ Ch (CT f) m m'
theorem Wr.nil {f : Nat} {m : Mem} (h : mGet m 100 35 = (f : Int)) : Wr f [] m m := ⟨h, fun k hk => (by cases hk), Ch.rf _ _⟩
theorem Wr.app {f : Nat} {W V : List Nat} {m m2 m3 : Mem} (h : Wr f W m m2) (k : Wr (f + W.length) V m2 m3) : Wr f (W ++ V) m m3 := ⟨by rw [k.1, List.length_append, Nat.add_assoc], Row.glue (h.2.1.ext (fun j hj => k.2.2.2 _ _ (by unfold CT; omega))) k.2.1, h.2.2.tr (k.2.2.weak (fun a i z => by unfold CT at z ⊢; omega))⟩
theorem writes_ok {n c f : Nat} {m : Mem} (h : mGet m 100 35 = (f : Int)) (hf : f < 128) (hc2 : c < 2147483648) : Ok (f_X11_writes n (c : Int) m) (fun _ m' => Wr f [c] m m') := by
  unfold f_X11_writes
  rw [gtF_eq, h, stI_ok (len := 128) rfl hf, gtF_eq, mGet_mSet, if_neg (by omega), h, ptF_eq, w32_1 (by omega)]
  have g : ∀ a i, mGet (mSet (mSet m 127 f (c : Int)) 100 35 ((f + 1 : Nat) : Int)) a i = if a = 100 ∧ i = 35 then ((f + 1 : Nat) : Int) else if a = 127 ∧ i = f then (c : Int) else mGet m a i := fun a i => by rw [mGet_mSet, mGet_mSet, w32_nat (by omega), w32_nat (by omega)]
  refine ok_rt ⟨by rw [g, if_pos ⟨rfl, rfl⟩]; rfl, fun k hk => ?_, (Ch.set (Or.inl ⟨rfl, Nat.le_refl _⟩)).tr (Ch.set (Or.inr ⟨rfl, rfl⟩))⟩
  have : k = 0 := by simp at hk; omega
  subst this
  rw [g, if_neg (by omega), if_pos ⟨rfl, rfl⟩]
  rfl
theorem writesNumber_ok {n p f : Nat} {m : Mem} (h : mGet m 100 35 = (f : Int)) (hp : p ≤ 99) (hf : f + (numw p).length ≤ 128) : Ok (f_X11_writesNumber n (p : Int) m) (fun _ m' => Wr f (numw p) m m') := by
  have d1 : p / 10 ≤ 9 := by omega
  have d2 : p % 10 ≤ 9 := by omega
  have e1 : irem (p : Int) 10 = ((p % 10 : Nat) : Int) := irem_nn (b := 10) (by omega) (by decide)
  have e2 : idiv (p : Int) 10 = ((p / 10 : Nat) : Int) := idiv_nn (b := 10) (by omega) (by decide)
  unfold f_X11_writesNumber
  refine ok_jn ?_
  unfold ok0
  unfold numw at hf ⊢
  by_cases q : p > 9
  · rw [if_pos q] at hf ⊢
    simp only [List.length_cons, List.length_nil] at hf
    rw [if_pos (by omega), if_pos (by decide), e2, show (48 : Int) + ((p / 10 : Nat) : Int) = ((48 + p / 10 : Nat) : Int) by omega, w32_nat (by omega)]
    refine ok_cal (writes_ok h (by omega) (by omega)) (fun _ m2 w2 => ?_)
    show Ok (if (10 : Int) ≠ 0 then cal (f_X11_writes n (w32 (48 + irem (p : Int) 10)) m2) (fun _ m25 => rt 0 m25) else none) _
    rw [if_pos (by decide), e1, show (48 : Int) + ((p % 10 : Nat) : Int) = ((48 + p % 10 : Nat) : Int) by omega, w32_nat (by omega)]
    refine ok_cal (writes_ok (f := f + 1) w2.1 (by omega) (by omega)) (fun _ m3 w3 => ?_)
    exact ok_rt (w2.app w3)
  · rw [if_neg q] at hf ⊢
    simp only [List.length_cons, List.length_nil] at hf
    rw [if_neg (by omega)]
    show Ok (if (10 : Int) ≠ 0 then cal (f_X11_writes n (w32 (48 + irem (p : Int) 10)) m) (fun _ m25 => rt 0 m25) else none) _
    rw [if_pos (by decide), e1, show (48 : Int) + ((p % 10 : Nat) : Int) = ((48 + p % 10 : Nat) : Int) by omega, w32_nat (by omega)]
    exact ok_cal (writes_ok h (by omega) (by omega)) (fun _ m3 w3 => ok_rt w3)
theorem joinw_pre (ys : List (List Nat)) : ∀ xs : List (List Nat), (joinw xs).length ≤ (joinw (xs ++ ys)).length
  | [] => Nat.zero_le _
  | [b] => by
    cases ys with
    | nil => exact Nat.le_refl _
    | cons y ys =>
      show b.length ≤ (b ++ 44 :: joinw (y :: ys)).length
      rw [List.length_append]
      omega
  | b :: c :: l => by
    have ih := joinw_pre ys (c :: l)
    show (b ++ 44 :: joinw (c :: l)).length ≤ (b ++ 44 :: joinw ((c :: l) ++ ys)).length
    rw [List.length_append, List.length_append, List.length_cons, List.length_cons]
    omega
section SP
variable {n N P : Nat} {lo ro : Nat → List Nat} {st d : Nat → Nat} {F : List Nat}
/-- the rows of sorted games are sorted, and so are those of their options -/
def GA (m : Mem) (B : Nat) (lo ro : Nat → List Nat) (st d : Nat → Nat) : Prop := ∀ g, g < B → GR m g (st g) (lo g) (ro g) ∧ AT1 m g (d g)
def SrF (m : Mem) (N : Nat) (lo ro : Nat → List Nat) (d : Nat → Nat) : Prop := ∀ g, g < N → mGet m 111 g = 1 → Srt ((lo g).map (fun o => wd (d o))) ∧ Srt ((ro g).map (fun o => wd (d o))) ∧ ∀ o, o ∈ lo g ++ ro g → mGet m 111 o = 1
theorem SrF.ext {m m' : Mem} (h : SrF m N lo ro d) (e : ∀ i, mGet m' 111 i = mGet m 111 i) : SrF m' N lo ro d := fun g hg h1 => by
  rw [e] at h1
  obtain ⟨a, b, c⟩ := h g hg h1
  exact ⟨a, b, fun o ho => (e o).trans (c o ho)⟩
theorem nodup_mapW {f : Nat → List Nat} : ∀ {l : List Nat}, l.Nodup → (∀ x, x ∈ l → ∀ y, y ∈ l → f x = f y → x = y) → (l.map f).Nodup
  | [], _, _ => List.nodup_nil
  | a :: l, nd, h => by
    rw [List.nodup_cons] at nd
    rw [List.map_cons, List.nodup_cons]
    refine ⟨fun q => ?_, nodup_mapW nd.2 (fun x hx y hy => h x (List.mem_cons_of_mem _ hx) y (List.mem_cons_of_mem _ hy))⟩
    obtain ⟨b, hb, e⟩ := List.mem_map.mp q
    have := h b (List.mem_cons_of_mem _ hb) a (List.mem_cons_self ..) e
    rw [this] at hb
    exact nd.1 hb
theorem sort_row {g w : Nat} {L : List Nat} (cg : can g) (hw : w < 2) (h9 : bd g ≤ 9) (hL : ∀ x, op g w x = true ↔ ∃ o, o ∈ L ∧ d o = x) (h : Srt (L.map (fun o => wd (d o)))) : sortw ((opts g w).map wd) = L.map (fun o => wd (d o)) := by
  have b : ∀ x, x ∈ opts g w → can x ∧ bd x ≤ 9 := fun x hx => by
    have ho := mem_opts.mp hx
    have := bd_op hw ho
    exact ⟨cg.op ho hw, by omega⟩
  refine srt_uniq (sortw_srt (nodup_mapW (nodup_opts _ _) (fun x hx y hy e => wd_inj (b x hx).1 (b y hy).1 (b x hx).2 (b y hy).2 e))) h (fun a => ?_)
  rw [mem_sortw, List.mem_map, List.mem_map]
  constructor
  · rintro ⟨x, hx, rfl⟩
    obtain ⟨o, ho, rfl⟩ := (hL x).mp (mem_opts.mp hx)
    exact ⟨o, ho, rfl⟩
  · rintro ⟨o, ho, rfl⟩
    exact ⟨d o, mem_opts.mpr ((hL _).mpr ⟨o, ho, rfl⟩), rfl⟩
theorem GA.ext {m m' : Mem} {B : Nat} (R0 : ∀ g, g < B → st g + (lo g ++ ro g).length ≤ P) (R : GA m B lo ro st d) (e : ∀ a i, (a = 102 ∧ i < P) ∨ (103 ≤ a ∧ a ≤ 110) → mGet m' a i = mGet m a i) : GA m' B lo ro st d := fun g hg => by
  obtain ⟨a, c1, c2, c3, c4, c5⟩ := R g hg
  have := R0 g hg
  exact ⟨a.ext (fun a i z => e a i (by omega)), (e _ _ (by omega)).trans c1, (e _ _ (by omega)).trans c2, (e _ _ (by omega)).trans c3, (e _ _ (by omega)).trans c4, by rw [e _ _ (by omega)]; exact c5⟩
theorem RT.ga {m : Mem} (R : RT m N P lo ro st d F) {B : Nat} (hB : B ≤ N) : GA m B lo ro st d := fun g hg => ⟨(R.2.1 g (by omega)).1, (R.2.1 g (by omega)).2.2⟩
theorem GA.ct {m0 m m' : Mem} {B f : Nat} (R : GA m B lo ro st d) (R0 : RT m0 N P lo ro st d F) (hB : B ≤ N) (c : Ch (CT f) m m') : GA m' B lo ro st d := R.ext (P := P) (fun g hg => (R0.2.1 g (by omega)).2.1) (fun a i z => c.2 a i (by unfold CT; omega))
theorem spell_all {m0 : Mem} {B : Nat} (hn : 3000 < n) (h9 : ∀ x, x ∈ F → bd x ≤ 9) (R0 : RT m0 N P lo ro st d F) (hB : B ≤ N) : ∀ D : Nat, (∀ (g f : Nat) (m : Mem), GA m B lo ro st d → SrF m B lo ro d → g < B → mGet m 111 g = 1 → 2 * bd (d g) + 1 ≤ D → mGet m 100 35 = (f : Int) → f + (wd (d g)).length ≤ 128 → Ok (h_X11_writesGame n D (g : Int) m) (fun _ m' => Wr f (wd (d g)) m m')) ∧ (∀ (L : List Nat) (s0 f : Nat) (m : Mem), 1 ≤ D → GA m B lo ro st d → SrF m B lo ro d → (∀ o, o ∈ L → o < B ∧ mGet m 111 o = 1 ∧ 2 * bd (d o) + 2 ≤ D) → Row m 102 s0 L → s0 + L.length ≤ 240000 → L.length ≤ 3000 → mGet m 100 35 = (f : Int) → f + (joinw (L.map (fun o => wd (d o)))).length ≤ 128 → Ok (h_X11_writesOptions n D (s0 : Int) ((s0 + L.length : Nat) : Int) m) (fun _ m' => Wr f (joinw (L.map (fun o => wd (d o)))) m m'))
  | 0 => ⟨fun _ _ _ _ _ _ _ h => by omega, fun L s0 f m h => by omega⟩
  | D + 1 => by
    obtain ⟨PG, PO⟩ := spell_all hn h9 R0 hB D
    refine ⟨fun g f m R S hg h1 hD h35 hf => ?_, fun L s0 f m _ R S hL hrow hs0 hl h35 hf => ?_⟩
    · have N2 := R0.nn
      have P8 := R0.pp
      have hgN : g < N := by omega
      have len := R0.len hgN
      obtain ⟨⟨g1, g2, g3, g4⟩, at6, at7, at8, at9, _⟩ := R g hg
      have gP := (R0.2.1 g hgN).2.1
      have lng := app_len (lo g) (ro g)
      have bg : bd (d g) ≤ 9 := h9 _ (R0.2.2.1 g hgN).2.2.2.2.2
      obtain ⟨s1, s2, s3⟩ := S g hg h1
      rw [h_X11_writesGame_s]
      unfold b_X11_writesGame
      rw [ldI_ok (len := 16000) rfl (by omega), at7]
      refine ok_jn ?_
      by_cases b1 : Bare (d g) 1
      · rw [wd_nn b1] at hf ⊢
        rw [wv_R b1] at at7 ⊢
        rw [if_neg (by omega), ldI_ok (len := 16000) rfl (by omega), at7]
        refine ok_jn ?_
        rw [if_neg (by omega)]
        show Ok (ldI m 107 (g : Int) _) _
        rw [ldI_ok (len := 16000) rfl (by omega), at7]
        refine ok_jn ?_
        rw [if_neg (by omega), ldI_ok (len := 16000) rfl (by omega), at7]
        exact ok_cal (writesNumber_ok h35 (by omega) hf) (fun _ m2 w => ok_rt w)
      · by_cases b0 : Bare (d g) 0
        · have bp := bd_posR b1
          rw [wd_neg b0 b1] at hf ⊢
          rw [wv_L b0 b1] at at7 ⊢
          rw [List.length_cons] at hf
          rw [if_neg (by omega), ldI_ok (len := 16000) rfl (by omega), at7]
          refine ok_jn ?_
          rw [if_pos (by omega)]
          refine ok_cal (writes_ok (c := 45) h35 (by omega) (by decide)) (fun _ m2 w => ?_)
          have at7' : mGet m2 107 g = -(bd (d g) : Int) := (w.2.2.2 _ _ (by unfold CT; omega)).trans at7
          show Ok (ldI m2 107 (g : Int) _) _
          rw [ldI_ok (len := 16000) rfl (by omega), at7']
          refine ok_jn ?_
          rw [if_pos (by omega), ldI_ok (len := 16000) rfl (by omega), at7', show -(-(bd (d g) : Int)) = (bd (d g) : Int) by omega, w32_nat (by omega)]
          exact ok_cal (writesNumber_ok (f := f + 1) w.1 (by omega) (by omega)) (fun _ m3 w3 => ok_rt (w.app w3))
        · rw [wv_N b0 b1]
          rw [if_pos rfl, ldI_ok (len := 16000) rfl (by omega), at8]
          by_cases hh : d g = hc (bd (d g))
          · have bp := bd_posR b1
            have hv : hpv (d g) = (bd (d g) : Int) := by unfold hpv; rw [if_pos hh]
            rw [wd_hp b0 b1 hh] at hf ⊢
            rw [List.length_cons] at hf
            rw [hv, if_pos (by omega)]
            refine ok_cal (writes_ok (c := 42) h35 (by omega) (by decide)) (fun _ m2 w => ?_)
            have at8' : mGet m2 108 g = (bd (d g) : Int) := ((w.2.2.2 _ _ (by unfold CT; omega)).trans at8).trans hv
            rw [ldI_ok (len := 16000) rfl (by omega), at8']
            by_cases q : bd (d g) > 1
            · rw [if_pos q] at hf ⊢
              rw [if_pos (by omega), ldI_ok (len := 16000) rfl (by omega), at8']
              exact ok_cal (writesNumber_ok (f := f + 1) w.1 (by omega) (by omega)) (fun _ m3 w3 => ok_rt (w.app w3))
            · rw [if_neg q]
              rw [if_neg (by omega)]
              exact ok_rt w
          · have hv : hpv (d g) = -1 := by unfold hpv; rw [if_neg hh]
            have eL := sort_row (R0.can hgN) (by decide : 0 < 2) bg (fun x => R0.opL hgN) s1
            have eR := sort_row (R0.can hgN) (by decide : 1 < 2) bg (fun x => R0.opR hgN) s2
            rw [wd_br b0 b1 hh, eL, eR] at hf ⊢
            simp only [List.length_cons, List.length_append, List.length_nil] at hf
            rw [hv, if_neg (by decide)]
            have bo : ∀ o, o ∈ lo g ++ ro g → o < B ∧ mGet m 111 o = 1 ∧ 2 * bd (d o) + 2 ≤ D := fun o ho => by
              obtain ⟨w, hw, q⟩ := R0.opx hgN ho
              have := bd_op hw q
              exact ⟨Nat.lt_trans (R0.lt hgN ho) hg, s3 o ho, by omega⟩
            refine ok_cal (writes_ok (c := 123) h35 (by omega) (by decide)) (fun _ m2 w2 => ?_)
            have u2 : ∀ a i, ¬ CT f a i → mGet m2 a i = mGet m a i := w2.2.2.2
            rw [ldI_ok (len := 16000) rfl (by omega), ldI_ok (len := 16000) rfl (by omega), u2 _ _ (by unfold CT; omega), u2 _ _ (by unfold CT; omega), g1, g2]
            refine ok_cal (PO (lo g) (st g) (f + 1) m2 (by have := bd_posR b1; omega) (R.ct R0 hB w2.2.2) (S.ext (fun i => u2 _ _ (by unfold CT; omega))) (fun o ho => by rw [u2 _ _ (by unfold CT; omega)]; exact bo o (List.mem_append_left _ ho)) (g4.left.ext (fun k hk => u2 _ _ (by unfold CT; omega))) (by omega) (by omega) w2.1 (by omega)) (fun _ m3 w3 => ?_)
            have w23 := w2.app w3
            refine ok_cal (writes_ok (c := 124) (f := f + 1 + (joinw ((lo g).map (fun o => wd (d o)))).length) w3.1 (by omega) (by decide)) (fun _ m4 w4 => ?_)
            have w24 := w23.app (V := [124]) (by rw [List.length_append, ← Nat.add_assoc]; exact w4)
            have u4 : ∀ a i, ¬ CT f a i → mGet m4 a i = mGet m a i := w24.2.2.2
            rw [ldI_ok (len := 16000) rfl (by omega), ldI_ok (len := 16000) rfl (by omega), u4 _ _ (by unfold CT; omega), u4 _ _ (by unfold CT; omega), g2, g3, lng, ← Nat.add_assoc]
            refine ok_cal (PO (ro g) (st g + (lo g).length) (f + 1 + (joinw ((lo g).map (fun o => wd (d o)))).length + 1) m4 (by have := bd_posR b1; omega) (R.ct R0 hB w24.2.2) (S.ext (fun i => u4 _ _ (by unfold CT; omega))) (fun o ho => by rw [u4 _ _ (by unfold CT; omega)]; exact bo o (List.mem_append_right _ ho)) (g4.right.ext (fun k hk => u4 _ _ (by unfold CT; omega))) (by omega) (by omega) w4.1 (by omega)) (fun _ m5 w5 => ?_)
            have w45 := w4.app w5
            refine ok_cal (writes_ok (c := 125) w5.1 (by omega) (by decide)) (fun _ m6 w6 => ?_)
            have w46 := w4.app (w5.app w6)
            have := w2.app (w3.app w46)
            exact ok_rt this
    · rw [h_X11_writesOptions_s]
      unfold b_X11_writesOptions
      refine ok_row1 (s := s0) (k := 0) L.length (fun k m2 => Wr f (joinw ((L.take k).map (fun o => wd (d o)))) m m2) (fun w k m2 hk hI hw => ?_) (fun w m2 hI => ?_) n m (Nat.zero_le _) (Wr.nil h35) (by omega)
      · have oM := List.getElem_mem hk
        obtain ⟨o1, o2, o3⟩ := hL _ oM
        have u2 : ∀ a i, ¬ CT f a i → mGet m2 a i = mGet m a i := hI.2.2.2
        rw [if_pos (by omega)]
        refine ok_jn ?_
        have tk : (L.take (k + 1)).map (fun o => wd (d o)) = (L.take k).map (fun o => wd (d o)) ++ [wd (d L[k])] := by rw [take_s hk, List.map_append]; rfl
        have pre := joinw_pre ((L.drop (k + 1)).map (fun o => wd (d o))) ((L.take (k + 1)).map (fun o => wd (d o)))
        rw [← List.map_append, List.take_append_drop] at pre
        have js := joinw_snoc ((L.take k).map (fun o => wd (d o))) (wd (d L[k]))
        rw [← tk] at js
        have er : mGet m2 102 (s0 + k) = (L[k] : Int) := (u2 _ _ (by unfold CT; omega)).trans (hrow k hk)
        by_cases q : k = 0
        · subst q
          rw [if_neg (by omega)]
          show Ok (ldI m2 102 _ _) _
          rw [ldI_ok (len := 240000) rfl (by omega), er]
          have z : (L.take 0).map (fun o => wd (d o)) = [] := rfl
          rw [z, if_pos rfl] at js
          rw [js] at pre
          refine ok_cal (PG L[0] f m2 (R.ct R0 hB hI.2.2) (S.ext (fun i => u2 _ _ (by unfold CT; omega))) o1 ((u2 _ _ (by unfold CT; omega)).trans o2) (by omega) hI.1 (by omega)) (fun _ m3 w3 => ?_)
          rw [w32_s (by omega)]
          refine hw m3 ?_
          rw [js]
          exact hI.app w3
        · have ne : (L.take k).map (fun o => wd (d o)) ≠ [] := fun e => by
            have h0 : ((L.take k).map (fun o => wd (d o))).length = 0 := by rw [e]; rfl
            rw [List.length_map, List.length_take] at h0
            omega
          rw [if_neg ne] at js
          rw [js, List.length_append, List.length_cons] at pre
          rw [if_pos (by omega)]
          refine ok_cal (writes_ok (c := 44) hI.1 (by omega) (by decide)) (fun _ m3 w3 => ?_)
          have w23 := hI.app w3
          have u3 : ∀ a i, ¬ CT f a i → mGet m3 a i = mGet m a i := w23.2.2.2
          show Ok (ldI m3 102 _ _) _
          rw [ldI_ok (len := 240000) rfl (by omega), u3 _ _ (by unfold CT; omega), hrow k hk]
          refine ok_cal (PG L[k] _ m3 (R.ct R0 hB w23.2.2) (S.ext (fun i => u3 _ _ (by unfold CT; omega))) o1 ((u3 _ _ (by unfold CT; omega)).trans o2) (by omega) w3.1 (by simp only [List.length_cons, List.length_nil]; omega)) (fun _ m4 w4 => ?_)
          rw [w32_s (by omega)]
          refine hw m4 ?_
          rw [js]
          exact hI.app (w3.app w4)
      · rw [if_neg (by omega)]
        rw [List.take_length] at hI
        exact ok_rt hI
theorem spells_ok {m0 : Mem} {B g : Nat} {m : Mem} (hn : 3000 < n) (h9 : ∀ x, x ∈ F → bd x ≤ 9) (R0 : RT m0 N P lo ro st d F) (hB : B ≤ N) (R : GA m B lo ro st d) (S : SrF m B lo ro d) (hg : g < B) (h1 : mGet m 111 g = 1) (hf : (wd (d g)).length ≤ 128) : Ok (f_X11_spells n (g : Int) m) (fun _ m' => Wr 0 (wd (d g)) m m') := by
  have bg : bd (d g) ≤ 9 := h9 _ (R0.2.2.1 g (by omega)).2.2.2.2.2
  unfold f_X11_spells
  rw [ptF_eq]
  obtain ⟨m1, e1⟩ : ∃ m1, m1 = mSet m 100 35 0 := ⟨_, rfl⟩
  rw [← e1]
  have g1 : ∀ a i, mGet m1 a i = if a = 100 ∧ i = 35 then 0 else mGet m a i := fun a i => by rw [e1, mGet_mSet, w32_0']
  have c1 : Ch (CT 0) m m1 := by rw [e1]; exact Ch.set (Or.inr ⟨rfl, rfl⟩)
  refine ok_cal ((spell_all hn h9 R0 hB 60).1 g 0 m1 (R.ct R0 hB c1) (S.ext (fun i => by rw [g1, if_neg (by omega)])) hg (by rw [g1, if_neg (by omega)]; exact h1) (by omega) (by rw [g1, if_pos ⟨rfl, rfl⟩]; rfl) (by omega)) (fun _ m2 w => ?_)
  exact ok_rt ⟨w.1, w.2.1, c1.tr w.2.2⟩
end SP
