/-! THE TAPE: all steps; a game read -/
set_option maxHeartbeats 1000000 in
theorem bd_neg {n K : Nat} (hn : 300 < n) (cK : can K) (fK : fits K) (fN : fits (gneg K)) : ∀ (st gs : List Nat) (m : Mem) (fuel i : Nat) (Q : Int → Mem → Prop), st.getD i 0 = 3 → i + 1 ≤ st.length → gs.length ≤ i → BS m (gs ++ [K]) st → mNext m + 100 < 2147483648 → (∀ m', BS m' (gs ++ [gneg K]) st → Fr m m' SB → mNext m' ≤ mNext m + 4 → Ok (lp (F := Int → Int → Mem → Option Rz) (fun _ _ _ => none) (bodyB n) fuel ((gs.length + 1 : Nat) : Int) ((i + 1 : Nat) : Int) m') Q) → Ok (lp (F := Int → Int → Mem → Option Rz) (fun _ _ _ => none) (bodyB n) (fuel + 1) ((gs.length + 1 : Nat) : Int) (i : Int) m) Q := by
  intro st gs m fuel i Q hst hi hg B hb hK
  obtain ⟨b1, b2, b3, b4, b5⟩ := id B
  have ei : st.getD i 0 = 3 + 16 * 0 + 4096 * 0 := hst
  obtain ⟨d1, d2, d3⟩ := dec3 (a := 3) (b := 0) (e := 0) (by decide) (by decide) (by decide)
  have tk : f_X7_taken n ((3 : Nat) : Int) ((0 : Nat) : Int) ((0 : Nat) : Int) m = some (1, m) := by rw [taken_eq (by decide) (by decide)]; rfl
  have lg : (gs ++ [K]).length = gs.length + 1 := by rw [List.length_append]; rfl
  show Ok (bodyB n (lp (F := Int → Int → Mem → Option Rz) (fun _ _ _ => none) (bodyB n) fuel) ((gs.length + 1 : Nat) : Int) (i : Int) m) Q
  generalize lp (F := Int → Int → Mem → Option Rz) (fun _ _ _ => none) (bodyB n) fuel = w at hK ⊢
  unfold bodyB
  dsimp only [jn, nm, gtF]
  rw [b1, if_pos (by omega), if_pos (by omega), ldI_ok (kI43 _) (by omega), b3 i (by omega), ei, d1, ldI_ok (kI43 _) (by omega), b3 i (by omega), ei, d2, ldI_ok (kI43 _) (by omega), b3 i (by omega), ei, d3]
  refine ok_calE tk ?_
  rw [w32_id (x := ((gs.length + 1 : Nat) : Int) - 1) (by omega) (by omega), show ((gs.length + 1 : Nat) : Int) - 1 = (gs.length : Int) by omega, if_neg (by omega), if_pos (by omega), if_neg (by omega)]
  rw [if_pos (show (0 : Int) < ((gs.length + 1 : Nat) : Int) by omega), ldG_ok (kG44 _) (by rw [lg] at b4; omega)]
  obtain ⟨o, o1, O, _, _⟩ := b5 gs.length (by rw [lg]; omega)
  have eg : (gs ++ [K]).getD gs.length 0 = K := by rw [getD_ge (Nat.le_refl _), Nat.sub_self]; rfl
  rw [o1, Int.toNat_natCast]
  rw [eg] at O
  show Ok (if ((3 : Nat) : Int) = 0 then _ else (if ((3 : Nat) : Int) = 1 then _ else (if ((3 : Nat) : Int) = 2 then _ else (if ((3 : Nat) : Int) = 3 then _ else _)))) Q
  rw [if_neg (by decide), if_neg (by decide), if_neg (by decide), if_pos (by decide)]
  refine ok_cal (negativeOf_ok hn O cK fK (by omega)) (fun v m1 h1 => ?_)
  obtain ⟨R, f1, n1⟩ := h1
  exact put_ok (n := n) (rest := [K]) B f1 n1 R (can_gneg _ cK) fN rfl (by omega) (by omega) (fun m' B' f' n' => hK m' B' f' n')
set_option maxHeartbeats 1000000 in
theorem bd_br {n g : Nat} {L R : List Nat} (hn : 300 < n) (cg : can g) (fg : fits g) (eL : ∀ x, op g 0 x = true ↔ x ∈ L) (eR : ∀ x, op g 1 x = true ↔ x ∈ R) (lL : L.length ≤ 15) (lR : R.length ≤ 15) (L0 : 0 < L.length) : ∀ (st gs : List Nat) (m : Mem) (fuel i : Nat) (Q : Int → Mem → Prop), st.getD i 0 = 5 + 16 * L.length + 4096 * R.length → i + 1 ≤ st.length → gs.length ≤ i → BS m (gs ++ (L ++ R)) st → mNext m + 100 < 2147483648 → (∀ m', BS m' (gs ++ [g]) st → Fr m m' SB → mNext m' ≤ mNext m + 4 → Ok (lp (F := Int → Int → Mem → Option Rz) (fun _ _ _ => none) (bodyB n) fuel ((gs.length + 1 : Nat) : Int) ((i + 1 : Nat) : Int) m') Q) → Ok (lp (F := Int → Int → Mem → Option Rz) (fun _ _ _ => none) (bodyB n) (fuel + 1) ((gs.length + (L.length + R.length) : Nat) : Int) (i : Int) m) Q := by
  intro st gs m fuel i Q ei hi hg B hb hK
  obtain ⟨b1, b2, b3, b4, b5⟩ := id B
  obtain ⟨d1, d2, d3⟩ := dec3 (a := 5) (b := L.length) (e := R.length) (by decide) (by omega) (by omega)
  have tk : f_X7_taken n ((5 : Nat) : Int) (L.length : Int) (R.length : Int) m = some (((L.length + R.length : Nat) : Int), m) := by rw [taken_eq (by omega) (by omega)]; rfl
  have lg : (gs ++ (L ++ R)).length = gs.length + (L.length + R.length) := by rw [List.length_append, List.length_append]
  rw [lg] at b4 b5
  show Ok (bodyB n (lp (F := Int → Int → Mem → Option Rz) (fun _ _ _ => none) (bodyB n) fuel) ((gs.length + (L.length + R.length) : Nat) : Int) (i : Int) m) Q
  generalize lp (F := Int → Int → Mem → Option Rz) (fun _ _ _ => none) (bodyB n) fuel = w at hK ⊢
  unfold bodyB
  dsimp only [jn, nm, gtF]
  rw [b1, if_pos (by omega), if_pos (by omega), ldI_ok (kI43 _) (by omega), b3 i (by omega), ei, d1, ldI_ok (kI43 _) (by omega), b3 i (by omega), ei, d2, ldI_ok (kI43 _) (by omega), b3 i (by omega), ei, d3]
  refine ok_calE tk ?_
  rw [w32_id (x := ((gs.length + (L.length + R.length) : Nat) : Int) - ((L.length + R.length : Nat) : Int)) (by omega) (by omega), show ((gs.length + (L.length + R.length) : Nat) : Int) - ((L.length + R.length : Nat) : Int) = (gs.length : Int) by omega, if_neg (by omega), if_pos (by omega), if_neg (by omega)]
  have go : Ok (cal (f_X2_gameOf n 44 (gs.length : Int) (w32 ((gs.length : Int) + (L.length : Int))) ((gs.length + (L.length + R.length) : Nat) : Int) m) fun x164 m164 => stG m164 44 (gs.length : Int) x164.toNat fun m278 => ldG m278 44 (gs.length : Int) fun x284 => if x284 = 0 then rt (0 : Nat) m278 else w (w32 ((gs.length : Int) + 1)) (w32 ((i : Int) + 1)) m278) Q := by
    rw [w32_id (x := (gs.length : Int) + (L.length : Int)) (by omega) (by omega), show (gs.length : Int) + (L.length : Int) = ((gs.length + L.length : Nat) : Int) by omega]
    obtain ⟨kk, ekk⟩ : ∃ kk : Nat → Nat, kk = fun j => (gs ++ (L ++ R)).getD j 0 := ⟨_, rfl⟩
    have row : GRow m 44 gs.length (gs.length + (L.length + R.length)) kk := fun j _ hj => by
      rw [ekk]; exact b5 j hj
    have getm : ∀ (l : List Nat) (j : Nat), j < l.length → l.getD j 0 ∈ l := fun l j hj => by
      rw [List.getD_eq_getElem?_getD, List.getElem?_eq_getElem hj]
      exact List.getElem_mem hj
    have kL : ∀ j, j < L.length → kk (gs.length + j) = L.getD j 0 := fun j hj => by
      rw [ekk]
      show (gs ++ (L ++ R)).getD (gs.length + j) 0 = _
      rw [getD_ge (by omega), Nat.add_sub_cancel_left, getD_lt hj]
    have kR : ∀ j, j < R.length → kk (gs.length + L.length + j) = R.getD j 0 := fun j hj => by
      rw [ekk]
      show (gs ++ (L ++ R)).getD (gs.length + L.length + j) 0 = _
      rw [getD_ge (by omega), show gs.length + L.length + j - gs.length = L.length + j by omega, getD_ge (by omega), Nat.add_sub_cancel_left]
    have idx : ∀ (l : List Nat) x, x ∈ l → ∃ j, j < l.length ∧ l.getD j 0 = x := fun l x hx => by
      obtain ⟨j, hj, e⟩ := List.getElem_of_mem hx
      exact ⟨j, hj, by rw [List.getD_eq_getElem?_getD, List.getElem?_eq_getElem hj]; exact e⟩
    have mL : ∀ x, RG kk gs.length (gs.length + L.length) x ↔ x ∈ L := fun x => by
      constructor
      · rintro ⟨j, h1, h2, rfl⟩
        have := kL (j - gs.length) (by omega)
        rw [show gs.length + (j - gs.length) = j by omega] at this
        rw [this]
        exact getm L _ (by omega)
      · intro hx
        obtain ⟨j, j1, j2⟩ := idx L x hx
        exact ⟨gs.length + j, by omega, by omega, by rw [kL j j1, j2]⟩
    have mR : ∀ x, RG kk (gs.length + L.length) (gs.length + (L.length + R.length)) x ↔ x ∈ R := fun x => by
      constructor
      · rintro ⟨j, h1, h2, rfl⟩
        have := kR (j - (gs.length + L.length)) (by omega)
        rw [show gs.length + L.length + (j - (gs.length + L.length)) = j by omega] at this
        rw [this]
        exact getm R _ (by omega)
      · intro hx
        obtain ⟨j, j1, j2⟩ := idx R x hx
        exact ⟨gs.length + L.length + j, by omega, by omega, by rw [kR j j1, j2]⟩
    have fit : Fits (RG kk gs.length (gs.length + L.length)) (RG kk (gs.length + L.length) (gs.length + (L.length + R.length))) g := ⟨fun x hx => ⟨x, (mL x).mpr ((eL x).mp hx), geq_rfl _⟩, fun y hy => ⟨y, (eL y).mpr ((mL y).mp hy), geq_rfl _⟩, fun x hx => ⟨x, (mR x).mpr ((eR x).mp hx), geq_rfl _⟩, fun y hy => ⟨y, (eR y).mpr ((mR y).mp hy), geq_rfl _⟩⟩
    have inF : ∀ j, gs.length ≤ j → j < gs.length + (L.length + R.length) → ∀ x, fol (kk j) x → x ∈ fls g := fun j h1 h2 x hx => by
      by_cases q : j < gs.length + L.length
      · exact mem_fls.mpr (fol_op (w := 0) (by decide) ((eL _).mpr ((mL _).mp ⟨j, h1, q, rfl⟩)) hx)
      · exact mem_fls.mpr (fol_op (w := 1) (by decide) ((eR _).mpr ((mR _).mp ⟨j, by omega, h2, rfl⟩)) hx)
    have wg := fg.1
    refine ok_cal (gameOf_ok (a := 44) (len := 120) (F := fls g) hn (kG44 _) (by decide) (by decide) (by decide) (by omega) (by omega) (by omega) (by omega) row (mem_fls.mpr (fol_zero g)) inF (by rw [fls_len]; omega) fit (by omega)) (fun v m1 h1 => ?_)
    obtain ⟨⟨K, cK, eK, Rs⟩, f1, n1⟩ := h1
    have e : K = g := can_uniq cK cg eK
    rw [e] at Rs
    exact put_ok (n := n) (rest := L ++ R) B f1 n1 Rs cg fg rfl (by omega) (by omega) (fun m' B' f' n' => hK m' B' f' n')
  rw [← lg]
  refine top_arg B (fun h => by rw [lg] at h; omega) (fun o _ _ _ _ _ _ => ?_)
  show Ok (if ((5 : Nat) : Int) = 0 then _ else (if ((5 : Nat) : Int) = 1 then _ else (if ((5 : Nat) : Int) = 2 then _ else (if ((5 : Nat) : Int) = 3 then _ else (if ((5 : Nat) : Int) = 4 then _ else _))))) Q
  rw [if_neg (by decide), if_neg (by decide), if_neg (by decide), if_neg (by decide), if_neg (by decide), lg]
  exact go
