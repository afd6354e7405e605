/-! THE TAPE: a game built out of its steps -/
theorem top_arg {gs st : List Nat} {F : Nat → Option Rz} {m : Mem} {Q : Int → Mem → Prop} (B : BS m gs st) (h0 : gs.length = 0 → Ok (F 0) Q) (h1 : ∀ o g, 0 < gs.length → g = gs.getD (gs.length - 1) 0 → GOb m o g → can g → fits g → Ok (F o) Q) : Ok (if 0 < (gs.length : Int) then ldG m 44 (w32 ((gs.length : Int) - 1)) F else F 0) Q := by
  obtain ⟨_, _, _, b4, b5⟩ := B
  by_cases q : gs.length = 0
  · rw [if_neg (by omega)]; exact h0 q
  · rw [if_pos (by omega), w32_id (x := (gs.length : Int) - 1) (by omega) (by omega), show (gs.length : Int) - 1 = ((gs.length - 1 : Nat) : Int) by omega, ldG_ok (kG44 _) (by omega)]
    obtain ⟨o, o1, o2, o3, o4⟩ := b5 (gs.length - 1) (by omega)
    rw [o1, Int.toNat_natCast]
    exact h1 o _ (by omega) rfl o2 o3 o4
theorem fits_iz {k : Nat} (h : k ≤ 9) : fits (iz (k : Int)) := ⟨by rw [wid_iz]; omega, by rw [iz_nn, wd_pc h]; show 1 ≤ 100; decide⟩
theorem taken_eq {n : Nat} {a b e : Nat} {m : Mem} (hb : b < 16) (he : e < 16) : f_X7_taken n (a : Int) (b : Int) (e : Int) m = some (if a = 3 then 1 else if a = 4 then 2 else if a = 5 then ((b + e : Nat) : Int) else 0, m) := by
  unfold f_X7_taken
  by_cases h3 : a = 3
  · rw [if_pos (by omega), if_pos h3]; rfl
  · rw [if_neg (by omega), if_neg h3]
    by_cases h4 : a = 4
    · rw [if_pos (by omega), if_pos h4]; rfl
    · rw [if_neg (by omega), if_neg h4]
      by_cases h5 : a = 5
      · rw [if_pos (by omega), if_pos h5, w32_id (x := (b : Int) + (e : Int)) (by omega) (by omega), show (b : Int) + (e : Int) = ((b + e : Nat) : Int) by omega]; rfl
      · rw [if_neg (by omega), if_neg h5]; rfl
theorem dec3 {a b e : Nat} (ha : a < 6) (hb : b < 16) (he : e < 16) : iand ((a + 16 * b + 4096 * e : Nat) : Int) 15 = (a : Int) ∧ iand (ishr ((a + 16 * b + 4096 * e : Nat) : Int) 4) 255 = (b : Int) ∧ iand (ishr ((a + 16 * b + 4096 * e : Nat) : Int) 12) 255 = (e : Int) := dec_all ⟨a, ha⟩ ⟨b, hb⟩ ⟨e, he⟩
/-- what holds of a piece of the steps, when it has been done -/
def Bd (n : Nat) (pr : List Nat) (add : List Nat) : Prop := ∀ (st gs : List Nat) (m : Mem) (fuel i : Nat) (Q : Int → Mem → Prop), At (fun j => st.getD j 0) i pr → i + pr.length ≤ st.length → gs.length ≤ i → BS m gs st → mNext m + 4 * pr.length + 100 < 2147483648 → (∀ m', BS m' (gs ++ add) st → Fr m m' SB → mNext m' ≤ mNext m + 4 * pr.length → Ok (lp (F := Int → Int → Mem → Option Rz) (fun _ _ _ => none) (bodyB n) fuel ((gs.length + add.length : Nat) : Int) ((i + pr.length : Nat) : Int) m') Q) → Ok (lp (F := Int → Int → Mem → Option Rz) (fun _ _ _ => none) (bodyB n) (fuel + pr.length) (gs.length : Int) (i : Int) m) Q
theorem Bd.app {n : Nat} {p q u v : List Nat} (h1 : Bd n p u) (h2 : Bd n q v) (hu : u.length ≤ p.length) : Bd n (p ++ q) (u ++ v) := by
  intro st gs m fuel i Q A hi hg B hb hK
  rw [List.length_append] at hi hb hK ⊢
  rw [show fuel + (p.length + q.length) = (fuel + q.length) + p.length by omega]
  refine h1 st gs m (fuel + q.length) i Q A.l (by omega) hg B (by omega) (fun m1 B1 f1 n1 => ?_)
  rw [← List.length_append]
  refine h2 st (gs ++ u) m1 fuel (i + p.length) Q A.r (by omega) (by rw [List.length_append]; omega) B1 (by omega) (fun m2 B2 f2 n2 => ?_)
  have := hK m2 (by rw [← List.append_assoc]; exact B2) (f1.tr f2) (by omega)
  rw [show (gs ++ u).length + v.length = gs.length + (u ++ v).length by rw [List.length_append, List.length_append]; omega, show i + p.length + q.length = i + (p.length + q.length) by omega]
  exact this
theorem Bd.nil (n : Nat) : Bd n [] [] := by
  intro st gs m fuel i Q A hi hg B hb hK
  have := hK m (by rw [List.append_nil]; exact B) (Fr.rf _ _) (Nat.le_refl _)
  exact this
theorem Bd.list {n : Nat} : ∀ {l : List Nat}, (∀ x, x ∈ l → Bd n (prog x) [x] ∧ 1 ≤ (prog x).length) → Bd n ((l.map prog).flatten) l
  | [], _ => Bd.nil n
  | a :: l, h => by
    have h1 := h a (List.mem_cons_self ..)
    exact Bd.app (u := [a]) h1.1 (Bd.list (fun x hx => h x (List.mem_cons_of_mem _ hx))) h1.2
set_option maxHeartbeats 1000000 in
theorem bd_int {n k : Nat} (hn : 300 < n) (hk : k ≤ 9) : Bd n [16 * k] [iz (k : Int)] := by
  intro st gs m fuel i Q A hi hg B hb hK
  obtain ⟨b1, b2, b3, b4, b5⟩ := id B
  rw [List.length_singleton] at hi hb hK ⊢
  have ei : st.getD i 0 = 0 + 16 * k + 4096 * 0 := by rw [show st.getD i 0 = 16 * k from A.hd]; omega
  obtain ⟨d1, d2, d3⟩ := dec3 (a := 0) (b := k) (e := 0) (by decide) (by omega) (by decide)
  have tk : f_X7_taken n ((0 : Nat) : Int) (k : Int) ((0 : Nat) : Int) m = some (0, m) := by rw [taken_eq (by omega) (by decide)]; rfl
  show Ok (bodyB n (lp (F := Int → Int → Mem → Option Rz) (fun _ _ _ => none) (bodyB n) fuel) (gs.length : Int) (i : Int) m) Q
  generalize lp (F := Int → Int → Mem → Option Rz) (fun _ _ _ => none) (bodyB n) fuel = w at hK ⊢
  unfold bodyB
  dsimp only [jn, nm, gtF]
  rw [b1, if_pos (by omega), if_pos (by omega), ldI_ok (kI43 _) (by omega), b3 i (by omega), ei, d1, ldI_ok (kI43 _) (by omega), b3 i (by omega), ei, d2, ldI_ok (kI43 _) (by omega), b3 i (by omega), ei, d3]
  refine ok_calE tk ?_
  rw [w32_id (x := (gs.length : Int) - 0) (by omega) (by omega), Int.sub_zero, if_neg (by omega), if_pos (by omega), if_neg (by omega)]
  have go : Ok (cal (f_X2_integerOf n (k : Int) m) fun x164 m164 => stG m164 44 (gs.length : Int) x164.toNat fun m278 => ldG m278 44 (gs.length : Int) fun x284 => if x284 = 0 then rt (0 : Nat) m278 else w (w32 ((gs.length : Int) + 1)) (w32 ((i : Int) + 1)) m278) Q := by
    refine ok_cal (integerOf_ok hn (p := (k : Int)) (by omega) (by omega)) (fun v m1 h1 => ?_)
    obtain ⟨R, f1, n1⟩ := h1
    exact put_ok (n := n) (rest := []) (by rw [List.append_nil]; exact B) f1 n1 R (can_iz _) (fits_iz hk) rfl (by omega) (by omega) (fun m' B' f' n' => hK m' B' f' (by omega))
  refine top_arg B (fun _ => ?_) (fun _ _ _ _ _ _ _ => ?_)
  · show Ok (if ((0 : Nat) : Int) = 0 then _ else _) Q
    rw [if_pos (by decide)]
    exact go
  · show Ok (if ((0 : Nat) : Int) = 0 then _ else _) Q
    rw [if_pos (by decide)]
    exact go
set_option maxHeartbeats 1000000 in
theorem bd_hp {n k : Nat} (hn : 300 < n) (hk : k ≤ 9) : Bd n [1 + 16 * k] [hc k] := by
  intro st gs m fuel i Q A hi hg B hb hK
  obtain ⟨b1, b2, b3, b4, b5⟩ := id B
  rw [List.length_singleton] at hi hb hK ⊢
  have ei : st.getD i 0 = 1 + 16 * k + 4096 * 0 := by rw [show st.getD i 0 = 1 + 16 * k from A.hd]; omega
  obtain ⟨d1, d2, d3⟩ := dec3 (a := 1) (b := k) (e := 0) (by decide) (by omega) (by decide)
  have tk : f_X7_taken n ((1 : Nat) : Int) (k : Int) ((0 : Nat) : Int) m = some (0, m) := by rw [taken_eq (by omega) (by decide)]; rfl
  have fk : fits (hc k) := ⟨by rw [wid_hc]; omega, by
    by_cases q : k = 0
    · rw [q, hc_0, wd_0_len]; decide
    · rw [wd_hcs (by omega) hk]
      split
      · show 2 ≤ 100; decide
      · show 1 ≤ 100; decide⟩
  show Ok (bodyB n (lp (F := Int → Int → Mem → Option Rz) (fun _ _ _ => none) (bodyB n) fuel) (gs.length : Int) (i : Int) m) Q
  generalize lp (F := Int → Int → Mem → Option Rz) (fun _ _ _ => none) (bodyB n) fuel = w at hK ⊢
  unfold bodyB
  dsimp only [jn, nm, gtF]
  rw [b1, if_pos (by omega), if_pos (by omega), ldI_ok (kI43 _) (by omega), b3 i (by omega), ei, d1, ldI_ok (kI43 _) (by omega), b3 i (by omega), ei, d2, ldI_ok (kI43 _) (by omega), b3 i (by omega), ei, d3]
  refine ok_calE tk ?_
  rw [w32_id (x := (gs.length : Int) - 0) (by omega) (by omega), Int.sub_zero, if_neg (by omega), if_pos (by omega), if_neg (by omega)]
  have go : Ok (cal (f_X2_heapOf n (k : Int) m) fun x164 m164 => stG m164 44 (gs.length : Int) x164.toNat fun m278 => ldG m278 44 (gs.length : Int) fun x284 => if x284 = 0 then rt (0 : Nat) m278 else w (w32 ((gs.length : Int) + 1)) (w32 ((i : Int) + 1)) m278) Q := by
    refine ok_cal (heapOf_ok2 hn (by omega) (by omega)) (fun v m1 h1 => ?_)
    obtain ⟨R, f1, n1⟩ := h1
    exact put_ok (n := n) (rest := []) (by rw [List.append_nil]; exact B) f1 n1 R (can_hc _) fk rfl (by omega) (by omega) (fun m' B' f' n' => hK m' B' f' (by omega))
  refine top_arg B (fun _ => ?_) (fun _ _ _ _ _ _ _ => ?_)
  · show Ok (if ((1 : Nat) : Int) = 0 then _ else (if ((1 : Nat) : Int) = 1 then _ else _)) Q
    rw [if_neg (by decide), if_pos (by decide)]
    exact go
  · show Ok (if ((1 : Nat) : Int) = 0 then _ else (if ((1 : Nat) : Int) = 1 then _ else _)) Q
    rw [if_neg (by decide), if_pos (by decide)]
    exact go
