/-! THE LAW: its two objects are made -/
def hN : g_H := fun _ => none
def PostL : Option Value → g_H → Prop := fun v _ => v = some (.int 1)
abbrev oX10 : g_E := .inr (10, [.null, .null, .null, .null, .null, .null, .null, .null, .null, .null, .null, .null])
theorem EC_in {h : g_H} {m : Mem} {id : Nat} (q : (1 ≤ id ∧ id < 58) ∨ 1000 ≤ id) : EC h m id = cel m id := if_pos q
theorem EC_out {h : g_H} {m : Mem} {id : Nat} (q : ¬ ((1 ≤ id ∧ id < 58) ∨ 1000 ≤ id)) : EC h m id = h id := if_neg q
theorem EC_drop1 (h : g_H) (c : g_E) (m : Mem) : EC (g_up h 1 c) m = EC h m := by
  funext j
  by_cases q : (1 ≤ j ∧ j < 58) ∨ 1000 ≤ j
  · rw [EC_in q, EC_in q]
  · rw [EC_out q, EC_out q, g_up_ne _ _ (by omega)]
theorem rne2 (o : Option g_E) : (o.map (rne swp)).map (rne swp) = o := by
  cases o with
  | none => rfl
  | some e => show some (rne swp (rne swp e)) = some e; rw [rne_inv swp swp_sw]
theorem EC_rn {m1 m2 : Mem} (K2 : KO m2.2.2) : rnh swp (EC (rnh swp (g_up (EC hN m1) 201 oX10)) m2) = E2 hN (tw m2 m1) m2 := by
  have ho : ∀ id, rnh swp (g_up (EC hN m1) 201 oX10) id = (g_up (EC hN m1) 201 oX10 (swp id)).map (rne swp) := fun _ => rfl
  funext id
  show (EC (rnh swp (g_up (EC hN m1) 201 oX10)) m2 (swp id)).map (rne swp) = _
  by_cases h1 : 1 ≤ id ∧ id < 58
  · rw [swp_lo h1, EC_out (by omega), ho, swp_hi (by omega), show id + 200 - 200 = id by omega, g_up_ne _ _ (by omega), EC_in (Or.inl h1), rne2, E2_lo h1, tw_cel (by omega)]
  · by_cases h2 : 201 ≤ id ∧ id < 258
    · rw [swp_hi h2, EC_in (by omega), E2_y h2]
    · by_cases h3 : 1000 ≤ id
      · rw [swp_id h1 h2, EC_in (Or.inr h3), E2_hi h3]
        exact (tw_Tw K2).symm.cel h3
      · rw [swp_id h1 h2, EC_out (by omega), ho, swp_id h1 h2, g_up_ne _ _ (by omega), EC_out (by omega), E2_F h1 h2 h3]
        rfl
theorem c_init2 (l : Launch) (sc : g_S) (hsc : sc.1 = 0) (n : Nat) (m1 : Mem) (K1 : KO m1.2.2) (r : Rz) (K2 : KO r.2.2.2) (H : f_init n (tw m1 mz) = some r) : AMet l sc yX10_init cX10_init 1 none 6 67 6868 [.ref 201] (g_up (EC hN m1) 201 oX10) (fun v hp' => v = none ∧ hp' = E2 hN (tw r.2 m1) r.2) := by
  have A := AMet_rn swp_sw (by rw [hsc]; rfl) (c_X10_init l sc hsc n (tw m1 mz) (rnh swp (g_up (EC hN m1) 201 oX10)) r (by
    show (g_up (EC hN m1) 201 oX10 201).map (rne swp) = _
    rw [g_up_self]
    rfl) (fun q h1 h2 => by
    show (g_up (EC hN m1) 201 oX10 (swp q)).map (rne swp) = none
    rw [swp_lo (by omega), g_up_ne _ _ (by omega), EC_out (by omega)]
    rfl) (fun q h => by
    show (g_up (EC hN m1) 201 oX10 (swp q)).map (rne swp) = _
    rw [swp_id (by omega) (by omega), g_up_ne _ _ (by omega), EC_in (Or.inr h)]
    exact (tw_Tw K1).symm.cel h) H)
  rw [rnh_inv swp swp_sw] at A
  refine AMet.post A (fun v hp' h => ?_)
  obtain ⟨h1, h2⟩ := h
  refine ⟨?_, ?_⟩
  · cases v with
    | none => rfl
    | some w => cases h1
  · have e := congrArg (rnh swp) h2
    rw [rnh_inv swp swp_sw, EC_rn K2] at e
    exact e
theorem start_two {n : Nat} (hn : 300 < n) : ∃ (v1 : Int) (m1 : Mem) (v2 : Int) (m2 : Mem), f_init n mz = some (v1, m1) ∧ f_init n (tw m1 mz) = some (v2, m2) ∧ KO m1.2.2 ∧ KO m2.2.2 ∧ ∀ t, JS (fun _ => 0) (fun _ => 0) 0 t 1100 (tw m2 m1) m2 := by
  obtain ⟨v1, m1, e1, C1, X1, n1, G1⟩ := init_ok (m0 := mz) hn (by decide)
  have K1 : KO m1.2.2 := KO.grow (show KO mz.2.2 from rfl) G1
  rw [show mNext mz = 1000 from rfl] at n1
  have T1 : Tw m1 (tw m1 mz) := tw_Tw K1
  obtain ⟨v2, m2, e2, C2, X2, n2, G2⟩ := init_ok (m0 := tw m1 mz) hn (by rw [T1.next]; omega)
  have K2 : KO m2.2.2 := KO.grow (show KO (tw m1 mz).2.2 from K1) G2
  rw [T1.next] at n2
  refine ⟨v1, m1, v2, m2, e1, e2, K1, K2, fun t => ⟨C1.fr ((tw_fr T1.symm G2).weak (fun a h => h.elim)), C2, X2 t, (tw_Tw K2).symm, ?_⟩⟩
  have := (tw_Tw (my := m1) K2).next
  omega
/-- numbers that are free for the texts -/
def FZ (i : Nat) (F : g_H) : Prop := rnh swp F = F ∧ ∀ q, 60 + i ≤ q → q < 200 → F q = none
theorem FZ_0 : FZ 0 hN := ⟨rfl, fun _ _ _ => rfl⟩
theorem FZ.up {i : Nat} {F : g_H} (h : FZ i F) (hi : i < 100) (f : Nat → Int) : FZ (i + 1) (g_up F (60 + i) (txt 100 f)) := ⟨up_rn (by omega) h.1 f, fun q h1 h2 => by rw [g_up_ne _ _ (by omega)]; exact h.2 q (by omega) h2⟩
