/-! THE LAW: what its sentences mean -/
theorem vd_self (g : Nat) : vd (gadd g (gneg g)) = 0 := by
  have h := gadd_neg g
  unfold vd
  rw [if_pos ((gleB_iff _ _).mpr h.2), if_pos ((gleB_iff _ _).mpr h.1)]
theorem vd_rev (g h : Nat) : vd (gadd h (gneg g)) = if vd (gadd g (gneg h)) = 2 then 2 else -vd (gadd g (gneg h)) := by
  have a : gleB 0 (gadd h (gneg g)) = gleB (gadd g (gneg h)) 0 := by
    apply Bool.eq_iff_iff.mpr
    rw [gleB_iff, gleB_iff, sub_gle, gle_sub]
  have b : gleB (gadd h (gneg g)) 0 = gleB 0 (gadd g (gneg h)) := by
    apply Bool.eq_iff_iff.mpr
    rw [gleB_iff, gleB_iff, sub_gle, gle_sub]
  unfold vd
  rw [a, b]
  cases gleB 0 (gadd g (gneg h)) <;> cases gleB (gadd g (gneg h)) 0 <;> rfl
/-- who moves first wins -/
theorem vd_wins {w z : Nat} (hw : w < 2) : (vd z = 2 ∨ vd z = if w = 0 then 1 else -1) ↔ wins w z := by
  have a := gleB_iff 0 z
  have b := gleB_iff z 0
  unfold vd wins
  rcases (by omega : w = 0 ∨ w = 1) with rfl | rfl
  · rw [if_pos rfl, if_pos rfl, ← b]
    cases gleB 0 z <;> cases gleB z 0 <;> decide
  · rw [if_neg (show ¬ (1 = 0) by decide), if_neg (show ¬ (1 = 0) by decide), ← a]
    cases gleB 0 z <;> cases gleB z 0 <;> decide
/-- the values of an order -/
theorem vd_cases (z : Nat) : vd z = 0 ∨ vd z = 1 ∨ vd z = -1 ∨ vd z = 2 := by
  unfold vd
  cases gleB 0 z <;> cases gleB z 0 <;> decide
theorem en_top {g : Nat} (G : GX g) : en g (wid g - 1) = g := G.2.2.2
/-- a winning reply: a number, an option, and the other does not win -/
theorem reply_wins {g h w : Nat} (Gg : GX g) (Gh : GX h) (hw : w < 2) (win : wins w (gadd g h)) : ∃ (to i : Nat), rpl (bm g h (wid g - 1) (wid h - 1) w) 0 = (to : Int) ∧ rpl (bm g h (wid g - 1) (wid h - 1) w) 1 = (i : Int) ∧ to < 2 ∧ i < 11 ∧ (to = 0 → ∃ k : Nat, nb g (wid g - 1) w (i : Int) = (k : Int) ∧ ¬ wins (1 - w) (gadd (en g k) h)) ∧ (to = 1 → ∃ k : Nat, nb h (wid h - 1) w (i : Int) = (k : Int) ∧ ¬ wins (1 - w) (gadd (en h k) g)) := by
  have wp := wid_pos g
  have wq := wid_pos h
  have eg : ∀ k, dpos g h false k (wid h - 1) = gadd (en g k) h := fun k => by show gadd (en g k) (en h (wid h - 1)) = _; rw [en_top Gh]
  have eh : ∀ k, dpos g h false (wid g - 1) k = gadd g (en h k) := fun k => by show gadd (en g (wid g - 1)) (en h k) = _; rw [en_top Gg]
  rcases bm_cases g h (wid g - 1) (wid h - 1) w with ⟨n, k, h1, h2, h3, h4⟩ | ⟨n, k, h1, h2, h3, h4⟩ | ⟨h1, _⟩
  · rw [h1, rpl_0, rpl_1, if_pos (by omega)]
    rw [eg, safe_wins hw] at h4
    exact ⟨0, n, rfl, by rw [Nat.mod_eq_of_lt (by omega)], by decide, h2, fun _ => ⟨k, h3, h4⟩, fun q => by cases q⟩
  · rw [h1, rpl_0, rpl_1, if_neg (by omega)]
    rw [eh, safe_wins hw, gadd_comm] at h4
    exact ⟨1, n, rfl, by rw [show (32 + n) % 32 = n by omega], by decide, h2, fun q => (by cases q), fun _ => ⟨k, h3, h4⟩⟩
  · exact absurd win ((bm_wins Gg Gh (by omega) (by omega) hw).mp h1 |> fun q => by rw [dpos_top Gg Gh] at q; exact q)
theorem reply_none {g h w : Nat} (Gg : GX g) (Gh : GX h) (hw : w < 2) (win : ¬ wins w (gadd g h)) (t : Nat) : rpl (bm g h (wid g - 1) (wid h - 1) w) t = -1100000002 := by
  have wp := wid_pos g
  have wq := wid_pos h
  rw [(bm_wins Gg Gh (by omega) (by omega) hw).mpr (by rw [dpos_top Gg Gh]; exact win)]
  unfold rpl
  rw [if_pos (by decide)]
/-- ahead, and the outcome -/
theorem ahead_vd {g : Nat} {z : Option Int} (h : WV g z) (ne : ahv z ≠ 0) : vd g = ahv z := by
  cases z with
  | none => exact absurd rfl ne
  | some z =>
    have h1 := h.1
    by_cases q : 2 ≤ z
    · obtain ⟨a, b⟩ := two_ahead h1 (geq_rfl _) q
      show vd g = if 2 ≤ z then 1 else _
      rw [if_pos q]
      unfold vd
      rw [if_pos ((gleB_iff _ _).mpr a), if_neg (fun e => b ((gleB_iff _ _).mp e))]
    · by_cases q2 : z ≤ -2
      · obtain ⟨a, b⟩ := two_behind h1 (geq_rfl _) q2
        show vd g = if 2 ≤ z then 1 else if z ≤ -2 then -1 else 0
        rw [if_neg q, if_pos q2]
        unfold vd
        rw [if_neg (fun e => b ((gleB_iff _ _).mp e)), if_pos ((gleB_iff _ _).mpr a)]
      · exfalso
        apply ne
        show (if 2 ≤ z then (1 : Int) else if z ≤ -2 then -1 else 0) = 0
        rw [if_neg q, if_neg q2]
/-- weights of sums -/
theorem sum_WV {g h k : Nat} {y z x : Option Int} (hg : WV g y) (hh : WV h z) (hk : WV k x) (ek : geq k (gadd g h)) {a b : Int} (ea : y = some a) (eb : z = some b) : x = some (a + b) := by
  subst ea
  subst eb
  obtain ⟨v, hv⟩ := hk.ex
  have e := Wt_sum hg.1 hh.1 hv (geq_rfl _) (geq_rfl _) ek
  have w2 := hv.eq e
  cases x with
  | none => exact absurd ⟨_, w2⟩ hk.1
  | some x => rw [iz_inj (Wt_uniq hk.1 w2)]
