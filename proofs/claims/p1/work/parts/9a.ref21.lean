/-! UPS: THE CALL -/
theorem rSlot_eq {n : Nat} {x : Int} {m : Mem} : f_X11_isSlot n x m = some (b2i (decide (0 ≤ x ∧ x ≤ 7)), m) := by
  apply rk_eq
  unfold f_X11_isSlot
  refine ok_calE in_eq ?_
  exact ok_rtZ (rb_01 _) ⟨rfl, rfl⟩
/-- as the reference stands between calls, when nothing is held yet -/
def RB (m : Mem) (T : Tb) (F : List Nat) (s t q : Nat) : Prop := RSt m T F s ∧ s ≤ 100 ∧ mGet m 100 26 = (t : Int) ∧ t ≤ 100 ∧ SnW m q ∧ q ≤ 100 ∧ mGet m 100 39 = 0 ∧ ∀ i, i < 8 → mGet m 129 i = 0
theorem holdsS_ok {n q p s s2 c t K : Nat} {T : Tb} {F : List Nat} {m m2 : Mem} {v : Int} (hn : BIG < n) (B : RB m T F s t q) (Z : Sumd m T F s2 c K v m2) (cK : can K) (hp : p < 8) : Ok (f_X11_holds n (p : Int) v m2) (fun v _ => v = ans K) := by
  obtain ⟨b1, b2, b3, b4, b5, b6, b7, b8⟩ := B
  obtain ⟨⟨u, T2, s3, rfl, hu, gu, ex, R2, _, _⟩, z2, z3, z4⟩ := Z
  have e : T2.d u = K := can_uniq (R2.1.can hu) cK gu
  have := holds_ok (n := n) (p := p) (BIG_n hn) R2.1 hu (b5.ext (fun a i z => z4.2 a i (by unfold SSm SCt SCn; omega))) (by omega) hp ((z4.2 _ _ (by unfold SSm SCt SCn; omega)).trans b7)
  rw [e] at this
  exact this
/-- k ups and a heap of a -/
def Uk (k : Int) (a : Nat) : Nat := if k < 0 then gneg (Ug k.natAbs a) else Ug k.natAbs a
theorem can_Uk (k : Int) (a : Nat) : can (Uk k a) := by
  unfold Uk
  split
  · exact can_gneg _ (can_Ug _ _)
  · exact can_Ug _ _
theorem rups_ok {n p a s t q : Nat} {k : Int} {m : Mem} {T : Tb} (hn : BIG < n) (B : RB m T UF2 s t q) (hp : p < 8) (hk : k.natAbs ≤ 4) (ha : a ≤ 5) : Ok (f_X11_ups n (p : Int) k (a : Int) m) (fun v _ => v = ans (Uk k a)) := by
  have B' := B
  obtain ⟨b1, b2, b3, b4, b5, b6, b7, b8⟩ := B'
  have n4 := BIG_m hn
  have hF : ∀ i m2, i < 5 → m2 < 6 → Ug i m2 ∈ UF2 := fun i m2 h1 h2 => List.mem_append_left _ (mem_UF.mpr ⟨i, m2, h1, h2, rfl⟩)
  unfold f_X11_ups
  refine ok_calE rSlot_eq ?_
  refine ok_jn ?_
  rw [decide_eq_true (show (0 : Int) ≤ (p : Int) ∧ (p : Int) ≤ 7 by omega), if_neg (by decide)]
  refine ok_calE in_eq ?_
  rw [decide_eq_true (show (-4 : Int) ≤ k ∧ k ≤ 4 by omega), if_neg (by decide)]
  refine ok_calE in_eq ?_
  rw [decide_eq_true (show (0 : Int) ≤ (a : Int) ∧ (a : Int) ≤ 5 by omega), if_neg (by decide)]
  refine ok_calE (gathers_eq b1) ?_
  refine ok_cal (rheapOf_ok hn b1 b3 (by omega) (by omega) (by omega) (fun j hj => hF 0 j (by decide) (by omega))) (fun v2 m2 hq => ?_)
  obtain ⟨⟨u, T2, s2, rfl, hu, gu, ex, R2, s21, s22⟩, t2, k2, c2⟩ := hq
  have du : T2.d u = hc a := can_uniq (R2.1.can hu) (can_hc a) gu
  have h2 := t2.trans b3
  refine ok_jn ?_
  -- the sums, one after the other
  have loop : ∀ (W : Nat) (w m3 : _) (T3 : Tb) (s3 : Nat), geq (T3.d w) W → w < T3.N → (∀ j a, j < 4 → a < 6 → SI UF2 (if k < 0 then gneg (Ug j a) else Ug j a) W) → (∀ j, geq (gadd (if k < 0 then gneg (Ug j a) else Ug j a) W) (if k < 0 then gneg (Ug (j + 1) a) else Ug (j + 1) a)) → fz W ≤ 13 → bd W ≤ 2 → can W → Sumd m2 T2 UF2 s2 100 W (w : Int) m3 → RSt m3 T3 UF2 s3 → Ex T2 T3 → s2 ≤ s3 → s3 ≤ s2 + 100 → Ok (lp (F := Int → Int → Mem → Option Rz) (fun _ _ _ => none) (fun w67 v4_67 v6_67 m67 =>
      jn (fun (m80 : Mem) =>
        cal (f_X11_sum n v4_67 (w : Int) m80) fun x85 m85 =>
        w67 x85 (w32 (v6_67 + 1)) m85
      ) fun (j80 : Mem → Option Rz) =>
      if v6_67 < k then (
        j80 m67
      ) else
      if v6_67 < w32 (-k) then (
        j80 m67
      ) else
      cal (f_X11_holds n (p : Int) v4_67 m67) fun x100 m100 =>
      rt x100 m100
    ) n (u : Int) 0 m3) (fun v _ => v = ans (Uk k a)) := by
    intro W w m3 T3 s3 gw hw I add fW bW cW Z R3 ex3 hs2 hs3
    obtain ⟨_, z2, z3, z4⟩ := Z
    have dw : T3.d w = W := can_uniq (R3.1.can hw) cW gw
    obtain ⟨X, hX⟩ : ∃ X : Nat → Nat, X = fun j => if k < 0 then gneg (Ug j a) else Ug j a := ⟨_, rfl⟩
    have canX : ∀ j, can (X j) := fun j => by rw [hX]; dsimp only; split; exact can_gneg _ (can_Ug _ _); exact can_Ug _ _
    have fzX : ∀ j, j ≤ 4 → fz (X j) ≤ 50048 := fun j hj => by
      have h1 := fz_Ug j a (by omega)
      have h2 := fz_neg (Ug j a)
      have h3 : 2 ^ j ≤ 2 ^ 4 := Nat.pow_le_pow_right (by decide) hj
      rw [hX]; dsimp only
      split <;> omega
    have bdX : ∀ j, j ≤ 4 → bd (X j) ≤ 9 := fun j hj => by
      have h1 := bd_Ug j a (by omega)
      have h2 := bd_neg (Ug j a)
      rw [hX]; dsimp only
      split <;> omega
    refine ok_up2 (i := 0) k.natAbs (fun j v m4 => Sumd m T UF2 s (300 + j * 700000) (X j) v m4 ∧ ∃ T4 s4, RSt m4 T4 UF2 s4 ∧ Ex T3 T4 ∧ s ≤ s4 ∧ s4 ≤ s + 300 + j * 700000 ∧ ∃ x : Nat, v = (x : Int) ∧ x < T4.N ∧ T4.d x = X j) (fun w2 j v m4 hj hI hw2 => ?_) (fun w2 v m4 hI => ?_) n (u : Int) m3 (Nat.zero_le _) ⟨?_, T3, s3, R3, Ex.rf _, by omega, by omega, u, rfl, ex3.lt hu, ?_⟩ (by omega)
    · obtain ⟨⟨_, y2, y3, y4⟩, T4, s4, R4, ex4, hs0, hs4, x, rfl, hx, dx⟩ := hI
      have top := y2.trans b3
      have dw4 : T4.d w = W := (ex4.d hw).trans dw
      refine ok_jn ?_
      have go : Ok (cal (f_X11_sum n (x : Int) (w : Int) m4) fun x85 m85 => w2 x85 (w32 ((j : Int) + 1)) m85) (fun v _ => v = ans (Uk k a)) := by
        have I4 : SI UF2 (T4.d x) (T4.d w) := by
          rw [dx, dw4, hX]
          exact I j a (by omega) (by omega)
        have f1 := fzX j (by omega)
        have f2 := bdX j (by omega)
        have f3 : fz (T4.d x) * fz (T4.d w) ≤ 50048 * 13 := by rw [dx, dw4]; exact Nat.mul_le_mul f1 fW
        refine ok_cal (fsum_ok hn R4 hx (ex4.lt hw) (by rw [dx, dw4]; omega) I4 top (by rw [dx, dw4]; omega) (by omega)) (fun v m5 hq => ?_)
        have hq' := hq
        obtain ⟨⟨y, T5, s5, rfl, hy, gy, ex5, R5, s51, s52⟩, p2, p3, p4⟩ := hq'
        rw [dx, dw4] at gy
        have gy2 : geq (T5.d y) (X (j + 1)) := gy.tr (by rw [hX]; exact add j)
        have mul : (j + 1) * 700000 = j * 700000 + 700000 := Nat.succ_mul j 700000
        rw [w32_1 (by omega)]
        refine hw2 _ m5 ⟨⟨⟨y, T5, s5, rfl, hy, gy2, ((ex.tr ex3).tr ex4).tr ex5, R5, by omega, by omega⟩, p2.trans y2, fun i hi => (p3 i (by rw [y2]; exact hi)).trans (y3 i hi), y4.tr p4⟩, T5, s5, R5, ex4.tr ex5, by omega, by omega, y, rfl, hy, can_uniq (R5.1.can hy) (canX _) gy2⟩
      by_cases q1 : (j : Int) < k
      · rw [if_pos q1]; exact go
      · rw [if_neg q1, if_pos (by rw [w32_id (by omega) (by omega)]; omega)]; exact go
    · obtain ⟨Z4, _⟩ := hI
      refine ok_jn ?_
      rw [if_neg (by omega), if_neg (by rw [w32_id (by omega) (by omega)]; omega)]
      have e : X k.natAbs = Uk k a := by rw [hX]; rfl
      rw [e] at Z4
      refine ok_cal (holdsS_ok hn B Z4 (can_Uk k a) hp) (fun v m5 hq => ?_)
      exact ok_rt hq
    · have e0 : geq (T3.d u) (X 0) := by
        rw [ex3.d hu, du, hX]
        dsimp only
        have : Ug 0 a = hc a := rfl
        rw [this, gneg_hc]
        split <;> exact geq_rfl _
      exact ⟨⟨u, T3, s3, rfl, ex3.lt hu, e0, ex.tr ex3, R3, by omega, by omega⟩, z2.trans t2, fun i hi => (z3 i (by rw [t2]; exact hi)).trans (k2 i hi), c2.tr z4⟩
    · rw [ex3.d hu, du, hX]
      dsimp only
      have : Ug 0 a = hc a := rfl
      rw [this, gneg_hc]
      split <;> rfl
  have cu : can upg := by rw [← Ug_10]; exact can_Ug 1 0
  have up1 := up_ok1 (s := s2) hn R2 h2 (by omega) (by omega) (fun j hj => hF 0 j (by decide) (by omega)) (by rw [← Ug_10]; exact hF 1 0 (by decide) (by decide)) cu
  have bu : bd upg ≤ 2 := by
    refine bd_leq (fun x hx => ?_)
    have b1 := bd_hc 1
    have b0 := bd_0
    rcases hx with hx | hx
    · rw [op_upL.mp hx]; omega
    · rw [op_upR.mp hx]; omega
  by_cases q1 : k < 0
  · rw [if_pos q1]
    refine ok_cal up1 (fun v3 m3 hq => ?_)
    have hq' := hq
    obtain ⟨⟨w, T3, s3, rfl, hw, gw, ex3, R3, s31, s32⟩, t3, k3, c3⟩ := hq'
    have dw : T3.d w = upg := can_uniq (R3.1.can hw) cu gw
    have fu := fz_up
    refine ok_cal (fneg_ok hn R3 hw (by rw [dw]; omega) (by rw [dw]; exact NI_up) (t3.trans h2) (by rw [dw]; omega) (by rw [dw]; omega)) (fun v4 m4 hq4 => ?_)
    have hq4' := hq4
    obtain ⟨⟨x, T4, s4, rfl, hx, gx, ex4, R4, s41, s42⟩, t4, k4, c4⟩ := hq4'
    rw [dw] at gx hq4 s42
    refine loop (gneg upg) x m4 T4 s4 gx hx (fun j a h1 h2 => by rw [if_pos q1]; exact SI_dn h1 h2) (fun j => ?_) (Nat.le_trans (fz_neg upg) fz_up) (Nat.le_trans (bd_neg upg) bu) (can_gneg _ cu) ?_ R4 (ex3.tr ex4) (by omega) (by omega)
    · rw [if_pos q1, if_pos q1]
      exact (neg_add (Ug j a) upg).sy.tr (neg_eq (((gadd_eq (Ug_eq j a) (geq_rfl upg)).tr (Vg_up j a)).tr (Ug_eq (j + 1) a).sy))
    · exact (Sumd.tr ex3 s31 s32 t3 k3 c3 hq4).eqv (geq_rfl _) (by omega)
  · rw [if_neg q1]
    refine ok_cal up1 (fun v3 m3 hq => ?_)
    have hq' := hq
    obtain ⟨⟨w, T3, s3, rfl, hw, gw, ex3, R3, s31, s32⟩, t3, k3, c3⟩ := hq'
    refine loop upg w m3 T3 s3 gw hw (fun j a h1 h2 => by rw [if_neg q1]; exact SI_up h1 h2) (fun j => ?_) fz_up bu cu (hq.eqv (geq_rfl _) (by omega)) R3 ex3 (by omega) (by omega)
    rw [if_neg q1, if_neg q1]
    exact ((gadd_eq (Ug_eq j a) (geq_rfl upg)).tr (Vg_up j a)).tr (Ug_eq (j + 1) a).sy
