/-! THE GAMES OF A DAY -/
def eqv (p s : Nat × Nat) : Bool := ngle p s && ngle s p
theorem eqv_iff {p s : Nat × Nat} (hp : p.1 < 128 ∧ p.2 < 128) (hs : s.1 < 128 ∧ s.2 < 128) : eqv p s = true ↔ geq (nG p.1 p.2) (nG s.1 s.2) := by
  unfold eqv
  rw [Bool.and_eq_true, ngle_ok hp hs, ngle_ok hs hp]
  exact Iff.rfl
def fog (A : List Nat) (G0 : List (Nat × Nat)) : Nat → List (Nat × Nat)
  | 0 => G0
  | x + 1 => if (fog A G0 x).any (eqv (A.getD (x / A.length) 0, A.getD (x % A.length) 0)) then fog A G0 x else fog A G0 x ++ [(A.getD (x / A.length) 0, A.getD (x % A.length) 0)]
def AL (k : Nat) : List Nat := (List.range k).filter (fun v => decide (0 < v) && nanti v)
theorem AL_s (k : Nat) : AL (k + 1) = AL k ++ (if 0 < k ∧ nanti k = true then [k] else []) := by
  unfold AL
  rw [List.range_succ, List.filter_append]
  congr 1
  by_cases h : 0 < k ∧ nanti k = true
  · rw [if_pos h]
    simp [h.1, h.2]
  · rw [if_neg h]
    have : (decide (0 < k) && nanti k) = false := Bool.eq_false_iff.mpr (fun e => by
      rw [Bool.and_eq_true, decide_eq_true_eq] at e
      exact h e)
    simp only [List.filter_cons, this, List.filter_nil]
    rfl
theorem mem_AL {k v : Nat} : v ∈ AL k ↔ v < k ∧ 0 < v ∧ nanti v = true := by
  unfold AL
  rw [List.mem_filter, List.mem_range, Bool.and_eq_true, decide_eq_true_eq]
theorem AL_len (k : Nat) : (AL k).length ≤ k := by
  unfold AL
  have := List.length_filter_le (fun v => decide (0 < v) && nanti v) (List.range k)
  rw [List.length_range] at this
  exact this
theorem getD_get {A : List Nat} {i : Nat} (h : i < A.length) : A.getD i 0 = A[i] := by
  rw [List.getD_eq_getElem?_getD, List.getElem?_eq_getElem h]
  rfl
def GM (T : Tb) (B : List Nat) (G : List (Nat × Nat)) : Prop := B.length = G.length ∧ ∀ i, (h1 : i < B.length) → (h2 : i < G.length) → geq (T.d B[i]) (nG (G[i]).1 (G[i]).2)
theorem GM.ex {T T' : Tb} {B : List Nat} {G : List (Nat × Nat)} (h : GM T B G) (ex : Ex T T') (hb : ∀ o, o ∈ B → o < T.N) : GM T' B G := ⟨h.1, fun i h1 h2 => by rw [ex.d (hb _ (List.getElem_mem h1))]; exact h.2 i h1 h2⟩
noncomputable def BF : List Nat := nS3.map (fun s => nG s.1 s.2)
theorem BF_len : BF.length = 67 := by unfold BF; rw [List.length_map]; exact nS3_len
theorem BF_bd {x : Nat} (h : x ∈ BF) : bd x ≤ 3 := by
  obtain ⟨s, _, rfl⟩ := List.mem_map.mp h
  exact bd_nG _ _
theorem BF_0 : 0 ∈ BF := List.mem_map.mpr ⟨(0, 0), by decide, by
  apply op_ext
  intro w hw x
  rw [op_0]
  refine Bool.eq_false_iff.mpr (fun q => ?_)
  rcases (by omega : w = 0 ∨ w = 1) with rfl | rfl
  · obtain ⟨i, _, h, _⟩ := op_nGL.mp q
    rw [Nat.zero_testBit] at h; cases h
  · obtain ⟨i, _, h, _⟩ := op_nGR.mp q
    rw [Nat.zero_testBit] at h; cases h⟩
theorem BF_can {K l r : Nat} (cK : can K) (hl : 0 < l ∧ l < 128 ∧ nanti l = true) (hr : 0 < r ∧ r < 128 ∧ nanti r = true) (e : geq K (nG l r)) : K ∈ BF := by
  obtain ⟨s, hs, e2⟩ := day3.1 l r hl.1 hl.2.1 hr.1 hr.2.1 hl.2.2 hr.2.2
  have := day3.2.2.2.2 s hs
  rw [can_uniq cK this.2.2 (e.tr e2)]
  exact List.mem_map.mpr ⟨s, hs, rfl⟩
/-- as many as may come up, no more -/
theorem row_67 {m : Mem} {T : Tb} {s : Nat} {B : List Nat} (R : RSt m T BF s) (nd : B.Nodup) (hb : ∀ o, o ∈ B → o < T.N) : B.length ≤ 67 := by
  have := nodup_le (B.map T.d) BF (nodup_mapd nd (fun x hx y hy => R.1.2.2.2.1 x y (hb x hx) (hb y hy))) (fun x hx => by
    obtain ⟨o, ho, rfl⟩ := List.mem_map.mp hx
    exact (R.1.2.2.1 o (hb o ho)).2.2.2.2.2)
  rw [List.length_map, BF_len] at this
  exact this
theorem RSt.mp {m m' : Mem} {T : Tb} {F : List Nat} {s : Nat} (h : RSt m T F s) (M : MP m' T.N T.d) (e : ∀ a i, RSc a i → a ≠ 116 → a ≠ 117 → mGet m' a i = mGet m a i) : RSt m' T F s := by
  obtain ⟨R, _, S, G, U, W⟩ := h
  refine ⟨R.ext (fun a i z => e a i (by unfold RCe at z; unfold RSc; omega) (by unfold RCe at z; omega) (by unfold RCe at z; omega)), M, S.ext (Nat.le_refl _) (fun _ _ => rfl) (fun k => ⟨e _ _ (by unfold RSc; omega) (by omega) (by omega), e _ _ (by unfold RSc; omega) (by omega) (by omega)⟩), fun g hg => ?_, U.ext (fun a i z => e a i (by unfold RSc; omega) (by omega) (by omega)), fun g hg => by rw [e 111 g (by unfold RSc; omega) (by omega) (by omega)]; exact W g hg⟩
  rw [e 112 g (by unfold RSc; omega) (by omega) (by omega)]
  exact G g hg
def SBn (a i : Nat) : Prop := SSm a i ∨ a = 134 ∨ a = 135 ∨ (a = 100 ∧ (i = 44 ∨ i = 47))
theorem BR.ext {m m' : Mem} {T T' : Tb} {B : List Nat} (h : BR m T B) (ex : Ex T T') (e : ∀ a i, a = 134 ∨ (a = 100 ∧ i = 44) → mGet m' a i = mGet m a i) : BR m' T' B := ⟨(e _ _ (Or.inr ⟨rfl, rfl⟩)).trans h.1, h.2.1.ext (fun k hk => e _ _ (Or.inl rfl)), fun o ho => ex.lt (h.2.2.1 o ho), h.2.2.2⟩
theorem bornBehind_ok {n P s t : Nat} {m : Mem} {T : Tb} {B : List Nat} {G : List (Nat × Nat)} (hn : BIG < n) (R : RSt m T BF s) (hB : BR m T B) (nd : B.Nodup) (gm : GM T B G) (hG : ∀ p, p ∈ G → p.1 < 128 ∧ p.2 < 128) (hP : B.length = P) (hP7 : P ≤ 7) (hd : ∀ i, (hi : i < B.length) → i < P → T.d B[i] = ne i) (ht : mGet m 100 26 = (t : Int)) (h8 : t + 1000 < 20000) (hs : s + 100000 < 1000000000) : Ok (f_X11_bornBehind n (P : Int) m) (fun _ m' => ∃ T' s' B', RSt m' T' BF s' ∧ Ex T T' ∧ s ≤ s' ∧ s' ≤ s + 16400 ∧ BR m' T' B' ∧ B'.Nodup ∧ GM T' B' (fog (AL (2 ^ P)) G ((AL (2 ^ P)).length * (AL (2 ^ P)).length)) ∧ mGet m' 100 26 = (t : Int) ∧ Ch SBn m m') := by
  have n4 := BIG_m hn
  have n3 := BIG_n hn
  have p7 : 2 ^ P ≤ 2 ^ 7 := Nat.pow_le_pow_right (by decide) hP7
  have e7 : (2 : Nat) ^ 7 = 128 := by decide
  have p1 : 1 ≤ 2 ^ P := Nat.one_le_two_pow
  unfold f_X11_bornBehind
  rw [ptF_eq]
  obtain ⟨m0, e0⟩ : ∃ m0, m0 = mSet m 100 47 0 := ⟨_, rfl⟩
  rw [← e0]
  have g0 : ∀ a i, mGet m0 a i = if a = 100 ∧ i = 47 then 0 else mGet m a i := fun a i => by rw [e0, mGet_mSet, w32_0']
  have c0 : Ch SBn m m0 := by rw [e0]; exact Ch.set (Or.inr (Or.inr (Or.inr ⟨rfl, Or.inr rfl⟩)))
  have R0 : RSt m0 T BF s := R.ext (fun a i z => by rw [g0, if_neg (by unfold RSc at z; omega)])
  refine ok_up1 (i := 1) (2 ^ P) (fun k m1 => 1 ≤ k ∧ RSt m1 T BF s ∧ Ch (fun a i => a = 116 ∨ a = 117 ∨ a = 135 ∨ (a = 100 ∧ i = 47)) m0 m1 ∧ mGet m1 100 47 = ((AL k).length : Int) ∧ Row m1 135 0 (AL k)) (fun w k m1 hk hI hw => ?_) (fun w m1 hI => ?_) n m0 p1 ⟨Nat.le_refl _, R0, Ch.rf _ _, by rw [g0, if_pos ⟨rfl, rfl⟩]; rfl, fun k hk => by cases hk⟩ (by omega)
  · obtain ⟨k1, R1, c1, l1, r1⟩ := hI
    have la := AL_len k
    rw [ishl_1 hP7, if_pos (by omega)]
    have B1 : BR m1 T B := hB.ext (Ex.rf T) (fun a i z => by rw [c1.2 a i (by omega), g0, if_neg (by omega)])
    refine ok_cal (areApart_ok hn R1 B1 (by omega) hP7 hd hk) (fun r m2 hq => ?_)
    obtain ⟨rfl, M2, c2⟩ := hq
    have R2 : RSt m2 T BF s := R1.mp M2 (fun a i z z1 z2 => c2.2 a i (by unfold SP; omega))
    have c12 : Ch (fun a i => a = 116 ∨ a = 117 ∨ a = 135 ∨ (a = 100 ∧ i = 47)) m0 m2 := c1.tr (c2.weak (fun a i z => by unfold SP at z; omega))
    have l2 : mGet m2 100 47 = ((AL k).length : Int) := (c2.2 _ _ (by unfold SP; omega)).trans l1
    have r2 : Row m2 135 0 (AL k) := r1.ext (fun j hj => c2.2 _ _ (by unfold SP; omega))
    refine ok_jn ?_
    have es := AL_s k
    cases q : nanti k with
    | false =>
      rw [if_neg (by rw [q]; exact fun h => by cases h.2), List.append_nil] at es
      rw [if_pos rb_f]
      show Ok (w (w32 ((k : Int) + 1)) m2) _
      rw [w32_1 (by omega)]
      exact hw m2 ⟨by omega, R2, c12, by rw [es]; exact l2, by rw [es]; exact r2⟩
    | true =>
      rw [if_pos ⟨k1, q⟩] at es
      rw [if_neg (by decide), gtF_eq, l2, stI_ok (len := 200) rfl (by omega), gtF_eq, mGet_mSet, if_neg (by omega), l2, ptF_eq, show w32 (((AL k).length : Int) + 1) = (((AL k).length + 1 : Nat) : Int) from w32_1 (by omega)]
      obtain ⟨m3, e3⟩ : ∃ m3, m3 = mSet (mSet m2 135 (AL k).length (k : Int)) 100 47 (((AL k).length + 1 : Nat) : Int) := ⟨_, rfl⟩
      rw [← e3]
      have g3 : ∀ a i, mGet m3 a i = if a = 100 ∧ i = 47 then (((AL k).length + 1 : Nat) : Int) else if a = 135 ∧ i = (AL k).length then (k : Int) else mGet m2 a i := fun a i => by rw [e3, mGet_mSet, mGet_mSet, w32_nat (by omega), w32_nat (by omega)]
      show Ok (w (w32 ((k : Int) + 1)) m3) _
      rw [w32_1 (by omega)]
      refine hw m3 ⟨by omega, R2.ext (fun a i z => by rw [g3, if_neg (by unfold RSc at z; omega), if_neg (by unfold RSc at z; omega)]), c12.tr (by rw [e3]; exact (Ch.set (by omega)).tr (Ch.set (by omega))), ?_, ?_⟩
      · rw [es, List.length_append, g3, if_pos ⟨rfl, rfl⟩]; rfl
      · rw [es]
        refine Row.app (r2.ext (fun j hj => by rw [g3, if_neg (by omega), if_neg (by omega)])) ?_
        rw [Nat.zero_add, g3, if_neg (by omega), if_pos ⟨rfl, rfl⟩]
  · obtain ⟨_, R1, c1, l1, r1⟩ := hI
    rw [ishl_1 hP7, if_neg (by omega)]
    obtain ⟨A, eA⟩ : ∃ A, A = AL (2 ^ P) := ⟨_, rfl⟩
    rw [← eA] at l1 r1 ⊢
    have lA : A.length ≤ 128 := by have := AL_len (2 ^ P); rw [← eA] at this; omega
    have LL : A.length * A.length ≤ 128 * 128 := Nat.mul_le_mul lA lA
    have mA : ∀ i, (hi : i < A.length) → A[i] < 2 ^ P ∧ 0 < A[i] ∧ nanti A[i] = true := fun i hi => by
      have h2 : ∀ v, v ∈ A → v < 2 ^ P ∧ 0 < v ∧ nanti v = true := fun v hv => by rw [eA] at hv; exact mem_AL.mp hv
      exact h2 _ (List.getElem_mem hi)
    have B1 : BR m1 T B := hB.ext (Ex.rf T) (fun a i z => by rw [c1.2 a i (by omega), g0, if_neg (by omega)])
    have c01 : Ch SBn m m1 := c0.tr (c1.weak (fun a i z => by unfold SBn SSm SCt SCn; omega))
    have t1 : mGet m1 100 26 = (t : Int) := by rw [c1.2 _ _ (by omega), g0, if_neg (by omega)]; exact ht
    refine ok_up1 (i := 0) (A.length * A.length) (fun x m2 => ∃ T2 s2 B2 E, RSt m2 T2 BF s2 ∧ Ex T T2 ∧ s ≤ s2 ∧ s2 ≤ s + x ∧ BR m2 T2 B2 ∧ B2 = B ++ E ∧ B2.Nodup ∧ GM T2 B2 (fog A G x) ∧ (∀ p, p ∈ fog A G x → p.1 < 128 ∧ p.2 < 128) ∧ mGet m2 100 26 = (t : Int) ∧ mGet m2 100 47 = (A.length : Int) ∧ Row m2 135 0 A ∧ Ch SBn m m2) (fun w x m2 hx hI hw => ?_) (fun w m2 hI => ?_) n m1 (Nat.zero_le _) ⟨T, s, B, [], R1, Ex.rf T, Nat.le_refl _, Nat.le_refl _, B1, (List.append_nil _).symm, nd, gm, hG, t1, l1, r1, c01⟩ (by omega)
    · obtain ⟨T2, s2, B2, E, R2, ex2, s21, s22, b2, eB2, nd2, gm2, hG2, t2, l2, r2, c2⟩ := hI
      have A0 : 0 < A.length := by
        rcases Nat.eq_zero_or_pos A.length with h | h
        · rw [h] at hx; exact absurd hx (Nat.not_lt_zero _)
        · exact h
      have q1 : x / A.length < A.length := Nat.div_lt_of_lt_mul hx
      have q2 : x % A.length < A.length := Nat.mod_lt _ A0
      obtain ⟨a, ea⟩ : ∃ a, a = A[x / A.length] := ⟨_, rfl⟩
      obtain ⟨b, eb⟩ : ∃ b, b = A[x % A.length] := ⟨_, rfl⟩
      have pa := mA _ q1
      have pb := mA _ q2
      rw [← ea] at pa
      rw [← eb] at pb
      have ra : mGet m2 135 (x / A.length) = (a : Int) := by have := r2 _ q1; rw [Nat.zero_add, ← ea] at this; exact this
      have fs : fog A G (x + 1) = if (fog A G x).any (eqv (a, b)) then fog A G x else fog A G x ++ [(a, b)] := by
        show (if (fog A G x).any (eqv (A.getD (x / A.length) 0, A.getD (x % A.length) 0)) then fog A G x else fog A G x ++ [(A.getD (x / A.length) 0, A.getD (x % A.length) 0)]) = _
        rw [getD_get q1, getD_get q2, ← ea, ← eb]
      have hd2 : ∀ i, (hi : i < B2.length) → i < P → T2.d B2[i] = ne i := fun i hi hiP => by
        subst eB2
        rw [List.getElem_append_left (by omega), ex2.d (hB.2.2.1 _ (List.getElem_mem _))]
        exact hd i (by omega) hiP
      have lB2 : P ≤ B2.length := by rw [eB2, List.length_append]; omega
      have l67 := row_67 R2 nd2 b2.2.2.1
      rw [gtF_eq, l2, gtF_eq, l2, show (A.length : Int) * (A.length : Int) = ((A.length * A.length : Nat) : Int) from (Int.natCast_mul _ _).symm, w32_nat (by omega), if_pos (by omega), gtF_eq, t2, gtF_eq, l2]
      unfold ok0
      rw [if_pos (by omega), idiv_nn (by omega) (by omega), ldI_ok (len := 200) rfl (by omega), ra]
      refine ok_cal (waitsBorn_ok hn R2 b2 lB2 hP7 hd2 pa.1 t2 (by omega)) (fun _ m3 hq => ?_)
      obtain ⟨W, T3, s3, lW, W3⟩ := hq
      obtain ⟨w1, w2, w3, w4, w5, w6, w7, w8, w9⟩ := id W3
      have u3 : ∀ a i, ¬ SSm a i → mGet m3 a i = mGet m2 a i := w7.2
      have b3 : BR m3 T3 B2 := b2.ext w2 (fun a i z => u3 a i (by unfold SSm SCt SCn; omega))
      have rb : mGet m3 135 (x % A.length) = (b : Int) := by
        rw [u3 _ _ (by unfold SSm SCt SCn; omega)]
        have := r2 _ q2; rw [Nat.zero_add, ← eb] at this; exact this
      rw [gtF_eq, w5.1, gtF_eq, u3 _ _ (by unfold SSm SCt SCn; omega), l2, if_pos (by omega), irem_nn (by omega) (by omega), ldI_ok (len := 200) rfl (by omega), rb]
      refine ok_cal (waitsBorn_ok hn w1 b3 lB2 hP7 (fun i hi hiP => by rw [w2.d (b2.2.2.1 _ (List.getElem_mem _))]; exact hd2 i hi hiP) pb.1 w5.1 (by omega)) (fun _ m4 hq => ?_)
      obtain ⟨V, T4, s4, lV, W4⟩ := hq
      obtain ⟨v1, v2, v3, v4, v5, v6, v7, v8, v9⟩ := id W4
      have lWV := app_len W V
      have a128 : a < 128 := Nat.lt_of_lt_of_le pa.1 (by omega)
      have b128 : b < 128 := Nat.lt_of_lt_of_le pb.1 (by omega)
      refine ok_cal (close_ok (K := nG a b) hn W3 W4 t2 (by omega) (by omega) (fun x hx => ⟨x, op_nGL.mp hx, geq_rfl _⟩) (fun y hy => ⟨y, op_nGL.mpr hy, geq_rfl _⟩) (fun x hx => ⟨x, op_nGR.mp hx, geq_rfl _⟩) (fun y hy => ⟨y, op_nGR.mpr hy, geq_rfl _⟩) (fun K2 hK e => BF_can hK ⟨pa.2.1, a128, pa.2.2⟩ ⟨pb.2.1, b128, pb.2.2⟩ e)) (fun v m5 hq => ?_)
      obtain ⟨⟨u, T5, s5, rfl, hu, gu, ex5, R5, s51, s52⟩, t5, k5, c5⟩ := hq
      have N5 := R5.1.nn
      have u5 : ∀ a i, ¬ SSm a i → mGet m5 a i = mGet m2 a i := c5.2
      have b5 : BR m5 T5 B2 := b2.ext ex5 (fun a i z => u5 a i (by unfold SSm SCt SCn; omega))
      have gm5 : GM T5 B2 (fog A G x) := gm2.ex ex5 b2.2.2.1
      have h44 := b5.1
      rw [gtF_eq, h44]
      have he := rhas_eq (n := n) (m := m5) (a := 134) (len := 200) (s := 0) (v := u) (l := B2) rfl (by omega) (by decide) b5.2.1 (by omega)
      rw [Nat.zero_add] at he
      refine ok_calE he ?_
      refine ok_jn ?_
      have same : B2.contains u = (fog A G x).any (eqv (a, b)) := by
        apply Bool.eq_iff_iff.mpr
        rw [List.contains_iff_mem, List.any_eq_true]
        constructor
        · intro h
          obtain ⟨i, hi, e⟩ := List.mem_iff_getElem.mp h
          have hi2 : i < (fog A G x).length := by rw [← gm5.1]; exact hi
          have g := gm5.2 i hi hi2
          rw [e] at g
          exact ⟨_, List.getElem_mem hi2, (eqv_iff ⟨a128, b128⟩ (hG2 _ (List.getElem_mem hi2))).mpr (gu.sy.tr g)⟩
        · rintro ⟨p, hp, e⟩
          obtain ⟨i, hi, e2⟩ := List.mem_iff_getElem.mp hp
          have hi2 : i < B2.length := by rw [gm5.1]; exact hi
          have g := gm5.2 i hi2 hi
          rw [e2] at g
          have e3 := (eqv_iff ⟨a128, b128⟩ (hG2 p hp)).mp e
          have e4 : T5.d u = T5.d B2[i] := can_uniq (R5.1.can hu) (R5.1.can (b5.2.2.1 _ (List.getElem_mem hi2))) ((gu.tr e3).tr g.sy)
          have e5 : u = B2[i] := R5.1.2.2.2.1 _ _ hu (b5.2.2.1 _ (List.getElem_mem hi2)) e4
          rw [e5]
          exact List.getElem_mem hi2
      cases q : B2.contains u with
      | true =>
        rw [if_neg (by decide)]
        show Ok (w (w32 ((x : Int) + 1)) m5) _
        rw [w32_1 (by omega)]
        rw [same] at q
        rw [if_pos q] at fs
        exact hw m5 ⟨T5, s5, B2, E, R5, ex2.tr ex5, by omega, by omega, b5, eB2, nd2, by rw [fs]; exact gm5, by rw [fs]; exact hG2, t5.trans t2, (u5 _ _ (by unfold SSm SCt SCn; omega)).trans l2, r2.ext (fun k hk => u5 _ _ (by unfold SSm SCt SCn; omega)), c2.tr (c5.weak (fun a i z => Or.inl z))⟩
      | false =>
        have ni : ¬ u ∈ B2 := fun h => by rw [List.contains_iff_mem.mpr h] at q; cases q
        have nd3 : (B2 ++ [u]).Nodup := by
          rw [List.nodup_append]
          exact ⟨nd2, List.nodup_cons.mpr ⟨(fun h => by cases h), List.nodup_nil⟩, fun z hz y hy e => ni (by rw [List.mem_singleton] at hy; rw [← hy, ← e]; exact hz)⟩
        have hb3 : ∀ o, o ∈ B2 ++ [u] → o < T5.N := fun o ho => (List.mem_append.mp ho).elim (b5.2.2.1 o) (fun h => by rw [List.mem_singleton.mp h]; exact hu)
        have l673 := row_67 R5 nd3 hb3
        rw [same] at q
        rw [if_neg (by rw [q]; decide)] at fs
        rw [if_pos rb_f]
        show Ok (gtF m5 100 44 _) _
        rw [gtF_eq, h44, stI_ok (len := 200) rfl (by omega), gtF_eq, mGet_mSet, if_neg (by omega), h44, ptF_eq, show w32 ((B2.length : Int) + 1) = ((B2.length + 1 : Nat) : Int) from w32_1 (by omega)]
        obtain ⟨m6, e6⟩ : ∃ m6, m6 = mSet (mSet m5 134 B2.length (u : Int)) 100 44 ((B2.length + 1 : Nat) : Int) := ⟨_, rfl⟩
        rw [← e6]
        have g6 : ∀ a i, mGet m6 a i = if a = 100 ∧ i = 44 then ((B2.length + 1 : Nat) : Int) else if a = 134 ∧ i = B2.length then (u : Int) else mGet m5 a i := fun a i => by rw [e6, mGet_mSet, mGet_mSet, w32_nat (by omega), w32_nat (by omega)]
        show Ok (w (w32 ((x : Int) + 1)) m6) _
        rw [w32_1 (by omega)]
        refine hw m6 ⟨T5, s5, B2 ++ [u], E ++ [u], R5.ext (fun a i z => by rw [g6, if_neg (by unfold RSc at z; omega), if_neg (by unfold RSc at z; omega)]), ex2.tr ex5, by omega, by omega, ⟨by rw [g6, if_pos ⟨rfl, rfl⟩, List.length_append]; rfl, Row.app (b5.2.1.ext (fun k hk => by rw [g6, if_neg (by omega), if_neg (by omega)])) (by rw [Nat.zero_add, g6, if_neg (by omega), if_pos ⟨rfl, rfl⟩]), hb3, l673⟩, by rw [eB2, List.append_assoc], nd3, ⟨by rw [fs, List.length_append, List.length_append, gm5.1]; rfl, fun i h1 h2 => ?_⟩, fun p hp => ?_, by rw [g6, if_neg (by omega), if_neg (by omega)]; exact t5.trans t2, by rw [g6, if_neg (by omega), if_neg (by omega)]; exact (u5 _ _ (by unfold SSm SCt SCn; omega)).trans l2, r2.ext (fun k hk => by rw [g6, if_neg (by omega), if_neg (by omega)]; exact u5 _ _ (by unfold SSm SCt SCn; omega)), (c2.tr (c5.weak (fun a i z => Or.inl z))).tr (by rw [e6]; exact (Ch.set (Or.inr (Or.inl rfl))).tr (Ch.set (Or.inr (Or.inr (Or.inr ⟨rfl, Or.inl rfl⟩)))))⟩
        · simp only [fs]
          have g1 := gm5.1
          by_cases z : i < B2.length
          · rw [List.getElem_append_left z, List.getElem_append_left (by omega)]
            exact gm5.2 i z (by omega)
          · rw [List.length_append, List.length_singleton] at h1
            have ei : i = B2.length := by omega
            subst ei
            rw [List.getElem_append_right (Nat.le_refl _), List.getElem_append_right (by omega)]
            simp only [g1, Nat.sub_self, List.getElem_cons_zero]
            exact gu
        · rw [fs] at hp
          rcases List.mem_append.mp hp with h | h
          · exact hG2 p h
          · rw [List.mem_singleton.mp h]
            exact ⟨a128, b128⟩
    · obtain ⟨T2, s2, B2, E, R2, ex2, s21, s22, b2, eB2, nd2, gm2, hG2, t2, l2, r2, c2⟩ := hI
      rw [gtF_eq, l2, gtF_eq, l2, show (A.length : Int) * (A.length : Int) = ((A.length * A.length : Nat) : Int) from (Int.natCast_mul _ _).symm, w32_nat (by omega), if_neg (by omega)]
      exact ok_rt ⟨T2, s2, B2, R2, ex2, s21, by omega, b2, nd2, gm2, t2, c2⟩
