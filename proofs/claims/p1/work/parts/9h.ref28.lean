/-! THREE DAYS -/
theorem day_1 : fog (AL (2 ^ 1)) [(0, 0)] ((AL (2 ^ 1)).length * (AL (2 ^ 1)).length) = nS1 := by decide +kernel
theorem day_2 : fog (AL (2 ^ 2)) nS1 ((AL (2 ^ 2)).length * (AL (2 ^ 2)).length) = nS2 := by decide +kernel
def GL : List (Nat × Nat) := fog (AL (2 ^ 7)) nS2 ((AL (2 ^ 7)).length * (AL (2 ^ 7)).length)
theorem fog_sub {A : List Nat} {G : List (Nat × Nat)} : ∀ x p, p ∈ G → p ∈ fog A G x
  | 0, p, h => h
  | x + 1, p, h => by
    have ih := fog_sub (A := A) x p h
    show p ∈ (if _ then _ else _)
    split
    · exact ih
    · exact List.mem_append_left _ ih
theorem fog_lt {A : List Nat} {G : List (Nat × Nat)} (hA : ∀ a, a ∈ A → a < 128) (hG : ∀ p, p ∈ G → p.1 < 128 ∧ p.2 < 128) : ∀ x p, p ∈ fog A G x → p.1 < 128 ∧ p.2 < 128
  | 0, p, h => hG p h
  | x + 1, p, h => by
    have ih := fog_lt hA hG x p
    have g : ∀ i, A.getD i 0 < 128 := fun i => by
      by_cases q : i < A.length
      · rw [getD_get q]; exact hA _ (List.getElem_mem q)
      · rw [List.getD_eq_getElem?_getD, List.getElem?_eq_none (by omega)]; decide
    have h2 : p ∈ (if (fog A G x).any (eqv (A.getD (x / A.length) 0, A.getD (x % A.length) 0)) then fog A G x else fog A G x ++ [(A.getD (x / A.length) 0, A.getD (x % A.length) 0)]) := h
    split at h2
    · exact ih h2
    · rcases List.mem_append.mp h2 with h3 | h3
      · exact ih h3
      · rw [List.mem_singleton.mp h3]
        exact ⟨g _, g _⟩
/-- each pair has one equal to it -/
theorem fog_all {A : List Nat} {G : List (Nat × Nat)} (hA : ∀ a, a ∈ A → a < 128) (hG : ∀ p, p ∈ G → p.1 < 128 ∧ p.2 < 128) : ∀ x j, j < x → ∃ p, p ∈ fog A G x ∧ geq (nG (A.getD (j / A.length) 0) (A.getD (j % A.length) 0)) (nG p.1 p.2)
  | 0, j, h => absurd h (Nat.not_lt_zero _)
  | x + 1, j, h => by
    have g : ∀ i, A.getD i 0 < 128 := fun i => by
      by_cases q : i < A.length
      · rw [getD_get q]; exact hA _ (List.getElem_mem q)
      · rw [List.getD_eq_getElem?_getD, List.getElem?_eq_none (by omega)]; decide
    have e : fog A G (x + 1) = if (fog A G x).any (eqv (A.getD (x / A.length) 0, A.getD (x % A.length) 0)) then fog A G x else fog A G x ++ [(A.getD (x / A.length) 0, A.getD (x % A.length) 0)] := rfl
    by_cases q : (fog A G x).any (eqv (A.getD (x / A.length) 0, A.getD (x % A.length) 0)) = true
    · rw [if_pos q] at e
      rw [e]
      by_cases z : j < x
      · exact fog_all hA hG x j z
      · have : j = x := by omega
        subst this
        obtain ⟨p, hp, ep⟩ := List.any_eq_true.mp q
        exact ⟨p, hp, (eqv_iff ⟨g _, g _⟩ (fog_lt hA hG j p hp)).mp ep⟩
    · rw [if_neg q] at e
      rw [e]
      by_cases z : j < x
      · obtain ⟨p, hp, ep⟩ := fog_all hA hG x j z
        exact ⟨p, List.mem_append_left _ hp, ep⟩
      · have : j = x := by omega
        subst this
        exact ⟨_, List.mem_append_right _ (List.mem_singleton.mpr rfl), geq_rfl _⟩
theorem nS2_lt : ∀ p, p ∈ nS2 → p.1 < 128 ∧ p.2 < 128 := by decide +kernel
theorem AL_lt {a : Nat} (h : a ∈ AL (2 ^ 7)) : a < 128 := (mem_AL.mp h).1
/-- all that are born by day three -/
theorem GL_all {s : Nat × Nat} (hs : s ∈ nS3) : ∃ p, p ∈ GL ∧ geq (nG s.1 s.2) (nG p.1 p.2) := by
  rcases day3.2.1 s hs with rfl | ⟨h1, h2, h3, h4, h5, h6⟩
  · exact ⟨(0, 0), fog_sub _ _ (by decide), geq_rfl _⟩
  · have m1 : s.1 ∈ AL (2 ^ 7) := mem_AL.mpr ⟨h2, h1, h3⟩
    have m2 : s.2 ∈ AL (2 ^ 7) := mem_AL.mpr ⟨h5, h4, h6⟩
    obtain ⟨i, hi, ei⟩ := List.mem_iff_getElem.mp m1
    obtain ⟨j, hj, ej⟩ := List.mem_iff_getElem.mp m2
    obtain ⟨L, eL⟩ : ∃ L, L = (AL (2 ^ 7)).length := ⟨_, rfl⟩
    have lt : i * L + j < L * L := by
      have : (i + 1) * L ≤ L * L := Nat.mul_le_mul_right L (by omega)
      rw [Nat.add_mul, Nat.one_mul] at this
      omega
    have d1 : (i * L + j) / L = i := by
      rw [Nat.mul_comm, Nat.mul_add_div (by omega), Nat.div_eq_of_lt (by omega), Nat.add_zero]
    have d2 : (i * L + j) % L = j := by
      rw [Nat.mul_comm, Nat.mul_add_mod, Nat.mod_eq_of_lt (by omega)]
    obtain ⟨p, hp, e⟩ := fog_all (A := AL (2 ^ 7)) (G := nS2) (fun a ha => AL_lt ha) nS2_lt (L * L) (i * L + j) lt
    rw [← eL, d1, d2, getD_get hi, getD_get hj, ei, ej] at e
    exact ⟨p, by unfold GL; rw [← eL]; exact hp, e⟩
def GD : Nat → List (Nat × Nat)
  | 0 => [(0, 0)]
  | 1 => nS1
  | 2 => nS2
  | _ => GL
def PD : Nat → Nat
  | 0 => 1
  | 1 => 2
  | _ => 7
theorem GD_s {k : Nat} (h : k < 3) : fog (AL (2 ^ PD k)) (GD k) ((AL (2 ^ PD k)).length * (AL (2 ^ PD k)).length) = GD (k + 1) := by
  rcases (by omega : k = 0 ∨ k = 1 ∨ k = 2) with rfl | rfl | rfl
  · exact day_1
  · exact day_2
  · rfl
theorem GD_P {k : Nat} (h : k < 3) : (GD k).length = PD k ∧ PD k ≤ 7 ∧ (∀ p, p ∈ GD k → p.1 < 128 ∧ p.2 < 128) ∧ ∀ i, (hi : i < (GD k).length) → (GD k)[i] = (nLm i, nRm i) := by
  rcases (by omega : k = 0 ∨ k = 1 ∨ k = 2) with rfl | rfl | rfl
  · exact ⟨by decide, by decide, by decide, by decide⟩
  · exact ⟨by decide, by decide, by decide, by decide⟩
  · exact ⟨by decide, by decide, by decide, by decide⟩
/-- the games of three days stand in the row -/
def Bear (m : Mem) (T : Tb) (B : List Nat) : Prop := BR m T B ∧ B.Nodup ∧ ∀ K, K ∈ BF → ∃ o, o ∈ B ∧ T.d o = K
theorem days_ok {n t s : Nat} {m : Mem} {T : Tb} {K : Mem → Option Rz} {Q : Int → Mem → Prop} (hn : BIG < n) (R : RSt m T BF s) (h44 : mGet m 100 44 = 1) (h134 : mGet m 134 0 = 0) (ht : mGet m 100 26 = (t : Int)) (h8 : t + 1000 < 20000) (hs : s + 200000 < 1000000000) (fin : ∀ m' T' s' B, RSt m' T' BF s' → Bear m' T' B → s' ≤ s + 50000 → mGet m' 100 26 = (t : Int) → Ch SBn m m' → Ok (K m') Q) : Ok (lp (F := Int → Mem → Option Rz) (fun _ _ => none) (fun w31 v1_31 m31 =>
      if v1_31 < 3 then (
        gtF m31 100 44 fun x38 =>
        cal (f_X11_bornBehind n x38 m31) fun _ m41 =>
        w31 (w32 (v1_31 + 1)) m41
      ) else K m31) n 0 m) Q := by
  have n4 := BIG_m hn
  have d0 := R.1.d0
  refine ok_up1 (i := 0) 3 (fun k m1 => ∃ T1 s1 B, RSt m1 T1 BF s1 ∧ s1 ≤ s + 16400 * k ∧ BR m1 T1 B ∧ B.Nodup ∧ GM T1 B (GD k) ∧ mGet m1 100 26 = (t : Int) ∧ Ch SBn m m1) (fun w k m1 hk hI hw => ?_) (fun w m1 hI => ?_) n m (Nat.zero_le _) ⟨T, s, [0], R, Nat.le_refl _, ⟨h44, fun k hk => ?_, fun o ho => by rw [List.mem_singleton.mp ho]; exact R.1.1.2.2.1, by decide⟩, List.nodup_cons.mpr ⟨(fun h => by cases h), List.nodup_nil⟩, ⟨rfl, fun i h1 h2 => ?_⟩, ht, Ch.rf _ _⟩ (by omega)
  · obtain ⟨T1, s1, B, R1, s11, b1, nd, gm, t1, c1⟩ := hI
    obtain ⟨p1, p2, p3, p4⟩ := GD_P hk
    have lB : B.length = PD k := gm.1.trans p1
    have hd : ∀ i, (hi : i < B.length) → i < PD k → T1.d B[i] = ne i := fun i hi hiP => by
      have g := gm.2 i hi (by omega)
      rw [p4 i (by omega)] at g
      have e : ne i = nG (nLm i) (nRm i) := ne_G i (by omega)
      rw [← e] at g
      exact can_uniq (R1.1.can (b1.2.2.1 _ (List.getElem_mem hi))) (can_ne 7 i (by omega) (by omega)) g
    rw [if_pos (by omega), gtF_eq, b1.1, lB]
    refine ok_cal (bornBehind_ok hn R1 b1 nd gm p3 lB p2 hd t1 h8 (by omega)) (fun _ m2 hq => ?_)
    obtain ⟨T2, s2, B2, R2, ex, s21, s22, b2, nd2, gm2, t2, c2⟩ := hq
    rw [GD_s hk] at gm2
    rw [w32_1 (by omega)]
    exact hw m2 ⟨T2, s2, B2, R2, Nat.le_trans s22 (Nat.le_trans (Nat.add_le_add_right s11 16400) (Nat.le_of_eq (by rw [Nat.mul_succ, Nat.add_assoc]))), b2, nd2, gm2, t2, c1.tr c2⟩
  · obtain ⟨T1, s1, B, R1, s11, b1, nd, gm, t1, c1⟩ := hI
    rw [if_neg (by decide)]
    refine fin m1 T1 s1 B R1 ⟨b1, nd, fun K hK => ?_⟩ (by omega) t1 c1
    obtain ⟨z, hz, rfl⟩ := List.mem_map.mp hK
    obtain ⟨p, hp, e⟩ := GL_all hz
    obtain ⟨i, hi, ei⟩ := List.mem_iff_getElem.mp (show p ∈ GD 3 from hp)
    have hi2 : i < B.length := by rw [gm.1]; exact hi
    have g := gm.2 i hi2 hi
    rw [ei] at g
    exact ⟨B[i], List.getElem_mem hi2, can_uniq (R1.1.can (b1.2.2.1 _ (List.getElem_mem hi2))) (day3.2.2.2.2 z hz).2.2 (g.tr e.sy)⟩
  · have : k = 0 := by simp at hk; omega
    subst this
    exact h134
  · have : i = 0 := by simp at h1; omega
    subst this
    show geq (T.d 0) (nG 0 0)
    rw [d0]
    have : nG 0 0 = 0 := by
      apply op_ext
      intro w hw x
      rw [op_0]
      refine Bool.eq_false_iff.mpr (fun q => ?_)
      rcases (by omega : w = 0 ∨ w = 1) with rfl | rfl
      · obtain ⟨i, _, h, _⟩ := op_nGL.mp q
        rw [Nat.zero_testBit] at h; cases h
      · obtain ⟨i, _, h, _⟩ := op_nGR.mp q
        rw [Nat.zero_testBit] at h; cases h
    rw [this]
    exact geq_rfl _
