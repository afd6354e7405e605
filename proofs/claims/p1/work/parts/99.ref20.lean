/-! UPS, AS CANONICAL GAMES -/
theorem hc_le {a b : Nat} (h : gle (hc a) (hc b)) : a = b := by
  have h2 : gle (hc b) (hc a) := by
    have := gneg_le.mpr h
    rw [gneg_hc, gneg_hc] at this
    exact this
  exact hc_inj (can_uniq (can_hc a) (can_hc b) ⟨h, h2⟩)
/-- i ups and a heap of c -/
def Vg (i c : Nat) : Nat := gadd (upn i) (hc c)
theorem Vg_0 (c : Nat) : Vg 0 c = hc c := by
  unfold Vg
  rw [show upn 0 = 0 from rfl, gadd_comm, gadd_0]
theorem Vg_L {i c x : Nat} (h : op (Vg i c) 0 x = true) : (1 ≤ i ∧ geq x (Vg (i - 1) c)) ∨ ∃ k, k < c ∧ x = Vg i k := by
  rcases (op_gadd (by decide)).mp h with ⟨y, hy, rfl⟩ | ⟨y, hy, rfl⟩
  · cases i with
    | zero => rw [show upn 0 = 0 from rfl, op_0] at hy; cases hy
    | succ i => exact Or.inl ⟨by omega, gadd_eq (upn_L i y hy) (geq_rfl _)⟩
  · obtain ⟨k, hk, rfl⟩ := (op_hc (by decide)).mp hy
    exact Or.inr ⟨k, hk, rfl⟩
theorem Vg_1 (i c : Nat) : geq (gadd (gadd (upn i) (hc 1)) (hc c)) (Vg i (c ^^^ 1)) := by
  rw [gadd_assoc]
  refine gadd_eq (geq_rfl _) ?_
  rw [gadd_comm]
  exact hc_nim c 1
theorem Vg_R {i c x : Nat} (h : op (Vg i c) 1 x = true) : (1 ≤ i ∧ geq x (Vg (i - 1) (c ^^^ 1))) ∨ ∃ k, k < c ∧ x = Vg i k := by
  rcases (op_gadd (by decide)).mp h with ⟨y, hy, rfl⟩ | ⟨y, hy, rfl⟩
  · cases i with
    | zero => rw [show upn 0 = 0 from rfl, op_0] at hy; cases hy
    | succ i => exact Or.inl ⟨by omega, (gadd_eq (upn_R i y hy) (geq_rfl (hc c))).tr (Vg_1 i c)⟩
  · obtain ⟨k, hk, rfl⟩ := (op_hc (by decide)).mp hy
    exact Or.inr ⟨k, hk, rfl⟩
theorem Vg_exR (i c : Nat) : ∃ x, op (Vg (i + 1) c) 1 x = true ∧ geq x (Vg i (c ^^^ 1)) := ⟨_, (op_gadd (by decide)).mpr (Or.inl ⟨_, upn_exR i, rfl⟩), Vg_1 i c⟩
theorem Vg_star (i c : Nat) : geq (gadd (Vg i c) (hc 1)) (Vg i (c ^^^ 1)) := by
  unfold Vg
  rw [gadd_assoc]
  exact gadd_eq (geq_rfl _) (hc_nim c 1)
theorem Vg_up (i c : Nat) : geq (gadd (Vg i c) upg) (Vg (i + 1) c) := by
  unfold Vg
  rw [gadd_assoc, gadd_comm (hc c) upg, ← gadd_assoc]
  exact geq_rfl _
theorem upn_mono {j i : Nat} (h : j ≤ i) : gle (upn j) (upn i) := by
  have := upz_mono (a := (j : Int)) (b := (i : Int)) (by omega)
  rw [upz_nn, upz_nn] at this
  exact this
/-- more ups and a heap are never at most fewer and a heap -/
theorem Vg_nle {i j e c : Nat} (h : j < i) : ¬ gle (Vg i e) (Vg j c) := fun q => by
  have h1 : gle (Vg (j + 1) e) (Vg j c) := gle_tr (gadd_mono (upn_mono h) (gle_rfl _)) q
  have h2 : gle (gadd (upn j) (gadd upg (hc e))) (gadd (upn j) (hc c)) := by
    have e1 : Vg (j + 1) e = gadd (upn j) (gadd upg (hc e)) := by
      unfold Vg
      rw [show upn (j + 1) = gadd (upn j) upg from rfl, gadd_assoc]
    rw [← e1]
    exact h1
  have h3 := gadd_le2.mp h2
  have h4 := gle_subR.mp h3
  rw [gneg_hc] at h4
  exact up_no _ (gle_tr h4 (hc_nim c e).1)
theorem Vg_nle0 {i e c : Nat} (h : e ≠ c) : ¬ gle (Vg i e) (Vg i c) := fun q => h (hc_le (gadd_le2.mp q))
theorem Vg_le1 {i e k : Nat} (h : e ^^^ k ≠ 1) : gle (Vg i e) (Vg (i + 1) k) := by
  have h1 : gle (gadd (hc (e ^^^ k)) (hc k)) (gadd upg (hc k)) := gadd_le.mpr (up_ge h)
  have h2 : geq (gadd (hc (e ^^^ k)) (hc k)) (hc e) := by
    have := hc_nim (e ^^^ k) k
    rw [xor_back] at this
    exact this
  have h3 := gle_tr h2.2 h1
  have h4 := gadd_le2 (c := upn i) |>.mpr h3
  rw [← gadd_assoc] at h4
  exact h4
theorem x1 (a : Nat) : (a ^^^ 1) ^^^ 1 = a := xor_back a 1
theorem x1_inj {a b : Nat} (h : a ^^^ 1 = b ^^^ 1) : a = b := xor_inj h
section UG
variable {i e U : Nat}
theorem ug_M00 (hU : geq U (Vg i e)) (h : 0 < i ∨ e ≠ 0) : gle 0 (mkg [0] [U]) := gle_of (fun x hx => by rw [op_0] at hx; cases hx) (fun y hy q => by
  rw [op_mkgR, List.mem_singleton] at hy
  subst hy
  have q2 : gle (Vg i e) (Vg 0 0) := by rw [Vg_0]; exact hU.l.mp q
  rcases h with h | h
  · exact Vg_nle h q2
  · by_cases z : 0 < i
    · exact Vg_nle z q2
    · have : i = 0 := by omega
      subst this
      exact Vg_nle0 h q2)
theorem ug_MN (hU : geq U (Vg i e)) (h : 0 < i ∨ e ≠ 0) : ∀ j, j ≤ i → (∀ c, ¬ gle (mkg [0] [U]) (Vg j c)) ∧ ∀ c, (j < i ∨ c ≠ e) → gle (Vg j c) (mkg [0] [U])
  | 0, hj => by
    have N0 : ∀ c, ¬ gle (mkg [0] [U]) (Vg 0 c) := fun c => by
      rw [Vg_0, not_gle]
      cases c with
      | zero => exact Or.inl ⟨0, (op_mkgL _ _ _).mpr (List.mem_singleton.mpr rfl), gle_rfl _⟩
      | succ c => exact Or.inr ⟨hc 0, (op_hc (by decide)).mpr ⟨0, by omega, rfl⟩, ug_M00 hU h⟩
    refine ⟨N0, fun c hc' => gle_of (fun x hx => ?_) (fun y hy q => ?_)⟩
    · rcases Vg_L hx with ⟨h1, _⟩ | ⟨k, _, rfl⟩
      · omega
      · exact N0 k
    · rw [op_mkgR, List.mem_singleton] at hy
      subst hy
      have q2 := hU.l.mp q
      by_cases z : 0 < i
      · exact Vg_nle z q2
      · have : i = 0 := by omega
        subst this
        exact Vg_nle0 (fun e1 => by subst e1; omega) q2
  | j + 1, hj => by
    obtain ⟨N, M⟩ := ug_MN hU h j (by omega)
    have N1 : ∀ c, ¬ gle (mkg [0] [U]) (Vg (j + 1) c) := fun c => by
      rw [not_gle]
      obtain ⟨x, hx, ex⟩ := Vg_exR j c
      exact Or.inr ⟨x, hx, ex.l.mpr (M _ (Or.inl (by omega)))⟩
    refine ⟨N1, fun c hc' => gle_of (fun x hx => ?_) (fun y hy q => ?_)⟩
    · rcases Vg_L hx with ⟨_, h2⟩ | ⟨k, _, rfl⟩
      · intro q
        exact N c (h2.r.mp q)
      · exact N1 k
    · rw [op_mkgR, List.mem_singleton] at hy
      subst hy
      have q2 := hU.l.mp q
      by_cases z : j + 1 < i
      · exact Vg_nle z q2
      · have : i = j + 1 := by omega
        subst this
        exact Vg_nle0 (fun e1 => by subst e1; omega) q2
theorem ug_eq {m : Nat} (hU : geq U (Vg i (m ^^^ 1))) (h : 0 < i ∨ m ^^^ 1 ≠ 0) : geq (mkg [0] [U]) (Vg (i + 1) m) := by
  obtain ⟨N, M⟩ := ug_MN hU h i (Nat.le_refl _)
  refine ⟨gle_of (fun x hx q => ?_) (fun y hy => ?_), gle_of (fun x hx => ?_) (fun y hy q => ?_)⟩
  · rw [op_mkgL, List.mem_singleton] at hx
    subst hx
    have q2 : gle (Vg (i + 1) m) (Vg 0 0) := by rw [Vg_0]; exact q
    exact Vg_nle (by omega) q2
  · rcases Vg_R hy with ⟨_, h2⟩ | ⟨k, hk, rfl⟩
    · intro q
      exact gle_R ((op_mkgR _ _ _).mpr (List.mem_singleton.mpr rfl)) (gle_tr (hU.tr h2.sy).1 q)
    · intro q
      refine gle_R ((op_mkgR _ _ _).mpr (List.mem_singleton.mpr rfl)) (gle_tr (gle_tr hU.1 (Vg_le1 (fun e1 => ?_))) q)
      have : (m ^^^ 1) ^^^ k ^^^ k = 1 ^^^ k := by rw [e1]
      rw [xor_back, Nat.xor_comm 1 k] at this
      have := x1_inj this
      omega
  · rcases Vg_L hx with ⟨_, h2⟩ | ⟨k, hk, rfl⟩
    · intro q
      exact N m (h2.r.mp q)
    · rw [not_gle]
      obtain ⟨x, hx, ex⟩ := Vg_exR i k
      exact Or.inr ⟨x, hx, ex.l.mpr (M _ (Or.inr (fun e1 => by have := x1_inj e1; omega)))⟩
  · rw [op_mkgR, List.mem_singleton] at hy
    subst hy
    obtain ⟨x, hx, ex⟩ := Vg_exR i m
    exact gle_R hx (gle_tr (ex.tr hU.sy).1 q)
theorem ug_can (hU : geq U (Vg i e)) (h : 0 < i ∨ e ≠ 0) (cU : can U) (hl : ∀ y, op U 0 y = true → ∃ c, y = hc c) : can (mkg [0] [U]) := by
  refine (can_def _).mpr ⟨fun w x hw hx => ?_, fun x y hx hy ne => ?_, fun x y hx hy ne => ?_, fun x y hx hy => ?_, fun x y hx hy => ?_⟩
  · rcases (by omega : w = 0 ∨ w = 1) with rfl | rfl
    · rw [op_mkgL, List.mem_singleton] at hx
      rw [hx]
      exact can_hc 0
    · rw [op_mkgR, List.mem_singleton] at hx
      rw [hx]
      exact cU
  · rw [op_mkgL, List.mem_singleton] at hx hy
    exact absurd (hx.trans hy.symm) ne
  · rw [op_mkgR, List.mem_singleton] at hx hy
    exact absurd (hx.trans hy.symm) ne
  · rw [op_mkgL, List.mem_singleton] at hx
    rw [hx, op_0] at hy
    cases hy
  · rw [op_mkgR, List.mem_singleton] at hx
    rw [hx] at hy
    obtain ⟨c, rfl⟩ := hl y hy
    have := (ug_MN hU h 0 (Nat.zero_le _)).1 c
    rw [Vg_0] at this
    exact this
end UG
/-- up and star -/
def ust : Nat := mkg [0, hc 1] [0]
theorem ust_L {x : Nat} : op ust 0 x = true ↔ x = 0 ∨ x = hc 1 := by unfold ust; rw [op_mkgL, List.mem_cons, List.mem_singleton]
theorem ust_R {x : Nat} : op ust 1 x = true ↔ x = 0 := by unfold ust; rw [op_mkgR, List.mem_singleton]
theorem Vg_10 : Vg 1 0 = upg := by
  unfold Vg
  rw [hc_0, gadd_0, show upn 1 = gadd 0 upg from rfl, gadd_comm, gadd_0]
theorem ust_eq : geq ust (Vg 1 1) := by
  have z : ∀ c, ¬ gle (Vg 1 1) (hc c) := fun c q => by rw [← Vg_0] at q; exact Vg_nle (by decide) q
  have h1 : op (hc 1) 0 0 = true := (op_hc (by decide)).mpr ⟨0, by decide, hc_0.symm⟩
  refine ⟨gle_of (fun x hx => ?_) (fun y hy => ?_), gle_of (fun x hx => ?_) (fun y hy q => ?_)⟩
  · rcases ust_L.mp hx with rfl | rfl
    · exact z 0
    · exact z 1
  · rcases Vg_R hy with ⟨_, h2⟩ | ⟨k, hk, rfl⟩
    · intro q
      have e : Vg (1 - 1) (1 ^^^ 1) = 0 := Vg_0 0
      rw [e] at h2
      exact gle_R (ust_R.mpr rfl) (gle_tr h2.2 q)
    · have : k = 0 := by omega
      subst this
      rw [Vg_10, not_gle]
      exact Or.inr ⟨0, ust_R.mpr rfl, up_pos⟩
  · rcases Vg_L hx with ⟨_, h2⟩ | ⟨k, hk, rfl⟩
    · intro q
      have e : Vg (1 - 1) 1 = hc 1 := Vg_0 1
      rw [e] at h2
      exact gle_L (ust_L.mpr (Or.inr rfl)) (gle_tr q h2.1)
    · have : k = 0 := by omega
      subst this
      rw [Vg_10, not_gle]
      refine Or.inr ⟨hc 1, op_upR.mpr rfl, gle_of (fun x hx => ?_) (fun y hy => ?_)⟩
      · obtain ⟨k, hk, rfl⟩ := (op_hc (by decide)).mp hx
        have : k = 0 := by omega
        subst this
        exact gle_L (ust_L.mpr (Or.inl hc_0))
      · rw [ust_R.mp hy]
        exact gle_R ((op_hc (by decide)).mpr ⟨0, by decide, hc_0.symm⟩)
  · rw [ust_R.mp hy] at q
    obtain ⟨x, hx, ex⟩ := Vg_exR 0 1
    have e : Vg 0 (1 ^^^ 1) = 0 := Vg_0 0
    rw [e] at ex
    exact gle_R hx (gle_tr ex.1 q)
theorem can_ust : can ust := by
  have h1 : op (hc 1) 0 0 = true := (op_hc (by decide)).mpr ⟨0, by decide, hc_0.symm⟩
  have h2 : op (hc 1) 1 0 = true := (op_hc (by decide)).mpr ⟨0, by decide, hc_0.symm⟩
  refine (can_def _).mpr ⟨fun w x hw hx => ?_, fun x y hx hy ne => ?_, fun x y hx hy ne => ?_, fun x y hx hy => ?_, fun x y hx hy => ?_⟩
  · rcases (by omega : w = 0 ∨ w = 1) with rfl | rfl
    · rcases ust_L.mp hx with rfl | rfl
      · exact can_hc 0
      · exact can_hc 1
    · rw [ust_R.mp hx]
      exact can_hc 0
  · rcases ust_L.mp hx with rfl | rfl <;> rcases ust_L.mp hy with rfl | rfl
    · exact absurd rfl ne
    · intro q; exact gle_R h2 q
    · intro q; exact gle_L h1 q
    · exact absurd rfl ne
  · rw [ust_R.mp hx, ust_R.mp hy] at ne
    exact absurd rfl ne
  · rcases ust_L.mp hx with rfl | rfl
    · rw [op_0] at hy; cases hy
    · obtain ⟨k, hk, rfl⟩ := (op_hc (by decide)).mp hy
      have : k = 0 := by omega
      subst this
      exact gle_R (ust_R.mpr hc_0)
  · rw [ust_R.mp hx, op_0] at hy
    cases hy
/-- i ups and a heap of m, canonical -/
def Ug : Nat → Nat → Nat
  | 0, m => hc m
  | i + 1, m => if i = 0 ∧ m = 1 then ust else mkg [0] [Ug i (m ^^^ 1)]
theorem Ug_nz {i m : Nat} (h : ¬ (i = 0 ∧ m = 1)) : 0 < i ∨ m ^^^ 1 ≠ 0 := by
  by_cases z : 0 < i
  · exact Or.inl z
  · refine Or.inr (fun e => h ⟨by omega, ?_⟩)
    have := x1 m
    rw [e] at this
    rw [← this]
    rfl
theorem Ug_ok : ∀ i m, geq (Ug i m) (Vg i m) ∧ can (Ug i m) ∧ (1 ≤ i → ∀ y, op (Ug i m) 0 y = true → ∃ c, y = hc c)
  | 0, m => ⟨by rw [Vg_0]; exact geq_rfl _, can_hc m, fun h => absurd h (by decide)⟩
  | i + 1, m => by
    obtain ⟨a, b, c⟩ := Ug_ok i (m ^^^ 1)
    unfold Ug
    by_cases z : i = 0 ∧ m = 1
    · rw [if_pos z]
      obtain ⟨rfl, rfl⟩ := z
      exact ⟨ust_eq, can_ust, fun _ y hy => (ust_L.mp hy).elim (fun h => ⟨0, h⟩) (fun h => ⟨1, h⟩)⟩
    · rw [if_neg z]
      refine ⟨ug_eq a (Ug_nz z), ug_can a (Ug_nz z) b (fun y hy => ?_), fun _ y hy => ⟨0, by rw [op_mkgL, List.mem_singleton] at hy; rw [hy, hc_0]⟩⟩
      by_cases z2 : 1 ≤ i
      · exact c z2 y hy
      · have : i = 0 := by omega
        subst this
        obtain ⟨k, _, e⟩ := (op_hc (by decide)).mp hy
        exact ⟨k, e⟩
theorem Ug_eq (i m : Nat) : geq (Ug i m) (Vg i m) := (Ug_ok i m).1
theorem can_Ug (i m : Nat) : can (Ug i m) := (Ug_ok i m).2.1
theorem Ug_10 : Ug 1 0 = upg := by
  show (if 0 = 0 ∧ 0 = 1 then ust else mkg [0] [Ug 0 (0 ^^^ 1)]) = upg
  rw [if_neg (by decide)]
  rfl
theorem x1_lt {m : Nat} (h : m < 6) : m ^^^ 1 < 6 := by
  rcases (by omega : m = 0 ∨ m = 1 ∨ m = 2 ∨ m = 3 ∨ m = 4 ∨ m = 5) with rfl | rfl | rfl | rfl | rfl | rfl <;> decide
/-- the options of one are of the family -/
theorem Ug_op {i m w x : Nat} (hw : w < 2) (hm : m < 6) (h : op (Ug i m) w x = true) : ∃ j c, j ≤ i ∧ c < 6 ∧ x = Ug j c := by
  cases i with
  | zero =>
    obtain ⟨k, hk, rfl⟩ := (op_hc hw).mp h
    exact ⟨0, k, Nat.le_refl _, by omega, rfl⟩
  | succ i =>
    unfold Ug at h
    by_cases z : i = 0 ∧ m = 1
    · rw [if_pos z] at h
      rcases (by omega : w = 0 ∨ w = 1) with rfl | rfl
      · rcases ust_L.mp h with rfl | rfl
        · exact ⟨0, 0, by omega, by decide, hc_0.symm⟩
        · exact ⟨0, 1, by omega, by decide, rfl⟩
      · rw [ust_R.mp h]
        exact ⟨0, 0, by omega, by decide, hc_0.symm⟩
    · rw [if_neg z] at h
      rcases (by omega : w = 0 ∨ w = 1) with rfl | rfl
      · rw [op_mkgL, List.mem_singleton] at h
        rw [h]
        exact ⟨0, 0, by omega, by decide, hc_0.symm⟩
      · rw [op_mkgR, List.mem_singleton] at h
        exact ⟨i, m ^^^ 1, by omega, x1_lt hm, h⟩
theorem Ug_fol : ∀ (n i m x : Nat), Ug i m ≤ n → m < 6 → fol (Ug i m) x → ∃ j c, j ≤ i ∧ c < 6 ∧ x = Ug j c
  | n, i, m, x, hn, hm, h => by
    rcases (fol_def _ x).mp h with rfl | ⟨y, hy, h3⟩
    · exact ⟨i, m, Nat.le_refl _, hm, rfl⟩
    · have : ∃ w, w < 2 ∧ op (Ug i m) w y = true := hy.elim (fun h => ⟨0, by decide, h⟩) (fun h => ⟨1, by decide, h⟩)
      obtain ⟨w, hw, ho⟩ := this
      have lt := op_lt ho
      obtain ⟨j, c, h1, h2, rfl⟩ := Ug_op hw hm ho
      match n with
      | 0 => omega
      | n + 1 =>
        obtain ⟨j2, c2, h4, h5, h6⟩ := Ug_fol n j c x (by omega) h2 h3
        exact ⟨j2, c2, by omega, h5, h6⟩
theorem up_fol {x : Nat} (h : fol upg x) : x = upg ∨ x = 0 ∨ x = hc 1 := by
  rcases (fol_def _ x).mp h with rfl | ⟨y, hy, h3⟩
  · exact Or.inl rfl
  · rcases hy with hy | hy
    · rw [op_upL.mp hy] at h3
      have := fol_le h3
      exact Or.inr (Or.inl (by omega))
    · rw [op_upR.mp hy] at h3
      rcases (fol_def _ x).mp h3 with rfl | ⟨z, hz, h4⟩
      · exact Or.inr (Or.inr rfl)
      · have : z = 0 := by
          rcases hz with hz | hz <;>
          · obtain ⟨k, hk, e⟩ := (op_hc (by decide)).mp hz
            rw [e, show k = 0 by omega, hc_0]
        rw [this] at h4
        have := fol_le h4
        exact Or.inr (Or.inl (by omega))
/-- the games that may come up -/
def UF : List Nat := (List.range 5).flatMap (fun i => (List.range 6).map (fun m => Ug i m))
theorem mem_UF {x : Nat} : x ∈ UF ↔ ∃ i m, i < 5 ∧ m < 6 ∧ x = Ug i m := by
  unfold UF
  rw [List.mem_flatMap]
  constructor
  · rintro ⟨i, hi, h⟩
    obtain ⟨m, hm, e⟩ := List.mem_map.mp h
    exact ⟨i, m, List.mem_range.mp hi, List.mem_range.mp hm, e.symm⟩
  · rintro ⟨i, m, hi, hm, e⟩
    exact ⟨i, List.mem_range.mpr hi, List.mem_map.mpr ⟨m, List.mem_range.mpr hm, e.symm⟩⟩
def UF2 : List Nat := UF ++ UF.map gneg
theorem UF_len : UF.length = 30 := by
  unfold UF
  rfl
theorem UF2_len : UF2.length = 60 := by
  unfold UF2
  rw [List.length_append, List.length_map, UF_len]
theorem bd_leq {g b : Nat} (h : ∀ x, (op g 0 x = true ∨ op g 1 x = true) → bd x + 1 ≤ b) : bd g ≤ b := by
  by_cases z : g = 0
  · rw [z, bd_0]; exact Nat.zero_le _
  · obtain ⟨x, hx, e⟩ := bd_ex z
    have := h x hx
    omega
theorem bd_Ug : ∀ i m, m < 6 → bd (Ug i m) ≤ i + 5
  | 0, m, hm => by
    show bd (hc m) ≤ _
    rw [bd_hc]; omega
  | i + 1, m, hm => by
    have ih := bd_Ug i (m ^^^ 1) (x1_lt hm)
    unfold Ug
    by_cases z : i = 0 ∧ m = 1
    · rw [if_pos z]
      refine bd_leq (fun x hx => ?_)
      have b1 := bd_hc 1
      have b0 := bd_0
      rcases hx with hx | hx
      · rcases ust_L.mp hx with rfl | rfl <;> omega
      · rw [ust_R.mp hx]; omega
    · rw [if_neg z]
      refine bd_leq (fun x hx => ?_)
      have b0 := bd_0
      rcases hx with hx | hx
      · rw [op_mkgL, List.mem_singleton] at hx; rw [hx]; omega
      · rw [op_mkgR, List.mem_singleton] at hx; rw [hx]; omega
theorem bd_neg_le : ∀ n g, g ≤ n → bd (gneg g) ≤ bd g
  | n, g, hn => bd_leq (fun x hx => by
    have : ∃ w, w < 2 ∧ op (gneg g) w x = true := hx.elim (fun h => ⟨0, by decide, h⟩) (fun h => ⟨1, by decide, h⟩)
    obtain ⟨w, hw, ho⟩ := this
    obtain ⟨y, hy, rfl⟩ := (op_gneg hw).mp ho
    have lt := op_lt hy
    have b := bd_op (by omega : 1 - w < 2) hy
    match n with
    | 0 => omega
    | n + 1 =>
      have := bd_neg_le n y (by omega)
      omega)
theorem bd_neg (g : Nat) : bd (gneg g) ≤ bd g := bd_neg_le g g (Nat.le_refl _)
theorem UF2_bd {x : Nat} (h : x ∈ UF2) : bd x ≤ 10 := by
  rcases List.mem_append.mp h with h | h
  · obtain ⟨i, m, hi, hm, rfl⟩ := mem_UF.mp h
    have := bd_Ug i m hm
    omega
  · obtain ⟨y, hy, rfl⟩ := List.mem_map.mp h
    obtain ⟨i, m, hi, hm, rfl⟩ := mem_UF.mp hy
    have := bd_Ug i m hm
    have := bd_neg (Ug i m)
    omega
theorem SI_up {j a : Nat} (hj : j < 4) (ha : a < 6) : SI UF2 (Ug j a) upg := fun x' y' hx hy K hK e => by
  obtain ⟨i, m, hi, hm, rfl⟩ := Ug_fol _ j a x' (Nat.le_refl _) ha hx
  have go : ∀ i2 m2, i2 < 5 → m2 < 6 → geq K (Vg i2 m2) → K ∈ UF2 := fun i2 m2 h1 h2 q => by
    rw [can_uniq hK (can_Ug i2 m2) (q.tr (Ug_eq i2 m2).sy)]
    exact List.mem_append_left _ (mem_UF.mpr ⟨i2, m2, h1, h2, rfl⟩)
  have e0 := Ug_eq i m
  rcases up_fol hy with rfl | rfl | rfl
  · exact go (i + 1) m (by omega) hm ((e.tr (gadd_eq e0 (geq_rfl _))).tr (Vg_up i m))
  · rw [gadd_0] at e
    exact go i m (by omega) hm (e.tr e0)
  · exact go i (m ^^^ 1) (by omega) (x1_lt hm) ((e.tr (gadd_eq e0 (geq_rfl _))).tr (Vg_star i m))
theorem UF2_neg {x : Nat} (h : x ∈ UF2) : gneg x ∈ UF2 := by
  rcases List.mem_append.mp h with h | h
  · exact List.mem_append_right _ (List.mem_map.mpr ⟨x, h, rfl⟩)
  · obtain ⟨y, hy, rfl⟩ := List.mem_map.mp h
    rw [gneg_neg]
    exact List.mem_append_left _ hy
theorem fol_gneg2 {g x : Nat} (h : fol (gneg g) x) : ∃ y, fol g y ∧ x = gneg y := ⟨gneg x, by have := fol_gneg h; rw [gneg_neg] at this; exact this, (gneg_neg x).symm⟩
theorem SI_dn {j a : Nat} (hj : j < 4) (ha : a < 6) : SI UF2 (gneg (Ug j a)) (gneg upg) := fun x' y' hx hy K hK e => by
  obtain ⟨x, fx, rfl⟩ := fol_gneg2 hx
  obtain ⟨y, fy, rfl⟩ := fol_gneg2 hy
  have e2 : geq (gneg K) (gadd x y) := by
    have := neg_eq (e.tr (neg_add x y).sy)
    rw [gneg_neg] at this
    exact this
  have := SI_up hj ha x y fx fy (gneg K) (can_gneg _ hK) e2
  have := UF2_neg this
  rw [gneg_neg] at this
  exact this
theorem NI_up : NI UF2 upg := fun x' hx K hK e => by
  have e2 : geq (gneg K) (gadd 0 x') := by
    have := neg_eq e
    rw [gneg_neg] at this
    rw [gadd_comm, gadd_0]
    exact this
  have := SI_up (j := 0) (a := 0) (by decide) (by decide) 0 x' (by show fol (hc 0) 0; rw [hc_0]; exact fol_rf _) hx (gneg K) (can_gneg _ hK) e2
  have := UF2_neg this
  rw [gneg_neg] at this
  exact this
/-! what they weigh -/
theorem fz_0 : fz 0 = 1 := by
  have h := fz_le (g := 0) (A := []) (B := []) (fun x hx => by rw [op_0] at hx; cases hx) (fun x hx => by rw [op_0] at hx; cases hx)
  have := fz_pos 0
  simp at h
  omega
theorem fz_hcl : ∀ m, 4 * ((hcl m).map fz).sum + 1 ≤ 5 ^ m ∧ fz (hc m) ≤ 5 ^ m
  | 0 => ⟨by simp [hcl], by rw [hc_0, fz_0]; decide⟩
  | m + 1 => by
    obtain ⟨a, b⟩ := fz_hcl m
    have c : 4 * ((hcl (m + 1)).map fz).sum + 1 ≤ 5 ^ (m + 1) := by
      rw [show hcl (m + 1) = hcl m ++ [hc m] from rfl, List.map_append, List.sum_append, Nat.pow_succ]
      simp only [List.map_cons, List.map_nil, List.sum_cons, List.sum_nil]
      omega
    refine ⟨c, ?_⟩
    have := fz_le (g := hc (m + 1)) (A := hcl (m + 1)) (B := hcl (m + 1)) (fun x hx => mem_hcl.mpr ((op_hc (by decide)).mp hx)) (fun x hx => mem_hcl.mpr ((op_hc (by decide)).mp hx))
    omega
theorem fz_hc {m : Nat} (h : m < 6) : fz (hc m) ≤ 3125 := Nat.le_trans (fz_hcl m).2 (Nat.pow_le_pow_right (by decide) (by omega : m ≤ 5))
theorem fz_up : fz upg ≤ 13 := by
  have := fz_le (g := upg) (A := [0]) (B := [hc 1]) (fun x hx => by rw [op_upL.mp hx]; exact List.mem_singleton.mpr rfl) (fun x hx => by rw [op_upR.mp hx]; exact List.mem_singleton.mpr rfl)
  have h1 := (fz_hcl 1).2
  have h0 := fz_0
  simp only [List.map_cons, List.map_nil, List.sum_cons, List.sum_nil] at this
  omega
theorem fz_Ug : ∀ i m, m < 6 → fz (Ug i m) + 3 ≤ 3128 * 2 ^ i
  | 0, m, hm => by
    have := fz_hc hm
    show fz (hc m) + 3 ≤ _
    omega
  | i + 1, m, hm => by
    have ih := fz_Ug i (m ^^^ 1) (x1_lt hm)
    have h0 := fz_0
    have h1 := (fz_hcl 1).2
    have p : 1 ≤ 2 ^ i := Nat.one_le_two_pow
    rw [Nat.pow_succ]
    unfold Ug
    by_cases z : i = 0 ∧ m = 1
    · rw [if_pos z]
      have := fz_le (g := ust) (A := [0, hc 1]) (B := [0]) (fun x hx => by rw [List.mem_cons, List.mem_singleton]; exact ust_L.mp hx) (fun x hx => by rw [ust_R.mp hx]; exact List.mem_singleton.mpr rfl)
      simp only [List.map_cons, List.map_nil, List.sum_cons, List.sum_nil] at this
      omega
    · rw [if_neg z]
      have := fz_le (g := mkg [0] [Ug i (m ^^^ 1)]) (A := [0]) (B := [Ug i (m ^^^ 1)]) (fun x hx => (op_mkgL _ _ _).mp hx) (fun x hx => (op_mkgR _ _ _).mp hx)
      simp only [List.map_cons, List.map_nil, List.sum_cons, List.sum_nil] at this
      omega
theorem fz_neg_le : ∀ n g, g ≤ n → fz (gneg g) ≤ fz g
  | n, g, hn => by
    have mp : ∀ w, w < 2 → (((opts g (1 - w)).map gneg).map fz).sum ≤ ((opts g (1 - w)).map fz).sum := fun w hw => by
      have : ∀ L : List Nat, (∀ x, x ∈ L → fz (gneg x) ≤ fz x) → ((L.map gneg).map fz).sum ≤ (L.map fz).sum := fun L => by
        induction L with
        | nil => intro _; exact Nat.le_refl _
        | cons x L ih =>
          intro h
          have h1 := h x (List.mem_cons_self ..)
          have h2 := ih (fun y hy => h y (List.mem_cons_of_mem _ hy))
          simp only [List.map_cons, List.sum_cons]
          omega
      refine this _ (fun x hx => ?_)
      have lt := op_lt (mem_opts.mp hx)
      match n with
      | 0 => omega
      | n + 1 => exact fz_neg_le n x (by omega)
    have q := fz_le (g := gneg g) (A := (opts g 1).map gneg) (B := (opts g 0).map gneg) (fun x hx => by
      obtain ⟨y, hy, rfl⟩ := (op_gneg (by decide)).mp hx
      exact List.mem_map.mpr ⟨y, mem_opts.mpr hy, rfl⟩) (fun x hx => by
      obtain ⟨y, hy, rfl⟩ := (op_gneg (by decide)).mp hx
      exact List.mem_map.mpr ⟨y, mem_opts.mpr hy, rfl⟩)
    have a := mp 0 (by decide)
    have b := mp 1 (by decide)
    have c := fz_def g
    simp only [Nat.sub_zero, Nat.sub_self] at a b
    omega
theorem fz_neg (g : Nat) : fz (gneg g) ≤ fz g := fz_neg_le g g (Nat.le_refl _)
