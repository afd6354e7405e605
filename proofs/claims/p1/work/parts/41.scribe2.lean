/-! THE SCRIBE: heaps -/
theorem bitCount_eq {n x : Nat} {m : Mem} (hx : x < 1024) : f_J6_bitCount_0f7a4 n (x : Int) m = some ((pcnt x : Int), m) := by
  have h := bc_all ⟨x, hx⟩
  show some (bcI (x : Int), m) = _
  rw [h]
theorem nodup_map {f : Nat → Nat} : ∀ {l : List Nat}, l.Nodup → (∀ x, x ∈ l → ∀ y, y ∈ l → f x = f y → x = y) → (l.map f).Nodup
  | [], _, _ => List.nodup_nil
  | a :: l, h, hi => by
    have h1 := List.nodup_cons.mp h
    refine List.nodup_cons.mpr ⟨fun hm => ?_, nodup_map h1.2 (fun x hx y hy => hi x (List.mem_cons_of_mem _ hx) y (List.mem_cons_of_mem _ hy))⟩
    obtain ⟨b, hb, e⟩ := List.mem_map.mp hm
    have := hi b (List.mem_cons_of_mem _ hb) a List.mem_cons_self e
    rw [this] at hb
    exact h1.1 hb
theorem nodup_hcl : ∀ n, (hcl n).Nodup := by
  intro n
  induction n with
  | zero => exact List.nodup_nil
  | succ n ih =>
    show (hcl n ++ [hc n]).Nodup
    refine List.nodup_append.mpr ⟨ih, List.nodup_cons.mpr ⟨List.not_mem_nil, List.nodup_nil⟩, fun a ha b hb => ?_⟩
    rw [List.mem_singleton.mp hb]
    intro e
    obtain ⟨k, h1, h2⟩ := mem_hcl.mp ha
    rw [e] at h2
    have := hc_inj h2
    omega
/-- a heap's number, or -1 -/
def hpv (g : Nat) : Int := if g = hc (bd g) then (bd g : Int) else -1
theorem hpv_hc (k : Nat) : hpv (hc k) = (k : Int) := by
  unfold hpv
  rw [bd_hc, if_pos rfl]
theorem hpv_nn {g : Nat} (h : 0 ≤ hpv g) : g = hc (bd g) ∧ hpv g = (bd g : Int) := by
  unfold hpv at h ⊢
  by_cases q : g = hc (bd g)
  · rw [if_pos q]; exact ⟨q, rfl⟩
  · rw [if_neg q] at h; omega
/-- the games differ -/
def Inj (d : Nat → Nat) (f : Nat) : Prop := ∀ a, a < f → ∀ b, b < f → d a = d b → a = b
theorem mask_list {d : Nat → Nat} {f w x : Nat} (hw : w < 2) (hm : Mask d f w x) (hA : Ahead d f) (hf : f ≤ 10) (hI : Inj d f) : ((fr (fun g => x.testBit g) 10).map d).Nodup ∧ (∀ y, y ∈ (fr (fun g => x.testBit g) 10).map d ↔ op (d f) w y = true) ∧ ((fr (fun g => x.testBit g) 10).map d).length = pcnt x := by
  refine ⟨nodup_map (nodup_fr _ _) (fun a ha b hb => ?_), fun y => ?_, List.length_map ..⟩
  · exact hI a ((hm.2 a).mp (mem_fr.mp ha).2).1 b ((hm.2 b).mp (mem_fr.mp hb).2).1
  · rw [List.mem_map]
    constructor
    · rintro ⟨g, h1, rfl⟩
      exact ((hm.2 g).mp (mem_fr.mp h1).2).2
    · intro h
      obtain ⟨g, h1, rfl⟩ := hA w hw y h
      exact ⟨g, mem_fr.mpr ⟨by omega, (hm.2 g).mpr ⟨h1, h⟩⟩, rfl⟩
theorem heapOf_ok {n f xl xr : Nat} {m : Mem} {d : Nat → Nat} (hn : 300 < n) (hf : f < 10) (hl : mGet m 20 f = (xl : Int)) (hr : mGet m 21 f = (xr : Int)) (ml : Mask d f 0 xl) (mr : Mask d f 1 xr) (hh : ∀ g, g < f → mGet m 23 g = hpv (d g)) (hA : Ahead d f) (hI : Inj d f) : Ok (f_X4_heapOf n (f : Int) m) (fun a m' => m' = m ∧ a = hpv (d f)) := by
  have p10 := p2_10 (show f ≤ 10 by omega)
  have b1 := ml.1
  have b2 := mr.1
  obtain ⟨l1, l2, l3⟩ := mask_list (by decide) ml hA (by omega) hI
  obtain ⟨r1, r2, r3⟩ := mask_list (by decide) mr hA (by omega) hI
  have isH : ∀ k, d f = hc k → pcnt xl = k := by
    intro k e
    rw [← l3, ← hcl_len k]
    refine nodup_len l1 (nodup_hcl k) (fun x => ?_)
    rw [l2, e, op_hc (by decide), mem_hcl]
  unfold f_X4_heapOf
  dsimp only [jn]
  rw [if_neg (by omega), if_pos (by omega), ldI_ok (kI20 _ (by decide)) hf, ldI_ok (kI20 _ (by decide)) hf, hl, hr]
  by_cases e : xl = xr
  · rw [if_pos (by rw [e]), ldI_ok (kI20 _ (by decide)) hf, hl]
    refine ok_calE (bitCount_eq (by omega)) ?_
    refine ok_up1 f (fun i m1 => m1 = m ∧ ∀ g, g < i → xl.testBit g = true → 0 ≤ hpv (d g) ∧ hpv (d g) < (pcnt xl : Int)) (fun w1 i m1 hi hI1 hw1 => ?_) (fun w1 m1 hI1 => ?_) n 0 m (Nat.zero_le _) ⟨rfl, fun g h => absurd h (Nat.not_lt_zero _)⟩ (by omega)
    · obtain ⟨rfl, i1⟩ := hI1
      rw [if_pos (by omega), ldI_ok (kI20 _ (by decide)) hf, hl, k_1 (by omega)]
      refine ok_ite (fun q => ?_) (fun q => ?_)
      · have hz := (ibit0 (by omega) (by omega)).mp q
        refine hw1 _ ⟨rfl, fun g hg hb => ?_⟩
        rcases (by omega : g < i ∨ g = i) with h3 | rfl
        · exact i1 g h3 hb
        · rw [hz] at hb; cases hb
      · have hz : xl.testBit i = true := by
          cases e2 : xl.testBit i
          · exact absurd ((ibit0 (by omega) (by omega)).mpr e2) q
          · rfl
        have ho := ((ml.2 i).mp hz).2
        rw [ldI_ok (kI20 _ (by decide)) (by omega), hh i hi]
        have bad : ¬ (0 ≤ hpv (d i) ∧ hpv (d i) < (pcnt xl : Int)) → (-1 : Int) = hpv (d f) := by
          intro hb
          unfold hpv
          by_cases q2 : d f = hc (bd (d f))
          · rw [q2] at ho
            obtain ⟨k, h1, h2⟩ := (op_hc (by decide)).mp ho
            have h3 := isH _ q2
            rw [h2, hpv_hc] at hb
            omega
          · rw [if_neg q2]
        by_cases q1 : hpv (d i) < 0
        · rw [if_pos q1]
          exact ok_rt ⟨rfl, bad (by omega)⟩
        · rw [if_neg q1, ldI_ok (kI20 _ (by decide)) (by omega), hh i hi]
          by_cases q2 : hpv (d i) < (pcnt xl : Int)
          · rw [if_pos q2]
            refine hw1 _ ⟨rfl, fun g hg hb => ?_⟩
            rcases (by omega : g < i ∨ g = i) with h3 | rfl
            · exact i1 g h3 hb
            · exact ⟨by omega, q2⟩
          · rw [if_neg q2]
            exact ok_rt ⟨rfl, bad (by omega)⟩
    · obtain ⟨rfl, i1⟩ := hI1
      rw [if_neg (by omega)]
      refine ok_rt ⟨rfl, ?_⟩
      have hall : ∀ x, (x ∈ (fr (fun g => xl.testBit g) 10).map d ∨ x ∈ (fr (fun g => xr.testBit g) 10).map d) → ∃ k, k < pcnt xl ∧ x = hc k := by
        rw [← e]
        intro x hx
        obtain ⟨g, h1, rfl⟩ := List.mem_map.mp (hx.elim id id)
        have hb := (mem_fr.mp h1).2
        obtain ⟨h2, h3⟩ := i1 g ((ml.2 g).mp hb).1 hb
        obtain ⟨h4, h5⟩ := hpv_nn h2
        exact ⟨bd (d g), by omega, h4⟩
      rw [hc_of l2 r2 l1 r1 l3 (by rw [r3, e]) hall, hpv_hc]
  · rw [if_neg (by omega)]
    refine ok_rt ⟨rfl, ?_⟩
    unfold hpv
    by_cases q2 : d f = hc (bd (d f))
    · refine absurd ?_ e
      apply Nat.eq_of_testBit_eq
      intro g
      apply Bool.eq_iff_iff.mpr
      rw [ml.2, mr.2, q2, op_hc (by decide), op_hc (by decide)]
    · rw [if_neg q2]

