/-! THE TABLE: what turns back is passed by -/
def BIG : Nat := 2 ^ 200
theorem BIG_m {n : Nat} (h : BIG < n) : 300000 < n := Nat.lt_trans (by decide +kernel) h
theorem BIG_n {n : Nat} (h : BIG < n) : 3000 < n := Nat.lt_trans (by decide +kernel) h
def codeP (p : Nat → Bool) : Nat → Nat
  | 0 => 0
  | i + 1 => codeP p i + if p i then 2 ^ i else 0
theorem code_lt (p : Nat → Bool) : ∀ i, codeP p i < 2 ^ i
  | 0 => Nat.one_pos
  | i + 1 => by
    have := code_lt p i
    show codeP p i + (if p i then 2 ^ i else 0) < 2 ^ (i + 1)
    rw [Nat.pow_succ]
    by_cases h : p i
    · rw [if_pos h]; omega
    · rw [if_neg h]; omega
theorem code_dec {p q : Nat → Bool} {g : Nat} (hp : p g = true) (hq : q g = false) : ∀ i, g < i → (∀ x, g < x → x < i → q x = true → p x = true) → codeP q i < codeP p i
  | 0, h, _ => absurd h (Nat.not_lt_zero _)
  | i + 1, h, e => by
    show codeP q i + (if q i then 2 ^ i else 0) < codeP p i + (if p i then 2 ^ i else 0)
    by_cases k : g = i
    · subst k
      have := code_lt q g
      rw [hp, hq, if_pos rfl, if_neg (by decide)]
      omega
    · have ih := code_dec hp hq i (by omega) (fun x h1 h2 => e x h1 (by omega))
      cases a : q i
      · rw [if_neg (by decide)]
        omega
      · rw [e i (by omega) (by omega) a, if_pos rfl]
        omega
theorem gd {l : List Nat} {j : Nat} (h : j < l.length) : l.getD j 0 = l[j] := by rw [List.getD_eq_getElem?_getD, List.getElem?_eq_getElem h]; rfl
theorem nodup_ix {l : List Nat} (h : l.Nodup) {i j : Nat} (hi : i < l.length) (hj : j < l.length) (e : l[i] = l[j]) : i = j := by
  rcases (by omega : i < j ∨ i = j ∨ j < i) with q | q | q
  · exact absurd e (List.pairwise_iff_getElem.mp h i j hi hj q)
  · exact q
  · exact absurd e.symm (List.pairwise_iff_getElem.mp h j i hj hi q)
theorem mem_dropx {l : List Nat} {k x : Nat} : x ∈ l.drop k ↔ ∃ j, ∃ h : j < l.length, k ≤ j ∧ l[j] = x := by
  rw [List.mem_iff_getElem]
  constructor
  · rintro ⟨i, hi, e⟩
    rw [List.length_drop] at hi
    rw [List.getElem_drop] at e
    exact ⟨k + i, by omega, by omega, e⟩
  · rintro ⟨j, hj, hk, e⟩
    refine ⟨j - k, by rw [List.length_drop]; omega, ?_⟩
    rw [List.getElem_drop]
    have : k + (j - k) = j := by omega
    simp only [this]
    exact e
/-- the last one in the place of another one -/
def rm (l : List Nat) (k : Nat) : List Nat := (List.range (l.length - 1)).map (fun j => if j = k then l.getD (l.length - 1) 0 else l.getD j 0)
theorem rm_len (l : List Nat) (k : Nat) : (rm l k).length = l.length - 1 := by
  unfold rm
  rw [List.length_map, List.length_range]
theorem rm_get {l : List Nat} {k j : Nat} (h : j < (rm l k).length) : (rm l k)[j] = if j = k then l.getD (l.length - 1) 0 else l.getD j 0 := by
  simp only [rm, List.getElem_map, List.getElem_range]
theorem rm_mem {l : List Nat} {k x : Nat} (hk : k < l.length) (nd : l.Nodup) : x ∈ rm l k ↔ x ∈ l ∧ x ≠ l[k] := by
  constructor
  · intro h
    obtain ⟨j, hj, e⟩ := List.mem_iff_getElem.mp h
    rw [rm_get] at e
    rw [rm_len] at hj
    by_cases q : j = k
    · rw [if_pos q, gd (by omega)] at e
      refine ⟨e ▸ List.getElem_mem _, fun z => ?_⟩
      have := nodup_ix nd (by omega) hk (e.trans z)
      omega
    · rw [if_neg q, gd (by omega)] at e
      refine ⟨e ▸ List.getElem_mem _, fun z => ?_⟩
      have := nodup_ix nd (by omega) hk (e.trans z)
      omega
  · rintro ⟨h, ne⟩
    obtain ⟨j, hj, e⟩ := List.mem_iff_getElem.mp h
    have jk : j ≠ k := fun q => ne (by subst q; exact e.symm)
    by_cases q : j = l.length - 1
    · refine List.mem_iff_getElem.mpr ⟨k, by rw [rm_len]; omega, ?_⟩
      rw [rm_get, if_pos rfl, gd (by omega)]
      subst q
      exact e
    · refine List.mem_iff_getElem.mpr ⟨j, by rw [rm_len]; omega, ?_⟩
      rw [rm_get, if_neg jk, gd hj]
      exact e
theorem rm_nodup {l : List Nat} {k : Nat} (hk : k < l.length) (nd : l.Nodup) : (rm l k).Nodup := by
  refine List.pairwise_iff_getElem.mpr (fun i j hi hj hij e => ?_)
  rw [rm_get, rm_get] at e
  rw [rm_len] at hi hj
  by_cases q : i = k <;> by_cases q2 : j = k
  · omega
  · rw [if_pos q, if_neg q2, gd (by omega), gd (by omega)] at e
    have := nodup_ix nd (by omega) (by omega) e
    omega
  · rw [if_neg q, if_pos q2, gd (by omega), gd (by omega)] at e
    have := nodup_ix nd (by omega) (by omega) e
    omega
  · rw [if_neg q, if_neg q2, gd (by omega), gd (by omega)] at e
    have := nodup_ix nd (by omega) (by omega) e
    omega
theorem rm_drop {l : List Nat} {k x : Nat} (hk : k < l.length) (h : x ∈ (rm l k).drop k) : x ∈ l.drop (k + 1) := by
  obtain ⟨j, hj, kj, e⟩ := mem_dropx.mp h
  rw [rm_get] at e
  rw [rm_len] at hj
  by_cases q : j = k
  · rw [if_pos q, gd (by omega)] at e
    exact mem_dropx.mpr ⟨l.length - 1, by omega, by omega, e⟩
  · rw [if_neg q, gd (by omega)] at e
    exact mem_dropx.mpr ⟨j, by omega, by omega, e⟩
theorem rm_take {l : List Nat} {k x : Nat} (hk : k < l.length) (h : x ∈ (rm l k).take k) : x ∈ l.take k := by
  obtain ⟨j, hj, e⟩ := List.mem_iff_getElem.mp h
  rw [List.length_take, rm_len] at hj
  rw [List.getElem_take, rm_get, if_neg (by omega), gd (by omega)] at e
  exact List.mem_iff_getElem.mpr ⟨j, by rw [List.length_take]; omega, by rw [List.getElem_take]; exact e⟩
theorem take_rm {l : List Nat} {k x : Nat} (hk : k < l.length) (h : x ∈ l.take k) : x ∈ (rm l k).take k := by
  obtain ⟨j, hj, e⟩ := List.mem_iff_getElem.mp h
  rw [List.length_take] at hj
  rw [List.getElem_take] at e
  exact List.mem_iff_getElem.mpr ⟨j, by rw [List.length_take, rm_len]; omega, by rw [List.getElem_take, rm_get, if_neg (by omega), gd (by omega)]; exact e⟩
/-- the memory behind: left, right -/
theorem Hd.rmL {l r : List Nat} {k : Nat} {m : Mem} (H : Hd m l r) (hk : k < l.length) (b : ∀ o, o ∈ l → o < 2147483648) : ∃ m38, m38 = mSet m 100 23 (w32 ((l.length : Int) - 1)) ∧ mGet m38 100 23 = ((l.length - 1 : Nat) : Int) ∧ mGet m38 120 (l.length - 1) = (l.getD (l.length - 1) 0 : Int) ∧ Hd (mSet m38 120 k (l.getD (l.length - 1) 0 : Int)) (rm l k) r := by
  obtain ⟨q1, q2, q3, q4, q5, q6⟩ := H
  have e1 : w32 ((l.length : Int) - 1) = ((l.length - 1 : Nat) : Int) := by
    rw [show (l.length : Int) - 1 = ((l.length - 1 : Nat) : Int) by omega]
    exact w32_nat (by omega)
  have bl := b _ (List.getElem_mem (show l.length - 1 < l.length by omega))
  have g1 : ∀ a i, mGet (mSet m 100 23 (w32 ((l.length : Int) - 1))) a i = if a = 100 ∧ i = 23 then ((l.length - 1 : Nat) : Int) else mGet m a i := fun a i => by
    rw [mGet_mSet, e1, w32_nat (by omega)]
  have gl : mGet m 120 (l.length - 1) = (l.getD (l.length - 1) 0 : Int) := by
    have := q3 (l.length - 1) (by omega)
    rw [Nat.zero_add] at this
    rw [this, gd (by omega)]
  have g2 : ∀ a i, mGet (mSet (mSet m 100 23 (w32 ((l.length : Int) - 1))) 120 k (l.getD (l.length - 1) 0 : Int)) a i = if a = 120 ∧ i = k then (l.getD (l.length - 1) 0 : Int) else if a = 100 ∧ i = 23 then ((l.length - 1 : Nat) : Int) else mGet m a i := fun a i => by
    rw [mGet_mSet, g1, w32_nat (by rw [gd (by omega)]; exact bl)]
  refine ⟨_, rfl, by rw [g1, if_pos ⟨rfl, rfl⟩], by rw [g1, if_neg (by omega)]; exact gl, ?_, ?_, fun j hj => ?_, ?_, by rw [rm_len]; omega, q6⟩
  · rw [g2, if_neg (by omega), if_pos ⟨rfl, rfl⟩, rm_len]
  · rw [g2, if_neg (by omega), if_neg (by omega)]; exact q2
  · rw [rm_get, Nat.zero_add, g2]
    rw [rm_len] at hj
    by_cases q : j = k
    · rw [if_pos ⟨rfl, q⟩, if_pos q]
    · rw [if_neg (fun z => q z.2), if_neg (by omega), if_neg q, gd (by omega)]
      have := q3 j (by omega)
      rw [Nat.zero_add] at this
      exact this
  · exact q4.ext (fun j _ => by rw [g2, if_neg (by omega), if_neg (by omega)])
theorem Hd.rmR {l r : List Nat} {k : Nat} {m : Mem} (H : Hd m l r) (hk : k < r.length) (b : ∀ o, o ∈ r → o < 2147483648) : ∃ m38, m38 = mSet m 100 24 (w32 ((r.length : Int) - 1)) ∧ mGet m38 100 24 = ((r.length - 1 : Nat) : Int) ∧ mGet m38 121 (r.length - 1) = (r.getD (r.length - 1) 0 : Int) ∧ Hd (mSet m38 121 k (r.getD (r.length - 1) 0 : Int)) l (rm r k) := by
  obtain ⟨q1, q2, q3, q4, q5, q6⟩ := H
  have e1 : w32 ((r.length : Int) - 1) = ((r.length - 1 : Nat) : Int) := by
    rw [show (r.length : Int) - 1 = ((r.length - 1 : Nat) : Int) by omega]
    exact w32_nat (by omega)
  have bl := b _ (List.getElem_mem (show r.length - 1 < r.length by omega))
  have g1 : ∀ a i, mGet (mSet m 100 24 (w32 ((r.length : Int) - 1))) a i = if a = 100 ∧ i = 24 then ((r.length - 1 : Nat) : Int) else mGet m a i := fun a i => by
    rw [mGet_mSet, e1, w32_nat (by omega)]
  have gl : mGet m 121 (r.length - 1) = (r.getD (r.length - 1) 0 : Int) := by
    have := q4 (r.length - 1) (by omega)
    rw [Nat.zero_add] at this
    rw [this, gd (by omega)]
  have g2 : ∀ a i, mGet (mSet (mSet m 100 24 (w32 ((r.length : Int) - 1))) 121 k (r.getD (r.length - 1) 0 : Int)) a i = if a = 121 ∧ i = k then (r.getD (r.length - 1) 0 : Int) else if a = 100 ∧ i = 24 then ((r.length - 1 : Nat) : Int) else mGet m a i := fun a i => by
    rw [mGet_mSet, g1, w32_nat (by rw [gd (by omega)]; exact bl)]
  refine ⟨_, rfl, by rw [g1, if_pos ⟨rfl, rfl⟩], by rw [g1, if_neg (by omega)]; exact gl, ?_, ?_, ?_, fun j hj => ?_, q5, by rw [rm_len]; omega⟩
  · rw [g2, if_neg (by omega), if_neg (by omega)]; exact q1
  · rw [g2, if_neg (by omega), if_pos ⟨rfl, rfl⟩, rm_len]
  · exact q3.ext (fun j _ => by rw [g2, if_neg (by omega), if_neg (by omega)])
  · rw [rm_get, Nat.zero_add, g2]
    rw [rm_len] at hj
    by_cases q : j = k
    · rw [if_pos ⟨rfl, q⟩, if_pos q]
    · rw [if_neg (fun z => q z.2), if_neg (by omega), if_neg q, gd (by omega)]
      have := q4 j (by omega)
      rw [Nat.zero_add] at this
      exact this
