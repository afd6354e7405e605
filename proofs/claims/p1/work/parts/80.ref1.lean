/-! THE TABLE: loops over a row, small programs, its hash -/
theorem ok_nm {x : Int} {K : Int → Option Rz} {Q : Int → Mem → Prop} (h : Ok (K x) Q) : Ok (nm x K) Q := h
theorem gtF_eq (m : Mem) (a i : Nat) (K : Int → Option Rz) : gtF m a i K = K (mGet m a i) := rfl
theorem ptF_eq (m : Mem) (a i : Nat) (v : Int) (K : Mem → Option Rz) : ptF m a i v K = K (mSet m a i v) := rfl
theorem rb_f : b2i false = 0 := rfl
theorem rk_eq {X : Option Rz} {v : Int} {m : Mem} (h : Ok X (fun v' m' => v' = v ∧ m' = m)) : X = some (v, m) := by
  obtain ⟨v', m', e, rfl, rfl⟩ := h
  exact e
theorem ok_row2 {body : (Int → Int → Mem → Option Rz) → Int → Int → Mem → Option Rz} {Q : Int → Mem → Prop} (s L : Nat) (I : Nat → Int → Mem → Prop) (hstep : ∀ (w : Int → Int → Mem → Option Rz) (k : Nat) a m, k < L → I k a m → (∀ a' m', I (k + 1) a' m' → Ok (w a' ((s + (k + 1) : Nat) : Int) m') Q) → Ok (body w a ((s + k : Nat) : Int) m) Q) (hend : ∀ (w : Int → Int → Mem → Option Rz) a m, I L a m → Ok (body w a ((s + L : Nat) : Int) m) Q) : ∀ (n k : Nat) a m, k ≤ L → I k a m → L - k < n → Ok (lp (F := Int → Int → Mem → Option Rz) (fun _ _ _ => none) body n a ((s + k : Nat) : Int) m) Q
  | 0, k, a, m, _, _, hn => absurd hn (Nat.not_lt_zero _)
  | n + 1, k, a, m, hi, h, hn => by
    by_cases hN : k < L
    · exact hstep _ k a m hN h (fun a' m' h' => ok_row2 s L I hstep hend n (k + 1) a' m' (by omega) h' (by omega))
    · have e : k = L := by omega
      subst e
      exact hend _ a m h
theorem ok_row1 {body : (Int → Mem → Option Rz) → Int → Mem → Option Rz} {Q : Int → Mem → Prop} (s L : Nat) (I : Nat → Mem → Prop) (hstep : ∀ (w : Int → Mem → Option Rz) (k : Nat) m, k < L → I k m → (∀ m', I (k + 1) m' → Ok (w ((s + (k + 1) : Nat) : Int) m') Q) → Ok (body w ((s + k : Nat) : Int) m) Q) (hend : ∀ (w : Int → Mem → Option Rz) m, I L m → Ok (body w ((s + L : Nat) : Int) m) Q) : ∀ (n k : Nat) m, k ≤ L → I k m → L - k < n → Ok (lp (F := Int → Mem → Option Rz) (fun _ _ => none) body n ((s + k : Nat) : Int) m) Q
  | 0, k, m, _, _, hn => absurd hn (Nat.not_lt_zero _)
  | n + 1, k, m, hi, h, hn => by
    by_cases hN : k < L
    · exact hstep _ k m hN h (fun m' h' => ok_row1 s L I hstep hend n (k + 1) m' (by omega) h' (by omega))
    · have e : k = L := by omega
      subst e
      exact hend _ m h
theorem ldZ_ok {m : Mem} {a len i : Nat} {K : Int → Option Rz} (hk : sKind m a = (4, len)) (hi : i < len) : ldZ m a (i : Int) K = K (mGet m a i) := by
  unfold ldZ
  rw [hk, if_pos ⟨rfl, by omega, by show (i : Int) < (len : Int); omega⟩, Int.toNat_natCast]
theorem stZ_ok {m : Mem} {a len i : Nat} {v : Int} {K : Mem → Option Rz} (hk : sKind m a = (4, len)) (hi : i < len) (hv : v = 0 ∨ v = 1) : stZ m a (i : Int) v K = K (mSet m a i v) := by
  unfold stZ
  rw [hk, if_pos ⟨rfl, by omega, by show (i : Int) < (len : Int); omega, hv⟩, Int.toNat_natCast]
theorem w32_s {s k : Nat} (h : s + k + 1 < 2147483648) : w32 (((s + k : Nat) : Int) + 1) = ((s + (k + 1) : Nat) : Int) := by
  rw [show ((s + k : Nat) : Int) + 1 = ((s + (k + 1) : Nat) : Int) by omega]
  exact w32_nat (by omega)
theorem w32_1 {k : Nat} (h : k + 1 < 2147483648) : w32 ((k : Int) + 1) = ((k + 1 : Nat) : Int) := by
  rw [show (k : Int) + 1 = ((k + 1 : Nat) : Int) by omega]
  exact w32_nat (by omega)
theorem w32_m1 {k : Nat} (h : k + 1 < 2147483648) : w32 (((k + 1 : Nat) : Int) - 1) = (k : Int) := by
  rw [show ((k + 1 : Nat) : Int) - 1 = (k : Int) by omega]
  exact w32_nat (by omega)
theorem w32_bm (x : Int) : w32 x = x.bmod 4294967296 := Int32.toInt_ofInt
theorem w32_add (x y : Int) : w32 (w32 x + y) = w32 (x + y) := by
  rw [w32_bm, w32_bm, w32_bm, Int.bmod_add_bmod]
theorem w32_add2 (x y : Int) : w32 (x + w32 y) = w32 (x + y) := by rw [Int.add_comm, w32_add, Int.add_comm]
theorem rb_01 (b : Bool) : b2i b = 0 ∨ b2i b = 1 := by cases b; exact Or.inl rfl; exact Or.inr rfl
theorem rb_0 {b : Bool} : b2i b = 0 ↔ b = false := by cases b <;> decide
theorem b2i_1 {b : Bool} : b2i b = 1 ↔ b = true := by cases b <;> decide
/-- what an array of ints shows from a place on -/
def Row (m : Mem) (a s : Nat) (l : List Nat) : Prop := ∀ k (h : k < l.length), mGet m a (s + k) = (l[k] : Int)
theorem Row.ext {m m' : Mem} {a s : Nat} {l : List Nat} (h : Row m a s l) (e : ∀ k, k < l.length → mGet m' a (s + k) = mGet m a (s + k)) : Row m' a s l := fun k hk => (e k hk).trans (h k hk)
theorem in_eq {n : Nat} {x a b : Int} {m : Mem} : f_X11_in n x a b m = some (b2i (decide (a ≤ x ∧ x ≤ b)), m) := by
  unfold f_X11_in
  dsimp only [jn]
  by_cases h1 : x < a
  · rw [if_pos h1, decide_eq_false (by omega)]; rfl
  · by_cases h2 : b < x
    · rw [if_neg h1, if_pos h2, decide_eq_false (by omega)]; rfl
    · rw [if_neg h1, if_neg h2, decide_eq_true (by omega)]; rfl
def sp (z : Int) : Int := ixor (w32 (z * (-1640531527))) (iushr (w32 (z * (-1640531527))) 15)
theorem spread_eq {n : Nat} {z : Int} {m : Mem} : f_X11_spread n z m = some (sp z, m) := rfl
theorem rhas_eq {n a len s : Nat} {v : Nat} {l : List Nat} {m : Mem} (hk : sKind m a = (1, len)) (hl : s + l.length ≤ len) (hL : len < 2147483648) (R : Row m a s l) (hn : l.length < n) : f_X11_has n a (s : Int) ((s + l.length : Nat) : Int) (v : Int) m = some (b2i (l.contains v), m) := by
  apply rk_eq
  unfold f_X11_has
  dsimp only [jn]
  refine ok_row2 s l.length (fun k a' m' => m' = m ∧ a' = b2i ((l.take k).contains v)) (fun w k a' m' hk' hI hw => ?_) (fun w a' m' hI => ?_) n 0 0 m (Nat.zero_le _) ⟨rfl, rfl⟩ (by omega)
  · obtain ⟨rfl, rfl⟩ := hI
    rw [if_pos (by omega)]
    have tk : l.take (k + 1) = l.take k ++ [l[k]] := by rw [List.take_succ, List.getElem?_eq_getElem hk']; rfl
    cases e : (l.take k).contains v with
    | true =>
      rw [if_neg (by decide)]
      refine ok_rtZ (Or.inr rfl) ⟨?_, rfl⟩
      have : l.contains v = true := List.contains_iff_mem.mpr (List.mem_of_mem_take (List.contains_iff_mem.mp e))
      rw [this]
    | false =>
      rw [if_pos (show b2i false = 0 from rfl), ldI_ok hk (by omega), R k hk']
      have c1 : (l.take (k + 1)).contains v = decide (l[k] = v) := by
        rw [tk]
        apply Bool.eq_iff_iff.mpr
        rw [List.contains_iff_mem, List.mem_append, List.mem_singleton, decide_eq_true_eq]
        constructor
        · rintro (h | h)
          · rw [List.contains_iff_mem.mpr h] at e; cases e
          · exact h.symm
        · exact fun h => Or.inr h.symm
      by_cases q : l[k] = v
      · rw [if_pos (by omega), w32_s (by omega)]
        exact hw 1 m' ⟨rfl, by rw [c1, decide_eq_true q]; rfl⟩
      · rw [if_neg (by omega), w32_s (by omega)]
        exact hw 0 m' ⟨rfl, by rw [c1, decide_eq_false q]; rfl⟩
  · obtain ⟨rfl, rfl⟩ := hI
    rw [if_neg (by omega), List.take_length]
    exact ok_rtZ (rb_01 _) ⟨rfl, rfl⟩
/-! the hash of the options at hand -/
def hsL (l : List Nat) : Int := (l.map (fun o : Nat => sp (w32 ((o : Int) + 1)))).sum
def hsR (r : List Nat) : Int := (r.map (fun o : Nat => w32 (31 * sp (w32 ((o : Int) + 1))))).sum
def hs (l r : List Nat) : Int := iand (sp (w32 (hsL l + hsR r))) 16383
theorem hs_bd (l r : List Nat) : 0 ≤ hs l r ∧ hs l r < 16384 := by
  unfold hs
  have := iand_mask (sp (w32 (hsL l + hsR r))) 14 (by decide)
  rw [show ((2 ^ 14 - 1 : Nat) : Int) = 16383 from rfl, show ((2 ^ 14 : Nat) : Int) = 16384 from rfl] at this
  rw [this]
  omega
theorem sum_app (l : List Int) (x : Int) : (l ++ [x]).sum = l.sum + x := by
  rw [List.sum_append]
  simp
theorem sum_perm {l l2 : List Int} (h : l.Perm l2) : l.sum = l2.sum := by
  induction h with
  | nil => rfl
  | cons x _ ih => rw [List.sum_cons, List.sum_cons, ih]
  | swap x y l => rw [List.sum_cons, List.sum_cons, List.sum_cons, List.sum_cons]; omega
  | trans _ _ h1 h2 => rw [h1, h2]
theorem hs_perm {l l2 r r2 : List Nat} (h1 : l.Perm l2) (h2 : r.Perm r2) : hs l r = hs l2 r2 := by
  unfold hs hsL hsR
  rw [sum_perm (h1.map _), sum_perm (h2.map _)]
theorem take_s {l : List Nat} {k : Nat} (h : k < l.length) : l.take (k + 1) = l.take k ++ [l[k]] := by rw [List.take_succ, List.getElem?_eq_getElem h]; rfl
/-- the options at hand -/
def Hd (m : Mem) (l r : List Nat) : Prop := mGet m 100 23 = (l.length : Int) ∧ mGet m 100 24 = (r.length : Int) ∧ Row m 120 0 l ∧ Row m 121 0 r ∧ l.length ≤ 3000 ∧ r.length ≤ 3000
theorem hash_eq {n : Nat} {l r : List Nat} {m : Mem} (H : Hd m l r) (hn : 3000 < n) : f_X11_hash n m = some (hs l r, m) := by
  obtain ⟨h1, h2, h3, h4, h5, h6⟩ := H
  apply rk_eq
  unfold f_X11_hash
  dsimp only [gtF, nm]
  refine ok_row2 (s := 0) (k := 0) l.length (fun k a' m' => m' = m ∧ a' = w32 (hsL (l.take k))) (fun w k a' m' hk' hI hw => ?_) (fun w a' m' hI => ?_) n 0 m (Nat.zero_le _) ⟨rfl, rfl⟩ (by omega)
  · obtain ⟨rfl, rfl⟩ := hI
    rw [h1, if_pos (by omega), ldI_ok (len := 4000) rfl (by omega), h3 k hk']
    refine ok_calE spread_eq ?_
    rw [w32_s (by omega), w32_add]
    refine hw _ m' ⟨rfl, ?_⟩
    unfold hsL
    rw [take_s hk', List.map_append, List.map_cons, List.map_nil, sum_app]
  · obtain ⟨rfl, rfl⟩ := hI
    rw [h1, if_neg (by omega)]
    refine ok_row2 (s := 0) (k := 0) r.length (fun k a' m2 => m2 = m' ∧ a' = w32 (hsL l + hsR (r.take k))) (fun w k a' m2 hk' hI hw => ?_) (fun w a' m2 hI => ?_) n (w32 (hsL (l.take l.length))) m' (Nat.zero_le _) ⟨rfl, by rw [List.take_length]; show w32 _ = w32 (hsL l + 0); rw [Int.add_zero]⟩ (by omega)
    · obtain ⟨rfl, rfl⟩ := hI
      rw [h2, if_pos (by omega), ldI_ok (len := 4000) rfl (by omega), h4 k hk']
      refine ok_calE spread_eq ?_
      rw [w32_s (by omega), w32_add]
      refine hw _ m2 ⟨rfl, ?_⟩
      unfold hsR
      rw [take_s hk', List.map_append, List.map_cons, List.map_nil, sum_app, Int.add_assoc]
    · obtain ⟨rfl, rfl⟩ := hI
      rw [h2, if_neg (by omega), List.take_length]
      exact ok_calE spread_eq (ok_rt ⟨rfl, rfl⟩)
