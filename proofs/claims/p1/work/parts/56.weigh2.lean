/-! THE WEIGHER: how many nodes its yard can hold -/
/-- a node: a whole one, or the weight of a follower, a few whole ones off -/
def Fw2 (w : Nat → Nat) (k J : Nat) (lo hi : Int) (z : Nat) : Prop := (∃ n : Int, -(2 * (k : Int)) - lo ≤ n ∧ n ≤ 2 * (k : Int) + hi ∧ geq z (iz n)) ∨ ∃ (j : Nat) (t : Int), 1 ≤ j ∧ j < J ∧ -(2 * ((k : Int) - (j : Int))) - lo ≤ t ∧ t ≤ 2 * ((k : Int) - (j : Int)) + hi ∧ geq z (gadd (w j) (iz t))
theorem Fw2.up {w : Nat → Nat} {k J J' : Nat} {lo hi lo' hi' : Int} {z : Nat} (h : Fw2 w k J lo hi z) (h1 : J ≤ J') (h2 : lo ≤ lo') (h3 : hi ≤ hi') : Fw2 w k J' lo' hi' z := by
  rcases h with ⟨n, q1, q2, q3⟩ | ⟨j, t, q1, q2, q3, q4, q5⟩
  · exact Or.inl ⟨n, by omega, by omega, q3⟩
  · exact Or.inr ⟨j, t, q1, by omega, by omega, by omega, q5⟩
theorem Fw2.next {w : Nat → Nat} {k : Nat} {z : Nat} (h : Fw2 w k (k + 1) 2 2 z) : Fw2 w (k + 1) (k + 1) 0 0 z := by
  rcases h with ⟨n, q1, q2, q3⟩ | ⟨j, t, q1, q2, q3, q4, q5⟩
  · exact Or.inl ⟨n, by omega, by omega, q3⟩
  · exact Or.inr ⟨j, t, q1, by omega, by omega, by omega, q5⟩
theorem Fw2.cong {w w' : Nat → Nat} {k J : Nat} {lo hi : Int} {z : Nat} (h : Fw2 w k J lo hi z) (hw : ∀ j, j < J → w' j = w j) : Fw2 w' k J lo hi z := by
  rcases h with q | ⟨j, t, q1, q2, q3, q4, q5⟩
  · exact Or.inl q
  · exact Or.inr ⟨j, t, q1, q2, q3, q4, by rw [hw j q2]; exact q5⟩
theorem iz_m1 : iz (-1) = 2 := by rw [show (-1 : Int) = -((1 : Nat) : Int) from rfl, iz_neg, nc_1]
theorem iz_p1 : iz 1 = 1 := by rw [show (1 : Int) = ((1 : Nat) : Int) from rfl, iz_nn, pc_1]
/-- the shift of a way -/
def shz (a : Nat) : Int := if a = 9 then 1 else -1
theorem shg_z {a : Nat} (ha : a = 9 ∨ a = 10) : shg a = iz (shz a) := by
  rcases ha with rfl | rfl
  · rw [show shz 9 = 1 from rfl, iz_p1]; rfl
  · rw [show shz 10 = -1 from rfl, iz_m1]; rfl
theorem geq_sh {w z : Nat} {s t : Int} (h : geq z (gadd w (iz s))) : geq (gadd z (iz t)) (gadd w (iz (s + t))) := by
  refine (gadd_eq h (geq_rfl _)).tr ?_
  rw [gadd_assoc]
  exact gadd_eq (geq_rfl _) (iz_add s t)
theorem Fw2.sh {w : Nat → Nat} {k J : Nat} {lo hi : Int} {z y : Nat} {s : Int} (h : Fw2 w k J lo hi z) (e : geq y (gadd z (iz s))) (hs : s = 1 ∨ s = -1) : Fw2 w k J (lo + if s = 1 then 0 else 1) (hi + if s = 1 then 1 else 0) y := by
  rcases h with ⟨n, q1, q2, q3⟩ | ⟨j, t, q1, q2, q3, q4, q5⟩
  · refine Or.inl ⟨n + s, ?_, ?_, e.tr ((gadd_eq q3 (geq_rfl _)).tr (iz_add n s))⟩
    · rcases hs with rfl | rfl
      · rw [if_pos rfl]; omega
      · rw [if_neg (by decide)]; omega
    · rcases hs with rfl | rfl
      · rw [if_pos rfl]; omega
      · rw [if_neg (by decide)]; omega
  · refine Or.inr ⟨j, t + s, q1, q2, ?_, ?_, e.tr (geq_sh q5)⟩
    · rcases hs with rfl | rfl
      · rw [if_pos rfl]; omega
      · rw [if_neg (by decide)]; omega
    · rcases hs with rfl | rfl
      · rw [if_pos rfl]; omega
      · rw [if_neg (by decide)]; omega
/-- the canonical game that is as good, if there is one -/
noncomputable def cfa (z : Nat) : Nat := @dite Nat (∃ K, can K ∧ geq K z) (Classical.propDecidable _) (fun h => Classical.choose h) (fun _ => 0)
theorem cfa_eq {K z : Nat} (c : can K) (e : geq K z) : cfa z = K := by
  have h : ∃ K, can K ∧ geq K z := ⟨K, c, e⟩
  unfold cfa
  rw [dif_pos h]
  obtain ⟨h1, h2⟩ := Classical.choose_spec h
  exact can_uniq h1 c (h2.tr e.sy)
def wpr : List (Nat × Nat) := (List.range 9).flatMap (fun i => (List.range (4 * (9 - i) + 1)).map (fun s => (i + 1, s)))
theorem wpr_len : wpr.length = 189 := by decide +kernel
noncomputable def wF (w : Nat → Nat) : List Nat := (List.range 41).map (fun (i : Nat) => iz ((i : Int) - 20)) ++ wpr.map (fun p => cfa (gadd (w p.1) (iz ((p.2 : Int) - 2 * (10 - (p.1 : Int))))))
theorem wF_len (w : Nat → Nat) : (wF w).length = 230 := by
  unfold wF
  rw [List.length_append, List.length_map, List.length_map, wpr_len, List.length_range]
theorem wF_mem {w : Nat → Nat} {k J : Nat} {lo hi : Int} {z : Nat} (hk : k ≤ 9) (hJ : J ≤ 10) (h1 : lo ≤ 2) (h2 : hi ≤ 2) (c : can z) (h : Fw2 w k J lo hi z) : z ∈ wF w := by
  unfold wF
  rw [List.mem_append]
  rcases h with ⟨n, q1, q2, q3⟩ | ⟨j, t, q1, q2, q3, q4, q5⟩
  · refine Or.inl (List.mem_map.mpr ⟨(n + 20).toNat, List.mem_range.mpr (by omega), ?_⟩)
    show iz (((n + 20).toNat : Int) - 20) = z
    rw [show (((n + 20).toNat : Int) - 20) = n by omega]
    exact can_uniq (can_iz n) c q3.sy
  · refine Or.inr (List.mem_map.mpr ⟨(j, (t + 2 * (10 - (j : Int))).toNat), ?_, ?_⟩)
    · unfold wpr
      rw [List.mem_flatMap]
      refine ⟨j - 1, List.mem_range.mpr (by omega), List.mem_map.mpr ⟨(t + 2 * (10 - (j : Int))).toNat, List.mem_range.mpr (by omega), ?_⟩⟩
      rw [show j - 1 + 1 = j by omega]
    · show cfa (gadd (w j) (iz (((t + 2 * (10 - (j : Int))).toNat : Int) - 2 * (10 - (j : Int))))) = z
      rw [show (((t + 2 * (10 - (j : Int))).toNat : Int) - 2 * (10 - (j : Int))) = t by omega]
      exact cfa_eq c q5
theorem wN {w : Nat → Nat} {k J N : Nat} {lo hi : Int} {m : Mem} (Y : YI m N) (hk : k ≤ 9) (hJ : J ≤ 10) (h1 : lo ≤ 2) (h2 : hi ≤ 2) (h : ∀ x, x < N → Fw2 w k J lo hi (yden m x)) : N ≤ 230 := by
  have := nodup_le ((List.range N).map (yden m)) (wF w) (nodup_map List.nodup_range (fun a ha b hb e => Y.1.2.2.2.2.2.2 a b (List.mem_range.mp ha) (List.mem_range.mp hb) e)) (fun x hx => by
    obtain ⟨v, hv, rfl⟩ := List.mem_map.mp hx
    have hv := List.mem_range.mp hv
    exact wF_mem hk hJ h1 h2 (Y.1.2.2.2.2.2.1 v hv) (h v hv))
  rw [List.length_map, List.length_range, wF_len] at this
  exact this
/-- followers of a node are nodes, not behind it -/
theorem fol_node {m : Mem} {N u o : Nat} (Y : YI m N) (hu : u < N) (h : fol (yden m u) o) : ∃ x, x ≤ u ∧ yden m x = o := by
  obtain ⟨y1, y2, y3, y4, y5, y6, y7⟩ := Y.1
  have opn : ∀ c, c < N → ∀ w x, w < 2 → op (yden m c) w x = true → ∃ b, b < c ∧ yden m b = x := by
    intro c hc w x hw hx
    rcases (by omega : w = 0 ∨ w = 1) with rfl | rfl
    · obtain ⟨b, _, h2, h3⟩ := (Y.1.opL hc x).mp hx
      exact ⟨b, y3 c hc b (Or.inl h2), h3⟩
    · obtain ⟨b, _, h2, h3⟩ := (Y.1.opR hc x).mp hx
      exact ⟨b, y3 c hc b (Or.inr h2), h3⟩
  have key : ∀ n c x, c ≤ n → c < N → fol (yden m c) x → ∃ b, b ≤ c ∧ yden m b = x := by
    intro n
    induction n with
    | zero =>
      intro c x hc hcN h
      rcases (fol_def _ x).mp h with rfl | ⟨y, hy, h3⟩
      · exact ⟨c, Nat.le_refl _, rfl⟩
      · obtain ⟨b, hb, rfl⟩ := hy.elim (opn c hcN 0 y (by decide)) (opn c hcN 1 y (by decide))
        omega
    | succ n ih =>
      intro c x hc hcN h
      rcases (fol_def _ x).mp h with rfl | ⟨y, hy, h3⟩
      · exact ⟨c, Nat.le_refl _, rfl⟩
      · obtain ⟨b, hb, rfl⟩ := hy.elim (opn c hcN 0 y (by decide)) (opn c hcN 1 y (by decide))
        obtain ⟨b2, h4, h5⟩ := ih b x (by omega) (by omega) h3
        exact ⟨b2, by omega, h5⟩
  exact key u u o (Nat.le_refl _) hu h
/-- followers of whole ones -/
theorem fol_iz : ∀ (k : Nat) (z : Int) (o : Nat), z.natAbs ≤ k → fol (iz z) o → ∃ n : Int, o = iz n ∧ ((0 ≤ n ∧ n ≤ z) ∨ (z ≤ n ∧ n ≤ 0))
  | k, z, o, hk, h => by
    rcases (fol_def _ o).mp h with rfl | ⟨y, hy, h3⟩
    · exact ⟨z, rfl, by omega⟩
    · rcases hy with hy | hy
      · obtain ⟨h1, rfl⟩ := iz_L.mp hy
        obtain ⟨k', rfl⟩ : ∃ k', k = k' + 1 := ⟨k - 1, by omega⟩
        obtain ⟨n, h4, h5⟩ := fol_iz k' (z - 1) o (by omega) h3
        exact ⟨n, h4, by omega⟩
      · obtain ⟨h1, rfl⟩ := iz_R.mp hy
        obtain ⟨k', rfl⟩ : ∃ k', k = k' + 1 := ⟨k - 1, by omega⟩
        obtain ⟨n, h4, h5⟩ := fol_iz k' (z + 1) o (by omega) h3
        exact ⟨n, h4, by omega⟩
/-- one shift, where the nodes keep to their places -/
theorem wshift {n N k J c a : Nat} {lo hi : Int} {w : Nat → Nat} {m : Mem} (hn : 300 < n) (Y : YI m N) (hs : mGet m 4 14 = 0) (hc : c < N) (ha : a = 9 ∨ a = 10) (hk : k ≤ 9) (hJ : J ≤ 10) (l0 : 0 ≤ lo ∧ lo + (if a = 9 then 0 else 1) ≤ 2) (h0 : 0 ≤ hi ∧ hi + (if a = 9 then 1 else 0) ≤ 2) (hP : ∀ x, x < N → Fw2 w k J (lo + if a = 9 then 0 else 1) (hi + if a = 9 then 1 else 0) (yden m x)) (hf : ∀ o, fol (yden m c) o → Fw2 w k J lo hi o) : Ok (f_X9_shifted n (c : Int) (if a = 9 then 1 else 0) m) (fun v m' => ∃ u N' : Nat, v = (u : Int) ∧ u < N' ∧ N ≤ N' ∧ YI m' N' ∧ mGet m' 4 14 = 0 ∧ YD m m' N N' ∧ geq (yden m' u) (gadd (yden m c) (iz (shz a))) ∧ ∀ x, x < N' → Fw2 w k J (lo + if a = 9 then 0 else 1) (hi + if a = 9 then 1 else 0) (yden m' x)) := by
  have new : ∀ N1 m1, YD m m1 N N1 → New m m1 N N1 c a → ∀ x, x < N1 → Fw2 w k J (lo + if a = 9 then 0 else 1) (hi + if a = 9 then 1 else 0) (yden m1 x) := by
    intro N1 m1 d1 nw x hx
    by_cases q : x < N
    · rw [d1.2.2.1 x q]; exact hP x q
    · obtain ⟨o, h1, h2⟩ := nw x (by omega) hx
      rw [shg_z ha] at h2
      have := (hf o h1).sh h2 (by rcases ha with rfl | rfl; exact Or.inl rfl; exact Or.inr rfl)
      rcases ha with rfl | rfl
      · exact this
      · exact this
  refine ok_mono (shift2_ok (a := a) hn Y hc hs ha (by rcases ha with rfl | rfl; exact Or.inl ⟨rfl, rfl⟩; exact Or.inr ⟨rfl, rfl⟩) (fun N1 m1 Y1 d1 nw => by
    have := wN Y1 hk hJ l0.2 h0.2 (new N1 m1 d1 nw)
    omega)) (fun v m' h => ?_)
  obtain ⟨u, N', h1, h2, h3, h4, h5, h6, h7⟩ := h
  exact ⟨u, N', h1, h2, h6.2.2.2, h4, h5, h6, by rw [← shg_z ha]; exact h7, new N' m' h6 h3⟩
