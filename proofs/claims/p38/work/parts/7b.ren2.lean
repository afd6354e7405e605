theorem rnh_at {s : Nat → Nat} (hs : ∀ i, s (s i) = i) (h : g_H) (i : Nat) : rnh s h (s i) = (h i).map (rne s) := by
  show (h (s (s i))).map (rne s) = _
  rw [hs]
theorem rnh_none {s : Nat → Nat} (h : g_H) (i : Nat) : rnh s h i = none ↔ h (s i) = none := by
  show (h (s i)).map (rne s) = none ↔ _
  cases h (s i) <;> simp
theorem g_lv_rn {s : Nat → Nat} (hs : ∀ i, s (s i) = i) {sc : g_S} (h0 : s sc.1 = sc.1) {h : g_H} {i : Nat} (x : g_lv sc h i) : g_lv sc (rnh s h) (s i) := by
  rcases x with x | x
  · refine Or.inl (fun q => x ?_)
    have := (rnh_none h (s i)).mp q
    rw [hs] at this
    exact this
  · exact Or.inr (by rw [x, h0])
theorem g_live_rn {s : Nat → Nat} (hs : ∀ i, s (s i) = i) {sc : g_S} (h0 : s sc.1 = sc.1) {h : g_H} {v : Value} (x : g_live sc h v) : g_live sc (rnh s h) (rnv s v) := by
  cases v <;> first | trivial | exact g_lv_rn hs h0 x
theorem g_closed_rn {s : Nat → Nat} (hs : ∀ i, s (s i) = i) {sc : g_S} (h0 : s sc.1 = sc.1) {h : g_H} (x : g_closed sc h) : g_closed sc (rnh s h) := by
  intro i e he
  have he : (h (s i)).map (rne s) = some e := he
  cases q : h (s i) with
  | none => rw [q] at he; cases he
  | some e0 =>
    rw [q] at he
    have he : some (rne s e0) = some e := he
    injection he with he
    subst he
    have c := x _ _ q
    obtain ⟨ty, n, f | f | f | f | f⟩ | ⟨ci, fs⟩ := e0
    · trivial
    · trivial
    · trivial
    · trivial
    · intro j k hk
      have hk : (f j).map s = some k := hk
      cases q2 : f j with
      | none => rw [q2] at hk; cases hk
      | some k0 =>
        rw [q2] at hk
        have hk : some (s k0) = some k := hk
        injection hk with hk
        rw [← hk]
        exact g_lv_rn hs h0 (c j k0 q2)
    · intro v hv
      have hv : v ∈ fs.map (rnv s) := hv
      obtain ⟨v0, h1, rfl⟩ := List.mem_map.mp hv
      exact g_live_rn hs h0 (c v0 h1)
theorem g_inv_rn {s : Nat → Nat} (hs : ∀ i, s (s i) = i) {sc : g_S} (h0 : s sc.1 = sc.1) {D : va_G} {base : Nat} {ad : Nat → Nat} {h : g_H} {S : State} {H : Heap} (x : g_inv D base sc ad h S H) : g_inv D base sc (ad ∘ s) (rnh s h) S H := by
  obtain ⟨⟨tys, ws, k1, k2, k3, k4⟩, inj, cl, nn⟩ := x
  refine ⟨⟨tys, ws, k1, k2, k3, fun i e he => ?_⟩, fun i j hi hj q => ?_, g_closed_rn hs h0 cl, (rnh_none h sc.1).mpr (by rw [h0]; exact nn)⟩
  · have he : (h (s i)).map (rne s) = some e := he
    cases q : h (s i) with
    | none => rw [q] at he; cases he
    | some e0 =>
      rw [q] at he
      have he : some (rne s e0) = some e := he
      injection he with he
      subst he
      obtain ⟨k, e', h1, h2⟩ := k4 _ _ q
      exact ⟨k, e', h1, (rne_cell ad s hs tys e0 e').mpr h2⟩
  · have := inj (s i) (s j) (fun e => hi ((rnh_none h i).mpr e)) (fun e => hj ((rnh_none h j).mpr e)) q
    rw [← hs i, this, hs]
theorem g_ext_rn {s : Nat → Nat} {sc : g_S} (h0 : s sc.1 = sc.1) {a b : g_H} {c d : Nat → Nat} (x : g_ext sc a b c d) : g_ext sc (rnh s a) (rnh s b) (c ∘ s) (d ∘ s) := by
  refine ⟨fun i hi => ?_, ?_⟩
  · obtain ⟨h1, h2⟩ := x.1 (s i) (fun e => hi ((rnh_none a i).mpr e))
    exact ⟨h1, fun e => h2 ((rnh_none b i).mp e)⟩
  · show d (s sc.1) = c (s sc.1)
    rw [h0]
    exact x.2
