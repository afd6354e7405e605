/-! rows over the heap of numbers: fields, arrays, new cells -/
def g_cls (r : vw_C) : Prop := ∀ w ∈ u_ws r.1 r.2.1 r.2.2, w ∈ g_T
/-- entry idx of class own's pool is field kf of class ci -/
def g_fl (own : String) (idx ci kf : Nat) : Prop := ∃ r : vw_C, vwCl[ci]? = some r ∧ kf < r.2.2 ∧ (r.2.1 kf).1 = r.1 ∧ g_cls r ∧ (Cond.fieldLink own idx r.1 (r.2.1 kf).2.1 (r.2.1 kf).2.2.1 ∈ g_T ∨ ∃ host, Cond.fieldLinkNest own idx r.1 (r.2.1 kf).2.1 (r.2.1 kf).2.2.1 host ∈ g_N)
def g_flo (own : String) (idx ci kf : Nat) : Prop := ∃ r : vw_C, vwCl[ci]? = some r ∧ kf < r.2.2 ∧ (r.2.1 kf).1 = r.1 ∧ g_cls r ∧ (Cond.fieldLink own idx r.1 (r.2.1 kf).2.1 (r.2.1 kf).2.2.1 ∈ g_T ∨ False)
/-- types and names of a class's fields -/
def g_tys (r : vw_C) (ty : Nat → FieldType) : Prop := (∀ k, k < r.2.2 → parseFieldDescriptor (r.2.1 k).2.2.1 = some (ty k)) ∧ ∀ a, a < r.2.2 → ∀ b, b < r.2.2 → a ≠ b → (r.2.1 a).2.1 ≠ (r.2.1 b).2.1
theorem g_narrow {ty : FieldType} {v : Value} (ad : Nat → Nat) (h : narrow ty v = v) : narrow ty (g_v ad v) = g_v ad v := by
  cases v <;> first | exact h | (cases ty <;> rfl)
theorem g_fits {ty : FieldType} {v : Value} (ad : Nat → Nat) (h : fits ty v = true) : fits ty (g_v ad v) = true := by
  cases v <;> first | exact h | (cases ty <;> first | rfl | exact h)
theorem g_nN {w : Cond} (h : w ∈ g_N) : w.onTables = true := by
  have h2 := (List.mem_filter.mp h).2
  cases w <;> first | (simp [g_isN] at h2; done) | rfl
/-- a cell changes -/
theorem g_inv.set {D : va_G} {base : Nat} {sc : g_S} {ad : Nat → Nat} {hp : g_H} {s : State} {H H1 : Heap} {tys : List (ClassId × FieldType)} {ws : va_W} {q0 a : Nat} {e0 e1 : g_E} {e0' e1' : va_E}
    (hI : g_inv D base sc ad hp s H) (hK : va_K D vwCl tys s) (hrel : ∀ i e, hp i = some e → ∃ (k : Nat) (e' : va_E), ws[k]? = some (ad i, e') ∧ g_cell ad tys e e') (hD : va_D (fun q => base ≤ q) ws)
    (ha : hp a = some e0) (hq : ws[q0]? = some (ad a, e0')) (hP1 : va_P D vwCl (ws.set q0 (ad a, e1')) H1) (hD1 : va_D (fun q => base ≤ q) (ws.set q0 (ad a, e1'))) (hc : g_cell ad tys e1 e1') (hcl : g_ecl sc hp e1) : g_inv D base sc ad (g_up hp a e1) s H1 := by
  have hl := (List.getElem?_eq_some_iff.mp hq).1
  have hna : hp a ≠ none := fun z => by rw [ha] at z; cases z
  obtain ⟨-, hinj, hclo, hsc⟩ := hI
  have same : ∀ i, g_up hp a e1 i ≠ none → hp i ≠ none := by
    intro i hi
    by_cases h : i = a
    · subst h; exact hna
    · rw [g_up_ne _ _ h] at hi; exact hi
  refine ⟨⟨tys, _, hK, hP1, hD1, fun i e hi => ?_⟩, fun i j hi hj h => hinj i j (same i hi) (same j hj) h, hclo.up hcl, ?_⟩
  · by_cases h : i = a
    · subst h
      rw [g_up_self] at hi
      cases hi
      exact ⟨q0, e1', List.getElem?_set_self hl, hc⟩
    · rw [g_up_ne _ _ h] at hi
      obtain ⟨k, e', hk, hce⟩ := hrel i e hi
      refine ⟨k, e', ?_, hce⟩
      have hne : q0 ≠ k := fun z => by
        subst z
        rw [hq] at hk
        have := congrArg Prod.fst (Option.some.inj hk)
        exact h (hinj a i hna (fun z => by rw [hi] at z; cases z) this).symm
      rw [List.getElem?_set_ne hne]
      exact hk
  · have h : sc.1 ≠ a := fun z => by rw [← z, hsc] at ha; cases ha
    rw [g_up_ne _ _ h]
    exact hsc
/-- an address for a new number -/
def g_ad (ad : Nat → Nat) (q z : Nat) : Nat → Nat := fun i => if i = q then z else ad i
theorem g_ad_self (ad : Nat → Nat) (q z : Nat) : g_ad ad q z q = z := if_pos rfl
theorem g_ad_ne (ad : Nat → Nat) {q i : Nat} (z : Nat) (h : i ≠ q) : g_ad ad q z i = ad i := if_neg h
theorem g_lv.ne {sc : g_S} {hp : g_H} {i q : Nat} (h : g_lv sc hp i) (hq : hp q = none) (hqs : q ≠ sc.1) : i ≠ q := by
  intro z
  subst z
  rcases h with h | h
  · exact h hq
  · exact hqs h
theorem g_v_ad {sc : g_S} {hp : g_H} {ad : Nat → Nat} {v : Value} {q z : Nat} (h : g_live sc hp v) (hq : hp q = none) (hqs : q ≠ sc.1) : g_v (g_ad ad q z) v = g_v ad v := by
  cases v <;> first | rfl | exact congrArg Value.ref (g_ad_ne ad z (g_lv.ne h hq hqs))
theorem g_ext.new {sc : g_S} {hp : g_H} {ad : Nat → Nat} {q : Nat} (z : Nat) (e : g_E) (hq : hp q = none) (hqs : q ≠ sc.1) : g_ext sc hp (g_up hp q e) ad (g_ad ad q z) :=
  ⟨fun i hi => ⟨g_ad_ne ad z (fun h => by subst h; exact hi hq), g_up_mono hp q e i hi⟩, g_ad_ne ad z (fun h => hqs h.symm)⟩
theorem g_cell.new {sc : g_S} {hp : g_H} {ad : Nat → Nat} {q z : Nat} {tys : List (ClassId × FieldType)} {t : List (ClassId × FieldType)} {e : g_E} {e' : va_E} (hcl : g_ecl sc hp e) (hq : hp q = none) (hqs : q ≠ sc.1) (h : g_cell ad tys e e') : g_cell (g_ad ad q z) (tys ++ t) e e' := by
  obtain ⟨ty, nn, f | f | f | f | f⟩ | ⟨ci, fs⟩ := e <;> obtain ⟨cA, x⟩ | ⟨ci', fs'⟩ := e'
  · exact ⟨List.mem_append_left _ h.1, h.2⟩
  · exact h
  · exact ⟨List.mem_append_left _ h.1, h.2⟩
  · exact h
  · exact ⟨List.mem_append_left _ h.1, h.2⟩
  · exact h
  · exact ⟨List.mem_append_left _ h.1, h.2⟩
  · exact h
  · refine ⟨List.mem_append_left _ h.1, h.2.trans ?_⟩
    show (nn, Sum.inr (Sum.inr (Sum.inr (Sum.inr fun j => (f j).map ad)))) = (nn, Sum.inr (Sum.inr (Sum.inr (Sum.inr fun j => (f j).map (g_ad ad q z)))))
    congr 5
    funext j
    cases hf : f j with
    | none => rfl
    | some k => exact congrArg some (g_ad_ne ad z (g_lv.ne (hcl j k hf) hq hqs)).symm
  · exact h
  · exact h
  · refine ⟨h.1, h.2.trans ?_⟩
    exact List.map_congr_left (fun v hv => (g_v_ad (hcl v hv) hq hqs).symm)
/-- a new cell -/
theorem g_inv.new {D : va_G} {base : Nat} {sc : g_S} {ad : Nat → Nat} {hp : g_H} {s : State} {H H1 : Heap} {tys t : List (ClassId × FieldType)} {ws : va_W} {q z : Nat} {e : g_E} {e' : va_E}
    (hI : g_inv D base sc ad hp s H) (hK : va_K D vwCl (tys ++ t) s) (hrel : ∀ i e, hp i = some e → ∃ (k : Nat) (e' : va_E), ws[k]? = some (ad i, e') ∧ g_cell ad tys e e')
    (hP1 : va_P D vwCl (ws ++ [(z, e')]) H1) (hD1 : va_D (fun q => base ≤ q) (ws ++ [(z, e')])) (hq : hp q = none) (hqs : q ≠ sc.1) (hc : g_cell (g_ad ad q z) (tys ++ t) e e') (hcl : g_ecl sc hp e) : g_inv D base sc (g_ad ad q z) (g_up hp q e) s H1 := by
  obtain ⟨-, hinj, hclo, hsc⟩ := hI
  have old : ∀ i e, hp i = some e → ∃ (k : Nat) (e' : va_E), k < ws.length ∧ (ws ++ [(z, e')])[k]? = some (ad i, e') ∧ i ≠ q ∧ ad i ≠ z := by
    intro i e2 hi
    obtain ⟨k, e2', hk, -⟩ := hrel i e2 hi
    have hl := (List.getElem?_eq_some_iff.mp hk).1
    refine ⟨k, e2', hl, by rw [List.getElem?_append_left hl]; exact hk, fun w => (by rw [w, hq] at hi; cases hi), fun w => ?_⟩
    have h1 : (ws ++ [(z, e')])[k]? = some (ad i, e2') := by rw [List.getElem?_append_left hl]; exact hk
    have h2 : (ws ++ [(z, e')])[ws.length]? = some (z, e') := by simp
    have := hD1.1 k ws.length _ _ h1 h2 w
    omega
  refine ⟨⟨tys ++ t, _, hK, hP1, hD1, fun i e2 hi => ?_⟩, fun i j hi hj h => ?_, hclo.up hcl, ?_⟩
  · by_cases h : i = q
    · subst h
      rw [g_up_self] at hi
      cases hi
      exact ⟨ws.length, e', by rw [g_ad_self]; simp, hc⟩
    · rw [g_up_ne _ _ h] at hi
      obtain ⟨k, e2', hk, hce⟩ := hrel i e2 hi
      have hl := (List.getElem?_eq_some_iff.mp hk).1
      exact ⟨k, e2', by rw [List.getElem?_append_left hl, g_ad_ne _ _ h]; exact hk, hce.new (hclo i e2 hi) hq hqs⟩
  · have some_of : ∀ i, i ≠ q → g_up hp q e i ≠ none → ∃ e2, hp i = some e2 := by
      intro i h hi
      rw [g_up_ne _ _ h] at hi
      exact Option.ne_none_iff_exists'.mp hi
    by_cases h1 : i = q <;> by_cases h2 : j = q
    · rw [h1, h2]
    · obtain ⟨e2, he2⟩ := some_of j h2 hj
      obtain ⟨_, _, _, _, _, h3⟩ := old j e2 he2
      rw [h1, g_ad_self, g_ad_ne _ _ h2] at h
      exact absurd h.symm h3
    · obtain ⟨e2, he2⟩ := some_of i h1 hi
      obtain ⟨_, _, _, _, _, h3⟩ := old i e2 he2
      rw [h2, g_ad_self, g_ad_ne _ _ h1] at h
      exact absurd h h3
    · rw [g_ad_ne _ _ h1, g_ad_ne _ _ h2] at h
      rw [g_up_ne _ _ h1] at hi
      rw [g_up_ne _ _ h2] at hj
      exact hinj i j hi hj h
  · rw [g_up_ne _ _ (fun w => hqs w.symm)]
    exact hsc
