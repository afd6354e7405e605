/-! the array of four arrays of 24 numbers -/
def newM (hp : g_H) (q : Nat) : g_H := g_up (g_up (g_up (g_up (g_up hp q (.inl (.array .int, (4, .inr (.inr (.inr (.inr fun j => if j < 4 then some (q + 1 + j) else none))))))) (q + 1) (.inl (.int, (24, .inl fun _ => 0)))) (q + 1 + 1) (.inl (.int, (24, .inl fun _ => 0)))) (q + 1 + 1 + 1) (.inl (.int, (24, .inl fun _ => 0)))) (q + 1 + 1 + 1 + 1) (.inl (.int, (24, .inl fun _ => 0)))
theorem newM_eq (hp : g_H) (q i : Nat) : newM hp q i = if i = q then some (.inl (.array .int, (4, .inr (.inr (.inr (.inr fun j => if j < 4 then some (q + 1 + j) else none)))))) else if q < i ∧ i < q + 5 then some (.inl (.int, (24, .inl fun _ => 0))) else hp i := by
  unfold newM g_up
  by_cases h0 : i = q
  · subst h0
    rw [if_neg (by omega), if_neg (by omega), if_neg (by omega), if_neg (by omega), if_pos rfl, if_pos rfl]
  · rw [if_neg h0, if_neg h0]
    by_cases h1 : q < i ∧ i < q + 5
    · rw [if_pos h1]
      rcases (by omega : i = q + 1 ∨ i = q + 1 + 1 ∨ i = q + 1 + 1 + 1 ∨ i = q + 1 + 1 + 1 + 1) with rfl | rfl | rfl | rfl
      · rw [if_neg (by omega), if_neg (by omega), if_neg (by omega), if_pos rfl]
      · rw [if_neg (by omega), if_neg (by omega), if_pos rfl]
      · rw [if_neg (by omega), if_pos rfl]
      · rw [if_pos rfl]
    · rw [if_neg h1, if_neg (by omega), if_neg (by omega), if_neg (by omega), if_neg (by omega)]
theorem g_cell_ad {sc : g_S} {hp : g_H} {ad ad' : Nat → Nat} {tys t : List (ClassId × FieldType)} {e : g_E} {e' : va_E} (hl : ∀ i, g_lv sc hp i → ad' i = ad i) (hcl : g_ecl sc hp e) (h : g_cell ad tys e e') : g_cell ad' (tys ++ t) e e' := by
  have hv : ∀ v, g_live sc hp v → g_v ad' v = g_v ad v := fun v hv => by
    cases v <;> first | rfl | exact congrArg Value.ref (hl _ hv)
  obtain ⟨ty, nn, f | f | f | f | f⟩ | ⟨ci, fs⟩ := e <;> obtain ⟨cA, x⟩ | ⟨ci', fs'⟩ := e'
  · exact ⟨List.mem_append_left _ h.1, h.2⟩
  · exact h
  · exact ⟨List.mem_append_left _ h.1, h.2⟩
  · exact h
  · exact ⟨List.mem_append_left _ h.1, h.2⟩
  · exact h
  · exact ⟨List.mem_append_left _ h.1, h.2⟩
  · exact h
  · refine ⟨List.mem_append_left _ h.1, h.2.trans ?_⟩
    show (nn, Sum.inr (Sum.inr (Sum.inr (Sum.inr fun j => (f j).map ad)))) = (nn, Sum.inr (Sum.inr (Sum.inr (Sum.inr fun j => (f j).map ad'))))
    congr 5
    funext j
    cases hf : f j with
    | none => rfl
    | some k => exact congrArg some (hl k (hcl j k hf)).symm
  · exact h
  · exact h
  · refine ⟨h.1, h.2.trans ?_⟩
    exact List.map_congr_left (fun v hv9 => (hv v (hcl v hv9)).symm)
section SM
variable {l : Launch} {D : va_G} {base : Nat} {sc : g_S} {own : String} {y : MethodName} {cc : ByteArray} {nL : Nat} {ret : Option FieldType} {d mc ms : Nat} {ad0 : Nat → Nat} {hp0 hp : g_H} {Post : Option Value → g_H → Prop} {k n : Nat} {pc : Nat} {L : List (Nat × Value)} {st : List Value}
theorem aw_newM (q a0 : Nat) (x0 : vp_A) {idx : Nat} (hI : hp a0 = some (.inl (.int, x0))) (hq : ∀ i, i < 5 → hp (q + i) = none) (hqs : sc.1 < q) (hw : Cond.classLink own idx "[[I" ∈ g_T) (hcells : k + 5 ≤ mc) (hslots : n + 100 ≤ ms) (hd : decode cc pc = .ok (.multianewarray idx 2, 4)) (kk : AW l D base sc own y cc nL ret d mc ms ad0 hp0 Post (k + 5) (n + 100) (newM hp q) (pc + 4) L (.ref q :: st)) : AW l D base sc own y cc nL ret d mc ms ad0 hp0 Post k n hp pc L (.int 24 :: .int 4 :: st) := by
  intro p e s m args below meth c H locs ls ad X X2 X3 hl hL hs hI9 hS
  obtain ⟨⟨tys, ws, hK, hP, hD, hrel⟩, hinj, hclo, hsc⟩ := id hI9
  obtain ⟨q0, t0, cI, hq0, ht0⟩ := g_lookA hrel hI
  refine g_mna X.1 X.2.1 X.2.2.2.1 (X.2.2.2.2.1 _ hw) X.2.2.2.2.2.2.2.2.2.2 (X.2.2.2.2.1 _ ac_int) (hK.2 t0 _ ht0).2 hK hP hD hS (fun q hq => Nat.le_trans X2.2.2 hq) hcells hslots hd (fun z r cA H1 hK1 hP1 hD1 hS1 => ?_)
  obtain ⟨ad1, had⟩ : ∃ ad1 : Nat → Nat, ad1 = fun i => if i = q then z else if q < i ∧ i < q + 5 then r (i - q - 1) else ad i := ⟨_, rfl⟩
  have ad_q : ad1 q = z := by rw [had]; exact if_pos rfl
  have ad_r : ∀ j, j < 4 → ad1 (q + 1 + j) = r j := fun j hj => by
    rw [had]
    show (if q + 1 + j = q then z else if q < q + 1 + j ∧ q + 1 + j < q + 5 then r (q + 1 + j - q - 1) else ad (q + 1 + j)) = _
    rw [if_neg (by omega), if_pos (by omega)]
    congr 1
    omega
  have ad_o : ∀ i, ¬ (q ≤ i ∧ i < q + 5) → ad1 i = ad i := fun i hi => by
    rw [had]
    show (if i = q then z else if q < i ∧ i < q + 5 then r (i - q - 1) else ad i) = _
    rw [if_neg (by omega), if_neg (by omega)]
  have hno : ∀ i, g_lv sc hp i → ¬ (q ≤ i ∧ i < q + 5) := fun i hi hr => by
    rcases hi with hi | hi
    · have := hq (i - q) (by omega)
      rw [show q + (i - q) = i by omega] at this
      exact hi this
    · omega
  have ad_l : ∀ i, g_lv sc hp i → ad1 i = ad i := fun i hi => ad_o i (hno i hi)
  have mono : ∀ i, hp i ≠ none → newM hp q i ≠ none := fun i hi => by
    rw [newM_eq, if_neg (fun e => (hno i (Or.inl hi)) ⟨by omega, by omega⟩), if_neg (fun e => (hno i (Or.inl hi)) ⟨by omega, by omega⟩)]
    exact hi
  have hext : g_ext sc hp (newM hp q) ad ad1 := ⟨fun i hi => ⟨ad_l i (Or.inl hi), mono i hi⟩, ad_l _ (Or.inr rfl)⟩
  have hval : ∀ v, g_live sc hp v → g_v ad1 v = g_v ad v := fun v hv => hext.v hv
  obtain ⟨wsF, hwF⟩ : ∃ wsF : va_W, wsF = (ws ++ [(z, .inl (cA, 4, .inr (.inr (.inr (.inr (fun i => if i < 4 then some (r i) else none))))))]) ++ [(r 0, .inl (cI, (24, .inl fun _ => 0))), (r 1, .inl (cI, (24, .inl fun _ => 0))), (r 2, .inl (cI, (24, .inl fun _ => 0))), (r 3, .inl (cI, (24, .inl fun _ => 0)))] := ⟨_, rfl⟩
  rw [← hwF] at hP1 hD1
  have w_old : ∀ (j : Nat) (x : Nat × va_E), ws[j]? = some x → wsF[j]? = some x ∧ j < ws.length := fun j x hx => by
    have hj := (List.getElem?_eq_some_iff.mp hx).1
    refine ⟨?_, hj⟩
    rw [hwF, List.append_assoc, List.getElem?_append_left hj, hx]
  have w_q : wsF[ws.length]? = some (z, .inl (cA, 4, .inr (.inr (.inr (.inr (fun i => if i < 4 then some (r i) else none)))))) := by
    rw [hwF, List.append_assoc, List.getElem?_append_right (Nat.le_refl _), Nat.sub_self]
    rfl
  have w_r : ∀ j, j < 4 → wsF[ws.length + 1 + j]? = some (r j, .inl (cI, (24, .inl fun _ => 0))) := fun j hj => by
    rw [hwF, List.append_assoc, List.getElem?_append_right (by omega), show ws.length + 1 + j - ws.length = 1 + j by omega]
    rcases (by omega : j = 0 ∨ j = 1 ∨ j = 2 ∨ j = 3) with rfl | rfl | rfl | rfl <;> rfl
  have hrelF : ∀ i e, newM hp q i = some e → ∃ (k9 : Nat) (e' : va_E), wsF[k9]? = some (ad1 i, e') ∧ g_cell ad1 (tys ++ [(cA, .array .int)]) e e' ∧ ((i = q ∧ k9 = ws.length) ∨ (q < i ∧ i < q + 5 ∧ k9 = ws.length + (i - q)) ∨ (hp i ≠ none ∧ k9 < ws.length)) := by
    intro i e9 hi
    rw [newM_eq] at hi
    by_cases h0 : i = q
    · rw [if_pos h0] at hi
      cases hi
      refine ⟨ws.length, .inl (cA, 4, .inr (.inr (.inr (.inr (fun i => if i < 4 then some (r i) else none))))), by rw [h0, ad_q]; exact w_q, ⟨List.mem_append_right _ List.mem_cons_self, ?_⟩, Or.inl ⟨h0, rfl⟩⟩
      show (4, Sum.inr (Sum.inr (Sum.inr (Sum.inr (fun i => if i < 4 then some (r i) else none))))) = (4, Sum.inr (Sum.inr (Sum.inr (Sum.inr fun j => (if j < 4 then some (q + 1 + j) else none).map ad1))))
      congr 5
      funext j
      by_cases hj : j < 4
      · rw [if_pos hj, if_pos hj]
        show _ = some (ad1 (q + 1 + j))
        rw [ad_r j hj]
      · rw [if_neg hj, if_neg hj]
        rfl
    · rw [if_neg h0] at hi
      by_cases h1 : q < i ∧ i < q + 5
      · rw [if_pos h1] at hi
        cases hi
        have hw4 := w_r (i - q - 1) (by omega)
        refine ⟨ws.length + 1 + (i - q - 1), .inl (cI, (24, .inl fun _ => 0)), by rw [show ad1 i = r (i - q - 1) from by rw [← ad_r (i - q - 1) (by omega)]; congr 1; omega]; exact hw4, ⟨List.mem_append_left _ (List.mem_of_getElem? ht0), rfl⟩, Or.inr (Or.inl ⟨h1.1, h1.2, by omega⟩)⟩
      · rw [if_neg h1] at hi
        obtain ⟨k9, e', hk9, hc9⟩ := hrel i e9 hi
        have hlv : hp i ≠ none := fun w => by rw [hi] at w; cases w
        obtain ⟨g1, g2⟩ := w_old k9 _ hk9
        exact ⟨k9, e', by rw [ad_l i (Or.inl hlv)]; exact g1, g_cell_ad ad_l (hclo i e9 hi) hc9, Or.inr (Or.inr ⟨hlv, g2⟩)⟩
  have hinvF : g_inv D base sc ad1 (newM hp q) s H1 := by
    refine ⟨⟨tys ++ [(cA, .array .int)], wsF, hK1, hP1, hD1, fun i e9 hi => ?_⟩, fun i j hi hj hij => ?_, fun i e9 hi => ?_, ?_⟩
    · obtain ⟨k9, e', h1, h2, -⟩ := hrelF i e9 hi
      exact ⟨k9, e', h1, h2⟩
    · obtain ⟨ei, hei⟩ := Option.ne_none_iff_exists'.mp hi
      obtain ⟨ej, hej⟩ := Option.ne_none_iff_exists'.mp hj
      obtain ⟨ki, ei', i1, -, i3⟩ := hrelF i ei hei
      obtain ⟨kj, ej', j1, -, j3⟩ := hrelF j ej hej
      have hkk := hD1.1 ki kj _ _ i1 j1 hij
      rcases i3 with ⟨a1, a2⟩ | ⟨a1, a2, a3⟩ | ⟨a1, a2⟩ <;> rcases j3 with ⟨b1, b2⟩ | ⟨b1, b2, b3⟩ | ⟨b1, b2⟩ <;> try omega
      refine hinj i j a1 b1 ?_
      rw [← ad_l i (Or.inl a1), ← ad_l j (Or.inl b1)]
      exact hij
    · rw [newM_eq] at hi
      by_cases h0 : i = q
      · rw [if_pos h0] at hi
        cases hi
        intro j k9 hj
        have hj : (if j < 4 then some (q + 1 + j) else none) = some k9 := hj
        by_cases hj4 : j < 4
        · rw [if_pos hj4] at hj
          cases hj
          exact Or.inl (by rw [newM_eq, if_neg (by omega), if_pos (by omega)]; exact fun w => by cases w)
        · rw [if_neg hj4] at hj
          cases hj
      · rw [if_neg h0] at hi
        by_cases h1 : q < i ∧ i < q + 5
        · rw [if_pos h1] at hi
          cases hi
          trivial
        · rw [if_neg h1] at hi
          exact (hclo i e9 hi).mono mono
    · rw [newM_eq, if_neg (by omega), if_neg (by omega)]
      exact hsc
  have eS : (Value.ref z :: st.map (g_v ad)) = (Value.ref q :: st).map (g_v ad1) := by
    rw [List.map_cons]
    show _ = Value.ref (ad1 q) :: _
    rw [ad_q]
    congr 1
    exact List.map_congr_left (fun u hu => (hval u (hs u (List.mem_cons_of_mem _ (List.mem_cons_of_mem _ hu)))).symm)
  show W p l e _ s m args below meth c H1 locs _ _ _ (F0 m _ ls (Value.ref z :: st.map (g_v ad)))
  rw [eS]
  exact kk p e s m args below meth c H1 locs ls ad1 X X2 (X3.tr hext) (by
    have e1 : L.map (fun r => (r.1, g_v ad1 r.2)) = L.map (fun r => (r.1, g_v ad r.2)) := List.map_congr_left (fun r hr => by rw [hval _ (hL r hr)])
    unfold g_loc
    rw [e1]
    exact hl) (fun r hr => (hL r hr).mono mono) (fun u hu => by
    rcases List.mem_cons.mp hu with rfl | hu
    · exact Or.inl (by rw [newM_eq, if_pos rfl]; exact fun w => by cases w)
    · exact (hs u (List.mem_cons_of_mem _ (List.mem_cons_of_mem _ hu))).mono mono) hinvF hS1
end SM
