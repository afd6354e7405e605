/-! the rows -/
section GH
variable {l : Launch} {D : va_G} {base : Nat} {sc : g_S} {own : String} {y : MethodName} {cc : ByteArray} {nL : Nat} {ret : Option FieldType} {d mc ms : Nat} {ad0 : Nat → Nat} {hp0 hp : g_H} {Post : Option Value → g_H → Prop} {k n : Nat} {pc : Nat} {L : List (Nat × Value)} {st : List Value}
theorem g_look {ad : Nat → Nat} {tys : List (ClassId × FieldType)} {ws : va_W} (hrel : ∀ i e, hp i = some e → ∃ (k : Nat) (e' : va_E), ws[k]? = some (ad i, e') ∧ g_cell ad tys e e') {a ci : Nat} {fs : List Value} (hc : hp a = some (.inr (ci, fs))) : ∃ q0 : Nat, ws[q0]? = some (ad a, .inr (ci, fs.map (g_v ad))) := by
  obtain ⟨q0, e', hq, hcell⟩ := hrel a _ hc
  rcases e' with e' | ⟨ci', fs'⟩
  · exact hcell.elim
  · obtain ⟨h1, h2⟩ := hcell
    have h1 : ci' = ci := h1
    have h2 : fs' = fs.map (g_v ad) := h2
    subst h1; subst h2
    exact ⟨q0, hq⟩
theorem g_lookA {ad : Nat → Nat} {tys : List (ClassId × FieldType)} {ws : va_W} (hrel : ∀ i e, hp i = some e → ∃ (k : Nat) (e' : va_E), ws[k]? = some (ad i, e') ∧ g_cell ad tys e e') {a : Nat} {ty : FieldType} {x : vp_A} (hc : hp a = some (.inl (ty, x))) : ∃ (q0 t0 : Nat) (cA : ClassId), ws[q0]? = some (ad a, .inl (cA, g_c ad x)) ∧ tys[t0]? = some (cA, ty) := by
  obtain ⟨q0, e', hq, hcell⟩ := hrel a _ hc
  rcases e' with ⟨cA, x'⟩ | e'
  · obtain ⟨h1, h2⟩ := hcell
    have h2 : x' = g_c ad x := h2
    subst h2
    obtain ⟨t0, ht⟩ := List.getElem?_of_mem h1
    exact ⟨q0, t0, cA, hq, ht⟩
  · exact hcell.elim
theorem aw_get {idx ci kf a : Nat} {fs : List Value} {v : Value} (hF : g_fl own idx ci kf) (hc : hp a = some (.inr (ci, fs))) (hv : fs[kf]? = some v) (hd : decode cc pc = .ok (.getfield idx, 3)) (kk : AW l D base sc own y cc nL ret d mc ms ad0 hp0 Post k n hp (pc + 3) L (v :: st)) : AW l D base sc own y cc nL ret d mc ms ad0 hp0 Post k n hp pc L (.ref a :: st) := by
  intro p e s m args below meth c H locs ls ad X X2 X3 hl hL hs hI hS
  obtain ⟨⟨C, T, N⟩, hr, hk, hC, hcls, hlink⟩ := hF
  obtain ⟨⟨tys, ws, hK, hP, hD, hrel⟩, hinj, hclo, hsc⟩ := id hI
  obtain ⟨q0, hq⟩ := g_look hrel hc
  have hv' : (fs.map (g_v ad))[kf]? = some (g_v ad v) := by rw [List.getElem?_map, hv]; rfl
  have kk' := kk p e s m args below meth c H locs ls ad X X2 X3 hl hL (fun u hu => by
    rcases List.mem_cons.mp hu with rfl | hu
    · exact hclo a _ hc u (List.mem_of_getElem? hv)
    · exact hs u (List.mem_cons_of_mem _ hu)) hI hS
  have hsame : ∀ x, s.fieldFound? (T kf).1 (T kf).2.1 (T kf).2.2.1 = some x → s.fieldFound? C (T kf).2.1 (T kf).2.2.1 = some x := fun x hx => by rw [← (show (T kf).1 = C from hC)]; exact hx
  rcases hlink with hlink | ⟨host, hlink⟩
  · exact va_get X.1 X.2.1 X.2.2.2.2.1 hcls X.2.2.2.1 hK hP q0 hq hr kf hk (X.2.2.2.2.1 _ hlink) hsame hv' hd kk'
  · exact va_getN X.1 X.2.1 X.2.2.2.2.1 hcls X.2.2.2.1 hK hP q0 hq hr kf hk (va_Nw.use (g_nN hlink) (X.2.2.2.2.2.2.2.2.1 _ hlink)) hsame hv' hd kk'
theorem aw_put {idx ci kf a : Nat} {fs : List Value} {v : Value} (ty : Nat → FieldType) (hF : g_fl own idx ci kf) (hty : ∀ r, vwCl[ci]? = some r → g_tys r ty ∧ (r.2.1 kf).2.2.2 = false) (hc : hp a = some (.inr (ci, fs))) (hn : narrow (ty kf) v = v) (hf : fits (ty kf) v = true) (hlen : kf < fs.length) (hd : decode cc pc = .ok (.putfield idx, 3)) (kk : AW l D base sc own y cc nL ret d mc ms ad0 hp0 Post k n (g_up hp a (.inr (ci, fs.set kf v))) (pc + 3) L st) : AW l D base sc own y cc nL ret d mc ms ad0 hp0 Post k n hp pc L (v :: .ref a :: st) := by
  intro p e s m args below meth c H locs ls ad X X2 X3 hl hL hs hI hS
  obtain ⟨⟨C, T, N⟩, hr, hk, hC, hcls, hlink⟩ := hF
  obtain ⟨⟨ht1, ht2⟩, hfin⟩ := hty _ hr
  obtain ⟨⟨tys, ws, hK, hP, hD, hrel⟩, hinj, hclo, hsc⟩ := id hI
  obtain ⟨q0, hq⟩ := g_look hrel hc
  have hsame : ∀ x, s.fieldFound? (T kf).1 (T kf).2.1 (T kf).2.2.1 = some x → s.fieldFound? C (T kf).2.1 (T kf).2.2.1 = some x := fun x hx => by rw [← (show (T kf).1 = C from hC)]; exact hx
  have hl9 : kf < (fs.map (g_v ad)).length := by rw [List.length_map]; exact hlen
  have hkk : ∀ (H1 : Heap) (locs1 : List Loc), va_P D vwCl (ws.set q0 (ad a, .inr (ci, (fs.map (g_v ad)).set kf (g_v ad v)))) H1 → va_D (fun q => base ≤ q) (ws.set q0 (ad a, .inr (ci, (fs.map (g_v ad)).set kf (g_v ad v)))) → va_S (fun q => base ≤ q) s.heap H1 locs1 → W p l e (g_room d mc ms) s m args below meth c H1 locs1 k n (MQ below (g_Q D base sc ad0 hp0 Post) args s mc ms (fun q => base ≤ q)) (F0 m (pc + 3) ls (st.map (g_v ad))) := by
    intro H1 locs1 hP1 hD1 hS1
    have hcl : g_ecl sc hp (.inr (ci, fs.set kf v)) := fun u hu => by
      rcases List.mem_or_eq_of_mem_set hu with hu | hu
      · exact hclo a _ hc u hu
      · rw [hu]; exact hs v List.mem_cons_self
    exact kk p e s m args below meth c H1 locs1 ls ad X X2 (X3.tr (g_ext.up a _)) hl (fun q hq => (hL q hq).mono (g_up_mono _ _ _)) (fun u hu => (hs u (List.mem_cons_of_mem _ (List.mem_cons_of_mem _ hu))).mono (g_up_mono _ _ _))
      (hI.set hK hrel hD hc hq hP1 hD1 ⟨rfl, (List.map_set).symm⟩ hcl) hS1
  rcases hlink with hlink | ⟨host, hlink⟩
  · exact va_put X.1 X.2.1 X.2.2.2.2.1 hcls ty ht1 ht2 X.2.2.2.1 hK hP hD hS q0 hq hr kf hk (X.2.2.2.2.1 _ hlink) hsame hfin (ht1 kf hk) (g_narrow ad hn) (g_fits ad hf) hl9 hd hkk
  · exact va_putN X.1 X.2.1 X.2.2.2.2.1 hcls ty ht1 ht2 X.2.2.2.1 hK hP hD hS q0 hq hr kf hk (va_Nw.use (g_nN hlink) (X.2.2.2.2.2.2.2.2.1 _ hlink)) hsame hfin (ht1 kf hk) (g_narrow ad hn) (g_fits ad hf) hl9 hd hkk
theorem aw_putF {idx ci kf a : Nat} {fs : List Value} {v : Value} (ty : Nat → FieldType) (hF : g_flo own idx ci kf) (hty : ∀ r, vwCl[ci]? = some r → g_tys r ty ∧ (r.2.1 kf).2.2.2 = true) (hin2 : y.name = "<init>") (hdecl : ∀ r, vwCl[ci]? = some r → r.1 = own) (hc : hp a = some (.inr (ci, fs))) (hn : narrow (ty kf) v = v) (hf : fits (ty kf) v = true) (hlen : kf < fs.length) (hd : decode cc pc = .ok (.putfield idx, 3)) (kk : AW l D base sc own y cc nL ret d mc ms ad0 hp0 Post k n (g_up hp a (.inr (ci, fs.set kf v))) (pc + 3) L st) : AW l D base sc own y cc nL ret d mc ms ad0 hp0 Post k n hp pc L (v :: .ref a :: st) := by
  intro p e s m args below meth c H locs ls ad X X2 X3 hl hL hs hI hS
  obtain ⟨⟨C, T, N⟩, hr, hk, hC, hcls, hlink⟩ := hF
  obtain ⟨⟨ht1, ht2⟩, hfin⟩ := hty _ hr
  obtain ⟨⟨tys, ws, hK, hP, hD, hrel⟩, hinj, hclo, hsc⟩ := id hI
  obtain ⟨q0, hq⟩ := g_look hrel hc
  have hsame : ∀ x, s.fieldFound? (T kf).1 (T kf).2.1 (T kf).2.2.1 = some x → s.fieldFound? C (T kf).2.1 (T kf).2.2.1 = some x := fun x hx => by rw [← (show (T kf).1 = C from hC)]; exact hx
  have hl9 : kf < (fs.map (g_v ad)).length := by rw [List.length_map]; exact hlen
  have hkk : ∀ (H1 : Heap) (locs1 : List Loc), va_P D vwCl (ws.set q0 (ad a, .inr (ci, (fs.map (g_v ad)).set kf (g_v ad v)))) H1 → va_D (fun q => base ≤ q) (ws.set q0 (ad a, .inr (ci, (fs.map (g_v ad)).set kf (g_v ad v)))) → va_S (fun q => base ≤ q) s.heap H1 locs1 → W p l e (g_room d mc ms) s m args below meth c H1 locs1 k n (MQ below (g_Q D base sc ad0 hp0 Post) args s mc ms (fun q => base ≤ q)) (F0 m (pc + 3) ls (st.map (g_v ad))) := by
    intro H1 locs1 hP1 hD1 hS1
    have hcl : g_ecl sc hp (.inr (ci, fs.set kf v)) := fun u hu => by
      rcases List.mem_or_eq_of_mem_set hu with hu | hu
      · exact hclo a _ hc u hu
      · rw [hu]; exact hs v List.mem_cons_self
    exact kk p e s m args below meth c H1 locs1 ls ad X X2 (X3.tr (g_ext.up a _)) hl (fun q hq => (hL q hq).mono (g_up_mono _ _ _)) (fun u hu => (hs u (List.mem_cons_of_mem _ (List.mem_cons_of_mem _ hu))).mono (g_up_mono _ _ _))
      (hI.set hK hrel hD hc hq hP1 hD1 ⟨rfl, (List.map_set).symm⟩ hcl) hS1
  rcases hlink with hlink | hlink
  · exact va_putF X.1 X.2.1 X.2.2.2.2.1 hcls ty ht1 ht2 X.2.2.2.1 hK hP hD hS q0 hq hr kf hk (X.2.2.2.2.1 _ hlink) hsame hfin (X.2.2.2.2.2.2.2.1.trans hin2) (hC.trans (hdecl _ hr)) (ht1 kf hk) (g_narrow ad hn) (g_fits ad hf) hl9 hd hkk
  · exact hlink.elim
theorem aw_iald {a n0 : Nat} {f : Nat → Int32} {i : Int32} (hc : hp a = some (.inl (.int, (n0, .inl f)))) (hin : vp_in i n0) (hd : decode cc pc = .ok (.iaload, 1)) (kk : AW l D base sc own y cc nL ret d mc ms ad0 hp0 Post k n hp (pc + 1) L (.int (f i.toNatClampNeg) :: st)) : AW l D base sc own y cc nL ret d mc ms ad0 hp0 Post k n hp pc L (.int i :: .ref a :: st) := by
  intro p e s m args below meth c H locs ls ad X X2 X3 hl hL hs hI hS
  obtain ⟨⟨tys, ws, hK, hP, hD, hrel⟩, hinj, hclo, hsc⟩ := id hI
  obtain ⟨q0, t0, cA, hq, ht⟩ := g_lookA hrel hc
  exact va_iald X.1 X.2.1 hK hP q0 t0 hq ht hin hd (kk p e s m args below meth c H locs ls ad X X2 X3 hl hL (fun u hu => by
    rcases List.mem_cons.mp hu with rfl | hu
    · trivial
    · exact hs u (List.mem_cons_of_mem _ (List.mem_cons_of_mem _ hu))) hI hS)
theorem aw_bald {a n0 : Nat} {f : Nat → Int32} {i : Int32} (hc : hp a = some (.inl (.byte, (n0, .inl f)))) (hin : vp_in i n0) (hd : decode cc pc = .ok (.baload, 1)) (kk : AW l D base sc own y cc nL ret d mc ms ad0 hp0 Post k n hp (pc + 1) L (.int (f i.toNatClampNeg) :: st)) : AW l D base sc own y cc nL ret d mc ms ad0 hp0 Post k n hp pc L (.int i :: .ref a :: st) := by
  intro p e s m args below meth c H locs ls ad X X2 X3 hl hL hs hI hS
  obtain ⟨⟨tys, ws, hK, hP, hD, hrel⟩, hinj, hclo, hsc⟩ := id hI
  obtain ⟨q0, t0, cA, hq, ht⟩ := g_lookA hrel hc
  exact va_bald X.1 X.2.1 hK hP q0 t0 hq ht hin hd (kk p e s m args below meth c H locs ls ad X X2 X3 hl hL (fun u hu => by
    rcases List.mem_cons.mp hu with rfl | hu
    · trivial
    · exact hs u (List.mem_cons_of_mem _ (List.mem_cons_of_mem _ hu))) hI hS)
theorem aw_zald {a n0 : Nat} {f : Nat → Int32} {i : Int32} (hc : hp a = some (.inl (.boolean, (n0, .inl f)))) (hin : vp_in i n0) (hd : decode cc pc = .ok (.baload, 1)) (kk : AW l D base sc own y cc nL ret d mc ms ad0 hp0 Post k n hp (pc + 1) L (.int (f i.toNatClampNeg) :: st)) : AW l D base sc own y cc nL ret d mc ms ad0 hp0 Post k n hp pc L (.int i :: .ref a :: st) := by
  intro p e s m args below meth c H locs ls ad X X2 X3 hl hL hs hI hS
  obtain ⟨⟨tys, ws, hK, hP, hD, hrel⟩, hinj, hclo, hsc⟩ := id hI
  obtain ⟨q0, t0, cA, hq, ht⟩ := g_lookA hrel hc
  exact va_zald X.1 X.2.1 hK hP q0 t0 hq ht hin hd (kk p e s m args below meth c H locs ls ad X X2 X3 hl hL (fun u hu => by
    rcases List.mem_cons.mp hu with rfl | hu
    · trivial
    · exact hs u (List.mem_cons_of_mem _ (List.mem_cons_of_mem _ hu))) hI hS)
theorem aw_lald {a n0 : Nat} {f : Nat → Int64} {i : Int32} (hc : hp a = some (.inl (.long, (n0, .inr (.inl f))))) (hin : vp_in i n0) (hd : decode cc pc = .ok (.laload, 1)) (kk : AW l D base sc own y cc nL ret d mc ms ad0 hp0 Post k n hp (pc + 1) L (.long (f i.toNatClampNeg) :: st)) : AW l D base sc own y cc nL ret d mc ms ad0 hp0 Post k n hp pc L (.int i :: .ref a :: st) := by
  intro p e s m args below meth c H locs ls ad X X2 X3 hl hL hs hI hS
  obtain ⟨⟨tys, ws, hK, hP, hD, hrel⟩, hinj, hclo, hsc⟩ := id hI
  obtain ⟨q0, t0, cA, hq, ht⟩ := g_lookA hrel hc
  exact va_lald X.1 X.2.1 hK hP q0 t0 hq ht hin hd (kk p e s m args below meth c H locs ls ad X X2 X3 hl hL (fun u hu => by
    rcases List.mem_cons.mp hu with rfl | hu
    · trivial
    · exact hs u (List.mem_cons_of_mem _ (List.mem_cons_of_mem _ hu))) hI hS)
theorem aw_aald {a n0 : Nat} {C : String} {f : Nat → Option Nat} {i : Int32} (v : Value) (hc : hp a = some (.inl (.object C, (n0, .inr (.inr (.inr (.inr f))))))) (hin : vp_in i n0) (hv : va_rf (f i.toNatClampNeg) = v) (hd : decode cc pc = .ok (.aaload, 1)) (kk : AW l D base sc own y cc nL ret d mc ms ad0 hp0 Post k n hp (pc + 1) L (v :: st)) : AW l D base sc own y cc nL ret d mc ms ad0 hp0 Post k n hp pc L (.int i :: .ref a :: st) := by
  intro p e s m args below meth c H locs ls ad X X2 X3 hl hL hs hI hS
  obtain ⟨⟨tys, ws, hK, hP, hD, hrel⟩, hinj, hclo, hsc⟩ := id hI
  obtain ⟨q0, t0, cA, hq, ht⟩ := g_lookA hrel hc
  subst hv
  have hkk := kk p e s m args below meth c H locs ls ad X X2 X3 hl hL (fun u hu => by
    rcases List.mem_cons.mp hu with rfl | hu
    · cases hf : f i.toNatClampNeg with
      | none => trivial
      | some b => exact hclo a _ hc _ _ hf
    · exact hs u (List.mem_cons_of_mem _ (List.mem_cons_of_mem _ hu))) hI hS
  refine va_aldq X.1 X.2.1 hK hP q0 t0 hq ht hin hd ?_
  have e1 : va_rf ((f i.toNatClampNeg).map ad) = g_v ad (va_rf (f i.toNatClampNeg)) := by cases f i.toNatClampNeg <;> rfl
  show W p l e _ s m args below meth c H locs k n _ (F0 m (pc + 1) ls (va_rf ((f i.toNatClampNeg).map ad) :: st.map (g_v ad)))
  rw [e1]
  exact hkk
theorem aw_iast {a n0 : Nat} {f : Nat → Int32} {i : Int32} {x : Int32} (hc : hp a = some (.inl (.int, (n0, .inl f)))) (hin : vp_in i n0) (hd : decode cc pc = .ok (.iastore, 1)) (kk : AW l D base sc own y cc nL ret d mc ms ad0 hp0 Post k n (g_up hp a (.inl (.int, (n0, .inl (upd f i.toNatClampNeg x))))) (pc + 1) L st) : AW l D base sc own y cc nL ret d mc ms ad0 hp0 Post k n hp pc L (.int x :: .int i :: .ref a :: st) := by
  intro p e s m args below meth c H locs ls ad X X2 X3 hl hL hs hI hS
  obtain ⟨⟨tys, ws, hK, hP, hD, hrel⟩, hinj, hclo, hsc⟩ := id hI
  obtain ⟨q0, t0, cA, hq, ht⟩ := g_lookA hrel hc
  refine va_iast X.1 X.2.1 hK hP hD hS q0 t0 hq ht hin hd (fun H1 locs1 hP1 hD1 hS1 => ?_)
  exact kk p e s m args below meth c H1 locs1 ls ad X X2 (X3.tr (g_ext.up a _)) hl (fun q hq => (hL q hq).mono (g_up_mono _ _ _)) (fun u hu => (hs u (List.mem_cons_of_mem _ (List.mem_cons_of_mem _ (List.mem_cons_of_mem _ hu)))).mono (g_up_mono _ _ _))
    (hI.set hK hrel hD hc hq hP1 hD1 ⟨List.mem_of_getElem? ht, rfl⟩ trivial) hS1
theorem aw_bast {a n0 : Nat} {f : Nat → Int32} {i : Int32} {x : Int32} (hc : hp a = some (.inl (.byte, (n0, .inl f)))) (hin : vp_in i n0) (hd : decode cc pc = .ok (.bastore, 1)) (kk : AW l D base sc own y cc nL ret d mc ms ad0 hp0 Post k n (g_up hp a (.inl (.byte, (n0, .inl (upd f i.toNatClampNeg (vp_nar .byte x)))))) (pc + 1) L st) : AW l D base sc own y cc nL ret d mc ms ad0 hp0 Post k n hp pc L (.int x :: .int i :: .ref a :: st) := by
  intro p e s m args below meth c H locs ls ad X X2 X3 hl hL hs hI hS
  obtain ⟨⟨tys, ws, hK, hP, hD, hrel⟩, hinj, hclo, hsc⟩ := id hI
  obtain ⟨q0, t0, cA, hq, ht⟩ := g_lookA hrel hc
  refine va_bast X.1 X.2.1 hK hP hD hS q0 t0 hq ht hin hd (fun H1 locs1 hP1 hD1 hS1 => ?_)
  exact kk p e s m args below meth c H1 locs1 ls ad X X2 (X3.tr (g_ext.up a _)) hl (fun q hq => (hL q hq).mono (g_up_mono _ _ _)) (fun u hu => (hs u (List.mem_cons_of_mem _ (List.mem_cons_of_mem _ (List.mem_cons_of_mem _ hu)))).mono (g_up_mono _ _ _))
    (hI.set hK hrel hD hc hq hP1 hD1 ⟨List.mem_of_getElem? ht, rfl⟩ trivial) hS1
theorem aw_zast {a n0 : Nat} {f : Nat → Int32} {i : Int32} {x : Int32} (hc : hp a = some (.inl (.boolean, (n0, .inl f)))) (hin : vp_in i n0) (hd : decode cc pc = .ok (.bastore, 1)) (kk : AW l D base sc own y cc nL ret d mc ms ad0 hp0 Post k n (g_up hp a (.inl (.boolean, (n0, .inl (upd f i.toNatClampNeg (vp_nar .boolean x)))))) (pc + 1) L st) : AW l D base sc own y cc nL ret d mc ms ad0 hp0 Post k n hp pc L (.int x :: .int i :: .ref a :: st) := by
  intro p e s m args below meth c H locs ls ad X X2 X3 hl hL hs hI hS
  obtain ⟨⟨tys, ws, hK, hP, hD, hrel⟩, hinj, hclo, hsc⟩ := id hI
  obtain ⟨q0, t0, cA, hq, ht⟩ := g_lookA hrel hc
  refine va_zast X.1 X.2.1 hK hP hD hS q0 t0 hq ht hin hd (fun H1 locs1 hP1 hD1 hS1 => ?_)
  exact kk p e s m args below meth c H1 locs1 ls ad X X2 (X3.tr (g_ext.up a _)) hl (fun q hq => (hL q hq).mono (g_up_mono _ _ _)) (fun u hu => (hs u (List.mem_cons_of_mem _ (List.mem_cons_of_mem _ (List.mem_cons_of_mem _ hu)))).mono (g_up_mono _ _ _))
    (hI.set hK hrel hD hc hq hP1 hD1 ⟨List.mem_of_getElem? ht, rfl⟩ trivial) hS1
theorem aw_last {a n0 : Nat} {f : Nat → Int64} {i : Int32} {x : Int64} (hc : hp a = some (.inl (.long, (n0, .inr (.inl f))))) (hin : vp_in i n0) (hd : decode cc pc = .ok (.lastore, 1)) (kk : AW l D base sc own y cc nL ret d mc ms ad0 hp0 Post k n (g_up hp a (.inl (.long, (n0, .inr (.inl (vp_updL f i.toNatClampNeg x)))))) (pc + 1) L st) : AW l D base sc own y cc nL ret d mc ms ad0 hp0 Post k n hp pc L (.long x :: .int i :: .ref a :: st) := by
  intro p e s m args below meth c H locs ls ad X X2 X3 hl hL hs hI hS
  obtain ⟨⟨tys, ws, hK, hP, hD, hrel⟩, hinj, hclo, hsc⟩ := id hI
  obtain ⟨q0, t0, cA, hq, ht⟩ := g_lookA hrel hc
  refine va_last X.1 X.2.1 hK hP hD hS q0 t0 hq ht hin hd (fun H1 locs1 hP1 hD1 hS1 => ?_)
  exact kk p e s m args below meth c H1 locs1 ls ad X X2 (X3.tr (g_ext.up a _)) hl (fun q hq => (hL q hq).mono (g_up_mono _ _ _)) (fun u hu => (hs u (List.mem_cons_of_mem _ (List.mem_cons_of_mem _ (List.mem_cons_of_mem _ hu)))).mono (g_up_mono _ _ _))
    (hI.set hK hrel hD hc hq hP1 hD1 ⟨List.mem_of_getElem? ht, rfl⟩ trivial) hS1
theorem aw_aast {a n0 v ci : Nat} {fs : List Value} {C : String} {f : Nat → Option Nat} {i : Int32} (hc : hp a = some (.inl (.object C, (n0, .inr (.inr (.inr (.inr f))))))) (hv : hp v = some (.inr (ci, fs))) (hC : ∃ r, vwCl[ci]? = some r ∧ r.1 = C) (hin : vp_in i n0) (hd : decode cc pc = .ok (.aastore, 1)) (kk : AW l D base sc own y cc nL ret d mc ms ad0 hp0 Post k n (g_up hp a (.inl (.object C, (n0, .inr (.inr (.inr (.inr (va_up f i.toNatClampNeg (some v))))))))) (pc + 1) L st) : AW l D base sc own y cc nL ret d mc ms ad0 hp0 Post k n hp pc L (.ref v :: .int i :: .ref a :: st) := by
  intro p e s m args below meth c H locs ls ad X X2 X3 hl hL hs hI hS
  obtain ⟨⟨tys, ws, hK, hP, hD, hrel⟩, hinj, hclo, hsc⟩ := id hI
  obtain ⟨q0, t0, cA, hq, ht⟩ := g_lookA hrel hc
  obtain ⟨qv, hqv⟩ := g_look hrel hv
  obtain ⟨r, hr, rfl⟩ := hC
  refine va_astq X.1 X.2.1 hK hP hD hS q0 t0 qv ci hq ht hqv hr hin hd (fun H1 locs1 hP1 hD1 hS1 => ?_)
  have e1 : (va_up (fun j => (f j).map ad) i.toNatClampNeg (some (ad v))) = fun j => ((va_up f i.toNatClampNeg (some v)) j).map ad := by
    funext j
    by_cases hj : j = i.toNatClampNeg
    · subst hj; rw [va_up_self, va_up_self]; rfl
    · rw [va_up_ne _ _ hj, va_up_ne _ _ hj]
  refine kk p e s m args below meth c H1 locs1 ls ad X X2 (X3.tr (g_ext.up a _)) hl (fun q hq => (hL q hq).mono (g_up_mono _ _ _)) (fun u hu => (hs u (List.mem_cons_of_mem _ (List.mem_cons_of_mem _ (List.mem_cons_of_mem _ hu)))).mono (g_up_mono _ _ _))
    (hI.set hK hrel hD hc hq hP1 hD1 ⟨List.mem_of_getElem? ht, ?_⟩ ?_) hS1
  · show (n0, Sum.inr (Sum.inr (Sum.inr (Sum.inr _)))) = (n0, Sum.inr (Sum.inr (Sum.inr (Sum.inr _))))
    rw [e1]
  · intro j b hb
    by_cases hj : j = i.toNatClampNeg
    · subst hj
      rw [va_up_self] at hb
      cases hb
      exact hs (.ref v) List.mem_cons_self
    · rw [va_up_ne _ _ hj] at hb
      exact hclo a _ hc j b hb
theorem aw_aastN {a n0 : Nat} {C : String} {f : Nat → Option Nat} {i : Int32} (hc : hp a = some (.inl (.object C, (n0, .inr (.inr (.inr (.inr f))))))) (hin : vp_in i n0) (hd : decode cc pc = .ok (.aastore, 1)) (kk : AW l D base sc own y cc nL ret d mc ms ad0 hp0 Post k n (g_up hp a (.inl (.object C, (n0, .inr (.inr (.inr (.inr (va_up f i.toNatClampNeg none)))))))) (pc + 1) L st) : AW l D base sc own y cc nL ret d mc ms ad0 hp0 Post k n hp pc L (.null :: .int i :: .ref a :: st) := by
  intro p e s m args below meth c H locs ls ad X X2 X3 hl hL hs hI hS
  obtain ⟨⟨tys, ws, hK, hP, hD, hrel⟩, hinj, hclo, hsc⟩ := id hI
  obtain ⟨q0, t0, cA, hq, ht⟩ := g_lookA hrel hc
  refine va_astqN X.1 X.2.1 hK hP hD hS q0 t0 hq ht hin hd (fun H1 locs1 hP1 hD1 hS1 => ?_)
  have e1 : (va_up (fun j => (f j).map ad) i.toNatClampNeg none) = fun j => ((va_up f i.toNatClampNeg none) j).map ad := by
    funext j
    by_cases hj : j = i.toNatClampNeg
    · subst hj; rw [va_up_self, va_up_self]; rfl
    · rw [va_up_ne _ _ hj, va_up_ne _ _ hj]
  refine kk p e s m args below meth c H1 locs1 ls ad X X2 (X3.tr (g_ext.up a _)) hl (fun q hq => (hL q hq).mono (g_up_mono _ _ _)) (fun u hu => (hs u (List.mem_cons_of_mem _ (List.mem_cons_of_mem _ (List.mem_cons_of_mem _ hu)))).mono (g_up_mono _ _ _))
    (hI.set hK hrel hD hc hq hP1 hD1 ⟨List.mem_of_getElem? ht, ?_⟩ ?_) hS1
  · show (n0, Sum.inr (Sum.inr (Sum.inr (Sum.inr _)))) = (n0, Sum.inr (Sum.inr (Sum.inr (Sum.inr _))))
    rw [e1]
  · intro j b hb
    by_cases hj : j = i.toNatClampNeg
    · subst hj
      rw [va_up_self] at hb
      cases hb
    · rw [va_up_ne _ _ hj] at hb
      exact hclo a _ hc j b hb
theorem g_c_len (ad : Nat → Nat) (x : vp_A) : (g_c ad x).1 = x.1 := by
  obtain ⟨nn, f | f | f | f | f⟩ := x <;> rfl
theorem aw_alen {a : Nat} {ty : FieldType} {x : vp_A} (v : Int32) (hc : hp a = some (.inl (ty, x))) (hv : Int32.ofNat x.1 = v) (hd : decode cc pc = .ok (.arraylength, 1)) (kk : AW l D base sc own y cc nL ret d mc ms ad0 hp0 Post k n hp (pc + 1) L (.int v :: st)) : AW l D base sc own y cc nL ret d mc ms ad0 hp0 Post k n hp pc L (.ref a :: st) := by
  intro p e s m args below meth c H locs ls ad X X2 X3 hl hL hs hI hS
  obtain ⟨⟨tys, ws, hK, hP, hD, hrel⟩, hinj, hclo, hsc⟩ := id hI
  obtain ⟨q0, t0, cA, hq, ht⟩ := g_lookA hrel hc
  exact va_alen X.1 X.2.1 hK hP q0 t0 hq ht (by rw [g_c_len]; exact hv) hd (kk p e s m args below meth c H locs ls ad X X2 X3 hl hL (fun u hu => by
    rcases List.mem_cons.mp hu with rfl | hu
    · trivial
    · exact hs u (List.mem_cons_of_mem _ hu)) hI hS)
theorem aw_newI (q : Nat) {nn : Int32} {N' : Nat} (hq : hp q = none) (hqs : q ≠ sc.1) (hw : Cond.arrayClass .int ∈ g_T) (hn : ¬ nn < 0) (hN : nn.toNatClampNeg = N') (hbytes : N' * 4 ≤ 536870912) (hcells : k + 1 ≤ mc) (hslots : n + N' ≤ ms) (hd : decode cc pc = .ok (.newarray .int, 2)) (kk : AW l D base sc own y cc nL ret d mc ms ad0 hp0 Post (k + 1) (n + N') (g_up hp q (.inl (.int, (N', .inl fun _ => 0)))) (pc + 2) L (.ref q :: st)) : AW l D base sc own y cc nL ret d mc ms ad0 hp0 Post k n hp pc L (.int nn :: st) := by
  intro p e s m args below meth c H locs ls ad X X2 X3 hl hL hs hI hS
  obtain ⟨⟨tys, ws, hK, hP, hD, hrel⟩, hinj, hclo, hsc⟩ := id hI
  refine va_newa (atype := .int) (ty := .int) (a0 := (N', .inl fun _ => 0)) X.1 X.2.1 (X.2.2.2.2.1 _ hw) rfl hK hP hD hS (fun q hq => Nat.le_trans X2.2.2 hq) (fun _ => rfl) hn hN hbytes hcells hslots hd (fun z cA H1 hK1 hP1 hD1 hS1 => ?_)
  have e2 : (Value.ref z :: st.map (g_v ad)) = (Value.ref q :: st).map (g_v (g_ad ad q z)) := by
    rw [List.map_cons]
    show _ = Value.ref (g_ad ad q z q) :: _
    rw [g_ad_self]
    congr 1
    exact List.map_congr_left (fun u hu => (g_v_ad (hs u (List.mem_cons_of_mem _ hu)) hq hqs).symm)
  show W p l e _ s m args below meth c H1 locs _ _ _ (F0 m _ ls (Value.ref z :: st.map (g_v ad)))
  rw [e2]
  have hm : ∀ i, hp i ≠ none → g_up hp q (.inl (.int, (N', .inl fun _ => 0))) i ≠ none := g_up_mono hp q (.inl (.int, (N', .inl fun _ => 0)))
  exact kk p e s m args below meth c H1 locs ls (g_ad ad q z) X X2 (X3.tr (g_ext.new z (.inl (.int, (N', .inl fun _ => 0))) hq hqs)) (by
    have e1 : L.map (fun r => (r.1, g_v (g_ad ad q z) r.2)) = L.map (fun r => (r.1, g_v ad r.2)) := List.map_congr_left (fun r hr => by rw [g_v_ad (hL r hr) hq hqs])
    unfold g_loc
    rw [e1]
    exact hl) (fun r hr => (hL r hr).mono hm) (fun u hu => by
    rcases List.mem_cons.mp hu with rfl | hu
    · exact Or.inl (by rw [g_up_self]; exact fun w => by cases w)
    · exact (hs u (List.mem_cons_of_mem _ hu)).mono hm) (hI.new hK1 hrel hP1 hD1 hq hqs ⟨List.mem_append_right _ List.mem_cons_self, rfl⟩ trivial) hS1
theorem aw_newB (q : Nat) {nn : Int32} {N' : Nat} (hq : hp q = none) (hqs : q ≠ sc.1) (hw : Cond.arrayClass .byte ∈ g_T) (hn : ¬ nn < 0) (hN : nn.toNatClampNeg = N') (hbytes : N' * 1 ≤ 536870912) (hcells : k + 1 ≤ mc) (hslots : n + N' ≤ ms) (hd : decode cc pc = .ok (.newarray .byte, 2)) (kk : AW l D base sc own y cc nL ret d mc ms ad0 hp0 Post (k + 1) (n + N') (g_up hp q (.inl (.byte, (N', .inl fun _ => 0)))) (pc + 2) L (.ref q :: st)) : AW l D base sc own y cc nL ret d mc ms ad0 hp0 Post k n hp pc L (.int nn :: st) := by
  intro p e s m args below meth c H locs ls ad X X2 X3 hl hL hs hI hS
  obtain ⟨⟨tys, ws, hK, hP, hD, hrel⟩, hinj, hclo, hsc⟩ := id hI
  refine va_newa (atype := .byte) (ty := .byte) (a0 := (N', .inl fun _ => 0)) X.1 X.2.1 (X.2.2.2.2.1 _ hw) rfl hK hP hD hS (fun q hq => Nat.le_trans X2.2.2 hq) (fun _ => rfl) hn hN hbytes hcells hslots hd (fun z cA H1 hK1 hP1 hD1 hS1 => ?_)
  have e2 : (Value.ref z :: st.map (g_v ad)) = (Value.ref q :: st).map (g_v (g_ad ad q z)) := by
    rw [List.map_cons]
    show _ = Value.ref (g_ad ad q z q) :: _
    rw [g_ad_self]
    congr 1
    exact List.map_congr_left (fun u hu => (g_v_ad (hs u (List.mem_cons_of_mem _ hu)) hq hqs).symm)
  show W p l e _ s m args below meth c H1 locs _ _ _ (F0 m _ ls (Value.ref z :: st.map (g_v ad)))
  rw [e2]
  have hm : ∀ i, hp i ≠ none → g_up hp q (.inl (.byte, (N', .inl fun _ => 0))) i ≠ none := g_up_mono hp q (.inl (.byte, (N', .inl fun _ => 0)))
  exact kk p e s m args below meth c H1 locs ls (g_ad ad q z) X X2 (X3.tr (g_ext.new z (.inl (.byte, (N', .inl fun _ => 0))) hq hqs)) (by
    have e1 : L.map (fun r => (r.1, g_v (g_ad ad q z) r.2)) = L.map (fun r => (r.1, g_v ad r.2)) := List.map_congr_left (fun r hr => by rw [g_v_ad (hL r hr) hq hqs])
    unfold g_loc
    rw [e1]
    exact hl) (fun r hr => (hL r hr).mono hm) (fun u hu => by
    rcases List.mem_cons.mp hu with rfl | hu
    · exact Or.inl (by rw [g_up_self]; exact fun w => by cases w)
    · exact (hs u (List.mem_cons_of_mem _ hu)).mono hm) (hI.new hK1 hrel hP1 hD1 hq hqs ⟨List.mem_append_right _ List.mem_cons_self, rfl⟩ trivial) hS1
theorem aw_newZ (q : Nat) {nn : Int32} {N' : Nat} (hq : hp q = none) (hqs : q ≠ sc.1) (hw : Cond.arrayClass .boolean ∈ g_T) (hn : ¬ nn < 0) (hN : nn.toNatClampNeg = N') (hbytes : N' * 1 ≤ 536870912) (hcells : k + 1 ≤ mc) (hslots : n + N' ≤ ms) (hd : decode cc pc = .ok (.newarray .boolean, 2)) (kk : AW l D base sc own y cc nL ret d mc ms ad0 hp0 Post (k + 1) (n + N') (g_up hp q (.inl (.boolean, (N', .inl fun _ => 0)))) (pc + 2) L (.ref q :: st)) : AW l D base sc own y cc nL ret d mc ms ad0 hp0 Post k n hp pc L (.int nn :: st) := by
  intro p e s m args below meth c H locs ls ad X X2 X3 hl hL hs hI hS
  obtain ⟨⟨tys, ws, hK, hP, hD, hrel⟩, hinj, hclo, hsc⟩ := id hI
  refine va_newa (atype := .boolean) (ty := .boolean) (a0 := (N', .inl fun _ => 0)) X.1 X.2.1 (X.2.2.2.2.1 _ hw) rfl hK hP hD hS (fun q hq => Nat.le_trans X2.2.2 hq) (fun _ => rfl) hn hN hbytes hcells hslots hd (fun z cA H1 hK1 hP1 hD1 hS1 => ?_)
  have e2 : (Value.ref z :: st.map (g_v ad)) = (Value.ref q :: st).map (g_v (g_ad ad q z)) := by
    rw [List.map_cons]
    show _ = Value.ref (g_ad ad q z q) :: _
    rw [g_ad_self]
    congr 1
    exact List.map_congr_left (fun u hu => (g_v_ad (hs u (List.mem_cons_of_mem _ hu)) hq hqs).symm)
  show W p l e _ s m args below meth c H1 locs _ _ _ (F0 m _ ls (Value.ref z :: st.map (g_v ad)))
  rw [e2]
  have hm : ∀ i, hp i ≠ none → g_up hp q (.inl (.boolean, (N', .inl fun _ => 0))) i ≠ none := g_up_mono hp q (.inl (.boolean, (N', .inl fun _ => 0)))
  exact kk p e s m args below meth c H1 locs ls (g_ad ad q z) X X2 (X3.tr (g_ext.new z (.inl (.boolean, (N', .inl fun _ => 0))) hq hqs)) (by
    have e1 : L.map (fun r => (r.1, g_v (g_ad ad q z) r.2)) = L.map (fun r => (r.1, g_v ad r.2)) := List.map_congr_left (fun r hr => by rw [g_v_ad (hL r hr) hq hqs])
    unfold g_loc
    rw [e1]
    exact hl) (fun r hr => (hL r hr).mono hm) (fun u hu => by
    rcases List.mem_cons.mp hu with rfl | hu
    · exact Or.inl (by rw [g_up_self]; exact fun w => by cases w)
    · exact (hs u (List.mem_cons_of_mem _ hu)).mono hm) (hI.new hK1 hrel hP1 hD1 hq hqs ⟨List.mem_append_right _ List.mem_cons_self, rfl⟩ trivial) hS1
theorem aw_newJ (q : Nat) {nn : Int32} {N' : Nat} (hq : hp q = none) (hqs : q ≠ sc.1) (hw : Cond.arrayClass .long ∈ g_T) (hn : ¬ nn < 0) (hN : nn.toNatClampNeg = N') (hbytes : N' * 8 ≤ 536870912) (hcells : k + 1 ≤ mc) (hslots : n + N' ≤ ms) (hd : decode cc pc = .ok (.newarray .long, 2)) (kk : AW l D base sc own y cc nL ret d mc ms ad0 hp0 Post (k + 1) (n + N') (g_up hp q (.inl (.long, (N', .inr (.inl fun _ => 0))))) (pc + 2) L (.ref q :: st)) : AW l D base sc own y cc nL ret d mc ms ad0 hp0 Post k n hp pc L (.int nn :: st) := by
  intro p e s m args below meth c H locs ls ad X X2 X3 hl hL hs hI hS
  obtain ⟨⟨tys, ws, hK, hP, hD, hrel⟩, hinj, hclo, hsc⟩ := id hI
  refine va_newa (atype := .long) (ty := .long) (a0 := (N', .inr (.inl fun _ => 0))) X.1 X.2.1 (X.2.2.2.2.1 _ hw) rfl hK hP hD hS (fun q hq => Nat.le_trans X2.2.2 hq) (fun _ => rfl) hn hN hbytes hcells hslots hd (fun z cA H1 hK1 hP1 hD1 hS1 => ?_)
  have e2 : (Value.ref z :: st.map (g_v ad)) = (Value.ref q :: st).map (g_v (g_ad ad q z)) := by
    rw [List.map_cons]
    show _ = Value.ref (g_ad ad q z q) :: _
    rw [g_ad_self]
    congr 1
    exact List.map_congr_left (fun u hu => (g_v_ad (hs u (List.mem_cons_of_mem _ hu)) hq hqs).symm)
  show W p l e _ s m args below meth c H1 locs _ _ _ (F0 m _ ls (Value.ref z :: st.map (g_v ad)))
  rw [e2]
  have hm : ∀ i, hp i ≠ none → g_up hp q (.inl (.long, (N', .inr (.inl fun _ => 0)))) i ≠ none := g_up_mono hp q (.inl (.long, (N', .inr (.inl fun _ => 0))))
  exact kk p e s m args below meth c H1 locs ls (g_ad ad q z) X X2 (X3.tr (g_ext.new z (.inl (.long, (N', .inr (.inl fun _ => 0)))) hq hqs)) (by
    have e1 : L.map (fun r => (r.1, g_v (g_ad ad q z) r.2)) = L.map (fun r => (r.1, g_v ad r.2)) := List.map_congr_left (fun r hr => by rw [g_v_ad (hL r hr) hq hqs])
    unfold g_loc
    rw [e1]
    exact hl) (fun r hr => (hL r hr).mono hm) (fun u hu => by
    rcases List.mem_cons.mp hu with rfl | hu
    · exact Or.inl (by rw [g_up_self]; exact fun w => by cases w)
    · exact (hs u (List.mem_cons_of_mem _ hu)).mono hm) (hI.new hK1 hrel hP1 hD1 hq hqs ⟨List.mem_append_right _ List.mem_cons_self, rfl⟩ trivial) hS1
theorem aw_newQ (q : Nat) {idx : Nat} {nn : Int32} {N' : Nat} (hq : hp q = none) (hqs : q ≠ sc.1) (hw : Cond.classLink own idx "UppityGames$Game" ∈ g_T) (hn : ¬ nn < 0) (hN : nn.toNatClampNeg = N') (hbytes : N' * 4 ≤ 536870912) (hcells : k + 1 ≤ mc) (hslots : n + N' ≤ ms) (hd : decode cc pc = .ok (.anewarray idx, 3)) (kk : AW l D base sc own y cc nL ret d mc ms ad0 hp0 Post (k + 1) (n + N') (g_up hp q (.inl (.object "UppityGames$Game", (N', .inr (.inr (.inr (.inr fun _ => none))))))) (pc + 3) L (.ref q :: st)) : AW l D base sc own y cc nL ret d mc ms ad0 hp0 Post k n hp pc L (.int nn :: st) := by
  intro p e s m args below meth c H locs ls ad X X2 X3 hl hL hs hI hS
  obtain ⟨⟨tys, ws, hK, hP, hD, hrel⟩, hinj, hclo, hsc⟩ := id hI
  refine va_newq X.1 X.2.1 X.2.2.2.1 (X.2.2.2.2.1 _ hw) X.2.2.2.2.2.2.2.2.2.1 hK hP hD hS (fun q hq => Nat.le_trans X2.2.2 hq) hn hN hbytes hcells hslots hd (fun z cA H1 hK1 hP1 hD1 hS1 => ?_)
  have e2 : (Value.ref z :: st.map (g_v ad)) = (Value.ref q :: st).map (g_v (g_ad ad q z)) := by
    rw [List.map_cons]
    show _ = Value.ref (g_ad ad q z q) :: _
    rw [g_ad_self]
    congr 1
    exact List.map_congr_left (fun u hu => (g_v_ad (hs u (List.mem_cons_of_mem _ hu)) hq hqs).symm)
  show W p l e _ s m args below meth c H1 locs _ _ _ (F0 m _ ls (Value.ref z :: st.map (g_v ad)))
  rw [e2]
  have hm : ∀ i, hp i ≠ none → g_up hp q (.inl (.object "UppityGames$Game", (N', .inr (.inr (.inr (.inr fun _ => none)))))) i ≠ none := g_up_mono hp q (.inl (.object "UppityGames$Game", (N', .inr (.inr (.inr (.inr fun _ => none))))))
  exact kk p e s m args below meth c H1 locs ls (g_ad ad q z) X X2 (X3.tr (g_ext.new z (.inl (.object "UppityGames$Game", (N', .inr (.inr (.inr (.inr fun _ => none)))))) hq hqs)) (by
    have e1 : L.map (fun r => (r.1, g_v (g_ad ad q z) r.2)) = L.map (fun r => (r.1, g_v ad r.2)) := List.map_congr_left (fun r hr => by rw [g_v_ad (hL r hr) hq hqs])
    unfold g_loc
    rw [e1]
    exact hl) (fun r hr => (hL r hr).mono hm) (fun u hu => by
    rcases List.mem_cons.mp hu with rfl | hu
    · exact Or.inl (by rw [g_up_self]; exact fun w => by cases w)
    · exact (hs u (List.mem_cons_of_mem _ hu)).mono hm) (hI.new hK1 hrel hP1 hD1 hq hqs ⟨List.mem_append_right _ List.mem_cons_self, rfl⟩ (fun j b hb => by cases hb)) hS1
theorem aw_new (q : Nat) {idx ci : Nat} {C : String} {N : Nat} (fs : List Value) (ty : Nat → FieldType) (hr : ∃ T : u_T, vwCl[ci]? = some (C, T, N) ∧ g_tys (C, T, N) ty ∧ g_cls (C, T, N)) (hq : hp q = none) (hqs : q ≠ sc.1) (hw : Cond.classLink own idx C ∈ g_T) (hw2 : Cond.instantiable C N ∈ g_T) (hw3 : Cond.initialized C ∈ g_T) (hfs : ∀ j, j < N → defaultValue (ty j) = vp_V fs j) (hnr : ∀ v ∈ fs, ∀ i, v ≠ .ref i) (hcells : k + 1 ≤ mc) (hslots : n + N ≤ ms) (hd : decode cc pc = .ok (.new idx, 3)) (kk : AW l D base sc own y cc nL ret d mc ms ad0 hp0 Post (k + 1) (n + N) (g_up hp q (.inr (ci, fs))) (pc + 3) L (.ref q :: st)) : AW l D base sc own y cc nL ret d mc ms ad0 hp0 Post k n hp pc L st := by
  intro p e s m args below meth c H locs ls ad X X2 X3 hl hL hs hI hS
  obtain ⟨⟨tys, ws, hK, hP, hD, hrel⟩, hinj, hclo, hsc⟩ := id hI
  obtain ⟨T, hr, ⟨ht1, ht2⟩, hcls⟩ := hr
  have hfm : ∀ a' : Nat → Nat, fs.map (g_v a') = fs := fun a' => by
    conv => rhs; rw [← List.map_id fs]
    exact List.map_congr_left (fun v hv => by cases v <;> first | rfl | exact absurd rfl (hnr _ hv _))
  refine va_new X.1 X.2.1 X.2.2.2.2.1 hcls ty ht1 X.2.2.2.1 (X.2.2.2.2.1 _ hw) (X.2.2.2.2.1 _ hw2) (X.2.2.2.2.1 _ hw3) hK hP hD hS (fun q hq => Nat.le_trans X2.2.2 hq) hr hfs hcells hslots hd (fun z H1 hP1 hD1 hS1 => ?_)
  have hK1 : va_K D vwCl (tys ++ []) s := by rw [List.append_nil]; exact hK
  have e2 : (Value.ref z :: st.map (g_v ad)) = (Value.ref q :: st).map (g_v (g_ad ad q z)) := by
    rw [List.map_cons]
    show _ = Value.ref (g_ad ad q z q) :: _
    rw [g_ad_self]
    congr 1
    exact List.map_congr_left (fun u hu => (g_v_ad (hs u hu) hq hqs).symm)
  show W p l e _ s m args below meth c H1 locs _ _ _ (F0 m _ ls (Value.ref z :: st.map (g_v ad)))
  rw [e2]
  have hm : ∀ i, hp i ≠ none → g_up hp q (.inr (ci, fs)) i ≠ none := g_up_mono hp q (.inr (ci, fs))
  exact kk p e s m args below meth c H1 locs ls (g_ad ad q z) X X2 (X3.tr (g_ext.new z (.inr (ci, fs)) hq hqs)) (by
    have e1 : L.map (fun r => (r.1, g_v (g_ad ad q z) r.2)) = L.map (fun r => (r.1, g_v ad r.2)) := List.map_congr_left (fun r hr => by rw [g_v_ad (hL r hr) hq hqs])
    unfold g_loc
    rw [e1]
    exact hl) (fun r hr => (hL r hr).mono hm) (fun u hu => by
    rcases List.mem_cons.mp hu with rfl | hu
    · exact Or.inl (by rw [g_up_self]; exact fun w => by cases w)
    · exact (hs u hu).mono hm) (hI.new hK1 hrel hP1 hD1 hq hqs ⟨rfl, (hfm _).symm⟩ (fun v hv => by cases v <;> first | trivial | exact absurd rfl (hnr _ hv _))) hS1
end GH
