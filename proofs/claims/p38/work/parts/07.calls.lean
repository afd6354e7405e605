/-! calls and ends -/
def g_cM (y : MethodName) (b : ByteArray) (nL : Nat) (ret : Option FieldType) (nP : Nat) : Prop := (y.cls ≠ "java/lang/invoke/MethodHandle" ∧ y.cls ≠ "java/lang/invoke/VarHandle" ∧ (parseMethodDescriptor y.desc).map (fun d => d.parameters.length) = some nP) ∧ Cond.code y b nL ret ∈ g_T ∧ Cond.initialized y.cls ∈ g_T ∧ nL ≤ 80
def g_lnk (own : String) (idx : Nat) (y : MethodName) : Prop := Cond.methodLink own idx y ∈ g_T ∨ ∃ host, Cond.methodLinkNest own idx y host ∈ g_N
/-- an instance method called by invokevirtual; a static one; a constructor -/
def g_cV (own : String) (idx : Nat) (y : MethodName) (b : ByteArray) (nL : Nat) (ret : Option FieldType) (nP : Nat) : Prop := g_cM y b nL ret nP ∧ g_lnk own idx y ∧ Cond.instanceMethod y ∈ g_T ∧ Cond.selects y.cls y y ∈ g_T
def g_cS (own : String) (idx : Nat) (y : MethodName) (b : ByteArray) (nL : Nat) (ret : Option FieldType) (nP : Nat) : Prop := g_cM y b nL ret nP ∧ g_lnk own idx y ∧ Cond.static y ∈ g_T
def g_cI (own : String) (idx : Nat) (y : MethodName) (b : ByteArray) (nL : Nat) (nP : Nat) : Prop := g_cM y b nL none nP ∧ g_lnk own idx y ∧ Cond.instanceMethod y ∈ g_T ∧ y.name = "<init>"
theorem g_blind {D : va_G} {base : Nat} {sc : g_S} {ad : Nat → Nat} {hp : g_H} {args : List Value} : FrameBlind (g_P D base sc ad hp args) := by
  intro a U g mk q
  obtain ⟨h1, h2, ⟨h3, h4⟩, h5, h6⟩ := q
  exact ⟨h1, g_inv.moved (u := U) (U := U.calling g mk a) (Vm.Alike.refl U.vm) h2, ⟨va_X.moved (u := U) (U := U.calling g mk a) (Vm.Alike.refl U.vm) h3, h4⟩, h5, g_nw.same (u := U) (U := U.calling g mk a) rfl h6⟩
section GC
variable {l : Launch} {D : va_G} {base : Nat} {sc : g_S} {own : String} {y : MethodName} {cc : ByteArray} {nL : Nat} {ret : Option FieldType} {d mc ms : Nat} {ad0 : Nat → Nat} {hp0 hp : g_H} {Post : Option Value → g_H → Prop} {k n : Nat} {pc : Nat} {L : List (Nat × Value)} {st : List Value}
theorem g_scrH {s : State} {H : Heap} {locs : List Loc} {ad : Nat → Nat} (X2 : g_scr base sc ad0 s) (X3 : g_ext sc hp0 hp ad0 ad) (hS : va_S (fun q => base ≤ q) s.heap H locs) {U : State} (hU : U.heap = H) (hW : s.vm.Alike U.vm) : g_scr base sc ad U := by
  obtain ⟨h1, h2, h3⟩ := X2
  have e := X3.2
  refine ⟨?_, by rw [e]; exact h2, by rw [hU]; exact Nat.le_trans h3 hS.1⟩
  rw [e, hU]
  exact va_X.moved hW (h1.kept (hS.2.1 _ (Nat.lt_of_lt_of_le h2 h3) (Nat.not_le.mpr h2)))
/-- a callee's start out of the caller's frame -/
theorem g_pre {p : Program} {s : State} {m : MethodId} {args : Array Value} {meth : Method} {c : Code} {H : Heap} {locs : List Loc} {ad : Nat → Nat} (X : g_ctx p s m args meth c own y cc nL ret) (X2 : g_scr base sc ad0 s) (X3 : g_ext sc hp0 hp ad0 ad) (hI : g_inv D base sc ad hp s H) (hS : va_S (fun q => base ≤ q) s.heap H locs) {As : List Value} (hA : ∀ v ∈ As, g_live sc hp v) : PreS s H (g_P D base sc ad hp As) (As.map (g_v ad)) := by
  refine ⟨g_blind, fun U hU hW => ⟨rfl, ?_, g_scrH X2 X3 hS hU hW.alike, hA, g_nw.moved hW X.2.2.2.2.2.2.2.2⟩⟩
  rw [hU]
  exact hI.moved hW.alike
theorem aw_run {p : Program} {e : Env} {s : State} {m : MethodId} {args : Array Value} {below : List Frame} {meth : Method} {c : Code} {H : Heap} {locs : List Loc} {ls : Array Slot} {ad : Nat → Nat} {mcC msC : Nat} {st0 : List Value} {a : Array Value} {PostC : Option Value → g_H → Prop}
    (hr : va_Run p l e (g_room d mc ms) s m args below meth c H locs k n mcC msC (F0 m pc ls st0) (st.map (g_v ad)) (g_Q D base sc ad hp PostC a) (fun q => base ≤ q))
    (X : g_ctx p s m args meth c own y cc nL ret) (X2 : g_scr base sc ad0 s) (X3 : g_ext sc hp0 hp ad0 ad) (hl : g_loc ad L ls nL) (hL : ∀ q ∈ L, g_live sc hp q.2) (hs : ∀ v ∈ st, g_live sc hp v) (hS : va_S (fun q => base ≤ q) s.heap H locs)
    (kk : ∀ (v : Option Value) (hp' : g_H), PostC v hp' → (∀ i, hp i ≠ none → hp' i ≠ none) → AW l D base sc own y cc nL ret d mc ms ad0 hp0 Post (k + mcC) (n + msC) hp' (pc + 3) L (v.toList ++ st)) : W p l e (g_room d mc ms) s m args below meth c H locs k n (MQ below (g_Q D base sc ad0 hp0 Post) args s mc ms (fun q => base ≤ q)) (F0 m pc ls st0) := by
  intro T hT Xs
  obtain ⟨v, st₀, t, T', Lc, h0, X', hLc, e1, e2, ⟨⟨v', hp', ad', hv, hpost, hext, hinv, hlive⟩, hz, hk⟩, stp⟩ := hr T hT Xs
  have hv : v = v'.map (g_v ad') := by cases hv; rfl
  rw [h0] at hz hk
  have hal : s.vm.Alike t.vm := by rw [← e2]; exact X'.warmed.alike
  have eL : L.map (fun r => (r.1, g_v ad' r.2)) = L.map (fun r => (r.1, g_v ad r.2)) := List.map_congr_left (fun r hr => by rw [hext.v (hL r hr)])
  have eS : st.map (g_v ad') = st.map (g_v ad) := List.map_congr_left (fun u hu => hext.v (hs u hu))
  have h1 := kk v' hp' hpost (fun i hi => (hext.1 i hi).2) p e s m args below meth c T'.heap (locs ++ Lc) ls ad' X X2 (X3.tr hext) (by unfold g_loc; rw [eL]; exact hl) (fun q hq => hext.live (hL q hq)) (fun u hu => by
      rcases List.mem_append.mp hu with hu | hu
      · exact hlive u (Option.mem_toList.mp hu)
      · exact hext.live (hs u hu)) (by rw [e1]; exact hinv.moved hal.symm)
    ⟨Nat.le_trans hS.1 (by rw [e1]; exact hz), fun q h1 h2 => by rw [e1, hk q (Nat.lt_of_lt_of_le h1 hS.1) h2]; exact hS.2.1 q h1 h2, fun q hq => by
      rcases List.mem_append.mp hq with h | h
      · exact hS.2.2 q h
      · exact hLc q h⟩
  obtain ⟨t2, a1, b1⟩ := h1 T' rfl X'
  refine ⟨t2, stp t2 ?_, b1⟩
  have e3 : (v'.toList ++ st).map (g_v ad') = v.toList ++ st.map (g_v ad) := by
    rw [List.map_append, eS, hv]
    cases v' <;> rfl
  rw [e3] at a1
  exact a1
theorem aw_callV {idx ci a dC mcC msC nP nL2 : Nat} {fs : List Value} {y2 : MethodName} {b2 : ByteArray} {ret2 : Option FieldType} {PostC : Option Value → g_H → Prop} {stk : List Value} (As : List Value) (hM : AMet l sc y2 b2 nL2 ret2 dC mcC msC (.ref a :: As) hp PostC) (hw : g_cV own idx y2 b2 nL2 ret2 nP) (hc : hp a = some (.inr (ci, fs))) (hci : ∃ r, vwCl[ci]? = some r ∧ r.1 = y2.cls) (hn : As.length = nP) (hstk : stk = As.reverse ++ .ref a :: st) (hdC : dC + 1 ≤ d) (hst : (st.map fun v => v.category).sum ≤ 8) (hcells : k + mcC ≤ mc) (hslots : n + msC ≤ ms) (hd : decode cc pc = .ok (.invokevirtual idx, 3)) (kk : ∀ (v : Option Value) (hp' : g_H), PostC v hp' → (∀ i, hp i ≠ none → hp' i ≠ none) → AW l D base sc own y cc nL ret d mc ms ad0 hp0 Post (k + mcC) (n + msC) hp' (pc + 3) L (v.toList ++ st)) : AW l D base sc own y cc nL ret d mc ms ad0 hp0 Post k n hp pc L stk := by
  subst hstk
  intro p e s m args below meth c H locs ls ad X X2 X3 hl hL hs hI hS
  obtain ⟨⟨hy, hcode, hini, hnL⟩, hlnk, hinst, hsel⟩ := hw
  obtain ⟨r, hr, hrc⟩ := hci
  have hA : ∀ v ∈ (Value.ref a :: As), g_live sc hp v := fun v hv => by
    rcases List.mem_cons.mp hv with rfl | hv
    · exact hs _ (List.mem_append_right _ List.mem_cons_self)
    · exact hs _ (List.mem_append_left _ (List.mem_reverse.mpr hv))
  have hst' : ∀ v ∈ st, g_live sc hp v := fun v hv => hs _ (List.mem_append_right _ (List.mem_cons_of_mem _ hv))
  have hts := X.2.2.2.2.1
  have pre := g_pre X X2 X3 hI hS hA
  have recv : ∃ cellB : Cell, H[ad a]? = some cellB ∧ cellB.vm.isStatics = false ∧ s.vm.findClass y2.cls = some cellB.cls := by
    obtain ⟨⟨tys, ws, hK, hP, hD, hrel⟩, hinj, hclo, hsc⟩ := id hI
    obtain ⟨q0, hq⟩ := g_look hrel hc
    rw [← hrc]
    exact va_recv hK hP hr hq
  have hsum : ((st.map (g_v ad)).map fun v => v.category).sum ≤ 8 := by
    rw [List.map_map]
    have e9 : ((fun v : Value => v.category) ∘ g_v ad) = fun v => v.category := funext (fun v => g_v_cat ad v)
    rw [e9]
    exact hst
  have hstack : (F0 m pc ls ((As.reverse ++ .ref a :: st).map (g_v ad))).stack = (As.map (g_v ad)).reverse ++ .ref (ad a) :: st.map (g_v ad) := by
    show (As.reverse ++ .ref a :: st).map (g_v ad) = _
    rw [List.map_append, List.map_reverse]
    rfl
  have hR : (g_room dC mcC msC).frames + 1 ≤ (g_room d mc ms).frames ∧ 8 + (nL2 + 11) + (g_room dC mcC msC).locals ≤ (g_room d mc ms).locals := ⟨hdC, by show 8 + (nL2 + 11) + 100 * dC ≤ 100 * d; omega⟩
  rcases hlnk with hlnk | ⟨host, hlnk⟩
  · exact aw_run (va_runV (n := nP) ⟨X.1, X.2.1, X.2.2.1, X.2.2.2.1, hts⟩ (hM D base ad) ⟨callB_of nP hts (g_Tgood hcode) rfl rfl rfl (hts _ hini) (hts _ hlnk) hy hR, hts _ hinst, hts _ hsel⟩ ⟨pre.1, recv, pre.2⟩ rfl (by rw [List.length_map]; exact hn) hl.1 hstack (lv_room hsum) hd ⟨hcells, hslots⟩) X X2 X3 hl hL hst' hS kk
  · exact aw_run (va_runVN (n := nP) ⟨X.1, X.2.1, X.2.2.1, X.2.2.2.1, hts⟩ (hM D base ad) ⟨va_cnB nP hts (g_Tgood hcode) rfl rfl rfl (X.2.2.2.2.2.2.2.2.1 _ hlnk) (hts _ hini) hy hR, hts _ hinst, hts _ hsel⟩ ⟨pre.1, recv, pre.2⟩ rfl (by rw [List.length_map]; exact hn) hl.1 hstack (lv_room hsum) hd ⟨hcells, hslots⟩) X X2 X3 hl hL hst' hS kk
theorem aw_callS {idx dC mcC msC nP nL2 : Nat} {y2 : MethodName} {b2 : ByteArray} {ret2 : Option FieldType} {PostC : Option Value → g_H → Prop} {stk : List Value} (As : List Value) (hM : AMet l sc y2 b2 nL2 ret2 dC mcC msC As hp PostC) (hw : g_cS own idx y2 b2 nL2 ret2 nP) (hown : y2.cls = own ∨ True) (hn : As.length = nP) (hstk : stk = As.reverse ++ st) (hdC : dC + 1 ≤ d) (hst : (st.map fun v => v.category).sum ≤ 8) (hcells : k + mcC ≤ mc) (hslots : n + msC ≤ ms) (hd : decode cc pc = .ok (.invokestatic idx, 3)) (kk : ∀ (v : Option Value) (hp' : g_H), PostC v hp' → (∀ i, hp i ≠ none → hp' i ≠ none) → AW l D base sc own y cc nL ret d mc ms ad0 hp0 Post (k + mcC) (n + msC) hp' (pc + 3) L (v.toList ++ st)) : AW l D base sc own y cc nL ret d mc ms ad0 hp0 Post k n hp pc L stk := by
  subst hstk
  intro p e s m args below meth c H locs ls ad X X2 X3 hl hL hs hI hS
  obtain ⟨⟨hy, hcode, hini, hnL⟩, hlnk, hstat⟩ := hw
  have hA : ∀ v ∈ As, g_live sc hp v := fun v hv => hs _ (List.mem_append_left _ (List.mem_reverse.mpr hv))
  have hst' : ∀ v ∈ st, g_live sc hp v := fun v hv => hs _ (List.mem_append_right _ hv)
  have hts := X.2.2.2.2.1
  have pre := g_pre X X2 X3 hI hS hA
  have hsum : ((st.map (g_v ad)).map fun v => v.category).sum ≤ 8 := by
    rw [List.map_map]
    have e9 : ((fun v : Value => v.category) ∘ g_v ad) = fun v => v.category := funext (fun v => g_v_cat ad v)
    rw [e9]
    exact hst
  have hstack : (F0 m pc ls ((As.reverse ++ st).map (g_v ad))).stack = (As.map (g_v ad)).reverse ++ st.map (g_v ad) := by
    show (As.reverse ++ st).map (g_v ad) = _
    rw [List.map_append, List.map_reverse]
  have hR : (g_room dC mcC msC).frames + 1 ≤ (g_room d mc ms).frames ∧ 8 + (nL2 + 11) + (g_room dC mcC msC).locals ≤ (g_room d mc ms).locals := ⟨hdC, by show 8 + (nL2 + 11) + 100 * dC ≤ 100 * d; omega⟩
  rcases hlnk with hlnk | ⟨host, hlnk⟩
  · exact aw_run (va_runS (n := nP) ⟨X.1, X.2.1, X.2.2.1, X.2.2.2.1, hts⟩ (hM D base ad) ⟨callB_of nP hts (g_Tgood hcode) rfl rfl rfl (hts _ hini) (hts _ hlnk) hy hR, hts _ hstat⟩ pre rfl (by rw [List.length_map]; exact hn) hl.1 hstack (lv_room hsum) hd ⟨hcells, hslots⟩) X X2 X3 hl hL hst' hS kk
  · exact aw_run (va_runSN (n := nP) ⟨X.1, X.2.1, X.2.2.1, X.2.2.2.1, hts⟩ (hM D base ad) ⟨va_cnB nP hts (g_Tgood hcode) rfl rfl rfl (X.2.2.2.2.2.2.2.2.1 _ hlnk) (hts _ hini) hy hR, hts _ hstat, trivial⟩ pre rfl (by rw [List.length_map]; exact hn) hl.1 hstack (lv_room hsum) hd ⟨hcells, hslots⟩) X X2 X3 hl hL hst' hS kk
theorem aw_callI {idx a dC mcC msC nP nL2 : Nat} {y2 : MethodName} {b2 : ByteArray} {PostC : Option Value → g_H → Prop} {stk : List Value} (As : List Value) (hM : AMet l sc y2 b2 nL2 none dC mcC msC (.ref a :: As) hp PostC) (hw : g_cI own idx y2 b2 nL2 nP) (hn : As.length = nP) (hstk : stk = As.reverse ++ .ref a :: st) (hdC : dC + 1 ≤ d) (hst : (st.map fun v => v.category).sum ≤ 8) (hcells : k + mcC ≤ mc) (hslots : n + msC ≤ ms) (hd : decode cc pc = .ok (.invokespecial idx, 3)) (kk : ∀ (v : Option Value) (hp' : g_H), PostC v hp' → (∀ i, hp i ≠ none → hp' i ≠ none) → AW l D base sc own y cc nL ret d mc ms ad0 hp0 Post (k + mcC) (n + msC) hp' (pc + 3) L (v.toList ++ st)) : AW l D base sc own y cc nL ret d mc ms ad0 hp0 Post k n hp pc L stk := by
  subst hstk
  intro p e s m args below meth c H locs ls ad X X2 X3 hl hL hs hI hS
  obtain ⟨⟨hy, hcode, hini, hnL⟩, hlnk, hinst, hname⟩ := hw
  have hA : ∀ v ∈ (Value.ref a :: As), g_live sc hp v := fun v hv => by
    rcases List.mem_cons.mp hv with rfl | hv
    · exact hs _ (List.mem_append_right _ List.mem_cons_self)
    · exact hs _ (List.mem_append_left _ (List.mem_reverse.mpr hv))
  have hst' : ∀ v ∈ st, g_live sc hp v := fun v hv => hs _ (List.mem_append_right _ (List.mem_cons_of_mem _ hv))
  have hts := X.2.2.2.2.1
  have pre := g_pre X X2 X3 hI hS hA
  have hsum : ((st.map (g_v ad)).map fun v => v.category).sum ≤ 8 := by
    rw [List.map_map]
    have e9 : ((fun v : Value => v.category) ∘ g_v ad) = fun v => v.category := funext (fun v => g_v_cat ad v)
    rw [e9]
    exact hst
  have hstack : (F0 m pc ls ((As.reverse ++ .ref a :: st).map (g_v ad))).stack = (As.map (g_v ad)).reverse ++ .ref (ad a) :: st.map (g_v ad) := by
    show (As.reverse ++ .ref a :: st).map (g_v ad) = _
    rw [List.map_append, List.map_reverse]
    rfl
  have hR : (g_room dC mcC msC).frames + 1 ≤ (g_room d mc ms).frames ∧ 8 + (nL2 + 11) + (g_room dC mcC msC).locals ≤ (g_room d mc ms).locals := ⟨hdC, by show 8 + (nL2 + 11) + 100 * dC ≤ 100 * d; omega⟩
  rcases hlnk with hlnk | ⟨host, hlnk⟩
  · exact aw_run (va_runI (n := nP) ⟨X.1, X.2.1, X.2.2.1, X.2.2.2.1, hts⟩ (hM D base ad) ⟨callB_of nP hts (g_Tgood hcode) rfl rfl rfl (hts _ hini) (hts _ hlnk) hy hR, hname, hts _ hinst⟩ pre rfl (by rw [List.length_map]; exact hn) hl.1 hstack (lv_room hsum) hd ⟨hcells, hslots⟩) X X2 X3 hl hL hst' hS kk
  · exact aw_run (va_runIN (n := nP) ⟨X.1, X.2.1, X.2.2.1, X.2.2.2.1, hts⟩ (hM D base ad) ⟨va_cnB nP hts (g_Tgood hcode) rfl rfl rfl (X.2.2.2.2.2.2.2.2.1 _ hlnk) (hts _ hini) hy hR, hname, hts _ hinst⟩ pre rfl (by rw [List.length_map]; exact hn) hl.1 hstack (lv_room hsum) hd ⟨hcells, hslots⟩) X X2 X3 hl hL hst' hS kk
/-- Object's constructor -/
theorem aw_objInit {idx a : Nat} (hw : Cond.methodLink own idx Lib.objectInit ∈ g_T) (hw2 : Cond.instanceMethod Lib.objectInit ∈ g_T) (hw3 : Cond.code Lib.objectInit ⟨#[0xb1]⟩ 1 none ∈ g_T) (hd1 : 1 ≤ d) (hst : (st.map fun v => v.category).sum ≤ 8) (hd : decode cc pc = .ok (.invokespecial idx, 3)) (kk : AW l D base sc own y cc nL ret d mc ms ad0 hp0 Post k n hp (pc + 3) L st) : AW l D base sc own y cc nL ret d mc ms ad0 hp0 Post k n hp pc L (.ref a :: st) := by
  intro p e s m args below meth c H locs ls ad X X2 X3 hl hL hs hI hS
  have hts := X.2.2.2.2.1
  have hsum : ((st.map (g_v ad)).map fun v => v.category).sum ≤ 8 := by
    rw [List.map_map]
    have e9 : ((fun v : Value => v.category) ∘ g_v ad) = fun v => v.category := funext (fun v => g_v_cat ad v)
    rw [e9]
    exact hst
  refine W.objInit (R := g_room d mc ms) X.1 X.2.1 X.2.2.2.1 (hts _ hw) (hts _ hw2) (hts _ hw3) (g := F0 m pc ls ((.ref a :: st).map (g_v ad))) rfl (by rw [X.2.2.1]; exact hl.1) (rest := st.map (g_v ad)) rfl hd hd1 (by show 2 * 0 + _ + 12 ≤ 100 * d; omega) ?_
  exact kk p e s m args below meth c H locs ls ad X X2 X3 hl hL (fun v hv => hs v (List.mem_cons_of_mem _ hv)) hI hS
theorem g_end {s t : State} {H : Heap} {locs : List Loc} {ad : Nat → Nat} {args : Array Value} (v : Option Value) (hpost : Post v hp) (X3 : g_ext sc hp0 hp ad0 ad) (hI : g_inv D base sc ad hp s H) (hS : va_S (fun q => base ≤ q) s.heap H locs) (hlv : ∀ w, v = some w → g_live sc hp w) (ht : t.heap = H) (hW : s.WarmedH t.vm) : g_Q D base sc ad0 hp0 Post args s (.returned (v.map (g_v ad))) t :=
  ⟨⟨v, hp, ad, rfl, hpost, X3, by rw [ht]; exact hI.moved hW.alike, hlv⟩, hS.F ht⟩
theorem aw_iret {x : Int32} {rt : FieldType} (hr : ret = some rt) (hn : narrow rt (.int x) = .int x) (hk : k ≤ mc) (hk2 : n ≤ ms) (hd : decode cc pc = .ok (.ireturn, 1)) (hpost : Post (some (.int x)) hp) : AW l D base sc own y cc nL ret d mc ms ad0 hp0 Post k n hp pc L [.int x] := by
  intro p e s m args below meth c H locs ls ad X X2 X3 hl hL hs hI hS
  refine W.widen hk hk2 ?_
  exact W.zret (v := x) X.1 X.2.1 (X.2.2.2.2.2.1.trans hr) hn (fun t ht hW => g_end (some (.int x)) hpost X3 hI hS (fun w hw => by cases hw; trivial) ht hW) hS.2.2 hd X.2.2.2.2.2.2.1
theorem aw_lret {x : Int64} (hr : ret = some .long) (hk : k ≤ mc) (hk2 : n ≤ ms) (hd : decode cc pc = .ok (.lreturn, 1)) (hpost : Post (some (.long x)) hp) : AW l D base sc own y cc nL ret d mc ms ad0 hp0 Post k n hp pc L [.long x] := by
  intro p e s m args below meth c H locs ls ad X X2 X3 hl hL hs hI hS
  refine W.widen hk hk2 ?_
  exact W.lret (v := x) X.1 X.2.1 (X.2.2.2.2.2.1.trans hr) (fun t ht hW => g_end (some (.long x)) hpost X3 hI hS (fun w hw => by cases hw; trivial) ht hW) hS.2.2 hd X.2.2.2.2.2.2.1
theorem aw_aret {v : Value} {rt : FieldType} (hr : ret = some rt) (hrt : (∃ n, rt = .object n) ∨ ∃ t, rt = .array t) (hv : v = .null ∨ ∃ a, v = .ref a) (hk : k ≤ mc) (hk2 : n ≤ ms) (hd : decode cc pc = .ok (.areturn, 1)) (hpost : Post (some v) hp) : AW l D base sc own y cc nL ret d mc ms ad0 hp0 Post k n hp pc L [v] := by
  intro p e s m args below meth c H locs ls ad X X2 X3 hl hL hs hI hS
  refine W.widen hk hk2 ?_
  exact W.aret (v := g_v ad v) X.1 X.2.1 (X.2.2.2.2.2.1.trans hr) hrt (by rcases hv with rfl | ⟨a, rfl⟩; exact Or.inl rfl; exact Or.inr ⟨_, rfl⟩) (fun t ht hW => g_end (some v) hpost X3 hI hS (fun w hw => by cases hw; exact hs v List.mem_cons_self) ht hW) hS.2.2 hd X.2.2.2.2.2.2.1
theorem aw_vret (hr : ret = none) (hk : k ≤ mc) (hk2 : n ≤ ms) (hd : decode cc pc = .ok (.return_, 1)) (hpost : Post none hp) : AW l D base sc own y cc nL ret d mc ms ad0 hp0 Post k n hp pc L [] := by
  intro p e s m args below meth c H locs ls ad X X2 X3 hl hL hs hI hS
  refine W.widen hk hk2 ?_
  exact W.vret X.1 X.2.1 (X.2.2.2.2.2.1.trans hr) (fun t ht hW => g_end none hpost X3 hI hS (fun w hw => by cases hw) ht hW) hS.2.2 hd X.2.2.2.2.2.2.1
/-- the script -/
theorem aw_sld {i : Int32} (hin : vp_in i sc.2.1) (hd : decode cc pc = .ok (.iaload, 1)) (kk : AW l D base sc own y cc nL ret d mc ms ad0 hp0 Post k n hp (pc + 1) L (.int (sc.2.2 i.toNatClampNeg) :: st)) : AW l D base sc own y cc nL ret d mc ms ad0 hp0 Post k n hp pc L (.int i :: .ref sc.1 :: st) := by
  intro p e s m args below meth c H locs ls ad X X2 X3 hl hL hs hI hS
  have e1 := X3.2
  have h := kk p e s m args below meth c H locs ls ad X X2 X3 hl hL (fun u hu => by
    rcases List.mem_cons.mp hu with rfl | hu
    · trivial
    · exact hs u (List.mem_cons_of_mem _ (List.mem_cons_of_mem _ hu))) hI hS
  show W p l e _ s m args below meth c H locs k n _ (F0 m pc ls (.int i :: .ref (ad sc.1) :: st.map (g_v ad)))
  rw [e1]
  exact va_sld X.1 X.2.1 X2.1 (Nat.lt_of_lt_of_le X2.2.1 X2.2.2) (Nat.not_le.mpr X2.2.1) hS hin hd h
theorem aw_slen (v : Int32) (hv : Int32.ofNat sc.2.1 = v) (hd : decode cc pc = .ok (.arraylength, 1)) (kk : AW l D base sc own y cc nL ret d mc ms ad0 hp0 Post k n hp (pc + 1) L (.int v :: st)) : AW l D base sc own y cc nL ret d mc ms ad0 hp0 Post k n hp pc L (.ref sc.1 :: st) := by
  subst hv
  intro p e s m args below meth c H locs ls ad X X2 X3 hl hL hs hI hS
  have e1 := X3.2
  have h := kk p e s m args below meth c H locs ls ad X X2 X3 hl hL (fun u hu => by
    rcases List.mem_cons.mp hu with rfl | hu
    · trivial
    · exact hs u (List.mem_cons_of_mem _ hu)) hI hS
  show W p l e _ s m args below meth c H locs k n _ (F0 m pc ls (.ref (ad sc.1) :: st.map (g_v ad)))
  rw [e1]
  exact va_slen X.1 X.2.1 X2.1 (Nat.lt_of_lt_of_le X2.2.1 X2.2.2) (Nat.not_le.mpr X2.2.1) hS hd h
theorem aw_mmax {a b : Int32} {idx : Nat} (hw : Cond.methodLink own idx Lib.Math.max.name ∈ g_T) (hw2 : Cond.static Lib.Math.max.name ∈ g_T) (hw3 : Cond.initialized "java/lang/Math" ∈ g_T) (hw4 : Cond.code Lib.Math.max.name Lib.Math.max.code 2 (some .int) ∈ g_T) (hd1 : 1 ≤ d) (hst : (st.map fun v => v.category).sum ≤ 8) (hc : k ≤ mc) (hc2 : n ≤ ms) (hd : decode cc pc = .ok (.invokestatic idx, 3)) (kk : AW l D base sc own y cc nL ret d mc ms ad0 hp0 Post k n hp (pc + 3) L (.int (if a < b then b else a) :: st)) : AW l D base sc own y cc nL ret d mc ms ad0 hp0 Post k n hp pc L (.int b :: .int a :: st) := by
  intro p e s m args below meth c H locs ls ad X X2 X3 hl hL hs hI hS
  have hts := X.2.2.2.2.1
  have hsum : ((st.map (g_v ad)).map fun v => v.category).sum ≤ 8 := by
    rw [List.map_map]
    have e9 : ((fun v : Value => v.category) ∘ g_v ad) = fun v => v.category := funext (fun v => g_v_cat ad v)
    rw [e9]
    exact hst
  exact va_mmax X.1 X.2.1 (X.2.2.1.trans hl.1.symm) X.2.2.2.1 (hts _ hw) (hts _ hw2) (hts _ hw3) (hts _ hw4) hd1 (by show _ + 13 ≤ 100 * d; omega) hc hc2 hd (kk p e s m args below meth c H locs ls ad X X2 X3 hl hL (fun v hv => by
    rcases List.mem_cons.mp hv with rfl | hv
    · trivial
    · exact hs v (List.mem_cons_of_mem _ (List.mem_cons_of_mem _ hv))) hI hS)
theorem aw_mmin {a b : Int32} {idx : Nat} (hw : Cond.methodLink own idx Lib.Math.min.name ∈ g_T) (hw2 : Cond.static Lib.Math.min.name ∈ g_T) (hw3 : Cond.initialized "java/lang/Math" ∈ g_T) (hw4 : Cond.code Lib.Math.min.name Lib.Math.min.code 2 (some .int) ∈ g_T) (hd1 : 1 ≤ d) (hst : (st.map fun v => v.category).sum ≤ 8) (hc : k ≤ mc) (hc2 : n ≤ ms) (hd : decode cc pc = .ok (.invokestatic idx, 3)) (kk : AW l D base sc own y cc nL ret d mc ms ad0 hp0 Post k n hp (pc + 3) L (.int (if b < a then b else a) :: st)) : AW l D base sc own y cc nL ret d mc ms ad0 hp0 Post k n hp pc L (.int b :: .int a :: st) := by
  intro p e s m args below meth c H locs ls ad X X2 X3 hl hL hs hI hS
  have hts := X.2.2.2.2.1
  have hsum : ((st.map (g_v ad)).map fun v => v.category).sum ≤ 8 := by
    rw [List.map_map]
    have e9 : ((fun v : Value => v.category) ∘ g_v ad) = fun v => v.category := funext (fun v => g_v_cat ad v)
    rw [e9]
    exact hst
  exact va_mmin X.1 X.2.1 (X.2.2.1.trans hl.1.symm) X.2.2.2.1 (hts _ hw) (hts _ hw2) (hts _ hw3) (hts _ hw4) hd1 (by show _ + 13 ≤ 100 * d; omega) hc hc2 hd (kk p e s m args below meth c H locs ls ad X X2 X3 hl hL (fun v hv => by
    rcases List.mem_cons.mp hv with rfl | hv
    · trivial
    · exact hs v (List.mem_cons_of_mem _ (List.mem_cons_of_mem _ hv))) hI hS)
theorem aw_mabs {a : Int32} {idx : Nat} (hw : Cond.methodLink own idx Lib.Math.abs.name ∈ g_T) (hw2 : Cond.static Lib.Math.abs.name ∈ g_T) (hw3 : Cond.initialized "java/lang/Math" ∈ g_T) (hw4 : Cond.code Lib.Math.abs.name Lib.Math.abs.code 1 (some .int) ∈ g_T) (hd1 : 1 ≤ d) (hst : (st.map fun v => v.category).sum ≤ 8) (hc : k ≤ mc) (hc2 : n ≤ ms) (hd : decode cc pc = .ok (.invokestatic idx, 3)) (kk : AW l D base sc own y cc nL ret d mc ms ad0 hp0 Post k n hp (pc + 3) L (.int (if 0 ≤ a then a else 0 - a) :: st)) : AW l D base sc own y cc nL ret d mc ms ad0 hp0 Post k n hp pc L (.int a :: st) := by
  intro p e s m args below meth c H locs ls ad X X2 X3 hl hL hs hI hS
  have hts := X.2.2.2.2.1
  have hsum : ((st.map (g_v ad)).map fun v => v.category).sum ≤ 8 := by
    rw [List.map_map]
    have e9 : ((fun v : Value => v.category) ∘ g_v ad) = fun v => v.category := funext (fun v => g_v_cat ad v)
    rw [e9]
    exact hst
  exact va_mabs X.1 X.2.1 (X.2.2.1.trans hl.1.symm) X.2.2.2.1 (hts _ hw) (hts _ hw2) (hts _ hw3) (hts _ hw4) hd1 (by show _ + 13 ≤ 100 * d; omega) hc hc2 hd (kk p e s m args below meth c H locs ls ad X X2 X3 hl hL (fun v hv => by
    rcases List.mem_cons.mp hv with rfl | hv
    · trivial
    · exact hs v (List.mem_cons_of_mem _ hv)) hI hS)
theorem aw_copy {idx a0 a1 n0 n1 : Nat} {f g : Nat → Int32} {ty : FieldType} {sp dp nn : Int32} (hw : Cond.methodLink own idx arraycopyName ∈ g_T) (hw1 : Cond.native arraycopyName ∈ g_T) (hw2 : Cond.static arraycopyName ∈ g_T) (hw3 : Cond.initialized "java/lang/System" ∈ g_T) (hc0 : hp a0 = some (.inl (ty, (n0, .inl f)))) (hc1 : hp a1 = some (.inl (ty, (n1, .inl g)))) (hprim : refKind ty = false) (h1 : ¬ sp < 0) (h2 : ¬ dp < 0) (h3 : ¬ nn < 0) (h4 : sp.toNatClampNeg + nn.toNatClampNeg ≤ n0) (h5 : dp.toNatClampNeg + nn.toNatClampNeg ≤ n1) (hfit : ∀ i, i < nn.toNatClampNeg → fits ty (.int (f (sp.toNatClampNeg + i))) = true) (hd1 : 1 ≤ d) (hst : (st.map fun v => v.category).sum ≤ 8) (hd : decode cc pc = .ok (.invokestatic idx, 3)) (kk : AW l D base sc own y cc nL ret d mc ms ad0 hp0 Post k n (g_up hp a1 (.inl (ty, (n1, .inl (va_cpy f g sp.toNatClampNeg dp.toNatClampNeg nn.toNatClampNeg))))) (pc + 3) L st) : AW l D base sc own y cc nL ret d mc ms ad0 hp0 Post k n hp pc L (.int nn :: .int dp :: .ref a1 :: .int sp :: .ref a0 :: st) := by
  intro p e s m args below meth c H locs ls ad X X2 X3 hl hL hs hI hS
  have hts := X.2.2.2.2.1
  have hsum : ((st.map (g_v ad)).map fun v => v.category).sum ≤ 8 := by
    rw [List.map_map]
    have e9 : ((fun v : Value => v.category) ∘ g_v ad) = fun v => v.category := funext (fun v => g_v_cat ad v)
    rw [e9]
    exact hst
  obtain ⟨⟨tys, ws, hK, hP, hD, hrel⟩, hinj, hclo, hsc⟩ := id hI
  have hboth : ∃ (q0 q1 t0 t1 : Nat) (c0 c1 : ClassId), ws[q0]? = some (ad a0, .inl (c0, (n0, .inl f))) ∧ ws[q1]? = some (ad a1, .inl (c1, (n1, .inl g))) ∧ tys[t0]? = some (c0, ty) ∧ tys[t1]? = some (c1, ty) := by
    obtain ⟨q0, t0, c0, hq0, ht0⟩ := g_lookA hrel hc0
    obtain ⟨q1, t1, c1, hq1, ht1⟩ := g_lookA hrel hc1
    exact ⟨q0, q1, t0, t1, c0, c1, hq0, hq1, ht0, ht1⟩
  obtain ⟨q0, q1, t0, t1, c0, c1, hq0, hq1, ht0, ht1⟩ := hboth
  have hfw : nativeFrameWords "java/lang/System" "arraycopy" 5 + 19 ≤ 100 := by decide +kernel
  refine va_copyi X.1 X.2.1 (X.2.2.1.trans hl.1.symm) X.2.2.2.1 (hts _ hw) (hts _ hw1) (hts _ hw2) (hts _ hw3) hK hP hD hS q0 q1 t0 t1 hq0 hq1 ht0 ht1 hprim h1 h2 h3 h4 h5 hfit hd1 (by show _ + _ ≤ 100 * d; omega) hd (fun H1 locs1 hP1 hD1 hS1 => ?_)
  exact kk p e s m args below meth c H1 locs1 ls ad X X2 (X3.tr (g_ext.up a1 _)) hl (fun q hq => (hL q hq).mono (g_up_mono _ _ _)) (fun u hu => (hs u (List.mem_cons_of_mem _ (List.mem_cons_of_mem _ (List.mem_cons_of_mem _ (List.mem_cons_of_mem _ (List.mem_cons_of_mem _ hu)))))).mono (g_up_mono _ _ _))
    (hI.set hK hrel hD hc1 hq1 hP1 hD1 ⟨List.mem_of_getElem? ht1, rfl⟩ trivial) hS1
end GC
