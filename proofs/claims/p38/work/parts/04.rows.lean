theorem g_lk {L : List (Nat × Value)} {i : Nat} {v : Value} (h : L.lookup i = some v) : (i, v) ∈ L := by
  induction L with
  | nil => cases h
  | cons q L ih =>
    obtain ⟨a, b⟩ := q
    rw [List.lookup_cons] at h
    by_cases e : i == a
    · rw [e] at h
      cases h
      rw [beq_iff_eq.mp e]
      exact List.mem_cons_self
    · have e2 : (i == a) = false := by simpa using e
      rw [e2] at h
      exact List.mem_cons_of_mem _ (ih h)
theorem g_loc.get {ad : Nat → Nat} {L : List (Nat × Value)} {ls : Array Slot} {nL i : Nat} {v : Value} (h : g_loc ad L ls nL) (hl : L.lookup i = some v) : ls[i]? = some (.val (g_v ad v)) := h.2.2 (i, g_v ad v) (List.mem_map_of_mem (f := fun q => (q.1, g_v ad q.2)) (g_lk hl))
theorem g_filter1 (ad : Nat → Nat) (i : Nat) (L : List (Nat × Value)) : (L.map (fun q => (q.1, g_v ad q.2))).filter (fun q => !(q.1 == i) && !(q.1 + 1 == i && q.2.category == 2)) = (L.filter (fun q => !(q.1 == i) && !(q.1 + 1 == i && q.2.category == 2))).map (fun q => (q.1, g_v ad q.2)) := by
  rw [List.filter_map]
  congr 1
  apply List.filter_congr
  intro q _
  simp only [Function.comp, g_v_cat]
theorem g_filter2 (ad : Nat → Nat) (i : Nat) (L : List (Nat × Value)) : (L.map (fun q => (q.1, g_v ad q.2))).filter (fun q => !(q.1 == i) && (!(q.1 == i + 1) && !(q.1 + 1 == i && q.2.category == 2))) = (L.filter (fun q => !(q.1 == i) && (!(q.1 == i + 1) && !(q.1 + 1 == i && q.2.category == 2)))).map (fun q => (q.1, g_v ad q.2)) := by
  rw [List.filter_map]
  congr 1
  apply List.filter_congr
  intro q _
  simp only [Function.comp, g_v_cat]
/-- the locals behind a store of one slot, of two -/
def g_st1 (L : List (Nat × Value)) (i : Nat) (v : Value) : List (Nat × Value) := (i, v) :: L.filter (fun q => !(q.1 == i) && !(q.1 + 1 == i && q.2.category == 2))
def g_st2 (L : List (Nat × Value)) (i : Nat) (v : Value) : List (Nat × Value) := (i, v) :: L.filter (fun q => !(q.1 == i) && (!(q.1 == i + 1) && !(q.1 + 1 == i && q.2.category == 2)))
section GR
variable {l : Launch} {D : va_G} {base : Nat} {sc : g_S} {own : String} {y : MethodName} {cc : ByteArray} {nL : Nat} {ret : Option FieldType} {d mc ms : Nat} {ad0 : Nat → Nat} {hp0 hp : g_H} {Post : Option Value → g_H → Prop} {k n : Nat} {pc : Nat} {L : List (Nat × Value)} {st : List Value}
theorem AW.locals (L' : List (Nat × Value)) (h : ∀ q ∈ L', q ∈ L) (kk : AW l D base sc own y cc nL ret d mc ms ad0 hp0 Post k n hp pc L' st) : AW l D base sc own y cc nL ret d mc ms ad0 hp0 Post k n hp pc L st := by
  intro p e s m args below meth c H locs ls ad X X2 X3 hl hL hs hI hS
  refine kk p e s m args below meth c H locs ls ad X X2 X3 ⟨hl.1, hl.2.1, fun q hq => ?_⟩ (fun q hq => hL q (h q hq)) hs hI hS
  obtain ⟨q0, h0, rfl⟩ := List.mem_map.mp hq
  exact hl.2.2 _ (List.mem_map_of_mem (f := fun q => (q.1, g_v ad q.2)) (h q0 h0))
theorem AW.widen {k' n' : Nat} (h1 : k ≤ k') (h2 : n ≤ n') (kk : AW l D base sc own y cc nL ret d mc ms ad0 hp0 Post k' n' hp pc L st) : AW l D base sc own y cc nL ret d mc ms ad0 hp0 Post k n hp pc L st := by
  intro p e s m args below meth c H locs ls ad X X2 X3 hl hL hs hI hS
  exact W.widen h1 h2 (kk p e s m args below meth c H locs ls ad X X2 X3 hl hL hs hI hS)
theorem AW.eqh {hp' : g_H} (h : hp = hp') (kk : AW l D base sc own y cc nL ret d mc ms ad0 hp0 Post k n hp' pc L st) : AW l D base sc own y cc nL ret d mc ms ad0 hp0 Post k n hp pc L st := h ▸ kk
theorem AW.eqs {st' : List Value} (h : st = st') (kk : AW l D base sc own y cc nL ret d mc ms ad0 hp0 Post k n hp pc L st') : AW l D base sc own y cc nL ret d mc ms ad0 hp0 Post k n hp pc L st := h ▸ kk
theorem AW.eqL {L' : List (Nat × Value)} (h : L = L') (kk : AW l D base sc own y cc nL ret d mc ms ad0 hp0 Post k n hp pc L' st) : AW l D base sc own y cc nL ret d mc ms ad0 hp0 Post k n hp pc L st := h ▸ kk
theorem aw_iconst {z : Int} (v : Int32) (hd : decode cc pc = .ok (.iconst z, 1)) (hv : Int32.ofInt z = v) (kk : AW l D base sc own y cc nL ret d mc ms ad0 hp0 Post k n hp (pc + 1) L (.int v :: st)) : AW l D base sc own y cc nL ret d mc ms ad0 hp0 Post k n hp pc L (st) := by
  intro p e s m args below meth c H locs ls ad X X2 X3 hl hL hs hI hS
  refine lv_iconst X.1 X.2.1 hd hv ?_
  exact kk p e s m args below meth c H locs ls ad X X2 X3 hl hL (fun v hv => by rcases List.mem_cons.mp hv with rfl | hv; exact trivial; exact hs v hv) hI hS
theorem aw_bipush {z : Int} (v : Int32) (hd : decode cc pc = .ok (.bipush z, 2)) (hv : (Int8.ofInt z).toInt32 = v) (kk : AW l D base sc own y cc nL ret d mc ms ad0 hp0 Post k n hp (pc + 2) L (.int v :: st)) : AW l D base sc own y cc nL ret d mc ms ad0 hp0 Post k n hp pc L (st) := by
  intro p e s m args below meth c H locs ls ad X X2 X3 hl hL hs hI hS
  refine lv_bipush X.1 X.2.1 hd hv ?_
  exact kk p e s m args below meth c H locs ls ad X X2 X3 hl hL (fun v hv => by rcases List.mem_cons.mp hv with rfl | hv; exact trivial; exact hs v hv) hI hS
theorem aw_sipush {z : Int} (v : Int32) (hd : decode cc pc = .ok (.sipush z, 3)) (hv : (Int16.ofInt z).toInt32 = v) (kk : AW l D base sc own y cc nL ret d mc ms ad0 hp0 Post k n hp (pc + 3) L (.int v :: st)) : AW l D base sc own y cc nL ret d mc ms ad0 hp0 Post k n hp pc L (st) := by
  intro p e s m args below meth c H locs ls ad X X2 X3 hl hL hs hI hS
  refine lv_sipush X.1 X.2.1 hd hv ?_
  exact kk p e s m args below meth c H locs ls ad X X2 X3 hl hL (fun v hv => by rcases List.mem_cons.mp hv with rfl | hv; exact trivial; exact hs v hv) hI hS
theorem aw_lconst {z : Fin 2} (v : Int64) (hd : decode cc pc = .ok (.lconst z, 1)) (hv : Int64.ofNat (z : Nat) = v) (kk : AW l D base sc own y cc nL ret d mc ms ad0 hp0 Post k n hp (pc + 1) L (.long v :: st)) : AW l D base sc own y cc nL ret d mc ms ad0 hp0 Post k n hp pc L (st) := by
  intro p e s m args below meth c H locs ls ad X X2 X3 hl hL hs hI hS
  refine lv_lconst X.1 X.2.1 hd hv ?_
  exact kk p e s m args below meth c H locs ls ad X X2 X3 hl hL (fun v hv => by rcases List.mem_cons.mp hv with rfl | hv; exact trivial; exact hs v hv) hI hS
theorem aw_null  (hd : decode cc pc = .ok (.aconst_null, 1)) (kk : AW l D base sc own y cc nL ret d mc ms ad0 hp0 Post k n hp (pc + 1) L (.null :: st)) : AW l D base sc own y cc nL ret d mc ms ad0 hp0 Post k n hp pc L (st) := by
  intro p e s m args below meth c H locs ls ad X X2 X3 hl hL hs hI hS
  refine lv_null X.1 X.2.1 hd ?_
  exact kk p e s m args below meth c H locs ls ad X X2 X3 hl hL (fun v hv => by rcases List.mem_cons.mp hv with rfl | hv; exact trivial; exact hs v hv) hI hS
theorem aw_ldc {ix : Nat} (v : Int32) (hd : decode cc pc = .ok (.ldc ix, 2)) (hw : Cond.constant own ix v ∈ g_T) (kk : AW l D base sc own y cc nL ret d mc ms ad0 hp0 Post k n hp (pc + 2) L (.int v :: st)) : AW l D base sc own y cc nL ret d mc ms ad0 hp0 Post k n hp pc L (st) := by
  intro p e s m args below meth c H locs ls ad X X2 X3 hl hL hs hI hS
  refine lv_ldc X.1 X.2.1 X.2.2.2.1 (X.2.2.2.2.1 _ hw) hd ?_
  exact kk p e s m args below meth c H locs ls ad X X2 X3 hl hL (fun v hv => by rcases List.mem_cons.mp hv with rfl | hv; exact trivial; exact hs v hv) hI hS
theorem aw_ldcw {ix : Nat} (v : Int32) (hd : decode cc pc = .ok (.ldc_w ix, 3)) (hw : Cond.constant own ix v ∈ g_T) (kk : AW l D base sc own y cc nL ret d mc ms ad0 hp0 Post k n hp (pc + 3) L (.int v :: st)) : AW l D base sc own y cc nL ret d mc ms ad0 hp0 Post k n hp pc L (st) := by
  intro p e s m args below meth c H locs ls ad X X2 X3 hl hL hs hI hS
  refine lv_ldcw X.1 X.2.1 X.2.2.2.1 (X.2.2.2.2.1 _ hw) hd ?_
  exact kk p e s m args below meth c H locs ls ad X X2 X3 hl hL (fun v hv => by rcases List.mem_cons.mp hv with rfl | hv; exact trivial; exact hs v hv) hI hS
theorem aw_ldc2 {ix : Nat} (v : Int64) (hd : decode cc pc = .ok (.ldc2_w ix, 3)) (hw : Cond.constantLong own ix v ∈ g_T) (kk : AW l D base sc own y cc nL ret d mc ms ad0 hp0 Post k n hp (pc + 3) L (.long v :: st)) : AW l D base sc own y cc nL ret d mc ms ad0 hp0 Post k n hp pc L (st) := by
  intro p e s m args below meth c H locs ls ad X X2 X3 hl hL hs hI hS
  refine lv_ldc2 X.1 X.2.1 X.2.2.2.1 (X.2.2.2.2.1 _ hw) hd ?_
  exact kk p e s m args below meth c H locs ls ad X X2 X3 hl hL (fun v hv => by rcases List.mem_cons.mp hv with rfl | hv; exact trivial; exact hs v hv) hI hS
theorem aw_iload_n {i : Fin 4} {x : Int32} (hd : decode cc pc = .ok (.iload_n i, 1)) (hx : L.lookup (i : Nat) = some (.int x)) (kk : AW l D base sc own y cc nL ret d mc ms ad0 hp0 Post k n hp (pc + 1) L (.int x :: st)) : AW l D base sc own y cc nL ret d mc ms ad0 hp0 Post k n hp pc L (st) := by
  intro p e s m args below meth c H locs ls ad X X2 X3 hl hL hs hI hS
  refine lv_iload_n X.1 X.2.1 hd rfl (hl.get hx) ?_
  exact kk p e s m args below meth c H locs ls ad X X2 X3 hl hL (fun v hv => by rcases List.mem_cons.mp hv with rfl | hv; exact trivial; exact hs v hv) hI hS
theorem aw_iload {i : Nat} {x : Int32} (hd : decode cc pc = .ok (.iload i, 2)) (hx : L.lookup i = some (.int x)) (kk : AW l D base sc own y cc nL ret d mc ms ad0 hp0 Post k n hp (pc + 2) L (.int x :: st)) : AW l D base sc own y cc nL ret d mc ms ad0 hp0 Post k n hp pc L (st) := by
  intro p e s m args below meth c H locs ls ad X X2 X3 hl hL hs hI hS
  refine lv_iload X.1 X.2.1 hd (hl.get hx) ?_
  exact kk p e s m args below meth c H locs ls ad X X2 X3 hl hL (fun v hv => by rcases List.mem_cons.mp hv with rfl | hv; exact trivial; exact hs v hv) hI hS
theorem aw_lload_n {i : Fin 4} {x : Int64} (hd : decode cc pc = .ok (.lload_n i, 1)) (hx : L.lookup (i : Nat) = some (.long x)) (kk : AW l D base sc own y cc nL ret d mc ms ad0 hp0 Post k n hp (pc + 1) L (.long x :: st)) : AW l D base sc own y cc nL ret d mc ms ad0 hp0 Post k n hp pc L (st) := by
  intro p e s m args below meth c H locs ls ad X X2 X3 hl hL hs hI hS
  refine lv_lload_n X.1 X.2.1 hd rfl (hl.get hx) ?_
  exact kk p e s m args below meth c H locs ls ad X X2 X3 hl hL (fun v hv => by rcases List.mem_cons.mp hv with rfl | hv; exact trivial; exact hs v hv) hI hS
theorem aw_lload {i : Nat} {x : Int64} (hd : decode cc pc = .ok (.lload i, 2)) (hx : L.lookup i = some (.long x)) (kk : AW l D base sc own y cc nL ret d mc ms ad0 hp0 Post k n hp (pc + 2) L (.long x :: st)) : AW l D base sc own y cc nL ret d mc ms ad0 hp0 Post k n hp pc L (st) := by
  intro p e s m args below meth c H locs ls ad X X2 X3 hl hL hs hI hS
  refine lv_lload X.1 X.2.1 hd (hl.get hx) ?_
  exact kk p e s m args below meth c H locs ls ad X X2 X3 hl hL (fun v hv => by rcases List.mem_cons.mp hv with rfl | hv; exact trivial; exact hs v hv) hI hS
theorem aw_aload_n {i : Fin 4} {x : Nat} (hd : decode cc pc = .ok (.aload_n i, 1)) (hx : L.lookup (i : Nat) = some (.ref x)) (kk : AW l D base sc own y cc nL ret d mc ms ad0 hp0 Post k n hp (pc + 1) L (.ref x :: st)) : AW l D base sc own y cc nL ret d mc ms ad0 hp0 Post k n hp pc L (st) := by
  intro p e s m args below meth c H locs ls ad X X2 X3 hl hL hs hI hS
  refine lv_aload_n X.1 X.2.1 hd rfl (hl.get hx) ?_
  exact kk p e s m args below meth c H locs ls ad X X2 X3 hl hL (fun v hv => by rcases List.mem_cons.mp hv with rfl | hv; exact hL (_, Value.ref x) (g_lk hx); exact hs v hv) hI hS
theorem aw_aload {i : Nat} {x : Nat} (hd : decode cc pc = .ok (.aload i, 2)) (hx : L.lookup i = some (.ref x)) (kk : AW l D base sc own y cc nL ret d mc ms ad0 hp0 Post k n hp (pc + 2) L (.ref x :: st)) : AW l D base sc own y cc nL ret d mc ms ad0 hp0 Post k n hp pc L (st) := by
  intro p e s m args below meth c H locs ls ad X X2 X3 hl hL hs hI hS
  refine lv_aload X.1 X.2.1 hd (hl.get hx) ?_
  exact kk p e s m args below meth c H locs ls ad X X2 X3 hl hL (fun v hv => by rcases List.mem_cons.mp hv with rfl | hv; exact hL (_, Value.ref x) (g_lk hx); exact hs v hv) hI hS
theorem aw_aload_nN {i : Fin 4} (hd : decode cc pc = .ok (.aload_n i, 1)) (hx : L.lookup (i : Nat) = some .null) (kk : AW l D base sc own y cc nL ret d mc ms ad0 hp0 Post k n hp (pc + 1) L (.null :: st)) : AW l D base sc own y cc nL ret d mc ms ad0 hp0 Post k n hp pc L (st) := by
  intro p e s m args below meth c H locs ls ad X X2 X3 hl hL hs hI hS
  refine lv_aload_nN X.1 X.2.1 hd rfl (hl.get hx) ?_
  exact kk p e s m args below meth c H locs ls ad X X2 X3 hl hL (fun v hv => by rcases List.mem_cons.mp hv with rfl | hv; exact trivial; exact hs v hv) hI hS
theorem aw_aloadN {i : Nat} (hd : decode cc pc = .ok (.aload i, 2)) (hx : L.lookup i = some .null) (kk : AW l D base sc own y cc nL ret d mc ms ad0 hp0 Post k n hp (pc + 2) L (.null :: st)) : AW l D base sc own y cc nL ret d mc ms ad0 hp0 Post k n hp pc L (st) := by
  intro p e s m args below meth c H locs ls ad X X2 X3 hl hL hs hI hS
  refine lv_aloadN X.1 X.2.1 hd (hl.get hx) ?_
  exact kk p e s m args below meth c H locs ls ad X X2 X3 hl hL (fun v hv => by rcases List.mem_cons.mp hv with rfl | hv; exact trivial; exact hs v hv) hI hS
theorem aw_istore_n {i : Fin 4} {x : Int32} (L' : List (Nat × Value)) (hd : decode cc pc = .ok (.istore_n i, 1)) (hL' : g_st1 L (i : Nat) (Value.int x) = L') (hn : (i : Nat) < nL) (kk : AW l D base sc own y cc nL ret d mc ms ad0 hp0 Post k n hp (pc + 1) L' st) : AW l D base sc own y cc nL ret d mc ms ad0 hp0 Post k n hp pc L (Value.int x :: st) := by
  intro p e s m args below meth c H locs ls ad X X2 X3 hl hL hs hI hS
  subst hL'
  refine lv_istore_n X.1 X.2.1 hd rfl hl hn rfl (fun ls' hl' => ?_)
  rw [g_filter1] at hl'
  exact kk p e s m args below meth c H locs ls' ad X X2 X3 hl' (fun q hq => by
    rcases List.mem_cons.mp hq with rfl | hq
    · exact hs _ List.mem_cons_self
    · exact hL q (List.mem_filter.mp hq).1) (fun v hv => hs v (List.mem_cons_of_mem _ hv)) hI hS
theorem aw_istore {i : Nat} {x : Int32} (L' : List (Nat × Value)) (hd : decode cc pc = .ok (.istore i, 2)) (hL' : g_st1 L i (Value.int x) = L') (hn : i < nL) (kk : AW l D base sc own y cc nL ret d mc ms ad0 hp0 Post k n hp (pc + 2) L' st) : AW l D base sc own y cc nL ret d mc ms ad0 hp0 Post k n hp pc L (Value.int x :: st) := by
  intro p e s m args below meth c H locs ls ad X X2 X3 hl hL hs hI hS
  subst hL'
  refine lv_istore X.1 X.2.1 hd hl hn rfl (fun ls' hl' => ?_)
  rw [g_filter1] at hl'
  exact kk p e s m args below meth c H locs ls' ad X X2 X3 hl' (fun q hq => by
    rcases List.mem_cons.mp hq with rfl | hq
    · exact hs _ List.mem_cons_self
    · exact hL q (List.mem_filter.mp hq).1) (fun v hv => hs v (List.mem_cons_of_mem _ hv)) hI hS
theorem aw_lstore_n {i : Fin 4} {x : Int64} (L' : List (Nat × Value)) (hd : decode cc pc = .ok (.lstore_n i, 1)) (hL' : g_st2 L (i : Nat) (Value.long x) = L') (hn : (i : Nat) + 1 < nL) (kk : AW l D base sc own y cc nL ret d mc ms ad0 hp0 Post k n hp (pc + 1) L' st) : AW l D base sc own y cc nL ret d mc ms ad0 hp0 Post k n hp pc L (Value.long x :: st) := by
  intro p e s m args below meth c H locs ls ad X X2 X3 hl hL hs hI hS
  subst hL'
  refine lv_lstore_n X.1 X.2.1 hd rfl hl hn rfl (fun ls' hl' => ?_)
  rw [g_filter2] at hl'
  exact kk p e s m args below meth c H locs ls' ad X X2 X3 hl' (fun q hq => by
    rcases List.mem_cons.mp hq with rfl | hq
    · exact hs _ List.mem_cons_self
    · exact hL q (List.mem_filter.mp hq).1) (fun v hv => hs v (List.mem_cons_of_mem _ hv)) hI hS
theorem aw_lstore {i : Nat} {x : Int64} (L' : List (Nat × Value)) (hd : decode cc pc = .ok (.lstore i, 2)) (hL' : g_st2 L i (Value.long x) = L') (hn : i + 1 < nL) (kk : AW l D base sc own y cc nL ret d mc ms ad0 hp0 Post k n hp (pc + 2) L' st) : AW l D base sc own y cc nL ret d mc ms ad0 hp0 Post k n hp pc L (Value.long x :: st) := by
  intro p e s m args below meth c H locs ls ad X X2 X3 hl hL hs hI hS
  subst hL'
  refine lv_lstore X.1 X.2.1 hd hl hn rfl (fun ls' hl' => ?_)
  rw [g_filter2] at hl'
  exact kk p e s m args below meth c H locs ls' ad X X2 X3 hl' (fun q hq => by
    rcases List.mem_cons.mp hq with rfl | hq
    · exact hs _ List.mem_cons_self
    · exact hL q (List.mem_filter.mp hq).1) (fun v hv => hs v (List.mem_cons_of_mem _ hv)) hI hS
theorem aw_astore_n {i : Fin 4} {x : Nat} (L' : List (Nat × Value)) (hd : decode cc pc = .ok (.astore_n i, 1)) (hL' : g_st1 L (i : Nat) (Value.ref x) = L') (hn : (i : Nat) < nL) (kk : AW l D base sc own y cc nL ret d mc ms ad0 hp0 Post k n hp (pc + 1) L' st) : AW l D base sc own y cc nL ret d mc ms ad0 hp0 Post k n hp pc L (Value.ref x :: st) := by
  intro p e s m args below meth c H locs ls ad X X2 X3 hl hL hs hI hS
  subst hL'
  refine lv_astore_n X.1 X.2.1 hd rfl hl hn rfl (fun ls' hl' => ?_)
  rw [g_filter1] at hl'
  exact kk p e s m args below meth c H locs ls' ad X X2 X3 hl' (fun q hq => by
    rcases List.mem_cons.mp hq with rfl | hq
    · exact hs _ List.mem_cons_self
    · exact hL q (List.mem_filter.mp hq).1) (fun v hv => hs v (List.mem_cons_of_mem _ hv)) hI hS
theorem aw_astore {i : Nat} {x : Nat} (L' : List (Nat × Value)) (hd : decode cc pc = .ok (.astore i, 2)) (hL' : g_st1 L i (Value.ref x) = L') (hn : i < nL) (kk : AW l D base sc own y cc nL ret d mc ms ad0 hp0 Post k n hp (pc + 2) L' st) : AW l D base sc own y cc nL ret d mc ms ad0 hp0 Post k n hp pc L (Value.ref x :: st) := by
  intro p e s m args below meth c H locs ls ad X X2 X3 hl hL hs hI hS
  subst hL'
  refine lv_astore X.1 X.2.1 hd hl hn rfl (fun ls' hl' => ?_)
  rw [g_filter1] at hl'
  exact kk p e s m args below meth c H locs ls' ad X X2 X3 hl' (fun q hq => by
    rcases List.mem_cons.mp hq with rfl | hq
    · exact hs _ List.mem_cons_self
    · exact hL q (List.mem_filter.mp hq).1) (fun v hv => hs v (List.mem_cons_of_mem _ hv)) hI hS
theorem aw_astore_nN {i : Fin 4} (L' : List (Nat × Value)) (hd : decode cc pc = .ok (.astore_n i, 1)) (hL' : g_st1 L (i : Nat) (Value.null) = L') (hn : (i : Nat) < nL) (kk : AW l D base sc own y cc nL ret d mc ms ad0 hp0 Post k n hp (pc + 1) L' st) : AW l D base sc own y cc nL ret d mc ms ad0 hp0 Post k n hp pc L (Value.null :: st) := by
  intro p e s m args below meth c H locs ls ad X X2 X3 hl hL hs hI hS
  subst hL'
  refine lv_astore_nN X.1 X.2.1 hd rfl hl hn rfl (fun ls' hl' => ?_)
  rw [g_filter1] at hl'
  exact kk p e s m args below meth c H locs ls' ad X X2 X3 hl' (fun q hq => by
    rcases List.mem_cons.mp hq with rfl | hq
    · exact hs _ List.mem_cons_self
    · exact hL q (List.mem_filter.mp hq).1) (fun v hv => hs v (List.mem_cons_of_mem _ hv)) hI hS
theorem aw_astoreN {i : Nat} (L' : List (Nat × Value)) (hd : decode cc pc = .ok (.astore i, 2)) (hL' : g_st1 L i (Value.null) = L') (hn : i < nL) (kk : AW l D base sc own y cc nL ret d mc ms ad0 hp0 Post k n hp (pc + 2) L' st) : AW l D base sc own y cc nL ret d mc ms ad0 hp0 Post k n hp pc L (Value.null :: st) := by
  intro p e s m args below meth c H locs ls ad X X2 X3 hl hL hs hI hS
  subst hL'
  refine lv_astoreN X.1 X.2.1 hd hl hn rfl (fun ls' hl' => ?_)
  rw [g_filter1] at hl'
  exact kk p e s m args below meth c H locs ls' ad X X2 X3 hl' (fun q hq => by
    rcases List.mem_cons.mp hq with rfl | hq
    · exact hs _ List.mem_cons_self
    · exact hL q (List.mem_filter.mp hq).1) (fun v hv => hs v (List.mem_cons_of_mem _ hv)) hI hS
theorem aw_iinc {i : Nat} {z : Int} {x : Int32} (v : Int32) (L' : List (Nat × Value)) (hd : decode cc pc = .ok (.iinc i z, 3)) (hx : L.lookup i = some (.int x)) (hv : x + Int32.ofInt z = v) (hL' : g_st1 L i (.int v) = L') (hn : i < nL) (kk : AW l D base sc own y cc nL ret d mc ms ad0 hp0 Post k n hp (pc + 3) L' st) : AW l D base sc own y cc nL ret d mc ms ad0 hp0 Post k n hp pc L st := by
  intro p e s m args below meth c H locs ls ad X X2 X3 hl hL hs hI hS
  subst hL'
  obtain ⟨j, hj⟩ := List.getElem?_of_mem (List.mem_map_of_mem (f := fun q : Nat × Value => (q.1, g_v ad q.2)) (g_lk hx))
  refine lv_iinc X.1 X.2.1 hd hl hj hv hn rfl (fun ls' hl' => ?_)
  rw [g_filter1] at hl'
  exact kk p e s m args below meth c H locs ls' ad X X2 X3 hl' (fun q hq => by
    rcases List.mem_cons.mp hq with rfl | hq
    · exact trivial
    · exact hL q (List.mem_filter.mp hq).1) hs hI hS
theorem aw_iadd {a b : Int32} (hd : decode cc pc = .ok (.iadd, 1)) (kk : AW l D base sc own y cc nL ret d mc ms ad0 hp0 Post k n hp (pc + 1) L (.int (a + b) :: st)) : AW l D base sc own y cc nL ret d mc ms ad0 hp0 Post k n hp pc L (.int b :: .int a :: st) := by
  intro p e s m args below meth c H locs ls ad X X2 X3 hl hL hs hI hS
  refine lv_iadd X.1 X.2.1 hd ?_
  exact kk p e s m args below meth c H locs ls ad X X2 X3 hl hL (fun v hv => by rcases List.mem_cons.mp hv with rfl | hv; exact trivial; exact hs v (List.mem_cons_of_mem _ (List.mem_cons_of_mem _ hv))) hI hS
theorem aw_isub {a b : Int32} (hd : decode cc pc = .ok (.isub, 1)) (kk : AW l D base sc own y cc nL ret d mc ms ad0 hp0 Post k n hp (pc + 1) L (.int (a - b) :: st)) : AW l D base sc own y cc nL ret d mc ms ad0 hp0 Post k n hp pc L (.int b :: .int a :: st) := by
  intro p e s m args below meth c H locs ls ad X X2 X3 hl hL hs hI hS
  refine lv_isub X.1 X.2.1 hd ?_
  exact kk p e s m args below meth c H locs ls ad X X2 X3 hl hL (fun v hv => by rcases List.mem_cons.mp hv with rfl | hv; exact trivial; exact hs v (List.mem_cons_of_mem _ (List.mem_cons_of_mem _ hv))) hI hS
theorem aw_imul {a b : Int32} (hd : decode cc pc = .ok (.imul, 1)) (kk : AW l D base sc own y cc nL ret d mc ms ad0 hp0 Post k n hp (pc + 1) L (.int (a * b) :: st)) : AW l D base sc own y cc nL ret d mc ms ad0 hp0 Post k n hp pc L (.int b :: .int a :: st) := by
  intro p e s m args below meth c H locs ls ad X X2 X3 hl hL hs hI hS
  refine lv_imul X.1 X.2.1 hd ?_
  exact kk p e s m args below meth c H locs ls ad X X2 X3 hl hL (fun v hv => by rcases List.mem_cons.mp hv with rfl | hv; exact trivial; exact hs v (List.mem_cons_of_mem _ (List.mem_cons_of_mem _ hv))) hI hS
theorem aw_iand {a b : Int32} (hd : decode cc pc = .ok (.iand, 1)) (kk : AW l D base sc own y cc nL ret d mc ms ad0 hp0 Post k n hp (pc + 1) L (.int (a &&& b) :: st)) : AW l D base sc own y cc nL ret d mc ms ad0 hp0 Post k n hp pc L (.int b :: .int a :: st) := by
  intro p e s m args below meth c H locs ls ad X X2 X3 hl hL hs hI hS
  refine lv_iand X.1 X.2.1 hd ?_
  exact kk p e s m args below meth c H locs ls ad X X2 X3 hl hL (fun v hv => by rcases List.mem_cons.mp hv with rfl | hv; exact trivial; exact hs v (List.mem_cons_of_mem _ (List.mem_cons_of_mem _ hv))) hI hS
theorem aw_ior {a b : Int32} (hd : decode cc pc = .ok (.ior, 1)) (kk : AW l D base sc own y cc nL ret d mc ms ad0 hp0 Post k n hp (pc + 1) L (.int (a ||| b) :: st)) : AW l D base sc own y cc nL ret d mc ms ad0 hp0 Post k n hp pc L (.int b :: .int a :: st) := by
  intro p e s m args below meth c H locs ls ad X X2 X3 hl hL hs hI hS
  refine lv_ior X.1 X.2.1 hd ?_
  exact kk p e s m args below meth c H locs ls ad X X2 X3 hl hL (fun v hv => by rcases List.mem_cons.mp hv with rfl | hv; exact trivial; exact hs v (List.mem_cons_of_mem _ (List.mem_cons_of_mem _ hv))) hI hS
theorem aw_ixor {a b : Int32} (hd : decode cc pc = .ok (.ixor, 1)) (kk : AW l D base sc own y cc nL ret d mc ms ad0 hp0 Post k n hp (pc + 1) L (.int (a ^^^ b) :: st)) : AW l D base sc own y cc nL ret d mc ms ad0 hp0 Post k n hp pc L (.int b :: .int a :: st) := by
  intro p e s m args below meth c H locs ls ad X X2 X3 hl hL hs hI hS
  refine lv_ixor X.1 X.2.1 hd ?_
  exact kk p e s m args below meth c H locs ls ad X X2 X3 hl hL (fun v hv => by rcases List.mem_cons.mp hv with rfl | hv; exact trivial; exact hs v (List.mem_cons_of_mem _ (List.mem_cons_of_mem _ hv))) hI hS
theorem aw_idiv {a b : Int32} (hd : decode cc pc = .ok (.idiv, 1)) (hne : ¬ b = 0) (kk : AW l D base sc own y cc nL ret d mc ms ad0 hp0 Post k n hp (pc + 1) L (.int (a / b) :: st)) : AW l D base sc own y cc nL ret d mc ms ad0 hp0 Post k n hp pc L (.int b :: .int a :: st) := by
  intro p e s m args below meth c H locs ls ad X X2 X3 hl hL hs hI hS
  refine lv_idiv X.1 X.2.1 hd hne ?_
  exact kk p e s m args below meth c H locs ls ad X X2 X3 hl hL (fun v hv => by rcases List.mem_cons.mp hv with rfl | hv; exact trivial; exact hs v (List.mem_cons_of_mem _ (List.mem_cons_of_mem _ hv))) hI hS
theorem aw_irem {a b : Int32} (hd : decode cc pc = .ok (.irem, 1)) (hne : ¬ b = 0) (kk : AW l D base sc own y cc nL ret d mc ms ad0 hp0 Post k n hp (pc + 1) L (.int (a - a / b * b) :: st)) : AW l D base sc own y cc nL ret d mc ms ad0 hp0 Post k n hp pc L (.int b :: .int a :: st) := by
  intro p e s m args below meth c H locs ls ad X X2 X3 hl hL hs hI hS
  refine lv_irem X.1 X.2.1 hd hne ?_
  exact kk p e s m args below meth c H locs ls ad X X2 X3 hl hL (fun v hv => by rcases List.mem_cons.mp hv with rfl | hv; exact trivial; exact hs v (List.mem_cons_of_mem _ (List.mem_cons_of_mem _ hv))) hI hS
theorem aw_ladd {a b : Int64} (hd : decode cc pc = .ok (.ladd, 1)) (kk : AW l D base sc own y cc nL ret d mc ms ad0 hp0 Post k n hp (pc + 1) L (.long (a + b) :: st)) : AW l D base sc own y cc nL ret d mc ms ad0 hp0 Post k n hp pc L (.long b :: .long a :: st) := by
  intro p e s m args below meth c H locs ls ad X X2 X3 hl hL hs hI hS
  refine lv_ladd X.1 X.2.1 hd ?_
  exact kk p e s m args below meth c H locs ls ad X X2 X3 hl hL (fun v hv => by rcases List.mem_cons.mp hv with rfl | hv; exact trivial; exact hs v (List.mem_cons_of_mem _ (List.mem_cons_of_mem _ hv))) hI hS
theorem aw_land {a b : Int64} (hd : decode cc pc = .ok (.land, 1)) (kk : AW l D base sc own y cc nL ret d mc ms ad0 hp0 Post k n hp (pc + 1) L (.long (a &&& b) :: st)) : AW l D base sc own y cc nL ret d mc ms ad0 hp0 Post k n hp pc L (.long b :: .long a :: st) := by
  intro p e s m args below meth c H locs ls ad X X2 X3 hl hL hs hI hS
  refine lv_land X.1 X.2.1 hd ?_
  exact kk p e s m args below meth c H locs ls ad X X2 X3 hl hL (fun v hv => by rcases List.mem_cons.mp hv with rfl | hv; exact trivial; exact hs v (List.mem_cons_of_mem _ (List.mem_cons_of_mem _ hv))) hI hS
theorem aw_lor {a b : Int64} (hd : decode cc pc = .ok (.lor, 1)) (kk : AW l D base sc own y cc nL ret d mc ms ad0 hp0 Post k n hp (pc + 1) L (.long (a ||| b) :: st)) : AW l D base sc own y cc nL ret d mc ms ad0 hp0 Post k n hp pc L (.long b :: .long a :: st) := by
  intro p e s m args below meth c H locs ls ad X X2 X3 hl hL hs hI hS
  refine lv_lor X.1 X.2.1 hd ?_
  exact kk p e s m args below meth c H locs ls ad X X2 X3 hl hL (fun v hv => by rcases List.mem_cons.mp hv with rfl | hv; exact trivial; exact hs v (List.mem_cons_of_mem _ (List.mem_cons_of_mem _ hv))) hI hS
theorem aw_lxor {a b : Int64} (hd : decode cc pc = .ok (.lxor, 1)) (kk : AW l D base sc own y cc nL ret d mc ms ad0 hp0 Post k n hp (pc + 1) L (.long (a ^^^ b) :: st)) : AW l D base sc own y cc nL ret d mc ms ad0 hp0 Post k n hp pc L (.long b :: .long a :: st) := by
  intro p e s m args below meth c H locs ls ad X X2 X3 hl hL hs hI hS
  refine lv_lxor X.1 X.2.1 hd ?_
  exact kk p e s m args below meth c H locs ls ad X X2 X3 hl hL (fun v hv => by rcases List.mem_cons.mp hv with rfl | hv; exact trivial; exact hs v (List.mem_cons_of_mem _ (List.mem_cons_of_mem _ hv))) hI hS
theorem aw_lsub {a b : Int64} (hd : decode cc pc = .ok (.lsub, 1)) (kk : AW l D base sc own y cc nL ret d mc ms ad0 hp0 Post k n hp (pc + 1) L (.long (a - b) :: st)) : AW l D base sc own y cc nL ret d mc ms ad0 hp0 Post k n hp pc L (.long b :: .long a :: st) := by
  intro p e s m args below meth c H locs ls ad X X2 X3 hl hL hs hI hS
  refine lv_lsub X.1 X.2.1 hd ?_
  exact kk p e s m args below meth c H locs ls ad X X2 X3 hl hL (fun v hv => by rcases List.mem_cons.mp hv with rfl | hv; exact trivial; exact hs v (List.mem_cons_of_mem _ (List.mem_cons_of_mem _ hv))) hI hS
theorem aw_ineg {a : Int32} (hd : decode cc pc = .ok (.ineg, 1)) (kk : AW l D base sc own y cc nL ret d mc ms ad0 hp0 Post k n hp (pc + 1) L (.int (-a) :: st)) : AW l D base sc own y cc nL ret d mc ms ad0 hp0 Post k n hp pc L (.int a :: st) := by
  intro p e s m args below meth c H locs ls ad X X2 X3 hl hL hs hI hS
  refine lv_ineg X.1 X.2.1 hd ?_
  exact kk p e s m args below meth c H locs ls ad X X2 X3 hl hL (fun v hv => by rcases List.mem_cons.mp hv with rfl | hv; exact trivial; exact hs v (List.mem_cons_of_mem _ hv)) hI hS
theorem aw_ishl {a b : Int32} (hd : decode cc pc = .ok (.ishl, 1)) (kk : AW l D base sc own y cc nL ret d mc ms ad0 hp0 Post k n hp (pc + 1) L (.int (a <<< (b &&& 31)) :: st)) : AW l D base sc own y cc nL ret d mc ms ad0 hp0 Post k n hp pc L (.int b :: .int a :: st) := by
  intro p e s m args below meth c H locs ls ad X X2 X3 hl hL hs hI hS
  refine lv_ishl X.1 X.2.1 hd ?_
  exact kk p e s m args below meth c H locs ls ad X X2 X3 hl hL (fun v hv => by rcases List.mem_cons.mp hv with rfl | hv; exact trivial; exact hs v (List.mem_cons_of_mem _ (List.mem_cons_of_mem _ hv))) hI hS
theorem aw_ishr {a b : Int32} (hd : decode cc pc = .ok (.ishr, 1)) (kk : AW l D base sc own y cc nL ret d mc ms ad0 hp0 Post k n hp (pc + 1) L (.int (a >>> (b &&& 31)) :: st)) : AW l D base sc own y cc nL ret d mc ms ad0 hp0 Post k n hp pc L (.int b :: .int a :: st) := by
  intro p e s m args below meth c H locs ls ad X X2 X3 hl hL hs hI hS
  refine lv_ishr X.1 X.2.1 hd ?_
  exact kk p e s m args below meth c H locs ls ad X X2 X3 hl hL (fun v hv => by rcases List.mem_cons.mp hv with rfl | hv; exact trivial; exact hs v (List.mem_cons_of_mem _ (List.mem_cons_of_mem _ hv))) hI hS
theorem aw_i2l {a : Int32} (hd : decode cc pc = .ok (.i2l, 1)) (kk : AW l D base sc own y cc nL ret d mc ms ad0 hp0 Post k n hp (pc + 1) L (.long a.toInt64 :: st)) : AW l D base sc own y cc nL ret d mc ms ad0 hp0 Post k n hp pc L (.int a :: st) := by
  intro p e s m args below meth c H locs ls ad X X2 X3 hl hL hs hI hS
  refine lv_i2l X.1 X.2.1 hd rfl ?_
  exact kk p e s m args below meth c H locs ls ad X X2 X3 hl hL (fun v hv => by rcases List.mem_cons.mp hv with rfl | hv; exact trivial; exact hs v (List.mem_cons_of_mem _ hv)) hI hS
theorem aw_l2i {a : Int64} (hd : decode cc pc = .ok (.l2i, 1)) (kk : AW l D base sc own y cc nL ret d mc ms ad0 hp0 Post k n hp (pc + 1) L (.int a.toInt32 :: st)) : AW l D base sc own y cc nL ret d mc ms ad0 hp0 Post k n hp pc L (.long a :: st) := by
  intro p e s m args below meth c H locs ls ad X X2 X3 hl hL hs hI hS
  refine lv_l2i X.1 X.2.1 hd rfl ?_
  exact kk p e s m args below meth c H locs ls ad X X2 X3 hl hL (fun v hv => by rcases List.mem_cons.mp hv with rfl | hv; exact trivial; exact hs v (List.mem_cons_of_mem _ hv)) hI hS
theorem aw_i2b {a : Int32} (hd : decode cc pc = .ok (.i2b, 1)) (kk : AW l D base sc own y cc nL ret d mc ms ad0 hp0 Post k n hp (pc + 1) L (.int a.toInt8.toInt32 :: st)) : AW l D base sc own y cc nL ret d mc ms ad0 hp0 Post k n hp pc L (.int a :: st) := by
  intro p e s m args below meth c H locs ls ad X X2 X3 hl hL hs hI hS
  refine lv_i2b X.1 X.2.1 hd rfl ?_
  exact kk p e s m args below meth c H locs ls ad X X2 X3 hl hL (fun v hv => by rcases List.mem_cons.mp hv with rfl | hv; exact trivial; exact hs v (List.mem_cons_of_mem _ hv)) hI hS
theorem aw_i2s {a : Int32} (hd : decode cc pc = .ok (.i2s, 1)) (kk : AW l D base sc own y cc nL ret d mc ms ad0 hp0 Post k n hp (pc + 1) L (.int a.toInt16.toInt32 :: st)) : AW l D base sc own y cc nL ret d mc ms ad0 hp0 Post k n hp pc L (.int a :: st) := by
  intro p e s m args below meth c H locs ls ad X X2 X3 hl hL hs hI hS
  refine lv_i2s X.1 X.2.1 hd rfl ?_
  exact kk p e s m args below meth c H locs ls ad X X2 X3 hl hL (fun v hv => by rcases List.mem_cons.mp hv with rfl | hv; exact trivial; exact hs v (List.mem_cons_of_mem _ hv)) hI hS
theorem aw_iushr {a b : Int32} (hd : decode cc pc = .ok (.iushr, 1)) (kk : AW l D base sc own y cc nL ret d mc ms ad0 hp0 Post k n hp (pc + 1) L (.int (a.toUInt32 >>> (b.toUInt32 &&& Int32.toUInt32 31)).toInt32 :: st)) : AW l D base sc own y cc nL ret d mc ms ad0 hp0 Post k n hp pc L (.int b :: .int a :: st) := by
  intro p e s m args below meth c H locs ls ad X X2 X3 hl hL hs hI hS
  refine lv_iushr X.1 X.2.1 hd rfl ?_
  exact kk p e s m args below meth c H locs ls ad X X2 X3 hl hL (fun v hv => by rcases List.mem_cons.mp hv with rfl | hv; exact trivial; exact hs v (List.mem_cons_of_mem _ (List.mem_cons_of_mem _ hv))) hI hS
theorem aw_lushr {a : Int64} {b : Int32} (hd : decode cc pc = .ok (.lushr, 1)) (kk : AW l D base sc own y cc nL ret d mc ms ad0 hp0 Post k n hp (pc + 1) L (.long (a.toUInt64 >>> (b.toInt64.toUInt64 &&& Int64.toUInt64 63)).toInt64 :: st)) : AW l D base sc own y cc nL ret d mc ms ad0 hp0 Post k n hp pc L (.int b :: .long a :: st) := by
  intro p e s m args below meth c H locs ls ad X X2 X3 hl hL hs hI hS
  refine lv_lushr X.1 X.2.1 hd rfl ?_
  exact kk p e s m args below meth c H locs ls ad X X2 X3 hl hL (fun v hv => by rcases List.mem_cons.mp hv with rfl | hv; exact trivial; exact hs v (List.mem_cons_of_mem _ (List.mem_cons_of_mem _ hv))) hI hS
theorem aw_lshl {a : Int64} {b : Int32} (hd : decode cc pc = .ok (.lshl, 1)) (kk : AW l D base sc own y cc nL ret d mc ms ad0 hp0 Post k n hp (pc + 1) L (.long (a <<< (b.toInt64 &&& 63)) :: st)) : AW l D base sc own y cc nL ret d mc ms ad0 hp0 Post k n hp pc L (.int b :: .long a :: st) := by
  intro p e s m args below meth c H locs ls ad X X2 X3 hl hL hs hI hS
  refine lv_lshl X.1 X.2.1 hd rfl ?_
  exact kk p e s m args below meth c H locs ls ad X X2 X3 hl hL (fun v hv => by rcases List.mem_cons.mp hv with rfl | hv; exact trivial; exact hs v (List.mem_cons_of_mem _ (List.mem_cons_of_mem _ hv))) hI hS
theorem aw_lshr {a : Int64} {b : Int32} (hd : decode cc pc = .ok (.lshr, 1)) (kk : AW l D base sc own y cc nL ret d mc ms ad0 hp0 Post k n hp (pc + 1) L (.long (a >>> (b.toInt64 &&& 63)) :: st)) : AW l D base sc own y cc nL ret d mc ms ad0 hp0 Post k n hp pc L (.int b :: .long a :: st) := by
  intro p e s m args below meth c H locs ls ad X X2 X3 hl hL hs hI hS
  refine lv_lshr X.1 X.2.1 hd rfl ?_
  exact kk p e s m args below meth c H locs ls ad X X2 X3 hl hL (fun v hv => by rcases List.mem_cons.mp hv with rfl | hv; exact trivial; exact hs v (List.mem_cons_of_mem _ (List.mem_cons_of_mem _ hv))) hI hS
theorem aw_lcmp {a b : Int64} (hd : decode cc pc = .ok (.lcmp, 1)) (kk : AW l D base sc own y cc nL ret d mc ms ad0 hp0 Post k n hp (pc + 1) L (.int (lg_cmp a b) :: st)) : AW l D base sc own y cc nL ret d mc ms ad0 hp0 Post k n hp pc L (.long b :: .long a :: st) := by
  intro p e s m args below meth c H locs ls ad X X2 X3 hl hL hs hI hS
  refine W.lcmp X.1 X.2.1 hd ?_
  exact kk p e s m args below meth c H locs ls ad X X2 X3 hl hL (fun v hv => by rcases List.mem_cons.mp hv with rfl | hv; exact trivial; exact hs v (List.mem_cons_of_mem _ (List.mem_cons_of_mem _ hv))) hI hS
theorem aw_topi {x : Int32} (kk : ∀ z : Int32, z = x → AW l D base sc own y cc nL ret d mc ms ad0 hp0 Post k n hp pc L (.int z :: st)) : AW l D base sc own y cc nL ret d mc ms ad0 hp0 Post k n hp pc L (.int x :: st) := kk x rfl
theorem aw_topl {x : Int64} (kk : ∀ z : Int64, z = x → AW l D base sc own y cc nL ret d mc ms ad0 hp0 Post k n hp pc L (.long z :: st)) : AW l D base sc own y cc nL ret d mc ms ad0 hp0 Post k n hp pc L (.long x :: st) := kk x rfl
theorem aw_dup {v : Value} (hd : decode cc pc = .ok (.dup, 1)) (hc : v.category = 1) (kk : AW l D base sc own y cc nL ret d mc ms ad0 hp0 Post k n hp (pc + 1) L (v :: v :: st)) : AW l D base sc own y cc nL ret d mc ms ad0 hp0 Post k n hp pc L (v :: st) := by
  intro p e s m args below meth c H locs ls ad X X2 X3 hl hL hs hI hS
  refine lv_dup X.1 X.2.1 hd (by rw [g_v_cat]; exact hc) ?_
  exact kk p e s m args below meth c H locs ls ad X X2 X3 hl hL (fun w hw => by rcases List.mem_cons.mp hw with rfl | hw; exact hs _ List.mem_cons_self; exact hs w hw) hI hS
theorem aw_pop {v : Value} (hd : decode cc pc = .ok (.pop, 1)) (hc : v.category = 1) (kk : AW l D base sc own y cc nL ret d mc ms ad0 hp0 Post k n hp (pc + 1) L st) : AW l D base sc own y cc nL ret d mc ms ad0 hp0 Post k n hp pc L (v :: st) := by
  intro p e s m args below meth c H locs ls ad X X2 X3 hl hL hs hI hS
  refine lv_pop X.1 X.2.1 hd (by rw [g_v_cat]; exact hc) ?_
  exact kk p e s m args below meth c H locs ls ad X X2 X3 hl hL (fun w hw => hs w (List.mem_cons_of_mem _ hw)) hI hS
theorem aw_dup2 {v u : Value} (hd : decode cc pc = .ok (.dup2, 1)) (hc : v.category = 1) (hc2 : u.category = 1) (kk : AW l D base sc own y cc nL ret d mc ms ad0 hp0 Post k n hp (pc + 1) L (v :: u :: v :: u :: st)) : AW l D base sc own y cc nL ret d mc ms ad0 hp0 Post k n hp pc L (v :: u :: st) := by
  intro p e s m args below meth c H locs ls ad X X2 X3 hl hL hs hI hS
  refine lv_dup2_11 X.1 X.2.1 hd (by rw [g_v_cat]; exact hc) (by rw [g_v_cat]; exact hc2) ?_
  exact kk p e s m args below meth c H locs ls ad X X2 X3 hl hL (fun w hw => by rcases List.mem_cons.mp hw with rfl | hw; exact hs _ List.mem_cons_self; rcases List.mem_cons.mp hw with rfl | hw; exact hs _ (List.mem_cons_of_mem _ List.mem_cons_self); exact hs w hw) hI hS
theorem aw_dup_x1 {v u : Value} (hd : decode cc pc = .ok (.dup_x1, 1)) (hc : v.category = 1) (hc2 : u.category = 1) (kk : AW l D base sc own y cc nL ret d mc ms ad0 hp0 Post k n hp (pc + 1) L (v :: u :: v :: st)) : AW l D base sc own y cc nL ret d mc ms ad0 hp0 Post k n hp pc L (v :: u :: st) := by
  intro p e s m args below meth c H locs ls ad X X2 X3 hl hL hs hI hS
  refine lv_dup_x1 X.1 X.2.1 hd (by rw [g_v_cat]; exact hc) (by rw [g_v_cat]; exact hc2) ?_
  exact kk p e s m args below meth c H locs ls ad X X2 X3 hl hL (fun w hw => by rcases List.mem_cons.mp hw with rfl | hw; exact hs _ List.mem_cons_self; rcases List.mem_cons.mp hw with rfl | hw; exact hs _ (List.mem_cons_of_mem _ List.mem_cons_self); rcases List.mem_cons.mp hw with rfl | hw; exact hs _ List.mem_cons_self; exact hs w (List.mem_cons_of_mem _ (List.mem_cons_of_mem _ hw))) hI hS
theorem aw_if_eq {x : Int32} {off : Int} (tgt : Nat) (hd : decode cc pc = .ok (.ifCond .eq off, 3)) (ht : (pc : Int) + off = (tgt : Int)) (kt : x = 0 → AW l D base sc own y cc nL ret d mc ms ad0 hp0 Post k n hp tgt L st) (kf : ¬ x = 0 → AW l D base sc own y cc nL ret d mc ms ad0 hp0 Post k n hp (pc + 3) L st) : AW l D base sc own y cc nL ret d mc ms ad0 hp0 Post k n hp pc L (.int x :: st) := by
  intro p e s m args below meth c H locs ls ad X X2 X3 hl hL hs hI hS
  exact lv_if_eq X.1 X.2.1 hd ht (fun q => kt q p e s m args below meth c H locs ls ad X X2 X3 hl hL (fun v hv => hs v (List.mem_cons_of_mem _ hv)) hI hS) (fun q => kf q p e s m args below meth c H locs ls ad X X2 X3 hl hL (fun v hv => hs v (List.mem_cons_of_mem _ hv)) hI hS)
theorem aw_if_ne {x : Int32} {off : Int} (tgt : Nat) (hd : decode cc pc = .ok (.ifCond .ne off, 3)) (ht : (pc : Int) + off = (tgt : Int)) (kt : ¬ x = 0 → AW l D base sc own y cc nL ret d mc ms ad0 hp0 Post k n hp tgt L st) (kf : x = 0 → AW l D base sc own y cc nL ret d mc ms ad0 hp0 Post k n hp (pc + 3) L st) : AW l D base sc own y cc nL ret d mc ms ad0 hp0 Post k n hp pc L (.int x :: st) := by
  intro p e s m args below meth c H locs ls ad X X2 X3 hl hL hs hI hS
  exact lv_if_ne X.1 X.2.1 hd ht (fun q => kt q p e s m args below meth c H locs ls ad X X2 X3 hl hL (fun v hv => hs v (List.mem_cons_of_mem _ hv)) hI hS) (fun q => kf q p e s m args below meth c H locs ls ad X X2 X3 hl hL (fun v hv => hs v (List.mem_cons_of_mem _ hv)) hI hS)
theorem aw_if_lt {x : Int32} {off : Int} (tgt : Nat) (hd : decode cc pc = .ok (.ifCond .lt off, 3)) (ht : (pc : Int) + off = (tgt : Int)) (kt : x < 0 → AW l D base sc own y cc nL ret d mc ms ad0 hp0 Post k n hp tgt L st) (kf : ¬ x < 0 → AW l D base sc own y cc nL ret d mc ms ad0 hp0 Post k n hp (pc + 3) L st) : AW l D base sc own y cc nL ret d mc ms ad0 hp0 Post k n hp pc L (.int x :: st) := by
  intro p e s m args below meth c H locs ls ad X X2 X3 hl hL hs hI hS
  exact lv_if_lt X.1 X.2.1 hd ht (fun q => kt q p e s m args below meth c H locs ls ad X X2 X3 hl hL (fun v hv => hs v (List.mem_cons_of_mem _ hv)) hI hS) (fun q => kf q p e s m args below meth c H locs ls ad X X2 X3 hl hL (fun v hv => hs v (List.mem_cons_of_mem _ hv)) hI hS)
theorem aw_if_ge {x : Int32} {off : Int} (tgt : Nat) (hd : decode cc pc = .ok (.ifCond .ge off, 3)) (ht : (pc : Int) + off = (tgt : Int)) (kt : 0 ≤ x → AW l D base sc own y cc nL ret d mc ms ad0 hp0 Post k n hp tgt L st) (kf : ¬ 0 ≤ x → AW l D base sc own y cc nL ret d mc ms ad0 hp0 Post k n hp (pc + 3) L st) : AW l D base sc own y cc nL ret d mc ms ad0 hp0 Post k n hp pc L (.int x :: st) := by
  intro p e s m args below meth c H locs ls ad X X2 X3 hl hL hs hI hS
  exact lv_if_ge X.1 X.2.1 hd ht (fun q => kt q p e s m args below meth c H locs ls ad X X2 X3 hl hL (fun v hv => hs v (List.mem_cons_of_mem _ hv)) hI hS) (fun q => kf q p e s m args below meth c H locs ls ad X X2 X3 hl hL (fun v hv => hs v (List.mem_cons_of_mem _ hv)) hI hS)
theorem aw_if_gt {x : Int32} {off : Int} (tgt : Nat) (hd : decode cc pc = .ok (.ifCond .gt off, 3)) (ht : (pc : Int) + off = (tgt : Int)) (kt : 0 < x → AW l D base sc own y cc nL ret d mc ms ad0 hp0 Post k n hp tgt L st) (kf : ¬ 0 < x → AW l D base sc own y cc nL ret d mc ms ad0 hp0 Post k n hp (pc + 3) L st) : AW l D base sc own y cc nL ret d mc ms ad0 hp0 Post k n hp pc L (.int x :: st) := by
  intro p e s m args below meth c H locs ls ad X X2 X3 hl hL hs hI hS
  exact lv_if_gt X.1 X.2.1 hd ht (fun q => kt q p e s m args below meth c H locs ls ad X X2 X3 hl hL (fun v hv => hs v (List.mem_cons_of_mem _ hv)) hI hS) (fun q => kf q p e s m args below meth c H locs ls ad X X2 X3 hl hL (fun v hv => hs v (List.mem_cons_of_mem _ hv)) hI hS)
theorem aw_if_le {x : Int32} {off : Int} (tgt : Nat) (hd : decode cc pc = .ok (.ifCond .le off, 3)) (ht : (pc : Int) + off = (tgt : Int)) (kt : x ≤ 0 → AW l D base sc own y cc nL ret d mc ms ad0 hp0 Post k n hp tgt L st) (kf : ¬ x ≤ 0 → AW l D base sc own y cc nL ret d mc ms ad0 hp0 Post k n hp (pc + 3) L st) : AW l D base sc own y cc nL ret d mc ms ad0 hp0 Post k n hp pc L (.int x :: st) := by
  intro p e s m args below meth c H locs ls ad X X2 X3 hl hL hs hI hS
  exact lv_if_le X.1 X.2.1 hd ht (fun q => kt q p e s m args below meth c H locs ls ad X X2 X3 hl hL (fun v hv => hs v (List.mem_cons_of_mem _ hv)) hI hS) (fun q => kf q p e s m args below meth c H locs ls ad X X2 X3 hl hL (fun v hv => hs v (List.mem_cons_of_mem _ hv)) hI hS)
theorem aw_icmp_eq {x z : Int32} {off : Int} (tgt : Nat) (hd : decode cc pc = .ok (.if_icmp .eq off, 3)) (ht : (pc : Int) + off = (tgt : Int)) (kt : x = z → AW l D base sc own y cc nL ret d mc ms ad0 hp0 Post k n hp tgt L st) (kf : ¬ x = z → AW l D base sc own y cc nL ret d mc ms ad0 hp0 Post k n hp (pc + 3) L st) : AW l D base sc own y cc nL ret d mc ms ad0 hp0 Post k n hp pc L (.int z :: .int x :: st) := by
  intro p e s m args below meth c H locs ls ad X X2 X3 hl hL hs hI hS
  exact lv_icmp_eq X.1 X.2.1 hd ht (fun q => kt q p e s m args below meth c H locs ls ad X X2 X3 hl hL (fun v hv => hs v (List.mem_cons_of_mem _ (List.mem_cons_of_mem _ hv))) hI hS) (fun q => kf q p e s m args below meth c H locs ls ad X X2 X3 hl hL (fun v hv => hs v (List.mem_cons_of_mem _ (List.mem_cons_of_mem _ hv))) hI hS)
theorem aw_icmp_ne {x z : Int32} {off : Int} (tgt : Nat) (hd : decode cc pc = .ok (.if_icmp .ne off, 3)) (ht : (pc : Int) + off = (tgt : Int)) (kt : ¬ x = z → AW l D base sc own y cc nL ret d mc ms ad0 hp0 Post k n hp tgt L st) (kf : x = z → AW l D base sc own y cc nL ret d mc ms ad0 hp0 Post k n hp (pc + 3) L st) : AW l D base sc own y cc nL ret d mc ms ad0 hp0 Post k n hp pc L (.int z :: .int x :: st) := by
  intro p e s m args below meth c H locs ls ad X X2 X3 hl hL hs hI hS
  exact lv_icmp_ne X.1 X.2.1 hd ht (fun q => kt q p e s m args below meth c H locs ls ad X X2 X3 hl hL (fun v hv => hs v (List.mem_cons_of_mem _ (List.mem_cons_of_mem _ hv))) hI hS) (fun q => kf q p e s m args below meth c H locs ls ad X X2 X3 hl hL (fun v hv => hs v (List.mem_cons_of_mem _ (List.mem_cons_of_mem _ hv))) hI hS)
theorem aw_icmp_lt {x z : Int32} {off : Int} (tgt : Nat) (hd : decode cc pc = .ok (.if_icmp .lt off, 3)) (ht : (pc : Int) + off = (tgt : Int)) (kt : x < z → AW l D base sc own y cc nL ret d mc ms ad0 hp0 Post k n hp tgt L st) (kf : ¬ x < z → AW l D base sc own y cc nL ret d mc ms ad0 hp0 Post k n hp (pc + 3) L st) : AW l D base sc own y cc nL ret d mc ms ad0 hp0 Post k n hp pc L (.int z :: .int x :: st) := by
  intro p e s m args below meth c H locs ls ad X X2 X3 hl hL hs hI hS
  exact lv_icmp_lt X.1 X.2.1 hd ht (fun q => kt q p e s m args below meth c H locs ls ad X X2 X3 hl hL (fun v hv => hs v (List.mem_cons_of_mem _ (List.mem_cons_of_mem _ hv))) hI hS) (fun q => kf q p e s m args below meth c H locs ls ad X X2 X3 hl hL (fun v hv => hs v (List.mem_cons_of_mem _ (List.mem_cons_of_mem _ hv))) hI hS)
theorem aw_icmp_ge {x z : Int32} {off : Int} (tgt : Nat) (hd : decode cc pc = .ok (.if_icmp .ge off, 3)) (ht : (pc : Int) + off = (tgt : Int)) (kt : z ≤ x → AW l D base sc own y cc nL ret d mc ms ad0 hp0 Post k n hp tgt L st) (kf : ¬ z ≤ x → AW l D base sc own y cc nL ret d mc ms ad0 hp0 Post k n hp (pc + 3) L st) : AW l D base sc own y cc nL ret d mc ms ad0 hp0 Post k n hp pc L (.int z :: .int x :: st) := by
  intro p e s m args below meth c H locs ls ad X X2 X3 hl hL hs hI hS
  exact lv_icmp_ge X.1 X.2.1 hd ht (fun q => kt q p e s m args below meth c H locs ls ad X X2 X3 hl hL (fun v hv => hs v (List.mem_cons_of_mem _ (List.mem_cons_of_mem _ hv))) hI hS) (fun q => kf q p e s m args below meth c H locs ls ad X X2 X3 hl hL (fun v hv => hs v (List.mem_cons_of_mem _ (List.mem_cons_of_mem _ hv))) hI hS)
theorem aw_icmp_gt {x z : Int32} {off : Int} (tgt : Nat) (hd : decode cc pc = .ok (.if_icmp .gt off, 3)) (ht : (pc : Int) + off = (tgt : Int)) (kt : z < x → AW l D base sc own y cc nL ret d mc ms ad0 hp0 Post k n hp tgt L st) (kf : ¬ z < x → AW l D base sc own y cc nL ret d mc ms ad0 hp0 Post k n hp (pc + 3) L st) : AW l D base sc own y cc nL ret d mc ms ad0 hp0 Post k n hp pc L (.int z :: .int x :: st) := by
  intro p e s m args below meth c H locs ls ad X X2 X3 hl hL hs hI hS
  exact lv_icmp_gt X.1 X.2.1 hd ht (fun q => kt q p e s m args below meth c H locs ls ad X X2 X3 hl hL (fun v hv => hs v (List.mem_cons_of_mem _ (List.mem_cons_of_mem _ hv))) hI hS) (fun q => kf q p e s m args below meth c H locs ls ad X X2 X3 hl hL (fun v hv => hs v (List.mem_cons_of_mem _ (List.mem_cons_of_mem _ hv))) hI hS)
theorem aw_icmp_le {x z : Int32} {off : Int} (tgt : Nat) (hd : decode cc pc = .ok (.if_icmp .le off, 3)) (ht : (pc : Int) + off = (tgt : Int)) (kt : x ≤ z → AW l D base sc own y cc nL ret d mc ms ad0 hp0 Post k n hp tgt L st) (kf : ¬ x ≤ z → AW l D base sc own y cc nL ret d mc ms ad0 hp0 Post k n hp (pc + 3) L st) : AW l D base sc own y cc nL ret d mc ms ad0 hp0 Post k n hp pc L (.int z :: .int x :: st) := by
  intro p e s m args below meth c H locs ls ad X X2 X3 hl hL hs hI hS
  exact lv_icmp_le X.1 X.2.1 hd ht (fun q => kt q p e s m args below meth c H locs ls ad X X2 X3 hl hL (fun v hv => hs v (List.mem_cons_of_mem _ (List.mem_cons_of_mem _ hv))) hI hS) (fun q => kf q p e s m args below meth c H locs ls ad X X2 X3 hl hL (fun v hv => hs v (List.mem_cons_of_mem _ (List.mem_cons_of_mem _ hv))) hI hS)
theorem aw_goto {off : Int} (tgt : Nat) (hd : decode cc pc = .ok (.goto off, 3)) (ht : (pc : Int) + off = (tgt : Int)) (kk : AW l D base sc own y cc nL ret d mc ms ad0 hp0 Post k n hp tgt L st) : AW l D base sc own y cc nL ret d mc ms ad0 hp0 Post k n hp pc L st := by
  intro p e s m args below meth c H locs ls ad X X2 X3 hl hL hs hI hS
  refine lv_goto X.1 X.2.1 hd ht ?_
  exact kk p e s m args below meth c H locs ls ad X X2 X3 hl hL hs hI hS
theorem aw_ifnull {x : Nat} {off : Int} (hd : decode cc pc = .ok (.ifnull off, 3)) (kk : AW l D base sc own y cc nL ret d mc ms ad0 hp0 Post k n hp (pc + 3) L st) : AW l D base sc own y cc nL ret d mc ms ad0 hp0 Post k n hp pc L (.ref x :: st) := by
  intro p e s m args below meth c H locs ls ad X X2 X3 hl hL hs hI hS
  refine lv_ifnull X.1 X.2.1 hd ?_
  exact kk p e s m args below meth c H locs ls ad X X2 X3 hl hL (fun v hv => hs v (List.mem_cons_of_mem _ hv)) hI hS
theorem aw_ifnullN {off : Int} (tgt : Nat) (hd : decode cc pc = .ok (.ifnull off, 3)) (ht : (pc : Int) + off = (tgt : Int)) (kk : AW l D base sc own y cc nL ret d mc ms ad0 hp0 Post k n hp tgt L st) : AW l D base sc own y cc nL ret d mc ms ad0 hp0 Post k n hp pc L (.null :: st) := by
  intro p e s m args below meth c H locs ls ad X X2 X3 hl hL hs hI hS
  refine lv_ifnullN X.1 X.2.1 hd ht ?_
  exact kk p e s m args below meth c H locs ls ad X X2 X3 hl hL (fun v hv => hs v (List.mem_cons_of_mem _ hv)) hI hS
theorem aw_ifnonnull {x : Nat} {off : Int} (tgt : Nat) (hd : decode cc pc = .ok (.ifnonnull off, 3)) (ht : (pc : Int) + off = (tgt : Int)) (kk : AW l D base sc own y cc nL ret d mc ms ad0 hp0 Post k n hp tgt L st) : AW l D base sc own y cc nL ret d mc ms ad0 hp0 Post k n hp pc L (.ref x :: st) := by
  intro p e s m args below meth c H locs ls ad X X2 X3 hl hL hs hI hS
  refine lv_ifnonnull X.1 X.2.1 hd ht ?_
  exact kk p e s m args below meth c H locs ls ad X X2 X3 hl hL (fun v hv => hs v (List.mem_cons_of_mem _ hv)) hI hS
theorem aw_ifnonnullN {off : Int} (hd : decode cc pc = .ok (.ifnonnull off, 3)) (kk : AW l D base sc own y cc nL ret d mc ms ad0 hp0 Post k n hp (pc + 3) L st) : AW l D base sc own y cc nL ret d mc ms ad0 hp0 Post k n hp pc L (.null :: st) := by
  intro p e s m args below meth c H locs ls ad X X2 X3 hl hL hs hI hS
  refine lv_ifnonnullN X.1 X.2.1 hd ?_
  exact kk p e s m args below meth c H locs ls ad X X2 X3 hl hL (fun v hv => hs v (List.mem_cons_of_mem _ hv)) hI hS
theorem aw_tableOut {dflt lo hi : Int} {offs : Array Int} {len : Nat} {x : Int32} (tgt : Nat) (hd : decode cc pc = .ok (.tableswitch dflt lo hi offs, len)) (h : x.toInt < lo ∨ hi < x.toInt) (ht : (pc : Int) + dflt = (tgt : Int)) (kk : AW l D base sc own y cc nL ret d mc ms ad0 hp0 Post k n hp tgt L st) : AW l D base sc own y cc nL ret d mc ms ad0 hp0 Post k n hp pc L (.int x :: st) := by
  intro p e s m args below meth c H locs ls ad X X2 X3 hl hL hs hI hS
  refine lv_tableOut X.1 X.2.1 hd h ht ?_
  exact kk p e s m args below meth c H locs ls ad X X2 X3 hl hL (fun v hv => hs v (List.mem_cons_of_mem _ hv)) hI hS
theorem aw_tableIn {dflt lo hi : Int} {offs : Array Int} {len : Nat} {x : Int32} {off : Int} (tgt : Nat) (hd : decode cc pc = .ok (.tableswitch dflt lo hi offs, len)) (h1 : ¬ x.toInt < lo) (h2 : ¬ hi < x.toInt) (ho : offs[(x.toInt - lo).toNat]? = some off) (ht : (pc : Int) + off = (tgt : Int)) (kk : AW l D base sc own y cc nL ret d mc ms ad0 hp0 Post k n hp tgt L st) : AW l D base sc own y cc nL ret d mc ms ad0 hp0 Post k n hp pc L (.int x :: st) := by
  intro p e s m args below meth c H locs ls ad X X2 X3 hl hL hs hI hS
  refine lv_tableIn X.1 X.2.1 hd h1 h2 ho ht ?_
  exact kk p e s m args below meth c H locs ls ad X X2 X3 hl hL (fun v hv => hs v (List.mem_cons_of_mem _ hv)) hI hS
theorem aw_lookup {dflt : Int} {ps : Array (Int × Int)} {len : Nat} {x : Int32} {off : Int} (tgt : Nat) (hd : decode cc pc = .ok (.lookupswitch dflt ps, len)) (hps : (ps.toList.zip (ps.toList.drop 1)).all (fun (a, next) => a.1 < next.1) = true) (ho : Op.lookupswitch.offset ps.toList dflt x.toInt = off) (ht : (pc : Int) + off = (tgt : Int)) (kk : AW l D base sc own y cc nL ret d mc ms ad0 hp0 Post k n hp tgt L st) : AW l D base sc own y cc nL ret d mc ms ad0 hp0 Post k n hp pc L (.int x :: st) := by
  intro p e s m args below meth c H locs ls ad X X2 X3 hl hL hs hI hS
  refine lv_lookup X.1 X.2.1 hd hps ho ht ?_
  exact kk p e s m args below meth c H locs ls ad X X2 X3 hl hL (fun v hv => hs v (List.mem_cons_of_mem _ hv)) hI hS
end GR
