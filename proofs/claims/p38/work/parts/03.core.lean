/-! THE CORE: a heap of numbered cells (names chosen by the writer), a machine's frame over it; below it the kit's worlds. -/
def g_T : List Cond := lw_tbl.filter goodWord
theorem g_Tsub {w : Cond} (h : w ∈ g_T) : w ∈ lw_tbl := (List.mem_filter.mp h).1
theorem g_Tgood {y : MethodName} {cc : ByteArray} {nL : Nat} {ret : Option FieldType} (h : Cond.code y cc nL ret ∈ g_T) : GoodIn g_T (Cond.code y cc nL ret :: g_T) := by
  intro w hw
  have hm : w ∈ g_T := by
    rcases List.mem_cons.mp hw with rfl | h1
    · exact h
    · exact h1
  exact ⟨hm, good_of_word (List.mem_filter.mp hm).2⟩
def g_isN (w : Cond) : Bool := match w with
  | .methodLinkNest .. => true
  | .fieldLinkNest .. => true
  | _ => false
def g_N : List Cond := lw_tbl.filter g_isN
/-- the words that warm up in their own way -/
def g_AOA (t : FieldType) (U : State) : Prop := (Cond.arrayOver (.array t)).before #[] U = true
theorem g_AOA.moved {t : FieldType} {u U : State} (hvm : u.vm.Alike U.vm) (h : g_AOA t u) : g_AOA t U := over_moved (a := #[]) (a' := #[]) hvm h
def g_nw (s : State) : Prop := (∀ w ∈ g_N, va_Nw w s) ∧ va_AO "UppityGames$Game" s ∧ g_AOA .int s
theorem g_nw.moved {s U : State} (hW : s.WarmedH U.vm) (h : g_nw s) : g_nw U := by
  refine ⟨fun w hw => ?_, h.2.1.moved hW.alike, h.2.2.moved hW.alike⟩
  have h1 := h.1 w hw
  have h2 := (List.mem_filter.mp hw).2
  cases w <;> first | (simp [g_isN] at h2; done) | exact va_Nw.warmF hW h1 | exact va_Nw.warmM hW h1
theorem g_nw.same {u U : State} (hv : u.vm = U.vm) (h : g_nw u) : g_nw U := by
  refine ⟨fun w hw => ?_, h.2.1.moved (hv ▸ Vm.Alike.refl u.vm), h.2.2.moved (hv ▸ Vm.Alike.refl u.vm)⟩
  have h1 := h.1 w hw
  have h2 := (List.mem_filter.mp hw).2
  cases w <;> first | (simp [g_isN] at h2; done) | exact va_Nw.same rfl hv h1
/-- a cell: an array with its type of component, or an object (which class, its fields) -/
abbrev g_E : Type := (FieldType × vp_A) ⊕ (Nat × List Value)
/-- the heap, by the writer's own numbers -/
abbrev g_H : Type := Nat → Option g_E
/-- the law's script: its number, its length, its values -/
abbrev g_S : Type := Nat × Nat × (Nat → Int32)
def g_up (hp : g_H) (i : Nat) (e : g_E) : g_H := fun j => if j = i then some e else hp j
theorem g_up_self (hp : g_H) (i : Nat) (e : g_E) : g_up hp i e i = some e := if_pos rfl
theorem g_up_ne (hp : g_H) {i j : Nat} (e : g_E) (h : j ≠ i) : g_up hp i e j = hp j := if_neg h
/-- a value, its number as an address -/
def g_v (ad : Nat → Nat) (v : Value) : Value := match v with
  | .ref a => .ref (ad a)
  | w => w
theorem g_v_cat (ad : Nat → Nat) (v : Value) : (g_v ad v).category = v.category := by cases v <;> rfl
def g_c (ad : Nat → Nat) (x : vp_A) : vp_A := match x with
  | (n, .inr (.inr (.inr (.inr f)))) => (n, .inr (.inr (.inr (.inr (fun j => (f j).map ad)))))
  | y => y
def g_cell (ad : Nat → Nat) (tys : List (ClassId × FieldType)) (x : g_E) (y : va_E) : Prop := match x, y with
  | .inl a, .inl b => (b.1, a.1) ∈ tys ∧ b.2 = g_c ad a.2
  | .inr a, .inr b => b.1 = a.1 ∧ b.2 = a.2.map (g_v ad)
  | _, _ => False
def g_lv (sc : g_S) (hp : g_H) (i : Nat) : Prop := hp i ≠ none ∨ i = sc.1
def g_live (sc : g_S) (hp : g_H) (v : Value) : Prop := match v with
  | .ref i => g_lv sc hp i
  | _ => True
/-- what a cell names lives -/
def g_ecl (sc : g_S) (hp : g_H) (e : g_E) : Prop := match e with
  | .inl (_, _, .inr (.inr (.inr (.inr f)))) => ∀ j k, f j = some k → g_lv sc hp k
  | .inl _ => True
  | .inr o => ∀ v ∈ o.2, g_live sc hp v
def g_closed (sc : g_S) (hp : g_H) : Prop := ∀ i e, hp i = some e → g_ecl sc hp e
theorem g_lv.mono {sc : g_S} {hp hp' : g_H} (h : ∀ i, hp i ≠ none → hp' i ≠ none) {i : Nat} (x : g_lv sc hp i) : g_lv sc hp' i := x.imp (h i) id
theorem g_live.mono {sc : g_S} {hp hp' : g_H} (h : ∀ i, hp i ≠ none → hp' i ≠ none) {v : Value} (x : g_live sc hp v) : g_live sc hp' v := by
  cases v <;> first | exact trivial | exact g_lv.mono h x
theorem g_ecl.mono {sc : g_S} {hp hp' : g_H} (h : ∀ i, hp i ≠ none → hp' i ≠ none) {e : g_E} (x : g_ecl sc hp e) : g_ecl sc hp' e := by
  obtain ⟨ty, n, f | f | f | f | f⟩ | ⟨ci, fs⟩ := e
  · trivial
  · trivial
  · trivial
  · trivial
  · exact fun j k hk => g_lv.mono h (x j k hk)
  · exact fun v hv => g_live.mono h (x v hv)
theorem g_up_mono (hp : g_H) (i : Nat) (e : g_E) : ∀ j, hp j ≠ none → g_up hp i e j ≠ none := by
  intro j hj
  by_cases h : j = i
  · subst h
    rw [g_up_self]
    exact fun q => by cases q
  · rw [g_up_ne _ _ h]
    exact hj
theorem g_closed.up {sc : g_S} {hp : g_H} (h : g_closed sc hp) {i : Nat} {e : g_E} (he : g_ecl sc hp e) : g_closed sc (g_up hp i e) := by
  intro j x hj
  by_cases hji : j = i
  · subst hji
    rw [g_up_self] at hj
    cases hj
    exact he.mono (g_up_mono _ _ _)
  · rw [g_up_ne _ _ hji] at hj
    exact (h j x hj).mono (g_up_mono _ _ _)
/-- the heap of numbers stands for the machine's heap -/
def g_inv (D : va_G) (base : Nat) (sc : g_S) (ad : Nat → Nat) (hp : g_H) (s : State) (H : Heap) : Prop :=
  (∃ (tys : List (ClassId × FieldType)) (ws : va_W), va_K D vwCl tys s ∧ va_P D vwCl ws H ∧ va_D (fun q => base ≤ q) ws ∧ ∀ i e, hp i = some e → ∃ (k : Nat) (e' : va_E), ws[k]? = some (ad i, e') ∧ g_cell ad tys e e') ∧
  (∀ i j, hp i ≠ none → hp j ≠ none → ad i = ad j → i = j) ∧ g_closed sc hp ∧ hp sc.1 = none
/-- the script as the machine has it -/
def g_scr (base : Nat) (sc : g_S) (ad : Nat → Nat) (s : State) : Prop := va_X (ad sc.1) sc.2.1 sc.2.2 s s.heap ∧ ad sc.1 < base ∧ base ≤ s.heap.size
/-- numbers keep their addresses -/
def g_ext (sc : g_S) (hp0 hp : g_H) (ad0 ad : Nat → Nat) : Prop := (∀ i, hp0 i ≠ none → ad i = ad0 i ∧ hp i ≠ none) ∧ ad sc.1 = ad0 sc.1
theorem g_ext.rf {sc : g_S} {hp : g_H} {ad : Nat → Nat} : g_ext sc hp hp ad ad := ⟨fun _ h => ⟨rfl, h⟩, rfl⟩
theorem g_ext.tr {sc : g_S} {h0 h1 h2 : g_H} {a0 a1 a2 : Nat → Nat} (x : g_ext sc h0 h1 a0 a1) (y : g_ext sc h1 h2 a1 a2) : g_ext sc h0 h2 a0 a2 :=
  ⟨fun i h => ⟨((y.1 i (x.1 i h).2).1).trans (x.1 i h).1, (y.1 i (x.1 i h).2).2⟩, y.2.trans x.2⟩
theorem g_ext.lv {sc : g_S} {h0 h1 : g_H} {a0 a1 : Nat → Nat} (x : g_ext sc h0 h1 a0 a1) {i : Nat} (h : g_lv sc h0 i) : a1 i = a0 i := by
  rcases h with h | rfl
  · exact (x.1 i h).1
  · exact x.2
theorem g_ext.v {sc : g_S} {h0 h1 : g_H} {a0 a1 : Nat → Nat} (x : g_ext sc h0 h1 a0 a1) {v : Value} (h : g_live sc h0 v) : g_v a1 v = g_v a0 v := by
  cases v <;> first | rfl | exact congrArg Value.ref (x.lv h)
theorem g_ext.live {sc : g_S} {h0 h1 : g_H} {a0 a1 : Nat → Nat} (x : g_ext sc h0 h1 a0 a1) {v : Value} (h : g_live sc h0 v) : g_live sc h1 v := h.mono (fun i hi => (x.1 i hi).2)
theorem g_ext.up {sc : g_S} {hp : g_H} {ad : Nat → Nat} (i : Nat) (e : g_E) : g_ext sc hp (g_up hp i e) ad ad := ⟨fun j h => ⟨rfl, g_up_mono hp i e j h⟩, rfl⟩
theorem g_inv.moved {D : va_G} {base : Nat} {sc : g_S} {ad : Nat → Nat} {hp : g_H} {u U : State} {H : Heap} (hvm : u.vm.Alike U.vm) (h : g_inv D base sc ad hp u H) : g_inv D base sc ad hp U H := by
  obtain ⟨⟨tys, ws, hK, h2⟩, h3⟩ := h
  exact ⟨⟨tys, ws, va_K.moved hvm hK, h2⟩, h3⟩
def g_room (d mc ms : Nat) : Room := { frames := d, cells := mc, slots := ms, locals := 100 * d }
/-- a method's start -/
def g_P (D : va_G) (base : Nat) (sc : g_S) (ad : Nat → Nat) (hp : g_H) (args : List Value) : Array Value → State → Prop := fun v U => v = (args.map (g_v ad)).toArray ∧ g_inv D base sc ad hp U U.heap ∧ g_scr base sc ad U ∧ (∀ v ∈ args, g_live sc hp v) ∧ g_nw U
/-- a method's end -/
def g_Q (D : va_G) (base : Nat) (sc : g_S) (ad : Nat → Nat) (hp : g_H) (Post : Option Value → g_H → Prop) : Array Value → State → Outcome → State → Prop := fun _ st o t =>
  (∃ (v : Option Value) (hp' : g_H) (ad' : Nat → Nat), o = .returned (v.map (g_v ad')) ∧ Post v hp' ∧ g_ext sc hp hp' ad ad' ∧ g_inv D base sc ad' hp' t t.heap ∧ ∀ w, v = some w → g_live sc hp' w) ∧ va_F (fun q => base ≤ q) st t
/-- a method's contract: from a heap of numbers, with these arguments, it comes to its end with Post -/
def AMet (l : Launch) (sc : g_S) (y : MethodName) (cc : ByteArray) (nL : Nat) (ret : Option FieldType) (d mc ms : Nat) (args : List Value) (hp : g_H) (Post : Option Value → g_H → Prop) : Prop :=
  ∀ (D : va_G) (base : Nat) (ad : Nat → Nat), Met l y (Cond.code y cc nL ret :: g_T) (g_room d mc ms) (g_P D base sc ad hp args) (g_Q D base sc ad hp Post) mc ms (fun q => base ≤ q)
/-- what stands behind a frame -/
def g_ctx (p : Program) (s : State) (m : MethodId) (args : Array Value) (meth : Method) (c : Code) (own : String) (y : MethodName) (cc : ByteArray) (nL : Nat) (ret : Option FieldType) : Prop :=
  p.tables.exec = Jvm.exec ∧ c.code = cc ∧ c.maxLocals = nL ∧ s.vm.findClass own = some m.cls ∧ (∀ w ∈ g_T, w.before args s = true) ∧ meth.sig.returnType = ret ∧ meth.locks = false ∧ meth.name = y.name ∧ g_nw s
def g_loc (ad : Nat → Nat) (L : List (Nat × Value)) (ls : Array Slot) (nL : Nat) : Prop := lv_has ls nL (L.map (fun q => (q.1, g_v ad q.2)))
/-- the machine's frame over the heap of numbers: it comes to the method's end -/
def AW (l : Launch) (D : va_G) (base : Nat) (sc : g_S) (own : String) (y : MethodName) (cc : ByteArray) (nL : Nat) (ret : Option FieldType) (d mc ms : Nat) (ad0 : Nat → Nat) (hp0 : g_H) (Post : Option Value → g_H → Prop) (k n : Nat) (hp : g_H) (pc : Nat) (L : List (Nat × Value)) (st : List Value) : Prop :=
  ∀ (p : Program) (e : Env) (s : State) (m : MethodId) (args : Array Value) (below : List Frame) (meth : Method) (c : Code) (H : Heap) (locs : List Loc) (ls : Array Slot) (ad : Nat → Nat),
    g_ctx p s m args meth c own y cc nL ret → g_scr base sc ad0 s → g_ext sc hp0 hp ad0 ad → g_loc ad L ls nL → (∀ q ∈ L, g_live sc hp q.2) → (∀ v ∈ st, g_live sc hp v) → g_inv D base sc ad hp s H → va_S (fun q => base ≤ q) s.heap H locs →
    W p l e (g_room d mc ms) s m args below meth c H locs k n (MQ below (g_Q D base sc ad0 hp0 Post) args s mc ms (fun q => base ≤ q)) (F0 m pc ls (st.map (g_v ad)))
theorem g_args_map (ad : Nat → Nat) : ∀ (i : Nat) (vs : List Value), lv_args i (vs.map (g_v ad)) = (lv_args i vs).map (fun q => (q.1, g_v ad q.2))
  | _, [] => rfl
  | i, v :: vs => by
    show (i, g_v ad v) :: lv_args (if (g_v ad v).category = 2 then i + 2 else i + 1) (vs.map (g_v ad)) = _
    rw [g_v_cat, g_args_map ad _ vs]
    rfl
theorem g_sl_len (ad : Nat → Nat) (vs : List Value) : (lg_sl (vs.map (g_v ad))).length = (lg_sl vs).length := by
  induction vs with
  | nil => rfl
  | cons v vs ih =>
    unfold lg_sl at ih ⊢
    rw [List.map_cons, List.flatMap_cons, List.flatMap_cons, List.length_append, List.length_append, ih, g_v_cat]
    by_cases h : v.category = 2
    · rw [if_pos h, if_pos h]; rfl
    · rw [if_neg h, if_neg h]; rfl
theorem g_args_mem : ∀ (i : Nat) (vs : List Value) (q : Nat × Value), q ∈ lv_args i vs → q.2 ∈ vs
  | _, [], _, h => by cases h
  | i, v :: vs, q, h => by
    rcases List.mem_cons.mp h with h | h
    · rw [h]; exact List.mem_cons_self
    · exact List.mem_cons_of_mem _ (g_args_mem _ vs q h)
/-- a contract, from the walk of the body -/
theorem AMet.of {l : Launch} {sc : g_S} {own : String} {y : MethodName} {cc : ByteArray} {nL : Nat} {ret : Option FieldType} {d mc ms : Nat} {args : List Value} {hp : g_H} {Post : Option Value → g_H → Prop} (hy : plainName y.cls = true) (hown : y.cls = own) (hn : (lg_sl args).length ≤ nL) (L : List (Nat × Value)) (hL : lv_args 0 args = L)
    (body : ∀ D base ad, AW l D base sc own y cc nL ret d mc ms ad hp Post 0 0 hp 0 L []) : AMet l sc y cc nL ret d mc ms args hp Post := by
  intro D base ad
  refine Met.ofW (cc := cc) (maxL := nL) (ret := ret) (ws' := g_T) hy rfl ?_
  intro p e s m args' below meth c s₁ B hml hv
  obtain ⟨rfl, hI, hX, hlv, hN⟩ := hv
  have hpre := atoms_spec (ws := Cond.code y cc nL ret :: g_T) B.pre
  subst hL
  rw [lg_entry_eq]
  have hl := lv_entry (args.map (g_v ad)) (n := nL) (by rw [g_sl_len]; exact hn)
  rw [g_args_map] at hl
  exact body D base ad p e s m _ below meth c s.heap [] _ ad ⟨B.exec, B.bytes, hml, by rw [← hown]; exact findClass_of_methodNamed B.named, fun w hw => hpre w (List.mem_cons_of_mem _ hw), B.returns, B.notSynchronized, (name_of_methodNamed B.named B.method).1, hN⟩ hX g_ext.rf hl (fun q hq => hlv q.2 (g_args_mem 0 args q hq)) (fun v hv => by cases hv) hI va_S.rf
