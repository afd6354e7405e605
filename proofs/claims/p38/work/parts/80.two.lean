/-! TWO OBJECTS: the other's cells by a renaming; what is new is shared -/
def swp (i : Nat) : Nat := if 1 ≤ i ∧ i < 58 then i + 200 else if 201 ≤ i ∧ i < 258 then i - 200 else i
theorem swp_lo {i : Nat} (h : 1 ≤ i ∧ i < 58) : swp i = i + 200 := if_pos h
theorem swp_hi {i : Nat} (h : 201 ≤ i ∧ i < 258) : swp i = i - 200 := by
  unfold swp
  rw [if_neg (by omega), if_pos h]
theorem swp_id {i : Nat} (h1 : ¬ (1 ≤ i ∧ i < 58)) (h2 : ¬ (201 ≤ i ∧ i < 258)) : swp i = i := by
  unfold swp
  rw [if_neg h1, if_neg h2]
theorem swp_sw (i : Nat) : swp (swp i) = i := by
  by_cases h1 : 1 ≤ i ∧ i < 58
  · rw [swp_lo h1, swp_hi (by omega)]; omega
  · by_cases h2 : 201 ≤ i ∧ i < 258
    · rw [swp_hi h2, swp_lo (by omega)]; omega
    · rw [swp_id h1 h2, swp_id h1 h2]
def sI (v : Int) : Int := if 1 ≤ v ∧ v < 58 then v + 200 else if 201 ≤ v ∧ v < 258 then v - 200 else v
theorem sI_sI (v : Int) : sI (sI v) = v := by
  unfold sI
  by_cases h1 : 1 ≤ v ∧ v < 58
  · rw [if_pos h1, if_neg (by omega), if_pos (by omega)]; omega
  · rw [if_neg h1]
    by_cases h2 : 201 ≤ v ∧ v < 258
    · rw [if_pos h2, if_pos (by omega)]; omega
    · rw [if_neg h2, if_neg h1, if_neg h2]
theorem sI_in {v : Int} (h : inR v) : inR (sI v) := by
  obtain ⟨a, b⟩ := h
  unfold sI
  by_cases h1 : 1 ≤ v ∧ v < 58
  · rw [if_pos h1]; exact ⟨by omega, by omega⟩
  · rw [if_neg h1]
    by_cases h2 : 201 ≤ v ∧ v < 258
    · rw [if_pos h2]; exact ⟨by omega, by omega⟩
    · rw [if_neg h2]; exact ⟨a, b⟩
theorem sI_nat (v : Int) : (sI v).toNat = swp v.toNat := by
  unfold sI
  by_cases h1 : 1 ≤ v ∧ v < 58
  · rw [if_pos h1, swp_lo (by omega)]; omega
  · rw [if_neg h1]
    by_cases h2 : 201 ≤ v ∧ v < 258
    · rw [if_pos h2, swp_hi (by omega)]; omega
    · rw [if_neg h2, swp_id (by omega) (by omega)]
/-- which places of a new cell are references -/
def rK (k : Nat × Nat) (i : Nat) (v : Int) : Int := if k.1 = 5 ∨ (k.1 = 11 ∧ i < 3) then sI v else v
theorem rK_rK (k : Nat × Nat) (i : Nat) (v : Int) : rK k i (rK k i v) = v := by
  unfold rK
  by_cases h : k.1 = 5 ∨ (k.1 = 11 ∧ i < 3)
  · rw [if_pos h, if_pos h, sI_sI]
  · rw [if_neg h, if_neg h]
theorem rK_in {k : Nat × Nat} {i : Nat} {v : Int} (h : inR v) : inR (rK k i v) := by
  unfold rK
  by_cases q : k.1 = 5 ∨ (k.1 = 11 ∧ i < 3)
  · rw [if_pos q]; exact sI_in h
  · rw [if_neg q]; exact h
/-- the new cells of the one are those of the other -/
def Tw (mx my : Mem) : Prop := my.2.2 = mx.2.2 ∧ KO mx.2.2 ∧ (∀ a i, 1000 ≤ a → mGet my a i = rK (sKind mx a) i (mGet mx a i)) ∧ ∀ a i, 1000 ≤ a → lGet my a i = lGet mx a i
theorem Tw.kind {mx my : Mem} (T : Tw mx my) (a : Nat) : sKind my a = sKind mx a := by
  unfold sKind
  rw [T.1]
theorem Tw.symm {mx my : Mem} (T : Tw mx my) : Tw my mx := ⟨T.1.symm, by rw [T.1]; exact T.2.1, fun a i h => by rw [T.kind, T.2.2.1 a i h, rK_rK], fun a i h => (T.2.2.2 a i h).symm⟩
theorem Tw.next {mx my : Mem} (T : Tw mx my) : mNext my = mNext mx := by
  unfold mNext
  rw [T.1]
theorem KO_kind {m : Mem} (h : KO m.2.2) {a : Nat} (ha : 1000 ≤ a) : (sKind m a).1 < 7 ∨ (sKind m a).1 = 11 := by
  unfold sKind
  rw [if_neg (by omega), List.getD_eq_getElem?_getD]
  cases e : m.2.2[a - 1000]? with
  | none => exact Or.inl (by decide)
  | some x => exact of_decide_eq_true (List.all_eq_true.mp h x (List.mem_of_getElem? e))
theorem orf_sw (r : Nat) : (orf (swp r)).map swp = orf r := by
  unfold orf
  by_cases h : r = 0
  · subst h; rfl
  · have h2 : swp r ≠ 0 := fun e => h (by have := swp_sw r; rw [e] at this; exact this.symm)
    rw [if_neg h2, if_neg h]
    show some (swp (swp r)) = some r
    rw [swp_sw]
theorem rnv_rv (r : Nat) : rnv swp (rv (swp r)) = rv r := by
  by_cases h : r = 0
  · subst h; rfl
  · have h2 : swp r ≠ 0 := fun e => h (by have := swp_sw r; rw [e] at this; exact this.symm)
    rw [rv_s h2, rv_s h]
    show Value.ref (swp (swp r)) = _
    rw [swp_sw]
theorem cel_0 {m : Mem} {a : Nat} (h : (sKind m a).1 = 0) : cel m a = none := by
  unfold cel
  rw [h]
  rfl
theorem Tw.cel {mx my : Mem} (T : Tw mx my) {a : Nat} (ha : 1000 ≤ a) : (cel my a).map (rne swp) = cel mx a := by
  have hk := KO_kind T.2.1 ha
  have ky : sKind my a = sKind mx a := T.kind a
  have pl : ¬ ((sKind mx a).1 = 5 ∨ (sKind mx a).1 = 11) → ∀ j, mGet my a j = mGet mx a j := fun h j => by
    rw [T.2.2.1 a j ha]
    exact if_neg (fun q => h (q.imp id (fun q => q.1)))
  have hk : (sKind mx a).1 = 0 ∨ (sKind mx a).1 = 1 ∨ (sKind mx a).1 = 2 ∨ (sKind mx a).1 = 3 ∨ (sKind mx a).1 = 4 ∨ (sKind mx a).1 = 5 ∨ (sKind mx a).1 = 6 ∨ (sKind mx a).1 = 11 := by omega
  rcases hk with h | h | h | h | h | h | h | h
  · rw [cel_0 (m := my) (by rw [ky]; exact h), cel_0 h]; rfl
  · have e : (fun j => Int32.ofInt (mGet my a j)) = fun j => Int32.ofInt (mGet mx a j) := funext (fun j => by rw [pl (by omega)])
    rw [cel_int (m := my) (by rw [ky]; exact h), cel_int h, ky, e]; rfl
  · have e : (fun j => Int64.ofNat (lGet my a j)) = fun j => Int64.ofNat (lGet mx a j) := funext (fun j => by rw [T.2.2.2 a j ha])
    rw [cel_long (m := my) (by rw [ky]; exact h), cel_long h, ky, e]; rfl
  · have e : (fun j => Int32.ofInt (mGet my a j)) = fun j => Int32.ofInt (mGet mx a j) := funext (fun j => by rw [pl (by omega)])
    rw [cel_byte (m := my) (by rw [ky]; exact h), cel_byte h, ky, e]; rfl
  · have e : (fun j => Int32.ofInt (mGet my a j)) = fun j => Int32.ofInt (mGet mx a j) := funext (fun j => by rw [pl (by omega)])
    rw [cel_bool (m := my) (by rw [ky]; exact h), cel_bool h, ky, e]; rfl
  · have e : (fun j => (orf (mGet my a j).toNat).map swp) = fun j => orf (mGet mx a j).toNat := funext (fun j => by
      rw [T.2.2.1 a j ha, show rK (sKind mx a) j (mGet mx a j) = sI (mGet mx a j) from if_pos (Or.inl h), sI_nat, orf_sw])
    rw [cel_game (m := my) (by rw [ky]; exact h), cel_game h, ky]
    show some (Sum.inl (FieldType.object "UppityGames$Game", ((sKind mx a).2, Sum.inr (Sum.inr (Sum.inr (Sum.inr (fun j => (orf (mGet my a j).toNat).map swp))))))) = _
    rw [e]
  · have e : (fun j => (if j < (sKind mx a).2 then some (a + 1 + j) else none : Option Nat).map swp) = fun j => if j < (sKind mx a).2 then some (a + 1 + j) else none := funext (fun j => by
      by_cases q : j < (sKind mx a).2
      · rw [if_pos q]
        show some (swp (a + 1 + j)) = _
        rw [swp_id (by omega) (by omega)]
      · rw [if_neg q]; rfl)
    rw [cel_rows (m := my) (by rw [ky]; exact h), cel_rows h, ky]
    show some (Sum.inl (FieldType.array .int, ((sKind mx a).2, Sum.inr (Sum.inr (Sum.inr (Sum.inr (fun j => (if j < (sKind mx a).2 then some (a + 1 + j) else none : Option Nat).map swp))))))) = _
    rw [e]
  · rw [cel_obj (m := my) (c := 1) (by rw [ky]; exact h), cel_obj (c := 1) h]
    show some (Sum.inr (1, (flds my a 1).map (rnv swp))) = some (Sum.inr (1, flds mx a 1))
    unfold flds
    rw [List.map_map]
    refine congrArg (fun z => some (Sum.inr (1, z))) (List.map_congr_left (fun k hk => ?_))
    have hk : k < 5 := List.mem_range.mp hk
    have e3 : k < 3 → rnv swp (rv (mGet my a k).toNat) = rv (mGet mx a k).toNat := fun q => by
      rw [T.2.2.1 a k ha, show rK (sKind mx a) k (mGet mx a k) = sI (mGet mx a k) from if_pos (Or.inr ⟨h, q⟩), sI_nat, rnv_rv]
    have e5 : ¬ k < 3 → mGet my a k = mGet mx a k := fun q => by
      rw [T.2.2.1 a k ha]
      exact if_neg (by omega)
    rcases (by omega : k = 0 ∨ k = 1 ∨ k = 2 ∨ k = 3 ∨ k = 4) with rfl | rfl | rfl | rfl | rfl
    · exact e3 (by decide)
    · exact e3 (by decide)
    · exact e3 (by decide)
    · show iv (mGet my a 3) = iv (mGet mx a 3)
      rw [e5 (by decide)]
    · show iv (mGet my a 4) = iv (mGet mx a 4)
      rw [e5 (by decide)]
/-- the other's memory, once the one has grown -/
def tw (mx my : Mem) : Mem := (fun a i => if a < 1000 then my.1 a i else rK (sKind mx a) i (mGet mx a i), fun a i => if a < 1000 then my.2.1 a i else mx.2.1 a i, mx.2.2)
theorem tw_lo {mx my : Mem} {a i : Nat} (h : a < 1000) : mGet (tw mx my) a i = mGet my a i := by
  unfold mGet
  show w32 (if a < 1000 then my.1 a i else _) = _
  rw [if_pos h]
theorem tw_hi {mx my : Mem} {a i : Nat} (h : 1000 ≤ a) : mGet (tw mx my) a i = rK (sKind mx a) i (mGet mx a i) := by
  show w32 (if a < 1000 then my.1 a i else rK (sKind mx a) i (mGet mx a i)) = _
  rw [if_neg (by omega)]
  exact w32_in (rK_in (inR_mGet _ _ _))
theorem tw_l {mx my : Mem} {a i : Nat} (h : a < 1000) : lGet (tw mx my) a i = lGet my a i := by
  show (if a < 1000 then my.2.1 a i else _) % _ = _
  rw [if_pos h]
  rfl
theorem tw_Tw {mx my : Mem} (h : KO mx.2.2) : Tw mx (tw mx my) := ⟨rfl, h, fun a i ha => tw_hi ha, fun a i ha => by
  show (if a < 1000 then my.2.1 a i else mx.2.1 a i) % _ = _
  rw [if_neg (by omega)]
  rfl⟩
theorem tw_cel {mx my : Mem} {a : Nat} (h : a < 1000) : cel (tw mx my) a = cel my a := cel_ext (by unfold sKind; rw [if_pos h, if_pos h]) (fun _ => tw_lo h) (fun _ => tw_l h)
theorem tw_fr {mx my mx' : Mem} (T : Tw mx my) (g : Grow mx mx') : Fr my (tw mx' my) (fun _ => False) := by
  have gk : ∀ {a : Nat}, a < mNext mx → sKind mx' a = sKind mx a := fun h => g.kind h
  obtain ⟨⟨l, e, k⟩, h⟩ := g
  refine ⟨⟨⟨l, by show mx'.2.2 = _; rw [e, T.1], k⟩, fun a i h1 h2 => ?_⟩, fun a i h1 _ => tw_lo h1⟩
  have h3 : a < mNext mx := by rw [T.next] at h2; exact h2
  rw [tw_hi h1, T.2.2.1 a i h1, gk h3, h a i h1 h3]
theorem KO.grow {m m' : Mem} (h : KO m.2.2) (g : Grow m m') : KO m'.2.2 := by
  obtain ⟨⟨l, e, k⟩, _⟩ := g
  rw [e]
  exact h.app k
/-- the heap of two -/
def E2 (F : g_H) (mx my : Mem) : g_H := fun id => if 1 ≤ id ∧ id < 58 then cel mx id else if 201 ≤ id ∧ id < 258 then (cel my (id - 200)).map (rne swp) else if 1000 ≤ id then cel mx id else F id
theorem E2_lo {F : g_H} {mx my : Mem} {id : Nat} (h : 1 ≤ id ∧ id < 58) : E2 F mx my id = cel mx id := if_pos h
theorem E2_y {F : g_H} {mx my : Mem} {id : Nat} (h : 201 ≤ id ∧ id < 258) : E2 F mx my id = (cel my (id - 200)).map (rne swp) := by
  unfold E2
  rw [if_neg (by omega), if_pos h]
theorem E2_hi {F : g_H} {mx my : Mem} {id : Nat} (h : 1000 ≤ id) : E2 F mx my id = cel mx id := by
  unfold E2
  rw [if_neg (by omega), if_neg (by omega), if_pos h]
theorem E2_F {F : g_H} {mx my : Mem} {id : Nat} (h1 : ¬ (1 ≤ id ∧ id < 58)) (h2 : ¬ (201 ≤ id ∧ id < 258)) (h3 : ¬ 1000 ≤ id) : E2 F mx my id = F id := by
  unfold E2
  rw [if_neg h1, if_neg h2, if_neg h3]
theorem E2_LE (F : g_H) (my : Mem) : LE (fun m => E2 F m my) (fun q => (1 ≤ q ∧ q < 58) ∨ 1000 ≤ q) := by
  refine ⟨fun m id hr => ?_, fun m m' id hr => ?_⟩
  · rcases hr with h | h
    · exact E2_lo h
    · exact E2_hi h
  · show E2 F m my id = E2 F m' my id
    by_cases h2 : 201 ≤ id ∧ id < 258
    · rw [E2_y h2, E2_y h2]
    · rw [E2_F (by omega) h2 (by omega), E2_F (by omega) h2 (by omega)]
theorem E2_rn {F : g_H} {mx my : Mem} (hF : rnh swp F = F) (T : Tw mx my) : rnh swp (E2 F mx my) = E2 F my mx := by
  funext id
  show (E2 F mx my (swp id)).map (rne swp) = _
  by_cases h1 : 1 ≤ id ∧ id < 58
  · rw [swp_lo h1, E2_y (by omega), E2_lo h1, show id + 200 - 200 = id by omega]
    cases cel my id with
    | none => rfl
    | some e => show some (rne swp (rne swp e)) = some e; rw [rne_inv swp swp_sw]
  · by_cases h2 : 201 ≤ id ∧ id < 258
    · rw [swp_hi h2, E2_lo (by omega), E2_y h2]
    · by_cases h3 : 1000 ≤ id
      · rw [swp_id h1 h2, E2_hi h3, E2_hi h3]
        exact T.symm.cel h3
      · rw [swp_id h1 h2, E2_F h1 h2 h3, E2_F h1 h2 h3]
        have := congrFun hF id
        rw [show rnh swp F id = (F (swp id)).map (rne swp) from rfl, swp_id h1 h2] at this
        exact this
theorem E2_tw (F : g_H) (mx my : Mem) : E2 F mx my = E2 F mx (tw mx my) := by
  funext id
  by_cases h1 : 1 ≤ id ∧ id < 58
  · rw [E2_lo h1, E2_lo h1]
  · by_cases h2 : 201 ≤ id ∧ id < 258
    · rw [E2_y h2, E2_y h2, tw_cel (by omega)]
    · by_cases h3 : 1000 ≤ id
      · rw [E2_hi h3, E2_hi h3]
      · rw [E2_F h1 h2 h3, E2_F h1 h2 h3]
theorem E2_up {F : g_H} {mx my : Mem} {q : Nat} (hq : 58 ≤ q ∧ q < 200) (e : g_E) : g_up (E2 F mx my) q e = E2 (g_up F q e) mx my := by
  funext id
  by_cases h : id = q
  · subst h
    rw [g_up_self, E2_F (by omega) (by omega) (by omega), g_up_self]
  · rw [g_up_ne _ _ h]
    unfold E2
    rw [g_up_ne _ _ h]
/-- a weaker end -/
theorem AMet.post {l : Launch} {sc : g_S} {y : MethodName} {cc : ByteArray} {nL : Nat} {ret : Option FieldType} {d mc ms : Nat} {args : List Value} {hp : g_H} {P Q : Option Value → g_H → Prop} (A : AMet l sc y cc nL ret d mc ms args hp P) (h : ∀ v hp', P v hp' → Q v hp') : AMet l sc y cc nL ret d mc ms args hp Q := by
  intro D base ad p e ha hc hk s m args' below hf happ hP hK
  obtain ⟨n, o, h1, h2, h3, ⟨⟨v, hp', ad', e1, e2, e3⟩, h5⟩, h6⟩ := A D base ad p e ha hc hk s m args' below hf happ hP hK
  exact ⟨n, o, h1, h2, h3, ⟨⟨v, hp', ad', e1, h _ _ e2, e3⟩, h5⟩, h6⟩
/-- the one is called -/
theorem xmet {l : Launch} {sc : g_S} {y : MethodName} {cc : ByteArray} {nL : Nat} {ret : Option FieldType} {d mc ms : Nat} {args : List Value} {F : g_H} {mx my : Mem} {X : Option Rz} {Q : Int → Mem → Prop} (T : Tw mx my) (hX : Ok X Q) (hg : ∀ v m', Q v m' → Grow mx m')
    (hS : ∀ (E : Mem → g_H) (R : Nat → Prop), LE E R → RCL R → ∀ r, X = some r → AMet l sc y cc nL ret d mc ms args (E mx) (pI E r)) :
    AMet l sc y cc nL ret d mc ms args (E2 F mx my) (fun v hp' => ∃ (x : Int) (mx' my' : Mem), v = some (iv x) ∧ inR x ∧ hp' = E2 F mx' my' ∧ Q x mx' ∧ Tw mx' my' ∧ Fr my my' (fun _ => False)) := by
  obtain ⟨x, m', e, q⟩ := hX
  have A := hS (fun m => E2 F m my) _ (E2_LE F my) RCL_EC (x, m') e
  refine A.post (fun v hp' h => ?_)
  obtain ⟨rfl, h1, rfl⟩ := h
  exact ⟨x, m', tw m' my, rfl, h1, E2_tw F m' my, q, tw_Tw (T.2.1.grow (hg _ _ q)), tw_fr T (hg _ _ q)⟩
/-- the other is called -/
theorem ymet {l : Launch} {sc : g_S} (hsc : sc.1 = 0) {y : MethodName} {cc : ByteArray} {nL : Nat} {ret : Option FieldType} {d mc ms : Nat} {args args' : List Value} {F : g_H} {mx my : Mem} {X : Option Rz} {Q : Int → Mem → Prop} (ha : args.map (rnv swp) = args') (hF : rnh swp F = F) (T : Tw mx my) (hX : Ok X Q) (hg : ∀ v m', Q v m' → Grow my m')
    (hS : ∀ (E : Mem → g_H) (R : Nat → Prop), LE E R → RCL R → ∀ r, X = some r → AMet l sc y cc nL ret d mc ms args (E my) (pI E r)) :
    AMet l sc y cc nL ret d mc ms args' (E2 F mx my) (fun v hp' => ∃ (x : Int) (mx' my' : Mem), v = some (iv x) ∧ inR x ∧ hp' = E2 F mx' my' ∧ Q x my' ∧ Tw mx' my' ∧ Fr mx mx' (fun _ => False)) := by
  have A := AMet_rn swp_sw (by rw [hsc]; rfl) (xmet (F := F) T.symm hX hg hS)
  rw [ha, E2_rn hF T.symm] at A
  refine A.post (fun v hp' h => ?_)
  obtain ⟨x, my', mx', e1, h1, e2, q, T2, f⟩ := h
  refine ⟨x, mx', my', ?_, h1, ?_, q, T2.symm, f⟩
  · cases v with
    | none => cases e1
    | some w =>
      have e1 : some (rnv swp w) = some (iv x) := e1
      injection e1 with e1
      have := congrArg (rnv swp) e1
      rw [rnv_inv swp swp_sw] at this
      rw [this]
      rfl
  · have := congrArg (rnh swp) e2
    rw [rnh_inv swp swp_sw, E2_rn hF T2] at this
    exact this
/-- what holds of the two between calls; what the other has been fed -/
def JS (γ γy : Nat → Nat) (c : Nat) (t : Nat → Nat) (B : Nat) (mx my : Mem) : Prop := CI γ mx ∧ CI γy my ∧ TX my c t ∧ Tw mx my ∧ mNext mx ≤ B
theorem TX.fr {m m' : Mem} {c : Nat} {t : Nat → Nat} (X : TX m c t) (f : Fr m m' (fun _ => False)) : TX m' c t := ⟨(f.2 41 4 (by decide) (fun h => h)).trans X.1, fun i hi => (f.2 42 i (by decide) (fun h => h)).trans (X.2 i hi)⟩
theorem JS.x {γ γ' γy : Nat → Nat} {c : Nat} {t : Nat → Nat} {B e : Nat} {mx my mx' my' : Mem} (J : JS γ γy c t B mx my) (C : CI γ' mx') (n : mNext mx' ≤ mNext mx + e) (T : Tw mx' my') (f : Fr my my' (fun _ => False)) : JS γ' γy c t (B + e) mx' my' := ⟨C, J.2.1.fr (f.weak (fun a h => h.elim)), J.2.2.1.fr f, T, by have := J.2.2.2.2; omega⟩
theorem JS.y {γ γy γy' : Nat → Nat} {c c' : Nat} {t t' : Nat → Nat} {B e : Nat} {mx my mx' my' : Mem} (J : JS γ γy c t B mx my) (C : CI γy' my') (X : TX my' c' t') (n : mNext my' ≤ mNext my + e) (T : Tw mx' my') (f : Fr mx mx' (fun _ => False)) : JS γ γy' c' t' (B + e) mx' my' := ⟨J.1.fr (f.weak (fun a h => h.elim)), C, X, T, by
  have h1 := J.2.2.2.2
  have h2 := J.2.2.2.1.next
  have h3 := T.next
  omega⟩
theorem JS.le {γ γy : Nat → Nat} {c : Nat} {t : Nat → Nat} {B B' : Nat} {mx my : Mem} (J : JS γ γy c t B mx my) (h : B ≤ B') : JS γ γy c t B' mx my := ⟨J.1, J.2.1, J.2.2.1, J.2.2.2.1, Nat.le_trans J.2.2.2.2 h⟩
theorem ok_same {X : Option Rz} {v : Int} {m : Mem} (h : X = some (v, m)) : Ok X (fun v' m' => v' = v ∧ m' = m) := ⟨v, m, h, rfl, rfl⟩
theorem cel_1 (m : Mem) : cel m 1 = some (.inr (10, flds m 1 10)) := cel_obj (c := 10) rfl
