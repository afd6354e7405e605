/-! RENAMING: the same heap, by other numbers -/
def rnv (s : Nat → Nat) (v : Value) : Value := match v with
  | .ref a => .ref (s a)
  | w => w
theorem rnv_g (ad s : Nat → Nat) (hs : ∀ i, s (s i) = i) (v : Value) : g_v (ad ∘ s) (rnv s v) = g_v ad v := by
  cases v <;> first | rfl | (show Value.ref (ad (s (s _))) = _; rw [hs]; rfl)
theorem rnv_inv (s : Nat → Nat) (hs : ∀ i, s (s i) = i) (v : Value) : rnv s (rnv s v) = v := by
  cases v <;> first | rfl | (show Value.ref (s (s _)) = _; rw [hs])
def rne (s : Nat → Nat) (e : g_E) : g_E := match e with
  | .inl (ty, x) => .inl (ty, g_c s x)
  | .inr (c, fs) => .inr (c, fs.map (rnv s))
def rnh (s : Nat → Nat) (h : g_H) : g_H := fun i => (h (s i)).map (rne s)
theorem g_c_comp (ad s : Nat → Nat) (x : vp_A) : g_c ad (g_c s x) = g_c (ad ∘ s) x := by
  obtain ⟨n, f | f | f | f | f⟩ := x
  · rfl
  · rfl
  · rfl
  · rfl
  · show (n, Sum.inr (Sum.inr (Sum.inr (Sum.inr (fun j => ((f j).map s).map ad))))) = (n, Sum.inr (Sum.inr (Sum.inr (Sum.inr (fun j => (f j).map (ad ∘ s))))))
    congr 5
    funext j
    cases f j <;> rfl
theorem g_c_id (x : vp_A) {f : Nat → Nat} (hf : ∀ i, f i = i) : g_c f x = x := by
  have e : f = id := funext hf
  rw [e]
  obtain ⟨n, f | f | f | f | f⟩ := x
  · rfl
  · rfl
  · rfl
  · rfl
  · show (n, Sum.inr (Sum.inr (Sum.inr (Sum.inr (fun j => (f j).map id))))) = _
    congr 5
    funext j
    cases f j <;> rfl
theorem rne_inv (s : Nat → Nat) (hs : ∀ i, s (s i) = i) (e : g_E) : rne s (rne s e) = e := by
  rcases e with ⟨ty, x⟩ | ⟨c, fs⟩
  · show Sum.inl (ty, g_c s (g_c s x)) = _
    rw [g_c_comp, g_c_id (f := s ∘ s) x hs]
  · show Sum.inr (c, (fs.map (rnv s)).map (rnv s)) = _
    rw [List.map_map]
    congr 2
    have : (rnv s ∘ rnv s) = id := funext (rnv_inv s hs)
    rw [this, List.map_id]
theorem rnh_inv (s : Nat → Nat) (hs : ∀ i, s (s i) = i) (h : g_H) : rnh s (rnh s h) = h := by
  funext i
  show ((h (s (s i))).map (rne s)).map (rne s) = h i
  rw [hs]
  cases h i with
  | none => rfl
  | some e => show some (rne s (rne s e)) = _; rw [rne_inv s hs]
theorem rne_cell (ad s : Nat → Nat) (hs : ∀ i, s (s i) = i) (tys : List (ClassId × FieldType)) (e : g_E) (y : va_E) : g_cell (ad ∘ s) tys (rne s e) y ↔ g_cell ad tys e y := by
  rcases e with ⟨ty, x⟩ | ⟨c, fs⟩ <;> rcases y with y | y
  · show ((y.1, ty) ∈ tys ∧ y.2 = g_c (ad ∘ s) (g_c s x)) ↔ _
    rw [g_c_comp, show (ad ∘ s) ∘ s = ad by funext i; show ad (s (s i)) = ad i; rw [hs]]
    exact Iff.rfl
  · exact Iff.rfl
  · exact Iff.rfl
  · show (y.1 = c ∧ y.2 = (fs.map (rnv s)).map (g_v (ad ∘ s))) ↔ (y.1 = c ∧ y.2 = fs.map (g_v ad))
    rw [List.map_map, show (g_v (ad ∘ s) ∘ rnv s) = g_v ad from funext (rnv_g ad s hs)]
