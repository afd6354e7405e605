theorem rnv_g2 (ad s : Nat → Nat) (v : Value) : g_v ad (rnv s v) = g_v (ad ∘ s) v := by cases v <;> rfl
theorem comp_ss {s : Nat → Nat} (hs : ∀ i, s (s i) = i) (ad : Nat → Nat) : (ad ∘ s) ∘ s = ad := by
  funext i; show ad (s (s i)) = ad i; rw [hs]
theorem g_inv_rn2 {s : Nat → Nat} (hs : ∀ i, s (s i) = i) {sc : g_S} (h0 : s sc.1 = sc.1) {D : va_G} {base : Nat} {ad : Nat → Nat} {h : g_H} {S : State} {H : Heap} : g_inv D base sc ad (rnh s h) S H ↔ g_inv D base sc (ad ∘ s) h S H := by
  constructor
  · intro x
    have := g_inv_rn hs h0 x
    rw [rnh_inv s hs] at this
    exact this
  · intro x
    have := g_inv_rn hs h0 x
    rw [comp_ss hs] at this
    exact this
theorem g_P_rn {s : Nat → Nat} (hs : ∀ i, s (s i) = i) {sc : g_S} (h0 : s sc.1 = sc.1) (D : va_G) (base : Nat) (ad : Nat → Nat) (h : g_H) (args : List Value) : g_P D base sc ad (rnh s h) (args.map (rnv s)) = g_P D base sc (ad ∘ s) h args := by
  funext v U
  apply propext
  have e1 : (args.map (rnv s)).map (g_v ad) = args.map (g_v (ad ∘ s)) := by
    rw [List.map_map]
    exact List.map_congr_left (fun v _ => rnv_g2 ad s v)
  have e2 : g_scr base sc ad U ↔ g_scr base sc (ad ∘ s) U := by
    unfold g_scr
    rw [show (ad ∘ s) sc.1 = ad sc.1 by show ad (s sc.1) = _; rw [h0]]
  have e3 : (∀ v ∈ args.map (rnv s), g_live sc (rnh s h) v) ↔ ∀ v ∈ args, g_live sc h v := by
    constructor
    · intro x v hv
      have := g_live_rn hs h0 (x _ (List.mem_map.mpr ⟨v, hv, rfl⟩))
      rw [rnh_inv s hs, rnv_inv s hs] at this
      exact this
    · intro x v hv
      obtain ⟨v0, h1, rfl⟩ := List.mem_map.mp hv
      exact g_live_rn hs h0 (x v0 h1)
  unfold g_P
  rw [e1, g_inv_rn2 hs h0, e2, e3]
def rnP (s : Nat → Nat) (Post : Option Value → g_H → Prop) : Option Value → g_H → Prop := fun v h => Post (v.map (rnv s)) (rnh s h)
theorem rnP_inv {s : Nat → Nat} (hs : ∀ i, s (s i) = i) (Post : Option Value → g_H → Prop) : rnP s (rnP s Post) = Post := by
  funext v h
  show Post ((v.map (rnv s)).map (rnv s)) (rnh s (rnh s h)) = Post v h
  rw [rnh_inv s hs]
  cases v with
  | none => rfl
  | some v => show Post (some (rnv s (rnv s v))) h = _; rw [rnv_inv s hs]
theorem g_Q_rn1 {s : Nat → Nat} (hs : ∀ i, s (s i) = i) {sc : g_S} (h0 : s sc.1 = sc.1) {D : va_G} {base : Nat} {ad : Nat → Nat} {h : g_H} {Post : Option Value → g_H → Prop} {a : Array Value} {st : State} {o : Outcome} {t : State} (x : g_Q D base sc ad h Post a st o t) : g_Q D base sc (ad ∘ s) (rnh s h) (rnP s Post) a st o t := by
  obtain ⟨⟨v, hp', ad', h1, h2, h3, h4, h5⟩, h6⟩ := x
  refine ⟨⟨v.map (rnv s), rnh s hp', ad' ∘ s, ?_, ?_, g_ext_rn h0 h3, g_inv_rn hs h0 h4, fun w hw => ?_⟩, h6⟩
  · rw [h1]
    cases v with
    | none => rfl
    | some v =>
      show Outcome.returned (some (g_v ad' v)) = Outcome.returned (some (g_v (ad' ∘ s) (rnv s v)))
      rw [rnv_g ad' s hs]
  · show rnP s (rnP s Post) v hp'
    rw [rnP_inv hs]
    exact h2
  · cases v with
    | none => cases hw
    | some v =>
      have hw : some (rnv s v) = some w := hw
      injection hw with hw
      rw [← hw]
      exact g_live_rn hs h0 (h5 v rfl)
theorem g_Q_rn {s : Nat → Nat} (hs : ∀ i, s (s i) = i) {sc : g_S} (h0 : s sc.1 = sc.1) (D : va_G) (base : Nat) (ad : Nat → Nat) (h : g_H) (Post : Option Value → g_H → Prop) : g_Q D base sc ad (rnh s h) (rnP s Post) = g_Q D base sc (ad ∘ s) h Post := by
  funext a st o t
  apply propext
  constructor
  · intro x
    have := g_Q_rn1 hs h0 x
    rw [rnh_inv s hs, rnP_inv hs] at this
    exact this
  · intro x
    have := g_Q_rn1 hs h0 x
    rw [comp_ss hs] at this
    exact this
/-- a method does the same by other numbers -/
theorem AMet_rn {s : Nat → Nat} (hs : ∀ i, s (s i) = i) {l : Launch} {sc : g_S} (h0 : s sc.1 = sc.1) {y : MethodName} {cc : ByteArray} {nL : Nat} {ret : Option FieldType} {d mc ms : Nat} {args : List Value} {hp : g_H} {Post : Option Value → g_H → Prop} (A : AMet l sc y cc nL ret d mc ms args hp Post) : AMet l sc y cc nL ret d mc ms (args.map (rnv s)) (rnh s hp) (rnP s Post) := by
  intro D base ad
  rw [g_P_rn hs h0, g_Q_rn hs h0]
  exact A D base (ad ∘ s)
