/-! the array of four arrays of 24 numbers -/
def newM (hp : g_H) (q : Nat) : g_H := g_up (g_up (g_up (g_up (g_up hp q (.inl (.array .int, (4, .inr (.inr (.inr (.inr fun j => if j < 4 then some (q + 1 + j) else none))))))) (q + 1) (.inl (.int, (24, .inl fun _ => 0)))) (q + 1 + 1) (.inl (.int, (24, .inl fun _ => 0)))) (q + 1 + 1 + 1) (.inl (.int, (24, .inl fun _ => 0)))) (q + 1 + 1 + 1 + 1) (.inl (.int, (24, .inl fun _ => 0)))
section SM
variable {l : Launch} {D : va_G} {base : Nat} {sc : g_S} {own : String} {y : MethodName} {cc : ByteArray} {nL : Nat} {ret : Option FieldType} {d mc ms : Nat} {ad0 : Nat → Nat} {hp0 hp : g_H} {Post : Option Value → g_H → Prop} {k n : Nat} {pc : Nat} {L : List (Nat × Value)} {st : List Value}
theorem aw_newM (q a0 : Nat) (x0 : vp_A) {idx : Nat} (hI : hp a0 = some (.inl (.int, x0))) (hq : ∀ i, i < 5 → hp (q + i) = none) (hqs : sc.1 < q) (hw : Cond.classLink own idx "[[I" ∈ g_T) (hcells : k + 5 ≤ mc) (hslots : n + 100 ≤ ms) (hd : decode cc pc = .ok (.multianewarray idx 2, 4)) (kk : AW l D base sc own y cc nL ret d mc ms ad0 hp0 Post (k + 5) (n + 100) (newM hp q) (pc + 4) L (.ref q :: st)) : AW l D base sc own y cc nL ret d mc ms ad0 hp0 Post k n hp pc L (.int 24 :: .int 4 :: st) := by
  sorry
end SM
