/-! constructors: a memory of zeros; a heap that shows a memory from lo to hi -/
def mz : Mem := (fun _ _ => 0, fun _ _ => 0, [])
def ovl (lo hi : Nat) (m : Mem) (h : g_H) : g_H := fun id => if lo ≤ id ∧ id < hi then cel m id else h id
theorem mz_0 (a i : Nat) : mGet mz a i = 0 := w32_id (x := 0) (by decide) (by decide)
theorem cel_zI {m : Mem} {k n : Nat} (h : sKind m k = (1, n)) (h0 : ∀ j, mGet m k j = 0) : cel m k = some (.inl (.int, (n, .inl fun _ => 0))) := by
  rw [cel_int (by rw [h]), h]
  refine congrArg (fun f => some (Sum.inl (FieldType.int, (n, Sum.inl f)))) (funext fun j => ?_)
  rw [h0]; rfl
theorem cel_zB {m : Mem} {k n : Nat} (h : sKind m k = (3, n)) (h0 : ∀ j, mGet m k j = 0) : cel m k = some (.inl (.byte, (n, .inl fun _ => 0))) := by
  rw [cel_byte (by rw [h]), h]
  refine congrArg (fun f => some (Sum.inl (FieldType.byte, (n, Sum.inl f)))) (funext fun j => ?_)
  rw [h0]; rfl
theorem cel_zZ {m : Mem} {k n : Nat} (h : sKind m k = (4, n)) (h0 : ∀ j, mGet m k j = 0) : cel m k = some (.inl (.boolean, (n, .inl fun _ => 0))) := by
  rw [cel_bool (by rw [h]), h]
  refine congrArg (fun f => some (Sum.inl (FieldType.boolean, (n, Sum.inl f)))) (funext fun j => ?_)
  rw [h0]; rfl
theorem cel_zJ {m : Mem} {k n : Nat} (h : sKind m k = (2, n)) (h0 : ∀ j, lGet m k j = 0) : cel m k = some (.inl (.long, (n, .inr (.inl fun _ => 0)))) := by
  rw [cel_long (by rw [h]), h]
  refine congrArg (fun f => some (Sum.inl (FieldType.long, (n, Sum.inr (Sum.inl f))))) (funext fun j => ?_)
  rw [h0]; rfl
theorem cel_zQ {m : Mem} {k n : Nat} (h : sKind m k = (5, n)) (h0 : ∀ j, mGet m k j = 0) : cel m k = some (.inl (.object "UppityGames$Game", (n, .inr (.inr (.inr (.inr fun _ => none)))))) := by
  rw [cel_game (by rw [h]), h]
  refine congrArg (fun f => some (Sum.inl (FieldType.object "UppityGames$Game", (n, Sum.inr (Sum.inr (Sum.inr (Sum.inr f))))))) (funext fun j => ?_)
  rw [h0]; rfl
theorem g_up_up (h : g_H) (o : Nat) (a b : g_E) : g_up (g_up h o a) o b = g_up h o b := by
  funext j
  by_cases hj : j = o
  · subst hj; rw [g_up_self, g_up_self]
  · rw [g_up_ne _ _ hj, g_up_ne _ _ hj, g_up_ne _ _ hj]
theorem g_up_id {h : g_H} {o : Nat} {a : g_E} (ha : h o = some a) : h = g_up h o a := by
  funext j
  by_cases hj : j = o
  · subst hj; rw [g_up_self, ha]
  · rw [g_up_ne _ _ hj]
theorem ovl_nil (a : Nat) (m : Mem) (h : g_H) : ovl a a m h = h := funext fun j => if_neg (by omega)
theorem ovl_out {lo hi : Nat} {m : Mem} {h : g_H} {q : Nat} (hq : ¬ (lo ≤ q ∧ q < hi)) : ovl lo hi m h q = h q := if_neg hq
theorem ovl_in {lo hi : Nat} {m : Mem} {h : g_H} {q : Nat} (h1 : lo ≤ q) (h2 : q < hi) : ovl lo hi m h q = cel m q := if_pos ⟨h1, h2⟩
theorem ov_fresh {lo k o : Nat} {m : Mem} {h : g_H} {c : g_E} (ho : k ≠ o) (hf : h k = none) : g_up (ovl lo k m h) o c k = none := by
  rw [g_up_ne _ _ ho, ovl_out (by omega), hf]
theorem ov_new {lo k o : Nat} {m : Mem} {h : g_H} {c0 e : g_E} (hlo : lo ≤ k) (ho : k ≠ o) (hc : cel m k = some e) : g_up (g_up (ovl lo k m h) o c0) k e = g_up (ovl lo (k + 1) m h) o c0 := by
  funext j
  by_cases h1 : j = k
  · subst h1
    rw [g_up_self, g_up_ne _ _ ho, ovl_in hlo (Nat.lt_succ_self _), hc]
  · rw [g_up_ne _ _ h1]
    by_cases h2 : j = o
    · subst h2; rw [g_up_self, g_up_self]
    · rw [g_up_ne _ _ h2, g_up_ne _ _ h2]
      unfold ovl
      by_cases h3 : lo ≤ j ∧ j < k
      · rw [if_pos h3, if_pos ⟨h3.1, by omega⟩]
      · rw [if_neg h3, if_neg (by omega)]
theorem ov_end {o hi : Nat} {m : Mem} {h : g_H} {e : g_E} (ho : o < hi) (hc : cel m o = some e) : g_up (ovl (o + 1) hi m h) o e = ovl o hi m h := by
  funext j
  by_cases h1 : j = o
  · subst h1; rw [g_up_self, ovl_in (Nat.le_refl _) ho, hc]
  · rw [g_up_ne _ _ h1]
    unfold ovl
    by_cases h3 : o + 1 ≤ j ∧ j < hi
    · rw [if_pos h3, if_pos ⟨by omega, h3.2⟩]
    · rw [if_neg h3, if_neg (by omega)]
/-- what is built so far: from 4 on below hi, and the new cells -/
def ovS (hi : Nat) (m : Mem) (h : g_H) : g_H := fun id => if (4 ≤ id ∧ id < hi) ∨ 1000 ≤ id then cel m id else h id
def mg (lo hi : Nat) (m1 m : Mem) : Mem := (fun a j => if lo ≤ a ∧ a < hi then m1.1 a j else m.1 a j, fun a j => if lo ≤ a ∧ a < hi then m1.2.1 a j else m.2.1 a j, m.2.2)
theorem LE_ovS (hi : Nat) (h : g_H) : LE (fun m => ovS hi m h) (fun q => (4 ≤ q ∧ q < hi) ∨ 1000 ≤ q) := ⟨fun m id hr => if_pos hr, fun m m' id hr => by
  show ovS hi m h id = ovS hi m' h id
  unfold ovS
  rw [if_neg hr, if_neg hr]⟩
theorem mGet_mg (lo hi : Nat) (m1 m : Mem) (a j : Nat) : mGet (mg lo hi m1 m) a j = if lo ≤ a ∧ a < hi then mGet m1 a j else mGet m a j := by
  unfold mGet mg
  show w32 (if lo ≤ a ∧ a < hi then m1.1 a j else m.1 a j) = _
  by_cases h : lo ≤ a ∧ a < hi
  · rw [if_pos h, if_pos h]
  · rw [if_neg h, if_neg h]
theorem lGet_mg (lo hi : Nat) (m1 m : Mem) (a j : Nat) : lGet (mg lo hi m1 m) a j = if lo ≤ a ∧ a < hi then lGet m1 a j else lGet m a j := by
  unfold lGet mg
  show (if lo ≤ a ∧ a < hi then m1.2.1 a j else m.2.1 a j) % 18446744073709551616 = _
  by_cases h : lo ≤ a ∧ a < hi
  · rw [if_pos h, if_pos h]
  · rw [if_neg h, if_neg h]
theorem sKind_mg (lo hi : Nat) (m1 m : Mem) (a : Nat) : sKind (mg lo hi m1 m) a = sKind m a := rfl
theorem sKind_st {m m' : Mem} {a : Nat} (h : a < 1000) : sKind m' a = sKind m a := by
  unfold sKind
  rw [if_pos h, if_pos h]
theorem ovS_ovl {hi hi2 : Nat} {m m1 : Mem} {h : g_H} (h1 : 4 ≤ hi) (h2 : hi2 ≤ 1000) (h3 : hi ≤ hi2) : ovl hi hi2 m1 (ovS hi m h) = ovS hi2 (mg hi hi2 m1 m) h := by
  funext j
  unfold ovl ovS
  by_cases q1 : hi ≤ j ∧ j < hi2
  · rw [if_pos q1, if_pos (Or.inl ⟨by omega, q1.2⟩)]
    exact (cel_ext (m := m1) (m' := mg hi hi2 m1 m) (sKind_st (by omega)) (fun i => by rw [mGet_mg, if_pos q1]) (fun i => by rw [lGet_mg, if_pos q1])).symm
  · rw [if_neg q1]
    by_cases q2 : (4 ≤ j ∧ j < hi) ∨ 1000 ≤ j
    · rw [if_pos q2, if_pos (by omega)]
      exact (cel_ext (m := m) (m' := mg hi hi2 m1 m) (sKind_mg hi hi2 m1 m j) (fun i => by rw [mGet_mg, if_neg q1]) (fun i => by rw [lGet_mg, if_neg q1])).symm
    · rw [if_neg q2, if_neg (by omega)]
theorem ovS_up {hi q : Nat} {m : Mem} {h : g_H} {c : g_E} (hq : ¬ ((4 ≤ q ∧ q < hi) ∨ 1000 ≤ q)) : g_up (ovS hi m h) q c = ovS hi m (g_up h q c) := by
  funext j
  by_cases hj : j = q
  · subst hj
    rw [g_up_self]
    unfold ovS
    rw [if_neg hq, g_up_self]
  · rw [g_up_ne _ _ hj]
    unfold ovS
    by_cases q2 : (4 ≤ j ∧ j < hi) ∨ 1000 ≤ j
    · rw [if_pos q2, if_pos q2]
    · rw [if_neg q2, if_neg q2, g_up_ne _ _ hj]
theorem ovS_base {hi : Nat} {m : Mem} {h h' : g_H} (hb : ∀ id, ¬ ((4 ≤ id ∧ id < hi) ∨ 1000 ≤ id) → h id = h' id) : ovS hi m h = ovS hi m h' := by
  funext j
  unfold ovS
  by_cases q2 : (4 ≤ j ∧ j < hi) ∨ 1000 ≤ j
  · rw [if_pos q2, if_pos q2]
  · rw [if_neg q2, if_neg q2, hb j q2]
theorem ovS_drop {hi q : Nat} {m : Mem} {h : g_H} {c : g_E} (h4 : 4 ≤ q) (hq : q < hi) : ovS hi m (g_up h q c) = ovS hi m h := ovS_base (fun id hid => g_up_ne _ _ (fun e => hid (Or.inl (by omega))))
theorem ovS_at {hi q : Nat} {m : Mem} {h : g_H} (hq : ¬ ((4 ≤ q ∧ q < hi) ∨ 1000 ≤ q)) : ovS hi m h q = h q := if_neg hq
section SC
variable {l : Launch} {D : va_G} {base : Nat} {sc : g_S} {own : String} {y : MethodName} {cc : ByteArray} {nL : Nat} {ret : Option FieldType} {d mc ms : Nat} {ad0 : Nat → Nat} {hp0 hp : g_H} {Post : Option Value → g_H → Prop} {k n : Nat} {pc : Nat} {L : List (Nat × Value)} {st : List Value} {E : Mem → g_H} {R : Nat → Prop} {m : Mem} {r : Rz}
theorem cx_ptGs {idx a c kf : Nat} {v : Nat} {K : Mem → Option Rz} (ty : Nat → FieldType) (hE : LE E R) (hr : R a) (hF : g_flo own idx c kf) (hty : ∀ r, vwCl[c]? = some r → g_tys r ty ∧ (r.2.1 kf).2.2.2 = true) (hin2 : y.name = "<init>") (hdecl : ∀ r, vwCl[c]? = some r → r.1 = own) (hfit : ∀ u, Jvm.fits (ty kf) (rv u) = true) (hk : (sKind m a).1 = c + 10) (hs : fSpec c kf = 1) (hn : kf < nFld c) (hd : decode cc pc = .ok (.putfield idx, 3)) (H : ptG m a kf v K = some r) (kk : ∀ m', K m' = some r → AW l D base sc own y cc nL ret d mc ms ad0 hp0 Post k n (E m') (pc + 3) L st) : AW l D base sc own y cc nL ret d mc ms ad0 hp0 Post k n (E m) pc L (rv v :: .ref a :: st) := by
  obtain ⟨h4, H⟩ := chk H
  refine aw_putF ty hF hty hin2 hdecl ((hE.1 m a hr).trans (cel_obj hk)) (rv_narrow _ _) (hfit v) (by rw [flds_len]; exact hn) hd ?_
  refine AW.eqh (hE.up hr ?_ (fun j hj => cel_mSet hj)) (kk _ H)
  rw [cel_obj (m := mSet m a kf (v : Int)) hk]
  congr 3
  refine (flds_set hn ?_).symm
  unfold fVal
  rw [hs, mGet_mSet, if_pos ⟨rfl, rfl⟩, orf_nat h4]
end SC

theorem dX9_init_0 : decode cX9_init 0 = .ok (.aload_n 0, 1) := by decide +kernel
theorem dX9_init_1 : decode cX9_init 1 = .ok (.invokespecial 3, 3) := by decide +kernel
theorem dX9_init_4 : decode cX9_init 4 = .ok (.aload_n 0, 1) := by decide +kernel
theorem dX9_init_5 : decode cX9_init 5 = .ok (.sipush 1024, 3) := by decide +kernel
theorem dX9_init_8 : decode cX9_init 8 = .ok (.newarray .long, 2) := by decide +kernel
theorem dX9_init_10 : decode cX9_init 10 = .ok (.putfield 9, 3) := by decide +kernel
theorem dX9_init_13 : decode cX9_init 13 = .ok (.aload_n 0, 1) := by decide +kernel
theorem dX9_init_14 : decode cX9_init 14 = .ok (.sipush 1024, 3) := by decide +kernel
theorem dX9_init_17 : decode cX9_init 17 = .ok (.newarray .long, 2) := by decide +kernel
theorem dX9_init_19 : decode cX9_init 19 = .ok (.putfield 13, 3) := by decide +kernel
theorem dX9_init_22 : decode cX9_init 22 = .ok (.aload_n 0, 1) := by decide +kernel
theorem dX9_init_23 : decode cX9_init 23 = .ok (.sipush 1024, 3) := by decide +kernel
theorem dX9_init_26 : decode cX9_init 26 = .ok (.newarray .long, 2) := by decide +kernel
theorem dX9_init_28 : decode cX9_init 28 = .ok (.putfield 16, 3) := by decide +kernel
theorem dX9_init_31 : decode cX9_init 31 = .ok (.aload_n 0, 1) := by decide +kernel
theorem dX9_init_32 : decode cX9_init 32 = .ok (.sipush 1024, 3) := by decide +kernel
theorem dX9_init_35 : decode cX9_init 35 = .ok (.newarray .long, 2) := by decide +kernel
theorem dX9_init_37 : decode cX9_init 37 = .ok (.putfield 19, 3) := by decide +kernel
theorem dX9_init_40 : decode cX9_init 40 = .ok (.aload_n 0, 1) := by decide +kernel
theorem dX9_init_41 : decode cX9_init 41 = .ok (.sipush 256, 3) := by decide +kernel
theorem dX9_init_44 : decode cX9_init 44 = .ok (.newarray .int, 2) := by decide +kernel
theorem dX9_init_46 : decode cX9_init 46 = .ok (.putfield 22, 3) := by decide +kernel
theorem dX9_init_49 : decode cX9_init 49 = .ok (.aload_n 0, 1) := by decide +kernel
theorem dX9_init_50 : decode cX9_init 50 = .ok (.sipush 256, 3) := by decide +kernel
theorem dX9_init_53 : decode cX9_init 53 = .ok (.newarray .int, 2) := by decide +kernel
theorem dX9_init_55 : decode cX9_init 55 = .ok (.putfield 26, 3) := by decide +kernel
theorem dX9_init_58 : decode cX9_init 58 = .ok (.aload_n 0, 1) := by decide +kernel
theorem dX9_init_59 : decode cX9_init 59 = .ok (.iconst 4, 1) := by decide +kernel
theorem dX9_init_60 : decode cX9_init 60 = .ok (.newarray .long, 2) := by decide +kernel
theorem dX9_init_62 : decode cX9_init 62 = .ok (.putfield 29, 3) := by decide +kernel
theorem dX9_init_65 : decode cX9_init 65 = .ok (.aload_n 0, 1) := by decide +kernel
theorem dX9_init_66 : decode cX9_init 66 = .ok (.iconst 4, 1) := by decide +kernel
theorem dX9_init_67 : decode cX9_init 67 = .ok (.newarray .long, 2) := by decide +kernel
theorem dX9_init_69 : decode cX9_init 69 = .ok (.putfield 32, 3) := by decide +kernel
theorem dX9_init_72 : decode cX9_init 72 = .ok (.aload_n 0, 1) := by decide +kernel
theorem dX9_init_73 : decode cX9_init 73 = .ok (.iconst 4, 1) := by decide +kernel
theorem dX9_init_74 : decode cX9_init 74 = .ok (.newarray .long, 2) := by decide +kernel
theorem dX9_init_76 : decode cX9_init 76 = .ok (.putfield 35, 3) := by decide +kernel
theorem dX9_init_79 : decode cX9_init 79 = .ok (.aload_n 0, 1) := by decide +kernel
theorem dX9_init_80 : decode cX9_init 80 = .ok (.iconst 4, 1) := by decide +kernel
theorem dX9_init_81 : decode cX9_init 81 = .ok (.newarray .long, 2) := by decide +kernel
theorem dX9_init_83 : decode cX9_init 83 = .ok (.putfield 38, 3) := by decide +kernel
theorem dX9_init_86 : decode cX9_init 86 = .ok (.aload_n 0, 1) := by decide +kernel
theorem dX9_init_87 : decode cX9_init 87 = .ok (.iconst 4, 1) := by decide +kernel
theorem dX9_init_88 : decode cX9_init 88 = .ok (.newarray .long, 2) := by decide +kernel
theorem dX9_init_90 : decode cX9_init 90 = .ok (.putfield 41, 3) := by decide +kernel
theorem dX9_init_93 : decode cX9_init 93 = .ok (.aload_n 0, 1) := by decide +kernel
theorem dX9_init_94 : decode cX9_init 94 = .ok (.iconst 4, 1) := by decide +kernel
theorem dX9_init_95 : decode cX9_init 95 = .ok (.newarray .long, 2) := by decide +kernel
theorem dX9_init_97 : decode cX9_init 97 = .ok (.putfield 44, 3) := by decide +kernel
theorem dX9_init_100 : decode cX9_init 100 = .ok (.aload_n 0, 1) := by decide +kernel
theorem dX9_init_101 : decode cX9_init 101 = .ok (.iconst 4, 1) := by decide +kernel
theorem dX9_init_102 : decode cX9_init 102 = .ok (.newarray .long, 2) := by decide +kernel
theorem dX9_init_104 : decode cX9_init 104 = .ok (.putfield 47, 3) := by decide +kernel
theorem dX9_init_107 : decode cX9_init 107 = .ok (.return_, 1) := by decide +kernel
theorem dX4_init_0 : decode cX4_init 0 = .ok (.aload_n 0, 1) := by decide +kernel
theorem dX4_init_1 : decode cX4_init 1 = .ok (.invokespecial 3, 3) := by decide +kernel
theorem dX4_init_4 : decode cX4_init 4 = .ok (.aload_n 0, 1) := by decide +kernel
theorem dX4_init_5 : decode cX4_init 5 = .ok (.bipush 10, 2) := by decide +kernel
theorem dX4_init_7 : decode cX4_init 7 = .ok (.newarray .int, 2) := by decide +kernel
theorem dX4_init_9 : decode cX4_init 9 = .ok (.putfield 9, 3) := by decide +kernel
theorem dX4_init_12 : decode cX4_init 12 = .ok (.aload_n 0, 1) := by decide +kernel
theorem dX4_init_13 : decode cX4_init 13 = .ok (.bipush 10, 2) := by decide +kernel
theorem dX4_init_15 : decode cX4_init 15 = .ok (.newarray .int, 2) := by decide +kernel
theorem dX4_init_17 : decode cX4_init 17 = .ok (.putfield 15, 3) := by decide +kernel
theorem dX4_init_20 : decode cX4_init 20 = .ok (.aload_n 0, 1) := by decide +kernel
theorem dX4_init_21 : decode cX4_init 21 = .ok (.bipush 10, 2) := by decide +kernel
theorem dX4_init_23 : decode cX4_init 23 = .ok (.newarray .int, 2) := by decide +kernel
theorem dX4_init_25 : decode cX4_init 25 = .ok (.putfield 18, 3) := by decide +kernel
theorem dX4_init_28 : decode cX4_init 28 = .ok (.aload_n 0, 1) := by decide +kernel
theorem dX4_init_29 : decode cX4_init 29 = .ok (.bipush 10, 2) := by decide +kernel
theorem dX4_init_31 : decode cX4_init 31 = .ok (.newarray .int, 2) := by decide +kernel
theorem dX4_init_33 : decode cX4_init 33 = .ok (.putfield 21, 3) := by decide +kernel
theorem dX4_init_36 : decode cX4_init 36 = .ok (.aload_n 0, 1) := by decide +kernel
theorem dX4_init_37 : decode cX4_init 37 = .ok (.bipush 10, 2) := by decide +kernel
theorem dX4_init_39 : decode cX4_init 39 = .ok (.newarray .int, 2) := by decide +kernel
theorem dX4_init_41 : decode cX4_init 41 = .ok (.putfield 24, 3) := by decide +kernel
theorem dX4_init_44 : decode cX4_init 44 = .ok (.aload_n 0, 1) := by decide +kernel
theorem dX4_init_45 : decode cX4_init 45 = .ok (.bipush 10, 2) := by decide +kernel
theorem dX4_init_47 : decode cX4_init 47 = .ok (.newarray .int, 2) := by decide +kernel
theorem dX4_init_49 : decode cX4_init 49 = .ok (.putfield 27, 3) := by decide +kernel
theorem dX4_init_52 : decode cX4_init 52 = .ok (.aload_n 0, 1) := by decide +kernel
theorem dX4_init_53 : decode cX4_init 53 = .ok (.bipush 10, 2) := by decide +kernel
theorem dX4_init_55 : decode cX4_init 55 = .ok (.newarray .int, 2) := by decide +kernel
theorem dX4_init_57 : decode cX4_init 57 = .ok (.putfield 30, 3) := by decide +kernel
theorem dX4_init_60 : decode cX4_init 60 = .ok (.aload_n 0, 1) := by decide +kernel
theorem dX4_init_61 : decode cX4_init 61 = .ok (.bipush 10, 2) := by decide +kernel
theorem dX4_init_63 : decode cX4_init 63 = .ok (.newarray .int, 2) := by decide +kernel
theorem dX4_init_65 : decode cX4_init 65 = .ok (.putfield 33, 3) := by decide +kernel
theorem dX4_init_68 : decode cX4_init 68 = .ok (.aload_n 0, 1) := by decide +kernel
theorem dX4_init_69 : decode cX4_init 69 = .ok (.sipush 1000, 3) := by decide +kernel
theorem dX4_init_72 : decode cX4_init 72 = .ok (.newarray .byte, 2) := by decide +kernel
theorem dX4_init_74 : decode cX4_init 74 = .ok (.putfield 36, 3) := by decide +kernel
theorem dX4_init_77 : decode cX4_init 77 = .ok (.aload_n 0, 1) := by decide +kernel
theorem dX4_init_78 : decode cX4_init 78 = .ok (.aload_n 1, 1) := by decide +kernel
theorem dX4_init_79 : decode cX4_init 79 = .ok (.putfield 40, 3) := by decide +kernel
theorem dX4_init_82 : decode cX4_init 82 = .ok (.return_, 1) := by decide +kernel
theorem dX0_init_0 : decode cX0_init 0 = .ok (.aload_n 0, 1) := by decide +kernel
theorem dX0_init_1 : decode cX0_init 1 = .ok (.invokespecial 3, 3) := by decide +kernel
theorem dX0_init_4 : decode cX0_init 4 = .ok (.aload_n 0, 1) := by decide +kernel
theorem dX0_init_5 : decode cX0_init 5 = .ok (.bipush 11, 2) := by decide +kernel
theorem dX0_init_7 : decode cX0_init 7 = .ok (.newarray .int, 2) := by decide +kernel
theorem dX0_init_9 : decode cX0_init 9 = .ok (.putfield 11, 3) := by decide +kernel
theorem dX0_init_12 : decode cX0_init 12 = .ok (.aload_n 0, 1) := by decide +kernel
theorem dX0_init_13 : decode cX0_init 13 = .ok (.bipush 11, 2) := by decide +kernel
theorem dX0_init_15 : decode cX0_init 15 = .ok (.newarray .int, 2) := by decide +kernel
theorem dX0_init_17 : decode cX0_init 17 = .ok (.putfield 15, 3) := by decide +kernel
theorem dX0_init_20 : decode cX0_init 20 = .ok (.return_, 1) := by decide +kernel
theorem dX3_init_0 : decode cX3_init 0 = .ok (.aload_n 0, 1) := by decide +kernel
theorem dX3_init_1 : decode cX3_init 1 = .ok (.invokespecial 1, 3) := by decide +kernel
theorem dX3_init_4 : decode cX3_init 4 = .ok (.aload_n 0, 1) := by decide +kernel
theorem dX3_init_5 : decode cX3_init 5 = .ok (.bipush 67, 2) := by decide +kernel
theorem dX3_init_7 : decode cX3_init 7 = .ok (.anewarray 9, 3) := by decide +kernel
theorem dX3_init_10 : decode cX3_init 10 = .ok (.putfield 11, 3) := by decide +kernel
theorem dX3_init_13 : decode cX3_init 13 = .ok (.aload_n 0, 1) := by decide +kernel
theorem dX3_init_14 : decode cX3_init 14 = .ok (.aload_n 1, 1) := by decide +kernel
theorem dX3_init_15 : decode cX3_init 15 = .ok (.putfield 15, 3) := by decide +kernel
theorem dX3_init_18 : decode cX3_init 18 = .ok (.aload_n 0, 1) := by decide +kernel
theorem dX3_init_19 : decode cX3_init 19 = .ok (.aload_n 2, 1) := by decide +kernel
theorem dX3_init_20 : decode cX3_init 20 = .ok (.putfield 19, 3) := by decide +kernel
theorem dX3_init_23 : decode cX3_init 23 = .ok (.return_, 1) := by decide +kernel
theorem dX7_init_0 : decode cX7_init 0 = .ok (.aload_n 0, 1) := by decide +kernel
theorem dX7_init_1 : decode cX7_init 1 = .ok (.invokespecial 1, 3) := by decide +kernel
theorem dX7_init_4 : decode cX7_init 4 = .ok (.aload_n 0, 1) := by decide +kernel
theorem dX7_init_5 : decode cX7_init 5 = .ok (.bipush 120, 2) := by decide +kernel
theorem dX7_init_7 : decode cX7_init 7 = .ok (.newarray .byte, 2) := by decide +kernel
theorem dX7_init_9 : decode cX7_init 9 = .ok (.putfield 9, 3) := by decide +kernel
theorem dX7_init_12 : decode cX7_init 12 = .ok (.aload_n 0, 1) := by decide +kernel
theorem dX7_init_13 : decode cX7_init 13 = .ok (.bipush 120, 2) := by decide +kernel
theorem dX7_init_15 : decode cX7_init 15 = .ok (.newarray .int, 2) := by decide +kernel
theorem dX7_init_17 : decode cX7_init 17 = .ok (.putfield 13, 3) := by decide +kernel
theorem dX7_init_20 : decode cX7_init 20 = .ok (.aload_n 0, 1) := by decide +kernel
theorem dX7_init_21 : decode cX7_init 21 = .ok (.bipush 120, 2) := by decide +kernel
theorem dX7_init_23 : decode cX7_init 23 = .ok (.anewarray 17, 3) := by decide +kernel
theorem dX7_init_26 : decode cX7_init 26 = .ok (.putfield 19, 3) := by decide +kernel
theorem dX7_init_29 : decode cX7_init 29 = .ok (.aload_n 0, 1) := by decide +kernel
theorem dX7_init_30 : decode cX7_init 30 = .ok (.aload_n 1, 1) := by decide +kernel
theorem dX7_init_31 : decode cX7_init 31 = .ok (.putfield 23, 3) := by decide +kernel
theorem dX7_init_34 : decode cX7_init 34 = .ok (.return_, 1) := by decide +kernel
theorem dX8_init_0 : decode cX8_init 0 = .ok (.aload_n 0, 1) := by decide +kernel
theorem dX8_init_1 : decode cX8_init 1 = .ok (.invokespecial 3, 3) := by decide +kernel
theorem dX8_init_4 : decode cX8_init 4 = .ok (.aload_n 0, 1) := by decide +kernel
theorem dX8_init_5 : decode cX8_init 5 = .ok (.bipush 10, 2) := by decide +kernel
theorem dX8_init_7 : decode cX8_init 7 = .ok (.newarray .int, 2) := by decide +kernel
theorem dX8_init_9 : decode cX8_init 9 = .ok (.putfield 9, 3) := by decide +kernel
theorem dX8_init_12 : decode cX8_init 12 = .ok (.aload_n 0, 1) := by decide +kernel
theorem dX8_init_13 : decode cX8_init 13 = .ok (.bipush 10, 2) := by decide +kernel
theorem dX8_init_15 : decode cX8_init 15 = .ok (.newarray .int, 2) := by decide +kernel
theorem dX8_init_17 : decode cX8_init 17 = .ok (.putfield 15, 3) := by decide +kernel
theorem dX8_init_20 : decode cX8_init 20 = .ok (.aload_n 0, 1) := by decide +kernel
theorem dX8_init_21 : decode cX8_init 21 = .ok (.aload_n 1, 1) := by decide +kernel
theorem dX8_init_22 : decode cX8_init 22 = .ok (.putfield 18, 3) := by decide +kernel
theorem dX8_init_25 : decode cX8_init 25 = .ok (.aload_n 0, 1) := by decide +kernel
theorem dX8_init_26 : decode cX8_init 26 = .ok (.aload_n 2, 1) := by decide +kernel
theorem dX8_init_27 : decode cX8_init 27 = .ok (.putfield 22, 3) := by decide +kernel
theorem dX8_init_30 : decode cX8_init 30 = .ok (.aload_n 0, 1) := by decide +kernel
theorem dX8_init_31 : decode cX8_init 31 = .ok (.aload_n 3, 1) := by decide +kernel
theorem dX8_init_32 : decode cX8_init 32 = .ok (.putfield 26, 3) := by decide +kernel
theorem dX8_init_35 : decode cX8_init 35 = .ok (.return_, 1) := by decide +kernel
theorem dX5_init_0 : decode cX5_init 0 = .ok (.aload_n 0, 1) := by decide +kernel
theorem dX5_init_1 : decode cX5_init 1 = .ok (.invokespecial 1, 3) := by decide +kernel
theorem dX5_init_4 : decode cX5_init 4 = .ok (.aload_n 0, 1) := by decide +kernel
theorem dX5_init_5 : decode cX5_init 5 = .ok (.iconst 4, 1) := by decide +kernel
theorem dX5_init_6 : decode cX5_init 6 = .ok (.bipush 24, 2) := by decide +kernel
theorem dX5_init_8 : decode cX5_init 8 = .ok (.multianewarray 9 2, 4) := by decide +kernel
theorem dX5_init_12 : decode cX5_init 12 = .ok (.putfield 11, 3) := by decide +kernel
theorem dX5_init_15 : decode cX5_init 15 = .ok (.aload_n 0, 1) := by decide +kernel
theorem dX5_init_16 : decode cX5_init 16 = .ok (.iconst 4, 1) := by decide +kernel
theorem dX5_init_17 : decode cX5_init 17 = .ok (.newarray .int, 2) := by decide +kernel
theorem dX5_init_19 : decode cX5_init 19 = .ok (.putfield 14, 3) := by decide +kernel
theorem dX5_init_22 : decode cX5_init 22 = .ok (.aload_n 0, 1) := by decide +kernel
theorem dX5_init_23 : decode cX5_init 23 = .ok (.iconst 4, 1) := by decide +kernel
theorem dX5_init_24 : decode cX5_init 24 = .ok (.newarray .int, 2) := by decide +kernel
theorem dX5_init_26 : decode cX5_init 26 = .ok (.putfield 18, 3) := by decide +kernel
theorem dX5_init_29 : decode cX5_init 29 = .ok (.return_, 1) := by decide +kernel
theorem dX2_init_0 : decode cX2_init 0 = .ok (.aload_n 0, 1) := by decide +kernel
theorem dX2_init_1 : decode cX2_init 1 = .ok (.invokespecial 3, 3) := by decide +kernel
theorem dX2_init_4 : decode cX2_init 4 = .ok (.aload_n 0, 1) := by decide +kernel
theorem dX2_init_5 : decode cX2_init 5 = .ok (.bipush 11, 2) := by decide +kernel
theorem dX2_init_7 : decode cX2_init 7 = .ok (.newarray .int, 2) := by decide +kernel
theorem dX2_init_9 : decode cX2_init 9 = .ok (.putfield 11, 3) := by decide +kernel
theorem dX2_init_12 : decode cX2_init 12 = .ok (.aload_n 0, 1) := by decide +kernel
theorem dX2_init_13 : decode cX2_init 13 = .ok (.bipush 121, 2) := by decide +kernel
theorem dX2_init_15 : decode cX2_init 15 = .ok (.newarray .int, 2) := by decide +kernel
theorem dX2_init_17 : decode cX2_init 17 = .ok (.putfield 15, 3) := by decide +kernel
theorem dX2_init_20 : decode cX2_init 20 = .ok (.aload_n 0, 1) := by decide +kernel
theorem dX2_init_21 : decode cX2_init 21 = .ok (.bipush 16, 2) := by decide +kernel
theorem dX2_init_23 : decode cX2_init 23 = .ok (.newarray .int, 2) := by decide +kernel
theorem dX2_init_25 : decode cX2_init 25 = .ok (.putfield 18, 3) := by decide +kernel
theorem dX2_init_28 : decode cX2_init 28 = .ok (.aload_n 0, 1) := by decide +kernel
theorem dX2_init_29 : decode cX2_init 29 = .ok (.bipush 120, 2) := by decide +kernel
theorem dX2_init_31 : decode cX2_init 31 = .ok (.newarray .int, 2) := by decide +kernel
theorem dX2_init_33 : decode cX2_init 33 = .ok (.putfield 23, 3) := by decide +kernel
theorem dX2_init_36 : decode cX2_init 36 = .ok (.aload_n 0, 1) := by decide +kernel
theorem dX2_init_37 : decode cX2_init 37 = .ok (.aload_n 1, 1) := by decide +kernel
theorem dX2_init_38 : decode cX2_init 38 = .ok (.putfield 26, 3) := by decide +kernel
theorem dX2_init_41 : decode cX2_init 41 = .ok (.aload_n 0, 1) := by decide +kernel
theorem dX2_init_42 : decode cX2_init 42 = .ok (.aload_n 2, 1) := by decide +kernel
theorem dX2_init_43 : decode cX2_init 43 = .ok (.putfield 30, 3) := by decide +kernel
theorem dX2_init_46 : decode cX2_init 46 = .ok (.aload_n 1, 1) := by decide +kernel
theorem dX2_init_47 : decode cX2_init 47 = .ok (.invokevirtual 34, 3) := by decide +kernel
theorem dX2_init_50 : decode cX2_init 50 = .ok (.aload_n 0, 1) := by decide +kernel
theorem dX2_init_51 : decode cX2_init 51 = .ok (.iconst 0, 1) := by decide +kernel
theorem dX2_init_52 : decode cX2_init 52 = .ok (.iconst 0, 1) := by decide +kernel
theorem dX2_init_53 : decode cX2_init 53 = .ok (.invokevirtual 39, 3) := by decide +kernel
theorem dX2_init_56 : decode cX2_init 56 = .ok (.istore_n 3, 1) := by decide +kernel
theorem dX2_init_57 : decode cX2_init 57 = .ok (.aload_n 0, 1) := by decide +kernel
theorem dX2_init_58 : decode cX2_init 58 = .ok (.aload_n 2, 1) := by decide +kernel
theorem dX2_init_59 : decode cX2_init 59 = .ok (.aload_n 0, 1) := by decide +kernel
theorem dX2_init_60 : decode cX2_init 60 = .ok (.iconst 0, 1) := by decide +kernel
theorem dX2_init_61 : decode cX2_init 61 = .ok (.iload_n 3, 1) := by decide +kernel
theorem dX2_init_62 : decode cX2_init 62 = .ok (.invokevirtual 39, 3) := by decide +kernel
theorem dX2_init_65 : decode cX2_init 65 = .ok (.invokevirtual 43, 3) := by decide +kernel
theorem dX2_init_68 : decode cX2_init 68 = .ok (.putfield 49, 3) := by decide +kernel
theorem dX2_init_71 : decode cX2_init 71 = .ok (.return_, 1) := by decide +kernel
theorem dX6_init_0 : decode cX6_init 0 = .ok (.aload_n 0, 1) := by decide +kernel
theorem dX6_init_1 : decode cX6_init 1 = .ok (.invokespecial 3, 3) := by decide +kernel
theorem dX6_init_4 : decode cX6_init 4 = .ok (.aload_n 0, 1) := by decide +kernel
theorem dX6_init_5 : decode cX6_init 5 = .ok (.bipush 8, 2) := by decide +kernel
theorem dX6_init_7 : decode cX6_init 7 = .ok (.anewarray 9, 3) := by decide +kernel
theorem dX6_init_10 : decode cX6_init 10 = .ok (.putfield 11, 3) := by decide +kernel
theorem dX6_init_13 : decode cX6_init 13 = .ok (.aload_n 0, 1) := by decide +kernel
theorem dX6_init_14 : decode cX6_init 14 = .ok (.bipush 8, 2) := by decide +kernel
theorem dX6_init_16 : decode cX6_init 16 = .ok (.newarray .int, 2) := by decide +kernel
theorem dX6_init_18 : decode cX6_init 18 = .ok (.putfield 17, 3) := by decide +kernel
theorem dX6_init_21 : decode cX6_init 21 = .ok (.aload_n 0, 1) := by decide +kernel
theorem dX6_init_22 : decode cX6_init 22 = .ok (.bipush 8, 2) := by decide +kernel
theorem dX6_init_24 : decode cX6_init 24 = .ok (.anewarray 9, 3) := by decide +kernel
theorem dX6_init_27 : decode cX6_init 27 = .ok (.putfield 21, 3) := by decide +kernel
theorem dX6_init_30 : decode cX6_init 30 = .ok (.aload_n 0, 1) := by decide +kernel
theorem dX6_init_31 : decode cX6_init 31 = .ok (.bipush 8, 2) := by decide +kernel
theorem dX6_init_33 : decode cX6_init 33 = .ok (.anewarray 9, 3) := by decide +kernel
theorem dX6_init_36 : decode cX6_init 36 = .ok (.putfield 24, 3) := by decide +kernel
theorem dX6_init_39 : decode cX6_init 39 = .ok (.aload_n 0, 1) := by decide +kernel
theorem dX6_init_40 : decode cX6_init 40 = .ok (.aload_n 1, 1) := by decide +kernel
theorem dX6_init_41 : decode cX6_init 41 = .ok (.putfield 27, 3) := by decide +kernel
theorem dX6_init_44 : decode cX6_init 44 = .ok (.iconst 0, 1) := by decide +kernel
theorem dX6_init_45 : decode cX6_init 45 = .ok (.istore_n 2, 1) := by decide +kernel
theorem dX6_init_46 : decode cX6_init 46 = .ok (.iload_n 2, 1) := by decide +kernel
theorem dX6_init_47 : decode cX6_init 47 = .ok (.bipush 8, 2) := by decide +kernel
theorem dX6_init_49 : decode cX6_init 49 = .ok (.if_icmp .ge 23, 3) := by decide +kernel
theorem dX6_init_52 : decode cX6_init 52 = .ok (.aload_n 0, 1) := by decide +kernel
theorem dX6_init_53 : decode cX6_init 53 = .ok (.getfield 11, 3) := by decide +kernel
theorem dX6_init_56 : decode cX6_init 56 = .ok (.iload_n 2, 1) := by decide +kernel
theorem dX6_init_57 : decode cX6_init 57 = .ok (.aload_n 1, 1) := by decide +kernel
theorem dX6_init_58 : decode cX6_init 58 = .ok (.aastore, 1) := by decide +kernel
theorem dX6_init_59 : decode cX6_init 59 = .ok (.aload_n 0, 1) := by decide +kernel
theorem dX6_init_60 : decode cX6_init 60 = .ok (.getfield 24, 3) := by decide +kernel
theorem dX6_init_63 : decode cX6_init 63 = .ok (.iload_n 2, 1) := by decide +kernel
theorem dX6_init_64 : decode cX6_init 64 = .ok (.aload_n 1, 1) := by decide +kernel
theorem dX6_init_65 : decode cX6_init 65 = .ok (.aastore, 1) := by decide +kernel
theorem dX6_init_66 : decode cX6_init 66 = .ok (.iinc 2 1, 3) := by decide +kernel
theorem dX6_init_69 : decode cX6_init 69 = .ok (.goto (-23), 3) := by decide +kernel
theorem dX6_init_72 : decode cX6_init 72 = .ok (.return_, 1) := by decide +kernel
theorem dX10_init_0 : decode cX10_init 0 = .ok (.aload_n 0, 1) := by decide +kernel
theorem dX10_init_1 : decode cX10_init 1 = .ok (.invokespecial 3, 3) := by decide +kernel
theorem dX10_init_4 : decode cX10_init 4 = .ok (.aload_n 0, 1) := by decide +kernel
theorem dX10_init_5 : decode cX10_init 5 = .ok (.new 9, 3) := by decide +kernel
theorem dX10_init_8 : decode cX10_init 8 = .ok (.dup, 1) := by decide +kernel
theorem dX10_init_9 : decode cX10_init 9 = .ok (.invokespecial 11, 3) := by decide +kernel
theorem dX10_init_12 : decode cX10_init 12 = .ok (.putfield 12, 3) := by decide +kernel
theorem dX10_init_15 : decode cX10_init 15 = .ok (.aload_n 0, 1) := by decide +kernel
theorem dX10_init_16 : decode cX10_init 16 = .ok (.new 16, 3) := by decide +kernel
theorem dX10_init_19 : decode cX10_init 19 = .ok (.dup, 1) := by decide +kernel
theorem dX10_init_20 : decode cX10_init 20 = .ok (.aload_n 0, 1) := by decide +kernel
theorem dX10_init_21 : decode cX10_init 21 = .ok (.getfield 12, 3) := by decide +kernel
theorem dX10_init_24 : decode cX10_init 24 = .ok (.invokespecial 18, 3) := by decide +kernel
theorem dX10_init_27 : decode cX10_init 27 = .ok (.putfield 21, 3) := by decide +kernel
theorem dX10_init_30 : decode cX10_init 30 = .ok (.aload_n 0, 1) := by decide +kernel
theorem dX10_init_31 : decode cX10_init 31 = .ok (.new 25, 3) := by decide +kernel
theorem dX10_init_34 : decode cX10_init 34 = .ok (.dup, 1) := by decide +kernel
theorem dX10_init_35 : decode cX10_init 35 = .ok (.aload_n 0, 1) := by decide +kernel
theorem dX10_init_36 : decode cX10_init 36 = .ok (.getfield 12, 3) := by decide +kernel
theorem dX10_init_39 : decode cX10_init 39 = .ok (.aload_n 0, 1) := by decide +kernel
theorem dX10_init_40 : decode cX10_init 40 = .ok (.getfield 21, 3) := by decide +kernel
theorem dX10_init_43 : decode cX10_init 43 = .ok (.invokespecial 27, 3) := by decide +kernel
theorem dX10_init_46 : decode cX10_init 46 = .ok (.putfield 30, 3) := by decide +kernel
theorem dX10_init_49 : decode cX10_init 49 = .ok (.aload_n 0, 1) := by decide +kernel
theorem dX10_init_50 : decode cX10_init 50 = .ok (.invokestatic 34, 3) := by decide +kernel
theorem dX10_init_53 : decode cX10_init 53 = .ok (.putfield 40, 3) := by decide +kernel
theorem dX10_init_56 : decode cX10_init 56 = .ok (.aload_n 0, 1) := by decide +kernel
theorem dX10_init_57 : decode cX10_init 57 = .ok (.new 44, 3) := by decide +kernel
theorem dX10_init_60 : decode cX10_init 60 = .ok (.dup, 1) := by decide +kernel
theorem dX10_init_61 : decode cX10_init 61 = .ok (.invokespecial 46, 3) := by decide +kernel
theorem dX10_init_64 : decode cX10_init 64 = .ok (.putfield 47, 3) := by decide +kernel
theorem dX10_init_67 : decode cX10_init 67 = .ok (.aload_n 0, 1) := by decide +kernel
theorem dX10_init_68 : decode cX10_init 68 = .ok (.new 51, 3) := by decide +kernel
theorem dX10_init_71 : decode cX10_init 71 = .ok (.dup, 1) := by decide +kernel
theorem dX10_init_72 : decode cX10_init 72 = .ok (.aload_n 0, 1) := by decide +kernel
theorem dX10_init_73 : decode cX10_init 73 = .ok (.getfield 12, 3) := by decide +kernel
theorem dX10_init_76 : decode cX10_init 76 = .ok (.aload_n 0, 1) := by decide +kernel
theorem dX10_init_77 : decode cX10_init 77 = .ok (.getfield 47, 3) := by decide +kernel
theorem dX10_init_80 : decode cX10_init 80 = .ok (.aload_n 0, 1) := by decide +kernel
theorem dX10_init_81 : decode cX10_init 81 = .ok (.getfield 40, 3) := by decide +kernel
theorem dX10_init_84 : decode cX10_init 84 = .ok (.invokespecial 53, 3) := by decide +kernel
theorem dX10_init_87 : decode cX10_init 87 = .ok (.putfield 56, 3) := by decide +kernel
theorem dX10_init_90 : decode cX10_init 90 = .ok (.aload_n 0, 1) := by decide +kernel
theorem dX10_init_91 : decode cX10_init 91 = .ok (.new 60, 3) := by decide +kernel
theorem dX10_init_94 : decode cX10_init 94 = .ok (.dup, 1) := by decide +kernel
theorem dX10_init_95 : decode cX10_init 95 = .ok (.aload_n 0, 1) := by decide +kernel
theorem dX10_init_96 : decode cX10_init 96 = .ok (.getfield 12, 3) := by decide +kernel
theorem dX10_init_99 : decode cX10_init 99 = .ok (.aload_n 0, 1) := by decide +kernel
theorem dX10_init_100 : decode cX10_init 100 = .ok (.getfield 21, 3) := by decide +kernel
theorem dX10_init_103 : decode cX10_init 103 = .ok (.invokespecial 62, 3) := by decide +kernel
theorem dX10_init_106 : decode cX10_init 106 = .ok (.putfield 63, 3) := by decide +kernel
theorem dX10_init_109 : decode cX10_init 109 = .ok (.aload_n 0, 1) := by decide +kernel
theorem dX10_init_110 : decode cX10_init 110 = .ok (.new 67, 3) := by decide +kernel
theorem dX10_init_113 : decode cX10_init 113 = .ok (.dup, 1) := by decide +kernel
theorem dX10_init_114 : decode cX10_init 114 = .ok (.aload_n 0, 1) := by decide +kernel
theorem dX10_init_115 : decode cX10_init 115 = .ok (.getfield 30, 3) := by decide +kernel
theorem dX10_init_118 : decode cX10_init 118 = .ok (.invokespecial 69, 3) := by decide +kernel
theorem dX10_init_121 : decode cX10_init 121 = .ok (.putfield 72, 3) := by decide +kernel
theorem dX10_init_124 : decode cX10_init 124 = .ok (.aload_n 0, 1) := by decide +kernel
theorem dX10_init_125 : decode cX10_init 125 = .ok (.new 76, 3) := by decide +kernel
theorem dX10_init_128 : decode cX10_init 128 = .ok (.dup, 1) := by decide +kernel
theorem dX10_init_129 : decode cX10_init 129 = .ok (.invokestatic 78, 3) := by decide +kernel
theorem dX10_init_132 : decode cX10_init 132 = .ok (.invokespecial 81, 3) := by decide +kernel
theorem dX10_init_135 : decode cX10_init 135 = .ok (.putfield 84, 3) := by decide +kernel
theorem dX10_init_138 : decode cX10_init 138 = .ok (.aload_n 0, 1) := by decide +kernel
theorem dX10_init_139 : decode cX10_init 139 = .ok (.new 88, 3) := by decide +kernel
theorem dX10_init_142 : decode cX10_init 142 = .ok (.dup, 1) := by decide +kernel
theorem dX10_init_143 : decode cX10_init 143 = .ok (.invokespecial 90, 3) := by decide +kernel
theorem dX10_init_146 : decode cX10_init 146 = .ok (.putfield 91, 3) := by decide +kernel
theorem dX10_init_149 : decode cX10_init 149 = .ok (.aload_n 0, 1) := by decide +kernel
theorem dX10_init_150 : decode cX10_init 150 = .ok (.bipush 16, 2) := by decide +kernel
theorem dX10_init_152 : decode cX10_init 152 = .ok (.anewarray 35, 3) := by decide +kernel
theorem dX10_init_155 : decode cX10_init 155 = .ok (.putfield 95, 3) := by decide +kernel
theorem dX10_init_158 : decode cX10_init 158 = .ok (.aload_n 0, 1) := by decide +kernel
theorem dX10_init_159 : decode cX10_init 159 = .ok (.bipush 7, 2) := by decide +kernel
theorem dX10_init_161 : decode cX10_init 161 = .ok (.newarray .int, 2) := by decide +kernel
theorem dX10_init_163 : decode cX10_init 163 = .ok (.putfield 99, 3) := by decide +kernel
theorem dX10_init_166 : decode cX10_init 166 = .ok (.return_, 1) := by decide +kernel
set_option maxRecDepth 100000 in
set_option maxHeartbeats 8000000 in
theorem c_X9_init (l : Launch) (sc : g_S) (hsc : sc.1 = 0) (h : g_H) (ho : h 4 = some (.inr (9, [.null, .null, .null, .null, .null, .null, .null, .null, .null, .null, .null, .null, .null, .int 0, .int 0]))) (hf : ∀ q, 5 ≤ q → q < 18 → h q = none) : AMet l sc yX9_init cX9_init 1 none 1 13 4636 [.ref 4] h (fun v hp' => v = none ∧ hp' = ovl 4 18 mz h) := by
  have h1 : h = g_up (ovl 5 5 mz h) 4 (.inr (9, [.null, .null, .null, .null, .null, .null, .null, .null, .null, .null, .null, .null, .null, .int 0, .int 0])) := by rw [ovl_nil]; exact g_up_id ho
  refine AMet.of (own := RX9) (by decide +kernel) rfl (Nat.le_of_ble_eq_true rfl) [(0, .ref 4)] rfl (fun D base ad => ?_)
  refine AW.eqh h1 ?_
  refine aw_aload_n (pc := 0) dX9_init_0 rfl ?_
  refine aw_objInit (pc := 1) oi_X9_3 oi_inst oi_code (Nat.le_of_ble_eq_true rfl) (Nat.le_of_ble_eq_true rfl) dX9_init_1 ?_
  refine aw_aload_n (pc := 4) dX9_init_4 rfl ?_
  refine aw_sipush (pc := 5) (1024) dX9_init_5 (by decide) ?_
  refine aw_newJ (pc := 8) (N' := 1024) 5 (ov_fresh (by decide) (hf 5 (by decide) (by decide))) (by rw [hsc]; decide) ac_long (by decide) (by decide) (Nat.le_of_ble_eq_true rfl) (Nat.le_of_ble_eq_true rfl) (Nat.le_of_ble_eq_true rfl) dX9_init_8 ?_
  refine AW.eqh (ov_new (Nat.le_of_ble_eq_true rfl) (by decide) (cel_zJ rfl (fun _ => rfl))) ?_
  refine aw_putF (pc := 10) tyX9 flo_X9_9 (fun r h => ⟨gty_X9 r h, by cases h; rfl⟩) rfl (fun r h => by cases h; rfl) (g_up_self _ _ _) rfl rfl (by decide) dX9_init_10 ?_
  refine AW.eqh (hp' := g_up (ovl 5 6 mz h) 4 (.inr (9, [.ref 5, .null, .null, .null, .null, .null, .null, .null, .null, .null, .null, .null, .null, .int 0, .int 0]))) (g_up_up _ _ _ _) ?_
  refine aw_aload_n (pc := 13) dX9_init_13 rfl ?_
  refine aw_sipush (pc := 14) (1024) dX9_init_14 (by decide) ?_
  refine aw_newJ (pc := 17) (N' := 1024) 6 (ov_fresh (by decide) (hf 6 (by decide) (by decide))) (by rw [hsc]; decide) ac_long (by decide) (by decide) (Nat.le_of_ble_eq_true rfl) (Nat.le_of_ble_eq_true rfl) (Nat.le_of_ble_eq_true rfl) dX9_init_17 ?_
  refine AW.eqh (ov_new (Nat.le_of_ble_eq_true rfl) (by decide) (cel_zJ rfl (fun _ => rfl))) ?_
  refine aw_putF (pc := 19) tyX9 flo_X9_13 (fun r h => ⟨gty_X9 r h, by cases h; rfl⟩) rfl (fun r h => by cases h; rfl) (g_up_self _ _ _) rfl rfl (by decide) dX9_init_19 ?_
  refine AW.eqh (hp' := g_up (ovl 5 7 mz h) 4 (.inr (9, [.ref 5, .ref 6, .null, .null, .null, .null, .null, .null, .null, .null, .null, .null, .null, .int 0, .int 0]))) (g_up_up _ _ _ _) ?_
  refine aw_aload_n (pc := 22) dX9_init_22 rfl ?_
  refine aw_sipush (pc := 23) (1024) dX9_init_23 (by decide) ?_
  refine aw_newJ (pc := 26) (N' := 1024) 7 (ov_fresh (by decide) (hf 7 (by decide) (by decide))) (by rw [hsc]; decide) ac_long (by decide) (by decide) (Nat.le_of_ble_eq_true rfl) (Nat.le_of_ble_eq_true rfl) (Nat.le_of_ble_eq_true rfl) dX9_init_26 ?_
  refine AW.eqh (ov_new (Nat.le_of_ble_eq_true rfl) (by decide) (cel_zJ rfl (fun _ => rfl))) ?_
  refine aw_putF (pc := 28) tyX9 flo_X9_16 (fun r h => ⟨gty_X9 r h, by cases h; rfl⟩) rfl (fun r h => by cases h; rfl) (g_up_self _ _ _) rfl rfl (by decide) dX9_init_28 ?_
  refine AW.eqh (hp' := g_up (ovl 5 8 mz h) 4 (.inr (9, [.ref 5, .ref 6, .ref 7, .null, .null, .null, .null, .null, .null, .null, .null, .null, .null, .int 0, .int 0]))) (g_up_up _ _ _ _) ?_
  refine aw_aload_n (pc := 31) dX9_init_31 rfl ?_
  refine aw_sipush (pc := 32) (1024) dX9_init_32 (by decide) ?_
  refine aw_newJ (pc := 35) (N' := 1024) 8 (ov_fresh (by decide) (hf 8 (by decide) (by decide))) (by rw [hsc]; decide) ac_long (by decide) (by decide) (Nat.le_of_ble_eq_true rfl) (Nat.le_of_ble_eq_true rfl) (Nat.le_of_ble_eq_true rfl) dX9_init_35 ?_
  refine AW.eqh (ov_new (Nat.le_of_ble_eq_true rfl) (by decide) (cel_zJ rfl (fun _ => rfl))) ?_
  refine aw_putF (pc := 37) tyX9 flo_X9_19 (fun r h => ⟨gty_X9 r h, by cases h; rfl⟩) rfl (fun r h => by cases h; rfl) (g_up_self _ _ _) rfl rfl (by decide) dX9_init_37 ?_
  refine AW.eqh (hp' := g_up (ovl 5 9 mz h) 4 (.inr (9, [.ref 5, .ref 6, .ref 7, .ref 8, .null, .null, .null, .null, .null, .null, .null, .null, .null, .int 0, .int 0]))) (g_up_up _ _ _ _) ?_
  refine aw_aload_n (pc := 40) dX9_init_40 rfl ?_
  refine aw_sipush (pc := 41) (256) dX9_init_41 (by decide) ?_
  refine aw_newI (pc := 44) (N' := 256) 9 (ov_fresh (by decide) (hf 9 (by decide) (by decide))) (by rw [hsc]; decide) ac_int (by decide) (by decide) (Nat.le_of_ble_eq_true rfl) (Nat.le_of_ble_eq_true rfl) (Nat.le_of_ble_eq_true rfl) dX9_init_44 ?_
  refine AW.eqh (ov_new (Nat.le_of_ble_eq_true rfl) (by decide) (cel_zI rfl (fun _ => mz_0 _ _))) ?_
  refine aw_putF (pc := 46) tyX9 flo_X9_22 (fun r h => ⟨gty_X9 r h, by cases h; rfl⟩) rfl (fun r h => by cases h; rfl) (g_up_self _ _ _) rfl rfl (by decide) dX9_init_46 ?_
  refine AW.eqh (hp' := g_up (ovl 5 10 mz h) 4 (.inr (9, [.ref 5, .ref 6, .ref 7, .ref 8, .ref 9, .null, .null, .null, .null, .null, .null, .null, .null, .int 0, .int 0]))) (g_up_up _ _ _ _) ?_
  refine aw_aload_n (pc := 49) dX9_init_49 rfl ?_
  refine aw_sipush (pc := 50) (256) dX9_init_50 (by decide) ?_
  refine aw_newI (pc := 53) (N' := 256) 10 (ov_fresh (by decide) (hf 10 (by decide) (by decide))) (by rw [hsc]; decide) ac_int (by decide) (by decide) (Nat.le_of_ble_eq_true rfl) (Nat.le_of_ble_eq_true rfl) (Nat.le_of_ble_eq_true rfl) dX9_init_53 ?_
  refine AW.eqh (ov_new (Nat.le_of_ble_eq_true rfl) (by decide) (cel_zI rfl (fun _ => mz_0 _ _))) ?_
  refine aw_putF (pc := 55) tyX9 flo_X9_26 (fun r h => ⟨gty_X9 r h, by cases h; rfl⟩) rfl (fun r h => by cases h; rfl) (g_up_self _ _ _) rfl rfl (by decide) dX9_init_55 ?_
  refine AW.eqh (hp' := g_up (ovl 5 11 mz h) 4 (.inr (9, [.ref 5, .ref 6, .ref 7, .ref 8, .ref 9, .ref 10, .null, .null, .null, .null, .null, .null, .null, .int 0, .int 0]))) (g_up_up _ _ _ _) ?_
  refine aw_aload_n (pc := 58) dX9_init_58 rfl ?_
  refine aw_iconst (pc := 59) (4) dX9_init_59 (by decide) ?_
  refine aw_newJ (pc := 60) (N' := 4) 11 (ov_fresh (by decide) (hf 11 (by decide) (by decide))) (by rw [hsc]; decide) ac_long (by decide) (by decide) (Nat.le_of_ble_eq_true rfl) (Nat.le_of_ble_eq_true rfl) (Nat.le_of_ble_eq_true rfl) dX9_init_60 ?_
  refine AW.eqh (ov_new (Nat.le_of_ble_eq_true rfl) (by decide) (cel_zJ rfl (fun _ => rfl))) ?_
  refine aw_putF (pc := 62) tyX9 flo_X9_29 (fun r h => ⟨gty_X9 r h, by cases h; rfl⟩) rfl (fun r h => by cases h; rfl) (g_up_self _ _ _) rfl rfl (by decide) dX9_init_62 ?_
  refine AW.eqh (hp' := g_up (ovl 5 12 mz h) 4 (.inr (9, [.ref 5, .ref 6, .ref 7, .ref 8, .ref 9, .ref 10, .ref 11, .null, .null, .null, .null, .null, .null, .int 0, .int 0]))) (g_up_up _ _ _ _) ?_
  refine aw_aload_n (pc := 65) dX9_init_65 rfl ?_
  refine aw_iconst (pc := 66) (4) dX9_init_66 (by decide) ?_
  refine aw_newJ (pc := 67) (N' := 4) 12 (ov_fresh (by decide) (hf 12 (by decide) (by decide))) (by rw [hsc]; decide) ac_long (by decide) (by decide) (Nat.le_of_ble_eq_true rfl) (Nat.le_of_ble_eq_true rfl) (Nat.le_of_ble_eq_true rfl) dX9_init_67 ?_
  refine AW.eqh (ov_new (Nat.le_of_ble_eq_true rfl) (by decide) (cel_zJ rfl (fun _ => rfl))) ?_
  refine aw_putF (pc := 69) tyX9 flo_X9_32 (fun r h => ⟨gty_X9 r h, by cases h; rfl⟩) rfl (fun r h => by cases h; rfl) (g_up_self _ _ _) rfl rfl (by decide) dX9_init_69 ?_
  refine AW.eqh (hp' := g_up (ovl 5 13 mz h) 4 (.inr (9, [.ref 5, .ref 6, .ref 7, .ref 8, .ref 9, .ref 10, .ref 11, .ref 12, .null, .null, .null, .null, .null, .int 0, .int 0]))) (g_up_up _ _ _ _) ?_
  refine aw_aload_n (pc := 72) dX9_init_72 rfl ?_
  refine aw_iconst (pc := 73) (4) dX9_init_73 (by decide) ?_
  refine aw_newJ (pc := 74) (N' := 4) 13 (ov_fresh (by decide) (hf 13 (by decide) (by decide))) (by rw [hsc]; decide) ac_long (by decide) (by decide) (Nat.le_of_ble_eq_true rfl) (Nat.le_of_ble_eq_true rfl) (Nat.le_of_ble_eq_true rfl) dX9_init_74 ?_
  refine AW.eqh (ov_new (Nat.le_of_ble_eq_true rfl) (by decide) (cel_zJ rfl (fun _ => rfl))) ?_
  refine aw_putF (pc := 76) tyX9 flo_X9_35 (fun r h => ⟨gty_X9 r h, by cases h; rfl⟩) rfl (fun r h => by cases h; rfl) (g_up_self _ _ _) rfl rfl (by decide) dX9_init_76 ?_
  refine AW.eqh (hp' := g_up (ovl 5 14 mz h) 4 (.inr (9, [.ref 5, .ref 6, .ref 7, .ref 8, .ref 9, .ref 10, .ref 11, .ref 12, .ref 13, .null, .null, .null, .null, .int 0, .int 0]))) (g_up_up _ _ _ _) ?_
  refine aw_aload_n (pc := 79) dX9_init_79 rfl ?_
  refine aw_iconst (pc := 80) (4) dX9_init_80 (by decide) ?_
  refine aw_newJ (pc := 81) (N' := 4) 14 (ov_fresh (by decide) (hf 14 (by decide) (by decide))) (by rw [hsc]; decide) ac_long (by decide) (by decide) (Nat.le_of_ble_eq_true rfl) (Nat.le_of_ble_eq_true rfl) (Nat.le_of_ble_eq_true rfl) dX9_init_81 ?_
  refine AW.eqh (ov_new (Nat.le_of_ble_eq_true rfl) (by decide) (cel_zJ rfl (fun _ => rfl))) ?_
  refine aw_putF (pc := 83) tyX9 flo_X9_38 (fun r h => ⟨gty_X9 r h, by cases h; rfl⟩) rfl (fun r h => by cases h; rfl) (g_up_self _ _ _) rfl rfl (by decide) dX9_init_83 ?_
  refine AW.eqh (hp' := g_up (ovl 5 15 mz h) 4 (.inr (9, [.ref 5, .ref 6, .ref 7, .ref 8, .ref 9, .ref 10, .ref 11, .ref 12, .ref 13, .ref 14, .null, .null, .null, .int 0, .int 0]))) (g_up_up _ _ _ _) ?_
  refine aw_aload_n (pc := 86) dX9_init_86 rfl ?_
  refine aw_iconst (pc := 87) (4) dX9_init_87 (by decide) ?_
  refine aw_newJ (pc := 88) (N' := 4) 15 (ov_fresh (by decide) (hf 15 (by decide) (by decide))) (by rw [hsc]; decide) ac_long (by decide) (by decide) (Nat.le_of_ble_eq_true rfl) (Nat.le_of_ble_eq_true rfl) (Nat.le_of_ble_eq_true rfl) dX9_init_88 ?_
  refine AW.eqh (ov_new (Nat.le_of_ble_eq_true rfl) (by decide) (cel_zJ rfl (fun _ => rfl))) ?_
  refine aw_putF (pc := 90) tyX9 flo_X9_41 (fun r h => ⟨gty_X9 r h, by cases h; rfl⟩) rfl (fun r h => by cases h; rfl) (g_up_self _ _ _) rfl rfl (by decide) dX9_init_90 ?_
  refine AW.eqh (hp' := g_up (ovl 5 16 mz h) 4 (.inr (9, [.ref 5, .ref 6, .ref 7, .ref 8, .ref 9, .ref 10, .ref 11, .ref 12, .ref 13, .ref 14, .ref 15, .null, .null, .int 0, .int 0]))) (g_up_up _ _ _ _) ?_
  refine aw_aload_n (pc := 93) dX9_init_93 rfl ?_
  refine aw_iconst (pc := 94) (4) dX9_init_94 (by decide) ?_
  refine aw_newJ (pc := 95) (N' := 4) 16 (ov_fresh (by decide) (hf 16 (by decide) (by decide))) (by rw [hsc]; decide) ac_long (by decide) (by decide) (Nat.le_of_ble_eq_true rfl) (Nat.le_of_ble_eq_true rfl) (Nat.le_of_ble_eq_true rfl) dX9_init_95 ?_
  refine AW.eqh (ov_new (Nat.le_of_ble_eq_true rfl) (by decide) (cel_zJ rfl (fun _ => rfl))) ?_
  refine aw_putF (pc := 97) tyX9 flo_X9_44 (fun r h => ⟨gty_X9 r h, by cases h; rfl⟩) rfl (fun r h => by cases h; rfl) (g_up_self _ _ _) rfl rfl (by decide) dX9_init_97 ?_
  refine AW.eqh (hp' := g_up (ovl 5 17 mz h) 4 (.inr (9, [.ref 5, .ref 6, .ref 7, .ref 8, .ref 9, .ref 10, .ref 11, .ref 12, .ref 13, .ref 14, .ref 15, .ref 16, .null, .int 0, .int 0]))) (g_up_up _ _ _ _) ?_
  refine aw_aload_n (pc := 100) dX9_init_100 rfl ?_
  refine aw_iconst (pc := 101) (4) dX9_init_101 (by decide) ?_
  refine aw_newJ (pc := 102) (N' := 4) 17 (ov_fresh (by decide) (hf 17 (by decide) (by decide))) (by rw [hsc]; decide) ac_long (by decide) (by decide) (Nat.le_of_ble_eq_true rfl) (Nat.le_of_ble_eq_true rfl) (Nat.le_of_ble_eq_true rfl) dX9_init_102 ?_
  refine AW.eqh (ov_new (Nat.le_of_ble_eq_true rfl) (by decide) (cel_zJ rfl (fun _ => rfl))) ?_
  refine aw_putF (pc := 104) tyX9 flo_X9_47 (fun r h => ⟨gty_X9 r h, by cases h; rfl⟩) rfl (fun r h => by cases h; rfl) (g_up_self _ _ _) rfl rfl (by decide) dX9_init_104 ?_
  refine AW.eqh (hp' := g_up (ovl 5 18 mz h) 4 (.inr (9, [.ref 5, .ref 6, .ref 7, .ref 8, .ref 9, .ref 10, .ref 11, .ref 12, .ref 13, .ref 14, .ref 15, .ref 16, .ref 17, .int 0, .int 0]))) (g_up_up _ _ _ _) ?_
  refine aw_vret (pc := 107) rfl (Nat.le_of_ble_eq_true rfl) (Nat.le_of_ble_eq_true rfl) dX9_init_107 ⟨rfl, ?_⟩
  exact ov_end (by decide) rfl
set_option maxRecDepth 100000 in
set_option maxHeartbeats 8000000 in
theorem c_X4_init (l : Launch) (sc : g_S) (hsc : sc.1 = 0) (h : g_H) (ho : h 18 = some (.inr (4, [.null, .null, .null, .null, .null, .null, .null, .null, .null, .null, .int 0]))) (hf : ∀ q, 19 ≤ q → q < 28 → h q = none) : AMet l sc yX4_init cX4_init 2 none 1 9 1080 [.ref 18, .ref 4] h (fun v hp' => v = none ∧ hp' = ovl 18 28 mz h) := by
  have h1 : h = g_up (ovl 19 19 mz h) 18 (.inr (4, [.null, .null, .null, .null, .null, .null, .null, .null, .null, .null, .int 0])) := by rw [ovl_nil]; exact g_up_id ho
  refine AMet.of (own := RX4) (by decide +kernel) rfl (Nat.le_of_ble_eq_true rfl) [(0, .ref 18), (1, .ref 4)] rfl (fun D base ad => ?_)
  refine AW.eqh h1 ?_
  refine aw_aload_n (pc := 0) dX4_init_0 rfl ?_
  refine aw_objInit (pc := 1) oi_X4_3 oi_inst oi_code (Nat.le_of_ble_eq_true rfl) (Nat.le_of_ble_eq_true rfl) dX4_init_1 ?_
  refine aw_aload_n (pc := 4) dX4_init_4 rfl ?_
  refine aw_bipush (pc := 5) (10) dX4_init_5 (by decide) ?_
  refine aw_newI (pc := 7) (N' := 10) 19 (ov_fresh (by decide) (hf 19 (by decide) (by decide))) (by rw [hsc]; decide) ac_int (by decide) (by decide) (Nat.le_of_ble_eq_true rfl) (Nat.le_of_ble_eq_true rfl) (Nat.le_of_ble_eq_true rfl) dX4_init_7 ?_
  refine AW.eqh (ov_new (Nat.le_of_ble_eq_true rfl) (by decide) (cel_zI rfl (fun _ => mz_0 _ _))) ?_
  refine aw_putF (pc := 9) tyX4 flo_X4_9 (fun r h => ⟨gty_X4 r h, by cases h; rfl⟩) rfl (fun r h => by cases h; rfl) (g_up_self _ _ _) rfl rfl (by decide) dX4_init_9 ?_
  refine AW.eqh (hp' := g_up (ovl 19 20 mz h) 18 (.inr (4, [.null, .ref 19, .null, .null, .null, .null, .null, .null, .null, .null, .int 0]))) (g_up_up _ _ _ _) ?_
  refine aw_aload_n (pc := 12) dX4_init_12 rfl ?_
  refine aw_bipush (pc := 13) (10) dX4_init_13 (by decide) ?_
  refine aw_newI (pc := 15) (N' := 10) 20 (ov_fresh (by decide) (hf 20 (by decide) (by decide))) (by rw [hsc]; decide) ac_int (by decide) (by decide) (Nat.le_of_ble_eq_true rfl) (Nat.le_of_ble_eq_true rfl) (Nat.le_of_ble_eq_true rfl) dX4_init_15 ?_
  refine AW.eqh (ov_new (Nat.le_of_ble_eq_true rfl) (by decide) (cel_zI rfl (fun _ => mz_0 _ _))) ?_
  refine aw_putF (pc := 17) tyX4 flo_X4_15 (fun r h => ⟨gty_X4 r h, by cases h; rfl⟩) rfl (fun r h => by cases h; rfl) (g_up_self _ _ _) rfl rfl (by decide) dX4_init_17 ?_
  refine AW.eqh (hp' := g_up (ovl 19 21 mz h) 18 (.inr (4, [.null, .ref 19, .ref 20, .null, .null, .null, .null, .null, .null, .null, .int 0]))) (g_up_up _ _ _ _) ?_
  refine aw_aload_n (pc := 20) dX4_init_20 rfl ?_
  refine aw_bipush (pc := 21) (10) dX4_init_21 (by decide) ?_
  refine aw_newI (pc := 23) (N' := 10) 21 (ov_fresh (by decide) (hf 21 (by decide) (by decide))) (by rw [hsc]; decide) ac_int (by decide) (by decide) (Nat.le_of_ble_eq_true rfl) (Nat.le_of_ble_eq_true rfl) (Nat.le_of_ble_eq_true rfl) dX4_init_23 ?_
  refine AW.eqh (ov_new (Nat.le_of_ble_eq_true rfl) (by decide) (cel_zI rfl (fun _ => mz_0 _ _))) ?_
  refine aw_putF (pc := 25) tyX4 flo_X4_18 (fun r h => ⟨gty_X4 r h, by cases h; rfl⟩) rfl (fun r h => by cases h; rfl) (g_up_self _ _ _) rfl rfl (by decide) dX4_init_25 ?_
  refine AW.eqh (hp' := g_up (ovl 19 22 mz h) 18 (.inr (4, [.null, .ref 19, .ref 20, .ref 21, .null, .null, .null, .null, .null, .null, .int 0]))) (g_up_up _ _ _ _) ?_
  refine aw_aload_n (pc := 28) dX4_init_28 rfl ?_
  refine aw_bipush (pc := 29) (10) dX4_init_29 (by decide) ?_
  refine aw_newI (pc := 31) (N' := 10) 22 (ov_fresh (by decide) (hf 22 (by decide) (by decide))) (by rw [hsc]; decide) ac_int (by decide) (by decide) (Nat.le_of_ble_eq_true rfl) (Nat.le_of_ble_eq_true rfl) (Nat.le_of_ble_eq_true rfl) dX4_init_31 ?_
  refine AW.eqh (ov_new (Nat.le_of_ble_eq_true rfl) (by decide) (cel_zI rfl (fun _ => mz_0 _ _))) ?_
  refine aw_putF (pc := 33) tyX4 flo_X4_21 (fun r h => ⟨gty_X4 r h, by cases h; rfl⟩) rfl (fun r h => by cases h; rfl) (g_up_self _ _ _) rfl rfl (by decide) dX4_init_33 ?_
  refine AW.eqh (hp' := g_up (ovl 19 23 mz h) 18 (.inr (4, [.null, .ref 19, .ref 20, .ref 21, .ref 22, .null, .null, .null, .null, .null, .int 0]))) (g_up_up _ _ _ _) ?_
  refine aw_aload_n (pc := 36) dX4_init_36 rfl ?_
  refine aw_bipush (pc := 37) (10) dX4_init_37 (by decide) ?_
  refine aw_newI (pc := 39) (N' := 10) 23 (ov_fresh (by decide) (hf 23 (by decide) (by decide))) (by rw [hsc]; decide) ac_int (by decide) (by decide) (Nat.le_of_ble_eq_true rfl) (Nat.le_of_ble_eq_true rfl) (Nat.le_of_ble_eq_true rfl) dX4_init_39 ?_
  refine AW.eqh (ov_new (Nat.le_of_ble_eq_true rfl) (by decide) (cel_zI rfl (fun _ => mz_0 _ _))) ?_
  refine aw_putF (pc := 41) tyX4 flo_X4_24 (fun r h => ⟨gty_X4 r h, by cases h; rfl⟩) rfl (fun r h => by cases h; rfl) (g_up_self _ _ _) rfl rfl (by decide) dX4_init_41 ?_
  refine AW.eqh (hp' := g_up (ovl 19 24 mz h) 18 (.inr (4, [.null, .ref 19, .ref 20, .ref 21, .ref 22, .ref 23, .null, .null, .null, .null, .int 0]))) (g_up_up _ _ _ _) ?_
  refine aw_aload_n (pc := 44) dX4_init_44 rfl ?_
  refine aw_bipush (pc := 45) (10) dX4_init_45 (by decide) ?_
  refine aw_newI (pc := 47) (N' := 10) 24 (ov_fresh (by decide) (hf 24 (by decide) (by decide))) (by rw [hsc]; decide) ac_int (by decide) (by decide) (Nat.le_of_ble_eq_true rfl) (Nat.le_of_ble_eq_true rfl) (Nat.le_of_ble_eq_true rfl) dX4_init_47 ?_
  refine AW.eqh (ov_new (Nat.le_of_ble_eq_true rfl) (by decide) (cel_zI rfl (fun _ => mz_0 _ _))) ?_
  refine aw_putF (pc := 49) tyX4 flo_X4_27 (fun r h => ⟨gty_X4 r h, by cases h; rfl⟩) rfl (fun r h => by cases h; rfl) (g_up_self _ _ _) rfl rfl (by decide) dX4_init_49 ?_
  refine AW.eqh (hp' := g_up (ovl 19 25 mz h) 18 (.inr (4, [.null, .ref 19, .ref 20, .ref 21, .ref 22, .ref 23, .ref 24, .null, .null, .null, .int 0]))) (g_up_up _ _ _ _) ?_
  refine aw_aload_n (pc := 52) dX4_init_52 rfl ?_
  refine aw_bipush (pc := 53) (10) dX4_init_53 (by decide) ?_
  refine aw_newI (pc := 55) (N' := 10) 25 (ov_fresh (by decide) (hf 25 (by decide) (by decide))) (by rw [hsc]; decide) ac_int (by decide) (by decide) (Nat.le_of_ble_eq_true rfl) (Nat.le_of_ble_eq_true rfl) (Nat.le_of_ble_eq_true rfl) dX4_init_55 ?_
  refine AW.eqh (ov_new (Nat.le_of_ble_eq_true rfl) (by decide) (cel_zI rfl (fun _ => mz_0 _ _))) ?_
  refine aw_putF (pc := 57) tyX4 flo_X4_30 (fun r h => ⟨gty_X4 r h, by cases h; rfl⟩) rfl (fun r h => by cases h; rfl) (g_up_self _ _ _) rfl rfl (by decide) dX4_init_57 ?_
  refine AW.eqh (hp' := g_up (ovl 19 26 mz h) 18 (.inr (4, [.null, .ref 19, .ref 20, .ref 21, .ref 22, .ref 23, .ref 24, .ref 25, .null, .null, .int 0]))) (g_up_up _ _ _ _) ?_
  refine aw_aload_n (pc := 60) dX4_init_60 rfl ?_
  refine aw_bipush (pc := 61) (10) dX4_init_61 (by decide) ?_
  refine aw_newI (pc := 63) (N' := 10) 26 (ov_fresh (by decide) (hf 26 (by decide) (by decide))) (by rw [hsc]; decide) ac_int (by decide) (by decide) (Nat.le_of_ble_eq_true rfl) (Nat.le_of_ble_eq_true rfl) (Nat.le_of_ble_eq_true rfl) dX4_init_63 ?_
  refine AW.eqh (ov_new (Nat.le_of_ble_eq_true rfl) (by decide) (cel_zI rfl (fun _ => mz_0 _ _))) ?_
  refine aw_putF (pc := 65) tyX4 flo_X4_33 (fun r h => ⟨gty_X4 r h, by cases h; rfl⟩) rfl (fun r h => by cases h; rfl) (g_up_self _ _ _) rfl rfl (by decide) dX4_init_65 ?_
  refine AW.eqh (hp' := g_up (ovl 19 27 mz h) 18 (.inr (4, [.null, .ref 19, .ref 20, .ref 21, .ref 22, .ref 23, .ref 24, .ref 25, .ref 26, .null, .int 0]))) (g_up_up _ _ _ _) ?_
  refine aw_aload_n (pc := 68) dX4_init_68 rfl ?_
  refine aw_sipush (pc := 69) (1000) dX4_init_69 (by decide) ?_
  refine aw_newB (pc := 72) (N' := 1000) 27 (ov_fresh (by decide) (hf 27 (by decide) (by decide))) (by rw [hsc]; decide) ac_byte (by decide) (by decide) (Nat.le_of_ble_eq_true rfl) (Nat.le_of_ble_eq_true rfl) (Nat.le_of_ble_eq_true rfl) dX4_init_72 ?_
  refine AW.eqh (ov_new (Nat.le_of_ble_eq_true rfl) (by decide) (cel_zB rfl (fun _ => mz_0 _ _))) ?_
  refine aw_putF (pc := 74) tyX4 flo_X4_36 (fun r h => ⟨gty_X4 r h, by cases h; rfl⟩) rfl (fun r h => by cases h; rfl) (g_up_self _ _ _) rfl rfl (by decide) dX4_init_74 ?_
  refine AW.eqh (hp' := g_up (ovl 19 28 mz h) 18 (.inr (4, [.null, .ref 19, .ref 20, .ref 21, .ref 22, .ref 23, .ref 24, .ref 25, .ref 26, .ref 27, .int 0]))) (g_up_up _ _ _ _) ?_
  refine aw_aload_n (pc := 77) dX4_init_77 rfl ?_
  refine aw_aload_n (pc := 78) dX4_init_78 rfl ?_
  refine aw_putF (pc := 79) tyX4 flo_X4_40 (fun r h => ⟨gty_X4 r h, by cases h; rfl⟩) rfl (fun r h => by cases h; rfl) (g_up_self _ _ _) rfl rfl (by decide) dX4_init_79 ?_
  refine AW.eqh (hp' := g_up (ovl 19 28 mz h) 18 (.inr (4, [.ref 4, .ref 19, .ref 20, .ref 21, .ref 22, .ref 23, .ref 24, .ref 25, .ref 26, .ref 27, .int 0]))) (g_up_up _ _ _ _) ?_
  refine aw_vret (pc := 82) rfl (Nat.le_of_ble_eq_true rfl) (Nat.le_of_ble_eq_true rfl) dX4_init_82 ⟨rfl, ?_⟩
  exact ov_end (by decide) rfl
set_option maxRecDepth 100000 in
set_option maxHeartbeats 8000000 in
theorem c_X0_init (l : Launch) (sc : g_S) (hsc : sc.1 = 0) (h : g_H) (ho : h 33 = some (.inr (0, [.null, .null, .null, .null, .int 0]))) (hf : ∀ q, 34 ≤ q → q < 36 → h q = none) : AMet l sc yX0_init cX0_init 1 none 1 2 22 [.ref 33] h (fun v hp' => v = none ∧ hp' = ovl 33 36 mz h) := by
  have h1 : h = g_up (ovl 34 34 mz h) 33 (.inr (0, [.null, .null, .null, .null, .int 0])) := by rw [ovl_nil]; exact g_up_id ho
  refine AMet.of (own := RX0) (by decide +kernel) rfl (Nat.le_of_ble_eq_true rfl) [(0, .ref 33)] rfl (fun D base ad => ?_)
  refine AW.eqh h1 ?_
  refine aw_aload_n (pc := 0) dX0_init_0 rfl ?_
  refine aw_objInit (pc := 1) oi_X0_3 oi_inst oi_code (Nat.le_of_ble_eq_true rfl) (Nat.le_of_ble_eq_true rfl) dX0_init_1 ?_
  refine aw_aload_n (pc := 4) dX0_init_4 rfl ?_
  refine aw_bipush (pc := 5) (11) dX0_init_5 (by decide) ?_
  refine aw_newI (pc := 7) (N' := 11) 34 (ov_fresh (by decide) (hf 34 (by decide) (by decide))) (by rw [hsc]; decide) ac_int (by decide) (by decide) (Nat.le_of_ble_eq_true rfl) (Nat.le_of_ble_eq_true rfl) (Nat.le_of_ble_eq_true rfl) dX0_init_7 ?_
  refine AW.eqh (ov_new (Nat.le_of_ble_eq_true rfl) (by decide) (cel_zI rfl (fun _ => mz_0 _ _))) ?_
  refine aw_putF (pc := 9) tyX0 flo_X0_11 (fun r h => ⟨gty_X0 r h, by cases h; rfl⟩) rfl (fun r h => by cases h; rfl) (g_up_self _ _ _) rfl rfl (by decide) dX0_init_9 ?_
  refine AW.eqh (hp' := g_up (ovl 34 35 mz h) 33 (.inr (0, [.ref 34, .null, .null, .null, .int 0]))) (g_up_up _ _ _ _) ?_
  refine aw_aload_n (pc := 12) dX0_init_12 rfl ?_
  refine aw_bipush (pc := 13) (11) dX0_init_13 (by decide) ?_
  refine aw_newI (pc := 15) (N' := 11) 35 (ov_fresh (by decide) (hf 35 (by decide) (by decide))) (by rw [hsc]; decide) ac_int (by decide) (by decide) (Nat.le_of_ble_eq_true rfl) (Nat.le_of_ble_eq_true rfl) (Nat.le_of_ble_eq_true rfl) dX0_init_15 ?_
  refine AW.eqh (ov_new (Nat.le_of_ble_eq_true rfl) (by decide) (cel_zI rfl (fun _ => mz_0 _ _))) ?_
  refine aw_putF (pc := 17) tyX0 flo_X0_15 (fun r h => ⟨gty_X0 r h, by cases h; rfl⟩) rfl (fun r h => by cases h; rfl) (g_up_self _ _ _) rfl rfl (by decide) dX0_init_17 ?_
  refine AW.eqh (hp' := g_up (ovl 34 36 mz h) 33 (.inr (0, [.ref 34, .ref 35, .null, .null, .int 0]))) (g_up_up _ _ _ _) ?_
  refine aw_vret (pc := 20) rfl (Nat.le_of_ble_eq_true rfl) (Nat.le_of_ble_eq_true rfl) dX0_init_20 ⟨rfl, ?_⟩
  exact ov_end (by decide) rfl
set_option maxRecDepth 100000 in
set_option maxHeartbeats 8000000 in
theorem c_X3_init (l : Launch) (sc : g_S) (hsc : sc.1 = 0) (h : g_H) (ho : h 39 = some (.inr (3, [.null, .null, .null, .int 0]))) (hf : ∀ q, 40 ≤ q → q < 41 → h q = none) : AMet l sc yX3_init cX3_init 3 none 1 1 67 [.ref 39, .ref 4, .ref 18] h (fun v hp' => v = none ∧ hp' = ovl 39 41 mz h) := by
  have h1 : h = g_up (ovl 40 40 mz h) 39 (.inr (3, [.null, .null, .null, .int 0])) := by rw [ovl_nil]; exact g_up_id ho
  refine AMet.of (own := RX3) (by decide +kernel) rfl (Nat.le_of_ble_eq_true rfl) [(0, .ref 39), (1, .ref 4), (2, .ref 18)] rfl (fun D base ad => ?_)
  refine AW.eqh h1 ?_
  refine aw_aload_n (pc := 0) dX3_init_0 rfl ?_
  refine aw_objInit (pc := 1) oi_X3_1 oi_inst oi_code (Nat.le_of_ble_eq_true rfl) (Nat.le_of_ble_eq_true rfl) dX3_init_1 ?_
  refine aw_aload_n (pc := 4) dX3_init_4 rfl ?_
  refine aw_bipush (pc := 5) (67) dX3_init_5 (by decide) ?_
  refine aw_newQ (pc := 7) (N' := 67) 40 (ov_fresh (by decide) (hf 40 (by decide) (by decide))) (by rw [hsc]; decide) kl_X3_9 (by decide) (by decide) (Nat.le_of_ble_eq_true rfl) (Nat.le_of_ble_eq_true rfl) (Nat.le_of_ble_eq_true rfl) dX3_init_7 ?_
  refine AW.eqh (ov_new (Nat.le_of_ble_eq_true rfl) (by decide) (cel_zQ rfl (fun _ => mz_0 _ _))) ?_
  refine aw_putF (pc := 10) tyX3 flo_X3_11 (fun r h => ⟨gty_X3 r h, by cases h; rfl⟩) rfl (fun r h => by cases h; rfl) (g_up_self _ _ _) rfl rfl (by decide) dX3_init_10 ?_
  refine AW.eqh (hp' := g_up (ovl 40 41 mz h) 39 (.inr (3, [.null, .null, .ref 40, .int 0]))) (g_up_up _ _ _ _) ?_
  refine aw_aload_n (pc := 13) dX3_init_13 rfl ?_
  refine aw_aload_n (pc := 14) dX3_init_14 rfl ?_
  refine aw_putF (pc := 15) tyX3 flo_X3_15 (fun r h => ⟨gty_X3 r h, by cases h; rfl⟩) rfl (fun r h => by cases h; rfl) (g_up_self _ _ _) rfl rfl (by decide) dX3_init_15 ?_
  refine AW.eqh (hp' := g_up (ovl 40 41 mz h) 39 (.inr (3, [.ref 4, .null, .ref 40, .int 0]))) (g_up_up _ _ _ _) ?_
  refine aw_aload_n (pc := 18) dX3_init_18 rfl ?_
  refine aw_aload_n (pc := 19) dX3_init_19 rfl ?_
  refine aw_putF (pc := 20) tyX3 flo_X3_19 (fun r h => ⟨gty_X3 r h, by cases h; rfl⟩) rfl (fun r h => by cases h; rfl) (g_up_self _ _ _) rfl rfl (by decide) dX3_init_20 ?_
  refine AW.eqh (hp' := g_up (ovl 40 41 mz h) 39 (.inr (3, [.ref 4, .ref 18, .ref 40, .int 0]))) (g_up_up _ _ _ _) ?_
  refine aw_vret (pc := 23) rfl (Nat.le_of_ble_eq_true rfl) (Nat.le_of_ble_eq_true rfl) dX3_init_23 ⟨rfl, ?_⟩
  exact ov_end (by decide) rfl
set_option maxRecDepth 100000 in
set_option maxHeartbeats 8000000 in
theorem c_X7_init (l : Launch) (sc : g_S) (hsc : sc.1 = 0) (h : g_H) (ho : h 41 = some (.inr (7, [.null, .null, .null, .null, .int 0, .int 0, .int 0, .int 0]))) (hf : ∀ q, 42 ≤ q → q < 45 → h q = none) : AMet l sc yX7_init cX7_init 2 none 1 3 360 [.ref 41, .ref 28] h (fun v hp' => v = none ∧ hp' = ovl 41 45 mz h) := by
  have h1 : h = g_up (ovl 42 42 mz h) 41 (.inr (7, [.null, .null, .null, .null, .int 0, .int 0, .int 0, .int 0])) := by rw [ovl_nil]; exact g_up_id ho
  refine AMet.of (own := RX7) (by decide +kernel) rfl (Nat.le_of_ble_eq_true rfl) [(0, .ref 41), (1, .ref 28)] rfl (fun D base ad => ?_)
  refine AW.eqh h1 ?_
  refine aw_aload_n (pc := 0) dX7_init_0 rfl ?_
  refine aw_objInit (pc := 1) oi_X7_1 oi_inst oi_code (Nat.le_of_ble_eq_true rfl) (Nat.le_of_ble_eq_true rfl) dX7_init_1 ?_
  refine aw_aload_n (pc := 4) dX7_init_4 rfl ?_
  refine aw_bipush (pc := 5) (120) dX7_init_5 (by decide) ?_
  refine aw_newB (pc := 7) (N' := 120) 42 (ov_fresh (by decide) (hf 42 (by decide) (by decide))) (by rw [hsc]; decide) ac_byte (by decide) (by decide) (Nat.le_of_ble_eq_true rfl) (Nat.le_of_ble_eq_true rfl) (Nat.le_of_ble_eq_true rfl) dX7_init_7 ?_
  refine AW.eqh (ov_new (Nat.le_of_ble_eq_true rfl) (by decide) (cel_zB rfl (fun _ => mz_0 _ _))) ?_
  refine aw_putF (pc := 9) tyX7 flo_X7_9 (fun r h => ⟨gty_X7 r h, by cases h; rfl⟩) rfl (fun r h => by cases h; rfl) (g_up_self _ _ _) rfl rfl (by decide) dX7_init_9 ?_
  refine AW.eqh (hp' := g_up (ovl 42 43 mz h) 41 (.inr (7, [.null, .ref 42, .null, .null, .int 0, .int 0, .int 0, .int 0]))) (g_up_up _ _ _ _) ?_
  refine aw_aload_n (pc := 12) dX7_init_12 rfl ?_
  refine aw_bipush (pc := 13) (120) dX7_init_13 (by decide) ?_
  refine aw_newI (pc := 15) (N' := 120) 43 (ov_fresh (by decide) (hf 43 (by decide) (by decide))) (by rw [hsc]; decide) ac_int (by decide) (by decide) (Nat.le_of_ble_eq_true rfl) (Nat.le_of_ble_eq_true rfl) (Nat.le_of_ble_eq_true rfl) dX7_init_15 ?_
  refine AW.eqh (ov_new (Nat.le_of_ble_eq_true rfl) (by decide) (cel_zI rfl (fun _ => mz_0 _ _))) ?_
  refine aw_putF (pc := 17) tyX7 flo_X7_13 (fun r h => ⟨gty_X7 r h, by cases h; rfl⟩) rfl (fun r h => by cases h; rfl) (g_up_self _ _ _) rfl rfl (by decide) dX7_init_17 ?_
  refine AW.eqh (hp' := g_up (ovl 42 44 mz h) 41 (.inr (7, [.null, .ref 42, .ref 43, .null, .int 0, .int 0, .int 0, .int 0]))) (g_up_up _ _ _ _) ?_
  refine aw_aload_n (pc := 20) dX7_init_20 rfl ?_
  refine aw_bipush (pc := 21) (120) dX7_init_21 (by decide) ?_
  refine aw_newQ (pc := 23) (N' := 120) 44 (ov_fresh (by decide) (hf 44 (by decide) (by decide))) (by rw [hsc]; decide) kl_X7_17 (by decide) (by decide) (Nat.le_of_ble_eq_true rfl) (Nat.le_of_ble_eq_true rfl) (Nat.le_of_ble_eq_true rfl) dX7_init_23 ?_
  refine AW.eqh (ov_new (Nat.le_of_ble_eq_true rfl) (by decide) (cel_zQ rfl (fun _ => mz_0 _ _))) ?_
  refine aw_putF (pc := 26) tyX7 flo_X7_19 (fun r h => ⟨gty_X7 r h, by cases h; rfl⟩) rfl (fun r h => by cases h; rfl) (g_up_self _ _ _) rfl rfl (by decide) dX7_init_26 ?_
  refine AW.eqh (hp' := g_up (ovl 42 45 mz h) 41 (.inr (7, [.null, .ref 42, .ref 43, .ref 44, .int 0, .int 0, .int 0, .int 0]))) (g_up_up _ _ _ _) ?_
  refine aw_aload_n (pc := 29) dX7_init_29 rfl ?_
  refine aw_aload_n (pc := 30) dX7_init_30 rfl ?_
  refine aw_putF (pc := 31) tyX7 flo_X7_23 (fun r h => ⟨gty_X7 r h, by cases h; rfl⟩) rfl (fun r h => by cases h; rfl) (g_up_self _ _ _) rfl rfl (by decide) dX7_init_31 ?_
  refine AW.eqh (hp' := g_up (ovl 42 45 mz h) 41 (.inr (7, [.ref 28, .ref 42, .ref 43, .ref 44, .int 0, .int 0, .int 0, .int 0]))) (g_up_up _ _ _ _) ?_
  refine aw_vret (pc := 34) rfl (Nat.le_of_ble_eq_true rfl) (Nat.le_of_ble_eq_true rfl) dX7_init_34 ⟨rfl, ?_⟩
  exact ov_end (by decide) rfl
set_option maxRecDepth 100000 in
set_option maxHeartbeats 8000000 in
theorem c_X8_init (l : Launch) (sc : g_S) (hsc : sc.1 = 0) (h : g_H) (z : Nat) (hz : z < 2147483648) (ho : h 36 = some (.inr (8, [.null, .null, .null, .null, .null]))) (hf : ∀ q, 37 ≤ q → q < 39 → h q = none) : AMet l sc yX8_init cX8_init 4 none 1 2 20 [.ref 36, .ref 4, .ref 33, rv z] h (fun v hp' => v = none ∧ hp' = ovl 36 39 (mSet mz 36 2 z) h) := by
  have h1 : h = g_up (ovl 37 37 mz h) 36 (.inr (8, [.null, .null, .null, .null, .null])) := by rw [ovl_nil]; exact g_up_id ho
  refine AMet.of (own := RX8) (by decide +kernel) rfl (by rcases rv_or z with e | ⟨_, e⟩ <;> simp only [e] <;> exact Nat.le_of_ble_eq_true rfl) [(0, .ref 36), (1, .ref 4), (2, .ref 33), (3, rv z)] (by rcases rv_or z with e | ⟨_, e⟩ <;> simp only [e] <;> rfl) (fun D base ad => ?_)
  refine AW.eqh h1 ?_
  refine aw_aload_n (pc := 0) dX8_init_0 rfl ?_
  refine aw_objInit (pc := 1) oi_X8_3 oi_inst oi_code (Nat.le_of_ble_eq_true rfl) (Nat.le_of_ble_eq_true rfl) dX8_init_1 ?_
  refine aw_aload_n (pc := 4) dX8_init_4 rfl ?_
  refine aw_bipush (pc := 5) (10) dX8_init_5 (by decide) ?_
  refine aw_newI (pc := 7) (N' := 10) 37 (ov_fresh (by decide) (hf 37 (by decide) (by decide))) (by rw [hsc]; decide) ac_int (by decide) (by decide) (Nat.le_of_ble_eq_true rfl) (Nat.le_of_ble_eq_true rfl) (Nat.le_of_ble_eq_true rfl) dX8_init_7 ?_
  refine AW.eqh (ov_new (Nat.le_of_ble_eq_true rfl) (by decide) (cel_zI rfl (fun _ => mz_0 _ _))) ?_
  refine aw_putF (pc := 9) tyX8 flo_X8_9 (fun r h => ⟨gty_X8 r h, by cases h; rfl⟩) rfl (fun r h => by cases h; rfl) (g_up_self _ _ _) rfl rfl (by decide) dX8_init_9 ?_
  refine AW.eqh (hp' := g_up (ovl 37 38 mz h) 36 (.inr (8, [.null, .null, .null, .ref 37, .null]))) (g_up_up _ _ _ _) ?_
  refine aw_aload_n (pc := 12) dX8_init_12 rfl ?_
  refine aw_bipush (pc := 13) (10) dX8_init_13 (by decide) ?_
  refine aw_newI (pc := 15) (N' := 10) 38 (ov_fresh (by decide) (hf 38 (by decide) (by decide))) (by rw [hsc]; decide) ac_int (by decide) (by decide) (Nat.le_of_ble_eq_true rfl) (Nat.le_of_ble_eq_true rfl) (Nat.le_of_ble_eq_true rfl) dX8_init_15 ?_
  refine AW.eqh (ov_new (Nat.le_of_ble_eq_true rfl) (by decide) (cel_zI rfl (fun _ => mz_0 _ _))) ?_
  refine aw_putF (pc := 17) tyX8 flo_X8_15 (fun r h => ⟨gty_X8 r h, by cases h; rfl⟩) rfl (fun r h => by cases h; rfl) (g_up_self _ _ _) rfl rfl (by decide) dX8_init_17 ?_
  refine AW.eqh (hp' := g_up (ovl 37 39 mz h) 36 (.inr (8, [.null, .null, .null, .ref 37, .ref 38]))) (g_up_up _ _ _ _) ?_
  refine aw_aload_n (pc := 20) dX8_init_20 rfl ?_
  refine aw_aload_n (pc := 21) dX8_init_21 rfl ?_
  refine aw_putF (pc := 22) tyX8 flo_X8_18 (fun r h => ⟨gty_X8 r h, by cases h; rfl⟩) rfl (fun r h => by cases h; rfl) (g_up_self _ _ _) rfl rfl (by decide) dX8_init_22 ?_
  refine AW.eqh (hp' := g_up (ovl 37 39 mz h) 36 (.inr (8, [.ref 4, .null, .null, .ref 37, .ref 38]))) (g_up_up _ _ _ _) ?_
  refine aw_aload_n (pc := 25) dX8_init_25 rfl ?_
  refine aw_aload_n (pc := 26) dX8_init_26 rfl ?_
  refine aw_putF (pc := 27) tyX8 flo_X8_22 (fun r h => ⟨gty_X8 r h, by cases h; rfl⟩) rfl (fun r h => by cases h; rfl) (g_up_self _ _ _) rfl rfl (by decide) dX8_init_27 ?_
  refine AW.eqh (hp' := g_up (ovl 37 39 mz h) 36 (.inr (8, [.ref 4, .ref 33, .null, .ref 37, .ref 38]))) (g_up_up _ _ _ _) ?_
  refine aw_aload_n (pc := 30) dX8_init_30 rfl ?_
  refine cx_aload_n (pc := 31) dX8_init_31 rfl ?_
  refine aw_putF (pc := 32) tyX8 flo_X8_26 (fun r h => ⟨gty_X8 r h, by cases h; rfl⟩) rfl (fun r h => by cases h; rfl) (g_up_self _ _ _) (rv_narrow _ _) (by rcases rv_or _ with h | ⟨a, h⟩ <;> rw [h] <;> rfl) (by decide) dX8_init_32 ?_
  refine AW.eqh (hp' := g_up (ovl 37 39 mz h) 36 (.inr (8, [.ref 4, .ref 33, rv z, .ref 37, .ref 38]))) (g_up_up _ _ _ _) ?_
  refine aw_vret (pc := 35) rfl (Nat.le_of_ble_eq_true rfl) (Nat.le_of_ble_eq_true rfl) dX8_init_35 ⟨rfl, ?_⟩
  have e1 : ovl 37 39 mz h = ovl 37 39 (mSet mz 36 2 z) h := by
    funext j
    unfold ovl
    by_cases q : 37 ≤ j ∧ j < 39
    · rw [if_pos q, if_pos q]; exact (cel_mSet (by omega)).symm
    · rw [if_neg q, if_neg q]
  rw [e1]
  refine ov_end (by decide) ?_
  rw [cel_obj (c := 8) rfl]
  refine congrArg (fun f => some (Sum.inr (8, f))) ?_
  have e2 : mGet (mSet mz 36 2 z) 36 2 = (z : Int) := by rw [mGet_mSet, if_pos ⟨rfl, rfl⟩]; exact w32_id (by omega) (by omega)
  show [Value.ref 4, Value.ref 33, rv (mGet (mSet mz 36 2 z) 36 2).toNat, Value.ref 37, Value.ref 38] = _
  rw [e2, Int.toNat_natCast]
theorem ov_newM {lo k o : Nat} {m : Mem} {h : g_H} {c0 : g_E} (hlo : lo ≤ k) (ho : ∀ i, i < 5 → k + i ≠ o) (h0 : cel m k = some (.inl (.array .int, (4, .inr (.inr (.inr (.inr fun j => if j < 4 then some (k + 1 + j) else none))))))) (h1 : ∀ i, i < 4 → cel m (k + 1 + i) = some (.inl (.int, (24, .inl fun _ => 0)))) : newM (g_up (ovl lo k m h) o c0) k = g_up (ovl lo (k + 5) m h) o c0 := by
  unfold newM
  rw [ov_new hlo (ho 0 (by decide)) h0, ov_new (k := k + 1) (by omega) (ho 1 (by decide)) (h1 0 (by decide)), ov_new (k := k + 1 + 1) (by omega) (ho 2 (by decide)) (h1 1 (by decide)), ov_new (k := k + 1 + 1 + 1) (by omega) (ho 3 (by decide)) (h1 2 (by decide)), ov_new (k := k + 1 + 1 + 1 + 1) (by omega) (ho 4 (by decide)) (h1 3 (by decide))]
theorem newM5 : cel mz 51 = some (.inl (.array .int, (4, .inr (.inr (.inr (.inr fun j => if j < 4 then some (51 + 1 + j) else none)))))) := cel_rows rfl
theorem newM6 : ∀ i, i < 4 → cel mz (51 + 1 + i) = some (.inl (.int, (24, .inl fun _ => 0))) := by
  intro i hi
  rcases (by omega : i = 0 ∨ i = 1 ∨ i = 2 ∨ i = 3) with rfl | rfl | rfl | rfl <;> exact cel_zI rfl (fun _ => mz_0 _ _)
set_option maxRecDepth 100000 in
set_option maxHeartbeats 8000000 in
theorem c_X5_init (l : Launch) (sc : g_S) (hsc : sc.1 = 0) (h : g_H) (x0 : vp_A) (h8 : h 9 = some (.inl (.int, x0))) (ho : h 50 = some (.inr (5, [.null, .null, .null]))) (hf : ∀ q, 51 ≤ q → q < 58 → h q = none) : AMet l sc yX5_init cX5_init 1 none 1 7 108 [.ref 50] h (fun v hp' => v = none ∧ hp' = ovl 50 58 mz h) := by
  have h1 : h = g_up (ovl 51 51 mz h) 50 (.inr (5, [.null, .null, .null])) := by rw [ovl_nil]; exact g_up_id ho
  refine AMet.of (own := RX5) (by decide +kernel) rfl (Nat.le_of_ble_eq_true rfl) [(0, .ref 50)] rfl (fun D base ad => ?_)
  refine AW.eqh h1 ?_
  refine aw_aload_n (pc := 0) dX5_init_0 rfl ?_
  refine aw_objInit (pc := 1) oi_X5_1 oi_inst oi_code (Nat.le_of_ble_eq_true rfl) (Nat.le_of_ble_eq_true rfl) dX5_init_1 ?_
  refine aw_aload_n (pc := 4) dX5_init_4 rfl ?_
  refine aw_iconst (pc := 5) (4) dX5_init_5 (by decide) ?_
  refine aw_bipush (pc := 6) (24) dX5_init_6 (by decide) ?_
  refine aw_newM (pc := 8) 51 9 x0 (by rw [g_up_ne _ _ (by decide), ovl_out (by decide)]; exact h8) (fun i hi => by rw [g_up_ne _ _ (by omega), ovl_out (by omega)]; exact hf _ (by omega) (by omega)) (by rw [hsc]; decide) kl_X5_9 (Nat.le_of_ble_eq_true rfl) (Nat.le_of_ble_eq_true rfl) dX5_init_8 ?_
  refine AW.eqh (ov_newM (by decide) (fun i hi => by omega) newM5 newM6) ?_
  refine aw_putF (pc := 12) tyX5 flo_X5_11 (fun r h => ⟨gty_X5 r h, by cases h; rfl⟩) rfl (fun r h => by cases h; rfl) (g_up_self _ _ _) rfl rfl (by decide) dX5_init_12 ?_
  refine AW.eqh (hp' := g_up (ovl 51 56 mz h) 50 (.inr (5, [.ref 51, .null, .null]))) (g_up_up _ _ _ _) ?_
  refine aw_aload_n (pc := 15) dX5_init_15 rfl ?_
  refine aw_iconst (pc := 16) (4) dX5_init_16 (by decide) ?_
  refine aw_newI (pc := 17) (N' := 4) 56 (ov_fresh (by decide) (hf 56 (by decide) (by decide))) (by rw [hsc]; decide) ac_int (by decide) (by decide) (Nat.le_of_ble_eq_true rfl) (Nat.le_of_ble_eq_true rfl) (Nat.le_of_ble_eq_true rfl) dX5_init_17 ?_
  refine AW.eqh (ov_new (Nat.le_of_ble_eq_true rfl) (by decide) (cel_zI rfl (fun _ => mz_0 _ _))) ?_
  refine aw_putF (pc := 19) tyX5 flo_X5_14 (fun r h => ⟨gty_X5 r h, by cases h; rfl⟩) rfl (fun r h => by cases h; rfl) (g_up_self _ _ _) rfl rfl (by decide) dX5_init_19 ?_
  refine AW.eqh (hp' := g_up (ovl 51 57 mz h) 50 (.inr (5, [.ref 51, .ref 56, .null]))) (g_up_up _ _ _ _) ?_
  refine aw_aload_n (pc := 22) dX5_init_22 rfl ?_
  refine aw_iconst (pc := 23) (4) dX5_init_23 (by decide) ?_
  refine aw_newI (pc := 24) (N' := 4) 57 (ov_fresh (by decide) (hf 57 (by decide) (by decide))) (by rw [hsc]; decide) ac_int (by decide) (by decide) (Nat.le_of_ble_eq_true rfl) (Nat.le_of_ble_eq_true rfl) (Nat.le_of_ble_eq_true rfl) dX5_init_24 ?_
  refine AW.eqh (ov_new (Nat.le_of_ble_eq_true rfl) (by decide) (cel_zI rfl (fun _ => mz_0 _ _))) ?_
  refine aw_putF (pc := 26) tyX5 flo_X5_18 (fun r h => ⟨gty_X5 r h, by cases h; rfl⟩) rfl (fun r h => by cases h; rfl) (g_up_self _ _ _) rfl rfl (by decide) dX5_init_26 ?_
  refine AW.eqh (hp' := g_up (ovl 51 58 mz h) 50 (.inr (5, [.ref 51, .ref 56, .ref 57]))) (g_up_up _ _ _ _) ?_
  refine aw_vret (pc := 29) rfl (Nat.le_of_ble_eq_true rfl) (Nat.le_of_ble_eq_true rfl) dX5_init_29 ⟨rfl, ?_⟩
  exact ov_end (by decide) rfl
def f_X2_tail (n : Nat)  (mi : Mem) : Option Rz :=
  cal (f_X9_clear n mi) fun _ m47 =>
  cal (f_X2_pairOf n 0 0 m47) fun x53 m53 =>
  cal (f_X2_pairOf n 0 x53 m53) fun x62 m62 =>
  cal (f_X4_written n x62 m62) fun x65 m65 =>
  ptG m65 28 6 x65.toNat fun m68 =>
  rt 0 m68
set_option maxRecDepth 100000 in
set_option maxHeartbeats 8000000 in
theorem c_X2_init (l : Launch) (sc : g_S) (hsc : sc.1 = 0) (n : Nat) (m : Mem) (hb : g_H) (r : Rz) (ho : hb 28 = some (.inr (2, [.null, .null, .null, .null, .null, .null, .null]))) (hf : ∀ q, 29 ≤ q → q < 33 → hb q = none) (H : f_X2_tail n (mg 28 33 mz m) = some r) : AMet l sc yX2_init cX2_init 4 none 5 8 393 [.ref 28, .ref 4, .ref 18] (ovS 28 m hb) (pV (fun m => ovS 33 m hb) r) := by
  obtain ⟨h, hh⟩ : ∃ h, h = ovS 28 m hb := ⟨_, rfl⟩
  have h1 : h = g_up (ovl 29 29 mz h) 28 (.inr (2, [.null, .null, .null, .null, .null, .null, .null])) := by rw [ovl_nil]; exact g_up_id (by rw [hh, ovS_at (by decide)]; exact ho)
  have hf : ∀ q, 29 ≤ q → q < 33 → h q = none := fun q q1 q2 => by rw [hh, ovS_at (by omega)]; exact hf q q1 q2
  rw [← hh]
  have hE : LE (fun m => ovS 33 m hb) (fun q => (4 ≤ q ∧ q < 33) ∨ 1000 ≤ q) := LE_ovS 33 hb
  have hR : RMK (fun q => (4 ≤ q ∧ q < 33) ∨ 1000 ≤ q) := ⟨fun q q1 q2 => Or.inl ⟨q1, q2⟩, fun q q1 => Or.inr q1⟩
  generalize hEE : (fun m => ovS 33 m hb) = E at hE
  generalize (fun q => (4 ≤ q ∧ q < 33) ∨ 1000 ≤ q) = R at hE hR
  have e9 : ovl 28 33 mz h = E (mg 28 33 mz m) := by rw [hh, ← hEE]; exact ovS_ovl (by decide) (by decide) (by decide)
  obtain ⟨mi, hmi⟩ : ∃ mi, mi = mg 28 33 mz m := ⟨_, rfl⟩
  rw [← hmi] at e9 H
  refine AMet.of (own := RX2) (by decide +kernel) rfl (Nat.le_of_ble_eq_true rfl) [(0, .ref 28), (1, .ref 4), (2, .ref 18)] rfl (fun D base ad => ?_)
  refine AW.eqh h1 ?_
  refine aw_aload_n (pc := 0) dX2_init_0 rfl ?_
  refine aw_objInit (pc := 1) oi_X2_3 oi_inst oi_code (Nat.le_of_ble_eq_true rfl) (Nat.le_of_ble_eq_true rfl) dX2_init_1 ?_
  refine aw_aload_n (pc := 4) dX2_init_4 rfl ?_
  refine aw_bipush (pc := 5) (11) dX2_init_5 (by decide) ?_
  refine aw_newI (pc := 7) (N' := 11) 29 (ov_fresh (by decide) (hf 29 (by decide) (by decide))) (by rw [hsc]; decide) ac_int (by decide) (by decide) (Nat.le_of_ble_eq_true rfl) (Nat.le_of_ble_eq_true rfl) (Nat.le_of_ble_eq_true rfl) dX2_init_7 ?_
  refine AW.eqh (ov_new (Nat.le_of_ble_eq_true rfl) (by decide) (cel_zI rfl (fun _ => mz_0 _ _))) ?_
  refine aw_putF (pc := 9) tyX2 flo_X2_11 (fun r h => ⟨gty_X2 r h, by cases h; rfl⟩) rfl (fun r h => by cases h; rfl) (g_up_self _ _ _) rfl rfl (by decide) dX2_init_9 ?_
  refine AW.eqh (hp' := g_up (ovl 29 30 mz h) 28 (.inr (2, [.null, .null, .ref 29, .null, .null, .null, .null]))) (g_up_up _ _ _ _) ?_
  refine aw_aload_n (pc := 12) dX2_init_12 rfl ?_
  refine aw_bipush (pc := 13) (121) dX2_init_13 (by decide) ?_
  refine aw_newI (pc := 15) (N' := 121) 30 (ov_fresh (by decide) (hf 30 (by decide) (by decide))) (by rw [hsc]; decide) ac_int (by decide) (by decide) (Nat.le_of_ble_eq_true rfl) (Nat.le_of_ble_eq_true rfl) (Nat.le_of_ble_eq_true rfl) dX2_init_15 ?_
  refine AW.eqh (ov_new (Nat.le_of_ble_eq_true rfl) (by decide) (cel_zI rfl (fun _ => mz_0 _ _))) ?_
  refine aw_putF (pc := 17) tyX2 flo_X2_15 (fun r h => ⟨gty_X2 r h, by cases h; rfl⟩) rfl (fun r h => by cases h; rfl) (g_up_self _ _ _) rfl rfl (by decide) dX2_init_17 ?_
  refine AW.eqh (hp' := g_up (ovl 29 31 mz h) 28 (.inr (2, [.null, .null, .ref 29, .ref 30, .null, .null, .null]))) (g_up_up _ _ _ _) ?_
  refine aw_aload_n (pc := 20) dX2_init_20 rfl ?_
  refine aw_bipush (pc := 21) (16) dX2_init_21 (by decide) ?_
  refine aw_newI (pc := 23) (N' := 16) 31 (ov_fresh (by decide) (hf 31 (by decide) (by decide))) (by rw [hsc]; decide) ac_int (by decide) (by decide) (Nat.le_of_ble_eq_true rfl) (Nat.le_of_ble_eq_true rfl) (Nat.le_of_ble_eq_true rfl) dX2_init_23 ?_
  refine AW.eqh (ov_new (Nat.le_of_ble_eq_true rfl) (by decide) (cel_zI rfl (fun _ => mz_0 _ _))) ?_
  refine aw_putF (pc := 25) tyX2 flo_X2_18 (fun r h => ⟨gty_X2 r h, by cases h; rfl⟩) rfl (fun r h => by cases h; rfl) (g_up_self _ _ _) rfl rfl (by decide) dX2_init_25 ?_
  refine AW.eqh (hp' := g_up (ovl 29 32 mz h) 28 (.inr (2, [.null, .null, .ref 29, .ref 30, .ref 31, .null, .null]))) (g_up_up _ _ _ _) ?_
  refine aw_aload_n (pc := 28) dX2_init_28 rfl ?_
  refine aw_bipush (pc := 29) (120) dX2_init_29 (by decide) ?_
  refine aw_newI (pc := 31) (N' := 120) 32 (ov_fresh (by decide) (hf 32 (by decide) (by decide))) (by rw [hsc]; decide) ac_int (by decide) (by decide) (Nat.le_of_ble_eq_true rfl) (Nat.le_of_ble_eq_true rfl) (Nat.le_of_ble_eq_true rfl) dX2_init_31 ?_
  refine AW.eqh (ov_new (Nat.le_of_ble_eq_true rfl) (by decide) (cel_zI rfl (fun _ => mz_0 _ _))) ?_
  refine aw_putF (pc := 33) tyX2 flo_X2_23 (fun r h => ⟨gty_X2 r h, by cases h; rfl⟩) rfl (fun r h => by cases h; rfl) (g_up_self _ _ _) rfl rfl (by decide) dX2_init_33 ?_
  refine AW.eqh (hp' := g_up (ovl 29 33 mz h) 28 (.inr (2, [.null, .null, .ref 29, .ref 30, .ref 31, .ref 32, .null]))) (g_up_up _ _ _ _) ?_
  refine aw_aload_n (pc := 36) dX2_init_36 rfl ?_
  refine aw_aload_n (pc := 37) dX2_init_37 rfl ?_
  refine aw_putF (pc := 38) tyX2 flo_X2_26 (fun r h => ⟨gty_X2 r h, by cases h; rfl⟩) rfl (fun r h => by cases h; rfl) (g_up_self _ _ _) rfl rfl (by decide) dX2_init_38 ?_
  refine AW.eqh (hp' := g_up (ovl 29 33 mz h) 28 (.inr (2, [.ref 4, .null, .ref 29, .ref 30, .ref 31, .ref 32, .null]))) (g_up_up _ _ _ _) ?_
  refine aw_aload_n (pc := 41) dX2_init_41 rfl ?_
  refine aw_aload_n (pc := 42) dX2_init_42 rfl ?_
  refine aw_putF (pc := 43) tyX2 flo_X2_30 (fun r h => ⟨gty_X2 r h, by cases h; rfl⟩) rfl (fun r h => by cases h; rfl) (g_up_self _ _ _) rfl rfl (by decide) dX2_init_43 ?_
  refine AW.eqh (hp' := g_up (ovl 29 33 mz h) 28 (.inr (2, [.ref 4, .ref 18, .ref 29, .ref 30, .ref 31, .ref 32, .null]))) (g_up_up _ _ _ _) ?_
  refine AW.eqh (ov_end (by decide) rfl) ?_
  refine AW.eqh e9 ?_
  unfold f_X2_tail at H
  have r4 : R 4 := hR.1 4 (Nat.le_of_ble_eq_true rfl) (Nat.le_of_ble_eq_true rfl)
  have r18 : R 18 := hR.1 18 (Nat.le_of_ble_eq_true rfl) (Nat.le_of_ble_eq_true rfl)
  have r28 : R 28 := hR.1 28 (Nat.le_of_ble_eq_true rfl) (Nat.le_of_ble_eq_true rfl)
  refine aw_aload_n (pc := 46) dX2_init_46 rfl ?_
  refine cx_callV (pc := 47) (P := pV) (dC := 3) (mcC := 0) (msC := 0) [] hE r4 (fun r1 H1 => s_X9_clear l sc E R hE hR.ys n mi r1 H1) ca_X2_34 rfl ⟨_, rfl, rfl⟩ rfl rfl (Nat.le_of_ble_eq_true rfl) (Nat.le_of_ble_eq_true rfl) (Nat.le_of_ble_eq_true rfl) (Nat.le_of_ble_eq_true rfl) dX2_init_47 H (fun x47 m47 v47 hh47 H hp => ?_)
  refine cx_backV hp ?_
  refine aw_aload_n (pc := 50) dX2_init_50 rfl ?_
  refine cx_iconst (pc := 51) dX2_init_51 ?_
  refine cx_iconst (pc := 52) dX2_init_52 ?_
  refine cx_callV (pc := 53) (P := pI) (dC := 3) (mcC := 0) (msC := 0) [iv 0, iv 0] hE r28 (fun r1 H1 => s_X2_pairOf l sc E R hE hR n 0 0 (inR_lit _ rfl) (inR_lit _ rfl) m47 r1 H1) ca_X2_39 rfl ⟨_, rfl, rfl⟩ rfl rfl (Nat.le_of_ble_eq_true rfl) (Nat.le_of_ble_eq_true rfl) (Nat.le_of_ble_eq_true rfl) (Nat.le_of_ble_eq_true rfl) dX2_init_53 H (fun x53 m53 v53 hh53 H hp => ?_)
  refine cx_backI hp (fun hx53 => ?_)
  refine aw_istore_n (pc := 56) [(3, iv x53), (0, .ref 28), (1, .ref 4), (2, .ref 18)] dX2_init_56 rfl (by decide) ?_
  refine aw_aload_n (pc := 57) dX2_init_57 rfl ?_
  refine aw_aload_n (pc := 58) dX2_init_58 rfl ?_
  refine aw_aload_n (pc := 59) dX2_init_59 rfl ?_
  refine cx_iconst (pc := 60) dX2_init_60 ?_
  refine aw_iload_n (pc := 61) dX2_init_61 rfl ?_
  refine cx_callV (pc := 62) (P := pI) (dC := 3) (mcC := 0) (msC := 0) [iv 0, iv x53] hE r28 (fun r1 H1 => s_X2_pairOf l sc E R hE hR n 0 x53 (inR_lit _ rfl) hx53 m53 r1 H1) ca_X2_39 rfl ⟨_, rfl, rfl⟩ rfl rfl (Nat.le_of_ble_eq_true rfl) (Nat.le_of_ble_eq_true rfl) (Nat.le_of_ble_eq_true rfl) (Nat.le_of_ble_eq_true rfl) dX2_init_62 H (fun x62 m62 v62 hh62 H hp => ?_)
  refine cx_backI hp (fun hx62 => ?_)
  refine cx_callV (pc := 65) (P := pG) (dC := 4) (mcC := 4) (msC := 125) [iv x62] hE r18 (fun r1 H1 => s_X4_written l sc E R hE hR.ys hsc n x62 hx62 m62 r1 H1) ca_X2_43 rfl ⟨_, rfl, rfl⟩ rfl rfl (Nat.le_of_ble_eq_true rfl) (Nat.le_of_ble_eq_true rfl) (Nat.le_of_ble_eq_true rfl) (Nat.le_of_ble_eq_true rfl) dX2_init_65 H (fun x65 m65 v65 hh65 H hp => ?_)
  refine cx_backG hp ?_
  refine cx_ptGs (pc := 68) tyX2 hE r28 flo_X2_49 (fun r h => ⟨gty_X2 r h, by cases h; rfl⟩) rfl (fun r h => by cases h; rfl) (fun u => by rcases rv_or u with h | ⟨a, h⟩ <;> rw [h] <;> rfl) rfl rfl (Nat.le_of_ble_eq_true rfl) dX2_init_68 H (fun m68 H => ?_)
  exact cx_vret (pc := 71) rfl (Nat.le_of_ble_eq_true rfl) (Nat.le_of_ble_eq_true rfl) dX2_init_71 H
def f_X6_tail (n : Nat) (z : Nat) (mi : Mem) : Option Rz :=
  lp (F := Int → Mem → Option Rz) (fun _ _ => none) (fun w46 v2_46 m46 =>
    if v2_46 < 8 then (
      stG m46 46 v2_46 z fun m58 =>
      stG m58 49 v2_46 z fun m65 =>
      w46 (w32 (v2_46 + 1)) m65
    ) else
    rt 0 m46
  ) n 0 mi
set_option maxRecDepth 100000 in
set_option maxHeartbeats 8000000 in
theorem c_X6_init (l : Launch) (sc : g_S) (hsc : sc.1 = 0) (n z : Nat) (hz : z < 2147483648) (m : Mem) (hb : g_H) (r : Rz) (ho : hb 45 = some (.inr (6, [.null, .null, .null, .null, .null, .int 0, .int 0]))) (hf : ∀ q, 46 ≤ q → q < 50 → hb q = none) (H : f_X6_tail n z (mg 45 50 (mSet mz 45 0 z) m) = some r) : AMet l sc yX6_init cX6_init 3 none 1 4 32 [.ref 45, rv z] (ovS 45 m hb) (pV (fun m => ovS 50 m hb) r) := by
  obtain ⟨h, hh⟩ : ∃ h, h = ovS 45 m hb := ⟨_, rfl⟩
  have h1 : h = g_up (ovl 46 46 mz h) 45 (.inr (6, [.null, .null, .null, .null, .null, .int 0, .int 0])) := by rw [ovl_nil]; exact g_up_id (by rw [hh, ovS_at (by decide)]; exact ho)
  have hf : ∀ q, 46 ≤ q → q < 50 → h q = none := fun q q1 q2 => by rw [hh, ovS_at (by omega)]; exact hf q q1 q2
  rw [← hh]
  have hE : LE (fun m => ovS 50 m hb) (fun q => (4 ≤ q ∧ q < 50) ∨ 1000 ≤ q) := LE_ovS 50 hb
  have hR : RD (fun q => (4 ≤ q ∧ q < 50) ∨ 1000 ≤ q) := fun q q1 => Or.inr q1
  have hR1 : ∀ q, 4 ≤ q → q < 50 → (fun q => (4 ≤ q ∧ q < 50) ∨ 1000 ≤ q) q := fun q q1 q2 => Or.inl ⟨q1, q2⟩
  generalize hEE : (fun m => ovS 50 m hb) = E at hE
  generalize (fun q => (4 ≤ q ∧ q < 50) ∨ 1000 ≤ q) = R at hE hR hR1
  have e9 : ovl 45 50 (mSet mz 45 0 z) h = E (mg 45 50 (mSet mz 45 0 z) m) := by rw [hh, ← hEE]; exact ovS_ovl (by decide) (by decide) (by decide)
  obtain ⟨mi, hmi⟩ : ∃ mi, mi = mg 45 50 (mSet mz 45 0 z) m := ⟨_, rfl⟩
  rw [← hmi] at e9 H
  have e1 : ovl 46 50 mz h = ovl 46 50 (mSet mz 45 0 z) h := by
    funext j
    unfold ovl
    by_cases q : 46 ≤ j ∧ j < 50
    · rw [if_pos q, if_pos q]; exact (cel_mSet (by omega)).symm
    · rw [if_neg q, if_neg q]
  have e2 : mGet (mSet mz 45 0 z) 45 0 = (z : Int) := by rw [mGet_mSet, if_pos ⟨rfl, rfl⟩]; exact w32_id (by omega) (by omega)
  have e3 : cel (mSet mz 45 0 z) 45 = some (.inr (6, [rv z, .ref 46, .ref 47, .ref 48, .ref 49, .int 0, .int 0])) := by
    rw [cel_obj (c := 6) rfl]
    refine congrArg (fun f => some (Sum.inr (6, f))) ?_
    show [rv (mGet (mSet mz 45 0 z) 45 0).toNat, _, _, _, _, _, _] = _
    rw [e2, Int.toNat_natCast]
    rfl
  refine AMet.of (own := RX6) (by decide +kernel) rfl (by rcases rv_or z with e | ⟨_, e⟩ <;> simp only [e] <;> exact Nat.le_of_ble_eq_true rfl) [(0, .ref 45), (1, rv z)] (by rcases rv_or z with e | ⟨_, e⟩ <;> simp only [e] <;> rfl) (fun D base ad => ?_)
  refine AW.eqh h1 ?_
  refine aw_aload_n (pc := 0) dX6_init_0 rfl ?_
  refine aw_objInit (pc := 1) oi_X6_3 oi_inst oi_code (Nat.le_of_ble_eq_true rfl) (Nat.le_of_ble_eq_true rfl) dX6_init_1 ?_
  refine aw_aload_n (pc := 4) dX6_init_4 rfl ?_
  refine aw_bipush (pc := 5) (8) dX6_init_5 (by decide) ?_
  refine aw_newQ (pc := 7) (N' := 8) 46 (ov_fresh (by decide) (hf 46 (by decide) (by decide))) (by rw [hsc]; decide) kl_X6_9 (by decide) (by decide) (Nat.le_of_ble_eq_true rfl) (Nat.le_of_ble_eq_true rfl) (Nat.le_of_ble_eq_true rfl) dX6_init_7 ?_
  refine AW.eqh (ov_new (Nat.le_of_ble_eq_true rfl) (by decide) (cel_zQ rfl (fun _ => mz_0 _ _))) ?_
  refine aw_putF (pc := 10) tyX6 flo_X6_11 (fun r h => ⟨gty_X6 r h, by cases h; rfl⟩) rfl (fun r h => by cases h; rfl) (g_up_self _ _ _) rfl rfl (by decide) dX6_init_10 ?_
  refine AW.eqh (hp' := g_up (ovl 46 47 mz h) 45 (.inr (6, [.null, .ref 46, .null, .null, .null, .int 0, .int 0]))) (g_up_up _ _ _ _) ?_
  refine aw_aload_n (pc := 13) dX6_init_13 rfl ?_
  refine aw_bipush (pc := 14) (8) dX6_init_14 (by decide) ?_
  refine aw_newI (pc := 16) (N' := 8) 47 (ov_fresh (by decide) (hf 47 (by decide) (by decide))) (by rw [hsc]; decide) ac_int (by decide) (by decide) (Nat.le_of_ble_eq_true rfl) (Nat.le_of_ble_eq_true rfl) (Nat.le_of_ble_eq_true rfl) dX6_init_16 ?_
  refine AW.eqh (ov_new (Nat.le_of_ble_eq_true rfl) (by decide) (cel_zI rfl (fun _ => mz_0 _ _))) ?_
  refine aw_putF (pc := 18) tyX6 flo_X6_17 (fun r h => ⟨gty_X6 r h, by cases h; rfl⟩) rfl (fun r h => by cases h; rfl) (g_up_self _ _ _) rfl rfl (by decide) dX6_init_18 ?_
  refine AW.eqh (hp' := g_up (ovl 46 48 mz h) 45 (.inr (6, [.null, .ref 46, .ref 47, .null, .null, .int 0, .int 0]))) (g_up_up _ _ _ _) ?_
  refine aw_aload_n (pc := 21) dX6_init_21 rfl ?_
  refine aw_bipush (pc := 22) (8) dX6_init_22 (by decide) ?_
  refine aw_newQ (pc := 24) (N' := 8) 48 (ov_fresh (by decide) (hf 48 (by decide) (by decide))) (by rw [hsc]; decide) kl_X6_9 (by decide) (by decide) (Nat.le_of_ble_eq_true rfl) (Nat.le_of_ble_eq_true rfl) (Nat.le_of_ble_eq_true rfl) dX6_init_24 ?_
  refine AW.eqh (ov_new (Nat.le_of_ble_eq_true rfl) (by decide) (cel_zQ rfl (fun _ => mz_0 _ _))) ?_
  refine aw_putF (pc := 27) tyX6 flo_X6_21 (fun r h => ⟨gty_X6 r h, by cases h; rfl⟩) rfl (fun r h => by cases h; rfl) (g_up_self _ _ _) rfl rfl (by decide) dX6_init_27 ?_
  refine AW.eqh (hp' := g_up (ovl 46 49 mz h) 45 (.inr (6, [.null, .ref 46, .ref 47, .ref 48, .null, .int 0, .int 0]))) (g_up_up _ _ _ _) ?_
  refine aw_aload_n (pc := 30) dX6_init_30 rfl ?_
  refine aw_bipush (pc := 31) (8) dX6_init_31 (by decide) ?_
  refine aw_newQ (pc := 33) (N' := 8) 49 (ov_fresh (by decide) (hf 49 (by decide) (by decide))) (by rw [hsc]; decide) kl_X6_9 (by decide) (by decide) (Nat.le_of_ble_eq_true rfl) (Nat.le_of_ble_eq_true rfl) (Nat.le_of_ble_eq_true rfl) dX6_init_33 ?_
  refine AW.eqh (ov_new (Nat.le_of_ble_eq_true rfl) (by decide) (cel_zQ rfl (fun _ => mz_0 _ _))) ?_
  refine aw_putF (pc := 36) tyX6 flo_X6_24 (fun r h => ⟨gty_X6 r h, by cases h; rfl⟩) rfl (fun r h => by cases h; rfl) (g_up_self _ _ _) rfl rfl (by decide) dX6_init_36 ?_
  refine AW.eqh (hp' := g_up (ovl 46 50 mz h) 45 (.inr (6, [.null, .ref 46, .ref 47, .ref 48, .ref 49, .int 0, .int 0]))) (g_up_up _ _ _ _) ?_
  refine aw_aload_n (pc := 39) dX6_init_39 rfl ?_
  refine cx_aload_n (pc := 40) dX6_init_40 rfl ?_
  refine aw_putF (pc := 41) tyX6 flo_X6_27 (fun r h => ⟨gty_X6 r h, by cases h; rfl⟩) rfl (fun r h => by cases h; rfl) (g_up_self _ _ _) (rv_narrow _ _) (by rcases rv_or _ with h | ⟨a, h⟩ <;> rw [h] <;> rfl) (by decide) dX6_init_41 ?_
  refine AW.eqh (hp' := g_up (ovl 46 50 mz h) 45 (.inr (6, [rv z, .ref 46, .ref 47, .ref 48, .ref 49, .int 0, .int 0]))) (g_up_up _ _ _ _) ?_
  rw [e1]
  refine AW.eqh (ov_end (by decide) e3) ?_
  refine AW.eqh e9 ?_
  unfold f_X6_tail at H
  have r45 : R 45 := hR1 45 (Nat.le_of_ble_eq_true rfl) (Nat.le_of_ble_eq_true rfl)
  have r46 : R 46 := hR1 46 (Nat.le_of_ble_eq_true rfl) (Nat.le_of_ble_eq_true rfl)
  have r49 : R 49 := hR1 49 (Nat.le_of_ble_eq_true rfl) (Nat.le_of_ble_eq_true rfl)
  refine cx_iconst (pc := 44) dX6_init_44 ?_
  refine aw_istore_n (pc := 45) [(2, iv 0), (0, .ref 45), (1, rv z)] dX6_init_45 (by unfold g_st1; simp only [List.filter, rv_cat]; rfl) (by decide) ?_
  refine AW.sel [1, 2, 0] rfl (lp_ind (bot := fun _ _ => none) (fun (f9 : Int → Mem → Option Rz) => ∀ (v2_46 : Int) (m46 : Mem), inR v2_46 → f9 v2_46 m46 = some r → AW l D base sc RX6 yX6_init cX6_init 3 none 1 4 32 ad h (pV E r) 4 32 (E m46) 46 [(0, .ref 45), (1, rv z), (2, iv v2_46)] []) (fun _ _ _ h9 => nomatch h9) (fun w46 ih46 v2_46 m46 hv2_46 H => ?_) n _ _ (inR_lit _ rfl) H)
  refine aw_iload_n (pc := 46) dX6_init_46 rfl ?_
  refine cx_bipush (pc := 47) dX6_init_47 (by decide) ?_
  refine cx_icmp_ge (pc := 49) 72 hv2_46 (inR_lit _ rfl) dX6_init_49 rfl H (fun H => ?_) (fun H => ?_)
  · -- 49: 52
    refine aw_aload_n (pc := 52) dX6_init_52 rfl ?_
    refine cx_gtC (pc := 53) 46 hE r45 fl_X6_11 rfl rfl (Nat.le_of_ble_eq_true rfl) dX6_init_53 ?_
    refine aw_iload_n (pc := 56) dX6_init_56 rfl ?_
    refine cx_aload_n (pc := 57) dX6_init_57 rfl ?_
    refine cx_stG (pc := 58) hE r46 hR hv2_46 dX6_init_58 H (fun m58 H => ?_)
    refine aw_aload_n (pc := 59) dX6_init_59 rfl ?_
    refine cx_gtC (pc := 60) 49 hE r45 fl_X6_24 rfl rfl (Nat.le_of_ble_eq_true rfl) dX6_init_60 ?_
    refine aw_iload_n (pc := 63) dX6_init_63 rfl ?_
    refine cx_aload_n (pc := 64) dX6_init_64 rfl ?_
    refine cx_stG (pc := 65) hE r49 hR hv2_46 dX6_init_65 H (fun m65 H => ?_)
    refine cx_iinc (pc := 66) [(2, iv (w32 (v2_46 + 1))), (0, .ref 45), (1, rv z)] dX6_init_66 rfl (by unfold g_st1; simp only [List.filter, rv_cat]; rfl) (by decide) ?_
    refine aw_goto (pc := 69) 46 dX6_init_69 rfl ?_
    exact AW.sel [1, 2, 0] rfl (ih46 _ _ (inR_w32 _) H)
  · -- 49: 72
    exact cx_vret (pc := 72) rfl (Nat.le_of_ble_eq_true rfl) (Nat.le_of_ble_eq_true rfl) dX6_init_72 H
theorem LE_ovl (lo hi : Nat) (h : g_H) : LE (fun m => ovl lo hi m h) (fun q => lo ≤ q ∧ q < hi) := ⟨fun m id hr => if_pos hr, fun m m' id hr => by
  show ovl lo hi m h id = ovl lo hi m' h id
  unfold ovl
  rw [if_neg hr, if_neg hr]⟩
