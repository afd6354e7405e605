/-! THE TABLE: what is worse goes -/
noncomputable def SW (a i : Nat) : Prop := SP a i ∨ SLt a i ∨ SRt a i
section RW
variable {n N P : Nat} {lo ro : Nat → List Nat} {st : Nat → Nat} {d : Nat → Nat} {F : List Nat}
theorem RT.sw {m m' : Mem} (R : RT m N P lo ro st d F) (c : Ch SW m m') : RT m' N P lo ro st d F := R.ext (fun a i h => c.2 a i (by unfold RCe at h; unfold SW SP SLt SRt; omega))
/-- x is worse than y: of left, of right -/
noncomputable def Wo (d : Nat → Nat) (il : Bool) (x y : Nat) : Bool := if il then gleB (d x) (d y) else gleB (d y) (d x)
theorem isWorse_ok {c k : Nat} {il : Bool} {l : List Nat} {m : Mem} (hn : 3000 < n) (R : RT m N P lo ro st d F) (M : MP m N d) (hc : c = 120 ∨ c = 121) (hl : l.length ≤ 3000) (Rw : Row m c 0 l) (hk : k < l.length) (hb : ∀ o, o ∈ l → o < N) : Ok (f_X11_isWorse n c (l.length : Int) (k : Int) (b2i il) m) (fun v m' => ∃ b, v = b2i b ∧ (b = true ↔ ∃ i, ∃ h : i < l.length, i ≠ k ∧ Wo d il l[k] l[i] = true) ∧ MP m' N d ∧ Ch SP m m') := by
  have kd : ∀ m1 : Mem, sKind m1 c = (1, 4000) := fun m1 => by rcases hc with rfl | rfl <;> rfl
  have rw0 : ∀ {m1 : Mem}, Ch SP m m1 → ∀ j (h : j < l.length), mGet m1 c j = (l[j] : Int) := fun c1 j h => by
    have e := Rw j h
    rw [Nat.zero_add] at e
    rw [c1.2 c j (by unfold SP; omega)]
    exact e
  unfold f_X11_isWorse
  dsimp only [jn]
  refine ok_row2 (s := 0) (k := 0) l.length (fun j a m2 => MP m2 N d ∧ Ch SP m m2 ∧ ∃ b, a = b2i b ∧ (b = true ↔ ∃ i, ∃ h : i < l.length, i < j ∧ i ≠ k ∧ Wo d il l[k] l[i] = true)) (fun w j a m2 hj hI hw => ?_) (fun w a m2 hI => ?_) n 0 m (Nat.zero_le _) ⟨M, Ch.rf _ _, false, rfl, ⟨fun h => (by cases h), fun ⟨i, _, h, _⟩ => absurd h (Nat.not_lt_zero _)⟩⟩ (by omega)
  · obtain ⟨M2, c2, b, rfl, hbb⟩ := hI
    rw [if_pos (by omega)]
    refine un_not b (fun h => ?_) (fun h => ?_)
    · subst h
      have no : ¬ ∃ i, ∃ h : i < l.length, i < j ∧ i ≠ k ∧ Wo d il l[k] l[i] = true := fun q => by have := hbb.mpr q; cases this
      have stay : ∀ m3 : Mem, MP m3 N d → Ch SP m m3 → ¬ (j ≠ k ∧ Wo d il l[k] l[j] = true) → Ok (w 0 (w32 (((0 + j : Nat) : Int) + 1)) m3) (fun v m' => ∃ b, v = b2i b ∧ (b = true ↔ ∃ i, ∃ h : i < l.length, i ≠ k ∧ Wo d il l[k] l[i] = true) ∧ MP m' N d ∧ Ch SP m m') := by
        intro m3 M3 c3 q
        rw [w32_s (by omega)]
        refine hw 0 m3 ⟨M3, c3, false, rfl, ⟨fun h => (by cases h), fun ⟨i, hi, h1, h2⟩ => ?_⟩⟩
        exfalso
        by_cases z : i = j
        · subst z; exact q h2
        · exact no ⟨i, hi, by omega, h2⟩
      have go : ∀ m3 : Mem, MP m3 N d → Ch SP m m3 → (j ≠ k ∧ Wo d il l[k] l[j] = true) → Ok (w 1 (w32 (((0 + j : Nat) : Int) + 1)) m3) (fun v m' => ∃ b, v = b2i b ∧ (b = true ↔ ∃ i, ∃ h : i < l.length, i ≠ k ∧ Wo d il l[k] l[i] = true) ∧ MP m' N d ∧ Ch SP m m') := by
        intro m3 M3 c3 q
        rw [w32_s (by omega)]
        exact hw 1 m3 ⟨M3, c3, true, rfl, ⟨fun _ => ⟨j, hj, by omega, q⟩, fun _ => rfl⟩⟩
      by_cases z : ((0 + j : Nat) : Int) = (k : Int)
      · rw [if_pos z]
        exact stay m2 M2 c2 (fun q => q.1 (by omega))
      · rw [if_neg z]
        have jN := hb _ (List.getElem_mem hj)
        have kN := hb _ (List.getElem_mem hk)
        have jk : j ≠ k := by omega
        cases il with
        | false =>
          rw [if_pos rb_f, ldI_ok (kd m2) (by omega), ldI_ok (kd m2) (by omega), Nat.zero_add, rw0 c2 j hj, rw0 c2 k hk]
          refine ok_cal (atMost_ok hn (R.sp c2) M2 jN kN) (fun v m3 hq => ?_)
          obtain ⟨rfl, M3, c3⟩ := hq
          have st2 := stay m3 M3 (c2.tr c3)
          have go2 := go m3 M3 (c2.tr c3)
          rw [Nat.zero_add] at st2 go2
          refine un_not _ (fun h => st2 (fun q => ?_)) (fun h => go2 ⟨jk, h⟩)
          have q2 : gleB (d l[j]) (d l[k]) = true := q.2
          rw [q2] at h
          cases h
        | true =>
          rw [if_neg (by decide), ldI_ok (kd m2) (by omega), ldI_ok (kd m2) (by omega), Nat.zero_add, rw0 c2 j hj, rw0 c2 k hk]
          refine ok_cal (atMost_ok hn (R.sp c2) M2 kN jN) (fun v m3 hq => ?_)
          obtain ⟨rfl, M3, c3⟩ := hq
          have st2 := stay m3 M3 (c2.tr c3)
          have go2 := go m3 M3 (c2.tr c3)
          rw [Nat.zero_add] at st2 go2
          refine un_not _ (fun h => st2 (fun q => ?_)) (fun h => go2 ⟨jk, h⟩)
          have q2 : gleB (d l[k]) (d l[j]) = true := q.2
          rw [q2] at h
          cases h
    · subst h
      refine ok_rtZ (Or.inr rfl) ⟨true, rfl, ⟨fun _ => ?_, fun _ => rfl⟩, M2, c2⟩
      obtain ⟨i, hi, _, h2⟩ := hbb.mp rfl
      exact ⟨i, hi, h2⟩
  · obtain ⟨M2, c2, b, rfl, hbb⟩ := hI
    rw [if_neg (by omega)]
    refine ok_rtZ (rb_01 _) ⟨b, rfl, ⟨fun h => ?_, fun ⟨i, hi, h2⟩ => hbb.mpr ⟨i, hi, hi, h2⟩⟩, M2, c2⟩
    obtain ⟨i, hi, _, h2⟩ := hbb.mp h
    exact ⟨i, hi, h2⟩
set_option maxHeartbeats 1000000 in
theorem rw_ok {l r : List Nat} {m : Mem} (hn : 3000 < n) (R : RT m N P lo ro st d F) (M : MP m N d) (H : Hd m l r) (hl : l.Nodup) (hr : r.Nodup) (hb : ∀ o, o ∈ l ++ r → o < N) : Ok (f_X11_removesWorse n m) (fun _ m' => ∃ a b : List Nat, a.Nodup ∧ b.Nodup ∧ Hd m' a b ∧ (∀ x, x ∈ a → x ∈ l) ∧ (∀ x, x ∈ b → x ∈ r) ∧ geq (MK d l r) (MK d a b) ∧ (∀ x, x ∈ a → ∀ y, y ∈ a → x ≠ y → ¬ gle (d x) (d y)) ∧ (∀ x, x ∈ b → ∀ y, y ∈ b → x ≠ y → ¬ gle (d x) (d y)) ∧ MP m' N d ∧ Ch SW m m') := by
  have N2 := R.nn
  have lN : ∀ {a : List Nat}, a.Nodup → (∀ x, x ∈ a → x < N) → a.length ≤ 200 := fun nd h => Nat.le_trans (nodup_lt nd h) N2
  unfold f_X11_removesWorse
  refine ok_lpG (fun μ k m1 => ∃ (kk : Nat) (a : List Nat), k = (kk : Int) ∧ kk ≤ a.length ∧ μ = a.length - kk ∧ a.Nodup ∧ (∀ x, x ∈ a → x ∈ l) ∧ Hd m1 a r ∧ geq (MK d l r) (MK d a r) ∧ (∀ x, x ∈ a.take kk → ∀ y, y ∈ a → x ≠ y → ¬ gle (d x) (d y)) ∧ MP m1 N d ∧ Ch SW m m1) (fun w μ k m1 hI hw => ?_) n _ 0 m ⟨0, l, rfl, Nat.zero_le _, rfl, hl, fun _ h => h, H, geq_rfl _, (fun x hx => by cases hx), M, Ch.rf _ _⟩ (by have := lN hl (fun x hx => hb x (List.mem_append_left _ hx)); omega)
  obtain ⟨kk, a, rfl, ka, rfl, nd, sub, H1, ge, pr, M1, c1⟩ := hI
  obtain ⟨q1, q2, q3, q4, q5, q6⟩ := id H1
  have aN : ∀ x, x ∈ a → x < N := fun x hx => hb x (List.mem_append_left _ (sub x hx))
  rw [gtF_eq, q1]
  by_cases q : kk < a.length
  · rw [if_pos (by omega), gtF_eq, q1]
    refine ok_cal (isWorse_ok (il := true) hn (R.sw c1) M1 (Or.inl rfl) q5 q3 q aN) (fun v m2 hq => ?_)
    obtain ⟨b, rfl, hbb, M2, c2⟩ := hq
    have c2' : Ch SW m1 m2 := c2.weak (fun _ _ => Or.inl)
    have H2 : Hd m2 a r := H1.ext (fun b i z => c2.2 b i (by unfold SP; omega))
    refine un_not b (fun h => ?_) (fun h => ?_)
    · rw [w32_1 (by omega)]
      refine hw _ _ m2 (show a.length - (kk + 1) < a.length - kk by omega) ⟨kk + 1, a, rfl, by omega, rfl, nd, sub, H2, ge, fun x hx y hy ne => ?_, M2, c1.tr c2'⟩
      rw [take_s q] at hx
      rcases List.mem_append.mp hx with hx | hx
      · exact pr x hx y hy ne
      · rw [List.mem_singleton.mp hx] at ne ⊢
        intro z
        obtain ⟨i, hi, e⟩ := List.mem_iff_getElem.mp hy
        have := hbb.mpr ⟨i, hi, fun z2 => ne (by subst z2; exact e), by rw [e]; exact (gleB_iff _ _).mpr z⟩
        rw [h] at this
        cases this
    · obtain ⟨i, hi, ik, wo⟩ := hbb.mp h
      obtain ⟨m3, e3, l3, g3, H3⟩ := Hd.rmL H2 q (fun x hx => by have := aN x hx; omega)
      rw [gtF_eq, H2.1, ptF_eq, ← e3, gtF_eq, l3, ldI_ok (len := 4000) rfl (by omega), g3, stI_ok (len := 4000) rfl (by omega)]
      have c3 : Ch SW m2 (mSet m3 120 kk (a.getD (a.length - 1) 0 : Int)) := by
        rw [e3]
        exact (Ch.set (Or.inr (Or.inl (Or.inl ⟨rfl, rfl⟩)))).tr (Ch.set (Or.inr (Or.inl (Or.inr rfl))))
      have gk : ∀ b j, b = 116 ∨ b = 117 → mGet (mSet m3 120 kk (a.getD (a.length - 1) 0 : Int)) b j = mGet m2 b j := fun b j z => by
        rw [mGet_mSet, if_neg (by omega), e3, mGet_mSet, if_neg (by omega)]
      have ge2 : geq (MK d a r) (MK d (rm a kk) r) := by
        refine dropL (x := d a[kk]) (y := d a[i]) (op_MKL.mpr ⟨_, (rm_mem q nd).mpr ⟨List.getElem_mem hi, fun z => ik (nodup_ix nd hi q z)⟩, rfl⟩) ((gleB_iff _ _).mp wo) (fun y => ?_) (fun u hu => ?_) (fun u hu => ?_)
        · apply Bool.eq_iff_iff.mpr
          rw [op_MKR, op_MKR]
        · obtain ⟨x, hx, rfl⟩ := op_MKL.mp hu
          exact op_MKL.mpr ⟨x, ((rm_mem q nd).mp hx).1, rfl⟩
        · obtain ⟨x, hx, rfl⟩ := op_MKL.mp hu
          by_cases z : x = a[kk]
          · exact Or.inl (by rw [z])
          · exact Or.inr (op_MKL.mpr ⟨x, (rm_mem q nd).mpr ⟨hx, z⟩, rfl⟩)
      refine hw _ _ _ (show (rm a kk).length - kk < a.length - kk by rw [rm_len]; omega) ⟨kk, rm a kk, rfl, by rw [rm_len]; omega, rfl, rm_nodup q nd, fun x hx => sub x ((rm_mem q nd).mp hx).1, H3, ge.tr ge2, fun x hx y hy => pr x (rm_take q hx) y ((rm_mem q nd).mp hy).1, M2.sb gk, (c1.tr c2').tr c3⟩
  · rw [if_neg (by omega)]
    have e : kk = a.length := by omega
    subst e
    rw [List.take_length] at pr
    refine ok_lpG (fun μ k m1 => ∃ (kk : Nat) (b : List Nat), k = (kk : Int) ∧ kk ≤ b.length ∧ μ = b.length - kk ∧ b.Nodup ∧ (∀ x, x ∈ b → x ∈ r) ∧ Hd m1 a b ∧ geq (MK d l r) (MK d a b) ∧ (∀ x, x ∈ b.take kk → ∀ y, y ∈ b → x ≠ y → ¬ gle (d y) (d x)) ∧ MP m1 N d ∧ Ch SW m m1) (fun w μ k m1 hI hw => ?_) n _ 0 m1 ⟨0, r, rfl, Nat.zero_le _, rfl, hr, fun _ h => h, H1, ge, (fun x hx => by cases hx), M1, c1⟩ (by have := lN hr (fun x hx => hb x (List.mem_append_right _ hx)); omega)
    clear q1 q2 q3 q4 q5 q6
    obtain ⟨kk, b, rfl, ka, rfl, nb, subb, H1, ge, prb, M1, c1⟩ := hI
    obtain ⟨q1, q2, q3, q4, q5, q6⟩ := id H1
    have bN : ∀ x, x ∈ b → x < N := fun x hx => hb x (List.mem_append_right _ (subb x hx))
    rw [gtF_eq, q2]
    by_cases q : kk < b.length
    · rw [if_pos (by omega), gtF_eq, q2]
      refine ok_cal (isWorse_ok (il := false) hn (R.sw c1) M1 (Or.inr rfl) q6 q4 q bN) (fun v m2 hq => ?_)
      obtain ⟨b0, rfl, hbb, M2, c2⟩ := hq
      have c2' : Ch SW m1 m2 := c2.weak (fun _ _ => Or.inl)
      have H2 : Hd m2 a b := H1.ext (fun b i z => c2.2 b i (by unfold SP; omega))
      refine un_not b0 (fun h => ?_) (fun h => ?_)
      · rw [w32_1 (by omega)]
        refine hw _ _ m2 (show b.length - (kk + 1) < b.length - kk by omega) ⟨kk + 1, b, rfl, by omega, rfl, nb, subb, H2, ge, fun x hx y hy ne => ?_, M2, c1.tr c2'⟩
        rw [take_s q] at hx
        rcases List.mem_append.mp hx with hx | hx
        · exact prb x hx y hy ne
        · rw [List.mem_singleton.mp hx] at ne ⊢
          intro z
          obtain ⟨i, hi, e⟩ := List.mem_iff_getElem.mp hy
          have := hbb.mpr ⟨i, hi, fun z2 => ne (by subst z2; exact e), by rw [e]; exact (gleB_iff _ _).mpr z⟩
          rw [h] at this
          cases this
      · obtain ⟨i, hi, ik, wo⟩ := hbb.mp h
        obtain ⟨m3, e3, l3, g3, H3⟩ := Hd.rmR H2 q (fun x hx => by have := bN x hx; omega)
        rw [gtF_eq, H2.2.1, ptF_eq, ← e3, gtF_eq, l3, ldI_ok (len := 4000) rfl (by omega), g3, stI_ok (len := 4000) rfl (by omega)]
        have c3 : Ch SW m2 (mSet m3 121 kk (b.getD (b.length - 1) 0 : Int)) := by
          rw [e3]
          exact (Ch.set (Or.inr (Or.inr (Or.inl ⟨rfl, rfl⟩)))).tr (Ch.set (Or.inr (Or.inr (Or.inr rfl))))
        have gk : ∀ c j, c = 116 ∨ c = 117 → mGet (mSet m3 121 kk (b.getD (b.length - 1) 0 : Int)) c j = mGet m2 c j := fun c j z => by
          rw [mGet_mSet, if_neg (by omega), e3, mGet_mSet, if_neg (by omega)]
        have ge2 : geq (MK d a b) (MK d a (rm b kk)) := by
          refine dropR (x := d b[kk]) (y := d b[i]) (op_MKR.mpr ⟨_, (rm_mem q nb).mpr ⟨List.getElem_mem hi, fun z => ik (nodup_ix nb hi q z)⟩, rfl⟩) ((gleB_iff _ _).mp wo) (fun y => ?_) (fun u hu => ?_) (fun u hu => ?_)
          · apply Bool.eq_iff_iff.mpr
            rw [op_MKL, op_MKL]
          · obtain ⟨x, hx, rfl⟩ := op_MKR.mp hu
            exact op_MKR.mpr ⟨x, ((rm_mem q nb).mp hx).1, rfl⟩
          · obtain ⟨x, hx, rfl⟩ := op_MKR.mp hu
            by_cases z : x = b[kk]
            · exact Or.inl (by rw [z])
            · exact Or.inr (op_MKR.mpr ⟨x, (rm_mem q nb).mpr ⟨hx, z⟩, rfl⟩)
        refine hw _ _ _ (show (rm b kk).length - kk < b.length - kk by rw [rm_len]; omega) ⟨kk, rm b kk, rfl, by rw [rm_len]; omega, rfl, rm_nodup q nb, fun x hx => subb x ((rm_mem q nb).mp hx).1, H3, ge.tr ge2, fun x hx y hy => prb x (rm_take q hx) y ((rm_mem q nb).mp hy).1, M2.sb gk, (c1.tr c2').tr c3⟩
    · rw [if_neg (by omega)]
      have e : kk = b.length := by omega
      subst e
      rw [List.take_length] at prb
      exact ok_rt ⟨a, b, nd, nb, H1, sub, subb, ge, pr, fun x hx y hy ne => prb y hy x hx (fun e => ne e.symm), M1, c1⟩
end RW
