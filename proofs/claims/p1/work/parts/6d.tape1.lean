/-! THE TAPE: fed -/
theorem jshr_nat {x k : Nat} (hx : x < 9223372036854775808) (hk : k < 64) : jshr x (k : Int) = x / 2 ^ k := by
  unfold jshr
  rw [oI_nat]
  show l2n (lN x >>> ((nI k).toInt64 &&& 63)) = _
  rw [wb_c k hk]
  show (lN x >>> lN k).toBitVec.toNat = _
  rw [Int64.toBitVec_shiftRight, wb_tb, wb_tb, wb_sm k hk]
  have hm : (BitVec.ofNat 64 x).msb = false := by
    rw [BitVec.msb_eq_false_iff_two_mul_lt, BitVec.toNat_ofNat, Nat.mod_eq_of_lt (by omega)]
    omega
  show (BitVec.sshiftRight (BitVec.ofNat 64 x) (BitVec.ofNat 64 k).toNat).toNat = _
  rw [BitVec.sshiftRight_eq_of_msb_false hm, BitVec.toNat_ushiftRight, BitVec.toNat_ofNat, BitVec.toNat_ofNat, Nat.mod_eq_of_lt (by omega), Nat.mod_eq_of_lt (by omega), Nat.shiftRight_eq_div_pow]
theorem i8_j2i {y : Nat} (h : y % 256 < 128) : i8 (j2i y) = ((y % 256 : Nat) : Int) := by
  unfold i8 j2i
  rw [Int32.ofInt_toInt]
  have e : (Int64.ofNat y).toInt32.toInt8 = Int8.ofNat (y % 256) := by
    apply Int8.toBitVec_inj.mp
    apply BitVec.eq_of_toNat_eq
    show (BitVec.signExtend 8 (BitVec.signExtend 32 (BitVec.ofNat 64 y))).toNat = (BitVec.ofNat 8 (y % 256)).toNat
    rw [BitVec.signExtend_eq_setWidth_of_le _ (by decide), BitVec.signExtend_eq_setWidth_of_le _ (by decide), BitVec.toNat_setWidth, BitVec.toNat_setWidth, BitVec.toNat_ofNat, BitVec.toNat_ofNat]
    omega
  rw [e]
  have all : ∀ c : Fin 128, (Int8.ofNat c.val).toInt32.toInt = (c.val : Int) := by decide +kernel
  exact all ⟨y % 256, h⟩
theorem kB42 (m : Mem) : sKind m 42 = (3, 120) := rfl
/-- the text on the tape -/
def TX (m : Mem) (c : Nat) (t : Nat → Nat) : Prop := mGet m 41 4 = (c : Int) ∧ ∀ i, i < c → mGet m 42 i = (t i : Int)
theorem take_ok {n w k c : Nat} {t : Nat → Nat} {m : Mem} (hn : 300 < n) (X : TX m c t) (hk : k ≤ 8) (hc : c + k ≤ 120) (hw : w < 9223372036854775808) (hb : ∀ i, i < k → w / 2 ^ (8 * i) % 256 = t (c + i) ∧ t (c + i) < 128) : Ok (f_X7_take n w (k : Int) m) (fun v m' => v = ((c + k : Nat) : Int) ∧ TX m' (c + k) t ∧ m'.2 = m.2 ∧ ∀ a i, a ≠ 41 → a ≠ 42 → mGet m' a i = mGet m a i) := by
  unfold f_X7_take
  refine ok_up1 k (fun i m1 => TX m1 (c + i) t ∧ m1.2 = m.2 ∧ ∀ a i, a ≠ 41 → a ≠ 42 → mGet m1 a i = mGet m a i) (fun w3 i m1 hi hI hw3 => ?_) (fun w3 m1 hI => ?_) n 0 m (Nat.zero_le _) ⟨X, rfl, fun _ _ _ _ => rfl⟩ (by omega)
  · obtain ⟨⟨x1, x2⟩, z1, f1⟩ := hI
    dsimp only [jn, gtF, ptF]
    rw [if_pos (by omega), x1, if_neg (by omega), if_pos (by omega), stB_ok (kB42 _) (by omega), w32_id (x := 8 * (i : Int)) (by omega) (by omega), show 8 * (i : Int) = ((8 * i : Nat) : Int) by omega, jshr_nat hw (by omega)]
    obtain ⟨b1, b2⟩ := hb i hi
    rw [i8_j2i (by omega), i8_nat (by omega), b1]
    have G8 : ∀ a j, mGet (mSet m1 42 (c + i) (t (c + i) : Int)) a j = if a = 42 ∧ j = c + i then (t (c + i) : Int) else mGet m1 a j := fun a j => by rw [mGet_mSet, w32_nat (by omega)]
    rw [G8, if_neg (by omega), x1, k_1 (by omega), k_1 (by omega)]
    have G9 : ∀ a j, mGet (mSet (mSet m1 42 (c + i) (t (c + i) : Int)) 41 4 ((c + i + 1 : Nat) : Int)) a j = if a = 41 ∧ j = 4 then ((c + i + 1 : Nat) : Int) else if a = 42 ∧ j = c + i then (t (c + i) : Int) else mGet m1 a j := fun a j => by rw [mGet_mSet, w32_nat (by omega), G8]
    refine hw3 _ ⟨⟨by rw [G9, if_pos ⟨rfl, rfl⟩]; rfl, fun j hj => ?_⟩, z1, fun a j h1 h2 => by rw [G9, if_neg (by omega), if_neg (by omega)]; exact f1 a j h1 h2⟩
    rw [G9, if_neg (by omega)]
    by_cases q : j = c + i
    · rw [if_pos ⟨rfl, q⟩, q]
    · rw [if_neg (by omega)]
      exact x2 j (by omega)
  · obtain ⟨X1, z1, f1⟩ := hI
    dsimp only [jn, gtF]
    rw [if_neg (by omega), X1.1]
    exact ok_rt ⟨rfl, X1, z1, f1⟩
theorem feed_ok {n w k c : Nat} {t : Nat → Nat} {γ : Nat → Nat} {m : Mem} (hn : 300 < n) (C : CI γ m) (X : TX m c t) (hk : 1 ≤ k ∧ k ≤ 8) (hc : c + k ≤ 120) (hw : w < 9223372036854775808) (hb : ∀ i, i < k → w / 2 ^ (8 * i) % 256 = t (c + i) ∧ t (c + i) < 128) : Ok (f_X10_feed n w (k : Int) m) (fun v m' => v = ((c + k : Nat) : Int) ∧ TX m' (c + k) t ∧ CI γ m' ∧ Grow m m' ∧ mNext m' = mNext m) := by
  unfold f_X10_feed
  refine ok_calE isWithin_eq ?_
  rw [decide_eq_true (by omega), if_neg (show ¬ b2i true = 0 by decide)]
  have hr : f_X7_hasRoom n (k : Int) m = some (1, m) := by
    unfold f_X7_hasRoom
    dsimp only [jn, gtF]
    rw [X.1, w32_id (x := (c : Int) + (k : Int)) (by omega) (by omega), if_neg (by omega)]
    rfl
  refine ok_calE hr ?_
  dsimp only [jn]
  rw [if_neg (by decide)]
  refine ok_cal (take_ok hn X hk.2 hc hw hb) (fun v m1 h1 => ?_)
  obtain ⟨rfl, X1, z1, f1⟩ := h1
  have f : Fr m m1 SC := f2_fr z1 (fun a i ha => f1 a i (fun e => ha (by unfold SC; omega)) (fun e => ha (by unfold SC; omega))) (fun a ha => by omega)
  exact ok_rt ⟨rfl, X1, C.fr f, f.1, mNext_eq (by rw [z1])⟩
