/-! what the programs reckon with, on numbers that aren't negative -/
theorem oI_nat (n : Nat) : Int32.ofInt (n : Int) = nI n := Int32.ofInt_eq_ofNat ..
theorem nI_int {n : Nat} (h : n < 2147483648) : (nI n).toInt = (n : Int) := nI_toInt h
theorem sm_32 : ∀ k : Nat, k < 32 → ((nI k &&& 31).toBitVec.smod 32).toNat = k := by decide +kernel
theorem ishr_nat {b k : Nat} (hb : b < 2147483648) (hk : k < 32) : ishr (b : Int) (k : Int) = ((b / 2 ^ k : Nat) : Int) := by
  unfold ishr
  rw [oI_nat, oI_nat, pk_shrN hb _ k (sm_32 k hk)]
  exact nI_int (Nat.lt_of_le_of_lt (Nat.div_le_self _ _) hb)
theorem ishl_nat {a k : Nat} (h : a * 2 ^ k < 2147483648) (hk : k < 32) : ishl (a : Int) (k : Int) = ((a * 2 ^ k : Nat) : Int) := by
  unfold ishl
  rw [oI_nat, oI_nat, pk_shlN _ k (sm_32 k hk) (by omega)]
  exact nI_int h
theorem nat_and_lt {a b : Nat} (ha : a < 2147483648) : a &&& b < 2147483648 := Nat.lt_of_le_of_lt Nat.and_le_left ha
theorem iand_nn {a b : Nat} (ha : a < 2147483648) (hb : b < 2147483648) : iand (a : Int) (b : Int) = ((a &&& b : Nat) : Int) := by
  have h1 := iand_nat (a : Int) (b : Int)
  rw [show ((a : Int) % 4294967296).toNat = a by omega, show ((b : Int) % 4294967296).toNat = b by omega] at h1
  have h2 := nat_and_lt (b := b) ha
  unfold iand
  rw [i32_nat _ (by omega), h1]
theorem ior_nn {a b : Nat} (ha : a < 2147483648) (hb : b < 2147483648) : ior (a : Int) (b : Int) = ((a ||| b : Nat) : Int) := by
  have h1 : ((Int32.ofInt (a : Int)) ||| (Int32.ofInt (b : Int))).toBitVec.toNat = a ||| b := by
    show ((Int32.ofInt (a : Int)).toBitVec ||| (Int32.ofInt (b : Int)).toBitVec).toNat = _
    rw [BitVec.toNat_or, oI_bv, oI_bv, show ((a : Int) % 4294967296).toNat = a by omega, show ((b : Int) % 4294967296).toNat = b by omega]
  have h2 : a ||| b < 2 ^ 31 := Nat.or_lt_two_pow (by omega) (by omega)
  unfold ior
  rw [i32_nat _ (by omega), h1]
theorem iand_1 (x : Int) : iand x 1 = x % 2 := iand_mask x 1 (by decide)
theorem iand_m63 (x : Int) : iand x 63 = x % 64 := iand_63 x
/-- one bit of a mask -/
theorem ibit {x g : Nat} (hx : x < 2147483648) (hg : g < 32) : iand (ishr (x : Int) (g : Int)) 1 = if x.testBit g then 1 else 0 := by
  rw [ishr_nat hx hg, iand_1]
  have h : x.testBit g = decide (x / 2 ^ g % 2 = 1) := Nat.testBit_eq_decide_div_mod_eq
  rw [h]
  rcases Nat.mod_two_eq_zero_or_one (x / 2 ^ g) with e | e
  · have : ((x / 2 ^ g : Nat) : Int) % 2 = 0 := by omega
    rw [this]; simp [e]
  · have : ((x / 2 ^ g : Nat) : Int) % 2 = 1 := by omega
    rw [this]; simp [e]
theorem ibit0 {x g : Nat} (hx : x < 2147483648) (hg : g < 32) : iand (ishr (x : Int) (g : Int)) 1 = 0 ↔ x.testBit g = false := by
  rw [ibit hx hg]
  cases x.testBit g <;> simp
/-! longs -/
theorem l_tn (x : Nat) : (Int64.ofNat x).toBitVec.toNat = x % 18446744073709551616 := l2n_ofNat x
theorem jand_eq (x y : Nat) : jand x y = (x % 18446744073709551616) &&& (y % 18446744073709551616) := by
  show ((Int64.ofNat x).toBitVec &&& (Int64.ofNat y).toBitVec).toNat = _
  rw [BitVec.toNat_and, l_tn, l_tn]
theorem jor_eq (x y : Nat) : jor x y = (x % 18446744073709551616) ||| (y % 18446744073709551616) := by
  show ((Int64.ofNat x).toBitVec ||| (Int64.ofNat y).toBitVec).toNat = _
  rw [BitVec.toNat_or, l_tn, l_tn]
theorem jxor_eq (x y : Nat) : jxor x y = (x % 18446744073709551616) ^^^ (y % 18446744073709551616) := by
  show ((Int64.ofNat x).toBitVec ^^^ (Int64.ofNat y).toBitVec).toNat = _
  rw [BitVec.toNat_xor, l_tn, l_tn]
theorem jor_lt (x y : Nat) : jor x y < 18446744073709551616 := l2n_lt _
theorem jand_lt (x y : Nat) : jand x y < 18446744073709551616 := l2n_lt _
theorem jushr_nat {x k : Nat} (hx : x < 18446744073709551616) (hk : k < 64) : jushr x (k : Int) = x / 2 ^ k := by
  unfold jushr
  rw [oI_nat]
  have h := wb_shr (n := x) (k := k) hx hk
  show l2n (((lN x).toUInt64 >>> ((nI k).toInt64.toUInt64 &&& Int64.toUInt64 63)).toInt64) = _
  rw [h]
  show l2n (Int64.ofNat (x / 2 ^ k)) = _
  rw [l2n_ofNat, Nat.mod_eq_of_lt (Nat.lt_of_le_of_lt (Nat.div_le_self _ _) hx)]
theorem jshl_nat {x k : Nat} (hk : k < 64) : jshl x (k : Int) = x * 2 ^ k % 18446744073709551616 := by
  unfold jshl
  rw [oI_nat]
  have h := wb_shl x (k := k) hk
  show l2n (lN x <<< ((nI k).toInt64 &&& 63)) = _
  rw [h]
  exact l2n_ofNat _
theorem jshl_1 {k : Nat} (hk : k < 64) : jshl 1 (k : Int) = 2 ^ k := by
  have h : 2 ^ k < 2 ^ 64 := Nat.pow_lt_pow_right (by decide) hk
  rw [jshl_nat hk, Nat.one_mul, Nat.mod_eq_of_lt h]
theorem jcmp_0 (x : Nat) : jcmp x 0 = 0 ↔ x % 18446744073709551616 = 0 := by
  have h0 : Int64.ofNat 0 = 0 := rfl
  have h1 : (jcmp x 0 = 0) ↔ lg_cmp (Int64.ofNat x) 0 = 0 := by
    unfold jcmp
    rw [h0]
    constructor
    · intro h; exact Int32.toInt_inj.mp h
    · intro h; rw [h]; rfl
  rw [h1]
  have h2 : lg_cmp (Int64.ofNat x) 0 = 0 ↔ Int64.ofNat x = 0 := by
    unfold lg_cmp
    constructor
    · intro h
      by_cases q1 : (Int64.ofNat x) > 0
      · rw [if_pos q1] at h; exact absurd h (by decide)
      · rw [if_neg q1] at h
        by_cases q2 : Int64.ofNat x = 0
        · exact q2
        · rw [if_neg q2] at h; exact absurd h (by decide)
    · intro h
      rw [h]
      decide +kernel
  rw [h2]
  constructor
  · intro h
    have := l2n_ofNat x
    rw [h] at this
    rw [← this]; rfl
  · intro h
    rw [← ofNat_64, h]; rfl
/-- a bit of a word, as the programs ask for it -/
theorem jbit {x k : Nat} (hx : x < 18446744073709551616) (hk : k < 64) : jcmp (jand (jushr x (k : Int)) 1) 0 = 0 ↔ x.testBit k = false := by
  rw [jcmp_0, jushr_nat hx hk, jand_eq, Nat.mod_eq_of_lt (Nat.lt_of_le_of_lt (Nat.div_le_self x (2 ^ k)) hx)]
  show (x / 2 ^ k &&& (2 ^ 1 - 1)) % 18446744073709551616 = 0 ↔ _
  rw [Nat.and_two_pow_sub_one_eq_mod, Nat.testBit_eq_decide_div_mod_eq]
  simp
  omega
theorem tb_mod (x : Nat) {j : Nat} (hj : j < 64) : (x % 18446744073709551616).testBit j = x.testBit j := by
  show (x % 2 ^ 64).testBit j = _
  rw [Nat.testBit_mod_two_pow]
  simp [hj]
theorem tb_hi {x j : Nat} (hx : x < 18446744073709551616) (hj : 64 ≤ j) : x.testBit j = false := Nat.testBit_lt_two_pow (Nat.lt_of_lt_of_le (show x < 2 ^ 64 from hx) (Nat.pow_le_pow_right (by decide) hj))
theorem jor_bit (x y : Nat) {j : Nat} (hj : j < 64) : (jor x y).testBit j = (x.testBit j || y.testBit j) := by
  rw [jor_eq, Nat.testBit_or, tb_mod x hj, tb_mod y hj]
theorem jand_bit (x y : Nat) {j : Nat} (hj : j < 64) : (jand x y).testBit j = (x.testBit j && y.testBit j) := by
  rw [jand_eq, Nat.testBit_and, tb_mod x hj, tb_mod y hj]
theorem jxor_bit (x y : Nat) {j : Nat} (hj : j < 64) : (jxor x y).testBit j = (x.testBit j ^^ y.testBit j) := by
  rw [jxor_eq, Nat.testBit_xor, tb_mod x hj, tb_mod y hj]
theorem tb_ones {j : Nat} (hj : j < 64) : (18446744073709551615 : Nat).testBit j = true := by
  have : ∀ k : Fin 64, (18446744073709551615 : Nat).testBit k.val = true := by decide +kernel
  exact this ⟨j, hj⟩
/-! HOW PROGRAMS ARE READ: a program comes to an end with Q -/
def Ok (X : Option Rz) (Q : Int → Mem → Prop) : Prop := ∃ v m, X = some (v, m) ∧ Q v m
theorem ok_mono {X : Option Rz} {P Q : Int → Mem → Prop} (h : Ok X P) (hq : ∀ v m, P v m → Q v m) : Ok X Q := by
  obtain ⟨v, m, h1, h2⟩ := h
  exact ⟨v, m, h1, hq v m h2⟩
theorem ok_rt {Q : Int → Mem → Prop} {v : Int} {m : Mem} (h : Q v m) : Ok (rt v m) Q := ⟨v, m, rfl, h⟩
theorem ok_some {Q : Int → Mem → Prop} {v : Int} {m : Mem} (h : Q v m) : Ok (some (v, m)) Q := ⟨v, m, rfl, h⟩
theorem ok_rtZ {Q : Int → Mem → Prop} {v : Int} {m : Mem} (hv : v = 0 ∨ v = 1) (h : Q v m) : Ok (rtZ v m) Q := ⟨v, m, if_pos hv, h⟩
theorem ok_cal {X : Option Rz} {K : Int → Mem → Option Rz} {P Q : Int → Mem → Prop} (h : Ok X P) (hk : ∀ v m, P v m → Ok (K v m) Q) : Ok (cal X K) Q := by
  obtain ⟨v, m, h1, h2⟩ := h
  rw [cal_some h1]
  exact hk v m h2
/-- where the callee's answer is known -/
theorem ok_calE {X : Option Rz} {K : Int → Mem → Option Rz} {Q : Int → Mem → Prop} {v : Int} {m : Mem} (h : X = some (v, m)) (hk : Ok (K v m) Q) : Ok (cal X K) Q := by
  rw [cal_some h]
  exact hk
theorem ok_jn {F : Type} {j : F} {K : F → Option Rz} {Q : Int → Mem → Prop} (h : Ok (K j) Q) : Ok (jn j K) Q := h
theorem ok_ite {c : Prop} [Decidable c] {A B : Option Rz} {Q : Int → Mem → Prop} (h1 : c → Ok A Q) (h2 : ¬ c → Ok B Q) : Ok (if c then A else B) Q := by
  by_cases h : c
  · rw [if_pos h]; exact h1 h
  · rw [if_neg h]; exact h2 h
theorem ok_ifT {c : Prop} [Decidable c] {A B : Option Rz} {Q : Int → Mem → Prop} (h : c) (h1 : Ok A Q) : Ok (if c then A else B) Q := by rw [if_pos h]; exact h1
theorem ok_ifF {c : Prop} [Decidable c] {A B : Option Rz} {Q : Int → Mem → Prop} (h : ¬ c) (h1 : Ok B Q) : Ok (if c then A else B) Q := by rw [if_neg h]; exact h1
theorem ok_lp0 {body : (Mem → Option Rz) → Mem → Option Rz} {Q : Int → Mem → Prop} (I : Mem → Prop) (μ : Mem → Nat) (h : ∀ (w : Mem → Option Rz) m, I m → (∀ m', I m' → μ m' < μ m → Ok (w m') Q) → Ok (body w m) Q) : ∀ n m, I m → μ m < n → Ok (lp (F := Mem → Option Rz) (fun _ => none) body n m) Q
  | 0, m, _, hn => absurd hn (Nat.not_lt_zero _)
  | n + 1, m, hi, hn => h _ m hi (fun m' hi' hl => ok_lp0 I μ h n m' hi' (by omega))
theorem ok_lp1 {body : (Int → Mem → Option Rz) → Int → Mem → Option Rz} {Q : Int → Mem → Prop} (I : Int → Mem → Prop) (μ : Int → Mem → Nat) (h : ∀ (w : Int → Mem → Option Rz) k m, I k m → (∀ k' m', I k' m' → μ k' m' < μ k m → Ok (w k' m') Q) → Ok (body w k m) Q) : ∀ n k m, I k m → μ k m < n → Ok (lp (F := Int → Mem → Option Rz) (fun _ _ => none) body n k m) Q
  | 0, k, m, _, hn => absurd hn (Nat.not_lt_zero _)
  | n + 1, k, m, hi, hn => h _ k m hi (fun k' m' hi' hl => ok_lp1 I μ h n k' m' hi' (by omega))
theorem ok_lp2 {body : (Int → Int → Mem → Option Rz) → Int → Int → Mem → Option Rz} {Q : Int → Mem → Prop} (I : Int → Int → Mem → Prop) (μ : Int → Int → Mem → Nat) (h : ∀ (w : Int → Int → Mem → Option Rz) k k2 m, I k k2 m → (∀ k' k2' m', I k' k2' m' → μ k' k2' m' < μ k k2 m → Ok (w k' k2' m') Q) → Ok (body w k k2 m) Q) : ∀ n k k2 m, I k k2 m → μ k k2 m < n → Ok (lp (F := Int → Int → Mem → Option Rz) (fun _ _ _ => none) body n k k2 m) Q
  | 0, k, k2, m, _, hn => absurd hn (Nat.not_lt_zero _)
  | n + 1, k, k2, m, hi, hn => h _ k k2 m hi (fun k' k2' m' hi' hl => ok_lp2 I μ h n k' k2' m' hi' (by omega))
theorem ok_lp3 {body : (Int → Int → Int → Mem → Option Rz) → Int → Int → Int → Mem → Option Rz} {Q : Int → Mem → Prop} (I : Int → Int → Int → Mem → Prop) (μ : Int → Int → Int → Mem → Nat) (h : ∀ (w : Int → Int → Int → Mem → Option Rz) k k2 k3 m, I k k2 k3 m → (∀ k' k2' k3' m', I k' k2' k3' m' → μ k' k2' k3' m' < μ k k2 k3 m → Ok (w k' k2' k3' m') Q) → Ok (body w k k2 k3 m) Q) : ∀ n k k2 k3 m, I k k2 k3 m → μ k k2 k3 m < n → Ok (lp (F := Int → Int → Int → Mem → Option Rz) (fun _ _ _ _ => none) body n k k2 k3 m) Q
  | 0, k, k2, k3, m, _, hn => absurd hn (Nat.not_lt_zero _)
  | n + 1, k, k2, k3, m, hi, hn => h _ k k2 k3 m hi (fun k' k2' k3' m' hi' hl => ok_lp3 I μ h n k' k2' k3' m' hi' (by omega))
/-- a counting loop: from i on up to N, with an invariant by the count -/
theorem ok_up1 {body : (Int → Mem → Option Rz) → Int → Mem → Option Rz} {Q : Int → Mem → Prop} (N : Nat) (I : Nat → Mem → Prop) (hstep : ∀ (w : Int → Mem → Option Rz) (i : Nat) m, i < N → I i m → (∀ m', I (i + 1) m' → Ok (w ((i + 1 : Nat) : Int) m') Q) → Ok (body w (i : Int) m) Q) (hend : ∀ (w : Int → Mem → Option Rz) m, I N m → Ok (body w (N : Int) m) Q) : ∀ (n i : Nat) m, i ≤ N → I i m → N - i < n → Ok (lp (F := Int → Mem → Option Rz) (fun _ _ => none) body n (i : Int) m) Q
  | 0, i, m, _, _, hn => absurd hn (Nat.not_lt_zero _)
  | n + 1, i, m, hi, h, hn => by
    by_cases hN : i < N
    · exact hstep _ i m hN h (fun m' h' => ok_up1 N I hstep hend n (i + 1) m' (by omega) h' (by omega))
    · have e : i = N := by omega
      subst e
      exact hend _ m h
/-! reads and writes that go well -/
theorem ldJ_ok {m : Mem} {a len i : Nat} {K : Nat → Option Rz} (hk : sKind m a = (2, len)) (hi : i < len) : ldJ m a (i : Int) K = K (lGet m a i) := by
  unfold ldJ
  rw [hk, if_pos ⟨rfl, by omega, by show (i : Int) < (len : Int); omega⟩, Int.toNat_natCast]
theorem stJ_ok {m : Mem} {a len i v : Nat} {K : Mem → Option Rz} (hk : sKind m a = (2, len)) (hi : i < len) : stJ m a (i : Int) v K = K (lSet m a i v) := by
  unfold stJ
  rw [hk, if_pos ⟨rfl, by omega, by show (i : Int) < (len : Int); omega⟩, Int.toNat_natCast]
theorem ldI_ok {m : Mem} {a len i : Nat} {K : Int → Option Rz} (hk : sKind m a = (1, len)) (hi : i < len) : ldI m a (i : Int) K = K (mGet m a i) := by
  unfold ldI
  rw [hk, if_pos ⟨rfl, by omega, by show (i : Int) < (len : Int); omega⟩, Int.toNat_natCast]
theorem stI_ok {m : Mem} {a len i : Nat} {v : Int} {K : Mem → Option Rz} (hk : sKind m a = (1, len)) (hi : i < len) : stI m a (i : Int) v K = K (mSet m a i v) := by
  unfold stI
  rw [hk, if_pos ⟨rfl, by omega, by show (i : Int) < (len : Int); omega⟩, Int.toNat_natCast]
theorem lenA_ok {m : Mem} {a kd len : Nat} {K : Int → Option Rz} (hk : sKind m a = (kd, len)) (h0 : kd ≠ 0) (h7 : kd < 7) (hl : len < 2147483648) : lenA m a K = K (len : Int) := by
  unfold lenA
  rw [hk, if_pos ⟨h0, h7, hl⟩]
theorem w32_nat {n : Nat} (h : n < 2147483648) : w32 (n : Int) = (n : Int) := w32_id (by omega) (by omega)

