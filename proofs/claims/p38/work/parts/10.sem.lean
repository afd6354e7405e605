/-! the writer's own memory: whole numbers by cell and place, longs, new cells; what the class and its check keep stands there -/
abbrev Mem : Type := (Nat → Nat → Int) × (Nat → Nat → Nat) × List (Nat × Nat)
def inR (x : Int) : Prop := -2147483648 ≤ x ∧ x < 2147483648
def w32 (x : Int) : Int := (Int32.ofInt x).toInt
theorem inR_w32 (x : Int) : inR (w32 x) := ⟨(Int32.ofInt x).le_toInt, (Int32.ofInt x).toInt_lt⟩
theorem inR_32 (x : Int32) : inR x.toInt := ⟨x.le_toInt, x.toInt_lt⟩
theorem w32_id {x : Int} (h1 : -2147483648 ≤ x) (h2 : x < 2147483648) : w32 x = x := Int32.toInt_ofInt_of_le h1 h2
theorem w32_in {x : Int} (h : inR x) : w32 x = x := w32_id h.1 h.2
theorem ofInt_w32 (x : Int) : Int32.ofInt (w32 x) = Int32.ofInt x := Int32.ofInt_toInt _
theorem oI_lt {x y : Int} (hx : inR x) (hy : inR y) : Int32.ofInt x < Int32.ofInt y ↔ x < y := by
  rw [Int32.lt_iff_toInt_lt, Int32.toInt_ofInt_of_le hx.1 hx.2, Int32.toInt_ofInt_of_le hy.1 hy.2]
theorem oI_le {x y : Int} (hx : inR x) (hy : inR y) : Int32.ofInt x ≤ Int32.ofInt y ↔ x ≤ y := by
  rw [Int32.le_iff_toInt_le, Int32.toInt_ofInt_of_le hx.1 hx.2, Int32.toInt_ofInt_of_le hy.1 hy.2]
theorem oI_eq {x y : Int} (hx : inR x) (hy : inR y) : Int32.ofInt x = Int32.ofInt y ↔ x = y := by
  rw [← Int32.toInt_inj, Int32.toInt_ofInt_of_le hx.1 hx.2, Int32.toInt_ofInt_of_le hy.1 hy.2]
theorem oI_0 : (0 : Int32) = Int32.ofInt 0 := by decide +kernel
theorem inR_0 : inR 0 := ⟨by decide, by decide⟩
theorem oI_cl {x : Int} (hx : inR x) : (Int32.ofInt x).toNatClampNeg = x.toNat := Int32.toNatClampNeg_ofInt_of_le hx.1 hx.2
theorem oI_in {x : Int} {n : Nat} (hx : inR x) (h0 : 0 ≤ x) (h1 : x < (n : Int)) : vp_in (Int32.ofInt x) n := by
  rintro (h | h)
  · rw [oI_0, oI_lt hx inR_0] at h
    omega
  · rw [oI_cl hx] at h
    omega
abbrev iv (x : Int) : Value := .int (Int32.ofInt x)
abbrev jv (x : Nat) : Value := .long (Int64.ofNat x)
def rv (r : Nat) : Value := if r = 0 then .null else .ref r
theorem rv_0 : rv 0 = .null := if_pos rfl
theorem rv_s {r : Nat} (h : r ≠ 0) : rv r = .ref r := if_neg h
theorem rv_cat (r : Nat) : (rv r).category = 1 := by
  unfold rv
  by_cases h : r = 0
  · rw [if_pos h]; rfl
  · rw [if_neg h]; rfl
theorem rv_or (r : Nat) : rv r = .null ∨ ∃ a, rv r = .ref a := by
  by_cases h : r = 0
  · exact Or.inl (by rw [h]; rfl)
  · exact Or.inr ⟨r, rv_s h⟩
theorem cat_le (v : Value) : v.category ≤ 2 := by cases v <;> exact Nat.le_of_ble_eq_true rfl
theorem cat_sum : ∀ st : List Value, (st.map fun v => v.category).sum ≤ 2 * st.length
  | [] => Nat.le_refl _
  | v :: st => by
    have h1 := cat_le v
    have h2 := cat_sum st
    simp only [List.map_cons, List.sum_cons, List.length_cons]
    omega
theorem cat_8 {st : List Value} (h : st.length ≤ 4) : (st.map fun v => v.category).sum ≤ 8 := Nat.le_trans (cat_sum st) (by omega)
/-! numbers of 32 bits: and, or, xor, shifts, division; of 8 and 16 bits; of 64 bits as Nat -/
def iand (x y : Int) : Int := (Int32.ofInt x &&& Int32.ofInt y).toInt
def ior (x y : Int) : Int := (Int32.ofInt x ||| Int32.ofInt y).toInt
def ixor (x y : Int) : Int := (Int32.ofInt x ^^^ Int32.ofInt y).toInt
def ishl (x y : Int) : Int := (Int32.ofInt x <<< (Int32.ofInt y &&& 31)).toInt
def ishr (x y : Int) : Int := (Int32.ofInt x >>> (Int32.ofInt y &&& 31)).toInt
def iushr (x y : Int) : Int := ((Int32.ofInt x).toUInt32 >>> ((Int32.ofInt y).toUInt32 &&& Int32.toUInt32 31)).toInt32.toInt
def idiv (x y : Int) : Int := (Int32.ofInt x / Int32.ofInt y).toInt
def irem (x y : Int) : Int := (Int32.ofInt x - Int32.ofInt x / Int32.ofInt y * Int32.ofInt y).toInt
def i8 (x : Int) : Int := (Int32.ofInt x).toInt8.toInt32.toInt
def i16 (x : Int) : Int := (Int32.ofInt x).toInt16.toInt32.toInt
def l2n (z : Int64) : Nat := z.toBitVec.toNat
theorem l2n_of (z : Int64) : Int64.ofNat (l2n z) = z := by
  apply Int64.toBitVec_inj.mp
  show BitVec.ofNat 64 z.toBitVec.toNat = z.toBitVec
  simp
theorem l2n_lt (z : Int64) : l2n z < 18446744073709551616 := z.toBitVec.isLt
def l2N (n : Nat) : Nat := n % 18446744073709551616
theorem l2n_ofNat (n : Nat) : l2n (Int64.ofNat n) = n % 18446744073709551616 := by
  show (BitVec.ofNat 64 n).toNat = _
  rw [BitVec.toNat_ofNat]
def jand (x y : Nat) : Nat := l2n (Int64.ofNat x &&& Int64.ofNat y)
def jor (x y : Nat) : Nat := l2n (Int64.ofNat x ||| Int64.ofNat y)
def jxor (x y : Nat) : Nat := l2n (Int64.ofNat x ^^^ Int64.ofNat y)
def jshl (x : Nat) (y : Int) : Nat := l2n (Int64.ofNat x <<< ((Int32.ofInt y).toInt64 &&& 63))
def jshr (x : Nat) (y : Int) : Nat := l2n (Int64.ofNat x >>> ((Int32.ofInt y).toInt64 &&& 63))
def jushr (x : Nat) (y : Int) : Nat := l2n ((Int64.ofNat x).toUInt64 >>> ((Int32.ofInt y).toInt64.toUInt64 &&& Int64.toUInt64 63)).toInt64
def jcmp (x y : Nat) : Int := (lg_cmp (Int64.ofNat x) (Int64.ofNat y)).toInt
def i2j (x : Int) : Nat := l2n (Int32.ofInt x).toInt64
def j2i (x : Nat) : Int := (Int64.ofNat x).toInt32.toInt
/-! reading and writing -/
def mGet (m : Mem) (a i : Nat) : Int := w32 (m.1 a i)
def mSet (m : Mem) (a i : Nat) (v : Int) : Mem := (fun b j => if b = a ∧ j = i then v else m.1 b j, m.2)
def lGet (m : Mem) (a i : Nat) : Nat := m.2.1 a i % 18446744073709551616
theorem lGet_lt (m : Mem) (a i : Nat) : lGet m a i < 18446744073709551616 := Nat.mod_lt _ (by decide)
theorem ofNat_64 (v : Nat) : Int64.ofNat (v % 18446744073709551616) = Int64.ofNat v := by
  rw [← l2n_ofNat, l2n_of]
def lSet (m : Mem) (a i : Nat) (v : Nat) : Mem := (m.1, fun b j => if b = a ∧ j = i then v else m.2.1 b j, m.2.2)
theorem inR_mGet (m : Mem) (a i : Nat) : inR (mGet m a i) := inR_w32 _
theorem mGet_mSet (m : Mem) (a i : Nat) (v : Int) (b j : Nat) : mGet (mSet m a i v) b j = if b = a ∧ j = i then w32 v else mGet m b j := by
  unfold mGet mSet
  show w32 (if b = a ∧ j = i then v else m.1 b j) = _
  by_cases h : b = a ∧ j = i
  · rw [if_pos h, if_pos h]
  · rw [if_neg h, if_neg h]
theorem mGet_lSet (m : Mem) (a i : Nat) (v : Nat) (b j : Nat) : mGet (lSet m a i v) b j = mGet m b j := rfl
theorem lGet_mSet (m : Mem) (a i : Nat) (v : Int) (b j : Nat) : lGet (mSet m a i v) b j = lGet m b j := rfl
theorem lGet_lSet (m : Mem) (a i : Nat) (v : Nat) (b j : Nat) : lGet (lSet m a i v) b j = if b = a ∧ j = i then v % 18446744073709551616 else lGet m b j := by
  unfold lGet lSet
  show (if b = a ∧ j = i then v else m.2.1 b j) % 18446744073709551616 = _
  by_cases h : b = a ∧ j = i
  · rw [if_pos h, if_pos h]
  · rw [if_neg h, if_neg h]

/-- what stands at the numbers below 1000: the kind and how long -/
def sTbl : List (Nat × Nat) := [(0, 0), (20, 12), (5, 16), (1, 7), (19, 15), (2, 1024), (2, 1024), (2, 1024), (2, 1024), (1, 256), (1, 256), (2, 4), (2, 4), (2, 4), (2, 4), (2, 4), (2, 4), (2, 4), (14, 11), (1, 10), (1, 10), (1, 10), (1, 10), (1, 10), (1, 10), (1, 10), (1, 10), (3, 1000), (12, 7), (1, 11), (1, 121), (1, 16), (1, 120), (10, 5), (1, 11), (1, 11), (18, 5), (1, 10), (1, 10), (13, 4), (5, 67), (17, 8), (3, 120), (1, 120), (5, 120), (16, 7), (5, 8), (1, 8), (5, 8), (5, 8), (15, 3), (6, 4), (1, 24), (1, 24), (1, 24), (1, 24), (1, 4), (1, 4)]
/-- what the fields of a class hold: 0 a number, 1 a reference that changes, q + 2 the cell q -/
def fTbl : List (List Nat) := [[36, 37, 1, 1, 0], [1, 1, 1, 0, 0], [6, 20, 31, 32, 33, 34, 1], [6, 20, 42, 0], [6, 21, 22, 23, 24, 25, 26, 27, 28, 29, 0], [53, 58, 59], [1, 48, 49, 50, 51, 0, 0], [30, 44, 45, 46, 0, 0, 0, 0], [6, 35, 1, 39, 40], [7, 8, 9, 10, 11, 12, 13, 14, 15, 16, 17, 18, 19, 0, 0], [6, 20, 30, 35, 38, 41, 43, 47, 52, 1, 4, 5], []]


def sKind (m : Mem) (id : Nat) : Nat × Nat := if id < 1000 then sTbl.getD id (0, 0) else m.2.2.getD (id - 1000) (0, 0)
def fSpec (c k : Nat) : Nat := (fTbl.getD c []).getD k 0
def nFld (c : Nat) : Nat := (fTbl.getD c []).length
def fVal (m : Mem) (id c k : Nat) : Value := match fSpec c k with
  | 0 => iv (mGet m id k)
  | 1 => rv (mGet m id k).toNat
  | r + 2 => .ref r
def flds (m : Mem) (id c : Nat) : List Value := (List.range (nFld c)).map (fVal m id c)
def orf (r : Nat) : Option Nat := if r = 0 then none else some r
def cel (m : Mem) (id : Nat) : Option g_E := match (sKind m id).1 with
  | 0 => none
  | 1 => some (.inl (.int, ((sKind m id).2, .inl fun j => Int32.ofInt (mGet m id j))))
  | 2 => some (.inl (.long, ((sKind m id).2, .inr (.inl fun j => Int64.ofNat (lGet m id j)))))
  | 3 => some (.inl (.byte, ((sKind m id).2, .inl fun j => Int32.ofInt (mGet m id j))))
  | 4 => some (.inl (.boolean, ((sKind m id).2, .inl fun j => Int32.ofInt (mGet m id j))))
  | 5 => some (.inl (.object "UppityGames$Game", ((sKind m id).2, .inr (.inr (.inr (.inr fun j => orf (mGet m id j).toNat))))))
  | 6 => some (.inl (.array .int, ((sKind m id).2, .inr (.inr (.inr (.inr fun j => if j < (sKind m id).2 then some (id + 1 + j) else none))))))
  | k => some (.inr (k - 10, flds m id (k - 10)))
theorem sKind_mSet (m : Mem) (a i : Nat) (v : Int) (b : Nat) : sKind (mSet m a i v) b = sKind m b := rfl
theorem sKind_lSet (m : Mem) (a i : Nat) (v : Nat) (b : Nat) : sKind (lSet m a i v) b = sKind m b := rfl
theorem cel_int {m : Mem} {a : Nat} (h : (sKind m a).1 = 1) : cel m a = some (.inl (.int, ((sKind m a).2, .inl fun j => Int32.ofInt (mGet m a j)))) := by
  unfold cel; rw [h]; rfl
theorem cel_long {m : Mem} {a : Nat} (h : (sKind m a).1 = 2) : cel m a = some (.inl (.long, ((sKind m a).2, .inr (.inl fun j => Int64.ofNat (lGet m a j))))) := by
  unfold cel; rw [h]; rfl
theorem cel_byte {m : Mem} {a : Nat} (h : (sKind m a).1 = 3) : cel m a = some (.inl (.byte, ((sKind m a).2, .inl fun j => Int32.ofInt (mGet m a j)))) := by
  unfold cel; rw [h]; rfl
theorem cel_bool {m : Mem} {a : Nat} (h : (sKind m a).1 = 4) : cel m a = some (.inl (.boolean, ((sKind m a).2, .inl fun j => Int32.ofInt (mGet m a j)))) := by
  unfold cel; rw [h]; rfl
theorem cel_game {m : Mem} {a : Nat} (h : (sKind m a).1 = 5) : cel m a = some (.inl (.object "UppityGames$Game", ((sKind m a).2, .inr (.inr (.inr (.inr fun j => orf (mGet m a j).toNat)))))) := by
  unfold cel; rw [h]; rfl
theorem cel_rows {m : Mem} {a : Nat} (h : (sKind m a).1 = 6) : cel m a = some (.inl (.array .int, ((sKind m a).2, .inr (.inr (.inr (.inr fun j => if j < (sKind m a).2 then some (a + 1 + j) else none)))))) := by
  unfold cel; rw [h]; rfl
theorem cel_obj {m : Mem} {a c : Nat} (h : (sKind m a).1 = c + 10) : cel m a = some (.inr (c, flds m a c)) := by
  unfold cel; rw [h]
  split <;> first | (rename_i h9; exact absurd h9 (by omega)) | skip
  rw [Nat.add_sub_cancel]
theorem fVal_ext {m m' : Mem} {a c k : Nat} (h : mGet m' a k = mGet m a k) : fVal m' a c k = fVal m a c k := by
  unfold fVal
  split <;> first | rw [h] | rfl
theorem cel_ext {m m' : Mem} {j : Nat} (h1 : sKind m' j = sKind m j) (h2 : ∀ i, mGet m' j i = mGet m j i) (h3 : ∀ i, lGet m' j i = lGet m j i) : cel m' j = cel m j := by
  have hf : ∀ c, flds m' j c = flds m j c := fun c => List.map_congr_left (fun k _ => fVal_ext (h2 k))
  unfold cel
  rw [h1]
  simp only [h2, h3, hf]
theorem cel_mSet {m : Mem} {a i j : Nat} {v : Int} (h : j ≠ a) : cel (mSet m a i v) j = cel m j := cel_ext rfl (fun i' => by rw [mGet_mSet, if_neg (fun q => h q.1)]) (fun _ => rfl)
theorem cel_lSet {m : Mem} {a i j : Nat} {v : Nat} (h : j ≠ a) : cel (lSet m a i v) j = cel m j := cel_ext rfl (fun _ => rfl) (fun i' => by rw [lGet_lSet, if_neg (fun q => h q.1)])
theorem flds_get {m : Mem} {a c k : Nat} (hk : k < nFld c) : (flds m a c)[k]? = some (fVal m a c k) := by
  unfold flds
  rw [List.getElem?_map, List.getElem?_range hk]; rfl
theorem flds_len (m : Mem) (a c : Nat) : (flds m a c).length = nFld c := by
  unfold flds
  rw [List.length_map, List.length_range]
theorem flds_set {m : Mem} {a c k : Nat} {v : Int} {u : Value} (hk : k < nFld c) (hu : fVal (mSet m a k v) a c k = u) : (flds m a c).set k u = flds (mSet m a k v) a c := by
  apply List.ext_getElem?
  intro j
  rw [List.getElem?_set, flds_len]
  by_cases hjk : k = j
  · subst hjk
    rw [if_pos rfl, if_pos hk, flds_get hk, hu]
  · rw [if_neg hjk]
    by_cases hj : j < nFld c
    · rw [flds_get hj, flds_get hj, fVal_ext]
      rw [mGet_mSet, if_neg (fun q => hjk q.2.symm)]
    · rw [List.getElem?_eq_none (by rw [flds_len]; omega), List.getElem?_eq_none (by rw [flds_len]; omega)]
/-- a heap that shows a memory at the numbers of R, and what stands outside is the same for every memory -/
def LE (E : Mem → g_H) (R : Nat → Prop) : Prop := (∀ m id, R id → E m id = cel m id) ∧ ∀ m m' id, ¬ R id → E m id = E m' id
theorem LE.up {E : Mem → g_H} {R : Nat → Prop} {m m' : Mem} {a : Nat} {c : g_E} (hE : LE E R) (hr : R a) (h : cel m' a = some c) (ho : ∀ j, j ≠ a → cel m' j = cel m j) : g_up (E m) a c = E m' := by
  funext j
  by_cases hj : j = a
  · subst hj
    rw [g_up_self, hE.1 m' j hr, h]
  · rw [g_up_ne _ _ hj]
    by_cases hR : R j
    · rw [hE.1 m j hR, hE.1 m' j hR, ho j hj]
    · exact hE.2 m m' j hR
/-! programs: what stands behind a read, a write, a call -/
abbrev Rz : Type := Int × Mem
def ldI (m : Mem) (a : Nat) (i : Int) (K : Int → Option Rz) : Option Rz := if (sKind m a).1 = 1 ∧ 0 ≤ i ∧ i < ((sKind m a).2 : Int) then K (mGet m a i.toNat) else none
def ldB (m : Mem) (a : Nat) (i : Int) (K : Int → Option Rz) : Option Rz := if (sKind m a).1 = 3 ∧ 0 ≤ i ∧ i < ((sKind m a).2 : Int) then K (mGet m a i.toNat) else none
def ldZ (m : Mem) (a : Nat) (i : Int) (K : Int → Option Rz) : Option Rz := if (sKind m a).1 = 4 ∧ 0 ≤ i ∧ i < ((sKind m a).2 : Int) then K (mGet m a i.toNat) else none
def ldJ (m : Mem) (a : Nat) (i : Int) (K : Nat → Option Rz) : Option Rz := if (sKind m a).1 = 2 ∧ 0 ≤ i ∧ i < ((sKind m a).2 : Int) then K (lGet m a i.toNat) else none
def ldG (m : Mem) (a : Nat) (i : Int) (K : Nat → Option Rz) : Option Rz := if (sKind m a).1 = 5 ∧ 0 ≤ i ∧ i < ((sKind m a).2 : Int) then K (mGet m a i.toNat).toNat else none
def ldR (m : Mem) (a : Nat) (i : Int) (K : Nat → Option Rz) : Option Rz := if (sKind m a).1 = 6 ∧ 0 ≤ i ∧ i < ((sKind m a).2 : Int) then K (a + 1 + i.toNat) else none
def stI (m : Mem) (a : Nat) (i v : Int) (K : Mem → Option Rz) : Option Rz := if (sKind m a).1 = 1 ∧ 0 ≤ i ∧ i < ((sKind m a).2 : Int) then K (mSet m a i.toNat v) else none
def stB (m : Mem) (a : Nat) (i v : Int) (K : Mem → Option Rz) : Option Rz := if (sKind m a).1 = 3 ∧ 0 ≤ i ∧ i < ((sKind m a).2 : Int) then K (mSet m a i.toNat (i8 v)) else none
def stZ (m : Mem) (a : Nat) (i v : Int) (K : Mem → Option Rz) : Option Rz := if (sKind m a).1 = 4 ∧ 0 ≤ i ∧ i < ((sKind m a).2 : Int) ∧ (v = 0 ∨ v = 1) then K (mSet m a i.toNat v) else none
def stJ (m : Mem) (a : Nat) (i : Int) (v : Nat) (K : Mem → Option Rz) : Option Rz := if (sKind m a).1 = 2 ∧ 0 ≤ i ∧ i < ((sKind m a).2 : Int) then K (lSet m a i.toNat v) else none
def stG (m : Mem) (a : Nat) (i : Int) (v : Nat) (K : Mem → Option Rz) : Option Rz := if (sKind m a).1 = 5 ∧ 0 ≤ i ∧ i < ((sKind m a).2 : Int) ∧ (v = 0 ∨ 1000 ≤ v ∧ v < 2147483648 ∧ (sKind m v).1 = 11) then K (mSet m a i.toNat (v : Int)) else none
def lenA (m : Mem) (a : Nat) (K : Int → Option Rz) : Option Rz := if (sKind m a).1 ≠ 0 ∧ (sKind m a).1 < 7 ∧ (sKind m a).2 < 2147483648 then K ((sKind m a).2 : Int) else none
/-- fields: a number, a truth, a reference -/
def gtF (m : Mem) (a k : Nat) (K : Int → Option Rz) : Option Rz := K (mGet m a k)
def gtG (m : Mem) (a k : Nat) (K : Nat → Option Rz) : Option Rz := K (mGet m a k).toNat
def ptF (m : Mem) (a k : Nat) (v : Int) (K : Mem → Option Rz) : Option Rz := K (mSet m a k v)
def ptZ (m : Mem) (a k : Nat) (v : Int) (K : Mem → Option Rz) : Option Rz := if v = 0 ∨ v = 1 then K (mSet m a k v) else none
def ptG (m : Mem) (a k : Nat) (v : Nat) (K : Mem → Option Rz) : Option Rz := if v < 2147483648 then K (mSet m a k (v : Int)) else none
/-- a game is there -/
def isG (m : Mem) (g : Nat) (K : Option Rz) : Option Rz := if 1000 ≤ g ∧ (sKind m g).1 = 11 then K else none
/-- a new cell's place is there -/
def isD (g : Nat) (K : Option Rz) : Option Rz := if 1000 ≤ g then K else none
def cal (X : Option Rz) (K : Int → Mem → Option Rz) : Option Rz := match X with
  | some r => K r.1 r.2
  | none => none
def rt (v : Int) (m : Mem) : Option Rz := some (v, m)
def rtZ (v : Int) (m : Mem) : Option Rz := if v = 0 ∨ v = 1 then some (v, m) else none
def ok0 (c : Prop) [Decidable c] (K : Option Rz) : Option Rz := if c then K else none
/-- loops, and places where ways meet -/
def lp {F : Type} (bot : F) (body : F → F) : Nat → F
  | 0 => bot
  | n + 1 => body (lp bot body n)
def jn {F : Type} (j : F) (K : F → Option Rz) : Option Rz := K j
theorem lp_ind {F : Type} {bot : F} {body : F → F} (P : F → Prop) (h0 : P bot) (hs : ∀ f, P f → P (body f)) : ∀ n, P (lp bot body n)
  | 0 => h0
  | n + 1 => hs _ (lp_ind P h0 hs n)
theorem lp_indN {F : Type} {bot : F} {body : F → F} (P : Nat → F → Prop) (h0 : P 0 bot) (hs : ∀ n f, P n f → P (n + 1) (body f)) : ∀ n, P n (lp bot body n)
  | 0 => h0
  | n + 1 => hs _ _ (lp_indN P h0 hs n)
theorem jn_ind {F : Type} {j : F} {K : F → Option Rz} {r : Rz} {G : Prop} (P : F → Prop) (hj : P j) (hk : ∀ f, P f → K f = some r → G) (H : jn j K = some r) : G := hk j hj H
theorem cal_some {X : Option Rz} {K : Int → Mem → Option Rz} {v : Int} {m : Mem} (h : X = some (v, m)) : cal X K = K v m := by rw [h]; rfl
theorem chk {c : Prop} [Decidable c] {K : Option Rz} {r : Rz} (H : (if c then K else none) = some r) : c ∧ K = some r := by
  by_cases h : c
  · rw [if_pos h] at H; exact ⟨h, H⟩
  · rw [if_neg h] at H; cases H
def nm (x : Int) (K : Int → Option Rz) : Option Rz := K x
def nmj (x : Nat) (K : Nat → Option Rz) : Option Rz := K x
def gmF (m : Mem) (g k : Nat) (K : Int → Option Rz) : Option Rz := if (sKind m g).1 = 11 then K (mGet m g k) else none
def gmG (m : Mem) (g k : Nat) (K : Nat → Option Rz) : Option Rz := if (sKind m g).1 = 11 then K (mGet m g k).toNat else none
theorem inR_lit (z : Int) (h : (decide (-2147483648 ≤ z) && decide (z < 2147483648)) = true) : inR z := by
  rw [Bool.and_eq_true, decide_eq_true_iff, decide_eq_true_iff] at h
  exact h
theorem sw_eq {x c : Int} {A B : Option Rz} {r : Rz} (H : (if x = c then A else B) = some r) : (x = c ∧ A = some r) ∨ (¬ x = c ∧ B = some r) := by
  by_cases h : x = c
  · rw [if_pos h] at H; exact Or.inl ⟨h, H⟩
  · rw [if_neg h] at H; exact Or.inr ⟨h, H⟩
/-- which numbers a method's rows may ask for -/
def RD (R : Nat → Prop) : Prop := ∀ q, 1000 ≤ q → R q
def RYS (R : Nat → Prop) : Prop := (∀ q, 4 ≤ q → q < 28 → R q) ∧ RD R
def RMK (R : Nat → Prop) : Prop := (∀ q, 4 ≤ q → q < 33 → R q) ∧ RD R
def RCL (R : Nat → Prop) : Prop := (∀ q, 1 ≤ q → q < 58 → R q) ∧ RD R
def RRF (R : Nat → Prop) : Prop := ∀ q, 100 ≤ q → q < 140 → R q
theorem RYS.d {R : Nat → Prop} (h : RYS R) : RD R := h.2
theorem RMK.d {R : Nat → Prop} (h : RMK R) : RD R := h.2
theorem RMK.ys {R : Nat → Prop} (h : RMK R) : RYS R := ⟨fun q h1 h2 => h.1 q (by omega) (by omega), h.2⟩
theorem RCL.d {R : Nat → Prop} (h : RCL R) : RD R := h.2
theorem RCL.mk {R : Nat → Prop} (h : RCL R) : RMK R := ⟨fun q h1 h2 => h.1 q (by omega) (by omega), h.2⟩
theorem RCL.ys {R : Nat → Prop} (h : RCL R) : RYS R := ⟨fun q h1 h2 => h.1 q (by omega) (by omega), h.2⟩
def imax (x y : Int) : Int := if x < y then y else x
def imin (x y : Int) : Int := if y < x then y else x
def iabs (x : Int) : Int := if 0 ≤ x then x else w32 (0 - x)
theorem inR_max {x y : Int} (hx : inR x) (hy : inR y) : inR (imax x y) := by
  unfold imax
  split
  · exact hy
  · exact hx
theorem inR_min {x y : Int} (hx : inR x) (hy : inR y) : inR (imin x y) := by
  unfold imin
  split
  · exact hy
  · exact hx
theorem inR_abs {x : Int} (hx : inR x) : inR (iabs x) := by
  unfold iabs
  split
  · exact hx
  · exact inR_w32 _
/-- what a method leaves -/
def pI (E : Mem → g_H) (r : Rz) : Option Value → g_H → Prop := fun v hp => v = some (iv r.1) ∧ inR r.1 ∧ hp = E r.2
def pV (E : Mem → g_H) (r : Rz) : Option Value → g_H → Prop := fun v hp => v = none ∧ hp = E r.2
def pG (E : Mem → g_H) (r : Rz) : Option Value → g_H → Prop := fun v hp => v = some (rv r.1.toNat) ∧ hp = E r.2
section SX
variable {l : Launch} {D : va_G} {base : Nat} {sc : g_S} {own : String} {y : MethodName} {cc : ByteArray} {nL : Nat} {ret : Option FieldType} {d mc ms : Nat} {ad0 : Nat → Nat} {hp0 hp : g_H} {Post : Option Value → g_H → Prop} {k n : Nat} {pc : Nat} {L : List (Nat × Value)} {st : List Value} {E : Mem → g_H} {R : Nat → Prop} {m : Mem} {r : Rz}

theorem AW.sel (is : List Nat) {L' : List (Nat × Value)} (h : is.filterMap (fun i => L[i]?) = L') (kk : AW l D base sc own y cc nL ret d mc ms ad0 hp0 Post k n hp pc L' st) : AW l D base sc own y cc nL ret d mc ms ad0 hp0 Post k n hp pc L st := AW.locals L' (fun q hq => by
  rw [← h] at hq
  obtain ⟨i, -, hi⟩ := List.mem_filterMap.mp hq
  exact List.mem_of_getElem? hi) kk
theorem cx_iconst {z : Int} (hd : decode cc pc = .ok (.iconst z, 1)) (kk : AW l D base sc own y cc nL ret d mc ms ad0 hp0 Post k n hp (pc + 1) L (iv z :: st)) : AW l D base sc own y cc nL ret d mc ms ad0 hp0 Post k n hp pc L st := aw_iconst _ hd rfl kk
theorem cx_bipush {z : Int} (hd : decode cc pc = .ok (.bipush z, 2)) (hz : (Int8.ofInt z).toInt32 = Int32.ofInt z) (kk : AW l D base sc own y cc nL ret d mc ms ad0 hp0 Post k n hp (pc + 2) L (iv z :: st)) : AW l D base sc own y cc nL ret d mc ms ad0 hp0 Post k n hp pc L st := aw_bipush _ hd hz kk
theorem cx_sipush {z : Int} (hd : decode cc pc = .ok (.sipush z, 3)) (hz : (Int16.ofInt z).toInt32 = Int32.ofInt z) (kk : AW l D base sc own y cc nL ret d mc ms ad0 hp0 Post k n hp (pc + 3) L (iv z :: st)) : AW l D base sc own y cc nL ret d mc ms ad0 hp0 Post k n hp pc L st := aw_sipush _ hd hz kk
theorem cx_ldc {ix : Nat} {v : Int32} (z : Int) (hd : decode cc pc = .ok (.ldc ix, 2)) (hw : Cond.constant own ix v ∈ g_T) (hz : v = Int32.ofInt z) (kk : AW l D base sc own y cc nL ret d mc ms ad0 hp0 Post k n hp (pc + 2) L (iv z :: st)) : AW l D base sc own y cc nL ret d mc ms ad0 hp0 Post k n hp pc L st := aw_ldc _ hd (hz ▸ hw) kk
theorem cx_ldcw {ix : Nat} {v : Int32} (z : Int) (hd : decode cc pc = .ok (.ldc_w ix, 3)) (hw : Cond.constant own ix v ∈ g_T) (hz : v = Int32.ofInt z) (kk : AW l D base sc own y cc nL ret d mc ms ad0 hp0 Post k n hp (pc + 3) L (iv z :: st)) : AW l D base sc own y cc nL ret d mc ms ad0 hp0 Post k n hp pc L st := aw_ldcw _ hd (hz ▸ hw) kk
theorem cx_lconst {z : Fin 2} (hd : decode cc pc = .ok (.lconst z, 1)) (kk : AW l D base sc own y cc nL ret d mc ms ad0 hp0 Post k n hp (pc + 1) L (jv (z : Nat) :: st)) : AW l D base sc own y cc nL ret d mc ms ad0 hp0 Post k n hp pc L st := aw_lconst _ hd rfl kk
theorem cx_ldc2 {ix : Nat} {v : Int64} (z : Nat) (hd : decode cc pc = .ok (.ldc2_w ix, 3)) (hw : Cond.constantLong own ix v ∈ g_T) (hz : v = Int64.ofNat z) (kk : AW l D base sc own y cc nL ret d mc ms ad0 hp0 Post k n hp (pc + 3) L (jv z :: st)) : AW l D base sc own y cc nL ret d mc ms ad0 hp0 Post k n hp pc L st := aw_ldc2 _ hd (hz ▸ hw) kk
theorem cx_aload_n {i : Fin 4} {x : Nat} (hd : decode cc pc = .ok (.aload_n i, 1)) (hx : L.lookup (i : Nat) = some (rv x)) (kk : AW l D base sc own y cc nL ret d mc ms ad0 hp0 Post k n hp (pc + 1) L (rv x :: st)) : AW l D base sc own y cc nL ret d mc ms ad0 hp0 Post k n hp pc L st := by
  by_cases h : x = 0
  · subst h
    exact aw_aload_nN hd hx kk
  · rw [rv_s h] at hx kk
    exact aw_aload_n hd hx kk
theorem cx_aload {i : Nat} {x : Nat} (hd : decode cc pc = .ok (.aload i, 2)) (hx : L.lookup i = some (rv x)) (kk : AW l D base sc own y cc nL ret d mc ms ad0 hp0 Post k n hp (pc + 2) L (rv x :: st)) : AW l D base sc own y cc nL ret d mc ms ad0 hp0 Post k n hp pc L st := by
  by_cases h : x = 0
  · subst h
    exact aw_aloadN hd hx kk
  · rw [rv_s h] at hx kk
    exact aw_aload hd hx kk
theorem cx_astore_n {i : Fin 4} {x : Nat} (L' : List (Nat × Value)) (hd : decode cc pc = .ok (.astore_n i, 1)) (hL' : g_st1 L (i : Nat) (rv x) = L') (hn : (i : Nat) < nL) (kk : AW l D base sc own y cc nL ret d mc ms ad0 hp0 Post k n hp (pc + 1) L' st) : AW l D base sc own y cc nL ret d mc ms ad0 hp0 Post k n hp pc L (rv x :: st) := by
  by_cases h : x = 0
  · subst h
    exact aw_astore_nN L' hd hL' hn kk
  · rw [rv_s h] at hL' ⊢
    exact aw_astore_n L' hd hL' hn kk
theorem cx_astore {i : Nat} {x : Nat} (L' : List (Nat × Value)) (hd : decode cc pc = .ok (.astore i, 2)) (hL' : g_st1 L i (rv x) = L') (hn : i < nL) (kk : AW l D base sc own y cc nL ret d mc ms ad0 hp0 Post k n hp (pc + 2) L' st) : AW l D base sc own y cc nL ret d mc ms ad0 hp0 Post k n hp pc L (rv x :: st) := by
  by_cases h : x = 0
  · subst h
    exact aw_astoreN L' hd hL' hn kk
  · rw [rv_s h] at hL' ⊢
    exact aw_astore L' hd hL' hn kk
theorem cx_null (hd : decode cc pc = .ok (.aconst_null, 1)) (kk : AW l D base sc own y cc nL ret d mc ms ad0 hp0 Post k n hp (pc + 1) L (rv 0 :: st)) : AW l D base sc own y cc nL ret d mc ms ad0 hp0 Post k n hp pc L st := aw_null hd kk
/-- a name for a number -/
theorem cx_top {x : Int} (hx : inR x) (kk : ∀ z : Int, z = x → inR z → AW l D base sc own y cc nL ret d mc ms ad0 hp0 Post k n hp pc L (iv z :: st)) : AW l D base sc own y cc nL ret d mc ms ad0 hp0 Post k n hp pc L (iv x :: st) := kk x rfl hx
theorem cx_iinc {i : Nat} {z : Int} {x : Int} (L' : List (Nat × Value)) (hd : decode cc pc = .ok (.iinc i z, 3)) (hx : L.lookup i = some (iv x)) (hL' : g_st1 L i (iv (w32 (x + z))) = L') (hn : i < nL) (kk : AW l D base sc own y cc nL ret d mc ms ad0 hp0 Post k n hp (pc + 3) L' st) : AW l D base sc own y cc nL ret d mc ms ad0 hp0 Post k n hp pc L st := by
  have e : Int32.ofInt x + Int32.ofInt z = Int32.ofInt (w32 (x + z)) := by rw [ofInt_w32, Int32.ofInt_add]
  exact aw_iinc (Int32.ofInt (w32 (x + z))) L' hd hx e hL' hn kk
theorem cx_iadd {x z : Int} (hd : decode cc pc = .ok (.iadd, 1)) (kk : AW l D base sc own y cc nL ret d mc ms ad0 hp0 Post k n hp (pc + 1) L (iv (w32 (x + z)) :: st)) : AW l D base sc own y cc nL ret d mc ms ad0 hp0 Post k n hp pc L (iv z :: iv x :: st) := by
  refine aw_iadd hd ?_
  rw [← Int32.ofInt_add, ← ofInt_w32]
  exact kk
theorem cx_isub {x z : Int} (hd : decode cc pc = .ok (.isub, 1)) (kk : AW l D base sc own y cc nL ret d mc ms ad0 hp0 Post k n hp (pc + 1) L (iv (w32 (x - z)) :: st)) : AW l D base sc own y cc nL ret d mc ms ad0 hp0 Post k n hp pc L (iv z :: iv x :: st) := by
  refine aw_isub hd ?_
  rw [← Int32.ofInt_sub, ← ofInt_w32]
  exact kk
theorem cx_imul {x z : Int} (hd : decode cc pc = .ok (.imul, 1)) (kk : AW l D base sc own y cc nL ret d mc ms ad0 hp0 Post k n hp (pc + 1) L (iv (w32 (x * z)) :: st)) : AW l D base sc own y cc nL ret d mc ms ad0 hp0 Post k n hp pc L (iv z :: iv x :: st) := by
  refine aw_imul hd ?_
  rw [← Int32.ofInt_mul, ← ofInt_w32]
  exact kk
theorem cx_iand {x z : Int} (hd : decode cc pc = .ok (.iand, 1)) (kk : AW l D base sc own y cc nL ret d mc ms ad0 hp0 Post k n hp (pc + 1) L (iv (iand x z) :: st)) : AW l D base sc own y cc nL ret d mc ms ad0 hp0 Post k n hp pc L (iv z :: iv x :: st) := by
  refine aw_iand hd ?_
  rw [show (iv (iand x z) : Value) = .int _ from congrArg Value.int (Int32.ofInt_toInt _)] at kk
  exact kk
theorem cx_ior {x z : Int} (hd : decode cc pc = .ok (.ior, 1)) (kk : AW l D base sc own y cc nL ret d mc ms ad0 hp0 Post k n hp (pc + 1) L (iv (ior x z) :: st)) : AW l D base sc own y cc nL ret d mc ms ad0 hp0 Post k n hp pc L (iv z :: iv x :: st) := by
  refine aw_ior hd ?_
  rw [show (iv (ior x z) : Value) = .int _ from congrArg Value.int (Int32.ofInt_toInt _)] at kk
  exact kk
theorem cx_ixor {x z : Int} (hd : decode cc pc = .ok (.ixor, 1)) (kk : AW l D base sc own y cc nL ret d mc ms ad0 hp0 Post k n hp (pc + 1) L (iv (ixor x z) :: st)) : AW l D base sc own y cc nL ret d mc ms ad0 hp0 Post k n hp pc L (iv z :: iv x :: st) := by
  refine aw_ixor hd ?_
  rw [show (iv (ixor x z) : Value) = .int _ from congrArg Value.int (Int32.ofInt_toInt _)] at kk
  exact kk
theorem cx_ishl {x z : Int} (hd : decode cc pc = .ok (.ishl, 1)) (kk : AW l D base sc own y cc nL ret d mc ms ad0 hp0 Post k n hp (pc + 1) L (iv (ishl x z) :: st)) : AW l D base sc own y cc nL ret d mc ms ad0 hp0 Post k n hp pc L (iv z :: iv x :: st) := by
  refine aw_ishl hd ?_
  rw [show (iv (ishl x z) : Value) = .int _ from congrArg Value.int (Int32.ofInt_toInt _)] at kk
  exact kk
theorem cx_ishr {x z : Int} (hd : decode cc pc = .ok (.ishr, 1)) (kk : AW l D base sc own y cc nL ret d mc ms ad0 hp0 Post k n hp (pc + 1) L (iv (ishr x z) :: st)) : AW l D base sc own y cc nL ret d mc ms ad0 hp0 Post k n hp pc L (iv z :: iv x :: st) := by
  refine aw_ishr hd ?_
  rw [show (iv (ishr x z) : Value) = .int _ from congrArg Value.int (Int32.ofInt_toInt _)] at kk
  exact kk
theorem cx_iushr {x z : Int} (hd : decode cc pc = .ok (.iushr, 1)) (kk : AW l D base sc own y cc nL ret d mc ms ad0 hp0 Post k n hp (pc + 1) L (iv (iushr x z) :: st)) : AW l D base sc own y cc nL ret d mc ms ad0 hp0 Post k n hp pc L (iv z :: iv x :: st) := by
  refine aw_iushr hd ?_
  rw [show (iv (iushr x z) : Value) = .int _ from congrArg Value.int (Int32.ofInt_toInt _)] at kk
  exact kk
theorem cx_idiv {x z : Int} (hz : inR z) (hd : decode cc pc = .ok (.idiv, 1)) {K : Option Rz} (H : ok0 (z ≠ 0) K = some r) (kk : K = some r → AW l D base sc own y cc nL ret d mc ms ad0 hp0 Post k n hp (pc + 1) L (iv (idiv x z) :: st)) : AW l D base sc own y cc nL ret d mc ms ad0 hp0 Post k n hp pc L (iv z :: iv x :: st) := by
  obtain ⟨h0, H⟩ := chk H
  have kk := kk H
  refine aw_idiv hd (fun q => h0 (by rw [oI_0, oI_eq hz inR_0] at q; exact q)) ?_
  rw [show (iv (idiv x z) : Value) = .int _ from congrArg Value.int (Int32.ofInt_toInt _)] at kk
  exact kk
theorem cx_irem {x z : Int} (hz : inR z) (hd : decode cc pc = .ok (.irem, 1)) {K : Option Rz} (H : ok0 (z ≠ 0) K = some r) (kk : K = some r → AW l D base sc own y cc nL ret d mc ms ad0 hp0 Post k n hp (pc + 1) L (iv (irem x z) :: st)) : AW l D base sc own y cc nL ret d mc ms ad0 hp0 Post k n hp pc L (iv z :: iv x :: st) := by
  obtain ⟨h0, H⟩ := chk H
  have kk := kk H
  refine aw_irem hd (fun q => h0 (by rw [oI_0, oI_eq hz inR_0] at q; exact q)) ?_
  rw [show (iv (irem x z) : Value) = .int _ from congrArg Value.int (Int32.ofInt_toInt _)] at kk
  exact kk
theorem cx_ineg {x : Int} (hd : decode cc pc = .ok (.ineg, 1)) (kk : AW l D base sc own y cc nL ret d mc ms ad0 hp0 Post k n hp (pc + 1) L (iv (w32 (-x)) :: st)) : AW l D base sc own y cc nL ret d mc ms ad0 hp0 Post k n hp pc L (iv x :: st) := by
  refine aw_ineg hd ?_
  rw [← Int32.ofInt_neg, ← ofInt_w32]
  exact kk
theorem cx_i2b {x : Int} (hd : decode cc pc = .ok (.i2b, 1)) (kk : AW l D base sc own y cc nL ret d mc ms ad0 hp0 Post k n hp (pc + 1) L (iv (i8 x) :: st)) : AW l D base sc own y cc nL ret d mc ms ad0 hp0 Post k n hp pc L (iv x :: st) := by
  refine aw_i2b hd ?_
  rw [show (iv (i8 x) : Value) = .int _ from congrArg Value.int (Int32.ofInt_toInt _)] at kk
  exact kk
theorem cx_i2s {x : Int} (hd : decode cc pc = .ok (.i2s, 1)) (kk : AW l D base sc own y cc nL ret d mc ms ad0 hp0 Post k n hp (pc + 1) L (iv (i16 x) :: st)) : AW l D base sc own y cc nL ret d mc ms ad0 hp0 Post k n hp pc L (iv x :: st) := by
  refine aw_i2s hd ?_
  rw [show (iv (i16 x) : Value) = .int _ from congrArg Value.int (Int32.ofInt_toInt _)] at kk
  exact kk
theorem cx_l2i {x : Nat} (hd : decode cc pc = .ok (.l2i, 1)) (kk : AW l D base sc own y cc nL ret d mc ms ad0 hp0 Post k n hp (pc + 1) L (iv (j2i x) :: st)) : AW l D base sc own y cc nL ret d mc ms ad0 hp0 Post k n hp pc L (jv x :: st) := by
  refine aw_l2i hd ?_
  rw [show (iv (j2i x) : Value) = .int _ from congrArg Value.int (Int32.ofInt_toInt _)] at kk
  exact kk
theorem cx_lcmp {x z : Nat} (hd : decode cc pc = .ok (.lcmp, 1)) (kk : AW l D base sc own y cc nL ret d mc ms ad0 hp0 Post k n hp (pc + 1) L (iv (jcmp x z) :: st)) : AW l D base sc own y cc nL ret d mc ms ad0 hp0 Post k n hp pc L (jv z :: jv x :: st) := by
  refine aw_lcmp hd ?_
  rw [show (iv (jcmp x z) : Value) = .int _ from congrArg Value.int (Int32.ofInt_toInt _)] at kk
  exact kk
theorem cx_i2l {x : Int} (hd : decode cc pc = .ok (.i2l, 1)) (kk : AW l D base sc own y cc nL ret d mc ms ad0 hp0 Post k n hp (pc + 1) L (jv (i2j x) :: st)) : AW l D base sc own y cc nL ret d mc ms ad0 hp0 Post k n hp pc L (iv x :: st) := by
  refine aw_i2l hd ?_
  rw [show (jv (i2j x) : Value) = .long _ from congrArg Value.long (l2n_of _)] at kk
  exact kk
theorem cx_land {x z : Nat} (hd : decode cc pc = .ok (.land, 1)) (kk : AW l D base sc own y cc nL ret d mc ms ad0 hp0 Post k n hp (pc + 1) L (jv (jand x z) :: st)) : AW l D base sc own y cc nL ret d mc ms ad0 hp0 Post k n hp pc L (jv z :: jv x :: st) := by
  refine aw_land hd ?_
  rw [show (jv (jand x z) : Value) = .long _ from congrArg Value.long (l2n_of _)] at kk
  exact kk
theorem cx_lor {x z : Nat} (hd : decode cc pc = .ok (.lor, 1)) (kk : AW l D base sc own y cc nL ret d mc ms ad0 hp0 Post k n hp (pc + 1) L (jv (jor x z) :: st)) : AW l D base sc own y cc nL ret d mc ms ad0 hp0 Post k n hp pc L (jv z :: jv x :: st) := by
  refine aw_lor hd ?_
  rw [show (jv (jor x z) : Value) = .long _ from congrArg Value.long (l2n_of _)] at kk
  exact kk
theorem cx_lxor {x z : Nat} (hd : decode cc pc = .ok (.lxor, 1)) (kk : AW l D base sc own y cc nL ret d mc ms ad0 hp0 Post k n hp (pc + 1) L (jv (jxor x z) :: st)) : AW l D base sc own y cc nL ret d mc ms ad0 hp0 Post k n hp pc L (jv z :: jv x :: st) := by
  refine aw_lxor hd ?_
  rw [show (jv (jxor x z) : Value) = .long _ from congrArg Value.long (l2n_of _)] at kk
  exact kk
theorem cx_lshl {x : Nat} {z : Int} (hd : decode cc pc = .ok (.lshl, 1)) (kk : AW l D base sc own y cc nL ret d mc ms ad0 hp0 Post k n hp (pc + 1) L (jv (jshl x z) :: st)) : AW l D base sc own y cc nL ret d mc ms ad0 hp0 Post k n hp pc L (iv z :: jv x :: st) := by
  refine aw_lshl hd ?_
  rw [show (jv (jshl x z) : Value) = .long _ from congrArg Value.long (l2n_of _)] at kk
  exact kk
theorem cx_lshr {x : Nat} {z : Int} (hd : decode cc pc = .ok (.lshr, 1)) (kk : AW l D base sc own y cc nL ret d mc ms ad0 hp0 Post k n hp (pc + 1) L (jv (jshr x z) :: st)) : AW l D base sc own y cc nL ret d mc ms ad0 hp0 Post k n hp pc L (iv z :: jv x :: st) := by
  refine aw_lshr hd ?_
  rw [show (jv (jshr x z) : Value) = .long _ from congrArg Value.long (l2n_of _)] at kk
  exact kk
theorem cx_lushr {x : Nat} {z : Int} (hd : decode cc pc = .ok (.lushr, 1)) (kk : AW l D base sc own y cc nL ret d mc ms ad0 hp0 Post k n hp (pc + 1) L (jv (jushr x z) :: st)) : AW l D base sc own y cc nL ret d mc ms ad0 hp0 Post k n hp pc L (iv z :: jv x :: st) := by
  refine aw_lushr hd ?_
  rw [show (jv (jushr x z) : Value) = .long _ from congrArg Value.long (l2n_of _)] at kk
  exact kk
theorem cx_icmp_eq {x z : Int} {off : Int} {A B : Option Rz} (tgt : Nat) (hx : inR x) (hz : inR z) (hd : decode cc pc = .ok (.if_icmp .eq off, 3)) (ht : (pc : Int) + off = (tgt : Int)) (H : (if x = z then A else B) = some r) (ka : A = some r → AW l D base sc own y cc nL ret d mc ms ad0 hp0 Post k n hp tgt L st) (kb : B = some r → AW l D base sc own y cc nL ret d mc ms ad0 hp0 Post k n hp (pc + 3) L st) : AW l D base sc own y cc nL ret d mc ms ad0 hp0 Post k n hp pc L (iv z :: iv x :: st) := by
  exact aw_icmp_eq tgt hd ht (fun q => ka (by rw [if_pos (by first | exact (oI_eq hx hz).mp q | (rw [oI_eq hx hz] at q; omega))] at H; exact H)) (fun q => kb (by rw [if_neg (by rw [oI_eq hx hz] at q; omega)] at H; exact H))
theorem cx_if_eq {x : Int} {off : Int} {A B : Option Rz} (tgt : Nat) (hx : inR x) (hd : decode cc pc = .ok (.ifCond .eq off, 3)) (ht : (pc : Int) + off = (tgt : Int)) (H : (if x = 0 then A else B) = some r) (ka : A = some r → AW l D base sc own y cc nL ret d mc ms ad0 hp0 Post k n hp tgt L st) (kb : B = some r → AW l D base sc own y cc nL ret d mc ms ad0 hp0 Post k n hp (pc + 3) L st) : AW l D base sc own y cc nL ret d mc ms ad0 hp0 Post k n hp pc L (iv x :: st) := by
  have hz := inR_0
  exact aw_if_eq tgt hd ht (fun q => ka (by rw [if_pos (by rw [oI_0] at q; first | exact (oI_eq hx hz).mp q | (rw [oI_eq hx hz] at q; omega))] at H; exact H)) (fun q => kb (by rw [if_neg (by rw [oI_0] at q; rw [oI_eq hx hz] at q; omega)] at H; exact H))
theorem cx_icmp_ne {x z : Int} {off : Int} {A B : Option Rz} (tgt : Nat) (hx : inR x) (hz : inR z) (hd : decode cc pc = .ok (.if_icmp .ne off, 3)) (ht : (pc : Int) + off = (tgt : Int)) (H : (if x = z then A else B) = some r) (ka : A = some r → AW l D base sc own y cc nL ret d mc ms ad0 hp0 Post k n hp (pc + 3) L st) (kb : B = some r → AW l D base sc own y cc nL ret d mc ms ad0 hp0 Post k n hp tgt L st) : AW l D base sc own y cc nL ret d mc ms ad0 hp0 Post k n hp pc L (iv z :: iv x :: st) := by
  exact aw_icmp_ne tgt hd ht (fun q => kb (by rw [if_neg (by rw [oI_eq hx hz] at q; omega)] at H; exact H)) (fun q => ka (by rw [if_pos (by first | exact (oI_eq hx hz).mp q | (rw [oI_eq hx hz] at q; omega))] at H; exact H))
theorem cx_if_ne {x : Int} {off : Int} {A B : Option Rz} (tgt : Nat) (hx : inR x) (hd : decode cc pc = .ok (.ifCond .ne off, 3)) (ht : (pc : Int) + off = (tgt : Int)) (H : (if x = 0 then A else B) = some r) (ka : A = some r → AW l D base sc own y cc nL ret d mc ms ad0 hp0 Post k n hp (pc + 3) L st) (kb : B = some r → AW l D base sc own y cc nL ret d mc ms ad0 hp0 Post k n hp tgt L st) : AW l D base sc own y cc nL ret d mc ms ad0 hp0 Post k n hp pc L (iv x :: st) := by
  have hz := inR_0
  exact aw_if_ne tgt hd ht (fun q => kb (by rw [if_neg (by rw [oI_0] at q; rw [oI_eq hx hz] at q; omega)] at H; exact H)) (fun q => ka (by rw [if_pos (by rw [oI_0] at q; first | exact (oI_eq hx hz).mp q | (rw [oI_eq hx hz] at q; omega))] at H; exact H))
theorem cx_icmp_lt {x z : Int} {off : Int} {A B : Option Rz} (tgt : Nat) (hx : inR x) (hz : inR z) (hd : decode cc pc = .ok (.if_icmp .lt off, 3)) (ht : (pc : Int) + off = (tgt : Int)) (H : (if x < z then A else B) = some r) (ka : A = some r → AW l D base sc own y cc nL ret d mc ms ad0 hp0 Post k n hp tgt L st) (kb : B = some r → AW l D base sc own y cc nL ret d mc ms ad0 hp0 Post k n hp (pc + 3) L st) : AW l D base sc own y cc nL ret d mc ms ad0 hp0 Post k n hp pc L (iv z :: iv x :: st) := by
  exact aw_icmp_lt tgt hd ht (fun q => ka (by rw [if_pos (by first | exact (oI_lt hx hz).mp q | (rw [oI_lt hx hz] at q; omega))] at H; exact H)) (fun q => kb (by rw [if_neg (by rw [oI_lt hx hz] at q; omega)] at H; exact H))
theorem cx_if_lt {x : Int} {off : Int} {A B : Option Rz} (tgt : Nat) (hx : inR x) (hd : decode cc pc = .ok (.ifCond .lt off, 3)) (ht : (pc : Int) + off = (tgt : Int)) (H : (if x < 0 then A else B) = some r) (ka : A = some r → AW l D base sc own y cc nL ret d mc ms ad0 hp0 Post k n hp tgt L st) (kb : B = some r → AW l D base sc own y cc nL ret d mc ms ad0 hp0 Post k n hp (pc + 3) L st) : AW l D base sc own y cc nL ret d mc ms ad0 hp0 Post k n hp pc L (iv x :: st) := by
  have hz := inR_0
  exact aw_if_lt tgt hd ht (fun q => ka (by rw [if_pos (by rw [oI_0] at q; first | exact (oI_lt hx hz).mp q | (rw [oI_lt hx hz] at q; omega))] at H; exact H)) (fun q => kb (by rw [if_neg (by rw [oI_0] at q; rw [oI_lt hx hz] at q; omega)] at H; exact H))
theorem cx_icmp_ge {x z : Int} {off : Int} {A B : Option Rz} (tgt : Nat) (hx : inR x) (hz : inR z) (hd : decode cc pc = .ok (.if_icmp .ge off, 3)) (ht : (pc : Int) + off = (tgt : Int)) (H : (if x < z then A else B) = some r) (ka : A = some r → AW l D base sc own y cc nL ret d mc ms ad0 hp0 Post k n hp (pc + 3) L st) (kb : B = some r → AW l D base sc own y cc nL ret d mc ms ad0 hp0 Post k n hp tgt L st) : AW l D base sc own y cc nL ret d mc ms ad0 hp0 Post k n hp pc L (iv z :: iv x :: st) := by
  exact aw_icmp_ge tgt hd ht (fun q => kb (by rw [if_neg (by rw [oI_le hz hx] at q; omega)] at H; exact H)) (fun q => ka (by rw [if_pos (by first | exact (oI_le hz hx).mp q | (rw [oI_le hz hx] at q; omega))] at H; exact H))
theorem cx_if_ge {x : Int} {off : Int} {A B : Option Rz} (tgt : Nat) (hx : inR x) (hd : decode cc pc = .ok (.ifCond .ge off, 3)) (ht : (pc : Int) + off = (tgt : Int)) (H : (if x < 0 then A else B) = some r) (ka : A = some r → AW l D base sc own y cc nL ret d mc ms ad0 hp0 Post k n hp (pc + 3) L st) (kb : B = some r → AW l D base sc own y cc nL ret d mc ms ad0 hp0 Post k n hp tgt L st) : AW l D base sc own y cc nL ret d mc ms ad0 hp0 Post k n hp pc L (iv x :: st) := by
  have hz := inR_0
  exact aw_if_ge tgt hd ht (fun q => kb (by rw [if_neg (by rw [oI_0] at q; rw [oI_le hz hx] at q; omega)] at H; exact H)) (fun q => ka (by rw [if_pos (by rw [oI_0] at q; first | exact (oI_le hz hx).mp q | (rw [oI_le hz hx] at q; omega))] at H; exact H))
theorem cx_icmp_gt {x z : Int} {off : Int} {A B : Option Rz} (tgt : Nat) (hx : inR x) (hz : inR z) (hd : decode cc pc = .ok (.if_icmp .gt off, 3)) (ht : (pc : Int) + off = (tgt : Int)) (H : (if z < x then A else B) = some r) (ka : A = some r → AW l D base sc own y cc nL ret d mc ms ad0 hp0 Post k n hp tgt L st) (kb : B = some r → AW l D base sc own y cc nL ret d mc ms ad0 hp0 Post k n hp (pc + 3) L st) : AW l D base sc own y cc nL ret d mc ms ad0 hp0 Post k n hp pc L (iv z :: iv x :: st) := by
  exact aw_icmp_gt tgt hd ht (fun q => ka (by rw [if_pos (by first | exact (oI_lt hz hx).mp q | (rw [oI_lt hz hx] at q; omega))] at H; exact H)) (fun q => kb (by rw [if_neg (by rw [oI_lt hz hx] at q; omega)] at H; exact H))
theorem cx_if_gt {x : Int} {off : Int} {A B : Option Rz} (tgt : Nat) (hx : inR x) (hd : decode cc pc = .ok (.ifCond .gt off, 3)) (ht : (pc : Int) + off = (tgt : Int)) (H : (if 0 < x then A else B) = some r) (ka : A = some r → AW l D base sc own y cc nL ret d mc ms ad0 hp0 Post k n hp tgt L st) (kb : B = some r → AW l D base sc own y cc nL ret d mc ms ad0 hp0 Post k n hp (pc + 3) L st) : AW l D base sc own y cc nL ret d mc ms ad0 hp0 Post k n hp pc L (iv x :: st) := by
  have hz := inR_0
  exact aw_if_gt tgt hd ht (fun q => ka (by rw [if_pos (by rw [oI_0] at q; first | exact (oI_lt hz hx).mp q | (rw [oI_lt hz hx] at q; omega))] at H; exact H)) (fun q => kb (by rw [if_neg (by rw [oI_0] at q; rw [oI_lt hz hx] at q; omega)] at H; exact H))
theorem cx_icmp_le {x z : Int} {off : Int} {A B : Option Rz} (tgt : Nat) (hx : inR x) (hz : inR z) (hd : decode cc pc = .ok (.if_icmp .le off, 3)) (ht : (pc : Int) + off = (tgt : Int)) (H : (if z < x then A else B) = some r) (ka : A = some r → AW l D base sc own y cc nL ret d mc ms ad0 hp0 Post k n hp (pc + 3) L st) (kb : B = some r → AW l D base sc own y cc nL ret d mc ms ad0 hp0 Post k n hp tgt L st) : AW l D base sc own y cc nL ret d mc ms ad0 hp0 Post k n hp pc L (iv z :: iv x :: st) := by
  exact aw_icmp_le tgt hd ht (fun q => kb (by rw [if_neg (by rw [oI_le hx hz] at q; omega)] at H; exact H)) (fun q => ka (by rw [if_pos (by first | exact (oI_le hx hz).mp q | (rw [oI_le hx hz] at q; omega))] at H; exact H))
theorem cx_if_le {x : Int} {off : Int} {A B : Option Rz} (tgt : Nat) (hx : inR x) (hd : decode cc pc = .ok (.ifCond .le off, 3)) (ht : (pc : Int) + off = (tgt : Int)) (H : (if 0 < x then A else B) = some r) (ka : A = some r → AW l D base sc own y cc nL ret d mc ms ad0 hp0 Post k n hp (pc + 3) L st) (kb : B = some r → AW l D base sc own y cc nL ret d mc ms ad0 hp0 Post k n hp tgt L st) : AW l D base sc own y cc nL ret d mc ms ad0 hp0 Post k n hp pc L (iv x :: st) := by
  have hz := inR_0
  exact aw_if_le tgt hd ht (fun q => kb (by rw [if_neg (by rw [oI_0] at q; rw [oI_le hx hz] at q; omega)] at H; exact H)) (fun q => ka (by rw [if_pos (by rw [oI_0] at q; first | exact (oI_le hx hz).mp q | (rw [oI_le hx hz] at q; omega))] at H; exact H))
theorem cx_ifnull {x : Nat} {off : Int} {A B : Option Rz} (tgt : Nat) (hd : decode cc pc = .ok (.ifnull off, 3)) (ht : (pc : Int) + off = (tgt : Int)) (H : (if x = 0 then A else B) = some r) (ka : A = some r → AW l D base sc own y cc nL ret d mc ms ad0 hp0 Post k n hp tgt L st) (kb : B = some r → AW l D base sc own y cc nL ret d mc ms ad0 hp0 Post k n hp (pc + 3) L st) : AW l D base sc own y cc nL ret d mc ms ad0 hp0 Post k n hp pc L (rv x :: st) := by
  by_cases h : x = 0
  · rw [if_pos h] at H
    rw [h]
    exact aw_ifnullN tgt hd ht (ka H)
  · rw [if_neg h] at H
    rw [rv_s h]
    exact aw_ifnull hd (kb H)
theorem cx_ifnonnull {x : Nat} {off : Int} {A B : Option Rz} (tgt : Nat) (hd : decode cc pc = .ok (.ifnonnull off, 3)) (ht : (pc : Int) + off = (tgt : Int)) (H : (if x = 0 then A else B) = some r) (ka : A = some r → AW l D base sc own y cc nL ret d mc ms ad0 hp0 Post k n hp (pc + 3) L st) (kb : B = some r → AW l D base sc own y cc nL ret d mc ms ad0 hp0 Post k n hp tgt L st) : AW l D base sc own y cc nL ret d mc ms ad0 hp0 Post k n hp pc L (rv x :: st) := by
  by_cases h : x = 0
  · rw [if_pos h] at H
    rw [h]
    exact aw_ifnonnullN hd (ka H)
  · rw [if_neg h] at H
    rw [rv_s h]
    exact aw_ifnonnull tgt hd ht (kb H)
theorem cx_ldI {a : Nat} {i : Int} {K : Int → Option Rz} (hE : LE E R) (hr : R a) (hi : inR i) (hd : decode cc pc = .ok (.iaload, 1)) (H : ldI m a i K = some r) (kk : ∀ x, inR x → K x = some r → AW l D base sc own y cc nL ret d mc ms ad0 hp0 Post k n (E m) (pc + 1) L (iv x :: st)) : AW l D base sc own y cc nL ret d mc ms ad0 hp0 Post k n (E m) pc L (iv i :: .ref a :: st) := by
  obtain ⟨⟨h1, h2, h3⟩, H⟩ := chk H
  have kk := kk _ (inR_mGet _ _ _) H
  refine aw_iald ((hE.1 m a hr).trans (cel_int h1)) (oI_in hi h2 h3) hd ?_
  rw [oI_cl hi]
  exact kk
theorem cx_ldB {a : Nat} {i : Int} {K : Int → Option Rz} (hE : LE E R) (hr : R a) (hi : inR i) (hd : decode cc pc = .ok (.baload, 1)) (H : ldB m a i K = some r) (kk : ∀ x, inR x → K x = some r → AW l D base sc own y cc nL ret d mc ms ad0 hp0 Post k n (E m) (pc + 1) L (iv x :: st)) : AW l D base sc own y cc nL ret d mc ms ad0 hp0 Post k n (E m) pc L (iv i :: .ref a :: st) := by
  obtain ⟨⟨h1, h2, h3⟩, H⟩ := chk H
  have kk := kk _ (inR_mGet _ _ _) H
  refine aw_bald ((hE.1 m a hr).trans (cel_byte h1)) (oI_in hi h2 h3) hd ?_
  rw [oI_cl hi]
  exact kk
theorem cx_ldZ {a : Nat} {i : Int} {K : Int → Option Rz} (hE : LE E R) (hr : R a) (hi : inR i) (hd : decode cc pc = .ok (.baload, 1)) (H : ldZ m a i K = some r) (kk : ∀ x, inR x → K x = some r → AW l D base sc own y cc nL ret d mc ms ad0 hp0 Post k n (E m) (pc + 1) L (iv x :: st)) : AW l D base sc own y cc nL ret d mc ms ad0 hp0 Post k n (E m) pc L (iv i :: .ref a :: st) := by
  obtain ⟨⟨h1, h2, h3⟩, H⟩ := chk H
  have kk := kk _ (inR_mGet _ _ _) H
  refine aw_zald ((hE.1 m a hr).trans (cel_bool h1)) (oI_in hi h2 h3) hd ?_
  rw [oI_cl hi]
  exact kk
theorem cx_ldJ {a : Nat} {i : Int} {K : Nat → Option Rz} (hE : LE E R) (hr : R a) (hi : inR i) (hd : decode cc pc = .ok (.laload, 1)) (H : ldJ m a i K = some r) (kk : ∀ x, K x = some r → AW l D base sc own y cc nL ret d mc ms ad0 hp0 Post k n (E m) (pc + 1) L (jv x :: st)) : AW l D base sc own y cc nL ret d mc ms ad0 hp0 Post k n (E m) pc L (iv i :: .ref a :: st) := by
  obtain ⟨⟨h1, h2, h3⟩, H⟩ := chk H
  have kk := kk _ H
  refine aw_lald ((hE.1 m a hr).trans (cel_long h1)) (oI_in hi h2 h3) hd ?_
  rw [oI_cl hi]
  exact kk
theorem va_rf_orf (x : Nat) : va_rf (orf x) = rv x := by
  unfold orf rv
  by_cases h : x = 0
  · rw [if_pos h, if_pos h]; rfl
  · rw [if_neg h, if_neg h]; rfl
theorem cx_ldG {a : Nat} {i : Int} {K : Nat → Option Rz} (hE : LE E R) (hr : R a) (hi : inR i) (hd : decode cc pc = .ok (.aaload, 1)) (H : ldG m a i K = some r) (kk : ∀ x, K x = some r → AW l D base sc own y cc nL ret d mc ms ad0 hp0 Post k n (E m) (pc + 1) L (rv x :: st)) : AW l D base sc own y cc nL ret d mc ms ad0 hp0 Post k n (E m) pc L (iv i :: .ref a :: st) := by
  obtain ⟨⟨h1, h2, h3⟩, H⟩ := chk H
  have kk := kk _ H
  refine aw_aald _ ((hE.1 m a hr).trans (cel_game h1)) (oI_in hi h2 h3) rfl hd ?_
  rw [oI_cl hi, va_rf_orf]
  exact kk
theorem cx_stI {a : Nat} {i v : Int} {K : Mem → Option Rz} (hE : LE E R) (hr : R a) (hi : inR i) (hd : decode cc pc = .ok (.iastore, 1)) (H : stI m a i v K = some r) (kk : ∀ m', K m' = some r → AW l D base sc own y cc nL ret d mc ms ad0 hp0 Post k n (E m') (pc + 1) L st) : AW l D base sc own y cc nL ret d mc ms ad0 hp0 Post k n (E m) pc L (iv v :: iv i :: .ref a :: st) := by
  obtain ⟨⟨h1, h2, h3⟩, H⟩ := chk H
  have kk := kk _ H
  refine aw_iast ((hE.1 m a hr).trans (cel_int h1)) (oI_in hi h2 h3) hd ?_
  refine AW.eqh (hE.up hr ?_ (fun j hj => cel_mSet hj)) kk
  rw [cel_int (m := mSet m a i.toNat v) h1, oI_cl hi]
  congr 5
  funext j
  rw [mGet_mSet]
  by_cases hj : j = i.toNat
  · rw [if_pos ⟨rfl, hj⟩, hj, ofInt_w32]
    exact (if_pos rfl).symm
  · rw [if_neg (fun q => hj q.2)]
    exact (if_neg hj).symm
theorem cx_stB {a : Nat} {i v : Int} {K : Mem → Option Rz} (hE : LE E R) (hr : R a) (hi : inR i) (hd : decode cc pc = .ok (.bastore, 1)) (H : stB m a i v K = some r) (kk : ∀ m', K m' = some r → AW l D base sc own y cc nL ret d mc ms ad0 hp0 Post k n (E m') (pc + 1) L st) : AW l D base sc own y cc nL ret d mc ms ad0 hp0 Post k n (E m) pc L (iv v :: iv i :: .ref a :: st) := by
  obtain ⟨⟨h1, h2, h3⟩, H⟩ := chk H
  have kk := kk _ H
  refine aw_bast ((hE.1 m a hr).trans (cel_byte h1)) (oI_in hi h2 h3) hd ?_
  refine AW.eqh (hE.up hr ?_ (fun j hj => cel_mSet hj)) kk
  rw [cel_byte (m := mSet m a i.toNat (i8 v)) h1, oI_cl hi]
  congr 5
  funext j
  rw [mGet_mSet]
  by_cases hj : j = i.toNat
  · rw [if_pos ⟨rfl, hj⟩, hj, ofInt_w32]
    show Int32.ofInt (i8 v) = if i.toNat = i.toNat then _ else _
    rw [if_pos rfl]
    exact Int32.ofInt_toInt _
  · rw [if_neg (fun q => hj q.2)]
    exact (if_neg hj).symm
theorem cx_stZ {a : Nat} {i v : Int} {K : Mem → Option Rz} (hE : LE E R) (hr : R a) (hi : inR i) (hd : decode cc pc = .ok (.bastore, 1)) (H : stZ m a i v K = some r) (kk : ∀ m', K m' = some r → AW l D base sc own y cc nL ret d mc ms ad0 hp0 Post k n (E m') (pc + 1) L st) : AW l D base sc own y cc nL ret d mc ms ad0 hp0 Post k n (E m) pc L (iv v :: iv i :: .ref a :: st) := by
  obtain ⟨⟨h1, h2, h3, h4⟩, H⟩ := chk H
  have kk := kk _ H
  refine aw_zast ((hE.1 m a hr).trans (cel_bool h1)) (oI_in hi h2 h3) hd ?_
  refine AW.eqh (hE.up hr ?_ (fun j hj => cel_mSet hj)) kk
  rw [cel_bool (m := mSet m a i.toNat v) h1, oI_cl hi]
  congr 5
  funext j
  rw [mGet_mSet]
  by_cases hj : j = i.toNat
  · rw [if_pos ⟨rfl, hj⟩, hj, ofInt_w32]
    show Int32.ofInt v = if i.toNat = i.toNat then _ else _
    rw [if_pos rfl]
    rcases h4 with rfl | rfl <;> decide +kernel
  · rw [if_neg (fun q => hj q.2)]
    exact (if_neg hj).symm
theorem cx_stJ {a : Nat} {i : Int} {v : Nat} {K : Mem → Option Rz} (hE : LE E R) (hr : R a) (hi : inR i) (hd : decode cc pc = .ok (.lastore, 1)) (H : stJ m a i v K = some r) (kk : ∀ m', K m' = some r → AW l D base sc own y cc nL ret d mc ms ad0 hp0 Post k n (E m') (pc + 1) L st) : AW l D base sc own y cc nL ret d mc ms ad0 hp0 Post k n (E m) pc L (jv v :: iv i :: .ref a :: st) := by
  obtain ⟨⟨h1, h2, h3⟩, H⟩ := chk H
  have kk := kk _ H
  refine aw_last ((hE.1 m a hr).trans (cel_long h1)) (oI_in hi h2 h3) hd ?_
  refine AW.eqh (hE.up hr ?_ (fun j hj => cel_lSet hj)) kk
  rw [cel_long (m := lSet m a i.toNat v) h1, oI_cl hi]
  refine congrArg (fun f => some (Sum.inl (FieldType.long, ((sKind m a).2, Sum.inr (Sum.inl f))))) (funext fun j => ?_)
  rw [lGet_lSet]
  by_cases hj : j = i.toNat
  · rw [if_pos ⟨rfl, hj⟩, hj, ofNat_64]
    exact (if_pos rfl).symm
  · rw [if_neg (fun q => hj q.2)]
    exact (if_neg hj).symm
theorem orf_nat {v : Nat} (h : v < 2147483648) : (w32 (v : Int)).toNat = v := by
  rw [w32_id (by omega) (by omega)]
  omega
theorem cx_stG {a v : Nat} {i : Int} {K : Mem → Option Rz} (hE : LE E R) (hr : R a) (hrd : ∀ q, 1000 ≤ q → R q) (hi : inR i) (hd : decode cc pc = .ok (.aastore, 1)) (H : stG m a i v K = some r) (kk : ∀ m', K m' = some r → AW l D base sc own y cc nL ret d mc ms ad0 hp0 Post k n (E m') (pc + 1) L st) : AW l D base sc own y cc nL ret d mc ms ad0 hp0 Post k n (E m) pc L (rv v :: iv i :: .ref a :: st) := by
  obtain ⟨⟨h1, h2, h3, h4⟩, H⟩ := chk H
  have kk := kk _ H
  have hv : v < 2147483648 := by omega
  have hup : ∀ o, o = orf v → g_up (E m) a (.inl (.object "UppityGames$Game", ((sKind m a).2, .inr (.inr (.inr (.inr (va_up (fun j => orf (mGet m a j).toNat) (Int32.ofInt i).toNatClampNeg o))))))) = E (mSet m a i.toNat (v : Int)) := by
    intro o ho
    refine hE.up hr ?_ (fun j hj => cel_mSet hj)
    rw [cel_game (m := mSet m a i.toNat (v : Int)) h1, oI_cl hi]
    refine congrArg (fun f => some (Sum.inl (FieldType.object "UppityGames$Game", ((sKind m a).2, Sum.inr (Sum.inr (Sum.inr (Sum.inr f))))))) (funext fun j => ?_)
    rw [mGet_mSet]
    by_cases hj : j = i.toNat
    · rw [if_pos ⟨rfl, hj⟩, orf_nat hv, hj, ho]
      exact (if_pos rfl).symm
    · rw [if_neg (fun q => hj q.2)]
      exact (if_neg hj).symm
  by_cases h : v = 0
  · rw [h]
    exact aw_aastN ((hE.1 m a hr).trans (cel_game h1)) (oI_in hi h2 h3) hd (AW.eqh (hup none (by rw [h]; rfl)) kk)
  · rw [rv_s h]
    obtain ⟨h5, h6, h7⟩ := h4.resolve_left h
    exact aw_aast ((hE.1 m a hr).trans (cel_game h1)) ((hE.1 m v (hrd v h5)).trans (cel_obj (c := 1) h7)) ⟨_, rfl, rfl⟩ (oI_in hi h2 h3) hd (AW.eqh (hup (some v) (by unfold orf; rw [if_neg h])) kk)
theorem cx_lenA {a : Nat} {K : Int → Option Rz} (hE : LE E R) (hr : R a) (hd : decode cc pc = .ok (.arraylength, 1)) (H : lenA m a K = some r) (kk : ∀ x, inR x → K x = some r → AW l D base sc own y cc nL ret d mc ms ad0 hp0 Post k n (E m) (pc + 1) L (iv x :: st)) : AW l D base sc own y cc nL ret d mc ms ad0 hp0 Post k n (E m) pc L (.ref a :: st) := by
  obtain ⟨⟨h1, h2, h3⟩, H⟩ := chk H
  have kk := kk _ ⟨by omega, by omega⟩ H
  have e : ∃ ty x, E m a = some (.inl (ty, x)) ∧ x.1 = (sKind m a).2 := by
    rw [hE.1 m a hr]
    have h6 : (sKind m a).1 = 1 ∨ (sKind m a).1 = 2 ∨ (sKind m a).1 = 3 ∨ (sKind m a).1 = 4 ∨ (sKind m a).1 = 5 ∨ (sKind m a).1 = 6 := by omega
    rcases h6 with h | h | h | h | h | h
    · exact ⟨_, _, cel_int h, rfl⟩
    · exact ⟨_, _, cel_long h, rfl⟩
    · exact ⟨_, _, cel_byte h, rfl⟩
    · exact ⟨_, _, cel_bool h, rfl⟩
    · exact ⟨_, _, cel_game h, rfl⟩
    · exact ⟨_, _, cel_rows h, rfl⟩
  obtain ⟨ty, x, e1, e2⟩ := e
  refine aw_alen (Int32.ofInt ((sKind m a).2 : Int)) e1 ?_ hd kk
  rw [e2]
  exact (Int32.ofInt_eq_ofNat ..).symm
theorem cx_lenC {a c : Nat} (hE : LE E R) (hr : R a) (hc : ∀ m, ∃ ty x, cel m a = some (.inl (ty, x)) ∧ x.1 = c) (hd : decode cc pc = .ok (.arraylength, 1)) (kk : AW l D base sc own y cc nL ret d mc ms ad0 hp0 Post k n (E m) (pc + 1) L (iv (c : Int) :: st)) : AW l D base sc own y cc nL ret d mc ms ad0 hp0 Post k n (E m) pc L (.ref a :: st) := by
  obtain ⟨ty, x, e1, e2⟩ := hc m
  refine aw_alen (Int32.ofInt (c : Int)) ((hE.1 m a hr).trans e1) ?_ hd kk
  rw [e2]
  exact (Int32.ofInt_eq_ofNat ..).symm
/-! fields -/
theorem cx_gtF {idx a c kf : Nat} {K : Int → Option Rz} (hE : LE E R) (hr : R a) (hF : g_fl own idx c kf) (hk : (sKind m a).1 = c + 10) (hs : fSpec c kf = 0) (hn : kf < nFld c) (hd : decode cc pc = .ok (.getfield idx, 3)) (H : gtF m a kf K = some r) (kk : ∀ x, inR x → K x = some r → AW l D base sc own y cc nL ret d mc ms ad0 hp0 Post k n (E m) (pc + 3) L (iv x :: st)) : AW l D base sc own y cc nL ret d mc ms ad0 hp0 Post k n (E m) pc L (.ref a :: st) := by
  refine aw_get hF ((hE.1 m a hr).trans (cel_obj hk)) (flds_get hn) hd ?_
  unfold fVal
  rw [hs]
  exact kk _ (inR_mGet _ _ _) H
theorem cx_gtG {idx a c kf : Nat} {K : Nat → Option Rz} (hE : LE E R) (hr : R a) (hF : g_fl own idx c kf) (hk : (sKind m a).1 = c + 10) (hs : fSpec c kf = 1) (hn : kf < nFld c) (hd : decode cc pc = .ok (.getfield idx, 3)) (H : gtG m a kf K = some r) (kk : ∀ x, K x = some r → AW l D base sc own y cc nL ret d mc ms ad0 hp0 Post k n (E m) (pc + 3) L (rv x :: st)) : AW l D base sc own y cc nL ret d mc ms ad0 hp0 Post k n (E m) pc L (.ref a :: st) := by
  refine aw_get hF ((hE.1 m a hr).trans (cel_obj hk)) (flds_get hn) hd ?_
  unfold fVal
  rw [hs]
  exact kk _ H
theorem cx_gtC {idx a c kf : Nat} (q : Nat) (hE : LE E R) (hr : R a) (hF : g_fl own idx c kf) (hk : (sKind m a).1 = c + 10) (hs : fSpec c kf = q + 2) (hn : kf < nFld c) (hd : decode cc pc = .ok (.getfield idx, 3)) (kk : AW l D base sc own y cc nL ret d mc ms ad0 hp0 Post k n (E m) (pc + 3) L (.ref q :: st)) : AW l D base sc own y cc nL ret d mc ms ad0 hp0 Post k n (E m) pc L (.ref a :: st) := by
  refine aw_get hF ((hE.1 m a hr).trans (cel_obj hk)) (flds_get hn) hd ?_
  unfold fVal
  rw [hs]
  exact kk
theorem narrow_int (x : Int) : narrow .int (iv x) = iv x := rfl
theorem cx_ptF {idx a c kf : Nat} {v : Int} {K : Mem → Option Rz} (ty : Nat → FieldType) (hE : LE E R) (hr : R a) (hF : g_fl own idx c kf) (hty : ∀ r, vwCl[c]? = some r → g_tys r ty ∧ (r.2.1 kf).2.2.2 = false) (hint : ty kf = .int) (hk : (sKind m a).1 = c + 10) (hs : fSpec c kf = 0) (hn : kf < nFld c) (hd : decode cc pc = .ok (.putfield idx, 3)) (H : ptF m a kf v K = some r) (kk : ∀ m', K m' = some r → AW l D base sc own y cc nL ret d mc ms ad0 hp0 Post k n (E m') (pc + 3) L st) : AW l D base sc own y cc nL ret d mc ms ad0 hp0 Post k n (E m) pc L (iv v :: .ref a :: st) := by
  refine aw_put ty hF hty ((hE.1 m a hr).trans (cel_obj hk)) (by rw [hint]; rfl) (by rw [hint]; rfl) (by rw [flds_len]; exact hn) hd ?_
  refine AW.eqh (hE.up hr ?_ (fun j hj => cel_mSet hj)) (kk _ H)
  rw [cel_obj (m := mSet m a kf v) hk]
  congr 3
  refine (flds_set hn ?_).symm
  unfold fVal
  rw [hs, mGet_mSet, if_pos ⟨rfl, rfl⟩]
  exact congrArg Value.int (ofInt_w32 v)
theorem cx_ptZ {idx a c kf : Nat} {v : Int} {K : Mem → Option Rz} (ty : Nat → FieldType) (hE : LE E R) (hr : R a) (hF : g_fl own idx c kf) (hty : ∀ r, vwCl[c]? = some r → g_tys r ty ∧ (r.2.1 kf).2.2.2 = false) (hint : ty kf = .boolean) (hk : (sKind m a).1 = c + 10) (hs : fSpec c kf = 0) (hn : kf < nFld c) (hd : decode cc pc = .ok (.putfield idx, 3)) (H : ptZ m a kf v K = some r) (kk : ∀ m', K m' = some r → AW l D base sc own y cc nL ret d mc ms ad0 hp0 Post k n (E m') (pc + 3) L st) : AW l D base sc own y cc nL ret d mc ms ad0 hp0 Post k n (E m) pc L (iv v :: .ref a :: st) := by
  obtain ⟨h4, H⟩ := chk H
  refine aw_put ty hF hty ((hE.1 m a hr).trans (cel_obj hk)) (by rw [hint]; rcases h4 with rfl | rfl <;> decide +kernel) (by rw [hint]; rcases h4 with rfl | rfl <;> decide +kernel) (by rw [flds_len]; exact hn) hd ?_
  refine AW.eqh (hE.up hr ?_ (fun j hj => cel_mSet hj)) (kk _ H)
  rw [cel_obj (m := mSet m a kf v) hk]
  congr 3
  refine (flds_set hn ?_).symm
  unfold fVal
  rw [hs, mGet_mSet, if_pos ⟨rfl, rfl⟩]
  exact congrArg Value.int (ofInt_w32 v)
theorem rv_narrow (t : FieldType) (v : Nat) : narrow t (rv v) = rv v := by
  rcases rv_or v with h | ⟨a, h⟩ <;> rw [h] <;> cases t <;> rfl
theorem cx_ptG {idx a c kf : Nat} {v : Nat} {K : Mem → Option Rz} (ty : Nat → FieldType) (hE : LE E R) (hr : R a) (hF : g_fl own idx c kf) (hty : ∀ r, vwCl[c]? = some r → g_tys r ty ∧ (r.2.1 kf).2.2.2 = false) (hfit : ∀ u, fits (ty kf) (rv u) = true) (hk : (sKind m a).1 = c + 10) (hs : fSpec c kf = 1) (hn : kf < nFld c) (hd : decode cc pc = .ok (.putfield idx, 3)) (H : ptG m a kf v K = some r) (kk : ∀ m', K m' = some r → AW l D base sc own y cc nL ret d mc ms ad0 hp0 Post k n (E m') (pc + 3) L st) : AW l D base sc own y cc nL ret d mc ms ad0 hp0 Post k n (E m) pc L (rv v :: .ref a :: st) := by
  obtain ⟨h4, H⟩ := chk H
  refine aw_put ty hF hty ((hE.1 m a hr).trans (cel_obj hk)) (rv_narrow _ _) (hfit v) (by rw [flds_len]; exact hn) hd ?_
  refine AW.eqh (hE.up hr ?_ (fun j hj => cel_mSet hj)) (kk _ H)
  rw [cel_obj (m := mSet m a kf (v : Int)) hk]
  congr 3
  refine (flds_set hn ?_).symm
  unfold fVal
  rw [hs, mGet_mSet, if_pos ⟨rfl, rfl⟩, orf_nat h4]
theorem cx_isG {g : Nat} {K : Option Rz} (H : isG m g K = some r) (kk : 1000 ≤ g → (sKind m g).1 = 11 → K = some r → AW l D base sc own y cc nL ret d mc ms ad0 hp0 Post k n (E m) pc L (.ref g :: st)) : AW l D base sc own y cc nL ret d mc ms ad0 hp0 Post k n (E m) pc L (rv g :: st) := by
  obtain ⟨⟨h1, h2⟩, H⟩ := chk H
  rw [rv_s (by omega)]
  exact kk h1 h2 H
/-! calls -/
theorem cx_callV {idx ci a dC mcC msC nP nL2 : Nat} {y2 : MethodName} {b2 : ByteArray} {ret2 : Option FieldType} {X : Option Rz} {K : Int → Mem → Option Rz} {stk : List Value} {P : (Mem → g_H) → Rz → Option Value → g_H → Prop} (As : List Value) (hE : LE E R) (hr : R a) (hM : ∀ r1, X = some r1 → AMet l sc y2 b2 nL2 ret2 dC mcC msC (.ref a :: As) (E m) (P E r1)) (hw : g_cV own idx y2 b2 nL2 ret2 nP) (hk : (sKind m a).1 = ci + 10) (hci : ∃ r, vwCl[ci]? = some r ∧ r.1 = y2.cls) (hn : As.length = nP) (hstk : stk = As.reverse ++ .ref a :: st) (hdC : dC + 1 ≤ d) (hst : st.length ≤ 4) (hcells : k + mcC ≤ mc) (hslots : n + msC ≤ ms) (hd : decode cc pc = .ok (.invokevirtual idx, 3)) (H : cal X K = some r) (kk : ∀ x m' v hp', K x m' = some r → P E (x, m') v hp' → AW l D base sc own y cc nL ret d mc ms ad0 hp0 Post (k + mcC) (n + msC) hp' (pc + 3) L (v.toList ++ st)) : AW l D base sc own y cc nL ret d mc ms ad0 hp0 Post k n (E m) pc L stk := by
  cases hX : X with
  | none => rw [hX] at H; cases H
  | some r1 =>
    rw [hX] at H
    exact aw_callV As (hM r1 hX) hw ((hE.1 m a hr).trans (cel_obj hk)) hci hn hstk hdC (cat_8 hst) hcells hslots hd (fun v hp' hp9 _ => kk r1.1 r1.2 v hp' H hp9)
theorem cx_callS {idx dC mcC msC nP nL2 : Nat} {y2 : MethodName} {b2 : ByteArray} {ret2 : Option FieldType} {X : Option Rz} {K : Int → Mem → Option Rz} {stk : List Value} {P : (Mem → g_H) → Rz → Option Value → g_H → Prop} (As : List Value) (hM : ∀ r1, X = some r1 → AMet l sc y2 b2 nL2 ret2 dC mcC msC As (E m) (P E r1)) (hw : g_cS own idx y2 b2 nL2 ret2 nP) (hn : As.length = nP) (hstk : stk = As.reverse ++ st) (hdC : dC + 1 ≤ d) (hst : st.length ≤ 4) (hcells : k + mcC ≤ mc) (hslots : n + msC ≤ ms) (hd : decode cc pc = .ok (.invokestatic idx, 3)) (H : cal X K = some r) (kk : ∀ x m' v hp', K x m' = some r → P E (x, m') v hp' → AW l D base sc own y cc nL ret d mc ms ad0 hp0 Post (k + mcC) (n + msC) hp' (pc + 3) L (v.toList ++ st)) : AW l D base sc own y cc nL ret d mc ms ad0 hp0 Post k n (E m) pc L stk := by
  cases hX : X with
  | none => rw [hX] at H; cases H
  | some r1 =>
    rw [hX] at H
    exact aw_callS As (hM r1 hX) hw (Or.inr trivial) hn hstk hdC (cat_8 hst) hcells hslots hd (fun v hp' hp9 _ => kk r1.1 r1.2 v hp' H hp9)
/-- behind a call: an int, nothing, a reference -/
theorem cx_backI {x : Int} {m' : Mem} {v : Option Value} {hp' : g_H} (h : pI E (x, m') v hp') (kk : inR x → AW l D base sc own y cc nL ret d mc ms ad0 hp0 Post k n (E m') pc L (iv x :: st)) : AW l D base sc own y cc nL ret d mc ms ad0 hp0 Post k n hp' pc L (v.toList ++ st) := by
  obtain ⟨rfl, h1, rfl⟩ := h
  exact kk h1
theorem cx_backV {x : Int} {m' : Mem} {v : Option Value} {hp' : g_H} (h : pV E (x, m') v hp') (kk : AW l D base sc own y cc nL ret d mc ms ad0 hp0 Post k n (E m') pc L st) : AW l D base sc own y cc nL ret d mc ms ad0 hp0 Post k n hp' pc L (v.toList ++ st) := by
  obtain ⟨rfl, rfl⟩ := h
  exact kk
theorem cx_backG {x : Int} {m' : Mem} {v : Option Value} {hp' : g_H} (h : pG E (x, m') v hp') (kk : AW l D base sc own y cc nL ret d mc ms ad0 hp0 Post k n (E m') pc L (rv x.toNat :: st)) : AW l D base sc own y cc nL ret d mc ms ad0 hp0 Post k n hp' pc L (v.toList ++ st) := by
  obtain ⟨rfl, rfl⟩ := h
  exact kk
/-! ends -/
theorem cx_iret {v : Int} (hv : inR v) (hr : ret = some .int) (hk : k ≤ mc) (hk2 : n ≤ ms) (hd : decode cc pc = .ok (.ireturn, 1)) (H : rt v m = some r) : AW l D base sc own y cc nL ret d mc ms ad0 hp0 (pI E r) k n (E m) pc L [iv v] := by
  cases H
  exact aw_iret hr rfl hk hk2 hd ⟨rfl, hv, rfl⟩
theorem cx_zret {v : Int} (hr : ret = some .boolean) (hk : k ≤ mc) (hk2 : n ≤ ms) (hd : decode cc pc = .ok (.ireturn, 1)) (H : rtZ v m = some r) : AW l D base sc own y cc nL ret d mc ms ad0 hp0 (pI E r) k n (E m) pc L [iv v] := by
  obtain ⟨h4, H⟩ := chk H
  have h5 : inR v := by rcases h4 with rfl | rfl <;> exact ⟨by decide, by decide⟩
  have h6 : narrow .boolean (iv v) = iv v := by rcases h4 with rfl | rfl <;> decide +kernel
  cases H
  exact aw_iret hr h6 hk hk2 hd ⟨rfl, h5, rfl⟩
theorem cx_vret {v : Int} (hr : ret = none) (hk : k ≤ mc) (hk2 : n ≤ ms) (hd : decode cc pc = .ok (.return_, 1)) (H : rt v m = some r) : AW l D base sc own y cc nL ret d mc ms ad0 hp0 (pV E r) k n (E m) pc L [] := by
  cases H
  exact aw_vret hr hk hk2 hd ⟨rfl, rfl⟩
theorem cx_gret {v : Nat} (hr : ∃ C, ret = some (.object C)) (hk : k ≤ mc) (hk2 : n ≤ ms) (hd : decode cc pc = .ok (.areturn, 1)) (H : rt (v : Int) m = some r) : AW l D base sc own y cc nL ret d mc ms ad0 hp0 (pG E r) k n (E m) pc L [rv v] := by
  cases H
  obtain ⟨C, hr⟩ := hr
  exact aw_aret hr (Or.inl ⟨_, rfl⟩) (rv_or v) hk hk2 hd ⟨by rw [Int.toNat_natCast], rfl⟩

theorem cx_nm {x : Int} {K : Int → Option Rz} (hx : inR x) (H : nm x K = some r) (kk : ∀ z, inR z → K z = some r → AW l D base sc own y cc nL ret d mc ms ad0 hp0 Post k n hp pc L (iv z :: st)) : AW l D base sc own y cc nL ret d mc ms ad0 hp0 Post k n hp pc L (iv x :: st) := kk x hx H
theorem cx_nmj {x : Nat} {K : Nat → Option Rz} (H : nmj x K = some r) (kk : ∀ z, K z = some r → AW l D base sc own y cc nL ret d mc ms ad0 hp0 Post k n hp pc L (jv z :: st)) : AW l D base sc own y cc nL ret d mc ms ad0 hp0 Post k n hp pc L (jv x :: st) := kk x H
theorem cx_nmg {x : Nat} {K : Nat → Option Rz} (H : nmj x K = some r) (kk : ∀ z, K z = some r → AW l D base sc own y cc nL ret d mc ms ad0 hp0 Post k n hp pc L (rv z :: st)) : AW l D base sc own y cc nL ret d mc ms ad0 hp0 Post k n hp pc L (rv x :: st) := kk x H
theorem cx_nn0 {g : Nat} {K : Option Rz} (H : isD g K = some r) (kk : 1000 ≤ g → K = some r → AW l D base sc own y cc nL ret d mc ms ad0 hp0 Post k n hp pc L (.ref g :: st)) : AW l D base sc own y cc nL ret d mc ms ad0 hp0 Post k n hp pc L (rv g :: st) := by
  obtain ⟨h1, H⟩ := chk H
  rw [rv_s (by omega)]
  exact kk h1 H
theorem cx_nn1 {g : Nat} {u : Value} {K : Option Rz} (H : isD g K = some r) (kk : 1000 ≤ g → K = some r → AW l D base sc own y cc nL ret d mc ms ad0 hp0 Post k n hp pc L (u :: .ref g :: st)) : AW l D base sc own y cc nL ret d mc ms ad0 hp0 Post k n hp pc L (u :: rv g :: st) := by
  obtain ⟨h1, H⟩ := chk H
  rw [rv_s (by omega)]
  exact kk h1 H
theorem cx_nn2 {g : Nat} {u u2 : Value} {K : Option Rz} (H : isD g K = some r) (kk : 1000 ≤ g → K = some r → AW l D base sc own y cc nL ret d mc ms ad0 hp0 Post k n hp pc L (u :: u2 :: .ref g :: st)) : AW l D base sc own y cc nL ret d mc ms ad0 hp0 Post k n hp pc L (u :: u2 :: rv g :: st) := by
  obtain ⟨h1, H⟩ := chk H
  rw [rv_s (by omega)]
  exact kk h1 H
theorem cx_nn3 {g : Nat} {u u2 u3 : Value} {K : Option Rz} (H : isD g K = some r) (kk : 1000 ≤ g → K = some r → AW l D base sc own y cc nL ret d mc ms ad0 hp0 Post k n hp pc L (u :: u2 :: u3 :: .ref g :: st)) : AW l D base sc own y cc nL ret d mc ms ad0 hp0 Post k n hp pc L (u :: u2 :: u3 :: rv g :: st) := by
  obtain ⟨h1, H⟩ := chk H
  rw [rv_s (by omega)]
  exact kk h1 H
theorem cx_gmF {idx g kf : Nat} {K : Int → Option Rz} (hE : LE E R) (hD : RD R) (hg : 1000 ≤ g) (hF : g_fl own idx 1 kf) (hs : fSpec 1 kf = 0) (hn : kf < nFld 1) (hd : decode cc pc = .ok (.getfield idx, 3)) (H : gmF m g kf K = some r) (kk : ∀ x, inR x → K x = some r → AW l D base sc own y cc nL ret d mc ms ad0 hp0 Post k n (E m) (pc + 3) L (iv x :: st)) : AW l D base sc own y cc nL ret d mc ms ad0 hp0 Post k n (E m) pc L (.ref g :: st) := by
  obtain ⟨h1, H⟩ := chk H
  exact cx_gtF hE (hD g hg) hF h1 hs hn hd H kk
theorem cx_gmG {idx g kf : Nat} {K : Nat → Option Rz} (hE : LE E R) (hD : RD R) (hg : 1000 ≤ g) (hF : g_fl own idx 1 kf) (hs : fSpec 1 kf = 1) (hn : kf < nFld 1) (hd : decode cc pc = .ok (.getfield idx, 3)) (H : gmG m g kf K = some r) (kk : ∀ x, K x = some r → AW l D base sc own y cc nL ret d mc ms ad0 hp0 Post k n (E m) (pc + 3) L (rv x :: st)) : AW l D base sc own y cc nL ret d mc ms ad0 hp0 Post k n (E m) pc L (.ref g :: st) := by
  obtain ⟨h1, H⟩ := chk H
  exact cx_gtG hE (hD g hg) hF h1 hs hn hd H kk
theorem cx_callG {idx a dC mcC msC nP nL2 : Nat} {y2 : MethodName} {b2 : ByteArray} {ret2 : Option FieldType} {X : Option Rz} {K : Int → Mem → Option Rz} {stk : List Value} {P : (Mem → g_H) → Rz → Option Value → g_H → Prop} (As : List Value) (hE : LE E R) (hD : RD R) (hM : ∀ r1, X = some r1 → AMet l sc y2 b2 nL2 ret2 dC mcC msC (.ref a :: As) (E m) (P E r1)) (hw : g_cV own idx y2 b2 nL2 ret2 nP) (hci : ∃ r, vwCl[1]? = some r ∧ r.1 = y2.cls) (hn : As.length = nP) (hstk : stk = As.reverse ++ .ref a :: st) (hdC : dC + 1 ≤ d) (hst : st.length ≤ 4) (hcells : k + mcC ≤ mc) (hslots : n + msC ≤ ms) (hd : decode cc pc = .ok (.invokevirtual idx, 3)) (H : isG m a (cal X K) = some r) (kk : ∀ x m' v hp', K x m' = some r → P E (x, m') v hp' → AW l D base sc own y cc nL ret d mc ms ad0 hp0 Post (k + mcC) (n + msC) hp' (pc + 3) L (v.toList ++ st)) : AW l D base sc own y cc nL ret d mc ms ad0 hp0 Post k n (E m) pc L stk := by
  obtain ⟨⟨h1, h2⟩, H⟩ := chk H
  exact cx_callV As hE (hD a h1) hM hw h2 hci hn hstk hdC hst hcells hslots hd H kk
theorem cx_tabIn {dflt lo hi : Int} {offs : Array Int} {len : Nat} {x : Int} {off : Int} (tgt : Nat) (v : Int) (hx : x = v) (hd : decode cc pc = .ok (.tableswitch dflt lo hi offs, len)) (h1 : ¬ (Int32.ofInt v).toInt < lo) (h2 : ¬ hi < (Int32.ofInt v).toInt) (ho : offs[((Int32.ofInt v).toInt - lo).toNat]? = some off) (ht : (pc : Int) + off = (tgt : Int)) (kk : AW l D base sc own y cc nL ret d mc ms ad0 hp0 Post k n hp tgt L st) : AW l D base sc own y cc nL ret d mc ms ad0 hp0 Post k n hp pc L (iv x :: st) := by
  subst hx
  exact aw_tableIn tgt hd h1 h2 ho ht kk
theorem cx_tabOut {dflt lo hi : Int} {offs : Array Int} {len : Nat} {x : Int} (tgt : Nat) (hx : inR x) (hd : decode cc pc = .ok (.tableswitch dflt lo hi offs, len)) (h1 : x < lo ∨ hi < x) (ht : (pc : Int) + dflt = (tgt : Int)) (kk : AW l D base sc own y cc nL ret d mc ms ad0 hp0 Post k n hp tgt L st) : AW l D base sc own y cc nL ret d mc ms ad0 hp0 Post k n hp pc L (iv x :: st) := by
  refine aw_tableOut tgt hd ?_ ht kk
  rw [Int32.toInt_ofInt_of_le hx.1 hx.2]
  exact h1
theorem off_out : ∀ (r : List (Int × Int)) (d z : Int), (∀ p ∈ r, ¬ z = p.1) → Op.lookupswitch.offset r d z = d
  | [], d, z, _ => by simp [Op.lookupswitch.offset]
  | p :: r, d, z, h => by
    have h1 := h p List.mem_cons_self
    have h2 := off_out r d z (fun q hq => h q (List.mem_cons_of_mem _ hq))
    simp [Op.lookupswitch.offset, h1, Ne.symm h1] at h2 ⊢
    first | exact h2 | (intro h9; exact absurd h9.symm h1) | (split <;> first | exact h2 | (rename_i h9; exact absurd h9.symm h1))
theorem cx_lookIn {dflt : Int} {ps : Array (Int × Int)} {len : Nat} {x : Int} {off : Int} (tgt : Nat) (v : Int) (hx : x = v) (hd : decode cc pc = .ok (.lookupswitch dflt ps, len)) (hps : (ps.toList.zip (ps.toList.drop 1)).all (fun (a, next) => a.1 < next.1) = true) (ho : Op.lookupswitch.offset ps.toList dflt (Int32.ofInt v).toInt = off) (ht : (pc : Int) + off = (tgt : Int)) (kk : AW l D base sc own y cc nL ret d mc ms ad0 hp0 Post k n hp tgt L st) : AW l D base sc own y cc nL ret d mc ms ad0 hp0 Post k n hp pc L (iv x :: st) := by
  subst hx
  exact aw_lookup tgt hd hps ho ht kk
theorem cx_lookOut {dflt : Int} {ps : Array (Int × Int)} {len : Nat} {x : Int} (tgt : Nat) (hx : inR x) (hd : decode cc pc = .ok (.lookupswitch dflt ps, len)) (hps : (ps.toList.zip (ps.toList.drop 1)).all (fun (a, next) => a.1 < next.1) = true) (hn : ∀ p ∈ ps.toList, ¬ x = p.1) (ht : (pc : Int) + dflt = (tgt : Int)) (kk : AW l D base sc own y cc nL ret d mc ms ad0 hp0 Post k n hp tgt L st) : AW l D base sc own y cc nL ret d mc ms ad0 hp0 Post k n hp pc L (iv x :: st) := by
  refine aw_lookup tgt hd hps (off_out _ _ _ ?_) ht kk
  rw [Int32.toInt_ofInt_of_le hx.1 hx.2]
  exact hn
theorem aw_aaldR {a n0 : Nat} {f : Nat → Option Nat} {i : Int32} (v : Value) (hc : hp a = some (.inl (.array .int, (n0, .inr (.inr (.inr (.inr f))))))) (hin : vp_in i n0) (hv : va_rf (f i.toNatClampNeg) = v) (hd : decode cc pc = .ok (.aaload, 1)) (kk : AW l D base sc own y cc nL ret d mc ms ad0 hp0 Post k n hp (pc + 1) L (v :: st)) : AW l D base sc own y cc nL ret d mc ms ad0 hp0 Post k n hp pc L (.int i :: .ref a :: st) := by
  intro p e s m args below meth c H locs ls ad X X2 X3 hl hL hs hI hS
  obtain ⟨⟨tys, ws, hK, hP, hD, hrel⟩, hinj, hclo, hsc⟩ := id hI
  obtain ⟨q0, t0, cA, hq, ht⟩ := g_lookA hrel hc
  subst hv
  have hkk := kk p e s m args below meth c H locs ls ad X X2 X3 hl hL (fun u hu => by
    rcases List.mem_cons.mp hu with rfl | hu
    · cases hf : f i.toNatClampNeg with
      | none => trivial
      | some b => exact hclo a _ hc _ _ hf
    · exact hs u (List.mem_cons_of_mem _ (List.mem_cons_of_mem _ hu))) hI hS
  have hlt : i.toNatClampNeg < n0 := Nat.not_le.mp fun q => hin (Or.inr q)
  have e1 : va_rf ((f i.toNatClampNeg).map ad) = g_v ad (va_rf (f i.toNatClampNeg)) := by cases f i.toNatClampNeg <;> rfl
  refine W.aald (v := va_rf ((f i.toNatClampNeg).map ad)) (ty := .array .int) X.1 X.2.1 (hP q0 _ hq) ((hK.2 t0 _ ht).1 n0 (fun j => va_rf ((f j).map ad))) rfl (fun q => by cases q) (by show ¬ (i < 0 ∨ (arrV _ _ _).slots.size ≤ _); rw [arrV_size]; exact hin) (arrV_read _ _ hlt) rfl rfl hd ?_
  show W p l e _ s m args below meth c H locs k n _ (F0 m (pc + 1) ls (va_rf ((f i.toNatClampNeg).map ad) :: st.map (g_v ad)))
  rw [e1]
  exact hkk
theorem cx_ldR {a : Nat} {i : Int} {K : Nat → Option Rz} (hE : LE E R) (hr : R a) (hi : inR i) (hd : decode cc pc = .ok (.aaload, 1)) (H : ldR m a i K = some r) (kk : ∀ x, a + 1 ≤ x ∧ x < a + 1 + (sKind m a).2 → K x = some r → AW l D base sc own y cc nL ret d mc ms ad0 hp0 Post k n (E m) (pc + 1) L (.ref x :: st)) : AW l D base sc own y cc nL ret d mc ms ad0 hp0 Post k n (E m) pc L (iv i :: .ref a :: st) := by
  obtain ⟨⟨h1, h2, h3⟩, H⟩ := chk H
  have kk := kk _ (by omega) H
  refine aw_aaldR _ ((hE.1 m a hr).trans (cel_rows h1)) (oI_in hi h2 h3) rfl hd ?_
  rw [oI_cl hi, if_pos (by omega)]
  exact kk
theorem cx_mmax {x z : Int} {idx nP : Nat} {y2 : MethodName} {b2 : ByteArray} (hx : inR x) (hz : inR z) (hy : y2 = Lib.Math.max.name) (hb : b2 = Lib.Math.max.code) (hl : Cond.methodLink own idx y2 ∈ g_T) (hw : g_cS own idx y2 b2 2 (some .int) nP) (hd1 : 1 ≤ d) (hst : st.length ≤ 4) (hk : k ≤ mc) (hk2 : n ≤ ms) (hd : decode cc pc = .ok (.invokestatic idx, 3)) (kk : AW l D base sc own y cc nL ret d mc ms ad0 hp0 Post k n hp (pc + 3) L (iv (imax x z) :: st)) : AW l D base sc own y cc nL ret d mc ms ad0 hp0 Post k n hp pc L (iv z :: iv x :: st) := by
  subst hy hb
  refine aw_mmax hl hw.2.2 hw.1.2.2.1 hw.1.2.1 hd1 (cat_8 hst) hk hk2 hd ?_
  have e : (if Int32.ofInt x < Int32.ofInt z then Int32.ofInt z else Int32.ofInt x) = Int32.ofInt (imax x z) := by
    unfold imax
    by_cases h : x < z
    · rw [if_pos h, if_pos ((oI_lt hx hz).mpr h)]
    · rw [if_neg h, if_neg (fun q => h ((oI_lt hx hz).mp q))]
  rw [e]
  exact kk
theorem cx_mmin {x z : Int} {idx nP : Nat} {y2 : MethodName} {b2 : ByteArray} (hx : inR x) (hz : inR z) (hy : y2 = Lib.Math.min.name) (hb : b2 = Lib.Math.min.code) (hl : Cond.methodLink own idx y2 ∈ g_T) (hw : g_cS own idx y2 b2 2 (some .int) nP) (hd1 : 1 ≤ d) (hst : st.length ≤ 4) (hk : k ≤ mc) (hk2 : n ≤ ms) (hd : decode cc pc = .ok (.invokestatic idx, 3)) (kk : AW l D base sc own y cc nL ret d mc ms ad0 hp0 Post k n hp (pc + 3) L (iv (imin x z) :: st)) : AW l D base sc own y cc nL ret d mc ms ad0 hp0 Post k n hp pc L (iv z :: iv x :: st) := by
  subst hy hb
  refine aw_mmin hl hw.2.2 hw.1.2.2.1 hw.1.2.1 hd1 (cat_8 hst) hk hk2 hd ?_
  have e : (if Int32.ofInt z < Int32.ofInt x then Int32.ofInt z else Int32.ofInt x) = Int32.ofInt (imin x z) := by
    unfold imin
    by_cases h : z < x
    · rw [if_pos h, if_pos ((oI_lt hz hx).mpr h)]
    · rw [if_neg h, if_neg (fun q => h ((oI_lt hz hx).mp q))]
  rw [e]
  exact kk
theorem cx_mabs {x : Int} {idx nP : Nat} {y2 : MethodName} {b2 : ByteArray} (hx : inR x) (hy : y2 = Lib.Math.abs.name) (hb : b2 = Lib.Math.abs.code) (hl : Cond.methodLink own idx y2 ∈ g_T) (hw : g_cS own idx y2 b2 1 (some .int) nP) (hd1 : 1 ≤ d) (hst : st.length ≤ 4) (hk : k ≤ mc) (hk2 : n ≤ ms) (hd : decode cc pc = .ok (.invokestatic idx, 3)) (kk : AW l D base sc own y cc nL ret d mc ms ad0 hp0 Post k n hp (pc + 3) L (iv (iabs x) :: st)) : AW l D base sc own y cc nL ret d mc ms ad0 hp0 Post k n hp pc L (iv x :: st) := by
  subst hy hb
  refine aw_mabs hl hw.2.2 hw.1.2.2.1 hw.1.2.1 hd1 (cat_8 hst) hk hk2 hd ?_
  have e : (if 0 ≤ Int32.ofInt x then Int32.ofInt x else 0 - Int32.ofInt x) = Int32.ofInt (iabs x) := by
    unfold iabs
    by_cases h : 0 ≤ x
    · rw [if_pos h, if_pos (by rw [oI_0, oI_le inR_0 hx]; exact h)]
    · rw [if_neg h, if_neg (by rw [oI_0, oI_le inR_0 hx]; exact h), ofInt_w32, Int32.ofInt_sub]
      rfl
  rw [e]
  exact kk
end SX

