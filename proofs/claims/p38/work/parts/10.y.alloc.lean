/-! new cells: the next one stands at 1000 and how many there are -/
def mNext (m : Mem) : Nat := 1000 + m.2.2.length
def mNew (m : Mem) (kind len : Nat) : Mem := (fun b j => if b = mNext m then 0 else m.1 b j, m.2.1, m.2.2 ++ [(kind, len)])
theorem mGet_mNew (m : Mem) (kind len b j : Nat) : mGet (mNew m kind len) b j = if b = mNext m then 0 else mGet m b j := by
  unfold mGet mNew
  show w32 (if b = mNext m then 0 else m.1 b j) = _
  by_cases h : b = mNext m
  · rw [if_pos h, if_pos h]; exact w32_id (by decide) (by decide)
  · rw [if_neg h, if_neg h]
theorem sKind_mNew (m : Mem) (kind len b : Nat) : sKind (mNew m kind len) b = if b = mNext m then (kind, len) else sKind m b := by
  unfold sKind mNew mNext
  show (if b < 1000 then sTbl.getD b (0, 0) else (m.2.2 ++ [(kind, len)]).getD (b - 1000) (0, 0)) = _
  by_cases h : b < 1000
  · rw [if_pos h, if_neg (by omega), if_pos h]
  · rw [if_neg h, if_neg h]
    by_cases h2 : b = 1000 + m.2.2.length
    · rw [if_pos h2, h2, List.getD_eq_getElem?_getD, Nat.add_sub_cancel_left]
      simp
    · rw [if_neg h2, List.getD_eq_getElem?_getD, List.getD_eq_getElem?_getD]
      by_cases h3 : b - 1000 < m.2.2.length
      · rw [List.getElem?_append_left h3]
      · rw [List.getElem?_eq_none (by rw [List.length_append, List.length_singleton]; omega), List.getElem?_eq_none (by omega)]
theorem cel_next (m : Mem) : cel m (mNext m) = none := by
  have h : sKind m (mNext m) = (0, 0) := by
    unfold sKind mNext
    rw [if_neg (by omega), List.getD_eq_getElem?_getD, List.getElem?_eq_none (by omega)]
    rfl
  unfold cel
  rw [h]; rfl
theorem cel_mNew {m : Mem} {kind len j : Nat} (h : j ≠ mNext m) : cel (mNew m kind len) j = cel m j := cel_ext (by rw [sKind_mNew, if_neg h]) (fun i => by rw [mGet_mNew, if_neg h]) (fun _ => rfl)
def nwI (m : Mem) (x : Int) (cap : Nat) (K : Nat → Mem → Option Rz) : Option Rz := if 0 ≤ x ∧ x ≤ (cap : Int) then K (mNext m) (mNew m 1 x.toNat) else none
def nwB (m : Mem) (x : Int) (cap : Nat) (K : Nat → Mem → Option Rz) : Option Rz := if 0 ≤ x ∧ x ≤ (cap : Int) then K (mNext m) (mNew m 3 x.toNat) else none
def nwG (m : Mem) (K : Nat → Mem → Option Rz) : Option Rz := K (mNext m) (mNew m 11 5)
def mCpy (m : Mem) (a sp b dp n : Nat) : Mem := (fun c j => if c = b ∧ dp ≤ j ∧ j < dp + n then m.1 a (sp + (j - dp)) else m.1 c j, m.2)
theorem mGet_mCpy (m : Mem) (a sp b dp n c j : Nat) : mGet (mCpy m a sp b dp n) c j = if c = b ∧ dp ≤ j ∧ j < dp + n then mGet m a (sp + (j - dp)) else mGet m c j := by
  unfold mGet mCpy
  show w32 (if c = b ∧ dp ≤ j ∧ j < dp + n then m.1 a (sp + (j - dp)) else m.1 c j) = _
  by_cases h : c = b ∧ dp ≤ j ∧ j < dp + n
  · rw [if_pos h, if_pos h]
  · rw [if_neg h, if_neg h]
theorem cel_mCpy {m : Mem} {a sp b dp n j : Nat} (h : j ≠ b) : cel (mCpy m a sp b dp n) j = cel m j := cel_ext rfl (fun i => by rw [mGet_mCpy, if_neg (fun q => h q.1)]) (fun _ => rfl)
def cpI (m : Mem) (a : Nat) (sp : Int) (b : Nat) (dp nn : Int) (K : Mem → Option Rz) : Option Rz := if (sKind m a).1 = 1 ∧ (sKind m b).1 = 1 ∧ 0 ≤ sp ∧ 0 ≤ dp ∧ 0 ≤ nn ∧ sp.toNat + nn.toNat ≤ (sKind m a).2 ∧ dp.toNat + nn.toNat ≤ (sKind m b).2 then K (mCpy m a sp.toNat b dp.toNat nn.toNat) else none
def cpB (m : Mem) (a : Nat) (sp : Int) (b : Nat) (dp nn : Int) (K : Mem → Option Rz) : Option Rz := if (sKind m a).1 = 3 ∧ (sKind m b).1 = 3 ∧ 0 ≤ sp ∧ 0 ≤ dp ∧ 0 ≤ nn ∧ sp.toNat + nn.toNat ≤ (sKind m a).2 ∧ dp.toNat + nn.toNat ≤ (sKind m b).2 ∧ ∀ i, i < nn.toNat → -128 ≤ mGet m a (sp.toNat + i) ∧ mGet m a (sp.toNat + i) < 128 then K (mCpy m a sp.toNat b dp.toNat nn.toNat) else none
section SA
variable {l : Launch} {D : va_G} {base : Nat} {sc : g_S} {own : String} {y : MethodName} {cc : ByteArray} {nL : Nat} {ret : Option FieldType} {d mc ms : Nat} {ad0 : Nat → Nat} {hp0 hp : g_H} {Post : Option Value → g_H → Prop} {k n : Nat} {pc : Nat} {L : List (Nat × Value)} {st : List Value} {E : Mem → g_H} {R : Nat → Prop} {m : Mem} {r : Rz}
theorem LE.next (hE : LE E R) (hD : RD R) (m : Mem) : E m (mNext m) = none := by
  rw [hE.1 m (mNext m) (hD _ (Nat.le_add_right _ _)), cel_next]

theorem cx_nwI {x : Int} {cap : Nat} {K : Nat → Mem → Option Rz} (hE : LE E R) (hD : RD R) (hsc : sc.1 = 0) (hx : inR x) (hw : Cond.arrayClass .int ∈ g_T) (hcap : cap ≤ 10000) (hcells : k + 1 ≤ mc) (hslots : n + cap ≤ ms) (hd : decode cc pc = .ok (.newarray .int, 2)) (H : nwI m x cap K = some r) (kk : ∀ q m', 1000 ≤ q → K q m' = some r → AW l D base sc own y cc nL ret d mc ms ad0 hp0 Post (k + 1) (n + cap) (E m') (pc + 2) L (.ref q :: st)) : AW l D base sc own y cc nL ret d mc ms ad0 hp0 Post k n (E m) pc L (iv x :: st) := by
  obtain ⟨⟨h0, h1⟩, H⟩ := chk H
  have kk := kk _ _ (Nat.le_add_right _ _) H
  refine aw_newI (N' := x.toNat) (mNext m) (hE.next hD m) (by rw [hsc]; unfold mNext; omega) hw (by rw [oI_0, oI_lt hx inR_0]; omega) (oI_cl hx) (by omega) hcells (by omega) hd ?_
  refine AW.widen (Nat.le_refl _) (Nat.add_le_add_left (m := cap) (by omega) n) ?_
  refine AW.eqh (hE.up (hD _ (Nat.le_add_right _ _)) ?_ (fun j hj => cel_mNew hj)) kk
  have hs : sKind (mNew m 1 x.toNat) (mNext m) = (1, x.toNat) := by rw [sKind_mNew, if_pos rfl]
  rw [cel_int (by rw [hs]), hs]
  congr 5
  funext j
  rw [mGet_mNew, if_pos rfl]
  rfl
theorem cx_nwB {x : Int} {cap : Nat} {K : Nat → Mem → Option Rz} (hE : LE E R) (hD : RD R) (hsc : sc.1 = 0) (hx : inR x) (hw : Cond.arrayClass .byte ∈ g_T) (hcap : cap ≤ 10000) (hcells : k + 1 ≤ mc) (hslots : n + cap ≤ ms) (hd : decode cc pc = .ok (.newarray .byte, 2)) (H : nwB m x cap K = some r) (kk : ∀ q m', 1000 ≤ q → K q m' = some r → AW l D base sc own y cc nL ret d mc ms ad0 hp0 Post (k + 1) (n + cap) (E m') (pc + 2) L (.ref q :: st)) : AW l D base sc own y cc nL ret d mc ms ad0 hp0 Post k n (E m) pc L (iv x :: st) := by
  obtain ⟨⟨h0, h1⟩, H⟩ := chk H
  have kk := kk _ _ (Nat.le_add_right _ _) H
  refine aw_newB (N' := x.toNat) (mNext m) (hE.next hD m) (by rw [hsc]; unfold mNext; omega) hw (by rw [oI_0, oI_lt hx inR_0]; omega) (oI_cl hx) (by omega) hcells (by omega) hd ?_
  refine AW.widen (Nat.le_refl _) (Nat.add_le_add_left (m := cap) (by omega) n) ?_
  refine AW.eqh (hE.up (hD _ (Nat.le_add_right _ _)) ?_ (fun j hj => cel_mNew hj)) kk
  have hs : sKind (mNew m 3 x.toNat) (mNext m) = (3, x.toNat) := by rw [sKind_mNew, if_pos rfl]
  rw [cel_byte (by rw [hs]), hs]
  congr 5
  funext j
  rw [mGet_mNew, if_pos rfl]
  rfl
theorem cx_nwG {idx : Nat} {K : Nat → Mem → Option Rz} (hE : LE E R) (hD : RD R) (hsc : sc.1 = 0) (hw : Cond.classLink own idx "UppityGames$Game" ∈ g_T) (hcells : k + 1 ≤ mc) (hslots : n + 5 ≤ ms) (hd : decode cc pc = .ok (.new idx, 3)) (H : nwG m K = some r) (kk : ∀ q m', 1000 ≤ q → K q m' = some r → AW l D base sc own y cc nL ret d mc ms ad0 hp0 Post (k + 1) (n + 5) (E m') (pc + 3) L (.ref q :: st)) : AW l D base sc own y cc nL ret d mc ms ad0 hp0 Post k n (E m) pc L st := by
  have kk := kk _ _ (Nat.le_add_right _ _) H
  refine aw_new (ci := 1) (N := 5) (mNext m) [.null, .null, .null, .int 0, .int 0] tyX1 ⟨TX1, rfl, tys_X1, cls_X1⟩ (hE.next hD m) (by rw [hsc]; unfold mNext; omega) hw in_X1 ii_X1 (fun j hj => by
    rcases (by omega : j = 0 ∨ j = 1 ∨ j = 2 ∨ j = 3 ∨ j = 4) with rfl | rfl | rfl | rfl | rfl <;> rfl) (fun v hv i h => by
    subst h
    simp at hv) hcells hslots hd ?_
  refine AW.eqh (hE.up (hD _ (Nat.le_add_right _ _)) ?_ (fun j hj => cel_mNew hj)) kk
  have hs : sKind (mNew m 11 5) (mNext m) = (11, 5) := by rw [sKind_mNew, if_pos rfl]
  rw [cel_obj (c := 1) (by rw [hs])]
  refine congrArg (fun z => some (Sum.inr (1, z))) ?_
  have hz : ∀ j, mGet (mNew m 11 5) (mNext m) j = 0 := fun j => by rw [mGet_mNew, if_pos rfl]
  have hf : ∀ j, fVal (mNew m 11 5) (mNext m) 1 j = match fSpec 1 j with | 0 => iv 0 | 1 => rv 0 | r + 2 => .ref r := fun j => by
    unfold fVal
    rw [hz]
    rfl
  unfold flds
  rw [show (List.range (nFld 1)).map (fVal (mNew m 11 5) (mNext m) 1) = (List.range (nFld 1)).map (fun j => match fSpec 1 j with | 0 => iv 0 | 1 => rv 0 | r + 2 => .ref r) from List.map_congr_left (fun j _ => hf j)]
  rfl
/-- fields of a new game, in its constructor -/
theorem cx_ptFf {idx a kf : Nat} {v : Int} {K : Mem → Option Rz} (ty : Nat → FieldType) (hE : LE E R) (hr : R a) (hF : g_flo own idx 1 kf) (hty : ∀ r, vwCl[1]? = some r → g_tys r ty ∧ (r.2.1 kf).2.2.2 = true) (hin2 : y.name = "<init>") (hdecl : ∀ r, vwCl[1]? = some r → r.1 = own) (hint : ty kf = .int) (hs : fSpec 1 kf = 0) (hn : kf < nFld 1) (hd : decode cc pc = .ok (.putfield idx, 3)) (H : isG m a (ptF m a kf v K) = some r) (kk : ∀ m', K m' = some r → AW l D base sc own y cc nL ret d mc ms ad0 hp0 Post k n (E m') (pc + 3) L st) : AW l D base sc own y cc nL ret d mc ms ad0 hp0 Post k n (E m) pc L (iv v :: .ref a :: st) := by
  obtain ⟨⟨_, hk⟩, H⟩ := chk H
  refine aw_putF ty hF hty hin2 hdecl ((hE.1 m a hr).trans (cel_obj (c := 1) hk)) (by rw [hint]; rfl) (by rw [hint]; rfl) (by rw [flds_len]; exact hn) hd ?_
  refine AW.eqh (hE.up hr ?_ (fun j hj => cel_mSet hj)) (kk _ H)
  rw [cel_obj (m := mSet m a kf v) (c := 1) hk]
  congr 3
  refine (flds_set hn ?_).symm
  unfold fVal
  rw [hs, mGet_mSet, if_pos ⟨rfl, rfl⟩]
  exact congrArg Value.int (ofInt_w32 v)
theorem cx_ptGf {idx a kf : Nat} {v : Nat} {K : Mem → Option Rz} (ty : Nat → FieldType) (hE : LE E R) (hr : R a) (hF : g_flo own idx 1 kf) (hty : ∀ r, vwCl[1]? = some r → g_tys r ty ∧ (r.2.1 kf).2.2.2 = true) (hin2 : y.name = "<init>") (hdecl : ∀ r, vwCl[1]? = some r → r.1 = own) (hfit : ∀ u, fits (ty kf) (rv u) = true) (hs : fSpec 1 kf = 1) (hn : kf < nFld 1) (hd : decode cc pc = .ok (.putfield idx, 3)) (H : isG m a (ptG m a kf v K) = some r) (kk : ∀ m', K m' = some r → AW l D base sc own y cc nL ret d mc ms ad0 hp0 Post k n (E m') (pc + 3) L st) : AW l D base sc own y cc nL ret d mc ms ad0 hp0 Post k n (E m) pc L (rv v :: .ref a :: st) := by
  obtain ⟨⟨_, hk⟩, H⟩ := chk H
  obtain ⟨h4, H⟩ := chk H
  refine aw_putF ty hF hty hin2 hdecl ((hE.1 m a hr).trans (cel_obj (c := 1) hk)) (rv_narrow _ _) (hfit v) (by rw [flds_len]; exact hn) hd ?_
  refine AW.eqh (hE.up hr ?_ (fun j hj => cel_mSet hj)) (kk _ H)
  rw [cel_obj (m := mSet m a kf (v : Int)) (c := 1) hk]
  congr 3
  refine (flds_set hn ?_).symm
  unfold fVal
  rw [hs, mGet_mSet, if_pos ⟨rfl, rfl⟩, orf_nat h4]
theorem cx_objInit {idx a : Nat} (hw : Cond.methodLink own idx Lib.objectInit ∈ g_T) (hd1 : 1 ≤ d) (hst : st.length ≤ 4) (hd : decode cc pc = .ok (.invokespecial idx, 3)) (kk : AW l D base sc own y cc nL ret d mc ms ad0 hp0 Post k n hp (pc + 3) L st) : AW l D base sc own y cc nL ret d mc ms ad0 hp0 Post k n hp pc L (.ref a :: st) := aw_objInit hw oi_inst oi_code hd1 (cat_8 hst) hd kk
theorem cx_callI {idx a dC mcC msC nP nL2 : Nat} {y2 : MethodName} {b2 : ByteArray} {X : Option Rz} {K : Int → Mem → Option Rz} {stk : List Value} (As : List Value) (hM : ∀ r1, X = some r1 → AMet l sc y2 b2 nL2 none dC mcC msC (.ref a :: As) (E m) (pV E r1)) (hw : g_cI own idx y2 b2 nL2 nP) (hn : As.length = nP) (hstk : stk = As.reverse ++ .ref a :: st) (hdC : dC + 1 ≤ d) (hst : st.length ≤ 4) (hcells : k + mcC ≤ mc) (hslots : n + msC ≤ ms) (hd : decode cc pc = .ok (.invokespecial idx, 3)) (H : cal X K = some r) (kk : ∀ x m', K x m' = some r → AW l D base sc own y cc nL ret d mc ms ad0 hp0 Post (k + mcC) (n + msC) (E m') (pc + 3) L st) : AW l D base sc own y cc nL ret d mc ms ad0 hp0 Post k n (E m) pc L stk := by
  cases hX : X with
  | none => rw [hX] at H; cases H
  | some r1 =>
    rw [hX] at H
    exact aw_callI As (hM r1 hX) hw hn hstk hdC (cat_8 hst) hcells hslots hd (fun v hp' hp9 _ => by
      obtain ⟨rfl, rfl⟩ := hp9
      exact kk _ _ H)
theorem fits_byte {x : Int} (h1 : -128 ≤ x) (h2 : x < 128) : fits .byte (iv x) = true := by
  have h : ∀ j : Fin 256, fits .byte (iv ((j.val : Int) - 128)) = true := by decide +kernel
  have h3 := h ⟨(x + 128).toNat, by omega⟩
  rw [show (((⟨(x + 128).toNat, by omega⟩ : Fin 256).val : Int) - 128) = x by show ((x + 128).toNat : Int) - 128 = x; omega] at h3
  exact h3
theorem cx_cpI {idx a b : Nat} {sp dp nn : Int} {K : Mem → Option Rz} (hE : LE E R) (ha : R a) (hb : R b) (hsp : inR sp) (hdp : inR dp) (hnn : inR nn) (hw : Cond.methodLink own idx arraycopyName ∈ g_T) (hw1 : Cond.native arraycopyName ∈ g_T) (hw2 : Cond.static arraycopyName ∈ g_T) (hw3 : Cond.initialized "java/lang/System" ∈ g_T) (hd1 : 1 ≤ d) (hst : st.length ≤ 4) (hd : decode cc pc = .ok (.invokestatic idx, 3)) (H : cpI m a sp b dp nn K = some r) (kk : ∀ m', K m' = some r → AW l D base sc own y cc nL ret d mc ms ad0 hp0 Post k n (E m') (pc + 3) L st) : AW l D base sc own y cc nL ret d mc ms ad0 hp0 Post k n (E m) pc L (iv nn :: iv dp :: .ref b :: iv sp :: .ref a :: st) := by
  obtain ⟨⟨h1, h2, h3, h4, h5, h6, h7⟩, H⟩ := chk H
  have kk := kk _ H
  refine aw_copy hw hw1 hw2 hw3 ((hE.1 m a ha).trans (cel_int h1)) ((hE.1 m b hb).trans (cel_int h2)) rfl (by rw [oI_0, oI_lt hsp inR_0]; omega) (by rw [oI_0, oI_lt hdp inR_0]; omega) (by rw [oI_0, oI_lt hnn inR_0]; omega) (by rw [oI_cl hsp, oI_cl hnn]; exact h6) (by rw [oI_cl hdp, oI_cl hnn]; exact h7) (fun _ _ => rfl) hd1 (cat_8 hst) hd ?_
  refine AW.eqh (hE.up hb ?_ (fun j hj => cel_mCpy hj)) kk
  rw [cel_int (m := mCpy m a sp.toNat b dp.toNat nn.toNat) h2, oI_cl hsp, oI_cl hdp, oI_cl hnn]
  refine congrArg (fun f => some (Sum.inl (FieldType.int, ((sKind m b).2, Sum.inl f)))) (funext fun j => ?_)
  rw [mGet_mCpy]
  unfold va_cpy
  by_cases h : dp.toNat ≤ j ∧ j < dp.toNat + nn.toNat
  · rw [if_pos h, if_pos ⟨rfl, h⟩]
  · rw [if_neg h, if_neg (fun q => h q.2)]
theorem cx_cpB {idx a b : Nat} {sp dp nn : Int} {K : Mem → Option Rz} (hE : LE E R) (ha : R a) (hb : R b) (hsp : inR sp) (hdp : inR dp) (hnn : inR nn) (hw : Cond.methodLink own idx arraycopyName ∈ g_T) (hw1 : Cond.native arraycopyName ∈ g_T) (hw2 : Cond.static arraycopyName ∈ g_T) (hw3 : Cond.initialized "java/lang/System" ∈ g_T) (hd1 : 1 ≤ d) (hst : st.length ≤ 4) (hd : decode cc pc = .ok (.invokestatic idx, 3)) (H : cpB m a sp b dp nn K = some r) (kk : ∀ m', K m' = some r → AW l D base sc own y cc nL ret d mc ms ad0 hp0 Post k n (E m') (pc + 3) L st) : AW l D base sc own y cc nL ret d mc ms ad0 hp0 Post k n (E m) pc L (iv nn :: iv dp :: .ref b :: iv sp :: .ref a :: st) := by
  obtain ⟨⟨h1, h2, h3, h4, h5, h6, h7, h8⟩, H⟩ := chk H
  have kk := kk _ H
  refine aw_copy hw hw1 hw2 hw3 ((hE.1 m a ha).trans (cel_byte h1)) ((hE.1 m b hb).trans (cel_byte h2)) rfl (by rw [oI_0, oI_lt hsp inR_0]; omega) (by rw [oI_0, oI_lt hdp inR_0]; omega) (by rw [oI_0, oI_lt hnn inR_0]; omega) (by rw [oI_cl hsp, oI_cl hnn]; exact h6) (by rw [oI_cl hdp, oI_cl hnn]; exact h7) (fun i hi => by
    rw [oI_cl hnn] at hi
    rw [oI_cl hsp]
    exact fits_byte (h8 i hi).1 (h8 i hi).2) hd1 (cat_8 hst) hd ?_
  refine AW.eqh (hE.up hb ?_ (fun j hj => cel_mCpy hj)) kk
  rw [cel_byte (m := mCpy m a sp.toNat b dp.toNat nn.toNat) h2, oI_cl hsp, oI_cl hdp, oI_cl hnn]
  refine congrArg (fun f => some (Sum.inl (FieldType.byte, ((sKind m b).2, Sum.inl f)))) (funext fun j => ?_)
  rw [mGet_mCpy]
  unfold va_cpy
  by_cases h : dp.toNat ≤ j ∧ j < dp.toNat + nn.toNat
  · rw [if_pos h, if_pos ⟨rfl, h⟩]
  · rw [if_neg h, if_neg (fun q => h q.2)]
theorem cx_aret {v : Nat} (hr : ∃ rt, ret = some rt ∧ ((∃ n, rt = .object n) ∨ ∃ t, rt = .array t)) (hk : k ≤ mc) (hk2 : n ≤ ms) (hd : decode cc pc = .ok (.areturn, 1)) (H : rt (v : Int) m = some r) : AW l D base sc own y cc nL ret d mc ms ad0 hp0 (pG E r) k n (E m) pc L [rv v] := by
  cases H
  obtain ⟨rt, hr, hrt⟩ := hr
  exact aw_aret hr hrt (rv_or v) hk hk2 hd ⟨by rw [Int.toNat_natCast], rfl⟩
theorem g_has {w : Cond} (h : g_T.contains w = true) : w ∈ g_T := List.contains_iff_mem.mp h
theorem ay_J7 : Cond.methodLink RJ7 150 arraycopyName ∈ g_T := g_has (by decide +kernel)
theorem ay_1 : Cond.native arraycopyName ∈ g_T := g_has (by decide +kernel)
theorem ay_2 : Cond.static arraycopyName ∈ g_T := g_has (by decide +kernel)
theorem ay_3 : Cond.initialized "java/lang/System" ∈ g_T := g_has (by decide +kernel)
end SA
