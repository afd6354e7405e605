/-! the law: a round of its loop as a program of each side, what it may make -/
def hN : g_H := fun _ => none
def E2 (mc mr : Mem) : g_H := EC (ovl 100 140 mr hN) mc
theorem LE_E2c (mr : Mem) : LE (fun mc => E2 mc mr) (fun q => (1 ≤ q ∧ q < 58) ∨ 1000 ≤ q) := LE_EC _
theorem LE_E2r (mc : Mem) : LE (fun mr => E2 mc mr) (fun q => 100 ≤ q ∧ q < 140) := ⟨fun m id hr => by
  show EC (ovl 100 140 m hN) mc id = _
  unfold EC
  rw [if_neg (by omega), ovl_in hr.1 hr.2], fun m m' id hr => by
  show EC (ovl 100 140 m hN) mc id = EC (ovl 100 140 m' hN) mc id
  unfold EC
  rw [ovl_out hr, ovl_out hr]⟩
theorem RRF_E2 : RRF (fun q => 100 ≤ q ∧ q < 140) := fun q h1 h2 => ⟨h1, h2⟩
def stepC (n N : Nat) (a : Nat → Int) (m : Mem) : Option Rz :=
  if iand (a 0) 63 = 0 then f_X10_slot n (a 1) (a 2) m else
  if iand (a 0) 63 = 1 then f_X10_integer n (a 1) m else
  if iand (a 0) 63 = 2 then f_X10_word n (a 1) (a 2) m else
  if iand (a 0) 63 = 3 then f_X10_whole n (a 1) (a 2) m else
  if iand (a 0) 63 = 4 then f_X10_heap n (a 1) (a 2) m else
  if iand (a 0) 63 = 5 then f_X10_ups n (a 1) (a 2) (a 3) m else
  if iand (a 0) 63 = 6 then f_X10_flower n (a 1) (a 2) (a 3) (a 4) m else
  if iand (a 0) 63 = 7 then f_X10_made n (a 1) (a 2) (a 3) m else
  if iand (a 0) 63 = 8 then f_X10_plus n (a 1) (a 2) (a 3) m else
  if iand (a 0) 63 = 9 then f_X10_minus n (a 1) (a 2) m else
  if iand (a 0) 63 = 10 then f_X10_option n (a 1) (a 2) (a 3) (a 4) m else
  if iand (a 0) 63 = 11 then f_X10_move n (a 1) (a 2) m else
  if iand (a 0) 63 = 12 then f_X10_undo n  m else
  if iand (a 0) 63 = 13 then f_X10_order n (a 1) (a 2) m else
  if iand (a 0) 63 = 14 then f_X10_outcome n (a 1) (a 2) m else
  if iand (a 0) 63 = 15 then f_X10_far n (a 1) m else
  if iand (a 0) 63 = 16 then f_X10_weight n (a 1) (a 2) m else
  if iand (a 0) 63 = 17 then f_X10_atomic n (a 1) m else
  if iand (a 0) 63 = 18 then f_X10_ahead n (a 1) m else
  if iand (a 0) 63 = 19 then f_X10_garden n (a 1) m else
  if iand (a 0) 63 = 20 then f_X10_reply n (a 1) (a 2) (a 3) (a 4) m else
  if iand (a 0) 63 = 21 then f_X10_fight n (a 1) (a 2) (a 3) (a 4) m else
  if iand (a 0) 63 = 22 then f_X10_plays n (a 1) (a 2) (a 3) m else
  if iand (a 0) 63 = 23 then f_X10_born n N (a 1) (a 2) (a 3) m else
  if iand (a 0) 63 = 24 then f_X10_place n N (a 1) (a 2) m else
  if iand (a 0) 63 = 25 then f_X10_feed n (jor (jshl (i2j (a 1)) 32) (jand (i2j (a 2)) 4294967295)) (a 3) m else
  if iand (a 0) 63 = 26 then f_X10_game n N (a 1) m else
  if iand (a 0) 63 = 27 then f_X10_sheet n (a 1) (a 2) (a 3) m else
  if iand (a 0) 63 = 28 then f_X10_put n (a 1) (a 2) (a 3) m else
  if iand (a 0) 63 = 29 then f_X10_at n (a 1) (a 2) m else
  if iand (a 0) 63 = 30 then f_X10_copy n (a 1) (a 2) (a 3) (a 4) (a 5) m else
  if iand (a 0) 63 = 31 then f_X10_image n  m else
  if iand (a 0) 63 = 32 then f_X10_restore n  m else
  if iand (a 0) 63 = 33 then f_X10_count n (a 1) m else
  if iand (a 0) 63 = 34 then f_X10_told n (a 1) m else
  some (0, m)
def stepR (n : Nat) (a : Nat → Int) (m : Mem) : Option Rz :=
  if iand (a 0) 63 = 0 then f_X11_slot n (a 1) (a 2) m else
  if iand (a 0) 63 = 1 then f_X11_integer n (a 1) m else
  if iand (a 0) 63 = 2 then f_X11_word n (a 1) (a 2) m else
  if iand (a 0) 63 = 3 then f_X11_whole n (a 1) (a 2) m else
  if iand (a 0) 63 = 4 then f_X11_heap n (a 1) (a 2) m else
  if iand (a 0) 63 = 5 then f_X11_ups n (a 1) (a 2) (a 3) m else
  if iand (a 0) 63 = 6 then f_X11_flower n (a 1) (a 2) (a 3) (a 4) m else
  if iand (a 0) 63 = 7 then f_X11_made n (a 1) (a 2) (a 3) m else
  if iand (a 0) 63 = 8 then f_X11_plus n (a 1) (a 2) (a 3) m else
  if iand (a 0) 63 = 9 then f_X11_minus n (a 1) (a 2) m else
  if iand (a 0) 63 = 10 then f_X11_option n (a 1) (a 2) (a 3) (a 4) m else
  if iand (a 0) 63 = 11 then f_X11_move n (a 1) (a 2) m else
  if iand (a 0) 63 = 12 then f_X11_undo n  m else
  if iand (a 0) 63 = 13 then f_X11_order n (a 1) (a 2) m else
  if iand (a 0) 63 = 14 then f_X11_outcome n (a 1) (a 2) m else
  if iand (a 0) 63 = 15 then f_X11_far n (a 1) m else
  if iand (a 0) 63 = 16 then f_X11_weight n (a 1) (a 2) m else
  if iand (a 0) 63 = 17 then f_X11_atomic n (a 1) m else
  if iand (a 0) 63 = 18 then f_X11_ahead n (a 1) m else
  if iand (a 0) 63 = 19 then f_X11_garden n (a 1) m else
  if iand (a 0) 63 = 20 then f_X11_reply n (a 1) (a 2) (a 3) (a 4) m else
  if iand (a 0) 63 = 21 then f_X11_fight n (a 1) (a 2) (a 3) (a 4) m else
  if iand (a 0) 63 = 22 then f_X11_plays n (a 1) (a 2) (a 3) m else
  if iand (a 0) 63 = 23 then f_X11_born n (a 1) (a 2) (a 3) m else
  if iand (a 0) 63 = 24 then f_X11_place n (a 1) (a 2) m else
  if iand (a 0) 63 = 25 then f_X11_feed n (jor (jshl (i2j (a 1)) 32) (jand (i2j (a 2)) 4294967295)) (a 3) m else
  if iand (a 0) 63 = 26 then f_X11_game n (a 1) m else
  if iand (a 0) 63 = 27 then f_X11_sheet n (a 1) (a 2) (a 3) m else
  if iand (a 0) 63 = 28 then f_X11_put n (a 1) (a 2) (a 3) m else
  if iand (a 0) 63 = 29 then f_X11_at n (a 1) (a 2) m else
  if iand (a 0) 63 = 30 then f_X11_copy n (a 1) (a 2) (a 3) (a 4) (a 5) m else
  if iand (a 0) 63 = 31 then f_X11_image n  m else
  if iand (a 0) 63 = 32 then f_X11_restore n  m else
  if iand (a 0) 63 = 33 then f_X11_count n (a 1) m else
  if iand (a 0) 63 = 34 then f_X11_told n (a 1) m else
  some (0, m)
/-- how many cells and places a call may make -/
def costC (N : Nat) : List (Nat × Nat) := [(0, 0), (0, 0), (0, 0), (4, 125), (4, 125), (64, 2000), (4, 125), (4, 125), (4, 125), (4, 125), (4, 125), (0, 0), (0, 0), (0, 0), (0, 0), (0, 0), (4, 125), (0, 0), (0, 0), (0, 0), (0, 0), (0, 0), (0, 0), (4 * N, 125 * N), (4 * N, 125 * N), (0, 0), (4 * N, 125 * N), (0, 0), (0, 0), (0, 0), (0, 0), (0, 0), (0, 0), (0, 0), (0, 0)]
def costOf (N : Nat) (q : Int) : Nat × Nat := (costC N).getD q.toNat (0, 0)
/-- the law's runs: from the i-th number on, with k cells and s places made so far -/
def lawRun (n : Nat) (xs : Nat → Int32) (Ls : Nat) : Nat → Nat → Nat → Nat → Mem → Mem → Prop
  | 0, _, _, _, _, _ => False
  | f + 1, i, k, s, mc, mr => if i + 6 ≤ Ls then ∃ N r1 r2, stepC n N (fun j => (xs (i + j)).toInt) mc = some r1 ∧ stepR n (fun j => (xs (i + j)).toInt) mr = some r2 ∧ r1.1 = r2.1 ∧ k + (costOf N (iand (xs (i + 0)).toInt 63)).1 ≤ 600000 ∧ s + (costOf N (iand (xs (i + 0)).toInt 63)).2 ≤ 7302250 ∧ lawRun n xs Ls f (i + 6) (k + (costOf N (iand (xs (i + 0)).toInt 63)).1) (s + (costOf N (iand (xs (i + 0)).toInt 63)).2) r1.2 r2.2 else k ≤ 600000 ∧ s ≤ 7302250
section SL
variable {l : Launch} {D : va_G} {base : Nat} {sc : g_S} {own : String} {y : MethodName} {cc : ByteArray} {nL : Nat} {ret : Option FieldType} {d mc ms : Nat} {ad0 : Nat → Nat} {hp0 hp : g_H} {Post : Option Value → g_H → Prop} {k n : Nat} {pc : Nat} {L : List (Nat × Value)} {st : List Value}
theorem cx_sld {x : Int} (j : Nat) (hx : x = (j : Int)) (hj : j < sc.2.1) (hL : sc.2.1 ≤ 3072) (hd : decode cc pc = .ok (.iaload, 1)) (kk : AW l D base sc own y cc nL ret d mc ms ad0 hp0 Post k n hp (pc + 1) L (iv (sc.2.2 j).toInt :: st)) : AW l D base sc own y cc nL ret d mc ms ad0 hp0 Post k n hp pc L (iv x :: .ref sc.1 :: st) := by
  subst hx
  have hr : inR (j : Int) := ⟨by omega, by omega⟩
  refine aw_sld (oI_in hr (by omega) (by omega)) hd ?_
  rw [oI_cl hr, Int.toNat_natCast]
  rw [show (iv (sc.2.2 j).toInt : Value) = .int (sc.2.2 j) from congrArg Value.int (Int32.ofInt_toInt _)] at kk
  exact kk
theorem cx_slen (hL : sc.2.1 ≤ 3072) (hd : decode cc pc = .ok (.arraylength, 1)) (kk : AW l D base sc own y cc nL ret d mc ms ad0 hp0 Post k n hp (pc + 1) L (iv (sc.2.1 : Int) :: st)) : AW l D base sc own y cc nL ret d mc ms ad0 hp0 Post k n hp pc L (.ref sc.1 :: st) := aw_slen _ (by exact (Int32.ofInt_eq_ofNat ..).symm) hd kk
theorem w32_ij {i : Nat} (c : Int) (j : Nat) (h : (i : Int) + c = (j : Int)) (h1 : j < 1000000) : w32 ((i : Int) + c) = (j : Int) := by
  rw [h]
  exact w32_id (by omega) (by omega)
end SL
def PostL : Option Value → g_H → Prop := fun v _ => v = some (.int 1)
set_option maxRecDepth 100000 in
set_option maxHeartbeats 4000000 in
theorem law_0 {l : Launch} {D : va_G} {base Ls : Nat} {xs : Nat → Int32} {y : MethodName} {ad : Nat → Nat} {hp0 : g_H} {k s i : Nat} {mc mr : Mem} (hL : Ls ≤ 3072) (hi : i + 6 ≤ Ls) (n N : Nat) (r1 r2 : Rz) (H1 : f_X10_slot n (xs (i + 1)).toInt (xs (i + 2)).toInt mc = some r1) (H2 : f_X11_slot n (xs (i + 1)).toInt (xs (i + 2)).toInt mr = some r2) (he : r1.1 = r2.1) (hk : k + 0 ≤ 600000) (hs : s + 0 ≤ 7302250) (kk : AW l D base (0, Ls, xs) RL y cL_law 4 (some .boolean) 840 600000 7302250 ad hp0 PostL (k + 0) (s + 0) (E2 r1.2 r2.2) 1413 [(3, iv (i : Int)), (2, .ref 100), (1, .ref 1), (0, .ref 0)] []) : AW l D base (0, Ls, xs) RL y cL_law 4 (some .boolean) 840 600000 7302250 ad hp0 PostL k s (E2 mc mr) 188 [(3, iv (i : Int)), (2, .ref 100), (1, .ref 1), (0, .ref 0)] [] := by
  refine aw_aload_n (pc := 188) dL_law_188 rfl ?_
  refine aw_aload_n (pc := 189) dL_law_189 rfl ?_
  refine aw_iload_n (pc := 190) dL_law_190 rfl ?_
  refine cx_iconst (pc := 191) dL_law_191 ?_
  refine cx_iadd (pc := 192) dL_law_192 ?_
  refine cx_sld (sc := (0, Ls, xs)) (pc := 193) (i + 1) (w32_ij 1 (i + 1) (by omega) (by omega)) (by show i + 1 < Ls; omega) hL dL_law_193 ?_
  refine aw_aload_n (pc := 194) dL_law_194 rfl ?_
  refine aw_iload_n (pc := 195) dL_law_195 rfl ?_
  refine cx_iconst (pc := 196) dL_law_196 ?_
  refine cx_iadd (pc := 197) dL_law_197 ?_
  refine cx_sld (sc := (0, Ls, xs)) (pc := 198) (i + 2) (w32_ij 2 (i + 2) (by omega) (by omega)) (by show i + 2 < Ls; omega) hL dL_law_198 ?_
  refine aw_callV (pc := 199) (ci := 10) (dC := 4) (mcC := 0) (msC := 0) [iv (xs (i + 1)).toInt, iv (xs (i + 2)).toInt] (s_X10_slot l (0, Ls, xs) (fun mc => E2 mc mr) _ (LE_E2c mr) RCL_EC n (xs (i + 1)).toInt (xs (i + 2)).toInt (inR_32 _) (inR_32 _) mc r1 H1) ca_L_13 (((LE_E2c mr).1 mc 1 (by decide)).trans (cel_obj rfl)) ⟨_, rfl, rfl⟩ rfl rfl (Nat.le_of_ble_eq_true rfl) (Nat.le_of_ble_eq_true rfl) hk hs dL_law_199 (fun v9 hp9 hq9 _ => ?_)
  obtain ⟨rfl, hr1, rfl⟩ := hq9
  refine AW.eqh (hp' := E2 r1.2 mr) rfl ?_
  refine aw_aload_n (pc := 202) dL_law_202 rfl ?_
  refine aw_aload_n (pc := 203) dL_law_203 rfl ?_
  refine aw_iload_n (pc := 204) dL_law_204 rfl ?_
  refine cx_iconst (pc := 205) dL_law_205 ?_
  refine cx_iadd (pc := 206) dL_law_206 ?_
  refine cx_sld (sc := (0, Ls, xs)) (pc := 207) (i + 1) (w32_ij 1 (i + 1) (by omega) (by omega)) (by show i + 1 < Ls; omega) hL dL_law_207 ?_
  refine aw_aload_n (pc := 208) dL_law_208 rfl ?_
  refine aw_iload_n (pc := 209) dL_law_209 rfl ?_
  refine cx_iconst (pc := 210) dL_law_210 ?_
  refine cx_iadd (pc := 211) dL_law_211 ?_
  refine cx_sld (sc := (0, Ls, xs)) (pc := 212) (i + 2) (w32_ij 2 (i + 2) (by omega) (by omega)) (by show i + 2 < Ls; omega) hL dL_law_212 ?_
  refine aw_callV (pc := 213) (ci := 11) (dC := 203) (mcC := 0) (msC := 0) [iv (xs (i + 1)).toInt, iv (xs (i + 2)).toInt] (s_X11_slot l (0, Ls, xs) (fun mr => E2 r1.2 mr) _ (LE_E2r r1.2) RRF_E2 n (xs (i + 1)).toInt (xs (i + 2)).toInt (inR_32 _) (inR_32 _) mr r2 H2) ca_L_17 (((LE_E2r r1.2).1 mr 100 (by decide)).trans (cel_obj rfl)) ⟨_, rfl, rfl⟩ rfl rfl (Nat.le_of_ble_eq_true rfl) (Nat.le_of_ble_eq_true rfl) hk hs dL_law_213 (fun v9 hp9 hq9 _ => ?_)
  obtain ⟨rfl, hr2, rfl⟩ := hq9
  refine AW.eqh (hp' := E2 r1.2 r2.2) rfl ?_
  refine aw_icmp_eq (pc := 216) 1413 dL_law_216 rfl (fun _ => ?_) (fun h => absurd (by rw [he]) h)
  exact kk
set_option maxRecDepth 100000 in
set_option maxHeartbeats 4000000 in
theorem law_1 {l : Launch} {D : va_G} {base Ls : Nat} {xs : Nat → Int32} {y : MethodName} {ad : Nat → Nat} {hp0 : g_H} {k s i : Nat} {mc mr : Mem} (hL : Ls ≤ 3072) (hi : i + 6 ≤ Ls) (n N : Nat) (r1 r2 : Rz) (H1 : f_X10_integer n (xs (i + 1)).toInt mc = some r1) (H2 : f_X11_integer n (xs (i + 1)).toInt mr = some r2) (he : r1.1 = r2.1) (hk : k + 0 ≤ 600000) (hs : s + 0 ≤ 7302250) (kk : AW l D base (0, Ls, xs) RL y cL_law 4 (some .boolean) 840 600000 7302250 ad hp0 PostL (k + 0) (s + 0) (E2 r1.2 r2.2) 1413 [(3, iv (i : Int)), (2, .ref 100), (1, .ref 1), (0, .ref 0)] []) : AW l D base (0, Ls, xs) RL y cL_law 4 (some .boolean) 840 600000 7302250 ad hp0 PostL k s (E2 mc mr) 221 [(3, iv (i : Int)), (2, .ref 100), (1, .ref 1), (0, .ref 0)] [] := by
  refine aw_aload_n (pc := 221) dL_law_221 rfl ?_
  refine aw_aload_n (pc := 222) dL_law_222 rfl ?_
  refine aw_iload_n (pc := 223) dL_law_223 rfl ?_
  refine cx_iconst (pc := 224) dL_law_224 ?_
  refine cx_iadd (pc := 225) dL_law_225 ?_
  refine cx_sld (sc := (0, Ls, xs)) (pc := 226) (i + 1) (w32_ij 1 (i + 1) (by omega) (by omega)) (by show i + 1 < Ls; omega) hL dL_law_226 ?_
  refine aw_callV (pc := 227) (ci := 10) (dC := 2) (mcC := 0) (msC := 0) [iv (xs (i + 1)).toInt] (s_X10_integer l (0, Ls, xs) (fun mc => E2 mc mr) _ (LE_E2c mr) RCL_EC n (xs (i + 1)).toInt (inR_32 _) mc r1 H1) ca_L_18 (((LE_E2c mr).1 mc 1 (by decide)).trans (cel_obj rfl)) ⟨_, rfl, rfl⟩ rfl rfl (Nat.le_of_ble_eq_true rfl) (Nat.le_of_ble_eq_true rfl) hk hs dL_law_227 (fun v9 hp9 hq9 _ => ?_)
  obtain ⟨rfl, hr1, rfl⟩ := hq9
  refine AW.eqh (hp' := E2 r1.2 mr) rfl ?_
  refine aw_aload_n (pc := 230) dL_law_230 rfl ?_
  refine aw_aload_n (pc := 231) dL_law_231 rfl ?_
  refine aw_iload_n (pc := 232) dL_law_232 rfl ?_
  refine cx_iconst (pc := 233) dL_law_233 ?_
  refine cx_iadd (pc := 234) dL_law_234 ?_
  refine cx_sld (sc := (0, Ls, xs)) (pc := 235) (i + 1) (w32_ij 1 (i + 1) (by omega) (by omega)) (by show i + 1 < Ls; omega) hL dL_law_235 ?_
  refine aw_callV (pc := 236) (ci := 11) (dC := 2) (mcC := 0) (msC := 0) [iv (xs (i + 1)).toInt] (s_X11_integer l (0, Ls, xs) (fun mr => E2 r1.2 mr) _ (LE_E2r r1.2) RRF_E2 n (xs (i + 1)).toInt (inR_32 _) mr r2 H2) ca_L_22 (((LE_E2r r1.2).1 mr 100 (by decide)).trans (cel_obj rfl)) ⟨_, rfl, rfl⟩ rfl rfl (Nat.le_of_ble_eq_true rfl) (Nat.le_of_ble_eq_true rfl) hk hs dL_law_236 (fun v9 hp9 hq9 _ => ?_)
  obtain ⟨rfl, hr2, rfl⟩ := hq9
  refine AW.eqh (hp' := E2 r1.2 r2.2) rfl ?_
  refine aw_icmp_eq (pc := 239) 1413 dL_law_239 rfl (fun _ => ?_) (fun h => absurd (by rw [he]) h)
  exact kk
set_option maxRecDepth 100000 in
set_option maxHeartbeats 4000000 in
theorem law_2 {l : Launch} {D : va_G} {base Ls : Nat} {xs : Nat → Int32} {y : MethodName} {ad : Nat → Nat} {hp0 : g_H} {k s i : Nat} {mc mr : Mem} (hL : Ls ≤ 3072) (hi : i + 6 ≤ Ls) (n N : Nat) (r1 r2 : Rz) (H1 : f_X10_word n (xs (i + 1)).toInt (xs (i + 2)).toInt mc = some r1) (H2 : f_X11_word n (xs (i + 1)).toInt (xs (i + 2)).toInt mr = some r2) (he : r1.1 = r2.1) (hk : k + 0 ≤ 600000) (hs : s + 0 ≤ 7302250) (kk : AW l D base (0, Ls, xs) RL y cL_law 4 (some .boolean) 840 600000 7302250 ad hp0 PostL (k + 0) (s + 0) (E2 r1.2 r2.2) 1413 [(3, iv (i : Int)), (2, .ref 100), (1, .ref 1), (0, .ref 0)] []) : AW l D base (0, Ls, xs) RL y cL_law 4 (some .boolean) 840 600000 7302250 ad hp0 PostL k s (E2 mc mr) 244 [(3, iv (i : Int)), (2, .ref 100), (1, .ref 1), (0, .ref 0)] [] := by
  refine aw_aload_n (pc := 244) dL_law_244 rfl ?_
  refine aw_aload_n (pc := 245) dL_law_245 rfl ?_
  refine aw_iload_n (pc := 246) dL_law_246 rfl ?_
  refine cx_iconst (pc := 247) dL_law_247 ?_
  refine cx_iadd (pc := 248) dL_law_248 ?_
  refine cx_sld (sc := (0, Ls, xs)) (pc := 249) (i + 1) (w32_ij 1 (i + 1) (by omega) (by omega)) (by show i + 1 < Ls; omega) hL dL_law_249 ?_
  refine aw_aload_n (pc := 250) dL_law_250 rfl ?_
  refine aw_iload_n (pc := 251) dL_law_251 rfl ?_
  refine cx_iconst (pc := 252) dL_law_252 ?_
  refine cx_iadd (pc := 253) dL_law_253 ?_
  refine cx_sld (sc := (0, Ls, xs)) (pc := 254) (i + 2) (w32_ij 2 (i + 2) (by omega) (by omega)) (by show i + 2 < Ls; omega) hL dL_law_254 ?_
  refine aw_callV (pc := 255) (ci := 10) (dC := 2) (mcC := 0) (msC := 0) [iv (xs (i + 1)).toInt, iv (xs (i + 2)).toInt] (s_X10_word l (0, Ls, xs) (fun mc => E2 mc mr) _ (LE_E2c mr) RCL_EC n (xs (i + 1)).toInt (xs (i + 2)).toInt (inR_32 _) (inR_32 _) mc r1 H1) ca_L_23 (((LE_E2c mr).1 mc 1 (by decide)).trans (cel_obj rfl)) ⟨_, rfl, rfl⟩ rfl rfl (Nat.le_of_ble_eq_true rfl) (Nat.le_of_ble_eq_true rfl) hk hs dL_law_255 (fun v9 hp9 hq9 _ => ?_)
  obtain ⟨rfl, hr1, rfl⟩ := hq9
  refine AW.eqh (hp' := E2 r1.2 mr) rfl ?_
  refine aw_aload_n (pc := 258) dL_law_258 rfl ?_
  refine aw_aload_n (pc := 259) dL_law_259 rfl ?_
  refine aw_iload_n (pc := 260) dL_law_260 rfl ?_
  refine cx_iconst (pc := 261) dL_law_261 ?_
  refine cx_iadd (pc := 262) dL_law_262 ?_
  refine cx_sld (sc := (0, Ls, xs)) (pc := 263) (i + 1) (w32_ij 1 (i + 1) (by omega) (by omega)) (by show i + 1 < Ls; omega) hL dL_law_263 ?_
  refine aw_aload_n (pc := 264) dL_law_264 rfl ?_
  refine aw_iload_n (pc := 265) dL_law_265 rfl ?_
  refine cx_iconst (pc := 266) dL_law_266 ?_
  refine cx_iadd (pc := 267) dL_law_267 ?_
  refine cx_sld (sc := (0, Ls, xs)) (pc := 268) (i + 2) (w32_ij 2 (i + 2) (by omega) (by omega)) (by show i + 2 < Ls; omega) hL dL_law_268 ?_
  refine aw_callV (pc := 269) (ci := 11) (dC := 127) (mcC := 0) (msC := 0) [iv (xs (i + 1)).toInt, iv (xs (i + 2)).toInt] (s_X11_word l (0, Ls, xs) (fun mr => E2 r1.2 mr) _ (LE_E2r r1.2) RRF_E2 n (xs (i + 1)).toInt (xs (i + 2)).toInt (inR_32 _) (inR_32 _) mr r2 H2) ca_L_26 (((LE_E2r r1.2).1 mr 100 (by decide)).trans (cel_obj rfl)) ⟨_, rfl, rfl⟩ rfl rfl (Nat.le_of_ble_eq_true rfl) (Nat.le_of_ble_eq_true rfl) hk hs dL_law_269 (fun v9 hp9 hq9 _ => ?_)
  obtain ⟨rfl, hr2, rfl⟩ := hq9
  refine AW.eqh (hp' := E2 r1.2 r2.2) rfl ?_
  refine aw_icmp_eq (pc := 272) 1413 dL_law_272 rfl (fun _ => ?_) (fun h => absurd (by rw [he]) h)
  exact kk
set_option maxRecDepth 100000 in
set_option maxHeartbeats 4000000 in
theorem law_3 {l : Launch} {D : va_G} {base Ls : Nat} {xs : Nat → Int32} {y : MethodName} {ad : Nat → Nat} {hp0 : g_H} {k s i : Nat} {mc mr : Mem} (hL : Ls ≤ 3072) (hi : i + 6 ≤ Ls) (n N : Nat) (r1 r2 : Rz) (H1 : f_X10_whole n (xs (i + 1)).toInt (xs (i + 2)).toInt mc = some r1) (H2 : f_X11_whole n (xs (i + 1)).toInt (xs (i + 2)).toInt mr = some r2) (he : r1.1 = r2.1) (hk : k + 4 ≤ 600000) (hs : s + 125 ≤ 7302250) (kk : AW l D base (0, Ls, xs) RL y cL_law 4 (some .boolean) 840 600000 7302250 ad hp0 PostL (k + 4) (s + 125) (E2 r1.2 r2.2) 1413 [(3, iv (i : Int)), (2, .ref 100), (1, .ref 1), (0, .ref 0)] []) : AW l D base (0, Ls, xs) RL y cL_law 4 (some .boolean) 840 600000 7302250 ad hp0 PostL k s (E2 mc mr) 277 [(3, iv (i : Int)), (2, .ref 100), (1, .ref 1), (0, .ref 0)] [] := by
  refine aw_aload_n (pc := 277) dL_law_277 rfl ?_
  refine aw_aload_n (pc := 278) dL_law_278 rfl ?_
  refine aw_iload_n (pc := 279) dL_law_279 rfl ?_
  refine cx_iconst (pc := 280) dL_law_280 ?_
  refine cx_iadd (pc := 281) dL_law_281 ?_
  refine cx_sld (sc := (0, Ls, xs)) (pc := 282) (i + 1) (w32_ij 1 (i + 1) (by omega) (by omega)) (by show i + 1 < Ls; omega) hL dL_law_282 ?_
  refine aw_aload_n (pc := 283) dL_law_283 rfl ?_
  refine aw_iload_n (pc := 284) dL_law_284 rfl ?_
  refine cx_iconst (pc := 285) dL_law_285 ?_
  refine cx_iadd (pc := 286) dL_law_286 ?_
  refine cx_sld (sc := (0, Ls, xs)) (pc := 287) (i + 2) (w32_ij 2 (i + 2) (by omega) (by omega)) (by show i + 2 < Ls; omega) hL dL_law_287 ?_
  refine aw_callV (pc := 288) (ci := 10) (dC := 6) (mcC := 4) (msC := 125) [iv (xs (i + 1)).toInt, iv (xs (i + 2)).toInt] (s_X10_whole l (0, Ls, xs) (fun mc => E2 mc mr) _ (LE_E2c mr) RCL_EC rfl n (xs (i + 1)).toInt (xs (i + 2)).toInt (inR_32 _) (inR_32 _) mc r1 H1) ca_L_27 (((LE_E2c mr).1 mc 1 (by decide)).trans (cel_obj rfl)) ⟨_, rfl, rfl⟩ rfl rfl (Nat.le_of_ble_eq_true rfl) (Nat.le_of_ble_eq_true rfl) hk hs dL_law_288 (fun v9 hp9 hq9 _ => ?_)
  obtain ⟨rfl, hr1, rfl⟩ := hq9
  refine AW.eqh (hp' := E2 r1.2 mr) rfl ?_
  refine aw_aload_n (pc := 291) dL_law_291 rfl ?_
  refine aw_aload_n (pc := 292) dL_law_292 rfl ?_
  refine aw_iload_n (pc := 293) dL_law_293 rfl ?_
  refine cx_iconst (pc := 294) dL_law_294 ?_
  refine cx_iadd (pc := 295) dL_law_295 ?_
  refine cx_sld (sc := (0, Ls, xs)) (pc := 296) (i + 1) (w32_ij 1 (i + 1) (by omega) (by omega)) (by show i + 1 < Ls; omega) hL dL_law_296 ?_
  refine aw_aload_n (pc := 297) dL_law_297 rfl ?_
  refine aw_iload_n (pc := 298) dL_law_298 rfl ?_
  refine cx_iconst (pc := 299) dL_law_299 ?_
  refine cx_iadd (pc := 300) dL_law_300 ?_
  refine cx_sld (sc := (0, Ls, xs)) (pc := 301) (i + 2) (w32_ij 2 (i + 2) (by omega) (by omega)) (by show i + 2 < Ls; omega) hL dL_law_301 ?_
  refine aw_callV (pc := 302) (ci := 11) (dC := 308) (mcC := 0) (msC := 0) [iv (xs (i + 1)).toInt, iv (xs (i + 2)).toInt] (s_X11_whole l (0, Ls, xs) (fun mr => E2 r1.2 mr) _ (LE_E2r r1.2) RRF_E2 n (xs (i + 1)).toInt (xs (i + 2)).toInt (inR_32 _) (inR_32 _) mr r2 H2) ca_L_30 (((LE_E2r r1.2).1 mr 100 (by decide)).trans (cel_obj rfl)) ⟨_, rfl, rfl⟩ rfl rfl (Nat.le_of_ble_eq_true rfl) (Nat.le_of_ble_eq_true rfl) hk hs dL_law_302 (fun v9 hp9 hq9 _ => ?_)
  obtain ⟨rfl, hr2, rfl⟩ := hq9
  refine AW.eqh (hp' := E2 r1.2 r2.2) rfl ?_
  refine aw_icmp_eq (pc := 305) 1413 dL_law_305 rfl (fun _ => ?_) (fun h => absurd (by rw [he]) h)
  exact kk
set_option maxRecDepth 100000 in
set_option maxHeartbeats 4000000 in
theorem law_4 {l : Launch} {D : va_G} {base Ls : Nat} {xs : Nat → Int32} {y : MethodName} {ad : Nat → Nat} {hp0 : g_H} {k s i : Nat} {mc mr : Mem} (hL : Ls ≤ 3072) (hi : i + 6 ≤ Ls) (n N : Nat) (r1 r2 : Rz) (H1 : f_X10_heap n (xs (i + 1)).toInt (xs (i + 2)).toInt mc = some r1) (H2 : f_X11_heap n (xs (i + 1)).toInt (xs (i + 2)).toInt mr = some r2) (he : r1.1 = r2.1) (hk : k + 4 ≤ 600000) (hs : s + 125 ≤ 7302250) (kk : AW l D base (0, Ls, xs) RL y cL_law 4 (some .boolean) 840 600000 7302250 ad hp0 PostL (k + 4) (s + 125) (E2 r1.2 r2.2) 1413 [(3, iv (i : Int)), (2, .ref 100), (1, .ref 1), (0, .ref 0)] []) : AW l D base (0, Ls, xs) RL y cL_law 4 (some .boolean) 840 600000 7302250 ad hp0 PostL k s (E2 mc mr) 310 [(3, iv (i : Int)), (2, .ref 100), (1, .ref 1), (0, .ref 0)] [] := by
  refine aw_aload_n (pc := 310) dL_law_310 rfl ?_
  refine aw_aload_n (pc := 311) dL_law_311 rfl ?_
  refine aw_iload_n (pc := 312) dL_law_312 rfl ?_
  refine cx_iconst (pc := 313) dL_law_313 ?_
  refine cx_iadd (pc := 314) dL_law_314 ?_
  refine cx_sld (sc := (0, Ls, xs)) (pc := 315) (i + 1) (w32_ij 1 (i + 1) (by omega) (by omega)) (by show i + 1 < Ls; omega) hL dL_law_315 ?_
  refine aw_aload_n (pc := 316) dL_law_316 rfl ?_
  refine aw_iload_n (pc := 317) dL_law_317 rfl ?_
  refine cx_iconst (pc := 318) dL_law_318 ?_
  refine cx_iadd (pc := 319) dL_law_319 ?_
  refine cx_sld (sc := (0, Ls, xs)) (pc := 320) (i + 2) (w32_ij 2 (i + 2) (by omega) (by omega)) (by show i + 2 < Ls; omega) hL dL_law_320 ?_
  refine aw_callV (pc := 321) (ci := 10) (dC := 6) (mcC := 4) (msC := 125) [iv (xs (i + 1)).toInt, iv (xs (i + 2)).toInt] (s_X10_heap l (0, Ls, xs) (fun mc => E2 mc mr) _ (LE_E2c mr) RCL_EC rfl n (xs (i + 1)).toInt (xs (i + 2)).toInt (inR_32 _) (inR_32 _) mc r1 H1) ca_L_31 (((LE_E2c mr).1 mc 1 (by decide)).trans (cel_obj rfl)) ⟨_, rfl, rfl⟩ rfl rfl (Nat.le_of_ble_eq_true rfl) (Nat.le_of_ble_eq_true rfl) hk hs dL_law_321 (fun v9 hp9 hq9 _ => ?_)
  obtain ⟨rfl, hr1, rfl⟩ := hq9
  refine AW.eqh (hp' := E2 r1.2 mr) rfl ?_
  refine aw_aload_n (pc := 324) dL_law_324 rfl ?_
  refine aw_aload_n (pc := 325) dL_law_325 rfl ?_
  refine aw_iload_n (pc := 326) dL_law_326 rfl ?_
  refine cx_iconst (pc := 327) dL_law_327 ?_
  refine cx_iadd (pc := 328) dL_law_328 ?_
  refine cx_sld (sc := (0, Ls, xs)) (pc := 329) (i + 1) (w32_ij 1 (i + 1) (by omega) (by omega)) (by show i + 1 < Ls; omega) hL dL_law_329 ?_
  refine aw_aload_n (pc := 330) dL_law_330 rfl ?_
  refine aw_iload_n (pc := 331) dL_law_331 rfl ?_
  refine cx_iconst (pc := 332) dL_law_332 ?_
  refine cx_iadd (pc := 333) dL_law_333 ?_
  refine cx_sld (sc := (0, Ls, xs)) (pc := 334) (i + 2) (w32_ij 2 (i + 2) (by omega) (by omega)) (by show i + 2 < Ls; omega) hL dL_law_334 ?_
  refine aw_callV (pc := 335) (ci := 11) (dC := 308) (mcC := 0) (msC := 0) [iv (xs (i + 1)).toInt, iv (xs (i + 2)).toInt] (s_X11_heap l (0, Ls, xs) (fun mr => E2 r1.2 mr) _ (LE_E2r r1.2) RRF_E2 n (xs (i + 1)).toInt (xs (i + 2)).toInt (inR_32 _) (inR_32 _) mr r2 H2) ca_L_34 (((LE_E2r r1.2).1 mr 100 (by decide)).trans (cel_obj rfl)) ⟨_, rfl, rfl⟩ rfl rfl (Nat.le_of_ble_eq_true rfl) (Nat.le_of_ble_eq_true rfl) hk hs dL_law_335 (fun v9 hp9 hq9 _ => ?_)
  obtain ⟨rfl, hr2, rfl⟩ := hq9
  refine AW.eqh (hp' := E2 r1.2 r2.2) rfl ?_
  refine aw_icmp_eq (pc := 338) 1413 dL_law_338 rfl (fun _ => ?_) (fun h => absurd (by rw [he]) h)
  exact kk
set_option maxRecDepth 100000 in
set_option maxHeartbeats 4000000 in
theorem law_5 {l : Launch} {D : va_G} {base Ls : Nat} {xs : Nat → Int32} {y : MethodName} {ad : Nat → Nat} {hp0 : g_H} {k s i : Nat} {mc mr : Mem} (hL : Ls ≤ 3072) (hi : i + 6 ≤ Ls) (n N : Nat) (r1 r2 : Rz) (H1 : f_X10_ups n (xs (i + 1)).toInt (xs (i + 2)).toInt (xs (i + 3)).toInt mc = some r1) (H2 : f_X11_ups n (xs (i + 1)).toInt (xs (i + 2)).toInt (xs (i + 3)).toInt mr = some r2) (he : r1.1 = r2.1) (hk : k + 64 ≤ 600000) (hs : s + 2000 ≤ 7302250) (kk : AW l D base (0, Ls, xs) RL y cL_law 4 (some .boolean) 840 600000 7302250 ad hp0 PostL (k + 64) (s + 2000) (E2 r1.2 r2.2) 1413 [(3, iv (i : Int)), (2, .ref 100), (1, .ref 1), (0, .ref 0)] []) : AW l D base (0, Ls, xs) RL y cL_law 4 (some .boolean) 840 600000 7302250 ad hp0 PostL k s (E2 mc mr) 343 [(3, iv (i : Int)), (2, .ref 100), (1, .ref 1), (0, .ref 0)] [] := by
  refine aw_aload_n (pc := 343) dL_law_343 rfl ?_
  refine aw_aload_n (pc := 344) dL_law_344 rfl ?_
  refine aw_iload_n (pc := 345) dL_law_345 rfl ?_
  refine cx_iconst (pc := 346) dL_law_346 ?_
  refine cx_iadd (pc := 347) dL_law_347 ?_
  refine cx_sld (sc := (0, Ls, xs)) (pc := 348) (i + 1) (w32_ij 1 (i + 1) (by omega) (by omega)) (by show i + 1 < Ls; omega) hL dL_law_348 ?_
  refine aw_aload_n (pc := 349) dL_law_349 rfl ?_
  refine aw_iload_n (pc := 350) dL_law_350 rfl ?_
  refine cx_iconst (pc := 351) dL_law_351 ?_
  refine cx_iadd (pc := 352) dL_law_352 ?_
  refine cx_sld (sc := (0, Ls, xs)) (pc := 353) (i + 2) (w32_ij 2 (i + 2) (by omega) (by omega)) (by show i + 2 < Ls; omega) hL dL_law_353 ?_
  refine aw_aload_n (pc := 354) dL_law_354 rfl ?_
  refine aw_iload_n (pc := 355) dL_law_355 rfl ?_
  refine cx_iconst (pc := 356) dL_law_356 ?_
  refine cx_iadd (pc := 357) dL_law_357 ?_
  refine cx_sld (sc := (0, Ls, xs)) (pc := 358) (i + 3) (w32_ij 3 (i + 3) (by omega) (by omega)) (by show i + 3 < Ls; omega) hL dL_law_358 ?_
  refine aw_callV (pc := 359) (ci := 10) (dC := 7) (mcC := 64) (msC := 2000) [iv (xs (i + 1)).toInt, iv (xs (i + 2)).toInt, iv (xs (i + 3)).toInt] (s_X10_ups l (0, Ls, xs) (fun mc => E2 mc mr) _ (LE_E2c mr) RCL_EC rfl n (xs (i + 1)).toInt (xs (i + 2)).toInt (xs (i + 3)).toInt (inR_32 _) (inR_32 _) (inR_32 _) mc r1 H1) ca_L_35 (((LE_E2c mr).1 mc 1 (by decide)).trans (cel_obj rfl)) ⟨_, rfl, rfl⟩ rfl rfl (Nat.le_of_ble_eq_true rfl) (Nat.le_of_ble_eq_true rfl) hk hs dL_law_359 (fun v9 hp9 hq9 _ => ?_)
  obtain ⟨rfl, hr1, rfl⟩ := hq9
  refine AW.eqh (hp' := E2 r1.2 mr) rfl ?_
  refine aw_aload_n (pc := 362) dL_law_362 rfl ?_
  refine aw_aload_n (pc := 363) dL_law_363 rfl ?_
  refine aw_iload_n (pc := 364) dL_law_364 rfl ?_
  refine cx_iconst (pc := 365) dL_law_365 ?_
  refine cx_iadd (pc := 366) dL_law_366 ?_
  refine cx_sld (sc := (0, Ls, xs)) (pc := 367) (i + 1) (w32_ij 1 (i + 1) (by omega) (by omega)) (by show i + 1 < Ls; omega) hL dL_law_367 ?_
  refine aw_aload_n (pc := 368) dL_law_368 rfl ?_
  refine aw_iload_n (pc := 369) dL_law_369 rfl ?_
  refine cx_iconst (pc := 370) dL_law_370 ?_
  refine cx_iadd (pc := 371) dL_law_371 ?_
  refine cx_sld (sc := (0, Ls, xs)) (pc := 372) (i + 2) (w32_ij 2 (i + 2) (by omega) (by omega)) (by show i + 2 < Ls; omega) hL dL_law_372 ?_
  refine aw_aload_n (pc := 373) dL_law_373 rfl ?_
  refine aw_iload_n (pc := 374) dL_law_374 rfl ?_
  refine cx_iconst (pc := 375) dL_law_375 ?_
  refine cx_iadd (pc := 376) dL_law_376 ?_
  refine cx_sld (sc := (0, Ls, xs)) (pc := 377) (i + 3) (w32_ij 3 (i + 3) (by omega) (by omega)) (by show i + 3 < Ls; omega) hL dL_law_377 ?_
  refine aw_callV (pc := 378) (ci := 11) (dC := 408) (mcC := 0) (msC := 0) [iv (xs (i + 1)).toInt, iv (xs (i + 2)).toInt, iv (xs (i + 3)).toInt] (s_X11_ups l (0, Ls, xs) (fun mr => E2 r1.2 mr) _ (LE_E2r r1.2) RRF_E2 n (xs (i + 1)).toInt (xs (i + 2)).toInt (xs (i + 3)).toInt (inR_32 _) (inR_32 _) (inR_32 _) mr r2 H2) ca_L_39 (((LE_E2r r1.2).1 mr 100 (by decide)).trans (cel_obj rfl)) ⟨_, rfl, rfl⟩ rfl rfl (Nat.le_of_ble_eq_true rfl) (Nat.le_of_ble_eq_true rfl) hk hs dL_law_378 (fun v9 hp9 hq9 _ => ?_)
  obtain ⟨rfl, hr2, rfl⟩ := hq9
  refine AW.eqh (hp' := E2 r1.2 r2.2) rfl ?_
  refine aw_icmp_eq (pc := 381) 1413 dL_law_381 rfl (fun _ => ?_) (fun h => absurd (by rw [he]) h)
  exact kk
set_option maxRecDepth 100000 in
set_option maxHeartbeats 4000000 in
theorem law_6 {l : Launch} {D : va_G} {base Ls : Nat} {xs : Nat → Int32} {y : MethodName} {ad : Nat → Nat} {hp0 : g_H} {k s i : Nat} {mc mr : Mem} (hL : Ls ≤ 3072) (hi : i + 6 ≤ Ls) (n N : Nat) (r1 r2 : Rz) (H1 : f_X10_flower n (xs (i + 1)).toInt (xs (i + 2)).toInt (xs (i + 3)).toInt (xs (i + 4)).toInt mc = some r1) (H2 : f_X11_flower n (xs (i + 1)).toInt (xs (i + 2)).toInt (xs (i + 3)).toInt (xs (i + 4)).toInt mr = some r2) (he : r1.1 = r2.1) (hk : k + 4 ≤ 600000) (hs : s + 125 ≤ 7302250) (kk : AW l D base (0, Ls, xs) RL y cL_law 4 (some .boolean) 840 600000 7302250 ad hp0 PostL (k + 4) (s + 125) (E2 r1.2 r2.2) 1413 [(3, iv (i : Int)), (2, .ref 100), (1, .ref 1), (0, .ref 0)] []) : AW l D base (0, Ls, xs) RL y cL_law 4 (some .boolean) 840 600000 7302250 ad hp0 PostL k s (E2 mc mr) 386 [(3, iv (i : Int)), (2, .ref 100), (1, .ref 1), (0, .ref 0)] [] := by
  refine aw_aload_n (pc := 386) dL_law_386 rfl ?_
  refine aw_aload_n (pc := 387) dL_law_387 rfl ?_
  refine aw_iload_n (pc := 388) dL_law_388 rfl ?_
  refine cx_iconst (pc := 389) dL_law_389 ?_
  refine cx_iadd (pc := 390) dL_law_390 ?_
  refine cx_sld (sc := (0, Ls, xs)) (pc := 391) (i + 1) (w32_ij 1 (i + 1) (by omega) (by omega)) (by show i + 1 < Ls; omega) hL dL_law_391 ?_
  refine aw_aload_n (pc := 392) dL_law_392 rfl ?_
  refine aw_iload_n (pc := 393) dL_law_393 rfl ?_
  refine cx_iconst (pc := 394) dL_law_394 ?_
  refine cx_iadd (pc := 395) dL_law_395 ?_
  refine cx_sld (sc := (0, Ls, xs)) (pc := 396) (i + 2) (w32_ij 2 (i + 2) (by omega) (by omega)) (by show i + 2 < Ls; omega) hL dL_law_396 ?_
  refine aw_aload_n (pc := 397) dL_law_397 rfl ?_
  refine aw_iload_n (pc := 398) dL_law_398 rfl ?_
  refine cx_iconst (pc := 399) dL_law_399 ?_
  refine cx_iadd (pc := 400) dL_law_400 ?_
  refine cx_sld (sc := (0, Ls, xs)) (pc := 401) (i + 3) (w32_ij 3 (i + 3) (by omega) (by omega)) (by show i + 3 < Ls; omega) hL dL_law_401 ?_
  refine aw_aload_n (pc := 402) dL_law_402 rfl ?_
  refine aw_iload_n (pc := 403) dL_law_403 rfl ?_
  refine cx_iconst (pc := 404) dL_law_404 ?_
  refine cx_iadd (pc := 405) dL_law_405 ?_
  refine cx_sld (sc := (0, Ls, xs)) (pc := 406) (i + 4) (w32_ij 4 (i + 4) (by omega) (by omega)) (by show i + 4 < Ls; omega) hL dL_law_406 ?_
  refine aw_callV (pc := 407) (ci := 10) (dC := 6) (mcC := 4) (msC := 125) [iv (xs (i + 1)).toInt, iv (xs (i + 2)).toInt, iv (xs (i + 3)).toInt, iv (xs (i + 4)).toInt] (s_X10_flower l (0, Ls, xs) (fun mc => E2 mc mr) _ (LE_E2c mr) RCL_EC rfl n (xs (i + 1)).toInt (xs (i + 2)).toInt (xs (i + 3)).toInt (xs (i + 4)).toInt (inR_32 _) (inR_32 _) (inR_32 _) (inR_32 _) mc r1 H1) ca_L_40 (((LE_E2c mr).1 mc 1 (by decide)).trans (cel_obj rfl)) ⟨_, rfl, rfl⟩ rfl rfl (Nat.le_of_ble_eq_true rfl) (Nat.le_of_ble_eq_true rfl) hk hs dL_law_407 (fun v9 hp9 hq9 _ => ?_)
  obtain ⟨rfl, hr1, rfl⟩ := hq9
  refine AW.eqh (hp' := E2 r1.2 mr) rfl ?_
  refine aw_aload_n (pc := 410) dL_law_410 rfl ?_
  refine aw_aload_n (pc := 411) dL_law_411 rfl ?_
  refine aw_iload_n (pc := 412) dL_law_412 rfl ?_
  refine cx_iconst (pc := 413) dL_law_413 ?_
  refine cx_iadd (pc := 414) dL_law_414 ?_
  refine cx_sld (sc := (0, Ls, xs)) (pc := 415) (i + 1) (w32_ij 1 (i + 1) (by omega) (by omega)) (by show i + 1 < Ls; omega) hL dL_law_415 ?_
  refine aw_aload_n (pc := 416) dL_law_416 rfl ?_
  refine aw_iload_n (pc := 417) dL_law_417 rfl ?_
  refine cx_iconst (pc := 418) dL_law_418 ?_
  refine cx_iadd (pc := 419) dL_law_419 ?_
  refine cx_sld (sc := (0, Ls, xs)) (pc := 420) (i + 2) (w32_ij 2 (i + 2) (by omega) (by omega)) (by show i + 2 < Ls; omega) hL dL_law_420 ?_
  refine aw_aload_n (pc := 421) dL_law_421 rfl ?_
  refine aw_iload_n (pc := 422) dL_law_422 rfl ?_
  refine cx_iconst (pc := 423) dL_law_423 ?_
  refine cx_iadd (pc := 424) dL_law_424 ?_
  refine cx_sld (sc := (0, Ls, xs)) (pc := 425) (i + 3) (w32_ij 3 (i + 3) (by omega) (by omega)) (by show i + 3 < Ls; omega) hL dL_law_425 ?_
  refine aw_aload_n (pc := 426) dL_law_426 rfl ?_
  refine aw_iload_n (pc := 427) dL_law_427 rfl ?_
  refine cx_iconst (pc := 428) dL_law_428 ?_
  refine cx_iadd (pc := 429) dL_law_429 ?_
  refine cx_sld (sc := (0, Ls, xs)) (pc := 430) (i + 4) (w32_ij 4 (i + 4) (by omega) (by omega)) (by show i + 4 < Ls; omega) hL dL_law_430 ?_
  refine aw_callV (pc := 431) (ci := 11) (dC := 319) (mcC := 0) (msC := 0) [iv (xs (i + 1)).toInt, iv (xs (i + 2)).toInt, iv (xs (i + 3)).toInt, iv (xs (i + 4)).toInt] (s_X11_flower l (0, Ls, xs) (fun mr => E2 r1.2 mr) _ (LE_E2r r1.2) RRF_E2 n (xs (i + 1)).toInt (xs (i + 2)).toInt (xs (i + 3)).toInt (xs (i + 4)).toInt (inR_32 _) (inR_32 _) (inR_32 _) (inR_32 _) mr r2 H2) ca_L_44 (((LE_E2r r1.2).1 mr 100 (by decide)).trans (cel_obj rfl)) ⟨_, rfl, rfl⟩ rfl rfl (Nat.le_of_ble_eq_true rfl) (Nat.le_of_ble_eq_true rfl) hk hs dL_law_431 (fun v9 hp9 hq9 _ => ?_)
  obtain ⟨rfl, hr2, rfl⟩ := hq9
  refine AW.eqh (hp' := E2 r1.2 r2.2) rfl ?_
  refine aw_icmp_eq (pc := 434) 1413 dL_law_434 rfl (fun _ => ?_) (fun h => absurd (by rw [he]) h)
  exact kk
set_option maxRecDepth 100000 in
set_option maxHeartbeats 4000000 in
theorem law_7 {l : Launch} {D : va_G} {base Ls : Nat} {xs : Nat → Int32} {y : MethodName} {ad : Nat → Nat} {hp0 : g_H} {k s i : Nat} {mc mr : Mem} (hL : Ls ≤ 3072) (hi : i + 6 ≤ Ls) (n N : Nat) (r1 r2 : Rz) (H1 : f_X10_made n (xs (i + 1)).toInt (xs (i + 2)).toInt (xs (i + 3)).toInt mc = some r1) (H2 : f_X11_made n (xs (i + 1)).toInt (xs (i + 2)).toInt (xs (i + 3)).toInt mr = some r2) (he : r1.1 = r2.1) (hk : k + 4 ≤ 600000) (hs : s + 125 ≤ 7302250) (kk : AW l D base (0, Ls, xs) RL y cL_law 4 (some .boolean) 840 600000 7302250 ad hp0 PostL (k + 4) (s + 125) (E2 r1.2 r2.2) 1413 [(3, iv (i : Int)), (2, .ref 100), (1, .ref 1), (0, .ref 0)] []) : AW l D base (0, Ls, xs) RL y cL_law 4 (some .boolean) 840 600000 7302250 ad hp0 PostL k s (E2 mc mr) 439 [(3, iv (i : Int)), (2, .ref 100), (1, .ref 1), (0, .ref 0)] [] := by
  refine aw_aload_n (pc := 439) dL_law_439 rfl ?_
  refine aw_aload_n (pc := 440) dL_law_440 rfl ?_
  refine aw_iload_n (pc := 441) dL_law_441 rfl ?_
  refine cx_iconst (pc := 442) dL_law_442 ?_
  refine cx_iadd (pc := 443) dL_law_443 ?_
  refine cx_sld (sc := (0, Ls, xs)) (pc := 444) (i + 1) (w32_ij 1 (i + 1) (by omega) (by omega)) (by show i + 1 < Ls; omega) hL dL_law_444 ?_
  refine aw_aload_n (pc := 445) dL_law_445 rfl ?_
  refine aw_iload_n (pc := 446) dL_law_446 rfl ?_
  refine cx_iconst (pc := 447) dL_law_447 ?_
  refine cx_iadd (pc := 448) dL_law_448 ?_
  refine cx_sld (sc := (0, Ls, xs)) (pc := 449) (i + 2) (w32_ij 2 (i + 2) (by omega) (by omega)) (by show i + 2 < Ls; omega) hL dL_law_449 ?_
  refine aw_aload_n (pc := 450) dL_law_450 rfl ?_
  refine aw_iload_n (pc := 451) dL_law_451 rfl ?_
  refine cx_iconst (pc := 452) dL_law_452 ?_
  refine cx_iadd (pc := 453) dL_law_453 ?_
  refine cx_sld (sc := (0, Ls, xs)) (pc := 454) (i + 3) (w32_ij 3 (i + 3) (by omega) (by omega)) (by show i + 3 < Ls; omega) hL dL_law_454 ?_
  refine aw_callV (pc := 455) (ci := 10) (dC := 6) (mcC := 4) (msC := 125) [iv (xs (i + 1)).toInt, iv (xs (i + 2)).toInt, iv (xs (i + 3)).toInt] (s_X10_made l (0, Ls, xs) (fun mc => E2 mc mr) _ (LE_E2c mr) RCL_EC rfl n (xs (i + 1)).toInt (xs (i + 2)).toInt (xs (i + 3)).toInt (inR_32 _) (inR_32 _) (inR_32 _) mc r1 H1) ca_L_45 (((LE_E2c mr).1 mc 1 (by decide)).trans (cel_obj rfl)) ⟨_, rfl, rfl⟩ rfl rfl (Nat.le_of_ble_eq_true rfl) (Nat.le_of_ble_eq_true rfl) hk hs dL_law_455 (fun v9 hp9 hq9 _ => ?_)
  obtain ⟨rfl, hr1, rfl⟩ := hq9
  refine AW.eqh (hp' := E2 r1.2 mr) rfl ?_
  refine aw_aload_n (pc := 458) dL_law_458 rfl ?_
  refine aw_aload_n (pc := 459) dL_law_459 rfl ?_
  refine aw_iload_n (pc := 460) dL_law_460 rfl ?_
  refine cx_iconst (pc := 461) dL_law_461 ?_
  refine cx_iadd (pc := 462) dL_law_462 ?_
  refine cx_sld (sc := (0, Ls, xs)) (pc := 463) (i + 1) (w32_ij 1 (i + 1) (by omega) (by omega)) (by show i + 1 < Ls; omega) hL dL_law_463 ?_
  refine aw_aload_n (pc := 464) dL_law_464 rfl ?_
  refine aw_iload_n (pc := 465) dL_law_465 rfl ?_
  refine cx_iconst (pc := 466) dL_law_466 ?_
  refine cx_iadd (pc := 467) dL_law_467 ?_
  refine cx_sld (sc := (0, Ls, xs)) (pc := 468) (i + 2) (w32_ij 2 (i + 2) (by omega) (by omega)) (by show i + 2 < Ls; omega) hL dL_law_468 ?_
  refine aw_aload_n (pc := 469) dL_law_469 rfl ?_
  refine aw_iload_n (pc := 470) dL_law_470 rfl ?_
  refine cx_iconst (pc := 471) dL_law_471 ?_
  refine cx_iadd (pc := 472) dL_law_472 ?_
  refine cx_sld (sc := (0, Ls, xs)) (pc := 473) (i + 3) (w32_ij 3 (i + 3) (by omega) (by omega)) (by show i + 3 < Ls; omega) hL dL_law_473 ?_
  refine aw_callV (pc := 474) (ci := 11) (dC := 307) (mcC := 0) (msC := 0) [iv (xs (i + 1)).toInt, iv (xs (i + 2)).toInt, iv (xs (i + 3)).toInt] (s_X11_made l (0, Ls, xs) (fun mr => E2 r1.2 mr) _ (LE_E2r r1.2) RRF_E2 n (xs (i + 1)).toInt (xs (i + 2)).toInt (xs (i + 3)).toInt (inR_32 _) (inR_32 _) (inR_32 _) mr r2 H2) ca_L_48 (((LE_E2r r1.2).1 mr 100 (by decide)).trans (cel_obj rfl)) ⟨_, rfl, rfl⟩ rfl rfl (Nat.le_of_ble_eq_true rfl) (Nat.le_of_ble_eq_true rfl) hk hs dL_law_474 (fun v9 hp9 hq9 _ => ?_)
  obtain ⟨rfl, hr2, rfl⟩ := hq9
  refine AW.eqh (hp' := E2 r1.2 r2.2) rfl ?_
  refine aw_icmp_eq (pc := 477) 1413 dL_law_477 rfl (fun _ => ?_) (fun h => absurd (by rw [he]) h)
  exact kk
set_option maxRecDepth 100000 in
set_option maxHeartbeats 4000000 in
theorem law_8 {l : Launch} {D : va_G} {base Ls : Nat} {xs : Nat → Int32} {y : MethodName} {ad : Nat → Nat} {hp0 : g_H} {k s i : Nat} {mc mr : Mem} (hL : Ls ≤ 3072) (hi : i + 6 ≤ Ls) (n N : Nat) (r1 r2 : Rz) (H1 : f_X10_plus n (xs (i + 1)).toInt (xs (i + 2)).toInt (xs (i + 3)).toInt mc = some r1) (H2 : f_X11_plus n (xs (i + 1)).toInt (xs (i + 2)).toInt (xs (i + 3)).toInt mr = some r2) (he : r1.1 = r2.1) (hk : k + 4 ≤ 600000) (hs : s + 125 ≤ 7302250) (kk : AW l D base (0, Ls, xs) RL y cL_law 4 (some .boolean) 840 600000 7302250 ad hp0 PostL (k + 4) (s + 125) (E2 r1.2 r2.2) 1413 [(3, iv (i : Int)), (2, .ref 100), (1, .ref 1), (0, .ref 0)] []) : AW l D base (0, Ls, xs) RL y cL_law 4 (some .boolean) 840 600000 7302250 ad hp0 PostL k s (E2 mc mr) 482 [(3, iv (i : Int)), (2, .ref 100), (1, .ref 1), (0, .ref 0)] [] := by
  refine aw_aload_n (pc := 482) dL_law_482 rfl ?_
  refine aw_aload_n (pc := 483) dL_law_483 rfl ?_
  refine aw_iload_n (pc := 484) dL_law_484 rfl ?_
  refine cx_iconst (pc := 485) dL_law_485 ?_
  refine cx_iadd (pc := 486) dL_law_486 ?_
  refine cx_sld (sc := (0, Ls, xs)) (pc := 487) (i + 1) (w32_ij 1 (i + 1) (by omega) (by omega)) (by show i + 1 < Ls; omega) hL dL_law_487 ?_
  refine aw_aload_n (pc := 488) dL_law_488 rfl ?_
  refine aw_iload_n (pc := 489) dL_law_489 rfl ?_
  refine cx_iconst (pc := 490) dL_law_490 ?_
  refine cx_iadd (pc := 491) dL_law_491 ?_
  refine cx_sld (sc := (0, Ls, xs)) (pc := 492) (i + 2) (w32_ij 2 (i + 2) (by omega) (by omega)) (by show i + 2 < Ls; omega) hL dL_law_492 ?_
  refine aw_aload_n (pc := 493) dL_law_493 rfl ?_
  refine aw_iload_n (pc := 494) dL_law_494 rfl ?_
  refine cx_iconst (pc := 495) dL_law_495 ?_
  refine cx_iadd (pc := 496) dL_law_496 ?_
  refine cx_sld (sc := (0, Ls, xs)) (pc := 497) (i + 3) (w32_ij 3 (i + 3) (by omega) (by omega)) (by show i + 3 < Ls; omega) hL dL_law_497 ?_
  refine aw_callV (pc := 498) (ci := 10) (dC := 6) (mcC := 4) (msC := 125) [iv (xs (i + 1)).toInt, iv (xs (i + 2)).toInt, iv (xs (i + 3)).toInt] (s_X10_plus l (0, Ls, xs) (fun mc => E2 mc mr) _ (LE_E2c mr) RCL_EC rfl n (xs (i + 1)).toInt (xs (i + 2)).toInt (xs (i + 3)).toInt (inR_32 _) (inR_32 _) (inR_32 _) mc r1 H1) ca_L_49 (((LE_E2c mr).1 mc 1 (by decide)).trans (cel_obj rfl)) ⟨_, rfl, rfl⟩ rfl rfl (Nat.le_of_ble_eq_true rfl) (Nat.le_of_ble_eq_true rfl) hk hs dL_law_498 (fun v9 hp9 hq9 _ => ?_)
  obtain ⟨rfl, hr1, rfl⟩ := hq9
  refine AW.eqh (hp' := E2 r1.2 mr) rfl ?_
  refine aw_aload_n (pc := 501) dL_law_501 rfl ?_
  refine aw_aload_n (pc := 502) dL_law_502 rfl ?_
  refine aw_iload_n (pc := 503) dL_law_503 rfl ?_
  refine cx_iconst (pc := 504) dL_law_504 ?_
  refine cx_iadd (pc := 505) dL_law_505 ?_
  refine cx_sld (sc := (0, Ls, xs)) (pc := 506) (i + 1) (w32_ij 1 (i + 1) (by omega) (by omega)) (by show i + 1 < Ls; omega) hL dL_law_506 ?_
  refine aw_aload_n (pc := 507) dL_law_507 rfl ?_
  refine aw_iload_n (pc := 508) dL_law_508 rfl ?_
  refine cx_iconst (pc := 509) dL_law_509 ?_
  refine cx_iadd (pc := 510) dL_law_510 ?_
  refine cx_sld (sc := (0, Ls, xs)) (pc := 511) (i + 2) (w32_ij 2 (i + 2) (by omega) (by omega)) (by show i + 2 < Ls; omega) hL dL_law_511 ?_
  refine aw_aload_n (pc := 512) dL_law_512 rfl ?_
  refine aw_iload_n (pc := 513) dL_law_513 rfl ?_
  refine cx_iconst (pc := 514) dL_law_514 ?_
  refine cx_iadd (pc := 515) dL_law_515 ?_
  refine cx_sld (sc := (0, Ls, xs)) (pc := 516) (i + 3) (w32_ij 3 (i + 3) (by omega) (by omega)) (by show i + 3 < Ls; omega) hL dL_law_516 ?_
  refine aw_callV (pc := 517) (ci := 11) (dC := 408) (mcC := 0) (msC := 0) [iv (xs (i + 1)).toInt, iv (xs (i + 2)).toInt, iv (xs (i + 3)).toInt] (s_X11_plus l (0, Ls, xs) (fun mr => E2 r1.2 mr) _ (LE_E2r r1.2) RRF_E2 n (xs (i + 1)).toInt (xs (i + 2)).toInt (xs (i + 3)).toInt (inR_32 _) (inR_32 _) (inR_32 _) mr r2 H2) ca_L_52 (((LE_E2r r1.2).1 mr 100 (by decide)).trans (cel_obj rfl)) ⟨_, rfl, rfl⟩ rfl rfl (Nat.le_of_ble_eq_true rfl) (Nat.le_of_ble_eq_true rfl) hk hs dL_law_517 (fun v9 hp9 hq9 _ => ?_)
  obtain ⟨rfl, hr2, rfl⟩ := hq9
  refine AW.eqh (hp' := E2 r1.2 r2.2) rfl ?_
  refine aw_icmp_eq (pc := 520) 1413 dL_law_520 rfl (fun _ => ?_) (fun h => absurd (by rw [he]) h)
  exact kk
set_option maxRecDepth 100000 in
set_option maxHeartbeats 4000000 in
theorem law_9 {l : Launch} {D : va_G} {base Ls : Nat} {xs : Nat → Int32} {y : MethodName} {ad : Nat → Nat} {hp0 : g_H} {k s i : Nat} {mc mr : Mem} (hL : Ls ≤ 3072) (hi : i + 6 ≤ Ls) (n N : Nat) (r1 r2 : Rz) (H1 : f_X10_minus n (xs (i + 1)).toInt (xs (i + 2)).toInt mc = some r1) (H2 : f_X11_minus n (xs (i + 1)).toInt (xs (i + 2)).toInt mr = some r2) (he : r1.1 = r2.1) (hk : k + 4 ≤ 600000) (hs : s + 125 ≤ 7302250) (kk : AW l D base (0, Ls, xs) RL y cL_law 4 (some .boolean) 840 600000 7302250 ad hp0 PostL (k + 4) (s + 125) (E2 r1.2 r2.2) 1413 [(3, iv (i : Int)), (2, .ref 100), (1, .ref 1), (0, .ref 0)] []) : AW l D base (0, Ls, xs) RL y cL_law 4 (some .boolean) 840 600000 7302250 ad hp0 PostL k s (E2 mc mr) 525 [(3, iv (i : Int)), (2, .ref 100), (1, .ref 1), (0, .ref 0)] [] := by
  refine aw_aload_n (pc := 525) dL_law_525 rfl ?_
  refine aw_aload_n (pc := 526) dL_law_526 rfl ?_
  refine aw_iload_n (pc := 527) dL_law_527 rfl ?_
  refine cx_iconst (pc := 528) dL_law_528 ?_
  refine cx_iadd (pc := 529) dL_law_529 ?_
  refine cx_sld (sc := (0, Ls, xs)) (pc := 530) (i + 1) (w32_ij 1 (i + 1) (by omega) (by omega)) (by show i + 1 < Ls; omega) hL dL_law_530 ?_
  refine aw_aload_n (pc := 531) dL_law_531 rfl ?_
  refine aw_iload_n (pc := 532) dL_law_532 rfl ?_
  refine cx_iconst (pc := 533) dL_law_533 ?_
  refine cx_iadd (pc := 534) dL_law_534 ?_
  refine cx_sld (sc := (0, Ls, xs)) (pc := 535) (i + 2) (w32_ij 2 (i + 2) (by omega) (by omega)) (by show i + 2 < Ls; omega) hL dL_law_535 ?_
  refine aw_callV (pc := 536) (ci := 10) (dC := 6) (mcC := 4) (msC := 125) [iv (xs (i + 1)).toInt, iv (xs (i + 2)).toInt] (s_X10_minus l (0, Ls, xs) (fun mc => E2 mc mr) _ (LE_E2c mr) RCL_EC rfl n (xs (i + 1)).toInt (xs (i + 2)).toInt (inR_32 _) (inR_32 _) mc r1 H1) ca_L_53 (((LE_E2c mr).1 mc 1 (by decide)).trans (cel_obj rfl)) ⟨_, rfl, rfl⟩ rfl rfl (Nat.le_of_ble_eq_true rfl) (Nat.le_of_ble_eq_true rfl) hk hs dL_law_536 (fun v9 hp9 hq9 _ => ?_)
  obtain ⟨rfl, hr1, rfl⟩ := hq9
  refine AW.eqh (hp' := E2 r1.2 mr) rfl ?_
  refine aw_aload_n (pc := 539) dL_law_539 rfl ?_
  refine aw_aload_n (pc := 540) dL_law_540 rfl ?_
  refine aw_iload_n (pc := 541) dL_law_541 rfl ?_
  refine cx_iconst (pc := 542) dL_law_542 ?_
  refine cx_iadd (pc := 543) dL_law_543 ?_
  refine cx_sld (sc := (0, Ls, xs)) (pc := 544) (i + 1) (w32_ij 1 (i + 1) (by omega) (by omega)) (by show i + 1 < Ls; omega) hL dL_law_544 ?_
  refine aw_aload_n (pc := 545) dL_law_545 rfl ?_
  refine aw_iload_n (pc := 546) dL_law_546 rfl ?_
  refine cx_iconst (pc := 547) dL_law_547 ?_
  refine cx_iadd (pc := 548) dL_law_548 ?_
  refine cx_sld (sc := (0, Ls, xs)) (pc := 549) (i + 2) (w32_ij 2 (i + 2) (by omega) (by omega)) (by show i + 2 < Ls; omega) hL dL_law_549 ?_
  refine aw_callV (pc := 550) (ci := 11) (dC := 358) (mcC := 0) (msC := 0) [iv (xs (i + 1)).toInt, iv (xs (i + 2)).toInt] (s_X11_minus l (0, Ls, xs) (fun mr => E2 r1.2 mr) _ (LE_E2r r1.2) RRF_E2 n (xs (i + 1)).toInt (xs (i + 2)).toInt (inR_32 _) (inR_32 _) mr r2 H2) ca_L_56 (((LE_E2r r1.2).1 mr 100 (by decide)).trans (cel_obj rfl)) ⟨_, rfl, rfl⟩ rfl rfl (Nat.le_of_ble_eq_true rfl) (Nat.le_of_ble_eq_true rfl) hk hs dL_law_550 (fun v9 hp9 hq9 _ => ?_)
  obtain ⟨rfl, hr2, rfl⟩ := hq9
  refine AW.eqh (hp' := E2 r1.2 r2.2) rfl ?_
  refine aw_icmp_eq (pc := 553) 1413 dL_law_553 rfl (fun _ => ?_) (fun h => absurd (by rw [he]) h)
  exact kk
set_option maxRecDepth 100000 in
set_option maxHeartbeats 4000000 in
theorem law_10 {l : Launch} {D : va_G} {base Ls : Nat} {xs : Nat → Int32} {y : MethodName} {ad : Nat → Nat} {hp0 : g_H} {k s i : Nat} {mc mr : Mem} (hL : Ls ≤ 3072) (hi : i + 6 ≤ Ls) (n N : Nat) (r1 r2 : Rz) (H1 : f_X10_option n (xs (i + 1)).toInt (xs (i + 2)).toInt (xs (i + 3)).toInt (xs (i + 4)).toInt mc = some r1) (H2 : f_X11_option n (xs (i + 1)).toInt (xs (i + 2)).toInt (xs (i + 3)).toInt (xs (i + 4)).toInt mr = some r2) (he : r1.1 = r2.1) (hk : k + 4 ≤ 600000) (hs : s + 125 ≤ 7302250) (kk : AW l D base (0, Ls, xs) RL y cL_law 4 (some .boolean) 840 600000 7302250 ad hp0 PostL (k + 4) (s + 125) (E2 r1.2 r2.2) 1413 [(3, iv (i : Int)), (2, .ref 100), (1, .ref 1), (0, .ref 0)] []) : AW l D base (0, Ls, xs) RL y cL_law 4 (some .boolean) 840 600000 7302250 ad hp0 PostL k s (E2 mc mr) 558 [(3, iv (i : Int)), (2, .ref 100), (1, .ref 1), (0, .ref 0)] [] := by
  refine aw_aload_n (pc := 558) dL_law_558 rfl ?_
  refine aw_aload_n (pc := 559) dL_law_559 rfl ?_
  refine aw_iload_n (pc := 560) dL_law_560 rfl ?_
  refine cx_iconst (pc := 561) dL_law_561 ?_
  refine cx_iadd (pc := 562) dL_law_562 ?_
  refine cx_sld (sc := (0, Ls, xs)) (pc := 563) (i + 1) (w32_ij 1 (i + 1) (by omega) (by omega)) (by show i + 1 < Ls; omega) hL dL_law_563 ?_
  refine aw_aload_n (pc := 564) dL_law_564 rfl ?_
  refine aw_iload_n (pc := 565) dL_law_565 rfl ?_
  refine cx_iconst (pc := 566) dL_law_566 ?_
  refine cx_iadd (pc := 567) dL_law_567 ?_
  refine cx_sld (sc := (0, Ls, xs)) (pc := 568) (i + 2) (w32_ij 2 (i + 2) (by omega) (by omega)) (by show i + 2 < Ls; omega) hL dL_law_568 ?_
  refine aw_aload_n (pc := 569) dL_law_569 rfl ?_
  refine aw_iload_n (pc := 570) dL_law_570 rfl ?_
  refine cx_iconst (pc := 571) dL_law_571 ?_
  refine cx_iadd (pc := 572) dL_law_572 ?_
  refine cx_sld (sc := (0, Ls, xs)) (pc := 573) (i + 3) (w32_ij 3 (i + 3) (by omega) (by omega)) (by show i + 3 < Ls; omega) hL dL_law_573 ?_
  refine aw_aload_n (pc := 574) dL_law_574 rfl ?_
  refine aw_iload_n (pc := 575) dL_law_575 rfl ?_
  refine cx_iconst (pc := 576) dL_law_576 ?_
  refine cx_iadd (pc := 577) dL_law_577 ?_
  refine cx_sld (sc := (0, Ls, xs)) (pc := 578) (i + 4) (w32_ij 4 (i + 4) (by omega) (by omega)) (by show i + 4 < Ls; omega) hL dL_law_578 ?_
  refine aw_callV (pc := 579) (ci := 10) (dC := 6) (mcC := 4) (msC := 125) [iv (xs (i + 1)).toInt, iv (xs (i + 2)).toInt, iv (xs (i + 3)).toInt, iv (xs (i + 4)).toInt] (s_X10_option l (0, Ls, xs) (fun mc => E2 mc mr) _ (LE_E2c mr) RCL_EC rfl n (xs (i + 1)).toInt (xs (i + 2)).toInt (xs (i + 3)).toInt (xs (i + 4)).toInt (inR_32 _) (inR_32 _) (inR_32 _) (inR_32 _) mc r1 H1) ca_L_57 (((LE_E2c mr).1 mc 1 (by decide)).trans (cel_obj rfl)) ⟨_, rfl, rfl⟩ rfl rfl (Nat.le_of_ble_eq_true rfl) (Nat.le_of_ble_eq_true rfl) hk hs dL_law_579 (fun v9 hp9 hq9 _ => ?_)
  obtain ⟨rfl, hr1, rfl⟩ := hq9
  refine AW.eqh (hp' := E2 r1.2 mr) rfl ?_
  refine aw_aload_n (pc := 582) dL_law_582 rfl ?_
  refine aw_aload_n (pc := 583) dL_law_583 rfl ?_
  refine aw_iload_n (pc := 584) dL_law_584 rfl ?_
  refine cx_iconst (pc := 585) dL_law_585 ?_
  refine cx_iadd (pc := 586) dL_law_586 ?_
  refine cx_sld (sc := (0, Ls, xs)) (pc := 587) (i + 1) (w32_ij 1 (i + 1) (by omega) (by omega)) (by show i + 1 < Ls; omega) hL dL_law_587 ?_
  refine aw_aload_n (pc := 588) dL_law_588 rfl ?_
  refine aw_iload_n (pc := 589) dL_law_589 rfl ?_
  refine cx_iconst (pc := 590) dL_law_590 ?_
  refine cx_iadd (pc := 591) dL_law_591 ?_
  refine cx_sld (sc := (0, Ls, xs)) (pc := 592) (i + 2) (w32_ij 2 (i + 2) (by omega) (by omega)) (by show i + 2 < Ls; omega) hL dL_law_592 ?_
  refine aw_aload_n (pc := 593) dL_law_593 rfl ?_
  refine aw_iload_n (pc := 594) dL_law_594 rfl ?_
  refine cx_iconst (pc := 595) dL_law_595 ?_
  refine cx_iadd (pc := 596) dL_law_596 ?_
  refine cx_sld (sc := (0, Ls, xs)) (pc := 597) (i + 3) (w32_ij 3 (i + 3) (by omega) (by omega)) (by show i + 3 < Ls; omega) hL dL_law_597 ?_
  refine aw_aload_n (pc := 598) dL_law_598 rfl ?_
  refine aw_iload_n (pc := 599) dL_law_599 rfl ?_
  refine cx_iconst (pc := 600) dL_law_600 ?_
  refine cx_iadd (pc := 601) dL_law_601 ?_
  refine cx_sld (sc := (0, Ls, xs)) (pc := 602) (i + 4) (w32_ij 4 (i + 4) (by omega) (by omega)) (by show i + 4 < Ls; omega) hL dL_law_602 ?_
  refine aw_callV (pc := 603) (ci := 11) (dC := 128) (mcC := 0) (msC := 0) [iv (xs (i + 1)).toInt, iv (xs (i + 2)).toInt, iv (xs (i + 3)).toInt, iv (xs (i + 4)).toInt] (s_X11_option l (0, Ls, xs) (fun mr => E2 r1.2 mr) _ (LE_E2r r1.2) RRF_E2 n (xs (i + 1)).toInt (xs (i + 2)).toInt (xs (i + 3)).toInt (xs (i + 4)).toInt (inR_32 _) (inR_32 _) (inR_32 _) (inR_32 _) mr r2 H2) ca_L_60 (((LE_E2r r1.2).1 mr 100 (by decide)).trans (cel_obj rfl)) ⟨_, rfl, rfl⟩ rfl rfl (Nat.le_of_ble_eq_true rfl) (Nat.le_of_ble_eq_true rfl) hk hs dL_law_603 (fun v9 hp9 hq9 _ => ?_)
  obtain ⟨rfl, hr2, rfl⟩ := hq9
  refine AW.eqh (hp' := E2 r1.2 r2.2) rfl ?_
  refine aw_icmp_eq (pc := 606) 1413 dL_law_606 rfl (fun _ => ?_) (fun h => absurd (by rw [he]) h)
  exact kk
set_option maxRecDepth 100000 in
set_option maxHeartbeats 4000000 in
theorem law_11 {l : Launch} {D : va_G} {base Ls : Nat} {xs : Nat → Int32} {y : MethodName} {ad : Nat → Nat} {hp0 : g_H} {k s i : Nat} {mc mr : Mem} (hL : Ls ≤ 3072) (hi : i + 6 ≤ Ls) (n N : Nat) (r1 r2 : Rz) (H1 : f_X10_move n (xs (i + 1)).toInt (xs (i + 2)).toInt mc = some r1) (H2 : f_X11_move n (xs (i + 1)).toInt (xs (i + 2)).toInt mr = some r2) (he : r1.1 = r2.1) (hk : k + 0 ≤ 600000) (hs : s + 0 ≤ 7302250) (kk : AW l D base (0, Ls, xs) RL y cL_law 4 (some .boolean) 840 600000 7302250 ad hp0 PostL (k + 0) (s + 0) (E2 r1.2 r2.2) 1413 [(3, iv (i : Int)), (2, .ref 100), (1, .ref 1), (0, .ref 0)] []) : AW l D base (0, Ls, xs) RL y cL_law 4 (some .boolean) 840 600000 7302250 ad hp0 PostL k s (E2 mc mr) 611 [(3, iv (i : Int)), (2, .ref 100), (1, .ref 1), (0, .ref 0)] [] := by
  refine aw_aload_n (pc := 611) dL_law_611 rfl ?_
  refine aw_aload_n (pc := 612) dL_law_612 rfl ?_
  refine aw_iload_n (pc := 613) dL_law_613 rfl ?_
  refine cx_iconst (pc := 614) dL_law_614 ?_
  refine cx_iadd (pc := 615) dL_law_615 ?_
  refine cx_sld (sc := (0, Ls, xs)) (pc := 616) (i + 1) (w32_ij 1 (i + 1) (by omega) (by omega)) (by show i + 1 < Ls; omega) hL dL_law_616 ?_
  refine aw_aload_n (pc := 617) dL_law_617 rfl ?_
  refine aw_iload_n (pc := 618) dL_law_618 rfl ?_
  refine cx_iconst (pc := 619) dL_law_619 ?_
  refine cx_iadd (pc := 620) dL_law_620 ?_
  refine cx_sld (sc := (0, Ls, xs)) (pc := 621) (i + 2) (w32_ij 2 (i + 2) (by omega) (by omega)) (by show i + 2 < Ls; omega) hL dL_law_621 ?_
  refine aw_callV (pc := 622) (ci := 10) (dC := 3) (mcC := 0) (msC := 0) [iv (xs (i + 1)).toInt, iv (xs (i + 2)).toInt] (s_X10_move l (0, Ls, xs) (fun mc => E2 mc mr) _ (LE_E2c mr) RCL_EC n (xs (i + 1)).toInt (xs (i + 2)).toInt (inR_32 _) (inR_32 _) mc r1 H1) ca_L_61 (((LE_E2c mr).1 mc 1 (by decide)).trans (cel_obj rfl)) ⟨_, rfl, rfl⟩ rfl rfl (Nat.le_of_ble_eq_true rfl) (Nat.le_of_ble_eq_true rfl) hk hs dL_law_622 (fun v9 hp9 hq9 _ => ?_)
  obtain ⟨rfl, hr1, rfl⟩ := hq9
  refine AW.eqh (hp' := E2 r1.2 mr) rfl ?_
  refine aw_aload_n (pc := 625) dL_law_625 rfl ?_
  refine aw_aload_n (pc := 626) dL_law_626 rfl ?_
  refine aw_iload_n (pc := 627) dL_law_627 rfl ?_
  refine cx_iconst (pc := 628) dL_law_628 ?_
  refine cx_iadd (pc := 629) dL_law_629 ?_
  refine cx_sld (sc := (0, Ls, xs)) (pc := 630) (i + 1) (w32_ij 1 (i + 1) (by omega) (by omega)) (by show i + 1 < Ls; omega) hL dL_law_630 ?_
  refine aw_aload_n (pc := 631) dL_law_631 rfl ?_
  refine aw_iload_n (pc := 632) dL_law_632 rfl ?_
  refine cx_iconst (pc := 633) dL_law_633 ?_
  refine cx_iadd (pc := 634) dL_law_634 ?_
  refine cx_sld (sc := (0, Ls, xs)) (pc := 635) (i + 2) (w32_ij 2 (i + 2) (by omega) (by omega)) (by show i + 2 < Ls; omega) hL dL_law_635 ?_
  refine aw_callV (pc := 636) (ci := 11) (dC := 64) (mcC := 0) (msC := 0) [iv (xs (i + 1)).toInt, iv (xs (i + 2)).toInt] (s_X11_move l (0, Ls, xs) (fun mr => E2 r1.2 mr) _ (LE_E2r r1.2) RRF_E2 n (xs (i + 1)).toInt (xs (i + 2)).toInt (inR_32 _) (inR_32 _) mr r2 H2) ca_L_64 (((LE_E2r r1.2).1 mr 100 (by decide)).trans (cel_obj rfl)) ⟨_, rfl, rfl⟩ rfl rfl (Nat.le_of_ble_eq_true rfl) (Nat.le_of_ble_eq_true rfl) hk hs dL_law_636 (fun v9 hp9 hq9 _ => ?_)
  obtain ⟨rfl, hr2, rfl⟩ := hq9
  refine AW.eqh (hp' := E2 r1.2 r2.2) rfl ?_
  refine aw_icmp_eq (pc := 639) 1413 dL_law_639 rfl (fun _ => ?_) (fun h => absurd (by rw [he]) h)
  exact kk
set_option maxRecDepth 100000 in
set_option maxHeartbeats 4000000 in
theorem law_12 {l : Launch} {D : va_G} {base Ls : Nat} {xs : Nat → Int32} {y : MethodName} {ad : Nat → Nat} {hp0 : g_H} {k s i : Nat} {mc mr : Mem} (hL : Ls ≤ 3072) (hi : i + 6 ≤ Ls) (n N : Nat) (r1 r2 : Rz) (H1 : f_X10_undo n  mc = some r1) (H2 : f_X11_undo n  mr = some r2) (he : r1.1 = r2.1) (hk : k + 0 ≤ 600000) (hs : s + 0 ≤ 7302250) (kk : AW l D base (0, Ls, xs) RL y cL_law 4 (some .boolean) 840 600000 7302250 ad hp0 PostL (k + 0) (s + 0) (E2 r1.2 r2.2) 1413 [(3, iv (i : Int)), (2, .ref 100), (1, .ref 1), (0, .ref 0)] []) : AW l D base (0, Ls, xs) RL y cL_law 4 (some .boolean) 840 600000 7302250 ad hp0 PostL k s (E2 mc mr) 644 [(3, iv (i : Int)), (2, .ref 100), (1, .ref 1), (0, .ref 0)] [] := by
  refine aw_aload_n (pc := 644) dL_law_644 rfl ?_
  refine aw_callV (pc := 645) (ci := 10) (dC := 2) (mcC := 0) (msC := 0) [] (s_X10_undo l (0, Ls, xs) (fun mc => E2 mc mr) _ (LE_E2c mr) RCL_EC n   mc r1 H1) ca_L_65 (((LE_E2c mr).1 mc 1 (by decide)).trans (cel_obj rfl)) ⟨_, rfl, rfl⟩ rfl rfl (Nat.le_of_ble_eq_true rfl) (Nat.le_of_ble_eq_true rfl) hk hs dL_law_645 (fun v9 hp9 hq9 _ => ?_)
  obtain ⟨rfl, hr1, rfl⟩ := hq9
  refine AW.eqh (hp' := E2 r1.2 mr) rfl ?_
  refine aw_aload_n (pc := 648) dL_law_648 rfl ?_
  refine aw_callV (pc := 649) (ci := 11) (dC := 1) (mcC := 0) (msC := 0) [] (s_X11_undo l (0, Ls, xs) (fun mr => E2 r1.2 mr) _ (LE_E2r r1.2) RRF_E2 n   mr r2 H2) ca_L_69 (((LE_E2r r1.2).1 mr 100 (by decide)).trans (cel_obj rfl)) ⟨_, rfl, rfl⟩ rfl rfl (Nat.le_of_ble_eq_true rfl) (Nat.le_of_ble_eq_true rfl) hk hs dL_law_649 (fun v9 hp9 hq9 _ => ?_)
  obtain ⟨rfl, hr2, rfl⟩ := hq9
  refine AW.eqh (hp' := E2 r1.2 r2.2) rfl ?_
  refine aw_icmp_eq (pc := 652) 1413 dL_law_652 rfl (fun _ => ?_) (fun h => absurd (by rw [he]) h)
  exact kk
set_option maxRecDepth 100000 in
set_option maxHeartbeats 4000000 in
theorem law_13 {l : Launch} {D : va_G} {base Ls : Nat} {xs : Nat → Int32} {y : MethodName} {ad : Nat → Nat} {hp0 : g_H} {k s i : Nat} {mc mr : Mem} (hL : Ls ≤ 3072) (hi : i + 6 ≤ Ls) (n N : Nat) (r1 r2 : Rz) (H1 : f_X10_order n (xs (i + 1)).toInt (xs (i + 2)).toInt mc = some r1) (H2 : f_X11_order n (xs (i + 1)).toInt (xs (i + 2)).toInt mr = some r2) (he : r1.1 = r2.1) (hk : k + 0 ≤ 600000) (hs : s + 0 ≤ 7302250) (kk : AW l D base (0, Ls, xs) RL y cL_law 4 (some .boolean) 840 600000 7302250 ad hp0 PostL (k + 0) (s + 0) (E2 r1.2 r2.2) 1413 [(3, iv (i : Int)), (2, .ref 100), (1, .ref 1), (0, .ref 0)] []) : AW l D base (0, Ls, xs) RL y cL_law 4 (some .boolean) 840 600000 7302250 ad hp0 PostL k s (E2 mc mr) 657 [(3, iv (i : Int)), (2, .ref 100), (1, .ref 1), (0, .ref 0)] [] := by
  refine aw_aload_n (pc := 657) dL_law_657 rfl ?_
  refine aw_aload_n (pc := 658) dL_law_658 rfl ?_
  refine aw_iload_n (pc := 659) dL_law_659 rfl ?_
  refine cx_iconst (pc := 660) dL_law_660 ?_
  refine cx_iadd (pc := 661) dL_law_661 ?_
  refine cx_sld (sc := (0, Ls, xs)) (pc := 662) (i + 1) (w32_ij 1 (i + 1) (by omega) (by omega)) (by show i + 1 < Ls; omega) hL dL_law_662 ?_
  refine aw_aload_n (pc := 663) dL_law_663 rfl ?_
  refine aw_iload_n (pc := 664) dL_law_664 rfl ?_
  refine cx_iconst (pc := 665) dL_law_665 ?_
  refine cx_iadd (pc := 666) dL_law_666 ?_
  refine cx_sld (sc := (0, Ls, xs)) (pc := 667) (i + 2) (w32_ij 2 (i + 2) (by omega) (by omega)) (by show i + 2 < Ls; omega) hL dL_law_667 ?_
  refine aw_callV (pc := 668) (ci := 10) (dC := 3) (mcC := 0) (msC := 0) [iv (xs (i + 1)).toInt, iv (xs (i + 2)).toInt] (s_X10_order l (0, Ls, xs) (fun mc => E2 mc mr) _ (LE_E2c mr) RCL_EC n (xs (i + 1)).toInt (xs (i + 2)).toInt (inR_32 _) (inR_32 _) mc r1 H1) ca_L_70 (((LE_E2c mr).1 mc 1 (by decide)).trans (cel_obj rfl)) ⟨_, rfl, rfl⟩ rfl rfl (Nat.le_of_ble_eq_true rfl) (Nat.le_of_ble_eq_true rfl) hk hs dL_law_668 (fun v9 hp9 hq9 _ => ?_)
  obtain ⟨rfl, hr1, rfl⟩ := hq9
  refine AW.eqh (hp' := E2 r1.2 mr) rfl ?_
  refine aw_aload_n (pc := 671) dL_law_671 rfl ?_
  refine aw_aload_n (pc := 672) dL_law_672 rfl ?_
  refine aw_iload_n (pc := 673) dL_law_673 rfl ?_
  refine cx_iconst (pc := 674) dL_law_674 ?_
  refine cx_iadd (pc := 675) dL_law_675 ?_
  refine cx_sld (sc := (0, Ls, xs)) (pc := 676) (i + 1) (w32_ij 1 (i + 1) (by omega) (by omega)) (by show i + 1 < Ls; omega) hL dL_law_676 ?_
  refine aw_aload_n (pc := 677) dL_law_677 rfl ?_
  refine aw_iload_n (pc := 678) dL_law_678 rfl ?_
  refine cx_iconst (pc := 679) dL_law_679 ?_
  refine cx_iadd (pc := 680) dL_law_680 ?_
  refine cx_sld (sc := (0, Ls, xs)) (pc := 681) (i + 2) (w32_ij 2 (i + 2) (by omega) (by omega)) (by show i + 2 < Ls; omega) hL dL_law_681 ?_
  refine aw_callV (pc := 682) (ci := 11) (dC := 203) (mcC := 0) (msC := 0) [iv (xs (i + 1)).toInt, iv (xs (i + 2)).toInt] (s_X11_order l (0, Ls, xs) (fun mr => E2 r1.2 mr) _ (LE_E2r r1.2) RRF_E2 n (xs (i + 1)).toInt (xs (i + 2)).toInt (inR_32 _) (inR_32 _) mr r2 H2) ca_L_73 (((LE_E2r r1.2).1 mr 100 (by decide)).trans (cel_obj rfl)) ⟨_, rfl, rfl⟩ rfl rfl (Nat.le_of_ble_eq_true rfl) (Nat.le_of_ble_eq_true rfl) hk hs dL_law_682 (fun v9 hp9 hq9 _ => ?_)
  obtain ⟨rfl, hr2, rfl⟩ := hq9
  refine AW.eqh (hp' := E2 r1.2 r2.2) rfl ?_
  refine aw_icmp_eq (pc := 685) 1413 dL_law_685 rfl (fun _ => ?_) (fun h => absurd (by rw [he]) h)
  exact kk
set_option maxRecDepth 100000 in
set_option maxHeartbeats 4000000 in
theorem law_14 {l : Launch} {D : va_G} {base Ls : Nat} {xs : Nat → Int32} {y : MethodName} {ad : Nat → Nat} {hp0 : g_H} {k s i : Nat} {mc mr : Mem} (hL : Ls ≤ 3072) (hi : i + 6 ≤ Ls) (n N : Nat) (r1 r2 : Rz) (H1 : f_X10_outcome n (xs (i + 1)).toInt (xs (i + 2)).toInt mc = some r1) (H2 : f_X11_outcome n (xs (i + 1)).toInt (xs (i + 2)).toInt mr = some r2) (he : r1.1 = r2.1) (hk : k + 0 ≤ 600000) (hs : s + 0 ≤ 7302250) (kk : AW l D base (0, Ls, xs) RL y cL_law 4 (some .boolean) 840 600000 7302250 ad hp0 PostL (k + 0) (s + 0) (E2 r1.2 r2.2) 1413 [(3, iv (i : Int)), (2, .ref 100), (1, .ref 1), (0, .ref 0)] []) : AW l D base (0, Ls, xs) RL y cL_law 4 (some .boolean) 840 600000 7302250 ad hp0 PostL k s (E2 mc mr) 690 [(3, iv (i : Int)), (2, .ref 100), (1, .ref 1), (0, .ref 0)] [] := by
  refine aw_aload_n (pc := 690) dL_law_690 rfl ?_
  refine aw_aload_n (pc := 691) dL_law_691 rfl ?_
  refine aw_iload_n (pc := 692) dL_law_692 rfl ?_
  refine cx_iconst (pc := 693) dL_law_693 ?_
  refine cx_iadd (pc := 694) dL_law_694 ?_
  refine cx_sld (sc := (0, Ls, xs)) (pc := 695) (i + 1) (w32_ij 1 (i + 1) (by omega) (by omega)) (by show i + 1 < Ls; omega) hL dL_law_695 ?_
  refine aw_aload_n (pc := 696) dL_law_696 rfl ?_
  refine aw_iload_n (pc := 697) dL_law_697 rfl ?_
  refine cx_iconst (pc := 698) dL_law_698 ?_
  refine cx_iadd (pc := 699) dL_law_699 ?_
  refine cx_sld (sc := (0, Ls, xs)) (pc := 700) (i + 2) (w32_ij 2 (i + 2) (by omega) (by omega)) (by show i + 2 < Ls; omega) hL dL_law_700 ?_
  refine aw_callV (pc := 701) (ci := 10) (dC := 4) (mcC := 0) (msC := 0) [iv (xs (i + 1)).toInt, iv (xs (i + 2)).toInt] (s_X10_outcome l (0, Ls, xs) (fun mc => E2 mc mr) _ (LE_E2c mr) RCL_EC n (xs (i + 1)).toInt (xs (i + 2)).toInt (inR_32 _) (inR_32 _) mc r1 H1) ca_L_74 (((LE_E2c mr).1 mc 1 (by decide)).trans (cel_obj rfl)) ⟨_, rfl, rfl⟩ rfl rfl (Nat.le_of_ble_eq_true rfl) (Nat.le_of_ble_eq_true rfl) hk hs dL_law_701 (fun v9 hp9 hq9 _ => ?_)
  obtain ⟨rfl, hr1, rfl⟩ := hq9
  refine AW.eqh (hp' := E2 r1.2 mr) rfl ?_
  refine aw_aload_n (pc := 704) dL_law_704 rfl ?_
  refine aw_aload_n (pc := 705) dL_law_705 rfl ?_
  refine aw_iload_n (pc := 706) dL_law_706 rfl ?_
  refine cx_iconst (pc := 707) dL_law_707 ?_
  refine cx_iadd (pc := 708) dL_law_708 ?_
  refine cx_sld (sc := (0, Ls, xs)) (pc := 709) (i + 1) (w32_ij 1 (i + 1) (by omega) (by omega)) (by show i + 1 < Ls; omega) hL dL_law_709 ?_
  refine aw_aload_n (pc := 710) dL_law_710 rfl ?_
  refine aw_iload_n (pc := 711) dL_law_711 rfl ?_
  refine cx_iconst (pc := 712) dL_law_712 ?_
  refine cx_iadd (pc := 713) dL_law_713 ?_
  refine cx_sld (sc := (0, Ls, xs)) (pc := 714) (i + 2) (w32_ij 2 (i + 2) (by omega) (by omega)) (by show i + 2 < Ls; omega) hL dL_law_714 ?_
  refine aw_callV (pc := 715) (ci := 11) (dC := 408) (mcC := 0) (msC := 0) [iv (xs (i + 1)).toInt, iv (xs (i + 2)).toInt] (s_X11_outcome l (0, Ls, xs) (fun mr => E2 r1.2 mr) _ (LE_E2r r1.2) RRF_E2 n (xs (i + 1)).toInt (xs (i + 2)).toInt (inR_32 _) (inR_32 _) mr r2 H2) ca_L_77 (((LE_E2r r1.2).1 mr 100 (by decide)).trans (cel_obj rfl)) ⟨_, rfl, rfl⟩ rfl rfl (Nat.le_of_ble_eq_true rfl) (Nat.le_of_ble_eq_true rfl) hk hs dL_law_715 (fun v9 hp9 hq9 _ => ?_)
  obtain ⟨rfl, hr2, rfl⟩ := hq9
  refine AW.eqh (hp' := E2 r1.2 r2.2) rfl ?_
  refine aw_icmp_eq (pc := 718) 1413 dL_law_718 rfl (fun _ => ?_) (fun h => absurd (by rw [he]) h)
  exact kk
set_option maxRecDepth 100000 in
set_option maxHeartbeats 4000000 in
theorem law_15 {l : Launch} {D : va_G} {base Ls : Nat} {xs : Nat → Int32} {y : MethodName} {ad : Nat → Nat} {hp0 : g_H} {k s i : Nat} {mc mr : Mem} (hL : Ls ≤ 3072) (hi : i + 6 ≤ Ls) (n N : Nat) (r1 r2 : Rz) (H1 : f_X10_far n (xs (i + 1)).toInt mc = some r1) (H2 : f_X11_far n (xs (i + 1)).toInt mr = some r2) (he : r1.1 = r2.1) (hk : k + 0 ≤ 600000) (hs : s + 0 ≤ 7302250) (kk : AW l D base (0, Ls, xs) RL y cL_law 4 (some .boolean) 840 600000 7302250 ad hp0 PostL (k + 0) (s + 0) (E2 r1.2 r2.2) 1413 [(3, iv (i : Int)), (2, .ref 100), (1, .ref 1), (0, .ref 0)] []) : AW l D base (0, Ls, xs) RL y cL_law 4 (some .boolean) 840 600000 7302250 ad hp0 PostL k s (E2 mc mr) 723 [(3, iv (i : Int)), (2, .ref 100), (1, .ref 1), (0, .ref 0)] [] := by
  refine aw_aload_n (pc := 723) dL_law_723 rfl ?_
  refine aw_aload_n (pc := 724) dL_law_724 rfl ?_
  refine aw_iload_n (pc := 725) dL_law_725 rfl ?_
  refine cx_iconst (pc := 726) dL_law_726 ?_
  refine cx_iadd (pc := 727) dL_law_727 ?_
  refine cx_sld (sc := (0, Ls, xs)) (pc := 728) (i + 1) (w32_ij 1 (i + 1) (by omega) (by omega)) (by show i + 1 < Ls; omega) hL dL_law_728 ?_
  refine aw_callV (pc := 729) (ci := 10) (dC := 3) (mcC := 0) (msC := 0) [iv (xs (i + 1)).toInt] (s_X10_far l (0, Ls, xs) (fun mc => E2 mc mr) _ (LE_E2c mr) RCL_EC n (xs (i + 1)).toInt (inR_32 _) mc r1 H1) ca_L_78 (((LE_E2c mr).1 mc 1 (by decide)).trans (cel_obj rfl)) ⟨_, rfl, rfl⟩ rfl rfl (Nat.le_of_ble_eq_true rfl) (Nat.le_of_ble_eq_true rfl) hk hs dL_law_729 (fun v9 hp9 hq9 _ => ?_)
  obtain ⟨rfl, hr1, rfl⟩ := hq9
  refine AW.eqh (hp' := E2 r1.2 mr) rfl ?_
  refine aw_aload_n (pc := 732) dL_law_732 rfl ?_
  refine aw_aload_n (pc := 733) dL_law_733 rfl ?_
  refine aw_iload_n (pc := 734) dL_law_734 rfl ?_
  refine cx_iconst (pc := 735) dL_law_735 ?_
  refine cx_iadd (pc := 736) dL_law_736 ?_
  refine cx_sld (sc := (0, Ls, xs)) (pc := 737) (i + 1) (w32_ij 1 (i + 1) (by omega) (by omega)) (by show i + 1 < Ls; omega) hL dL_law_737 ?_
  refine aw_callV (pc := 738) (ci := 11) (dC := 308) (mcC := 0) (msC := 0) [iv (xs (i + 1)).toInt] (s_X11_far l (0, Ls, xs) (fun mr => E2 r1.2 mr) _ (LE_E2r r1.2) RRF_E2 n (xs (i + 1)).toInt (inR_32 _) mr r2 H2) ca_L_81 (((LE_E2r r1.2).1 mr 100 (by decide)).trans (cel_obj rfl)) ⟨_, rfl, rfl⟩ rfl rfl (Nat.le_of_ble_eq_true rfl) (Nat.le_of_ble_eq_true rfl) hk hs dL_law_738 (fun v9 hp9 hq9 _ => ?_)
  obtain ⟨rfl, hr2, rfl⟩ := hq9
  refine AW.eqh (hp' := E2 r1.2 r2.2) rfl ?_
  refine aw_icmp_eq (pc := 741) 1413 dL_law_741 rfl (fun _ => ?_) (fun h => absurd (by rw [he]) h)
  exact kk
set_option maxRecDepth 100000 in
set_option maxHeartbeats 4000000 in
theorem law_16 {l : Launch} {D : va_G} {base Ls : Nat} {xs : Nat → Int32} {y : MethodName} {ad : Nat → Nat} {hp0 : g_H} {k s i : Nat} {mc mr : Mem} (hL : Ls ≤ 3072) (hi : i + 6 ≤ Ls) (n N : Nat) (r1 r2 : Rz) (H1 : f_X10_weight n (xs (i + 1)).toInt (xs (i + 2)).toInt mc = some r1) (H2 : f_X11_weight n (xs (i + 1)).toInt (xs (i + 2)).toInt mr = some r2) (he : r1.1 = r2.1) (hk : k + 4 ≤ 600000) (hs : s + 125 ≤ 7302250) (kk : AW l D base (0, Ls, xs) RL y cL_law 4 (some .boolean) 840 600000 7302250 ad hp0 PostL (k + 4) (s + 125) (E2 r1.2 r2.2) 1413 [(3, iv (i : Int)), (2, .ref 100), (1, .ref 1), (0, .ref 0)] []) : AW l D base (0, Ls, xs) RL y cL_law 4 (some .boolean) 840 600000 7302250 ad hp0 PostL k s (E2 mc mr) 746 [(3, iv (i : Int)), (2, .ref 100), (1, .ref 1), (0, .ref 0)] [] := by
  refine aw_aload_n (pc := 746) dL_law_746 rfl ?_
  refine aw_aload_n (pc := 747) dL_law_747 rfl ?_
  refine aw_iload_n (pc := 748) dL_law_748 rfl ?_
  refine cx_iconst (pc := 749) dL_law_749 ?_
  refine cx_iadd (pc := 750) dL_law_750 ?_
  refine cx_sld (sc := (0, Ls, xs)) (pc := 751) (i + 1) (w32_ij 1 (i + 1) (by omega) (by omega)) (by show i + 1 < Ls; omega) hL dL_law_751 ?_
  refine aw_aload_n (pc := 752) dL_law_752 rfl ?_
  refine aw_iload_n (pc := 753) dL_law_753 rfl ?_
  refine cx_iconst (pc := 754) dL_law_754 ?_
  refine cx_iadd (pc := 755) dL_law_755 ?_
  refine cx_sld (sc := (0, Ls, xs)) (pc := 756) (i + 2) (w32_ij 2 (i + 2) (by omega) (by omega)) (by show i + 2 < Ls; omega) hL dL_law_756 ?_
  refine aw_callV (pc := 757) (ci := 10) (dC := 6) (mcC := 4) (msC := 125) [iv (xs (i + 1)).toInt, iv (xs (i + 2)).toInt] (s_X10_weight l (0, Ls, xs) (fun mc => E2 mc mr) _ (LE_E2c mr) RCL_EC rfl n (xs (i + 1)).toInt (xs (i + 2)).toInt (inR_32 _) (inR_32 _) mc r1 H1) ca_L_82 (((LE_E2c mr).1 mc 1 (by decide)).trans (cel_obj rfl)) ⟨_, rfl, rfl⟩ rfl rfl (Nat.le_of_ble_eq_true rfl) (Nat.le_of_ble_eq_true rfl) hk hs dL_law_757 (fun v9 hp9 hq9 _ => ?_)
  obtain ⟨rfl, hr1, rfl⟩ := hq9
  refine AW.eqh (hp' := E2 r1.2 mr) rfl ?_
  refine aw_aload_n (pc := 760) dL_law_760 rfl ?_
  refine aw_aload_n (pc := 761) dL_law_761 rfl ?_
  refine aw_iload_n (pc := 762) dL_law_762 rfl ?_
  refine cx_iconst (pc := 763) dL_law_763 ?_
  refine cx_iadd (pc := 764) dL_law_764 ?_
  refine cx_sld (sc := (0, Ls, xs)) (pc := 765) (i + 1) (w32_ij 1 (i + 1) (by omega) (by omega)) (by show i + 1 < Ls; omega) hL dL_law_765 ?_
  refine aw_aload_n (pc := 766) dL_law_766 rfl ?_
  refine aw_iload_n (pc := 767) dL_law_767 rfl ?_
  refine cx_iconst (pc := 768) dL_law_768 ?_
  refine cx_iadd (pc := 769) dL_law_769 ?_
  refine cx_sld (sc := (0, Ls, xs)) (pc := 770) (i + 2) (w32_ij 2 (i + 2) (by omega) (by omega)) (by show i + 2 < Ls; omega) hL dL_law_770 ?_
  refine aw_callV (pc := 771) (ci := 11) (dC := 449) (mcC := 0) (msC := 0) [iv (xs (i + 1)).toInt, iv (xs (i + 2)).toInt] (s_X11_weight l (0, Ls, xs) (fun mr => E2 r1.2 mr) _ (LE_E2r r1.2) RRF_E2 n (xs (i + 1)).toInt (xs (i + 2)).toInt (inR_32 _) (inR_32 _) mr r2 H2) ca_L_85 (((LE_E2r r1.2).1 mr 100 (by decide)).trans (cel_obj rfl)) ⟨_, rfl, rfl⟩ rfl rfl (Nat.le_of_ble_eq_true rfl) (Nat.le_of_ble_eq_true rfl) hk hs dL_law_771 (fun v9 hp9 hq9 _ => ?_)
  obtain ⟨rfl, hr2, rfl⟩ := hq9
  refine AW.eqh (hp' := E2 r1.2 r2.2) rfl ?_
  refine aw_icmp_eq (pc := 774) 1413 dL_law_774 rfl (fun _ => ?_) (fun h => absurd (by rw [he]) h)
  exact kk
set_option maxRecDepth 100000 in
set_option maxHeartbeats 4000000 in
theorem law_17 {l : Launch} {D : va_G} {base Ls : Nat} {xs : Nat → Int32} {y : MethodName} {ad : Nat → Nat} {hp0 : g_H} {k s i : Nat} {mc mr : Mem} (hL : Ls ≤ 3072) (hi : i + 6 ≤ Ls) (n N : Nat) (r1 r2 : Rz) (H1 : f_X10_atomic n (xs (i + 1)).toInt mc = some r1) (H2 : f_X11_atomic n (xs (i + 1)).toInt mr = some r2) (he : r1.1 = r2.1) (hk : k + 0 ≤ 600000) (hs : s + 0 ≤ 7302250) (kk : AW l D base (0, Ls, xs) RL y cL_law 4 (some .boolean) 840 600000 7302250 ad hp0 PostL (k + 0) (s + 0) (E2 r1.2 r2.2) 1413 [(3, iv (i : Int)), (2, .ref 100), (1, .ref 1), (0, .ref 0)] []) : AW l D base (0, Ls, xs) RL y cL_law 4 (some .boolean) 840 600000 7302250 ad hp0 PostL k s (E2 mc mr) 779 [(3, iv (i : Int)), (2, .ref 100), (1, .ref 1), (0, .ref 0)] [] := by
  refine aw_aload_n (pc := 779) dL_law_779 rfl ?_
  refine aw_aload_n (pc := 780) dL_law_780 rfl ?_
  refine aw_iload_n (pc := 781) dL_law_781 rfl ?_
  refine cx_iconst (pc := 782) dL_law_782 ?_
  refine cx_iadd (pc := 783) dL_law_783 ?_
  refine cx_sld (sc := (0, Ls, xs)) (pc := 784) (i + 1) (w32_ij 1 (i + 1) (by omega) (by omega)) (by show i + 1 < Ls; omega) hL dL_law_784 ?_
  refine aw_callV (pc := 785) (ci := 10) (dC := 6) (mcC := 0) (msC := 0) [iv (xs (i + 1)).toInt] (s_X10_atomic l (0, Ls, xs) (fun mc => E2 mc mr) _ (LE_E2c mr) RCL_EC n (xs (i + 1)).toInt (inR_32 _) mc r1 H1) ca_L_86 (((LE_E2c mr).1 mc 1 (by decide)).trans (cel_obj rfl)) ⟨_, rfl, rfl⟩ rfl rfl (Nat.le_of_ble_eq_true rfl) (Nat.le_of_ble_eq_true rfl) hk hs dL_law_785 (fun v9 hp9 hq9 _ => ?_)
  obtain ⟨rfl, hr1, rfl⟩ := hq9
  refine AW.eqh (hp' := E2 r1.2 mr) rfl ?_
  refine aw_aload_n (pc := 788) dL_law_788 rfl ?_
  refine aw_aload_n (pc := 789) dL_law_789 rfl ?_
  refine aw_iload_n (pc := 790) dL_law_790 rfl ?_
  refine cx_iconst (pc := 791) dL_law_791 ?_
  refine cx_iadd (pc := 792) dL_law_792 ?_
  refine cx_sld (sc := (0, Ls, xs)) (pc := 793) (i + 1) (w32_ij 1 (i + 1) (by omega) (by omega)) (by show i + 1 < Ls; omega) hL dL_law_793 ?_
  refine aw_callV (pc := 794) (ci := 11) (dC := 450) (mcC := 0) (msC := 0) [iv (xs (i + 1)).toInt] (s_X11_atomic l (0, Ls, xs) (fun mr => E2 r1.2 mr) _ (LE_E2r r1.2) RRF_E2 n (xs (i + 1)).toInt (inR_32 _) mr r2 H2) ca_L_89 (((LE_E2r r1.2).1 mr 100 (by decide)).trans (cel_obj rfl)) ⟨_, rfl, rfl⟩ rfl rfl (Nat.le_of_ble_eq_true rfl) (Nat.le_of_ble_eq_true rfl) hk hs dL_law_794 (fun v9 hp9 hq9 _ => ?_)
  obtain ⟨rfl, hr2, rfl⟩ := hq9
  refine AW.eqh (hp' := E2 r1.2 r2.2) rfl ?_
  refine aw_icmp_eq (pc := 797) 1413 dL_law_797 rfl (fun _ => ?_) (fun h => absurd (by rw [he]) h)
  exact kk
set_option maxRecDepth 100000 in
set_option maxHeartbeats 4000000 in
theorem law_18 {l : Launch} {D : va_G} {base Ls : Nat} {xs : Nat → Int32} {y : MethodName} {ad : Nat → Nat} {hp0 : g_H} {k s i : Nat} {mc mr : Mem} (hL : Ls ≤ 3072) (hi : i + 6 ≤ Ls) (n N : Nat) (r1 r2 : Rz) (H1 : f_X10_ahead n (xs (i + 1)).toInt mc = some r1) (H2 : f_X11_ahead n (xs (i + 1)).toInt mr = some r2) (he : r1.1 = r2.1) (hk : k + 0 ≤ 600000) (hs : s + 0 ≤ 7302250) (kk : AW l D base (0, Ls, xs) RL y cL_law 4 (some .boolean) 840 600000 7302250 ad hp0 PostL (k + 0) (s + 0) (E2 r1.2 r2.2) 1413 [(3, iv (i : Int)), (2, .ref 100), (1, .ref 1), (0, .ref 0)] []) : AW l D base (0, Ls, xs) RL y cL_law 4 (some .boolean) 840 600000 7302250 ad hp0 PostL k s (E2 mc mr) 802 [(3, iv (i : Int)), (2, .ref 100), (1, .ref 1), (0, .ref 0)] [] := by
  refine aw_aload_n (pc := 802) dL_law_802 rfl ?_
  refine aw_aload_n (pc := 803) dL_law_803 rfl ?_
  refine aw_iload_n (pc := 804) dL_law_804 rfl ?_
  refine cx_iconst (pc := 805) dL_law_805 ?_
  refine cx_iadd (pc := 806) dL_law_806 ?_
  refine cx_sld (sc := (0, Ls, xs)) (pc := 807) (i + 1) (w32_ij 1 (i + 1) (by omega) (by omega)) (by show i + 1 < Ls; omega) hL dL_law_807 ?_
  refine aw_callV (pc := 808) (ci := 10) (dC := 6) (mcC := 0) (msC := 0) [iv (xs (i + 1)).toInt] (s_X10_ahead l (0, Ls, xs) (fun mc => E2 mc mr) _ (LE_E2c mr) RCL_EC n (xs (i + 1)).toInt (inR_32 _) mc r1 H1) ca_L_90 (((LE_E2c mr).1 mc 1 (by decide)).trans (cel_obj rfl)) ⟨_, rfl, rfl⟩ rfl rfl (Nat.le_of_ble_eq_true rfl) (Nat.le_of_ble_eq_true rfl) hk hs dL_law_808 (fun v9 hp9 hq9 _ => ?_)
  obtain ⟨rfl, hr1, rfl⟩ := hq9
  refine AW.eqh (hp' := E2 r1.2 mr) rfl ?_
  refine aw_aload_n (pc := 811) dL_law_811 rfl ?_
  refine aw_aload_n (pc := 812) dL_law_812 rfl ?_
  refine aw_iload_n (pc := 813) dL_law_813 rfl ?_
  refine cx_iconst (pc := 814) dL_law_814 ?_
  refine cx_iadd (pc := 815) dL_law_815 ?_
  refine cx_sld (sc := (0, Ls, xs)) (pc := 816) (i + 1) (w32_ij 1 (i + 1) (by omega) (by omega)) (by show i + 1 < Ls; omega) hL dL_law_816 ?_
  refine aw_callV (pc := 817) (ci := 11) (dC := 450) (mcC := 0) (msC := 0) [iv (xs (i + 1)).toInt] (s_X11_ahead l (0, Ls, xs) (fun mr => E2 r1.2 mr) _ (LE_E2r r1.2) RRF_E2 n (xs (i + 1)).toInt (inR_32 _) mr r2 H2) ca_L_93 (((LE_E2r r1.2).1 mr 100 (by decide)).trans (cel_obj rfl)) ⟨_, rfl, rfl⟩ rfl rfl (Nat.le_of_ble_eq_true rfl) (Nat.le_of_ble_eq_true rfl) hk hs dL_law_817 (fun v9 hp9 hq9 _ => ?_)
  obtain ⟨rfl, hr2, rfl⟩ := hq9
  refine AW.eqh (hp' := E2 r1.2 r2.2) rfl ?_
  refine aw_icmp_eq (pc := 820) 1413 dL_law_820 rfl (fun _ => ?_) (fun h => absurd (by rw [he]) h)
  exact kk
set_option maxRecDepth 100000 in
set_option maxHeartbeats 4000000 in
theorem law_19 {l : Launch} {D : va_G} {base Ls : Nat} {xs : Nat → Int32} {y : MethodName} {ad : Nat → Nat} {hp0 : g_H} {k s i : Nat} {mc mr : Mem} (hL : Ls ≤ 3072) (hi : i + 6 ≤ Ls) (n N : Nat) (r1 r2 : Rz) (H1 : f_X10_garden n (xs (i + 1)).toInt mc = some r1) (H2 : f_X11_garden n (xs (i + 1)).toInt mr = some r2) (he : r1.1 = r2.1) (hk : k + 0 ≤ 600000) (hs : s + 0 ≤ 7302250) (kk : AW l D base (0, Ls, xs) RL y cL_law 4 (some .boolean) 840 600000 7302250 ad hp0 PostL (k + 0) (s + 0) (E2 r1.2 r2.2) 1413 [(3, iv (i : Int)), (2, .ref 100), (1, .ref 1), (0, .ref 0)] []) : AW l D base (0, Ls, xs) RL y cL_law 4 (some .boolean) 840 600000 7302250 ad hp0 PostL k s (E2 mc mr) 825 [(3, iv (i : Int)), (2, .ref 100), (1, .ref 1), (0, .ref 0)] [] := by
  refine aw_aload_n (pc := 825) dL_law_825 rfl ?_
  refine aw_aload_n (pc := 826) dL_law_826 rfl ?_
  refine aw_iload_n (pc := 827) dL_law_827 rfl ?_
  refine cx_iconst (pc := 828) dL_law_828 ?_
  refine cx_iadd (pc := 829) dL_law_829 ?_
  refine cx_sld (sc := (0, Ls, xs)) (pc := 830) (i + 1) (w32_ij 1 (i + 1) (by omega) (by omega)) (by show i + 1 < Ls; omega) hL dL_law_830 ?_
  refine aw_callV (pc := 831) (ci := 10) (dC := 6) (mcC := 0) (msC := 0) [iv (xs (i + 1)).toInt] (s_X10_garden l (0, Ls, xs) (fun mc => E2 mc mr) _ (LE_E2c mr) RCL_EC n (xs (i + 1)).toInt (inR_32 _) mc r1 H1) ca_L_94 (((LE_E2c mr).1 mc 1 (by decide)).trans (cel_obj rfl)) ⟨_, rfl, rfl⟩ rfl rfl (Nat.le_of_ble_eq_true rfl) (Nat.le_of_ble_eq_true rfl) hk hs dL_law_831 (fun v9 hp9 hq9 _ => ?_)
  obtain ⟨rfl, hr1, rfl⟩ := hq9
  refine AW.eqh (hp' := E2 r1.2 mr) rfl ?_
  refine aw_aload_n (pc := 834) dL_law_834 rfl ?_
  refine aw_aload_n (pc := 835) dL_law_835 rfl ?_
  refine aw_iload_n (pc := 836) dL_law_836 rfl ?_
  refine cx_iconst (pc := 837) dL_law_837 ?_
  refine cx_iadd (pc := 838) dL_law_838 ?_
  refine cx_sld (sc := (0, Ls, xs)) (pc := 839) (i + 1) (w32_ij 1 (i + 1) (by omega) (by omega)) (by show i + 1 < Ls; omega) hL dL_law_839 ?_
  refine aw_callV (pc := 840) (ci := 11) (dC := 450) (mcC := 0) (msC := 0) [iv (xs (i + 1)).toInt] (s_X11_garden l (0, Ls, xs) (fun mr => E2 r1.2 mr) _ (LE_E2r r1.2) RRF_E2 n (xs (i + 1)).toInt (inR_32 _) mr r2 H2) ca_L_97 (((LE_E2r r1.2).1 mr 100 (by decide)).trans (cel_obj rfl)) ⟨_, rfl, rfl⟩ rfl rfl (Nat.le_of_ble_eq_true rfl) (Nat.le_of_ble_eq_true rfl) hk hs dL_law_840 (fun v9 hp9 hq9 _ => ?_)
  obtain ⟨rfl, hr2, rfl⟩ := hq9
  refine AW.eqh (hp' := E2 r1.2 r2.2) rfl ?_
  refine aw_icmp_eq (pc := 843) 1413 dL_law_843 rfl (fun _ => ?_) (fun h => absurd (by rw [he]) h)
  exact kk
set_option maxRecDepth 100000 in
set_option maxHeartbeats 4000000 in
theorem law_20 {l : Launch} {D : va_G} {base Ls : Nat} {xs : Nat → Int32} {y : MethodName} {ad : Nat → Nat} {hp0 : g_H} {k s i : Nat} {mc mr : Mem} (hL : Ls ≤ 3072) (hi : i + 6 ≤ Ls) (n N : Nat) (r1 r2 : Rz) (H1 : f_X10_reply n (xs (i + 1)).toInt (xs (i + 2)).toInt (xs (i + 3)).toInt (xs (i + 4)).toInt mc = some r1) (H2 : f_X11_reply n (xs (i + 1)).toInt (xs (i + 2)).toInt (xs (i + 3)).toInt (xs (i + 4)).toInt mr = some r2) (he : r1.1 = r2.1) (hk : k + 0 ≤ 600000) (hs : s + 0 ≤ 7302250) (kk : AW l D base (0, Ls, xs) RL y cL_law 4 (some .boolean) 840 600000 7302250 ad hp0 PostL (k + 0) (s + 0) (E2 r1.2 r2.2) 1413 [(3, iv (i : Int)), (2, .ref 100), (1, .ref 1), (0, .ref 0)] []) : AW l D base (0, Ls, xs) RL y cL_law 4 (some .boolean) 840 600000 7302250 ad hp0 PostL k s (E2 mc mr) 848 [(3, iv (i : Int)), (2, .ref 100), (1, .ref 1), (0, .ref 0)] [] := by
  refine aw_aload_n (pc := 848) dL_law_848 rfl ?_
  refine aw_aload_n (pc := 849) dL_law_849 rfl ?_
  refine aw_iload_n (pc := 850) dL_law_850 rfl ?_
  refine cx_iconst (pc := 851) dL_law_851 ?_
  refine cx_iadd (pc := 852) dL_law_852 ?_
  refine cx_sld (sc := (0, Ls, xs)) (pc := 853) (i + 1) (w32_ij 1 (i + 1) (by omega) (by omega)) (by show i + 1 < Ls; omega) hL dL_law_853 ?_
  refine aw_aload_n (pc := 854) dL_law_854 rfl ?_
  refine aw_iload_n (pc := 855) dL_law_855 rfl ?_
  refine cx_iconst (pc := 856) dL_law_856 ?_
  refine cx_iadd (pc := 857) dL_law_857 ?_
  refine cx_sld (sc := (0, Ls, xs)) (pc := 858) (i + 2) (w32_ij 2 (i + 2) (by omega) (by omega)) (by show i + 2 < Ls; omega) hL dL_law_858 ?_
  refine aw_aload_n (pc := 859) dL_law_859 rfl ?_
  refine aw_iload_n (pc := 860) dL_law_860 rfl ?_
  refine cx_iconst (pc := 861) dL_law_861 ?_
  refine cx_iadd (pc := 862) dL_law_862 ?_
  refine cx_sld (sc := (0, Ls, xs)) (pc := 863) (i + 3) (w32_ij 3 (i + 3) (by omega) (by omega)) (by show i + 3 < Ls; omega) hL dL_law_863 ?_
  refine aw_aload_n (pc := 864) dL_law_864 rfl ?_
  refine aw_iload_n (pc := 865) dL_law_865 rfl ?_
  refine cx_iconst (pc := 866) dL_law_866 ?_
  refine cx_iadd (pc := 867) dL_law_867 ?_
  refine cx_sld (sc := (0, Ls, xs)) (pc := 868) (i + 4) (w32_ij 4 (i + 4) (by omega) (by omega)) (by show i + 4 < Ls; omega) hL dL_law_868 ?_
  refine aw_callV (pc := 869) (ci := 10) (dC := 4) (mcC := 0) (msC := 0) [iv (xs (i + 1)).toInt, iv (xs (i + 2)).toInt, iv (xs (i + 3)).toInt, iv (xs (i + 4)).toInt] (s_X10_reply l (0, Ls, xs) (fun mc => E2 mc mr) _ (LE_E2c mr) RCL_EC n (xs (i + 1)).toInt (xs (i + 2)).toInt (xs (i + 3)).toInt (xs (i + 4)).toInt (inR_32 _) (inR_32 _) (inR_32 _) (inR_32 _) mc r1 H1) ca_L_98 (((LE_E2c mr).1 mc 1 (by decide)).trans (cel_obj rfl)) ⟨_, rfl, rfl⟩ rfl rfl (Nat.le_of_ble_eq_true rfl) (Nat.le_of_ble_eq_true rfl) hk hs dL_law_869 (fun v9 hp9 hq9 _ => ?_)
  obtain ⟨rfl, hr1, rfl⟩ := hq9
  refine AW.eqh (hp' := E2 r1.2 mr) rfl ?_
  refine aw_aload_n (pc := 872) dL_law_872 rfl ?_
  refine aw_aload_n (pc := 873) dL_law_873 rfl ?_
  refine aw_iload_n (pc := 874) dL_law_874 rfl ?_
  refine cx_iconst (pc := 875) dL_law_875 ?_
  refine cx_iadd (pc := 876) dL_law_876 ?_
  refine cx_sld (sc := (0, Ls, xs)) (pc := 877) (i + 1) (w32_ij 1 (i + 1) (by omega) (by omega)) (by show i + 1 < Ls; omega) hL dL_law_877 ?_
  refine aw_aload_n (pc := 878) dL_law_878 rfl ?_
  refine aw_iload_n (pc := 879) dL_law_879 rfl ?_
  refine cx_iconst (pc := 880) dL_law_880 ?_
  refine cx_iadd (pc := 881) dL_law_881 ?_
  refine cx_sld (sc := (0, Ls, xs)) (pc := 882) (i + 2) (w32_ij 2 (i + 2) (by omega) (by omega)) (by show i + 2 < Ls; omega) hL dL_law_882 ?_
  refine aw_aload_n (pc := 883) dL_law_883 rfl ?_
  refine aw_iload_n (pc := 884) dL_law_884 rfl ?_
  refine cx_iconst (pc := 885) dL_law_885 ?_
  refine cx_iadd (pc := 886) dL_law_886 ?_
  refine cx_sld (sc := (0, Ls, xs)) (pc := 887) (i + 3) (w32_ij 3 (i + 3) (by omega) (by omega)) (by show i + 3 < Ls; omega) hL dL_law_887 ?_
  refine aw_aload_n (pc := 888) dL_law_888 rfl ?_
  refine aw_iload_n (pc := 889) dL_law_889 rfl ?_
  refine cx_iconst (pc := 890) dL_law_890 ?_
  refine cx_iadd (pc := 891) dL_law_891 ?_
  refine cx_sld (sc := (0, Ls, xs)) (pc := 892) (i + 4) (w32_ij 4 (i + 4) (by omega) (by omega)) (by show i + 4 < Ls; omega) hL dL_law_892 ?_
  refine aw_callV (pc := 893) (ci := 11) (dC := 409) (mcC := 0) (msC := 0) [iv (xs (i + 1)).toInt, iv (xs (i + 2)).toInt, iv (xs (i + 3)).toInt, iv (xs (i + 4)).toInt] (s_X11_reply l (0, Ls, xs) (fun mr => E2 r1.2 mr) _ (LE_E2r r1.2) RRF_E2 n (xs (i + 1)).toInt (xs (i + 2)).toInt (xs (i + 3)).toInt (xs (i + 4)).toInt (inR_32 _) (inR_32 _) (inR_32 _) (inR_32 _) mr r2 H2) ca_L_101 (((LE_E2r r1.2).1 mr 100 (by decide)).trans (cel_obj rfl)) ⟨_, rfl, rfl⟩ rfl rfl (Nat.le_of_ble_eq_true rfl) (Nat.le_of_ble_eq_true rfl) hk hs dL_law_893 (fun v9 hp9 hq9 _ => ?_)
  obtain ⟨rfl, hr2, rfl⟩ := hq9
  refine AW.eqh (hp' := E2 r1.2 r2.2) rfl ?_
  refine aw_icmp_eq (pc := 896) 1413 dL_law_896 rfl (fun _ => ?_) (fun h => absurd (by rw [he]) h)
  exact kk
set_option maxRecDepth 100000 in
set_option maxHeartbeats 4000000 in
theorem law_21 {l : Launch} {D : va_G} {base Ls : Nat} {xs : Nat → Int32} {y : MethodName} {ad : Nat → Nat} {hp0 : g_H} {k s i : Nat} {mc mr : Mem} (hL : Ls ≤ 3072) (hi : i + 6 ≤ Ls) (n N : Nat) (r1 r2 : Rz) (H1 : f_X10_fight n (xs (i + 1)).toInt (xs (i + 2)).toInt (xs (i + 3)).toInt (xs (i + 4)).toInt mc = some r1) (H2 : f_X11_fight n (xs (i + 1)).toInt (xs (i + 2)).toInt (xs (i + 3)).toInt (xs (i + 4)).toInt mr = some r2) (he : r1.1 = r2.1) (hk : k + 0 ≤ 600000) (hs : s + 0 ≤ 7302250) (kk : AW l D base (0, Ls, xs) RL y cL_law 4 (some .boolean) 840 600000 7302250 ad hp0 PostL (k + 0) (s + 0) (E2 r1.2 r2.2) 1413 [(3, iv (i : Int)), (2, .ref 100), (1, .ref 1), (0, .ref 0)] []) : AW l D base (0, Ls, xs) RL y cL_law 4 (some .boolean) 840 600000 7302250 ad hp0 PostL k s (E2 mc mr) 901 [(3, iv (i : Int)), (2, .ref 100), (1, .ref 1), (0, .ref 0)] [] := by
  refine aw_aload_n (pc := 901) dL_law_901 rfl ?_
  refine aw_aload_n (pc := 902) dL_law_902 rfl ?_
  refine aw_iload_n (pc := 903) dL_law_903 rfl ?_
  refine cx_iconst (pc := 904) dL_law_904 ?_
  refine cx_iadd (pc := 905) dL_law_905 ?_
  refine cx_sld (sc := (0, Ls, xs)) (pc := 906) (i + 1) (w32_ij 1 (i + 1) (by omega) (by omega)) (by show i + 1 < Ls; omega) hL dL_law_906 ?_
  refine aw_aload_n (pc := 907) dL_law_907 rfl ?_
  refine aw_iload_n (pc := 908) dL_law_908 rfl ?_
  refine cx_iconst (pc := 909) dL_law_909 ?_
  refine cx_iadd (pc := 910) dL_law_910 ?_
  refine cx_sld (sc := (0, Ls, xs)) (pc := 911) (i + 2) (w32_ij 2 (i + 2) (by omega) (by omega)) (by show i + 2 < Ls; omega) hL dL_law_911 ?_
  refine aw_aload_n (pc := 912) dL_law_912 rfl ?_
  refine aw_iload_n (pc := 913) dL_law_913 rfl ?_
  refine cx_iconst (pc := 914) dL_law_914 ?_
  refine cx_iadd (pc := 915) dL_law_915 ?_
  refine cx_sld (sc := (0, Ls, xs)) (pc := 916) (i + 3) (w32_ij 3 (i + 3) (by omega) (by omega)) (by show i + 3 < Ls; omega) hL dL_law_916 ?_
  refine aw_aload_n (pc := 917) dL_law_917 rfl ?_
  refine aw_iload_n (pc := 918) dL_law_918 rfl ?_
  refine cx_iconst (pc := 919) dL_law_919 ?_
  refine cx_iadd (pc := 920) dL_law_920 ?_
  refine cx_sld (sc := (0, Ls, xs)) (pc := 921) (i + 4) (w32_ij 4 (i + 4) (by omega) (by omega)) (by show i + 4 < Ls; omega) hL dL_law_921 ?_
  refine aw_callV (pc := 922) (ci := 10) (dC := 5) (mcC := 0) (msC := 0) [iv (xs (i + 1)).toInt, iv (xs (i + 2)).toInt, iv (xs (i + 3)).toInt, iv (xs (i + 4)).toInt] (s_X10_fight l (0, Ls, xs) (fun mc => E2 mc mr) _ (LE_E2c mr) RCL_EC n (xs (i + 1)).toInt (xs (i + 2)).toInt (xs (i + 3)).toInt (xs (i + 4)).toInt (inR_32 _) (inR_32 _) (inR_32 _) (inR_32 _) mc r1 H1) ca_L_102 (((LE_E2c mr).1 mc 1 (by decide)).trans (cel_obj rfl)) ⟨_, rfl, rfl⟩ rfl rfl (Nat.le_of_ble_eq_true rfl) (Nat.le_of_ble_eq_true rfl) hk hs dL_law_922 (fun v9 hp9 hq9 _ => ?_)
  obtain ⟨rfl, hr1, rfl⟩ := hq9
  refine AW.eqh (hp' := E2 r1.2 mr) rfl ?_
  refine aw_aload_n (pc := 925) dL_law_925 rfl ?_
  refine aw_aload_n (pc := 926) dL_law_926 rfl ?_
  refine aw_iload_n (pc := 927) dL_law_927 rfl ?_
  refine cx_iconst (pc := 928) dL_law_928 ?_
  refine cx_iadd (pc := 929) dL_law_929 ?_
  refine cx_sld (sc := (0, Ls, xs)) (pc := 930) (i + 1) (w32_ij 1 (i + 1) (by omega) (by omega)) (by show i + 1 < Ls; omega) hL dL_law_930 ?_
  refine aw_aload_n (pc := 931) dL_law_931 rfl ?_
  refine aw_iload_n (pc := 932) dL_law_932 rfl ?_
  refine cx_iconst (pc := 933) dL_law_933 ?_
  refine cx_iadd (pc := 934) dL_law_934 ?_
  refine cx_sld (sc := (0, Ls, xs)) (pc := 935) (i + 2) (w32_ij 2 (i + 2) (by omega) (by omega)) (by show i + 2 < Ls; omega) hL dL_law_935 ?_
  refine aw_aload_n (pc := 936) dL_law_936 rfl ?_
  refine aw_iload_n (pc := 937) dL_law_937 rfl ?_
  refine cx_iconst (pc := 938) dL_law_938 ?_
  refine cx_iadd (pc := 939) dL_law_939 ?_
  refine cx_sld (sc := (0, Ls, xs)) (pc := 940) (i + 3) (w32_ij 3 (i + 3) (by omega) (by omega)) (by show i + 3 < Ls; omega) hL dL_law_940 ?_
  refine aw_aload_n (pc := 941) dL_law_941 rfl ?_
  refine aw_iload_n (pc := 942) dL_law_942 rfl ?_
  refine cx_iconst (pc := 943) dL_law_943 ?_
  refine cx_iadd (pc := 944) dL_law_944 ?_
  refine cx_sld (sc := (0, Ls, xs)) (pc := 945) (i + 4) (w32_ij 4 (i + 4) (by omega) (by omega)) (by show i + 4 < Ls; omega) hL dL_law_945 ?_
  refine aw_callV (pc := 946) (ci := 11) (dC := 409) (mcC := 0) (msC := 0) [iv (xs (i + 1)).toInt, iv (xs (i + 2)).toInt, iv (xs (i + 3)).toInt, iv (xs (i + 4)).toInt] (s_X11_fight l (0, Ls, xs) (fun mr => E2 r1.2 mr) _ (LE_E2r r1.2) RRF_E2 n (xs (i + 1)).toInt (xs (i + 2)).toInt (xs (i + 3)).toInt (xs (i + 4)).toInt (inR_32 _) (inR_32 _) (inR_32 _) (inR_32 _) mr r2 H2) ca_L_105 (((LE_E2r r1.2).1 mr 100 (by decide)).trans (cel_obj rfl)) ⟨_, rfl, rfl⟩ rfl rfl (Nat.le_of_ble_eq_true rfl) (Nat.le_of_ble_eq_true rfl) hk hs dL_law_946 (fun v9 hp9 hq9 _ => ?_)
  obtain ⟨rfl, hr2, rfl⟩ := hq9
  refine AW.eqh (hp' := E2 r1.2 r2.2) rfl ?_
  refine aw_icmp_eq (pc := 949) 1413 dL_law_949 rfl (fun _ => ?_) (fun h => absurd (by rw [he]) h)
  exact kk
set_option maxRecDepth 100000 in
set_option maxHeartbeats 4000000 in
theorem law_22 {l : Launch} {D : va_G} {base Ls : Nat} {xs : Nat → Int32} {y : MethodName} {ad : Nat → Nat} {hp0 : g_H} {k s i : Nat} {mc mr : Mem} (hL : Ls ≤ 3072) (hi : i + 6 ≤ Ls) (n N : Nat) (r1 r2 : Rz) (H1 : f_X10_plays n (xs (i + 1)).toInt (xs (i + 2)).toInt (xs (i + 3)).toInt mc = some r1) (H2 : f_X11_plays n (xs (i + 1)).toInt (xs (i + 2)).toInt (xs (i + 3)).toInt mr = some r2) (he : r1.1 = r2.1) (hk : k + 0 ≤ 600000) (hs : s + 0 ≤ 7302250) (kk : AW l D base (0, Ls, xs) RL y cL_law 4 (some .boolean) 840 600000 7302250 ad hp0 PostL (k + 0) (s + 0) (E2 r1.2 r2.2) 1413 [(3, iv (i : Int)), (2, .ref 100), (1, .ref 1), (0, .ref 0)] []) : AW l D base (0, Ls, xs) RL y cL_law 4 (some .boolean) 840 600000 7302250 ad hp0 PostL k s (E2 mc mr) 954 [(3, iv (i : Int)), (2, .ref 100), (1, .ref 1), (0, .ref 0)] [] := by
  refine aw_aload_n (pc := 954) dL_law_954 rfl ?_
  refine aw_aload_n (pc := 955) dL_law_955 rfl ?_
  refine aw_iload_n (pc := 956) dL_law_956 rfl ?_
  refine cx_iconst (pc := 957) dL_law_957 ?_
  refine cx_iadd (pc := 958) dL_law_958 ?_
  refine cx_sld (sc := (0, Ls, xs)) (pc := 959) (i + 1) (w32_ij 1 (i + 1) (by omega) (by omega)) (by show i + 1 < Ls; omega) hL dL_law_959 ?_
  refine aw_aload_n (pc := 960) dL_law_960 rfl ?_
  refine aw_iload_n (pc := 961) dL_law_961 rfl ?_
  refine cx_iconst (pc := 962) dL_law_962 ?_
  refine cx_iadd (pc := 963) dL_law_963 ?_
  refine cx_sld (sc := (0, Ls, xs)) (pc := 964) (i + 2) (w32_ij 2 (i + 2) (by omega) (by omega)) (by show i + 2 < Ls; omega) hL dL_law_964 ?_
  refine aw_aload_n (pc := 965) dL_law_965 rfl ?_
  refine aw_iload_n (pc := 966) dL_law_966 rfl ?_
  refine cx_iconst (pc := 967) dL_law_967 ?_
  refine cx_iadd (pc := 968) dL_law_968 ?_
  refine cx_sld (sc := (0, Ls, xs)) (pc := 969) (i + 3) (w32_ij 3 (i + 3) (by omega) (by omega)) (by show i + 3 < Ls; omega) hL dL_law_969 ?_
  refine aw_callV (pc := 970) (ci := 10) (dC := 5) (mcC := 0) (msC := 0) [iv (xs (i + 1)).toInt, iv (xs (i + 2)).toInt, iv (xs (i + 3)).toInt] (s_X10_plays l (0, Ls, xs) (fun mc => E2 mc mr) _ (LE_E2c mr) RCL_EC n (xs (i + 1)).toInt (xs (i + 2)).toInt (xs (i + 3)).toInt (inR_32 _) (inR_32 _) (inR_32 _) mc r1 H1) ca_L_106 (((LE_E2c mr).1 mc 1 (by decide)).trans (cel_obj rfl)) ⟨_, rfl, rfl⟩ rfl rfl (Nat.le_of_ble_eq_true rfl) (Nat.le_of_ble_eq_true rfl) hk hs dL_law_970 (fun v9 hp9 hq9 _ => ?_)
  obtain ⟨rfl, hr1, rfl⟩ := hq9
  refine AW.eqh (hp' := E2 r1.2 mr) rfl ?_
  refine aw_aload_n (pc := 973) dL_law_973 rfl ?_
  refine aw_aload_n (pc := 974) dL_law_974 rfl ?_
  refine aw_iload_n (pc := 975) dL_law_975 rfl ?_
  refine cx_iconst (pc := 976) dL_law_976 ?_
  refine cx_iadd (pc := 977) dL_law_977 ?_
  refine cx_sld (sc := (0, Ls, xs)) (pc := 978) (i + 1) (w32_ij 1 (i + 1) (by omega) (by omega)) (by show i + 1 < Ls; omega) hL dL_law_978 ?_
  refine aw_aload_n (pc := 979) dL_law_979 rfl ?_
  refine aw_iload_n (pc := 980) dL_law_980 rfl ?_
  refine cx_iconst (pc := 981) dL_law_981 ?_
  refine cx_iadd (pc := 982) dL_law_982 ?_
  refine cx_sld (sc := (0, Ls, xs)) (pc := 983) (i + 2) (w32_ij 2 (i + 2) (by omega) (by omega)) (by show i + 2 < Ls; omega) hL dL_law_983 ?_
  refine aw_aload_n (pc := 984) dL_law_984 rfl ?_
  refine aw_iload_n (pc := 985) dL_law_985 rfl ?_
  refine cx_iconst (pc := 986) dL_law_986 ?_
  refine cx_iadd (pc := 987) dL_law_987 ?_
  refine cx_sld (sc := (0, Ls, xs)) (pc := 988) (i + 3) (w32_ij 3 (i + 3) (by omega) (by omega)) (by show i + 3 < Ls; omega) hL dL_law_988 ?_
  refine aw_callV (pc := 989) (ci := 11) (dC := 203) (mcC := 0) (msC := 0) [iv (xs (i + 1)).toInt, iv (xs (i + 2)).toInt, iv (xs (i + 3)).toInt] (s_X11_plays l (0, Ls, xs) (fun mr => E2 r1.2 mr) _ (LE_E2r r1.2) RRF_E2 n (xs (i + 1)).toInt (xs (i + 2)).toInt (xs (i + 3)).toInt (inR_32 _) (inR_32 _) (inR_32 _) mr r2 H2) ca_L_109 (((LE_E2r r1.2).1 mr 100 (by decide)).trans (cel_obj rfl)) ⟨_, rfl, rfl⟩ rfl rfl (Nat.le_of_ble_eq_true rfl) (Nat.le_of_ble_eq_true rfl) hk hs dL_law_989 (fun v9 hp9 hq9 _ => ?_)
  obtain ⟨rfl, hr2, rfl⟩ := hq9
  refine AW.eqh (hp' := E2 r1.2 r2.2) rfl ?_
  refine aw_icmp_eq (pc := 992) 1413 dL_law_992 rfl (fun _ => ?_) (fun h => absurd (by rw [he]) h)
  exact kk
set_option maxRecDepth 100000 in
set_option maxHeartbeats 4000000 in
theorem law_23 {l : Launch} {D : va_G} {base Ls : Nat} {xs : Nat → Int32} {y : MethodName} {ad : Nat → Nat} {hp0 : g_H} {k s i : Nat} {mc mr : Mem} (hL : Ls ≤ 3072) (hi : i + 6 ≤ Ls) (n N : Nat) (r1 r2 : Rz) (H1 : f_X10_born n N (xs (i + 1)).toInt (xs (i + 2)).toInt (xs (i + 3)).toInt mc = some r1) (H2 : f_X11_born n (xs (i + 1)).toInt (xs (i + 2)).toInt (xs (i + 3)).toInt mr = some r2) (he : r1.1 = r2.1) (hk : k + (4 * N) ≤ 600000) (hs : s + (125 * N) ≤ 7302250) (kk : AW l D base (0, Ls, xs) RL y cL_law 4 (some .boolean) 840 600000 7302250 ad hp0 PostL (k + (4 * N)) (s + (125 * N)) (E2 r1.2 r2.2) 1413 [(3, iv (i : Int)), (2, .ref 100), (1, .ref 1), (0, .ref 0)] []) : AW l D base (0, Ls, xs) RL y cL_law 4 (some .boolean) 840 600000 7302250 ad hp0 PostL k s (E2 mc mr) 997 [(3, iv (i : Int)), (2, .ref 100), (1, .ref 1), (0, .ref 0)] [] := by
  refine aw_aload_n (pc := 997) dL_law_997 rfl ?_
  refine aw_aload_n (pc := 998) dL_law_998 rfl ?_
  refine aw_iload_n (pc := 999) dL_law_999 rfl ?_
  refine cx_iconst (pc := 1000) dL_law_1000 ?_
  refine cx_iadd (pc := 1001) dL_law_1001 ?_
  refine cx_sld (sc := (0, Ls, xs)) (pc := 1002) (i + 1) (w32_ij 1 (i + 1) (by omega) (by omega)) (by show i + 1 < Ls; omega) hL dL_law_1002 ?_
  refine aw_aload_n (pc := 1003) dL_law_1003 rfl ?_
  refine aw_iload_n (pc := 1004) dL_law_1004 rfl ?_
  refine cx_iconst (pc := 1005) dL_law_1005 ?_
  refine cx_iadd (pc := 1006) dL_law_1006 ?_
  refine cx_sld (sc := (0, Ls, xs)) (pc := 1007) (i + 2) (w32_ij 2 (i + 2) (by omega) (by omega)) (by show i + 2 < Ls; omega) hL dL_law_1007 ?_
  refine aw_aload_n (pc := 1008) dL_law_1008 rfl ?_
  refine aw_iload_n (pc := 1009) dL_law_1009 rfl ?_
  refine cx_iconst (pc := 1010) dL_law_1010 ?_
  refine cx_iadd (pc := 1011) dL_law_1011 ?_
  refine cx_sld (sc := (0, Ls, xs)) (pc := 1012) (i + 3) (w32_ij 3 (i + 3) (by omega) (by omega)) (by show i + 3 < Ls; omega) hL dL_law_1012 ?_
  refine aw_callV (pc := 1013) (ci := 10) (dC := 7) (mcC := (4 * N)) (msC := (125 * N)) [iv (xs (i + 1)).toInt, iv (xs (i + 2)).toInt, iv (xs (i + 3)).toInt] (s_X10_born l (0, Ls, xs) (fun mc => E2 mc mr) _ (LE_E2c mr) RCL_EC rfl n N (xs (i + 1)).toInt (xs (i + 2)).toInt (xs (i + 3)).toInt (inR_32 _) (inR_32 _) (inR_32 _) mc r1 H1) ca_L_110 (((LE_E2c mr).1 mc 1 (by decide)).trans (cel_obj rfl)) ⟨_, rfl, rfl⟩ rfl rfl (Nat.le_of_ble_eq_true rfl) (Nat.le_of_ble_eq_true rfl) hk hs dL_law_1013 (fun v9 hp9 hq9 _ => ?_)
  obtain ⟨rfl, hr1, rfl⟩ := hq9
  refine AW.eqh (hp' := E2 r1.2 mr) rfl ?_
  refine aw_aload_n (pc := 1016) dL_law_1016 rfl ?_
  refine aw_aload_n (pc := 1017) dL_law_1017 rfl ?_
  refine aw_iload_n (pc := 1018) dL_law_1018 rfl ?_
  refine cx_iconst (pc := 1019) dL_law_1019 ?_
  refine cx_iadd (pc := 1020) dL_law_1020 ?_
  refine cx_sld (sc := (0, Ls, xs)) (pc := 1021) (i + 1) (w32_ij 1 (i + 1) (by omega) (by omega)) (by show i + 1 < Ls; omega) hL dL_law_1021 ?_
  refine aw_aload_n (pc := 1022) dL_law_1022 rfl ?_
  refine aw_iload_n (pc := 1023) dL_law_1023 rfl ?_
  refine cx_iconst (pc := 1024) dL_law_1024 ?_
  refine cx_iadd (pc := 1025) dL_law_1025 ?_
  refine cx_sld (sc := (0, Ls, xs)) (pc := 1026) (i + 2) (w32_ij 2 (i + 2) (by omega) (by omega)) (by show i + 2 < Ls; omega) hL dL_law_1026 ?_
  refine aw_aload_n (pc := 1027) dL_law_1027 rfl ?_
  refine aw_iload_n (pc := 1028) dL_law_1028 rfl ?_
  refine cx_iconst (pc := 1029) dL_law_1029 ?_
  refine cx_iadd (pc := 1030) dL_law_1030 ?_
  refine cx_sld (sc := (0, Ls, xs)) (pc := 1031) (i + 3) (w32_ij 3 (i + 3) (by omega) (by omega)) (by show i + 3 < Ls; omega) hL dL_law_1031 ?_
  refine aw_callV (pc := 1032) (ci := 11) (dC := 309) (mcC := 0) (msC := 0) [iv (xs (i + 1)).toInt, iv (xs (i + 2)).toInt, iv (xs (i + 3)).toInt] (s_X11_born l (0, Ls, xs) (fun mr => E2 r1.2 mr) _ (LE_E2r r1.2) RRF_E2 n (xs (i + 1)).toInt (xs (i + 2)).toInt (xs (i + 3)).toInt (inR_32 _) (inR_32 _) (inR_32 _) mr r2 H2) ca_L_113 (((LE_E2r r1.2).1 mr 100 (by decide)).trans (cel_obj rfl)) ⟨_, rfl, rfl⟩ rfl rfl (Nat.le_of_ble_eq_true rfl) (Nat.le_of_ble_eq_true rfl) hk hs dL_law_1032 (fun v9 hp9 hq9 _ => ?_)
  obtain ⟨rfl, hr2, rfl⟩ := hq9
  refine AW.eqh (hp' := E2 r1.2 r2.2) rfl ?_
  refine aw_icmp_eq (pc := 1035) 1413 dL_law_1035 rfl (fun _ => ?_) (fun h => absurd (by rw [he]) h)
  exact kk
set_option maxRecDepth 100000 in
set_option maxHeartbeats 4000000 in
theorem law_24 {l : Launch} {D : va_G} {base Ls : Nat} {xs : Nat → Int32} {y : MethodName} {ad : Nat → Nat} {hp0 : g_H} {k s i : Nat} {mc mr : Mem} (hL : Ls ≤ 3072) (hi : i + 6 ≤ Ls) (n N : Nat) (r1 r2 : Rz) (H1 : f_X10_place n N (xs (i + 1)).toInt (xs (i + 2)).toInt mc = some r1) (H2 : f_X11_place n (xs (i + 1)).toInt (xs (i + 2)).toInt mr = some r2) (he : r1.1 = r2.1) (hk : k + (4 * N) ≤ 600000) (hs : s + (125 * N) ≤ 7302250) (kk : AW l D base (0, Ls, xs) RL y cL_law 4 (some .boolean) 840 600000 7302250 ad hp0 PostL (k + (4 * N)) (s + (125 * N)) (E2 r1.2 r2.2) 1413 [(3, iv (i : Int)), (2, .ref 100), (1, .ref 1), (0, .ref 0)] []) : AW l D base (0, Ls, xs) RL y cL_law 4 (some .boolean) 840 600000 7302250 ad hp0 PostL k s (E2 mc mr) 1040 [(3, iv (i : Int)), (2, .ref 100), (1, .ref 1), (0, .ref 0)] [] := by
  refine aw_aload_n (pc := 1040) dL_law_1040 rfl ?_
  refine aw_aload_n (pc := 1041) dL_law_1041 rfl ?_
  refine aw_iload_n (pc := 1042) dL_law_1042 rfl ?_
  refine cx_iconst (pc := 1043) dL_law_1043 ?_
  refine cx_iadd (pc := 1044) dL_law_1044 ?_
  refine cx_sld (sc := (0, Ls, xs)) (pc := 1045) (i + 1) (w32_ij 1 (i + 1) (by omega) (by omega)) (by show i + 1 < Ls; omega) hL dL_law_1045 ?_
  refine aw_aload_n (pc := 1046) dL_law_1046 rfl ?_
  refine aw_iload_n (pc := 1047) dL_law_1047 rfl ?_
  refine cx_iconst (pc := 1048) dL_law_1048 ?_
  refine cx_iadd (pc := 1049) dL_law_1049 ?_
  refine cx_sld (sc := (0, Ls, xs)) (pc := 1050) (i + 2) (w32_ij 2 (i + 2) (by omega) (by omega)) (by show i + 2 < Ls; omega) hL dL_law_1050 ?_
  refine aw_callV (pc := 1051) (ci := 10) (dC := 7) (mcC := (4 * N)) (msC := (125 * N)) [iv (xs (i + 1)).toInt, iv (xs (i + 2)).toInt] (s_X10_place l (0, Ls, xs) (fun mc => E2 mc mr) _ (LE_E2c mr) RCL_EC rfl n N (xs (i + 1)).toInt (xs (i + 2)).toInt (inR_32 _) (inR_32 _) mc r1 H1) ca_L_114 (((LE_E2c mr).1 mc 1 (by decide)).trans (cel_obj rfl)) ⟨_, rfl, rfl⟩ rfl rfl (Nat.le_of_ble_eq_true rfl) (Nat.le_of_ble_eq_true rfl) hk hs dL_law_1051 (fun v9 hp9 hq9 _ => ?_)
  obtain ⟨rfl, hr1, rfl⟩ := hq9
  refine AW.eqh (hp' := E2 r1.2 mr) rfl ?_
  refine aw_aload_n (pc := 1054) dL_law_1054 rfl ?_
  refine aw_aload_n (pc := 1055) dL_law_1055 rfl ?_
  refine aw_iload_n (pc := 1056) dL_law_1056 rfl ?_
  refine cx_iconst (pc := 1057) dL_law_1057 ?_
  refine cx_iadd (pc := 1058) dL_law_1058 ?_
  refine cx_sld (sc := (0, Ls, xs)) (pc := 1059) (i + 1) (w32_ij 1 (i + 1) (by omega) (by omega)) (by show i + 1 < Ls; omega) hL dL_law_1059 ?_
  refine aw_aload_n (pc := 1060) dL_law_1060 rfl ?_
  refine aw_iload_n (pc := 1061) dL_law_1061 rfl ?_
  refine cx_iconst (pc := 1062) dL_law_1062 ?_
  refine cx_iadd (pc := 1063) dL_law_1063 ?_
  refine cx_sld (sc := (0, Ls, xs)) (pc := 1064) (i + 2) (w32_ij 2 (i + 2) (by omega) (by omega)) (by show i + 2 < Ls; omega) hL dL_law_1064 ?_
  refine aw_callV (pc := 1065) (ci := 11) (dC := 309) (mcC := 0) (msC := 0) [iv (xs (i + 1)).toInt, iv (xs (i + 2)).toInt] (s_X11_place l (0, Ls, xs) (fun mr => E2 r1.2 mr) _ (LE_E2r r1.2) RRF_E2 n (xs (i + 1)).toInt (xs (i + 2)).toInt (inR_32 _) (inR_32 _) mr r2 H2) ca_L_117 (((LE_E2r r1.2).1 mr 100 (by decide)).trans (cel_obj rfl)) ⟨_, rfl, rfl⟩ rfl rfl (Nat.le_of_ble_eq_true rfl) (Nat.le_of_ble_eq_true rfl) hk hs dL_law_1065 (fun v9 hp9 hq9 _ => ?_)
  obtain ⟨rfl, hr2, rfl⟩ := hq9
  refine AW.eqh (hp' := E2 r1.2 r2.2) rfl ?_
  refine aw_icmp_eq (pc := 1068) 1413 dL_law_1068 rfl (fun _ => ?_) (fun h => absurd (by rw [he]) h)
  exact kk
set_option maxRecDepth 100000 in
set_option maxHeartbeats 4000000 in
theorem law_25 {l : Launch} {D : va_G} {base Ls : Nat} {xs : Nat → Int32} {y : MethodName} {ad : Nat → Nat} {hp0 : g_H} {k s i : Nat} {mc mr : Mem} (hL : Ls ≤ 3072) (hi : i + 6 ≤ Ls) (n N : Nat) (r1 r2 : Rz) (H1 : f_X10_feed n (jor (jshl (i2j (xs (i + 1)).toInt) 32) (jand (i2j (xs (i + 2)).toInt) 4294967295)) (xs (i + 3)).toInt mc = some r1) (H2 : f_X11_feed n (jor (jshl (i2j (xs (i + 1)).toInt) 32) (jand (i2j (xs (i + 2)).toInt) 4294967295)) (xs (i + 3)).toInt mr = some r2) (he : r1.1 = r2.1) (hk : k + 0 ≤ 600000) (hs : s + 0 ≤ 7302250) (kk : AW l D base (0, Ls, xs) RL y cL_law 4 (some .boolean) 840 600000 7302250 ad hp0 PostL (k + 0) (s + 0) (E2 r1.2 r2.2) 1413 [(3, iv (i : Int)), (2, .ref 100), (1, .ref 1), (0, .ref 0)] []) : AW l D base (0, Ls, xs) RL y cL_law 4 (some .boolean) 840 600000 7302250 ad hp0 PostL k s (E2 mc mr) 1073 [(3, iv (i : Int)), (2, .ref 100), (1, .ref 1), (0, .ref 0)] [] := by
  refine aw_aload_n (pc := 1073) dL_law_1073 rfl ?_
  refine aw_aload_n (pc := 1074) dL_law_1074 rfl ?_
  refine aw_iload_n (pc := 1075) dL_law_1075 rfl ?_
  refine cx_iconst (pc := 1076) dL_law_1076 ?_
  refine cx_iadd (pc := 1077) dL_law_1077 ?_
  refine cx_sld (sc := (0, Ls, xs)) (pc := 1078) (i + 1) (w32_ij 1 (i + 1) (by omega) (by omega)) (by show i + 1 < Ls; omega) hL dL_law_1078 ?_
  refine cx_i2l (pc := 1079) dL_law_1079 ?_
  refine cx_bipush (pc := 1080) dL_law_1080 (by decide) ?_
  refine cx_lshl (pc := 1082) dL_law_1082 ?_
  refine aw_aload_n (pc := 1083) dL_law_1083 rfl ?_
  refine aw_iload_n (pc := 1084) dL_law_1084 rfl ?_
  refine cx_iconst (pc := 1085) dL_law_1085 ?_
  refine cx_iadd (pc := 1086) dL_law_1086 ?_
  refine cx_sld (sc := (0, Ls, xs)) (pc := 1087) (i + 2) (w32_ij 2 (i + 2) (by omega) (by omega)) (by show i + 2 < Ls; omega) hL dL_law_1087 ?_
  refine cx_i2l (pc := 1088) dL_law_1088 ?_
  refine cx_ldc2 (pc := 1089) 4294967295 dL_law_1089 ct_L_118 (by decide) ?_
  refine cx_land (pc := 1092) dL_law_1092 ?_
  refine cx_lor (pc := 1093) dL_law_1093 ?_
  refine aw_aload_n (pc := 1094) dL_law_1094 rfl ?_
  refine aw_iload_n (pc := 1095) dL_law_1095 rfl ?_
  refine cx_iconst (pc := 1096) dL_law_1096 ?_
  refine cx_iadd (pc := 1097) dL_law_1097 ?_
  refine cx_sld (sc := (0, Ls, xs)) (pc := 1098) (i + 3) (w32_ij 3 (i + 3) (by omega) (by omega)) (by show i + 3 < Ls; omega) hL dL_law_1098 ?_
  refine aw_callV (pc := 1099) (ci := 10) (dC := 2) (mcC := 0) (msC := 0) [jv (jor (jshl (i2j (xs (i + 1)).toInt) 32) (jand (i2j (xs (i + 2)).toInt) 4294967295)), iv (xs (i + 3)).toInt] (s_X10_feed l (0, Ls, xs) (fun mc => E2 mc mr) _ (LE_E2c mr) RCL_EC n (jor (jshl (i2j (xs (i + 1)).toInt) 32) (jand (i2j (xs (i + 2)).toInt) 4294967295)) (xs (i + 3)).toInt (inR_32 _) mc r1 H1) ca_L_120 (((LE_E2c mr).1 mc 1 (by decide)).trans (cel_obj rfl)) ⟨_, rfl, rfl⟩ rfl rfl (Nat.le_of_ble_eq_true rfl) (Nat.le_of_ble_eq_true rfl) hk hs dL_law_1099 (fun v9 hp9 hq9 _ => ?_)
  obtain ⟨rfl, hr1, rfl⟩ := hq9
  refine AW.eqh (hp' := E2 r1.2 mr) rfl ?_
  refine aw_aload_n (pc := 1102) dL_law_1102 rfl ?_
  refine aw_aload_n (pc := 1103) dL_law_1103 rfl ?_
  refine aw_iload_n (pc := 1104) dL_law_1104 rfl ?_
  refine cx_iconst (pc := 1105) dL_law_1105 ?_
  refine cx_iadd (pc := 1106) dL_law_1106 ?_
  refine cx_sld (sc := (0, Ls, xs)) (pc := 1107) (i + 1) (w32_ij 1 (i + 1) (by omega) (by omega)) (by show i + 1 < Ls; omega) hL dL_law_1107 ?_
  refine cx_i2l (pc := 1108) dL_law_1108 ?_
  refine cx_bipush (pc := 1109) dL_law_1109 (by decide) ?_
  refine cx_lshl (pc := 1111) dL_law_1111 ?_
  refine aw_aload_n (pc := 1112) dL_law_1112 rfl ?_
  refine aw_iload_n (pc := 1113) dL_law_1113 rfl ?_
  refine cx_iconst (pc := 1114) dL_law_1114 ?_
  refine cx_iadd (pc := 1115) dL_law_1115 ?_
  refine cx_sld (sc := (0, Ls, xs)) (pc := 1116) (i + 2) (w32_ij 2 (i + 2) (by omega) (by omega)) (by show i + 2 < Ls; omega) hL dL_law_1116 ?_
  refine cx_i2l (pc := 1117) dL_law_1117 ?_
  refine cx_ldc2 (pc := 1118) 4294967295 dL_law_1118 ct_L_118 (by decide) ?_
  refine cx_land (pc := 1121) dL_law_1121 ?_
  refine cx_lor (pc := 1122) dL_law_1122 ?_
  refine aw_aload_n (pc := 1123) dL_law_1123 rfl ?_
  refine aw_iload_n (pc := 1124) dL_law_1124 rfl ?_
  refine cx_iconst (pc := 1125) dL_law_1125 ?_
  refine cx_iadd (pc := 1126) dL_law_1126 ?_
  refine cx_sld (sc := (0, Ls, xs)) (pc := 1127) (i + 3) (w32_ij 3 (i + 3) (by omega) (by omega)) (by show i + 3 < Ls; omega) hL dL_law_1127 ?_
  refine aw_callV (pc := 1128) (ci := 11) (dC := 1) (mcC := 0) (msC := 0) [jv (jor (jshl (i2j (xs (i + 1)).toInt) 32) (jand (i2j (xs (i + 2)).toInt) 4294967295)), iv (xs (i + 3)).toInt] (s_X11_feed l (0, Ls, xs) (fun mr => E2 r1.2 mr) _ (LE_E2r r1.2) RRF_E2 n (jor (jshl (i2j (xs (i + 1)).toInt) 32) (jand (i2j (xs (i + 2)).toInt) 4294967295)) (xs (i + 3)).toInt (inR_32 _) mr r2 H2) ca_L_124 (((LE_E2r r1.2).1 mr 100 (by decide)).trans (cel_obj rfl)) ⟨_, rfl, rfl⟩ rfl rfl (Nat.le_of_ble_eq_true rfl) (Nat.le_of_ble_eq_true rfl) hk hs dL_law_1128 (fun v9 hp9 hq9 _ => ?_)
  obtain ⟨rfl, hr2, rfl⟩ := hq9
  refine AW.eqh (hp' := E2 r1.2 r2.2) rfl ?_
  refine aw_icmp_eq (pc := 1131) 1413 dL_law_1131 rfl (fun _ => ?_) (fun h => absurd (by rw [he]) h)
  exact kk
set_option maxRecDepth 100000 in
set_option maxHeartbeats 4000000 in
theorem law_26 {l : Launch} {D : va_G} {base Ls : Nat} {xs : Nat → Int32} {y : MethodName} {ad : Nat → Nat} {hp0 : g_H} {k s i : Nat} {mc mr : Mem} (hL : Ls ≤ 3072) (hi : i + 6 ≤ Ls) (n N : Nat) (r1 r2 : Rz) (H1 : f_X10_game n N (xs (i + 1)).toInt mc = some r1) (H2 : f_X11_game n (xs (i + 1)).toInt mr = some r2) (he : r1.1 = r2.1) (hk : k + (4 * N) ≤ 600000) (hs : s + (125 * N) ≤ 7302250) (kk : AW l D base (0, Ls, xs) RL y cL_law 4 (some .boolean) 840 600000 7302250 ad hp0 PostL (k + (4 * N)) (s + (125 * N)) (E2 r1.2 r2.2) 1413 [(3, iv (i : Int)), (2, .ref 100), (1, .ref 1), (0, .ref 0)] []) : AW l D base (0, Ls, xs) RL y cL_law 4 (some .boolean) 840 600000 7302250 ad hp0 PostL k s (E2 mc mr) 1136 [(3, iv (i : Int)), (2, .ref 100), (1, .ref 1), (0, .ref 0)] [] := by
  refine aw_aload_n (pc := 1136) dL_law_1136 rfl ?_
  refine aw_aload_n (pc := 1137) dL_law_1137 rfl ?_
  refine aw_iload_n (pc := 1138) dL_law_1138 rfl ?_
  refine cx_iconst (pc := 1139) dL_law_1139 ?_
  refine cx_iadd (pc := 1140) dL_law_1140 ?_
  refine cx_sld (sc := (0, Ls, xs)) (pc := 1141) (i + 1) (w32_ij 1 (i + 1) (by omega) (by omega)) (by show i + 1 < Ls; omega) hL dL_law_1141 ?_
  refine aw_callV (pc := 1142) (ci := 10) (dC := 44) (mcC := (4 * N)) (msC := (125 * N)) [iv (xs (i + 1)).toInt] (s_X10_game l (0, Ls, xs) (fun mc => E2 mc mr) _ (LE_E2c mr) RCL_EC rfl n N (xs (i + 1)).toInt (inR_32 _) mc r1 H1) ca_L_125 (((LE_E2c mr).1 mc 1 (by decide)).trans (cel_obj rfl)) ⟨_, rfl, rfl⟩ rfl rfl (Nat.le_of_ble_eq_true rfl) (Nat.le_of_ble_eq_true rfl) hk hs dL_law_1142 (fun v9 hp9 hq9 _ => ?_)
  obtain ⟨rfl, hr1, rfl⟩ := hq9
  refine AW.eqh (hp' := E2 r1.2 mr) rfl ?_
  refine aw_aload_n (pc := 1145) dL_law_1145 rfl ?_
  refine aw_aload_n (pc := 1146) dL_law_1146 rfl ?_
  refine aw_iload_n (pc := 1147) dL_law_1147 rfl ?_
  refine cx_iconst (pc := 1148) dL_law_1148 ?_
  refine cx_iadd (pc := 1149) dL_law_1149 ?_
  refine cx_sld (sc := (0, Ls, xs)) (pc := 1150) (i + 1) (w32_ij 1 (i + 1) (by omega) (by omega)) (by show i + 1 < Ls; omega) hL dL_law_1150 ?_
  refine aw_callV (pc := 1151) (ci := 11) (dC := 450) (mcC := 0) (msC := 0) [iv (xs (i + 1)).toInt] (s_X11_game l (0, Ls, xs) (fun mr => E2 r1.2 mr) _ (LE_E2r r1.2) RRF_E2 n (xs (i + 1)).toInt (inR_32 _) mr r2 H2) ca_L_128 (((LE_E2r r1.2).1 mr 100 (by decide)).trans (cel_obj rfl)) ⟨_, rfl, rfl⟩ rfl rfl (Nat.le_of_ble_eq_true rfl) (Nat.le_of_ble_eq_true rfl) hk hs dL_law_1151 (fun v9 hp9 hq9 _ => ?_)
  obtain ⟨rfl, hr2, rfl⟩ := hq9
  refine AW.eqh (hp' := E2 r1.2 r2.2) rfl ?_
  refine aw_icmp_eq (pc := 1154) 1413 dL_law_1154 rfl (fun _ => ?_) (fun h => absurd (by rw [he]) h)
  exact kk
set_option maxRecDepth 100000 in
set_option maxHeartbeats 4000000 in
theorem law_27 {l : Launch} {D : va_G} {base Ls : Nat} {xs : Nat → Int32} {y : MethodName} {ad : Nat → Nat} {hp0 : g_H} {k s i : Nat} {mc mr : Mem} (hL : Ls ≤ 3072) (hi : i + 6 ≤ Ls) (n N : Nat) (r1 r2 : Rz) (H1 : f_X10_sheet n (xs (i + 1)).toInt (xs (i + 2)).toInt (xs (i + 3)).toInt mc = some r1) (H2 : f_X11_sheet n (xs (i + 1)).toInt (xs (i + 2)).toInt (xs (i + 3)).toInt mr = some r2) (he : r1.1 = r2.1) (hk : k + 0 ≤ 600000) (hs : s + 0 ≤ 7302250) (kk : AW l D base (0, Ls, xs) RL y cL_law 4 (some .boolean) 840 600000 7302250 ad hp0 PostL (k + 0) (s + 0) (E2 r1.2 r2.2) 1413 [(3, iv (i : Int)), (2, .ref 100), (1, .ref 1), (0, .ref 0)] []) : AW l D base (0, Ls, xs) RL y cL_law 4 (some .boolean) 840 600000 7302250 ad hp0 PostL k s (E2 mc mr) 1159 [(3, iv (i : Int)), (2, .ref 100), (1, .ref 1), (0, .ref 0)] [] := by
  refine aw_aload_n (pc := 1159) dL_law_1159 rfl ?_
  refine aw_aload_n (pc := 1160) dL_law_1160 rfl ?_
  refine aw_iload_n (pc := 1161) dL_law_1161 rfl ?_
  refine cx_iconst (pc := 1162) dL_law_1162 ?_
  refine cx_iadd (pc := 1163) dL_law_1163 ?_
  refine cx_sld (sc := (0, Ls, xs)) (pc := 1164) (i + 1) (w32_ij 1 (i + 1) (by omega) (by omega)) (by show i + 1 < Ls; omega) hL dL_law_1164 ?_
  refine aw_aload_n (pc := 1165) dL_law_1165 rfl ?_
  refine aw_iload_n (pc := 1166) dL_law_1166 rfl ?_
  refine cx_iconst (pc := 1167) dL_law_1167 ?_
  refine cx_iadd (pc := 1168) dL_law_1168 ?_
  refine cx_sld (sc := (0, Ls, xs)) (pc := 1169) (i + 2) (w32_ij 2 (i + 2) (by omega) (by omega)) (by show i + 2 < Ls; omega) hL dL_law_1169 ?_
  refine aw_aload_n (pc := 1170) dL_law_1170 rfl ?_
  refine aw_iload_n (pc := 1171) dL_law_1171 rfl ?_
  refine cx_iconst (pc := 1172) dL_law_1172 ?_
  refine cx_iadd (pc := 1173) dL_law_1173 ?_
  refine cx_sld (sc := (0, Ls, xs)) (pc := 1174) (i + 3) (w32_ij 3 (i + 3) (by omega) (by omega)) (by show i + 3 < Ls; omega) hL dL_law_1174 ?_
  refine aw_callV (pc := 1175) (ci := 10) (dC := 2) (mcC := 0) (msC := 0) [iv (xs (i + 1)).toInt, iv (xs (i + 2)).toInt, iv (xs (i + 3)).toInt] (s_X10_sheet l (0, Ls, xs) (fun mc => E2 mc mr) _ (LE_E2c mr) RCL_EC n (xs (i + 1)).toInt (xs (i + 2)).toInt (xs (i + 3)).toInt (inR_32 _) (inR_32 _) (inR_32 _) mc r1 H1) ca_L_129 (((LE_E2c mr).1 mc 1 (by decide)).trans (cel_obj rfl)) ⟨_, rfl, rfl⟩ rfl rfl (Nat.le_of_ble_eq_true rfl) (Nat.le_of_ble_eq_true rfl) hk hs dL_law_1175 (fun v9 hp9 hq9 _ => ?_)
  obtain ⟨rfl, hr1, rfl⟩ := hq9
  refine AW.eqh (hp' := E2 r1.2 mr) rfl ?_
  refine aw_aload_n (pc := 1178) dL_law_1178 rfl ?_
  refine aw_aload_n (pc := 1179) dL_law_1179 rfl ?_
  refine aw_iload_n (pc := 1180) dL_law_1180 rfl ?_
  refine cx_iconst (pc := 1181) dL_law_1181 ?_
  refine cx_iadd (pc := 1182) dL_law_1182 ?_
  refine cx_sld (sc := (0, Ls, xs)) (pc := 1183) (i + 1) (w32_ij 1 (i + 1) (by omega) (by omega)) (by show i + 1 < Ls; omega) hL dL_law_1183 ?_
  refine aw_aload_n (pc := 1184) dL_law_1184 rfl ?_
  refine aw_iload_n (pc := 1185) dL_law_1185 rfl ?_
  refine cx_iconst (pc := 1186) dL_law_1186 ?_
  refine cx_iadd (pc := 1187) dL_law_1187 ?_
  refine cx_sld (sc := (0, Ls, xs)) (pc := 1188) (i + 2) (w32_ij 2 (i + 2) (by omega) (by omega)) (by show i + 2 < Ls; omega) hL dL_law_1188 ?_
  refine aw_aload_n (pc := 1189) dL_law_1189 rfl ?_
  refine aw_iload_n (pc := 1190) dL_law_1190 rfl ?_
  refine cx_iconst (pc := 1191) dL_law_1191 ?_
  refine cx_iadd (pc := 1192) dL_law_1192 ?_
  refine cx_sld (sc := (0, Ls, xs)) (pc := 1193) (i + 3) (w32_ij 3 (i + 3) (by omega) (by omega)) (by show i + 3 < Ls; omega) hL dL_law_1193 ?_
  refine aw_callV (pc := 1194) (ci := 11) (dC := 2) (mcC := 0) (msC := 0) [iv (xs (i + 1)).toInt, iv (xs (i + 2)).toInt, iv (xs (i + 3)).toInt] (s_X11_sheet l (0, Ls, xs) (fun mr => E2 r1.2 mr) _ (LE_E2r r1.2) RRF_E2 n (xs (i + 1)).toInt (xs (i + 2)).toInt (xs (i + 3)).toInt (inR_32 _) (inR_32 _) (inR_32 _) mr r2 H2) ca_L_132 (((LE_E2r r1.2).1 mr 100 (by decide)).trans (cel_obj rfl)) ⟨_, rfl, rfl⟩ rfl rfl (Nat.le_of_ble_eq_true rfl) (Nat.le_of_ble_eq_true rfl) hk hs dL_law_1194 (fun v9 hp9 hq9 _ => ?_)
  obtain ⟨rfl, hr2, rfl⟩ := hq9
  refine AW.eqh (hp' := E2 r1.2 r2.2) rfl ?_
  refine aw_icmp_eq (pc := 1197) 1413 dL_law_1197 rfl (fun _ => ?_) (fun h => absurd (by rw [he]) h)
  exact kk
set_option maxRecDepth 100000 in
set_option maxHeartbeats 4000000 in
theorem law_28 {l : Launch} {D : va_G} {base Ls : Nat} {xs : Nat → Int32} {y : MethodName} {ad : Nat → Nat} {hp0 : g_H} {k s i : Nat} {mc mr : Mem} (hL : Ls ≤ 3072) (hi : i + 6 ≤ Ls) (n N : Nat) (r1 r2 : Rz) (H1 : f_X10_put n (xs (i + 1)).toInt (xs (i + 2)).toInt (xs (i + 3)).toInt mc = some r1) (H2 : f_X11_put n (xs (i + 1)).toInt (xs (i + 2)).toInt (xs (i + 3)).toInt mr = some r2) (he : r1.1 = r2.1) (hk : k + 0 ≤ 600000) (hs : s + 0 ≤ 7302250) (kk : AW l D base (0, Ls, xs) RL y cL_law 4 (some .boolean) 840 600000 7302250 ad hp0 PostL (k + 0) (s + 0) (E2 r1.2 r2.2) 1413 [(3, iv (i : Int)), (2, .ref 100), (1, .ref 1), (0, .ref 0)] []) : AW l D base (0, Ls, xs) RL y cL_law 4 (some .boolean) 840 600000 7302250 ad hp0 PostL k s (E2 mc mr) 1202 [(3, iv (i : Int)), (2, .ref 100), (1, .ref 1), (0, .ref 0)] [] := by
  refine aw_aload_n (pc := 1202) dL_law_1202 rfl ?_
  refine aw_aload_n (pc := 1203) dL_law_1203 rfl ?_
  refine aw_iload_n (pc := 1204) dL_law_1204 rfl ?_
  refine cx_iconst (pc := 1205) dL_law_1205 ?_
  refine cx_iadd (pc := 1206) dL_law_1206 ?_
  refine cx_sld (sc := (0, Ls, xs)) (pc := 1207) (i + 1) (w32_ij 1 (i + 1) (by omega) (by omega)) (by show i + 1 < Ls; omega) hL dL_law_1207 ?_
  refine aw_aload_n (pc := 1208) dL_law_1208 rfl ?_
  refine aw_iload_n (pc := 1209) dL_law_1209 rfl ?_
  refine cx_iconst (pc := 1210) dL_law_1210 ?_
  refine cx_iadd (pc := 1211) dL_law_1211 ?_
  refine cx_sld (sc := (0, Ls, xs)) (pc := 1212) (i + 2) (w32_ij 2 (i + 2) (by omega) (by omega)) (by show i + 2 < Ls; omega) hL dL_law_1212 ?_
  refine aw_aload_n (pc := 1213) dL_law_1213 rfl ?_
  refine aw_iload_n (pc := 1214) dL_law_1214 rfl ?_
  refine cx_iconst (pc := 1215) dL_law_1215 ?_
  refine cx_iadd (pc := 1216) dL_law_1216 ?_
  refine cx_sld (sc := (0, Ls, xs)) (pc := 1217) (i + 3) (w32_ij 3 (i + 3) (by omega) (by omega)) (by show i + 3 < Ls; omega) hL dL_law_1217 ?_
  refine aw_callV (pc := 1218) (ci := 10) (dC := 5) (mcC := 0) (msC := 0) [iv (xs (i + 1)).toInt, iv (xs (i + 2)).toInt, iv (xs (i + 3)).toInt] (s_X10_put l (0, Ls, xs) (fun mc => E2 mc mr) _ (LE_E2c mr) RCL_EC n (xs (i + 1)).toInt (xs (i + 2)).toInt (xs (i + 3)).toInt (inR_32 _) (inR_32 _) (inR_32 _) mc r1 H1) ca_L_133 (((LE_E2c mr).1 mc 1 (by decide)).trans (cel_obj rfl)) ⟨_, rfl, rfl⟩ rfl rfl (Nat.le_of_ble_eq_true rfl) (Nat.le_of_ble_eq_true rfl) hk hs dL_law_1218 (fun v9 hp9 hq9 _ => ?_)
  obtain ⟨rfl, hr1, rfl⟩ := hq9
  refine AW.eqh (hp' := E2 r1.2 mr) rfl ?_
  refine aw_aload_n (pc := 1221) dL_law_1221 rfl ?_
  refine aw_aload_n (pc := 1222) dL_law_1222 rfl ?_
  refine aw_iload_n (pc := 1223) dL_law_1223 rfl ?_
  refine cx_iconst (pc := 1224) dL_law_1224 ?_
  refine cx_iadd (pc := 1225) dL_law_1225 ?_
  refine cx_sld (sc := (0, Ls, xs)) (pc := 1226) (i + 1) (w32_ij 1 (i + 1) (by omega) (by omega)) (by show i + 1 < Ls; omega) hL dL_law_1226 ?_
  refine aw_aload_n (pc := 1227) dL_law_1227 rfl ?_
  refine aw_iload_n (pc := 1228) dL_law_1228 rfl ?_
  refine cx_iconst (pc := 1229) dL_law_1229 ?_
  refine cx_iadd (pc := 1230) dL_law_1230 ?_
  refine cx_sld (sc := (0, Ls, xs)) (pc := 1231) (i + 2) (w32_ij 2 (i + 2) (by omega) (by omega)) (by show i + 2 < Ls; omega) hL dL_law_1231 ?_
  refine aw_aload_n (pc := 1232) dL_law_1232 rfl ?_
  refine aw_iload_n (pc := 1233) dL_law_1233 rfl ?_
  refine cx_iconst (pc := 1234) dL_law_1234 ?_
  refine cx_iadd (pc := 1235) dL_law_1235 ?_
  refine cx_sld (sc := (0, Ls, xs)) (pc := 1236) (i + 3) (w32_ij 3 (i + 3) (by omega) (by omega)) (by show i + 3 < Ls; omega) hL dL_law_1236 ?_
  refine aw_callV (pc := 1237) (ci := 11) (dC := 3) (mcC := 0) (msC := 0) [iv (xs (i + 1)).toInt, iv (xs (i + 2)).toInt, iv (xs (i + 3)).toInt] (s_X11_put l (0, Ls, xs) (fun mr => E2 r1.2 mr) _ (LE_E2r r1.2) RRF_E2 n (xs (i + 1)).toInt (xs (i + 2)).toInt (xs (i + 3)).toInt (inR_32 _) (inR_32 _) (inR_32 _) mr r2 H2) ca_L_136 (((LE_E2r r1.2).1 mr 100 (by decide)).trans (cel_obj rfl)) ⟨_, rfl, rfl⟩ rfl rfl (Nat.le_of_ble_eq_true rfl) (Nat.le_of_ble_eq_true rfl) hk hs dL_law_1237 (fun v9 hp9 hq9 _ => ?_)
  obtain ⟨rfl, hr2, rfl⟩ := hq9
  refine AW.eqh (hp' := E2 r1.2 r2.2) rfl ?_
  refine aw_icmp_eq (pc := 1240) 1413 dL_law_1240 rfl (fun _ => ?_) (fun h => absurd (by rw [he]) h)
  exact kk
set_option maxRecDepth 100000 in
set_option maxHeartbeats 4000000 in
theorem law_29 {l : Launch} {D : va_G} {base Ls : Nat} {xs : Nat → Int32} {y : MethodName} {ad : Nat → Nat} {hp0 : g_H} {k s i : Nat} {mc mr : Mem} (hL : Ls ≤ 3072) (hi : i + 6 ≤ Ls) (n N : Nat) (r1 r2 : Rz) (H1 : f_X10_at n (xs (i + 1)).toInt (xs (i + 2)).toInt mc = some r1) (H2 : f_X11_at n (xs (i + 1)).toInt (xs (i + 2)).toInt mr = some r2) (he : r1.1 = r2.1) (hk : k + 0 ≤ 600000) (hs : s + 0 ≤ 7302250) (kk : AW l D base (0, Ls, xs) RL y cL_law 4 (some .boolean) 840 600000 7302250 ad hp0 PostL (k + 0) (s + 0) (E2 r1.2 r2.2) 1413 [(3, iv (i : Int)), (2, .ref 100), (1, .ref 1), (0, .ref 0)] []) : AW l D base (0, Ls, xs) RL y cL_law 4 (some .boolean) 840 600000 7302250 ad hp0 PostL k s (E2 mc mr) 1245 [(3, iv (i : Int)), (2, .ref 100), (1, .ref 1), (0, .ref 0)] [] := by
  refine aw_aload_n (pc := 1245) dL_law_1245 rfl ?_
  refine aw_aload_n (pc := 1246) dL_law_1246 rfl ?_
  refine aw_iload_n (pc := 1247) dL_law_1247 rfl ?_
  refine cx_iconst (pc := 1248) dL_law_1248 ?_
  refine cx_iadd (pc := 1249) dL_law_1249 ?_
  refine cx_sld (sc := (0, Ls, xs)) (pc := 1250) (i + 1) (w32_ij 1 (i + 1) (by omega) (by omega)) (by show i + 1 < Ls; omega) hL dL_law_1250 ?_
  refine aw_aload_n (pc := 1251) dL_law_1251 rfl ?_
  refine aw_iload_n (pc := 1252) dL_law_1252 rfl ?_
  refine cx_iconst (pc := 1253) dL_law_1253 ?_
  refine cx_iadd (pc := 1254) dL_law_1254 ?_
  refine cx_sld (sc := (0, Ls, xs)) (pc := 1255) (i + 2) (w32_ij 2 (i + 2) (by omega) (by omega)) (by show i + 2 < Ls; omega) hL dL_law_1255 ?_
  refine aw_callV (pc := 1256) (ci := 10) (dC := 5) (mcC := 0) (msC := 0) [iv (xs (i + 1)).toInt, iv (xs (i + 2)).toInt] (s_X10_at l (0, Ls, xs) (fun mc => E2 mc mr) _ (LE_E2c mr) RCL_EC n (xs (i + 1)).toInt (xs (i + 2)).toInt (inR_32 _) (inR_32 _) mc r1 H1) ca_L_137 (((LE_E2c mr).1 mc 1 (by decide)).trans (cel_obj rfl)) ⟨_, rfl, rfl⟩ rfl rfl (Nat.le_of_ble_eq_true rfl) (Nat.le_of_ble_eq_true rfl) hk hs dL_law_1256 (fun v9 hp9 hq9 _ => ?_)
  obtain ⟨rfl, hr1, rfl⟩ := hq9
  refine AW.eqh (hp' := E2 r1.2 mr) rfl ?_
  refine aw_aload_n (pc := 1259) dL_law_1259 rfl ?_
  refine aw_aload_n (pc := 1260) dL_law_1260 rfl ?_
  refine aw_iload_n (pc := 1261) dL_law_1261 rfl ?_
  refine cx_iconst (pc := 1262) dL_law_1262 ?_
  refine cx_iadd (pc := 1263) dL_law_1263 ?_
  refine cx_sld (sc := (0, Ls, xs)) (pc := 1264) (i + 1) (w32_ij 1 (i + 1) (by omega) (by omega)) (by show i + 1 < Ls; omega) hL dL_law_1264 ?_
  refine aw_aload_n (pc := 1265) dL_law_1265 rfl ?_
  refine aw_iload_n (pc := 1266) dL_law_1266 rfl ?_
  refine cx_iconst (pc := 1267) dL_law_1267 ?_
  refine cx_iadd (pc := 1268) dL_law_1268 ?_
  refine cx_sld (sc := (0, Ls, xs)) (pc := 1269) (i + 2) (w32_ij 2 (i + 2) (by omega) (by omega)) (by show i + 2 < Ls; omega) hL dL_law_1269 ?_
  refine aw_callV (pc := 1270) (ci := 11) (dC := 3) (mcC := 0) (msC := 0) [iv (xs (i + 1)).toInt, iv (xs (i + 2)).toInt] (s_X11_at l (0, Ls, xs) (fun mr => E2 r1.2 mr) _ (LE_E2r r1.2) RRF_E2 n (xs (i + 1)).toInt (xs (i + 2)).toInt (inR_32 _) (inR_32 _) mr r2 H2) ca_L_140 (((LE_E2r r1.2).1 mr 100 (by decide)).trans (cel_obj rfl)) ⟨_, rfl, rfl⟩ rfl rfl (Nat.le_of_ble_eq_true rfl) (Nat.le_of_ble_eq_true rfl) hk hs dL_law_1270 (fun v9 hp9 hq9 _ => ?_)
  obtain ⟨rfl, hr2, rfl⟩ := hq9
  refine AW.eqh (hp' := E2 r1.2 r2.2) rfl ?_
  refine aw_icmp_eq (pc := 1273) 1413 dL_law_1273 rfl (fun _ => ?_) (fun h => absurd (by rw [he]) h)
  exact kk
set_option maxRecDepth 100000 in
set_option maxHeartbeats 4000000 in
theorem law_30 {l : Launch} {D : va_G} {base Ls : Nat} {xs : Nat → Int32} {y : MethodName} {ad : Nat → Nat} {hp0 : g_H} {k s i : Nat} {mc mr : Mem} (hL : Ls ≤ 3072) (hi : i + 6 ≤ Ls) (n N : Nat) (r1 r2 : Rz) (H1 : f_X10_copy n (xs (i + 1)).toInt (xs (i + 2)).toInt (xs (i + 3)).toInt (xs (i + 4)).toInt (xs (i + 5)).toInt mc = some r1) (H2 : f_X11_copy n (xs (i + 1)).toInt (xs (i + 2)).toInt (xs (i + 3)).toInt (xs (i + 4)).toInt (xs (i + 5)).toInt mr = some r2) (he : r1.1 = r2.1) (hk : k + 0 ≤ 600000) (hs : s + 0 ≤ 7302250) (kk : AW l D base (0, Ls, xs) RL y cL_law 4 (some .boolean) 840 600000 7302250 ad hp0 PostL (k + 0) (s + 0) (E2 r1.2 r2.2) 1413 [(3, iv (i : Int)), (2, .ref 100), (1, .ref 1), (0, .ref 0)] []) : AW l D base (0, Ls, xs) RL y cL_law 4 (some .boolean) 840 600000 7302250 ad hp0 PostL k s (E2 mc mr) 1278 [(3, iv (i : Int)), (2, .ref 100), (1, .ref 1), (0, .ref 0)] [] := by
  refine aw_aload_n (pc := 1278) dL_law_1278 rfl ?_
  refine aw_aload_n (pc := 1279) dL_law_1279 rfl ?_
  refine aw_iload_n (pc := 1280) dL_law_1280 rfl ?_
  refine cx_iconst (pc := 1281) dL_law_1281 ?_
  refine cx_iadd (pc := 1282) dL_law_1282 ?_
  refine cx_sld (sc := (0, Ls, xs)) (pc := 1283) (i + 1) (w32_ij 1 (i + 1) (by omega) (by omega)) (by show i + 1 < Ls; omega) hL dL_law_1283 ?_
  refine aw_aload_n (pc := 1284) dL_law_1284 rfl ?_
  refine aw_iload_n (pc := 1285) dL_law_1285 rfl ?_
  refine cx_iconst (pc := 1286) dL_law_1286 ?_
  refine cx_iadd (pc := 1287) dL_law_1287 ?_
  refine cx_sld (sc := (0, Ls, xs)) (pc := 1288) (i + 2) (w32_ij 2 (i + 2) (by omega) (by omega)) (by show i + 2 < Ls; omega) hL dL_law_1288 ?_
  refine aw_aload_n (pc := 1289) dL_law_1289 rfl ?_
  refine aw_iload_n (pc := 1290) dL_law_1290 rfl ?_
  refine cx_iconst (pc := 1291) dL_law_1291 ?_
  refine cx_iadd (pc := 1292) dL_law_1292 ?_
  refine cx_sld (sc := (0, Ls, xs)) (pc := 1293) (i + 3) (w32_ij 3 (i + 3) (by omega) (by omega)) (by show i + 3 < Ls; omega) hL dL_law_1293 ?_
  refine aw_aload_n (pc := 1294) dL_law_1294 rfl ?_
  refine aw_iload_n (pc := 1295) dL_law_1295 rfl ?_
  refine cx_iconst (pc := 1296) dL_law_1296 ?_
  refine cx_iadd (pc := 1297) dL_law_1297 ?_
  refine cx_sld (sc := (0, Ls, xs)) (pc := 1298) (i + 4) (w32_ij 4 (i + 4) (by omega) (by omega)) (by show i + 4 < Ls; omega) hL dL_law_1298 ?_
  refine aw_aload_n (pc := 1299) dL_law_1299 rfl ?_
  refine aw_iload_n (pc := 1300) dL_law_1300 rfl ?_
  refine cx_iconst (pc := 1301) dL_law_1301 ?_
  refine cx_iadd (pc := 1302) dL_law_1302 ?_
  refine cx_sld (sc := (0, Ls, xs)) (pc := 1303) (i + 5) (w32_ij 5 (i + 5) (by omega) (by omega)) (by show i + 5 < Ls; omega) hL dL_law_1303 ?_
  refine aw_callV (pc := 1304) (ci := 10) (dC := 5) (mcC := 0) (msC := 0) [iv (xs (i + 1)).toInt, iv (xs (i + 2)).toInt, iv (xs (i + 3)).toInt, iv (xs (i + 4)).toInt, iv (xs (i + 5)).toInt] (s_X10_copy l (0, Ls, xs) (fun mc => E2 mc mr) _ (LE_E2c mr) RCL_EC n (xs (i + 1)).toInt (xs (i + 2)).toInt (xs (i + 3)).toInt (xs (i + 4)).toInt (xs (i + 5)).toInt (inR_32 _) (inR_32 _) (inR_32 _) (inR_32 _) (inR_32 _) mc r1 H1) ca_L_141 (((LE_E2c mr).1 mc 1 (by decide)).trans (cel_obj rfl)) ⟨_, rfl, rfl⟩ rfl rfl (Nat.le_of_ble_eq_true rfl) (Nat.le_of_ble_eq_true rfl) hk hs dL_law_1304 (fun v9 hp9 hq9 _ => ?_)
  obtain ⟨rfl, hr1, rfl⟩ := hq9
  refine AW.eqh (hp' := E2 r1.2 mr) rfl ?_
  refine aw_aload_n (pc := 1307) dL_law_1307 rfl ?_
  refine aw_aload_n (pc := 1308) dL_law_1308 rfl ?_
  refine aw_iload_n (pc := 1309) dL_law_1309 rfl ?_
  refine cx_iconst (pc := 1310) dL_law_1310 ?_
  refine cx_iadd (pc := 1311) dL_law_1311 ?_
  refine cx_sld (sc := (0, Ls, xs)) (pc := 1312) (i + 1) (w32_ij 1 (i + 1) (by omega) (by omega)) (by show i + 1 < Ls; omega) hL dL_law_1312 ?_
  refine aw_aload_n (pc := 1313) dL_law_1313 rfl ?_
  refine aw_iload_n (pc := 1314) dL_law_1314 rfl ?_
  refine cx_iconst (pc := 1315) dL_law_1315 ?_
  refine cx_iadd (pc := 1316) dL_law_1316 ?_
  refine cx_sld (sc := (0, Ls, xs)) (pc := 1317) (i + 2) (w32_ij 2 (i + 2) (by omega) (by omega)) (by show i + 2 < Ls; omega) hL dL_law_1317 ?_
  refine aw_aload_n (pc := 1318) dL_law_1318 rfl ?_
  refine aw_iload_n (pc := 1319) dL_law_1319 rfl ?_
  refine cx_iconst (pc := 1320) dL_law_1320 ?_
  refine cx_iadd (pc := 1321) dL_law_1321 ?_
  refine cx_sld (sc := (0, Ls, xs)) (pc := 1322) (i + 3) (w32_ij 3 (i + 3) (by omega) (by omega)) (by show i + 3 < Ls; omega) hL dL_law_1322 ?_
  refine aw_aload_n (pc := 1323) dL_law_1323 rfl ?_
  refine aw_iload_n (pc := 1324) dL_law_1324 rfl ?_
  refine cx_iconst (pc := 1325) dL_law_1325 ?_
  refine cx_iadd (pc := 1326) dL_law_1326 ?_
  refine cx_sld (sc := (0, Ls, xs)) (pc := 1327) (i + 4) (w32_ij 4 (i + 4) (by omega) (by omega)) (by show i + 4 < Ls; omega) hL dL_law_1327 ?_
  refine aw_aload_n (pc := 1328) dL_law_1328 rfl ?_
  refine aw_iload_n (pc := 1329) dL_law_1329 rfl ?_
  refine cx_iconst (pc := 1330) dL_law_1330 ?_
  refine cx_iadd (pc := 1331) dL_law_1331 ?_
  refine cx_sld (sc := (0, Ls, xs)) (pc := 1332) (i + 5) (w32_ij 5 (i + 5) (by omega) (by omega)) (by show i + 5 < Ls; omega) hL dL_law_1332 ?_
  refine aw_callV (pc := 1333) (ci := 11) (dC := 2) (mcC := 0) (msC := 0) [iv (xs (i + 1)).toInt, iv (xs (i + 2)).toInt, iv (xs (i + 3)).toInt, iv (xs (i + 4)).toInt, iv (xs (i + 5)).toInt] (s_X11_copy l (0, Ls, xs) (fun mr => E2 r1.2 mr) _ (LE_E2r r1.2) RRF_E2 n (xs (i + 1)).toInt (xs (i + 2)).toInt (xs (i + 3)).toInt (xs (i + 4)).toInt (xs (i + 5)).toInt (inR_32 _) (inR_32 _) (inR_32 _) (inR_32 _) (inR_32 _) mr r2 H2) ca_L_145 (((LE_E2r r1.2).1 mr 100 (by decide)).trans (cel_obj rfl)) ⟨_, rfl, rfl⟩ rfl rfl (Nat.le_of_ble_eq_true rfl) (Nat.le_of_ble_eq_true rfl) hk hs dL_law_1333 (fun v9 hp9 hq9 _ => ?_)
  obtain ⟨rfl, hr2, rfl⟩ := hq9
  refine AW.eqh (hp' := E2 r1.2 r2.2) rfl ?_
  refine aw_icmp_eq (pc := 1336) 1413 dL_law_1336 rfl (fun _ => ?_) (fun h => absurd (by rw [he]) h)
  exact kk
set_option maxRecDepth 100000 in
set_option maxHeartbeats 4000000 in
theorem law_31 {l : Launch} {D : va_G} {base Ls : Nat} {xs : Nat → Int32} {y : MethodName} {ad : Nat → Nat} {hp0 : g_H} {k s i : Nat} {mc mr : Mem} (hL : Ls ≤ 3072) (hi : i + 6 ≤ Ls) (n N : Nat) (r1 r2 : Rz) (H1 : f_X10_image n  mc = some r1) (H2 : f_X11_image n  mr = some r2) (he : r1.1 = r2.1) (hk : k + 0 ≤ 600000) (hs : s + 0 ≤ 7302250) (kk : AW l D base (0, Ls, xs) RL y cL_law 4 (some .boolean) 840 600000 7302250 ad hp0 PostL (k + 0) (s + 0) (E2 r1.2 r2.2) 1413 [(3, iv (i : Int)), (2, .ref 100), (1, .ref 1), (0, .ref 0)] []) : AW l D base (0, Ls, xs) RL y cL_law 4 (some .boolean) 840 600000 7302250 ad hp0 PostL k s (E2 mc mr) 1341 [(3, iv (i : Int)), (2, .ref 100), (1, .ref 1), (0, .ref 0)] [] := by
  refine aw_aload_n (pc := 1341) dL_law_1341 rfl ?_
  refine aw_callV (pc := 1342) (ci := 10) (dC := 2) (mcC := 0) (msC := 0) [] (s_X10_image l (0, Ls, xs) (fun mc => E2 mc mr) _ (LE_E2c mr) RCL_EC n   mc r1 H1) ca_L_146 (((LE_E2c mr).1 mc 1 (by decide)).trans (cel_obj rfl)) ⟨_, rfl, rfl⟩ rfl rfl (Nat.le_of_ble_eq_true rfl) (Nat.le_of_ble_eq_true rfl) hk hs dL_law_1342 (fun v9 hp9 hq9 _ => ?_)
  obtain ⟨rfl, hr1, rfl⟩ := hq9
  refine AW.eqh (hp' := E2 r1.2 mr) rfl ?_
  refine aw_aload_n (pc := 1345) dL_law_1345 rfl ?_
  refine aw_callV (pc := 1346) (ci := 11) (dC := 63) (mcC := 0) (msC := 0) [] (s_X11_image l (0, Ls, xs) (fun mr => E2 r1.2 mr) _ (LE_E2r r1.2) RRF_E2 n   mr r2 H2) ca_L_149 (((LE_E2r r1.2).1 mr 100 (by decide)).trans (cel_obj rfl)) ⟨_, rfl, rfl⟩ rfl rfl (Nat.le_of_ble_eq_true rfl) (Nat.le_of_ble_eq_true rfl) hk hs dL_law_1346 (fun v9 hp9 hq9 _ => ?_)
  obtain ⟨rfl, hr2, rfl⟩ := hq9
  refine AW.eqh (hp' := E2 r1.2 r2.2) rfl ?_
  refine aw_icmp_eq (pc := 1349) 1413 dL_law_1349 rfl (fun _ => ?_) (fun h => absurd (by rw [he]) h)
  exact kk
set_option maxRecDepth 100000 in
set_option maxHeartbeats 4000000 in
theorem law_32 {l : Launch} {D : va_G} {base Ls : Nat} {xs : Nat → Int32} {y : MethodName} {ad : Nat → Nat} {hp0 : g_H} {k s i : Nat} {mc mr : Mem} (hL : Ls ≤ 3072) (hi : i + 6 ≤ Ls) (n N : Nat) (r1 r2 : Rz) (H1 : f_X10_restore n  mc = some r1) (H2 : f_X11_restore n  mr = some r2) (he : r1.1 = r2.1) (hk : k + 0 ≤ 600000) (hs : s + 0 ≤ 7302250) (kk : AW l D base (0, Ls, xs) RL y cL_law 4 (some .boolean) 840 600000 7302250 ad hp0 PostL (k + 0) (s + 0) (E2 r1.2 r2.2) 1413 [(3, iv (i : Int)), (2, .ref 100), (1, .ref 1), (0, .ref 0)] []) : AW l D base (0, Ls, xs) RL y cL_law 4 (some .boolean) 840 600000 7302250 ad hp0 PostL k s (E2 mc mr) 1354 [(3, iv (i : Int)), (2, .ref 100), (1, .ref 1), (0, .ref 0)] [] := by
  refine aw_aload_n (pc := 1354) dL_law_1354 rfl ?_
  refine aw_callV (pc := 1355) (ci := 10) (dC := 2) (mcC := 0) (msC := 0) [] (s_X10_restore l (0, Ls, xs) (fun mc => E2 mc mr) _ (LE_E2c mr) RCL_EC n   mc r1 H1) ca_L_150 (((LE_E2c mr).1 mc 1 (by decide)).trans (cel_obj rfl)) ⟨_, rfl, rfl⟩ rfl rfl (Nat.le_of_ble_eq_true rfl) (Nat.le_of_ble_eq_true rfl) hk hs dL_law_1355 (fun v9 hp9 hq9 _ => ?_)
  obtain ⟨rfl, hr1, rfl⟩ := hq9
  refine AW.eqh (hp' := E2 r1.2 mr) rfl ?_
  refine aw_aload_n (pc := 1358) dL_law_1358 rfl ?_
  refine aw_callV (pc := 1359) (ci := 11) (dC := 63) (mcC := 0) (msC := 0) [] (s_X11_restore l (0, Ls, xs) (fun mr => E2 r1.2 mr) _ (LE_E2r r1.2) RRF_E2 n   mr r2 H2) ca_L_153 (((LE_E2r r1.2).1 mr 100 (by decide)).trans (cel_obj rfl)) ⟨_, rfl, rfl⟩ rfl rfl (Nat.le_of_ble_eq_true rfl) (Nat.le_of_ble_eq_true rfl) hk hs dL_law_1359 (fun v9 hp9 hq9 _ => ?_)
  obtain ⟨rfl, hr2, rfl⟩ := hq9
  refine AW.eqh (hp' := E2 r1.2 r2.2) rfl ?_
  refine aw_icmp_eq (pc := 1362) 1413 dL_law_1362 rfl (fun _ => ?_) (fun h => absurd (by rw [he]) h)
  exact kk
set_option maxRecDepth 100000 in
set_option maxHeartbeats 4000000 in
theorem law_33 {l : Launch} {D : va_G} {base Ls : Nat} {xs : Nat → Int32} {y : MethodName} {ad : Nat → Nat} {hp0 : g_H} {k s i : Nat} {mc mr : Mem} (hL : Ls ≤ 3072) (hi : i + 6 ≤ Ls) (n N : Nat) (r1 r2 : Rz) (H1 : f_X10_count n (xs (i + 1)).toInt mc = some r1) (H2 : f_X11_count n (xs (i + 1)).toInt mr = some r2) (he : r1.1 = r2.1) (hk : k + 0 ≤ 600000) (hs : s + 0 ≤ 7302250) (kk : AW l D base (0, Ls, xs) RL y cL_law 4 (some .boolean) 840 600000 7302250 ad hp0 PostL (k + 0) (s + 0) (E2 r1.2 r2.2) 1413 [(3, iv (i : Int)), (2, .ref 100), (1, .ref 1), (0, .ref 0)] []) : AW l D base (0, Ls, xs) RL y cL_law 4 (some .boolean) 840 600000 7302250 ad hp0 PostL k s (E2 mc mr) 1367 [(3, iv (i : Int)), (2, .ref 100), (1, .ref 1), (0, .ref 0)] [] := by
  refine aw_aload_n (pc := 1367) dL_law_1367 rfl ?_
  refine aw_aload_n (pc := 1368) dL_law_1368 rfl ?_
  refine aw_iload_n (pc := 1369) dL_law_1369 rfl ?_
  refine cx_iconst (pc := 1370) dL_law_1370 ?_
  refine cx_iadd (pc := 1371) dL_law_1371 ?_
  refine cx_sld (sc := (0, Ls, xs)) (pc := 1372) (i + 1) (w32_ij 1 (i + 1) (by omega) (by omega)) (by show i + 1 < Ls; omega) hL dL_law_1372 ?_
  refine aw_callV (pc := 1373) (ci := 10) (dC := 3) (mcC := 0) (msC := 0) [iv (xs (i + 1)).toInt] (s_X10_count l (0, Ls, xs) (fun mc => E2 mc mr) _ (LE_E2c mr) RCL_EC n (xs (i + 1)).toInt (inR_32 _) mc r1 H1) ca_L_154 (((LE_E2c mr).1 mc 1 (by decide)).trans (cel_obj rfl)) ⟨_, rfl, rfl⟩ rfl rfl (Nat.le_of_ble_eq_true rfl) (Nat.le_of_ble_eq_true rfl) hk hs dL_law_1373 (fun v9 hp9 hq9 _ => ?_)
  obtain ⟨rfl, hr1, rfl⟩ := hq9
  refine AW.eqh (hp' := E2 r1.2 mr) rfl ?_
  refine aw_aload_n (pc := 1376) dL_law_1376 rfl ?_
  refine aw_aload_n (pc := 1377) dL_law_1377 rfl ?_
  refine aw_iload_n (pc := 1378) dL_law_1378 rfl ?_
  refine cx_iconst (pc := 1379) dL_law_1379 ?_
  refine cx_iadd (pc := 1380) dL_law_1380 ?_
  refine cx_sld (sc := (0, Ls, xs)) (pc := 1381) (i + 1) (w32_ij 1 (i + 1) (by omega) (by omega)) (by show i + 1 < Ls; omega) hL dL_law_1381 ?_
  refine aw_callV (pc := 1382) (ci := 11) (dC := 63) (mcC := 0) (msC := 0) [iv (xs (i + 1)).toInt] (s_X11_count l (0, Ls, xs) (fun mr => E2 r1.2 mr) _ (LE_E2r r1.2) RRF_E2 n (xs (i + 1)).toInt (inR_32 _) mr r2 H2) ca_L_157 (((LE_E2r r1.2).1 mr 100 (by decide)).trans (cel_obj rfl)) ⟨_, rfl, rfl⟩ rfl rfl (Nat.le_of_ble_eq_true rfl) (Nat.le_of_ble_eq_true rfl) hk hs dL_law_1382 (fun v9 hp9 hq9 _ => ?_)
  obtain ⟨rfl, hr2, rfl⟩ := hq9
  refine AW.eqh (hp' := E2 r1.2 r2.2) rfl ?_
  refine aw_icmp_eq (pc := 1385) 1413 dL_law_1385 rfl (fun _ => ?_) (fun h => absurd (by rw [he]) h)
  exact kk
set_option maxRecDepth 100000 in
set_option maxHeartbeats 4000000 in
theorem law_34 {l : Launch} {D : va_G} {base Ls : Nat} {xs : Nat → Int32} {y : MethodName} {ad : Nat → Nat} {hp0 : g_H} {k s i : Nat} {mc mr : Mem} (hL : Ls ≤ 3072) (hi : i + 6 ≤ Ls) (n N : Nat) (r1 r2 : Rz) (H1 : f_X10_told n (xs (i + 1)).toInt mc = some r1) (H2 : f_X11_told n (xs (i + 1)).toInt mr = some r2) (he : r1.1 = r2.1) (hk : k + 0 ≤ 600000) (hs : s + 0 ≤ 7302250) (kk : AW l D base (0, Ls, xs) RL y cL_law 4 (some .boolean) 840 600000 7302250 ad hp0 PostL (k + 0) (s + 0) (E2 r1.2 r2.2) 1413 [(3, iv (i : Int)), (2, .ref 100), (1, .ref 1), (0, .ref 0)] []) : AW l D base (0, Ls, xs) RL y cL_law 4 (some .boolean) 840 600000 7302250 ad hp0 PostL k s (E2 mc mr) 1390 [(3, iv (i : Int)), (2, .ref 100), (1, .ref 1), (0, .ref 0)] [] := by
  refine aw_aload_n (pc := 1390) dL_law_1390 rfl ?_
  refine aw_aload_n (pc := 1391) dL_law_1391 rfl ?_
  refine aw_iload_n (pc := 1392) dL_law_1392 rfl ?_
  refine cx_iconst (pc := 1393) dL_law_1393 ?_
  refine cx_iadd (pc := 1394) dL_law_1394 ?_
  refine cx_sld (sc := (0, Ls, xs)) (pc := 1395) (i + 1) (w32_ij 1 (i + 1) (by omega) (by omega)) (by show i + 1 < Ls; omega) hL dL_law_1395 ?_
  refine aw_callV (pc := 1396) (ci := 10) (dC := 2) (mcC := 0) (msC := 0) [iv (xs (i + 1)).toInt] (s_X10_told l (0, Ls, xs) (fun mc => E2 mc mr) _ (LE_E2c mr) RCL_EC n (xs (i + 1)).toInt (inR_32 _) mc r1 H1) ca_L_158 (((LE_E2c mr).1 mc 1 (by decide)).trans (cel_obj rfl)) ⟨_, rfl, rfl⟩ rfl rfl (Nat.le_of_ble_eq_true rfl) (Nat.le_of_ble_eq_true rfl) hk hs dL_law_1396 (fun v9 hp9 hq9 _ => ?_)
  obtain ⟨rfl, hr1, rfl⟩ := hq9
  refine AW.eqh (hp' := E2 r1.2 mr) rfl ?_
  refine aw_aload_n (pc := 1399) dL_law_1399 rfl ?_
  refine aw_aload_n (pc := 1400) dL_law_1400 rfl ?_
  refine aw_iload_n (pc := 1401) dL_law_1401 rfl ?_
  refine cx_iconst (pc := 1402) dL_law_1402 ?_
  refine cx_iadd (pc := 1403) dL_law_1403 ?_
  refine cx_sld (sc := (0, Ls, xs)) (pc := 1404) (i + 1) (w32_ij 1 (i + 1) (by omega) (by omega)) (by show i + 1 < Ls; omega) hL dL_law_1404 ?_
  refine aw_callV (pc := 1405) (ci := 11) (dC := 1) (mcC := 0) (msC := 0) [iv (xs (i + 1)).toInt] (s_X11_told l (0, Ls, xs) (fun mr => E2 r1.2 mr) _ (LE_E2r r1.2) RRF_E2 n (xs (i + 1)).toInt (inR_32 _) mr r2 H2) ca_L_161 (((LE_E2r r1.2).1 mr 100 (by decide)).trans (cel_obj rfl)) ⟨_, rfl, rfl⟩ rfl rfl (Nat.le_of_ble_eq_true rfl) (Nat.le_of_ble_eq_true rfl) hk hs dL_law_1405 (fun v9 hp9 hq9 _ => ?_)
  obtain ⟨rfl, hr2, rfl⟩ := hq9
  refine AW.eqh (hp' := E2 r1.2 r2.2) rfl ?_
  refine aw_icmp_eq (pc := 1408) 1413 dL_law_1408 rfl (fun _ => ?_) (fun h => absurd (by rw [he]) h)
  exact kk
