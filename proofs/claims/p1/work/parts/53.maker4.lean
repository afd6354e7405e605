/-! THE MAKER: games out of rows of games -/
theorem ldG_ok {m : Mem} {a len i : Nat} {K : Nat → Option Rz} (hk : sKind m a = (5, len)) (hi : i < len) : ldG m a (i : Int) K = K (mGet m a i).toNat := by
  unfold ldG
  rw [hk, if_pos ⟨rfl, by omega, by show (i : Int) < (len : Int); omega⟩, Int.toNat_natCast]
theorem kI32 (m : Mem) : sKind m 32 = (1, 120) := rfl
abbrev S32 (a : Nat) : Prop := SY a ∨ a = 29 ∨ a = 32
/-- the sets told from rows: games kk 0, kk 1 .. from one place to another -/
def RG (kk : Nat → Nat) (a b : Nat) (z : Nat) : Prop := ∃ i, a ≤ i ∧ i < b ∧ z = kk i
theorem RG_nil {kk : Nat → Nat} {a b : Nat} (h : b ≤ a) (z : Nat) : RG kk a b z ↔ False := ⟨fun ⟨i, h1, h2, _⟩ => by omega, fun h => h.elim⟩
theorem RG_succ {kk : Nat → Nat} {a b : Nat} (h : a ≤ b) (z : Nat) : RG kk a (b + 1) z ↔ RG kk a b z ∨ z = kk b := by
  constructor
  · rintro ⟨i, h1, h2, h3⟩
    rcases (by omega : i < b ∨ i = b) with q | rfl
    · exact Or.inl ⟨i, h1, q, h3⟩
    · exact Or.inr h3
  · rintro (⟨i, h1, h2, h3⟩ | h3)
    · exact ⟨i, h1, by omega, h3⟩
    · exact ⟨b, h, by omega, h3⟩
/-- the row of games at cell a, from one place to another -/
def GRow (m : Mem) (a fr to : Nat) (kk : Nat → Nat) : Prop := ∀ i, fr ≤ i → i < to → ∃ o : Nat, mGet m a i = (o : Int) ∧ GOb m o (kk i) ∧ can (kk i) ∧ fits (kk i)
theorem GRow.mono {m m' : Mem} {a fr to : Nat} {kk : Nat → Nat} {S : Nat → Prop} (h : GRow m a fr to kk) (f : Fr m m' S) (ha : a < 1000) (hS : ¬ S a) : GRow m' a fr to kk := fun i h1 h2 => by
  obtain ⟨o, q1, q2, q3⟩ := h i h1 h2
  exact ⟨o, by rw [f.2 a i ha hS]; exact q1, f.gob q2, q3⟩
set_option maxHeartbeats 1000000 in
theorem gameOf_ok {n a len fr md to G : Nat} {F : List Nat} {kk : Nat → Nat} {m : Mem} (hn : 300 < n) (hk : sKind m a = (5, len)) (ha : a < 1000) (hS : ¬ SM a) (hlen : len < 2000) (h1 : fr ≤ md) (h2 : md ≤ to) (h3 : to ≤ len) (h4 : to - fr ≤ 120) (hR : GRow m a fr to kk) (hF0 : 0 ∈ F) (hF : ∀ i, fr ≤ i → i < to → ∀ x, fol (kk i) x → x ∈ F) (hFl : F.length ≤ 255) (hG : Fits (RG kk fr md) (RG kk md to) G) (hb : mNext m + 4 < 2147483648) : Ok (f_X2_gameOf n a (fr : Int) (md : Int) (to : Int) m) (fun v m' => (∃ K, can K ∧ geq K G ∧ Res m' v K) ∧ Fr m m' SM ∧ mNext m' ≤ mNext m + 4) := by
  unfold f_X2_gameOf
  dsimp only [jn]
  rw [if_neg (by omega), lenA_ok hk (by decide) (by decide) (by omega), if_neg (by omega), w32_id (x := (to : Int) - (fr : Int)) (by omega) (by omega), if_neg (by omega)]
  refine ok_cal (clearB (F := F) hn hF0 hFl) (fun _ m1 q1 => ?_)
  obtain ⟨Y1, f1, n1, _⟩ := q1
  have kk2 : ∀ m' : Mem, Fr m m' SM → sKind m' a = (5, len) := fun m' h => by rw [h.1.kind (by have := mNext_ge m; omega)]; exact hk
  refine ok_up1 to (fun i m2 => fr ≤ i ∧ ∃ N, YB m2 N F ∧ Fr m m2 SM ∧ mNext m2 = mNext m ∧ ∀ j, fr ≤ j → j < i → ∃ c : Nat, c < N ∧ mGet m2 32 (j - fr) = (c : Int) ∧ yden m2 c = kk j) (fun w i m2 hi hI hw => ?_) (fun w m2 hI => ?_) n fr m1 (by omega) ⟨Nat.le_refl _, 1, Y1, f1.weak (fun a h => Or.inl h), n1, fun j h5 h6 => by omega⟩ (by omega)
  · obtain ⟨hfr, N, Y2, f2, n2, T2⟩ := hI
    obtain ⟨o, e1, O, cO, fO⟩ := (hR.mono f2 ha hS) i hfr hi
    rw [if_pos (by omega), ldG_ok (kk2 m2 f2) (by omega), e1, Int.toNat_natCast, k_1 (by omega), w32_id (x := (i : Int) - (fr : Int)) (by omega) (by omega), show (i : Int) - (fr : Int) = ((i - fr : Nat) : Int) by omega]
    refine ok_cal (load_ok (neg := false) (F := F) hn O (fitsGX O cO fO) cO Y2 (fun x hx => hF i hfr hi x hx)) (fun v3 m3 h5 => ?_)
    obtain ⟨u, N3, rfl, u1, u2, Y3, ⟨z3, f3⟩, old3, e3, _⟩ := h5
    have u256 := Y3.lt
    rw [stI_ok (kI32 _) (by omega)]
    have G8 : ∀ b c, mGet (mSet m3 32 (i - fr) (u : Int)) b c = if b = 32 ∧ c = i - fr then (u : Int) else mGet m3 b c := fun b c => by rw [mGet_mSet, w32_nat (by omega)]
    obtain ⟨Y8, d8⟩ := Y3.1.lg (m' := mSet m3 32 (i - fr) (u : Int)) rfl (fun b c q => by rw [G8, if_neg (by omega)])
    refine hw _ ⟨by omega, N3, ⟨Y8, by rw [G8, if_neg (by omega)]; exact Y3.2.1, fun v hv => by rw [d8]; exact Y3.2.2.1 v hv, Y3.2.2.2⟩, (f2.tr (f3.weak (fun b h => h.elim Or.inl (fun h => Or.inr (by omega))))).tr (Fr.of rfl (fun b c q => by rw [G8, if_neg (fun h => q ⟨by omega, Or.inr (by omega)⟩)])), by show mNext m3 = _; rw [mNext_eq z3]; exact n2, fun j h6 h7 => ?_⟩
    by_cases q : j = i
    · exact ⟨u, u1, by rw [q, G8, if_pos ⟨rfl, rfl⟩], by rw [d8, q]; exact e3⟩
    · obtain ⟨c, c1, c2, c3⟩ := T2 j h6 (by omega)
      exact ⟨c, by omega, by rw [G8, if_neg (by omega), f3.2 32 _ (by decide) (by decide)]; exact c2, by rw [d8, old3 c c1]; exact c3⟩
  · obtain ⟨hfr, N, Y2, f2, n2, T2⟩ := hI
    rw [if_neg (by omega)]
    have N255 := Y2.lt
    refine ok_cal (Y2.beg hn) (fun _ m3 h5 => ?_)
    obtain ⟨G3, F3, v3⟩ := h5
    have T3 : ∀ m4, YF m3 m4 N N → ∀ j, fr ≤ j → j < to → ∃ c : Nat, c < N ∧ mGet m4 32 (j - fr) = (c : Int) ∧ yden m4 c = kk j := fun m4 f j h6 h7 => by
      obtain ⟨c, c1, c2, c3⟩ := T2 j h6 h7
      exact ⟨c, c1, by rw [((F3.tr f).toFr (Nat.le_refl _)).2 32 _ (by decide) (by decide)]; exact c2, by rw [(F3.tr f).old c1]; exact c3⟩
    refine ok_up1 to (fun i m4 => fr ≤ i ∧ YG m4 N (RG kk fr (if i ≤ md then i else md)) (RG kk md i) ∧ YF m3 m4 N N) (fun w i m4 hi hI hw => ?_) (fun w m4 hI => ?_) n fr m3 (by omega) ⟨Nat.le_refl _, G3.iff (fun z => by rw [if_pos h1]; exact RG_nil (Nat.le_refl _) z) (fun z => RG_nil h1 z), YF.rf _ _⟩ (by omega)
    · obtain ⟨hfr, G4, F4⟩ := hI
      obtain ⟨c, c1, c2, c3⟩ := T3 m4 F4 i hfr hi
      rw [if_pos (by omega), k_1 (by omega), w32_id (x := (i : Int) - (fr : Int)) (by omega) (by omega), show (i : Int) - (fr : Int) = ((i - fr : Nat) : Int) by omega]
      by_cases q : i < md
      · rw [if_pos (by omega), ldI_ok (kI32 _) (by omega), c2]
        refine ok_cal (addLeft_ok G4 c1) (fun _ m5 h5 => ?_)
        refine hw m5 ⟨by omega, h5.1.iff (fun z => ?_) (fun z => ?_), F4.tr h5.2⟩
        · rw [if_pos (by omega), if_pos (by omega), RG_succ hfr, c3]
        · rw [RG_nil (by omega), RG_nil (by omega)]
      · rw [if_neg (by omega), ldI_ok (kI32 _) (by omega), c2]
        refine ok_cal (addRight_ok G4 c1) (fun _ m5 h5 => ?_)
        refine hw m5 ⟨by omega, h5.1.iff (fun z => ?_) (fun z => ?_), F4.tr h5.2⟩
        · rw [if_neg (by omega)]
          by_cases q2 : i = md
          · rw [if_pos (by omega), q2]
          · rw [if_neg (by omega)]
        · rw [RG_succ (by omega), c3]
    · obtain ⟨_, G4, F4⟩ := hI
      rw [if_neg (by omega)]
      have G4' : YG m4 N (RG kk fr md) (RG kk md to) := G4.iff (fun z => by
        by_cases q2 : to = md
        · rw [if_pos (by omega), q2]
        · rw [if_neg (by omega)]) (fun z => Iff.rfl)
      refine ok_cal (gof_ok hn G4' (by omega) hG) (fun v5 m5 h5 => ?_)
      obtain ⟨u, N5, rfl, hu, u1, Y5, s5, F5, g5⟩ := h5
      have F35 := (F3.tr F4).tr F5
      have fr5 := F35.toFr F5.2.2.2.2
      have nx : mNext m5 = mNext m := by rw [YB.next F35]; exact n2
      refine writ_res hn Y5 hu s5 (by omega) (fun v m' r1 r2 r3 _ _ _ => ?_)
      exact ⟨⟨_, Y5.1.2.2.2.2.2.1 u hu, g5, r1⟩, (f2.tr (fr5.weak (fun a h => Or.inl h))).tr (r2.weak (fun a h => Or.inl h)), by omega⟩
