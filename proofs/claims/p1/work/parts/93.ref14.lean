/-! THE TABLE: a game is made canonical -/
def SCn (a i : Nat) : Prop := (a = 100 ∧ (i = 15 ∨ i = 16 ∨ i = 23 ∨ i = 24 ∨ i = 29)) ∨ (102 ≤ a ∧ a ≤ 117) ∨ a = 120 ∨ a = 121 ∨ a = 123 ∨ a = 124
def STm (m : Mem) (s : Nat) : Prop := mGet m 100 29 = (s : Int) ∧ ∀ x, x < 16000 → (0 ≤ mGet m 123 x ∧ mGet m 123 x < 2 * (s : Int) + 2) ∧ (0 ≤ mGet m 124 x ∧ mGet m 124 x < 2 * (s : Int) + 2)
theorem HU.st {m : Mem} {N s H : Nat} {d : Nat → Nat} (h : HU m N d H s) : STm m s := ⟨h.1, fun x hx => by
  obtain ⟨a, b⟩ := h.2.2 x hx
  have r1 := rb_01 (gleB (d x) H)
  have r2 := rb_01 (gleB H (d x))
  refine ⟨?_, ?_⟩
  · rcases a with ⟨_, a⟩ | ⟨a1, a2⟩
    · exact ⟨by omega, by omega⟩
    · exact ⟨a1, by omega⟩
  · rcases b with ⟨_, a⟩ | ⟨a1, a2⟩
    · exact ⟨by omega, by omega⟩
    · exact ⟨a1, by omega⟩⟩
theorem STm.ext {m m' : Mem} {s : Nat} (h : STm m s) (e : ∀ a i, (a = 100 ∧ i = 29) ∨ a = 123 ∨ a = 124 → mGet m' a i = mGet m a i) : STm m' s := ⟨(e _ _ (Or.inl ⟨rfl, rfl⟩)).trans h.1, fun x hx => by
  rw [e 123 x (Or.inr (Or.inl rfl)), e 124 x (Or.inr (Or.inr rfl))]
  exact h.2 x hx⟩
section RK
variable {n N P : Nat} {lo ro : Nat → List Nat} {st : Nat → Nat} {d : Nat → Nat} {F : List Nat}
theorem canonical_ok {l r : List Nat} {s : Nat} {m : Mem} (hn : BIG < n) (R : RT m N P lo ro st d F) (M : MP m N d) (H : Hd m l r) (T : STm m s) (hs : s < 1000000000) (hl : l.Nodup) (hr : r.Nodup) (hb : ∀ o, o ∈ l ++ r → o < N) (hF : ∀ K, can K → geq K (MK d l r) → K ∈ F) : Ok (f_X11_canonical n m) (fun v m' => ∃ (u N' P' : Nat) (lo' ro' : Nat → List Nat) (st' d' : Nat → Nat), v = (u : Int) ∧ u < N' ∧ RT m' N' P' lo' ro' st' d' F ∧ geq (d' u) (MK d l r) ∧ Gw m m' N N' d d' ∧ N' ≤ N + 1 ∧ MP m' N' d' ∧ STm m' (s + 1) ∧ Ch SCn m m' ∧ (∀ g, g < N → lo' g = lo g ∧ ro' g = ro g ∧ st' g = st g ∧ mGet m' 111 g = mGet m 111 g) ∧ (∀ g, N ≤ g → g < N' → mGet m' 111 g = 0)) := by
  have n3 := BIG_n hn
  unfold f_X11_canonical
  rw [gtF_eq, ptF_eq, T.1, w32_1 (by omega)]
  obtain ⟨m1, e1⟩ : ∃ m1, m1 = mSet m 100 29 ((s + 1 : Nat) : Int) := ⟨_, rfl⟩
  rw [← e1]
  have g1 : ∀ a i, mGet m1 a i = if a = 100 ∧ i = 29 then ((s + 1 : Nat) : Int) else mGet m a i := fun a i => by rw [e1, mGet_mSet, w32_nat (by omega)]
  have c1 : Ch SCn m m1 := by rw [e1]; exact Ch.set (Or.inl ⟨rfl, by omega⟩)
  have R1 : RT m1 N P lo ro st d F := R.ext (fun a i h => by rw [g1, if_neg (by unfold RCe at h; omega)])
  have M1 : MP m1 N d := M.sb (fun a i z => by rw [g1, if_neg (by omega)])
  have H1 : Hd m1 l r := H.ext (fun a i z => by rw [g1, if_neg (by omega)])
  have U1 : HU m1 N d (MK d l r) (s + 1) := ⟨by rw [g1, if_pos ⟨rfl, rfl⟩], by omega, fun x hx => by
    rw [g1, g1, if_neg (by omega), if_neg (by omega)]
    obtain ⟨⟨a, b⟩, c, e⟩ := T.2 x hx
    exact ⟨Or.inr ⟨a, by omega⟩, Or.inr ⟨c, by omega⟩⟩⟩
  have SBC : ∀ a i, SB a i → SCn a i := fun a i z => by unfold SB SU SLt SRt at z; unfold SCn; omega
  refine ok_cal (byL_ok hn R1 M1 H1 U1 hl hr hb) (fun _ m2 hq => ?_)
  obtain ⟨a, na, hb2, H2, ge2, nr2, M2, U2, c2⟩ := hq
  have R2 := R1.sb c2
  refine ok_cal (byR_ok hn R2 M2 H2 U2 na hr hb2) (fun _ m3 hq => ?_)
  obtain ⟨b, nb, hb3, H3, ge3, nr3, M3, U3, c3⟩ := hq
  have R3 := R2.sb c3
  refine ok_cal (rw_ok n3 R3 M3 H3 na nb hb3) (fun _ m4 hq => ?_)
  obtain ⟨a2, b2, na2, nb2, H4, sa, sb, ge4, an1, an2, M4, c4⟩ := hq
  have R4 := R3.sw c4
  have aN : ∀ o, o ∈ a2 → o < N := fun o ho => hb3 o (List.mem_append_left _ (sa o ho))
  have bN : ∀ o, o ∈ b2 → o < N := fun o ho => hb3 o (List.mem_append_right _ (sb o ho))
  have hb4 : ∀ o, o ∈ a2 ++ b2 → o < N := fun o ho => (List.mem_append.mp ho).elim (aN o) (bN o)
  have K : can (MK d a2 b2) := by
    refine (can_def _).mpr ⟨fun w x hw hx => ?_, fun x y hx hy ne => ?_, fun x y hx hy ne => ?_, fun x y hx hy => ?_, fun x y hx hy => ?_⟩
    · rcases (by omega : w = 0 ∨ w = 1) with rfl | rfl
      · obtain ⟨o, ho, rfl⟩ := op_MKL.mp hx; exact R.can (aN o ho)
      · obtain ⟨o, ho, rfl⟩ := op_MKR.mp hx; exact R.can (bN o ho)
    · obtain ⟨o, ho, rfl⟩ := op_MKL.mp hx
      obtain ⟨o2, ho2, rfl⟩ := op_MKL.mp hy
      exact an1 o ho o2 ho2 (fun e => ne (by rw [e]))
    · obtain ⟨o, ho, rfl⟩ := op_MKR.mp hx
      obtain ⟨o2, ho2, rfl⟩ := op_MKR.mp hy
      exact an2 o ho o2 ho2 (fun e => ne (by rw [e]))
    · obtain ⟨o, ho, rfl⟩ := op_MKL.mp hx
      obtain ⟨o2, ho2, rfl⟩ := (R.opR (aN o ho)).mp hy
      intro z
      exact nr2 o (sa o ho) o2 ho2 ((ge3.tr ge4).r.mpr z)
    · obtain ⟨o, ho, rfl⟩ := op_MKR.mp hx
      obtain ⟨o2, ho2, rfl⟩ := (R.opL (bN o ho)).mp hy
      intro z
      exact nr3 o (sb o ho) o2 ho2 (ge4.l.mpr z)
  have ge := (ge2.tr ge3).tr ge4
  refine ok_cal (found_ok R4 H4 na2 nb2 hb4 K (hF _ K ge.sy) n3) (fun v m5 hq => ?_)
  obtain ⟨u, N', P', lo', ro', st', d', rfl, hu, R5, du, G5, hN', c5, old, new⟩ := hq
  have u5 : ∀ a i, ¬ SFd a i → mGet m5 a i = mGet m4 a i := c5.2
  have u4 : ∀ a i, ¬ SW a i → mGet m4 a i = mGet m3 a i := c4.2
  have u14 : ∀ a i, 102 ≤ a → a ≤ 115 → mGet m4 a i = mGet m a i := fun a i z1 z2 => by
    rw [u4 a i (by unfold SW SP SLt SRt; omega), c3.2 a i (by unfold SB SU SLt SRt; omega), c2.2 a i (by unfold SB SU SLt SRt; omega), g1, if_neg (by omega)]
  have T4 : STm m4 (s + 1) := U3.st.ext (fun a i z => u4 a i (by unfold SW SP SLt SRt; omega))
  refine ok_rt ⟨u, N', P', lo', ro', st', d', rfl, hu, R5, by rw [du]; exact ge.sy, ⟨G5.1, G5.2.1, fun g hg => (G5.2.2.1 g hg).trans (u14 _ _ (by decide) (by decide)), G5.2.2.2⟩, hN', M4.ext G5.1 G5.2.1 (fun k => ⟨u5 _ _ (by unfold SFd; omega), u5 _ _ (by unfold SFd; omega)⟩), T4.ext (fun a i z => u5 a i (by unfold SFd; omega)), ?_, fun g hg => ⟨(old g hg).1, (old g hg).2.1, (old g hg).2.2.1, ((old g hg).2.2.2).trans (u14 _ _ (by decide) (by decide))⟩, new⟩
  exact (((c1.tr (c2.weak SBC)).tr (c3.weak SBC)).tr (c4.weak (fun a i z => by unfold SW SP SLt SRt at z; unfold SCn; omega))).tr (c5.weak (fun a i z => by unfold SFd at z; unfold SCn; omega))
end RK
