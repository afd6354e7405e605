/-! THE CLAIM OUT OF ONE WALK OF THE LAW'S BODY. Your part is whole_start (and what it stands on); all else here is the same for every law, but numbers. -/
def R_law : String := "UppityGamesLaw"
def lw_P (b : Addr) (xs : List Int32) (args : Array Value) (s : State) : Prop := args = #[.ref b] ∧ s.IntsAt b xs ∧ xs.length ≤ 6 ∧ (Jvm.Cond.and given_1 narrow_1).before args s = true
def lw_Q (_ : Array Value) (s : State) (o : Outcome) (t : State) : Prop := o = .returned (some (.int 1)) ∧ Framed s o t [] 600000 7302250
def lw_Z (below : List Frame) (a : Array Value) (s : State) : State → Prop := fun t => ∃ o, t.status = .running ∧ Ended t below o ∧ lw_Q a s o t
/-- the law's own end, with 1 on the stack, nothing written that was there before, its room as the claim has it -/
theorem lw_ret {p : Program} {l : Launch} {e : Env} {s : State} {m : MethodId} {below : List Frame} {meth : Method} {c : Code} {b : Nat} (hx : p.tables.exec = Jvm.exec) (hb : c.code = code) (hr : meth.sig.returnType = ret) (hlocks : meth.locks = false) {pc : Nat} {H : Heap} {ls : Array Slot} (hdg : decode code pc = .ok (.ireturn, 1)) : W p l e room_1 s m #[Value.ref b] below meth c H [] 600000 7302250 (lw_Z below #[Value.ref b] s) (F0 m pc ls [.int 1]) := by
  intro T hT X
  obtain ⟨fs, hret, hrun, hended, hW, hframe⟩ := X.leave (v := some (.int 1)) (hlocks := hlocks) (fun h => by rw [hr] at h; cases h)
  have hmeth' : T.vm.method? m = some meth := X.method'
  refine ⟨T.setFrames fs, ?_, .returned (some (.int 1)), hrun, hended, rfl, ⟨_, rfl⟩, hW, hframe⟩
  jvm_step X.here [X.here.top, hx, hb, hdg, hmeth', hr, ret, narrow_b1]
  (try refine ⟨rfl, ?_⟩); (try refine ⟨rfl, ?_⟩)
  first | (intro acts; rw [hret _ acts rfl rfl rfl]) | rw [hret _ _ rfl rfl rfl]
  exact Steps.refl _
/-- what holds at the law's entry: the machine, the code, the tables' words (any of lw_tbl by 'hts w (by decide +kernel)'), the script of L ints xs at the cell b, what the Statement gives of the start (any of its parts by flat_of_before) -/
def lw_At (p : Program) (s : State) (m : MethodId) (meth : Method) (c : Code) (b L : Nat) (xs : Nat → Int32) : Prop :=
  p.tables.exec = Jvm.exec ∧ c.code = code ∧ meth.sig.returnType = ret ∧ c.maxLocals = 4 ∧ s.vm.findClass R_law = some m.cls ∧ (∀ w ∈ lw_tbl, w.before #[Value.ref b] s = true) ∧ va_X b L xs s s.heap ∧ b < s.heap.size ∧ meth.locks = false ∧ (Jvm.Cond.and given_1 narrow_1).before #[Value.ref b] s = true
theorem hex_known {s : State} {b : Nat} (hts : ∀ w ∈ lw_tbl, w.before #[Value.ref b] s = true) : ∀ c : Nat, ∃ (p : ClassId × (Nat → Nat)), ∀ q, vwCl[c]? = some q → u_Kn s q.1 q.2.1 q.2.2 p.1 p.2 := by
  intro c
  match c with
  | 0 =>
    obtain ⟨c0, i0, h0⟩ := u_known (C := RX0) (T := TX0) (N := 5) (n := 5) hts (fun w hw => g_Tsub (cls_X0 w hw)) (hts _ (g_Tsub in_X0))
    exact ⟨(c0, i0), fun q hq => by cases hq; exact h0⟩
  | 1 =>
    obtain ⟨c0, i0, h0⟩ := u_known (C := RX1) (T := TX1) (N := 5) (n := 5) hts (fun w hw => g_Tsub (cls_X1 w hw)) (hts _ (g_Tsub in_X1))
    exact ⟨(c0, i0), fun q hq => by cases hq; exact h0⟩
  | 2 =>
    obtain ⟨c0, i0, h0⟩ := u_known (C := RX2) (T := TX2) (N := 7) (n := 7) hts (fun w hw => g_Tsub (cls_X2 w hw)) (hts _ (g_Tsub in_X2))
    exact ⟨(c0, i0), fun q hq => by cases hq; exact h0⟩
  | 3 =>
    obtain ⟨c0, i0, h0⟩ := u_known (C := RX3) (T := TX3) (N := 4) (n := 4) hts (fun w hw => g_Tsub (cls_X3 w hw)) (hts _ (g_Tsub in_X3))
    exact ⟨(c0, i0), fun q hq => by cases hq; exact h0⟩
  | 4 =>
    obtain ⟨c0, i0, h0⟩ := u_known (C := RX4) (T := TX4) (N := 11) (n := 11) hts (fun w hw => g_Tsub (cls_X4 w hw)) (hts _ (g_Tsub in_X4))
    exact ⟨(c0, i0), fun q hq => by cases hq; exact h0⟩
  | 5 =>
    obtain ⟨c0, i0, h0⟩ := u_known (C := RX5) (T := TX5) (N := 3) (n := 3) hts (fun w hw => g_Tsub (cls_X5 w hw)) (hts _ (g_Tsub in_X5))
    exact ⟨(c0, i0), fun q hq => by cases hq; exact h0⟩
  | 6 =>
    obtain ⟨c0, i0, h0⟩ := u_known (C := RX6) (T := TX6) (N := 7) (n := 7) hts (fun w hw => g_Tsub (cls_X6 w hw)) (hts _ (g_Tsub in_X6))
    exact ⟨(c0, i0), fun q hq => by cases hq; exact h0⟩
  | 7 =>
    obtain ⟨c0, i0, h0⟩ := u_known (C := RX7) (T := TX7) (N := 8) (n := 8) hts (fun w hw => g_Tsub (cls_X7 w hw)) (hts _ (g_Tsub in_X7))
    exact ⟨(c0, i0), fun q hq => by cases hq; exact h0⟩
  | 8 =>
    obtain ⟨c0, i0, h0⟩ := u_known (C := RX8) (T := TX8) (N := 5) (n := 5) hts (fun w hw => g_Tsub (cls_X8 w hw)) (hts _ (g_Tsub in_X8))
    exact ⟨(c0, i0), fun q hq => by cases hq; exact h0⟩
  | 9 =>
    obtain ⟨c0, i0, h0⟩ := u_known (C := RX9) (T := TX9) (N := 15) (n := 15) hts (fun w hw => g_Tsub (cls_X9 w hw)) (hts _ (g_Tsub in_X9))
    exact ⟨(c0, i0), fun q hq => by cases hq; exact h0⟩
  | 10 =>
    obtain ⟨c0, i0, h0⟩ := u_known (C := RX10) (T := TX10) (N := 12) (n := 12) hts (fun w hw => g_Tsub (cls_X10 w hw)) (hts _ (g_Tsub in_X10))
    exact ⟨(c0, i0), fun q hq => by cases hq; exact h0⟩
  | 11 =>
    obtain ⟨c0, i0, h0⟩ := u_known (C := RX11) (T := TX11) (N := 58) (n := 58) hts (fun w hw => g_Tsub (cls_X11 w hw)) (hts _ (g_Tsub in_X11))
    exact ⟨(c0, i0), fun q hq => by cases hq; exact h0⟩
  | c + 12 => exact ⟨(0, fun _ => 0), fun q hq => by simp at hq⟩
theorem hasRoom_le {s : State} {pl : Platform} (h : s.hasRoom pl room_1 = true) : s.hasRoom pl (g_room 840 600000 7302250) = true := by
  unfold State.hasRoom at h ⊢
  simp only [Bool.and_eq_true, decide_eq_true_eq] at h ⊢
  have e1 : room_1.frames = 2048 := rfl
  have e2 : room_1.locals = 84000 := rfl
  have e3 : room_1.cells = 600000 := rfl
  have e4 : room_1.slots = 7302250 := rfl
  have f1 : (g_room 840 600000 7302250).frames = 840 := rfl
  have f2 : (g_room 840 600000 7302250).locals = 84000 := rfl
  have f3 : (g_room 840 600000 7302250).cells = 600000 := rfl
  have f4 : (g_room 840 600000 7302250).slots = 7302250 := rfl
  rw [e1, e2, e3, e4] at h
  rw [f1, f2, f3, f4]
  obtain ⟨⟨⟨⟨h1, h2, h3, h4, h5, h6⟩, h7⟩, h8⟩, h9⟩ := h
  exact ⟨⟨⟨⟨h1, by omega, by omega, h4, h5, h6⟩, h7⟩, h8⟩, h9⟩
theorem stand_le {p : Program} {l : Launch} {e : Env} {s : State} {m : MethodId} {args : Array Value} {below : List Frame} {meth : Method} {c : Code} {T : State} {locs : List Loc} {k n : Nat} (X : Stand p l e room_1 s m args below meth c T locs k n) : Stand p l e (g_room 840 600000 7302250) s m args below meth c T locs k n :=
  ⟨X.admits, X.cas, X.clock, X.frames, hasRoom_le X.room, X.hears, X.method, X.code, X.here, X.tail, X.warmed, X.limits, X.bytes, X.same⟩
theorem new_only {s t : State} {L : List Loc} {k n : Nat} (h : s.sameButNew t L k n) (hf : ∀ q ∈ L, s.heap.size ≤ q.base) : s.sameButNew t [] k n := by
  obtain ⟨h1, h2, h3, h4, h5, h6⟩ := h
  refine ⟨h1, h2, h3, h4, h5, fun a c hc => ?_⟩
  obtain ⟨c', g1, g2, g3, g4⟩ := h6 a c hc
  refine ⟨c', g1, g2, g3, fun i _ => g4 i (fun hm => ?_)⟩
  have h7 := hf _ hm
  have h8 := (Array.getElem?_eq_some_iff.mp hc).1
  have h9 : s.heap.size ≤ a := h7
  omega
theorem start_of (hall : AllRuns 6) {p : Program} {e : Env} {s : State} {m : MethodId} {below : List Frame} {meth : Method} {c : Code} (l : Launch) {b L : Nat} {xs : Nat → Int32} (hL : L ≤ 6) (C0 : lw_At p s m meth c b L xs) : W p l e room_1 s m #[Value.ref b] below meth c s.heap [] 0 0 (lw_Z below #[Value.ref b] s) (entryFrame m ([Value.ref b] : List Value).toArray 4) := by
  obtain ⟨hx, hb, hr, hml, hown, hts, hX, hbl, hlocks, hgv⟩ := id C0
  obtain ⟨n, f, rc, rr, Hc, Hr, Hrun⟩ := hall L xs hL
  have hkn := hex_known hts
  have hD : ∃ D : va_G, ∀ c q, vwCl[c]? = some q → u_Kn s q.1 q.2.1 q.2.2 (D.1 c) (D.2 c) := ⟨(fun c => (Classical.choose (hkn c)).1, fun c => (Classical.choose (hkn c)).2), fun c q hq => Classical.choose_spec (hkn c) q hq⟩
  obtain ⟨D, hD⟩ := hD
  have hbody := law_body (l := l) (D := D) (base := s.heap.size) (y := ⟨RL, meth.name, ""⟩) (ad := fun _ => b) (xs := xs) (Nat.le_trans hL (show 6 ≤ 3072 by decide)) n f rc rr Hc Hr Hrun
  have hnw : g_nw s := ⟨fun w hw => va_Nw.of (g_nN hw) (hts w (List.mem_filter.mp hw).1), va_AO.of (hts _ (by decide +kernel)), by
    have h9 := hts (Cond.arrayOver (.array .int)) (by decide +kernel)
    exact h9⟩
  have hctx : g_ctx p s m #[Value.ref b] meth c RL ⟨RL, meth.name, ""⟩ cL_law 4 (some .boolean) := ⟨hx, hb, hml, hown, fun w hw => hts w (g_Tsub hw), hr, hlocks, rfl, hnw⟩
  have hscr : g_scr s.heap.size (0, L, xs) (fun _ => b) s := ⟨hX, hbl, Nat.le_refl _⟩
  have hinv : g_inv D s.heap.size (0, L, xs) (fun _ => b) hN s s.heap := ⟨⟨[], [], ⟨hD, fun k q h => by simp at h⟩, fun k q h => by simp at h, ⟨fun i j p q h => by simp at h, fun k q h => by simp at h⟩, (fun i e h => by cases h)⟩, fun i j h => absurd rfl h, (fun i e h => by cases h), rfl⟩
  have hl := lv_entry ([.ref b]) (n := 4) (Nat.le_of_ble_eq_true rfl)
  rw [lg_entry_eq]
  have hrun := hbody p e s m #[Value.ref b] below meth c s.heap [] _ (fun _ => b) hctx hscr g_ext.rf hl (fun q hq => by
    rcases List.mem_cons.mp hq with rfl | hq
    · exact Or.inr rfl
    · cases hq) (fun v hv => by cases hv) hinv va_S.rf
  intro T hT X
  obtain ⟨t, h1, o, h2, h3, ⟨⟨v, hp', ad', ho, hpost, -, -, -⟩, -⟩, Lo, hfe, hfr⟩ := hrun T hT (stand_le X)
  refine ⟨t, h1, o, h2, h3, ?_, ?_⟩
  · rw [ho, show v = some (.int 1) from hpost]; rfl
  · obtain ⟨g1, g2, g3⟩ := hfe
    exact ⟨g1, g2, new_only g3 hfr⟩
theorem whole_start {p : Program} {e : Env} {s : State} {m : MethodId} {below : List Frame} {meth : Method} {c : Code} (l : Launch) (hflags : l.flags = flags0) {b L : Nat} {xs : Nat → Int32} (hL : L ≤ 6) (C0 : lw_At p s m meth c b L xs) : W p l e room_1 s m #[Value.ref b] below meth c s.heap [] 0 0 (lw_Z below #[Value.ref b] s) (entryFrame m ([Value.ref b] : List Value).toArray 4) := by
  exact start_of all_runs l hL C0
set_option maxHeartbeats 4000000 in
theorem lw_walk (l : Launch) (hflags : l.flags = flags0) (b : Addr) (xs : List Int32) : MetFree l x (headSpec (Jvm.Cond.code x code maxLocals ret :: tables_1) room_1) (lw_P b xs) (fun _ _ _ _ _ => True) lw_Q := by
  refine MetFree.of_bodyS (code := code) (maxLocals := maxLocals) (ret := ret) (by decide) ?_ ?_
  · intro args s m h hn
    obtain ⟨meth, c, h1, h2, h3, h4, h5, h6, -, -⟩ := Cond.code_spec hn (atoms_spec (ws := Jvm.Cond.code x code maxLocals ret :: tables_1) h _ List.mem_cons_self)
    exact ⟨meth, c, h1, h2, h3, h4, h5, h6⟩
  · intro p e s m args below meth c s₁ B hml0 hP _
    obtain ⟨rfl, hx, hbd, hgv⟩ := hP
    obtain ⟨scr, harrAt, hlist, hof, hsmall⟩ := hx
    obtain ⟨hcb, hkn, -, -⟩ := State.arrayAt?_spec harrAt
    have hown : s.vm.findClass R_law = some m.cls := findClass_of_methodNamed B.named
    have hts0 : ∀ c ∈ (Jvm.Cond.code x code maxLocals ret :: tables_1), c.before #[Value.ref b] s = true := atoms_spec (ws := Jvm.Cond.code x code maxLocals ret :: tables_1) B.pre
    have hts : ∀ w ∈ lw_tbl, w.before #[Value.ref b] s = true := k2_hts_sels lw_privs (fun w hw => hts0 w (List.mem_cons_of_mem _ hw)) lw_privs_ok
    have hml : c.maxLocals = 4 := B.maxLocals_eq (hts0 _ List.mem_cons_self)
    have X₀ : Stand p l e room_1 s m #[Value.ref b] below meth c s₁ [] 0 0 := Stand.of_body B
    have hh0 : s₁.heap = s.heap := by rw [B.state]; rfl
    have hsz : scr.slots.size = xs.length := by rw [← Array.length_toList, hlist, List.length_map]
    have hval : ∀ j : Nat, j < xs.length → scr.slots[j]? = some (.int (xs.getD j 0)) := fun j hj => by
      rw [← Array.getElem?_toList, hlist]
      simp [hj]
    have hbl : b < s.heap.size := (Array.getElem?_eq_some_iff.mp hcb).1
    have hX : va_X b xs.length (fun j => xs.getD j 0) s s.heap := ⟨scr, hcb, hof, hkn, hsz, hval⟩
    have K : W p l e room_1 s m #[Value.ref b] below meth c s₁.heap [] 0 0 (lw_Z below #[Value.ref b] s) (entryFrame m ([Value.ref b] : List Value).toArray 4) := by
      rw [hh0]
      exact whole_start l hflags hbd ⟨B.exec, B.bytes, B.returns, hml, hown, hts, hX, hbl, B.notSynchronized, hgv⟩
    obtain ⟨t, a1, o, b1, b2, b3⟩ := K s₁ rfl X₀
    exact ⟨t, o, a1, b1, b2, b3⟩
theorem lw_pre_spec {args : Array Value} {s : State} (h : (Jvm.Cond.and given_1 narrow_1).before args s = true) (hr : rest_1_c.before args s = true) : ∃ (b : Addr) (xs : List Int32), lw_P b xs args s := by
  have hs := flat_of_before _ h
  have hq := flat_of_before _ hr
  have hc : (Cond.count 1).before args s = true := hs _ (by decide +kernel)
  have harr : (Cond.arrayOf (.arg 0) .int).before args s = true := hs _ (by decide +kernel)
  have hle : (Cond.le (.length (.arg 0)) (.int 6)).before args s = true := hs _ (by decide +kernel)
  have hlen : (Cond.isInt (.length (.arg 0))).before args s = true := hq _ (by decide +kernel)
  have hall : (Cond.all (.arg 0) (.isInt (.elem (.arg 0) (.index 0)))).before args s = true := hq _ (by decide +kernel)
  obtain ⟨b, xs, hb, hx⟩ := State.ints_of_pre rfl harr hlen hall
  have hsm : xs.length < 2 ^ 31 := hx.choose_spec.2.2.2
  have hev : (Term.length (.arg 0)).eval args s none [] s = some (.int xs.length.toInt32) := hx.length_eval hb
  have hv := Cond.le_ints hev (show (Term.int 6).eval args s none [] s = some (.int 6) from rfl)
  have hd : xs.length.toInt32 ≤ 6 := by
    simpa [Cond.before, Cond.holds, hv] using hle
  have hN : xs.length ≤ 6 := (Int32.ofNat_le_ofNat hsm (by decide)).mp (show Int32.ofNat xs.length ≤ Int32.ofNat 6 from hd)
  exact ⟨b, xs, Cond.one_arg hc (show args[0]? = some (.ref b) from hb), hx, hN, h⟩
theorem lw_comes (l : Launch) (hflags : l.flags = flags0) : Comes l x (Jvm.Cond.code x code maxLocals ret :: tables_1) room_1 (fun tb e args s => Calls_1 tb e args s ∧ rest_1 tb e args s ∧ Pre_1 tb e args s)
    (fun _ _ args s o t => lw_Q args s o t) := by
  intro p e ha hc hk s m args below hf hfit hheap happ hpre
  obtain ⟨b, xs, hP⟩ := lw_pre_spec hpre.2.2 hpre.2.1
  obtain ⟨k, o, h1, h2, h3, hQ⟩ := lw_walk l hflags b xs p e ha hc hk s m args below hf ((Spec.applies_iff_loose hf).mp happ).1 hP trivial
  exact ⟨k, o, h1, h2, h3, hQ⟩
theorem lw_frame {s t : State} {o : Outcome} {args : Array Value} (h : Framed s o t [] 600000 7302250) :
    Framed s o t (fieldLocs frame_1_writes args s ++ arrayLocs frame_1_arrays args s ++ staticLocs frame_1_statics s) 600000 7302250 := h
theorem lw_limb (L : Cond) (hL : ∀ (args : Array Value) (s t : State), L.after args s (.returned (some (.int 1))) t = true) :
    ArmFor flags0 classFile x code maxLocals ret World_1 tables_1 room_1 Calls_1 rest_1 Pre_1
      (fun tb e a s o t => postC L tb e a s o t ∧ Framed s o t (fieldLocs frame_1_writes a s ++ arrayLocs frame_1_arrays a s ++ staticLocs frame_1_statics s) 600000 7302250) := by
  intro l hflags _ _ p e ha hc hk s m args below hf hfit hheap happ hpre
  obtain ⟨k, o, h1, h2, h3, rfl, hF⟩ := lw_comes l hflags p e ha hc hk s m args below hf hfit hheap happ hpre
  exact ⟨k, _, h1, h2, h3, hL args s _, lw_frame hF⟩
theorem i_vc : Claimed_1_1 ∧ Claimed_1_2 := ⟨lw_limb limb_1_1 (fun args s t => by simp [limb_1_1, Cond.after, Cond.holds, Cond.value]), lw_limb limb_1_2 (fun args s t => Cond.after_iff.mpr (by
  first | (rw [show limb_1_2 = Cond.eq .result (.int 1) from rfl, Cond.eq_ints (x := 1) (y := 1) rfl rfl]; simp; done) | (simp [limb_1_2, Cond.value, Term.eval]; done)))⟩
