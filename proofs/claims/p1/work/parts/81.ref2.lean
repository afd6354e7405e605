/-! THE TABLE: what it tells of a game, out of its options -/
theorem nodup_perm : ∀ {l l2 : List Nat}, l.Nodup → l2.Nodup → (∀ x, x ∈ l ↔ x ∈ l2) → l.Perm l2
  | [], l2, _, _, e => by
    cases l2 with
    | nil => exact List.Perm.nil
    | cons a t => exact absurd ((e a).mpr List.mem_cons_self) (by simp)
  | a :: t, l2, h, h2, e => by
    have ha : a ∈ l2 := (e a).mp List.mem_cons_self
    have hn := List.nodup_cons.mp h
    refine ((nodup_perm hn.2 (h2.erase a) (fun x => ?_)).cons a).trans (List.perm_cons_erase ha).symm
    rw [h2.mem_erase_iff]
    constructor
    · intro hx
      exact ⟨fun q => hn.1 (q ▸ hx), (e x).mp (List.mem_cons_of_mem _ hx)⟩
    · rintro ⟨q, hx⟩
      rcases List.mem_cons.mp ((e x).mpr hx) with h3 | h3
      · exact absurd h3 q
      · exact h3
theorem nodup_mapd {f : Nat → Nat} : ∀ {l : List Nat}, l.Nodup → (∀ x, x ∈ l → ∀ y, y ∈ l → f x = f y → x = y) → (l.map f).Nodup
  | [], _, _ => List.nodup_nil
  | a :: l, h, hi => by
    have h1 := List.nodup_cons.mp h
    refine List.nodup_cons.mpr ⟨fun hm => ?_, nodup_mapd h1.2 (fun x hx y hy => hi x (List.mem_cons_of_mem _ hx) y (List.mem_cons_of_mem _ hy))⟩
    obtain ⟨b, hb, e⟩ := List.mem_map.mp hm
    have := hi b (List.mem_cons_of_mem _ hb) a List.mem_cons_self e
    rw [this] at hb
    exact h1.1 hb
/-- the game of which the options are told by numbers -/
def MK (d : Nat → Nat) (l r : List Nat) : Nat := mkg (l.map d) (r.map d)
theorem op_MKL {d : Nat → Nat} {l r : List Nat} {x : Nat} : op (MK d l r) 0 x = true ↔ ∃ o, o ∈ l ∧ d o = x := by
  unfold MK
  rw [op_mkgL, List.mem_map]
theorem op_MKR {d : Nat → Nat} {l r : List Nat} {x : Nat} : op (MK d l r) 1 x = true ↔ ∃ o, o ∈ r ∧ d o = x := by
  unfold MK
  rw [op_mkgR, List.mem_map]
theorem MK_ext {d d2 : Nat → Nat} {l r l2 r2 : List Nat} (hl : ∀ x, (∃ o, o ∈ l ∧ d o = x) ↔ ∃ o, o ∈ l2 ∧ d2 o = x) (hr : ∀ x, (∃ o, o ∈ r ∧ d o = x) ↔ ∃ o, o ∈ r2 ∧ d2 o = x) : MK d l r = MK d2 l2 r2 := by
  apply op_ext
  intro w hw x
  apply Bool.eq_iff_iff.mpr
  rcases (by omega : w = 0 ∨ w = 1) with rfl | rfl
  · rw [op_MKL, op_MKL]; exact hl x
  · rw [op_MKR, op_MKR]; exact hr x
theorem MK_congr {d d2 : Nat → Nat} {l r : List Nat} (h : ∀ o, o ∈ l ++ r → d o = d2 o) : MK d l r = MK d2 l r := by
  unfold MK
  rw [List.map_congr_left (fun o ho => h o (List.mem_append_left _ ho)), List.map_congr_left (fun o ho => h o (List.mem_append_right _ ho))]
/-! birthdays -/
def mxf (f : Nat → Nat) (l : List Nat) : Int := l.foldl (fun v o => if v < (f o : Int) then (f o : Int) else v) (-1)
theorem mxf_app (f : Nat → Nat) (l : List Nat) (x : Nat) : mxf f (l ++ [x]) = if mxf f l < (f x : Int) then (f x : Int) else mxf f l := by
  unfold mxf
  rw [List.foldl_append]
  rfl
theorem mxf_aux (f : Nat → Nat) : ∀ (l : List Nat) (v0 : Int), v0 ≤ l.foldl (fun v o => if v < (f o : Int) then (f o : Int) else v) v0 ∧ (∀ o, o ∈ l → (f o : Int) ≤ l.foldl (fun v o => if v < (f o : Int) then (f o : Int) else v) v0) ∧ (l.foldl (fun v o => if v < (f o : Int) then (f o : Int) else v) v0 = v0 ∨ ∃ o, o ∈ l ∧ l.foldl (fun v o => if v < (f o : Int) then (f o : Int) else v) v0 = (f o : Int))
  | [], v0 => ⟨Int.le_refl _, (fun o h => by cases h), Or.inl rfl⟩
  | a :: l, v0 => by
    obtain ⟨h1, h2, h3⟩ := mxf_aux f l (if v0 < (f a : Int) then (f a : Int) else v0)
    rw [List.foldl_cons]
    by_cases q : v0 < (f a : Int)
    · rw [if_pos q] at h1 h2 h3 ⊢
      refine ⟨by omega, fun o ho => ?_, Or.inr ?_⟩
      · rcases List.mem_cons.mp ho with rfl | ho
        · exact h1
        · exact h2 o ho
      · rcases h3 with h3 | ⟨o, ho, h3⟩
        · exact ⟨a, List.mem_cons_self, h3⟩
        · exact ⟨o, List.mem_cons_of_mem _ ho, h3⟩
    · rw [if_neg q] at h1 h2 h3 ⊢
      refine ⟨h1, fun o ho => ?_, ?_⟩
      · rcases List.mem_cons.mp ho with rfl | ho
        · omega
        · exact h2 o ho
      · rcases h3 with h3 | ⟨o, ho, h3⟩
        · exact Or.inl h3
        · exact Or.inr ⟨o, List.mem_cons_of_mem _ ho, h3⟩
theorem mxf_bd (d : Nat → Nat) (l r : List Nat) : mxf (fun o => bd (d o)) (l ++ r) + 1 = (bd (MK d l r) : Int) := by
  obtain ⟨h1, h2, h3⟩ := mxf_aux (fun o => bd (d o)) (l ++ r) (-1)
  obtain ⟨M, eM⟩ : ∃ M, M = mxf (fun o => bd (d o)) (l ++ r) := ⟨_, rfl⟩
  have h1 : -1 ≤ mxf (fun o => bd (d o)) (l ++ r) := h1
  have h2 : ∀ o, o ∈ l ++ r → (bd (d o) : Int) ≤ mxf (fun o => bd (d o)) (l ++ r) := h2
  have h3 : mxf (fun o => bd (d o)) (l ++ r) = -1 ∨ ∃ o, o ∈ l ++ r ∧ mxf (fun o => bd (d o)) (l ++ r) = (bd (d o) : Int) := h3
  rw [← eM] at h1 h2 h3 ⊢
  have e := bd_of (g := MK d l r) (b := (M + 1).toNat) (fun x hx => by
    obtain ⟨o, ho, rfl⟩ : ∃ o, o ∈ l ++ r ∧ d o = x := by
      rcases hx with hx | hx
      · obtain ⟨o, ho, e⟩ := op_MKL.mp hx; exact ⟨o, List.mem_append_left _ ho, e⟩
      · obtain ⟨o, ho, e⟩ := op_MKR.mp hx; exact ⟨o, List.mem_append_right _ ho, e⟩
    have := h2 o ho
    omega) (by
    rcases h3 with h3 | ⟨o, ho, h3⟩
    · exact Or.inl (by omega)
    · refine Or.inr ⟨d o, ?_, by omega⟩
      rcases List.mem_append.mp ho with ho | ho
      · exact Or.inl (op_MKL.mpr ⟨o, ho, rfl⟩)
      · exact Or.inr (op_MKR.mpr ⟨o, ho, rfl⟩))
  rw [e]
  omega
/-! whole numbers -/
def wv (K : Nat) : Int := if (opts K 1).isEmpty then (bd K : Int) else if (opts K 0).isEmpty then -(bd K : Int) else -1000
theorem wv_R {K : Nat} (h : Bare K 1) : wv K = (bd K : Int) := by
  unfold wv
  rw [(emp_iff K 1).mpr h, if_pos rfl]
theorem wv_L {K : Nat} (h : Bare K 0) (h1 : ¬ Bare K 1) : wv K = -(bd K : Int) := by
  have e : (opts K 1).isEmpty = false := by
    cases q : (opts K 1).isEmpty
    · rfl
    · exact absurd ((emp_iff K 1).mp q) h1
  unfold wv
  rw [e, (emp_iff K 0).mpr h, if_neg (by decide), if_pos rfl]
theorem wv_N {K : Nat} (h0 : ¬ Bare K 0) (h1 : ¬ Bare K 1) : wv K = -1000 := by
  have e : ∀ w, ¬ Bare K w → (opts K w).isEmpty = false := fun w h => by
    cases q : (opts K w).isEmpty
    · rfl
    · exact absurd ((emp_iff K w).mp q) h
  unfold wv
  rw [e 1 h1, e 0 h0, if_neg (by decide), if_neg (by decide)]
theorem wv_pc (n : Nat) : wv (pc n) = (n : Int) := by rw [wv_R (pc_bare n), bd_pc]
theorem wv_nc (n : Nat) : wv (nc n) = -(n : Int) := by
  cases n with
  | zero => rw [nc_0]; exact wv_pc 0
  | succ n => rw [wv_L (nc_bare _) (fun h => by have := h (nc n); rw [(op_ncR n (nc n)).mpr rfl] at this; cases this), bd_nc]
theorem MK_bareL {d : Nat → Nat} {l r : List Nat} : Bare (MK d l r) 0 ↔ l = [] := by
  constructor
  · intro h
    cases l with
    | nil => rfl
    | cons a t => have := h (d a); rw [op_MKL.mpr ⟨a, List.mem_cons_self, rfl⟩] at this; cases this
  · rintro rfl x
    cases q : op (MK d [] r) 0 x
    · rfl
    · obtain ⟨o, h, _⟩ := op_MKL.mp q; cases h
theorem MK_bareR {d : Nat → Nat} {l r : List Nat} : Bare (MK d l r) 1 ↔ r = [] := by
  constructor
  · intro h
    cases r with
    | nil => rfl
    | cons a t => have := h (d a); rw [op_MKR.mpr ⟨a, List.mem_cons_self, rfl⟩] at this; cases this
  · rintro rfl x
    cases q : op (MK d l []) 1 x
    · rfl
    · obtain ⟨o, h, _⟩ := op_MKR.mp q; cases h
theorem pc_pred {n : Nat} {x : Nat} (h : op (pc n) 0 x = true) : ∃ k, n = k + 1 ∧ x = pc k := by
  cases n with
  | zero => exact absurd h (by show ¬ op 0 0 x = true; rw [op_0]; decide)
  | succ k => exact ⟨k, rfl, (op_pcL k x).mp h⟩
theorem nc_pred {n : Nat} {x : Nat} (h : op (nc n) 1 x = true) : ∃ k, n = k + 1 ∧ x = nc k := by
  cases n with
  | zero => rw [nc_0, op_0] at h; cases h
  | succ k => exact ⟨k, rfl, (op_ncR k x).mp h⟩
/-- one option, of left -/
theorem wv_1L {d : Nat → Nat} {o : Nat} (c : can (MK d [o] [])) : 0 ≤ wv (d o) ∧ wv (MK d [o] []) = wv (d o) + 1 := by
  obtain ⟨n, e⟩ := bareR_pc c (MK_bareR.mpr rfl)
  have h : op (MK d [o] []) 0 (d o) = true := op_MKL.mpr ⟨o, List.mem_singleton.mpr rfl, rfl⟩
  rw [e] at h ⊢
  obtain ⟨k, rfl, e2⟩ := pc_pred h
  rw [e2, wv_pc, wv_pc]
  exact ⟨by omega, by omega⟩
theorem wv_1R {d : Nat → Nat} {o : Nat} (c : can (MK d [] [o])) : wv (d o) ≤ 0 ∧ (wv (d o) = -1000 → bd (d o) = 1000) ∧ wv (MK d [] [o]) = wv (d o) - 1 := by
  obtain ⟨n, e⟩ := bareL_nc c (MK_bareL.mpr rfl)
  have h : op (MK d [] [o]) 1 (d o) = true := op_MKR.mpr ⟨o, List.mem_singleton.mpr rfl, rfl⟩
  rw [e] at h ⊢
  obtain ⟨k, rfl, e2⟩ := nc_pred h
  rw [e2, wv_nc, wv_nc, bd_nc]
  exact ⟨by omega, by omega, by omega⟩
/-- more than one -/
theorem wv_many {d : Nat → Nat} {l r : List Nat} (c : can (MK d l r)) (hl : l.Nodup) (hr : r.Nodup) (inj : ∀ x, x ∈ l ++ r → ∀ y, y ∈ l ++ r → d x = d y → x = y) (h : 1 < l.length + r.length) : wv (MK d l r) = -1000 := by
  refine wv_N (fun q => ?_) (fun q => ?_)
  · have e := MK_bareL.mp q
    subst e
    obtain ⟨n, e⟩ := bareL_nc c q
    match r, hr, inj, h, e with
    | [], _, _, h, _ => exact absurd h (by decide)
    | [a], _, _, h, _ => exact absurd h (by simp)
    | a :: b :: t, hr, inj, h, e =>
      have ha : op (MK d [] (a :: b :: t)) 1 (d a) = true := op_MKR.mpr ⟨a, by simp, rfl⟩
      have hb : op (MK d [] (a :: b :: t)) 1 (d b) = true := op_MKR.mpr ⟨b, by simp, rfl⟩
      rw [e] at ha hb
      obtain ⟨k, rfl, e2⟩ := nc_pred ha
      have e3 := (op_ncR k _).mp hb
      have := inj a (by simp) b (by simp) (e2.trans e3.symm)
      have h1 := (List.nodup_cons.mp hr).1
      rw [this] at h1
      exact h1 List.mem_cons_self
  · have e := MK_bareR.mp q
    subst e
    obtain ⟨n, e⟩ := bareR_pc c q
    match l, hl, inj, h, e with
    | [], _, _, h, _ => exact absurd h (by decide)
    | [a], _, _, h, _ => exact absurd h (by simp)
    | a :: b :: t, hl, inj, h, e =>
      have ha : op (MK d (a :: b :: t) []) 0 (d a) = true := op_MKL.mpr ⟨a, by simp, rfl⟩
      have hb : op (MK d (a :: b :: t) []) 0 (d b) = true := op_MKL.mpr ⟨b, by simp, rfl⟩
      rw [e] at ha hb
      obtain ⟨k, rfl, e2⟩ := pc_pred ha
      have e3 := (op_pcL k _).mp hb
      have := inj a (by simp) b (by simp) (e2.trans e3.symm)
      have h1 := (List.nodup_cons.mp hl).1
      rw [this] at h1
      exact h1 List.mem_cons_self
/-! heaps -/
theorem hp_yes {d : Nat → Nat} {l r : List Nat} (hl : l.Nodup) (hr : r.Nodup) (inj : ∀ x, x ∈ l ++ r → ∀ y, y ∈ l ++ r → d x = d y → x = y) (e : r.length = l.length) (h : ∀ o, o ∈ l ++ r → 0 ≤ hpv (d o) ∧ hpv (d o) < (l.length : Int)) : hpv (MK d l r) = (l.length : Int) := by
  have k := hc_of (g := MK d l r) (n := l.length) (l := l.map d) (r := r.map d) (fun x => by rw [op_MKL, List.mem_map]) (fun x => by rw [op_MKR, List.mem_map])
    (nodup_mapd hl (fun x hx y hy => inj x (List.mem_append_left _ hx) y (List.mem_append_left _ hy))) (nodup_mapd hr (fun x hx y hy => inj x (List.mem_append_right _ hx) y (List.mem_append_right _ hy))) (List.length_map ..) (by rw [List.length_map, e]) (fun x hx => by
      obtain ⟨o, ho, rfl⟩ : ∃ o, o ∈ l ++ r ∧ d o = x := by
        rcases hx with hx | hx
        · obtain ⟨o, ho, e⟩ := List.mem_map.mp hx; exact ⟨o, List.mem_append_left _ ho, e⟩
        · obtain ⟨o, ho, e⟩ := List.mem_map.mp hx; exact ⟨o, List.mem_append_right _ ho, e⟩
      obtain ⟨h1, h2⟩ := h o ho
      obtain ⟨e1, e2⟩ := hpv_nn h1
      exact ⟨bd (d o), by omega, e1⟩)
  rw [k, hpv_hc]
theorem hcl_nodup : ∀ n, (hcl n).Nodup
  | 0 => List.nodup_nil
  | n + 1 => by
    show (hcl n ++ [hc n]).Nodup
    refine List.nodup_append.mpr ⟨hcl_nodup n, List.nodup_cons.mpr ⟨by simp, List.nodup_nil⟩, fun a ha b hb => ?_⟩
    obtain ⟨k, h1, rfl⟩ := mem_hcl.mp ha
    rw [List.mem_singleton.mp hb]
    intro h
    have := hc_inj h
    omega
theorem hp_all {d : Nat → Nat} {l r : List Nat} (hl : l.Nodup) (hr : r.Nodup) (inj : ∀ x, x ∈ l ++ r → ∀ y, y ∈ l ++ r → d x = d y → x = y) (h : 0 ≤ hpv (MK d l r)) : r.length = l.length ∧ ∀ o, o ∈ l ++ r → 0 ≤ hpv (d o) ∧ hpv (d o) < (l.length : Int) := by
  obtain ⟨e, _⟩ := hpv_nn h
  obtain ⟨b, eb⟩ : ∃ b, b = bd (MK d l r) := ⟨_, rfl⟩
  rw [← eb] at e
  have hn := hcl_nodup b
  have lm : (l.map d).Nodup := nodup_mapd hl (fun x hx y hy => inj x (List.mem_append_left _ hx) y (List.mem_append_left _ hy))
  have rm : (r.map d).Nodup := nodup_mapd hr (fun x hx y hy => inj x (List.mem_append_right _ hx) y (List.mem_append_right _ hy))
  have l1 := nodup_len lm hn (fun x => by rw [mem_hcl, ← op_hc (w := 0) (by decide), ← e, op_MKL, List.mem_map])
  have l2 := nodup_len rm hn (fun x => by rw [mem_hcl, ← op_hc (w := 1) (by decide), ← e, op_MKR, List.mem_map])
  rw [List.length_map, hcl_len] at l1 l2
  refine ⟨by omega, fun o ho => ?_⟩
  obtain ⟨k, hk, ek⟩ : ∃ k, k < b ∧ d o = hc k := by
    rcases List.mem_append.mp ho with ho | ho
    · have := (op_MKL (d := d) (r := r)).mpr ⟨o, ho, rfl⟩
      rw [e] at this
      exact (op_hc (w := 0) (by decide)).mp this
    · have := (op_MKR (d := d) (l := l)).mpr ⟨o, ho, rfl⟩
      rw [e] at this
      exact (op_hc (w := 1) (by decide)).mp this
  rw [ek, hpv_hc]
  exact ⟨by omega, by omega⟩
/-! words: how long -/
def bl (K : Nat) : Int := ((min (wd K).length 100000 : Nat) : Int)
def dg (v : Nat) : Nat := if v > 9 then 2 else 1
theorem numw_len (v : Nat) : (numw v).length = dg v := by
  unfold numw dg
  by_cases h : v > 9
  · rw [if_pos h, if_pos h]; rfl
  · rw [if_neg h, if_neg h]; rfl
theorem bl_R {K : Nat} (h : Bare K 1) (hb : bd K ≤ 99) : bl K = (dg (bd K) : Int) := by
  unfold bl
  rw [wd_nn h, numw_len]
  unfold dg
  by_cases q : bd K > 9
  · rw [if_pos q]; rfl
  · rw [if_neg q]; rfl
theorem bl_L {K : Nat} (h : Bare K 0) (h1 : ¬ Bare K 1) (hb : bd K ≤ 99) : bl K = 1 + (dg (bd K) : Int) := by
  unfold bl
  rw [wd_neg h h1, List.length_cons, numw_len]
  unfold dg
  by_cases q : bd K > 9
  · rw [if_pos q]; rfl
  · rw [if_neg q]; rfl
theorem bl_H {K : Nat} (h0 : ¬ Bare K 0) (h1 : ¬ Bare K 1) (h : K = hc (bd K)) (hb : bd K ≤ 99) : bl K = if bd K = 1 then 1 else 1 + (dg (bd K) : Int) := by
  have p := bd_pos h0
  unfold bl
  rw [wd_hp h0 h1 h]
  by_cases q : bd K = 1
  · rw [if_pos q, if_neg (by omega)]; rfl
  · rw [if_neg q, if_pos (by omega), List.length_cons, numw_len]
    unfold dg
    by_cases q : bd K > 9
    · rw [if_pos q]; rfl
    · rw [if_neg q]; rfl
theorem rjoin_len : ∀ L : List (List Nat), (joinw L).length + 1 = (L.map (fun w => w.length + 1)).sum + (if L = [] then 1 else 0)
  | [] => rfl
  | [a] => by
    rw [if_neg (by simp)]
    show a.length + 1 = ((a.length + 1) + 0) + 0
    omega
  | a :: b :: t => by
    have ih := rjoin_len (b :: t)
    rw [if_neg (by simp)] at ih ⊢
    show (a ++ 44 :: joinw (b :: t)).length + 1 = ((a.length + 1) + ((b :: t).map (fun w => w.length + 1)).sum) + 0
    rw [List.length_append, List.length_cons]
    omega
theorem nsum_perm {l l2 : List Nat} (h : l.Perm l2) : l.sum = l2.sum := by
  induction h with
  | nil => rfl
  | cons x _ ih => rw [List.sum_cons, List.sum_cons, ih]
  | swap x y l => rw [List.sum_cons, List.sum_cons, List.sum_cons, List.sum_cons]; omega
  | trans _ _ h1 h2 => rw [h1, h2]
theorem join_srt {L L2 : List (List Nat)} (h : L.Perm L2) (e : L2 ≠ []) : (joinw (sortw L)).length + 1 = (L2.map (fun w => w.length + 1)).sum := by
  have p : (sortw L).Perm L2 := (sortw_perm L).trans h
  have ne : sortw L ≠ [] := fun q => e (by rw [q] at p; exact p.symm.eq_nil)
  rw [rjoin_len, if_neg ne, nsum_perm (p.map _)]
  rfl
/-- in braces: three more, and commas -/
theorem wl_B {d : Nat → Nat} {l r : List Nat} (hl : l.Nodup) (hr : r.Nodup) (inj : ∀ x, x ∈ l ++ r → ∀ y, y ∈ l ++ r → d x = d y → x = y) (nl : l ≠ []) (nr : r ≠ []) (nh : MK d l r ≠ hc (bd (MK d l r))) : (wd (MK d l r)).length = 1 + ((l ++ r).map (fun o => (wd (d o)).length + 1)).sum := by
  have b0 : ¬ Bare (MK d l r) 0 := fun q => nl (MK_bareL.mp q)
  have b1 : ¬ Bare (MK d l r) 1 := fun q => nr (MK_bareR.mp q)
  have lm : (l.map d).Nodup := nodup_mapd hl (fun x hx y hy => inj x (List.mem_append_left _ hx) y (List.mem_append_left _ hy))
  have rm : (r.map d).Nodup := nodup_mapd hr (fun x hx y hy => inj x (List.mem_append_right _ hx) y (List.mem_append_right _ hy))
  have pl : (opts (MK d l r) 0).Perm (l.map d) := nodup_perm (nodup_opts _ _) lm (fun x => by rw [mem_opts, op_MKL, List.mem_map])
  have pr : (opts (MK d l r) 1).Perm (r.map d) := nodup_perm (nodup_opts _ _) rm (fun x => by rw [mem_opts, op_MKR, List.mem_map])
  have jl := join_srt (pl.map wd) (by simpa using nl)
  have jr := join_srt (pr.map wd) (by simpa using nr)
  rw [List.map_map, List.map_map] at jl jr
  rw [wd_br b0 b1 nh, List.length_cons, List.length_append, List.length_cons, List.length_append, List.map_append, List.sum_append]
  have e1 : (l.map (((fun w : List Nat => w.length + 1) ∘ wd) ∘ d)).sum = (l.map (fun o => (wd (d o)).length + 1)).sum := rfl
  have e2 : (r.map (((fun w : List Nat => w.length + 1) ∘ wd) ∘ d)).sum = (r.map (fun o => (wd (d o)).length + 1)).sum := rfl
  rw [e1] at jl
  rw [e2] at jr
  show (joinw (sortw ((opts (MK d l r) 0).map wd))).length + ((joinw (sortw ((opts (MK d l r) 1).map wd))).length + 1 + 1) + 1 = _
  omega
