/-! ===== letters come, STOP, another way; a run begins ===== -/
/-- a letter comes -/
def recv (Z : NT) (s : RS) (x : Lt) (l : List Lt) : RS :=
  if x.1 = 0 then (s.rd, s.op, (s.ps.1, bxSet s.ps.2 (x.2.2.2.1 % 2) x.2.2.1 (pt Z.lk x.2.2.1 x.2.1) (some x.2.2.2.2)), s.sd, s.td, s.al, s.hd, l ++ [(1, x.2.2.1, x.2.1, x.2.2.2.1, 0)], ctAdd s.ct [(1, x.2.2.1, x.2.1, x.2.2.2.1, 0)], s.st, s.wi, s.sw)
  else if x.1 = 1 then (s.rd, (fun y => if y = x.2.2.1 then s.op x.2.2.1 - 1 else s.op y), s.ps, s.sd, s.td, s.al, s.hd, l, s.ct, s.st, s.wi, s.sw)
  else (s.rd, s.op, s.ps, s.sd, s.td, s.al, (fun K q b a => if K = x.1 ∧ q = x.2.2.2.1 % 2 ∧ b = x.2.2.1 ∧ a = x.2.1 then true else s.hd K q b a), l, s.ct, s.st, s.wi, s.sw)
def dlv (Z : NT) (s : RS) (i : Nat) : RS := match s.lt[i]? with
  | some x => act Z x.2.2.1 (recv Z s x (s.lt.eraseIdx i))
  | none => s
theorem lt_split {lt : List Lt} {i : Nat} {x : Lt} (h : lt[i]? = some x) : ∃ l1 l2, lt = l1 ++ x :: l2 ∧ lt.eraseIdx i = l1 ++ l2 := by
  have hi := (List.getElem?_eq_some_iff.mp h).1
  have hx := (List.getElem?_eq_some_iff.mp h).2
  refine ⟨lt.take i, lt.drop (i + 1), ?_, List.eraseIdx_eq_take_drop_succ lt i⟩
  rw [← hx, ← List.drop_eq_getElem_cons hi, List.take_append_drop]
theorem inv_recv {Z : NT} (hZ : ZOk Z.n Z.lk Z.par Z.grp Z.ch) {s : RS} (h : Inv Z s) {i : Nat} {x : Lt} (hx : s.lt[i]? = some x) : Inv Z (recv Z s x (s.lt.eraseIdx i)) ∧ x.2.2.1 < Z.n ∧ x.2.1 < Z.n ∧ x.2.2.1 ∈ nbl Z.lk x.2.1 ∧ x.1 ≤ 7 ∧ x.2.2.2.1 ≤ 500 ∧ (x.1 = 1 → 1 ≤ s.op x.2.2.1) ∧ (2 ≤ x.1 → s.hd x.1 (x.2.2.2.1 % 2) x.2.2.1 x.2.1 = false) := by
  obtain ⟨l1, l2, e1, e2⟩ := lt_split hx
  have hm : x ∈ s.lt := by rw [e1]; simp
  obtain ⟨x1, x2, x3, x4⟩ := h.2.1.1 x hm
  have hn := hZ.1.nb x3
  have hsub : ∀ y ∈ l1 ++ l2, y ∈ s.lt := fun y hy => by
    rw [e1]
    rcases List.mem_append.mp hy with q | q
    · exact List.mem_append_left _ q
    · exact List.mem_append_right _ (List.mem_cons_of_mem _ q)
  have hpw := h.2.1.2
  rw [e1] at hpw
  obtain ⟨p1, p2, p3⟩ := List.pairwise_append.mp hpw
  obtain ⟨p4, p5⟩ := List.pairwise_cons.mp p2
  have hpl : (l1 ++ l2).Pairwise (fun x y => ky x ≠ ky y) := List.pairwise_append.mpr ⟨p1, p5, fun y hy z hz => p3 y hy z (List.mem_cons_of_mem _ hz)⟩
  have hne : ∀ y ∈ l1 ++ l2, ky y ≠ ky x := fun y hy => by
    rcases List.mem_append.mp hy with q | q
    · exact p3 y q x List.mem_cons_self
    · exact fun z => p4 y q z.symm
  have hct : ∀ c, s.op c = (l1 ++ l2).countP (owes c) + (if owes c x then 1 else 0) := fun c => by
    rw [h.2.2.2.2.2.1 c, e1, List.countP_append, List.countP_cons, List.countP_append]
    omega
  have hop1 : x.1 = 1 → 1 ≤ s.op x.2.2.1 := fun q => by
    rw [hct]
    have : owes x.2.2.1 x = true := by unfold owes; simp [q]
    rw [if_pos this]
    omega
  refine ⟨?_, hn.2.1, hn.1, x3, x1, x2, hop1, fun q => (x4 q).2.2⟩
  rw [e2]
  unfold recv
  by_cases z0 : x.1 = 0
  · rw [if_pos z0]
    refine ⟨h.1, ⟨fun y hy => ?_, ?_⟩, h.2.2.1, h.2.2.2.1, h.2.2.2.2.1, fun c => ?_, h.2.2.2.2.2.2.1, h.2.2.2.2.2.2.2⟩
    · rcases List.mem_append.mp hy with q | q
      · exact h.2.1.1 y (hsub y q)
      · rw [List.mem_singleton.mp q]
        exact ⟨by simp, x2, (nbl_sym hZ.1).mp x3, fun w => absurd w (by show ¬ 2 ≤ 1; omega)⟩
    · refine List.pairwise_append.mpr ⟨hpl, List.pairwise_singleton _ _, fun y hy z hz e => ?_⟩
      rw [List.mem_singleton.mp hz] at e
      refine hne y hy (e.trans ?_)
      unfold ky
      rw [if_pos z0]
      rfl
    · show s.op c = ((l1 ++ l2) ++ [(1, x.2.2.1, x.2.1, x.2.2.2.1, 0)]).countP (owes c)
      rw [List.countP_append, hct c]
      congr 1
      rw [List.countP_singleton]
      unfold owes
      rw [z0]
      simp
  · rw [if_neg z0]
    by_cases z1 : x.1 = 1
    · rw [if_pos z1]
      refine ⟨h.1, ⟨fun y hy => h.2.1.1 y (hsub y hy), hpl⟩, fun c hc => ?_, h.2.2.2.1, h.2.2.2.2.1, fun c => ?_, h.2.2.2.2.2.2.1, h.2.2.2.2.2.2.2⟩
      · have := h.2.2.1 c hc
        refine ⟨?_, this.2⟩
        show (if c = x.2.2.1 then s.op x.2.2.1 - 1 else s.op c) = 0
        split
        · next e => rw [e] at this; omega
        · exact this.1
      · show (if c = x.2.2.1 then s.op x.2.2.1 - 1 else s.op c) = (l1 ++ l2).countP (owes c)
        have hc := hct c
        by_cases e : c = x.2.2.1
        · rw [if_pos e]
          have : owes c x = true := by unfold owes; simp [z1, e]
          rw [if_pos this] at hc
          rw [e] at hc ⊢
          omega
        · rw [if_neg e]
          have : owes c x = false := by unfold owes; simp [z1]; exact fun w => e w.symm
          rw [this] at hc
          simpa using hc
    · rw [if_neg z1]
      have hK : 2 ≤ x.1 := by omega
      obtain ⟨q1, q2, q3⟩ := x4 hK
      refine ⟨h.1.hear hZ q1 q2, ⟨fun y hy => ?_, hpl⟩, h.2.2.1, h.2.2.2.1, h.2.2.2.2.1, fun c => ?_, h.2.2.2.2.2.2.1, h.2.2.2.2.2.2.2⟩
      · obtain ⟨y1, y2, y3, y4⟩ := h.2.1.1 y (hsub y hy)
        refine ⟨y1, y2, y3, fun w => ⟨(y4 w).1, (y4 w).2.1, ?_⟩⟩
        show (if y.1 = x.1 ∧ y.2.2.2.1 % 2 = x.2.2.2.1 % 2 ∧ y.2.2.1 = x.2.2.1 ∧ y.2.1 = x.2.1 then true else s.hd y.1 (y.2.2.2.1 % 2) y.2.2.1 y.2.1) = false
        rw [if_neg, (y4 w).2.2]
        rintro ⟨w1, w2, w3, w4⟩
        have t1 := LtOk.two hZ h.1.1 (h.2.1.1 y (hsub y hy)) w
        have t2 := LtOk.two hZ h.1.1 (h.2.1.1 x hm) hK
        refine hne y hy ?_
        unfold ky
        rw [if_neg (by omega), if_neg (by omega), if_neg z0, if_neg z1, w1, w4, w3]
        rw [w3] at t1
        rw [show y.2.2.2.1 = x.2.2.2.1 by omega]
      · have hc := hct c
        have : owes c x = false := by unfold owes; simp [z0, z1]
        rw [this] at hc
        show s.op c = (l1 ++ l2).countP (owes c)
        simpa using hc
theorem inv_dlv {Z : NT} (hZ : ZOk Z.n Z.lk Z.par Z.grp Z.ch) {s : RS} (h : Inv Z s) (i : Nat) : Inv Z (dlv Z s i) := by
  unfold dlv
  cases hx : s.lt[i]? with
  | none => exact h
  | some x =>
    have := inv_recv hZ h hx
    exact inv_act hZ this.2.1 2100 _ this.1
/-- STOP -/
def stS (s : RS) (k : Nat) : RS := (s.rd, s.op, s.ps, s.sd, s.td, s.al, s.hd, s.lt, s.ct, k, s.wi, s.sw)
def actAll (Z : NT) : Nat → Nat → RS → RS
  | 0, _, s => s
  | m + 1, a, s => actAll Z m (a + 1) (act Z a s)
theorem inv_stop {Z : NT} {s : RS} (h : Inv Z s) {k : Nat} (h1 : s.st ≤ k) (h2 : k ≤ 500) : Inv Z (stS s k) :=
  ⟨h.1, h.2.1, fun a ha => ⟨(h.2.2.1 a ha).1, Nat.lt_of_lt_of_le (h.2.2.1 a ha).2 h1⟩, fun a => Nat.le_trans (h.2.2.2.1 a) h1, h2, h.2.2.2.2.2⟩
theorem inv_actAll {Z : NT} (hZ : ZOk Z.n Z.lk Z.par Z.grp Z.ch) : ∀ (m a : Nat) (s : RS), a + m ≤ Z.n → Inv Z s → Inv Z (actAll Z m a s)
  | 0, _, _, _, h => h
  | m + 1, a, s, hm, h => inv_actAll hZ m (a + 1) _ (by omega) (inv_act hZ (by omega) 2100 s h)
/-- another way -/
def mxR (rd : Nat → Nat) : Nat → Nat
  | 0 => 0
  | m + 1 => max (mxR rd m) (rd m)
theorem mxR_le {rd : Nat → Nat} : ∀ {m x : Nat}, x < m → rd x ≤ mxR rd m
  | 0, x, h => absurd h (Nat.not_lt_zero _)
  | m + 1, x, h => by
    unfold mxR
    by_cases e : x = m
    · rw [e]; exact Nat.le_max_right _ _
    · exact Nat.le_trans (mxR_le (by omega)) (Nat.le_max_left _ _)
theorem mxR_bd {rd : Nat → Nat} {b : Nat} (h : ∀ x, rd x ≤ b) : ∀ m, mxR rd m ≤ b
  | 0 => Nat.zero_le _
  | m + 1 => Nat.max_le.mpr ⟨mxR_bd h m, h m⟩
def swS (Z : NT) (s : RS) (v : Nat) : RS := (s.rd, s.op, s.ps, s.sd, s.td, s.al, s.hd, s.lt, s.ct, s.st, s.wi, s.sw ++ [(mxR s.rd Z.n + 1, v)])
theorem wy_app (sw : List (Nat × Nat)) (e : Nat × Nat) (k : Nat) : wy (sw ++ [e]) k = if e.1 ≤ k then e.2 else wy sw k := by
  unfold wy
  rw [List.foldl_append]
  rfl
theorem Snt.sw {lk : Lk} {par : Nat → Nat → Option Nat} {ch : Nat → Nat → Bool} {w w' rd : Nat → Nat} {sd td al : Nat → Bool} (hw : ∀ x k, k ≤ rd x → w' k = w k) {K a b k : Nat} (h : Snt lk par ch w rd sd td al K a b k) : Snt lk par ch w' rd sd td al K a b k := by
  have hk : k ≤ rd a := by
    unfold Snt Sd at h
    rcases h with h | h | h | h | h | h <;> omega
  unfold Snt
  rw [hw a k hk]
  exact h
theorem Iv.sw {n : Nat} {lk : Lk} {par : Nat → Nat → Option Nat} {grp : Nat → Nat → Nat} {ch : Nat → Nat → Bool} {w w' rd : Nat → Nat} {sd td al : Nat → Bool} {hd : Nat → Nat → Nat → Nat → Bool} (hw : ∀ x k, k ≤ rd x → w' k = w k) (h : Iv n lk par grp ch w rd sd td al hd) : Iv n lk par grp ch w' rd sd td al hd := by
  obtain ⟨i1, i2, i3, i4, i5, i6, ⟨f1, f2, f3, f4⟩, i7, i8⟩ := h
  have hS : ∀ {f : Nat → Bool} {a k : Nat}, Sd rd f a k → k ≤ rd a := fun q => by unfold Sd at q; omega
  refine ⟨i1, fun K q b a hq => ?_, fun a c k hp hs => ?_, fun a b k hv hs hb hg => ?_, fun a k hv hs => ?_, fun a b k hv hk hb hg => ?_, ⟨fun a c q1 q2 => ?_, fun a c q0 q1 q2 => ?_, fun a c q0 q1 q2 => ?_, fun a c q0 q1 q2 => ?_⟩, fun a b k hp hk => ?_, fun a b k hv hk hb => ?_⟩
  · obtain ⟨k, g1, g2, g3⟩ := i2 K q b a hq
    exact ⟨k, g1, g2, g3.sw hw⟩
  · rw [hw a k (hS hs)] at hp; exact i3 a c k hp hs
  · rw [hw a k (hS hs)] at hv; exact i4 a b k hv hs hb hg
  · rw [hw a k (hS hs)] at hv; exact i5 a k hv hs
  · rw [hw a k (by omega)] at hv hg ⊢; exact i6 a b k hv hk hb hg
  · rw [hw a _ (Nat.le_refl _)] at q2; exact f1 a c q1 q2
  · rw [hw a _ (Nat.le_refl _)] at q0; exact f2 a c q0 q1 q2
  · rw [hw a _ (Nat.le_refl _)] at q0; exact f3 a c q0 q1 q2
  · rw [hw a _ (Nat.le_refl _)] at q0; exact f4 a c q0 q1 q2
  · rw [hw b k (by omega)] at hp; exact i7 a b k hp hk
  · rw [hw b k (by omega)] at hv; exact i8 a b k hv hk hb
theorem inv_sw {Z : NT} {s : RS} (h : Inv Z s) {v : Nat} (hv : v ≤ 2) : Inv Z (swS Z s v) := by
  have hw : ∀ x k, k ≤ s.rd x → wy (s.sw ++ [(mxR s.rd Z.n + 1, v)]) k = wy s.sw k := fun x k hk => by
    rw [wy_app, if_neg]
    show ¬ mxR s.rd Z.n + 1 ≤ k
    rcases Nat.lt_or_ge x Z.n with q | q
    · have := mxR_le (rd := s.rd) q; omega
    · have := h.2.2.2.2.2.2.2.2 x q; omega
  refine ⟨h.1.sw hw, ⟨fun x hx => ?_, h.2.1.2⟩, h.2.2.1, h.2.2.2.1, h.2.2.2.2.1, h.2.2.2.2.2.1, h.2.2.2.2.2.2.1, fun k => ?_, h.2.2.2.2.2.2.2.2⟩
  · obtain ⟨y1, y2, y3, y4⟩ := h.2.1.1 x hx
    exact ⟨y1, y2, y3, fun q => ⟨(y4 q).1.sw hw, (y4 q).2⟩⟩
  · show wy (s.sw ++ [(mxR s.rd Z.n + 1, v)]) k ≤ 2
    rw [wy_app]
    split
    · exact hv
    · exact h.2.2.2.2.2.2.2.1 k
/-- a run begins -/
def rs0 (inp : Nat → Int32) (v : Nat) : RS := (fun _ => 0, fun _ => 0, (inp, fun _ _ _ => none), fun _ => false, fun _ => false, fun _ => false, fun _ _ _ _ => false, [], fun _ => 0, 0, 0, [(0, v)])
theorem inv_begin (Z : NT) (inp : Nat → Int32) {v : Nat} (hv : v ≤ 2) : Inv Z (rs0 inp v) := by
  have hS : ∀ a k, ¬ Sd (fun _ => 0) (fun _ => false) a k := fun a k q => by unfold Sd at q; simp at q
  refine ⟨⟨fun a b _ => by show 0 ≤ _; omega, fun K q b a hq => (by cases hq), fun a c k _ hs => absurd hs (hS a k), fun a b k _ hs => absurd hs (hS a k), fun a k _ hs => absurd hs (hS a k), fun a b k _ hk => absurd hk (by show ¬ k < 0; omega), ⟨fun a c q => (by cases q), fun a c _ q => (by cases q), fun a c _ q => (by cases q), fun a c _ q => (by cases q)⟩, fun a b k _ hk => absurd hk (by show ¬ k < 0; omega), fun a b k _ hk => absurd hk (by show ¬ k < 0; omega)⟩, ⟨fun x hx => (by cases hx), List.Pairwise.nil⟩, fun a q => (by cases q), fun a => Nat.le_refl _, by show 0 ≤ 500; omega, fun a => rfl, fun x y _ _ => Nat.zero_le _, fun k => ?_, fun x _ => rfl⟩
  show wy [(0, v)] k ≤ 2
  unfold wy
  simp
  exact hv
/-! the net of a run: its tree, its clusters -/
def trA (n : Nat) (lk : Lk) : TS := growA lk n (allN n) 0 n 0 (gInit 0)
def parZ (n : Nat) (lk : Lk) (p : Nat) (v x : Nat) : Option Nat := if x < n then (if v = 1 then (trA n lk).2.2.1 x else if v = 2 then (clAll lk n p).2.2.1 x else none) else none
def grpZ (n : Nat) (lk : Lk) (p : Nat) (v x : Nat) : Nat := if v = 2 then clV (clAll lk n p) x else 0
def depZ (n : Nat) (lk : Lk) (p : Nat) (v x : Nat) : Nat := if v = 1 then (trA n lk).2.2.2 x else (clAll lk n p).2.2.2 x
def mkZ (n : Nat) (lk : Lk) (pr : List Wd) (p : Nat) : NT := (n, lk, pr, parZ n lk p, grpZ n lk p, cN lk (clV (clAll lk n p)) lk.length)
theorem cN_iff {lk : Lk} {cl : Nat → Nat} {m a b : Nat} : cN lk cl m a b = true ↔ ∃ (l : Nat) (e : Nat × Nat), l < m ∧ chs lk cl l = true ∧ lk[l]? = some e ∧ mt e a b = true := by
  unfold cN
  rw [List.any_eq_true]
  constructor
  · rintro ⟨l, hl, h⟩
    rw [Bool.and_eq_true] at h
    cases he : lk[l]? with
    | none => rw [he] at h; simp at h
    | some e => rw [he] at h; exact ⟨l, e, List.mem_range.mp hl, h.1, he, h.2⟩
  · rintro ⟨l, e, hl, h1, h2, h3⟩
    exact ⟨l, List.mem_range.mpr hl, by rw [h1, h2]; simpa using h3⟩
theorem mt_iff {e : Nat × Nat} {a b : Nat} : mt e a b = true ↔ (e.1 = a ∧ e.2 = b) ∨ (e.1 = b ∧ e.2 = a) := by
  unfold mt
  simp
theorem zok_mk0 {n : Nat} {lk : Lk} (hok : NetOk n lk) (hc : conn lk n) (p : Nat) : ZOk n lk (parZ n lk p) (grpZ n lk p) (cN lk (clV (clAll lk n p)) lk.length) := by
  obtain ⟨d, hG⟩ := growA_GI hok (free := allN n) (root := 0) (t := 0) n 0 _ (GI.init _ hc.1)
  have hall : ∀ x, x < n → (trA n lk).1 x = true := fun x hx => tree_all hok hc hx
  have hC := clAll_CI hok p
  have hcl : ∀ x, x < n → (clAll lk n p).2.1 x = some (clV (clAll lk n p) x) := fun x hx => (clV_some hC hx).1
  refine ⟨hok, fun x => ?_, ⟨depZ n lk p, fun v x y hp => ?_⟩, fun v x y hv hx hy h1 h2 hg => ?_, fun x y h => ?_, fun x y hxy hg => ?_, fun x y => rfl⟩
  · show parZ n lk p 0 x = none
    unfold parZ
    split
    · rfl
    · rfl
  · unfold parZ at hp
    by_cases hx : x < n
    · rw [if_pos hx] at hp
      by_cases h1 : v = 1
      · rw [if_pos h1] at hp
        subst h1
        have hne : x ≠ 0 := fun z => by
          have : (trA n lk).2.2.1 0 = none := hG.2.2.2.2.2.1
          rw [z, this] at hp; cases hp
        obtain ⟨y', g1, g2, g3, g4, -⟩ := hG.2.2.2.2.2.2.2 x (hall x hx) hne
        have : (trA n lk).2.2.1 x = some y' := g1
        rw [this] at hp
        cases hp
        exact ⟨g3, rfl, g4⟩
      · rw [if_neg h1] at hp
        by_cases h2 : v = 2
        · rw [if_pos h2] at hp
          subst h2
          rcases hC.2.2.2.1 x _ (hcl x hx) with q | ⟨y', g1, g2, g3, g4⟩
          · rw [q] at hp; cases hp
          · rw [g1] at hp
            cases hp
            refine ⟨g3, ?_, g4⟩
            show clV _ x = clV _ y
            unfold clV at g2 ⊢
            rw [g2]
            rfl
        · rw [if_neg h2] at hp; cases hp
    · rw [if_neg hx] at hp; cases hp
  · unfold parZ at h1 h2
    rw [if_pos hx] at h1
    rw [if_pos hy] at h2
    rcases hv with rfl | rfl
    · rw [if_pos rfl] at h1 h2
      have r : ∀ z, z < n → (trA n lk).2.2.1 z = none → z = 0 := fun z hz h => by
        rcases Nat.eq_zero_or_pos z with q | q
        · exact q
        · obtain ⟨y', g1, -⟩ := hG.2.2.2.2.2.2.2 z (hall z hz) (by omega)
          have : (trA n lk).2.2.1 z = some y' := g1
          rw [this] at h; cases h
      rw [r x hx h1, r y hy h2]
    · rw [if_neg (by decide), if_pos rfl] at h1 h2
      have hg : clV (clAll lk n p) x = clV (clAll lk n p) y := hg
      exact hC.2.2.2.2 x y _ (hcl x hx) (by rw [hg]; exact hcl y hy) h1 h2
  · skip
    obtain ⟨l, e, hl, h1, h2, h3⟩ := cN_iff.mp h
    have he := hok.2.2.1 e (List.mem_of_getElem? h2)
    have hd := ((chs_iff h2).mp h1).1
    have hne : x ≠ y := fun z => by
      rcases mt_iff.mp h3 with q | q
      · exact he.2.2 (by rw [q.1, q.2, z])
      · exact he.2.2 (by rw [q.1, q.2, z])
    refine ⟨(nbl_mt hne).mpr ⟨l, e, h2, h3⟩, ?_, cN_iff.mpr ⟨l, e, hl, h1, h2, by rw [mt_comm]; exact h3⟩⟩
    show clV _ x ≠ clV _ y
    rcases mt_iff.mp h3 with q | q
    · rw [← q.1, ← q.2]; exact hd
    · rw [← q.1, ← q.2]; exact fun z => hd z.symm
  · have hne := (hok.nb hxy).2.2
    obtain ⟨l, e, h2, h3⟩ := (nbl_mt hne).mp hxy
    have hl := (List.getElem?_eq_some_iff.mp h2).1
    show ∃ u v, cN lk (clV (clAll lk n p)) lk.length u v = true ∧ clV (clAll lk n p) u = clV (clAll lk n p) x ∧ clV (clAll lk n p) v = clV (clAll lk n p) y
    replace hg : clV (clAll lk n p) x ≠ clV (clAll lk n p) y := hg
    generalize clV (clAll lk n p) = cl at hg ⊢
    have hp : pairs lk cl (cl x) (cl y) l = true := by
      unfold pairs
      rw [h2]
      rcases mt_iff.mp h3 with q | q <;> simp [q.1, q.2, hg]
    obtain ⟨l', hl'⟩ := find_ex (n := lk.length) (p := pairs lk cl (cl x) (cl y)) ⟨l, hl, hp⟩
    have hlow := find_low hl'
    have hp' := hlow.2.1
    unfold pairs at hp'
    cases he' : lk[l']? with
    | none => rw [he'] at hp'; cases hp'
    | some e' =>
      rw [he'] at hp'
      simp only [Bool.and_eq_true, Bool.or_eq_true, beq_iff_eq] at hp'
      have hch : ∀ u v, cl u = cl x → cl v = cl y → mt e' u v = true → chF lk cl (cl e'.1) (cl e'.2) lk.length = some l' → ∃ u v, cN lk cl lk.length u v = true ∧ cl u = cl x ∧ cl v = cl y := fun u v q1 q2 q3 q4 =>
        ⟨u, v, cN_iff.mpr ⟨l', e', hlow.1, by unfold chs; rw [he']; simp [q4], he', q3⟩, q1, q2⟩
      rcases hp'.2 with q | q
      · exact hch e'.1 e'.2 q.1 q.2 (mt_iff.mpr (Or.inl ⟨rfl, rfl⟩)) (by rw [q.1, q.2]; exact hl')
      · exact hch e'.2 e'.1 q.2 q.1 (mt_iff.mpr (Or.inr ⟨rfl, rfl⟩)) (by rw [q.1, q.2, chF_sym]; exact hl')
theorem zok_mk {n : Nat} {lk : Lk} (hok : NetOk n lk) (hc : conn lk n) (pr : List Wd) (p : Nat) : ZOk (mkZ n lk pr p).n (mkZ n lk pr p).lk (mkZ n lk pr p).par (mkZ n lk pr p).grp (mkZ n lk pr p).ch := zok_mk0 hok hc p
