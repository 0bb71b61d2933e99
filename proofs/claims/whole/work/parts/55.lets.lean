/-! ===== letters under way ===== -/
abbrev Lt : Type := Nat × Nat × Nat × Nat × Int32
/-- what no two letters under way share -/
def ky (x : Lt) : Nat × Nat × Nat × Nat := if x.1 = 0 then (0, x.2.1, x.2.2.1, 0) else if x.1 = 1 then (0, x.2.2.1, x.2.1, 0) else (x.1, x.2.1, x.2.2.1, x.2.2.2.1)
/-- a letter whose receipt a node waits for, or that receipt -/
def owes (a : Nat) (x : Lt) : Bool := (x.1 == 0 && x.2.1 == a) || (x.1 == 1 && x.2.2.1 == a)
def LtOk (lk : Lk) (par : Nat → Nat → Option Nat) (ch : Nat → Nat → Bool) (w rd : Nat → Nat) (sd td al : Nat → Bool) (hd : Nat → Nat → Nat → Nat → Bool) (x : Lt) : Prop :=
  x.1 ≤ 7 ∧ x.2.2.2.1 ≤ 500 ∧ x.2.2.1 ∈ nbl lk x.2.1 ∧ (2 ≤ x.1 → Snt lk par ch w rd sd td al x.1 x.2.1 x.2.2.1 x.2.2.2.1 ∧ rd x.2.2.1 ≤ x.2.2.2.1 ∧ hd x.1 (x.2.2.2.1 % 2) x.2.2.1 x.2.1 = false)
def Il (lk : Lk) (par : Nat → Nat → Option Nat) (ch : Nat → Nat → Bool) (w rd : Nat → Nat) (sd td al : Nat → Bool) (hd : Nat → Nat → Nat → Nat → Bool) (lt : List Lt) : Prop :=
  (∀ x ∈ lt, LtOk lk par ch w rd sd td al hd x) ∧ lt.Pairwise (fun x y => ky x ≠ ky y)
/-- the number of a way over a link -/
def dl (lk : Lk) (a b : Nat) : Nat := dr lk ((pll lk b).getD (pt lk b a) 0) b
theorem dl_lt {n : Nat} {lk : Lk} (hok : NetOk n lk) {a b : Nat} (h : b ∈ nbl lk a) : dl lk a b < 120 := by
  have h2 := pt_at ((nbl_sym hok).mp h)
  obtain ⟨l, e, q1, q2, -⟩ := port_nb hok h2
  unfold dl
  rw [List.getD_eq_getElem?_getD, q1]
  exact dr_lt hok b (List.getElem?_eq_some_iff.mp q2).1
theorem dl_inj {n : Nat} {lk : Lk} (hok : NetOk n lk) {a b a' b' : Nat} (h : b ∈ nbl lk a) (h' : b' ∈ nbl lk a') (e : dl lk a b = dl lk a' b') : a = a' ∧ b = b' := by
  have h2 := pt_at ((nbl_sym hok).mp h)
  have h2' := pt_at ((nbl_sym hok).mp h')
  obtain ⟨l, e1, q1, q2, -⟩ := port_nb hok h2
  obtain ⟨l', e2, q1', q2', -⟩ := port_nb hok h2'
  unfold dl at e
  rw [List.getD_eq_getElem?_getD, q1, List.getD_eq_getElem?_getD, q1'] at e
  obtain ⟨rfl, z2, z3⟩ := dr_inj hok q1 q1' e
  rw [z2, h2'] at h2
  exact ⟨(Option.some.inj h2).symm, rfl⟩
/-- a letter's number, 456 in all -/
def cde (lk : Lk) (x : Lt) : Nat := if x.1 = 0 then 336 + dl lk x.2.1 x.2.2.1 else if x.1 = 1 then 336 + dl lk x.2.2.1 x.2.1 else if x.1 = 5 then 240 + (2 * x.2.2.1 + x.2.2.2.1 % 2) else if x.1 = 7 then 288 + (2 * x.2.1 + x.2.2.2.1 % 2) else 2 * dl lk x.2.1 x.2.2.1 + x.2.2.2.1 % 2
section C55
variable {n : Nat} {lk : Lk} {par : Nat → Nat → Option Nat} {grp : Nat → Nat → Nat} {ch : Nat → Nat → Bool} {w rd : Nat → Nat} {sd td al : Nat → Bool} {hd : Nat → Nat → Nat → Nat → Bool} {lt : List Lt}
theorem cde_lt (hZ : ZOk n lk par grp ch) {x : Lt} (h : LtOk lk par ch w rd sd td al hd x) : cde lk x < 456 := by
  obtain ⟨h1, h2, h3, h4⟩ := h
  have hn := hZ.1.nb h3
  have h24 := hZ.1.1
  have d1 := dl_lt hZ.1 h3
  have d2 := dl_lt hZ.1 ((nbl_sym hZ.1).mp h3)
  unfold cde
  split
  · omega
  · split
    · omega
    · split
      · omega
      · split <;> omega
/-- a letter of the ways has one of two rounds -/
theorem LtOk.two (hZ : ZOk n lk par grp ch) (h1 : ∀ a b, b ∈ nbl lk a → rd a ≤ rd b + 1) {x : Lt} (h : LtOk lk par ch w rd sd td al hd x) (hk : 2 ≤ x.1) : x.2.2.2.1 = rd x.2.2.1 ∨ x.2.2.2.1 = rd x.2.2.1 + 1 := by
  obtain ⟨q1, q2, q3⟩ := h.2.2.2 hk
  have := q1.lnk hZ
  have := h1 _ _ this.1
  omega
theorem par_anti (hZ : ZOk n lk par grp ch) {v a b : Nat} (h : par v a = some b) (h2 : par v b = some a) : False := by
  obtain ⟨-, -, ⟨dep, hdep⟩, -⟩ := hZ
  have := (hdep v a b h).2.2
  have := (hdep v b a h2).2.2
  omega
theorem cde_inj (hZ : ZOk n lk par grp ch) (h1 : ∀ a b, b ∈ nbl lk a → rd a ≤ rd b + 1) {x y : Lt} (hx : LtOk lk par ch w rd sd td al hd x) (hy : LtOk lk par ch w rd sd td al hd y) (e : cde lk x = cde lk y) : ky x = ky y := by
  have x3 := hx.2.2.1
  have y3 := hy.2.2.1
  have dx := dl_lt hZ.1 x3
  have dy := dl_lt hZ.1 y3
  have dx2 := dl_lt hZ.1 ((nbl_sym hZ.1).mp x3)
  have dy2 := dl_lt hZ.1 ((nbl_sym hZ.1).mp y3)
  have nx := hZ.1.nb x3
  have ny := hZ.1.nb y3
  have h24 := hZ.1.1
  have hx2 := hx.2.2.2
  have hy2 := hy.2.2.2
  have tx := LtOk.two hZ h1 hx
  have ty := LtOk.two hZ h1 hy
  have x7 := hx.1
  have y7 := hy.1
  obtain ⟨K, a, b, k, v⟩ := x
  obtain ⟨K', a', b', k', v'⟩ := y
  simp only at x3 y3 dx dy dx2 dy2 nx ny hx2 hy2 tx ty x7 y7
  unfold cde at e
  simp only at e
  -- the same group
  have g : (K ≤ 1 ∧ K' ≤ 1) ∨ (K = 5 ∧ K' = 5) ∨ (K = 7 ∧ K' = 7) ∨ ((2 ≤ K ∧ K ≠ 5 ∧ K ≠ 7) ∧ 2 ≤ K' ∧ K' ≠ 5 ∧ K' ≠ 7) := by
    split at e <;> split at e <;> (try split at e) <;> (try split at e) <;> (try split at e) <;> (try split at e) <;> (try split at e) <;> (try split at e) <;> omega
  rcases g with ⟨g1, g2⟩ | ⟨rfl, rfl⟩ | ⟨rfl, rfl⟩ | ⟨⟨g1, g2, g3⟩, g4, g5, g6⟩
  · have c1 : K = 0 ∨ K = 1 := by omega
    have c2 : K' = 0 ∨ K' = 1 := by omega
    rcases c1 with rfl | rfl <;> rcases c2 with rfl | rfl <;> simp at e <;> simp [ky]
    · exact dl_inj hZ.1 x3 y3 e
    · exact dl_inj hZ.1 x3 ((nbl_sym hZ.1).mp y3) e
    · exact dl_inj hZ.1 ((nbl_sym hZ.1).mp x3) y3 e
    · exact dl_inj hZ.1 ((nbl_sym hZ.1).mp x3) ((nbl_sym hZ.1).mp y3) e
  · simp at e
    have s1 := (hx2 (by omega)).1
    have s2 := (hy2 (by omega)).1
    have hb : b = b' := by omega
    subst hb
    have hk : k = k' := by have := tx (by omega); have := ty (by omega); omega
    subst hk
    unfold Snt at s1 s2
    have : a = a' := by grind
    subst this
    rfl
  · simp at e
    have s1 := (hx2 (by omega)).1
    have s2 := (hy2 (by omega)).1
    have ha : a = a' := by omega
    subst ha
    have hb : b = b' := by unfold Snt at s1 s2; grind
    subst hb
    have hk : k = k' := by have := tx (by omega); have := ty (by omega); omega
    subst hk
    rfl
  · rw [if_neg (by omega), if_neg (by omega), if_neg g2, if_neg g3, if_neg (by omega), if_neg (by omega), if_neg g5, if_neg g6] at e
    obtain ⟨rfl, rfl⟩ := dl_inj hZ.1 x3 y3 (by omega)
    have hk : k = k' := by have := tx g1; have := ty g4; omega
    subst hk
    have s1 := (hx2 g1).1
    have s2 := (hy2 g4).1
    have p0 := hZ.2.1
    have hK : K = K' := by
      obtain ⟨dep, hdep⟩ := hZ.2.2.1
      have hc := hZ.2.2.2.2.1
      unfold Snt at s1 s2
      rcases s1 with s1 | s1 | s1 | s1 | s1 | s1 <;> rcases s2 with s2 | s2 | s2 | s2 | s2 | s2 <;> first | omega | (exfalso; have e1 := s1.2.1; have e2 := s2.2.1; first | (rw [e1] at e2; first | omega | (rw [p0] at e2; cases e2)) | (rw [e2] at e1; first | omega | (rw [p0] at e1; cases e1)) | exact par_anti hZ e1 e2 | (have e3 := s1.2.2.1; rw [e1] at e2; have := (hdep _ _ _ e2).2.1; have := (hc _ _ e3).2.1; grind) | (have e3 := s2.2.2.1; rw [e2] at e1; have := (hdep _ _ _ e1).2.1; have := (hc _ _ e3).2.1; grind))
    subst hK
    rfl
/-- never more letters than the row has room for -/
theorem Il.len (hZ : ZOk n lk par grp ch) (h1 : ∀ a b, b ∈ nbl lk a → rd a ≤ rd b + 1) (h : Il lk par ch w rd sd td al hd lt) : lt.length ≤ 456 := by
  have : (lt.map (cde lk)).Nodup := by
    unfold List.Nodup
    rw [List.pairwise_map]
    exact List.Pairwise.imp_of_mem (fun {x y} hx hy hne z => hne (cde_inj hZ h1 (h.1 x hx) (h.1 y hy) z)) h.2
  have h3 := nd_len this (m := 456) (fun b hb => by
    obtain ⟨x, hx, rfl⟩ := List.mem_map.mp hb
    exact cde_lt hZ (h.1 x hx))
  rw [List.length_map] at h3
  exact h3
/-- new letters behind the others -/
theorem Il.add {w' rd' : Nat → Nat} {sd' td' al' : Nat → Bool} {hd' : Nat → Nat → Nat → Nat → Bool} (h : Il lk par ch w rd sd td al hd lt) {ls : List Lt} (hup : ∀ x ∈ lt, LtOk lk par ch w' rd' sd' td' al' hd' x) (hnew : ∀ x ∈ ls, LtOk lk par ch w' rd' sd' td' al' hd' x) (hnd : ls.Pairwise (fun x y => ky x ≠ ky y)) (hdis : ∀ x ∈ lt, ∀ y ∈ ls, ky x ≠ ky y) : Il lk par ch w' rd' sd' td' al' hd' (lt ++ ls) :=
  ⟨fun x hx => (List.mem_append.mp hx).elim (hup x) (hnew x), List.pairwise_append.mpr ⟨h.2, hnd, hdis⟩⟩
/-- letters of the ways that were not sent before -/
theorem Il.ways (h : Il lk par ch w rd sd td al hd lt) {x y : Lt} (hx : x ∈ lt) (hy : 2 ≤ y.1) (hs : ¬ Snt lk par ch w rd sd td al y.1 y.2.1 y.2.2.1 y.2.2.2.1) : ky x ≠ ky y := by
  intro e
  obtain ⟨-, -, -, h4⟩ := h.1 x hx
  obtain ⟨K, a, b, k, v⟩ := x
  obtain ⟨K', a', b', k', v'⟩ := y
  simp only at *
  unfold ky at e
  simp only at e
  rw [if_neg (show ¬ K' = 0 by omega), if_neg (show ¬ K' = 1 by omega)] at e
  by_cases z0 : K = 0
  · rw [if_pos z0] at e; simp at e; omega
  · rw [if_neg z0] at e
    by_cases z1 : K = 1
    · rw [if_pos z1] at e; simp at e; omega
    · rw [if_neg z1] at e
      simp at e
      obtain ⟨rfl, rfl, rfl, rfl⟩ := e
      exact hs (h4 hy).1
end C55
