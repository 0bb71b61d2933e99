/-! ===== on the run: what is known of it ===== -/
/-- a node has left a round, or is in it and did it -/
def Sd (rd : Nat → Nat) (f : Nat → Bool) (a k : Nat) : Prop := k < rd a ∨ (rd a = k ∧ f a = true)
/-- a letter of a kind was sent -/
def Snt (lk : Lk) (par : Nat → Nat → Option Nat) (ch : Nat → Nat → Bool) (w rd : Nat → Nat) (sd td al : Nat → Bool) (K a b k : Nat) : Prop :=
  (K = 2 ∧ w k = 0 ∧ b ∈ nbl lk a ∧ Sd rd sd a k) ∨ (K = 3 ∧ par (w k) a = some b ∧ Sd rd sd a k) ∨ (K = 4 ∧ par (w k) b = some a ∧ k < rd a) ∨
  (K = 5 ∧ w k = 2 ∧ par 2 b = some a ∧ Sd rd td a k) ∨ (K = 6 ∧ w k = 2 ∧ ch a b = true ∧ Sd rd td a k) ∨ (K = 7 ∧ w k = 2 ∧ par 2 a = some b ∧ Sd rd al a k)
/-- the net, its trees (1 the whole, 2 the clusters'), the chosen links -/
def ZOk (n : Nat) (lk : Lk) (par : Nat → Nat → Option Nat) (grp : Nat → Nat → Nat) (ch : Nat → Nat → Bool) : Prop :=
  NetOk n lk ∧ (∀ x, par 0 x = none) ∧ (∃ dep : Nat → Nat → Nat, ∀ w x y, par w x = some y → x ∈ nbl lk y ∧ grp w x = grp w y ∧ dep w x = dep w y + 1) ∧
  (∀ w x y, (w = 1 ∨ w = 2) → x < n → y < n → par w x = none → par w y = none → grp w x = grp w y → x = y) ∧
  (∀ x y, ch x y = true → y ∈ nbl lk x ∧ grp 2 x ≠ grp 2 y ∧ ch y x = true) ∧
  (∀ x y, y ∈ nbl lk x → grp 2 x ≠ grp 2 y → ∃ u v, ch u v = true ∧ grp 2 u = grp 2 x ∧ grp 2 v = grp 2 y) ∧ ∀ x y, grp 1 x = grp 1 y
section C54
variable {n : Nat} {lk : Lk} {par : Nat → Nat → Option Nat} {grp : Nat → Nat → Nat} {ch : Nat → Nat → Bool} {w rd : Nat → Nat} {sd td al : Nat → Bool} {hd : Nat → Nat → Nat → Nat → Bool}
/-- a property that goes down a tree, and holds at its root -/
theorem tree_down (hZ : ZOk n lk par grp ch) {v : Nat} (hv : v = 1 ∨ v = 2) {r : Nat} (hr : r < n) (hr0 : par v r = none) {P : Nat → Prop} (h0 : P r) (hd : ∀ x y, par v x = some y → P y → P x) {x : Nat} (hx : x < n) (hg : grp v x = grp v r) : P x := by
  obtain ⟨hok, -, ⟨dep, hdep⟩, hone, -⟩ := hZ
  suffices H : ∀ (m x : Nat), dep v x = m → x < n → grp v x = grp v r → P x from H _ x rfl hx hg
  intro m
  induction m with
  | zero =>
    intro x hm hx hg
    cases hp : par v x with
    | none => rw [hone v x r hv hx hr hp hr0 hg]; exact h0
    | some y => have := (hdep v x y hp).2.2; omega
  | succ m ih =>
    intro x hm hx hg
    cases hp : par v x with
    | none => rw [hone v x r hv hx hr hp hr0 hg]; exact h0
    | some y =>
      obtain ⟨q1, q2, q3⟩ := hdep v x y hp
      exact hd x y hp (ih y (by omega) (hok.nb q1).1 (by rw [← q2]; exact hg))
theorem Snt.lnk (hZ : ZOk n lk par grp ch) {K a b k : Nat} (h : Snt lk par ch w rd sd td al K a b k) : b ∈ nbl lk a ∧ k ≤ rd a ∧ 2 ≤ K ∧ K ≤ 7 := by
  obtain ⟨hok, -, ⟨dep, hdep⟩, -, hch, -⟩ := hZ
  rcases h with ⟨rfl, h1, h2, h3⟩ | ⟨rfl, h1, h3⟩ | ⟨rfl, h1, h3⟩ | ⟨rfl, h1, h2, h3⟩ | ⟨rfl, h1, h2, h3⟩ | ⟨rfl, h1, h2, h3⟩
  · exact ⟨h2, by rcases h3 with z | z <;> omega, by omega, by omega⟩
  · exact ⟨(nbl_sym hok).mp (hdep _ _ _ h1).1, by rcases h3 with z | z <;> omega, by omega, by omega⟩
  · exact ⟨(hdep _ _ _ h1).1, by omega, by omega, by omega⟩
  · exact ⟨(hdep _ _ _ h2).1, by rcases h3 with z | z <;> omega, by omega, by omega⟩
  · exact ⟨(hch _ _ h2).1, by rcases h3 with z | z <;> omega, by omega, by omega⟩
  · exact ⟨(nbl_sym hok).mp (hdep _ _ _ h2).1, by rcases h3 with z | z <;> omega, by omega, by omega⟩
end C54
/-- what holds of rounds, of what was said, and of what came -/
def Iv (n : Nat) (lk : Lk) (par : Nat → Nat → Option Nat) (grp : Nat → Nat → Nat) (ch : Nat → Nat → Bool) (w rd : Nat → Nat) (sd td al : Nat → Bool) (hd : Nat → Nat → Nat → Nat → Bool) : Prop :=
  (∀ a b, b ∈ nbl lk a → rd a ≤ rd b + 1) ∧
  (∀ K q b a, hd K q b a = true → ∃ k, (k = rd b ∨ k = rd b + 1) ∧ k % 2 = q ∧ Snt lk par ch w rd sd td al K a b k) ∧
  (∀ a c k, par (w k) c = some a → Sd rd sd a k → Sd rd sd c k) ∧
  (∀ a b k, w k = 2 → Sd rd td a k → b < n → grp 2 b = grp 2 a → Sd rd sd b k) ∧
  (∀ a k, w k = 2 → Sd rd al a k → Sd rd td a k ∧ (∀ c, par 2 c = some a → Sd rd al c k) ∧ ∀ d, ch a d = true → Sd rd td d k) ∧
  (∀ a b k, (w k = 1 ∨ w k = 2) → k < rd a → b < n → grp (w k) b = grp (w k) a → Sd rd sd b k ∧ (w k = 2 → Sd rd al b k)) ∧
  ((∀ a c, sd a = true → par (w (rd a)) c = some a → hd 3 (rd a % 2) a c = true) ∧
    (∀ a p, w (rd a) = 2 → td a = true → par 2 a = some p → hd 5 (rd a % 2) a p = true) ∧
    (∀ a d, w (rd a) = 2 → al a = true → ch a d = true → hd 6 (rd a % 2) a d = true) ∧
    (∀ a c, w (rd a) = 2 → al a = true → par 2 c = some a → hd 7 (rd a % 2) a c = true)) ∧
  (∀ a b k, par (w k) b = some a → k < rd b → k < rd a) ∧
  (∀ a b k, w k = 0 → k < rd b → a ∈ nbl lk b → Sd rd sd a k)
section C54b
variable {n : Nat} {lk : Lk} {par : Nat → Nat → Option Nat} {grp : Nat → Nat → Nat} {ch : Nat → Nat → Bool} {w rd : Nat → Nat} {sd td al : Nat → Bool} {hd : Nat → Nat → Nat → Nat → Bool}
/-- what came of the round in which a node is, was sent in that round -/
theorem Iv.now (h : Iv n lk par grp ch w rd sd td al hd) {K a b : Nat} (q : hd K (rd b % 2) b a = true) : Snt lk par ch w rd sd td al K a b (rd b) := by
  obtain ⟨k, h1, h2, h3⟩ := h.2.1 _ _ _ _ q
  have : k = rd b := by omega
  rw [this] at h3
  exact h3
/-- what was not sent did not come -/
theorem Iv.fresh (h : Iv n lk par grp ch w rd sd td al hd) {K a b k : Nat} (q : ¬ Snt lk par ch w rd sd td al K a b k) (h1 : rd b ≤ k) (h2 : k ≤ rd b + 1) : hd K (k % 2) b a = false := by
  cases e : hd K (k % 2) b a with
  | false => rfl
  | true =>
    obtain ⟨k', g1, g2, g3⟩ := h.2.1 _ _ _ _ e
    have : k' = k := by omega
    rw [this] at g3
    exact absurd g3 q
/-! a node speaks: one of its flags is set -/
theorem Sd.set {f : Nat → Bool} {a : Nat} {x k : Nat} : Sd rd (fun y => if y = a then true else f y) x k ↔ Sd rd f x k ∨ (x = a ∧ k = rd a) := by
  unfold Sd
  grind
theorem Sd.up {f g : Nat → Bool} {x k : Nat} (h : Sd rd f x k) (hfg : ∀ y, f y = true → g y = true) : Sd rd g x k := by
  unfold Sd at *
  rcases h with h | h
  · exact Or.inl h
  · exact Or.inr ⟨h.1, hfg _ h.2⟩
theorem Snt.up {sd' td' al' : Nat → Bool} {K x y k : Nat} (h : Snt lk par ch w rd sd td al K x y k) (h1 : ∀ y, sd y = true → sd' y = true) (h2 : ∀ y, td y = true → td' y = true) (h3 : ∀ y, al y = true → al' y = true) : Snt lk par ch w rd sd' td' al' K x y k := by
  unfold Snt at *
  rcases h with h | h | h | h | h | h
  · exact Or.inl ⟨h.1, h.2.1, h.2.2.1, h.2.2.2.up h1⟩
  · exact Or.inr (Or.inl ⟨h.1, h.2.1, h.2.2.up h1⟩)
  · exact Or.inr (Or.inr (Or.inl h))
  · exact Or.inr (Or.inr (Or.inr (Or.inl ⟨h.1, h.2.1, h.2.2.1, h.2.2.2.up h2⟩)))
  · exact Or.inr (Or.inr (Or.inr (Or.inr (Or.inl ⟨h.1, h.2.1, h.2.2.1, h.2.2.2.up h2⟩))))
  · exact Or.inr (Or.inr (Or.inr (Or.inr (Or.inr ⟨h.1, h.2.1, h.2.2.1, h.2.2.2.up h3⟩))))
/-- it says that it is safe -/
theorem Iv.say (h : Iv n lk par grp ch w rd sd td al hd) {a : Nat} (hf : ∀ c, par (w (rd a)) c = some a → hd 3 (rd a % 2) a c = true) : Iv n lk par grp ch w rd (fun y => if y = a then true else sd y) td al hd := by
  have hnow : ∀ c, par (w (rd a)) c = some a → Sd rd sd c (rd a) := fun c hc => by
    have := h.now (hf c hc)
    unfold Snt at this
    grind
  obtain ⟨i1, i2, i3, i4, i5, i6, ⟨f1, f2, f3, f4⟩, i7, i8⟩ := h
  have up : ∀ y, sd y = true → (fun y => if y = a then true else sd y) y = true := fun y q => by grind
  refine ⟨i1, fun K q b c hq => ?_, fun x c k hp hs => ?_, fun x b k hw hs hb hg => (i4 x b k hw hs hb hg).up up, i5, fun x b k hw hk hb hg => ⟨(i6 x b k hw hk hb hg).1.up up, (i6 x b k hw hk hb hg).2⟩, ⟨fun x c hs hp => ?_, f2, f3, f4⟩, i7, fun x b k hw hk hn => (i8 x b k hw hk hn).up up⟩
  · obtain ⟨k, g1, g2, g3⟩ := i2 K q b c hq
    exact ⟨k, g1, g2, g3.up up (fun _ z => z) (fun _ z => z)⟩
  · rw [Sd.set] at hs
    rcases hs with hs | ⟨rfl, rfl⟩
    · exact (i3 x c k hp hs).up up
    · exact (hnow c hp).up up
  · by_cases e : x = a
    · rw [e] at hp ⊢; exact hf c hp
    · simp only [if_neg e] at hs; exact f1 x c hs hp
/-- it is told that its cluster is safe (and has said so itself) -/
theorem Iv.tell (hZ : ZOk n lk par grp ch) (h : Iv n lk par grp ch w rd sd td al hd) {a : Nat} (ha : a < n) (hw : w (rd a) = 2) (hs : sd a = true) (hc : par 2 a = none ∨ ∃ p, par 2 a = some p ∧ hd 5 (rd a % 2) a p = true) : Iv n lk par grp ch w rd sd (fun y => if y = a then true else td y) al hd := by
  have hall : ∀ b, b < n → grp 2 b = grp 2 a → Sd rd sd b (rd a) := fun b hb hg => by
    rcases hc with hc | ⟨p, hp, hq⟩
    · exact tree_down hZ (Or.inr rfl) ha hc (P := fun x => Sd rd sd x (rd a)) (Or.inr ⟨rfl, hs⟩) (fun x y q z => h.2.2.1 y x (rd a) (by rw [hw]; exact q) z) hb hg
    · have := h.now hq
      have hp2 := hZ.2.2.1
      obtain ⟨dep, hdep⟩ := hp2
      have hg2 := (hdep 2 a p hp).2.1
      have ht : Sd rd td p (rd a) := by unfold Snt at this; grind
      exact h.2.2.2.1 p b (rd a) hw ht hb (by rw [← hg2]; exact hg)
  obtain ⟨i1, i2, i3, i4, i5, i6, ⟨f1, f2, f3, f4⟩, i7, i8⟩ := h
  have up : ∀ y, td y = true → (fun y => if y = a then true else td y) y = true := fun y q => by grind
  refine ⟨i1, fun K q b c hq => ?_, i3, fun x b k hw hs hb hg => ?_, fun x k hw hs => ?_, i6, ⟨f1, fun x p hw ht hp => ?_, f3, f4⟩, i7, i8⟩
  · obtain ⟨k, g1, g2, g3⟩ := i2 K q b c hq
    exact ⟨k, g1, g2, g3.up (fun _ z => z) up (fun _ z => z)⟩
  · rw [Sd.set] at hs
    rcases hs with hs | ⟨rfl, rfl⟩
    · exact i4 x b k hw hs hb hg
    · exact hall b hb hg
  · obtain ⟨q1, q2, q3⟩ := i5 x k hw hs
    exact ⟨q1.up up, q2, fun d hd => (q3 d hd).up up⟩
  · by_cases e : x = a
    · rw [e] at hp ⊢
      rcases hc with hc | ⟨p', hp', hq⟩
      · rw [hc] at hp; cases hp
      · rw [hp'] at hp; cases hp; exact hq
    · simp only [if_neg e] at ht; exact f2 x p hw ht hp
/-- it says that all around its part of the cluster are safe -/
theorem Iv.allSafe (h : Iv n lk par grp ch w rd sd td al hd) {a : Nat} (hw : w (rd a) = 2) (ht : td a = true) (h6 : ∀ d, ch a d = true → hd 6 (rd a % 2) a d = true) (h7 : ∀ c, par 2 c = some a → hd 7 (rd a % 2) a c = true) : Iv n lk par grp ch w rd sd td (fun y => if y = a then true else al y) hd := by
  have n6 : ∀ d, ch a d = true → Sd rd td d (rd a) := fun d q => by
    have := h.now (h6 d q)
    unfold Snt at this
    grind
  have n7 : ∀ c, par 2 c = some a → Sd rd al c (rd a) := fun c q => by
    have := h.now (h7 c q)
    unfold Snt at this
    grind
  obtain ⟨i1, i2, i3, i4, i5, i6, ⟨f1, f2, f3, f4⟩, i7, i8⟩ := h
  have up : ∀ y, al y = true → (fun y => if y = a then true else al y) y = true := fun y q => by grind
  refine ⟨i1, fun K q b c hq => ?_, i3, i4, fun x k hw hs => ?_, fun x b k hw hk hb hg => ⟨(i6 x b k hw hk hb hg).1, fun z => ((i6 x b k hw hk hb hg).2 z).up up⟩, ⟨f1, f2, fun x d hw ha hc => ?_, fun x c hw ha hc => ?_⟩, i7, i8⟩
  · obtain ⟨k, g1, g2, g3⟩ := i2 K q b c hq
    exact ⟨k, g1, g2, g3.up (fun _ z => z) (fun _ z => z) up⟩
  · rw [Sd.set] at hs
    rcases hs with hs | ⟨rfl, rfl⟩
    · obtain ⟨q1, q2, q3⟩ := i5 x k hw hs
      exact ⟨q1, fun c hc => (q2 c hc).up up, q3⟩
    · exact ⟨Or.inr ⟨rfl, ht⟩, fun c hc => (n7 c hc).up up, n6⟩
  · by_cases e : x = a
    · rw [e] at hc ⊢; exact h6 d hc
    · simp only [if_neg e] at ha; exact f3 x d hw ha hc
  · by_cases e : x = a
    · rw [e] at hc ⊢; exact h7 c hc
    · simp only [if_neg e] at ha; exact f4 x c hw ha hc
/-- a letter is heard -/
theorem Iv.hear (hZ : ZOk n lk par grp ch) (h : Iv n lk par grp ch w rd sd td al hd) {K a b k : Nat} (hs : Snt lk par ch w rd sd td al K a b k) (hk : rd b ≤ k) : Iv n lk par grp ch w rd sd td al (fun K' q b' a' => if K' = K ∧ q = k % 2 ∧ b' = b ∧ a' = a then true else hd K' q b' a') := by
  have hlk := hs.lnk hZ
  have hkb : k ≤ rd b + 1 := by have := h.1 a b hlk.1; omega
  obtain ⟨i1, i2, i3, i4, i5, i6, ⟨f1, f2, f3, f4⟩, i7, i8⟩ := h
  refine ⟨i1, fun K' q b' a' hq => ?_, i3, i4, i5, i6, ⟨fun x c q1 q2 => ?_, fun x c q0 q1 q2 => ?_, fun x c q0 q1 q2 => ?_, fun x c q0 q1 q2 => ?_⟩, i7, i8⟩
  · by_cases e : K' = K ∧ q = k % 2 ∧ b' = b ∧ a' = a
    · obtain ⟨rfl, rfl, rfl, rfl⟩ := e
      exact ⟨k, by omega, rfl, hs⟩
    · simp only [if_neg e] at hq; exact i2 K' q b' a' hq
  · have := f1 x c q1 q2; grind
  · have := f2 x c q0 q1 q2; grind
  · have := f3 x c q0 q1 q2; grind
  · have := f4 x c q0 q1 q2; grind
/-- what a node must know before it leaves its round -/
def Lv (n : Nat) (lk : Lk) (par : Nat → Nat → Option Nat) (grp : Nat → Nat → Nat) (ch : Nat → Nat → Bool) (w rd : Nat → Nat) (sd td al : Nat → Bool) (a : Nat) : Prop :=
  (∀ b, b ∈ nbl lk a → rd a ≤ rd b) ∧ (∀ c, par (w (rd a)) c = some a → Sd rd sd c (rd a)) ∧
  (w (rd a) = 2 → (∀ b, b < n → grp 2 b = grp 2 a → Sd rd sd b (rd a)) ∧ (∀ c, par 2 c = some a → Sd rd al c (rd a)) ∧ ∀ d, ch a d = true → Sd rd td d (rd a)) ∧
  ((w (rd a) = 1 ∨ w (rd a) = 2) → ∀ b, b < n → b ≠ a → grp (w (rd a)) b = grp (w (rd a)) a → Sd rd sd b (rd a) ∧ (w (rd a) = 2 → Sd rd al b (rd a))) ∧
  (∀ p, par (w (rd a)) a = some p → rd a < rd p) ∧ (w (rd a) = 0 → ∀ b, b ∈ nbl lk a → Sd rd sd b (rd a))
theorem Sd.lv {f : Nat → Bool} {a x k : Nat} : Sd (fun y => if y = a then rd a + 1 else rd y) (fun y => if y = a then false else f y) x k ↔ Sd rd f x k ∨ (x = a ∧ k = rd a) := by
  unfold Sd
  grind
theorem Snt.lv {a : Nat} {K x y k : Nat} (h : Snt lk par ch w rd sd td al K x y k) : Snt lk par ch w (fun y => if y = a then rd a + 1 else rd y) (fun y => if y = a then false else sd y) (fun y => if y = a then false else td y) (fun y => if y = a then false else al y) K x y k := by
  unfold Snt at *
  rcases h with h | h | h | h | h | h
  · exact Or.inl ⟨h.1, h.2.1, h.2.2.1, Sd.lv.mpr (Or.inl h.2.2.2)⟩
  · exact Or.inr (Or.inl ⟨h.1, h.2.1, Sd.lv.mpr (Or.inl h.2.2)⟩)
  · exact Or.inr (Or.inr (Or.inl ⟨h.1, h.2.1, by grind⟩))
  · exact Or.inr (Or.inr (Or.inr (Or.inl ⟨h.1, h.2.1, h.2.2.1, Sd.lv.mpr (Or.inl h.2.2.2)⟩)))
  · exact Or.inr (Or.inr (Or.inr (Or.inr (Or.inl ⟨h.1, h.2.1, h.2.2.1, Sd.lv.mpr (Or.inl h.2.2.2)⟩))))
  · exact Or.inr (Or.inr (Or.inr (Or.inr (Or.inr ⟨h.1, h.2.1, h.2.2.1, Sd.lv.mpr (Or.inl h.2.2.2)⟩))))
/-- a node goes on to its next round -/
theorem Iv.leave (hZ : ZOk n lk par grp ch) (h : Iv n lk par grp ch w rd sd td al hd) {a : Nat} (hL : Lv n lk par grp ch w rd sd td al a) : Iv n lk par grp ch w (fun y => if y = a then rd a + 1 else rd y) (fun y => if y = a then false else sd y) (fun y => if y = a then false else td y) (fun y => if y = a then false else al y) (fun K q b c => if b = a ∧ q = rd a % 2 then false else hd K q b c) := by
  obtain ⟨i1, i2, i3, i4, i5, i6, ⟨f1, f2, f3, f4⟩, i7, i8⟩ := h
  obtain ⟨l1, l2, l3, l4, l5, l6⟩ := hL
  refine ⟨fun x b hb => ?_, fun K q b c hq => ?_, fun x c k hp hs => ?_, fun x b k hw hs hb hg => ?_, fun x k hw hs => ?_, fun x b k hw hk hb hg => ?_, ⟨fun x c q1 q2 => ?_, fun x c q0 q1 q2 => ?_, fun x c q0 q1 q2 => ?_, fun x c q0 q1 q2 => ?_⟩, fun x b k hp hk => ?_, fun x b k hw hk hb => ?_⟩
  · have := i1 x b hb
    show (if x = a then rd a + 1 else rd x) ≤ (if b = a then rd a + 1 else rd b) + 1
    by_cases e : x = a
    · rw [e] at hb
      have := l1 b hb
      rw [if_pos e]
      split <;> omega
    · rw [if_neg e]
      by_cases e2 : b = a
      · rw [if_pos e2]; rw [e2] at this; omega
      · rw [if_neg e2]; exact this
  · by_cases e : b = a ∧ q = rd a % 2
    · simp [e] at hq
    · simp only [if_neg e] at hq
      obtain ⟨k, g1, g2, g3⟩ := i2 K q b c hq
      refine ⟨k, ?_, g2, g3.lv⟩
      show k = (if b = a then rd a + 1 else rd b) ∨ k = (if b = a then rd a + 1 else rd b) + 1
      by_cases e2 : b = a
      · have : ¬ q = rd a % 2 := fun z => e ⟨e2, z⟩
        rw [if_pos e2]; rw [e2] at g1; omega
      · rw [if_neg e2]; exact g1
  · rw [Sd.lv] at hs ⊢
    rcases hs with hs | ⟨rfl, rfl⟩
    · exact Or.inl (i3 x c k hp hs)
    · exact Or.inl (l2 c hp)
  · rw [Sd.lv] at hs ⊢
    rcases hs with hs | ⟨rfl, rfl⟩
    · exact Or.inl (i4 x b k hw hs hb hg)
    · exact Or.inl ((l3 hw).1 b hb hg)
  · rw [Sd.lv] at hs
    rcases hs with hs | ⟨rfl, rfl⟩
    · obtain ⟨q1, q2, q3⟩ := i5 x k hw hs
      exact ⟨Sd.lv.mpr (Or.inl q1), fun c hc => Sd.lv.mpr (Or.inl (q2 c hc)), fun d hd => Sd.lv.mpr (Or.inl (q3 d hd))⟩
    · obtain ⟨-, q2, q3⟩ := l3 hw
      exact ⟨Sd.lv.mpr (Or.inr ⟨rfl, rfl⟩), fun c hc => Sd.lv.mpr (Or.inl (q2 c hc)), fun d hd => Sd.lv.mpr (Or.inl (q3 d hd))⟩
  · rw [Sd.lv, Sd.lv]
    by_cases e : x = a ∧ k = rd a
    · obtain ⟨rfl, rfl⟩ := e
      by_cases e2 : b = x
      · exact ⟨Or.inr ⟨e2, rfl⟩, fun _ => Or.inr ⟨e2, rfl⟩⟩
      · have := l4 hw b hb e2 hg
        exact ⟨Or.inl this.1, fun z => Or.inl (this.2 z)⟩
    · have hk2 : k < rd x := by
        by_cases e2 : x = a
        · simp only [if_pos e2] at hk
          have : ¬ k = rd a := fun z => e ⟨e2, z⟩
          rw [e2]; omega
        · simp only [if_neg e2] at hk; exact hk
      have := i6 x b k hw hk2 hb hg
      exact ⟨Or.inl this.1, fun z => Or.inl (this.2 z)⟩
  · by_cases e : x = a
    · simp [e] at q1
    · simp only [if_neg e] at q1 q2 ⊢
      rw [if_neg (fun z => e z.1)]
      exact f1 x c q1 q2
  · by_cases e : x = a
    · simp [e] at q1
    · simp only [if_neg e] at q0 q1 q2 ⊢
      rw [if_neg (fun z => e z.1)]
      exact f2 x c q0 q1 q2
  · by_cases e : x = a
    · simp [e] at q1
    · simp only [if_neg e] at q0 q1 q2 ⊢
      rw [if_neg (fun z => e z.1)]
      exact f3 x c q0 q1 q2
  · by_cases e : x = a
    · simp [e] at q1
    · simp only [if_neg e] at q0 q1 q2 ⊢
      rw [if_neg (fun z => e z.1)]
      exact f4 x c q0 q1 q2
  · show k < (if x = a then rd a + 1 else rd x)
    have hk : k < (if b = a then rd a + 1 else rd b) := hk
    by_cases e : b = a
    · rw [if_pos e] at hk
      by_cases e2 : k = rd a
      · rw [e, e2] at hp
        have := l5 x hp
        split <;> omega
      · have := i7 x b k hp (by rw [e]; omega)
        split
        · next e3 => rw [e3] at this; omega
        · exact this
    · rw [if_neg e] at hk
      have := i7 x b k hp hk
      split
      · next e3 => rw [e3] at this; omega
      · exact this
  · rw [Sd.lv]
    have hk : k < (if b = a then rd a + 1 else rd b) := hk
    by_cases e : b = a
    · rw [if_pos e] at hk
      by_cases e2 : k = rd a
      · rw [e2] at hw ⊢; rw [e] at hb; exact Or.inl (l6 hw x hb)
      · exact Or.inl (i8 x b k hw (by rw [e]; omega) hb)
    · rw [if_neg e] at hk; exact Or.inl (i8 x b k hw hk hb)
/-! when a node may leave: the way of nodes -/
theorem Lv.nodes (h : Iv n lk par grp ch w rd sd td al hd) (hZ : ZOk n lk par grp ch) {a : Nat} (hw : w (rd a) = 0) (h2 : ∀ b, b ∈ nbl lk a → hd 2 (rd a % 2) a b = true) : Lv n lk par grp ch w rd sd td al a := by
  have hs : ∀ b, b ∈ nbl lk a → Sd rd sd b (rd a) := fun b hb => by
    have := h.now (h2 b hb)
    unfold Snt at this
    grind
  refine ⟨fun b hb => ?_, fun c hc => ?_, fun q => ?_, fun q => ?_, fun p hp => ?_, fun _ => hs⟩
  · have := hs b hb
    unfold Sd at this
    omega
  · rw [hw, hZ.2.1] at hc; cases hc
  · omega
  · omega
  · rw [hw, hZ.2.1] at hp; cases hp
/-- the tree: its root, or where GO came -/
theorem Lv.tree (h : Iv n lk par grp ch w rd sd td al hd) (hZ : ZOk n lk par grp ch) {a : Nat} (ha : a < n) (hw : w (rd a) = 1) (hc : (par 1 a = none ∧ ∀ c, par 1 c = some a → hd 3 (rd a % 2) a c = true) ∨ ∃ p, hd 4 (rd a % 2) a p = true) : Lv n lk par grp ch w rd sd td al a ∧ ((∃ p, hd 4 (rd a % 2) a p = true) → sd a = true ∧ ∃ p, par 1 a = some p ∧ hd 4 (rd a % 2) a p = true) := by
  have hgo : ∀ p, hd 4 (rd a % 2) a p = true → par 1 a = some p ∧ rd a < rd p := fun p q => by
    have := h.now q
    unfold Snt at this
    rw [hw] at this
    grind
  have hall : ∀ b, b < n → b ≠ a → Sd rd sd b (rd a) := fun b hb hne => by
    rcases hc with ⟨hr, h3⟩ | ⟨p, hp⟩
    · have hk : ∀ c, par 1 c = some a → Sd rd sd c (rd a) := fun c q => by
        have := h.now (h3 c q)
        unfold Snt at this
        grind
      have := tree_down hZ (Or.inl rfl) ha hr (P := fun x => x = a ∨ Sd rd sd x (rd a)) (Or.inl rfl) (fun x y q z => ?_) hb (hZ.2.2.2.2.2.2 b a)
      · exact this.resolve_left hne
      · rcases z with z | z
        · rw [z] at q; exact Or.inr (hk x q)
        · exact Or.inr (h.2.2.1 y x (rd a) (by rw [hw]; exact q) z)
    · have := hgo p hp
      exact (h.2.2.2.2.2.1 p b (rd a) (Or.inl hw) this.2 hb (by rw [hw]; exact hZ.2.2.2.2.2.2 _ _)).1
  refine ⟨⟨fun b hb => ?_, fun c hc => ?_, fun q => ?_, fun _ b hb hne _ => ⟨hall b hb hne, fun z => by omega⟩, fun p hp => ?_, fun q => by omega⟩, fun ⟨p, hp⟩ => ?_⟩
  · have hn := hZ.1.nb hb
    have := hall b hn.2.1 (fun z => hn.2.2 z.symm)
    unfold Sd at this
    omega
  · rw [hw] at hc
    obtain ⟨dep, hdep⟩ := hZ.2.2.1
    have hn := hZ.1.nb (hdep 1 c a hc).1
    exact hall c hn.2.1 (fun z => hn.2.2 z.symm)
  · omega
  · rw [hw] at hp
    rcases hc with ⟨hr, -⟩ | ⟨p', hp'⟩
    · rw [hr] at hp; cases hp
    · have := hgo p' hp'
      rw [this.1] at hp; cases hp; exact this.2
  · have q := hgo p hp
    have := (h.2.2.2.2.2.1 p a (rd a) (Or.inl hw) q.2 ha (by rw [hw]; exact hZ.2.2.2.2.2.2 _ _)).1
    unfold Sd at this
    exact ⟨by rcases this with z | z; omega; exact z.2, p, q.1, hp⟩
/-- the clusters: a leader, or where GO came -/
theorem Lv.clus (h : Iv n lk par grp ch w rd sd td al hd) (hZ : ZOk n lk par grp ch) {a : Nat} (ha : a < n) (hw : w (rd a) = 2) (hc : (par 2 a = none ∧ td a = true ∧ (∀ d, ch a d = true → hd 6 (rd a % 2) a d = true) ∧ ∀ c, par 2 c = some a → hd 7 (rd a % 2) a c = true) ∨ ∃ p, hd 4 (rd a % 2) a p = true) : Lv n lk par grp ch w rd sd td al a ∧ ((∃ p, hd 4 (rd a % 2) a p = true) → al a = true ∧ td a = true ∧ ∃ p, par 2 a = some p ∧ hd 4 (rd a % 2) a p = true) := by
  obtain ⟨dep, hdep⟩ := hZ.2.2.1
  have hgo : ∀ p, hd 4 (rd a % 2) a p = true → par 2 a = some p ∧ rd a < rd p := fun p q => by
    have := h.now q
    unfold Snt at this
    rw [hw] at this
    grind
  have hgo2 : ∀ p, hd 4 (rd a % 2) a p = true → ∀ b, b < n → grp 2 b = grp 2 a → Sd rd al b (rd a) := fun p hp b hb hg => by
    have q := hgo p hp
    have := h.2.2.2.2.2.1 p b (rd a) (Or.inr hw) q.2 hb (by rw [hw, hg]; exact (hdep 2 a p q.1).2.1)
    exact this.2 hw
  have hal : ∀ b, b < n → b ≠ a → grp 2 b = grp 2 a → Sd rd al b (rd a) := fun b hb hne hg => by
    rcases hc with ⟨hr, ht, h6, h7⟩ | ⟨p, hp⟩
    · have hk : ∀ c, par 2 c = some a → Sd rd al c (rd a) := fun c q => by
        have := h.now (h7 c q)
        unfold Snt at this
        grind
      have := tree_down hZ (Or.inr rfl) ha hr (P := fun x => x = a ∨ Sd rd al x (rd a)) (Or.inl rfl) (fun x y q z => ?_) hb hg
      · exact this.resolve_left hne
      · rcases z with z | z
        · rw [z] at q; exact Or.inr (hk x q)
        · exact Or.inr ((h.2.2.2.2.1 y (rd a) hw z).2.1 x q)
    · exact hgo2 p hp b hb hg
  have hown : Sd rd td a (rd a) ∧ (∀ c, par 2 c = some a → Sd rd al c (rd a)) ∧ ∀ d, ch a d = true → Sd rd td d (rd a) := by
    rcases hc with ⟨hr, ht, h6, h7⟩ | ⟨p, hp⟩
    · refine ⟨Or.inr ⟨rfl, ht⟩, fun c q => ?_, fun d q => ?_⟩
      · have := h.now (h7 c q)
        unfold Snt at this
        grind
      · have := h.now (h6 d q)
        unfold Snt at this
        grind
    · exact h.2.2.2.2.1 a (rd a) hw (hgo2 p hp a ha rfl)
  have hsd : ∀ b, b < n → grp 2 b = grp 2 a → Sd rd sd b (rd a) := fun b hb hg => h.2.2.2.1 a b (rd a) hw hown.1 hb hg
  have hchs : ∀ u v, ch u v = true → grp 2 u = grp 2 a → Sd rd td v (rd a) := fun u v q hg => by
    by_cases e : u = a
    · rw [e] at q; exact hown.2.2 v q
    · have hu := hZ.1.nb (hZ.2.2.2.2.1 u v q).1
      exact (h.2.2.2.2.1 u (rd a) hw (hal u hu.1 e hg)).2.2 v q
  refine ⟨⟨fun b hb => ?_, fun c hc => ?_, fun _ => ⟨hsd, hown.2⟩, fun _ b hb hne hg => ?_, fun p hp => ?_, fun q => by omega⟩, fun ⟨p, hp⟩ => ?_⟩
  · have hn := hZ.1.nb hb
    have : Sd rd sd b (rd a) := by
      by_cases e : grp 2 b = grp 2 a
      · exact hsd b hn.2.1 e
      · obtain ⟨u, v, q1, q2, q3⟩ := hZ.2.2.2.2.2.1 a b hb (fun z => e z.symm)
        exact h.2.2.2.1 v b (rd a) hw (hchs u v q1 q2) hn.2.1 q3.symm
    unfold Sd at this
    omega
  · rw [hw] at hc
    have q := hdep 2 c a hc
    exact hsd c (hZ.1.nb q.1).2.1 q.2.1
  · rw [hw] at hg
    exact ⟨hsd b hb hg, fun _ => hal b hb hne hg⟩
  · rw [hw] at hp
    rcases hc with ⟨hr, -⟩ | ⟨p', hp'⟩
    · rw [hr] at hp; cases hp
    · have := hgo p' hp'
      rw [this.1] at hp; cases hp; exact this.2
  · have q := hgo p hp
    have h1 := hgo2 p hp a ha rfl
    have h2 := (h.2.2.2.2.1 a (rd a) hw h1).1
    unfold Sd at h1 h2
    exact ⟨by rcases h1 with z | z; omega; exact z.2, by rcases h2 with z | z; omega; exact z.2, p, q.1, hp⟩
end C54b
