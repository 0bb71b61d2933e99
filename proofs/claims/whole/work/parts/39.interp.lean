/-! ===== the program as it is done: both sides' common form ===== -/
theorem J_forget {l : Launch} {G : jG} {X : jX} {Q : State → Prop} {nL pc n : Nat} {ls st : List Value} {mu : jM} (i : Nat) (h : J l G X Q nL pc (ls.set i (.float 0)) st mu n) : J l G X Q nL pc ls st mu n := by
  obtain ⟨⟨p, e, R, s⟩, m, args, below, meth, c⟩ := X
  intro H locs Ls hP hS hL
  refine h H locs Ls hP hS ⟨hL.1, hL.2.1, fun q hq => ?_⟩
  obtain ⟨j, w⟩ := q
  obtain ⟨v, hv, hk, rfl⟩ := lvl_mem.mp hq
  rw [List.getElem?_set] at hv
  by_cases e : i = j
  · rw [if_pos e] at hv
    split at hv
    · cases hv; cases hk
    · cases hv
  · rw [if_neg e] at hv
    exact hL.2.2 (j, tv G.1 v) (lvl_mem.mpr ⟨v, hv, hk, rfl⟩)
/-- registers and what is sent; node, round, ports, what came -/
abbrev IS : Type := (Nat → Int32) × (Nat → Option Int32)
abbrev IE : Type := Nat × Nat × Nat × (Nat → Option Int32)
def wd (pr : List Wd) (i : Nat) : Wd := pr.getD i (0, 0, 0, 0)
def cmb (o x y : Int32) : Int32 := if o = 2 then x + y else if o = 3 then x - y else if o = 4 then x * y else if o = 5 then (if x < y then x else y) else if o = 6 then (if y < x then x else y) else if o = 7 then (if x < y then 1 else 0) else if o = 8 then (if x = y then 1 else 0) else if o = 9 then x &&& y else if o = 10 then x ||| y else x ^^^ y
/-- what a word writes -/
def rv (w : Wd) (E : IE) (p : Nat) (r : Nat → Int32) : Int32 :=
  if w.1 = 0 then w.2.2.1 else if w.1 = 1 then r w.2.2.1.toNatClampNeg else if w.1 = 12 then 1 <<< ((r w.2.2.1.toNatClampNeg &&& 31) &&& 31) else if w.1 = 13 then nI (lz (r w.2.2.1.toNatClampNeg))
  else if w.1 = 16 then (if (E.2.2.2 p).isSome then 1 else 0) else if w.1 = 17 then (E.2.2.2 p).getD 0 else if w.1 = 19 then nI E.2.1 else if w.1 = 20 then nI E.1 else if w.1 = 21 then nI E.2.2.1 else cmb w.1 (r w.2.2.1.toNatClampNeg) (r w.2.2.2.toNatClampNeg)
def doW (w : Wd) (E : IE) (p : Nat) (s : IS) : IS := if w.1 = 18 then (s.1, fun q => if q = p then some (s.1 w.2.1.toNatClampNeg) else s.2 q) else (upd s.1 w.2.1.toNatClampNeg (rv w E p s.1), s.2)
def runW (pr : List Wd) (E : IE) (p hi : Nat) : Nat → Nat → IS → IS
  | 0, _, s => s
  | f + 1, i, s => if i < hi then (if pO pr i = 14 then (if s.1 (pR pr i).toNatClampNeg = 0 then runW pr E p hi f (i + 1 + (pA pr i).toNatClampNeg) s else runW pr E p hi f (i + 1) s) else runW pr E p hi f (i + 1) (doW (wd pr i) E p s)) else s
def eachP (pr : List Wd) (E : IE) (i : Nat) : Nat → Nat → IS → IS
  | 0, _, s => s
  | m + 1, p, s => eachP pr E i m (p + 1) (runW pr E p (i + 1 + (pA pr i).toNatClampNeg) 64 (i + 1) (upd s.1 (pR pr i).toNatClampNeg (nI p), s.2))
def runP (pr : List Wd) (E : IE) : Nat → Nat → IS → IS
  | 0, _, s => s
  | f + 1, i, s => if i < pr.length then (if pO pr i = 15 then runP pr E f (i + 1 + (pA pr i).toNatClampNeg) (eachP pr E i E.2.2.1 0 s) else if pO pr i = 14 then (if s.1 (pR pr i).toNatClampNeg = 0 then runP pr E f (i + 1 + (pA pr i).toNatClampNeg) s else runP pr E f (i + 1) s) else runP pr E f (i + 1) (doW (wd pr i) E 0 s)) else s
/-- a node's round -/
def exec (pr : List Wd) (E : IE) (r : Nat → Int32) : IS := runP pr E 64 0 (r, fun _ => none)
/-! right programs -/
theorem right_r {pr : List Wd} (h : Valid pr) {i : Nat} (hi : i < pr.length) : ∃ r : Nat, r < 8 ∧ pR pr i = nI r := by
  have hb : ¬ badParts (pO pr i) (pR pr i) (pA pr i) (pB pr i) := fun z => h i hi (Or.inl z)
  have : isRg (pR pr i) := Classical.byContradiction fun z => hb (Or.inr (Or.inr (Or.inl z)))
  exact this.nat
theorem right_a {pr : List Wd} (h : Valid pr) {i : Nat} (hi : i < pr.length) (ho : 1 ≤ pO pr i) (ho2 : pO pr i ≤ 13) : ∃ r : Nat, r < 8 ∧ pA pr i = nI r := by
  have hb : ¬ badParts (pO pr i) (pR pr i) (pA pr i) (pB pr i) := fun z => h i hi (Or.inl z)
  have : isRg (pA pr i) := Classical.byContradiction fun z => hb (Or.inr (Or.inr (Or.inr (Or.inl ⟨⟨ho, ho2⟩, z⟩))))
  exact this.nat
theorem right_b {pr : List Wd} (h : Valid pr) {i : Nat} (hi : i < pr.length) (ho : 2 ≤ pO pr i) (ho2 : pO pr i ≤ 11) : ∃ r : Nat, r < 8 ∧ pB pr i = nI r := by
  have hb : ¬ badParts (pO pr i) (pR pr i) (pA pr i) (pB pr i) := fun z => h i hi (Or.inl z)
  have : isRg (pB pr i) := Classical.byContradiction fun z => hb (Or.inr (Or.inr (Or.inr (Or.inr ⟨⟨ho, ho2⟩, z⟩))))
  exact this.nat
theorem right_o {pr : List Wd} (h : Valid pr) {i : Nat} (hi : i < pr.length) : 0 ≤ pO pr i ∧ pO pr i ≤ 21 := by
  have hb : ¬ badParts (pO pr i) (pR pr i) (pA pr i) (pB pr i) := fun z => h i hi (Or.inl z)
  unfold badParts at hb
  grind
theorem beh_up {pr : List Wd} : ∀ (m i : Nat), (∀ j, i ≤ j → j < i + m → pO pr j ≠ 15) → beh pr (i + m) = beh pr i
  | 0, i, _ => rfl
  | m + 1, i, h => by
    rw [show i + (m + 1) = (i + m) + 1 by omega, beh, if_neg (h (i + m) (by omega) (by omega))]
    exact beh_up m i (fun j q1 q2 => h j q1 (by omega))
/-- an EACH outside of another's words -/
theorem right_each {pr : List Wd} (h : Valid pr) (hlen : pr.length ≤ 64) {i : Nat} (hi : i < pr.length) (hb : beh pr i ≤ i) (ho : pO pr i = 15) : ∃ a : Nat, pA pr i = nI a ∧ 1 ≤ a ∧ i + a < pr.length ∧ (∀ j, i < j → j < i + 1 + a → beh pr j = i + 1 + a ∧ pO pr j ≠ 15) ∧ beh pr (i + 1 + a) = i + 1 + a := by
  have hf : ¬ far pr i pr.length := fun z => h i hi (Or.inr (Or.inr (Or.inr ⟨by omega, z⟩)))
  obtain ⟨a, ha, ha1, ha2, ha3⟩ := not_far (Or.inr ho) hf hlen
  have hb1 : beh pr (i + 1) = i + 1 + a := by
    rw [beh, if_pos ho, ha, nI_clamp (by omega)]
  have key : ∀ m, m ≤ a → beh pr (i + 1 + m) = i + 1 + a ∧ ∀ j, i < j → j < i + 1 + m → beh pr j = i + 1 + a ∧ pO pr j ≠ 15 := by
    intro m
    induction m with
    | zero => exact fun _ => ⟨hb1, fun j q1 q2 => absurd q1 (by omega)⟩
    | succ m ih =>
      intro hm
      obtain ⟨g1, g2⟩ := ih (by omega)
      have hn : pO pr (i + 1 + m) ≠ 15 := fun z => h (i + 1 + m) (by omega) (Or.inr (Or.inl (Or.inl ⟨z, by omega⟩)))
      refine ⟨?_, fun j q1 q2 => ?_⟩
      · rw [show i + 1 + (m + 1) = (i + 1 + m) + 1 by omega, beh, if_neg hn, g1]
      · rcases Nat.lt_or_ge j (i + 1 + m) with z | z
        · exact g2 j q1 z
        · rw [show j = i + 1 + m by omega]; exact ⟨g1, hn⟩
  exact ⟨a, ha, ha1, ha2, (key a (Nat.le_refl _)).2, (key a (Nat.le_refl _)).1⟩
/-- a SKIP within the words of an EACH -/
theorem right_skip {pr : List Wd} (h : Valid pr) (hlen : pr.length ≤ 64) {i : Nat} (hi : i < pr.length) (hb : i < beh pr i) (ho : pO pr i = 14) : ∃ a : Nat, pA pr i = nI a ∧ 1 ≤ a ∧ i + a < beh pr i := by
  have hf : ¬ far pr i (beh pr i) := fun z => h i hi (Or.inr (Or.inr (Or.inl ⟨hb, z⟩)))
  obtain ⟨a, ha, ha1, ha2, ha3⟩ := not_far (Or.inl ho) hf (Nat.le_trans (beh_le (Nat.le_of_lt hi) (fun j q => h j (by omega))) hlen)
  exact ⟨a, ha, ha1, ha2⟩
/-- a SKIP outside -/
theorem right_out {pr : List Wd} (h : Valid pr) (hlen : pr.length ≤ 64) {i : Nat} (hi : i < pr.length) (hb : beh pr i ≤ i) (ho : pO pr i = 14) : ∃ a : Nat, pA pr i = nI a ∧ 1 ≤ a ∧ i + a < pr.length ∧ beh pr (i + 1 + a) ≤ i + 1 + a := by
  have hf : ¬ far pr i pr.length := fun z => h i hi (Or.inr (Or.inr (Or.inr ⟨by omega, z⟩)))
  obtain ⟨a, ha, ha1, ha2, ha3⟩ := not_far (Or.inl ho) hf hlen
  have hin : ¬ into pr i := fun z => h i hi (Or.inr (Or.inl (Or.inr (Or.inr ⟨ho, by omega, hf, z⟩))))
  have e14 : (14 : Int32) ≠ 15 := by decide
  have key : ∀ m, m ≤ a → beh pr (i + 1 + m) ≤ i + 1 + a := by
    intro m
    induction m with
    | zero =>
      intro _
      show beh pr (i + 1) ≤ _
      rw [beh, if_neg (by rw [ho]; exact e14)]
      omega
    | succ m ih =>
      intro hm
      rw [show i + 1 + (m + 1) = (i + 1 + m) + 1 by omega, beh]
      split
      · next q =>
        have hl : i + 1 + m < pr.length := by omega
        have hn : ¬ ((i : Int) + 1 + (pA pr i).toInt - (i + 1 + m : Nat) ≤ (pA pr (i + 1 + m)).toInt) := fun z => hin ⟨i + 1 + m, by omega, by rw [ha3]; omega, q, z⟩
        rw [ha3] at hn
        have h2 : ¬ far pr (i + 1 + m) pr.length := fun z => h (i + 1 + m) hl (by
          by_cases w : i + 1 + m < beh pr (i + 1 + m)
          · exact Or.inr (Or.inl (Or.inl ⟨q, w⟩))
          · exact Or.inr (Or.inr (Or.inr ⟨w, z⟩)))
        obtain ⟨b, hb1, hb2, hb3, hb4⟩ := not_far (Or.inr q) h2 hlen
        rw [hb4] at hn
        rw [hb1, nI_clamp (by omega)]
        omega
      · exact ih (by omega)
  exact ⟨a, ha, ha1, ha2, key a (Nat.le_refl _)⟩
theorem right_port {pr : List Wd} (h : Valid pr) {i : Nat} (hi : i < pr.length) (hb : beh pr i ≤ i) : pO pr i ≠ 16 ∧ pO pr i ≠ 17 ∧ pO pr i ≠ 18 :=
  have k : ∀ q : pO pr i = 16 ∨ pO pr i = 17 ∨ pO pr i = 18, False := fun q => h i hi (Or.inr (Or.inl (Or.inr (Or.inl ⟨q, by omega⟩))))
  ⟨fun z => k (Or.inl z), fun z => k (Or.inr (Or.inl z)), fun z => k (Or.inr (Or.inr z))⟩
/-! what is sent goes by ports that are there -/
theorem runW_sent {pr : List Wd} {E : IE} {p hi : Nat} : ∀ (f i : Nat) (s : IS) (q : Nat), q ≠ p → (runW pr E p hi f i s).2 q = s.2 q
  | 0, _, _, _, _ => rfl
  | f + 1, i, s, q, hq => by
    unfold runW
    split
    · split
      · split
        · exact runW_sent f _ s q hq
        · exact runW_sent f _ s q hq
      · rw [runW_sent f _ _ q hq]
        unfold doW
        split
        · exact if_neg hq
        · rfl
    · rfl
theorem eachP_sent {pr : List Wd} {E : IE} {i : Nat} : ∀ (m p : Nat) (s : IS) (q : Nat), p + m ≤ q → (eachP pr E i m p s).2 q = s.2 q
  | 0, _, _, _, _ => rfl
  | m + 1, p, s, q, hq => by
    unfold eachP
    rw [eachP_sent m (p + 1) _ q (by omega), runW_sent _ _ _ q (by omega)]
theorem runP_sent {pr : List Wd} (hv : Valid pr) (hlen : pr.length ≤ 64) {E : IE} : ∀ (f i : Nat) (s : IS) (q : Nat), beh pr i ≤ i → E.2.2.1 ≤ q → (runP pr E f i s).2 q = s.2 q
  | 0, _, _, _, _, _ => rfl
  | f + 1, i, s, q, hb, hq => by
    unfold runP
    split
    · next hi =>
      split
      · next ho =>
        obtain ⟨a, ha, ha1, ha2, ha3, ha4⟩ := right_each hv hlen hi hb ho
        rw [ha, nI_clamp (by omega), runP_sent hv hlen f _ _ q (by omega) hq, eachP_sent _ _ _ q (by omega)]
      · next ho =>
        have hb1 : beh pr (i + 1) ≤ i + 1 := by rw [beh, if_neg ho]; omega
        split
        · next ho2 =>
          obtain ⟨a, ha, ha1, ha2, ha3⟩ := right_out hv hlen hi hb ho2
          split
          · rw [ha, nI_clamp (by omega)]; exact runP_sent hv hlen f _ s q ha3 hq
          · exact runP_sent hv hlen f _ s q hb1 hq
        · rw [runP_sent hv hlen f _ _ q hb1 hq]
          unfold doW
          rw [if_neg (show ¬ (wd pr i).1 = 18 from (right_port hv hi hb).2.2)]
    · rfl
theorem exec_sent {pr : List Wd} (hv : Valid pr) (hlen : pr.length ≤ 64) (E : IE) (r : Nat → Int32) {q : Nat} (hq : E.2.2.1 ≤ q) : (exec pr E r).2 q = none := runP_sent hv hlen 64 0 _ q (Nat.le_refl _) hq
/-! boxes by even and odd rounds -/
def bxN (a k : Nat) : Nat := k % 2 * 24 + a
theorem nI_par {k : Nat} (hk : k < 2 ^ 31) : nI k &&& 1 = nI (k % 2) := by
  apply un_inj
  rw [un_and, un_nI (by omega), un_nI (by omega), show un 1 = 1 from by decide, Nat.and_one_is_mod]
theorem bx_nI {a k : Nat} (hk : k < 2 ^ 31) : (nI k &&& 1) * 24 + nI a = nI (bxN a k) := by
  rw [nI_par hk, nL24, nI_mul, nI_add]; rfl
theorem bxN_lt {a k : Nat} (ha : a < 24) : bxN a k < 48 := by unfold bxN; omega
