/-! ===== clusters ===== -/
abbrev CS : Type := Nat × (Nat → Option Nat) × (Nat → Option Nat) × (Nat → Nat)
def frS (n : Nat) (cl : Nat → Option Nat) : NS := fun x => decide (x < n) && (cl x).isNone
def clT (lk : Lk) (n p a : Nat) (s : CS) : TS := growA lk n (frS n s.2.1) (p - 1) n 0 (gInit a)
def clStep (lk : Lk) (n p a : Nat) (s : CS) : CS := if (s.2.1 a).isSome then s else (s.1 + 1, fun x => if (clT lk n p a s).1 x then some s.1 else s.2.1 x, fun x => if (clT lk n p a s).1 x then (clT lk n p a s).2.2.1 x else s.2.2.1 x, fun x => if (clT lk n p a s).1 x then (clT lk n p a s).2.2.2 x else s.2.2.2 x)
def clRun (lk : Lk) (n p : Nat) : Nat → Nat → CS → CS
  | 0, _, s => s
  | m + 1, a, s => clRun lk n p m (a + 1) (clStep lk n p a s)
def clInit : CS := (0, fun _ => none, fun _ => none, fun _ => 0)
def clAll (lk : Lk) (n p : Nat) : CS := clRun lk n p n 0 clInit
def CI (lk : Lk) (n a : Nat) (s : CS) : Prop :=
  (∀ x, x < a → x < n → (s.2.1 x).isSome = true) ∧ (∀ x c, s.2.1 x = some c → x < n ∧ c < s.1) ∧ s.1 ≤ a ∧
  (∀ x c, s.2.1 x = some c → s.2.2.1 x = none ∨ ∃ y, s.2.2.1 x = some y ∧ s.2.1 y = some c ∧ x ∈ nbl lk y ∧ s.2.2.2 x = s.2.2.2 y + 1) ∧
  (∀ x y c, s.2.1 x = some c → s.2.1 y = some c → s.2.2.1 x = none → s.2.2.1 y = none → x = y)
theorem clT_GI {lk : Lk} {n : Nat} (hok : NetOk n lk) {p a : Nat} (ha : a < n) (s : CS) : ∃ d, GI lk n (frS n s.2.1) a d (clT lk n p a s) := growA_GI hok n 0 _ (GI.init _ ha)
theorem clT_free {lk : Lk} {n : Nat} (hok : NetOk n lk) {p a : Nat} (ha : a < n) {s : CS} (hf : s.2.1 a = none) {x : Nat} (hx : (clT lk n p a s).1 x = true) : x < n ∧ s.2.1 x = none := by
  obtain ⟨d, h⟩ := clT_GI (p := p) hok ha s
  obtain ⟨h1, h2⟩ := h.2.1 x hx
  refine ⟨h1, ?_⟩
  rcases h2 with z | z
  · rw [z]; exact hf
  · unfold frS at z
    simp at z
    exact z.2
theorem CI.step {lk : Lk} {n : Nat} (hok : NetOk n lk) {p a : Nat} (ha : a < n) {s : CS} (h : CI lk n a s) : CI lk n (a + 1) (clStep lk n p a s) := by
  obtain ⟨h1, h2, h3, h4, h5⟩ := h
  unfold clStep
  by_cases q : (s.2.1 a).isSome = true
  · rw [if_pos q]
    refine ⟨fun x hx hn => ?_, h2, by omega, h4, h5⟩
    rcases Nat.lt_or_ge x a with z | z
    · exact h1 x z hn
    · rw [show x = a by omega]; exact q
  · rw [if_neg q]
    have hf : s.2.1 a = none := by
      cases hc : s.2.1 a with
      | none => rfl
      | some c => rw [hc] at q; exact absurd rfl q
    obtain ⟨d, hG⟩ := clT_GI (p := p) hok ha s
    have fre := fun {x : Nat} (hx : (clT lk n p a s).1 x = true) => clT_free (p := p) hok ha hf hx
    obtain ⟨T, hT⟩ : ∃ T, T = clT lk n p a s := ⟨_, rfl⟩
    rw [← hT] at hG fre ⊢
    refine ⟨fun x hx hn => ?_, fun x c hc => ?_, by show s.1 + 1 ≤ a + 1; omega, fun x c hc => ?_, fun x y c hx hy px py => ?_⟩
    · show (if T.1 x = true then some s.1 else s.2.1 x).isSome = true
      split
      · rfl
      · next z =>
        rcases Nat.lt_or_ge x a with w | w
        · exact h1 x w hn
        · rw [show x = a by omega] at z; exact absurd hG.1 z
    · change (if T.1 x = true then some s.1 else s.2.1 x) = some c at hc
      show x < n ∧ c < s.1 + 1
      split at hc
      · next z => have := Option.some.inj hc; exact ⟨(fre z).1, by omega⟩
      · have := h2 x c hc; exact ⟨this.1, by omega⟩
    · change (if T.1 x = true then some s.1 else s.2.1 x) = some c at hc
      show (if T.1 x = true then T.2.2.1 x else s.2.2.1 x) = none ∨ ∃ y, (if T.1 x = true then T.2.2.1 x else s.2.2.1 x) = some y ∧ (if T.1 y = true then some s.1 else s.2.1 y) = some c ∧ x ∈ nbl lk y ∧ (if T.1 x = true then T.2.2.2 x else s.2.2.2 x) = (if T.1 y = true then T.2.2.2 y else s.2.2.2 y) + 1
      by_cases z : T.1 x = true
      · rw [if_pos z] at hc
        simp only [if_pos z]
        by_cases zr : x = a
        · rw [zr]; exact Or.inl hG.2.2.2.2.2.1
        · obtain ⟨y, e1, e2, e3, e4, -⟩ := hG.2.2.2.2.2.2.2 x z zr
          exact Or.inr ⟨y, e1, by rw [if_pos e2]; exact hc, e3, by rw [if_pos e2]; exact e4⟩
      · rw [if_neg z] at hc
        simp only [if_neg z]
        rcases h4 x c hc with w | ⟨y, e1, e2, e3, e4⟩
        · exact Or.inl w
        · have hy : ¬ T.1 y = true := fun u => by have := (fre u).2; rw [e2] at this; cases this
          exact Or.inr ⟨y, e1, by rw [if_neg hy]; exact e2, e3, by rw [if_neg hy]; exact e4⟩
    · change (if T.1 x = true then some s.1 else s.2.1 x) = some c at hx
      change (if T.1 y = true then some s.1 else s.2.1 y) = some c at hy
      change (if T.1 x = true then T.2.2.1 x else s.2.2.1 x) = none at px
      change (if T.1 y = true then T.2.2.1 y else s.2.2.1 y) = none at py
      have root : ∀ z, T.1 z = true → T.2.2.1 z = none → z = a := fun z w1 w2 => Classical.byContradiction fun w => by
        obtain ⟨y, e1, -⟩ := hG.2.2.2.2.2.2.2 z w1 w
        rw [w2] at e1; cases e1
      by_cases zx : T.1 x = true
      · rw [if_pos zx] at hx px
        have hcs := Option.some.inj hx
        by_cases zy : T.1 y = true
        · rw [if_pos zy] at py
          rw [root x zx px, root y zy py]
        · rw [if_neg zy] at hy
          have := (h2 y c hy).2
          omega
      · rw [if_neg zx] at hx px
        by_cases zy : T.1 y = true
        · rw [if_pos zy] at hy
          have := Option.some.inj hy
          have := (h2 x c hx).2
          omega
        · rw [if_neg zy] at hy py
          exact h5 x y c hx hy px py
theorem clRun_CI {lk : Lk} {n : Nat} (hok : NetOk n lk) {p : Nat} : ∀ (m a : Nat) (s : CS), a + m = n → CI lk n a s → CI lk n n (clRun lk n p m a s)
  | 0, a, s, h, hc => by
    have : a = n := by omega
    subst this
    exact hc
  | m + 1, a, s, h, hc => clRun_CI hok m (a + 1) _ (by omega) (hc.step hok (by omega))
theorem clAll_CI {lk : Lk} {n : Nat} (hok : NetOk n lk) (p : Nat) : CI lk n n (clAll lk n p) := clRun_CI hok n 0 clInit (by omega) (by
  refine ⟨fun x hx => absurd hx (by omega), fun x c hc => ?_, Nat.le_refl _, fun x c hc => ?_, fun x y c hc => ?_⟩
  · exact absurd hc (by simp [clInit])
  · exact absurd hc (by simp [clInit])
  · exact absurd hc (by simp [clInit]))
/-- a node's cluster -/
def clV (s : CS) (x : Nat) : Nat := (s.2.1 x).getD 0
theorem clV_some {lk : Lk} {n : Nat} {s : CS} (h : CI lk n n s) {x : Nat} (hx : x < n) : s.2.1 x = some (clV s x) ∧ clV s x < s.1 ∧ s.1 ≤ n := by
  obtain ⟨c, hc⟩ := Option.isSome_iff_exists.mp (h.1 x hx hx)
  unfold clV
  rw [hc]
  exact ⟨rfl, (h.2.1 x c hc).2, h.2.2.1⟩
/-! chosen links -/
def pairs (lk : Lk) (cl : Nat → Nat) (c d l : Nat) : Bool := match lk[l]? with
  | some e => !(c == d) && ((cl e.1 == c && cl e.2 == d) || (cl e.1 == d && cl e.2 == c))
  | none => false
def chF (lk : Lk) (cl : Nat → Nat) (c d m : Nat) : Option Nat := (List.range m).find? (pairs lk cl c d)
def chs (lk : Lk) (cl : Nat → Nat) (l : Nat) : Bool := match lk[l]? with
  | some e => chF lk cl (cl e.1) (cl e.2) lk.length == some l
  | none => false
theorem pairs_sym (lk : Lk) (cl : Nat → Nat) (c d l : Nat) : pairs lk cl c d l = pairs lk cl d c l := by
  unfold pairs
  cases lk[l]? with
  | none => rfl
  | some e =>
    simp only
    rw [Bool.or_comm]
    congr 2
    by_cases z : c = d
    · simp [z]
    · have : ¬ d = c := fun w => z w.symm
      rw [show (c == d) = false from by simpa using z, show (d == c) = false from by simpa using this]
theorem chF_sym (lk : Lk) (cl : Nat → Nat) (c d m : Nat) : chF lk cl c d m = chF lk cl d c m := by
  unfold chF
  congr 1
  funext l
  exact pairs_sym lk cl c d l
theorem chF_succ (lk : Lk) (cl : Nat → Nat) (c d m : Nat) : chF lk cl c d (m + 1) = (chF lk cl c d m).or (if pairs lk cl c d m then some m else none) := by
  unfold chF
  rw [List.range_succ, List.find?_append]
  congr 1
  simp [List.find?_cons]
  split <;> simp_all
theorem chF_up {lk : Lk} {cl : Nat → Nat} {c d m x : Nat} (h : chF lk cl c d m = some x) : ∀ k, chF lk cl c d (m + k) = some x
  | 0 => h
  | k + 1 => by rw [show m + (k + 1) = (m + k) + 1 by omega, chF_succ, chF_up h k]; rfl
/-- a link is chosen where no earlier one joins its clusters -/
theorem chs_iff {lk : Lk} {cl : Nat → Nat} {l : Nat} {e : Nat × Nat} (he : lk[l]? = some e) : chs lk cl l = true ↔ cl e.1 ≠ cl e.2 ∧ chF lk cl (cl e.1) (cl e.2) l = none := by
  have hl := (List.getElem?_eq_some_iff.mp he).1
  have hp : pairs lk cl (cl e.1) (cl e.2) l = true ↔ cl e.1 ≠ cl e.2 := by
    unfold pairs
    rw [he]
    simp
  unfold chs
  rw [he]
  simp only [beq_iff_eq]
  constructor
  · intro h
    have h1 := find_low h
    refine ⟨hp.mp h1.2.1, ?_⟩
    unfold chF
    rw [List.find?_eq_none]
    intro x hx
    have := h1.2.2 x (List.mem_range.mp hx)
    simp [this]
  · rintro ⟨h1, h2⟩
    have h3 : chF lk cl (cl e.1) (cl e.2) (l + 1) = some l := by rw [chF_succ, h2, if_pos (hp.mpr h1)]; rfl
    obtain ⟨k, hk⟩ : ∃ k, lk.length = l + 1 + k := ⟨lk.length - (l + 1), by omega⟩
    rw [hk]
    exact chF_up h3 k
/-- nodes over chosen links -/
def cN (lk : Lk) (cl : Nat → Nat) (m a : Nat) : NS := fun b => (List.range m).any (fun l => chs lk cl l && (lk[l]?).any (fun e => mt e a b))
theorem cN_succ (lk : Lk) (cl : Nat → Nat) (m a b : Nat) : cN lk cl (m + 1) a b = (cN lk cl m a b || (chs lk cl m && (lk[m]?).any (fun e => mt e a b))) := by
  unfold cN
  rw [List.range_succ, List.any_append]
  simp
/-- the class's clusters -/
def CR (s : CS) (mu : jM) : Prop := mu 37 0 = nI s.1 ∧ ∀ x c, x < 24 → s.2.1 x = some c → mu 42 x = nI c ∧ mu 39 x = parI (s.2.2.1 x) ∧ mu 40 x = nI (s.2.2.2 x) ∧ ∀ i, i < 32 → bt (mu 41 x) i = ((s.2.1 i).isSome && s.2.2.1 i == some x)
def CH (lk : Lk) (cl : Nat → Nat) (k : Nat) (mu : jM) : Prop := mu 37 1 = nI (cnt k (chs lk cl)) ∧ (∀ c d, c < 24 → d < 24 → mu 44 (c * 24 + d) = parI (chF lk cl c d k)) ∧ ∀ a b, a < 24 → b < 32 → bt (mu 43 a) b = cN lk cl k a b
section C50
variable {l : Launch} {G : jG} {mu : jM}
theorem c_number (hl : l.stackTraces = false) (hG : jGok G) {n C : Nat} (hn : n ≤ 24) {S : NS} {m : Int32} (hS : Mk S m) (h0 : mu 37 0 = nI C) : jCv l G yX0_number cX0_number 4 1 [.ref 37, .int m, .int (nI n)] mu (fun mu' => mu' 37 0 = nI (C + 1) ∧ (∀ x, x < 24 → mu' 42 x = if x < n ∧ S x = true then nI C else mu 42 x) ∧ Same [37, 42] mu mu' ∧ mu' 37 1 = mu 37 1) := by
  refine jCv.of (pad := 1) hl hG (by decide) (Nat.le_of_ble_eq_true rfl) (fun X h => ?_)
  show J l G X _ 4 0 [.ref 37, .int m, .int (nI n), .float 0] [] mu 0
  refine rX0_number_0 h ?_
  have loop : ∀ (w a : Nat) (m1 : jM), a + w = n → m1 37 = mu 37 → (∀ x, x < 24 → m1 42 x = if x < a ∧ S x = true then nI C else mu 42 x) → Same [42] mu m1 → J l G X (jRv G X (fun mu' => mu' 37 0 = nI (C + 1) ∧ (∀ x, x < 24 → mu' 42 x = if x < n ∧ S x = true then nI C else mu 42 x) ∧ Same [37, 42] mu mu' ∧ mu' 37 1 = mu 37 1)) 4 2 [.ref 37, .int m, .int (nI n), .int (nI a)] [] m1 0 := by
    intro w
    induction w with
    | zero =>
      intro a m1 ha h7 hx hs
      have han : a = n := by omega
      subst han
      have hle : nI a ≤ nI a := Int32.le_refl _
      refine rX0_number_2 h (fun z => absurd hle z) (fun _ => ?_) (fun z => absurd hle z) (fun z => absurd hle z)
      refine J_vret h dX0_number_41 ⟨?_, hx, (hs.wide (by decide)).trans' (Same.wr (by decide)), ?_⟩
      · show m1 37 0 + 1 = _
        rw [h7, h0, nI_1]
      · show m1 37 1 = _
        rw [h7]
    | succ w ih =>
      intro a m1 ha h7 hx hs
      have hle : ¬ nI n ≤ nI a := nI_ge (by omega) (by omega)
      refine rX0_number_2 h (fun _ _ => vp_in_nI (by omega) (by omega)) (fun z => absurd z hle) (fun _ q => ?_) (fun _ q => ?_)
      · rw [bt_test _ (by omega), hS a (by omega)] at q
        refine rX0_number_25 h ?_
        rw [nI_1]
        refine ih (a + 1) m1 (by omega) h7 (fun x hx2 => ?_) hs
        rw [hx x hx2]
        by_cases z : x = a
        · subst z; rw [q]; simp
        · simp only [show x < a + 1 ↔ x < a from by omega]
      · rw [bt_test1 _ (by omega), hS a (by omega)] at q
        refine rX0_number_25 h ?_
        rw [nI_1, nI_clamp (by omega), h7, h0]
        refine ih (a + 1) _ (by omega) h7 (fun x hx2 => ?_) (hs.trans' (Same.wr (by decide)))
        show (if x = a then nI C else m1 42 x) = _
        by_cases z : x = a
        · rw [if_pos z, if_pos ⟨by omega, by rw [z]; exact q⟩]
        · rw [if_neg z, hx x hx2]
          simp only [show x < a + 1 ↔ x < a from by omega]
  exact loop n 0 mu (by omega) rfl (fun x _ => by rw [if_neg (by omega)]) Same.rfl'
theorem c_choose (hl : l.stackTraces = false) (hG : jGok G) {n : Nat} {lk : Lk} (hok : NetOk n lk) (hN : NetC n lk mu) {cl : Nat → Nat} (hcl : ∀ x, x < n → mu 42 x = nI (cl x) ∧ cl x < 24) : jCv l G yX0_choose cX0_choose 6 2 [.ref 37, .ref 6] mu (fun mu' => CH lk cl lk.length mu' ∧ Same [37, 43, 44] mu mu' ∧ mu' 37 0 = mu 37 0) := by
  refine jCv.of (pad := 4) hl hG (by decide) (Nat.le_of_ble_eq_true rfl) (fun X h => ?_)
  show J l G X _ 6 0 [.ref 37, .ref 6, .float 0, .float 0, .float 0, .float 0] [] mu 0
  have hn := hok.1
  have h60 := hok.2.1
  refine rX0_choose_0 h ?_
  refine rX0_choose_10 h (c_fill hl hG (-1) (a := 44) rfl (by decide)) (by decide) (Nat.zero_le _) (fun m1 e1 => ?_)
  refine rX0_choose_13 h ?_
  refine rX0_choose_18 h (c_fill hl hG 0 (a := 43) rfl (by decide)) (by decide) (Nat.zero_le _) (fun m2 e2 => ?_)
  refine rX0_choose_21 h ?_
  have loop : ∀ (w k : Nat) (m3 : jM), k + w = lk.length → CH lk cl k m3 → Same [37, 43, 44] mu m3 → m3 37 0 = mu 37 0 → J l G X (jRv G X (fun mu' => CH lk cl lk.length mu' ∧ Same [37, 43, 44] mu mu' ∧ mu' 37 0 = mu 37 0)) 6 23 [.ref 37, .ref 6, .int (nI k), .float 0, .float 0, .float 0] [] m3 0 := by
    intro w
    induction w with
    | zero =>
      intro k m3 hk hC hs h0
      have hkl : k = lk.length := by omega
      subst hkl
      have hle : m3 6 1 ≤ nI lk.length := by rw [hs 6 (by decide), hN.2.1]; exact Int32.le_refl _
      refine rX0_choose_23 h (fun z => absurd hle z) (fun z => absurd hle z) (fun z => absurd hle z) (fun z => absurd hle z) (fun z => absurd hle z) (fun z => absurd hle z) (fun z => absurd hle z) (fun z => absurd hle z) (fun z => absurd hle z) (fun z => absurd hle z) (fun z => absurd hle z) (fun z => absurd hle z) (fun z => absurd hle z) (fun z => absurd hle z) (fun z => absurd hle z) (fun _ => ?_) (fun z => absurd hle z) (fun z => absurd hle z) (fun z => absurd hle z)
      exact J_vret h dX0_choose_164 ⟨hC, hs, h0⟩
    | succ w ih =>
      intro k m3 hk hC hs h0
      have hkl : k < lk.length := by omega
      have hle : ¬ m3 6 1 ≤ nI k := by rw [hs 6 (by decide), hN.2.1]; exact nI_ge hkl (by omega)
      obtain ⟨e, he⟩ : ∃ e, lk[k]? = some e := ⟨lk[k], List.getElem?_eq_getElem hkl⟩
      have hend := hok.2.2.1 e (List.mem_of_getElem? he)
      have r7 : m3 7 (nI k).toNatClampNeg = nI e.1 := by rw [nI_clamp (by omega), hs 7 (by decide)]; exact (hN.2.2.1 k e he).1
      have r8 : m3 8 (nI k).toNatClampNeg = nI e.2 := by rw [nI_clamp (by omega), hs 8 (by decide)]; exact (hN.2.2.1 k e he).2
      obtain ⟨ca1, ca2⟩ := hcl e.1 hend.1
      obtain ⟨cb1, cb2⟩ := hcl e.2 hend.2.1
      have rA : m3 42 (m3 7 (nI k).toNatClampNeg).toNatClampNeg = nI (cl e.1) := by rw [r7, nI_clamp (by omega), hs 42 (by decide)]; exact ca1
      have rB : m3 42 (m3 8 (nI k).toNatClampNeg).toNatClampNeg = nI (cl e.2) := by rw [r8, nI_clamp (by omega), hs 42 (by decide)]; exact cb1
      have vk : vp_in (nI k) 60 := vp_in_nI (by omega) (by omega)
      have vA : vp_in (m3 7 (nI k).toNatClampNeg) 24 := by rw [r7]; exact vp_in_nI (by omega) (by omega)
      have vB : vp_in (m3 8 (nI k).toNatClampNeg) 24 := by rw [r8]; exact vp_in_nI (by omega) (by omega)
      have iAB : nI (cl e.1) * 24 + nI (cl e.2) = nI (cl e.1 * 24 + cl e.2) := by rw [nL24, nI_mul, nI_add]
      have iBA : nI (cl e.2) * 24 + nI (cl e.1) = nI (cl e.2 * 24 + cl e.1) := by rw [nL24, nI_mul, nI_add]
      have kAB : (nI (cl e.1 * 24 + cl e.2)).toNatClampNeg = cl e.1 * 24 + cl e.2 := nI_clamp (by omega)
      have kBA : (nI (cl e.2 * 24 + cl e.1)).toNatClampNeg = cl e.2 * 24 + cl e.1 := nI_clamp (by omega)
      have vAB : vp_in (m3 42 (m3 7 (nI k).toNatClampNeg).toNatClampNeg * 24 + m3 42 (m3 8 (nI k).toNatClampNeg).toNatClampNeg) 576 := by rw [rA, rB, iAB]; exact vp_in_nI (by omega) (by omega)
      have vBA : vp_in (m3 42 (m3 8 (nI k).toNatClampNeg).toNatClampNeg * 24 + m3 42 (m3 7 (nI k).toNatClampNeg).toNatClampNeg) 576 := by rw [rA, rB, iBA]; exact vp_in_nI (by omega) (by omega)
      have eqc : (nI (cl e.1) = nI (cl e.2)) ↔ cl e.1 = cl e.2 := nI_eq (by omega) (by omega)
      have rCL : m3 44 (m3 42 (m3 7 (nI k).toNatClampNeg).toNatClampNeg * 24 + m3 42 (m3 8 (nI k).toNatClampNeg).toNatClampNeg).toNatClampNeg = parI (chF lk cl (cl e.1) (cl e.2) k) := by rw [rA, rB, iAB, kAB]; exact hC.2.1 _ _ ca2 cb2
      have hpar : 0 ≤ parI (chF lk cl (cl e.1) (cl e.2) k) ↔ chF lk cl (cl e.1) (cl e.2) k ≠ none := by
        cases hq : chF lk cl (cl e.1) (cl e.2) k with
        | none => simp only [parI]; exact ⟨fun z => absurd z (by decide), fun z => absurd rfl z⟩
        | some x =>
          have hxk : x < k := (find_low hq).1
          simp only [parI]
          exact ⟨fun _ z => (by cases z), fun _ => nI_le (a := 0) (b := x) (by omega) (by omega)⟩
      have keep : ¬ chs lk cl k = true → CH lk cl (k + 1) m3 := fun q => by
        have hqf : chs lk cl k = false := by simpa using q
        refine ⟨?_, fun c d hc hd => ?_, fun a b ha hb => ?_⟩
        · rw [hC.1]; show nI (fb_ct _ k) = nI (fb_ct _ (k + 1)); rw [fb_ct_succ, hqf]; rfl
        · rw [hC.2.1 c d hc hd, chF_succ]
          cases hq : chF lk cl c d k with
          | some x => rfl
          | none =>
            have : pairs lk cl c d k = false := by
              rcases Bool.eq_false_or_eq_true (pairs lk cl c d k) with z | z
              · exfalso
                apply q
                rw [chs_iff he]
                have z' := z
                unfold pairs at z'
                rw [he] at z'
                simp at z'
                obtain ⟨z1, z2⟩ := z'
                rcases z2 with ⟨u1, u2⟩ | ⟨u1, u2⟩
                · rw [u1, u2]; exact ⟨z1, hq⟩
                · rw [u1, u2, chF_sym]; exact ⟨fun w => z1 w.symm, hq⟩
              · exact z
            rw [this]; rfl
        · rw [hC.2.2 a b ha hb, cN_succ, hqf]; simp
      have go : ∀ (x3 x4 x5 : Int32) (m4 : jM), CH lk cl (k + 1) m4 → Same [37, 43, 44] mu m4 → m4 37 0 = mu 37 0 → J l G X (jRv G X (fun mu' => CH lk cl lk.length mu' ∧ Same [37, 43, 44] mu mu' ∧ mu' 37 0 = mu 37 0)) 6 158 [.ref 37, .ref 6, .int (nI k), .int x3, .int x4, .int x5] [] m4 0 := fun x3 x4 x5 m4 g1 g2 g3 => by
        refine rX0_choose_158 h ?_
        rw [nI_1]
        exact J_forget 3 (J_forget 4 (J_forget 5 (ih (k + 1) m4 (by omega) g1 g2 g3)))
      refine rX0_choose_23 h (fun _ => vk) (fun _ => vk) (fun _ => vA) (fun _ => vB) (fun _ => vA) (fun _ => vB) (fun _ _ => vAB) (fun _ _ _ => vAB) (fun _ _ _ => vB) (fun _ _ _ => vA) (fun _ _ _ => vBA) (fun _ _ _ => vA) (fun _ _ _ => vA) (fun _ _ _ => vB) (fun _ _ _ => vB) (fun z => absurd z hle) (fun _ q => ?_) (fun _ q q2 => ?_) (fun _ q q2 => ?_)
      · rw [rA, rB, eqc] at q
        exact go _ _ _ m3 (keep (fun z => ((chs_iff he).mp z).1 q)) hs h0
      · rw [rCL, hpar] at q2
        exact go _ _ _ m3 (keep (fun z => q2 ((chs_iff he).mp z).2)) hs h0
      · rw [rA, rB, eqc] at q
        rw [rCL, hpar] at q2
        have q2 : chF lk cl (cl e.1) (cl e.2) k = none := Classical.byContradiction q2
        have hch : chs lk cl k = true := (chs_iff he).mpr ⟨q, q2⟩
        rw [rA, rB, r7, r8, iAB, iBA, kAB, kBA, nI_clamp (n := e.1) (by omega), nI_clamp (n := e.2) (by omega)]
        refine go _ _ _ _ ⟨?_, fun c d hc hd => ?_, fun a b ha hb => ?_⟩ (hs.trans' (((((Same.wr (by decide)).trans' (Same.wr (by decide))).trans' (Same.wr (by decide))).trans' (Same.wr (by decide))).trans' (Same.wr (by decide)))) h0
        · show m3 37 1 + 1 = _
          rw [hC.1, nI_1]; show _ = nI (fb_ct _ (k + 1)); rw [fb_ct_succ, hch]; rfl
        · show (if c * 24 + d = cl e.2 * 24 + cl e.1 then nI k else if c * 24 + d = cl e.1 * 24 + cl e.2 then nI k else m3 44 (c * 24 + d)) = _
          rw [chF_succ]
          have hpk : pairs lk cl c d k = true ↔ c ≠ d ∧ ((cl e.1 = c ∧ cl e.2 = d) ∨ (cl e.1 = d ∧ cl e.2 = c)) := by
            unfold pairs
            rw [he]
            simp
          by_cases z1 : c * 24 + d = cl e.2 * 24 + cl e.1
          · have hc1 : c = cl e.2 := by omega
            have hd1 : d = cl e.1 := by omega
            rw [if_pos z1, if_pos (hpk.mpr ⟨by rw [hc1, hd1]; exact fun w => q w.symm, Or.inr ⟨hd1.symm, hc1.symm⟩⟩), hc1, hd1, chF_sym, q2]; rfl
          · rw [if_neg z1]
            by_cases z2 : c * 24 + d = cl e.1 * 24 + cl e.2
            · have hc1 : c = cl e.1 := by omega
              have hd1 : d = cl e.2 := by omega
              rw [if_pos z2, if_pos (hpk.mpr ⟨by rw [hc1, hd1]; exact q, Or.inl ⟨hc1.symm, hd1.symm⟩⟩), hc1, hd1, q2]; rfl
            · rw [if_neg z2, if_neg (fun z => by
                rcases (hpk.mp z).2 with ⟨u1, u2⟩ | ⟨u1, u2⟩
                · exact z2 (by rw [u1, u2])
                · exact z1 (by rw [u1, u2])), hC.2.1 c d hc hd]
              cases chF lk cl c d k <;> rfl
        · have hne := hend.2.2
          have em : (wr (wr (wr (wr (wr m3 44 (cl e.1 * 24 + cl e.2) (nI k)) 44 (cl e.2 * 24 + cl e.1) (nI k)) 43 e.1 (m3 43 e.1 ||| (1 <<< (nI e.2 &&& 31)))) 43 e.2 (wr (wr (wr m3 44 (cl e.1 * 24 + cl e.2) (nI k)) 44 (cl e.2 * 24 + cl e.1) (nI k)) 43 e.1 (m3 43 e.1 ||| (1 <<< (nI e.2 &&& 31))) 43 e.2 ||| (1 <<< (nI e.1 &&& 31)))) 37 1 (m3 37 1 + 1)) 43 a = if a = e.2 then ((if e.2 = e.1 then (m3 43 e.1 ||| (1 <<< (nI e.2 &&& 31))) else m3 43 e.2) ||| (1 <<< (nI e.1 &&& 31))) else if a = e.1 then (m3 43 e.1 ||| (1 <<< (nI e.2 &&& 31))) else m3 43 a := rfl
          refine Eq.trans (congrArg (fun z => bt z b) em) ?_
          rw [cN_succ, hch, he, if_neg (fun z : e.2 = e.1 => hne z.symm)]
          simp only [Bool.true_and, Option.any_some]
          unfold mt
          by_cases z2 : a = e.2
          · rw [if_pos z2, bt_set _ (by omega) hb, ← z2, hC.2.2 a b ha hb]
            by_cases w : b = e.1
            · simp [w]
            · have w' : ¬ e.1 = b := fun u => w u.symm
              have w2 : ¬ e.1 = a := fun u => hne (u.trans z2)
              simp [w, w', w2]
          · rw [if_neg z2]
            by_cases z1 : a = e.1
            · rw [if_pos z1, bt_set _ (by omega) hb, ← z1, hC.2.2 a b ha hb]
              by_cases w : b = e.2
              · simp [w]
              · have w' : ¬ e.2 = b := fun u => w u.symm
                have w2 : ¬ e.2 = a := fun u => z2 u.symm
                simp [w, w', w2]
            · rw [if_neg z1, hC.2.2 a b ha hb]
              have w1 : ¬ e.1 = a := fun u => z1 u.symm
              have w2 : ¬ e.2 = a := fun u => z2 u.symm
              simp [w1, w2]
  refine loop lk.length 0 m2 (by omega) ⟨?_, fun c d hc hd => ?_, fun a b ha hb => ?_⟩ ?_ ?_
  · rw [e2, e1]; rfl
  · rw [e2, e1, put_ne _ _ (by decide), put_at]
    show fillTo _ (-1) 576 (c * 24 + d) = _
    unfold fillTo
    rw [if_pos (by omega)]; rfl
  · rw [e2, put_at]
    unfold fillTo
    rw [if_pos (by omega), b_0]; rfl
  · rw [e2, e1]
    exact ((Same.wr (by decide)).trans' (Same.put (by decide))).trans' (Same.put (by decide))
  · rw [e2, e1]; rfl
theorem c_make (hl : l.stackTraces = false) (hG : jGok G) {n : Nat} {lk : Lk} (hok : NetOk n lk) (hN : NetC n lk mu) {p : Nat} (hp1 : 2 ≤ p) (hp2 : p ≤ 8) : jCv l G yX0_make cX0_make 6 4 [.ref 37, .ref 6, .int (nI p)] mu (fun mu' => CR (clAll lk n p) mu' ∧ CH lk (clV (clAll lk n p)) lk.length mu' ∧ Same [37, 39, 40, 41, 42, 43, 44] mu mu') := by
  refine jCv.of (pad := 3) hl hG (by decide) (Nat.le_of_ble_eq_true rfl) (fun X h => ?_)
  show J l G X _ 6 0 [.ref 37, .ref 6, .int (nI p), .float 0, .float 0, .float 0] [] mu 0
  have hn := hok.1
  refine rX0_make_0 h ?_
  refine rX0_make_6 h (c_allNodes hl hG hn hN.1) (by decide) (Nat.zero_le _) (fun v m1 e1 => ?_)
  obtain ⟨e1, rfl⟩ := e1
  refine rX0_make_9 h ?_
  have loop : ∀ (w a : Nat) (s : CS) (fr : Int32) (m2 : jM), a + w = n → CI lk n a s → CR s m2 → Mk (frS n s.2.1) fr → Same [37, 39, 40, 41, 42, 43, 44] mu m2 → clRun lk n p w a s = clAll lk n p → J l G X (jRv G X (fun mu' => CR (clAll lk n p) mu' ∧ CH lk (clV (clAll lk n p)) lk.length mu' ∧ Same [37, 39, 40, 41, 42, 43, 44] mu mu')) 6 13 [.ref 37, .ref 6, .int (nI p), .int fr, .int (nI a), .float 0] [] m2 0 := by
    intro w
    induction w with
    | zero =>
      intro a s fr m2 ha hI hR hF hs he
      have han : a = n := by omega
      subst han
      have he : s = clAll lk a p := he
      have hle : m2 6 0 ≤ nI a := by rw [hs 6 (by decide), hN.1]; exact Int32.le_refl _
      refine rX0_make_13 h (fun _ => ?_) (fun z => absurd hle z) (fun z => absurd hle z)
      refine rX0_make_72 h (c_choose hl hG hok (hN.same hs (by decide)) (cl := clV s) (fun x hx => ?_)) (by decide) (Nat.zero_le _) (fun m3 e3 => ?_)
      · obtain ⟨c1, c2, c3⟩ := clV_some hI hx
        exact ⟨(hR.2 x _ (by omega) c1).1, by omega⟩
      · obtain ⟨g1, g2, g3⟩ := e3
        refine J_vret h dX0_make_75 ⟨?_, by rw [← he]; exact g1, hs.trans' (g2.wide (by decide))⟩
        rw [← he]
        refine ⟨by rw [g3]; exact hR.1, fun x c hx hc => ?_⟩
        rw [g2 42 (by decide), g2 39 (by decide), g2 40 (by decide), g2 41 (by decide)]
        exact hR.2 x c hx hc
    | succ w ih =>
      intro a s fr m2 ha hI hR hF hs he
      have hle : ¬ m2 6 0 ≤ nI a := by rw [hs 6 (by decide), hN.1]; exact nI_ge (by omega) (by omega)
      have han : a < n := by omega
      have hI2 := hI.step (p := p) hok han
      rw [show clRun lk n p (w + 1) a s = clRun lk n p w (a + 1) (clStep lk n p a s) from rfl] at he
      refine rX0_make_13 h (fun z => absurd z hle) (fun _ q => ?_) (fun _ q => ?_)
      · rw [bt_test _ (by omega), hF a (by omega)] at q
        have hs1 : (s.2.1 a).isSome = true := by
          unfold frS at q
          simp [han] at q
          exact q
        have hst : clStep lk n p a s = s := if_pos hs1
        rw [hst] at he hI2
        refine rX0_make_64 h ?_
        rw [nI_1]
        exact ih (a + 1) s fr m2 (by omega) hI2 hR hF hs he
      · rw [bt_test1 _ (by omega), hF a (by omega)] at q
        have hs1 : s.2.1 a = none := by
          unfold frS at q
          simp [han] at q
          exact q
        rw [show nI p - 1 = nI (p - 1) from by rw [nL1, nI_sub (by omega)]]
        refine rX0_make_42 h (c_growC hl hG hok (hN.same hs (by decide)) hF han (t := p - 1) (by omega)) (by decide) (Nat.zero_le _) (fun v m3 e3 => ?_)
        obtain ⟨g1, g2, g3⟩ := e3
        obtain ⟨T, hT⟩ : ∃ T, T = clT lk n p a s := ⟨_, rfl⟩
        have g1 : Mk T.1 v := by rw [hT]; exact g1
        have g2 : TR 39 40 41 T.1 T.2.2.1 T.2.2.2 m2 m3 := by rw [hT]; exact g2
        have fre : ∀ {x : Nat}, T.1 x = true → x < n ∧ s.2.1 x = none := fun {x} hx => clT_free (p := p) hok han hs1 (by rw [← hT]; exact hx)
        obtain ⟨d, hG2⟩ := clT_GI (p := p) hok han s
        rw [← hT] at hG2
        refine rX0_make_45 h ?_
        rw [g3 6 (by decide), hs 6 (by decide), hN.1]
        refine rX0_make_54 h (c_number hl hG hn g1 (C := s.1) (by rw [g3 37 (by decide)]; exact hR.1)) (by decide) (Nat.zero_le _) (fun m4 e4 => ?_)
        obtain ⟨k1, k2, k3, k4⟩ := e4
        refine rX0_make_57 h ?_
        refine rX0_make_64b h ?_
        rw [nI_1]
        have hst : clStep lk n p a s = (s.1 + 1, fun x => if T.1 x then some s.1 else s.2.1 x, fun x => if T.1 x then T.2.2.1 x else s.2.2.1 x, fun x => if T.1 x then T.2.2.2 x else s.2.2.2 x) := by
          unfold clStep
          rw [if_neg (by rw [hs1]; decide), hT]
        refine J_forget 5 (ih (a + 1) (clStep lk n p a s) _ m4 (by omega) hI2 ?_ (fun i hi => ?_) ((hs.trans' (g3.wide (by decide))).trans' (k3.wide (by decide))) he)
        · rw [hst]
          refine ⟨k1, fun x c hx hc => ?_⟩
          change (if T.1 x = true then some s.1 else s.2.1 x) = some c at hc
          show m4 42 x = nI c ∧ m4 39 x = parI (if T.1 x = true then T.2.2.1 x else s.2.2.1 x) ∧ m4 40 x = nI (if T.1 x = true then T.2.2.2 x else s.2.2.2 x) ∧ ∀ i, i < 32 → bt (m4 41 x) i = ((if T.1 i = true then some s.1 else s.2.1 i).isSome && (if T.1 i = true then T.2.2.1 i else s.2.2.1 i) == some x)
          rw [k2 x hx, k3 39 (by decide), k3 40 (by decide), k3 41 (by decide)]
          obtain ⟨t1, t2⟩ := g2 x hx
          by_cases z : T.1 x = true
          · rw [if_pos z] at hc
            obtain ⟨u1, u2, u3⟩ := t1 z
            rw [if_pos ⟨(fre z).1, z⟩, if_pos z, if_pos z, Option.some.inj hc]
            refine ⟨rfl, u1, u2, fun i hi => ?_⟩
            rw [u3 i hi]
            by_cases zi : T.1 i = true
            · rw [if_pos zi, if_pos zi, zi]; rfl
            · rw [if_neg zi, if_neg zi]
              have zf : T.1 i = false := by simpa using zi
              rw [zf, Bool.false_and]
              cases hci : s.2.1 i with
              | none => rfl
              | some c' =>
                rcases hI.2.2.2.1 i c' hci with w | ⟨y, w1, w2, -⟩
                · rw [w]; rfl
                · rw [w1]
                  have : y ≠ x := fun u => by have := (fre z).2; rw [← u, w2] at this; cases this
                  simp [this]
          · rw [if_neg z] at hc
            have zf : T.1 x = false := by simpa using z
            obtain ⟨u1, u2, u3⟩ := t2 zf
            obtain ⟨o1, o2, o3, o4⟩ := hR.2 x c hx hc
            rw [if_neg (fun w => z w.2), if_neg z, if_neg z, g3 42 (by decide), u1, u2, u3]
            refine ⟨o1, o2, o3, fun i hi => ?_⟩
            rw [o4 i hi]
            by_cases zi : T.1 i = true
            · rw [if_pos zi, if_pos zi, (fre zi).2]
              by_cases zr : i = a
              · rw [zr, hG2.2.2.2.2.2.1]; rfl
              · obtain ⟨y, w1, w2, -⟩ := hG2.2.2.2.2.2.2.2 i zi zr
                rw [w1]
                have : y ≠ x := fun u => z (by rw [← u]; exact w2)
                simp [this]
            · rw [if_neg zi, if_neg zi]
        · rw [b_and, bt_not _ hi, hF i hi, g1 i hi, hst]
          unfold frS
          show _ = (decide (i < n) && (if T.1 i = true then some s.1 else s.2.1 i).isNone)
          by_cases zi : T.1 i = true
          · rw [if_pos zi, zi]; simp
          · have zf : T.1 i = false := by simpa using zi
            rw [if_neg zi, zf]; simp
  refine loop n 0 clInit v _ (by omega) ?_ ⟨rfl, fun x c _ hc => absurd hc (by simp [clInit])⟩ (fun i hi => ?_) (Same.wr (by decide)) rfl
  · refine ⟨fun x hx => absurd hx (by omega), fun x c hc => ?_, Nat.le_refl _, fun x c hc => ?_, fun x y c hc => ?_⟩
    · exact absurd hc (by simp [clInit])
    · exact absurd hc (by simp [clInit])
    · exact absurd hc (by simp [clInit])
  · rw [e1 i hi]
    unfold frS allN clInit
    simp
end C50
