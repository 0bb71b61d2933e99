/-! ===== trees that grow by layers ===== -/
abbrev NS : Type := Nat → Bool
def nxs (lk : Lk) (n : Nat) (B : NS) : NS := fun x => !B x && (List.range n).any (fun y => B y && decide (x ∈ nbl lk y))
def lyr (lk : Lk) (n : Nat) (free B : NS) : NS := fun x => nxs lk n B x && free x
def cnt (n : Nat) (S : NS) : Nat := fb_ct S n
/-- ball, outermost layer, parents, depths -/
abbrev TS : Type := NS × NS × (Nat → Option Nat) × (Nat → Nat)
def gStep (lk : Lk) (n : Nat) (free : NS) (d : Nat) (s : TS) : TS := (fun x => s.1 x || lyr lk n free s.1 x, lyr lk n free s.1, fun x => if lyr lk n free s.1 x then (List.range n).find? (fun y => decide (y ∈ nbl lk x) && s.2.1 y) else s.2.2.1 x, fun x => if lyr lk n free s.1 x then d + 1 else s.2.2.2 x)
def gInit (root : Nat) : TS := (fun x => x == root, fun x => x == root, fun _ => none, fun _ => 0)
def stops (lk : Lk) (n : Nat) (free : NS) (t : Nat) (s : TS) : Bool := cnt n (lyr lk n free s.1) == 0 || decide (cnt n (lyr lk n free s.1) < t * cnt n s.1)
def growA (lk : Lk) (n : Nat) (free : NS) (t : Nat) : Nat → Nat → TS → TS
  | 0, _, s => s
  | f + 1, d, s => if stops lk n free t s then s else growA lk n free t f (d + 1) (gStep lk n free d s)
theorem nxs_iff {lk : Lk} {n : Nat} {B : NS} {x : Nat} : nxs lk n B x = true ↔ B x = false ∧ ∃ y, y < n ∧ B y = true ∧ x ∈ nbl lk y := by
  unfold nxs
  simp only [Bool.and_eq_true, Bool.not_eq_true', List.any_eq_true, List.mem_range, decide_eq_true_eq]
theorem lyr_iff {lk : Lk} {n : Nat} {free B : NS} {x : Nat} : lyr lk n free B x = true ↔ B x = false ∧ free x = true ∧ ∃ y, y < n ∧ B y = true ∧ x ∈ nbl lk y := by
  unfold lyr
  rw [Bool.and_eq_true, nxs_iff]
  grind
/-- what holds of a tree that grows -/
def GI (lk : Lk) (n : Nat) (free : NS) (root d : Nat) (s : TS) : Prop :=
  s.1 root = true ∧ (∀ x, s.1 x = true → x < n ∧ (x = root ∨ free x = true)) ∧ (∀ x, s.2.1 x = true ↔ s.1 x = true ∧ s.2.2.2 x = d) ∧ (∀ x, s.1 x = true → s.2.2.2 x ≤ d) ∧
  (∀ x y, s.1 y = true → s.2.2.2 y < d → x ∈ nbl lk y → free x = true → s.1 x = true) ∧ s.2.2.1 root = none ∧ s.2.2.2 root = 0 ∧
  (∀ x, s.1 x = true → x ≠ root → ∃ y, s.2.2.1 x = some y ∧ s.1 y = true ∧ x ∈ nbl lk y ∧ s.2.2.2 x = s.2.2.2 y + 1 ∧ ∀ z, z < y → s.1 z = true → s.2.2.2 z = s.2.2.2 y → x ∉ nbl lk z)
theorem GI.init {lk : Lk} {n : Nat} (free : NS) {root : Nat} (h : root < n) : GI lk n free root 0 (gInit root) := by
  unfold GI gInit
  simp only [beq_iff_eq]
  grind
theorem nbl_sym {n : Nat} {lk : Lk} (hok : NetOk n lk) {x y : Nat} : x ∈ nbl lk y ↔ y ∈ nbl lk x := ⟨fun h => nbl_symm h (fun e he => (hok.2.2.1 e he).2.2), fun h => nbl_symm h (fun e he => (hok.2.2.1 e he).2.2)⟩
theorem find_low {n : Nat} {p : Nat → Bool} {y : Nat} (h : (List.range n).find? p = some y) : y < n ∧ p y = true ∧ ∀ z, z < y → p z = false := by
  obtain ⟨h1, as, bs, h2, h3⟩ := List.find?_eq_some_iff_append.mp h
  have hy : y ∈ List.range n := by rw [h2]; simp
  have hlen : as.length = y := by
    have g1 : (List.range n)[as.length]? = some y := by rw [h2]; simp
    have hl : as.length < n := by
      have := (List.getElem?_eq_some_iff.mp g1).1
      rwa [List.length_range] at this
    rw [List.getElem?_range hl] at g1
    exact Option.some.inj g1
  refine ⟨List.mem_range.mp hy, h1, fun z hz => ?_⟩
  have hza : z ∈ as := by
    have g1 : (List.range n)[z]? = some z := List.getElem?_range (by have := List.mem_range.mp hy; omega)
    rw [h2, List.getElem?_append_left (by omega)] at g1
    exact List.mem_of_getElem? g1
  have := h3 z hza
  simpa using this
theorem find_ex {n : Nat} {p : Nat → Bool} (h : ∃ y, y < n ∧ p y = true) : ∃ y, (List.range n).find? p = some y := by
  obtain ⟨y, hy, hp⟩ := h
  have : ((List.range n).find? p).isSome = true := by
    rw [List.find?_isSome]
    exact ⟨y, List.mem_range.mpr hy, hp⟩
  exact Option.isSome_iff_exists.mp this
/-- a layer lies next to the outermost nodes -/
theorem GI.next {lk : Lk} {n : Nat} {free : NS} {root d : Nat} {s : TS} (h : GI lk n free root d s) {x : Nat} : lyr lk n free s.1 x = true ↔ s.1 x = false ∧ free x = true ∧ ∃ y, y < n ∧ s.2.1 y = true ∧ x ∈ nbl lk y := by
  obtain ⟨h1, h2, h3, h4, h5, h6, h7, h8⟩ := h
  rw [lyr_iff]
  constructor
  · rintro ⟨a1, a2, y, a3, a4, a5⟩
    refine ⟨a1, a2, y, a3, ?_, a5⟩
    rw [h3]
    refine ⟨a4, ?_⟩
    have := h4 y a4
    rcases Nat.lt_or_ge (s.2.2.2 y) d with z | z
    · have := h5 x y a4 z a5 a2
      rw [this] at a1; cases a1
    · omega
  · rintro ⟨a1, a2, y, a3, a4, a5⟩
    exact ⟨a1, a2, y, a3, ((h3 y).mp a4).1, a5⟩
theorem GI.step {lk : Lk} {n : Nat} (hok : NetOk n lk) {free : NS} {root d : Nat} {s : TS} (h : GI lk n free root d s) : GI lk n free root (d + 1) (gStep lk n free d s) := by
  have hn := @GI.next lk n free root d s h
  obtain ⟨h1, h2, h3, h4, h5, h6, h7, h8⟩ := h
  have hfind : ∀ x, lyr lk n free s.1 x = true → ∃ y, (List.range n).find? (fun y => decide (y ∈ nbl lk x) && s.2.1 y) = some y ∧ s.1 y = true ∧ s.2.2.2 y = d ∧ x ∈ nbl lk y ∧ ∀ z, z < y → s.1 z = true → s.2.2.2 z = d → x ∉ nbl lk z := fun x hx => by
    obtain ⟨a1, a2, y, a3, a4, a5⟩ := hn.mp hx
    obtain ⟨y', hy'⟩ := find_ex (n := n) (p := fun y => decide (y ∈ nbl lk x) && s.2.1 y) ⟨y, a3, by simp [a4, (nbl_sym hok).mp a5]⟩
    obtain ⟨b1, b2, b3⟩ := find_low hy'
    rw [Bool.and_eq_true, decide_eq_true_eq] at b2
    have c := (h3 y').mp b2.2
    refine ⟨y', hy', c.1, c.2, (nbl_sym hok).mp b2.1, fun z hz e1 e2 e3 => ?_⟩
    have := b3 z hz
    rw [(h3 z).mpr ⟨e1, e2⟩, Bool.and_true, decide_eq_false_iff_not] at this
    exact this ((nbl_sym hok).mp e3)
  have hlyr : ∀ x, lyr lk n free s.1 x = true → s.1 x = false ∧ free x = true ∧ x < n := fun x hx => by
    obtain ⟨a1, a2, y, a3, a4, a5⟩ := hn.mp hx
    exact ⟨a1, a2, (hok.nb a5).2.1⟩
  have hb : ∀ x, (gStep lk n free d s).1 x = true ↔ s.1 x = true ∨ lyr lk n free s.1 x = true := fun x => by show (s.1 x || lyr lk n free s.1 x) = true ↔ _; rw [Bool.or_eq_true]
  have ho : ∀ x, (gStep lk n free d s).2.1 x = lyr lk n free s.1 x := fun x => rfl
  have hp : ∀ x, (gStep lk n free d s).2.2.1 x = if lyr lk n free s.1 x then (List.range n).find? (fun y => decide (y ∈ nbl lk x) && s.2.1 y) else s.2.2.1 x := fun x => rfl
  have hd : ∀ x, (gStep lk n free d s).2.2.2 x = if lyr lk n free s.1 x then d + 1 else s.2.2.2 x := fun x => rfl
  have hdb : ∀ x, s.1 x = true → (gStep lk n free d s).2.2.2 x = s.2.2.2 x := fun x hx => by
    rw [hd, if_neg (fun z => by rw [(hlyr x z).1] at hx; cases hx)]
  refine ⟨(hb root).mpr (Or.inl h1), fun x hx => ?_, fun x => ?_, fun x hx => ?_, fun x y hy hlt hxy hf => ?_, ?_, ?_, fun x hx hr => ?_⟩
  · rcases (hb x).mp hx with z | z
    · exact h2 x z
    · exact ⟨(hlyr x z).2.2, Or.inr (hlyr x z).2.1⟩
  · rw [ho, hb, hd]
    constructor
    · intro z; exact ⟨Or.inr z, if_pos z⟩
    · rintro ⟨z1, z2⟩
      by_cases w : lyr lk n free s.1 x = true
      · exact w
      · rw [if_neg w] at z2
        rcases z1 with z1 | z1
        · have := h4 x z1; omega
        · exact z1
  · rw [hd]
    split
    · exact Nat.le_refl _
    · next w =>
      rcases (hb x).mp hx with z | z
      · have := h4 x z; omega
      · exact absurd z w
  · rw [hb]
    have hyb : s.1 y = true := by
      rcases (hb y).mp hy with z | z
      · exact z
      · rw [hd, if_pos z] at hlt; omega
    rcases Bool.eq_false_or_eq_true (s.1 x) with z | z
    · exact Or.inl z
    · refine Or.inr (lyr_iff.mpr ⟨z, hf, y, (h2 y hyb).1, hyb, hxy⟩)
  · rw [hp, if_neg (fun z => by rw [(hlyr root z).1] at h1; cases h1)]; exact h6
  · rw [hdb root h1]; exact h7
  · by_cases w : lyr lk n free s.1 x = true
    · obtain ⟨y, e1, e2, e3, e4, e5⟩ := hfind x w
      refine ⟨y, by rw [hp, if_pos w, e1], (hb y).mpr (Or.inl e2), e4, by rw [hd x, if_pos w, hdb y e2, e3], fun z hz f1 f2 => ?_⟩
      rw [hdb y e2, e3] at f2
      rcases (hb z).mp f1 with g | g
      · exact e5 z hz g (by rw [hdb z g] at f2; exact f2)
      · rw [hd, if_pos g] at f2; omega
    · rcases (hb x).mp hx with z | z
      · obtain ⟨y, e1, e2, e3, e4, e5⟩ := h8 x z hr
        refine ⟨y, by rw [hp, if_neg w, e1], (hb y).mpr (Or.inl e2), e3, by rw [hdb x z, hdb y e2, e4], fun z' hz f1 f2 => ?_⟩
        rw [hdb y e2] at f2
        rcases (hb z').mp f1 with g | g
        · exact e5 z' hz g (by rw [hdb z' g] at f2; exact f2)
        · rw [hd, if_pos g] at f2
          have := h4 y e2
          omega
      · exact absurd z w
/-- the end of a growth: some depth, its invariant, and nothing is left next to it where every layer counts -/
theorem growA_GI {lk : Lk} {n : Nat} (hok : NetOk n lk) {free : NS} {root t : Nat} : ∀ (f d : Nat) (s : TS), GI lk n free root d s → ∃ d', GI lk n free root d' (growA lk n free t f d s)
  | 0, d, s, h => ⟨d, h⟩
  | f + 1, d, s, h => by
    unfold growA
    split
    · exact ⟨d, h⟩
    · exact growA_GI hok f (d + 1) _ (h.step hok)
theorem cnt_le (n : Nat) (S : NS) : cnt n S ≤ n := fb_ct_le S n
theorem cnt_step {lk : Lk} {n : Nat} {free : NS} {d : Nat} {s : TS} (h : ¬ cnt n (lyr lk n free s.1) = 0) : cnt n s.1 + 1 ≤ cnt n (gStep lk n free d s).1 := by
  have : cnt n (gStep lk n free d s).1 = cnt n s.1 + cnt n (lyr lk n free s.1) := fb_ct_or (fun k _ z => by have := (lyr_iff.mp z.2).1; rw [z.1] at this; cases this)
  omega
/-- with n steps it comes to its stop -/
theorem growA_stop {lk : Lk} {n : Nat} {free : NS} {t : Nat} : ∀ (f d : Nat) (s : TS), n + 1 ≤ cnt n s.1 + f → stops lk n free t (growA lk n free t f d s) = true
  | 0, d, s, h => by have := cnt_le n s.1; omega
  | f + 1, d, s, h => by
    unfold growA
    split
    · next q => exact q
    · next q =>
      refine growA_stop f (d + 1) _ ?_
      have : ¬ cnt n (lyr lk n free s.1) = 0 := fun z => q (by unfold stops; simp [z])
      have := cnt_step (d := d) this
      omega
