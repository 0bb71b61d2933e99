/-! ===== what a node does keeps what holds ===== -/
section C57
variable {lk : Lk} {par : Nat → Nat → Option Nat} {ch : Nat → Nat → Bool} {w rd : Nat → Nat} {sd td al : Nat → Bool} {a b k : Nat}
theorem snt2 : Snt lk par ch w rd sd td al 2 a b k ↔ (w k = 0 ∧ b ∈ nbl lk a ∧ Sd rd sd a k) := by unfold Snt; simp
theorem snt3 : Snt lk par ch w rd sd td al 3 a b k ↔ (par (w k) a = some b ∧ Sd rd sd a k) := by unfold Snt; simp
theorem snt4 : Snt lk par ch w rd sd td al 4 a b k ↔ (par (w k) b = some a ∧ k < rd a) := by unfold Snt; simp
theorem snt5 : Snt lk par ch w rd sd td al 5 a b k ↔ (w k = 2 ∧ par 2 b = some a ∧ Sd rd td a k) := by unfold Snt; simp
theorem snt6 : Snt lk par ch w rd sd td al 6 a b k ↔ (w k = 2 ∧ ch a b = true ∧ Sd rd td a k) := by unfold Snt; simp
theorem snt7 : Snt lk par ch w rd sd td al 7 a b k ↔ (w k = 2 ∧ par 2 a = some b ∧ Sd rd al a k) := by unfold Snt; simp
end C57
theorem mxW_le (rd : Nat → Nat) (a v : Nat) : ∀ m, v ≤ mxW rd a m v
  | 0 => Nat.le_refl _
  | m + 1 => Nat.le_trans (mxW_le rd a v m) (Nat.le_max_left _ _)
theorem mxW_at (rd : Nat → Nat) (a v : Nat) : ∀ m x, x < m → rd a ≤ rd x + mxW rd a m v
  | 0, x, h => absurd h (Nat.not_lt_zero _)
  | m + 1, x, h => by
    have h1 := Nat.le_max_left (mxW rd a m v) (rd a - rd m)
    have h2 := Nat.le_max_right (mxW rd a m v) (rd a - rd m)
    show rd a ≤ rd x + max (mxW rd a m v) (rd a - rd m)
    by_cases e : x = m
    · subst e; omega
    · have := mxW_at rd a v m x (by omega); omega
theorem pgL_mem {lk : Lk} {a k : Nat} {x : Nat → Option Int32} {y : Lt} (h : y ∈ pgL lk a k x) : ∃ p b v, (nbl lk a)[p]? = some b ∧ x p = some v ∧ y = (0, a, b, k, v) := by
  unfold pgL at h
  obtain ⟨p, hp, hq⟩ := List.mem_filterMap.mp h
  rw [List.mem_range] at hp
  cases hx : x p with
  | none => rw [hx] at hq; cases hq
  | some v =>
    rw [hx] at hq
    have hb : (nbl lk a)[p]? = some ((nbl lk a).getD p 0) := by rw [List.getD_eq_getElem?_getD, List.getElem?_eq_getElem hp]; rfl
    exact ⟨p, _, v, hb, hx, (Option.some.inj hq).symm⟩
theorem pgL_pw {n : Nat} {lk : Lk} (hok : NetOk n lk) (a k : Nat) (x : Nat → Option Int32) : (pgL lk a k x).Pairwise (fun x y => ky x ≠ ky y) := by
  unfold pgL
  rw [List.pairwise_filterMap]
  refine List.Pairwise.imp_of_mem (fun {p q} hp hq hne => ?_) List.nodup_range
  intro y hy z hz e
  rw [List.mem_range] at hp hq
  cases h1 : x p with
  | none => rw [h1] at hy; cases hy
  | some v =>
    cases h2 : x q with
    | none => rw [h2] at hz; cases hz
    | some u =>
      rw [h1] at hy
      rw [h2] at hz
      have hy := Option.some.inj hy
      have hz := Option.some.inj hz
      subst hy
      subst hz
      simp [ky] at e
      rw [List.getElem?_eq_getElem hp, List.getElem?_eq_getElem hq] at e
      exact hne ((List.getElem_inj (hok.2.2.2 a)).mp (by simpa using e))
theorem pgL_owes {lk : Lk} {a k : Nat} {x : Nat → Option Int32} (c : Nat) : (pgL lk a k x).countP (owes c) = if c = a then (pgL lk a k x).length else 0 := by
  by_cases e : c = a
  · rw [if_pos e, List.countP_eq_length]
    intro y hy
    obtain ⟨p, b, v, -, -, rfl⟩ := pgL_mem hy
    simp [owes, e]
  · rw [if_neg e, List.countP_eq_zero]
    intro y hy
    obtain ⟨p, b, v, -, -, rfl⟩ := pgL_mem hy
    simp [owes]
    exact fun z => e z.symm
theorem inv_nxt {Z : NT} (hZ : ZOk Z.n Z.lk Z.par Z.grp Z.ch) {s : RS} (h : Inv Z s) {a d : Nat} (ha : a < Z.n) (hd5 : d = 5 ∨ d = 6) (hw6 : d = 6 → wy s.sw (s.rd a) = 0)
    (hL : Lv Z.n Z.lk Z.par Z.grp Z.ch (wy s.sw) s.rd s.sd s.td s.al a) (h0 : s.op a = 0) (hst : s.rd a < s.st) (hf : ∀ x ∈ s.lt, 2 ≤ x.1 → x.2.2.1 = a → x.2.2.2.1 ≠ s.rd a) : Inv Z (nxt Z s a (outD Z s a d)) := by
  have hI := h.1.leave hZ hL
  have hI0 := h.1
  have h500 := h.2.2.2.2.1
  have hgo : ∀ x ∈ outD Z s a d, ∃ c, Z.par (wy s.sw (s.rd a)) c = some a ∧ x = (4, a, c, s.rd a, 0) := fun x hx => by
    unfold outD at hx
    rw [if_neg (by omega), if_neg (by omega), if_neg (by omega), if_neg (by omega)] at hx
    split at hx
    · obtain ⟨b, hb, rfl⟩ := toL_mem.mp hx
      exact ⟨b, (kids_mem hZ).mp hb, rfl⟩
    · cases hx
  have hno : ∀ x ∈ s.lt, owes a x = false := fun x hx => by
    have := h.2.2.2.2.2.1 a
    rw [h0] at this
    have := List.countP_eq_zero.mp this.symm x hx
    simpa using this
  refine ⟨hI, ?_, fun b hb => ?_, fun b => ?_, h500, fun c => ?_, fun x y hx hy => ?_, h.2.2.2.2.2.2.2.1, fun x hx => ?_⟩
  · show Il Z.lk Z.par Z.ch (wy s.sw) (nxRd s a) (setB s.sd a false) (setB s.td a false) (setB s.al a false) (fun K q b c => if b = a ∧ q = s.rd a % 2 then false else s.hd K q b c) ((s.lt ++ outD Z s a d) ++ nxPg Z s a)
    rw [List.append_assoc]
    refine h.2.1.add (fun x hx => ?_) (fun x hx => ?_) (List.pairwise_append.mpr ⟨outD_pw hZ, pgL_pw hZ.1 _ _ _, fun x hx y hy e => ?_⟩) (fun x hx y hy => ?_)
    · obtain ⟨q1, q2, q3, q4⟩ := h.2.1.1 x hx
      refine ⟨q1, q2, q3, fun z => ⟨(q4 z).1.lv, ?_, ?_⟩⟩
      · show (if x.2.2.1 = a then s.rd a + 1 else s.rd x.2.2.1) ≤ x.2.2.2.1
        have g := (q4 z).2.1
        split
        · next e => have := hf x hx z e; rw [e] at g; omega
        · exact g
      · have g := (q4 z).2.2
        show (if x.2.2.1 = a ∧ _ then false else _) = false
        split
        · rfl
        · exact g
    · rcases List.mem_append.mp hx with hx | hx
      · obtain ⟨c, hc, rfl⟩ := hgo x hx
        obtain ⟨dep, hdep⟩ := hZ.2.2.1
        have hl := (hdep _ _ _ hc).1
        have hn := hZ.1.nb hl
        have hca : ¬ c = a := fun z => hn.2.2 z.symm
        have hrc : s.rd c ≤ s.rd a := by
          rcases Nat.lt_or_ge (s.rd a) (s.rd c) with z | z
          · have := hI0.2.2.2.2.2.2.2.1 a c (s.rd a) hc z; omega
          · exact z
        refine ⟨by simp, by show s.rd a ≤ 500; omega, hl, fun _ => ⟨?_, ?_, ?_⟩⟩
        · refine Or.inr (Or.inr (Or.inl ⟨rfl, hc, ?_⟩))
          show s.rd a < nxRd s a a
          unfold nxRd
          rw [if_pos rfl]
          omega
        · show nxRd s a c ≤ s.rd a
          unfold nxRd
          rw [if_neg hca]
          exact hrc
        · show (if c = a ∧ _ then false else s.hd 4 (s.rd a % 2) c a) = false
          rw [if_neg (fun z => hca z.1)]
          exact hI0.fresh (fun z => Nat.lt_irrefl _ (snt4.mp z).2) hrc (hI0.1 a c hl)
      · obtain ⟨p, b, v, hb, hv, rfl⟩ := pgL_mem hx
        exact ⟨by simp, by show s.rd a + 1 ≤ 500; omega, List.mem_of_getElem? hb, fun z => absurd z (by show ¬ 2 ≤ 0; omega)⟩
    · obtain ⟨c, hc, rfl⟩ := hgo x hx
      obtain ⟨p, b, v, hb, hv, rfl⟩ := pgL_mem hy
      simp [ky] at e
    · rcases List.mem_append.mp hy with hy | hy
      · obtain ⟨c, hc, rfl⟩ := hgo y hy
        exact h.2.1.ways hx (by show 2 ≤ 4; omega) (fun z => Nat.lt_irrefl _ (snt4.mp z).2)
      · obtain ⟨p, b, v, hb, hv, rfl⟩ := pgL_mem hy
        intro e
        have := hno x hx
        obtain ⟨K, f, t, k, u⟩ := x
        unfold ky at e
        simp only [if_true] at e
        unfold owes at this
        simp at this
        by_cases z0 : K = 0
        · rw [if_pos z0] at e; simp at e; exact this.1 z0 e.1
        · rw [if_neg z0] at e
          by_cases z1 : K = 1
          · rw [if_pos z1] at e; simp at e; exact this.2 z1 e.1
          · rw [if_neg z1] at e; simp at e; exact z0 e.1
  · have hb : setB s.sd a false b = true := hb
    unfold setB at hb
    by_cases e : b = a
    · rw [if_pos e] at hb; cases hb
    · rw [if_neg e] at hb
      have := h.2.2.1 b hb
      show (if b = a then _ else s.op b) = 0 ∧ nxRd s a b < s.st
      unfold nxRd
      rw [if_neg e, if_neg e]
      exact this
  · show nxRd s a b ≤ s.st
    unfold nxRd
    split
    · omega
    · exact h.2.2.2.1 b
  · show (if c = a then (nxPg Z s a).length else s.op c) = ((s.lt ++ outD Z s a d) ++ nxPg Z s a).countP (owes c)
    rw [List.countP_append, List.countP_append, outD_owes, ← h.2.2.2.2.2.1 c, Nat.add_zero]
    unfold nxPg
    rw [pgL_owes]
    split
    · next e => rw [e, h0]; omega
    · omega
  · show nxRd s a x ≤ nxRd s a y + mxW (nxRd s a) a Z.n s.wi
    have h1 := mxW_le (nxRd s a) a s.wi Z.n
    have h2 := mxW_at (nxRd s a) a s.wi Z.n y hy
    have h3 := h.2.2.2.2.2.2.1 x y hx hy
    by_cases e : x = a
    · rw [e]; exact h2
    · have ex : nxRd s a x = s.rd x := by unfold nxRd; rw [if_neg e]
      have ey : s.rd y ≤ nxRd s a y := by
        unfold nxRd
        split
        · next e2 => rw [e2]; omega
        · exact Nat.le_refl _
      omega
  · show nxRd s a x = 0
    unfold nxRd
    rw [if_neg (by omega)]
    exact h.2.2.2.2.2.2.2.2 x hx
/-- how much a node can still do -/
def mea (s : RS) (a : Nat) : Nat := 4 * (s.st - s.rd a) + ((if s.sd a then 0 else 1) + ((if s.td a then 0 else 1) + (if s.al a then 0 else 1)))
theorem mea_nxt {Z : NT} {s : RS} {a : Nat} (go : List Lt) (hst : s.rd a < s.st) : mea (nxt Z s a go) a < mea s a := by
  unfold mea
  show 4 * (s.st - nxRd s a a) + ((if setB s.sd a false a then 0 else 1) + ((if setB s.td a false a then 0 else 1) + (if setB s.al a false a then 0 else 1))) < _
  unfold nxRd setB
  simp only [if_true]
  simp
  omega
/-- no letter of the round that is left is still under way to the node -/
theorem inv_none {Z : NT} (hZ : ZOk Z.n Z.lk Z.par Z.grp Z.ch) {s : RS} (h : Inv Z s) {a : Nat}
    (g2 : wy s.sw (s.rd a) = 0 → ∀ b, b ∈ nbl Z.lk a → s.hd 2 (s.rd a % 2) a b = true) (g3 : ∀ c, Z.par (wy s.sw (s.rd a)) c = some a → s.hd 3 (s.rd a % 2) a c = true) (g4 : ∀ p, Z.par (wy s.sw (s.rd a)) a = some p → s.hd 4 (s.rd a % 2) a p = true)
    (g5 : wy s.sw (s.rd a) = 2 → ∀ p, Z.par 2 a = some p → s.hd 5 (s.rd a % 2) a p = true) (g6 : wy s.sw (s.rd a) = 2 → ∀ p, Z.ch a p = true → s.hd 6 (s.rd a % 2) a p = true) (g7 : wy s.sw (s.rd a) = 2 → ∀ c, Z.par 2 c = some a → s.hd 7 (s.rd a % 2) a c = true) :
    ∀ x ∈ s.lt, 2 ≤ x.1 → x.2.2.1 = a → x.2.2.2.1 ≠ s.rd a := by
  intro x hx h2 ha hk
  obtain ⟨-, -, hl, hq⟩ := h.2.1.1 x hx
  obtain ⟨q1, q2, q3⟩ := hq h2
  obtain ⟨K, f, t, k, u⟩ := x
  simp only at ha hk q1 q2 q3 hl
  subst ha
  subst hk
  have hz := hZ.2.2.2.2.1
  unfold Snt at q1
  rcases q1 with ⟨rfl, z1, z2, z3⟩ | ⟨rfl, z1, z3⟩ | ⟨rfl, z1, z3⟩ | ⟨rfl, z1, z2, z3⟩ | ⟨rfl, z1, z2, z3⟩ | ⟨rfl, z1, z2, z3⟩
  · rw [g2 z1 f ((nbl_sym hZ.1).mp hl)] at q3; cases q3
  · rw [g3 f z1] at q3; cases q3
  · rw [g4 f z1] at q3; cases q3
  · rw [g5 z1 f z2] at q3; cases q3
  · rw [g6 z1 f (hz _ _ z2).2.2] at q3; cases q3
  · rw [g7 z1 f z2] at q3; cases q3
theorem Sd.own {rd : Nat → Nat} {f : Nat → Bool} {a : Nat} : Sd rd f a (rd a) ↔ f a = true := by
  unfold Sd
  grind
/-- a deed keeps what holds, and less is left to do -/
theorem inv_deed {Z : NT} (hZ : ZOk Z.n Z.lk Z.par Z.grp Z.ch) {s : RS} (h : Inv Z s) {a : Nat} (ha : a < Z.n) (hne : dk Z s a ≠ 0) : Inv Z (dd Z s a (dk Z s a)) ∧ mea (dd Z s a (dk Z s a)) a < mea s a := by
  obtain ⟨dep, hdep⟩ := hZ.2.2.1
  have hI := h.1
  have hpn : ∀ v c, Z.par v c = some a → c < Z.n := fun v c q => (hZ.1.nb (hdep v c a q).1).2.1
  have hsd := h.2.2.1
  have hs1 : mayS s a = true → ∀ b, setB s.sd a true b = true → s.op b = 0 ∧ s.rd b < s.st := fun hm b hb => by
    unfold setB at hb
    by_cases e : b = a
    · rw [e]; exact (mayS_iff.mp hm).2
    · rw [if_neg e] at hb; exact hsd b hb
  have m1 : ∀ d, d ≤ 3 → s.sd a = false → mea (spk Z s a d) a < mea s a := fun d hd hs => by
    unfold mea
    show 4 * (s.st - s.rd a) + ((if (if d ≤ 3 then setB s.sd a true else s.sd) a then 0 else 1) + ((if (if d = 3 then setB s.td a true else s.td) a then 0 else 1) + (if (if d = 4 then setB s.al a true else s.al) a then 0 else 1))) < _
    rw [if_pos hd, if_neg (by omega : ¬ d = 4), hs]
    by_cases e : d = 3
    · rw [if_pos e]; simp [setB]; split <;> omega
    · rw [if_neg e]; simp [setB]
  have hread : ∀ v, wy s.sw (s.rd a) = v → mayS s a = true → fullS Z.n s 3 a (kid Z v a) = true → (∀ c, Z.par (wy s.sw (s.rd a)) c = some a → s.hd 3 (s.rd a % 2) a c = true) := fun v hv _ hf c hc => by
    rw [hv] at hc
    exact fullS_iff.mp hf c (hpn v c hc) (kid_iff.mpr hc)
  -- READY
  have ready : ∀ v p, wy s.sw (s.rd a) = v → (v = 1 ∨ v = 2) → mayS s a = true → fullS Z.n s 3 a (kid Z v a) = true → Z.par v a = some p → Inv Z (dd Z s a 2) ∧ mea (dd Z s a 2) a < mea s a := fun v p hv hv2 hm hf hp => by
    have hs0 := (mayS_iff.mp hm).1
    show Inv Z (spk Z s a 2) ∧ _
    refine ⟨inv_spk hZ h (by decide) ?_ (fun x hx => ?_) (hs1 hm), m1 2 (by decide) hs0⟩
    · exact hI.say (hread v hv hm hf)
    · have hx : x ∈ toL 3 a (s.rd a) [(Z.par (wy s.sw (s.rd a)) a).getD 0] := hx
      rw [hv, hp] at hx
      obtain ⟨b, hb, rfl⟩ := toL_mem.mp hx
      simp at hb
      subst hb
      refine ⟨fun z => ?_, snt3.mpr ⟨by rw [hv]; exact hp, Or.inr ⟨rfl, by show setB s.sd a true a = true; exact if_pos rfl⟩⟩, ?_⟩
      · have z := (snt3.mp z).2; rw [Sd.own, hs0] at z; cases z
      · rcases Nat.lt_or_ge (s.rd a) (s.rd b) with z | z
        · have := (hI.2.2.2.2.2.1 b a (s.rd a) (by rw [hv]; exact hv2) z ha (by rw [hv]; exact (hdep v a b hp).2.1)).1
          rw [Sd.own, hs0] at this; cases this
        · exact z
  unfold dk at hne ⊢
  by_cases hw0 : wy s.sw (s.rd a) = 0
  · rw [if_pos hw0] at hne ⊢
    by_cases hm : mayS s a = true
    · rw [if_pos hm]
      have hs0 := (mayS_iff.mp hm).1
      show Inv Z (spk Z s a 1) ∧ _
      refine ⟨inv_spk hZ h (by decide) ?_ (fun x hx => ?_) (hs1 hm), m1 1 (by decide) hs0⟩
      · exact hI.say (fun c hc => by rw [hw0, hZ.2.1] at hc; cases hc)
      · obtain ⟨b, hb, rfl⟩ := toL_mem.mp hx
        refine ⟨fun z => ?_, snt2.mpr ⟨hw0, hb, Or.inr ⟨rfl, by show setB s.sd a true a = true; exact if_pos rfl⟩⟩, ?_⟩
        · have z := (snt2.mp z).2.2; rw [Sd.own, hs0] at z; cases z
        · rcases Nat.lt_or_ge (s.rd a) (s.rd b) with z | z
          · have := hI.2.2.2.2.2.2.2.2 a b (s.rd a) hw0 z ((nbl_sym hZ.1).mp hb)
            rw [Sd.own, hs0] at this; cases this
          · exact z
    · rw [if_neg hm] at hne ⊢
      by_cases hf : (s.sd a && fullS Z.n s 2 a (nbB Z a)) = true
      · rw [if_pos hf]
        rw [Bool.and_eq_true] at hf
        have hs := hsd a hf.1
        have h2 : ∀ b, b ∈ nbl Z.lk a → s.hd 2 (s.rd a % 2) a b = true := fun b hb => fullS_iff.mp hf.2 b (hZ.1.nb hb).2.1 (by unfold nbB; simpa using hb)
        show Inv Z (nxt Z s a (outD Z s a 6)) ∧ _
        refine ⟨inv_nxt hZ h ha (Or.inr rfl) (fun _ => hw0) (Lv.nodes hI hZ hw0 h2) hs.1 hs.2 (inv_none hZ h (fun _ => h2) (fun c hc => ?_) (fun p hp => ?_) (fun z => ?_) (fun z => ?_) (fun z => ?_)), mea_nxt _ hs.2⟩
        · rw [hw0, hZ.2.1] at hc; cases hc
        · rw [hw0, hZ.2.1] at hp; cases hp
        · omega
        · omega
        · omega
      · rw [if_neg hf] at hne; exact absurd rfl hne
  · rw [if_neg hw0] at hne ⊢
    by_cases hw1 : wy s.sw (s.rd a) = 1
    · rw [if_pos hw1] at hne ⊢
      have go : ((Z.par 1 a = none ∧ mayS s a = true ∧ fullS Z.n s 3 a (kid Z 1 a) = true) ∨ anyS Z.n s 4 a = true) → Inv Z (dd Z s a 5) ∧ mea (dd Z s a 5) a < mea s a := fun hc => by
        have hc2 : (Z.par 1 a = none ∧ ∀ c, Z.par 1 c = some a → s.hd 3 (s.rd a % 2) a c = true) ∨ ∃ p, s.hd 4 (s.rd a % 2) a p = true := by
          rcases hc with ⟨q1, q2, q3⟩ | q
          · exact Or.inl ⟨q1, fun c hc => fullS_iff.mp q3 c (hpn 1 c hc) (kid_iff.mpr hc)⟩
          · obtain ⟨b, -, hb⟩ := anyS_iff.mp q; exact Or.inr ⟨b, hb⟩
        obtain ⟨hL, hG⟩ := Lv.tree hI hZ ha hw1 hc2
        have hs : s.op a = 0 ∧ s.rd a < s.st := by
          rcases hc2 with q | q
          · rcases hc with q' | q'
            · exact (mayS_iff.mp q'.2.1).2
            · obtain ⟨b, -, hb⟩ := anyS_iff.mp q'; exact hsd a (hG ⟨b, hb⟩).1
          · exact hsd a (hG q).1
        show Inv Z (nxt Z s a (outD Z s a 5)) ∧ _
        refine ⟨inv_nxt hZ h ha (Or.inl rfl) (fun z => absurd z (by decide)) hL hs.1 hs.2 (inv_none hZ h (fun z => by omega) (fun c hc => ?_) (fun p hp => ?_) (fun z => by omega) (fun z => by omega) (fun z => by omega)), mea_nxt _ hs.2⟩
        · rcases hc2 with q | q
          · rw [hw1] at hc; exact q.2 c hc
          · exact hI.2.2.2.2.2.2.1.1 a c (hG q).1 hc
        · rw [hw1] at hp
          rcases hc2 with q | q
          · rw [q.1] at hp; cases hp
          · obtain ⟨-, p', hp', hq'⟩ := hG q
            rw [hp'] at hp; cases hp; exact hq'
      by_cases hm : (mayS s a && fullS Z.n s 3 a (kid Z 1 a)) = true
      · rw [if_pos hm]
        rw [Bool.and_eq_true] at hm
        cases hp : Z.par 1 a with
        | none => exact go (Or.inl ⟨hp, hm⟩)
        | some p => exact ready 1 p hw1 (Or.inl rfl) hm.1 hm.2 hp
      · rw [if_neg hm] at hne ⊢
        by_cases hg : anyS Z.n s 4 a = true
        · rw [if_pos hg]; exact go (Or.inr hg)
        · rw [if_neg hg] at hne; exact absurd rfl hne
    · rw [if_neg hw1] at hne ⊢
      have hw2 : wy s.sw (s.rd a) = 2 := by have := h.2.2.2.2.2.2.2.1 (s.rd a); omega
      -- told
      have tell : s.td a = false → (mayS s a = true ∧ fullS Z.n s 3 a (kid Z 2 a) = true ∧ Z.par 2 a = none) ∨ (s.sd a = true ∧ ∃ p, Z.par 2 a = some p ∧ s.hd 5 (s.rd a % 2) a p = true) → Inv Z (dd Z s a 3) ∧ mea (dd Z s a 3) a < mea s a := fun ht hc => by
        show Inv Z (spk Z s a 3) ∧ _
        refine ⟨inv_spk hZ h (by decide) ?_ (fun x hx => ?_) ?_, ?_⟩
        · show Iv Z.n Z.lk Z.par Z.grp Z.ch (wy s.sw) s.rd (setB s.sd a true) (setB s.td a true) s.al s.hd
          rcases hc with ⟨q1, q2, q3⟩ | ⟨q1, q2⟩
          · exact (hI.say (hread 2 hw2 q1 q2)).tell hZ ha hw2 (by simp) (Or.inl q3)
          · have : setB s.sd a true = s.sd := by
              funext y
              unfold setB
              split
              · next e => rw [e, q1]
              · rfl
            rw [this]
            exact hI.tell hZ ha hw2 q1 (Or.inr q2)
        · have hx : x ∈ toL 5 a (s.rd a) (kids Z 2 a) ++ toL 6 a (s.rd a) ((nbl Z.lk a).filter (Z.ch a)) := hx
          rcases List.mem_append.mp hx with hx | hx
          · obtain ⟨b, hb, rfl⟩ := toL_mem.mp hx
            rw [kids_mem hZ] at hb
            refine ⟨fun z => ?_, snt5.mpr ⟨hw2, hb, Or.inr ⟨rfl, by show setB s.td a true a = true; exact if_pos rfl⟩⟩, ?_⟩
            · have z := (snt5.mp z).2.2; rw [Sd.own, ht] at z; cases z
            · rcases Nat.lt_or_ge (s.rd a) (s.rd b) with z | z
              · have := hI.2.2.2.2.2.2.2.1 a b (s.rd a) (by rw [hw2]; exact hb) z; omega
              · exact z
          · obtain ⟨b, hb, rfl⟩ := toL_mem.mp hx
            rw [List.mem_filter] at hb
            refine ⟨fun z => ?_, snt6.mpr ⟨hw2, hb.2, Or.inr ⟨rfl, by show setB s.td a true a = true; exact if_pos rfl⟩⟩, ?_⟩
            · have z := (snt6.mp z).2.2; rw [Sd.own, ht] at z; cases z
            · rcases Nat.lt_or_ge (s.rd a) (s.rd b) with z | z
              · have hbn := (hZ.1.nb hb.1).2.1
                have := (hI.2.2.2.2.2.1 b b (s.rd a) (Or.inr hw2) z hbn rfl).2 hw2
                have := (hI.2.2.2.2.1 b (s.rd a) hw2 this).2.2 a (hZ.2.2.2.2.1 a b hb.2).2.2
                rw [Sd.own, ht] at this; cases this
              · exact z
        · intro b hb
          have hb : setB s.sd a true b = true := hb
          rcases hc with ⟨q1, -⟩ | ⟨q1, -⟩
          · exact hs1 q1 b hb
          · unfold setB at hb
            by_cases e : b = a
            · rw [e]; exact hsd a q1
            · rw [if_neg e] at hb; exact hsd b hb
        · unfold mea
          show 4 * (s.st - s.rd a) + ((if setB s.sd a true a then 0 else 1) + ((if setB s.td a true a then 0 else 1) + (if s.al a then 0 else 1))) < _
          simp [setB, ht]
          split <;> omega
      have go : ((Z.par 2 a = none ∧ s.td a = true ∧ fullS Z.n s 7 a (kid Z 2 a) = true ∧ fullS Z.n s 6 a (Z.ch a) = true) ∨ anyS Z.n s 4 a = true) → Inv Z (dd Z s a 5) ∧ mea (dd Z s a 5) a < mea s a := fun hc => by
        have h67 : fullS Z.n s 7 a (kid Z 2 a) = true → fullS Z.n s 6 a (Z.ch a) = true → (∀ d, Z.ch a d = true → s.hd 6 (s.rd a % 2) a d = true) ∧ ∀ c, Z.par 2 c = some a → s.hd 7 (s.rd a % 2) a c = true := fun q7 q6 =>
          ⟨fun d hd => fullS_iff.mp q6 d (hZ.1.nb (hZ.2.2.2.2.1 a d hd).1).2.1 hd, fun c hc => fullS_iff.mp q7 c (hpn 2 c hc) (kid_iff.mpr hc)⟩
        have hc2 : (Z.par 2 a = none ∧ s.td a = true ∧ (∀ d, Z.ch a d = true → s.hd 6 (s.rd a % 2) a d = true) ∧ ∀ c, Z.par 2 c = some a → s.hd 7 (s.rd a % 2) a c = true) ∨ ∃ p, s.hd 4 (s.rd a % 2) a p = true := by
          rcases hc with ⟨q1, q2, q3, q4⟩ | q
          · exact Or.inl ⟨q1, q2, h67 q3 q4⟩
          · obtain ⟨b, -, hb⟩ := anyS_iff.mp q; exact Or.inr ⟨b, hb⟩
        obtain ⟨hL, hG⟩ := Lv.clus hI hZ ha hw2 hc2
        have htd : s.td a = true := by
          rcases hc2 with q | q
          · exact q.2.1
          · exact (hG q).2.1
        have hsa : s.sd a = true := Sd.own.mp (hI.2.2.2.1 a a (s.rd a) hw2 (Sd.own.mpr htd) ha rfl)
        have hs := hsd a hsa
        show Inv Z (nxt Z s a (outD Z s a 5)) ∧ _
        refine ⟨inv_nxt hZ h ha (Or.inl rfl) (fun z => absurd z (by decide)) hL hs.1 hs.2 (inv_none hZ h (fun z => by omega) (fun c hc => ?_) (fun p hp => ?_) (fun _ p hp => ?_) (fun _ p hp => ?_) (fun _ c hc => ?_)), mea_nxt _ hs.2⟩
        · exact hI.2.2.2.2.2.2.1.1 a c hsa hc
        · rw [hw2] at hp
          rcases hc2 with q | q
          · rw [q.1] at hp; cases hp
          · obtain ⟨-, -, p', hp', hq'⟩ := hG q
            rw [hp'] at hp; cases hp; exact hq'
        · exact hI.2.2.2.2.2.2.1.2.1 a p hw2 htd hp
        · rcases hc2 with q | q
          · exact q.2.2.1 p hp
          · exact hI.2.2.2.2.2.2.1.2.2.1 a p hw2 (hG q).1 hp
        · rcases hc2 with q | q
          · exact q.2.2.2 c hc
          · exact hI.2.2.2.2.2.2.1.2.2.2 a c hw2 (hG q).1 hc
      by_cases hm : (mayS s a && fullS Z.n s 3 a (kid Z 2 a)) = true
      · rw [if_pos hm]
        rw [Bool.and_eq_true] at hm
        cases hp : Z.par 2 a with
        | none =>
          refine tell ?_ (Or.inl ⟨hm.1, hm.2, hp⟩)
          cases ht : s.td a with
          | false => rfl
          | true =>
            have := Sd.own.mp (hI.2.2.2.1 a a (s.rd a) hw2 (Sd.own.mpr ht) ha rfl)
            rw [(mayS_iff.mp hm.1).1] at this; cases this
        | some p => exact ready 2 p hw2 (Or.inr rfl) hm.1 hm.2 hp
      · rw [if_neg hm] at hne ⊢
        cases ht : s.td a with
        | false =>
          rw [ht] at hne
          simp only [Bool.not_false, if_true] at hne ⊢
          by_cases hg : anyS Z.n s 5 a = true
          · rw [if_pos hg]
            obtain ⟨b, -, hb⟩ := anyS_iff.mp hg
            have := hI.now hb
            have hpb : Z.par 2 a = some b ∧ Sd s.rd s.td b (s.rd a) := by unfold Snt at this; grind
            exact tell ht (Or.inr ⟨Sd.own.mp (hI.2.2.2.1 b a (s.rd a) hw2 hpb.2 ha (hdep 2 a b hpb.1).2.1), b, hpb.1, hb⟩)
          · rw [if_neg hg] at hne; exact absurd rfl hne
        | true =>
          rw [ht] at hne
          simp only [Bool.not_true, Bool.false_eq_true, if_false] at hne ⊢
          by_cases hg : (!s.al a && (fullS Z.n s 7 a (kid Z 2 a) && fullS Z.n s 6 a (Z.ch a))) = true
          · rw [if_pos hg]
            rw [Bool.and_eq_true, Bool.and_eq_true] at hg
            cases hp : Z.par 2 a with
            | none => exact go (Or.inl ⟨hp, ht, hg.2⟩)
            | some p =>
              have ha0 : s.al a = false := by simpa using hg.1
              show Inv Z (spk Z s a 4) ∧ _
              refine ⟨inv_spk hZ h (by decide) ?_ (fun x hx => ?_) hsd, ?_⟩
              · exact hI.allSafe hw2 ht (fun d hd => fullS_iff.mp hg.2.2 d (hZ.1.nb (hZ.2.2.2.2.1 a d hd).1).2.1 hd) (fun c hc => fullS_iff.mp hg.2.1 c (hpn 2 c hc) (kid_iff.mpr hc))
              · have hx : x ∈ toL 7 a (s.rd a) [(Z.par 2 a).getD 0] := hx
                rw [hp] at hx
                obtain ⟨b, hb, rfl⟩ := toL_mem.mp hx
                simp at hb
                subst hb
                refine ⟨fun z => ?_, snt7.mpr ⟨hw2, hp, Or.inr ⟨rfl, by show setB s.al a true a = true; exact if_pos rfl⟩⟩, ?_⟩
                · have z := (snt7.mp z).2.2; rw [Sd.own, ha0] at z; cases z
                · rcases Nat.lt_or_ge (s.rd a) (s.rd b) with z | z
                  · have := (hI.2.2.2.2.2.1 b a (s.rd a) (Or.inr hw2) z ha (by rw [hw2]; exact (hdep 2 a b hp).2.1)).2 hw2
                    rw [Sd.own, ha0] at this; cases this
                  · exact z
              · unfold mea
                show 4 * (s.st - s.rd a) + ((if s.sd a then 0 else 1) + ((if s.td a then 0 else 1) + (if setB s.al a true a then 0 else 1))) < _
                simp [setB, ha0]
          · rw [if_neg hg] at hne ⊢
            by_cases hg4 : anyS Z.n s 4 a = true
            · rw [if_pos hg4]; exact go (Or.inr hg4)
            · rw [if_neg hg4] at hne; exact absurd rfl hne
/-- and so does all that it can do -/
theorem inv_act {Z : NT} (hZ : ZOk Z.n Z.lk Z.par Z.grp Z.ch) {a : Nat} (ha : a < Z.n) : ∀ (f : Nat) (s : RS), Inv Z s → Inv Z (actF Z a f s)
  | 0, s, h => h
  | f + 1, s, h => by
    unfold actF
    split
    · exact h
    · next q => exact inv_act hZ ha f _ (inv_deed hZ h ha q).1
theorem mea_le {s : RS} {Z : NT} (h : Inv Z s) (a : Nat) : mea s a ≤ 2003 := by
  have := h.2.2.2.2.1
  unfold mea
  have : (if s.sd a then 0 else 1) ≤ 1 := by split <;> omega
  have : (if s.td a then 0 else 1) ≤ 1 := by split <;> omega
  have : (if s.al a then 0 else 1) ≤ 1 := by split <;> omega
  omega
def act (Z : NT) (a : Nat) (s : RS) : RS := actF Z a 2100 s
