/-! ===== the run: its state, what a node does ===== -/
/-- nodes, links, program; parents by way; clusters by way; chosen -/
abbrev NT : Type := Nat × Lk × List Wd × (Nat → Nat → Option Nat) × (Nat → Nat → Nat) × (Nat → Nat → Bool)
abbrev NT.n (Z : NT) : Nat := Z.1
abbrev NT.lk (Z : NT) : Lk := Z.2.1
abbrev NT.pr (Z : NT) : List Wd := Z.2.2.1
abbrev NT.par (Z : NT) : Nat → Nat → Option Nat := Z.2.2.2.1
abbrev NT.grp (Z : NT) : Nat → Nat → Nat := Z.2.2.2.2.1
abbrev NT.ch (Z : NT) : Nat → Nat → Bool := Z.2.2.2.2.2
def NT.ok (Z : NT) : Prop := ZOk Z.n Z.lk Z.par Z.grp Z.ch ∧ Valid Z.pr ∧ Z.pr.length ≤ 64
/-- rounds, letters without receipt, registers and boxes, said, told, all, heard, letters, how many were sent, STOP, width, stretches -/
abbrev RS : Type := (Nat → Nat) × (Nat → Nat) × PS × (Nat → Bool) × (Nat → Bool) × (Nat → Bool) × (Nat → Nat → Nat → Nat → Bool) × List Lt × (Nat → Nat) × Nat × Nat × List (Nat × Nat)
abbrev RS.rd (s : RS) : Nat → Nat := s.1
abbrev RS.op (s : RS) : Nat → Nat := s.2.1
abbrev RS.ps (s : RS) : PS := s.2.2.1
abbrev RS.sd (s : RS) : Nat → Bool := s.2.2.2.1
abbrev RS.td (s : RS) : Nat → Bool := s.2.2.2.2.1
abbrev RS.al (s : RS) : Nat → Bool := s.2.2.2.2.2.1
abbrev RS.hd (s : RS) : Nat → Nat → Nat → Nat → Bool := s.2.2.2.2.2.2.1
abbrev RS.lt (s : RS) : List Lt := s.2.2.2.2.2.2.2.1
abbrev RS.ct (s : RS) : Nat → Nat := s.2.2.2.2.2.2.2.2.1
abbrev RS.st (s : RS) : Nat := s.2.2.2.2.2.2.2.2.2.1
abbrev RS.wi (s : RS) : Nat := s.2.2.2.2.2.2.2.2.2.2.1
abbrev RS.sw (s : RS) : List (Nat × Nat) := s.2.2.2.2.2.2.2.2.2.2.2
/-- the way out of a round -/
def wy (sw : List (Nat × Nat)) (k : Nat) : Nat := sw.foldl (fun v e => if e.1 ≤ k then e.2 else v) 0
def setB (f : Nat → Bool) (a : Nat) (b : Bool) : Nat → Bool := fun y => if y = a then b else f y
/-- letters are sent -/
def ctAdd (ct : Nat → Nat) (ls : List Lt) : Nat → Nat := fun c => ct c + ls.countP (fun x => min x.1 2 == c)
def mayS (s : RS) (a : Nat) : Bool := !s.sd a && (s.op a == 0 && decide (s.rd a < s.st))
def hrd (s : RS) (K a b : Nat) : Bool := s.hd K (s.rd a % 2) a b
def fullS (n : Nat) (s : RS) (K a : Nat) (S : Nat → Bool) : Bool := (List.range n).all (fun b => !S b || hrd s K a b)
def anyS (n : Nat) (s : RS) (K a : Nat) : Bool := (List.range n).any (fun b => hrd s K a b)
def kid (Z : NT) (v a b : Nat) : Bool := Z.par v b == some a
def kids (Z : NT) (v a : Nat) : List Nat := (List.range Z.n).filter (kid Z v a)
def nbB (Z : NT) (a b : Nat) : Bool := decide (b ∈ nbl Z.lk a)
/-- 0 nothing, 1 SAFE, 2 READY, 3 told, 4 ALL, 5 GO and the next round, 6 the next round -/
def dk (Z : NT) (s : RS) (a : Nat) : Nat :=
  if wy s.sw (s.rd a) = 0 then (if mayS s a then 1 else if s.sd a && fullS Z.n s 2 a (nbB Z a) then 6 else 0)
  else if wy s.sw (s.rd a) = 1 then (if mayS s a && fullS Z.n s 3 a (kid Z 1 a) then (if (Z.par 1 a).isNone then 5 else 2) else if anyS Z.n s 4 a then 5 else 0)
  else (if mayS s a && fullS Z.n s 3 a (kid Z 2 a) then (if (Z.par 2 a).isNone then 3 else 2) else if !s.td a then (if anyS Z.n s 5 a then 3 else 0)
    else if !s.al a && (fullS Z.n s 7 a (kid Z 2 a) && fullS Z.n s 6 a (Z.ch a)) then (if (Z.par 2 a).isNone then 5 else 4) else if anyS Z.n s 4 a then 5 else 0)
/-- letters of one kind to some nodes -/
def toL (K a k : Nat) (l : List Nat) : List Lt := l.map (fun b => (K, a, b, k, 0))
def outD (Z : NT) (s : RS) (a d : Nat) : List Lt :=
  if d = 1 then toL 2 a (s.rd a) (nbl Z.lk a) else if d = 2 then toL 3 a (s.rd a) [(Z.par (wy s.sw (s.rd a)) a).getD 0]
  else if d = 3 then toL 5 a (s.rd a) (kids Z 2 a) ++ toL 6 a (s.rd a) ((nbl Z.lk a).filter (Z.ch a)) else if d = 4 then toL 7 a (s.rd a) [(Z.par 2 a).getD 0]
  else if d = 5 then toL 4 a (s.rd a) (kids Z (wy s.sw (s.rd a)) a) else []
/-- a deed that leaves the round as it is -/
def spk (Z : NT) (s : RS) (a d : Nat) : RS :=
  (s.rd, s.op, s.ps, if d ≤ 3 then setB s.sd a true else s.sd, if d = 3 then setB s.td a true else s.td, if d = 4 then setB s.al a true else s.al, s.hd, s.lt ++ outD Z s a d, ctAdd s.ct (outD Z s a d), s.st, s.wi, s.sw)
/-- the program's letters of a round -/
def pgL (lk : Lk) (a k : Nat) (x : Nat → Option Int32) : List Lt := (List.range (nbl lk a).length).filterMap (fun p => (x p).map (fun v => (0, a, (nbl lk a).getD p 0, k, v)))
def mxW (rd : Nat → Nat) (a : Nat) : Nat → Nat → Nat
  | 0, v => v
  | m + 1, v => max (mxW rd a m v) (rd a - rd m)
def nxRd (s : RS) (a : Nat) : Nat → Nat := fun y => if y = a then s.rd a + 1 else s.rd y
def nxEx (Z : NT) (s : RS) (a : Nat) : IS := exAt Z.lk Z.pr (s.rd a + 1) a s.ps
def nxPg (Z : NT) (s : RS) (a : Nat) : List Lt := pgL Z.lk a (s.rd a + 1) (nxEx Z s a).2
/-- the next round -/
def nxt (Z : NT) (s : RS) (a : Nat) (go : List Lt) : RS :=
  (nxRd s a, (fun y => if y = a then (nxPg Z s a).length else s.op y), (rgSet s.ps.1 a (nxEx Z s a).1, bxClr s.ps.2 (s.rd a % 2) a), setB s.sd a false, setB s.td a false, setB s.al a false, (fun K q b c => if b = a ∧ q = s.rd a % 2 then false else s.hd K q b c),
    (s.lt ++ go) ++ nxPg Z s a, ctAdd (ctAdd s.ct go) (nxPg Z s a), s.st, mxW (nxRd s a) a Z.n s.wi, s.sw)
def dd (Z : NT) (s : RS) (a d : Nat) : RS := if d ≤ 4 then spk Z s a d else nxt Z s a (outD Z s a d)
/-- all that it can do -/
def actF (Z : NT) (a : Nat) : Nat → RS → RS
  | 0, s => s
  | f + 1, s => if dk Z s a = 0 then s else actF Z a f (dd Z s a (dk Z s a))
/-- what holds of a run -/
def Inv (Z : NT) (s : RS) : Prop :=
  Iv Z.n Z.lk Z.par Z.grp Z.ch (wy s.sw) s.rd s.sd s.td s.al s.hd ∧ Il Z.lk Z.par Z.ch (wy s.sw) s.rd s.sd s.td s.al s.hd s.lt ∧
  (∀ a, s.sd a = true → s.op a = 0 ∧ s.rd a < s.st) ∧ (∀ a, s.rd a ≤ s.st) ∧ s.st ≤ 500 ∧ (∀ a, s.op a = s.lt.countP (owes a)) ∧ (∀ x y, x < Z.n → y < Z.n → s.rd x ≤ s.rd y + s.wi) ∧ (∀ k, wy s.sw k ≤ 2) ∧ ∀ x, Z.n ≤ x → s.rd x = 0
theorem fullS_iff {n : Nat} {s : RS} {K a : Nat} {S : Nat → Bool} : fullS n s K a S = true ↔ ∀ b, b < n → S b = true → s.hd K (s.rd a % 2) a b = true := by
  unfold fullS hrd
  rw [List.all_eq_true]
  constructor
  · intro h b hb hs
    have := h b (List.mem_range.mpr hb)
    simpa [hs] using this
  · intro h b hb
    cases hs : S b with
    | false => rfl
    | true => simp [h b (List.mem_range.mp hb) hs]
theorem anyS_iff {n : Nat} {s : RS} {K a : Nat} : anyS n s K a = true ↔ ∃ b, b < n ∧ s.hd K (s.rd a % 2) a b = true := by
  unfold anyS hrd
  rw [List.any_eq_true]
  constructor
  · rintro ⟨b, hb, h⟩; exact ⟨b, List.mem_range.mp hb, h⟩
  · rintro ⟨b, hb, h⟩; exact ⟨b, List.mem_range.mpr hb, h⟩
theorem mayS_iff {s : RS} {a : Nat} : mayS s a = true ↔ s.sd a = false ∧ s.op a = 0 ∧ s.rd a < s.st := by
  unfold mayS
  simp
theorem kid_iff {Z : NT} {v a b : Nat} : kid Z v a b = true ↔ Z.par v b = some a := by unfold kid; exact beq_iff_eq
theorem kids_mem {Z : NT} (hZ : ZOk Z.n Z.lk Z.par Z.grp Z.ch) {v a b : Nat} : b ∈ kids Z v a ↔ Z.par v b = some a := by
  unfold kids
  rw [List.mem_filter, kid_iff, List.mem_range]
  constructor
  · exact fun h => h.2
  · intro h
    obtain ⟨dep, hdep⟩ := hZ.2.2.1
    exact ⟨(hZ.1.nb (hdep v b a h).1).2.1, h⟩
theorem toL_mem {K a k : Nat} {l : List Nat} {x : Lt} : x ∈ toL K a k l ↔ ∃ b, b ∈ l ∧ x = (K, a, b, k, 0) := by
  unfold toL
  rw [List.mem_map]
  constructor
  · rintro ⟨b, h1, h2⟩; exact ⟨b, h1, h2.symm⟩
  · rintro ⟨b, h1, h2⟩; exact ⟨b, h1, h2.symm⟩
theorem toL_pw {K a k : Nat} {l : List Nat} (hK : 2 ≤ K) (h : l.Nodup) : (toL K a k l).Pairwise (fun x y => ky x ≠ ky y) := by
  unfold toL
  rw [List.pairwise_map]
  refine List.Pairwise.imp (fun {x y} hne z => hne ?_) h
  unfold ky at z
  simp only at z
  rw [if_neg (by omega), if_neg (by omega), if_neg (by omega), if_neg (by omega)] at z
  simpa using z
theorem toL_owes {K a k c : Nat} {l : List Nat} (hK : 2 ≤ K) : (toL K a k l).countP (owes c) = 0 := by
  rw [List.countP_eq_zero]
  intro x hx
  obtain ⟨b, -, rfl⟩ := toL_mem.mp hx
  unfold owes
  simp
  omega
theorem outD_two {Z : NT} {s : RS} {a d : Nat} {x : Lt} (h : x ∈ outD Z s a d) : 2 ≤ x.1 ∧ x.1 ≤ 7 ∧ x.2.1 = a ∧ x.2.2.2.1 = s.rd a := by
  unfold outD at h
  split at h
  · obtain ⟨b, -, rfl⟩ := toL_mem.mp h; exact ⟨by simp, by simp, rfl, rfl⟩
  split at h
  · obtain ⟨b, -, rfl⟩ := toL_mem.mp h; exact ⟨by simp, by simp, rfl, rfl⟩
  split at h
  · rcases List.mem_append.mp h with h | h
    · obtain ⟨b, -, rfl⟩ := toL_mem.mp h; exact ⟨by simp, by simp, rfl, rfl⟩
    · obtain ⟨b, -, rfl⟩ := toL_mem.mp h; exact ⟨by simp, by simp, rfl, rfl⟩
  split at h
  · obtain ⟨b, -, rfl⟩ := toL_mem.mp h; exact ⟨by simp, by simp, rfl, rfl⟩
  split at h
  · obtain ⟨b, -, rfl⟩ := toL_mem.mp h; exact ⟨by simp, by simp, rfl, rfl⟩
  · cases h
theorem outD_owes {Z : NT} {s : RS} {a d c : Nat} : (outD Z s a d).countP (owes c) = 0 := by
  rw [List.countP_eq_zero]
  intro x hx
  have := outD_two hx
  unfold owes
  simp
  omega
theorem kids_nd (Z : NT) (v a : Nat) : (kids Z v a).Nodup := by unfold kids; exact List.Pairwise.filter _ List.nodup_range
theorem outD_pw {Z : NT} (hZ : ZOk Z.n Z.lk Z.par Z.grp Z.ch) {s : RS} {a d : Nat} : (outD Z s a d).Pairwise (fun x y => ky x ≠ ky y) := by
  have hnb := hZ.1.2.2.2 a
  unfold outD
  split
  · exact toL_pw (by decide) hnb
  split
  · exact toL_pw (by decide) (by simp)
  split
  · refine List.pairwise_append.mpr ⟨toL_pw (by decide) (kids_nd Z 2 a), toL_pw (by decide) (List.Pairwise.filter _ hnb), fun x hx y hy e => ?_⟩
    obtain ⟨b, -, rfl⟩ := toL_mem.mp hx
    obtain ⟨c, -, rfl⟩ := toL_mem.mp hy
    simp [ky] at e
  split
  · exact toL_pw (by decide) (by simp)
  split
  · exact toL_pw (by decide) (kids_nd Z _ a)
  · exact List.Pairwise.nil
/-- a deed that leaves the round keeps what holds -/
theorem inv_spk {Z : NT} (hZ : ZOk Z.n Z.lk Z.par Z.grp Z.ch) {s : RS} (h : Inv Z s) {a d : Nat} (hd4 : d ≤ 4)
    (hI : Iv Z.n Z.lk Z.par Z.grp Z.ch (wy s.sw) s.rd (spk Z s a d).sd (spk Z s a d).td (spk Z s a d).al s.hd)
    (hS : ∀ x ∈ outD Z s a d, ¬ Snt Z.lk Z.par Z.ch (wy s.sw) s.rd s.sd s.td s.al x.1 x.2.1 x.2.2.1 x.2.2.2.1 ∧ Snt Z.lk Z.par Z.ch (wy s.sw) s.rd (spk Z s a d).sd (spk Z s a d).td (spk Z s a d).al x.1 x.2.1 x.2.2.1 x.2.2.2.1 ∧ s.rd x.2.2.1 ≤ s.rd a)
    (hs : ∀ b, (spk Z s a d).sd b = true → s.op b = 0 ∧ s.rd b < s.st) : Inv Z (spk Z s a d) := by
  have hI0 := h.1
  have h500 : ∀ a, s.rd a ≤ 500 := fun a => Nat.le_trans (h.2.2.2.1 a) h.2.2.2.2.1
  have up1 : ∀ y, s.sd y = true → (spk Z s a d).sd y = true := fun y q => by
    show (if d ≤ 3 then setB s.sd a true else s.sd) y = true
    split
    · unfold setB; split <;> simp_all
    · exact q
  have up2 : ∀ y, s.td y = true → (spk Z s a d).td y = true := fun y q => by
    show (if d = 3 then setB s.td a true else s.td) y = true
    split
    · unfold setB; split <;> simp_all
    · exact q
  have up3 : ∀ y, s.al y = true → (spk Z s a d).al y = true := fun y q => by
    show (if d = 4 then setB s.al a true else s.al) y = true
    split
    · unfold setB; split <;> simp_all
    · exact q
  refine ⟨hI, ?_, hs, h.2.2.2.1, h.2.2.2.2.1, fun c => ?_, h.2.2.2.2.2.2.1, h.2.2.2.2.2.2.2⟩
  · refine h.2.1.add (fun x hx => ?_) (fun x hx => ?_) (outD_pw hZ) (fun x hx y hy => ?_)
    · obtain ⟨q1, q2, q3, q4⟩ := h.2.1.1 x hx
      exact ⟨q1, q2, q3, fun z => ⟨(q4 z).1.up up1 up2 up3, (q4 z).2⟩⟩
    · obtain ⟨g1, g2, g3⟩ := hS x hx
      obtain ⟨k1, k2, k3, k4⟩ := outD_two hx
      have hl := (g2.lnk hZ).1
      have hr := hI0.1 _ _ hl
      rw [k3] at hr
      refine ⟨k2, by rw [k4]; exact h500 a, hl, fun _ => ⟨g2, by rw [k4]; exact g3, ?_⟩⟩
      exact hI0.fresh g1 (by rw [k4]; exact g3) (by rw [k4]; exact hr)
    · exact h.2.1.ways hx (outD_two hy).1 (hS y hy).1
  · show s.op c = (s.lt ++ outD Z s a d).countP (owes c)
    rw [List.countP_append, outD_owes, Nat.add_zero]
    exact h.2.2.2.2.2.1 c
theorem setB_t {f : Nat → Bool} {a : Nat} : setB f a true = fun y => if y = a then true else f y := rfl
theorem setB_f {f : Nat → Bool} {a : Nat} : setB f a false = fun y => if y = a then false else f y := rfl
