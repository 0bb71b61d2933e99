/-! ===== the class's run: what it holds, and what a node is to do ===== -/
def StC (Z : NT) (mu : jM) : Prop :=
  NetC Z.n Z.lk mu ∧ ProgC Z.pr mu ∧ ∀ x, x < Z.n → mu 34 x = parI (Z.par 1 x) ∧ mu 39 x = parI (Z.par 2 x) ∧ ∀ i, i < 32 → bt (mu 36 x) i = kid Z 1 x i ∧ bt (mu 41 x) i = kid Z 2 x i ∧ bt (mu 43 x) i = Z.ch x i
def RdC (rd op : Nat → Nat) (mu : jM) : Prop := ∀ a, a < 24 → mu 45 a = nI (rd a) ∧ mu 46 a = nI (op a)
def PsC (ps : PS) (mu : jM) : Prop := (∀ j, j < 192 → mu 21 j = ps.1 j) ∧ BoxC 22 23 ps.2 mu
def FlC (sd td al : Nat → Bool) (mu : jM) : Prop := ∀ i, i < 32 → bt (mu 19 8) i = sd i ∧ bt (mu 19 9) i = td i ∧ bt (mu 19 10) i = al i
def HdC (hd : Nat → Nat → Nat → Nat → Bool) (mu : jM) : Prop := ∀ K q b i, 2 ≤ K → K ≤ 7 → q < 2 → b < 24 → i < 32 → bt (mu (48 + K) (q * 24 + b)) i = hd K q b i
def SwC (sw : List (Nat × Nat)) (mu : jM) : Prop := mu 19 15 = nI sw.length ∧ ∀ j e, sw[j]? = some e → mu 56 j = nI e.1 ∧ mu 57 j = nI e.2
def RepC (s : RS) (mu : jM) : Prop := RdC s.rd s.op mu ∧ PsC s.ps mu ∧ FlC s.sd s.td s.al mu ∧ HdC s.hd mu ∧ LetC s.lt s.ct mu ∧ (mu 19 11 = nI s.st ∧ mu 19 12 = nI s.wi) ∧ SwC s.sw mu
/-- small numbers -/
theorem Inv.bd {Z : NT} (hZ : ZOk Z.n Z.lk Z.par Z.grp Z.ch) {s : RS} (h : Inv Z s) : s.lt.length ≤ 456 ∧ s.st ≤ 500 ∧ ∀ a, s.rd a ≤ 500 ∧ s.op a ≤ 456 := by
  have hl := h.2.1.len hZ h.1.1
  refine ⟨hl, h.2.2.2.2.1, fun a => ⟨Nat.le_trans (h.2.2.2.1 a) h.2.2.2.2.1, ?_⟩⟩
  rw [h.2.2.2.2.2.1 a]
  exact Nat.le_trans List.countP_le_length hl
theorem Inv.hr {Z : NT} {s : RS} (h : Inv Z s) {K a b : Nat} (q : hrd s K a b = true) : Snt Z.lk Z.par Z.ch (wy s.sw) s.rd s.sd s.td s.al K b a (s.rd a) := h.1.now q
theorem eq_full {n : Nat} (hn : n ≤ 24) {s : RS} {K a : Nat} {S : Nat → Bool} {v m : Int32} (hv : ∀ i, i < 32 → bt v i = hrd s K a i) (hm : ∀ i, i < 32 → bt m i = S i) (hsub : ∀ i, hrd s K a i = true → S i = true) (hS : ∀ i, S i = true → i < n) : v = m ↔ fullS n s K a S = true := by
  rw [fullS_iff]
  constructor
  · intro e b hb hs
    have h1 := hv b (by omega)
    rw [e, hm b (by omega), hs] at h1
    exact h1.symm
  · intro h
    apply b_ext
    intro i hi
    rw [hv i hi, hm i hi]
    cases hs : S i with
    | true => exact h i (hS i hs) hs
    | false =>
      cases hh : hrd s K a i with
      | false => rfl
      | true => rw [hsub i hh] at hs; cases hs
theorem eq_any {n : Nat} (hn : n ≤ 24) {s : RS} {K a : Nat} {v : Int32} (hv : ∀ i, i < 32 → bt v i = hrd s K a i) (hS : ∀ i, hrd s K a i = true → i < n) : v = 0 ↔ anyS n s K a = false := by
  constructor
  · intro e
    cases h : anyS n s K a with
    | false => rfl
    | true =>
      obtain ⟨b, hb, hq⟩ := anyS_iff.mp h
      have h1 := hv b (by omega)
      rw [e, b_0] at h1
      rw [show hrd s K a b = true from hq] at h1
      cases h1
  · intro e
    apply b_ext
    intro i hi
    rw [hv i hi, b_0]
    cases hh : hrd s K a i with
    | false => rfl
    | true =>
      have : anyS n s K a = true := anyS_iff.mpr ⟨i, hS i hh, hh⟩
      rw [e] at this; cases this
theorem parI_nn {n : Nat} (hn : n ≤ 24) {o : Option Nat} (h : ∀ y, o = some y → y < n) : 0 ≤ parI o ↔ o.isNone = false := by
  cases o with
  | none => simp [parI]
  | some y =>
    have := h y rfl
    simp only [parI, Option.isNone_some]
    rw [nL0]
    simp only [iff_true]
    exact nI_le (by omega) (by omega)
section C60
variable {l : Launch} {G : jG} {mu : jM}
theorem c_mayAnnounce (hl : l.stackTraces = false) (hG : jGok G) {Z : NT} (hZ : ZOk Z.n Z.lk Z.par Z.grp Z.ch) {s : RS} (hI : Inv Z s) (hR : RepC s mu) {a : Nat} (ha : a < 24) : jCi l G yX5_mayAnnounce cX5_mayAnnounce 2 2 (some .boolean) [.ref 19, .int (nI a)] mu (fun v mu' => tf v (mayS s a = true) ∧ mu' = mu) := by
  refine jCi.of (pad := 0) hl hG (by decide) (Nat.le_of_ble_eq_true rfl) (fun X h => ?_)
  show J l G X _ 2 0 [.ref 19, .int (nI a)] [] mu 0
  obtain ⟨b1, b2, b3⟩ := hI.bd hZ
  have hb := b3 a
  have hca : (nI a).toNatClampNeg = a := nI_clamp (by omega)
  have va : vp_in (nI a) 24 := vp_in_nI ha (by omega)
  refine rX5_mayAnnounce_0 h ?_
  refine rX5_mayAnnounce_5 h (c_isIn hl hG (S := s.sd) (fun i hi => (hR.2.2.1 i hi).1) (by omega)) (by decide) (Nat.zero_le _) (fun v m1 e1 => ?_)
  obtain ⟨hv, rfl⟩ := e1
  have e46 : (m1 46 (nI a).toNatClampNeg = 0) ↔ s.op a = 0 := by rw [hca, (hR.1 a ha).2, nL0, nI_eq (by omega) (by omega)]
  have e45 : (m1 19 11 ≤ m1 45 (nI a).toNatClampNeg) ↔ s.st ≤ s.rd a := by rw [hca, (hR.1 a ha).1, hR.2.2.2.2.2.1.1, nI_leI (by omega) (by omega)]
  refine rX5_mayAnnounce_8 h (fun _ => va) (fun _ _ => va) (fun q => ?_) (fun q1 q2 => ?_) (fun q1 q2 q3 => ?_) (fun q1 q2 q3 => ?_)
  · refine rX5_mayAnnounce_37 h (J_iret h dX5_mayAnnounce_38 rfl ⟨tf.zero (fun z => ?_), rfl⟩)
    rw [mayS_iff, hv.yes q] at z; cases z.1
  · refine rX5_mayAnnounce_37 h (J_iret h dX5_mayAnnounce_38 rfl ⟨tf.zero (fun z => ?_), rfl⟩)
    exact q2 (e46.mpr (mayS_iff.mp z).2.1)
  · refine rX5_mayAnnounce_37 h (J_iret h dX5_mayAnnounce_38 rfl ⟨tf.zero (fun z => ?_), rfl⟩)
    have := (mayS_iff.mp z).2.2
    have := e45.mp q3
    omega
  · refine J_iret h dX5_mayAnnounce_38 rfl ⟨tf.one (mayS_iff.mpr ⟨by simpa using hv.no q1, e46.mp q2, ?_⟩), rfl⟩
    rcases Nat.lt_or_ge (s.rd a) s.st with z | z
    · exact z
    · exact absurd (e45.mpr z) q3
theorem c_heardBy (hl : l.stackTraces = false) (hG : jGok G) {s : RS} (hR : RepC s mu) {a K : Nat} (ha : a < 24) (hr : s.rd a ≤ 500) (hK : 2 ≤ K) (hK7 : K ≤ 7) : jCi l G yX5_heardBy cX5_heardBy 3 2 (some .int) [.ref 19, .int (nI a), .int (nI K)] mu (fun v mu' => (∀ i, i < 32 → bt v i = hrd s K a i) ∧ mu' = mu) := by
  refine jCi.of (pad := 0) hl hG (by decide) (Nat.le_of_ble_eq_true rfl) (fun X h => ?_)
  show J l G X _ 3 0 [.ref 19, .int (nI a), .int (nI K)] [] mu 0
  have hca : (nI a).toNatClampNeg = a := nI_clamp (by omega)
  have va : vp_in (nI a) 24 := vp_in_nI ha (by omega)
  have cK : K = 2 ∨ K = 3 ∨ K = 4 ∨ K = 5 ∨ K = 6 ∨ K = 7 := by omega
  have hr1 : [48, 49, 50, 51, 52, 53, 54, 55][(nI K).toNatClampNeg]? = some (48 + K) := by rw [nI_clamp (by omega)]; rcases cK with rfl | rfl | rfl | rfl | rfl | rfl <;> rfl
  have hs : jShp[48 + K]? = some (.inr (0, 48, fun _ => none)) := by rcases cK with rfl | rfl | rfl | rfl | rfl | rfl <;> rfl
  refine rX5_heardBy_0 (r1 := 48 + K) h (vp_in_nI (by omega) (by omega)) hr1 hs va ?_
  rw [hca, (hR.1 a ha).1]
  refine rX5_heardBy_13 h hs (c_boxOf5 hl hG a (by omega)) (by decide) (Nat.zero_le _) (fun v m1 e1 => ?_)
  obtain ⟨rfl, rfl⟩ := e1
  have hbx := bxN_lt (k := s.rd a) ha
  refine rX5_heardBy_16 h hs (vp_in_nI hbx (by omega)) ?_
  rw [nI_clamp (by omega)]
  refine J_iret h dX5_heardBy_17 rfl ⟨fun i hi => ?_, rfl⟩
  exact hR.2.2.2.1 K (s.rd a % 2) a i hK hK7 (by omega) ha hi
theorem c_nextByNodes (hl : l.stackTraces = false) (hG : jGok G) {Z : NT} (hZ : ZOk Z.n Z.lk Z.par Z.grp Z.ch) {s : RS} (hI : Inv Z s) (hS : StC Z mu) (hR : RepC s mu) {a : Nat} (ha : a < Z.n) (hw : wy s.sw (s.rd a) = 0) : jCi l G yX5_nextByNodes cX5_nextByNodes 3 3 (some .int) [.ref 19, .int (nI a)] mu (fun v mu' => v = nI (dk Z s a) ∧ mu' = mu) := by
  refine jCi.of (pad := 1) hl hG (by decide) (Nat.le_of_ble_eq_true rfl) (fun X h => ?_)
  show J l G X _ 3 0 [.ref 19, .int (nI a), .float 0] [] mu 0
  have hn24 := hZ.1.1
  obtain ⟨b1, b2, b3⟩ := hI.bd hZ
  have ha24 : a < 24 := by omega
  have hca : (nI a).toNatClampNeg = a := nI_clamp (by omega)
  have hd : dk Z s a = if mayS s a then 1 else if s.sd a && fullS Z.n s 2 a (nbB Z a) then 6 else 0 := by unfold dk; rw [if_pos hw]
  refine rX5_nextByNodes_0 h ?_
  refine rX5_nextByNodes_2 h (c_mayAnnounce hl hG hZ hI hR ha24) (by decide) (Nat.zero_le _) (fun v m1 e1 => ?_)
  obtain ⟨hv, rfl⟩ := e1
  refine rX5_nextByNodes_5 h (fun q => ?_) (fun q => ?_)
  · have hm := hv.no q
    rw [if_neg hm] at hd
    refine rX5_nextByNodes_15 h (c_isIn hl hG (S := s.sd) (fun i hi => (hR.2.2.1 i hi).1) (by omega)) (by decide) (Nat.zero_le _) (fun v m2 e2 => ?_)
    obtain ⟨hv2, rfl⟩ := e2
    refine rX5_nextByNodes_18 h (fun q2 => ?_) (fun q2 => ?_)
    · have : s.sd a = false := by simpa using hv2.no q2
      rw [this] at hd
      exact rX5_nextByNodes_43 h (J_iret h dX5_nextByNodes_55 rfl ⟨by rw [hd]; rfl, rfl⟩)
    · rw [hv2.yes q2] at hd
      refine rX5_nextByNodes_24 h (c_heardBy hl hG hR ha24 (b3 a).1 (K := 2) (by omega) (by omega)) (by decide) (Nat.zero_le _) (fun v m3 e3 => ?_)
      obtain ⟨hv3, rfl⟩ := e3
      have hf := eq_full hn24 (S := nbB Z a) hv3 (fun i hi => nbl_bit hZ.1 hS.1.2.2.2 ha24 hi) (fun i hi => by
        have := (snt2.mp (hI.hr hi)).2.1
        unfold nbB
        simpa using (nbl_sym hZ.1).mp this) (fun i hi => by unfold nbB at hi; exact (hZ.1.nb (by simpa using hi)).2.1)
      refine rX5_nextByNodes_27 h (vp_in_nI ha24 (by omega)) (fun q3 => ?_) (fun q3 => ?_)
      · rw [hca, hf] at q3
        rw [Bool.not_eq_true] at q3
        rw [q3] at hd
        exact rX5_nextByNodes_43 h (J_iret h dX5_nextByNodes_55 rfl ⟨by rw [hd]; rfl, rfl⟩)
      · rw [hca, hf] at q3
        rw [q3] at hd
        exact J_iret h dX5_nextByNodes_55 rfl ⟨by rw [hd]; rfl, rfl⟩
  · rw [if_pos (hv.yes q)] at hd
    exact J_iret h dX5_nextByNodes_9 rfl ⟨by rw [hd]; rfl, rfl⟩
theorem c_nextByTree (hl : l.stackTraces = false) (hG : jGok G) {Z : NT} (hZ : ZOk Z.n Z.lk Z.par Z.grp Z.ch) {s : RS} (hI : Inv Z s) (hS : StC Z mu) (hR : RepC s mu) {a : Nat} (ha : a < Z.n) (hw : wy s.sw (s.rd a) = 1) : jCi l G yX5_nextByTree cX5_nextByTree 2 3 (some .int) [.ref 19, .int (nI a)] mu (fun v mu' => v = nI (dk Z s a) ∧ mu' = mu) := by
  refine jCi.of (pad := 0) hl hG (by decide) (Nat.le_of_ble_eq_true rfl) (fun X h => ?_)
  show J l G X _ 2 0 [.ref 19, .int (nI a)] [] mu 0
  have hn24 := hZ.1.1
  obtain ⟨b1, b2, b3⟩ := hI.bd hZ
  obtain ⟨dep, hdep⟩ := hZ.2.2.1
  have hpn : ∀ v x y, Z.par v x = some y → x < Z.n ∧ y < Z.n := fun v x y q => by have := hZ.1.nb (hdep v x y q).1; exact ⟨this.2.1, this.1⟩
  have ha24 : a < 24 := by omega
  have hca : (nI a).toNatClampNeg = a := nI_clamp (by omega)
  have hd : dk Z s a = if mayS s a && fullS Z.n s 3 a (kid Z 1 a) then (if (Z.par 1 a).isNone then 5 else 2) else if anyS Z.n s 4 a then 5 else 0 := by unfold dk; rw [if_neg (by omega), if_pos hw]
  have go : ∀ (m1 : jM), m1 = mu → (mayS s a && fullS Z.n s 3 a (kid Z 1 a)) = false → J l G X (jRi G X (fun v mu' => v = nI (dk Z s a) ∧ mu' = mu)) 2 44 [.ref 19, .int (nI a)] [] m1 0 := by
    intro m1 e hm
    subst e
    rw [hm] at hd
    refine rX5_nextByTree_44 h ?_
    refine rX5_nextByTree_47 h (c_heardBy hl hG hR ha24 (b3 a).1 (K := 4) (by omega) (by omega)) (by decide) (Nat.zero_le _) (fun v m3 e3 => ?_)
    obtain ⟨hv3, rfl⟩ := e3
    have hf := eq_any hn24 hv3 (fun i hi => (hpn _ _ _ (snt4.mp (hI.hr hi)).1).2)
    refine rX5_nextByTree_50 h (fun q => ?_) (fun q => ?_)
    · rw [hf] at q
      rw [q] at hd
      exact J_iret h dX5_nextByTree_58 rfl ⟨by rw [hd]; rfl, rfl⟩
    · rw [hf, Bool.not_eq_false] at q
      rw [q] at hd
      exact J_iret h dX5_nextByTree_58 rfl ⟨by rw [hd]; rfl, rfl⟩
  refine rX5_nextByTree_0 h ?_
  refine rX5_nextByTree_2 h (c_mayAnnounce hl hG hZ hI hR ha24) (by decide) (Nat.zero_le _) (fun v m1 e1 => ?_)
  obtain ⟨hv, rfl⟩ := e1
  refine rX5_nextByTree_5 h (fun q => ?_) (fun q => ?_)
  · have := hv.no q
    rw [Bool.not_eq_true] at this
    exact go _ rfl (by rw [this]; rfl)
  · have hm := hv.yes q
    refine rX5_nextByTree_11 h (c_heardBy hl hG hR ha24 (b3 a).1 (K := 3) (by omega) (by omega)) (by decide) (Nat.zero_le _) (fun v m3 e3 => ?_)
    obtain ⟨hv3, rfl⟩ := e3
    have hf := eq_full hn24 (S := kid Z 1 a) hv3 (fun i hi => ((hS.2.2 a ha).2.2 i hi).1) (fun i hi => by
      have := (snt3.mp (hI.hr hi)).1
      rw [hw] at this
      exact kid_iff.mpr this) (fun i hi => (hpn _ _ _ (kid_iff.mp hi)).1)
    have hp := parI_nn hn24 (o := Z.par 1 a) (fun y q => (hpn _ _ _ q).2)
    refine rX5_nextByTree_14 h (vp_in_nI ha24 (by omega)) (fun _ => vp_in_nI ha24 (by omega)) (fun q3 => ?_) (fun q3 q4 => ?_) (fun q3 q4 => ?_)
    · rw [hca, hf, Bool.not_eq_true] at q3
      exact go _ rfl (by rw [q3, Bool.and_false])
    · rw [hca, hf] at q3
      rw [hca, (hS.2.2 a ha).1, hp] at q4
      rw [hm, q3, q4] at hd
      exact J_iret h dX5_nextByTree_43 rfl ⟨by rw [hd]; rfl, rfl⟩
    · rw [hca, hf] at q3
      rw [hca, (hS.2.2 a ha).1, hp, Bool.not_eq_false] at q4
      rw [hm, q3, q4] at hd
      exact J_iret h dX5_nextByTree_43 rfl ⟨by rw [hd]; rfl, rfl⟩
theorem c_nextByClusters (hl : l.stackTraces = false) (hG : jGok G) {Z : NT} (hZ : ZOk Z.n Z.lk Z.par Z.grp Z.ch) {s : RS} (hI : Inv Z s) (hS : StC Z mu) (hR : RepC s mu) {a : Nat} (ha : a < Z.n) (hw : wy s.sw (s.rd a) = 2) : jCi l G yX5_nextByClusters cX5_nextByClusters 4 3 (some .int) [.ref 19, .int (nI a)] mu (fun v mu' => v = nI (dk Z s a) ∧ mu' = mu) := by
  refine jCi.of (pad := 2) hl hG (by decide) (Nat.le_of_ble_eq_true rfl) (fun X h => ?_)
  show J l G X _ 4 0 [.ref 19, .int (nI a), .float 0, .float 0] [] mu 0
  have hn24 := hZ.1.1
  obtain ⟨b1, b2, b3⟩ := hI.bd hZ
  obtain ⟨dep, hdep⟩ := hZ.2.2.1
  have hpn : ∀ v x y, Z.par v x = some y → x < Z.n ∧ y < Z.n := fun v x y q => by have := hZ.1.nb (hdep v x y q).1; exact ⟨this.2.1, this.1⟩
  have ha24 : a < 24 := by omega
  have hca : (nI a).toNatClampNeg = a := nI_clamp (by omega)
  have va : vp_in (nI a) 24 := vp_in_nI ha24 (by omega)
  have hd : dk Z s a = if mayS s a && fullS Z.n s 3 a (kid Z 2 a) then (if (Z.par 2 a).isNone then 3 else 2) else if !s.td a then (if anyS Z.n s 5 a then 3 else 0)
    else if !s.al a && (fullS Z.n s 7 a (kid Z 2 a) && fullS Z.n s 6 a (Z.ch a)) then (if (Z.par 2 a).isNone then 5 else 4) else if anyS Z.n s 4 a then 5 else 0 := by unfold dk; rw [if_neg (by omega), if_neg (by omega)]
  have hp := parI_nn hn24 (o := Z.par 2 a) (fun y q => (hpn _ _ _ q).2)
  have main : ∀ x3 : Int32, (x3 = 0 ↔ (Z.par 2 a).isNone = false) → J l G X (jRi G X (fun v mu' => v = nI (dk Z s a) ∧ mu' = mu)) 4 36 [.ref 19, .int (nI a), .int (mu 41 a), .int x3] [.int (nI a), .ref 19] mu 0 := by
    intro x3 hx3
    have go : (mayS s a && fullS Z.n s 3 a (kid Z 2 a)) = false → s.td a = true → (!s.al a && (fullS Z.n s 7 a (kid Z 2 a) && fullS Z.n s 6 a (Z.ch a))) = false → J l G X (jRi G X (fun v mu' => v = nI (dk Z s a) ∧ mu' = mu)) 4 139 [.ref 19, .int (nI a), .int (mu 41 a), .int x3] [] mu 0 := by
      intro hm ht hf
      rw [hm, ht, hf] at hd
      refine rX5_nextByClusters_139 h ?_
      refine rX5_nextByClusters_142 h (c_heardBy hl hG hR ha24 (b3 a).1 (K := 4) (by omega) (by omega)) (by decide) (Nat.zero_le _) (fun v m3 e3 => ?_)
      obtain ⟨hv3, rfl⟩ := e3
      have hf := eq_any hn24 hv3 (fun i hi => (hpn _ _ _ (snt4.mp (hI.hr hi)).1).2)
      refine rX5_nextByClusters_145 h (fun q => ?_) (fun q => ?_)
      · rw [hf] at q
        rw [q] at hd
        exact J_iret h dX5_nextByClusters_153 rfl ⟨by rw [hd]; rfl, rfl⟩
      · rw [hf, Bool.not_eq_false] at q
        rw [q] at hd
        exact J_iret h dX5_nextByClusters_153 rfl ⟨by rw [hd]; rfl, rfl⟩
    have mid : (mayS s a && fullS Z.n s 3 a (kid Z 2 a)) = false → J l G X (jRi G X (fun v mu' => v = nI (dk Z s a) ∧ mu' = mu)) 4 62 [.ref 19, .int (nI a), .int (mu 41 a), .int x3] [] mu 0 := by
      intro hm
      refine rX5_nextByClusters_62 h ?_
      refine rX5_nextByClusters_67 h (c_isIn hl hG (S := s.td) (fun i hi => (hR.2.2.1 i hi).2.1) (by omega)) (by decide) (Nat.zero_le _) (fun v m2 e2 => ?_)
      obtain ⟨hv2, rfl⟩ := e2
      refine rX5_nextByClusters_70 h (fun q => ?_) (fun q => ?_)
      · have ht := hv2.yes q
        refine rX5_nextByClusters_93 h (c_isIn hl hG (S := s.al) (fun i hi => (hR.2.2.1 i hi).2.2) (by omega)) (by decide) (Nat.zero_le _) (fun v m4 e4 => ?_)
        obtain ⟨hv4, rfl⟩ := e4
        refine rX5_nextByClusters_96 h (fun q2 => ?_) (fun q2 => ?_)
        · exact go hm ht (by rw [hv4.yes q2]; rfl)
        · have hal : s.al a = false := by simpa using hv4.no q2
          refine rX5_nextByClusters_103 h (c_heardBy hl hG hR ha24 (b3 a).1 (K := 7) (by omega) (by omega)) (by decide) (Nat.zero_le _) (fun v m3 e3 => ?_)
          obtain ⟨hv3, rfl⟩ := e3
          have hf := eq_full hn24 (S := kid Z 2 a) hv3 (fun i hi => ((hS.2.2 a ha).2.2 i hi).2.1) (fun i hi => kid_iff.mpr (snt7.mp (hI.hr hi)).2.1) (fun i hi => (hpn _ _ _ (kid_iff.mp hi)).1)
          refine rX5_nextByClusters_106 h (fun q3 => ?_) (fun q3 => ?_)
          · rw [hf, Bool.not_eq_true] at q3
            exact go hm ht (by rw [q3, Bool.false_and, Bool.and_false])
          · rw [hf] at q3
            refine rX5_nextByClusters_114 h (c_heardBy hl hG hR ha24 (b3 a).1 (K := 6) (by omega) (by omega)) (by decide) (Nat.zero_le _) (fun v m5 e5 => ?_)
            obtain ⟨hv5, rfl⟩ := e5
            have hf6 := eq_full hn24 (S := Z.ch a) hv5 (fun i hi => ((hS.2.2 a ha).2.2 i hi).2.2) (fun i hi => (hZ.2.2.2.2.1 _ _ (snt6.mp (hI.hr hi)).2.1).2.2) (fun i hi => (hZ.1.nb (hZ.2.2.2.2.1 _ _ hi).1).2.1)
            refine rX5_nextByClusters_117 h va (fun q4 => ?_) (fun q4 q5 => ?_) (fun q4 q5 => ?_)
            · rw [hca, hf6, Bool.not_eq_true] at q4
              exact go hm ht (by rw [q4, Bool.and_false, Bool.and_false])
            · rw [hca, hf6] at q4
              rw [hm, ht, hal, q3, q4, hx3.mp q5] at hd
              exact J_iret h dX5_nextByClusters_138 rfl ⟨by rw [hd]; rfl, rfl⟩
            · rw [hca, hf6] at q4
              rw [hx3, Bool.not_eq_false] at q5
              rw [hm, ht, hal, q3, q4, q5] at hd
              exact J_iret h dX5_nextByClusters_138 rfl ⟨by rw [hd]; rfl, rfl⟩
      · have ht : s.td a = false := by simpa using hv2.no q
        refine rX5_nextByClusters_76 h (c_heardBy hl hG hR ha24 (b3 a).1 (K := 5) (by omega) (by omega)) (by decide) (Nat.zero_le _) (fun v m3 e3 => ?_)
        obtain ⟨hv3, rfl⟩ := e3
        have hf := eq_any hn24 hv3 (fun i hi => (hpn _ _ _ (snt5.mp (hI.hr hi)).2.1).2)
        refine rX5_nextByClusters_79 h (fun q => ?_) (fun q => ?_)
        · rw [hf] at q
          rw [hm, ht, q] at hd
          exact J_iret h dX5_nextByClusters_87 rfl ⟨by rw [hd]; rfl, rfl⟩
        · rw [hf, Bool.not_eq_false] at q
          rw [hm, ht, q] at hd
          exact J_iret h dX5_nextByClusters_87 rfl ⟨by rw [hd]; rfl, rfl⟩
    refine rX5_nextByClusters_36 h (c_mayAnnounce hl hG hZ hI hR ha24) (by decide) (Nat.zero_le _) (fun v m1 e1 => ?_)
    obtain ⟨hv, rfl⟩ := e1
    refine rX5_nextByClusters_39 h (fun q => ?_) (fun q => ?_)
    · have := hv.no q
      rw [Bool.not_eq_true] at this
      exact mid (by rw [this]; rfl)
    · have hm := hv.yes q
      refine rX5_nextByClusters_45 h (c_heardBy hl hG hR ha24 (b3 a).1 (K := 3) (by omega) (by omega)) (by decide) (Nat.zero_le _) (fun v m3 e3 => ?_)
      obtain ⟨hv3, rfl⟩ := e3
      have hf := eq_full hn24 (S := kid Z 2 a) hv3 (fun i hi => ((hS.2.2 a ha).2.2 i hi).2.1) (fun i hi => by
        have := (snt3.mp (hI.hr hi)).1
        rw [hw] at this
        exact kid_iff.mpr this) (fun i hi => (hpn _ _ _ (kid_iff.mp hi)).1)
      refine rX5_nextByClusters_48 h (fun q3 => ?_) (fun q3 q4 => ?_) (fun q3 q4 => ?_)
      · rw [hf, Bool.not_eq_true] at q3
        exact mid (by rw [q3, Bool.and_false])
      · rw [hf] at q3
        rw [hm, q3, hx3.mp q4] at hd
        exact J_iret h dX5_nextByClusters_61 rfl ⟨by rw [hd]; rfl, rfl⟩
      · rw [hf] at q3
        rw [hx3, Bool.not_eq_false] at q4
        rw [hm, q3, q4] at hd
        exact J_iret h dX5_nextByClusters_61 rfl ⟨by rw [hd]; rfl, rfl⟩
  refine rX5_nextByClusters_0 h va va (fun q => ?_) (fun q => ?_)
  · rw [hca, (hS.2.2 a ha).2.1, hp] at q
    rw [hca]
    exact main 0 (by rw [q]; simp)
  · rw [hca, (hS.2.2 a ha).2.1, hp] at q
    rw [hca]
    exact main 1 (by simp only [q, iff_false]; decide)
theorem c_nextDeed (hl : l.stackTraces = false) (hG : jGok G) {Z : NT} (hZ : ZOk Z.n Z.lk Z.par Z.grp Z.ch) {s : RS} (hI : Inv Z s) (hS : StC Z mu) (hR : RepC s mu) {a : Nat} (ha : a < Z.n) : jCi l G yX5_nextDeed cX5_nextDeed 3 4 (some .int) [.ref 19, .int (nI a), .int (nI (wy s.sw (s.rd a)))] mu (fun v mu' => v = nI (dk Z s a) ∧ mu' = mu) := by
  refine jCi.of (pad := 0) hl hG (by decide) (Nat.le_of_ble_eq_true rfl) (fun X h => ?_)
  show J l G X _ 3 0 [.ref 19, .int (nI a), .int (nI (wy s.sw (s.rd a)))] [] mu 0
  have hw2 := hI.2.2.2.2.2.2.2.1 (s.rd a)
  refine rX5_nextDeed_0 h ?_
  refine rX5_nextDeed_1 h (fun q => ?_) (fun q => ?_) (fun q1 q2 => ?_)
  · rw [nL0, nI_eq (by omega) (by omega)] at q
    refine rX5_nextDeed_28 h ?_
    refine rX5_nextDeed_30 h (c_nextByNodes hl hG hZ hI hS hR ha q) (by decide) (Nat.zero_le _) (fun v m1 e1 => ?_)
    exact J_iret h dX5_nextDeed_33 rfl e1
  · rw [nL1, nI_eq (by omega) (by omega)] at q
    refine rX5_nextDeed_34 h ?_
    refine rX5_nextDeed_36 h (c_nextByTree hl hG hZ hI hS hR ha q) (by decide) (Nat.zero_le _) (fun v m1 e1 => ?_)
    exact J_iret h dX5_nextDeed_39 rfl e1
  · rw [nL0, nI_eq (by omega) (by omega)] at q1
    rw [nL1, nI_eq (by omega) (by omega)] at q2
    refine rX5_nextDeed_40 h ?_
    refine rX5_nextDeed_42 h (c_nextByClusters hl hG hZ hI hS hR ha (by omega)) (by decide) (Nat.zero_le _) (fun v m1 e1 => ?_)
    exact J_iret h dX5_nextDeed_45 rfl e1
/-- the way out of a round: the latest border that fits -/
theorem c_wayOutOf (hl : l.stackTraces = false) (hG : jGok G) {sw : List (Nat × Nat)} (hS : SwC sw mu) (h1 : 1 ≤ sw.length) (h9 : sw.length ≤ 9) (h0 : sw[0]?.map (fun e => e.1) = some 0) (hb : ∀ e ∈ sw, e.1 ≤ 1000 ∧ e.2 ≤ 2) {k : Nat} (hk : k ≤ 500) : jCi l G yX5_wayOutOf cX5_wayOutOf 3 1 (some .int) [.ref 19, .int (nI k)] mu (fun v mu' => v = nI (wy sw k) ∧ mu' = mu) := by
  refine jCi.of (pad := 1) hl hG (by decide) (Nat.le_of_ble_eq_true rfl) (fun X h => ?_)
  show J l G X _ 3 0 [.ref 19, .int (nI k), .float 0] [] mu 0
  refine rX5_wayOutOf_0 h ?_
  rw [hS.1, nL1, nI_sub h1]
  have hsplit : ∀ m, m < sw.length → ∀ e, sw[m]? = some e → wy (sw.take (m + 1)) k = if e.1 ≤ k then e.2 else wy (sw.take m) k := fun m hm e he => by
    rw [List.take_succ_eq_append_getElem hm, wy_app, (List.getElem?_eq_some_iff.mp he).2]
  have loop : ∀ m, m < sw.length → wy (sw.take (m + 1)) k = wy sw k → J l G X (jRi G X (fun v mu' => v = nI (wy sw k) ∧ mu' = mu)) 3 7 [.ref 19, .int (nI k), .int (nI m)] [] mu 0 := by
    intro m
    induction m with
    | zero =>
      intro hm hq
      have z0 : nI 0 ≤ 0 := nI_le (a := 0) (b := 0) (by omega) (by omega)
      refine rX5_wayOutOf_7 h (fun z => absurd z0 z) (fun z => absurd z0 z) (fun _ => ?_) (fun z => absurd z0 z) (fun z => absurd z0 z)
      obtain ⟨e, he⟩ : ∃ e, sw[0]? = some e := ⟨_, List.getElem?_eq_getElem hm⟩
      rw [he] at h0
      have h00 : e.1 = 0 := by simpa using h0
      rw [hsplit 0 hm e he, if_pos (by omega)] at hq
      refine J_iret h dX5_wayOutOf_40 rfl ⟨?_, rfl⟩
      rw [← hq]
      exact (hS.2 0 e he).2
    | succ m ih =>
      intro hm hq
      have z0 : ¬ nI (m + 1) ≤ 0 := nI_ge (a := 0) (by omega) (by omega)
      have hc : (nI (m + 1)).toNatClampNeg = m + 1 := nI_clamp (by omega)
      have vm : vp_in (nI (m + 1)) 9 := vp_in_nI (by omega) (by omega)
      obtain ⟨e, he⟩ : ∃ e, sw[m + 1]? = some e := ⟨_, List.getElem?_eq_getElem hm⟩
      have hbe := hb e (List.mem_of_getElem? he)
      rw [hsplit (m + 1) hm e he] at hq
      refine rX5_wayOutOf_7 h (fun _ => vm) (fun _ _ => vm) (fun z => absurd z z0) (fun _ q => ?_) (fun _ q => ?_)
      · rw [hc, (hS.2 _ e he).1, nI_ltI (by omega) (by omega)] at q
        rw [if_neg (by omega)] at hq
        have e1 : nI (m + 1) + (-1) = nI m := by have q9 := nI_pred m; rw [Int32.sub_eq_add_neg] at q9; exact q9
        rw [e1]
        exact ih (by omega) hq
      · rw [hc, (hS.2 _ e he).1, nI_ltI (by omega) (by omega)] at q
        rw [if_pos (by omega)] at hq
        refine J_iret h dX5_wayOutOf_27 rfl ⟨?_, rfl⟩
        rw [← hq, hc]
        exact (hS.2 _ e he).2
  exact loop (sw.length - 1) (by omega) (by rw [show sw.length - 1 + 1 = sw.length by omega, List.take_length])
end C60
