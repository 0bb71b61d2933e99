/-! ===== the reference's run: what a node does ===== -/
theorem ct_eq {n : Nat} (hn : n ≤ 24) {s : RS} {K a : Nat} {S : Nat → Bool} (hsub : ∀ i, hrd s K a i = true → S i = true) : nI (fb_ct (hrd s K a) n) = nI (fb_ct S n) ↔ fullS n s K a S = true := by
  have h1 := fb_ct_le (hrd s K a) n
  have h2 := fb_ct_le S n
  rw [nI_eq (by omega) (by omega), ct_full (fun k _ q => hsub k q), fullS_iff]
  exact Iff.rfl
theorem ct_any {n : Nat} (hn : n ≤ 24) {s : RS} {K a : Nat} : nI (fb_ct (hrd s K a) n) ≤ 0 ↔ anyS n s K a = false := by
  have h1 := fb_ct_le (hrd s K a) n
  rw [nL0, nI_leI (by omega) (by omega)]
  constructor
  · intro q
    cases h : anyS n s K a with
    | false => rfl
    | true =>
      have := fb_ct_pos.mpr (anyS_iff.mp h)
      have : 0 < fb_ct (hrd s K a) n := this
      omega
  · intro q
    rcases Nat.eq_zero_or_pos (fb_ct (hrd s K a) n) with z | z
    · omega
    · rw [anyS_iff.mpr (fb_ct_pos.mp z)] at q; cases q
theorem setB_off {f g : Nat → Bool} {a : Nat} {b : Bool} (h : ∀ y, y ≠ a → f y = g y) : setB f a b = setB g a b := by
  funext y
  unfold setB
  split
  · rfl
  · next q => exact h y q
theorem setB_ne {f : Nat → Bool} {a y : Nat} {b : Bool} (h : y ≠ a) : setB f a b y = f y := if_neg h
theorem setB_id {f : Nat → Bool} {a : Nat} {b : Bool} (h : f a = b) : setB f a b = f := by
  funext y
  unfold setB
  split
  · next q => rw [q, h]
  · rfl
/-- what a node does next, when there is something -/
def stp (Z : NT) (s : RS) (a : Nat) : RS := if dk Z s a = 0 then s else dd Z s a (dk Z s a)
def PB (Z : NT) (s : RS) (a : Nat) (mu : jM) (v : Int32) (mu' : jM) : Prop := tf v (dk Z s a ≠ 0) ∧ RepR Z (stp Z s a) mu' ∧ SmR WQ FQ mu mu'
theorem PB.none {Z : NT} {s : RS} {a : Nat} {mu : jM} (h : dk Z s a = 0) (hR : RepR Z s mu) : PB Z s a mu 0 mu := ⟨tf.zero (fun q => q h), by unfold stp; rw [if_pos h]; exact hR, SmR.rfl'⟩
theorem PB.done {Z : NT} {s : RS} {a d : Nat} {mu mu' : jM} (h : dk Z s a = d) (h0 : d ≠ 0) (hR : RepR Z (dd Z s a d) mu') (hs : SmR WQ FQ mu mu') : PB Z s a mu 1 mu' := ⟨tf.one (by rw [h]; exact h0), by unfold stp; rw [if_neg (by rw [h]; exact h0), h]; exact hR, hs⟩
theorem FlR.said {sd td al : Nat → Bool} {mu : jM} (h : FlR sd td al mu) {a : Nat} : FlR (setB sd a true) td al (wr mu 78 a 1) := fun y hy => by
  refine ⟨?_, (h y hy).2.1, (h y hy).2.2⟩
  show (if y = a then 1 else mu 78 y) = if setB sd a true y then 1 else 0
  unfold setB
  by_cases z : y = a
  · rw [if_pos z, if_pos z]; rfl
  · rw [if_neg z, if_neg z]; exact (h y hy).1
theorem FlR.alls {sd td al : Nat → Bool} {mu : jM} (h : FlR sd td al mu) {a : Nat} : FlR sd td (setB al a true) (wr mu 79 a 1) := fun y hy => by
  refine ⟨(h y hy).1, ?_, (h y hy).2.2⟩
  show (if y = a then 1 else mu 79 y) = if setB al a true y then 1 else 0
  unfold setB
  by_cases z : y = a
  · rw [if_pos z, if_pos z]; rfl
  · rw [if_neg z, if_neg z]; exact (h y hy).2.1
theorem FlR.told {sd td al : Nat → Bool} {mu : jM} (h : FlR sd td al mu) {a : Nat} : FlR sd (setB td a true) al (wr mu 80 a 1) := fun y hy => by
  refine ⟨(h y hy).1, (h y hy).2.1, ?_⟩
  show (if y = a then 1 else mu 80 y) = if setB td a true y then 1 else 0
  unfold setB
  by_cases z : y = a
  · rw [if_pos z, if_pos z]; rfl
  · rw [if_neg z, if_neg z]; exact (h y hy).2.2
theorem FlR.lets {sd td al : Nat → Bool} {mu mu' : jM} (h : FlR sd td al mu) (hs : SmR [89, 90] [38] mu mu') : FlR sd td al mu' := h.congr (hs.1 78 (by decide) (by decide)) (hs.1 79 (by decide) (by decide)) (hs.1 80 (by decide) (by decide))
theorem dd_len {Z : NT} (hZ : ZOk Z.n Z.lk Z.par Z.grp Z.ch) {s : RS} {a d : Nat} (hI : Inv Z (dd Z s a d)) : (s.lt ++ outD Z s a d).length ≤ 456 ∧ (4 < d → ((s.lt ++ outD Z s a d) ++ nxPg Z s a).length ≤ 456) := by
  have hl := (hI.bd hZ).1
  unfold dd at hl
  split at hl
  · next q => exact ⟨hl, fun z => by omega⟩
  · have h9 : ((s.lt ++ outD Z s a d) ++ nxPg Z s a).length ≤ 456 := hl
    refine ⟨?_, fun _ => h9⟩
    rw [List.length_append] at h9
    omega
section C66
variable {l : Launch} {G : jG} {mu : jM}
theorem k_nextGo (hl : l.stackTraces = false) (hG : jGok G) {Z : NT} (hZ : NT.ok Z) {s : RS} (hI : Inv Z s) (hE : Ext s) {a : Nat} (ha : a < Z.n) (hS : StR Z mu) {d : Nat} (hd : d = 5 ∨ d = 6) (hlen : ((s.lt ++ outD Z s a d) ++ nxPg Z s a).length ≤ 456) {sd al : Nat → Bool} (h1 : ∀ y, y ≠ a → sd y = s.sd y) (h2 : ∀ y, y ≠ a → al y = s.al y) (hR : RepR Z (s.rd, s.op, s.ps, sd, s.td, al, s.hd, s.lt ++ outD Z s a d, ctAdd s.ct (outD Z s a d), s.st, s.wi, s.sw) mu) :
    jCv l G yX8_next cX8_next 4 5 [.ref 58, .int (nI a)] mu (fun mu' => RepR Z (dd Z s a d) mu' ∧ SmR WQ FQ mu mu') := by
  obtain ⟨b1, b2, b3⟩ := hI.bd hZ.1
  have e : nx1 Z (s.rd, s.op, s.ps, sd, s.td, al, s.hd, s.lt ++ outD Z s a d, ctAdd s.ct (outD Z s a d), s.st, s.wi, s.sw) a = dd Z s a d := by
    have e0 : dd Z s a d = nxt Z s a (outD Z s a d) := by unfold dd; rw [if_neg (by omega)]
    rw [e0]
    have e1 := setB_off (b := false) h1
    have e2 := setB_off (b := false) h2
    show (_, _, _, setB sd a false, _, setB al a false, _, _, _, _, _, _) = _
    rw [e1, e2]
    rfl
  have := k_next hl hG hZ hS hR ha (fun x => (b3 x).1) hE.1 (fun x y hx hy => hI.2.2.2.2.2.2.1 x y hx hy) (Nat.le_trans hlen (by omega))
  rw [e] at this
  exact this
/-- a node is told -/
theorem k_tell (hl : l.stackTraces = false) (hG : jGok G) {Z : NT} (hZ : ZOk Z.n Z.lk Z.par Z.grp Z.ch) {s : RS} (hS : StR Z mu) (hR : RepR Z s mu) {a : Nat} (ha : a < Z.n) (hlen : (s.lt ++ (toL 5 a (s.rd a) (kids Z 2 a) ++ toL 6 a (s.rd a) ((nbl Z.lk a).filter (Z.ch a)))).length ≤ 512) :
    jCv l G yX8_tell cX8_tell 4 3 [.ref 58, .int (nI a)] mu (fun mu' => RepR Z (s.rd, s.op, s.ps, s.sd, setB s.td a true, s.al, s.hd, s.lt ++ (toL 5 a (s.rd a) (kids Z 2 a) ++ toL 6 a (s.rd a) ((nbl Z.lk a).filter (Z.ch a))), ctAdd s.ct (toL 5 a (s.rd a) (kids Z 2 a) ++ toL 6 a (s.rd a) ((nbl Z.lk a).filter (Z.ch a))), s.st, s.wi, s.sw) mu' ∧ SmR WQ FQ mu mu') := by
  refine jCv.of (pad := 2) hl hG (by decide) (Nat.le_of_ble_eq_true rfl) (fun X h => ?_)
  show J l G X _ 4 0 [.ref 58, .int (nI a), .float 0, .float 0] [] mu 0
  have hn24 := hZ.1.1
  have ha24 : a < 24 := by omega
  have h24 := nbl24 hZ.1 a
  have hca : (nI a).toNatClampNeg = a := nI_clamp (by omega)
  have va : vp_in (nI a) 24 := vp_in_nI ha24 (by omega)
  have hnpl : (nbl Z.lk a).length = (pll Z.lk a).length := by rw [nbl_eq hZ.1, List.length_map]
  obtain ⟨l5, hl5⟩ : ∃ x, x = toL 5 a (s.rd a) (kids Z 2 a) := ⟨_, rfl⟩
  obtain ⟨l6, hl6⟩ : ∃ x, x = toL 6 a (s.rd a) ((nbl Z.lk a).filter (Z.ch a)) := ⟨_, rfl⟩
  rw [← hl5, ← hl6] at hlen ⊢
  refine rX8_tell_0 h va ?_
  rw [hca, show vp_nar .boolean 1 = 1 from rfl]
  obtain ⟨m0, hm0⟩ : ∃ m, m = wr mu 80 a 1 := ⟨_, rfl⟩
  rw [← hm0]
  have s0 : SmR [78, 79, 80, 89, 90] [38] mu m0 := by rw [hm0]; exact SmR.wr (by decide) (by decide)
  have hw5 : ∀ {x y : jM}, SmR [78, 79, 80, 89, 90] [38] x y → SmR WQ FQ x y := fun q => q.wide (by decide) (by decide)
  have S0 : StR Z m0 := hS.run (hw5 s0)
  have L0 : LetR s.lt s.ct m0 := by rw [hm0]; exact hR.2.2.2.2.1
  have F0 : FlR s.sd (setB s.td a true) s.al m0 := by rw [hm0]; exact hR.2.2.1.told
  have e75 : m0 75 a = nI (s.rd a) := by rw [hm0]; exact (hR.1 a ha24).1
  refine rX8_tell_11 h (k_toChildren hl hG hZ S0 L0 (K := 5) (by omega) (v := 2) ha e75 (x := 1) (Or.inr ⟨rfl, rfl⟩) (by rw [← hl5]; simp only [List.length_append] at hlen ⊢; omega)) (by decide) (Nat.zero_le _) (fun m1 e1 => ?_)
  rw [← hl5] at e1
  refine rX8_tell_14 h ?_
  have loop : ∀ (w p : Nat) (lt1 : List Lt) (ct1 : Nat → Nat) (m2 : jM), p + w = (nbl Z.lk a).length → LetR lt1 ct1 m2 → SmR [89, 90] [38] m0 m2 → lt1 ++ toL 6 a (s.rd a) (((nbl Z.lk a).drop p).filter (Z.ch a)) = s.lt ++ (l5 ++ l6) → ctAdd ct1 (toL 6 a (s.rd a) (((nbl Z.lk a).drop p).filter (Z.ch a))) = ctAdd s.ct (l5 ++ l6) →
      J l G X (jRv G X (fun mu' => RepR Z (s.rd, s.op, s.ps, s.sd, setB s.td a true, s.al, s.hd, s.lt ++ (l5 ++ l6), ctAdd s.ct (l5 ++ l6), s.st, s.wi, s.sw) mu' ∧ SmR WQ FQ mu mu')) 4 16 [.ref 58, .int (nI a), .int (nI p), .float 0] [] m2 0 := by
    intro w
    induction w with
    | zero =>
      intro p lt1 ct1 m2 hp q1 q2 q3 q4
      have S2 := S0.run (q2.wide (by decide) (by decide))
      have hle : m2 61 (nI a).toNatClampNeg ≤ nI p := by rw [hca, (S2.1.2.2.2 a ha24).1, ← hnpl]; exact nI_le (by omega) (by omega)
      refine rX8_tell_16 h va (fun z => absurd hle z) (fun z => absurd hle z) (fun _ => ?_) (fun z => absurd hle z) (fun z => absurd hle z)
      rw [List.drop_eq_nil_of_le (by omega)] at q3 q4
      simp only [List.filter_nil, toL, List.map_nil, List.append_nil] at q3 q4
      rw [ctAdd_nil] at q4
      subst q4
      rw [q3] at q1
      have s2 : SmR [78, 79, 80, 89, 90] [38] mu m2 := s0.trans' (q2.wide (by decide) (by decide))
      exact J_vret h dX8_tell_73 ⟨hR.lets s2 (F0.lets q2) q1, hw5 s2⟩
    | succ w ih =>
      intro p lt1 ct1 m2 hp q1 q2 q3 q4
      have S2 := S0.run (q2.wide (by decide) (by decide))
      have hle : ¬ m2 61 (nI a).toNatClampNeg ≤ nI p := by rw [hca, (S2.1.2.2.2 a ha24).1, ← hnpl]; exact nI_ge (by omega) (by omega)
      obtain ⟨b, hb⟩ : ∃ b, (nbl Z.lk a)[p]? = some b := ⟨_, List.getElem?_eq_getElem (by omega : p < (nbl Z.lk a).length)⟩
      obtain ⟨lp, e, hlp, he, h60, hot, h87⟩ := S2.port hZ hb
      have hdr : (nbl Z.lk a).drop p = b :: (nbl Z.lk a).drop (p + 1) := by
        rw [List.drop_eq_getElem_cons (by omega : p < (nbl Z.lk a).length)]
        congr 1
        exact (List.getElem?_eq_some_iff.mp hb).2
      have c1 : 24 * nI a + nI p = nI (24 * a + p) := by rw [nL24, nI_mul, nI_add]
      have k1 : (nI (24 * a + p)).toNatClampNeg = 24 * a + p := nI_clamp (by omega)
      have e62 : m2 62 (24 * nI a + nI p).toNatClampNeg = nI lp := by rw [c1, k1]; exact (S2.1.2.2.2 a ha24).2 p lp hlp
      refine rX8_tell_16 h va (fun _ => by rw [c1]; exact vp_in_nI (by omega) (by omega)) (fun _ => by rw [e62]; exact vp_in_nI h60 (by omega)) (fun z => absurd z hle) (fun _ q => ?_) (fun _ q => ?_)
      all_goals rw [e62, nI_clamp (by omega), h87] at q
      · have hch : Z.ch a b = false := by
          cases hz : Z.ch a b with
          | false => rfl
          | true => rw [hz] at q; exact absurd q (by decide)
        refine rX8_tell_67 h ?_
        rw [nI_1]
        rw [hdr, List.filter_cons_of_neg (by rw [hch]; decide)] at q3 q4
        exact J_forget 3 (ih (p + 1) lt1 ct1 m2 (by omega) q1 q2 q3 q4)
      · have hch : Z.ch a b = true := by
          cases hz : Z.ch a b with
          | true => rfl
          | false => rw [hz] at q; exact absurd rfl q
        rw [e62]
        refine rX8_tell_54 h (k_otherEnd hl hG hZ.1 S2.1.2.2.1 he ha24) (by decide) (Nat.zero_le _) (fun v m3 e3 => ?_)
        obtain ⟨rfl, rfl⟩ := e3
        rw [hot]
        refine rX8_tell_57 h va ?_
        rw [hca, q2.1 75 (by decide) (by decide), e75]
        rw [hdr, List.filter_cons_of_pos hch] at q3 q4
        have hl1 : lt1.length < 512 := by
          have h9 := hlen
          rw [← q3] at h9
          simp only [toL, List.map_cons, List.length_append, List.length_cons] at h9
          omega
        refine rX8_tell_64 h (k_send hl hG q1 (by omega) (K := 6) (by omega) a b (s.rd a) 0) (by decide) (Nat.zero_le _) (fun m4 e4 => ?_)
        refine rX8_tell_67 h ?_
        rw [nI_1]
        refine J_forget 3 (ih (p + 1) _ _ m4 (by omega) e4.1 (q2.trans' e4.2) ?_ ?_)
        · rw [← q3, List.append_assoc]; rfl
        · rw [← q4, ctAdd_app]; rfl
  exact loop _ 0 _ _ m1 (Nat.zero_add _) e1.1 e1.2 (by rw [List.drop_zero, ← hl6, List.append_assoc]) (by rw [List.drop_zero, ← hl6, ctAdd_app])
theorem k_byNodes (hl : l.stackTraces = false) (hG : jGok G) {Z : NT} (hZ : NT.ok Z) {s : RS} (hI : Inv Z s) (hE : Ext s) (hS : StR Z mu) (hR : RepR Z s mu) {a : Nat} (ha : a < Z.n) (hw : wy s.sw (s.rd a) = 0) :
    jCi l G yX8_byNodes cX8_byNodes 2 6 (some .boolean) [.ref 58, .int (nI a)] mu (fun v mu' => PB Z s a mu v mu') := by
  refine jCi.of (pad := 0) hl hG (by decide) (Nat.le_of_ble_eq_true rfl) (fun X h => ?_)
  show J l G X _ 2 0 [.ref 58, .int (nI a)] [] mu 0
  have hZ1 := hZ.1
  have hn24 := hZ1.1.1
  have ha24 : a < 24 := by omega
  have h24 := nbl24 hZ1.1 a
  obtain ⟨b1, b2, b3⟩ := hI.bd hZ1
  have hca : (nI a).toNatClampNeg = a := nI_clamp (by omega)
  have va : vp_in (nI a) 24 := vp_in_nI ha24 (by omega)
  have hnpl : (nbl Z.lk a).length = (pll Z.lk a).length := by rw [nbl_eq hZ1.1, List.length_map]
  have hd : dk Z s a = if mayS s a then 1 else if s.sd a && fullS Z.n s 2 a (nbB Z a) then 6 else 0 := by unfold dk; rw [if_pos hw]
  have hdeed : dk Z s a ≠ 0 → Inv Z (dd Z s a (dk Z s a)) := fun q => (inv_deed hZ1 hI ha q).1
  have e78 : (mu 78 (nI a).toNatClampNeg = 0) ↔ s.sd a = false := by
    rw [hca, (hR.2.2.1 a ha24).1]
    cases s.sd a <;> simp
  refine rX8_byNodes_0 h ?_
  refine rX8_byNodes_2 h (k_maySay hl hG hZ1 hI hR ha24) (by decide) (Nat.zero_le _) (fun v m1 e1 => ?_)
  obtain ⟨hv, rfl⟩ := e1
  have no : dk Z s a = 0 → J l G X (jRi G X (fun v mu' => PB Z s a m1 v mu')) 2 54 [.ref 58, .int (nI a)] [] m1 0 := fun q => rX8_byNodes_54 h (J_iret h dX8_byNodes_55 rfl (PB.none q hR))
  refine rX8_byNodes_5 h (fun _ => va) (fun q q2 => ?_) (fun q q2 => ?_) (fun q => ?_)
  · rw [e78] at q2
    refine no ?_
    rw [hd, if_neg (hv.no q), q2]
    rfl
  · rw [e78, Bool.not_eq_false] at q2
    refine rX8_byNodes_35 h (k_cameTo hl hG hR (K := 2) ha24 (b3 a).1 (by omega) (by omega)) (by decide) (Nat.zero_le _) (fun v m2 e2 => ?_)
    obtain ⟨rfl, rfl⟩ := e2
    have hct : fb_ct (nbB Z a) Z.n = (nbl Z.lk a).length := nd_cnt (hZ1.1.2.2.2 a) (fun b hb => (hZ1.1.nb hb).2.1)
    have hf := ct_eq hn24 (s := s) (K := 2) (a := a) (S := nbB Z a) (fun i hi => by
      have := (snt2.mp (hI.hr hi)).2.1
      unfold nbB
      simpa using (nbl_sym hZ1.1).mp this)
    have e61 : m2 61 (nI a).toNatClampNeg = nI (fb_ct (nbB Z a) Z.n) := by rw [hca, (hS.1.2.2.2 a ha24).1, ← hnpl, hct]
    refine rX8_byNodes_38 h va (fun q3 => ?_) (fun q3 => ?_)
    · rw [e61, hf, Bool.not_eq_true] at q3
      refine no ?_
      rw [hd, if_neg (hv.no q), q2, q3]
      rfl
    · rw [e61, hf] at q3
      have hd6 : dk Z s a = 6 := by rw [hd, if_neg (hv.no q), q2, q3]; rfl
      have hI2 := hdeed (by rw [hd6]; decide)
      rw [hd6] at hI2
      refine rX8_byNodes_49 h (k_nextGo hl hG hZ hI hE ha hS (d := 6) (Or.inr rfl) ((dd_len hZ1 hI2).2 (by decide)) (sd := s.sd) (al := s.al) (fun _ _ => rfl) (fun _ _ => rfl) ?_) (by decide) (Nat.zero_le _) (fun m3 e3 => ?_)
      · show RepR Z (s.rd, s.op, s.ps, s.sd, s.td, s.al, s.hd, s.lt ++ [], ctAdd s.ct [], s.st, s.wi, s.sw) m2
        rw [List.append_nil, ctAdd_nil]
        exact hR
      · exact rX8_byNodes_52 h (J_iret h dX8_byNodes_53 rfl (PB.done hd6 (by decide) e3.1 e3.2))
  · have hd1 : dk Z s a = 1 := by rw [hd, if_pos (hv.yes q)]
    have hI2 := hdeed (by rw [hd1]; decide)
    rw [hd1] at hI2
    have hlen : (s.lt ++ toL 2 a (s.rd a) (nbl Z.lk a)).length ≤ 456 := (dd_len hZ1 hI2).1
    refine rX8_byNodes_11 h (k_toNeighbours hl hG hZ1.1 hS.1 (lt := s.lt) (ct := s.ct) hR.2.2.2.2.1 (K := 2) (by omega) ha24 (hR.1 a ha24).1 (by omega)) (by decide) (Nat.zero_le _) (fun m2 e2 => ?_)
    refine rX8_byNodes_14 h va ?_
    rw [hca, show vp_nar .boolean 1 = 1 from rfl]
    have s2 : SmR [78, 79, 80, 89, 90] [38] m1 (wr m2 78 a 1) := (e2.2.wide (by decide) (by decide)).trans' (SmR.wr (by decide) (by decide))
    refine J_iret h dX8_byNodes_22 rfl (PB.done hd1 (by decide) ?_ (s2.wide (by decide) (by decide)))
    exact hR.lets (sd := setB s.sd a true) (td := s.td) (al := s.al) s2 ((hR.2.2.1.lets e2.2).said) e2.1
theorem k_byTree (hl : l.stackTraces = false) (hG : jGok G) {Z : NT} (hZ : NT.ok Z) {s : RS} (hI : Inv Z s) (hE : Ext s) (hS : StR Z mu) (hR : RepR Z s mu) {a : Nat} (ha : a < Z.n) (hw : wy s.sw (s.rd a) = 1) :
    jCi l G yX8_byTree cX8_byTree 2 6 (some .boolean) [.ref 58, .int (nI a)] mu (fun v mu' => PB Z s a mu v mu') := by
  refine jCi.of (pad := 0) hl hG (by decide) (Nat.le_of_ble_eq_true rfl) (fun X h => ?_)
  show J l G X _ 2 0 [.ref 58, .int (nI a)] [] mu 0
  have hZ1 := hZ.1
  have hn24 := hZ1.1.1
  have ha24 : a < 24 := by omega
  obtain ⟨b1, b2, b3⟩ := hI.bd hZ1
  have hca : (nI a).toNatClampNeg = a := nI_clamp (by omega)
  have va : vp_in (nI a) 24 := vp_in_nI ha24 (by omega)
  have hd : dk Z s a = if mayS s a && fullS Z.n s 3 a (kid Z 1 a) then (if (Z.par 1 a).isNone then 5 else 2) else if anyS Z.n s 4 a then 5 else 0 := by unfold dk; rw [if_neg (by omega), if_pos hw]
  have hdeed : dk Z s a ≠ 0 → Inv Z (dd Z s a (dk Z s a)) := fun q => (inv_deed hZ1 hI ha q).1
  have o5 : outD Z s a 5 = toL 4 a (s.rd a) (kids Z 1 a) := by
    show toL 4 a (s.rd a) (kids Z (wy s.sw (s.rd a)) a) = _
    rw [hw]
  refine rX8_byTree_0 h ?_
  refine rX8_byTree_2 h (k_maySay hl hG hZ1 hI hR ha24) (by decide) (Nat.zero_le _) (fun v m1 e1 => ?_)
  obtain ⟨hv, rfl⟩ := e1
  have go : (mayS s a && fullS Z.n s 3 a (kid Z 1 a)) = false → J l G X (jRi G X (fun v mu' => PB Z s a m1 v mu')) 2 76 [.ref 58, .int (nI a)] [] m1 0 := by
    intro hm
    rw [hm] at hd
    refine rX8_byTree_76 h ?_
    refine rX8_byTree_79 h (k_cameTo hl hG hR (K := 4) ha24 (b3 a).1 (by omega) (by omega)) (by decide) (Nat.zero_le _) (fun v m2 e2 => ?_)
    obtain ⟨rfl, rfl⟩ := e2
    refine rX8_byTree_82 h (fun q => ?_) (fun q => ?_)
    · rw [ct_any hn24] at q
      rw [q] at hd
      exact J_iret h dX8_byTree_100 rfl (PB.none hd hR)
    · rw [ct_any hn24, Bool.not_eq_false] at q
      rw [q] at hd
      have hd5 : dk Z s a = 5 := hd
      have hI2 := hdeed (by rw [hd5]; decide)
      rw [hd5] at hI2
      have hlen := dd_len hZ1 hI2
      refine rX8_byTree_89 h (k_toChildren hl hG hZ1 hS (lt := s.lt) (ct := s.ct) hR.2.2.2.2.1 (K := 4) (by omega) (v := 1) ha (hR.1 a ha24).1 (x := 0) (Or.inl ⟨rfl, rfl⟩) (by rw [← o5]; omega)) (by decide) (Nat.zero_le _) (fun m3 e3 => ?_)
      rw [← o5] at e3
      refine rX8_byTree_92 h ?_
      have s3 : SmR WQ FQ m2 m3 := e3.2.wide (by decide) (by decide)
      refine rX8_byTree_94 h (k_nextGo hl hG hZ hI hE ha (hS.run s3) (d := 5) (Or.inl rfl) (hlen.2 (by decide)) (sd := s.sd) (al := s.al) (fun _ _ => rfl) (fun _ _ => rfl) (hR.lets (e3.2.wide (by decide) (by decide)) (hR.2.2.1.lets e3.2) e3.1)) (by decide) (Nat.zero_le _) (fun m4 e4 => ?_)
      exact rX8_byTree_97 h (J_iret h dX8_byTree_98 rfl (PB.done hd5 (by decide) e4.1 (s3.trans' e4.2)))
  refine rX8_byTree_5 h (fun q => ?_) (fun q => ?_)
  · have := hv.no q
    rw [Bool.not_eq_true] at this
    exact go (by rw [this]; rfl)
  · have hm := hv.yes q
    refine rX8_byTree_11 h (k_cameTo hl hG hR (K := 3) ha24 (b3 a).1 (by omega) (by omega)) (by decide) (Nat.zero_le _) (fun v m2 e2 => ?_)
    obtain ⟨rfl, rfl⟩ := e2
    refine rX8_byTree_14 h ?_
    refine rX8_byTree_17 h (k_childrenOf hl hG hZ1 hS (v := 1) ha (x := 0) (Or.inl ⟨rfl, rfl⟩)) (by decide) (Nat.zero_le _) (fun v m3 e3 => ?_)
    obtain ⟨rfl, rfl⟩ := e3
    have hf := ct_eq hn24 (s := s) (K := 3) (a := a) (S := kid Z 1 a) (fun i hi => by
      have := (snt3.mp (hI.hr hi)).1
      rw [hw] at this
      exact kid_iff.mpr this)
    have hp := par_none hn24 (o := Z.par 1 a) (fun y q => (hZ1.pn q).2)
    have e82 : m3 82 (nI a).toNatClampNeg = parI (Z.par 1 a) := by rw [hca]; exact (hS.2.2.1 a ha).1
    refine rX8_byTree_20 h (fun _ => va) (fun _ => va) (fun _ _ => va) (fun _ _ => va) (fun q3 => ?_) (fun q3 q4 => ?_) (fun q3 q4 => ?_)
    · rw [hf, Bool.not_eq_true] at q3
      exact go (by rw [q3, Bool.and_false])
    · rw [hf] at q3
      rw [e82, hp] at q4
      obtain ⟨p, hpp⟩ : ∃ p, Z.par 1 a = some p := by
        cases hz : Z.par 1 a with
        | none => exact absurd hz q4
        | some p => exact ⟨p, rfl⟩
      have hd2 : dk Z s a = 2 := by rw [hd, hm, q3, hpp]; rfl
      have hI2 := hdeed (by rw [hd2]; decide)
      rw [hd2] at hI2
      have o2 : outD Z s a 2 = [(3, a, p, s.rd a, 0)] := by
        show toL 3 a (s.rd a) [(Z.par (wy s.sw (s.rd a)) a).getD 0] = _
        rw [hw, hpp]; rfl
      rw [e82, hpp, hca, (hR.1 a ha24).1, show vp_nar .boolean 1 = 1 from rfl]
      have s3 : SmR [78, 79, 80, 89, 90] [38] m3 (wr m3 78 a 1) := SmR.wr (by decide) (by decide)
      refine rX8_byTree_71 h (k_send (mu := wr m3 78 a 1) hl hG (lt := s.lt) (ct := s.ct) hR.2.2.2.2.1 (by omega) (K := 3) (by omega) a p (s.rd a) 0) (by decide) (Nat.zero_le _) (fun m4 e4 => ?_)
      have s4 : SmR [78, 79, 80, 89, 90] [38] m3 m4 := s3.trans' (e4.2.wide (by decide) (by decide))
      rw [← o2] at e4
      refine rX8_byTree_74 h (J_iret h dX8_byTree_75 rfl (PB.done hd2 (by decide) ?_ (s4.wide (by decide) (by decide))))
      exact hR.lets (sd := setB s.sd a true) (td := s.td) (al := s.al) s4 (hR.2.2.1.said.lets e4.2) e4.1
    · rw [hf] at q3
      rw [e82, hp] at q4
      have hd5 : dk Z s a = 5 := by rw [hd, hm, q3, q4]; rfl
      have hI2 := hdeed (by rw [hd5]; decide)
      rw [hd5] at hI2
      have hlen := dd_len hZ1 hI2
      rw [hca, show vp_nar .boolean 1 = 1 from rfl]
      have s3 : SmR [78, 79, 80, 89, 90] [38] m3 (wr m3 78 a 1) := SmR.wr (by decide) (by decide)
      refine rX8_byTree_44 h (k_toChildren hl hG hZ1 (hS.run (s3.wide (by decide) (by decide))) (lt := s.lt) (ct := s.ct) hR.2.2.2.2.1 (K := 4) (by omega) (v := 1) ha (hR.1 a ha24).1 (x := 0) (Or.inl ⟨rfl, rfl⟩) (by rw [← o5]; omega)) (by decide) (Nat.zero_le _) (fun m4 e4 => ?_)
      rw [← o5] at e4
      refine rX8_byTree_47 h ?_
      have s4 : SmR [78, 79, 80, 89, 90] [38] m3 m4 := s3.trans' (e4.2.wide (by decide) (by decide))
      have s4w : SmR WQ FQ m3 m4 := s4.wide (by decide) (by decide)
      refine rX8_byTree_49 h (k_nextGo hl hG hZ hI hE ha (hS.run s4w) (d := 5) (Or.inl rfl) (hlen.2 (by decide)) (sd := setB s.sd a true) (al := s.al) (fun _ z => setB_ne z) (fun _ _ => rfl) (hR.lets s4 (hR.2.2.1.said.lets e4.2) e4.1)) (by decide) (Nat.zero_le _) (fun m5 e5 => ?_)
      exact rX8_byTree_52 h (rX8_byTree_74 h (J_iret h dX8_byTree_75 rfl (PB.done hd5 (by decide) e5.1 (s4w.trans' e5.2))))
theorem k_byClusters (hl : l.stackTraces = false) (hG : jGok G) {Z : NT} (hZ : NT.ok Z) {s : RS} (hI : Inv Z s) (hE : Ext s) (hS : StR Z mu) (hR : RepR Z s mu) {a : Nat} (ha : a < Z.n) (hw : wy s.sw (s.rd a) = 2) :
    jCi l G yX8_byClusters cX8_byClusters 3 6 (some .boolean) [.ref 58, .int (nI a)] mu (fun v mu' => PB Z s a mu v mu') := by
  refine jCi.of (pad := 1) hl hG (by decide) (Nat.le_of_ble_eq_true rfl) (fun X h => ?_)
  show J l G X _ 3 0 [.ref 58, .int (nI a), .float 0] [] mu 0
  have hZ1 := hZ.1
  have hn24 := hZ1.1.1
  have ha24 : a < 24 := by omega
  obtain ⟨b1, b2, b3⟩ := hI.bd hZ1
  have hca : (nI a).toNatClampNeg = a := nI_clamp (by omega)
  have va : vp_in (nI a) 24 := vp_in_nI ha24 (by omega)
  have hd : dk Z s a = if mayS s a && fullS Z.n s 3 a (kid Z 2 a) then (if (Z.par 2 a).isNone then 3 else 2) else if !s.td a then (if anyS Z.n s 5 a then 3 else 0)
    else if !s.al a && (fullS Z.n s 7 a (kid Z 2 a) && fullS Z.n s 6 a (Z.ch a)) then (if (Z.par 2 a).isNone then 5 else 4) else if anyS Z.n s 4 a then 5 else 0 := by unfold dk; rw [if_neg (by omega), if_neg (by omega)]
  have hdeed : dk Z s a ≠ 0 → Inv Z (dd Z s a (dk Z s a)) := fun q => (inv_deed hZ1 hI ha q).1
  have o5 : outD Z s a 5 = toL 4 a (s.rd a) (kids Z 2 a) := by
    show toL 4 a (s.rd a) (kids Z (wy s.sw (s.rd a)) a) = _
    rw [hw]
  have hg4 : anyS Z.n s 4 a = true → s.td a = true := fun q => by
    obtain ⟨b, -, hb⟩ := anyS_iff.mp q
    exact ((Lv.clus hI.1 hZ1 ha hw (Or.inr ⟨b, hb⟩)).2 ⟨b, hb⟩).2.1
  have hg5 : anyS Z.n s 5 a = true → s.sd a = true := fun q => by
    obtain ⟨b, -, hb⟩ := anyS_iff.mp q
    obtain ⟨dep, hdep⟩ := hZ1.2.2.1
    have hpb := (snt5.mp (hI.1.now hb)).2
    exact Sd.own.mp (hI.1.2.2.2.1 b a (s.rd a) hw hpb.2 ha (hdep 2 a b hpb.1).2.1)
  have f7 := ct_eq hn24 (s := s) (K := 7) (a := a) (S := kid Z 2 a) (fun i hi => kid_iff.mpr (snt7.mp (hI.hr hi)).2.1)
  have f6 := ct_eq hn24 (s := s) (K := 6) (a := a) (S := Z.ch a) (fun i hi => (hZ1.2.2.2.2.1 _ _ (snt6.mp (hI.hr hi)).2.1).2.2)
  have f3 := ct_eq hn24 (s := s) (K := 3) (a := a) (S := kid Z 2 a) (fun i hi => by
      have := (snt3.mp (hI.hr hi)).1
      rw [hw] at this
      exact kid_iff.mpr this)
  have hp := par_none hn24 (o := Z.par 2 a) (fun y q => (hZ1.pn q).2)
  have e85 : mu 85 (nI a).toNatClampNeg = parI (Z.par 2 a) := by rw [hca]; exact (hS.2.2.1 a ha).2
  have e80 : (mu 80 (nI a).toNatClampNeg = 0) ↔ s.td a = false := by
    rw [hca, (hR.2.2.1 a ha24).2.2]
    cases s.td a <;> simp
  have e79 : (mu 79 (nI a).toNatClampNeg = 0) ↔ s.al a = false := by
    rw [hca, (hR.2.2.1 a ha24).2.1]
    cases s.al a <;> simp
  have some2 : Z.par 2 a ≠ none → ∃ p, Z.par 2 a = some p := fun q => by
    cases hz : Z.par 2 a with
    | none => exact absurd hz q
    | some p => exact ⟨p, rfl⟩
  obtain ⟨C, hC⟩ : ∃ C, C = fb_ct (kid Z 2 a) Z.n := ⟨_, rfl⟩
  rw [← hC] at f7 f3
  -- GO came
  have go : dk Z s a = (if anyS Z.n s 4 a then 5 else 0) → J l G X (jRi G X (fun v mu' => PB Z s a mu v mu')) 3 194 [.ref 58, .int (nI a), .int (nI C)] [] mu 0 := by
    intro hd
    refine rX8_byClusters_194 h ?_
    refine rX8_byClusters_197 h (k_cameTo hl hG hR (K := 4) ha24 (b3 a).1 (by omega) (by omega)) (by decide) (Nat.zero_le _) (fun v m2 e2 => ?_)
    obtain ⟨rfl, rfl⟩ := e2
    refine rX8_byClusters_200 h (fun q => ?_) (fun q => ?_)
    · rw [ct_any hn24] at q
      rw [q] at hd
      exact J_iret h dX8_byClusters_218 rfl (PB.none hd hR)
    · rw [ct_any hn24, Bool.not_eq_false] at q
      rw [q] at hd
      have hd5 : dk Z s a = 5 := hd
      have hI2 := hdeed (by rw [hd5]; decide)
      rw [hd5] at hI2
      have hlen := dd_len hZ1 hI2
      refine rX8_byClusters_207 h (k_toChildren hl hG hZ1 hS (lt := s.lt) (ct := s.ct) hR.2.2.2.2.1 (K := 4) (by omega) (v := 2) ha (hR.1 a ha24).1 (x := 1) (Or.inr ⟨rfl, rfl⟩) (by rw [← o5]; omega)) (by decide) (Nat.zero_le _) (fun m3 e3 => ?_)
      rw [← o5] at e3
      refine rX8_byClusters_210 h ?_
      have s3 : SmR WQ FQ m2 m3 := e3.2.wide (by decide) (by decide)
      refine rX8_byClusters_212 h (k_nextGo hl hG hZ hI hE ha (hS.run s3) (d := 5) (Or.inl rfl) (hlen.2 (by decide)) (sd := s.sd) (al := s.al) (fun _ _ => rfl) (fun _ _ => rfl) (hR.lets (e3.2.wide (by decide) (by decide)) (hR.2.2.1.lets e3.2) e3.1)) (by decide) (Nat.zero_le _) (fun m4 e4 => ?_)
      exact rX8_byClusters_215 h (J_iret h dX8_byClusters_216 rfl (PB.done hd5 (by decide) e4.1 (s3.trans' e4.2)))
  -- ALL
  have alls : (mayS s a && fullS Z.n s 3 a (kid Z 2 a)) = false → (s.td a = false → anyS Z.n s 5 a = false) → J l G X (jRi G X (fun v mu' => PB Z s a mu v mu')) 3 96 [.ref 58, .int (nI a), .int (nI C)] [] mu 0 := by
    intro hm h5
    rw [hm] at hd
    refine rX8_byClusters_96 h va (fun _ => va) (fun q => ?_) (fun q q2 => ?_) (fun q q2 => ?_)
    · rw [e80] at q
      refine go ?_
      have h4 : anyS Z.n s 4 a = false := by
        cases hz : anyS Z.n s 4 a with
        | false => rfl
        | true => rw [hg4 hz] at q; cases q
      rw [hd, q, h5 q, h4]
      rfl
    · rw [e80, Bool.not_eq_false] at q
      rw [e79, Bool.not_eq_false] at q2
      refine go ?_
      rw [hd, q, q2]
      rfl
    · rw [e80, Bool.not_eq_false] at q
      rw [e79] at q2
      rw [q, q2] at hd
      refine rX8_byClusters_118 h (k_cameTo hl hG hR (K := 6) ha24 (b3 a).1 (by omega) (by omega)) (by decide) (Nat.zero_le _) (fun v m2 e2 => ?_)
      obtain ⟨rfl, rfl⟩ := e2
      refine rX8_byClusters_121 h ?_
      refine rX8_byClusters_123 h (k_chosenOf hl hG hZ1 hS ha) (by decide) (Nat.zero_le _) (fun v m3 e3 => ?_)
      obtain ⟨rfl, rfl⟩ := e3
      refine rX8_byClusters_126 h (fun q3 => ?_) (fun q3 => ?_)
      · rw [f6, Bool.not_eq_true] at q3
        refine go ?_
        rw [hd, q3, Bool.and_false]
        rfl
      · rw [f6] at q3
        refine rX8_byClusters_133 h (k_cameTo hl hG hR (K := 7) ha24 (b3 a).1 (by omega) (by omega)) (by decide) (Nat.zero_le _) (fun v m4 e4 => ?_)
        obtain ⟨rfl, rfl⟩ := e4
        refine rX8_byClusters_136 h (fun _ => va) (fun _ => va) (fun _ _ => va) (fun _ _ => va) (fun q4 => ?_) (fun q4 q5 => ?_) (fun q4 q5 => ?_)
        · rw [f7, Bool.not_eq_true] at q4
          refine go ?_
          rw [hd, q4]
          rfl
        · rw [f7] at q4
          rw [e85, hp] at q5
          obtain ⟨p, hpp⟩ := some2 q5
          have hd4 : dk Z s a = 4 := by rw [hd, q3, q4, hpp]; rfl
          have hI2 := hdeed (by rw [hd4]; decide)
          rw [hd4] at hI2
          have o4 : outD Z s a 4 = [(7, a, p, s.rd a, 0)] := by
            show toL 7 a (s.rd a) [(Z.par 2 a).getD 0] = _
            rw [hpp]; rfl
          rw [e85, hpp, hca, (hR.1 a ha24).1, show vp_nar .boolean 1 = 1 from rfl]
          have s3 : SmR [78, 79, 80, 89, 90] [38] m4 (wr m4 79 a 1) := SmR.wr (by decide) (by decide)
          refine rX8_byClusters_189 h (k_send (mu := wr m4 79 a 1) hl hG (lt := s.lt) (ct := s.ct) hR.2.2.2.2.1 (by omega) (K := 7) (by omega) a p (s.rd a) 0) (by decide) (Nat.zero_le _) (fun m5 e5 => ?_)
          have s4 : SmR [78, 79, 80, 89, 90] [38] m4 m5 := s3.trans' (e5.2.wide (by decide) (by decide))
          rw [← o4] at e5
          refine rX8_byClusters_192 h (J_iret h dX8_byClusters_193 rfl (PB.done hd4 (by decide) ?_ (s4.wide (by decide) (by decide))))
          exact hR.lets (sd := s.sd) (td := s.td) (al := setB s.al a true) s4 (hR.2.2.1.alls.lets e5.2) e5.1
        · rw [f7] at q4
          rw [e85, hp] at q5
          have hd5 : dk Z s a = 5 := by rw [hd, q3, q4, q5]; rfl
          have hI2 := hdeed (by rw [hd5]; decide)
          rw [hd5] at hI2
          have hlen := dd_len hZ1 hI2
          rw [hca, show vp_nar .boolean 1 = 1 from rfl]
          have s3 : SmR [78, 79, 80, 89, 90] [38] m4 (wr m4 79 a 1) := SmR.wr (by decide) (by decide)
          refine rX8_byClusters_161 h (k_toChildren hl hG hZ1 (hS.run (s3.wide (by decide) (by decide))) (lt := s.lt) (ct := s.ct) hR.2.2.2.2.1 (K := 4) (by omega) (v := 2) ha (hR.1 a ha24).1 (x := 1) (Or.inr ⟨rfl, rfl⟩) (by rw [← o5]; omega)) (by decide) (Nat.zero_le _) (fun m5 e5 => ?_)
          rw [← o5] at e5
          refine rX8_byClusters_164 h ?_
          have s4 : SmR [78, 79, 80, 89, 90] [38] m4 m5 := s3.trans' (e5.2.wide (by decide) (by decide))
          have s4w : SmR WQ FQ m4 m5 := s4.wide (by decide) (by decide)
          refine rX8_byClusters_166 h (k_nextGo hl hG hZ hI hE ha (hS.run s4w) (d := 5) (Or.inl rfl) (hlen.2 (by decide)) (sd := s.sd) (al := setB s.al a true) (fun _ _ => rfl) (fun _ z => setB_ne z) (hR.lets s4 (hR.2.2.1.alls.lets e5.2) e5.1)) (by decide) (Nat.zero_le _) (fun m6 e6 => ?_)
          exact rX8_byClusters_169 h (rX8_byClusters_192 h (J_iret h dX8_byClusters_193 rfl (PB.done hd5 (by decide) e6.1 (s4w.trans' e6.2))))
  -- CLUSTER came
  have mid : (mayS s a && fullS Z.n s 3 a (kid Z 2 a)) = false → J l G X (jRi G X (fun v mu' => PB Z s a mu v mu')) 3 71 [.ref 58, .int (nI a), .int (nI C)] [] mu 0 := by
    intro hm
    refine rX8_byClusters_71 h va (fun q => ?_) (fun q => ?_)
    · rw [e80, Bool.not_eq_false] at q
      exact alls hm (fun z => by rw [q] at z; cases z)
    · rw [e80] at q
      refine rX8_byClusters_83 h (k_cameTo hl hG hR (K := 5) ha24 (b3 a).1 (by omega) (by omega)) (by decide) (Nat.zero_le _) (fun v m2 e2 => ?_)
      obtain ⟨rfl, rfl⟩ := e2
      refine rX8_byClusters_86 h (fun q2 => ?_) (fun q2 => ?_)
      · rw [ct_any hn24] at q2
        exact alls hm (fun _ => q2)
      · rw [ct_any hn24, Bool.not_eq_false] at q2
        have hd3 : dk Z s a = 3 := by rw [hd, hm, q, q2]; rfl
        have hI2 := hdeed (by rw [hd3]; decide)
        rw [hd3] at hI2
        have hlen := (dd_len hZ1 hI2).1
        have hlen : (s.lt ++ (toL 5 a (s.rd a) (kids Z 2 a) ++ toL 6 a (s.rd a) ((nbl Z.lk a).filter (Z.ch a)))).length ≤ 456 := hlen
        refine rX8_byClusters_91 h (k_tell hl hG hZ1 hS hR ha (by omega)) (by decide) (Nat.zero_le _) (fun m3 e3 => ?_)
        refine rX8_byClusters_94 h (J_iret h dX8_byClusters_95 rfl (PB.done hd3 (by decide) ?_ e3.2))
        show RepR Z (s.rd, s.op, s.ps, setB s.sd a true, setB s.td a true, s.al, s.hd, _, _, s.st, s.wi, s.sw) m3
        rw [setB_id (hg5 q2)]
        exact e3.1
  refine rX8_byClusters_0 h ?_
  refine rX8_byClusters_3 h (k_childrenOf hl hG hZ1 hS (v := 2) ha (x := 1) (Or.inr ⟨rfl, rfl⟩)) (by decide) (Nat.zero_le _) (fun v m1 e1 => ?_)
  obtain ⟨rfl, rfl⟩ := e1
  rw [← hC]
  refine rX8_byClusters_6 h ?_
  refine rX8_byClusters_9 h (k_maySay hl hG hZ1 hI hR ha24) (by decide) (Nat.zero_le _) (fun v m2 e2 => ?_)
  obtain ⟨hv, rfl⟩ := e2
  refine rX8_byClusters_12 h (fun q => ?_) (fun q => ?_)
  · have := hv.no q
    rw [Bool.not_eq_true] at this
    exact mid (by rw [this]; rfl)
  · have hm := hv.yes q
    refine rX8_byClusters_18 h (k_cameTo hl hG hR (K := 3) ha24 (b3 a).1 (by omega) (by omega)) (by decide) (Nat.zero_le _) (fun v m3 e3 => ?_)
    obtain ⟨rfl, rfl⟩ := e3
    refine rX8_byClusters_21 h (fun _ => va) (fun _ => va) (fun _ _ => va) (fun _ _ => va) (fun q3 => ?_) (fun q3 q4 => ?_) (fun q3 q4 => ?_)
    · rw [f3, Bool.not_eq_true] at q3
      exact mid (by rw [q3, Bool.and_false])
    · rw [f3] at q3
      rw [e85, hp] at q4
      obtain ⟨p, hpp⟩ := some2 q4
      have hd2 : dk Z s a = 2 := by rw [hd, hm, q3, hpp]; rfl
      have hI2 := hdeed (by rw [hd2]; decide)
      rw [hd2] at hI2
      have o2 : outD Z s a 2 = [(3, a, p, s.rd a, 0)] := by
        show toL 3 a (s.rd a) [(Z.par (wy s.sw (s.rd a)) a).getD 0] = _
        rw [hw, hpp]; rfl
      rw [e85, hpp, hca, (hR.1 a ha24).1, show vp_nar .boolean 1 = 1 from rfl]
      have s3 : SmR [78, 79, 80, 89, 90] [38] m3 (wr m3 78 a 1) := SmR.wr (by decide) (by decide)
      refine rX8_byClusters_66 h (k_send (mu := wr m3 78 a 1) hl hG (lt := s.lt) (ct := s.ct) hR.2.2.2.2.1 (by omega) (K := 3) (by omega) a p (s.rd a) 0) (by decide) (Nat.zero_le _) (fun m4 e4 => ?_)
      have s4 : SmR [78, 79, 80, 89, 90] [38] m3 m4 := s3.trans' (e4.2.wide (by decide) (by decide))
      rw [← o2] at e4
      refine rX8_byClusters_69 h (J_iret h dX8_byClusters_70 rfl (PB.done hd2 (by decide) ?_ (s4.wide (by decide) (by decide))))
      exact hR.lets (sd := setB s.sd a true) (td := s.td) (al := s.al) s4 (hR.2.2.1.said.lets e4.2) e4.1
    · rw [f3] at q3
      rw [e85, hp] at q4
      have hd3 : dk Z s a = 3 := by rw [hd, hm, q3, q4]; rfl
      have hI2 := hdeed (by rw [hd3]; decide)
      rw [hd3] at hI2
      have hlen : (s.lt ++ (toL 5 a (s.rd a) (kids Z 2 a) ++ toL 6 a (s.rd a) ((nbl Z.lk a).filter (Z.ch a)))).length ≤ 456 := (dd_len hZ1 hI2).1
      rw [hca, show vp_nar .boolean 1 = 1 from rfl]
      have s3 : SmR [78, 79, 80, 89, 90] [38] m3 (wr m3 78 a 1) := SmR.wr (by decide) (by decide)
      have R3 : RepR Z (s.rd, s.op, s.ps, setB s.sd a true, s.td, s.al, s.hd, s.lt, s.ct, s.st, s.wi, s.sw) (wr m3 78 a 1) := hR.lets s3 hR.2.2.1.said hR.2.2.2.2.1
      have s3w : SmR WQ FQ m3 (wr m3 78 a 1) := s3.wide (by decide) (by decide)
      refine rX8_byClusters_44 h (k_tell hl hG hZ1 (hS.run s3w) R3 ha (Nat.le_trans hlen (by omega))) (by decide) (Nat.zero_le _) (fun m4 e4 => ?_)
      exact rX8_byClusters_47 h (rX8_byClusters_69 h (J_iret h dX8_byClusters_70 rfl (PB.done hd3 (by decide) e4.1 (s3w.trans' e4.2))))
/-- a node does all that it can -/
theorem k_act (hl : l.stackTraces = false) (hG : jGok G) {Z : NT} (hZ : NT.ok Z) {s : RS} (hI : Inv Z s) (hE : Ext s) (hS : StR Z mu) (hR : RepR Z s mu) {a : Nat} (ha : a < Z.n) :
    jCv l G yX8_act cX8_act 4 7 [.ref 58, .int (nI a)] mu (fun mu' => RepR Z (act Z a s) mu' ∧ SmR WQ FQ mu mu') := by
  refine jCv.of (pad := 2) hl hG (by decide) (Nat.le_of_ble_eq_true rfl) (fun X h => ?_)
  show J l G X _ 4 0 [.ref 58, .int (nI a), .float 0, .float 0] [] mu 0
  have hn24 := hZ.1.1.1
  have ha24 : a < 24 := by omega
  have hca : (nI a).toNatClampNeg = a := nI_clamp (by omega)
  have va : vp_in (nI a) 24 := vp_in_nI ha24 (by omega)
  have fin : ∀ (x2 : Int32) (m1 : jM), x2 = 0 → RepR Z (act Z a s) m1 → SmR WQ FQ mu m1 → J l G X (jRv G X (fun mu' => RepR Z (act Z a s) mu' ∧ SmR WQ FQ mu mu')) 4 2 [.ref 58, .int (nI a), .int x2, .float 0] [] m1 0 := by
    intro x2 m1 hx R1 W1
    exact rX8_act_2 h (fun z => absurd hx z) (fun _ => J_vret h dX8_act_51 ⟨R1, W1⟩) (fun z => absurd hx z)
  refine rX8_act_0 h ?_
  have loop : ∀ (f : Nat) (s1 : RS) (m1 : jM) (x2 : Int32), ¬ x2 = 0 → mea s1 a < f → Inv Z s1 → Ext s1 → StR Z m1 → RepR Z s1 m1 → SmR WQ FQ mu m1 → actF Z a f s1 = act Z a s →
      J l G X (jRv G X (fun mu' => RepR Z (act Z a s) mu' ∧ SmR WQ FQ mu mu')) 4 2 [.ref 58, .int (nI a), .int x2, .float 0] [] m1 0 := by
    intro f
    induction f with
    | zero => intro s1 m1 x2 _ hm; exact absurd hm (Nat.not_lt_zero _)
    | succ f ih =>
      intro s1 m1 x2 hx2 hm I1 E1 S1 R1 W1 he
      obtain ⟨b1, b2, b3⟩ := I1.bd hZ.1
      have hrd := (b3 a).1
      have hw2 := I1.2.2.2.2.2.2.2.1 (s1.rd a)
      -- behind a deed
      have rest : ∀ (v : Int32) (m2 : jM), PB Z s1 a m1 v m2 → J l G X (jRv G X (fun mu' => RepR Z (act Z a s) mu' ∧ SmR WQ FQ mu mu')) 4 2 [.ref 58, .int (nI a), .int v, .float 0] [] m2 0 := by
        intro v m2 e2
        obtain ⟨p1, p2, p3⟩ := e2
        unfold stp at p2
        by_cases hd0 : dk Z s1 a = 0
        · rw [if_pos hd0] at p2
          have hv : v = 0 := by
            rcases p1 with z | z
            · exact absurd hd0 z.1
            · exact z.2
          refine fin v m2 hv ?_ (W1.trans' p3)
          rw [← he]
          unfold actF
          rw [if_pos hd0]
          exact p2
        · rw [if_neg hd0] at p2
          have hv : ¬ v = 0 := by
            rcases p1 with z | z
            · rw [z.2]; decide
            · exact absurd hd0 z.1
          obtain ⟨I2, hm2⟩ := inv_deed hZ.1 I1 ha hd0
          refine ih _ m2 v hv (by omega) I2 (E1.deed I2) (S1.run p3) p2 (W1.trans' p3) ?_
          rw [← he]
          conv => rhs; unfold actF
          rw [if_neg hd0]
      refine rX8_act_2 h (fun _ => va) (fun z => absurd z hx2) (fun _ => ?_)
      rw [hca, (R1.1 a ha24).1]
      refine rX8_act_13 h (k_wayOf hl hG R1.2.2.2.2.2.2 E1.2 hrd) (by decide) (Nat.zero_le _) (fun v m2 e1 => ?_)
      obtain ⟨rfl, rfl⟩ := e1
      refine rX8_act_16 h (fun q1 q2 => ?_) (fun q1 q2 => ?_) (fun q1 => ?_)
      · have hw : wy s1.sw (s1.rd a) = 2 := by
          have n0 : wy s1.sw (s1.rd a) ≠ 0 := fun z => q1 (by rw [z]; rfl)
          have n1 : wy s1.sw (s1.rd a) ≠ 1 := fun z => q2 (by rw [z]; rfl)
          omega
        refine rX8_act_44 h (k_byClusters hl hG hZ I1 E1 S1 R1 ha hw) (by decide) (Nat.zero_le _) (fun v m3 e3 => ?_)
        exact rX8_act_47 h (J_forget 3 (rest v m3 e3))
      · have hw : wy s1.sw (s1.rd a) = 1 := (nI_eq (b := 1) (by omega) (by omega)).mp q2
        refine rX8_act_36 h (k_byTree hl hG hZ I1 E1 S1 R1 ha hw) (by decide) (Nat.zero_le _) (fun v m3 e3 => ?_)
        exact rX8_act_39 h (J_forget 3 (rest v m3 e3))
      · have hw : wy s1.sw (s1.rd a) = 0 := (nI_eq (b := 0) (by omega) (by omega)).mp q1
        refine rX8_act_23 h (k_byNodes hl hG hZ I1 E1 S1 R1 ha hw) (by decide) (Nat.zero_le _) (fun v m3 e3 => ?_)
        exact rX8_act_26 h (J_forget 3 (rest v m3 e3))
  exact loop 2100 s mu 1 (by decide) (by have := mea_le hI a; omega) hI hE hS hR SmR.rfl' rfl
end C66
