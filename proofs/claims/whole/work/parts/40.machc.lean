/-! ===== the class's machines ===== -/
def rcv (x : Int32) (g : Option Int32) : Int32 := if g.isSome then (if x = 0 then 1 else g.getD 0) else 0
/-- a machine's cells at a node's round -/
def MC (M A C V S : Nat) (E : IE) (s : IS) (mu : jM) : Prop :=
  mu M 7 = nI E.1 ∧ mu M 8 = nI E.2.1 ∧ (∀ r, r < 8 → mu A (E.1 * 8 + r) = s.1 r) ∧ (∀ i, i < 32 → bt (mu M 6) i = (s.2 i).isSome) ∧ (∀ p v, p < 24 → s.2 p = some v → mu S p = v) ∧
  (∀ p, p < 24 → bt (mu C (bxN E.1 (E.2.1 - 1))) p = (E.2.2.2 p).isSome ∧ ∀ v, E.2.2.2 p = some v → mu V (bxN E.1 (E.2.1 - 1) * 24 + p) = v)
/-- only a node's registers and what is sent have changed -/
def MF (M A S a : Nat) (mu mu' : jM) : Prop := (∀ c, c ≠ M → c ≠ A → c ≠ S → mu' c = mu c) ∧ (∀ j, j < a * 8 ∨ a * 8 + 8 ≤ j → mu' A j = mu A j) ∧ ∀ f, f ≠ 6 → mu' M f = mu M f
theorem MF.rfl' {M A S a : Nat} {mu : jM} : MF M A S a mu mu := ⟨fun _ _ _ _ => rfl, fun _ _ => rfl, fun _ _ => rfl⟩
theorem MF.trans' {M A S a : Nat} {x y z : jM} (h : MF M A S a x y) (h2 : MF M A S a y z) : MF M A S a x z := ⟨fun c q1 q2 q3 => (h2.1 c q1 q2 q3).trans (h.1 c q1 q2 q3), fun j q => (h2.2.1 j q).trans (h.2.1 j q), fun f q => (h2.2.2 f q).trans (h.2.2 f q)⟩
/-- a register is written -/
theorem MC.reg {M A C V S : Nat} {E : IE} {s : IS} {mu : jM} (h : MC M A C V S E s mu) {r : Nat} (hr : r < 8) (v : Int32) (h1 : A ≠ M ∧ A ≠ C ∧ A ≠ V ∧ A ≠ S) : MC M A C V S E (upd s.1 r v, s.2) (wr mu A (E.1 * 8 + r) v) := by
  obtain ⟨q1, q2, q3, q4, q5, q6⟩ := h
  refine ⟨?_, ?_, fun r' hr' => ?_, fun i hi => ?_, fun p v' hp hv => ?_, fun p hp => ?_⟩
  · rw [rd_ne _ _ _ (fun z => h1.1 z.symm)]; exact q1
  · rw [rd_ne _ _ _ (fun z => h1.1 z.symm)]; exact q2
  · rw [rd_at]
    show (if E.1 * 8 + r' = E.1 * 8 + r then v else mu A (E.1 * 8 + r')) = if r' = r then v else s.1 r'
    by_cases z : r' = r
    · rw [if_pos z, if_pos (by omega)]
    · rw [if_neg z, if_neg (by omega)]; exact q3 r' hr'
  · rw [rd_ne _ _ _ (fun z => h1.1 z.symm)]; exact q4 i hi
  · rw [rd_ne _ _ _ (fun z => h1.2.2.2 z.symm)]; exact q5 p v' hp hv
  · rw [rd_ne _ _ _ (fun z => h1.2.1 z.symm), rd_ne _ _ _ (fun z => h1.2.2.1 z.symm)]; exact q6 p hp
theorem MF.reg {M A S a r : Nat} {mu : jM} (hr : r < 8) (v : Int32) (h1 : A ≠ M) : MF M A S a mu (wr mu A (a * 8 + r) v) :=
  ⟨fun c _ q2 _ => rd_ne _ _ _ q2, fun j q => by
    rw [rd_at]
    exact if_neg (by omega), fun f _ => by rw [rd_ne _ _ _ (fun z => h1 z.symm)]⟩
theorem MC.send {M A C V S : Nat} {E : IE} {s : IS} {mu : jM} (h : MC M A C V S E s mu) {p : Nat} (hp : p < 24) (v : Int32) (h1 : A ≠ M ∧ A ≠ S ∧ S ≠ M ∧ M ≠ C ∧ M ≠ V ∧ S ≠ C ∧ S ≠ V) : MC M A C V S E (s.1, fun q => if q = p then some v else s.2 q) (wr (wr mu M 6 (mu M 6 ||| (1 <<< (nI p &&& 31)))) S p v) := by
  obtain ⟨q1, q2, q3, q4, q5, q6⟩ := h
  obtain ⟨z1, z2, z3, z4, z5, z6, z7⟩ := h1
  refine ⟨?_, ?_, fun r' hr' => ?_, fun i hi => ?_, fun p' v' hp' hv => ?_, fun p' hp' => ?_⟩
  · rw [rd_ne _ _ _ (fun z => z3 z.symm), rd_at]; exact q1
  · rw [rd_ne _ _ _ (fun z => z3 z.symm), rd_at]; exact q2
  · rw [rd_ne _ _ _ z2, rd_ne _ _ _ z1]; exact q3 r' hr'
  · rw [rd_ne _ _ _ (fun z => z3 z.symm), rd_at]
    show bt (mu M 6 ||| _) i = _
    rw [bt_set _ (by omega) hi, q4 i hi]
    by_cases z : i = p
    · simp [z]
    · simp [z]
  · rw [rd_at]
    show (if p' = p then v else wr mu M 6 _ S p') = v'
    by_cases z : p' = p
    · rw [if_pos z]
      simp only [if_pos z] at hv
      exact Option.some.inj hv
    · rw [if_neg z, rd_ne _ _ _ z3]
      simp only [if_neg z] at hv
      exact q5 p' v' hp' hv
  · rw [rd_ne _ _ _ (fun z => z6 z.symm), rd_ne _ _ _ (fun z => z4 z.symm), rd_ne _ _ _ (fun z => z7 z.symm), rd_ne _ _ _ (fun z => z5 z.symm)]; exact q6 p' hp'
theorem MF.send {M A S a p : Nat} {mu : jM} (x v : Int32) (h1 : A ≠ M ∧ A ≠ S ∧ S ≠ M) : MF M A S a mu (wr (wr mu M 6 x) S p v) :=
  ⟨fun c q1 _ q3 => by rw [rd_ne _ _ _ q3, rd_ne _ _ _ q1], fun j q => by rw [rd_ne _ _ _ h1.2.1, rd_ne _ _ _ h1.1], fun f q => by
    rw [rd_ne _ _ _ (fun z => h1.2.2 z.symm), rd_at]
    exact if_neg q⟩
section C40
variable {l : Launch} {G : jG} {mu : jM}
theorem c_boxOf (hl : l.stackTraces = false) (hG : jGok G) (a : Nat) {k : Nat} (hk : k < 2 ^ 31) : jCi l G yX1_boxOf cX1_boxOf 2 1 (some .int) [.int (nI a), .int (nI k)] mu (fun v mu' => v = nI (bxN a k) ∧ mu' = mu) := by
  refine jCi.of (pad := 0) hl hG (by decide) (Nat.le_of_ble_eq_true rfl) (fun X h => ?_)
  show J l G X _ 2 0 [.int (nI a), .int (nI k)] [] mu 0
  refine rX1_boxOf_0 h ?_
  exact J_iret h dX1_boxOf_8 rfl (by exact ⟨bx_nI hk, rfl⟩)
theorem c_combined (hl : l.stackTraces = false) (hG : jGok G) {o : Int32} (x y : Int32) (h1 : 2 ≤ o) (h2 : o ≤ 11) : jCi l G yX1_combined cX1_combined 3 1 (some .int) [.int o, .int x, .int y] mu (fun v mu' => v = cmb o x y ∧ mu' = mu) := by
  refine jCi.of (pad := 0) hl hG (by decide) (Nat.le_of_ble_eq_true rfl) (fun X h => ?_)
  show J l G X _ 3 0 [.int o, .int x, .int y] [] mu 0
  refine rX1_combined_0 h ?_
  refine rX1_combined_1 h (fun q1 => ?_) (fun q2 => ?_) (fun q3 => ?_) (fun q4 => ?_) (fun q5 => ?_) (fun q6 => ?_) (fun q7 => ?_) (fun q8 => ?_) (fun q9 => ?_) (fun q10 q11 q12 q13 q14 q15 q16 q17 q18 => ?_)
  · refine rX1_combined_52 h ?_
    exact J_iret h dX1_combined_55 rfl (by unfold cmb; grind)
  · refine rX1_combined_56 h ?_
    exact J_iret h dX1_combined_59 rfl (by unfold cmb; grind)
  · refine rX1_combined_60 h ?_
    exact J_iret h dX1_combined_63 rfl (by unfold cmb; grind)
  · refine rX1_combined_64 h (fun q19 => ?_) (fun q20 => ?_)
    · exact J_iret h dX1_combined_74 rfl (by unfold cmb; grind)
    · exact J_iret h dX1_combined_74 rfl (by unfold cmb; grind)
  · refine rX1_combined_75 h (fun q21 => ?_) (fun q22 => ?_)
    · exact J_iret h dX1_combined_85 rfl (by unfold cmb; grind)
    · exact J_iret h dX1_combined_85 rfl (by unfold cmb; grind)
  · refine rX1_combined_86 h (fun q23 => ?_) (fun q24 => ?_)
    · exact J_iret h dX1_combined_96 rfl (by unfold cmb; grind)
    · exact J_iret h dX1_combined_96 rfl (by unfold cmb; grind)
  · refine rX1_combined_97 h (fun q25 => ?_) (fun q26 => ?_)
    · exact J_iret h dX1_combined_107 rfl (by unfold cmb; grind)
    · exact J_iret h dX1_combined_107 rfl (by unfold cmb; grind)
  · refine rX1_combined_108 h ?_
    exact J_iret h dX1_combined_111 rfl (by unfold cmb; grind)
  · refine rX1_combined_112 h ?_
    exact J_iret h dX1_combined_115 rfl (by unfold cmb; grind)
  · refine rX1_combined_116 h ?_
    exact J_iret h dX1_combined_119 rfl (by unfold cmb; grind)
theorem c_receivedP (hl : l.stackTraces = false) (hG : jGok G) {E : IE} {s : IS} (hM : MC 14 15 16 17 18 E s mu) (ha : E.1 < 24) (hk1 : 1 ≤ E.2.1) (hk2 : E.2.1 < 2 ^ 31) {p : Nat} (hp : p < 24) (x : Int32) : jCi l G yX1_received cX1_received 4 2 (some .int) [.ref 14, .int (nI p), .int x] mu (fun v mu' => v = rcv x (E.2.2.2 p) ∧ mu' = mu) := by
  refine jCi.of (pad := 1) hl hG (by decide) (Nat.le_of_ble_eq_true rfl) (fun X h => ?_)
  show J l G X _ 4 0 [.ref 14, .int (nI p), .int x, .float 0] [] mu 0
  refine rX1_receivedP_0 h ?_
  rw [hM.1, hM.2.1, show nI E.2.1 - 1 = nI (E.2.1 - 1) from by rw [nL1, nI_sub hk1]]
  refine rX1_receivedP_10 h (c_boxOf hl hG E.1 (by omega)) (by decide) (Nat.zero_le _) (fun v m1 e1 => ?_)
  obtain ⟨rfl, rfl⟩ := e1
  have hb := bxN_lt (k := E.2.1 - 1) ha
  have cb : (nI (bxN E.1 (E.2.1 - 1))).toNatClampNeg = bxN E.1 (E.2.1 - 1) := nI_clamp (by omega)
  have c2 : nI (bxN E.1 (E.2.1 - 1)) * 24 + nI p = nI (bxN E.1 (E.2.1 - 1) * 24 + p) := by rw [nL24, nI_mul, nI_add]
  obtain ⟨g1, g2⟩ := hM.2.2.2.2.2 p hp
  refine rX1_receivedP_13 h (vp_in_nI hb (by omega)) (fun _ _ => ?_) (fun q q2 => ?_) (fun q q2 => ?_) (fun q => ?_)
  · rw [c2]; exact vp_in_nI (by omega) (by omega)
  · rw [cb, bt_test1 _ (by omega), g1] at q
    exact J_iret h dX1_received_48 rfl ⟨by unfold rcv; rw [if_pos q, if_pos q2], rfl⟩
  · rw [cb, bt_test1 _ (by omega), g1] at q
    obtain ⟨v, hv⟩ := Option.isSome_iff_exists.mp q
    refine J_iret h dX1_received_48 rfl ⟨?_, rfl⟩
    rw [c2, nI_clamp (by omega), g2 v hv, hv]
    unfold rcv
    simp [q2]
  · rw [cb, bt_test _ (by omega), g1] at q
    exact J_iret h dX1_received_28 rfl ⟨by unfold rcv; rw [q]; rfl, rfl⟩
theorem c_reckonedP (hl : l.stackTraces = false) (hG : jGok G) {pr : List Wd} (hP : ProgC pr mu) (hv : Valid pr) (hlen : pr.length ≤ 64) {E : IE} {s : IS} (hM : MC 14 15 16 17 18 E s mu) (ha : E.1 < 24) {i : Nat} (hi : i < pr.length) (h1 : 1 ≤ pO pr i) (h2 : pO pr i ≤ 13) (p : Nat) : jCi l G yX1_reckoned cX1_reckoned 4 2 (some .int) [.ref 14, .int (nI i)] mu (fun v mu' => v = rv (wd pr i) E p s.1 ∧ mu' = mu) := by
  refine jCi.of (pad := 2) hl hG (by decide) (Nat.le_of_ble_eq_true rfl) (fun X h => ?_)
  show J l G X _ 4 0 [.ref 14, .int (nI i), .float 0, .float 0] [] mu 0
  have hc : (nI i).toNatClampNeg = i := nI_clamp (by omega)
  have hs : vp_in (nI i) 64 := vp_in_nI (by omega) (by omega)
  obtain ⟨g1, g2, g3, g4⟩ := hP.rd hi
  obtain ⟨x, hx, ex⟩ := right_a hv hi h1 h2
  have cx : nI E.1 * 8 + nI x = nI (E.1 * 8 + x) := by rw [nL8, nI_mul, nI_add]
  have kx : (nI (E.1 * 8 + x)).toNatClampNeg = E.1 * 8 + x := nI_clamp (by omega)
  refine rX1_reckonedP_0 h hs (by rw [hM.1, hc, g3, ex, cx]; exact vp_in_nI (by omega) (by omega)) hs ?_
  rw [hM.1, hc, g3, ex, cx, kx, hM.2.2.1 x hx, g1]
  have wx : (wd pr i).2.2.1.toNatClampNeg = x := by show (pA pr i).toNatClampNeg = x; rw [ex, nI_clamp (by omega)]
  have wo : (wd pr i).1 = pO pr i := rfl
  refine rX1_reckonedP_32 h (fun q => ?_) (fun q => ?_) (fun q => ?_) (fun q q2 q3 => ?_)
  · exact rX1_reckonedP_68 h (J_iret h dX1_reckoned_69 rfl ⟨by unfold rv; rw [wo, wx, q]; rfl, rfl⟩)
  · exact rX1_reckonedP_70 h (J_iret h dX1_reckoned_76 rfl ⟨by unfold rv; rw [wo, wx, q]; rfl, rfl⟩)
  · refine rX1_reckonedP_77 h ?_
    refine rX1_reckonedP_84 h (c_bitCount hl hG _) (by decide) (Nat.zero_le _) (fun v m1 e1 => ?_)
    obtain ⟨rfl, rfl⟩ := e1
    exact J_iret h dX1_reckoned_87 rfl ⟨by unfold rv; rw [wo, wx, q, lz_bc]; rfl, rfl⟩
  · have o1 : 2 ≤ pO pr i := by grind
    have o2 : pO pr i ≤ 11 := by grind
    obtain ⟨y, hy, ey⟩ := right_b hv hi o1 o2
    have cy : nI E.1 * 8 + nI y = nI (E.1 * 8 + y) := by rw [nL8, nI_mul, nI_add]
    have ky : (nI (E.1 * 8 + y)).toNatClampNeg = E.1 * 8 + y := nI_clamp (by omega)
    have wy : (wd pr i).2.2.2.toNatClampNeg = y := by show (pB pr i).toNatClampNeg = y; rw [ey, nI_clamp (by omega)]
    refine rX1_reckonedP_88 h hs (by rw [hM.1, hc, g4, ey, cy]; exact vp_in_nI (by omega) (by omega)) hs ?_
    rw [hM.1, hc, g4, ey, cy, ky, hM.2.2.1 y hy, g1]
    refine rX1_reckonedP_122 h (c_combined hl hG _ _ o1 o2) (by decide) (Nat.zero_le _) (fun v m1 e1 => ?_)
    obtain ⟨rfl, rfl⟩ := e1
    refine J_iret h dX1_reckoned_125 rfl ⟨?_, rfl⟩
    unfold rv
    rw [wo, wx, wy]
    grind
theorem c_doWordP (hl : l.stackTraces = false) (hG : jGok G) {pr : List Wd} (hP : ProgC pr mu) (hv : Valid pr) (hlen : pr.length ≤ 64) {E : IE} {s : IS} (hM : MC 14 15 16 17 18 E s mu) (ha : E.1 < 24) (hk1 : 1 ≤ E.2.1) (hk2 : E.2.1 < 2 ^ 31) (hnp : mu 9 E.1 = nI E.2.2.1) {i : Nat} (hi : i < pr.length) (h15 : pO pr i ≠ 15) {p : Nat} (hp : p < 24) :
    jCi l G yX1_doWord cX1_doWord 4 3 (some .int) [.ref 14, .int (nI i), .int (nI p)] mu (fun v mu' => (pO pr i = 14 → v = (if s.1 (pR pr i).toNatClampNeg = 0 then pA pr i else 0) ∧ mu' = mu) ∧ (pO pr i ≠ 14 → v = 0 ∧ MC 14 15 16 17 18 E (doW (wd pr i) E p s) mu' ∧ MF 14 15 18 E.1 mu mu')) := by
  refine jCi.of (pad := 1) hl hG (by decide) (Nat.le_of_ble_eq_true rfl) (fun X h => ?_)
  show J l G X _ 4 0 [.ref 14, .int (nI i), .int (nI p), .float 0] [] mu 0
  have hc : (nI i).toNatClampNeg = i := nI_clamp (by omega)
  have hs : vp_in (nI i) 64 := vp_in_nI (by omega) (by omega)
  obtain ⟨g1, g2, g3, g4⟩ := hP.rd hi
  obtain ⟨r, hr, er⟩ := right_r hv hi
  obtain ⟨o1, o2⟩ := right_o hv hi
  have cr : nI E.1 * 8 + nI r = nI (E.1 * 8 + r) := by rw [nL8, nI_mul, nI_add]
  have kr : (nI (E.1 * 8 + r)).toNatClampNeg = E.1 * 8 + r := nI_clamp (by omega)
  have hsr : vp_in (nI (E.1 * 8 + r)) 192 := vp_in_nI (by omega) (by omega)
  have wr1 : (wd pr i).2.1.toNatClampNeg = r := by show (pR pr i).toNatClampNeg = r; rw [er, nI_clamp (by omega)]
  have wo : (wd pr i).1 = pO pr i := rfl
  have wa : (wd pr i).2.2.1 = pA pr i := rfl
  have cp : (nI p).toNatClampNeg = p := nI_clamp (by omega)
  refine rX1_doWordP_0 h hs hs ?_
  rw [hM.1, hc, g2, er, cr, g1]
  have fin : ∀ (v : Int32), pO pr i ≠ 14 → pO pr i ≠ 18 → v = rv (wd pr i) E p s.1 → ((pO pr i = 14 → (0 : Int32) = (if s.1 (nI r).toNatClampNeg = 0 then pA pr i else 0) ∧ wr mu 15 (E.1 * 8 + r) v = mu) ∧ (pO pr i ≠ 14 → (0 : Int32) = 0 ∧ MC 14 15 16 17 18 E (doW (wd pr i) E p s) (wr mu 15 (E.1 * 8 + r) v) ∧ MF 14 15 18 E.1 mu (wr mu 15 (E.1 * 8 + r) v))) := by
    intro v q1 q2 hvv
    refine ⟨fun z => absurd z q1, fun _ => ⟨rfl, ?_, MF.reg hr v (by decide)⟩⟩
    unfold doW
    rw [wo, if_neg q2, wr1, ← hvv]
    exact hM.reg hr v (by decide)
  have calc1 : 1 ≤ pO pr i → pO pr i ≤ 13 → J l G X (jRi G X (fun v mu' => (pO pr i = 14 → v = (if s.1 (nI r).toNatClampNeg = 0 then pA pr i else 0) ∧ mu' = mu) ∧ (pO pr i ≠ 14 → v = 0 ∧ MC 14 15 16 17 18 E (doW (wd pr i) E p s) mu' ∧ MF 14 15 18 E.1 mu mu'))) 4 270 [.ref 14, .int (nI i), .int (nI p), .int (nI (E.1 * 8 + r))] [] mu 0 := fun q1 q2 => by
    refine rX1_doWordP_270 h ?_
    refine rX1_doWordP_277 h (c_reckonedP hl hG hP hv hlen hM ha hi q1 q2 p) (by decide) (Nat.zero_le _) (fun v m1 e1 => ?_)
    obtain ⟨e1, rfl⟩ := e1
    refine rX1_doWordP_280 h hsr ?_
    rw [kr]
    exact J_iret h dX1_doWord_282 rfl (fin v (by grind) (by grind) e1)
  have recv : pO pr i = 16 ∨ pO pr i = 17 → J l G X (jRi G X (fun v mu' => (pO pr i = 14 → v = (if s.1 (nI r).toNatClampNeg = 0 then pA pr i else 0) ∧ mu' = mu) ∧ (pO pr i ≠ 14 → v = 0 ∧ MC 14 15 16 17 18 E (doW (wd pr i) E p s) mu' ∧ MF 14 15 18 E.1 mu mu'))) 4 194 [.ref 14, .int (nI i), .int (nI p), .int (nI (E.1 * 8 + r))] [] mu 0 := fun q => by
    have n18 : pO pr i ≠ 14 ∧ pO pr i ≠ 18 := by grind
    refine rX1_doWordP_194 h hs (fun q2 => ?_) (fun q2 => ?_)
    · rw [hc, g1] at q2
      refine rX1_doWordP_220 h (c_receivedP hl hG hM ha hk1 hk2 hp 0) (by decide) (Nat.zero_le _) (fun v m1 e1 => ?_)
      obtain ⟨e1, rfl⟩ := e1
      refine rX1_doWordP_223 h hsr ?_
      rw [kr]
      refine J_iret h dX1_doWord_225 rfl (fin v n18.1 n18.2 ?_)
      rw [e1]
      unfold rv rcv
      rw [wo, show pO pr i = 16 by grind]; rfl
    · rw [hc, g1] at q2
      refine rX1_doWordP_220 h (c_receivedP hl hG hM ha hk1 hk2 hp 1) (by decide) (Nat.zero_le _) (fun v m1 e1 => ?_)
      obtain ⟨e1, rfl⟩ := e1
      refine rX1_doWordP_223 h hsr ?_
      rw [kr]
      refine J_iret h dX1_doWord_225 rfl (fin v n18.1 n18.2 ?_)
      rw [e1]
      unfold rv rcv
      rw [wo, q2]
      show (if (E.2.2.2 p).isSome = true then (E.2.2.2 p).getD 0 else 0) = (E.2.2.2 p).getD 0
      cases E.2.2.2 p with
      | none => rfl
      | some v => rfl
  refine rX1_doWordP_27 h (fun q1 => ?_) (fun q2 => ?_) (fun q3 => ?_) (fun q4 => ?_) (fun q5 => ?_) (fun q6 => ?_) (fun q7 => ?_) (fun q8 => ?_) (fun q9 => ?_) (fun q10 => ?_) (fun q11 => ?_) (fun q12 => ?_) (fun q13 => ?_) (fun q14 => ?_) (fun q15 => ?_) (fun q16 => ?_) (fun q17 => ?_) (fun q18 => ?_) (fun q19 => ?_) (fun q20 => ?_) (fun q21 => ?_) (fun q22 => ?_) (fun q23 q24 q25 q26 q27 q28 q29 q30 q31 q32 q33 q34 q35 q36 q37 q38 q39 q40 q41 q42 q43 q44 => ?_)
  · refine rX1_doWordP_177 h hs hsr ?_
    rw [kr, hc, g3]
    exact J_iret h dX1_doWord_193 rfl (fin _ (by grind) (by grind) (by unfold rv; rw [wo, wa]; grind))
  · first | exact calc1 (by grind) (by grind) | exact absurd ‹_› h15 | (exfalso; grind)
  · first | exact calc1 (by grind) (by grind) | exact absurd ‹_› h15 | (exfalso; grind)
  · first | exact calc1 (by grind) (by grind) | exact absurd ‹_› h15 | (exfalso; grind)
  · first | exact calc1 (by grind) (by grind) | exact absurd ‹_› h15 | (exfalso; grind)
  · first | exact calc1 (by grind) (by grind) | exact absurd ‹_› h15 | (exfalso; grind)
  · first | exact calc1 (by grind) (by grind) | exact absurd ‹_› h15 | (exfalso; grind)
  · first | exact calc1 (by grind) (by grind) | exact absurd ‹_› h15 | (exfalso; grind)
  · first | exact calc1 (by grind) (by grind) | exact absurd ‹_› h15 | (exfalso; grind)
  · first | exact calc1 (by grind) (by grind) | exact absurd ‹_› h15 | (exfalso; grind)
  · first | exact calc1 (by grind) (by grind) | exact absurd ‹_› h15 | (exfalso; grind)
  · first | exact calc1 (by grind) (by grind) | exact absurd ‹_› h15 | (exfalso; grind)
  · first | exact calc1 (by grind) (by grind) | exact absurd ‹_› h15 | (exfalso; grind)
  · first | exact calc1 (by grind) (by grind) | exact absurd ‹_› h15 | (exfalso; grind)
  · refine rX1_doWordP_128 h hsr (fun _ => hs) (fun q => ?_) (fun q => ?_)
    · rw [kr, hM.2.2.1 r hr] at q; exact J_iret h dX1_doWord_150 rfl ⟨fun _ => ⟨by rw [nI_clamp (by omega), if_neg q], rfl⟩, fun z => absurd (by grind) z⟩
    · rw [kr, hM.2.2.1 r hr] at q; rw [hc, g3]; exact J_iret h dX1_doWord_150 rfl ⟨fun _ => ⟨by rw [nI_clamp (by omega), if_pos q], rfl⟩, fun z => absurd (by grind) z⟩
  · first | exact calc1 (by grind) (by grind) | exact absurd ‹_› h15 | (exfalso; grind)
  · exact recv (by grind)
  · exact recv (by grind)
  · refine rX1_doWordP_151 h hsr (vp_in_nI hp (by omega)) ?_
    rw [kr, cp, hM.2.2.1 r hr]
    exact J_iret h dX1_doWord_176 rfl ⟨fun z => by grind, fun _ => ⟨rfl, by unfold doW; rw [wo, if_pos (by grind), wr1]; exact hM.send hp _ (by decide), MF.send _ _ (by decide)⟩⟩
  · refine rX1_doWordP_226 h hsr ?_
    rw [kr, hM.2.1]
    exact J_iret h dX1_doWord_237 rfl (fin _ (by grind) (by grind) (by unfold rv; rw [wo]; grind))
  · refine rX1_doWordP_238 h hsr ?_
    rw [kr, hM.1]
    exact J_iret h dX1_doWord_249 rfl (fin _ (by grind) (by grind) (by unfold rv; rw [wo]; grind))
  · refine rX1_doWordP_250 h (by rw [hM.1]; exact vp_in_nI ha (by omega)) hsr ?_
    rw [kr, hM.1, nI_clamp (n := E.1) (by omega), hnp]
    exact J_iret h dX1_doWord_269 rfl (fin _ (by grind) (by grind) (by unfold rv; rw [wo]; grind))
  · first | exact calc1 (by grind) (by grind) | exact absurd ‹_› h15 | (exfalso; grind)
theorem c_receivedR (hl : l.stackTraces = false) (hG : jGok G) {E : IE} {s : IS} (hM : MC 20 21 22 23 24 E s mu) (ha : E.1 < 24) (hk1 : 1 ≤ E.2.1) (hk2 : E.2.1 < 2 ^ 31) {p : Nat} (hp : p < 24) (x : Int32) : jCi l G yX1_received cX1_received 4 2 (some .int) [.ref 20, .int (nI p), .int x] mu (fun v mu' => v = rcv x (E.2.2.2 p) ∧ mu' = mu) := by
  refine jCi.of (pad := 1) hl hG (by decide) (Nat.le_of_ble_eq_true rfl) (fun X h => ?_)
  show J l G X _ 4 0 [.ref 20, .int (nI p), .int x, .float 0] [] mu 0
  refine rX1_receivedR_0 h ?_
  rw [hM.1, hM.2.1, show nI E.2.1 - 1 = nI (E.2.1 - 1) from by rw [nL1, nI_sub hk1]]
  refine rX1_receivedR_10 h (c_boxOf hl hG E.1 (by omega)) (by decide) (Nat.zero_le _) (fun v m1 e1 => ?_)
  obtain ⟨rfl, rfl⟩ := e1
  have hb := bxN_lt (k := E.2.1 - 1) ha
  have cb : (nI (bxN E.1 (E.2.1 - 1))).toNatClampNeg = bxN E.1 (E.2.1 - 1) := nI_clamp (by omega)
  have c2 : nI (bxN E.1 (E.2.1 - 1)) * 24 + nI p = nI (bxN E.1 (E.2.1 - 1) * 24 + p) := by rw [nL24, nI_mul, nI_add]
  obtain ⟨g1, g2⟩ := hM.2.2.2.2.2 p hp
  refine rX1_receivedR_13 h (vp_in_nI hb (by omega)) (fun _ _ => ?_) (fun q q2 => ?_) (fun q q2 => ?_) (fun q => ?_)
  · rw [c2]; exact vp_in_nI (by omega) (by omega)
  · rw [cb, bt_test1 _ (by omega), g1] at q
    exact J_iret h dX1_received_48 rfl ⟨by unfold rcv; rw [if_pos q, if_pos q2], rfl⟩
  · rw [cb, bt_test1 _ (by omega), g1] at q
    obtain ⟨v, hv⟩ := Option.isSome_iff_exists.mp q
    refine J_iret h dX1_received_48 rfl ⟨?_, rfl⟩
    rw [c2, nI_clamp (by omega), g2 v hv, hv]
    unfold rcv
    simp [q2]
  · rw [cb, bt_test _ (by omega), g1] at q
    exact J_iret h dX1_received_28 rfl ⟨by unfold rcv; rw [q]; rfl, rfl⟩
theorem c_reckonedR (hl : l.stackTraces = false) (hG : jGok G) {pr : List Wd} (hP : ProgC pr mu) (hv : Valid pr) (hlen : pr.length ≤ 64) {E : IE} {s : IS} (hM : MC 20 21 22 23 24 E s mu) (ha : E.1 < 24) {i : Nat} (hi : i < pr.length) (h1 : 1 ≤ pO pr i) (h2 : pO pr i ≤ 13) (p : Nat) : jCi l G yX1_reckoned cX1_reckoned 4 2 (some .int) [.ref 20, .int (nI i)] mu (fun v mu' => v = rv (wd pr i) E p s.1 ∧ mu' = mu) := by
  refine jCi.of (pad := 2) hl hG (by decide) (Nat.le_of_ble_eq_true rfl) (fun X h => ?_)
  show J l G X _ 4 0 [.ref 20, .int (nI i), .float 0, .float 0] [] mu 0
  have hc : (nI i).toNatClampNeg = i := nI_clamp (by omega)
  have hs : vp_in (nI i) 64 := vp_in_nI (by omega) (by omega)
  obtain ⟨g1, g2, g3, g4⟩ := hP.rd hi
  obtain ⟨x, hx, ex⟩ := right_a hv hi h1 h2
  have cx : nI E.1 * 8 + nI x = nI (E.1 * 8 + x) := by rw [nL8, nI_mul, nI_add]
  have kx : (nI (E.1 * 8 + x)).toNatClampNeg = E.1 * 8 + x := nI_clamp (by omega)
  refine rX1_reckonedR_0 h hs (by rw [hM.1, hc, g3, ex, cx]; exact vp_in_nI (by omega) (by omega)) hs ?_
  rw [hM.1, hc, g3, ex, cx, kx, hM.2.2.1 x hx, g1]
  have wx : (wd pr i).2.2.1.toNatClampNeg = x := by show (pA pr i).toNatClampNeg = x; rw [ex, nI_clamp (by omega)]
  have wo : (wd pr i).1 = pO pr i := rfl
  refine rX1_reckonedR_32 h (fun q => ?_) (fun q => ?_) (fun q => ?_) (fun q q2 q3 => ?_)
  · exact rX1_reckonedR_68 h (J_iret h dX1_reckoned_69 rfl ⟨by unfold rv; rw [wo, wx, q]; rfl, rfl⟩)
  · exact rX1_reckonedR_70 h (J_iret h dX1_reckoned_76 rfl ⟨by unfold rv; rw [wo, wx, q]; rfl, rfl⟩)
  · refine rX1_reckonedR_77 h ?_
    refine rX1_reckonedR_84 h (c_bitCount hl hG _) (by decide) (Nat.zero_le _) (fun v m1 e1 => ?_)
    obtain ⟨rfl, rfl⟩ := e1
    exact J_iret h dX1_reckoned_87 rfl ⟨by unfold rv; rw [wo, wx, q, lz_bc]; rfl, rfl⟩
  · have o1 : 2 ≤ pO pr i := by grind
    have o2 : pO pr i ≤ 11 := by grind
    obtain ⟨y, hy, ey⟩ := right_b hv hi o1 o2
    have cy : nI E.1 * 8 + nI y = nI (E.1 * 8 + y) := by rw [nL8, nI_mul, nI_add]
    have ky : (nI (E.1 * 8 + y)).toNatClampNeg = E.1 * 8 + y := nI_clamp (by omega)
    have wy : (wd pr i).2.2.2.toNatClampNeg = y := by show (pB pr i).toNatClampNeg = y; rw [ey, nI_clamp (by omega)]
    refine rX1_reckonedR_88 h hs (by rw [hM.1, hc, g4, ey, cy]; exact vp_in_nI (by omega) (by omega)) hs ?_
    rw [hM.1, hc, g4, ey, cy, ky, hM.2.2.1 y hy, g1]
    refine rX1_reckonedR_122 h (c_combined hl hG _ _ o1 o2) (by decide) (Nat.zero_le _) (fun v m1 e1 => ?_)
    obtain ⟨rfl, rfl⟩ := e1
    refine J_iret h dX1_reckoned_125 rfl ⟨?_, rfl⟩
    unfold rv
    rw [wo, wx, wy]
    grind
theorem c_doWordR (hl : l.stackTraces = false) (hG : jGok G) {pr : List Wd} (hP : ProgC pr mu) (hv : Valid pr) (hlen : pr.length ≤ 64) {E : IE} {s : IS} (hM : MC 20 21 22 23 24 E s mu) (ha : E.1 < 24) (hk1 : 1 ≤ E.2.1) (hk2 : E.2.1 < 2 ^ 31) (hnp : mu 9 E.1 = nI E.2.2.1) {i : Nat} (hi : i < pr.length) (h15 : pO pr i ≠ 15) {p : Nat} (hp : p < 24) :
    jCi l G yX1_doWord cX1_doWord 4 3 (some .int) [.ref 20, .int (nI i), .int (nI p)] mu (fun v mu' => (pO pr i = 14 → v = (if s.1 (pR pr i).toNatClampNeg = 0 then pA pr i else 0) ∧ mu' = mu) ∧ (pO pr i ≠ 14 → v = 0 ∧ MC 20 21 22 23 24 E (doW (wd pr i) E p s) mu' ∧ MF 20 21 24 E.1 mu mu')) := by
  refine jCi.of (pad := 1) hl hG (by decide) (Nat.le_of_ble_eq_true rfl) (fun X h => ?_)
  show J l G X _ 4 0 [.ref 20, .int (nI i), .int (nI p), .float 0] [] mu 0
  have hc : (nI i).toNatClampNeg = i := nI_clamp (by omega)
  have hs : vp_in (nI i) 64 := vp_in_nI (by omega) (by omega)
  obtain ⟨g1, g2, g3, g4⟩ := hP.rd hi
  obtain ⟨r, hr, er⟩ := right_r hv hi
  obtain ⟨o1, o2⟩ := right_o hv hi
  have cr : nI E.1 * 8 + nI r = nI (E.1 * 8 + r) := by rw [nL8, nI_mul, nI_add]
  have kr : (nI (E.1 * 8 + r)).toNatClampNeg = E.1 * 8 + r := nI_clamp (by omega)
  have hsr : vp_in (nI (E.1 * 8 + r)) 192 := vp_in_nI (by omega) (by omega)
  have wr1 : (wd pr i).2.1.toNatClampNeg = r := by show (pR pr i).toNatClampNeg = r; rw [er, nI_clamp (by omega)]
  have wo : (wd pr i).1 = pO pr i := rfl
  have wa : (wd pr i).2.2.1 = pA pr i := rfl
  have cp : (nI p).toNatClampNeg = p := nI_clamp (by omega)
  refine rX1_doWordR_0 h hs hs ?_
  rw [hM.1, hc, g2, er, cr, g1]
  have fin : ∀ (v : Int32), pO pr i ≠ 14 → pO pr i ≠ 18 → v = rv (wd pr i) E p s.1 → ((pO pr i = 14 → (0 : Int32) = (if s.1 (nI r).toNatClampNeg = 0 then pA pr i else 0) ∧ wr mu 21 (E.1 * 8 + r) v = mu) ∧ (pO pr i ≠ 14 → (0 : Int32) = 0 ∧ MC 20 21 22 23 24 E (doW (wd pr i) E p s) (wr mu 21 (E.1 * 8 + r) v) ∧ MF 20 21 24 E.1 mu (wr mu 21 (E.1 * 8 + r) v))) := by
    intro v q1 q2 hvv
    refine ⟨fun z => absurd z q1, fun _ => ⟨rfl, ?_, MF.reg hr v (by decide)⟩⟩
    unfold doW
    rw [wo, if_neg q2, wr1, ← hvv]
    exact hM.reg hr v (by decide)
  have calc1 : 1 ≤ pO pr i → pO pr i ≤ 13 → J l G X (jRi G X (fun v mu' => (pO pr i = 14 → v = (if s.1 (nI r).toNatClampNeg = 0 then pA pr i else 0) ∧ mu' = mu) ∧ (pO pr i ≠ 14 → v = 0 ∧ MC 20 21 22 23 24 E (doW (wd pr i) E p s) mu' ∧ MF 20 21 24 E.1 mu mu'))) 4 270 [.ref 20, .int (nI i), .int (nI p), .int (nI (E.1 * 8 + r))] [] mu 0 := fun q1 q2 => by
    refine rX1_doWordR_270 h ?_
    refine rX1_doWordR_277 h (c_reckonedR hl hG hP hv hlen hM ha hi q1 q2 p) (by decide) (Nat.zero_le _) (fun v m1 e1 => ?_)
    obtain ⟨e1, rfl⟩ := e1
    refine rX1_doWordR_280 h hsr ?_
    rw [kr]
    exact J_iret h dX1_doWord_282 rfl (fin v (by grind) (by grind) e1)
  have recv : pO pr i = 16 ∨ pO pr i = 17 → J l G X (jRi G X (fun v mu' => (pO pr i = 14 → v = (if s.1 (nI r).toNatClampNeg = 0 then pA pr i else 0) ∧ mu' = mu) ∧ (pO pr i ≠ 14 → v = 0 ∧ MC 20 21 22 23 24 E (doW (wd pr i) E p s) mu' ∧ MF 20 21 24 E.1 mu mu'))) 4 194 [.ref 20, .int (nI i), .int (nI p), .int (nI (E.1 * 8 + r))] [] mu 0 := fun q => by
    have n18 : pO pr i ≠ 14 ∧ pO pr i ≠ 18 := by grind
    refine rX1_doWordR_194 h hs (fun q2 => ?_) (fun q2 => ?_)
    · rw [hc, g1] at q2
      refine rX1_doWordR_220 h (c_receivedR hl hG hM ha hk1 hk2 hp 0) (by decide) (Nat.zero_le _) (fun v m1 e1 => ?_)
      obtain ⟨e1, rfl⟩ := e1
      refine rX1_doWordR_223 h hsr ?_
      rw [kr]
      refine J_iret h dX1_doWord_225 rfl (fin v n18.1 n18.2 ?_)
      rw [e1]
      unfold rv rcv
      rw [wo, show pO pr i = 16 by grind]; rfl
    · rw [hc, g1] at q2
      refine rX1_doWordR_220 h (c_receivedR hl hG hM ha hk1 hk2 hp 1) (by decide) (Nat.zero_le _) (fun v m1 e1 => ?_)
      obtain ⟨e1, rfl⟩ := e1
      refine rX1_doWordR_223 h hsr ?_
      rw [kr]
      refine J_iret h dX1_doWord_225 rfl (fin v n18.1 n18.2 ?_)
      rw [e1]
      unfold rv rcv
      rw [wo, q2]
      show (if (E.2.2.2 p).isSome = true then (E.2.2.2 p).getD 0 else 0) = (E.2.2.2 p).getD 0
      cases E.2.2.2 p with
      | none => rfl
      | some v => rfl
  refine rX1_doWordR_27 h (fun q1 => ?_) (fun q2 => ?_) (fun q3 => ?_) (fun q4 => ?_) (fun q5 => ?_) (fun q6 => ?_) (fun q7 => ?_) (fun q8 => ?_) (fun q9 => ?_) (fun q10 => ?_) (fun q11 => ?_) (fun q12 => ?_) (fun q13 => ?_) (fun q14 => ?_) (fun q15 => ?_) (fun q16 => ?_) (fun q17 => ?_) (fun q18 => ?_) (fun q19 => ?_) (fun q20 => ?_) (fun q21 => ?_) (fun q22 => ?_) (fun q23 q24 q25 q26 q27 q28 q29 q30 q31 q32 q33 q34 q35 q36 q37 q38 q39 q40 q41 q42 q43 q44 => ?_)
  · refine rX1_doWordR_177 h hs hsr ?_
    rw [kr, hc, g3]
    exact J_iret h dX1_doWord_193 rfl (fin _ (by grind) (by grind) (by unfold rv; rw [wo, wa]; grind))
  · first | exact calc1 (by grind) (by grind) | exact absurd ‹_› h15 | (exfalso; grind)
  · first | exact calc1 (by grind) (by grind) | exact absurd ‹_› h15 | (exfalso; grind)
  · first | exact calc1 (by grind) (by grind) | exact absurd ‹_› h15 | (exfalso; grind)
  · first | exact calc1 (by grind) (by grind) | exact absurd ‹_› h15 | (exfalso; grind)
  · first | exact calc1 (by grind) (by grind) | exact absurd ‹_› h15 | (exfalso; grind)
  · first | exact calc1 (by grind) (by grind) | exact absurd ‹_› h15 | (exfalso; grind)
  · first | exact calc1 (by grind) (by grind) | exact absurd ‹_› h15 | (exfalso; grind)
  · first | exact calc1 (by grind) (by grind) | exact absurd ‹_› h15 | (exfalso; grind)
  · first | exact calc1 (by grind) (by grind) | exact absurd ‹_› h15 | (exfalso; grind)
  · first | exact calc1 (by grind) (by grind) | exact absurd ‹_› h15 | (exfalso; grind)
  · first | exact calc1 (by grind) (by grind) | exact absurd ‹_› h15 | (exfalso; grind)
  · first | exact calc1 (by grind) (by grind) | exact absurd ‹_› h15 | (exfalso; grind)
  · first | exact calc1 (by grind) (by grind) | exact absurd ‹_› h15 | (exfalso; grind)
  · refine rX1_doWordR_128 h hsr (fun _ => hs) (fun q => ?_) (fun q => ?_)
    · rw [kr, hM.2.2.1 r hr] at q; exact J_iret h dX1_doWord_150 rfl ⟨fun _ => ⟨by rw [nI_clamp (by omega), if_neg q], rfl⟩, fun z => absurd (by grind) z⟩
    · rw [kr, hM.2.2.1 r hr] at q; rw [hc, g3]; exact J_iret h dX1_doWord_150 rfl ⟨fun _ => ⟨by rw [nI_clamp (by omega), if_pos q], rfl⟩, fun z => absurd (by grind) z⟩
  · first | exact calc1 (by grind) (by grind) | exact absurd ‹_› h15 | (exfalso; grind)
  · exact recv (by grind)
  · exact recv (by grind)
  · refine rX1_doWordR_151 h hsr (vp_in_nI hp (by omega)) ?_
    rw [kr, cp, hM.2.2.1 r hr]
    exact J_iret h dX1_doWord_176 rfl ⟨fun z => by grind, fun _ => ⟨rfl, by unfold doW; rw [wo, if_pos (by grind), wr1]; exact hM.send hp _ (by decide), MF.send _ _ (by decide)⟩⟩
  · refine rX1_doWordR_226 h hsr ?_
    rw [kr, hM.2.1]
    exact J_iret h dX1_doWord_237 rfl (fin _ (by grind) (by grind) (by unfold rv; rw [wo]; grind))
  · refine rX1_doWordR_238 h hsr ?_
    rw [kr, hM.1]
    exact J_iret h dX1_doWord_249 rfl (fin _ (by grind) (by grind) (by unfold rv; rw [wo]; grind))
  · refine rX1_doWordR_250 h (by rw [hM.1]; exact vp_in_nI ha (by omega)) hsr ?_
    rw [kr, hM.1, nI_clamp (n := E.1) (by omega), hnp]
    exact J_iret h dX1_doWord_269 rfl (fin _ (by grind) (by grind) (by unfold rv; rw [wo]; grind))
  · first | exact calc1 (by grind) (by grind) | exact absurd ‹_› h15 | (exfalso; grind)
end C40
