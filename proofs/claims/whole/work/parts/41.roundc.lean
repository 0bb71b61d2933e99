/-! ===== the class's machines: a round, what comes ===== -/
theorem ProgC.mf {pr : List Wd} {M A S a : Nat} {mu mu' : jM} (h : ProgC pr mu) (hf : MF M A S a mu mu') (h1 : 5 < M ∧ 5 < A ∧ 5 < S) : ProgC pr mu' := h.congr (fun c q1 q2 => hf.1 c (by omega) (by omega) (by omega))
theorem ProgC.len {pr : List Wd} {mu : jM} (h : ProgC pr mu) : mu 1 4 = nI pr.length := h.1
section C41
variable {l : Launch} {G : jG} {mu : jM}
/-- a node's round is done -/
def MDP (pr : List Wd) (E : IE) (R : Nat → Int32) (mu mu' : jM) : Prop :=
  (∀ r, r < 8 → mu' 15 (E.1 * 8 + r) = (exec pr E R).1 r) ∧ (∀ i, i < 32 → bt (mu' 14 6) i = ((exec pr E R).2 i).isSome) ∧ (∀ p v, p < 24 → (exec pr E R).2 p = some v → mu' 18 p = v) ∧
  mu' 16 = upd (mu 16) (bxN E.1 (E.2.1 - 1)) 0 ∧ (∀ c, c ≠ 14 → c ≠ 15 → c ≠ 18 → c ≠ 16 → mu' c = mu c) ∧ ∀ j, j < E.1 * 8 ∨ E.1 * 8 + 8 ≤ j → mu' 15 j = mu 15 j
theorem c_doRoundP (hl : l.stackTraces = false) (hG : jGok G) {pr : List Wd} (hP : ProgC pr mu) (hv : Valid pr) (hlen : pr.length ≤ 64) {E : IE} {R : Nat → Int32} (ha : E.1 < 24) (hk1 : 1 ≤ E.2.1) (hk2 : E.2.1 < 2 ^ 31) (hnp : mu 9 E.1 = nI E.2.2.1) (hn24 : E.2.2.1 ≤ 24)
    (hR : ∀ r, r < 8 → mu 15 (E.1 * 8 + r) = R r) (hB : ∀ p, p < 24 → bt (mu 16 (bxN E.1 (E.2.1 - 1))) p = (E.2.2.2 p).isSome ∧ ∀ v, E.2.2.2 p = some v → mu 17 (bxN E.1 (E.2.1 - 1) * 24 + p) = v) :
    jCv l G yX1_doRound cX1_doRound 7 4 [.ref 14, .int (nI E.1), .int (nI E.2.1)] mu (fun mu' => MDP pr E R mu mu') := by
  refine jCv.of (pad := 4) hl hG (by decide) (Nat.le_of_ble_eq_true rfl) (fun X h => ?_)
  show J l G X _ 7 0 [.ref 14, .int (nI E.1), .int (nI E.2.1), .float 0, .float 0, .float 0, .float 0] [] mu 0
  refine rX1_doRoundP_0 h ?_
  obtain ⟨m0, hm0⟩ : ∃ m : jM, m = wr (wr (wr mu 14 7 (nI E.1)) 14 8 (nI E.2.1)) 14 6 0 := ⟨_, rfl⟩
  rw [← hm0]
  have f0 : ∀ c, c ≠ 14 → m0 c = mu c := fun c q => by rw [hm0, rd_ne _ _ _ q, rd_ne _ _ _ q, rd_ne _ _ _ q]
  have hMC : MC 14 15 16 17 18 E (R, fun _ => none) m0 := by
    refine ⟨by rw [hm0]; rfl, by rw [hm0]; rfl, fun r hr => by rw [f0 15 (by decide)]; exact hR r hr, fun i hi => ?_, fun p v _ q => (by cases q), fun p hp => ?_⟩
    · rw [hm0]; show bt (0 : Int32) i = _; rw [b_0]; rfl
    · rw [f0 16 (by decide), f0 17 (by decide)]; exact hB p hp
  have P0 : ProgC pr m0 := hP.congr (fun c q1 q2 => f0 c (by omega))
  have n0 : m0 9 E.1 = nI E.2.2.1 := by rw [f0 9 (by decide)]; exact hnp
  have fin : ∀ (i : Nat) (s : IS) (m1 : jM), MC 14 15 16 17 18 E s m1 → MF 14 15 18 E.1 m0 m1 → pr.length ≤ i → i ≤ 64 → s = exec pr E R → J l G X (jRv G X (fun mu' => MDP pr E R mu mu')) 7 17 [.ref 14, .int (nI E.1), .int (nI E.2.1), .int (nI i), .float 0, .float 0, .float 0] [] m1 0 := by
    intro i s m1 hC hF hi hi2 hs
    have hle : m1 1 4 ≤ nI i := by rw [(P0.mf hF (by decide)).1]; exact nI_le hi (by omega)
    refine rX1_doRoundP_17 h (fun z => absurd hle z) (fun z => absurd hle z) (fun _ => ?_) (fun z => absurd hle z) (fun z => absurd hle z)
    rw [show nI E.2.1 - 1 = nI (E.2.1 - 1) from by rw [nL1, nI_sub hk1]]
    refine rX1_doRoundP_159 h (c_boxOf hl hG E.1 (by omega)) (by decide) (Nat.zero_le _) (fun v m2 e1 => ?_)
    obtain ⟨rfl, rfl⟩ := e1
    have hb := bxN_lt (k := E.2.1 - 1) ha
    refine rX1_doRoundP_162 h (vp_in_nI hb (by omega)) ?_
    rw [nI_clamp (by omega)]
    obtain ⟨c1, c2, c3, c4, c5, c6⟩ := hC
    rw [hs] at c3 c4 c5
    refine J_vret h dX1_doRound_164 ⟨fun r hr => ?_, fun i hi => ?_, fun p v hp hv => ?_, ?_, fun c q1 q2 q3 q4 => ?_, fun j q => ?_⟩
    · rw [rd_ne _ _ _ (by decide)]; exact c3 r hr
    · rw [rd_ne _ _ _ (by decide)]; exact c4 i hi
    · rw [rd_ne _ _ _ (by decide)]; exact c5 p v hp hv
    · rw [rd_at, hF.1 16 (by decide) (by decide) (by decide), f0 16 (by decide)]
    · rw [rd_ne _ _ _ q4, hF.1 c q1 q2 q3, f0 c q1]
    · rw [rd_ne _ _ _ (by decide), hF.2.1 j q, f0 15 (by decide)]
  revert fin
  generalize jRv G X (fun mu' => MDP pr E R mu mu') = Q0
  intro fin
  have outer : ∀ (f i : Nat) (s : IS) (m1 : jM), pr.length ≤ i + f → i ≤ pr.length → beh pr i ≤ i → MC 14 15 16 17 18 E s m1 → MF 14 15 18 E.1 m0 m1 → runP pr E f i s = exec pr E R → J l G X Q0 7 17 [.ref 14, .int (nI E.1), .int (nI E.2.1), .int (nI i), .float 0, .float 0, .float 0] [] m1 0 := by
    intro f
    induction f with
    | zero => intro i s m1 h1 h2 h3 hC hF he; exact fin i s m1 hC hF (by omega) (by omega) he
    | succ f ih =>
      intro i s m1 h1 h2 h3 hC hF he
      by_cases hil : i < pr.length
      case neg => exact fin i s m1 hC hF (by omega) (by omega) (by unfold runP at he; rw [if_neg hil] at he; exact he)
      have P1 := P0.mf hF (by decide)
      have n1 : m1 9 E.1 = nI E.2.2.1 := by rw [hF.1 9 (by decide) (by decide) (by decide)]; exact n0
      obtain ⟨g1, g2, g3, g4⟩ := P1.rd hil
      have hc : (nI i).toNatClampNeg = i := nI_clamp (by omega)
      have hs : vp_in (nI i) 64 := vp_in_nI (by omega) (by omega)
      have hle : ¬ m1 1 4 ≤ nI i := by rw [P1.1]; exact nI_ge hil (by omega)
      unfold runP at he
      rw [if_pos hil] at he
      refine rX1_doRoundP_17 h (fun _ => hs) (fun _ _ => hs) (fun z => absurd z hle) (fun _ q => ?_) (fun _ q => ?_)
      · rw [hc, g1] at q
        rw [if_pos q] at he
        obtain ⟨a, ea, ea1, ea2, ea3, ea4⟩ := right_each hv hlen hil h3 q
        rw [hc, g3, ea, nI_add]
        rw [ea, nI_clamp (by omega)] at he
        obtain ⟨r, hr, er⟩ := right_r hv hil
        have each : ∀ (m p : Nat) (s : IS) (m1 : jM), p + m = E.2.2.1 → MC 14 15 16 17 18 E s m1 → MF 14 15 18 E.1 m0 m1 → runP pr E f (i + 1 + a) (eachP pr E i m p s) = exec pr E R → J l G X Q0 7 70 [.ref 14, .int (nI E.1), .int (nI E.2.1), .int (nI i), .int (nI (i + a)), .int (nI p), .float 0] [] m1 0 := by
          intro m
          induction m with
          | zero =>
            intro p s m1 hp hC hF he
            have n1 : m1 9 E.1 = nI E.2.2.1 := by rw [hF.1 9 (by decide) (by decide) (by decide)]; exact n0
            have hle : m1 9 (nI E.1).toNatClampNeg ≤ nI p := by rw [nI_clamp (by omega), n1]; exact nI_le (by omega) (by omega)
            refine rX1_doRoundP_70 h (vp_in_nI ha (by omega)) (fun z => absurd hle z) (fun z => absurd hle z) (fun _ => ?_) (fun z => absurd hle z)
            refine rX1_doRoundP_145 h ?_
            rw [nI_1]
            refine J_forget 4 (J_forget 5 ?_)
            exact ih (i + a + 1) s m1 (by omega) (by omega) (by rw [show i + a + 1 = i + 1 + a by omega, ea4]; exact Nat.le_refl _) hC hF (by rw [show i + a + 1 = i + 1 + a by omega]; exact he)
          | succ m ihm =>
            intro p s m1 hp hC hF he
            have P1 := P0.mf hF (by decide)
            have n1 : m1 9 E.1 = nI E.2.2.1 := by rw [hF.1 9 (by decide) (by decide) (by decide)]; exact n0
            have hle : ¬ m1 9 (nI E.1).toNatClampNeg ≤ nI p := by rw [nI_clamp (by omega), n1]; exact nI_ge (by omega) (by omega)
            obtain ⟨g1, g2, g3, g4⟩ := P1.rd hil
            have cr : nI E.1 * 8 + nI r = nI (E.1 * 8 + r) := by rw [nL8, nI_mul, nI_add]
            refine rX1_doRoundP_70 h (vp_in_nI ha (by omega)) (fun _ => hs) (fun _ => by rw [hc, g2, er, cr]; exact vp_in_nI (by omega) (by omega)) (fun z => absurd z hle) (fun _ => ?_)
            rw [hc, g2, er, cr, nI_clamp (by omega), nI_1]
            unfold eachP at he
            rw [er, nI_clamp (n := r) (by omega), ea, nI_clamp (n := a) (by omega)] at he
            have inner : ∀ (f2 j : Nat) (s : IS) (m1 : jM), i + 1 + a ≤ j + f2 → i < j → j ≤ i + 1 + a → MC 14 15 16 17 18 E s m1 → MF 14 15 18 E.1 m0 m1 → runP pr E f (i + 1 + a) (eachP pr E i m (p + 1) (runW pr E p (i + 1 + a) f2 j s)) = exec pr E R → J l G X Q0 7 110 [.ref 14, .int (nI E.1), .int (nI E.2.1), .int (nI i), .int (nI (i + a)), .int (nI p), .int (nI j)] [] m1 0 := by
              intro f2
              have leave : ∀ (j : Nat) (s : IS) (m1 : jM), j = i + 1 + a → MC 14 15 16 17 18 E s m1 → MF 14 15 18 E.1 m0 m1 → runP pr E f (i + 1 + a) (eachP pr E i m (p + 1) s) = exec pr E R → J l G X Q0 7 110 [.ref 14, .int (nI E.1), .int (nI E.2.1), .int (nI i), .int (nI (i + a)), .int (nI p), .int (nI j)] [] m1 0 := by
                intro j s m1 hj hC hF he
                have hlt : nI (i + a) < nI j := nI_lt (by omega) (by omega)
                refine rX1_doRoundP_110 h (fun _ => ?_) (fun z => absurd hlt z)
                rw [nI_1]
                exact J_forget 6 (ihm (p + 1) s m1 (by omega) hC hF he)
              induction f2 with
              | zero => intro j s m1 h1 h2 h3 hC hF he; exact leave j s m1 (by omega) hC hF he
              | succ f2 ih2 =>
                intro j s m1 h1 h2 h3 hC hF he
                by_cases hj : j < i + 1 + a
                case neg => exact leave j s m1 (by omega) hC hF (by unfold runW at he; rw [if_neg hj] at he; exact he)
                have P1 := P0.mf hF (by decide)
                have n1 : m1 9 E.1 = nI E.2.2.1 := by rw [hF.1 9 (by decide) (by decide) (by decide)]; exact n0
                have hjl : j < pr.length := by omega
                obtain ⟨b1, b2⟩ := ea3 j h2 hj
                have hlt : ¬ nI (i + a) < nI j := nI_nlt (by omega) (by omega)
                unfold runW at he
                rw [if_pos hj] at he
                refine rX1_doRoundP_110 h (fun z => absurd z hlt) (fun _ => ?_)
                refine rX1_doRoundP_124 h (c_doWordP hl hG P1 hv hlen hC ha hk1 hk2 n1 hjl b2 (by omega)) (by decide) (Nat.zero_le _) (fun v m2 e1 => ?_)
                refine rX1_doRoundP_127 h ?_
                by_cases o14 : pO pr j = 14
                · obtain ⟨ev, rfl⟩ := e1.1 o14
                  rw [if_pos o14] at he
                  obtain ⟨b, eb, eb1, eb2⟩ := right_skip hv hlen hjl (by omega) o14
                  rw [ev]
                  by_cases z : s.1 (pR pr j).toNatClampNeg = 0
                  · rw [if_pos z, eb, nI_clamp (by omega)] at he
                    rw [if_pos z, eb, nI_add, nI_1]
                    exact ih2 (j + b + 1) s m2 (by omega) (by omega) (by omega) hC hF (by rw [show j + b + 1 = j + 1 + b by omega]; exact he)
                  · rw [if_neg z] at he
                    rw [if_neg z, Int32.add_zero, nI_1]
                    exact ih2 (j + 1) s m2 (by omega) (by omega) (by omega) hC hF he
                · obtain ⟨ev, eC, eF⟩ := e1.2 o14
                  rw [if_neg o14] at he
                  rw [ev, Int32.add_zero, nI_1]
                  exact ih2 (j + 1) _ m2 (by omega) (by omega) (by omega) eC (hF.trans' eF) he
            exact inner 64 (i + 1) (upd s.1 r (nI p), s.2) _ (by omega) (by omega) (by omega) (hC.reg hr _ (by decide)) (hF.trans' (MF.reg hr _ (by decide))) he
        exact each E.2.2.1 0 s m1 (by omega) hC hF he
      · rw [hc, g1] at q
        rw [if_neg q] at he
        have hb1 : beh pr (i + 1) ≤ i + 1 := by rw [beh, if_neg q]; omega
        refine rX1_doRoundP_46 h (c_doWordP hl hG P1 hv hlen hC ha hk1 hk2 n1 hil q (p := 0) (by omega)) (by decide) (Nat.zero_le _) (fun v m2 e1 => ?_)
        refine rX1_doRoundP_49 h ?_
        refine rX1_doRoundP_145b h ?_
        by_cases o14 : pO pr i = 14
        · obtain ⟨ev, rfl⟩ := e1.1 o14
          rw [if_pos o14] at he
          obtain ⟨b, eb, eb1, eb2, eb3⟩ := right_out hv hlen hil h3 o14
          rw [ev]
          by_cases z : s.1 (pR pr i).toNatClampNeg = 0
          · rw [if_pos z, eb, nI_clamp (by omega)] at he
            rw [if_pos z, eb, nI_add, nI_1]
            exact ih (i + b + 1) s m2 (by omega) (by omega) (by rw [show i + b + 1 = i + 1 + b by omega]; exact eb3) hC hF (by rw [show i + b + 1 = i + 1 + b by omega]; exact he)
          · rw [if_neg z] at he
            rw [if_neg z, Int32.add_zero, nI_1]
            exact ih (i + 1) s m2 (by omega) (by omega) hb1 hC hF he
        · obtain ⟨ev, eC, eF⟩ := e1.2 o14
          rw [if_neg o14] at he
          rw [ev, Int32.add_zero, nI_1]
          exact ih (i + 1) _ m2 (by omega) (by omega) hb1 eC (hF.trans' eF) he
  exact outer 64 0 _ m0 (by omega) (by omega) (Nat.le_refl _) hMC MF.rfl' rfl
/-- a node's round is done -/
def MDR (pr : List Wd) (E : IE) (R : Nat → Int32) (mu mu' : jM) : Prop :=
  (∀ r, r < 8 → mu' 21 (E.1 * 8 + r) = (exec pr E R).1 r) ∧ (∀ i, i < 32 → bt (mu' 20 6) i = ((exec pr E R).2 i).isSome) ∧ (∀ p v, p < 24 → (exec pr E R).2 p = some v → mu' 24 p = v) ∧
  mu' 22 = upd (mu 22) (bxN E.1 (E.2.1 - 1)) 0 ∧ (∀ c, c ≠ 20 → c ≠ 21 → c ≠ 24 → c ≠ 22 → mu' c = mu c) ∧ ∀ j, j < E.1 * 8 ∨ E.1 * 8 + 8 ≤ j → mu' 21 j = mu 21 j
theorem c_doRoundR (hl : l.stackTraces = false) (hG : jGok G) {pr : List Wd} (hP : ProgC pr mu) (hv : Valid pr) (hlen : pr.length ≤ 64) {E : IE} {R : Nat → Int32} (ha : E.1 < 24) (hk1 : 1 ≤ E.2.1) (hk2 : E.2.1 < 2 ^ 31) (hnp : mu 9 E.1 = nI E.2.2.1) (hn24 : E.2.2.1 ≤ 24)
    (hR : ∀ r, r < 8 → mu 21 (E.1 * 8 + r) = R r) (hB : ∀ p, p < 24 → bt (mu 22 (bxN E.1 (E.2.1 - 1))) p = (E.2.2.2 p).isSome ∧ ∀ v, E.2.2.2 p = some v → mu 23 (bxN E.1 (E.2.1 - 1) * 24 + p) = v) :
    jCv l G yX1_doRound cX1_doRound 7 4 [.ref 20, .int (nI E.1), .int (nI E.2.1)] mu (fun mu' => MDR pr E R mu mu') := by
  refine jCv.of (pad := 4) hl hG (by decide) (Nat.le_of_ble_eq_true rfl) (fun X h => ?_)
  show J l G X _ 7 0 [.ref 20, .int (nI E.1), .int (nI E.2.1), .float 0, .float 0, .float 0, .float 0] [] mu 0
  refine rX1_doRoundR_0 h ?_
  obtain ⟨m0, hm0⟩ : ∃ m : jM, m = wr (wr (wr mu 20 7 (nI E.1)) 20 8 (nI E.2.1)) 20 6 0 := ⟨_, rfl⟩
  rw [← hm0]
  have f0 : ∀ c, c ≠ 20 → m0 c = mu c := fun c q => by rw [hm0, rd_ne _ _ _ q, rd_ne _ _ _ q, rd_ne _ _ _ q]
  have hMC : MC 20 21 22 23 24 E (R, fun _ => none) m0 := by
    refine ⟨by rw [hm0]; rfl, by rw [hm0]; rfl, fun r hr => by rw [f0 21 (by decide)]; exact hR r hr, fun i hi => ?_, fun p v _ q => (by cases q), fun p hp => ?_⟩
    · rw [hm0]; show bt (0 : Int32) i = _; rw [b_0]; rfl
    · rw [f0 22 (by decide), f0 23 (by decide)]; exact hB p hp
  have P0 : ProgC pr m0 := hP.congr (fun c q1 q2 => f0 c (by omega))
  have n0 : m0 9 E.1 = nI E.2.2.1 := by rw [f0 9 (by decide)]; exact hnp
  have fin : ∀ (i : Nat) (s : IS) (m1 : jM), MC 20 21 22 23 24 E s m1 → MF 20 21 24 E.1 m0 m1 → pr.length ≤ i → i ≤ 64 → s = exec pr E R → J l G X (jRv G X (fun mu' => MDR pr E R mu mu')) 7 17 [.ref 20, .int (nI E.1), .int (nI E.2.1), .int (nI i), .float 0, .float 0, .float 0] [] m1 0 := by
    intro i s m1 hC hF hi hi2 hs
    have hle : m1 1 4 ≤ nI i := by rw [(P0.mf hF (by decide)).1]; exact nI_le hi (by omega)
    refine rX1_doRoundR_17 h (fun z => absurd hle z) (fun z => absurd hle z) (fun _ => ?_) (fun z => absurd hle z) (fun z => absurd hle z)
    rw [show nI E.2.1 - 1 = nI (E.2.1 - 1) from by rw [nL1, nI_sub hk1]]
    refine rX1_doRoundR_159 h (c_boxOf hl hG E.1 (by omega)) (by decide) (Nat.zero_le _) (fun v m2 e1 => ?_)
    obtain ⟨rfl, rfl⟩ := e1
    have hb := bxN_lt (k := E.2.1 - 1) ha
    refine rX1_doRoundR_162 h (vp_in_nI hb (by omega)) ?_
    rw [nI_clamp (by omega)]
    obtain ⟨c1, c2, c3, c4, c5, c6⟩ := hC
    rw [hs] at c3 c4 c5
    refine J_vret h dX1_doRound_164 ⟨fun r hr => ?_, fun i hi => ?_, fun p v hp hv => ?_, ?_, fun c q1 q2 q3 q4 => ?_, fun j q => ?_⟩
    · rw [rd_ne _ _ _ (by decide)]; exact c3 r hr
    · rw [rd_ne _ _ _ (by decide)]; exact c4 i hi
    · rw [rd_ne _ _ _ (by decide)]; exact c5 p v hp hv
    · rw [rd_at, hF.1 22 (by decide) (by decide) (by decide), f0 22 (by decide)]
    · rw [rd_ne _ _ _ q4, hF.1 c q1 q2 q3, f0 c q1]
    · rw [rd_ne _ _ _ (by decide), hF.2.1 j q, f0 21 (by decide)]
  revert fin
  generalize jRv G X (fun mu' => MDR pr E R mu mu') = Q0
  intro fin
  have outer : ∀ (f i : Nat) (s : IS) (m1 : jM), pr.length ≤ i + f → i ≤ pr.length → beh pr i ≤ i → MC 20 21 22 23 24 E s m1 → MF 20 21 24 E.1 m0 m1 → runP pr E f i s = exec pr E R → J l G X Q0 7 17 [.ref 20, .int (nI E.1), .int (nI E.2.1), .int (nI i), .float 0, .float 0, .float 0] [] m1 0 := by
    intro f
    induction f with
    | zero => intro i s m1 h1 h2 h3 hC hF he; exact fin i s m1 hC hF (by omega) (by omega) he
    | succ f ih =>
      intro i s m1 h1 h2 h3 hC hF he
      by_cases hil : i < pr.length
      case neg => exact fin i s m1 hC hF (by omega) (by omega) (by unfold runP at he; rw [if_neg hil] at he; exact he)
      have P1 := P0.mf hF (by decide)
      have n1 : m1 9 E.1 = nI E.2.2.1 := by rw [hF.1 9 (by decide) (by decide) (by decide)]; exact n0
      obtain ⟨g1, g2, g3, g4⟩ := P1.rd hil
      have hc : (nI i).toNatClampNeg = i := nI_clamp (by omega)
      have hs : vp_in (nI i) 64 := vp_in_nI (by omega) (by omega)
      have hle : ¬ m1 1 4 ≤ nI i := by rw [P1.1]; exact nI_ge hil (by omega)
      unfold runP at he
      rw [if_pos hil] at he
      refine rX1_doRoundR_17 h (fun _ => hs) (fun _ _ => hs) (fun z => absurd z hle) (fun _ q => ?_) (fun _ q => ?_)
      · rw [hc, g1] at q
        rw [if_pos q] at he
        obtain ⟨a, ea, ea1, ea2, ea3, ea4⟩ := right_each hv hlen hil h3 q
        rw [hc, g3, ea, nI_add]
        rw [ea, nI_clamp (by omega)] at he
        obtain ⟨r, hr, er⟩ := right_r hv hil
        have each : ∀ (m p : Nat) (s : IS) (m1 : jM), p + m = E.2.2.1 → MC 20 21 22 23 24 E s m1 → MF 20 21 24 E.1 m0 m1 → runP pr E f (i + 1 + a) (eachP pr E i m p s) = exec pr E R → J l G X Q0 7 70 [.ref 20, .int (nI E.1), .int (nI E.2.1), .int (nI i), .int (nI (i + a)), .int (nI p), .float 0] [] m1 0 := by
          intro m
          induction m with
          | zero =>
            intro p s m1 hp hC hF he
            have n1 : m1 9 E.1 = nI E.2.2.1 := by rw [hF.1 9 (by decide) (by decide) (by decide)]; exact n0
            have hle : m1 9 (nI E.1).toNatClampNeg ≤ nI p := by rw [nI_clamp (by omega), n1]; exact nI_le (by omega) (by omega)
            refine rX1_doRoundR_70 h (vp_in_nI ha (by omega)) (fun z => absurd hle z) (fun z => absurd hle z) (fun _ => ?_) (fun z => absurd hle z)
            refine rX1_doRoundR_145 h ?_
            rw [nI_1]
            refine J_forget 4 (J_forget 5 ?_)
            exact ih (i + a + 1) s m1 (by omega) (by omega) (by rw [show i + a + 1 = i + 1 + a by omega, ea4]; exact Nat.le_refl _) hC hF (by rw [show i + a + 1 = i + 1 + a by omega]; exact he)
          | succ m ihm =>
            intro p s m1 hp hC hF he
            have P1 := P0.mf hF (by decide)
            have n1 : m1 9 E.1 = nI E.2.2.1 := by rw [hF.1 9 (by decide) (by decide) (by decide)]; exact n0
            have hle : ¬ m1 9 (nI E.1).toNatClampNeg ≤ nI p := by rw [nI_clamp (by omega), n1]; exact nI_ge (by omega) (by omega)
            obtain ⟨g1, g2, g3, g4⟩ := P1.rd hil
            have cr : nI E.1 * 8 + nI r = nI (E.1 * 8 + r) := by rw [nL8, nI_mul, nI_add]
            refine rX1_doRoundR_70 h (vp_in_nI ha (by omega)) (fun _ => hs) (fun _ => by rw [hc, g2, er, cr]; exact vp_in_nI (by omega) (by omega)) (fun z => absurd z hle) (fun _ => ?_)
            rw [hc, g2, er, cr, nI_clamp (by omega), nI_1]
            unfold eachP at he
            rw [er, nI_clamp (n := r) (by omega), ea, nI_clamp (n := a) (by omega)] at he
            have inner : ∀ (f2 j : Nat) (s : IS) (m1 : jM), i + 1 + a ≤ j + f2 → i < j → j ≤ i + 1 + a → MC 20 21 22 23 24 E s m1 → MF 20 21 24 E.1 m0 m1 → runP pr E f (i + 1 + a) (eachP pr E i m (p + 1) (runW pr E p (i + 1 + a) f2 j s)) = exec pr E R → J l G X Q0 7 110 [.ref 20, .int (nI E.1), .int (nI E.2.1), .int (nI i), .int (nI (i + a)), .int (nI p), .int (nI j)] [] m1 0 := by
              intro f2
              have leave : ∀ (j : Nat) (s : IS) (m1 : jM), j = i + 1 + a → MC 20 21 22 23 24 E s m1 → MF 20 21 24 E.1 m0 m1 → runP pr E f (i + 1 + a) (eachP pr E i m (p + 1) s) = exec pr E R → J l G X Q0 7 110 [.ref 20, .int (nI E.1), .int (nI E.2.1), .int (nI i), .int (nI (i + a)), .int (nI p), .int (nI j)] [] m1 0 := by
                intro j s m1 hj hC hF he
                have hlt : nI (i + a) < nI j := nI_lt (by omega) (by omega)
                refine rX1_doRoundR_110 h (fun _ => ?_) (fun z => absurd hlt z)
                rw [nI_1]
                exact J_forget 6 (ihm (p + 1) s m1 (by omega) hC hF he)
              induction f2 with
              | zero => intro j s m1 h1 h2 h3 hC hF he; exact leave j s m1 (by omega) hC hF he
              | succ f2 ih2 =>
                intro j s m1 h1 h2 h3 hC hF he
                by_cases hj : j < i + 1 + a
                case neg => exact leave j s m1 (by omega) hC hF (by unfold runW at he; rw [if_neg hj] at he; exact he)
                have P1 := P0.mf hF (by decide)
                have n1 : m1 9 E.1 = nI E.2.2.1 := by rw [hF.1 9 (by decide) (by decide) (by decide)]; exact n0
                have hjl : j < pr.length := by omega
                obtain ⟨b1, b2⟩ := ea3 j h2 hj
                have hlt : ¬ nI (i + a) < nI j := nI_nlt (by omega) (by omega)
                unfold runW at he
                rw [if_pos hj] at he
                refine rX1_doRoundR_110 h (fun z => absurd z hlt) (fun _ => ?_)
                refine rX1_doRoundR_124 h (c_doWordR hl hG P1 hv hlen hC ha hk1 hk2 n1 hjl b2 (by omega)) (by decide) (Nat.zero_le _) (fun v m2 e1 => ?_)
                refine rX1_doRoundR_127 h ?_
                by_cases o14 : pO pr j = 14
                · obtain ⟨ev, rfl⟩ := e1.1 o14
                  rw [if_pos o14] at he
                  obtain ⟨b, eb, eb1, eb2⟩ := right_skip hv hlen hjl (by omega) o14
                  rw [ev]
                  by_cases z : s.1 (pR pr j).toNatClampNeg = 0
                  · rw [if_pos z, eb, nI_clamp (by omega)] at he
                    rw [if_pos z, eb, nI_add, nI_1]
                    exact ih2 (j + b + 1) s m2 (by omega) (by omega) (by omega) hC hF (by rw [show j + b + 1 = j + 1 + b by omega]; exact he)
                  · rw [if_neg z] at he
                    rw [if_neg z, Int32.add_zero, nI_1]
                    exact ih2 (j + 1) s m2 (by omega) (by omega) (by omega) hC hF he
                · obtain ⟨ev, eC, eF⟩ := e1.2 o14
                  rw [if_neg o14] at he
                  rw [ev, Int32.add_zero, nI_1]
                  exact ih2 (j + 1) _ m2 (by omega) (by omega) (by omega) eC (hF.trans' eF) he
            exact inner 64 (i + 1) (upd s.1 r (nI p), s.2) _ (by omega) (by omega) (by omega) (hC.reg hr _ (by decide)) (hF.trans' (MF.reg hr _ (by decide))) he
        exact each E.2.2.1 0 s m1 (by omega) hC hF he
      · rw [hc, g1] at q
        rw [if_neg q] at he
        have hb1 : beh pr (i + 1) ≤ i + 1 := by rw [beh, if_neg q]; omega
        refine rX1_doRoundR_46 h (c_doWordR hl hG P1 hv hlen hC ha hk1 hk2 n1 hil q (p := 0) (by omega)) (by decide) (Nat.zero_le _) (fun v m2 e1 => ?_)
        refine rX1_doRoundR_49 h ?_
        refine rX1_doRoundR_145b h ?_
        by_cases o14 : pO pr i = 14
        · obtain ⟨ev, rfl⟩ := e1.1 o14
          rw [if_pos o14] at he
          obtain ⟨b, eb, eb1, eb2, eb3⟩ := right_out hv hlen hil h3 o14
          rw [ev]
          by_cases z : s.1 (pR pr i).toNatClampNeg = 0
          · rw [if_pos z, eb, nI_clamp (by omega)] at he
            rw [if_pos z, eb, nI_add, nI_1]
            exact ih (i + b + 1) s m2 (by omega) (by omega) (by rw [show i + b + 1 = i + 1 + b by omega]; exact eb3) hC hF (by rw [show i + b + 1 = i + 1 + b by omega]; exact he)
          · rw [if_neg z] at he
            rw [if_neg z, Int32.add_zero, nI_1]
            exact ih (i + 1) s m2 (by omega) (by omega) hb1 hC hF he
        · obtain ⟨ev, eC, eF⟩ := e1.2 o14
          rw [if_neg o14] at he
          rw [ev, Int32.add_zero, nI_1]
          exact ih (i + 1) _ m2 (by omega) (by omega) hb1 eC (hF.trans' eF) he
  exact outer 64 0 _ m0 (by omega) (by omega) (Nat.le_refl _) hMC MF.rfl' rfl
end C41
