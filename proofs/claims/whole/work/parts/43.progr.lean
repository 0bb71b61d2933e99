/-! ===== the reference's program ===== -/
theorem ProgR.sm {pr : List Wd} {mu mu' : jM} (h : ProgR pr mu) (hs : SmR [66, 69, 70] [] mu mu') : ProgR pr mu' := h.same hs (by decide) (by decide)
section C43
variable {l : Launch} {G : jG} {mu : jM}
theorem k_doWords (hl : l.stackTraces = false) (hG : jGok G) {pr : List Wd} (hP : ProgR pr mu) (hv : Valid pr) (hlen : pr.length ≤ 64) {E : IE} {s : IS} (hM : MR E s mu) (ha : E.1 < 24) (hnp : mu 61 E.1 = nI E.2.2.1) {j0 hi p : Nat} (hp : p < 24) (hp2 : p < E.2.2.1) (hj0 : j0 ≤ hi) (hhi : hi ≤ 64) (hw : ∀ j, j0 ≤ j → j < hi → j < pr.length ∧ pO pr j ≠ 15 ∧ (pO pr j = 14 → ∃ b : Nat, pA pr j = nI b ∧ 1 ≤ b ∧ j + b < hi)) :
    jCv l G yX8_doWords cX8_doWords 7 3 [.ref 58, .int (nI j0), .int (nI hi), .int (nI E.1), .int (nI E.2.1), .int (nI p)] mu (fun mu' => MR E (runW pr E p hi 64 j0 s) mu' ∧ SmR [66, 69, 70] [] mu mu') := by
  refine jCv.of (pad := 1) hl hG (by decide) (Nat.le_of_ble_eq_true rfl) (fun X h => ?_)
  show J l G X _ 7 0 [.ref 58, .int (nI j0), .int (nI hi), .int (nI E.1), .int (nI E.2.1), .int (nI p), .float 0] [] mu 0
  refine rX8_doWords_0 h ?_
  have fin : ∀ (j : Nat) (t : IS) (m1 : jM), hi ≤ j → j ≤ 64 → MR E t m1 → SmR [66, 69, 70] [] mu m1 → t = runW pr E p hi 64 j0 s → J l G X (jRv G X (fun mu' => MR E (runW pr E p hi 64 j0 s) mu' ∧ SmR [66, 69, 70] [] mu mu')) 7 3 [.ref 58, .int (nI j0), .int (nI hi), .int (nI E.1), .int (nI E.2.1), .int (nI p), .int (nI j)] [] m1 0 := by
    intro j t m1 q1 q2 q3 q4 q5
    have hle : nI hi ≤ nI j := nI_le q1 (by omega)
    refine rX8_doWords_3 h (fun z => absurd hle z) (fun z => absurd hle z) (fun z => absurd hle z) (fun z => absurd hle z) (fun _ => ?_) (fun z => absurd hle z) (fun z => absurd hle z) (fun z => absurd hle z)
    exact J_vret h dX8_doWords_87 ⟨by rw [← q5]; exact q3, q4⟩
  revert fin
  generalize jRv G X (fun mu' => MR E (runW pr E p hi 64 j0 s) mu' ∧ SmR [66, 69, 70] [] mu mu') = Q0
  intro fin
  have loop : ∀ (f j : Nat) (t : IS) (m1 : jM), hi ≤ j + f → j0 ≤ j → j ≤ hi → MR E t m1 → SmR [66, 69, 70] [] mu m1 → runW pr E p hi f j t = runW pr E p hi 64 j0 s → J l G X Q0 7 3 [.ref 58, .int (nI j0), .int (nI hi), .int (nI E.1), .int (nI E.2.1), .int (nI p), .int (nI j)] [] m1 0 := by
    intro f
    induction f with
    | zero => intro j t m1 q1 q2 q3 q4 q5 q6; exact fin j t m1 (by omega) (by omega) q4 q5 q6
    | succ f ih =>
      intro j t m1 q1 q2 q3 q4 q5 q6
      by_cases hj : j < hi
      case neg => exact fin j t m1 (by omega) (by omega) q4 q5 (by unfold runW at q6; rw [if_neg hj] at q6; exact q6)
      obtain ⟨hjl, b15, b14⟩ := hw j q2 hj
      unfold runW at q6
      rw [if_pos hj] at q6
      have P1 := hP.sm q5
      obtain ⟨g1, g2, g3, g4⟩ := P1.rd hjl
      obtain ⟨r, hr, er⟩ := right_r hv hjl
      have c4 : (4 : Int32) * nI j = nI (4 * j) := by rw [nL4, nI_mul]
      have c41 : (4 : Int32) * nI j + 1 = nI (4 * j + 1) := by rw [c4]; exact nI_add _ 1
      have c42 : (4 : Int32) * nI j + 2 = nI (4 * j + 2) := by rw [c4]; exact nI_add _ 2
      have s0 : vp_in (4 * nI j) 256 := by rw [c4]; exact vp_in_nI (by omega) (by omega)
      have s1 : vp_in (4 * nI j + 1) 256 := by rw [c41]; exact vp_in_nI (by omega) (by omega)
      have s2 : vp_in (4 * nI j + 2) 256 := by rw [c42]; exact vp_in_nI (by omega) (by omega)
      have E1 : m1 65 (4 * nI j).toNatClampNeg = pO pr j := by rw [c4, nI_clamp (by omega)]; exact g1
      have E2 : m1 65 (4 * nI j + 1).toNatClampNeg = nI r := by rw [c41, nI_clamp (by omega), g2, er]
      have E3 : m1 65 (4 * nI j + 2).toNatClampNeg = pA pr j := by rw [c42, nI_clamp (by omega)]; exact g3
      have vR : vp_in (m1 65 (4 * nI j + 1).toNatClampNeg) 8 := by rw [E2]; exact vp_in_nI hr (by omega)
      have hle : ¬ nI hi ≤ nI j := nI_ge hj (by omega)
      have rr : (pR pr j).toNatClampNeg = r := by rw [er, nI_clamp (by omega)]
      refine rX8_doWords_3 h (fun _ => s0) (fun _ _ => s1) (fun _ _ => vR) (fun _ _ _ => s2) (fun z => absurd z hle) (fun _ z1 => ?_) (fun _ z1 z2 => ?_) (fun _ z1 z2 => ?_)
      · rw [E1] at z1
        rw [if_neg z1] at q6
        refine rX8_doWords_78 h (k_doWord hl hG P1 hv hlen q4 ha (by rw [q5.1 61 (by decide) (by decide)]; exact hnp) hjl b15 z1 hp (Or.inl hp2)) (by decide) (Nat.zero_le _) (fun m2 e1 => ?_)
        refine rX8_doWords_81 h ?_
        rw [nI_1]
        exact ih (j + 1) _ m2 (by omega) (by omega) (by omega) e1.1 (q5.trans' e1.2) q6
      · rw [E1] at z1
        rw [E2, nI_clamp (by omega), q4.1 r hr] at z2
        rw [if_pos z1, rr, if_neg z2] at q6
        rw [nI_1]
        exact ih (j + 1) t m1 (by omega) (by omega) (by omega) q4 q5 q6
      · rw [E1] at z1
        rw [E2, nI_clamp (by omega), q4.1 r hr] at z2
        obtain ⟨b, eb, eb1, eb2⟩ := b14 z1
        rw [if_pos z1, rr, if_pos z2, eb, nI_clamp (by omega)] at q6
        rw [E3, eb, nI_add, nI_1]
        exact ih (j + b + 1) t m1 (by omega) (by omega) (by omega) q4 q5 (by rw [show j + b + 1 = j + 1 + b by omega]; exact q6)
  exact loop 64 j0 s mu (by omega) (Nat.le_refl _) hj0 hM SmR.rfl' rfl
theorem k_doProgram (hl : l.stackTraces = false) (hG : jGok G) {pr : List Wd} (hP : ProgR pr mu) (hv : Valid pr) (hlen : pr.length ≤ 64) {E : IE} {R : Nat → Int32} (ha : E.1 < 24) (hnp : mu 61 E.1 = nI E.2.2.1) (hn24 : E.2.2.1 ≤ 24) (hR : ∀ r, r < 8 → mu 66 r = R r) (hB : ∀ p, p < E.2.2.1 → mu 67 p = (if (E.2.2.2 p).isSome then 1 else 0) ∧ ∀ v, E.2.2.2 p = some v → mu 68 p = v) :
    jCv l G yX8_doProgram cX8_doProgram 6 4 [.ref 58, .int (nI E.1), .int (nI E.2.1)] mu (fun mu' => MR E (exec pr E R) mu' ∧ SmR [66, 69, 70] [] mu mu') := by
  refine jCv.of (pad := 3) hl hG (by decide) (Nat.le_of_ble_eq_true rfl) (fun X h => ?_)
  show J l G X _ 6 0 [.ref 58, .int (nI E.1), .int (nI E.2.1), .float 0, .float 0, .float 0] [] mu 0
  refine rX8_doProgram_0 h ?_
  have fin : ∀ (i : Nat) (t : IS) (m1 : jM), pr.length ≤ i → i ≤ 64 → MR E t m1 → SmR [66, 69, 70] [] mu m1 → t = exec pr E R → J l G X (jRv G X (fun mu' => MR E (exec pr E R) mu' ∧ SmR [66, 69, 70] [] mu mu')) 6 23 [.ref 58, .int (nI E.1), .int (nI E.2.1), .int (nI i), .float 0, .float 0] [] m1 0 := by
    intro i t m1 q1 q2 q3 q4 q5
    have hle : m1 58 9 ≤ nI i := by rw [(hP.sm q4).1]; exact nI_le q1 (by omega)
    refine rX8_doProgram_23 h (fun z => absurd hle z) (fun z => absurd hle z) (fun z => absurd hle z) (fun z => absurd hle z) (fun z => absurd hle z) (fun _ => ?_) (fun z => absurd hle z) (fun z => absurd hle z) (fun z => absurd hle z) (fun z => absurd hle z)
    exact J_vret h dX8_doProgram_181 ⟨by rw [← q5]; exact q3, q4⟩
  revert fin
  generalize jRv G X (fun mu' => MR E (exec pr E R) mu' ∧ SmR [66, 69, 70] [] mu mu') = Q0
  intro fin
  have outer : ∀ (f i : Nat) (t : IS) (m1 : jM), pr.length ≤ i + f → i ≤ pr.length → beh pr i ≤ i → MR E t m1 → SmR [66, 69, 70] [] mu m1 → runP pr E f i t = exec pr E R → J l G X Q0 6 23 [.ref 58, .int (nI E.1), .int (nI E.2.1), .int (nI i), .float 0, .float 0] [] m1 0 := by
    intro f
    induction f with
    | zero => intro i t m1 h1 h2 h3 q4 q5 q6; exact fin i t m1 (by omega) (by omega) q4 q5 q6
    | succ f ih =>
      intro i t m1 h1 h2 h3 q4 q5 q6
      by_cases hil : i < pr.length
      case neg => exact fin i t m1 (by omega) (by omega) q4 q5 (by unfold runP at q6; rw [if_neg hil] at q6; exact q6)
      unfold runP at q6
      rw [if_pos hil] at q6
      have P1 := hP.sm q5
      have n1 : m1 61 E.1 = nI E.2.2.1 := by rw [q5.1 61 (by decide) (by decide)]; exact hnp
      obtain ⟨g1, g2, g3, g4⟩ := P1.rd hil
      obtain ⟨r, hr, er⟩ := right_r hv hil
      have c4 : (4 : Int32) * nI i = nI (4 * i) := by rw [nL4, nI_mul]
      have c41 : (4 : Int32) * nI i + 1 = nI (4 * i + 1) := by rw [c4]; exact nI_add _ 1
      have c42 : (4 : Int32) * nI i + 2 = nI (4 * i + 2) := by rw [c4]; exact nI_add _ 2
      have s0 : vp_in (4 * nI i) 256 := by rw [c4]; exact vp_in_nI (by omega) (by omega)
      have s1 : vp_in (4 * nI i + 1) 256 := by rw [c41]; exact vp_in_nI (by omega) (by omega)
      have s2 : vp_in (4 * nI i + 2) 256 := by rw [c42]; exact vp_in_nI (by omega) (by omega)
      have E1 : m1 65 (4 * nI i).toNatClampNeg = pO pr i := by rw [c4, nI_clamp (by omega)]; exact g1
      have E2 : m1 65 (4 * nI i + 1).toNatClampNeg = nI r := by rw [c41, nI_clamp (by omega), g2, er]
      have E3 : m1 65 (4 * nI i + 2).toNatClampNeg = pA pr i := by rw [c42, nI_clamp (by omega)]; exact g3
      have vR : vp_in (m1 65 (4 * nI i + 1).toNatClampNeg) 8 := by rw [E2]; exact vp_in_nI hr (by omega)
      have hle : ¬ m1 58 9 ≤ nI i := by rw [P1.1]; exact nI_ge hil (by omega)
      have rr : (pR pr i).toNatClampNeg = r := by rw [er, nI_clamp (by omega)]
      refine rX8_doProgram_23 h (fun _ => s2) (fun _ => s0) (fun _ _ => s0) (fun _ _ _ => s1) (fun _ _ _ => vR) (fun z => absurd z hle) (fun _ z1 z2 => ?_) (fun _ z1 z2 z3 => ?_) (fun _ z1 z2 z3 => ?_) (fun _ z1 => ?_)
      · rw [E1] at z1 z2
        rw [if_neg z1, if_neg z2] at q6
        have hb1 : beh pr (i + 1) ≤ i + 1 := by rw [beh, if_neg z1]; omega
        have np := right_port hv hil h3
        refine rX8_doProgram_172 h (k_doWord hl hG P1 hv hlen q4 ha n1 hil z1 z2 (p := 0) (by omega) (Or.inr ⟨np.1, np.2.1⟩)) (by decide) (Nat.zero_le _) (fun m2 e1 => ?_)
        refine rX8_doProgram_175 h (rX8_doProgram_178 h ?_)
        rw [nI_1]
        exact J_forget 4 (ih (i + 1) _ m2 (by omega) (by omega) hb1 e1.1 (q5.trans' e1.2) q6)
      · rw [E1] at z1 z2
        rw [E2, nI_clamp (by omega), q4.1 r hr] at z3
        rw [if_neg z1, if_pos z2, rr, if_neg z3] at q6
        have hb1 : beh pr (i + 1) ≤ i + 1 := by rw [beh, if_neg z1]; omega
        refine rX8_doProgram_178 h ?_
        rw [nI_1]
        exact J_forget 4 (ih (i + 1) _ m1 (by omega) (by omega) hb1 q4 q5 q6)
      · rw [E1] at z1 z2
        rw [E2, nI_clamp (by omega), q4.1 r hr] at z3
        obtain ⟨b, eb, eb1, eb2, eb3⟩ := right_out hv hlen hil h3 z2
        rw [if_neg z1, if_pos z2, rr, if_pos z3, eb, nI_clamp (by omega)] at q6
        refine rX8_doProgram_178 h ?_
        rw [E3, eb, nI_add, nI_1]
        exact J_forget 4 (ih (i + b + 1) _ m1 (by omega) (by omega) (by rw [show i + b + 1 = i + 1 + b by omega]; exact eb3) q4 q5 (by rw [show i + b + 1 = i + 1 + b by omega]; exact q6))
      · rw [E1] at z1
        rw [if_pos z1] at q6
        obtain ⟨a, ea, ea1, ea2, ea3, ea4⟩ := right_each hv hlen hil h3 z1
        rw [ea, nI_clamp (by omega)] at q6
        rw [E3, ea]
        have each : ∀ (m p : Nat) (t : IS) (m1 : jM), p + m = E.2.2.1 → MR E t m1 → SmR [66, 69, 70] [] mu m1 → runP pr E f (i + 1 + a) (eachP pr E i m p t) = exec pr E R → J l G X Q0 6 59 [.ref 58, .int (nI E.1), .int (nI E.2.1), .int (nI i), .int (nI a), .int (nI p)] [] m1 0 := by
          intro m
          induction m with
          | zero =>
            intro p t m1 hp q4 q5 q6
            have n1 : m1 61 (nI E.1).toNatClampNeg = nI E.2.2.1 := by rw [nI_clamp (by omega), q5.1 61 (by decide) (by decide)]; exact hnp
            have hle : m1 61 (nI E.1).toNatClampNeg ≤ nI p := by rw [n1]; exact nI_le (by omega) (by omega)
            refine rX8_doProgram_59 h (vp_in_nI ha (by omega)) (fun z => absurd hle z) (fun z => absurd hle z) (fun _ => ?_) (fun z => absurd hle z)
            refine rX8_doProgram_178b h ?_
            rw [nI_add, nI_1]
            exact J_forget 4 (J_forget 5 (ih (i + a + 1) _ m1 (by omega) (by omega) (by rw [show i + a + 1 = i + 1 + a by omega, ea4]; exact Nat.le_refl _) q4 q5 (by rw [show i + a + 1 = i + 1 + a by omega]; exact q6)))
          | succ m ihm =>
            intro p t m1 hp q4 q5 q6
            have P1 := hP.sm q5
            have n0 : m1 61 E.1 = nI E.2.2.1 := by rw [q5.1 61 (by decide) (by decide)]; exact hnp
            have n1 : m1 61 (nI E.1).toNatClampNeg = nI E.2.2.1 := by rw [nI_clamp (by omega)]; exact n0
            have hle : ¬ m1 61 (nI E.1).toNatClampNeg ≤ nI p := by rw [n1]; exact nI_ge (by omega) (by omega)
            obtain ⟨g1, g2, g3, g4⟩ := P1.rd hil
            have E2 : m1 65 (4 * nI i + 1).toNatClampNeg = nI r := by rw [c41, nI_clamp (by omega), g2, er]
            have vR : vp_in (m1 65 (4 * nI i + 1).toNatClampNeg) 8 := by rw [E2]; exact vp_in_nI hr (by omega)
            unfold eachP at q6
            rw [rr, ea, nI_clamp (by omega)] at q6
            refine rX8_doProgram_59 h (vp_in_nI ha (by omega)) (fun _ => s1) (fun _ => vR) (fun z => absurd z hle) (fun _ => ?_)
            rw [E2, nI_clamp (n := r) (by omega), nI_add, nI_1, nI_1, show i + a + 1 = i + 1 + a by omega]
            have s2 : SmR [66, 69, 70] [] m1 (wr m1 66 r (nI p)) := SmR.wr (by decide) (by decide)
            refine rX8_doProgram_101 h (k_doWords hl hG (P1.sm s2) hv hlen (q4.reg (nI p)) ha n0 (by omega) (by omega) (by omega) (by omega) (fun j k1 k2 => ?_)) (by decide) (Nat.zero_le _) (fun m2 e1 => ?_)
            · obtain ⟨b1, b2⟩ := ea3 j (by omega) k2
              exact ⟨by omega, b2, fun o14 => by
                obtain ⟨b, eb, eb1, eb2⟩ := right_skip hv hlen (by omega : j < pr.length) (by omega) o14
                exact ⟨b, eb, eb1, by omega⟩⟩
            · refine rX8_doProgram_104 h ?_
              rw [nI_1]
              exact ihm (p + 1) _ m2 (by omega) e1.1 (q5.trans' (s2.trans' e1.2)) q6
        exact each E.2.2.1 0 t m1 (by omega) q4 q5 q6
  have clear : ∀ (m p : Nat) (m1 : jM), p + m = 24 → (∀ q, q < p → m1 69 q = 0) → SmR [69] [] mu m1 → J l G X Q0 6 2 [.ref 58, .int (nI E.1), .int (nI E.2.1), .int (nI p), .float 0, .float 0] [] m1 0 := by
    intro m
    induction m with
    | zero =>
      intro p m1 hp hq hs
      have hle : (24 : Int32) ≤ nI p := nI_le (a := 24) (by omega) (by omega)
      refine rX8_doProgram_2 h (fun z => absurd hle z) (fun _ => ?_) (fun z => absurd hle z)
      refine outer 64 0 (R, fun _ => none) m1 (by omega) (by omega) (Nat.le_refl _) ⟨fun r hr => ?_, fun p hp => ?_, fun p v _ q => (by cases q), fun p hp => ?_⟩ (hs.wide (by decide) (by decide)) rfl
      · rw [hs.1 66 (by decide) (by decide)]; exact hR r hr
      · exact hq p (by omega)
      · rw [hs.1 67 (by decide) (by decide), hs.1 68 (by decide) (by decide)]; exact hB p hp
    | succ m ih =>
      intro p m1 hp hq hs
      have hle : ¬ (24 : Int32) ≤ nI p := nI_ge (b := 24) (by omega) (by omega)
      refine rX8_doProgram_2 h (fun _ => vp_in_nI (by omega) (by omega)) (fun z => absurd z hle) (fun _ => ?_)
      rw [nI_clamp (by omega), nI_1]
      refine ih (p + 1) _ (by omega) (fun q hq2 => ?_) (hs.trans' (SmR.wr (by decide) (by decide)))
      show (if q = p then _ else m1 69 q) = 0
      by_cases z : q = p
      · rw [if_pos z]; rfl
      · rw [if_neg z]; exact hq q (by omega)
  exact clear 24 0 mu rfl (fun q hq => absurd hq (by omega)) SmR.rfl'
end C43
