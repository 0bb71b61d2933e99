/-! ===== the reference's machine ===== -/
def MR (E : IE) (s : IS) (mu : jM) : Prop :=
  (∀ r, r < 8 → mu 66 r = s.1 r) ∧ (∀ p, p < 24 → mu 69 p = if (s.2 p).isSome then 1 else 0) ∧ (∀ p v, p < 24 → s.2 p = some v → mu 70 p = v) ∧ (∀ p, p < E.2.2.1 → mu 67 p = (if (E.2.2.2 p).isSome then 1 else 0) ∧ ∀ v, E.2.2.2 p = some v → mu 68 p = v)
theorem MR.reg {E : IE} {s : IS} {mu : jM} (h : MR E s mu) {r : Nat} (v : Int32) : MR E (upd s.1 r v, s.2) (wr mu 66 r v) := by
  obtain ⟨q1, q2, q3, q4⟩ := h
  refine ⟨fun r' hr' => ?_, q2, q3, q4⟩
  rw [rd_at]
  show (if r' = r then v else mu 66 r') = if r' = r then v else s.1 r'
  rw [q1 r' hr']
theorem MR.send {E : IE} {s : IS} {mu : jM} (h : MR E s mu) {p : Nat} (v : Int32) : MR E (s.1, fun q => if q = p then some v else s.2 q) (wr (wr mu 69 p 1) 70 p v) := by
  obtain ⟨q1, q2, q3, q4⟩ := h
  refine ⟨q1, fun q hq => ?_, fun q w hq hw => ?_, q4⟩
  · show (if q = p then 1 else mu 69 q) = _
    by_cases z : q = p
    · simp [z]
    · simp only [if_neg z]; exact q2 q hq
  · show (if q = p then v else mu 70 q) = _
    by_cases z : q = p
    · simp only [if_pos z] at hw ⊢; exact Option.some.inj hw
    · simp only [if_neg z] at hw ⊢; exact q3 q w hq hw
section C42
variable {l : Launch} {G : jG} {mu : jM}
theorem k_make (hl : l.stackTraces = false) (hG : jGok G) {o : Int32} (x y : Int32) (h1 : 2 ≤ o) (h2 : o ≤ 11) : jCi l G yX8_make cX8_make 3 1 (some .int) [.int o, .int x, .int y] mu (fun v mu' => v = cmb o x y ∧ mu' = mu) := by
  refine jCi.of (pad := 0) hl hG (by decide) (Nat.le_of_ble_eq_true rfl) (fun X h => ?_)
  show J l G X _ 3 0 [.int o, .int x, .int y] [] mu 0
  refine rX8_make_0 h (fun q1 q2 q3 q4 q5 q6 q7 q8 q9 => ?_) (fun q10 q11 q12 q13 q14 q15 q16 q17 q18 => ?_) (fun q19 q20 q21 q22 q23 q24 q25 q26 => ?_) (fun q27 q28 q29 q30 q31 q32 q33 q34 => ?_) (fun q35 q36 q37 q38 q39 q40 q41 q42 => ?_) (fun q43 q44 q45 q46 q47 q48 q49 => ?_) (fun q50 q51 q52 q53 q54 q55 q56 => ?_) (fun q57 q58 q59 q60 q61 q62 => ?_) (fun q63 q64 q65 q66 q67 q68 => ?_) (fun q69 q70 q71 q72 q73 => ?_) (fun q74 q75 q76 q77 q78 => ?_) (fun q79 q80 q81 => ?_) (fun q82 q83 => ?_) (fun q84 => ?_)
  · exact J_iret h dX8_make_121 rfl (by unfold cmb; grind)
  · exact J_iret h dX8_make_121 rfl (by unfold cmb; grind)
  · exact J_iret h dX8_make_121 rfl (by unfold cmb; grind)
  · exact J_iret h dX8_make_93 rfl (by unfold cmb; grind)
  · exact J_iret h dX8_make_93 rfl (by unfold cmb; grind)
  · exact J_iret h dX8_make_76 rfl (by unfold cmb; grind)
  · exact J_iret h dX8_make_76 rfl (by unfold cmb; grind)
  · exact J_iret h dX8_make_59 rfl (by unfold cmb; grind)
  · exact J_iret h dX8_make_59 rfl (by unfold cmb; grind)
  · exact J_iret h dX8_make_42 rfl (by unfold cmb; grind)
  · exact J_iret h dX8_make_42 rfl (by unfold cmb; grind)
  · exact J_iret h dX8_make_26 rfl (by unfold cmb; grind)
  · exact J_iret h dX8_make_17 rfl (by unfold cmb; grind)
  · exact J_iret h dX8_make_8 rfl (by unfold cmb; grind)
theorem k_doWord (hl : l.stackTraces = false) (hG : jGok G) {pr : List Wd} (hP : ProgR pr mu) (hv : Valid pr) (hlen : pr.length ≤ 64) {E : IE} {s : IS} (hM : MR E s mu) (ha : E.1 < 24) (hnp : mu 61 E.1 = nI E.2.2.1) {i : Nat} (hi : i < pr.length) (h15 : pO pr i ≠ 15) (h14 : pO pr i ≠ 14) {p : Nat} (hp : p < 24) (hp2 : p < E.2.2.1 ∨ (pO pr i ≠ 16 ∧ pO pr i ≠ 17)) :
    jCv l G yX8_doWord cX8_doWord 8 2 [.ref 58, .int (nI i), .int (nI E.1), .int (nI E.2.1), .int (nI p)] mu (fun mu' => MR E (doW (wd pr i) E p s) mu' ∧ SmR [66, 69, 70] [] mu mu') := by
  refine jCv.of (pad := 3) hl hG (by decide) (Nat.le_of_ble_eq_true rfl) (fun X h => ?_)
  show J l G X _ 8 0 [.ref 58, .int (nI i), .int (nI E.1), .int (nI E.2.1), .int (nI p), .float 0, .float 0, .float 0] [] mu 0
  obtain ⟨g1, g2, g3, g4⟩ := hP.rd hi
  obtain ⟨o1, o2⟩ := right_o hv hi
  obtain ⟨r, hr, er⟩ := right_r hv hi
  have c4 : (4 : Int32) * nI i = nI (4 * i) := by rw [nL4, nI_mul]
  have c41 : (4 : Int32) * nI i + 1 = nI (4 * i + 1) := by rw [c4]; exact nI_add _ 1
  have c42 : (4 : Int32) * nI i + 2 = nI (4 * i + 2) := by rw [c4]; exact nI_add _ 2
  have c43 : (4 : Int32) * nI i + 3 = nI (4 * i + 3) := by rw [c4]; exact nI_add _ 3
  have s0 : vp_in (4 * nI i) 256 := by rw [c4]; exact vp_in_nI (by omega) (by omega)
  have s1 : vp_in (4 * nI i + 1) 256 := by rw [c41]; exact vp_in_nI (by omega) (by omega)
  have s2 : vp_in (4 * nI i + 2) 256 := by rw [c42]; exact vp_in_nI (by omega) (by omega)
  have s3 : vp_in (4 * nI i + 3) 256 := by rw [c43]; exact vp_in_nI (by omega) (by omega)
  have E1 : mu 65 (4 * nI i).toNatClampNeg = pO pr i := by rw [c4, nI_clamp (by omega)]; exact g1
  have E2 : mu 65 (4 * nI i + 1).toNatClampNeg = nI r := by rw [c41, nI_clamp (by omega), g2, er]
  have E3 : mu 65 (4 * nI i + 2).toNatClampNeg = pA pr i := by rw [c42, nI_clamp (by omega)]; exact g3
  have E4 : mu 65 (4 * nI i + 3).toNatClampNeg = pB pr i := by rw [c43, nI_clamp (by omega)]; exact g4
  have kr : (mu 65 (4 * nI i + 1).toNatClampNeg).toNatClampNeg = r := by rw [E2, nI_clamp (by omega)]
  have vR : vp_in (mu 65 (4 * nI i + 1).toNatClampNeg) 8 := by rw [E2]; exact vp_in_nI hr (by omega)
  have vA : 1 ≤ pO pr i → pO pr i ≤ 13 → vp_in (mu 65 (4 * nI i + 2).toNatClampNeg) 8 ∧ mu 66 (mu 65 (4 * nI i + 2).toNatClampNeg).toNatClampNeg = s.1 (wd pr i).2.2.1.toNatClampNeg := fun z1 z2 => by
    obtain ⟨x, hx, ex⟩ := right_a hv hi z1 z2
    have wx : (wd pr i).2.2.1 = nI x := ex
    rw [E3, ex, wx, nI_clamp (by omega)]
    exact ⟨vp_in_nI hx (by omega), hM.1 x hx⟩
  have vB : 2 ≤ pO pr i → pO pr i ≤ 11 → vp_in (mu 65 (4 * nI i + 3).toNatClampNeg) 8 ∧ mu 66 (mu 65 (4 * nI i + 3).toNatClampNeg).toNatClampNeg = s.1 (wd pr i).2.2.2.toNatClampNeg := fun z1 z2 => by
    obtain ⟨x, hx, ex⟩ := right_b hv hi z1 z2
    have wx : (wd pr i).2.2.2 = nI x := ex
    rw [E4, ex, wx, nI_clamp (by omega)]
    exact ⟨vp_in_nI hx (by omega), hM.1 x hx⟩
  have wr1 : (wd pr i).2.1.toNatClampNeg = r := by show (pR pr i).toNatClampNeg = r; rw [er, nI_clamp (by omega)]
  have wo : (wd pr i).1 = pO pr i := rfl
  have wa : (wd pr i).2.2.1 = pA pr i := rfl
  have cp : (nI p).toNatClampNeg = p := nI_clamp (by omega)
  have hnp2 : mu 61 (nI E.1).toNatClampNeg = nI E.2.2.1 := by rw [nI_clamp (by omega)]; exact hnp
  have vp : vp_in (nI p) 24 := vp_in_nI hp (by omega)
  have va : vp_in (nI E.1) 24 := vp_in_nI ha (by omega)
  have fin : ∀ (j : Nat) (v : Int32), j = r → pO pr i ≠ 18 → v = rv (wd pr i) E p s.1 → MR E (doW (wd pr i) E p s) (wr mu 66 j v) ∧ SmR [66, 69, 70] [] mu (wr mu 66 j v) := by
    intro j v hj q2 hvv
    subst hj
    refine ⟨?_, SmR.wr (by decide) (by decide)⟩
    unfold doW
    rw [wo, if_neg q2, wr1, ← hvv]
    exact hM.reg v
  have hgot : pO pr i = 16 ∨ pO pr i = 17 → (mu 67 (nI p).toNatClampNeg = 0 ∧ E.2.2.2 p = none) ∨ (¬ mu 67 (nI p).toNatClampNeg = 0 ∧ E.2.2.2 p = some (mu 68 (nI p).toNatClampNeg)) := fun q => by
    obtain ⟨w1, w2⟩ := hM.2.2.2 p (by grind)
    rw [cp, w1]
    cases hg : E.2.2.2 p with
    | none => exact Or.inl ⟨rfl, rfl⟩
    | some v => exact Or.inr ⟨by simp, by rw [w2 v hg]⟩
  refine rX8_doWord_0 h (s0) (s1) (s2) (fun _ _ _ _ _ _ _ _ _ _ => va) (fun _ _ _ _ _ _ _ _ _ _ => vR) (fun _ _ _ _ _ _ _ _ _ _ => vR) (fun _ _ _ _ _ _ _ _ _ => vR) (fun _ _ _ _ _ _ _ _ => vp) (fun _ _ _ _ _ _ _ _ => vR) (fun _ _ _ _ _ _ _ _ => vp) (fun _ _ _ _ _ _ _ => vp) (fun _ _ _ _ _ _ _ _ => vR) (fun _ _ _ _ _ _ _ _ => vp) (fun _ _ _ _ _ _ _ _ => vR) (fun _ _ _ _ _ _ => vp) (fun _ _ _ _ _ _ _ => vR) (fun _ _ _ _ _ _ _ => vR) (fun _ _ _ _ _ => (vA (by grind) (by grind)).1) (fun _ _ _ _ => (vA (by grind) (by grind)).1) (fun _ _ _ _ => vR) (fun _ _ _ => (vA (by grind) (by grind)).1) (fun _ _ _ => s3) (fun _ _ _ => (vB (by grind) (by grind)).1) (fun _ _ => (vA (by grind) (by grind)).1) (fun _ _ => vR) (fun _ => vR) (fun q1 q2 q3 q4 q5 q6 q7 q8 q9 q10 => ?_) (fun q11 q12 q13 q14 q15 q16 q17 q18 q19 q20 => ?_) (fun q21 q22 q23 q24 q25 q26 q27 q28 q29 => ?_) (fun q30 q31 q32 q33 q34 q35 q36 q37 => ?_) (fun q38 q39 q40 q41 q42 q43 q44 q45 => ?_) (fun q46 q47 q48 q49 q50 q51 q52 q53 => ?_) (fun q54 q55 q56 q57 q58 q59 q60 => ?_) (fun q61 q62 q63 q64 q65 q66 q67 => ?_) (fun q68 q69 q70 q71 q72 => ?_) (fun q73 q74 q75 q76 => ?_) (fun q77 q78 q79 => ?_) (fun q80 q81 => ?_) (fun q82 => ?_)
  · exact J_vret h dX8_doWord_311 (by first | exact fin _ _ kr (by grind) (by unfold rv; rw [wo]; grind) | (rw [cp]; refine ⟨?_, (SmR.wr (by decide) (by decide)).trans' (SmR.wr (by decide) (by decide))⟩; unfold doW; rw [wo, if_pos (by grind), wr1, kr, hM.1 r hr]; exact hM.send _))
  · exact J_vret h dX8_doWord_311 (by first | exact fin _ _ kr (by grind) (by unfold rv; rw [wo]; grind) | (rw [cp]; refine ⟨?_, (SmR.wr (by decide) (by decide)).trans' (SmR.wr (by decide) (by decide))⟩; unfold doW; rw [wo, if_pos (by grind), wr1, kr, hM.1 r hr]; exact hM.send _))
  · exact J_vret h dX8_doWord_311 (by first | exact fin _ _ kr (by grind) (by unfold rv; rw [wo]; grind) | (rw [cp]; refine ⟨?_, (SmR.wr (by decide) (by decide)).trans' (SmR.wr (by decide) (by decide))⟩; unfold doW; rw [wo, if_pos (by grind), wr1, kr, hM.1 r hr]; exact hM.send _))
  · exact J_vret h dX8_doWord_311 (by first | exact fin _ _ kr (by grind) (by unfold rv; rw [wo]; grind) | (rw [cp]; refine ⟨?_, (SmR.wr (by decide) (by decide)).trans' (SmR.wr (by decide) (by decide))⟩; unfold doW; rw [wo, if_pos (by grind), wr1, kr, hM.1 r hr]; exact hM.send _))
  · exact J_vret h dX8_doWord_311 (by first | exact fin _ _ kr (by grind) (by unfold rv; rw [wo]; grind) | (rw [cp]; refine ⟨?_, (SmR.wr (by decide) (by decide)).trans' (SmR.wr (by decide) (by decide))⟩; unfold doW; rw [wo, if_pos (by grind), wr1, kr, hM.1 r hr]; exact hM.send _))
  · exact J_vret h dX8_doWord_311 (by first | exact fin _ _ kr (by grind) (by unfold rv; rw [wo]; grind) | (rw [cp]; refine ⟨?_, (SmR.wr (by decide) (by decide)).trans' (SmR.wr (by decide) (by decide))⟩; unfold doW; rw [wo, if_pos (by grind), wr1, kr, hM.1 r hr]; exact hM.send _))
  · exact J_vret h dX8_doWord_311 (by first | exact fin _ _ kr (by grind) (by unfold rv; rw [wo]; grind) | (rw [cp]; refine ⟨?_, (SmR.wr (by decide) (by decide)).trans' (SmR.wr (by decide) (by decide))⟩; unfold doW; rw [wo, if_pos (by grind), wr1, kr, hM.1 r hr]; exact hM.send _))
  · exact J_vret h dX8_doWord_311 (by first | exact fin _ _ kr (by grind) (by unfold rv; rw [wo]; grind) | (rw [cp]; refine ⟨?_, (SmR.wr (by decide) (by decide)).trans' (SmR.wr (by decide) (by decide))⟩; unfold doW; rw [wo, if_pos (by grind), wr1, kr, hM.1 r hr]; exact hM.send _))
  · refine rX8_doWord_167 h (k_lowestZero hl hG _) (by decide) (Nat.zero_le _) (fun v m1 e1 => ?_)
    obtain ⟨rfl, rfl⟩ := e1
    refine rX8_doWord_170 h (by grind) ?_
    exact J_vret h dX8_doWord_311 (by first | exact fin _ _ kr (by grind) (by unfold rv; rw [wo]; grind) | (rw [cp]; refine ⟨?_, (SmR.wr (by decide) (by decide)).trans' (SmR.wr (by decide) (by decide))⟩; unfold doW; rw [wo, if_pos (by grind), wr1, kr, hM.1 r hr]; exact hM.send _))
  · exact J_vret h dX8_doWord_311 (by first | exact fin _ _ kr (by grind) (by unfold rv; rw [wo]; grind) | (rw [cp]; refine ⟨?_, (SmR.wr (by decide) (by decide)).trans' (SmR.wr (by decide) (by decide))⟩; unfold doW; rw [wo, if_pos (by grind), wr1, kr, hM.1 r hr]; exact hM.send _))
  · refine rX8_doWord_111 h (k_make hl hG _ _ (by grind) (by grind)) (by decide) (Nat.zero_le _) (fun v m1 e1 => ?_)
    obtain ⟨rfl, rfl⟩ := e1
    refine rX8_doWord_114 h (by grind) ?_
    exact J_vret h dX8_doWord_311 (by first | exact fin _ _ kr (by grind) (by unfold rv; rw [wo]; grind) | (rw [cp]; refine ⟨?_, (SmR.wr (by decide) (by decide)).trans' (SmR.wr (by decide) (by decide))⟩; unfold doW; rw [wo, if_pos (by grind), wr1, kr, hM.1 r hr]; exact hM.send _))
  · exact J_vret h dX8_doWord_311 (by first | exact fin _ _ kr (by grind) (by unfold rv; rw [wo]; grind) | (rw [cp]; refine ⟨?_, (SmR.wr (by decide) (by decide)).trans' (SmR.wr (by decide) (by decide))⟩; unfold doW; rw [wo, if_pos (by grind), wr1, kr, hM.1 r hr]; exact hM.send _))
  · exact J_vret h dX8_doWord_311 (by first | exact fin _ _ kr (by grind) (by unfold rv; rw [wo]; grind) | (rw [cp]; refine ⟨?_, (SmR.wr (by decide) (by decide)).trans' (SmR.wr (by decide) (by decide))⟩; unfold doW; rw [wo, if_pos (by grind), wr1, kr, hM.1 r hr]; exact hM.send _))
end C42
