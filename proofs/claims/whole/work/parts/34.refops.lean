/-! ===== the reference's plain calls; the program on both sides ===== -/
/-- a refused call of the reference sets its number alone -/
def refX (cd : Nat) (mu mu' : jM) : Prop := mu' 58 0 = nI cd ∧ (cd ≠ 0 → SmR [] [0] mu mu')
theorem refX.of {cd k : Nat} {mu : jM} (h : cd = k) : refX cd mu (wr mu 58 0 (nI k)) := ⟨by rw [rd_at, h]; simp [upd], fun _ => SmR.fld (by decide)⟩
theorem RunR.no {run : Bool} {mu : jM} (h : RunR run mu) (q : mu 58 18 = 0) : run = false := by
  rw [h] at q
  cases run
  · rfl
  · exact absurd q (by decide)
theorem RunR.yes {run : Bool} {mu : jM} (h : RunR run mu) (q : ¬ mu 58 18 = 0) : run = true := by
  rw [h] at q
  cases run
  · exact absurd rfl q
  · rfl
theorem i_nlt {x y : Int32} (h : ¬ x < y) : y ≤ x := Int32.not_lt.mp h
theorem i_nle {x y : Int32} (h : ¬ x ≤ y) : y < x := Int32.not_le.mp h
theorem i_lt_nle {x y : Int32} (h : x < y) : ¬ y ≤ x := Int32.not_le.mpr h
theorem i_le_nlt {x y : Int32} (h : x ≤ y) : ¬ y < x := Int32.not_lt.mpr h
/-- words of a program -/
abbrev Wd : Type := Int32 × Int32 × Int32 × Int32
def ProgC (pr : List Wd) (mu : jM) : Prop := mu 1 4 = nI pr.length ∧ ∀ (i : Nat) (w : Wd), pr[i]? = some w → mu 2 i = w.1 ∧ mu 3 i = w.2.1 ∧ mu 4 i = w.2.2.1 ∧ mu 5 i = w.2.2.2
def ProgR (pr : List Wd) (mu : jM) : Prop := mu 58 9 = nI pr.length ∧ ∀ (i : Nat) (w : Wd), pr[i]? = some w → mu 65 (4 * i) = w.1 ∧ mu 65 (4 * i + 1) = w.2.1 ∧ mu 65 (4 * i + 2) = w.2.2.1 ∧ mu 65 (4 * i + 3) = w.2.2.2
def wset (pr : List Wd) (i : Nat) (w : Wd) : List Wd := if i < pr.length then pr.set i w else pr ++ [w]
theorem wset_get {pr : List Wd} {i j : Nat} {w w' : Wd} (hi : i ≤ pr.length) (h : (wset pr i w)[j]? = some w') : (j = i ∧ w' = w) ∨ (j ≠ i ∧ pr[j]? = some w') := by
  unfold wset at h
  split at h
  · rename_i hlt
    rw [List.getElem?_set] at h
    by_cases q : i = j
    · subst q
      rw [if_pos rfl, if_pos hlt] at h
      exact Or.inl ⟨rfl, (Option.some.inj h).symm⟩
    · rw [if_neg q] at h
      exact Or.inr ⟨fun z => q z.symm, h⟩
  · have he : i = pr.length := by omega
    subst he
    rw [List.getElem?_append] at h
    split at h
    · exact Or.inr ⟨by omega, h⟩
    · have : j = pr.length := by
        rcases Nat.lt_or_ge j (pr.length + 1) with z | z
        · omega
        · rw [List.getElem?_eq_none (by simp; omega)] at h; cases h
      subst this
      simp at h
      exact Or.inl ⟨rfl, h.symm⟩
theorem wset_len (pr : List Wd) {i : Nat} (w : Wd) (hi : i ≤ pr.length) : (wset pr i w).length = if i = pr.length then pr.length + 1 else pr.length := by
  unfold wset
  split
  · rw [List.length_set, if_neg (by omega)]
  · rw [if_pos (by omega)]; simp
theorem ProgC.congr {pr : List Wd} {mu mu' : jM} (h : ProgC pr mu) (hc : ∀ c, 1 ≤ c → c ≤ 5 → mu' c = mu c) : ProgC pr mu' := by
  refine ⟨by rw [hc 1 (by omega) (by omega)]; exact h.1, fun i w hw => ?_⟩
  rw [hc 2 (by omega) (by omega), hc 3 (by omega) (by omega), hc 4 (by omega) (by omega), hc 5 (by omega) (by omega)]
  exact h.2 i w hw
theorem ProgC.same {pr : List Wd} {mu mu' : jM} {W : List Nat} (h : ProgC pr mu) (hs : Same W mu mu') (hw : W.all (fun c => decide (c < 1 ∨ 5 < c)) = true) : ProgC pr mu' :=
  h.congr (fun c h1 h2 => hs c (fun q => by have := List.all_eq_true.mp hw c q; simp at this; omega))
theorem ProgR.congr {pr : List Wd} {mu mu' : jM} (h : ProgR pr mu) (h9 : mu' 58 9 = mu 58 9) (hc : mu' 65 = mu 65) : ProgR pr mu' := by
  refine ⟨h9.trans h.1, fun i w hw => ?_⟩
  rw [hc]
  exact h.2 i w hw
theorem ProgR.same {pr : List Wd} {mu mu' : jM} {W F : List Nat} (h : ProgR pr mu) (hs : SmR W F mu mu') (hw : W.all (fun c => decide (c ≠ 65)) = true) (hf : F.all (fun c => decide (c ≠ 9)) = true) : ProgR pr mu' :=
  h.congr (hs.2 9 (fun q => by have := List.all_eq_true.mp hf 9 q; simp at this)) (hs.1 65 (fun q => by have := List.all_eq_true.mp hw 65 q; simp at this) (by decide))
section C34
variable {l : Launch} {G : jG} {mu : jM}
theorem k_thrown (hl : l.stackTraces = false) (hG : jGok G) : jCi l G yX8_thrown cX8_thrown 1 1 (some .int) [.ref 58] mu (fun v mu' => v = mu 58 0 ∧ mu' = mu) := by
  refine jCi.of (pad := 0) hl hG (by decide) (Nat.le_of_ble_eq_true rfl) (fun X h => ?_)
  show J l G X _ 1 0 [.ref 58] [] mu 0
  exact rX8_thrown_0 h (J_iret h dX8_thrown_4 rfl ⟨rfl, rfl⟩)
theorem k_isReg (hl : l.stackTraces = false) (hG : jGok G) (x : Int32) : jCi l G yX8_isRegister cX8_isRegister 1 1 (some .boolean) [.int x] mu (fun v mu' => v = (if isRg x then 1 else 0) ∧ mu' = mu) := by
  refine jCi.of (pad := 0) hl hG (by decide) (Nat.le_of_ble_eq_true rfl) (fun X h => ?_)
  show J l G X _ 1 0 [.int x] [] mu 0
  refine rX8_isRegister_0 h (fun q => ?_) (fun q1 q2 => ?_) (fun q1 q2 => ?_)
  · refine rX8_isRegister_14 h (J_iret h dX8_isRegister_15 rfl ⟨?_, rfl⟩)
    rw [if_neg (fun z => z.1 q)]
  · refine rX8_isRegister_14 h (J_iret h dX8_isRegister_15 rfl ⟨?_, rfl⟩)
    rw [if_neg (fun z => absurd q2 (i_lt_nle z.2))]
  · refine J_iret h dX8_isRegister_15 rfl ⟨?_, rfl⟩
    rw [if_pos ⟨q1, i_nle q2⟩]
theorem k_release (hl : l.stackTraces = false) (hG : jGok G) {run : Bool} (hr : RunR run mu) : jCv l G yX8_release cX8_release 1 2 [.ref 58] mu (fun mu' => mu' 58 0 = nI (if run then 0 else 1) ∧ RunR false mu' ∧ SmR [] [0, 18] mu mu') := by
  refine jCv.of (pad := 0) hl hG (by decide) (Nat.le_of_ble_eq_true rfl) (fun X h => ?_)
  show J l G X _ 1 0 [.ref 58] [] mu 0
  refine rX8_release_0 h (fun q => ?_) (fun q => ?_)
  · refine J_vret h dX8_release_21 ?_
    rw [hr.no q]
    exact ⟨rfl, rfl, (SmR.fld (by decide)).trans' (SmR.fld (by decide))⟩
  · refine J_vret h dX8_release_21 ?_
    rw [hr.yes q]
    exact ⟨rfl, rfl, (SmR.fld (by decide)).trans' (SmR.fld (by decide))⟩
theorem k_input (hl : l.stackTraces = false) (hG : jGok G) {run : Bool} {n : Nat} (hr : RunR run mu) (hn24 : n ≤ 24) (hN : mu 58 1 = nI n) (x y v : Int32) : jCv l G yX8_input cX8_input 4 2 [.ref 58, .int x, .int y, .int v] mu
    (fun mu' => refX (cdInput n run x y) mu mu' ∧ (cdInput n run x y = 0 → mu' = wr (wr mu 58 0 0) 63 (x.toNatClampNeg * 8 + y.toNatClampNeg) v)) := by
  refine jCv.of (pad := 0) hl hG (by decide) (Nat.le_of_ble_eq_true rfl) (fun X h => ?_)
  show J l G X _ 4 0 [.ref 58, .int x, .int y, .int v] [] mu 0
  have bad : ∀ k : Nat, cdInput n run x y = k → k ≠ 0 → refX (cdInput n run x y) mu (wr mu 58 0 (nI k)) ∧ (cdInput n run x y = 0 → wr mu 58 0 (nI k) = wr (wr mu 58 0 0) 63 (x.toNatClampNeg * 8 + y.toNatClampNeg) v) := fun k e hk => ⟨refX.of e, fun z => absurd (e.symm.trans z) hk⟩
  refine rX8_input_0 h ?_
  refine rX8_input_3 h (k_isNode hl hG hN x) (by decide) (Nat.zero_le _) (fun w mu1 e1 => ?_)
  obtain ⟨rfl, rfl⟩ := e1
  refine rX8_input_6 h (fun q => ?_) (fun q => ?_)
  · have hx : isNd n x := Classical.byContradiction fun z => q (if_neg z)
    refine rX8_input_14 h (k_isReg hl hG y) (by decide) (Nat.zero_le _) (fun w mu1 e1 => ?_)
    obtain ⟨rfl, rfl⟩ := e1
    obtain ⟨a, ha, rfl⟩ := hx.nat hn24
    have gy : ¬ (if isRg y then (1 : Int32) else 0) = 0 → isRg y := fun q => Classical.byContradiction fun z => q (if_neg z)
    refine rX8_input_17 h (fun q1 _ => ?_) (fun q1 q2 => ?_) (fun q1 q2 => ?_) (fun q1 => ?_)
    · obtain ⟨r, hr8, rfl⟩ := (gy q1).nat
      rw [show 8 * nI a + nI r = nI (8 * a + r) by rw [show (8 : Int32) = nI 8 from rfl, pk_mul, nI_add]]
      exact vp_in_nI (by omega) (by omega)
    · have hy := gy q1
      obtain ⟨r, hr8, rfl⟩ := hy.nat
      have e0 : cdInput n run (nI a) (nI r) = 0 := by unfold cdInput; rw [if_neg (fun z => z hx), if_neg (fun z => z hy), hr.no q2]; rfl
      refine J_vret h dX8_input_58 ⟨⟨by rw [e0]; rfl, fun z => absurd e0 z⟩, fun _ => ?_⟩
      rw [show 8 * nI a + nI r = nI (8 * a + r) by rw [show (8 : Int32) = nI 8 from rfl, pk_mul, nI_add], nI_clamp (by omega), nI_clamp (by omega), nI_clamp (by omega), Nat.mul_comm 8 a]
    · have hy := gy q1
      exact J_vret h dX8_input_58 (bad 3 (by unfold cdInput; rw [if_neg (fun z => z hx), if_neg (fun z => z hy), hr.yes q2]; rfl) (by decide))
    · have hy : ¬ isRg y := fun z => by rw [if_pos z] at q1; exact absurd q1 (by decide)
      exact J_vret h dX8_input_58 (bad 2 (by unfold cdInput; rw [if_neg (fun z => z hx), if_pos hy]) (by decide))
  · have hx : ¬ isNd n x := fun z => by rw [if_pos z] at q; exact absurd q (by decide)
    exact J_vret h dX8_input_58 (bad 1 (if_pos hx) (by decide))
theorem k_plain (hl : l.stackTraces = false) (hG : jGok G) {n : Nat} (hn24 : n ≤ 24) (hN : mu 58 1 = nI n) (x y : Int32) : jCi l G yX8_plain cX8_plain 3 2 (some .int) [.ref 58, .int x, .int y] mu
    (fun v mu' => refX (cdPlain n x y) mu mu' ∧ (cdPlain n x y = 0 → v = mu 64 (x.toNatClampNeg * 8 + y.toNatClampNeg) ∧ mu' = wr mu 58 0 0)) := by
  refine jCi.of (pad := 0) hl hG (by decide) (Nat.le_of_ble_eq_true rfl) (fun X h => ?_)
  show J l G X _ 3 0 [.ref 58, .int x, .int y] [] mu 0
  refine rX8_plain_0 h ?_
  refine rX8_plain_3 h (k_isNode hl hG hN x) (by decide) (Nat.zero_le _) (fun w mu1 e1 => ?_)
  obtain ⟨rfl, rfl⟩ := e1
  refine rX8_plain_6 h (fun q => ?_) (fun q => ?_)
  · have hx : isNd n x := Classical.byContradiction fun z => q (if_neg z)
    refine rX8_plain_14 h (k_isReg hl hG y) (by decide) (Nat.zero_le _) (fun w mu1 e1 => ?_)
    obtain ⟨rfl, rfl⟩ := e1
    obtain ⟨a, ha, rfl⟩ := hx.nat hn24
    have gy : ¬ (if isRg y then (1 : Int32) else 0) = 0 → isRg y := fun q => Classical.byContradiction fun z => q (if_neg z)
    refine rX8_plain_17 h (fun q1 => ?_) (fun q1 => ?_) (fun q1 => ?_)
    · obtain ⟨r, hr8, rfl⟩ := (gy q1).nat
      rw [show 8 * nI a + nI r = nI (8 * a + r) by rw [show (8 : Int32) = nI 8 from rfl, pk_mul, nI_add]]
      exact vp_in_nI (by omega) (by omega)
    · have hy := gy q1
      obtain ⟨r, hr8, rfl⟩ := hy.nat
      have e0 : cdPlain n (nI a) (nI r) = 0 := by unfold cdPlain; rw [if_neg (fun z => z hx), if_neg (fun z => z hy)]
      refine J_iret h dX8_plain_50 rfl ⟨⟨by rw [e0]; rfl, fun z => absurd e0 z⟩, fun _ => ⟨?_, rfl⟩⟩
      rw [show 8 * nI a + nI r = nI (8 * a + r) by rw [show (8 : Int32) = nI 8 from rfl, pk_mul, nI_add], nI_clamp (by omega), nI_clamp (by omega), nI_clamp (by omega), Nat.mul_comm 8 a]
    · have hy : ¬ isRg y := fun z => by rw [if_pos z] at q1; exact absurd q1 (by decide)
      have e2 : cdPlain n (nI a) y = 2 := by unfold cdPlain; rw [if_neg (fun z => z hx), if_pos hy]
      exact J_iret h dX8_plain_50 rfl ⟨refX.of e2, fun z => absurd (e2.symm.trans z) (by decide)⟩
  · have hx : ¬ isNd n x := fun z => by rw [if_pos z] at q; exact absurd q (by decide)
    have e1 : cdPlain n x y = 1 := if_pos hx
    exact J_iret h dX8_plain_50 rfl ⟨refX.of e1, fun z => absurd (e1.symm.trans z) (by decide)⟩
theorem k_cutAt (hl : l.stackTraces = false) (hG : jGok G) {run : Bool} {pr : List Wd} (hr : RunR run mu) (hP : ProgR pr mu) (hlen : pr.length ≤ 64) (x : Int32) : jCv l G yX8_cutAt cX8_cutAt 2 2 [.ref 58, .int x] mu
    (fun mu' => refX (cdCut pr.length run x) mu mu' ∧ (cdCut pr.length run x = 0 → ProgR (pr.take x.toNatClampNeg) mu' ∧ SmR [] [0, 9] mu mu')) := by
  refine jCv.of (pad := 0) hl hG (by decide) (Nat.le_of_ble_eq_true rfl) (fun X h => ?_)
  show J l G X _ 2 0 [.ref 58, .int x] [] mu 0
  have bad : ∀ k : Nat, cdCut pr.length run x = k → k ≠ 0 → refX (cdCut pr.length run x) mu (wr (wr mu 58 0 (nI k)) 58 9 (mu 58 9)) ∧ (cdCut pr.length run x = 0 → ProgR (pr.take x.toNatClampNeg) (wr (wr mu 58 0 (nI k)) 58 9 (mu 58 9)) ∧ SmR [] [0, 9] mu (wr (wr mu 58 0 (nI k)) 58 9 (mu 58 9))) := fun k e hk => by
    refine ⟨⟨by rw [e]; rfl, fun _ => ⟨fun c _ q => ?_, fun f hf => ?_⟩⟩, fun z => absurd (e.symm.trans z) hk⟩
    · rw [rd_ne _ _ _ q, rd_ne _ _ _ q]
    · rw [rd_at, rd_at]
      simp only [upd]
      by_cases z : f = 9
      · rw [if_pos z, z]
      · rw [if_neg z, if_neg (fun w => hf (by simp [w]))]
  refine rX8_cutAt_0 h (fun q => ?_) (fun q1 q2 q3 => ?_) (fun q1 q2 q3 => ?_) (fun q1 q2 => ?_)
  · exact J_vret h dX8_cutAt_51 (bad 1 (if_pos (Or.inl q)) (by decide))
  · rw [hP.1] at q2
    have hin : ¬ (x < 0 ∨ nI pr.length < x) := fun z => z.elim q1 (fun w => i_le_nlt q2 w)
    have e0 : cdCut pr.length run x = 0 := by unfold cdCut; rw [if_neg hin, hr.no q3]; rfl
    obtain ⟨j, hj, rfl⟩ := nI_of q1
    have hj2 : j ≤ pr.length := (nI_leI hj (by omega)).mp q2
    refine J_vret h dX8_cutAt_51 ⟨⟨by rw [e0]; rfl, fun z => absurd e0 z⟩, fun _ => ⟨⟨?_, fun i w hw => ?_⟩, (SmR.fld (by decide)).trans' (SmR.fld (by decide))⟩⟩
    · show nI j = _
      rw [nI_clamp hj, List.length_take, Nat.min_eq_left hj2]
    · have hw2 : pr[i]? = some w := by
        rw [List.getElem?_take] at hw
        split at hw
        · exact hw
        · cases hw
      exact hP.2 i w hw2
  · rw [hP.1] at q2
    have hin : ¬ (x < 0 ∨ nI pr.length < x) := fun z => z.elim q1 (fun w => i_le_nlt q2 w)
    exact J_vret h dX8_cutAt_51 (bad 2 (by unfold cdCut; rw [if_neg hin, hr.yes q3]; rfl) (by decide))
  · rw [hP.1] at q2
    exact J_vret h dX8_cutAt_51 (bad 1 (if_pos (Or.inr (i_nle q2))) (by decide))
theorem k_put (hl : l.stackTraces = false) (hG : jGok G) {i : Nat} (hi : i < 64) (w : Wd) : jCv l G yX8_put cX8_put 6 1 [.ref 58, .int (nI i), .int w.1, .int w.2.1, .int w.2.2.1, .int w.2.2.2] mu
    (fun mu' => (mu' 65 (4 * i) = w.1 ∧ mu' 65 (4 * i + 1) = w.2.1 ∧ mu' 65 (4 * i + 2) = w.2.2.1 ∧ mu' 65 (4 * i + 3) = w.2.2.2) ∧ (∀ k, k < 4 * i ∨ 4 * i + 3 < k → mu' 65 k = mu 65 k) ∧ SmR [65] [] mu mu') := by
  have e0 : 4 * nI i = nI (4 * i) := by rw [show (4 : Int32) = nI 4 from rfl, pk_mul]
  have e1 : nI (4 * i) + 1 = nI (4 * i + 1) := nI_1 _
  have e2 : nI (4 * i) + 2 = nI (4 * i + 2) := nI_add _ 2
  have e3 : nI (4 * i) + 3 = nI (4 * i + 3) := nI_add _ 3
  refine jCv.of (pad := 0) hl hG (by decide) (Nat.le_of_ble_eq_true rfl) (fun X h => ?_)
  show J l G X _ 6 0 [.ref 58, .int (nI i), .int w.1, .int w.2.1, .int w.2.2.1, .int w.2.2.2] [] mu 0
  refine rX8_put_0 h (by rw [e0]; exact vp_in_nI (by omega) (by omega)) (by rw [e0, e1]; exact vp_in_nI (by omega) (by omega)) (by rw [e0, e2]; exact vp_in_nI (by omega) (by omega)) (by rw [e0, e3]; exact vp_in_nI (by omega) (by omega)) ?_
  refine J_vret h dX8_put_44 ?_
  rw [e0, e1, e2, e3, nI_clamp (by omega : 4 * i < 2 ^ 31), nI_clamp (by omega : 4 * i + 1 < 2 ^ 31), nI_clamp (by omega : 4 * i + 2 < 2 ^ 31), nI_clamp (by omega : 4 * i + 3 < 2 ^ 31)]
  refine ⟨?_, fun k hk => ?_, (((SmR.wr (by decide) (by decide)).trans' (SmR.wr (by decide) (by decide))).trans' (SmR.wr (by decide) (by decide))).trans' (SmR.wr (by decide) (by decide))⟩
  · rw [rd_at, rd_at, rd_at, rd_at]
    simp [upd]
  · rw [rd_at, rd_at, rd_at, rd_at]
    simp only [upd]
    rw [if_neg (by omega), if_neg (by omega), if_neg (by omega), if_neg (by omega)]
theorem k_word (hl : l.stackTraces = false) (hG : jGok G) {run : Bool} {pr : List Wd} (hr : RunR run mu) (hP : ProgR pr mu) (hlen : pr.length ≤ 64) (x : Int32) (w : Wd) : jCi l G yX8_word cX8_word 6 2 (some .int) [.ref 58, .int x, .int w.1, .int w.2.1, .int w.2.2.1, .int w.2.2.2] mu
    (fun v mu' => refX (cdWord pr.length run x) mu mu' ∧ (cdWord pr.length run x = 0 → v = nI (wset pr x.toNatClampNeg w).length ∧ ProgR (wset pr x.toNatClampNeg w) mu' ∧ (wset pr x.toNatClampNeg w).length ≤ 64 ∧ SmR [65] [0, 9] mu mu')) := by
  refine jCi.of (pad := 0) hl hG (by decide) (Nat.le_of_ble_eq_true rfl) (fun X h => ?_)
  show J l G X _ 6 0 [.ref 58, .int x, .int w.1, .int w.2.1, .int w.2.2.1, .int w.2.2.2] [] mu 0
  have bad : ∀ k : Nat, cdWord pr.length run x = k → k ≠ 0 → refX (cdWord pr.length run x) mu (wr mu 58 0 (nI k)) ∧ (cdWord pr.length run x = 0 → (0 : Int32) = nI (wset pr x.toNatClampNeg w).length ∧ ProgR (wset pr x.toNatClampNeg w) (wr mu 58 0 (nI k)) ∧ (wset pr x.toNatClampNeg w).length ≤ 64 ∧ SmR [65] [0, 9] mu (wr mu 58 0 (nI k))) := fun k e hk => ⟨refX.of e, fun z => absurd (e.symm.trans z) hk⟩
  refine rX8_word_0 h (fun q => ?_) (fun q1 q2 q3 q4 => ?_) (fun q1 q2 q3 q4 => ?_) (fun q1 q2 q3 => ?_) (fun q1 q2 => ?_)
  · exact J_iret h dX8_word_50 rfl (bad 1 (if_pos (Or.inl q)) (by decide))
  · rw [hP.1] at q2
    have hin : ¬ (x < 0 ∨ nI pr.length < x) := fun z => z.elim q1 (fun w => i_le_nlt q2 w)
    have e0 : cdWord pr.length run x = 0 := by unfold cdWord; rw [if_neg hin, hr.no q3, if_neg q4]; rfl
    obtain ⟨i, hi, rfl⟩ := nI_of q1
    have hi2 : i ≤ pr.length := (nI_leI hi (by omega)).mp q2
    have hi3 : i ≠ 64 := fun z => q4 (by rw [z]; rfl)
    refine rX8_word_59 h (k_put hl hG (by omega : i < 64) w) (by decide) (Nat.zero_le _) (fun mu1 e1 => ?_)
    obtain ⟨⟨g0, g1, g2, g3⟩, gk, gs⟩ := e1
    have h9 : mu1 58 9 = nI pr.length := by rw [gs.2 9 (by decide)]; exact hP.1
    have hprog : ∀ mu2 : jM, mu2 58 9 = nI (wset pr i w).length → mu2 65 = mu1 65 → ProgR (wset pr i w) mu2 := fun mu2 a1 a2 => ⟨a1, fun j w' hw' => by
      rw [a2]
      rcases wset_get hi2 hw' with ⟨rfl, rfl⟩ | ⟨hj, hw2⟩
      · exact ⟨g0, g1, g2, g3⟩
      · have := hP.2 j w' hw2
        rw [gk (4 * j) (by omega), gk (4 * j + 1) (by omega), gk (4 * j + 2) (by omega), gk (4 * j + 3) (by omega)]
        exact this⟩
    have sm : ∀ v : Int32, SmR [65] [0, 9] mu (wr mu1 58 9 v) := fun v => ((SmR.fld (by decide) : SmR [65] [0, 9] mu (wr mu 58 0 0)).trans' (gs.wide (by decide) (by decide))).trans' (SmR.fld (by decide))
    have h58 : ∀ v : Int32, wr mu1 58 9 v 58 0 = 0 := fun v => by
      show mu1 58 0 = 0
      rw [gs.2 0 (by decide)]; rfl
    have hc : (nI i).toNatClampNeg = i := nI_clamp hi
    refine rX8_word_62 h (fun q => ?_) (fun q => ?_)
    · rw [h9] at q
      rw [h9]
      have hne : i ≠ pr.length := fun z => q (by rw [z])
      have hl2 : (wset pr i w).length = pr.length := by rw [wset_len pr w hi2, if_neg hne]
      refine J_iret h dX8_word_91 rfl ⟨⟨by rw [e0, h58]; rfl, fun z => absurd e0 z⟩, fun _ => ?_⟩
      rw [hc]
      exact ⟨by rw [hl2], hprog _ (by rw [hl2]; rfl) rfl, by omega, sm _⟩
    · rw [h9] at q
      rw [h9]
      have heq : i = pr.length := (nI_eq hi (by omega)).mp q
      have hl2 : (wset pr i w).length = pr.length + 1 := by rw [wset_len pr w hi2, if_pos heq]
      refine J_iret h dX8_word_91 rfl ⟨⟨by rw [e0, h58]; rfl, fun z => absurd e0 z⟩, fun _ => ?_⟩
      rw [hc]
      exact ⟨by rw [hl2, nI_1], hprog _ (by rw [hl2, ← nI_1]; rfl) rfl, by omega, sm _⟩
  · rw [hP.1] at q2
    have hin : ¬ (x < 0 ∨ nI pr.length < x) := fun z => z.elim q1 (fun w => i_le_nlt q2 w)
    exact J_iret h dX8_word_50 rfl (bad 3 (by unfold cdWord; rw [if_neg hin, hr.no q3, if_pos q4]; rfl) (by decide))
  · rw [hP.1] at q2
    have hin : ¬ (x < 0 ∨ nI pr.length < x) := fun z => z.elim q1 (fun w => i_le_nlt q2 w)
    exact J_iret h dX8_word_50 rfl (bad 2 (by unfold cdWord; rw [if_neg hin, hr.yes q3]; rfl) (by decide))
  · rw [hP.1] at q2
    exact J_iret h dX8_word_50 rfl (bad 1 (if_pos (Or.inr (i_nle q2))) (by decide))
end C34
