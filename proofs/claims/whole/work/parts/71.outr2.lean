/-! ===== the reference: calls on a run, the others ===== -/
theorem RepR.thr {Z : NT} {s : RS} {mu : jM} (h : RepR Z s mu) (v : Int32) : RepR Z s (wr mu 58 0 v) := ⟨h.1, h.2.1, h.2.2.1, h.2.2.2.1, h.2.2.2.2.1, h.2.2.2.2.2.1, h.2.2.2.2.2.2⟩
theorem StR.thr {Z : NT} {mu : jM} (h : StR Z mu) (v : Int32) : StR Z (wr mu 58 0 v) := h.congr (fun f hf => by
  rw [rd_at]
  simp only [upd]
  rw [if_neg (by omega)]) (fun c hc => rd_ne _ _ _ (by omega))
theorem PcR.thr {n : Nat} {lk : Lk} {p : Nat} {mu : jM} (h : PcR n lk p mu) (v : Int32) : PcR n lk p (wr mu 58 0 v) := h.congr (fun c hc => rd_ne _ _ _ (by omega)) rfl
theorem refX.ok {cd : Nat} {mu mu' : jM} (h : cd = 0) (h2 : mu' 58 0 = 0) : refX cd mu mu' := ⟨by rw [h2, h]; rfl, fun z => absurd h z⟩
section C71
variable {l : Launch} {G : jG} {mu : jM}
theorem k_stopAt (hl : l.stackTraces = false) (hG : jGok G) {run : Bool} (hr : RunR run mu) {Z : NT} {s : RS} (hA : run = true → RunA Z s ∧ StR Z mu ∧ RepR Z s mu) (x : Int32) : jCv l G yX8_stopAt cX8_stopAt 3 8 [.ref 58, .int x] mu
    (fun mu' => refX (cdStop run s.st x) mu mu' ∧ (cdStop run s.st x = 0 → RepR Z (actAll Z Z.n 0 (stS s x.toNatClampNeg)) mu' ∧ SmR WQ [0, 19, 38, 41] mu mu')) := by
  refine jCv.of (pad := 1) hl hG (by decide) (Nat.le_of_ble_eq_true rfl) (fun X h => ?_)
  show J l G X _ 3 0 [.ref 58, .int x, .float 0] [] mu 0
  have bad : ∀ k : Nat, cdStop run s.st x = k → k ≠ 0 → ∀ ls, J l G X (jRv G X (fun mu' => refX (cdStop run s.st x) mu mu' ∧ (cdStop run s.st x = 0 → RepR Z (actAll Z Z.n 0 (stS s x.toNatClampNeg)) mu' ∧ SmR WQ [0, 19, 38, 41] mu mu'))) 3 42 ls [] (wr mu 58 0 (nI k)) 0 := fun k hk h0 ls => J_vret h dX8_stopAt_42 ⟨refX.of hk, fun z => absurd (hk ▸ z) h0⟩
  refine rX8_stopAt_0 h (fun q q2 => ?_) (fun q q2 q3 => ?_) (fun q q2 q3 => ?_) (fun q => ?_)
  · have hrt := hr.yes q
    exact bad 2 (by unfold cdStop; rw [hrt, if_pos rfl, if_pos (Or.inl q2)]) (by decide) _
  · have hrt := hr.yes q
    obtain ⟨⟨hZ, hI, hE⟩, hS, hR⟩ := hA hrt
    have hst := hI.2.2.2.2.1
    rw [hR.2.2.2.2.2.1.1] at q3
    have h0 : cdStop run s.st x = 0 := by unfold cdStop; rw [hrt, if_pos rfl, if_neg (by rintro (z | z); exact q2 z; exact i_le_nlt q3 z)]
    have hx0 : ¬ x < 0 := fun z => nI_nn (n := s.st) (by omega) (Int32.lt_of_le_of_lt q3 z)
    obtain ⟨k, hk, rfl⟩ := nI_of2 (M := 500) (n := 500) rfl hx0 (i_nlt q2)
    rw [nI_leI (by omega) (by omega)] at q3
    rw [nI_clamp (by omega)]
    have I1 := inv_stop hI q3 hk
    have hn24 := hZ.1.1.1
    have R1 : RepR Z (stS s k) (wr (wr mu 58 0 0) 58 19 (nI k)) := ⟨hR.1, hR.2.1, hR.2.2.1, hR.2.2.2.1, hR.2.2.2.2.1, ⟨rfl, hR.2.2.2.2.2.1.2⟩, hR.2.2.2.2.2.2⟩
    have W1 : SmR WQ [0, 19, 38, 41] mu (wr (wr mu 58 0 0) 58 19 (nI k)) := (SmR.fld (by decide)).trans' (SmR.fld (by decide))
    have S1 : StR Z (wr (wr mu 58 0 0) 58 19 (nI k)) := (hS.thr 0).congr (fun f hf => by rw [rd_at]; simp only [upd]; rw [if_neg (by omega)]) (fun c hc => rd_ne _ _ _ (by omega))
    have loop : ∀ (w a : Nat) (s1 : RS) (m2 : jM), a + w = Z.n → Inv Z s1 → Ext s1 → StR Z m2 → RepR Z s1 m2 → SmR WQ [0, 19, 38, 41] mu m2 → m2 58 0 = 0 → actAll Z w a s1 = actAll Z Z.n 0 (stS s k) → J l G X (jRv G X (fun mu' => refX (cdStop run s.st (nI k)) mu mu' ∧ (cdStop run s.st (nI k) = 0 → RepR Z (actAll Z Z.n 0 (stS s k)) mu' ∧ SmR WQ [0, 19, 38, 41] mu mu'))) 3 50 [.ref 58, .int (nI k), .int (nI a)] [] m2 0 := by
      intro w
      induction w with
      | zero =>
        intro a s1 m2 ha I2 E2 S2 R2 W2 z0 he
        have hle : m2 58 1 ≤ nI a := by rw [S2.1.1]; exact nI_le (by omega) (by omega)
        refine rX8_stopAt_50 h (fun _ => ?_) (fun z => absurd hle z)
        refine J_vret h dX8_stopAt_69 ⟨refX.ok h0 z0, fun _ => ⟨?_, W2⟩⟩
        rw [← he]
        exact R2
      | succ w ih =>
        intro a s1 m2 ha I2 E2 S2 R2 W2 z0 he
        have hle : ¬ m2 58 1 ≤ nI a := by rw [S2.1.1]; exact nI_ge (by omega) (by omega)
        refine rX8_stopAt_50 h (fun z => absurd z hle) (fun _ => ?_)
        refine rX8_stopAt_60 h (k_act hl hG hZ I2 E2 S2 R2 (by omega : a < Z.n)) (by decide) (Nat.zero_le _) (fun m3 e3 => ?_)
        refine rX8_stopAt_63 h ?_
        rw [nI_1]
        exact ih (a + 1) _ m3 (by omega) (inv_act hZ.1 (by omega) 2100 s1 I2) (Ext.act hZ.1 (by omega) 2100 s1 I2 E2) (S2.run e3.2) e3.1 (W2.trans' (e3.2.wide (fun c hc => hc) (by decide))) (by rw [e3.2.2 0 (by decide)]; exact z0) he
    exact loop Z.n 0 (stS s k) _ (by omega) I1 hE S1 R1 W1 rfl rfl
  · have hrt := hr.yes q
    obtain ⟨-, -, hR⟩ := hA hrt
    rw [hR.2.2.2.2.2.1.1] at q3
    exact bad 2 (by unfold cdStop; rw [hrt, if_pos rfl, if_pos (Or.inr (i_nle q3))]) (by decide) _
  · have hrt := hr.no q
    exact bad 1 (by unfold cdStop; rw [hrt]; rfl) (by decide) _
theorem k_letters (hl : l.stackTraces = false) (hG : jGok G) {run : Bool} (hr : RunR run mu) {Z : NT} {s : RS} (hA : run = true → RepR Z s mu) : jCi l G yX8_letters cX8_letters 1 2 (some .int) [.ref 58] mu (fun v mu' => v = (if run then nI s.lt.length else 0) ∧ mu' = wr mu 58 0 0) := by
  refine jCi.of (pad := 0) hl hG (by decide) (Nat.le_of_ble_eq_true rfl) (fun X h => ?_)
  show J l G X _ 1 0 [.ref 58] [] mu 0
  refine rX8_letters_0 h (fun q => ?_) (fun q => ?_)
  · refine J_iret h dX8_letters_20 rfl ⟨?_, rfl⟩
    rw [hr.no q]; rfl
  · refine J_iret h dX8_letters_20 rfl ⟨?_, rfl⟩
    rw [(hA (hr.yes q)).2.2.2.2.1.1, hr.yes q]; rfl
theorem k_letter (hl : l.stackTraces = false) (hG : jGok G) {run : Bool} (hr : RunR run mu) {Z : NT} {s : RS} (hA : run = true → RunA Z s ∧ RepR Z s mu) (x y : Int32) : jCi l G yX8_letter cX8_letter 3 2 (some .int) [.ref 58, .int x, .int y] mu
    (fun v mu' => refX (cdLet run s.lt.length x y) mu mu' ∧ (cdLet run s.lt.length x y = 0 → (∃ i w e, x = nI i ∧ y = nI w ∧ i < 2 ^ 31 ∧ w < 2 ^ 31 ∧ s.lt[i]? = some e ∧ v = lpart e w) ∧ mu' = wr mu 58 0 0)) := by
  refine jCi.of (pad := 0) hl hG (by decide) (Nat.le_of_ble_eq_true rfl) (fun X h => ?_)
  show J l G X _ 3 0 [.ref 58, .int x, .int y] [] mu 0
  have bad : ¬ (run = true ∧ ¬ x < 0 ∧ x < nI s.lt.length ∧ ¬ y < 0 ∧ y < 5) → J l G X (jRi G X (fun v mu' => refX (cdLet run s.lt.length x y) mu mu' ∧ (cdLet run s.lt.length x y = 0 → (∃ i w e, x = nI i ∧ y = nI w ∧ i < 2 ^ 31 ∧ w < 2 ^ 31 ∧ s.lt[i]? = some e ∧ v = lpart e w) ∧ mu' = wr mu 58 0 0))) 3 58 [.ref 58, .int x, .int y] [.int 0] (wr mu 58 0 1) 0 := fun q => by
    have hk : cdLet run s.lt.length x y = 1 := by unfold cdLet; rw [if_neg q]
    exact J_iret h dX8_letter_58 rfl ⟨refX.of (k := 1) hk, fun z => by rw [hk] at z; cases z⟩
  by_cases hc : run = true ∧ ¬ x < 0 ∧ x < nI s.lt.length ∧ ¬ y < 0 ∧ y < 5
  · obtain ⟨h1, h2, h3, h4, h5⟩ := hc
    have h0 : cdLet run s.lt.length x y = 0 := by unfold cdLet; rw [if_pos ⟨h1, h2, h3, h4, h5⟩]
    obtain ⟨⟨hZ, hI, hE⟩, hR⟩ := hA h1
    obtain ⟨b1, -, -⟩ := hI.bd hZ.1
    obtain ⟨i, hi, rfl⟩ := nI_big (by omega) h2 h3
    obtain ⟨w, hw, rfl⟩ := nI_big (n := 5) (by omega) h4 h5
    obtain ⟨e, he⟩ : ∃ e, s.lt[i]? = some e := ⟨_, List.getElem?_eq_getElem hi⟩
    obtain ⟨x1, x2, x3, x4, x5⟩ := hR.2.2.2.2.1.2.1 i e he
    have hr0 : ¬ mu 58 18 = 0 := fun z => by rw [hr.no z] at h1; cases h1
    have n38 : ¬ mu 58 38 ≤ nI i := by rw [hR.2.2.2.2.1.1]; exact nI_ge hi (by omega)
    have n4 : nI w ≤ 4 := nI_le (b := 4) (by omega) (by omega)
    have cc : 5 * nI i + nI w = nI (5 * i + w) := by rw [nL5, nI_mul, nI_add]
    refine rX8_letter_0 h (fun _ _ _ _ _ => by rw [cc]; exact vp_in_nI (by omega) (by omega)) (fun z => absurd z hr0) (fun _ z => absurd z h2) (fun _ _ z => absurd z n38) (fun _ _ _ z => absurd z h4) (fun _ _ _ _ _ => ?_) (fun _ _ _ _ z => absurd n4 z)
    rw [cc, nI_clamp (by omega)]
    refine J_iret h dX8_letter_58 rfl ⟨refX.ok h0 rfl, fun _ => ⟨⟨i, w, e, rfl, rfl, by omega, by omega, he, ?_⟩, rfl⟩⟩
    have c : w = 0 ∨ w = 1 ∨ w = 2 ∨ w = 3 ∨ w = 4 := by omega
    rcases c with rfl | rfl | rfl | rfl | rfl
    · exact x1
    · exact x2
    · exact x3
    · exact x4
    · exact x5
  · refine rX8_letter_0 h (fun q1 q2 q3 q4 q5 => ?_) (fun _ => bad hc) (fun _ _ => bad hc) (fun _ _ _ => bad hc) (fun _ _ _ _ => bad hc) (fun q1 q2 q3 q4 q5 => ?_) (fun _ _ _ _ _ => bad hc)
    all_goals
      exfalso
      have hrt := hr.yes q1
      rw [(hA hrt).2.2.2.2.2.1.1] at q3
      exact hc ⟨hrt, q2, i_nle q3, q4, Int32.lt_of_le_of_lt q5 (by decide)⟩
theorem k_deliver (hl : l.stackTraces = false) (hG : jGok G) {run : Bool} (hr : RunR run mu) {Z : NT} {s : RS} (hA : run = true → RunA Z s ∧ StR Z mu ∧ RepR Z s mu) (x : Int32) : jCi l G yX8_deliver cX8_deliver 2 9 (some .int) [.ref 58, .int x] mu
    (fun v mu' => refX (cdDel run s.lt.length x) mu mu' ∧ (cdDel run s.lt.length x = 0 → (∃ i e, x = nI i ∧ i < 2 ^ 31 ∧ s.lt[i]? = some e ∧ v = nI e.1 ∧ RepR Z (dlv Z s i) mu') ∧ SmR WQ [0, 38, 41] mu mu')) := by
  refine jCi.of (pad := 0) hl hG (by decide) (Nat.le_of_ble_eq_true rfl) (fun X h => ?_)
  show J l G X _ 2 0 [.ref 58, .int x] [] mu 0
  have bad : ¬ (run = true ∧ ¬ x < 0 ∧ x < nI s.lt.length) → J l G X (jRi G X (fun v mu' => refX (cdDel run s.lt.length x) mu mu' ∧ (cdDel run s.lt.length x = 0 → (∃ i e, x = nI i ∧ i < 2 ^ 31 ∧ s.lt[i]? = some e ∧ v = nI e.1 ∧ RepR Z (dlv Z s i) mu') ∧ SmR WQ [0, 38, 41] mu mu'))) 2 44 [.ref 58, .int x] [.int 0] (wr mu 58 0 1) 0 := fun q => by
    have hk : cdDel run s.lt.length x = 1 := by unfold cdDel; rw [if_neg q]
    exact J_iret h dX8_deliver_44 rfl ⟨refX.of (k := 1) hk, fun z => by rw [hk] at z; cases z⟩
  refine rX8_deliver_0 h (fun q => ?_) (fun q q2 => ?_) (fun q q2 q3 => ?_) (fun q q2 q3 => ?_)
  · exact bad (fun z => by rw [hr.no q] at z; cases z.1)
  · exact bad (fun z => z.2.1 q2)
  · have hrt := hr.yes q
    obtain ⟨⟨hZ, hI, hE⟩, hS, hR⟩ := hA hrt
    obtain ⟨b1, -, -⟩ := hI.bd hZ.1
    rw [hR.2.2.2.2.1.1] at q3
    have h0 : cdDel run s.lt.length x = 0 := by unfold cdDel; rw [if_pos ⟨hrt, q2, q3⟩]
    obtain ⟨i, hi, rfl⟩ := nI_big (by omega) q2 q3
    obtain ⟨e, he⟩ : ∃ e, s.lt[i]? = some e := ⟨_, List.getElem?_eq_getElem hi⟩
    refine rX8_deliver_41 h (k_bring hl hG hZ hI hE (hS.thr 0) (hR.thr 0) he) (by decide) (Nat.zero_le _) (fun v m2 e2 => ?_)
    obtain ⟨rfl, R2, W2⟩ := e2
    have W3 : SmR WQ [0, 38, 41] mu m2 := (SmR.fld (by decide)).trans' (W2.wide (fun c hc => hc) (by decide))
    exact J_iret h dX8_deliver_44 rfl ⟨refX.ok h0 (by rw [W2.2 0 (by decide)]; rfl), fun _ => ⟨⟨i, e, rfl, by omega, he, rfl, R2⟩, W3⟩⟩
  · have hrt := hr.yes q
    obtain ⟨-, -, hR⟩ := hA hrt
    rw [hR.2.2.2.2.1.1] at q3
    exact bad (fun z => q3 z.2.2)
theorem k_deliverAll (hl : l.stackTraces = false) (hG : jGok G) {run : Bool} (hr : RunR run mu) {Z : NT} {s : RS} (hA : run = true → RunA Z s ∧ StR Z mu ∧ RepR Z s mu) (x y z : Int32) : jCi l G yX8_deliverAll cX8_deliverAll 7 9 (some .int) [.ref 58, .int x, .int y, .int z] mu
    (fun v mu' => refX (cdAll run x z) mu mu' ∧ (cdAll run x z = 0 → v = nI (dAll Z x z.toNatClampNeg y 0 s).1 ∧ RepR Z (dAll Z x z.toNatClampNeg y 0 s).2 mu' ∧ SmR WQ [0, 38, 41] mu mu')) := by
  refine jCi.of (pad := 3) hl hG (by decide) (Nat.le_of_ble_eq_true rfl) (fun X h => ?_)
  show J l G X _ 7 0 [.ref 58, .int x, .int y, .int z, .float 0, .float 0, .float 0] [] mu 0
  have bad : ∀ k : Nat, k = 1 ∨ k = 2 → cdAll run x z = k → J l G X (jRi G X (fun v mu' => refX (cdAll run x z) mu mu' ∧ (cdAll run x z = 0 → v = nI (dAll Z x z.toNatClampNeg y 0 s).1 ∧ RepR Z (dAll Z x z.toNatClampNeg y 0 s).2 mu' ∧ SmR WQ [0, 38, 41] mu mu'))) 7 46 [.ref 58, .int x, .int y, .int z, .int y, .int 0, .float 0] [] (wr mu 58 0 (nI k)) 0 := fun k hk12 hk => by
    have hne : ¬ (wr mu 58 0 (nI k)) 58 0 = 0 := by
      rw [rd_at]
      simp only [upd, if_true]
      rcases hk12 with rfl | rfl <;> decide
    refine rX8_deliverAll_46 h (fun q => absurd q hne) (fun q => absurd q hne) (fun _ => ?_) (fun q => absurd q hne) (fun q => absurd q hne) (fun q => absurd q hne) (fun q => absurd q hne) (fun q => absurd q hne) (fun q => absurd q hne) (fun q => absurd q hne) (fun q => absurd q hne)
    refine rX8_deliverAll_132 h ?_
    exact J_iret h dX8_deliverAll_134 rfl ⟨refX.of hk, fun w => by omega⟩
  refine rX8_deliverAll_0 h (fun q => ?_) (fun q q2 => ?_) (fun q q2 q3 => ?_) (fun q q2 q3 q4 q5 => ?_) (fun q q2 q3 q4 q5 => ?_) (fun q q2 q3 q4 => ?_)
  · exact bad 1 (Or.inl rfl) (by unfold cdAll; rw [if_pos (Or.inl q)])
  · exact bad 1 (Or.inl rfl) (by unfold cdAll; rw [if_pos (Or.inr (Or.inl q2))])
  · exact bad 1 (Or.inl rfl) (by unfold cdAll; rw [if_pos (Or.inr (Or.inr (Or.inl q3)))])
  · have ex : cdAll run x z = if run then 0 else 2 := by
      unfold cdAll
      rw [if_neg]
      rintro (w | w | w | w)
      · exact q w
      · exact q2 w
      · exact q3 w
      · exact i_le_nlt q4 w
    have hrt := hr.yes q5
    obtain ⟨hA0, hS, hR⟩ := hA hrt
    have hZ := hA0.1
    have h0 : cdAll run x z = 0 := by rw [ex, hrt]; rfl
    obtain ⟨M, hM, rfl⟩ := nI_of2 (M := 2000) (n := 2000) rfl q3 q4
    rw [nI_clamp (by omega)]
    have loop : ∀ (w c : Nat) (d : Int32) (s1 : RS) (m2 : jM), c + w = M → RunA Z s1 → StR Z m2 → RepR Z s1 m2 → SmR WQ [0, 38, 41] mu m2 → m2 58 0 = 0 → dAll Z x w d c s1 = dAll Z x M y 0 s → J l G X (jRi G X (fun v mu' => refX (cdAll run x (nI M)) mu mu' ∧ (cdAll run x (nI M) = 0 → v = nI (dAll Z x M y 0 s).1 ∧ RepR Z (dAll Z x M y 0 s).2 mu' ∧ SmR WQ [0, 38, 41] mu mu'))) 7 46 [.ref 58, .int x, .int y, .int (nI M), .int d, .int (nI c), .float 0] [] m2 0 := by
      intro w
      induction w with
      | zero =>
        intro c d s1 m2 hc A1 S1 R1 W1 z0 he
        have hle : nI M ≤ nI c := nI_le (by omega) (by omega)
        have fin : ∀ ls, J l G X (jRi G X (fun v mu' => refX (cdAll run x (nI M)) mu mu' ∧ (cdAll run x (nI M) = 0 → v = nI (dAll Z x M y 0 s).1 ∧ RepR Z (dAll Z x M y 0 s).2 mu' ∧ SmR WQ [0, 38, 41] mu mu'))) 7 134 ls [.int (nI c)] m2 0 := fun ls => by
          rw [← he]
          exact J_iret h dX8_deliverAll_134 rfl ⟨refX.ok h0 z0, fun _ => ⟨rfl, R1, W1⟩⟩
        refine rX8_deliverAll_46 h (fun _ _ w => absurd hle w) (fun _ _ w => absurd hle w) (fun w => absurd z0 w) (fun _ _ => rX8_deliverAll_132 h (fin _)) (fun _ _ _ => rX8_deliverAll_132 h (fin _)) (fun _ _ w => absurd hle w) (fun _ _ w => absurd hle w) (fun _ _ w => absurd hle w) (fun _ _ w => absurd hle w) (fun _ _ w => absurd hle w) (fun _ _ w => absurd hle w)
      | succ w ih =>
        intro c d s1 m2 hc A1 S1 R1 W1 z0 he
        have hle : ¬ nI M ≤ nI c := nI_ge (by omega) (by omega)
        obtain ⟨b1, -, -⟩ := A1.2.1.bd hZ.1
        have e38 : m2 58 38 = nI s1.lt.length := R1.2.2.2.2.1.1
        have hcmp : (m2 58 38 ≤ 0) ↔ s1.lt.length = 0 := by rw [e38, nL0, nI_leI (by omega) (by omega)]; omega
        have next : ∀ (d1 : Int32) (i : Nat) (x6 : Int32), ¬ s1.lt.length = 0 → d1 = (if x = 2 then drw d else d) → i = pick x d1 s1.lt.length → x6 = nI i → J l G X (jRi G X (fun v mu' => refX (cdAll run x (nI M)) mu mu' ∧ (cdAll run x (nI M) = 0 → v = nI (dAll Z x M y 0 s).1 ∧ RepR Z (dAll Z x M y 0 s).2 mu' ∧ SmR WQ [0, 38, 41] mu mu'))) 7 121 [.ref 58, .int x, .int y, .int (nI M), .int d1, .int (nI c), .float 0] [.int x6, .ref 58] m2 0 := by
          intro d1 i x6 hne hd1 hi hx6
          have hlt : i < s1.lt.length := by rw [hi]; exact pick_lt (by omega)
          obtain ⟨e, he2⟩ : ∃ e, s1.lt[i]? = some e := ⟨_, List.getElem?_eq_getElem hlt⟩
          rw [hx6]
          refine rX8_deliverAll_121 h (k_bring hl hG hZ A1.2.1 A1.2.2 S1 R1 he2) (by decide) (Nat.zero_le _) (fun v m3 e3 => ?_)
          refine rX8_deliverAll_124 h ?_
          rw [nI_1]
          refine J_forget 6 (ih (c + 1) d1 _ m3 (by omega) (dlv_ok hZ A1 i) (S1.run e3.2.2) e3.2.1 (W1.trans' (e3.2.2.wide (fun c hc => hc) (by decide))) (by rw [e3.2.2.2 0 (by decide)]; exact z0) ?_)
          rw [← he]
          conv => rhs; unfold dAll
          rw [if_neg hne, ← hd1, ← hi]
        have hx3 : x = 0 ∨ x = 1 ∨ x = 2 := by
          obtain ⟨k, hk, rfl⟩ := nI_of2 (M := 2) (n := 2) rfl q (i_nlt q2)
          have : k = 0 ∨ k = 1 ∨ k = 2 := by omega
          rcases this with rfl | rfl | rfl
          · exact Or.inl rfl
          · exact Or.inr (Or.inl rfl)
          · exact Or.inr (Or.inr rfl)
        have hn38 : ¬ m2 58 38 ≤ 0 → ¬ m2 58 38 = 0 := fun w1 w2 => w1 (by rw [w2]; decide)
        refine rX8_deliverAll_46 h (fun _ w1 _ _ _ _ => hn38 w1) (fun _ w1 _ _ _ _ => hn38 w1) (fun w => absurd z0 w) (fun _ w1 => ?_) (fun _ _ w => absurd w hle) (fun _ w1 _ w2 w3 w4 => ?_) (fun _ w1 _ w2 w3 w4 => ?_) (fun _ w1 _ w2 w3 => ?_) (fun _ w1 _ w2 w3 w4 => ?_) (fun _ w1 _ w2 w3 w4 => ?_) (fun _ w1 _ w2 w3 => ?_)
        · rw [hcmp] at w1
          refine rX8_deliverAll_132 h ?_
          have he2 : dAll Z x (w + 1) d c s1 = (c, s1) := by unfold dAll; rw [if_pos w1]
          rw [he2] at he
          rw [← he]
          exact J_iret h dX8_deliverAll_134 rfl ⟨refX.ok h0 z0, fun _ => ⟨rfl, R1, W1⟩⟩
        · exact absurd hx3 (by rintro (u | u | u); exact w3 u; exact w4 u; exact w2 u)
        · rw [hcmp] at w1
          rw [e38, nL1, nI_sub (by omega)]
          refine next d _ _ w1 (by rw [if_neg w2]) ?_ rfl
          unfold pick
          rw [if_neg w3, if_pos w4]
        · rw [hcmp] at w1
          exact next d 0 0 w1 (by rw [if_neg w2]) (by unfold pick; rw [if_pos w3]) rfl
        · rw [hcmp] at w1
          have hd : drw d = d * 1103515245 + 12345 := rfl
          rw [← hd, e38, pk_draw _ (by omega) (by omega)]
          refine next (drw d) _ _ w1 (by rw [if_pos w2]) ?_ rfl
          unfold pick
          rw [if_neg w3, if_neg w4]
        · rw [w2] at w4; exact absurd w4 (by decide)
        · rw [w2] at w3; exact absurd w3 (by decide)
    exact loop M 0 y s _ (by omega) hA0 (hS.thr 0) (hR.thr 0) (SmR.fld (by decide)) rfl rfl
  · have ex : cdAll run x z = if run then 0 else 2 := by
      unfold cdAll
      rw [if_neg]
      rintro (w | w | w | w)
      · exact q w
      · exact q2 w
      · exact q3 w
      · exact i_le_nlt q4 w
    exact bad 2 (Or.inr rfl) (by rw [ex, hr.no q5]; rfl)
  · exact bad 1 (Or.inl rfl) (by unfold cdAll; rw [if_pos (Or.inr (Or.inr (Or.inr (i_nle q4))))])
theorem k_switchTo (hl : l.stackTraces = false) (hG : jGok G) {run : Bool} (hr : RunR run mu) {Z : NT} {s : RS} (hA : run = true → RunA Z s ∧ StR Z mu ∧ RepR Z s mu) (x : Int32) : jCi l G yX8_switchTo cX8_switchTo 4 2 (some .int) [.ref 58, .int x] mu
    (fun r mu' => refX (cdSw run s.sw.length x) mu mu' ∧ (cdSw run s.sw.length x = 0 → (∃ v, v ≤ 2 ∧ x = nI v ∧ RepR Z (swS Z s v) mu') ∧ r = nI (mxR s.rd Z.n + 1) ∧ SmR [73, 74] [0, 20] mu mu')) := by
  refine jCi.of (pad := 2) hl hG (by decide) (Nat.le_of_ble_eq_true rfl) (fun X h => ?_)
  show J l G X _ 4 0 [.ref 58, .int x, .float 0, .float 0] [] mu 0
  have bad : ∀ k : Nat, cdSw run s.sw.length x = k → k ≠ 0 → J l G X (jRi G X (fun r mu' => refX (cdSw run s.sw.length x) mu mu' ∧ (cdSw run s.sw.length x = 0 → (∃ v, v ≤ 2 ∧ x = nI v ∧ RepR Z (swS Z s v) mu') ∧ r = nI (mxR s.rd Z.n + 1) ∧ SmR [73, 74] [0, 20] mu mu'))) 4 50 [.ref 58, .int x, .float 0, .float 0] [.int 0] (wr mu 58 0 (nI k)) 0 := fun k hk h0 => J_iret h dX8_switchTo_50 rfl ⟨refX.of hk, fun z => absurd (hk ▸ z) h0⟩
  refine rX8_switchTo_0 h (fun q => ?_) (fun q q2 q3 q4 => ?_) (fun q q2 q3 q4 => ?_) (fun q q2 q3 => ?_) (fun q q2 => ?_)
  · exact bad 1 (by unfold cdSw; rw [if_pos (Or.inl q)]) (by decide)
  · have ex : cdSw run s.sw.length x = if run then (if s.sw.length = 9 then 3 else 0) else 2 := by unfold cdSw; rw [if_neg (by rintro (z | z); exact q z; exact i_le_nlt q2 z)]
    have hrt := hr.yes q3
    obtain ⟨⟨hZ, hI, hE⟩, hS, hR⟩ := hA hrt
    have h9 := hE.2.2.1
    have h1 := hE.2.1
    have hn24 := hZ.1.1.1
    obtain ⟨b1, b2, b3⟩ := hI.bd hZ.1
    have hne : ¬ s.sw.length = 9 := fun z => q4 (by rw [hR.2.2.2.2.2.2.1, z]; rfl)
    have h0 : cdSw run s.sw.length x = 0 := by rw [ex, hrt, if_pos rfl, if_neg hne]
    obtain ⟨v, hv2, rfl⟩ := nI_of2 (M := 2) (n := 2) rfl q q2
    have e20 : mu 58 20 + 1 = nI s.sw.length := by rw [hR.2.2.2.2.2.2.1, nI_1]; congr 1; omega
    have v9 : vp_in (nI s.sw.length) 9 := vp_in_nI (by omega) (by omega)
    have loop : ∀ (w k : Nat), k + w = Z.n → J l G X (jRi G X (fun r mu' => refX (cdSw run s.sw.length (nI v)) mu mu' ∧ (cdSw run s.sw.length (nI v) = 0 → (∃ v', v' ≤ 2 ∧ nI v = nI v' ∧ RepR Z (swS Z s v') mu') ∧ r = nI (mxR s.rd Z.n + 1) ∧ SmR [73, 74] [0, 20] mu mu'))) 4 55 [.ref 58, .int (nI v), .int (nI (mxR s.rd k)), .int (nI k)] [] (wr mu 58 0 0) 0 := by
      intro w
      induction w with
      | zero =>
        intro k hk
        have hle : (wr mu 58 0 0) 58 1 ≤ nI k := by rw [(hS.thr 0).1.1]; exact nI_le (by omega) (by omega)
        have e20' : (wr mu 58 0 0) 58 20 + 1 = nI s.sw.length := e20
        refine rX8_switchTo_55 h (fun _ => by rw [e20']; exact v9) (fun _ => by rw [e20']; exact v9) (fun z => absurd hle z) (fun z => absurd hle z) (fun _ => ?_) (fun z => absurd hle z) (fun z => absurd hle z)
        rw [e20', nI_clamp (by omega), nI_1, show k = Z.n by omega]
        refine J_iret h dX8_switchTo_125 rfl ⟨refX.ok h0 rfl, fun _ => ⟨⟨v, hv2, rfl, ?_⟩, rfl, (((SmR.fld (by decide)).trans' (SmR.fld (by decide))).trans' (SmR.wr (by decide) (by decide))).trans' (SmR.wr (by decide) (by decide))⟩⟩
        refine ⟨hR.1, hR.2.1, hR.2.2.1, hR.2.2.2.1, hR.2.2.2.2.1, hR.2.2.2.2.2.1, ?_, fun j e he => ?_⟩
        · show nI s.sw.length = nI ((s.sw ++ [(mxR s.rd Z.n + 1, v)]).length - 1)
          rw [List.length_append]
          simp
        · have he : (s.sw ++ [(mxR s.rd Z.n + 1, v)])[j]? = some e := he
          show (if j = s.sw.length then nI (mxR s.rd Z.n + 1) else mu 73 j) = nI e.1 ∧ (if j = s.sw.length then nI v else mu 74 j) = nI e.2
          rw [List.getElem?_append] at he
          split at he
          · next u =>
            rw [if_neg (by omega), if_neg (by omega)]
            exact hR.2.2.2.2.2.2.2 j e he
          · next u =>
            have hj : j = s.sw.length := by
              have := (List.getElem?_eq_some_iff.mp he).1
              simp at this
              omega
            subst hj
            rw [Nat.sub_self] at he
            cases he
            rw [if_pos rfl, if_pos rfl]
            exact ⟨rfl, rfl⟩
      | succ w ih =>
        intro k hk
        have hle : ¬ (wr mu 58 0 0) 58 1 ≤ nI k := by rw [(hS.thr 0).1.1]; exact nI_ge (by omega) (by omega)
        have vk : vp_in (nI k) 24 := vp_in_nI (by omega) (by omega)
        have e75 : (wr mu 58 0 0) 75 (nI k).toNatClampNeg = nI (s.rd k) := by rw [nI_clamp (by omega)]; exact (hR.1 k (by omega)).1
        have m1 := mxR_bd (rd := s.rd) (b := 500) (fun x => (b3 x).1) k
        have m2 := (b3 k).1
        have hi := ih (k + 1) (by omega)
        refine rX8_switchTo_55 h (fun z => absurd z hle) (fun z => absurd z hle) (fun _ => vk) (fun _ _ => vk) (fun z => absurd z hle) (fun _ u => ?_) (fun _ u => ?_)
        · rw [e75, nI_leI (by omega) (by omega)] at u
          rw [nI_1, show mxR s.rd k = mxR s.rd (k + 1) from (by show _ = max (mxR s.rd k) (s.rd k); omega)]
          exact hi
        · rw [e75, nI_leI (by omega) (by omega)] at u
          rw [nI_1, e75, show s.rd k = mxR s.rd (k + 1) from (by show _ = max (mxR s.rd k) (s.rd k); omega)]
          exact hi
    exact loop Z.n 0 (by omega)
  · have ex : cdSw run s.sw.length x = if run then (if s.sw.length = 9 then 3 else 0) else 2 := by unfold cdSw; rw [if_neg (by rintro (z | z); exact q z; exact i_le_nlt q2 z)]
    have hrt := hr.yes q3
    obtain ⟨⟨hZ, hI, hE⟩, hS, hR⟩ := hA hrt
    have h9 := hE.2.2.1
    rw [hR.2.2.2.2.2.2.1] at q4
    have : s.sw.length - 1 = 8 := (nI_eq (b := 8) (by omega) (by omega)).mp q4
    exact bad 3 (by rw [ex, hrt, if_pos rfl, if_pos (by omega)]) (by decide)
  · have ex : cdSw run s.sw.length x = if run then (if s.sw.length = 9 then 3 else 0) else 2 := by unfold cdSw; rw [if_neg (by rintro (z | z); exact q z; exact i_le_nlt q2 z)]
    exact bad 2 (by rw [ex, hr.no q3]; rfl) (by decide)
  · exact bad 1 (by unfold cdSw; rw [if_pos (Or.inr (i_nle q2))]) (by decide)
theorem nd_t {n : Nat} {x : Int32} (q : ¬ (if isNd n x then 1 else 0 : Int32) = 0) : isNd n x := by
  by_cases h : isNd n x
  · exact h
  · rw [if_neg h] at q; exact absurd rfl q
theorem nd_f {n : Nat} {x : Int32} (q : (if isNd n x then 1 else 0 : Int32) = 0) : ¬ isNd n x := by
  intro h
  rw [if_pos h] at q
  exact absurd q (by decide)
theorem k_roundOf (hl : l.stackTraces = false) (hG : jGok G) {run : Bool} (hr : RunR run mu) {n : Nat} (hn24 : n ≤ 24) (hN : mu 58 1 = nI n) {Z : NT} {s : RS} (hA : run = true → RepR Z s mu) (x : Int32) : jCi l G yX8_roundOf cX8_roundOf 2 2 (some .int) [.ref 58, .int x] mu
    (fun v mu' => refX (cdRd n run x) mu mu' ∧ (cdRd n run x = 0 → v = nI (s.rd x.toNatClampNeg) ∧ mu' = wr mu 58 0 0)) := by
  refine jCi.of (pad := 0) hl hG (by decide) (Nat.le_of_ble_eq_true rfl) (fun X h => ?_)
  show J l G X _ 2 0 [.ref 58, .int x] [] mu 0
  refine rX8_roundOf_0 h ?_
  refine rX8_roundOf_3 h (k_isNode hl hG hN x) (by decide) (Nat.zero_le _) (fun v m1 e1 => ?_)
  obtain ⟨rfl, rfl⟩ := e1
  have hx : ∀ q : isNd n x, ∃ a, a < n ∧ x = nI a := fun q => q.nat hn24
  refine rX8_roundOf_6 h (fun q _ => ?_) (fun q q2 => ?_) (fun q q2 => ?_) (fun q => ?_)
  · obtain ⟨a, ha, rfl⟩ := hx (nd_t q)
    exact vp_in_nI (by omega) (by omega)
  · have h1 := nd_t q
    obtain ⟨a, ha, rfl⟩ := hx h1
    have hrt := hr.yes q2
    rw [nI_clamp (by omega), ((hA hrt).1 a (by omega)).1]
    exact J_iret h dX8_roundOf_45 rfl ⟨refX.ok (by unfold cdRd; rw [if_neg (fun z => z h1), hrt]; rfl) rfl, fun _ => ⟨rfl, rfl⟩⟩
  · have hk : cdRd n run x = 2 := by unfold cdRd; rw [if_neg (fun z => z (nd_t q)), hr.no q2]; rfl
    exact J_iret h dX8_roundOf_45 rfl ⟨refX.of (k := 2) hk, fun z => by rw [hk] at z; cases z⟩
  · have hk : cdRd n run x = 1 := by unfold cdRd; rw [if_pos (nd_f q)]
    exact J_iret h dX8_roundOf_45 rfl ⟨refX.of (k := 1) hk, fun z => by rw [hk] at z; cases z⟩
theorem k_value (hl : l.stackTraces = false) (hG : jGok G) {run : Bool} (hr : RunR run mu) {n : Nat} (hn24 : n ≤ 24) (hN : mu 58 1 = nI n) {Z : NT} {s : RS} (hA : run = true → RepR Z s mu) (x y : Int32) : jCi l G yX8_value cX8_value 3 2 (some .int) [.ref 58, .int x, .int y] mu
    (fun v mu' => refX (cdVal n run x y) mu mu' ∧ (cdVal n run x y = 0 → v = s.ps.1 (x.toNatClampNeg * 8 + y.toNatClampNeg) ∧ mu' = wr mu 58 0 0)) := by
  refine jCi.of (pad := 0) hl hG (by decide) (Nat.le_of_ble_eq_true rfl) (fun X h => ?_)
  show J l G X _ 3 0 [.ref 58, .int x, .int y] [] mu 0
  refine rX8_value_0 h ?_
  refine rX8_value_3 h (k_isNode hl hG hN x) (by decide) (Nat.zero_le _) (fun v m1 e1 => ?_)
  obtain ⟨rfl, rfl⟩ := e1
  refine rX8_value_6 h (fun q => ?_) (fun q => ?_)
  · have h1 := nd_t q
    refine rX8_value_14 h (k_isRegT hl hG y) (by decide) (Nat.zero_le _) (fun v m2 e2 => ?_)
    obtain ⟨hv, rfl⟩ := e2
    obtain ⟨a, ha, rfl⟩ := h1.nat hn24
    have e : ∀ r : Nat, 8 * nI a + nI r = nI (8 * a + r) := fun r => by rw [nL8, nI_mul, nI_add]
    refine rX8_value_17 h (fun q2 _ => ?_) (fun q2 q3 => ?_) (fun q2 q3 => ?_) (fun q2 => ?_)
    · obtain ⟨r, hr8, rfl⟩ := (hv.yes q2).nat
      rw [e]
      exact vp_in_nI (by omega) (by omega)
    · have h2 := hv.yes q2
      obtain ⟨r, hr8, rfl⟩ := h2.nat
      have hrt := hr.yes q3
      rw [e, nI_clamp (n := 8 * a + r) (by omega), (hA hrt).2.1.1 _ (by omega : 8 * a + r < 192), nI_clamp (by omega), nI_clamp (by omega), Nat.mul_comm a 8]
      exact J_iret h dX8_value_61 rfl ⟨refX.ok (by unfold cdVal; rw [if_neg (fun z => z h1), if_neg (fun z => z h2), hrt]; rfl) rfl, fun _ => ⟨rfl, rfl⟩⟩
    · have hk : cdVal n run (nI a) y = 3 := by unfold cdVal; rw [if_neg (fun z => z h1), if_neg (fun z => z (hv.yes q2)), hr.no q3]; rfl
      exact J_iret h dX8_value_61 rfl ⟨refX.of (k := 3) hk, fun z => by rw [hk] at z; cases z⟩
    · have hk : cdVal n run (nI a) y = 2 := by unfold cdVal; rw [if_neg (fun z => z h1), if_pos (hv.no q2)]
      exact J_iret h dX8_value_61 rfl ⟨refX.of (k := 2) hk, fun z => by rw [hk] at z; cases z⟩
  · have hk : cdVal n run x y = 1 := by unfold cdVal; rw [if_pos (nd_f q)]
    exact J_iret h dX8_value_61 rfl ⟨refX.of (k := 1) hk, fun z => by rw [hk] at z; cases z⟩
theorem k_place (hl : l.stackTraces = false) (hG : jGok G) {run : Bool} (hr : RunR run mu) {n : Nat} {lk : Lk} (hok : NetOk n lk) (hN : NetR n lk mu) {pr : List Wd} {p : Nat} (hA : run = true → conn lk n ∧ StR (mkZ n lk pr p) mu ∧ PcR n lk p mu) (x y : Int32) : jCi l G yX8_place cX8_place 3 2 (some .int) [.ref 58, .int x, .int y] mu
    (fun v mu' => refX (cdPl n run x y) mu mu' ∧ (cdPl n run x y = 0 → v = plV n lk p x.toNatClampNeg y.toNatClampNeg ∧ mu' = wr mu 58 0 0)) := by
  refine jCi.of (pad := 0) hl hG (by decide) (Nat.le_of_ble_eq_true rfl) (fun X h => ?_)
  show J l G X _ 3 0 [.ref 58, .int x, .int y] [] mu 0
  have hn24 := hok.1
  refine rX8_place_0 h ?_
  refine rX8_place_3 h (k_isNode hl hG hN.1 x) (by decide) (Nat.zero_le _) (fun v m1 e1 => ?_)
  obtain ⟨rfl, rfl⟩ := e1
  have hv24 : ¬ (if isNd n x then 1 else 0 : Int32) = 0 → vp_in x 24 := fun q => by
    obtain ⟨a, ha, rfl⟩ := (nd_t q).nat hn24
    exact vp_in_nI (by omega) (by omega)
  have bad : ∀ (k : Nat), cdPl n run x y = k → k ≠ 0 → J l G X (jRi G X (fun v mu' => refX (cdPl n run x y) m1 mu' ∧ (cdPl n run x y = 0 → v = plV n lk p x.toNatClampNeg y.toNatClampNeg ∧ mu' = wr m1 58 0 0))) 3 49 [.ref 58, .int x, .int y] [.int 0] (wr m1 58 0 (nI k)) 0 := fun k hk h0 => J_iret h dX8_place_49 rfl ⟨refX.of hk, fun z => absurd (hk ▸ z) h0⟩
  -- the answers
  have good : ¬ (if isNd n x then 1 else 0 : Int32) = 0 → ¬ y < 0 → y ≤ 5 → ¬ m1 58 18 = 0 → cdPl n run x y = 0 ∧ (∃ a w, a < n ∧ x = nI a ∧ y = nI w ∧ w ≤ 5) ∧ conn lk n ∧ StR (mkZ n lk pr p) m1 ∧ PcR n lk p m1 := fun q q2 q3 q4 => by
    have h1 := nd_t q
    have hrt := hr.yes q4
    refine ⟨by unfold cdPl; rw [if_neg (fun z => z h1), if_neg (by rintro (z | z); exact q2 z; exact i_le_nlt q3 z), hrt]; rfl, ?_, hA hrt⟩
    obtain ⟨a, ha, rfl⟩ := h1.nat hn24
    obtain ⟨w, hw5, rfl⟩ := nI_of2 (M := 5) (n := 5) rfl q2 q3
    exact ⟨a, w, ha, rfl, rfl, hw5⟩
  refine rX8_place_6 h (fun q _ _ _ _ _ _ _ => hv24 q) (fun q _ _ _ _ _ _ => hv24 q) (fun q _ _ _ _ _ => hv24 q) (fun q _ _ _ _ _ => hv24 q) (fun q _ _ _ _ _ => hv24 q) (fun q q2 => ?_) (fun q q2 q3 q4 q5 q6 q7 q8 => ?_) (fun q q2 q3 q4 q5 q6 q7 q8 => ?_) (fun q q2 q3 q4 q5 q6 q7 => ?_) (fun q q2 q3 q4 q5 q6 => ?_) (fun q q2 q3 q4 q5 q6 => ?_) (fun q q2 q3 q4 q5 q6 => ?_) (fun q q2 q3 q4 => ?_) (fun q q2 q3 => ?_) (fun q => ?_)
  · exact bad 2 (by unfold cdPl; rw [if_neg (fun z => z (nd_t q)), if_pos (Or.inl q2)]) (by decide)
  · obtain ⟨h0, ⟨a, w, ha, rfl, rfl, hw5⟩, hc, hS, hPc⟩ := good q q2 q3 q4
    have hw : w = 5 := by
      have n2 : ¬ w < 2 := fun z => nI_ge (b := 2) z (by omega) q5
      have n2' : w ≠ 2 := fun z => q6 (by rw [z]; rfl)
      have n3 : w ≠ 3 := fun z => q7 (by rw [z]; rfl)
      have n4 : w ≠ 4 := fun z => q8 (by rw [z]; rfl)
      omega
    subst hw
    refine rX8_place_119 h (k_chosenOf hl hG (Z := mkZ n lk pr p) (zok_mk0 hok hc p) (hS.thr 0) ha) (by decide) (Nat.zero_le _) (fun v m2 e2 => ?_)
    obtain ⟨rfl, rfl⟩ := e2
    refine J_iret h dX8_place_122 rfl ⟨refX.ok h0 rfl, fun _ => ⟨?_, rfl⟩⟩
    rw [nI_clamp (by omega)]
    rfl
  · obtain ⟨h0, ⟨a, w, ha, rfl, rfl, hw5⟩, hc, hS, hPc⟩ := good q q2 q3 q4
    have hw : w = 4 := (nI_eq (b := 4) (by omega) (by omega)).mp q8
    subst hw
    refine J_iret h dX8_place_122 rfl ⟨refX.ok h0 rfl, fun _ => ⟨?_, rfl⟩⟩
    rw [nI_clamp (by omega), (hPc.1 a ha).2.1]
    rfl
  · obtain ⟨h0, ⟨a, w, ha, rfl, rfl, hw5⟩, hc, hS, hPc⟩ := good q q2 q3 q4
    have hw : w = 3 := (nI_eq (b := 3) (by omega) (by omega)).mp q7
    subst hw
    refine J_iret h dX8_place_122 rfl ⟨refX.ok h0 rfl, fun _ => ⟨?_, rfl⟩⟩
    rw [nI_clamp (by omega), (hS.2.2.1 a ha).2]
    rfl
  · obtain ⟨h0, ⟨a, w, ha, rfl, rfl, hw5⟩, hc, hS, hPc⟩ := good q q2 q3 q4
    have hw : w = 2 := (nI_eq (b := 2) (by omega) (by omega)).mp q6
    subst hw
    refine J_iret h dX8_place_122 rfl ⟨refX.ok h0 rfl, fun _ => ⟨?_, rfl⟩⟩
    rw [nI_clamp (by omega), (hPc.1 a ha).2.2]
    rfl
  · obtain ⟨h0, ⟨a, w, ha, rfl, rfl, hw5⟩, hc, hS, hPc⟩ := good q q2 q3 q4
    have hw : w = 1 := by
      have n2 : w < 2 := by
        rcases Nat.lt_or_ge w 2 with z | z
        · exact z
        · exact absurd (nI_le (a := 2) z (by omega)) q5
      have n0 : w ≠ 0 := fun z => q6 (by rw [z]; rfl)
      omega
    subst hw
    refine J_iret h dX8_place_74 rfl ⟨refX.ok h0 rfl, fun _ => ⟨?_, rfl⟩⟩
    rw [nI_clamp (by omega), (hPc.1 a ha).1]
    rfl
  · obtain ⟨h0, ⟨a, w, ha, rfl, rfl, hw5⟩, hc, hS, hPc⟩ := good q q2 q3 q4
    have hw : w = 0 := (nI_eq (b := 0) (by omega) (by omega)).mp q6
    subst hw
    refine J_iret h dX8_place_74 rfl ⟨refX.ok h0 rfl, fun _ => ⟨?_, rfl⟩⟩
    rw [nI_clamp (by omega), (hS.2.2.1 a ha).1]
    rfl
  · exact bad 3 (by unfold cdPl; rw [if_neg (fun z => z (nd_t q)), if_neg (by rintro (z | z); exact q2 z; exact i_le_nlt q3 z), hr.no q4]; rfl) (by decide)
  · exact bad 2 (by unfold cdPl; rw [if_neg (fun z => z (nd_t q)), if_pos (Or.inr (i_nle q3))]) (by decide)
  · exact bad 1 (by unfold cdPl; rw [if_pos (nd_f q)]) (by decide)
theorem k_chosen (hl : l.stackTraces = false) (hG : jGok G) {run : Bool} (hr : RunR run mu) {n : Nat} {lk : Lk} (hok : NetOk n lk) (hN : NetR n lk mu) {p : Nat} (hA : run = true → PcR n lk p mu) (x y : Int32) : jCi l G yX8_chosen cX8_chosen 3 2 (some .int) [.ref 58, .int x, .int y] mu
    (fun v mu' => refX (cdCh run (clAll lk n p).1 x y) mu mu' ∧ (cdCh run (clAll lk n p).1 x y = 0 → v = parI (chF lk (clV (clAll lk n p)) x.toNatClampNeg y.toNatClampNeg lk.length) ∧ mu' = wr mu 58 0 0)) := by
  refine jCi.of (pad := 0) hl hG (by decide) (Nat.le_of_ble_eq_true rfl) (fun X h => ?_)
  show J l G X _ 3 0 [.ref 58, .int x, .int y] [] mu 0
  have hn24 := hok.1
  have hCI := clAll_CI hok p
  have hk := hCI.2.2.1
  have bad : ¬ (run = true ∧ (¬ x < 0 ∧ x < nI (clAll lk n p).1) ∧ ¬ y < 0 ∧ y < nI (clAll lk n p).1) → J l G X (jRi G X (fun v mu' => refX (cdCh run (clAll lk n p).1 x y) mu mu' ∧ (cdCh run (clAll lk n p).1 x y = 0 → v = parI (chF lk (clV (clAll lk n p)) x.toNatClampNeg y.toNatClampNeg lk.length) ∧ mu' = wr mu 58 0 0))) 3 57 [.ref 58, .int x, .int y] [.int 0] (wr mu 58 0 1) 0 := fun q => by
    have hk : cdCh run (clAll lk n p).1 x y = 1 := by unfold cdCh; rw [if_neg q]
    exact J_iret h dX8_chosen_57 rfl ⟨refX.of (k := 1) hk, fun z => by rw [hk] at z; cases z⟩
  refine rX8_chosen_0 h (fun q => ?_) (fun q q2 => ?_) (fun q q2 q3 => ?_) (fun q q2 q3 q4 => ?_) (fun q q2 q3 q4 q5 => ?_) (fun q q2 q3 q4 q5 => ?_)
  · exact bad (fun z => by rw [hr.no q] at z; cases z.1)
  · exact bad (fun z => z.2.1.1 q2)
  · rw [(hA (hr.yes q)).2.1] at q3
    exact bad (fun z => i_le_nlt q3 z.2.1.2)
  · exact bad (fun z => z.2.2.1 q4)
  · have hrt := hr.yes q
    have hPc := hA hrt
    rw [hPc.2.1] at q3 q5
    have h0 : cdCh run (clAll lk n p).1 x y = 0 := by unfold cdCh; rw [if_pos ⟨hrt, ⟨q2, i_nle q3⟩, q4, q5⟩]
    obtain ⟨c, hc, rfl⟩ := nI_big (by omega) q2 (i_nle q3)
    obtain ⟨d, hd, rfl⟩ := nI_big (by omega) q4 q5
    refine rX8_chosen_54 h (k_chosenLink hl hG hok (hN.same (SmR.fld (W := []) (F := [0]) (by decide)) (by decide) (by decide)) (cl := clV (clAll lk n p)) (fun x' hx' => ⟨(hPc.1 x' hx').2.2, by have := (clV_some hCI hx').2; omega⟩) (by omega) (by omega)) (by decide) (Nat.zero_le _) (fun v m2 e2 => ?_)
    obtain ⟨rfl, rfl⟩ := e2
    refine J_iret h dX8_chosen_57 rfl ⟨refX.ok h0 rfl, fun _ => ⟨?_, rfl⟩⟩
    rw [nI_clamp (by omega), nI_clamp (by omega)]
  · rw [(hA (hr.yes q)).2.1] at q5
    exact bad (fun z => q5 z.2.2.2)
theorem k_count (hl : l.stackTraces = false) (hG : jGok G) {run : Bool} (hr : RunR run mu) {n : Nat} {lk : Lk} (hok : NetOk n lk) (hN : NetR n lk mu) {p : Nat} {Z : NT} {s : RS} (hA : run = true → PcR n lk p mu ∧ RepR Z s mu) (x : Int32) : jCi l G yX8_count cX8_count 4 2 (some .int) [.ref 58, .int x] mu
    (fun v mu' => refX (cdCt run x) mu mu' ∧ (cdCt run x = 0 → v = ctV n lk p s x.toNatClampNeg ∧ mu' = wr mu 58 0 0)) := by
  refine jCi.of (pad := 2) hl hG (by decide) (Nat.le_of_ble_eq_true rfl) (fun X h => ?_)
  show J l G X _ 4 0 [.ref 58, .int x, .float 0, .float 0] [] mu 0
  have bad : ¬ (run = true ∧ ¬ x < 0 ∧ ¬ 6 < x) → J l G X (jRi G X (fun v mu' => refX (cdCt run x) mu mu' ∧ (cdCt run x = 0 → v = ctV n lk p s x.toNatClampNeg ∧ mu' = wr mu 58 0 0))) 4 34 [.ref 58, .int x, .float 0, .float 0] [.int 0] (wr mu 58 0 1) 0 := fun q => by
    have hk : cdCt run x = 1 := by unfold cdCt; rw [if_neg q]
    exact J_iret h dX8_count_34 rfl ⟨refX.of (k := 1) hk, fun z => by rw [hk] at z; cases z⟩
  have h60 := hok.2.1
  have good : ¬ mu 58 18 = 0 → ¬ x < 0 → x ≤ 6 → cdCt run x = 0 ∧ (∃ w, w ≤ 6 ∧ x = nI w) ∧ PcR n lk p mu ∧ RepR Z s mu := fun q q2 q3 => by
    have hrt := hr.yes q
    exact ⟨by unfold cdCt; rw [if_pos ⟨hrt, q2, i_le_nlt q3⟩], nI_of2 (M := 6) (n := 6) rfl q2 q3, hA hrt⟩
  refine rX8_count_0 h (fun q q2 q3 q4 q5 => ?_) (fun q => ?_) (fun q q2 => ?_) (fun q q2 q3 q4 => ?_) (fun q q2 q3 q4 q5 => ?_) (fun q q2 q3 q4 q5 => ?_) (fun q q2 q3 => ?_)
  · obtain ⟨-, ⟨w, hw6, rfl⟩, -⟩ := good q q2 q3
    refine vp_in_nI ?_ (by omega)
    rcases Nat.lt_or_ge w 3 with z | z
    · exact z
    · exact absurd (nI_le (a := 3) z (by omega)) q5
  · exact bad (fun z => by rw [hr.no q] at z; cases z.1)
  · exact bad (fun z => z.2.1 q2)
  · obtain ⟨h0, ⟨w, hw6, rfl⟩, hPc, hR⟩ := good q q2 q3
    have hw4 : 4 ≤ w := by
      rcases Nat.lt_or_ge w 4 with z | z
      · exact absurd q4 (nI_ge (b := 4) z (by omega))
      · exact z
    have hcw : (nI w).toNatClampNeg = w := nI_clamp (by omega)
    rw [hcw]
    have loop : ∀ (u k : Nat), k + u = lk.length → J l G X (jRi G X (fun v mu' => refX (cdCt run (nI w)) mu mu' ∧ (cdCt run (nI w) = 0 → v = ctV n lk p s w ∧ mu' = wr mu 58 0 0))) 4 63 [.ref 58, .int (nI w), .int (nI (cnt k (chs lk (clV (clAll lk n p))))), .int (nI k)] [] (wr mu 58 0 0) 0 := by
      intro u
      induction u with
      | zero =>
        intro k hk
        have e2 : (wr mu 58 0 0) 58 2 = nI lk.length := hN.2.1
        have e1 : (wr mu 58 0 0) 58 1 = nI n := hN.1
        have e32 : (wr mu 58 0 0) 58 32 = nI (clAll lk n p).1 := hPc.2.1
        have hle : (wr mu 58 0 0) 58 2 ≤ nI k := by rw [e2]; exact nI_le (by omega) (by omega)
        refine rX8_count_63 h (fun z => absurd hle z) (fun _ z1 z2 => ?_) (fun _ z1 z2 => ?_) (fun _ z1 => ?_) (fun z => absurd hle z) (fun z => absurd hle z)
        · have n4 : w ≠ 4 := fun z => z1 (by rw [z]; rfl)
          have n5 : w ≠ 5 := fun z => z2 (by rw [z]; rfl)
          rw [e1, e32, show k = lk.length by omega]
          refine J_iret h dX8_count_139 rfl ⟨refX.ok h0 rfl, fun _ => ⟨?_, rfl⟩⟩
          unfold ctV
          rw [if_neg (by omega), if_neg (by omega), if_neg n4, if_neg n5]
        · have hw : w = 5 := (nI_eq (b := 5) (by omega) (by omega)).mp z2
          subst hw
          rw [e1]
          exact J_iret h dX8_count_139 rfl ⟨refX.ok h0 rfl, fun _ => ⟨rfl, rfl⟩⟩
        · have hw : w = 4 := (nI_eq (b := 4) (by omega) (by omega)).mp z1
          subst hw
          rw [e2]
          exact J_iret h dX8_count_139 rfl ⟨refX.ok h0 rfl, fun _ => ⟨rfl, rfl⟩⟩
      | succ u ih =>
        intro k hk
        have e2 : (wr mu 58 0 0) 58 2 = nI lk.length := hN.2.1
        have hle : ¬ (wr mu 58 0 0) 58 2 ≤ nI k := by rw [e2]; exact nI_ge (by omega) (by omega)
        have e87 : (wr mu 58 0 0) 87 (nI k).toNatClampNeg = if chs lk (clV (clAll lk n p)) k then 1 else 0 := by rw [nI_clamp (by omega)]; exact hPc.2.2 k (by omega)
        have hi := ih (k + 1) (by omega)
        rw [show cnt (k + 1) (chs lk (clV (clAll lk n p))) = cnt k (chs lk (clV (clAll lk n p))) + (if chs lk (clV (clAll lk n p)) k then 1 else 0) from rfl] at hi
        refine rX8_count_63 h (fun _ => vp_in_nI (by omega) (by omega)) (fun z => absurd z hle) (fun z => absurd z hle) (fun z => absurd z hle) (fun _ z => ?_) (fun _ z => ?_)
        · rw [e87] at z
          have hc : chs lk (clV (clAll lk n p)) k = false := by
            cases hb : chs lk (clV (clAll lk n p)) k with
            | false => rfl
            | true => rw [hb] at z; exact absurd z (by decide)
          rw [hc] at hi
          rw [Int32.add_zero, nI_1]
          exact hi
        · rw [e87] at z
          have hc : chs lk (clV (clAll lk n p)) k = true := by
            cases hb : chs lk (clV (clAll lk n p)) k with
            | true => rfl
            | false => rw [hb] at z; exact absurd rfl z
          rw [hc] at hi
          rw [nI_1, nI_1]
          exact hi
    exact loop lk.length 0 (by omega)
  · obtain ⟨h0, ⟨w, hw6, rfl⟩, hPc, hR⟩ := good q q2 q3
    have hw : w = 3 := by
      have : ¬ 4 ≤ w := fun z => q4 (nI_le (a := 4) z (by omega))
      have : ¬ w < 3 := fun z => nI_ge (b := 3) z (by omega) q5
      omega
    subst hw
    rw [hR.2.2.2.2.2.1.2]
    exact J_iret h dX8_count_58 rfl ⟨refX.ok h0 rfl, fun _ => ⟨rfl, rfl⟩⟩
  · obtain ⟨h0, ⟨w, hw6, rfl⟩, hPc, hR⟩ := good q q2 q3
    have hw : w < 3 := by
      rcases Nat.lt_or_ge w 3 with z | z
      · exact z
      · exact absurd (nI_le (a := 3) z (by omega)) q5
    rw [nI_clamp (by omega), hR.2.2.2.2.1.2.2 w hw]
    exact J_iret h dX8_count_58 rfl ⟨refX.ok h0 rfl, fun _ => ⟨by unfold ctV; rw [if_pos hw], rfl⟩⟩
  · exact bad (fun z => z.2.2 (i_nle q3))
end C71
