/-! ===== what a call is refused for, by number; the class's guards and plain calls ===== -/
abbrev isNd (n : Nat) (x : Int32) : Prop := ¬ x < 0 ∧ x < nI n
abbrev isRg (x : Int32) : Prop := ¬ x < 0 ∧ x < 8
def cdNet (run : Bool) (x : Int32) : Nat := if x < 1 ∨ 24 < x then 1 else if run then 2 else 0
def cdLink (n : Nat) (lk : Lk) (run : Bool) (a b : Int32) : Nat := if ¬ isNd n a ∨ ¬ isNd n b then 1 else if a = b then 2 else if run ∨ b.toNatClampNeg ∈ nbl lk a.toNatClampNeg then 3 else if lk.length = 60 then 4 else 0
def cdWord (len : Nat) (run : Bool) (i : Int32) : Nat := if i < 0 ∨ nI len < i then 1 else if run then 2 else if i = 64 then 3 else 0
def cdBuilt (run : Bool) (k : Int32) : Nat := if k < 0 ∨ 4 < k then 1 else if run then 2 else 0
def cdCut (len : Nat) (run : Bool) (i : Int32) : Nat := if i < 0 ∨ nI len < i then 1 else if run then 2 else 0
def cdInput (n : Nat) (run : Bool) (a r : Int32) : Nat := if ¬ isNd n a then 1 else if ¬ isRg r then 2 else if run then 3 else 0
def cdPlain (n : Nat) (a r : Int32) : Nat := if ¬ isNd n a then 1 else if ¬ isRg r then 2 else 0
/-- a refusal: nothing changed, the thrown kind by its number -/
def exC (cd : Nat) (tbl : List String) (mu : jM) : String → jM → Prop := fun E mu' => mu' = mu ∧ cd ≠ 0 ∧ tbl[cd - 1]? = some E
/-- whether a run is prepared, as the class has it -/
def RunC (run : Bool) (mu : jM) : Prop := mu 0 5 = if run then 1 else 0
section C32
variable {l : Launch} {G : jG} {mu : jM}
theorem c_needNode (hl : l.stackTraces = false) (hG : jGok G) {n : Nat} (hn : mu 6 0 = nI n) (x : Int32) : jXv l G yX7_needNode cX7_needNode 2 6 1 [.ref 0, .int x] mu (fun mu' => mu' = mu ∧ isNd n x) (fun E mu' => mu' = mu ∧ E = E_NSE ∧ ¬ isNd n x) := by
  refine jXv.of (pad := 0) hl hG (by decide) (Nat.le_of_ble_eq_true rfl) (fun X h ht => ?_)
  show J l G X _ 2 0 [.ref 0, .int x] [] mu 0
  refine rX7_needNode_0 h (fun q => ?_) (fun q1 q2 => ?_) (fun q1 q2 => ?_)
  · exact tX7_needNode_15 h ht (by decide) (by decide) ⟨rfl, rfl, fun z => z.1 q⟩
  · rw [hn] at q2
    exact J_vretX h dX7_needNode_26 (by decide) ⟨rfl, q1, q2⟩
  · rw [hn] at q2
    exact tX7_needNode_15 h ht (by decide) (by decide) ⟨rfl, rfl, fun z => q2 z.2⟩
theorem c_needReg (hl : l.stackTraces = false) (hG : jGok G) (x : Int32) : jXv l G yX7_needRegister cX7_needRegister 1 6 1 [.int x] mu (fun mu' => mu' = mu ∧ isRg x) (fun E mu' => mu' = mu ∧ E = E_IOB ∧ ¬ isRg x) := by
  refine jXv.of (pad := 0) hl hG (by decide) (Nat.le_of_ble_eq_true rfl) (fun X h ht => ?_)
  show J l G X _ 1 0 [.int x] [] mu 0
  refine rX7_needRegister_0 h (fun q => ?_) (fun q1 q2 => ?_) (fun q1 q2 => ?_)
  · exact tX7_needRegister_10 h ht (by decide) (by decide) ⟨rfl, rfl, fun z => z.1 q⟩
  · exact J_vretX h dX7_needRegister_21 (by decide) ⟨rfl, q1, q2⟩
  · exact tX7_needRegister_10 h ht (by decide) (by decide) ⟨rfl, rfl, fun z => q2 z.2⟩
theorem c_needRun (hl : l.stackTraces = false) (hG : jGok G) {run : Bool} (hr : RunC run mu) : jXv l G yX7_needRun cX7_needRun 1 6 1 [.ref 0] mu (fun mu' => mu' = mu ∧ run = true) (fun E mu' => mu' = mu ∧ E = E_ISE ∧ run = false) := by
  refine jXv.of (pad := 0) hl hG (by decide) (Nat.le_of_ble_eq_true rfl) (fun X h ht => ?_)
  show J l G X _ 1 0 [.ref 0] [] mu 0
  refine rX7_needRun_0 h (fun q => ?_) (fun q => ?_)
  · refine J_vretX h dX7_needRun_18 (by decide) ⟨rfl, ?_⟩
    rw [hr] at q
    cases run
    · exact absurd rfl q
    · rfl
  · refine tX7_needRun_7 h ht (by decide) (by decide) ⟨rfl, rfl, ?_⟩
    rw [hr] at q
    cases run
    · rfl
    · exact absurd q (by decide)
theorem c_refuse (hl : l.stackTraces = false) (hG : jGok G) {run : Bool} (hr : RunC run mu) : jXv l G yX7_refuseWithRun cX7_refuseWithRun 1 6 1 [.ref 0] mu (fun mu' => mu' = mu ∧ run = false) (fun E mu' => mu' = mu ∧ E = E_ISE ∧ run = true) := by
  refine jXv.of (pad := 0) hl hG (by decide) (Nat.le_of_ble_eq_true rfl) (fun X h ht => ?_)
  show J l G X _ 1 0 [.ref 0] [] mu 0
  refine rX7_refuseWithRun_0 h (fun q => ?_) (fun q => ?_)
  · refine J_vretX h dX7_refuseWithRun_18 (by decide) ⟨rfl, ?_⟩
    rw [hr] at q
    cases run
    · rfl
    · exact absurd q (by decide)
  · refine tX7_refuseWithRun_7 h ht (by decide) (by decide) ⟨rfl, rfl, ?_⟩
    rw [hr] at q
    cases run
    · exact absurd rfl q
    · rfl
/-- the plain machine, begun with inputs: its registers are theirs, no letter is there -/
theorem c_beginP (hl : l.stackTraces = false) (hG : jGok G) : jCv l G yX1_begin cX1_begin 2 2 [.ref 14, .ref 13] mu (fun mu' => (∀ k, k < 192 → mu' 15 k = mu 13 k) ∧ (∀ k, k < 48 → mu' 16 k = 0) ∧ Same [15, 16] mu mu') := by
  refine jCv.of (pad := 0) hl hG (by decide) (Nat.le_of_ble_eq_true rfl) (fun X h => ?_)
  show J l G X _ 2 0 [.ref 14, .ref 13] [] mu 0
  refine rX1_beginP_0 h ?_
  refine rX1_beginP_12 h (by decide) (by decide) (by decide) (by decide) (by decide) (by decide) ?_
  refine rX1_beginP_15 h ?_
  refine rX1_beginP_20 h (c_fill hl hG 0 (a := 16) rfl (by decide)) (by decide) (Nat.zero_le _) (fun mu1 e1 => ?_)
  refine J_vret h dX1_begin_23 ?_
  subst e1
  refine ⟨fun k hk => ?_, fun k hk => ?_, (Same.put (by decide)).trans' (Same.put (by decide))⟩
  · rw [put_ne _ _ (by decide), put_at]
    show va_cpy (mu 13) (mu 15) 0 0 192 k = _
    simp [va_cpy, hk]
  · rw [put_at]; simp [fillTo, hk]
theorem c_beginR (hl : l.stackTraces = false) (hG : jGok G) : jCv l G yX1_begin cX1_begin 2 2 [.ref 20, .ref 13] mu (fun mu' => (∀ k, k < 192 → mu' 21 k = mu 13 k) ∧ (∀ k, k < 48 → mu' 22 k = 0) ∧ Same [21, 22] mu mu') := by
  refine jCv.of (pad := 0) hl hG (by decide) (Nat.le_of_ble_eq_true rfl) (fun X h => ?_)
  show J l G X _ 2 0 [.ref 20, .ref 13] [] mu 0
  refine rX1_beginR_0 h ?_
  refine rX1_beginR_12 h (by decide) (by decide) (by decide) (by decide) (by decide) (by decide) ?_
  refine rX1_beginR_15 h ?_
  refine rX1_beginR_20 h (c_fill hl hG 0 (a := 22) rfl (by decide)) (by decide) (Nat.zero_le _) (fun mu1 e1 => ?_)
  refine J_vret h dX1_begin_23 ?_
  subst e1
  refine ⟨fun k hk => ?_, fun k hk => ?_, (Same.put (by decide)).trans' (Same.put (by decide))⟩
  · rw [put_ne _ _ (by decide), put_at]
    show va_cpy (mu 13) (mu 21) 0 0 192 k = _
    simp [va_cpy, hk]
  · rw [put_at]; simp [fillTo, hk]
/-- a number from 1 to 24 -/
theorem nI_1_24 {x : Int32} (h : ¬ (x < 1 ∨ 24 < x)) : ∃ n, n ≤ 24 ∧ 1 ≤ n ∧ x = nI n := by
  have h0 : ¬ x < 0 := fun q => h (Or.inl (Int32.lt_trans q (by decide)))
  obtain ⟨j, hj, rfl⟩ := nI_of h0
  refine ⟨j, ?_, ?_, rfl⟩
  · rcases Nat.lt_or_ge 24 j with q | q
    · exact absurd (Or.inr ((nI_ltI (a := 24) (by omega) hj).mpr q)) h
    · exact q
  · rcases Nat.eq_zero_or_pos j with q | q
    · subst q; exact absurd (Or.inl (by decide)) h
    · exact q
theorem c_net (hl : l.stackTraces = false) (hG : jGok G) {run : Bool} (hr : RunC run mu) (x : Int32) : jXv l G yX7_net cX7_net 2 8 6 [.ref 0, .int x] mu (fun mu' => cdNet run x = 0 ∧ (∃ n, n ≤ 24 ∧ 1 ≤ n ∧ x = nI n ∧ NetC n [] mu') ∧ (∀ k, k < 192 → mu' 13 k = 0) ∧ (∀ k, k < 192 → mu' 15 k = 0) ∧ Same [6, 9, 10, 13, 15, 16] mu mu') (exC (cdNet run x) [E_IAE, E_ISE] mu) := by
  refine jXv.of (pad := 0) hl hG (by decide) (Nat.le_of_ble_eq_true rfl) (fun X h ht => ?_)
  show J l G X _ 2 0 [.ref 0, .int x] [] mu 0
  have bad : (x < 1 ∨ 24 < x) → exC (cdNet run x) [E_IAE, E_ISE] mu E_IAE mu := fun q => by
    have : cdNet run x = 1 := if_pos q
    rw [this]
    exact ⟨rfl, by decide, rfl⟩
  refine rX7_net_0 h (fun q => ?_) (fun q1 q2 => ?_) (fun q1 q2 => ?_)
  · exact tX7_net_11 h ht (by decide) (by decide) (bad (Or.inl q))
  · have hin : ¬ (x < 1 ∨ 24 < x) := fun z => z.elim q1 (fun w => absurd q2 (Int32.not_le.mpr w))
    obtain ⟨n, hn, hn1, rfl⟩ := nI_1_24 hin
    refine rX7_net_22 h ht (c_refuse hl hG hr) (by decide) (by decide) (fun E mu' hE => ?_) (fun mu1 e1 => ?_)
    · obtain ⟨rfl, rfl, rfl⟩ := hE
      have : cdNet true (nI n) = 2 := by unfold cdNet; rw [if_neg hin]; rfl
      rw [this]
      exact ⟨rfl, by decide, rfl⟩
    · obtain ⟨rfl, rfl⟩ := e1
      refine rX7_net_25 h ?_
      refine rX7_net_30 h (c_empty hl hG hn) (by decide) (by decide) (fun mu2 e2 => ?_)
      refine rX7_net_33 h ?_
      refine rX7_net_38 h (c_fill hl hG 0 (a := 13) rfl (by decide)) (by decide) (by decide) (fun mu3 e3 => ?_)
      refine rX7_net_41 h ?_
      refine rX7_net_49 h (c_beginP hl hG) (by decide) (by decide) (fun mu4 e4 => ?_)
      refine J_vretX h dX7_net_52 (by decide) ?_
      subst e3
      obtain ⟨e41, e42, e43⟩ := e4
      have h13 : ∀ k, k < 192 → jPut mu2 13 (fillTo (mu2 13) 0 192) 13 k = 0 := fun k hk => by rw [put_at]; simp [fillTo, hk]
      refine ⟨by unfold cdNet; rw [if_neg hin]; rfl, ⟨n, hn, hn1, rfl, ?_⟩, fun k hk => ?_, fun k hk => ?_, ?_⟩
      · exact (e2.1.same (Same.put (W := [13]) (by decide)) (by decide)).same e43 (by decide)
      · rw [e43 13 (by decide)]; exact h13 k hk
      · rw [e41 k hk]; exact h13 k hk
      · exact ((e2.2.wide (by decide)).trans' (Same.put (by decide))).trans' (e43.wide (by decide))
  · exact tX7_net_11 h ht (by decide) (by decide) (bad (Or.inr (Int32.not_le.mp q2)))
/-- a node's number -/
theorem isNd.nat {n : Nat} {x : Int32} (h : isNd n x) (hn : n ≤ 24) : ∃ a, a < n ∧ x = nI a := by
  obtain ⟨j, hj, rfl⟩ := nI_of h.1
  exact ⟨j, (nI_ltI hj (by omega)).mp h.2, rfl⟩
theorem isRg.nat {x : Int32} (h : isRg x) : ∃ a, a < 8 ∧ x = nI a := by
  obtain ⟨j, hj, rfl⟩ := nI_of h.1
  exact ⟨j, (nI_ltI (b := 8) hj (by omega)).mp h.2, rfl⟩
theorem c_link (hl : l.stackTraces = false) (hG : jGok G) {run : Bool} {n : Nat} {lk : Lk} (hr : RunC run mu) (hok : NetOk n lk) (hN : NetC n lk mu) (x y : Int32) : jXi l G yX7_link cX7_link 3 8 6 (some .int) [.ref 0, .int x, .int y] mu
    (fun v mu' => cdLink n lk run x y = 0 ∧ v = nI lk.length ∧ NetC n (lk ++ [(x.toNatClampNeg, y.toNatClampNeg)]) mu' ∧ NetOk n (lk ++ [(x.toNatClampNeg, y.toNatClampNeg)]) ∧ Same [6, 7, 8, 9, 10, 11, 12] mu mu') (exC (cdLink n lk run x y) [E_NSE, E_IAE, E_ISE, E_UOE] mu) := by
  have hn24 := hok.1
  refine jXi.of (pad := 0) hl hG (by decide) (Nat.le_of_ble_eq_true rfl) (fun X h ht => ?_)
  show J l G X _ 3 0 [.ref 0, .int x, .int y] [] mu 0
  refine rX7_link_0 h ?_
  refine rX7_link_2 h ht (c_needNode hl hG hN.1 x) (by decide) (by decide) (fun E mu' hE => ?_) (fun mu1 e1 => ?_)
  · obtain ⟨rfl, rfl, q⟩ := hE
    rw [show cdLink n lk run x y = 1 from if_pos (Or.inl q)]
    exact ⟨rfl, by decide, rfl⟩
  obtain ⟨rfl, hx⟩ := e1
  refine rX7_link_5 h ?_
  refine rX7_link_7 h ht (c_needNode hl hG hN.1 y) (by decide) (by decide) (fun E mu' hE => ?_) (fun mu1 e1 => ?_)
  · obtain ⟨rfl, rfl, q⟩ := hE
    rw [show cdLink n lk run x y = 1 from if_pos (Or.inr q)]
    exact ⟨rfl, by decide, rfl⟩
  obtain ⟨rfl, hy⟩ := e1
  have c1 : ¬ (¬ isNd n x ∨ ¬ isNd n y) := fun q => q.elim (fun z => z hx) (fun z => z hy)
  obtain ⟨a, ha, rfl⟩ := hx.nat hn24
  obtain ⟨b, hb, rfl⟩ := hy.nat hn24
  refine rX7_link_10 h (fun q => ?_) (fun q => ?_)
  · have hab : a ≠ b := fun z => q (by rw [z])
    refine rX7_link_26 h ht (c_refuse hl hG hr) (by decide) (by decide) (fun E mu' hE => ?_) (fun mu1 e1 => ?_)
    · obtain ⟨rfl, rfl, rfl⟩ := hE
      rw [show cdLink n lk true (nI a) (nI b) = 3 by unfold cdLink; rw [if_neg c1, if_neg q, if_pos (Or.inl rfl)]]
      exact ⟨rfl, by decide, rfl⟩
    obtain ⟨rfl, rfl⟩ := e1
    refine rX7_link_29 h ?_
    refine rX7_link_35 h (c_areLinked hl hG (by omega) (by omega) hN.2.2.2 (fun c hc => by have := (hok.nb hc).2.1; omega)) (by decide) (by decide) (fun v mu1 e1 => ?_)
    obtain ⟨rfl, rfl⟩ := e1
    have ca : (nI a).toNatClampNeg = a := nI_clamp (by omega)
    have cb : (nI b).toNatClampNeg = b := nI_clamp (by omega)
    have cd3 : b ∈ nbl lk a → cdLink n lk false (nI a) (nI b) = 3 := fun z => by unfold cdLink; rw [if_neg c1, if_neg q, if_pos (Or.inr (by rw [ca, cb]; exact z))]
    have cd4 : b ∉ nbl lk a → cdLink n lk false (nI a) (nI b) = if lk.length = 60 then 4 else 0 := fun z => by
      unfold cdLink
      rw [if_neg c1, if_neg q, if_neg (fun w => by
        rcases w with w | w
        · cases w
        · rw [ca, cb] at w; exact z w)]
    refine rX7_link_38 h (fun q1 q2 => ?_) (fun q1 q2 => ?_) (fun q1 => ?_)
    · have hnew : b ∉ nbl lk a := fun z => by rw [if_pos z] at q1; exact absurd q1 (by decide)
      rw [hN.2.1] at q2
      have hlen : lk.length < 60 := by
        have := hok.2.1
        rcases Nat.lt_or_ge lk.length 60 with z | z
        · exact z
        · exact absurd (by rw [show lk.length = 60 by omega]; rfl) q2
      refine rX7_link_79 h (c_join hl hG hok hN ha hb hab hnew hlen) (by decide) (by decide) (fun v mu1 e1 => ?_)
      refine J_iretX h dX7_link_82 rfl (by decide) ⟨?_, e1.1, ?_, ?_, e1.2.2⟩
      · rw [cd4 hnew, if_neg (by omega)]
      · rw [ca, cb]; exact e1.2.1
      · rw [ca, cb]; exact hok.add ha hb hab hnew hlen
    · have hnew : b ∉ nbl lk a := fun z => by rw [if_pos z] at q1; exact absurd q1 (by decide)
      rw [hN.2.1] at q2
      have h60 : lk.length = 60 := (nI_eq (b := 60) (by have := hok.2.1; omega) (by omega)).mp q2
      refine tX7_link_63 h ht (by decide) (by decide) ?_
      rw [cd4 hnew, if_pos h60]
      exact ⟨rfl, by decide, rfl⟩
    · have hold : b ∈ nbl lk a := by
        rcases Classical.em (b ∈ nbl lk a) with z | z
        · exact z
        · rw [if_neg z] at q1; exact absurd rfl q1
      refine tX7_link_41 h ht (by decide) (by decide) ?_
      rw [cd3 hold]
      exact ⟨rfl, by decide, rfl⟩
  · refine tX7_link_15 h ht (by decide) (by decide) ?_
    rw [show cdLink n lk run (nI a) (nI b) = 2 by unfold cdLink; rw [if_neg c1, if_pos q]]
    exact ⟨rfl, by decide, rfl⟩
theorem c_input (hl : l.stackTraces = false) (hG : jGok G) {run : Bool} {n : Nat} (hr : RunC run mu) (hn24 : n ≤ 24) (hN : mu 6 0 = nI n) (x y v : Int32) : jXv l G yX7_input cX7_input 4 8 6 [.ref 0, .int x, .int y, .int v] mu
    (fun mu' => cdInput n run x y = 0 ∧ mu' = wr mu 13 (x.toNatClampNeg * 8 + y.toNatClampNeg) v) (exC (cdInput n run x y) [E_NSE, E_IOB, E_ISE] mu) := by
  refine jXv.of (pad := 0) hl hG (by decide) (Nat.le_of_ble_eq_true rfl) (fun X h ht => ?_)
  show J l G X _ 4 0 [.ref 0, .int x, .int y, .int v] [] mu 0
  refine rX7_input_0 h ?_
  refine rX7_input_2 h ht (c_needNode hl hG hN x) (by decide) (by decide) (fun E mu' hE => ?_) (fun mu1 e1 => ?_)
  · obtain ⟨rfl, rfl, q⟩ := hE
    rw [show cdInput n run x y = 1 from if_pos q]
    exact ⟨rfl, by decide, rfl⟩
  obtain ⟨rfl, hx⟩ := e1
  refine rX7_input_5 h ?_
  refine rX7_input_6 h ht (c_needReg hl hG y) (by decide) (by decide) (fun E mu' hE => ?_) (fun mu1 e1 => ?_)
  · obtain ⟨rfl, rfl, q⟩ := hE
    rw [show cdInput n run x y = 2 by unfold cdInput; rw [if_neg (fun z => z hx), if_pos q]]
    exact ⟨rfl, by decide, rfl⟩
  obtain ⟨rfl, hy⟩ := e1
  refine rX7_input_9 h ?_
  refine rX7_input_10 h ht (c_refuse hl hG hr) (by decide) (by decide) (fun E mu' hE => ?_) (fun mu1 e1 => ?_)
  · obtain ⟨rfl, rfl, rfl⟩ := hE
    rw [show cdInput n true x y = 3 by unfold cdInput; rw [if_neg (fun z => z hx), if_neg (fun z => z hy), if_pos rfl]]
    exact ⟨rfl, by decide, rfl⟩
  obtain ⟨rfl, rfl⟩ := e1
  obtain ⟨a, ha, rfl⟩ := hx.nat hn24
  obtain ⟨r, hr8, rfl⟩ := hy.nat
  have e : nI a * 8 + nI r = nI (a * 8 + r) := by rw [show (8 : Int32) = nI 8 from rfl, pk_mul, nI_add]
  refine rX7_input_13 h (by rw [e]; exact vp_in_nI (by omega) (by omega)) ?_
  refine J_vretX h dX7_input_25 (by decide) ⟨?_, ?_⟩
  · unfold cdInput; rw [if_neg (fun z => z hx), if_neg (fun z => z hy)]; rfl
  · rw [e, nI_clamp (by omega), nI_clamp (by omega), nI_clamp (by omega)]
theorem c_plain (hl : l.stackTraces = false) (hG : jGok G) {n : Nat} (hn24 : n ≤ 24) (hN : mu 6 0 = nI n) (x y : Int32) : jXi l G yX7_plain cX7_plain 3 8 6 (some .int) [.ref 0, .int x, .int y] mu
    (fun v mu' => cdPlain n x y = 0 ∧ v = mu 15 (x.toNatClampNeg * 8 + y.toNatClampNeg) ∧ mu' = mu) (exC (cdPlain n x y) [E_NSE, E_IOB] mu) := by
  refine jXi.of (pad := 0) hl hG (by decide) (Nat.le_of_ble_eq_true rfl) (fun X h ht => ?_)
  show J l G X _ 3 0 [.ref 0, .int x, .int y] [] mu 0
  refine rX7_plain_0 h ?_
  refine rX7_plain_2 h ht (c_needNode hl hG hN x) (by decide) (by decide) (fun E mu' hE => ?_) (fun mu1 e1 => ?_)
  · obtain ⟨rfl, rfl, q⟩ := hE
    rw [show cdPlain n x y = 1 from if_pos q]
    exact ⟨rfl, by decide, rfl⟩
  obtain ⟨rfl, hx⟩ := e1
  refine rX7_plain_5 h ?_
  refine rX7_plain_6 h ht (c_needReg hl hG y) (by decide) (by decide) (fun E mu' hE => ?_) (fun mu1 e1 => ?_)
  · obtain ⟨rfl, rfl, q⟩ := hE
    rw [show cdPlain n x y = 2 by unfold cdPlain; rw [if_neg (fun z => z hx), if_pos q]]
    exact ⟨rfl, by decide, rfl⟩
  obtain ⟨rfl, hy⟩ := e1
  obtain ⟨a, ha, rfl⟩ := hx.nat hn24
  obtain ⟨r, hr8, rfl⟩ := hy.nat
  have e : nI a * 8 + nI r = nI (a * 8 + r) := by rw [show (8 : Int32) = nI 8 from rfl, pk_mul, nI_add]
  refine rX7_plain_9 h (by rw [e]; exact vp_in_nI (by omega) (by omega)) ?_
  refine J_iretX h dX7_plain_23 rfl (by decide) ⟨?_, ?_, rfl⟩
  · unfold cdPlain; rw [if_neg (fun z => z hx), if_neg (fun z => z hy)]
  · rw [e, nI_clamp (by omega), nI_clamp (by omega), nI_clamp (by omega)]
theorem c_release (hl : l.stackTraces = false) (hG : jGok G) {run : Bool} (hr : RunC run mu) : jXv l G yX7_release cX7_release 1 8 6 [.ref 0] mu (fun mu' => run = true ∧ mu' = wr mu 0 5 0) (exC (if run then 0 else 1) [E_ISE] mu) := by
  refine jXv.of (pad := 0) hl hG (by decide) (Nat.le_of_ble_eq_true rfl) (fun X h ht => ?_)
  show J l G X _ 1 0 [.ref 0] [] mu 0
  refine rX7_release_0 h ?_
  refine rX7_release_1 h ht (c_needRun hl hG hr) (by decide) (by decide) (fun E mu' hE => ?_) (fun mu1 e1 => ?_)
  · obtain ⟨rfl, rfl, rfl⟩ := hE
    exact ⟨rfl, by decide, rfl⟩
  obtain ⟨rfl, rfl⟩ := e1
  refine rX7_release_4 h ?_
  exact J_vretX h dX7_release_9 (by decide) ⟨rfl, rfl⟩
end C32
