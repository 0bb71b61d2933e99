/-! ===== the class's run: a node goes on ===== -/
theorem hd_cell {K : Nat} (h2 : 2 ≤ K) (h7 : K ≤ 7) : [48, 49, 50, 51, 52, 53, 54, 55][(nI K).toNatClampNeg]? = some (48 + K) ∧ jShp[48 + K]? = some (.inr (0, 48, fun _ => none)) ∧ vp_in (nI K) 8 := by
  have c : K = 2 ∨ K = 3 ∨ K = 4 ∨ K = 5 ∨ K = 6 ∨ K = 7 := by omega
  refine ⟨?_, ?_, vp_in_nI (by omega) (by omega)⟩
  · rw [nI_clamp (by omega)]; rcases c with rfl | rfl | rfl | rfl | rfl | rfl <;> rfl
  · rcases c with rfl | rfl | rfl | rfl | rfl | rfl <;> rfl
theorem bt_clr (x : Int32) {k : Nat} (hk : k < 32) {i : Nat} (hi : i < 32) : bt (x &&& ((1 <<< (nI k &&& 31)) ^^^ (-1))) i = (bt x i && !decide (i = k)) := by
  rw [b_and, bt_not _ hi, bt_one hk hi]
theorem HdC.congr {hd : Nat → Nat → Nat → Nat → Bool} {mu mu' : jM} (h : HdC hd mu) (hc : ∀ c, 50 ≤ c → c ≤ 55 → mu' c = mu c) : HdC hd mu' := fun K q b i k1 k2 k3 k4 k5 => by rw [hc (48 + K) (by omega) (by omega)]; exact h K q b i k1 k2 k3 k4 k5
theorem SwC.congr {sw : List (Nat × Nat)} {mu mu' : jM} (h : SwC sw mu) (h19 : mu' 19 15 = mu 19 15) (h56 : mu' 56 = mu 56) (h57 : mu' 57 = mu 57) : SwC sw mu' := ⟨by rw [h19]; exact h.1, fun j e he => by rw [h56, h57]; exact h.2 j e he⟩
/-- the next round, its letters behind those that are under way -/
def nx1 (Z : NT) (s : RS) (a : Nat) : RS :=
  (nxRd s a, (fun y => if y = a then (nxPg Z s a).length else s.op y), (rgSet s.ps.1 a (nxEx Z s a).1, bxClr s.ps.2 (s.rd a % 2) a), setB s.sd a false, setB s.td a false, setB s.al a false, (fun K q b c => if b = a ∧ q = s.rd a % 2 then false else s.hd K q b c),
    s.lt ++ nxPg Z s a, ctAdd s.ct (nxPg Z s a), s.st, mxW (nxRd s a) a Z.n s.wi, s.sw)
theorem nx1_5 (Z : NT) (s : RS) (a : Nat) : nx1 Z (spk Z s a 5) a = dd Z s a 5 := rfl
theorem nx1_6 (Z : NT) (s : RS) (a : Nat) : nx1 Z (spk Z s a 6) a = dd Z s a 6 := rfl
/-- how many letters a program sends -/
theorem pgF_len (f : Nat → Option Lt) (x : Nat → Option Int32) (hf : ∀ p, (f p).isSome = (x p).isSome) : ∀ m, ((List.range m).filterMap f).length = fb_ct (fun i => (x i).isSome) m
  | 0 => rfl
  | m + 1 => by
    rw [List.range_succ, List.filterMap_append, List.length_append, pgF_len f x hf m, fb_ct_succ]
    congr 1
    have := hf m
    cases h1 : f m with
    | none => rw [h1] at this; simp [h1, ← this]
    | some y => rw [h1] at this; simp [h1, ← this]
theorem pgL_len {lk : Lk} {a k : Nat} {x : Nat → Option Int32} (h24 : (nbl lk a).length ≤ 24) (hx : ∀ q, (nbl lk a).length ≤ q → x q = none) : (pgL lk a k x).length = fb_ct (fun i => (x i).isSome) 32 := by
  unfold pgL
  rw [pgF_len _ x (fun p => by cases x p <;> rfl)]
  have h1 := fb_ct_split (fun i => (x i).isSome) (nbl lk a).length (32 - (nbl lk a).length)
  rw [show (nbl lk a).length + (32 - (nbl lk a).length) = 32 by omega] at h1
  have h2 : fb_ct (fun k => (x ((nbl lk a).length + k)).isSome) (32 - (nbl lk a).length) = 0 := fb_ct_zero.mpr (fun k _ => by
    show (x ((nbl lk a).length + k)).isSome = false
    rw [hx _ (Nat.le_add_right _ _)]
    rfl)
  omega
theorem mxW_bd {rd : Nat → Nat} {a B v : Nat} (h : rd a ≤ B) (hv : v ≤ B) : ∀ m, mxW rd a m v ≤ B
  | 0 => hv
  | m + 1 => by
    show max (mxW rd a m v) (rd a - rd m) ≤ B
    have := mxW_bd h hv m
    omega
section C62
variable {l : Launch} {G : jG} {mu : jM}
theorem c_forgetRound (hl : l.stackTraces = false) (hG : jGok G) {s : RS} (hR : RepC s mu) {a : Nat} (ha : a < 24) (hr : s.rd a ≤ 500) : jCv l G yX5_forgetRound cX5_forgetRound 4 2 [.ref 19, .int (nI a)] mu (fun mu' => HdC (fun K q b c => if b = a ∧ q = s.rd a % 2 then false else s.hd K q b c) mu' ∧ FlC (setB s.sd a false) (setB s.td a false) (setB s.al a false) mu' ∧ (∀ j, j ≠ 8 → j ≠ 9 → j ≠ 10 → mu' 19 j = mu 19 j) ∧ Same [19, 50, 51, 52, 53, 54, 55] mu mu') := by
  refine jCv.of (pad := 2) hl hG (by decide) (Nat.le_of_ble_eq_true rfl) (fun X h => ?_)
  show J l G X _ 4 0 [.ref 19, .int (nI a), .float 0, .float 0] [] mu 0
  have hca : (nI a).toNatClampNeg = a := nI_clamp (by omega)
  have va : vp_in (nI a) 24 := vp_in_nI ha (by omega)
  have hbx := bxN_lt (k := s.rd a) ha
  refine rX5_forgetRound_0 h va ?_
  rw [hca, (hR.1 a ha).1]
  refine rX5_forgetRound_7 h (c_boxOf5 hl hG a (by omega)) (by decide) (Nat.zero_le _) (fun v m1 e1 => ?_)
  obtain ⟨rfl, rfl⟩ := e1
  refine rX5_forgetRound_10 h ?_
  have loop : ∀ (w K : Nat) (m2 : jM), K + w = 8 → 2 ≤ K → (∀ K', 2 ≤ K' → K' ≤ 7 → m2 (48 + K') = if K' < K then upd (m1 (48 + K')) (bxN a (s.rd a)) 0 else m1 (48 + K')) → Same [50, 51, 52, 53, 54, 55] m1 m2 →
      J l G X (jRv G X (fun mu' => HdC (fun K q b c => if b = a ∧ q = s.rd a % 2 then false else s.hd K q b c) mu' ∧ FlC (setB s.sd a false) (setB s.td a false) (setB s.al a false) mu' ∧ (∀ j, j ≠ 8 → j ≠ 9 → j ≠ 10 → mu' 19 j = m1 19 j) ∧ Same [19, 50, 51, 52, 53, 54, 55] m1 mu')) 4 13 [.ref 19, .int (nI a), .int (nI (bxN a (s.rd a))), .int (nI K)] [] m2 0 := by
    intro w
    induction w with
    | zero =>
      intro K m2 hK h2 q1 q2
      have hge : 8 ≤ nI K := nI_le (a := 8) (by omega) (by omega)
      refine rX5_forgetRound_13 (r3 := 50) h (fun z => absurd hge z) (fun z => absurd hge z) rfl (fun z => absurd hge z) (fun _ => ?_) (fun z => absurd hge z)
      have h19 : m2 19 = m1 19 := q2 19 (by decide)
      refine J_vret h dX5_forgetRound_76 ⟨fun K' q b i k1 k2 k3 k4 k5 => ?_, fun i hi => ?_, fun j j8 j9 j10 => ?_, ?_⟩
      · rw [rd_ne _ _ _ (by omega), rd_ne _ _ _ (by omega), rd_ne _ _ _ (by omega), q1 K' k1 k2, if_pos (by omega)]
        have h0 := hR.2.2.2.1 K' q b i k1 k2 k3 k4 k5
        show bt (upd (m1 (48 + K')) (s.rd a % 2 * 24 + a) 0 (q * 24 + b)) i = if b = a ∧ q = s.rd a % 2 then false else s.hd K' q b i
        by_cases e : q * 24 + b = s.rd a % 2 * 24 + a
        · rw [e, if_pos (by omega)]
          simp only [upd, if_true]
          exact b_0 i
        · rw [if_neg (by omega)]
          simp only [upd, if_neg e]
          exact h0
      · obtain ⟨f1, f2, f3⟩ := hR.2.2.1 i hi
        refine ⟨?_, ?_, ?_⟩
        · show bt (m2 19 8 &&& ((1 <<< (nI a &&& 31)) ^^^ (-1))) i = _
          rw [bt_clr _ (by omega) hi, h19, f1, setB_and]
        · show bt (m2 19 9 &&& ((1 <<< (nI a &&& 31)) ^^^ (-1))) i = _
          rw [bt_clr _ (by omega) hi, h19, f2, setB_and]
        · show bt (m2 19 10 &&& ((1 <<< (nI a &&& 31)) ^^^ (-1))) i = _
          rw [bt_clr _ (by omega) hi, h19, f3, setB_and]
      · rw [rd_at, rd_at, rd_at, h19]
        simp only [upd, if_neg j8, if_neg j9, if_neg j10]
      · exact (((q2.wide (by decide)).trans' (Same.wr (by decide))).trans' (Same.wr (by decide))).trans' (Same.wr (by decide))
    | succ w ih =>
      intro K m2 hK h2 q1 q2
      have hge : ¬ 8 ≤ nI K := nI_ge (b := 8) (by omega) (by omega)
      obtain ⟨r1, r2, r3⟩ := hd_cell h2 (by omega : K ≤ 7)
      refine rX5_forgetRound_13 (r3 := 48 + K) h (fun _ => r3) (fun _ => r1) r2 (fun _ => vp_in_nI hbx (by omega)) (fun z => absurd z hge) (fun _ => ?_)
      rw [nI_1, nI_clamp (by omega)]
      have hm : 48 + K ∈ [50, 51, 52, 53, 54, 55] := by
        have c : K = 2 ∨ K = 3 ∨ K = 4 ∨ K = 5 ∨ K = 6 ∨ K = 7 := by omega
        rcases c with rfl | rfl | rfl | rfl | rfl | rfl <;> decide
      refine ih (K + 1) _ (by omega) (by omega) (fun K' k1 k2 => ?_) (q2.trans' (Same.wr hm))
      by_cases e : K' = K
      · subst e
        rw [rd_at, if_pos (by omega), q1 K' k1 k2, if_neg (by omega)]
      · rw [rd_ne _ _ _ (by omega), q1 K' k1 k2]
        by_cases e2 : K' < K
        · rw [if_pos e2, if_pos (by omega)]
        · rw [if_neg e2, if_neg (by omega)]
  exact loop 6 2 m1 rfl (by omega) (fun K' k1 _ => by rw [if_neg (by omega)]) Same.rfl'
theorem c_noteWidest (hl : l.stackTraces = false) (hG : jGok G) {n : Nat} (hn24 : n ≤ 24) (h6 : mu 6 0 = nI n) {rd : Nat → Nat} (hrd : ∀ x, x < 24 → mu 45 x = nI (rd x)) (hb : ∀ x, rd x ≤ 1000) {a : Nat} (ha : a < 24) {v : Nat} (hv : v ≤ 1000) (h12 : mu 19 12 = nI v) : jCv l G yX5_noteWidest cX5_noteWidest 3 2 [.ref 19, .int (nI a)] mu (fun mu' => mu' 19 12 = nI (mxW rd a n v) ∧ (∀ j, j ≠ 12 → mu' 19 j = mu 19 j) ∧ Same [19] mu mu') := by
  refine jCv.of (pad := 1) hl hG (by decide) (Nat.le_of_ble_eq_true rfl) (fun X h => ?_)
  show J l G X _ 3 0 [.ref 19, .int (nI a), .float 0] [] mu 0
  have hca : (nI a).toNatClampNeg = a := nI_clamp (by omega)
  have va : vp_in (nI a) 24 := vp_in_nI ha (by omega)
  refine rX5_noteWidest_0 h ?_
  have loop : ∀ (w x : Nat) (m1 : jM), x + w = n → m1 19 12 = nI (mxW rd a x v) → (∀ j, j ≠ 12 → m1 19 j = mu 19 j) → Same [19] mu m1 → J l G X (jRv G X (fun mu' => mu' 19 12 = nI (mxW rd a n v) ∧ (∀ j, j ≠ 12 → mu' 19 j = mu 19 j) ∧ Same [19] mu mu')) 3 2 [.ref 19, .int (nI a), .int (nI x)] [] m1 0 := by
    intro w
    induction w with
    | zero =>
      intro x m1 hx q1 q2 q3
      have hle : m1 6 0 ≤ nI x := by rw [q3 6 (by decide), h6]; exact nI_le (by omega) (by omega)
      refine rX5_noteWidest_2 h (fun z => absurd hle z) (fun z => absurd hle z) (fun _ => ?_) (fun z => absurd hle z)
      have : x = n := by omega
      subst this
      exact J_vret h dX5_noteWidest_43 ⟨q1, q2, q3⟩
    | succ w ih =>
      intro x m1 hx q1 q2 q3
      have hle : ¬ m1 6 0 ≤ nI x := by rw [q3 6 (by decide), h6]; exact nI_ge (by omega) (by omega)
      refine rX5_noteWidest_2 h (fun _ => va) (fun _ => vp_in_nI (by omega) (by omega)) (fun z => absurd z hle) (fun _ => ?_)
      rw [hca, nI_clamp (by omega), q3 45 (by decide), hrd a ha, hrd x (by omega), q1]
      refine J_max h dX5_noteWidest_31 w876 (by decide) (Nat.zero_le _) (Nat.le_of_ble_eq_true rfl) ?_
      refine rX5_noteWidest_34 h ?_
      rw [nI_1]
      have hW := mxW_bd (hb a) hv x
      have ha1 := hb a
      have hx1 := hb x
      refine ih (x + 1) _ (by omega) ?_ (fun j hj => ?_) (q3.trans' (Same.wr (by decide)))
      · show (if nI (mxW rd a x v) < nI (rd a) - nI (rd x) then nI (rd a) - nI (rd x) else nI (mxW rd a x v)) = nI (max (mxW rd a x v) (rd a - rd x))
        have hd := nI_dif (x := rd a) (y := rd x) (by omega) (by omega)
        have hm := nI_toInt (n := mxW rd a x v) (by omega)
        have hlt : (nI (mxW rd a x v) < nI (rd a) - nI (rd x)) ↔ mxW rd a x v + rd x < rd a := by
          rw [Int32.lt_iff_toInt_lt, hd, hm]
          omega
        by_cases z : mxW rd a x v + rd x < rd a
        · rw [if_pos (hlt.mpr z), nI_sub (by omega)]
          congr 1
          omega
        · rw [if_neg (fun q => z (hlt.mp q))]
          congr 1
          omega
      · rw [rd_at]
        simp only [upd, if_neg hj]
        exact q2 j hj
  exact loop n 0 mu (by omega) h12 (fun _ _ => rfl) Same.rfl'
/-- a node does its next round -/
theorem c_enterNextRound (hl : l.stackTraces = false) (hG : jGok G) {Z : NT} (hZ : NT.ok Z) {s : RS} (hS : StC Z mu) (hR : RepC s mu) {a : Nat} (ha : a < Z.n) (hr : ∀ x, s.rd x ≤ 500) (hwi : s.wi ≤ 500) (hlen : (s.lt ++ nxPg Z s a).length ≤ 512) :
    jCv l G yX5_enterNextRound cX5_enterNextRound 3 5 [.ref 19, .int (nI a)] mu (fun mu' => RepC (nx1 Z s a) mu' ∧ Same WR mu mu') := by
  refine jCv.of (pad := 1) hl hG (by decide) (Nat.le_of_ble_eq_true rfl) (fun X h => ?_)
  show J l G X _ 3 0 [.ref 19, .int (nI a), .float 0] [] mu 0
  obtain ⟨hZ1, hval, hprl⟩ := hZ
  have hok := hZ1.1
  have hn24 := hok.1
  have ha24 : a < 24 := by omega
  have hra := hr a
  have h24 := nbl24 hok a
  have hca : (nI a).toNatClampNeg = a := nI_clamp (by omega)
  have va : vp_in (nI a) 24 := vp_in_nI ha24 (by omega)
  refine rX5_enterNextRound_0 h ?_
  refine rX5_enterNextRound_2 h (c_forgetRound hl hG hR ha24 hra) (by decide) (Nat.zero_le _) (fun m1 e1 => ?_)
  obtain ⟨f1, f2, f3, f4⟩ := e1
  refine rX5_enterNextRound_5 h va va va ?_
  have h45 : m1 45 (nI a).toNatClampNeg + 1 = nI (s.rd a + 1) := by rw [hca, f4 45 (by decide), (hR.1 a ha24).1, nI_1]
  rw [h45, hca]
  have h45' : (wr m1 45 a (nI (s.rd a + 1))) 45 a = nI (s.rd a + 1) := by rw [rd_at]; simp [upd]
  rw [h45']
  obtain ⟨m2, hm2⟩ : ∃ m : jM, m = wr m1 45 a (nI (s.rd a + 1)) := ⟨_, rfl⟩
  rw [← hm2]
  have s2 : Same [19, 45, 50, 51, 52, 53, 54, 55] mu m2 := by rw [hm2]; exact (f4.wide (by decide)).trans' (Same.wr (by decide))
  have S2 : StC Z m2 := hS.same s2 (by decide)
  refine rX5_enterNextRound_26 h (c_doRoundR hl hG S2.2.1 hval hprl (E := envOf Z.lk (s.rd a + 1) a s.ps.2) (R := fun r => s.ps.1 (a * 8 + r)) ha24 (by show 1 ≤ s.rd a + 1; omega) (by show s.rd a + 1 < 2 ^ 31; omega) (S2.1.2.2.2 a ha24).1 h24 (fun r hr => by rw [s2 21 (by decide)]; exact hR.2.1.1 _ (by show a * 8 + r < 192; omega)) (fun p hp => by
    rw [s2 22 (by decide), s2 23 (by decide)]
    exact hR.2.1.2 (s.rd a % 2) a p (by omega) ha24 hp)) (by decide) (Nat.zero_le _) (fun m3 e3 => ?_)
  obtain ⟨d1, d2, d3, d4, d5, d6⟩ := e3
  have s3 : Same WR mu m3 := (s2.wide (by decide)).trans' (fun c hc => d5 c (fun z => hc (by rw [z]; decide)) (fun z => hc (by rw [z]; decide)) (fun z => hc (by rw [z]; decide)) (fun z => hc (by rw [z]; decide)))
  have S3 : StC Z m3 := hS.same s3 (by decide)
  have L3 : LetC s.lt s.ct m3 := (hR.2.2.2.2.1.same s2 (by decide)).congr (by rw [d5 25 (by decide) (by decide) (by decide) (by decide)]) (fun c q1 q2 => d5 c (by omega) (by omega) (by omega) (by omega))
  have N3 := S3.1.2.2.2
  have hE : nxEx Z s a = exec Z.pr (envOf Z.lk (s.rd a + 1) a s.ps.2) (fun r => s.ps.1 (a * 8 + r)) := rfl
  rw [← hE] at d1 d2 d3
  have r3 : m3 45 a = nI (s.rd a + 1) := by rw [d5 45 (by decide) (by decide) (by decide) (by decide), hm2, rd_at]; simp [upd]
  refine rX5_enterNextRound_29 h ?_
  have hnone : ∀ q, (nbl Z.lk a).length ≤ q → (nxEx Z s a).2 q = none := fun q hq => exec_sent hval hprl _ _ hq
  have loop : ∀ (w p : Nat) (lt1 : List Lt) (ct1 : Nat → Nat) (m4 : jM), p + w = (nbl Z.lk a).length → LetC lt1 ct1 m4 → Same WP m3 m4 → lt1 ++ (List.range' p w).filterMap (fun p => ((nxEx Z s a).2 p).map (fun v => ((0, a, (nbl Z.lk a).getD p 0, s.rd a + 1, v) : Lt))) = s.lt ++ nxPg Z s a → ctAdd ct1 ((List.range' p w).filterMap (fun p => ((nxEx Z s a).2 p).map (fun v => ((0, a, (nbl Z.lk a).getD p 0, s.rd a + 1, v) : Lt)))) = ctAdd s.ct (nxPg Z s a) →
      J l G X (jRv G X (fun mu' => RepC (nx1 Z s a) mu' ∧ Same WR mu mu')) 3 31 [.ref 19, .int (nI a), .int (nI p)] [] m4 0 := by
    intro w
    induction w with
    | zero =>
      intro p lt1 ct1 m4 hp q1 q2 q3 q4
      have hle : m4 9 (nI a).toNatClampNeg ≤ nI p := by rw [hca, q2 9 (by decide), (N3 a ha24).1]; exact nI_le (by omega) (by omega)
      refine rX5_enterNextRound_31 h va (fun _ => ?_) (fun z => absurd hle z)
      simp only [List.range'_zero, List.filterMap_nil, List.append_nil] at q3 q4
      rw [ctAdd_nil] at q4
      subst q4
      rw [q3] at q1
      refine rX5_enterNextRound_111 h (c_bitCount hl hG _) (by decide) (Nat.zero_le _) (fun v m5 e5 => ?_)
      obtain ⟨rfl, rfl⟩ := e5
      have hbc : bc (m5 20 6) = nI (nxPg Z s a).length := by
        rw [bc_ct, q2 20 (by decide)]
        congr 1
        rw [show nxPg Z s a = pgL Z.lk a (s.rd a + 1) (nxEx Z s a).2 from rfl, pgL_len h24 hnone]
        exact fb_ct_cong (fun i hi => d2 i hi)
      rw [hbc]
      refine rX5_enterNextRound_114 h va ?_
      rw [hca]
      obtain ⟨m6, hm6⟩ : ∃ m : jM, m = wr m5 46 a (nI (nxPg Z s a).length) := ⟨_, rfl⟩
      rw [← hm6]
      have c6 : ∀ c, c ≠ 46 → m6 c = m5 c := fun c q => by rw [hm6, rd_ne _ _ _ q]
      have e45 : ∀ x, x < 24 → m6 45 x = nI (nxRd s a x) := fun x hx => by
        rw [c6 45 (by decide), q2 45 (by decide), d5 45 (by decide) (by decide) (by decide) (by decide), hm2, rd_at]
        unfold nxRd
        simp only [upd]
        by_cases e : x = a
        · rw [if_pos e, if_pos e]
        · rw [if_neg e, if_neg e, f4 45 (by decide)]; exact (hR.1 x hx).1
      have e46 : ∀ x, x < 24 → m6 46 x = nI (if x = a then (nxPg Z s a).length else s.op x) := fun x hx => by
        rw [hm6, rd_at]
        simp only [upd]
        by_cases e : x = a
        · rw [if_pos e, if_pos e]
        · rw [if_neg e, if_neg e, q2 46 (by decide), d5 46 (by decide) (by decide) (by decide) (by decide), s2 46 (by decide)]; exact (hR.1 x hx).2
      have e19 : ∀ j, m6 19 j = m1 19 j := fun j => by
        rw [c6 19 (by decide), q2 19 (by decide), d5 19 (by decide) (by decide) (by decide) (by decide), hm2, rd_ne _ _ _ (by decide)]
      have hnr : ∀ x, nxRd s a x ≤ 1000 := fun x => by
        unfold nxRd
        have := hr x
        split <;> omega
      refine rX5_enterNextRound_117 h (c_noteWidest hl hG hn24 (by rw [c6 6 (by decide), q2 6 (by decide)]; exact S3.1.1) e45 hnr ha24 (v := s.wi) (by omega) (by rw [e19, f3 12 (by decide) (by decide) (by decide)]; exact hR.2.2.2.2.2.1.2)) (by decide) (Nat.zero_le _) (fun m7 e7 => ?_)
      obtain ⟨g1, g2, g3⟩ := e7
      have c7 : ∀ c, c ≠ 19 → c ≠ 46 → m7 c = m5 c := fun c q q' => by rw [g3 c (by simpa using q), c6 c q']
      refine J_vret h dX5_enterNextRound_120 ⟨⟨fun x hx => ⟨?_, ?_⟩, ⟨fun j hj => ?_, ?_⟩, fun i hi => ?_, ?_, ?_, ⟨?_, g1⟩, ?_⟩, ?_⟩
      · rw [g3 45 (by decide)]; exact e45 x hx
      · rw [g3 46 (by decide)]; exact e46 x hx
      · rw [c7 21 (by decide) (by decide), q2 21 (by decide)]
        show m3 21 j = rgSet s.ps.1 a _ j
        unfold rgSet
        by_cases z : a * 8 ≤ j ∧ j < a * 8 + 8
        · rw [if_pos z]
          have := d1 (j - a * 8) (by omega)
          rw [show (envOf Z.lk (s.rd a + 1) a s.ps.2).1 * 8 + (j - a * 8) = j from (by show a * 8 + (j - a * 8) = j; omega)] at this
          exact this
        · rw [if_neg z, d6 j (by show j < a * 8 ∨ a * 8 + 8 ≤ j; omega), s2 21 (by decide)]
          exact hR.2.1.1 j hj
      · have B3 : BoxC 22 23 (bxClr s.ps.2 (s.rd a % 2) a) m3 := (hR.2.1.2.congr (s2 22 (by decide)) (s2 23 (by decide))).clr d4 (d5 23 (by decide) (by decide) (by decide) (by decide)) ha24
        exact B3.congr (by rw [c7 22 (by decide) (by decide), q2 22 (by decide)]) (by rw [c7 23 (by decide) (by decide), q2 23 (by decide)])
      · rw [g2 8 (by decide), g2 9 (by decide), g2 10 (by decide), e19, e19, e19]
        exact f2 i hi
      · refine f1.congr (fun c k1 k2 => ?_)
        rw [c7 c (by omega) (by omega), q2 c (by unfold WP; simp only [List.mem_cons, List.not_mem_nil, or_false]; omega), d5 c (by omega) (by omega) (by omega) (by omega), hm2, rd_ne _ _ _ (by omega)]
      · exact q1.congr (by rw [c7 25 (by decide) (by decide)]) (fun c k1 k2 => c7 c (by omega) (by omega))
      · rw [g2 11 (by decide), e19, f3 11 (by decide) (by decide) (by decide)]
        exact hR.2.2.2.2.2.1.1
      · refine hR.2.2.2.2.2.2.congr (by rw [g2 15 (by decide), e19, f3 15 (by decide) (by decide) (by decide)]) ?_ ?_
        · rw [c7 56 (by decide) (by decide), q2 56 (by decide), s3 56 (by decide)]
        · rw [c7 57 (by decide) (by decide), q2 57 (by decide), s3 57 (by decide)]
      · refine (s3.trans' (q2.wide WP_WR)).trans' ?_
        have : Same WR m5 m6 := by rw [hm6]; exact Same.wr (by decide)
        exact this.trans' (g3.wide (by decide))
    | succ w ih =>
      intro p lt1 ct1 m4 hp q1 q2 q3 q4
      have hle : ¬ m4 9 (nI a).toNatClampNeg ≤ nI p := by rw [hca, q2 9 (by decide), (N3 a ha24).1]; exact nI_ge (by omega) (by omega)
      obtain ⟨b, hb⟩ : ∃ b, (nbl Z.lk a)[p]? = some b := ⟨_, List.getElem?_eq_getElem (by omega : p < (nbl Z.lk a).length)⟩
      have hgd : (nbl Z.lk a).getD p 0 = b := by rw [List.getD_eq_getElem?_getD, hb]; rfl
      have c1 : nI a * 24 + nI p = nI (a * 24 + p) := by rw [nL24, nI_mul, nI_add]
      have k1 : (nI (a * 24 + p)).toNatClampNeg = a * 24 + p := nI_clamp (by omega)
      rw [List.range'_succ] at q3 q4
      refine rX5_enterNextRound_31 h va (fun z => absurd z hle) (fun _ => ?_)
      refine rX5_enterNextRound_49 h (c_goesByR hl hG (sd := (nxEx Z s a).2) (fun i hi => by rw [q2 20 (by decide)]; exact d2 i hi) (p := p) (by omega)) (by decide) (Nat.zero_le _) (fun v m5 e5 => ?_)
      obtain ⟨hv, rfl⟩ := e5
      refine rX5_enterNextRound_52 h (fun _ => by rw [c1]; exact vp_in_nI (by omega) (by omega)) (fun _ => va) (fun _ => vp_in_nI (by omega) (by omega)) (fun q => ?_) (fun q => ?_)
      · have hn : (nxEx Z s a).2 p = none := by
          have := hv.no q
          cases hx : (nxEx Z s a).2 p with
          | none => rfl
          | some u => rw [hx] at this; exact absurd rfl this
        refine rX5_enterNextRound_93 h ?_
        rw [nI_1]
        rw [List.filterMap_cons_none (by rw [hn]; rfl)] at q3 q4
        exact ih (p + 1) lt1 ct1 m5 (by omega) q1 q2 q3 q4
      · obtain ⟨u, hu⟩ := Option.isSome_iff_exists.mp (hv.yes q)
        rw [List.filterMap_cons_some (by rw [hu]; rfl), hgd] at q3 q4
        have hl1 : lt1.length < 512 := by
          have h9 := hlen
          rw [← q3] at h9
          simp only [List.length_append, List.length_cons] at h9
          omega
        rw [c1, k1, hca, nI_clamp (n := p) (by omega), q2 24 (by decide), d3 p u (by omega) hu, q2 45 (by decide), r3, q2 11 (by decide), ((N3 a ha24).2.2 p b hb).1]
        refine rX5_enterNextRound_90 h (c_send hl hG q1 hl1 (K := 0) (by omega) a b (s.rd a + 1) u) (by decide) (Nat.zero_le _) (fun m6 e6 => ?_)
        refine rX5_enterNextRound_93 h ?_
        rw [nI_1]
        refine ih (p + 1) _ _ m6 (by omega) e6.1 (q2.trans' e6.2) ?_ ?_
        · rw [← q3, List.append_assoc]; rfl
        · rw [← q4, ctAdd_app]; rfl
  exact loop (nbl Z.lk a).length 0 s.lt s.ct m3 (Nat.zero_add _) L3 Same.rfl' (by rw [show nxPg Z s a = pgL Z.lk a (s.rd a + 1) (nxEx Z s a).2 from rfl]; unfold pgL; rw [List.range_eq_range']) (by rw [show nxPg Z s a = pgL Z.lk a (s.rd a + 1) (nxEx Z s a).2 from rfl]; unfold pgL; rw [List.range_eq_range'])
end C62
