/-! ===== the class: calls on a run ===== -/
def cdPrep (run ok : Bool) (x y : Int32) : Nat := if x < 0 ∨ 2 < x ∨ y < 2 ∨ 8 < y then 1 else if run then 2 else if ok then 0 else 2
def cdStop (run : Bool) (st : Nat) (x : Int32) : Nat := if run then (if 500 < x ∨ x < nI st then 2 else 0) else 1
def cdLet (run : Bool) (len : Nat) (x y : Int32) : Nat := if run = true ∧ ¬ x < 0 ∧ x < nI len ∧ ¬ y < 0 ∧ y < 5 then 0 else 1
def cdDel (run : Bool) (len : Nat) (x : Int32) : Nat := if run = true ∧ ¬ x < 0 ∧ x < nI len then 0 else 1
def cdAll (run : Bool) (x y : Int32) : Nat := if x < 0 ∨ 2 < x ∨ y < 0 ∨ 2000 < y then 1 else if run then 0 else 2
def cdSw (run : Bool) (len : Nat) (x : Int32) : Nat := if x < 0 ∨ 2 < x then 1 else if run then (if len = 9 then 3 else 0) else 2
def cdRd (n : Nat) (run : Bool) (x : Int32) : Nat := if ¬ isNd n x then 1 else if run then 0 else 2
def cdVal (n : Nat) (run : Bool) (x r : Int32) : Nat := if ¬ isNd n x then 1 else if ¬ isRg r then 2 else if run then 0 else 3
def cdPl (n : Nat) (run : Bool) (x w : Int32) : Nat := if ¬ isNd n x then 1 else if w < 0 ∨ 5 < w then 2 else if run then 0 else 3
def cdCh (run : Bool) (k : Nat) (c d : Int32) : Nat := if run = true ∧ (¬ c < 0 ∧ c < nI k) ∧ ¬ d < 0 ∧ d < nI k then 0 else 1
def cdCt (run : Bool) (w : Int32) : Nat := if run = true ∧ ¬ w < 0 ∧ ¬ 6 < w then 0 else 1
/-- a run, as both have it -/
def RunA (Z : NT) (s : RS) : Prop := NT.ok Z ∧ Inv Z s ∧ Ext s
def lpart (x : Lt) (w : Nat) : Int32 := if w = 0 then nI x.1 else if w = 1 then nI x.2.1 else if w = 2 then nI x.2.2.1 else if w = 3 then nI x.2.2.2.1 else x.2.2.2.2
def plV (n : Nat) (lk : Lk) (p x w : Nat) : Int32 := if w = 0 then parI (parZ n lk p 1 x) else if w = 1 then nI (depZ n lk p 1 x) else if w = 2 then nI (clV (clAll lk n p) x) else if w = 3 then parI (parZ n lk p 2 x) else if w = 4 then nI (depZ n lk p 2 x) else nI (fb_ct (cN lk (clV (clAll lk n p)) lk.length x) n)
def ctV (n : Nat) (lk : Lk) (p : Nat) (s : RS) (w : Nat) : Int32 := if w < 3 then nI (s.ct w) else if w = 3 then nI s.wi else if w = 4 then 2 * nI lk.length else if w = 5 then 2 * (nI n - 1) else 4 * (nI n - nI (clAll lk n p).1) + 2 * nI (cnt lk.length (chs lk (clV (clAll lk n p))))
/-- the draw -/
def drw (x : Int32) : Int32 := x * 1103515245 + 12345
def pkI (x : Int32) (L : Nat) : Nat := (un x >>> 16) % L
theorem pk_draw (x : Int32) {L : Nat} (h0 : 0 < L) (h1 : L < 2 ^ 31) : ((Int32.toUInt32 x >>> (Int32.toUInt32 16 &&& Int32.toUInt32 31)).toInt32) - (((Int32.toUInt32 x >>> (Int32.toUInt32 16 &&& Int32.toUInt32 31)).toInt32) / nI L) * nI L = nI (pkI x L) := by
  have hu : un (bc_u x 16) = un x >>> 16 := un_u x 16 16 (by decide)
  have hlt : un x >>> 16 < 65536 := by
    rw [Nat.shiftRight_eq_div_pow]
    have := un_lt x
    omega
  have e : (Int32.toUInt32 x >>> (Int32.toUInt32 16 &&& Int32.toUInt32 31)).toInt32 = nI (un x >>> 16) := by
    show bc_u x 16 = _
    apply un_inj
    rw [hu, un_nI (by omega)]
  have hm := Nat.div_mul_le_self (un x >>> 16) L
  rw [e, pk_div (by omega) h0 h1, nI_mul, nI_sub hm]
  unfold pkI
  congr 1
  have := Nat.div_add_mod (un x >>> 16) L
  rw [Nat.mul_comm] at this
  omega
def pick (r x : Int32) (L : Nat) : Nat := if r = 0 then 0 else if r = 1 then L - 1 else pkI x L
def dAll (Z : NT) (r : Int32) : Nat → Int32 → Nat → RS → Nat × RS
  | 0, _, c, s => (c, s)
  | m + 1, x, c, s => if s.lt.length = 0 then (c, s) else dAll Z r m (if r = 2 then drw x else x) (c + 1) (dlv Z s (pick r (if r = 2 then drw x else x) s.lt.length))
theorem pick_lt {r x : Int32} {L : Nat} (h : 0 < L) : pick r x L < L := by
  unfold pick pkI
  split
  · exact h
  · split
    · omega
    · exact Nat.mod_lt _ h
theorem dlv_ok {Z : NT} (hZ : NT.ok Z) {s : RS} (h : RunA Z s) (i : Nat) : RunA Z (dlv Z s i) := ⟨h.1, inv_dlv hZ.1 h.2.1 i, Ext.deliver hZ.1 h.2.1 h.2.2 i⟩
theorem dAll_ok {Z : NT} {r : Int32} : ∀ (m : Nat) (x : Int32) (c : Nat) (s : RS), RunA Z s → RunA Z (dAll Z r m x c s).2 ∧ (dAll Z r m x c s).1 ≤ c + m
  | 0, _, c, s, h => ⟨h, Nat.le_refl _⟩
  | m + 1, x, c, s, h => by
    unfold dAll
    split
    · exact ⟨h, by show c ≤ _; omega⟩
    · have := dAll_ok (r := r) m (if r = 2 then drw x else x) (c + 1) _ (dlv_ok h.1 h (pick r (if r = 2 then drw x else x) s.lt.length))
      exact ⟨this.1, by have := this.2; omega⟩
theorem actAll_ext {Z : NT} (hZ : ZOk Z.n Z.lk Z.par Z.grp Z.ch) : ∀ (m a : Nat) (s : RS), a + m ≤ Z.n → Inv Z s → Ext s → Ext (actAll Z m a s)
  | 0, _, _, _, _, h => h
  | m + 1, a, s, hm, hI, h => actAll_ext hZ m (a + 1) _ (by omega) (inv_act hZ (by omega) 2100 s hI) (Ext.act hZ (by omega) 2100 s hI h)
theorem isNd.nat' {n : Nat} (hn : n ≤ 24) {x : Int32} (h : ¬ x < 0) (h2 : x < nI n) : ∃ a, a < n ∧ x = nI a := by
  obtain ⟨j, hj, rfl⟩ := nI_of h
  exact ⟨j, (nI_ltI hj (by omega)).mp h2, rfl⟩
theorem nI_big {n : Nat} (hn : n < 2 ^ 31) {x : Int32} (h : ¬ x < 0) (h2 : x < nI n) : ∃ a, a < n ∧ x = nI a := by
  obtain ⟨j, hj, rfl⟩ := nI_of h
  exact ⟨j, (nI_ltI hj hn).mp h2, rfl⟩
theorem exC.of {cd k : Nat} {tbl : List String} {E : String} {mu : jM} (h : cd = k) (h0 : k ≠ 0) (ht : tbl[k - 1]? = some E) : exC cd tbl mu E mu := by
  subst h
  exact ⟨rfl, h0, ht⟩
theorem RunC.t {run : Bool} {mu : jM} (h : RunC run mu) (q : ¬ mu 0 5 = 0) : run = true := by
  rw [h] at q
  cases run
  · exact absurd rfl q
  · rfl
theorem RunC.f {run : Bool} {mu : jM} (h : RunC run mu) (q : mu 0 5 = 0) : run = false := by
  rw [h] at q
  cases run
  · rfl
  · exact absurd q (by decide)
section C69
variable {l : Launch} {G : jG} {mu : jM}
theorem c_prepare (hl : l.stackTraces = false) (hG : jGok G) {run : Bool} (hr : RunC run mu) {n : Nat} {lk : Lk} {pr : List Wd} (hok : NetOk n lk) (hN : NetC n lk mu) (hP : ProgC pr mu) (hlen : pr.length ≤ 64) {ok : Bool} (hv : ok = true ↔ Valid pr ∧ conn lk n) (x y : Int32) : jXi l G yX7_prepare cX7_prepare 3 8 6 (some .int) [.ref 0, .int x, .int y] mu
    (fun r mu' => cdPrep run ok x y = 0 ∧ (∃ v p, v ≤ 2 ∧ 2 ≤ p ∧ p ≤ 8 ∧ x = nI v ∧ y = nI p ∧ r = nI (clAll lk n p).1 ∧ StC (mkZ n lk pr p) mu' ∧ PcC n lk p mu' ∧ RepC (rs0 (mu 13) v) mu') ∧ RunC true mu' ∧ Same (0 :: WB) mu mu') (exC (cdPrep run ok x y) [E_IAE, E_ISE] mu) := by
  refine jXi.of (pad := 0) hl hG (by decide) (Nat.le_of_ble_eq_true rfl) (fun X h ht => ?_)
  show J l G X _ 3 0 [.ref 0, .int x, .int y] [] mu 0
  refine rX7_prepare_0 h ?_
  refine rX7_prepare_1 h (c_isWay hl hG x) (by decide) (by decide) (fun w m1 e1 => ?_)
  obtain ⟨hw, rfl⟩ := e1
  refine rX7_prepare_4 h (fun q => ?_) (fun q q2 => ?_) (fun q q2 q3 => ?_) (fun q q2 q3 => ?_)
  · have := hw.no q
    exact tX7_prepare_18 h ht (by decide) (by decide) (exC.of (k := 1) (by unfold cdPrep; rw [if_pos (by grind)]) (by decide) rfl)
  · exact tX7_prepare_18 h ht (by decide) (by decide) (exC.of (k := 1) (by unfold cdPrep; rw [if_pos (by grind)]) (by decide) rfl)
  · have hw' := hw.yes q
    have q4 := i_le_nlt q3
    have ex : cdPrep run ok x y = if run then 2 else if ok then 0 else 2 := by unfold cdPrep; rw [if_neg (by grind)]
    refine rX7_prepare_29 h ht (c_refuse hl hG hr) (by decide) (by decide) (fun E m2 e2 => ?_) (fun m2 e2 => ?_)
    · obtain ⟨rfl, rfl, rfl⟩ := e2
      exact exC.of (k := 2) (by rw [ex]; rfl) (by decide) rfl
    obtain ⟨rfl, rfl⟩ := e2
    refine rX7_prepare_32 h ?_
    refine rX7_prepare_33 h ht (c_refuseWrong hl hG hP hlen) (by decide) (by decide) (fun E m3 e3 => ?_) (fun m3 e3 => ?_)
    · obtain ⟨rfl, rfl, e3⟩ := e3
      have : ok = false := by
        cases hb : ok with
        | false => rfl
        | true => exact absurd (hv.mp hb).1 e3
      exact exC.of (k := 2) (by rw [ex, this]; rfl) (by decide) rfl
    obtain ⟨rfl, hval⟩ := e3
    refine rX7_prepare_36 h ?_
    refine rX7_prepare_40 h (c_isConnected hl hG hok hN) (by decide) (by decide) (fun w2 m4 e4 => ?_)
    obtain ⟨hw2, rfl⟩ := e4
    refine rX7_prepare_43 h (fun q5 => ?_) (fun q5 => ?_)
    · have hc := hw2.yes q5
      have h0 : cdPrep false ok x y = 0 := by rw [ex, hv.mpr ⟨hval, hc⟩]; rfl
      obtain ⟨v, hv2, rfl⟩ := nI_of2 (M := 2) (n := 2) rfl hw'.1 (i_nlt hw'.2)
      obtain ⟨p, hp8, rfl⟩ := nI_of2 (M := 8) (n := 8) rfl (x := y) (fun z => q2 (Int32.lt_of_lt_of_le z (by decide))) q3
      have hp2 : 2 ≤ p := by
        rcases Nat.lt_or_ge p 2 with z | z
        · exact absurd (nI_lt (b := 2) z (by omega)) q2
        · exact z
      refine rX7_prepare_66 h (c_begin hl hG hok hc hN hP (v := v) hp2 hp8) (by decide) (by decide) (fun m5 e5 => ?_)
      obtain ⟨g1, g2, g3, g4⟩ := e5
      refine rX7_prepare_69 h ?_
      rw [g2.2.1]
      have hs : Same [0] m5 (wr m5 0 5 1) := Same.wr (by decide)
      have c0 : ∀ c, c ≠ 0 → wr m5 0 5 1 c = m5 c := fun c q => rd_ne _ _ _ q
      refine J_iretX h dX7_prepare_84 rfl (by decide) ⟨h0, ⟨v, p, hv2, hp2, hp8, rfl, rfl, rfl, g1.same hs (by decide), g2.congr (fun c hc => c0 c (by omega)), ?_⟩, ?_, (g4.wide (fun c hc => List.mem_cons_of_mem _ hc)).trans' (hs.wide (by decide))⟩
      · exact ⟨g3.1.congr (c0 45 (by decide)) (c0 46 (by decide)), g3.2.1.congr (c0 21 (by decide)) (c0 22 (by decide)) (c0 23 (by decide)), g3.2.2.1.congr (c0 19 (by decide)), g3.2.2.2.1.congr (fun c k1 k2 => c0 c (by omega)), g3.2.2.2.2.1.congr (by rw [c0 25 (by decide)]) (fun c k1 k2 => c0 c (by omega)), by rw [c0 19 (by decide)]; exact g3.2.2.2.2.2.1, g3.2.2.2.2.2.2.congr (by rw [c0 19 (by decide)]) (c0 56 (by decide)) (c0 57 (by decide))⟩
      · unfold RunC; rw [rd_at]; rfl
    · have hc := hw2.no q5
      have : ok = false := by
        cases hb : ok with
        | false => rfl
        | true => exact absurd (hv.mp hb).2 hc
      exact tX7_prepare_46 h ht (by decide) (by decide) (exC.of (k := 2) (by rw [ex, this]; rfl) (by decide) rfl)
  · exact tX7_prepare_18 h ht (by decide) (by decide) (exC.of (k := 1) (by unfold cdPrep; rw [if_pos (by right; right; right; exact i_nle q3)]) (by decide) rfl)
theorem c_stopAt (hl : l.stackTraces = false) (hG : jGok G) {run : Bool} (hr : RunC run mu) {Z : NT} {s : RS} (hA : run = true → RunA Z s ∧ StC Z mu ∧ RepC s mu) (x : Int32) : jXv l G yX7_stopAt cX7_stopAt 3 8 6 [.ref 0, .int x] mu
    (fun mu' => cdStop run s.st x = 0 ∧ RepC (actAll Z Z.n 0 (stS s x.toNatClampNeg)) mu' ∧ Same WR mu mu') (exC (cdStop run s.st x) [E_ISE, E_IAE] mu) := by
  refine jXv.of (pad := 1) hl hG (by decide) (Nat.le_of_ble_eq_true rfl) (fun X h ht => ?_)
  show J l G X _ 3 0 [.ref 0, .int x, .float 0] [] mu 0
  refine rX7_stopAt_0 h ?_
  refine rX7_stopAt_1 h ht (c_needRun hl hG hr) (by decide) (by decide) (fun E m1 e1 => ?_) (fun m1 e1 => ?_)
  · obtain ⟨rfl, rfl, rfl⟩ := e1
    exact exC.of (k := 1) rfl (by decide) rfl
  obtain ⟨rfl, rfl⟩ := e1
  obtain ⟨⟨hZ, hI, hE⟩, hS, hR⟩ := hA rfl
  have ex : cdStop true s.st x = if 500 < x ∨ x < nI s.st then 2 else 0 := rfl
  have e11 : m1 19 11 = nI s.st := hR.2.2.2.2.2.1.1
  have hst := hI.2.2.2.2.1
  refine rX7_stopAt_4 h (fun q => ?_) (fun q q2 => ?_) (fun q q2 => ?_)
  · exact tX7_stopAt_22 h ht (by decide) (by decide) (exC.of (k := 2) (by rw [ex, if_pos (Or.inl q)]) (by decide) rfl)
  · rw [e11] at q2
    have h0 : cdStop true s.st x = 0 := by rw [ex, if_neg (by rintro (z | z); exact q z; exact i_le_nlt q2 z)]
    have hx0 : ¬ x < 0 := fun z => by
      have h1 : nI s.st < 0 := Int32.lt_of_le_of_lt q2 z
      exact nI_nn (by omega) h1
    obtain ⟨k, hk, rfl⟩ := nI_of2 (M := 500) (n := 500) rfl hx0 (i_nlt q)
    rw [nI_leI (by omega) (by omega)] at q2
    rw [nI_clamp (by omega)]
    have I1 := inv_stop hI q2 hk
    have R1 : RepC (stS s k) (wr m1 19 11 (nI k)) := by
      refine ⟨hR.1.congr rfl rfl, hR.2.1.congr rfl rfl rfl, fun i hi => hR.2.2.1 i hi, hR.2.2.2.1.congr (fun c k1 k2 => rd_ne _ _ _ (by omega)), hR.2.2.2.2.1.congr rfl (fun c k1 k2 => rd_ne _ _ _ (by omega)), ⟨rfl, hR.2.2.2.2.2.1.2⟩, hR.2.2.2.2.2.2.congr rfl rfl rfl⟩
    have W1 : Same WR m1 (wr m1 19 11 (nI k)) := Same.wr (by decide)
    have hn24 := hZ.1.1.1
    have loop : ∀ (w a : Nat) (s1 : RS) (m2 : jM), a + w = Z.n → Inv Z s1 → Ext s1 → RepC s1 m2 → Same WR m1 m2 → actAll Z w a s1 = actAll Z Z.n 0 (stS s k) → J l G X (jRx G X 6 (va_Qv (fun mu' => cdStop true s.st (nI k) = 0 ∧ RepC (actAll Z Z.n 0 (stS s k)) mu' ∧ Same WR m1 mu') (jB G) (jA G)) (exC (cdStop true s.st (nI k)) [E_ISE, E_IAE] m1)) 3 42 [.ref 0, .int (nI k), .int (nI a)] [] m2 (0 + 1) := by
      intro w
      induction w with
      | zero =>
        intro a s1 m2 ha I2 E2 R2 W2 he
        have hle : m2 6 0 ≤ nI a := by rw [W2 6 (by decide), hS.1.1]; exact nI_le (by omega) (by omega)
        refine rX7_stopAt_42 h (fun _ => ?_) (fun z => absurd hle z)
        refine J_vretX h dX7_stopAt_67 (by decide) ⟨h0, ?_, W2⟩
        rw [← he]
        exact R2
      | succ w ih =>
        intro a s1 m2 ha I2 E2 R2 W2 he
        have hle : ¬ m2 6 0 ≤ nI a := by rw [W2 6 (by decide), hS.1.1]; exact nI_ge (by omega) (by omega)
        refine rX7_stopAt_42 h (fun z => absurd z hle) (fun _ => ?_)
        refine rX7_stopAt_58 h (c_carryOn hl hG hZ I2 E2 (hS.same W2 (by decide)) R2 (by omega : a < Z.n)) (by decide) (by decide) (fun m3 e3 => ?_)
        refine rX7_stopAt_61 h ?_
        rw [nI_1]
        exact ih (a + 1) _ m3 (by omega) (inv_act hZ.1 (by omega) 2100 s1 I2) (Ext.act hZ.1 (by omega) 2100 s1 I2 E2) e3.1 (W2.trans' e3.2) he
    exact loop Z.n 0 (stS s k) _ (by omega) I1 hE R1 W1 rfl
  · rw [e11] at q2
    exact tX7_stopAt_22 h ht (by decide) (by decide) (exC.of (k := 2) (by rw [ex, if_pos (Or.inr (i_nle q2))]) (by decide) rfl)
theorem c_letters (hl : l.stackTraces = false) (hG : jGok G) {run : Bool} (hr : RunC run mu) {s : RS} (hA : run = true → RepC s mu) : jCi l G yX7_letters cX7_letters 1 8 (some .int) [.ref 0] mu (fun v mu' => v = (if run then nI s.lt.length else 0) ∧ mu' = mu) := by
  refine jCi.of (pad := 0) hl hG (by decide) (Nat.le_of_ble_eq_true rfl) (fun X h => ?_)
  show J l G X _ 1 0 [.ref 0] [] mu 0
  refine rX7_letters_0 h (fun q => ?_) (fun q => ?_)
  · refine J_iret h dX7_letters_21 rfl ⟨?_, rfl⟩
    rw [hr.f q]; rfl
  · refine J_iret h dX7_letters_21 rfl ⟨?_, rfl⟩
    rw [(hA (hr.t q)).2.2.2.2.1.1, hr.t q]; rfl
theorem c_needLetter (hl : l.stackTraces = false) (hG : jGok G) {run : Bool} (hr : RunC run mu) {s : RS} (hA : run = true → RepC s mu) (x : Int32) : jXv l G yX7_needLetter cX7_needLetter 2 6 1 [.ref 0, .int x] mu (fun mu' => mu' = mu ∧ run = true ∧ ¬ x < 0 ∧ x < nI s.lt.length) (fun E mu' => mu' = mu ∧ E = E_IOB ∧ ¬ (run = true ∧ ¬ x < 0 ∧ x < nI s.lt.length)) := by
  refine jXv.of (pad := 0) hl hG (by decide) (Nat.le_of_ble_eq_true rfl) (fun X h ht => ?_)
  show J l G X _ 2 0 [.ref 0, .int x] [] mu 0
  refine rX7_needLetter_0 h (fun q => ?_) (fun q q2 => ?_) (fun q q2 q3 => ?_) (fun q q2 q3 => ?_)
  · exact tX7_needLetter_25 h ht (by decide) (by decide) ⟨rfl, rfl, fun z => by rw [hr.f q] at z; cases z.1⟩
  · exact tX7_needLetter_25 h ht (by decide) (by decide) ⟨rfl, rfl, fun z => z.2.1 q2⟩
  · rw [(hA (hr.t q)).2.2.2.2.1.1] at q3
    exact J_vretX h dX7_needLetter_36 (by decide) ⟨rfl, hr.t q, q2, q3⟩
  · rw [(hA (hr.t q)).2.2.2.2.1.1] at q3
    exact tX7_needLetter_25 h ht (by decide) (by decide) ⟨rfl, rfl, fun z => q3 z.2.2⟩
theorem c_letter (hl : l.stackTraces = false) (hG : jGok G) {run : Bool} (hr : RunC run mu) {Z : NT} {s : RS} (hA : run = true → RunA Z s ∧ RepC s mu) (x y : Int32) : jXi l G yX7_letter cX7_letter 3 8 6 (some .int) [.ref 0, .int x, .int y] mu
    (fun v mu' => cdLet run s.lt.length x y = 0 ∧ (∃ i w e, x = nI i ∧ y = nI w ∧ w < 5 ∧ s.lt[i]? = some e ∧ v = lpart e w) ∧ mu' = mu) (exC (cdLet run s.lt.length x y) [E_IOB] mu) := by
  refine jXi.of (pad := 0) hl hG (by decide) (Nat.le_of_ble_eq_true rfl) (fun X h ht => ?_)
  show J l G X _ 3 0 [.ref 0, .int x, .int y] [] mu 0
  refine rX7_letter_0 h ?_
  refine rX7_letter_2 h ht (c_needLetter hl hG hr (fun q => (hA q).2) x) (by decide) (by decide) (fun E m1 e1 => ?_) (fun m1 e1 => ?_)
  · obtain ⟨rfl, rfl, q⟩ := e1
    exact exC.of (k := 1) (by unfold cdLet; rw [if_neg (fun z => q ⟨z.1, z.2.1, z.2.2.1⟩)]) (by decide) rfl
  obtain ⟨rfl, h1, h2, h3⟩ := e1
  subst h1
  obtain ⟨⟨hZ, hI, hE⟩, hR⟩ := hA rfl
  obtain ⟨b1, -, -⟩ := hI.bd hZ.1
  obtain ⟨i, hi, rfl⟩ := nI_big (by omega) h2 h3
  obtain ⟨e, he⟩ : ∃ e, s.lt[i]? = some e := ⟨_, List.getElem?_eq_getElem hi⟩
  obtain ⟨x1, x2, x3, x4, x5⟩ := hR.2.2.2.2.1.2.1 i e he
  have bad : ¬ (¬ y < 0 ∧ y < 5) → cdLet true s.lt.length (nI i) y = 1 := fun q => by unfold cdLet; rw [if_neg (fun z => q z.2.2.2)]
  by_cases hy : ¬ y < 0 ∧ y < 5
  · obtain ⟨w, hw, rfl⟩ := nI_big (n := 5) (by omega) hy.1 hy.2
    have hr4 : ∃ r4, [27, 28, 29, 30, 31][(nI w).toNatClampNeg]? = some r4 ∧ jShp[r4]? = some (.inr (0, 512, fun _ => none)) ∧ m1 r4 i = lpart e w := by
      rw [nI_clamp (by omega)]
      have c : w = 0 ∨ w = 1 ∨ w = 2 ∨ w = 3 ∨ w = 4 := by omega
      rcases c with rfl | rfl | rfl | rfl | rfl
      · exact ⟨27, rfl, rfl, x1⟩
      · exact ⟨28, rfl, rfl, x2⟩
      · exact ⟨29, rfl, rfl, x3⟩
      · exact ⟨30, rfl, rfl, x4⟩
      · exact ⟨31, rfl, rfl, x5⟩
    obtain ⟨r4, u1, u2, u3⟩ := hr4
    refine rX7_letter_5 (r4 := r4) h (fun _ _ => vp_in_nI (by omega) (by omega)) (fun _ _ => u1) u2 (fun _ _ => vp_in_nI (by omega) (by omega)) (fun q => absurd q hy.1) (fun _ _ => ?_) (fun _ q => absurd hy.2 q)
    rw [nI_clamp (by omega), u3]
    exact J_iretX h dX7_letter_38 rfl (by decide) ⟨by unfold cdLet; rw [if_pos ⟨rfl, h2, h3, hy⟩], ⟨i, w, e, rfl, rfl, hw, he, rfl⟩, rfl⟩
  · refine rX7_letter_5 (r4 := 27) h (fun q1 q2 => absurd ⟨q1, q2⟩ hy) (fun q1 q2 => absurd ⟨q1, q2⟩ hy) rfl (fun q1 q2 => absurd ⟨q1, q2⟩ hy) (fun _ => ?_) (fun q1 q2 => absurd ⟨q1, q2⟩ hy) (fun _ _ => ?_)
    · exact tX7_letter_14 h ht (by decide) (by decide) (exC.of (k := 1) (bad hy) (by decide) rfl)
    · exact tX7_letter_14 h ht (by decide) (by decide) (exC.of (k := 1) (bad hy) (by decide) rfl)
theorem c_deliver (hl : l.stackTraces = false) (hG : jGok G) {run : Bool} (hr : RunC run mu) {Z : NT} {s : RS} (hA : run = true → RunA Z s ∧ StC Z mu ∧ RepC s mu) (x : Int32) : jXi l G yX7_deliver cX7_deliver 2 8 6 (some .int) [.ref 0, .int x] mu
    (fun v mu' => cdDel run s.lt.length x = 0 ∧ (∃ i e, x = nI i ∧ s.lt[i]? = some e ∧ v = nI e.1 ∧ RepC (dlv Z s i) mu') ∧ Same WR mu mu') (exC (cdDel run s.lt.length x) [E_IOB] mu) := by
  refine jXi.of (pad := 0) hl hG (by decide) (Nat.le_of_ble_eq_true rfl) (fun X h ht => ?_)
  show J l G X _ 2 0 [.ref 0, .int x] [] mu 0
  refine rX7_deliver_0 h ?_
  refine rX7_deliver_2 h ht (c_needLetter hl hG hr (fun q => (hA q).2.2) x) (by decide) (by decide) (fun E m1 e1 => ?_) (fun m1 e1 => ?_)
  · obtain ⟨rfl, rfl, q⟩ := e1
    exact exC.of (k := 1) (by unfold cdDel; rw [if_neg q]) (by decide) rfl
  obtain ⟨rfl, h1, h2, h3⟩ := e1
  subst h1
  obtain ⟨⟨hZ, hI, hE⟩, hS, hR⟩ := hA rfl
  obtain ⟨b1, -, -⟩ := hI.bd hZ.1
  have h0 : cdDel true s.lt.length x = 0 := by unfold cdDel; rw [if_pos ⟨rfl, h2, h3⟩]
  obtain ⟨i, hi, rfl⟩ := nI_big (by omega) h2 h3
  obtain ⟨e, he⟩ : ∃ e, s.lt[i]? = some e := ⟨_, List.getElem?_eq_getElem hi⟩
  refine rX7_deliver_5 h ?_
  refine rX7_deliver_10 h (c_handOver hl hG hZ hI hE hS hR he) (by decide) (by decide) (fun v m2 e2 => ?_)
  obtain ⟨rfl, R2, W2⟩ := e2
  exact J_iretX h dX7_deliver_13 rfl (by decide) ⟨h0, ⟨i, e, rfl, he, rfl, R2⟩, W2⟩
theorem c_deliverAll (hl : l.stackTraces = false) (hG : jGok G) {run : Bool} (hr : RunC run mu) {Z : NT} {s : RS} (hA : run = true → RunA Z s ∧ StC Z mu ∧ RepC s mu) (x y z : Int32) : jXi l G yX7_deliverAll cX7_deliverAll 7 8 6 (some .int) [.ref 0, .int x, .int y, .int z] mu
    (fun v mu' => cdAll run x z = 0 ∧ v = nI (dAll Z x z.toNatClampNeg y 0 s).1 ∧ RepC (dAll Z x z.toNatClampNeg y 0 s).2 mu' ∧ Same WR mu mu') (exC (cdAll run x z) [E_IAE, E_ISE] mu) := by
  refine jXi.of (pad := 3) hl hG (by decide) (Nat.le_of_ble_eq_true rfl) (fun X h ht => ?_)
  show J l G X _ 7 0 [.ref 0, .int x, .int y, .int z, .float 0, .float 0, .float 0] [] mu 0
  refine rX7_deliverAll_0 h (fun q => ?_) (fun q q2 => ?_) (fun q q2 q3 => ?_) (fun q q2 q3 q4 => ?_) (fun q q2 q3 q4 => ?_)
  · exact tX7_deliverAll_20 h ht (by decide) (by decide) (exC.of (k := 1) (by unfold cdAll; rw [if_pos (Or.inl q)]) (by decide) rfl)
  · exact tX7_deliverAll_20 h ht (by decide) (by decide) (exC.of (k := 1) (by unfold cdAll; rw [if_pos (Or.inr (Or.inl q2))]) (by decide) rfl)
  · exact tX7_deliverAll_20 h ht (by decide) (by decide) (exC.of (k := 1) (by unfold cdAll; rw [if_pos (Or.inr (Or.inr (Or.inl q3)))]) (by decide) rfl)
  · have ex : cdAll run x z = if run then 0 else 2 := by
      unfold cdAll
      rw [if_neg]
      rintro (w | w | w | w)
      · exact q w
      · exact q2 w
      · exact q3 w
      · exact i_le_nlt q4 w
    refine rX7_deliverAll_31 h ht (c_needRun hl hG hr) (by decide) (by decide) (fun E m1 e1 => ?_) (fun m1 e1 => ?_)
    · obtain ⟨rfl, rfl, rfl⟩ := e1
      exact exC.of (k := 2) (by rw [ex]; rfl) (by decide) rfl
    obtain ⟨rfl, rfl⟩ := e1
    obtain ⟨hA0, hS, hR⟩ := hA rfl
    have hZ := hA0.1
    obtain ⟨M, hM, rfl⟩ := nI_of2 (M := 2000) (n := 2000) rfl q3 q4
    rw [nI_clamp (by omega)]
    refine rX7_deliverAll_34 h ?_
    have loop : ∀ (w c : Nat) (d : Int32) (s1 : RS) (m2 : jM), c + w = M → RunA Z s1 → RepC s1 m2 → Same WR m1 m2 → dAll Z x w d c s1 = dAll Z x M y 0 s → J l G X (jRx G X 6 (va_Qi (fun v mu' => cdAll true x (nI M) = 0 ∧ v = nI (dAll Z x M y 0 s).1 ∧ RepC (dAll Z x M y 0 s).2 mu' ∧ Same WR m1 mu') (jB G) (jA G)) (exC (cdAll true x (nI M)) [E_IAE, E_ISE] m1)) 7 40 [.ref 0, .int x, .int y, .int (nI M), .int d, .int (nI c), .float 0] [] m2 (0 + 1) := by
      intro w
      induction w with
      | zero =>
        intro c d s1 m2 hc A1 R1 W1 he
        have hle : nI M ≤ nI c := nI_le (by omega) (by omega)
        refine rX7_deliverAll_40 h (fun w => absurd hle w) (fun _ => ?_) (fun w => absurd hle w) (fun w => absurd hle w) (fun w => absurd hle w) (fun w => absurd hle w)
        refine rX7_deliverAll_134 h ?_
        rw [← he]
        exact J_iretX h dX7_deliverAll_136 rfl (by decide) ⟨by rw [ex]; rfl, rfl, R1, W1⟩
      | succ w ih =>
        intro c d s1 m2 hc A1 R1 W1 he
        have hle : ¬ nI M ≤ nI c := nI_ge (by omega) (by omega)
        obtain ⟨b1, -, -⟩ := A1.2.1.bd hZ.1
        have e25 : m2 25 2 = nI s1.lt.length := R1.2.2.2.2.1.1
        have hcmp : (m2 25 2 ≤ 0) ↔ s1.lt.length = 0 := by rw [e25, nL0, nI_leI (by omega) (by omega)]; omega
        have next : ∀ (d1 : Int32) (i : Nat) (x6 : Int32), ¬ s1.lt.length = 0 → d1 = (if x = 2 then drw d else d) → i = pick x d1 s1.lt.length → x6 = nI i → J l G X (jRx G X 6 (va_Qi (fun v mu' => cdAll true x (nI M) = 0 ∧ v = nI (dAll Z x M y 0 s).1 ∧ RepC (dAll Z x M y 0 s).2 mu' ∧ Same WR m1 mu') (jB G) (jA G)) (exC (cdAll true x (nI M)) [E_IAE, E_ISE] m1)) 7 118 [.ref 0, .int x, .int y, .int (nI M), .int d1, .int (nI c), .int x6] [] m2 (0 + 1) := by
          intro d1 i x6 hne hd1 hi hx6
          have hlt : i < s1.lt.length := by rw [hi]; exact pick_lt (by omega)
          obtain ⟨e, he2⟩ : ∃ e, s1.lt[i]? = some e := ⟨_, List.getElem?_eq_getElem hlt⟩
          refine rX7_deliverAll_118 h ?_
          rw [hx6]
          refine rX7_deliverAll_124 h (c_handOver hl hG hZ A1.2.1 A1.2.2 (hS.same W1 (by decide)) R1 he2) (by decide) (by decide) (fun v m3 e3 => ?_)
          refine rX7_deliverAll_127 h ?_
          rw [nI_1]
          refine J_forget 6 (ih (c + 1) d1 _ m3 (by omega) (dlv_ok hZ A1 i) e3.2.1 (W1.trans' e3.2.2) ?_)
          rw [← he]
          conv => rhs; unfold dAll
          rw [if_neg hne, ← hd1, ← hi]
        refine rX7_deliverAll_40 h (fun _ w1 _ _ w2 => w1 (by rw [w2]; decide)) (fun w => absurd w hle) (fun _ w1 => ?_) (fun _ w1 w2 w3 => ?_) (fun _ w1 w2 w3 => ?_) (fun _ w1 w2 => ?_)
        · rw [hcmp] at w1
          refine rX7_deliverAll_134 h ?_
          have he2 : dAll Z x (w + 1) d c s1 = (c, s1) := by unfold dAll; rw [if_pos w1]
          rw [he2] at he
          rw [← he]
          exact J_iretX h dX7_deliverAll_136 rfl (by decide) ⟨by rw [ex]; rfl, rfl, R1, W1⟩
        · rw [hcmp] at w1
          have hx0 : x = 0 := by
            obtain ⟨k, hk, rfl⟩ := nI_of2 (M := 2) (n := 2) rfl q (i_nlt q2)
            have : k ≠ 1 := fun z => w2 (by rw [z]; rfl)
            have : k ≠ 2 := fun z => w3 (by rw [z]; rfl)
            rw [show k = 0 by omega]; rfl
          exact next d 0 0 w1 (by rw [if_neg w3]) (by unfold pick; rw [if_pos hx0]) rfl
        · rw [hcmp] at w1
          have hd : drw d = d * 1103515245 + 12345 := rfl
          rw [← hd, e25, pk_draw _ (by omega) (by omega)]
          refine next (drw d) _ _ w1 (by rw [if_pos w3]) ?_ rfl
          unfold pick
          rw [if_neg (by rw [w3]; decide), if_neg w2]
        · rw [hcmp] at w1
          rw [e25, nL1, nI_sub (by omega)]
          refine next d _ _ w1 (by rw [if_neg (by rw [w2]; decide)]) ?_ rfl
          unfold pick
          rw [if_neg (by rw [w2]; decide), if_pos w2]
    exact loop M 0 y s m1 (by omega) hA0 hR Same.rfl' rfl
  · exact tX7_deliverAll_20 h ht (by decide) (by decide) (exC.of (k := 1) (by unfold cdAll; rw [if_pos (Or.inr (Or.inr (Or.inr (i_nle q4))))]) (by decide) rfl)
theorem c_switchTo (hl : l.stackTraces = false) (hG : jGok G) {run : Bool} (hr : RunC run mu) {Z : NT} {s : RS} (hA : run = true → RunA Z s ∧ StC Z mu ∧ RepC s mu) (x : Int32) : jXi l G yX7_switchTo cX7_switchTo 2 8 6 (some .int) [.ref 0, .int x] mu
    (fun r mu' => cdSw run s.sw.length x = 0 ∧ (∃ v, v ≤ 2 ∧ x = nI v ∧ RepC (swS Z s v) mu') ∧ r = nI (mxR s.rd Z.n + 1) ∧ Same [19, 56, 57] mu mu') (exC (cdSw run s.sw.length x) [E_IAE, E_ISE, E_UOE] mu) := by
  refine jXi.of (pad := 0) hl hG (by decide) (Nat.le_of_ble_eq_true rfl) (fun X h ht => ?_)
  show J l G X _ 2 0 [.ref 0, .int x] [] mu 0
  refine rX7_switchTo_0 h ?_
  refine rX7_switchTo_1 h (c_isWay hl hG x) (by decide) (by decide) (fun w m1 e1 => ?_)
  obtain ⟨hw, rfl⟩ := e1
  refine rX7_switchTo_4 h (fun q => ?_) (fun q => ?_)
  · have hw' := hw.yes q
    have ex : cdSw run s.sw.length x = if run then (if s.sw.length = 9 then 3 else 0) else 2 := by unfold cdSw; rw [if_neg (by rintro (z | z); exact hw'.1 z; exact hw'.2 z)]
    refine rX7_switchTo_18 h ht (c_needRun hl hG hr) (by decide) (by decide) (fun E m2 e2 => ?_) (fun m2 e2 => ?_)
    · obtain ⟨rfl, rfl, rfl⟩ := e2
      exact exC.of (k := 2) (by rw [ex]; rfl) (by decide) rfl
    obtain ⟨rfl, rfl⟩ := e2
    obtain ⟨⟨hZ, hI, hE⟩, hS, hR⟩ := hA rfl
    have h9 := hE.2.2.1
    have e15 : (m2 19 15 ≤ 8) ↔ s.sw.length ≤ 8 := by rw [hR.2.2.2.2.2.2.1]; exact nI_leI (b := 8) (by omega) (by omega)
    refine rX7_switchTo_21 h (fun q2 => ?_) (fun q2 => ?_)
    · rw [e15] at q2
      obtain ⟨v, hv2, rfl⟩ := nI_of2 (M := 2) (n := 2) rfl hw'.1 (i_nlt hw'.2)
      refine rX7_switchTo_48 h (c_changeWay hl hG hZ hI hS hR q2 v) (by decide) (by decide) (fun r m3 e3 => ?_)
      obtain ⟨rfl, R3, W3⟩ := e3
      exact J_iretX h dX7_switchTo_51 rfl (by decide) ⟨by rw [ex, if_pos rfl, if_neg (by omega)], ⟨v, hv2, rfl, R3⟩, rfl, W3⟩
    · rw [e15] at q2
      exact tX7_switchTo_33 h ht (by decide) (by decide) (exC.of (k := 3) (by rw [ex, if_pos rfl, if_pos (by omega)]) (by decide) rfl)
  · have hw' := hw.no q
    refine tX7_switchTo_7 h ht (by decide) (by decide) (exC.of (k := 1) ?_ (by decide) rfl)
    unfold cdSw
    rw [if_pos]
    by_cases z : x < 0
    · exact Or.inl z
    · by_cases z2 : 2 < x
      · exact Or.inr z2
      · exact absurd ⟨z, z2⟩ hw'
theorem c_roundOf (hl : l.stackTraces = false) (hG : jGok G) {run : Bool} (hr : RunC run mu) {n : Nat} (hn24 : n ≤ 24) (hN : mu 6 0 = nI n) {s : RS} (hA : run = true → RepC s mu) (x : Int32) : jXi l G yX7_roundOf cX7_roundOf 2 8 6 (some .int) [.ref 0, .int x] mu
    (fun v mu' => cdRd n run x = 0 ∧ v = nI (s.rd x.toNatClampNeg) ∧ mu' = mu) (exC (cdRd n run x) [E_NSE, E_ISE] mu) := by
  refine jXi.of (pad := 0) hl hG (by decide) (Nat.le_of_ble_eq_true rfl) (fun X h ht => ?_)
  show J l G X _ 2 0 [.ref 0, .int x] [] mu 0
  refine rX7_roundOf_0 h ?_
  refine rX7_roundOf_2 h ht (c_needNode hl hG hN x) (by decide) (by decide) (fun E m1 e1 => ?_) (fun m1 e1 => ?_)
  · obtain ⟨rfl, rfl, q⟩ := e1
    exact exC.of (k := 1) (by unfold cdRd; rw [if_pos q]) (by decide) rfl
  obtain ⟨rfl, hx⟩ := e1
  have ex : cdRd n run x = if run then 0 else 2 := by unfold cdRd; rw [if_neg (fun z => z hx)]
  refine rX7_roundOf_5 h ?_
  refine rX7_roundOf_6 h ht (c_needRun hl hG hr) (by decide) (by decide) (fun E m2 e2 => ?_) (fun m2 e2 => ?_)
  · obtain ⟨rfl, rfl, rfl⟩ := e2
    exact exC.of (k := 2) (by rw [ex]; rfl) (by decide) rfl
  obtain ⟨rfl, rfl⟩ := e2
  obtain ⟨a, ha, rfl⟩ := hx.nat hn24
  refine rX7_roundOf_9 h (vp_in_nI (by omega) (by omega)) ?_
  rw [nI_clamp (by omega), ((hA rfl).1 a (by omega)).1]
  exact J_iretX h dX7_roundOf_18 rfl (by decide) ⟨by rw [ex]; rfl, rfl, rfl⟩
theorem c_value (hl : l.stackTraces = false) (hG : jGok G) {run : Bool} (hr : RunC run mu) {n : Nat} (hn24 : n ≤ 24) (hN : mu 6 0 = nI n) {s : RS} (hA : run = true → RepC s mu) (x y : Int32) : jXi l G yX7_value cX7_value 3 8 6 (some .int) [.ref 0, .int x, .int y] mu
    (fun v mu' => cdVal n run x y = 0 ∧ v = s.ps.1 (x.toNatClampNeg * 8 + y.toNatClampNeg) ∧ mu' = mu) (exC (cdVal n run x y) [E_NSE, E_IOB, E_ISE] mu) := by
  refine jXi.of (pad := 0) hl hG (by decide) (Nat.le_of_ble_eq_true rfl) (fun X h ht => ?_)
  show J l G X _ 3 0 [.ref 0, .int x, .int y] [] mu 0
  refine rX7_value_0 h ?_
  refine rX7_value_2 h ht (c_needNode hl hG hN x) (by decide) (by decide) (fun E m1 e1 => ?_) (fun m1 e1 => ?_)
  · obtain ⟨rfl, rfl, q⟩ := e1
    exact exC.of (k := 1) (by unfold cdVal; rw [if_pos q]) (by decide) rfl
  obtain ⟨rfl, hx⟩ := e1
  refine rX7_value_5 h ?_
  refine rX7_value_6 h ht (c_needReg hl hG y) (by decide) (by decide) (fun E m2 e2 => ?_) (fun m2 e2 => ?_)
  · obtain ⟨rfl, rfl, q⟩ := e2
    exact exC.of (k := 2) (by unfold cdVal; rw [if_neg (fun z => z hx), if_pos q]) (by decide) rfl
  obtain ⟨rfl, hy⟩ := e2
  have ex : cdVal n run x y = if run then 0 else 3 := by unfold cdVal; rw [if_neg (fun z => z hx), if_neg (fun z => z hy)]
  refine rX7_value_9 h ?_
  refine rX7_value_10 h ht (c_needRun hl hG hr) (by decide) (by decide) (fun E m3 e3 => ?_) (fun m3 e3 => ?_)
  · obtain ⟨rfl, rfl, rfl⟩ := e3
    exact exC.of (k := 3) (by rw [ex]; rfl) (by decide) rfl
  obtain ⟨rfl, rfl⟩ := e3
  obtain ⟨a, ha, rfl⟩ := hx.nat hn24
  obtain ⟨r, hr8, rfl⟩ := hy.nat
  have e : nI a * 8 + nI r = nI (a * 8 + r) := by rw [nL8, nI_mul, nI_add]
  refine rX7_value_13 h (by rw [e]; exact vp_in_nI (by omega) (by omega)) ?_
  rw [e, nI_clamp (n := a * 8 + r) (by omega), (hA rfl).2.1.1 _ (by omega : a * 8 + r < 192), nI_clamp (by omega), nI_clamp (by omega)]
  exact J_iretX h dX7_value_30 rfl (by decide) ⟨by rw [ex]; rfl, rfl, rfl⟩
theorem c_place (hl : l.stackTraces = false) (hG : jGok G) {run : Bool} (hr : RunC run mu) {n : Nat} {lk : Lk} (hok : NetOk n lk) (hN : NetC n lk mu) {pr : List Wd} {p : Nat} (hA : run = true → conn lk n ∧ StC (mkZ n lk pr p) mu ∧ PcC n lk p mu) (x y : Int32) : jXi l G yX7_place cX7_place 3 8 6 (some .int) [.ref 0, .int x, .int y] mu
    (fun v mu' => cdPl n run x y = 0 ∧ v = plV n lk p x.toNatClampNeg y.toNatClampNeg ∧ mu' = mu) (exC (cdPl n run x y) [E_NSE, E_IOB, E_ISE] mu) := by
  refine jXi.of (pad := 0) hl hG (by decide) (Nat.le_of_ble_eq_true rfl) (fun X h ht => ?_)
  show J l G X _ 3 0 [.ref 0, .int x, .int y] [] mu 0
  have hn24 := hok.1
  refine rX7_place_0 h ?_
  refine rX7_place_2 h ht (c_needNode hl hG hN.1 x) (by decide) (by decide) (fun E m1 e1 => ?_) (fun m1 e1 => ?_)
  · obtain ⟨rfl, rfl, q⟩ := e1
    exact exC.of (k := 1) (by unfold cdPl; rw [if_pos q]) (by decide) rfl
  obtain ⟨rfl, hx⟩ := e1
  refine rX7_place_5 h (fun q => ?_) (fun q q2 => ?_) (fun q q2 => ?_)
  · exact tX7_place_14 h ht (by decide) (by decide) (exC.of (k := 2) (by unfold cdPl; rw [if_neg (fun z => z hx), if_pos (Or.inl q)]) (by decide) rfl)
  · have ex : cdPl n run x y = if run then 0 else 3 := by unfold cdPl; rw [if_neg (fun z => z hx), if_neg (by rintro (z | z); exact q z; exact i_le_nlt q2 z)]
    refine rX7_place_25 h ht (c_needRun hl hG hr) (by decide) (by decide) (fun E m3 e3 => ?_) (fun m3 e3 => ?_)
    · obtain ⟨rfl, rfl, rfl⟩ := e3
      exact exC.of (k := 3) (by rw [ex]; rfl) (by decide) rfl
    obtain ⟨rfl, rfl⟩ := e3
    obtain ⟨hc, hS, hPc⟩ := hA rfl
    obtain ⟨a, ha, rfl⟩ := hx.nat hn24
    obtain ⟨w, hw5, rfl⟩ := nI_of2 (M := 5) (n := 5) rfl q q2
    have va : vp_in (nI a) 24 := vp_in_nI (by omega) (by omega)
    have hca : (nI a).toNatClampNeg = a := nI_clamp (by omega)
    obtain ⟨k1, k2, k3⟩ := hPc.1 a ha
    obtain ⟨s1, s2, s3⟩ := hS.2.2 a ha
    have h0 : cdPl n true (nI a) (nI w) = 0 := by rw [ex]; rfl
    have ev : ∀ k : Nat, k < 2 ^ 31 → (nI w = nI k ↔ w = k) := fun k hk => nI_eq (by omega) hk
    rw [hca, nI_clamp (n := w) (by omega)]
    refine rX7_place_28 h ?_
    refine rX7_place_29 h (fun z => ?_) (fun z => ?_) (fun z => ?_) (fun z => ?_) (fun z => ?_) (fun z0 z1 z2 z3 z4 => ?_)
    · have hw := (ev 0 (by omega)).mp z
      subst hw
      refine rX7_place_64 h va ?_
      rw [hca, s1]
      exact J_iretX h dX7_place_76 rfl (by decide) ⟨h0, rfl, rfl⟩
    · have hw := (ev 1 (by omega)).mp z
      subst hw
      refine rX7_place_77 h va ?_
      rw [hca, k1]
      exact J_iretX h dX7_place_89 rfl (by decide) ⟨h0, rfl, rfl⟩
    · have hw := (ev 2 (by omega)).mp z
      subst hw
      refine rX7_place_90 h va ?_
      rw [hca, k3]
      exact J_iretX h dX7_place_102 rfl (by decide) ⟨h0, rfl, rfl⟩
    · have hw := (ev 3 (by omega)).mp z
      subst hw
      refine rX7_place_103 h va ?_
      rw [hca, s2]
      exact J_iretX h dX7_place_118 rfl (by decide) ⟨h0, rfl, rfl⟩
    · have hw := (ev 4 (by omega)).mp z
      subst hw
      refine rX7_place_119 h va ?_
      rw [hca, k2]
      exact J_iretX h dX7_place_134 rfl (by decide) ⟨h0, rfl, rfl⟩
    · have hw : w = 5 := by
        have n0 : w ≠ 0 := fun z => z0 (by rw [z]; rfl)
        have n1 : w ≠ 1 := fun z => z1 (by rw [z]; rfl)
        have n2 : w ≠ 2 := fun z => z2 (by rw [z]; rfl)
        have n3 : w ≠ 3 := fun z => z3 (by rw [z]; rfl)
        have n4 : w ≠ 4 := fun z => z4 (by rw [z]; rfl)
        omega
      subst hw
      refine rX7_place_135 h va ?_
      refine rX7_place_147 h (c_bitCount hl hG _) (by decide) (by decide) (fun v m4 e4 => ?_)
      obtain ⟨rfl, rfl⟩ := e4
      refine J_iretX h dX7_place_150 rfl (by decide) ⟨h0, ?_, rfl⟩
      rw [hca]
      have hz := zok_mk0 hok hc p
      rw [cnt32 (n := n) (by omega) (S := cN lk (clV (clAll lk n p)) lk.length a) (fun i hi => (s3 i hi).2.2) (fun b hb => (hok.nb (hz.2.2.2.2.1 a b hb).1).2.1)]
      rfl
  · exact tX7_place_14 h ht (by decide) (by decide) (exC.of (k := 2) (by unfold cdPl; rw [if_neg (fun z => z hx), if_pos (Or.inr (i_nle q2))]) (by decide) rfl)
theorem c_needCluster (hl : l.stackTraces = false) (hG : jGok G) {run : Bool} (hr : RunC run mu) {k : Nat} (hA : run = true → mu 37 0 = nI k) (x : Int32) : jXv l G yX7_needCluster cX7_needCluster 2 6 1 [.ref 0, .int x] mu (fun mu' => mu' = mu ∧ run = true ∧ ¬ x < 0 ∧ x < nI k) (fun E mu' => mu' = mu ∧ E = E_IOB ∧ ¬ (run = true ∧ ¬ x < 0 ∧ x < nI k)) := by
  refine jXv.of (pad := 0) hl hG (by decide) (Nat.le_of_ble_eq_true rfl) (fun X h ht => ?_)
  show J l G X _ 2 0 [.ref 0, .int x] [] mu 0
  refine rX7_needCluster_0 h (fun q => ?_) (fun q q2 => ?_) (fun q q2 q3 => ?_) (fun q q2 q3 => ?_)
  · exact tX7_needCluster_25 h ht (by decide) (by decide) ⟨rfl, rfl, fun z => by rw [hr.f q] at z; cases z.1⟩
  · exact tX7_needCluster_25 h ht (by decide) (by decide) ⟨rfl, rfl, fun z => z.2.1 q2⟩
  · rw [hA (hr.t q)] at q3
    exact J_vretX h dX7_needCluster_36 (by decide) ⟨rfl, hr.t q, q2, q3⟩
  · rw [hA (hr.t q)] at q3
    exact tX7_needCluster_25 h ht (by decide) (by decide) ⟨rfl, rfl, fun z => q3 z.2.2⟩
theorem c_chosen (hl : l.stackTraces = false) (hG : jGok G) {run : Bool} (hr : RunC run mu) {n : Nat} {lk : Lk} (hok : NetOk n lk) {p : Nat} (hA : run = true → PcC n lk p mu) (x y : Int32) : jXi l G yX7_chosen cX7_chosen 3 8 6 (some .int) [.ref 0, .int x, .int y] mu
    (fun v mu' => cdCh run (clAll lk n p).1 x y = 0 ∧ v = parI (chF lk (clV (clAll lk n p)) x.toNatClampNeg y.toNatClampNeg lk.length) ∧ mu' = mu) (exC (cdCh run (clAll lk n p).1 x y) [E_IOB] mu) := by
  refine jXi.of (pad := 0) hl hG (by decide) (Nat.le_of_ble_eq_true rfl) (fun X h ht => ?_)
  show J l G X _ 3 0 [.ref 0, .int x, .int y] [] mu 0
  have hn24 := hok.1
  have hk := (clAll_CI hok p).2.2.1
  refine rX7_chosen_0 h ?_
  refine rX7_chosen_2 h ht (c_needCluster hl hG hr (fun q => (hA q).2.1) x) (by decide) (by decide) (fun E m1 e1 => ?_) (fun m1 e1 => ?_)
  · obtain ⟨rfl, rfl, q⟩ := e1
    exact exC.of (k := 1) (by unfold cdCh; rw [if_neg (fun z => q ⟨z.1, z.2.1⟩)]) (by decide) rfl
  obtain ⟨rfl, h1, h2⟩ := e1
  subst h1
  refine rX7_chosen_5 h ?_
  refine rX7_chosen_7 h ht (c_needCluster hl hG hr (fun q => (hA q).2.1) y) (by decide) (by decide) (fun E m2 e2 => ?_) (fun m2 e2 => ?_)
  · obtain ⟨rfl, rfl, q⟩ := e2
    exact exC.of (k := 1) (by unfold cdCh; rw [if_neg (fun z => q ⟨z.1, z.2.2⟩)]) (by decide) rfl
  obtain ⟨rfl, -, h3⟩ := e2
  have h0 : cdCh true (clAll lk n p).1 x y = 0 := by unfold cdCh; rw [if_pos ⟨rfl, h2, h3⟩]
  obtain ⟨c, hc, rfl⟩ := nI_big (by omega) h2.1 h2.2
  obtain ⟨d, hd, rfl⟩ := nI_big (by omega) h3.1 h3.2
  have e : nI c * 24 + nI d = nI (c * 24 + d) := by rw [nL24, nI_mul, nI_add]
  refine rX7_chosen_10 h (by rw [e]; exact vp_in_nI (by omega) (by omega)) ?_
  rw [e, nI_clamp (by omega), nI_clamp (by omega), nI_clamp (by omega), (hA rfl).2.2.2.1 c d (by omega) (by omega)]
  exact J_iretX h dX7_chosen_27 rfl (by decide) ⟨h0, rfl, rfl⟩
theorem c_count (hl : l.stackTraces = false) (hG : jGok G) {run : Bool} (hr : RunC run mu) {n : Nat} {lk : Lk} (hN : NetC n lk mu) {p : Nat} {s : RS} (hA : run = true → PcC n lk p mu ∧ RepC s mu) (x : Int32) : jXi l G yX7_count cX7_count 2 8 6 (some .int) [.ref 0, .int x] mu
    (fun v mu' => cdCt run x = 0 ∧ v = ctV n lk p s x.toNatClampNeg ∧ mu' = mu) (exC (cdCt run x) [E_IOB] mu) := by
  refine jXi.of (pad := 0) hl hG (by decide) (Nat.le_of_ble_eq_true rfl) (fun X h ht => ?_)
  show J l G X _ 2 0 [.ref 0, .int x] [] mu 0
  refine rX7_count_0 h (fun q => ?_) (fun q q2 => ?_) (fun q q2 q3 => ?_) (fun q q2 q3 => ?_)
  · exact tX7_count_17 h ht (by decide) (by decide) (exC.of (k := 1) (by unfold cdCt; rw [if_neg (fun z => by rw [hr.f q] at z; cases z.1)]) (by decide) rfl)
  · exact tX7_count_17 h ht (by decide) (by decide) (exC.of (k := 1) (by unfold cdCt; rw [if_neg (fun z => z.2.1 q2)]) (by decide) rfl)
  · have hrt := hr.t q
    obtain ⟨hPc, hR⟩ := hA hrt
    have h0 : cdCt run x = 0 := by unfold cdCt; rw [if_pos ⟨hrt, q2, i_le_nlt q3⟩]
    obtain ⟨w, hw6, rfl⟩ := nI_of2 (M := 6) (n := 6) rfl q2 q3
    have hcw : (nI w).toNatClampNeg = w := nI_clamp (by omega)
    have ev : ∀ k : Nat, k < 2 ^ 31 → (nI w = nI k ↔ w = k) := fun k hk => nI_eq (by omega) hk
    rw [hcw]
    have low : w < 3 → J l G X (jRx G X 6 (va_Qi (fun v mu' => cdCt run (nI w) = 0 ∧ v = ctV n lk p s w ∧ mu' = mu) (jB G) (jA G)) (exC (cdCt run (nI w)) [E_IOB] mu)) 2 68 [.ref 0, .int (nI w)] [] mu 0 := fun hw => by
      refine rX7_count_68 h (vp_in_nI (by omega) (by omega)) ?_
      rw [hcw, hR.2.2.2.2.1.2.2 w hw]
      exact J_iretX h dX7_count_80 rfl (by decide) ⟨h0, by unfold ctV; rw [if_pos hw], rfl⟩
    refine rX7_count_28 h (fun z => ?_) (fun z => ?_) (fun z => ?_) (fun z => ?_) (fun z => ?_) (fun z => ?_) (fun z0 z1 z2 z3 z4 z5 => ?_)
    · exact low (by have := (ev 0 (by omega)).mp z; omega)
    · exact low (by have := (ev 1 (by omega)).mp z; omega)
    · exact low (by have := (ev 2 (by omega)).mp z; omega)
    · have hw := (ev 3 (by omega)).mp z
      subst hw
      refine rX7_count_81 h ?_
      rw [hR.2.2.2.2.2.1.2]
      exact J_iretX h dX7_count_88 rfl (by decide) ⟨h0, rfl, rfl⟩
    · have hw := (ev 4 (by omega)).mp z
      subst hw
      refine rX7_count_89 h ?_
      rw [hN.2.1]
      exact J_iretX h dX7_count_98 rfl (by decide) ⟨h0, rfl, rfl⟩
    · have hw := (ev 5 (by omega)).mp z
      subst hw
      refine rX7_count_99 h ?_
      rw [hN.1]
      exact J_iretX h dX7_count_110 rfl (by decide) ⟨h0, rfl, rfl⟩
    · have hw : w = 6 := by
        have n0 : w ≠ 0 := fun z => z0 (by rw [z]; rfl)
        have n1 : w ≠ 1 := fun z => z1 (by rw [z]; rfl)
        have n2 : w ≠ 2 := fun z => z2 (by rw [z]; rfl)
        have n3 : w ≠ 3 := fun z => z3 (by rw [z]; rfl)
        have n4 : w ≠ 4 := fun z => z4 (by rw [z]; rfl)
        have n5 : w ≠ 5 := fun z => z5 (by rw [z]; rfl)
        omega
      subst hw
      refine rX7_count_111 h ?_
      rw [hN.1, hPc.2.1, hPc.2.2.1]
      exact J_iretX h dX7_count_144 rfl (by decide) ⟨h0, rfl, rfl⟩
  · exact tX7_count_17 h ht (by decide) (by decide) (exC.of (k := 1) (by unfold cdCt; rw [if_neg (fun z => z.2.2 (i_nle q3))]) (by decide) rfl)
end C69
