/-! ===== the reference's run: a node goes on ===== -/
def stA (s : RS) (ps : PS) (hd : Nat → Nat → Nat → Nat → Bool) : RS := (s.rd, s.op, ps, s.sd, s.td, s.al, hd, s.lt, s.ct, s.st, s.wi, s.sw)
def stB (Z : NT) (s : RS) (a c : Nat) (lt : List Lt) (ct : Nat → Nat) (wi : Nat) : RS :=
  (nxRd s a, (fun y => if y = a then c else s.op y), (rgSet s.ps.1 a (nxEx Z s a).1, bxClr s.ps.2 (s.rd a % 2) a), setB s.sd a false, setB s.td a false, setB s.al a false, (fun K q b c => if b = a ∧ q = s.rd a % 2 then false else s.hd K q b c), lt, ct, s.st, wi, s.sw)
theorem PsR.box {lk : Lk} {ps : PS} {mu : jM} (h : PsR lk ps mu) {q : Nat} (hq : q < 2) : BoxR 71 72 lk q (fun _ => True) ps.2 mu := by
  have : q = 0 ∨ q = 1 := by omega
  rcases this with rfl | rfl
  · exact h.2.1
  · exact h.2.2
theorem BoxR.clrO {n T V q : Nat} {lk : Lk} (hok : NetOk n lk) {P : Nat → Prop} {bx bx' : Bx} {mu mu' : jM} (h : BoxR T V lk q P bx mu) {q0 b p l : Nat} (hl : (pll lk b)[p]? = some l) (h1 : mu' T = upd (mu T) (120 * q0 + dr lk l b) 0) (h2 : mu' V = mu V) (hb : ∀ b' p', ¬ (q = q0 ∧ b' = b ∧ p' = p) → bx' q b' p' = bx q b' p') (hb0 : bx' q0 b p = none) : BoxR T V lk q P bx' mu' := fun b' p' l' a1 a2 => by
  obtain ⟨-, -, d1, -⟩ := port_link hok hl
  obtain ⟨-, -, d2, -⟩ := port_link hok a2
  have r1 := dr_lt hok b d1
  have r2 := dr_lt hok b' d2
  rw [h1, h2]
  by_cases e : 120 * q + dr lk l' b' = 120 * q0 + dr lk l b
  · have hq : q = q0 := by omega
    obtain ⟨rfl, rfl, rfl⟩ := dr_inj hok a2 hl (by omega)
    subst hq
    rw [hb0]
    simp [upd]
  · simp only [upd, if_neg e]
    rw [hb b' p' (fun z => e (by
      obtain ⟨rfl, rfl, rfl⟩ := z
      rw [hl] at a2
      cases a2
      rfl))]
    exact h b' p' l' a1 a2
section C65
variable {l : Launch} {G : jG} {mu : jM}
set_option maxHeartbeats 1000000 in
theorem k_next (hl : l.stackTraces = false) (hG : jGok G) {Z : NT} (hZ : NT.ok Z) {s : RS} (hS : StR Z mu) (hR : RepR Z s mu) {a : Nat} (ha : a < Z.n) (hr : ∀ x, s.rd x ≤ 500) (hwi : s.wi ≤ 500) (hx : ∀ x y, x < Z.n → y < Z.n → s.rd x ≤ s.rd y + s.wi) (hlen : (s.lt ++ nxPg Z s a).length ≤ 512) :
    jCv l G yX8_next cX8_next 4 5 [.ref 58, .int (nI a)] mu (fun mu' => RepR Z (nx1 Z s a) mu' ∧ SmR WQ FQ mu mu') := by
  refine jCv.of (pad := 2) hl hG (by decide) (Nat.le_of_ble_eq_true rfl) (fun X h => ?_)
  show J l G X _ 4 0 [.ref 58, .int (nI a), .float 0, .float 0] [] mu 0
  obtain ⟨hZ1, hval, hprl⟩ := hZ
  have hok := hZ1.1
  have hn24 := hok.1
  have ha24 : a < 24 := by omega
  have hra := hr a
  have h24 := nbl24 hok a
  have hca : (nI a).toNatClampNeg = a := nI_clamp (by omega)
  have va : vp_in (nI a) 24 := vp_in_nI ha24 (by omega)
  have hnpl : (nbl Z.lk a).length = (pll Z.lk a).length := by rw [nbl_eq hok, List.length_map]
  have fin : ∀ m ls, RepR Z (stB Z s a (nxPg Z s a).length (s.lt ++ nxPg Z s a) (ctAdd s.ct (nxPg Z s a)) (mxW (nxRd s a) a Z.n s.wi)) m → SmR WQ FQ mu m → J l G X (jRv G X (fun mu' => RepR Z (nx1 Z s a) mu' ∧ SmR WQ FQ mu mu')) 4 244 ls [] m 0 := fun m ls h1 h2 => J_vret h dX8_next_244 ⟨h1, h2⟩
  revert fin
  generalize jRv G X (fun mu' => RepR Z (nx1 Z s a) mu' ∧ SmR WQ FQ mu mu') = Q0
  intro fin
  obtain ⟨x, hxx⟩ : ∃ x, x = nxEx Z s a := ⟨_, rfl⟩
  have hpg : nxPg Z s a = (List.range' 0 (nbl Z.lk a).length).filterMap (fun p => (x.2 p).map (fun v => ((0, a, (nbl Z.lk a).getD p 0, s.rd a + 1, v) : Lt))) := by
    rw [hxx, show nxPg Z s a = pgL Z.lk a (s.rd a + 1) (nxEx Z s a).2 from rfl]; unfold pgL; rw [List.range_eq_range']
  -- letters go out
  have sends : ∀ (w p c : Nat) (lt1 : List Lt) (ct1 : Nat → Nat) (m : jM), p + w = (nbl Z.lk a).length → RepR Z (stB Z s a c lt1 ct1 (mxW (nxRd s a) a Z.n s.wi)) m → (∀ p, p < 24 → m 69 p = if (x.2 p).isSome then 1 else 0) → (∀ p v, p < 24 → x.2 p = some v → m 70 p = v) → SmR WQ FQ mu m → lt1 ++ (List.range' p w).filterMap (fun p => (x.2 p).map (fun v => ((0, a, (nbl Z.lk a).getD p 0, s.rd a + 1, v) : Lt))) = s.lt ++ nxPg Z s a → ctAdd ct1 ((List.range' p w).filterMap (fun p => (x.2 p).map (fun v => ((0, a, (nbl Z.lk a).getD p 0, s.rd a + 1, v) : Lt)))) = ctAdd s.ct (nxPg Z s a) → c + s.lt.length = lt1.length →
      J l G X Q0 4 178 [.ref 58, .int (nI a), .int (nI (s.rd a)), .int (nI p)] [] m 0 := by
    intro w
    induction w with
    | zero =>
      intro p c lt1 ct1 m hp q1 q2 q3 q4 q5 q6 q7
      have S1 := hS.run q4
      have hle : m 61 (nI a).toNatClampNeg ≤ nI p := by rw [hca, (S1.1.2.2.2 a ha24).1, ← hnpl]; exact nI_le (by omega) (by omega)
      refine rX8_next_178 h va (fun z => absurd hle z) (fun z => absurd hle z) (fun z => absurd hle z) (fun z => absurd hle z) (fun _ => ?_) (fun z => absurd hle z) (fun z => absurd hle z)
      simp only [List.range'_zero, List.filterMap_nil, List.append_nil] at q5 q6
      rw [ctAdd_nil] at q6
      rw [q5, List.length_append] at q7
      rw [q5, q6, show c = (nxPg Z s a).length by omega] at q1
      exact fin m _ q1 q4
    | succ w ih =>
      intro p c lt1 ct1 m hp q1 q2 q3 q4 q5 q6 q7
      have S1 := hS.run q4
      have hle : ¬ m 61 (nI a).toNatClampNeg ≤ nI p := by rw [hca, (S1.1.2.2.2 a ha24).1, ← hnpl]; exact nI_ge (by omega) (by omega)
      obtain ⟨b, hb⟩ : ∃ b, (nbl Z.lk a)[p]? = some b := ⟨_, List.getElem?_eq_getElem (by omega : p < (nbl Z.lk a).length)⟩
      have hgd : (nbl Z.lk a).getD p 0 = b := by rw [List.getD_eq_getElem?_getD, hb]; rfl
      obtain ⟨lp, e, hlp, he, -, -, -, -⟩ := port_nb hok hb
      obtain ⟨e', he', -, -, hother⟩ := port_link hok hlp
      rw [he] at he'
      have := Option.some.inj he'
      subst this
      rw [hb] at hother
      have hother := Option.some.inj hother
      have c1 : 24 * nI a + nI p = nI (24 * a + p) := by rw [nL24, nI_mul, nI_add]
      have k1 : (nI (24 * a + p)).toNatClampNeg = 24 * a + p := nI_clamp (by omega)
      have vp : vp_in (nI p) 24 := vp_in_nI (by omega) (by omega)
      have hcp : (nI p).toNatClampNeg = p := nI_clamp (by omega)
      rw [List.range'_succ] at q5 q6
      refine rX8_next_178 h va (fun _ => vp) (fun _ _ => va) (fun _ _ => va) (fun _ _ => by rw [c1]; exact vp_in_nI (by omega) (by omega)) (fun z => absurd z hle) (fun _ q => ?_) (fun _ q => ?_)
      · rw [hcp, q2 p (by omega)] at q
        have hn : x.2 p = none := by
          cases hz : x.2 p with
          | none => rfl
          | some u => rw [hz] at q; simp at q
        refine rX8_next_238 h ?_
        rw [nI_1]
        rw [List.filterMap_cons_none (by rw [hn]; rfl)] at q5 q6
        exact ih (p + 1) c lt1 ct1 m (by omega) q1 q2 q3 q4 q5 q6 q7
      · rw [hcp, q2 p (by omega)] at q
        obtain ⟨u, hu⟩ : ∃ u, x.2 p = some u := by
          cases hz : x.2 p with
          | none => rw [hz] at q; exact absurd rfl q
          | some u => exact ⟨u, rfl⟩
        rw [List.filterMap_cons_some (by rw [hu]; rfl), hgd] at q5 q6
        have hl1 : lt1.length < 512 := by
          have h9 := hlen
          rw [← q5] at h9
          simp only [List.length_append, List.length_cons] at h9
          omega
        have e77 : m 77 a = nI c := by
          have := (q1.1 a ha24).2
          rw [this]
          show nI (if a = a then c else s.op a) = nI c
          rw [if_pos rfl]
        rw [c1, k1, hca, (S1.1.2.2.2 a ha24).2 p lp hlp, e77, nI_1]
        have R2 : RepR Z (stB Z s a (c + 1) lt1 ct1 (mxW (nxRd s a) a Z.n s.wi)) (wr m 77 a (nI (c + 1))) := by
          refine ⟨fun y hy => ⟨(q1.1 y hy).1, ?_⟩, q1.2.1, q1.2.2.1, q1.2.2.2.1, q1.2.2.2.2.1, q1.2.2.2.2.2.1, q1.2.2.2.2.2.2⟩
          show (if y = a then nI (c + 1) else m 77 y) = nI (if y = a then c + 1 else s.op y)
          by_cases z : y = a
          · rw [if_pos z, if_pos z]
          · rw [if_neg z, if_neg z, (q1.1 y hy).2]
            show nI (if y = a then c else s.op y) = nI (s.op y)
            rw [if_neg z]
        have W2 : SmR WQ FQ mu (wr m 77 a (nI (c + 1))) := q4.trans' (SmR.wr (by decide) (by decide))
        refine rX8_next_223 h (k_otherEnd hl hG hok (hS.run W2).1.2.2.1 he ha24) (by decide) (Nat.zero_le _) (fun v m2 e1 => ?_)
        obtain ⟨rfl, rfl⟩ := e1
        rw [← hother]
        refine rX8_next_226 h vp ?_
        have e70 : (wr m 77 a (nI (c + 1))) 70 (nI p).toNatClampNeg = u := by rw [hcp]; exact q3 p u (by omega) hu
        rw [e70, nI_1]
        refine rX8_next_235 h (k_send hl hG (lt := lt1) (ct := ct1) R2.2.2.2.2.1 (by omega) (K := 0) (by omega) a b (s.rd a + 1) u) (by decide) (Nat.zero_le _) (fun m3 e3 => ?_)
        refine rX8_next_238 h ?_
        rw [nI_1]
        have R3 := R2.lets (sd := setB s.sd a false) (td := setB s.td a false) (al := setB s.al a false) (e3.2.wide (by decide) (by decide)) (R2.2.2.1.congr (e3.2.1 78 (by decide) (by decide)) (e3.2.1 79 (by decide) (by decide)) (e3.2.1 80 (by decide) (by decide))) e3.1
        refine ih (p + 1) (c + 1) _ _ m3 (by omega) R3 (fun p' hp' => ?_) (fun p' v' hp' hv' => ?_) (W2.trans' (e3.2.wide (by decide) (by decide))) ?_ ?_ ?_
        · rw [e3.2.1 69 (by decide) (by decide)]; exact q2 p' hp'
        · rw [e3.2.1 70 (by decide) (by decide)]; exact q3 p' v' hp' hv'
        · rw [← q5, List.append_assoc]; rfl
        · rw [← q6, ctAdd_app]; rfl
        · rw [List.length_append]
          simp only [List.length_cons, List.length_nil]
          omega
  -- the kinds that came are forgotten; the node's flags; its round
  have kinds : ∀ (w K : Nat) (m : jM), K + w = 8 → RepR Z (stA s (rgSet s.ps.1 a (nxEx Z s a).1, bxClr s.ps.2 (s.rd a % 2) a) (fun K' q b c => if b = a ∧ q = s.rd a % 2 ∧ K' < K then false else s.hd K' q b c)) m → (∀ p, p < 24 → m 69 p = if (x.2 p).isSome then 1 else 0) → (∀ p v, p < 24 → x.2 p = some v → m 70 p = v) → SmR WQ FQ mu m →
      J l G X Q0 4 134 [.ref 58, .int (nI a), .int (nI (s.rd a)), .int (nI K)] [] m 0 := by
    intro w
    induction w with
    | zero =>
      intro K m hK q1 q2 q3 q4
      have hge : 8 ≤ nI K := nI_le (a := 8) (by omega) (by omega)
      refine rX8_next_134 h (fun _ => ?_) (fun z => absurd hge z)
      refine rX8_next_160 h (k_clearNode hl hG ha24) (by decide) (Nat.zero_le _) (fun m1 e1 => ?_)
      refine rX8_next_163 h va ?_
      rw [hca, nI_1]
      have R2 : RepR Z (stB Z s a 0 s.lt s.ct s.wi) (wr m1 75 a (nI (s.rd a + 1))) := by
        subst e1
        refine ⟨fun y hy => ⟨?_, ?_⟩, q1.2.1, fun y hy => ⟨?_, ?_, ?_⟩, fun K' q b k1 k2 k3 k4 => ?_, q1.2.2.2.2.1, q1.2.2.2.2.2.1, q1.2.2.2.2.2.2⟩
        · show (if y = a then nI (s.rd a + 1) else m 75 y) = nI (if y = a then s.rd a + 1 else s.rd y)
          by_cases z : y = a
          · rw [if_pos z, if_pos z]
          · rw [if_neg z, if_neg z]; exact (q1.1 y hy).1
        · show (if y = a then 0 else m 77 y) = nI (if y = a then 0 else s.op y)
          by_cases z : y = a
          · rw [if_pos z, if_pos z]; rfl
          · rw [if_neg z, if_neg z]; exact (q1.1 y hy).2
        · show (if y = a then 0 else m 78 y) = if setB s.sd a false y then 1 else 0
          unfold setB
          by_cases z : y = a
          · rw [if_pos z, if_pos z]; rfl
          · rw [if_neg z, if_neg z]; exact (q1.2.2.1 y hy).1
        · show (if y = a then 0 else m 79 y) = if setB s.al a false y then 1 else 0
          unfold setB
          by_cases z : y = a
          · rw [if_pos z, if_pos z]; rfl
          · rw [if_neg z, if_neg z]; exact (q1.2.2.1 y hy).2.1
        · show (if y = a then 0 else m 80 y) = if setB s.td a false y then 1 else 0
          unfold setB
          by_cases z : y = a
          · rw [if_pos z, if_pos z]; rfl
          · rw [if_neg z, if_neg z]; exact (q1.2.2.1 y hy).2.2
        · have := q1.2.2.2.1 K' q b k1 k2 k3 k4
          show m 81 (16 * b + 8 * q + K') = nI (cnt Z.n (fun c => if b = a ∧ q = s.rd a % 2 then false else s.hd K' q b c))
          rw [this]
          congr 1
          refine fb_ct_cong (fun c _ => ?_)
          show (if b = a ∧ q = s.rd a % 2 ∧ K' < K then false else s.hd K' q b c) = if b = a ∧ q = s.rd a % 2 then false else s.hd K' q b c
          by_cases z : b = a ∧ q = s.rd a % 2
          · rw [if_pos ⟨z.1, z.2, by omega⟩, if_pos z]
          · rw [if_neg (fun y => z ⟨y.1, y.2.1⟩), if_neg z]
      have W2 : SmR WQ FQ mu (wr m1 75 a (nI (s.rd a + 1))) := by
        rw [e1]
        exact (q4.trans' ((((SmR.wr (by decide) (by decide)).trans' (SmR.wr (by decide) (by decide))).trans' (SmR.wr (by decide) (by decide))).trans' (SmR.wr (by decide) (by decide)))).trans' (SmR.wr (by decide) (by decide))
      have hnr : ∀ y, nxRd s a y ≤ 1000 := fun y => by
        unfold nxRd
        have := hr y
        split <;> omega
      refine rX8_next_173 h (k_measure hl hG hn24 (hS.run W2).1.1 (rd := nxRd s a) (fun y hy => (R2.1 y hy).1) hnr ha (v := s.wi) (by omega) R2.2.2.2.2.2.1.2 (fun y z hy hz hne => ?_)) (by decide) (Nat.zero_le _) (fun m3 e3 => ?_)
      · have := hx y z hy hz
        unfold nxRd
        rw [if_neg hne]
        split
        · next q => rw [q] at this; omega
        · exact this
      · refine rX8_next_176 h ?_
        refine sends _ 0 0 s.lt s.ct m3 (Nat.zero_add _) ?_ ?_ ?_ ?_ ?_ ?_ (Nat.zero_add _)
        · subst e3
          exact ⟨R2.1, R2.2.1, R2.2.2.1, R2.2.2.2.1, R2.2.2.2.2.1, ⟨R2.2.2.2.2.2.1.1, rfl⟩, R2.2.2.2.2.2.2⟩
        · subst e3; subst e1; exact q2
        · subst e3; subst e1; exact q3
        · rw [e3]; exact W2.trans' (SmR.fld (by decide))
        · rw [hpg]
        · rw [hpg]
    | succ w ih =>
      intro K m hK q1 q2 q3 q4
      have hge : ¬ 8 ≤ nI K := nI_ge (b := 8) (by omega) (by omega)
      refine rX8_next_134 h (fun z => absurd z hge) (fun _ => ?_)
      refine rX8_next_147 h (k_spot hl hG a K (by omega)) (by decide) (Nat.zero_le _) (fun v m1 e1 => ?_)
      obtain ⟨rfl, rfl⟩ := e1
      refine rX8_next_150 h (vp_in_nI (by omega) (by omega)) ?_
      rw [nI_1, nI_clamp (by omega)]
      refine ih (K + 1) _ (by omega) ⟨q1.1, q1.2.1, q1.2.2.1, fun K' q b k1 k2 k3 k4 => ?_, q1.2.2.2.2.1, q1.2.2.2.2.2.1, q1.2.2.2.2.2.2⟩ q2 q3 (q4.trans' (SmR.wr (by decide) (by decide)))
      have := q1.2.2.2.1 K' q b k1 k2 k3 k4
      show (if 16 * b + 8 * q + K' = 16 * a + 8 * (s.rd a % 2) + K then 0 else m1 81 (16 * b + 8 * q + K')) = nI (cnt Z.n (fun c => if b = a ∧ q = s.rd a % 2 ∧ K' < K + 1 then false else s.hd K' q b c))
      by_cases z : 16 * b + 8 * q + K' = 16 * a + 8 * (s.rd a % 2) + K
      · rw [if_pos z]
        have hb : b = a ∧ q = s.rd a % 2 ∧ K' < K + 1 := by omega
        have : cnt Z.n (fun c => if b = a ∧ q = s.rd a % 2 ∧ K' < K + 1 then false else s.hd K' q b c) = 0 := fb_ct_zero.mpr (fun c _ => if_pos hb)
        rw [this]
        rfl
      · rw [if_neg z, this]
        congr 1
        refine fb_ct_cong (fun c _ => ?_)
        show (if b = a ∧ q = s.rd a % 2 ∧ K' < K then false else s.hd K' q b c) = if b = a ∧ q = s.rd a % 2 ∧ K' < K + 1 then false else s.hd K' q b c
        by_cases y : b = a ∧ q = s.rd a % 2 ∧ K' < K
        · rw [if_pos y, if_pos ⟨y.1, y.2.1, by omega⟩]
        · rw [if_neg y, if_neg (fun y' => y ⟨y'.1, y'.2.1, by omega⟩)]
  -- the letters of the round are taken out
  have clear : ∀ (w p : Nat) (m : jM), p + w = (nbl Z.lk a).length → RepR Z (stA s (rgSet s.ps.1 a (nxEx Z s a).1, fun q b p' => if q = s.rd a % 2 ∧ b = a ∧ p' < p then none else s.ps.2 q b p') s.hd) m → (∀ p, p < 24 → m 69 p = if (x.2 p).isSome then 1 else 0) → (∀ p v, p < 24 → x.2 p = some v → m 70 p = v) → SmR WQ FQ mu m →
      J l G X Q0 4 87 [.ref 58, .int (nI a), .int (nI (s.rd a)), .int (nI p)] [] m 0 := by
    intro w
    induction w with
    | zero =>
      intro p m hp q1 q2 q3 q4
      have S1 := hS.run q4
      have hle : m 61 (nI a).toNatClampNeg ≤ nI p := by rw [hca, (S1.1.2.2.2 a ha24).1, ← hnpl]; exact nI_le (by omega) (by omega)
      refine rX8_next_87 h va (fun z => absurd hle z) (fun _ => ?_) (fun z => absurd hle z)
      have hbox : ∀ q, BoxR 71 72 Z.lk q (fun _ => True) (fun q b p' => if q = s.rd a % 2 ∧ b = a ∧ p' < p then none else s.ps.2 q b p') m → BoxR 71 72 Z.lk q (fun _ => True) (bxClr s.ps.2 (s.rd a % 2) a) m := fun q hq b p' l' a1 a2 => by
        have := hq b p' l' a1 a2
        have e : bxClr s.ps.2 (s.rd a % 2) a q b p' = if q = s.rd a % 2 ∧ b = a ∧ p' < p then none else s.ps.2 q b p' := by
          unfold bxClr
          by_cases z : q = s.rd a % 2 ∧ b = a
          · have hp' := (List.getElem?_eq_some_iff.mp a2).1
            rw [z.2] at hp'
            rw [if_pos z, if_pos ⟨z.1, z.2, by omega⟩]
          · rw [if_neg z, if_neg (fun y => z ⟨y.1, y.2.1⟩)]
        rw [e]
        exact this
      refine kinds 8 0 m (by omega) ⟨q1.1, ⟨q1.2.1.1, hbox 0 q1.2.1.2.1, hbox 1 q1.2.1.2.2⟩, q1.2.2.1, fun K' q b k1 k2 k3 k4 => ?_, q1.2.2.2.2.1, q1.2.2.2.2.2.1, q1.2.2.2.2.2.2⟩ q2 q3 q4
      rw [q1.2.2.2.1 K' q b k1 k2 k3 k4]
      congr 1
      exact fb_ct_cong (fun c _ => (if_neg (fun y => absurd y.2.2 (Nat.not_lt_zero _))).symm)
    | succ w ih =>
      intro p m hp q1 q2 q3 q4
      have S1 := hS.run q4
      have hle : ¬ m 61 (nI a).toNatClampNeg ≤ nI p := by rw [hca, (S1.1.2.2.2 a ha24).1, ← hnpl]; exact nI_ge (by omega) (by omega)
      obtain ⟨lp, hlp⟩ : ∃ lp, (pll Z.lk a)[p]? = some lp := ⟨_, List.getElem?_eq_getElem (by omega : p < (pll Z.lk a).length)⟩
      obtain ⟨e, he, hll, -, -⟩ := port_link hok hlp
      have c1 : 24 * nI a + nI p = nI (24 * a + p) := by rw [nL24, nI_mul, nI_add]
      have k1 : (nI (24 * a + p)).toNatClampNeg = 24 * a + p := nI_clamp (by omega)
      refine rX8_next_87 h va (fun _ => by rw [c1]; exact vp_in_nI (by omega) (by omega)) (fun z => absurd z hle) (fun _ => ?_)
      rw [c1, k1, (S1.1.2.2.2 a ha24).2 p lp hlp, nI_mod2 _ (by omega)]
      refine rX8_next_120 h (k_towards hl hG hok S1.1.2.2.1 he ha24) (by decide) (Nat.zero_le _) (fun v m2 e1 => ?_)
      obtain ⟨rfl, rfl⟩ := e1
      have hdr := dr_lt hok a hll
      have c2 : 120 * nI (s.rd a % 2) + nI (dr Z.lk lp a) = nI (120 * (s.rd a % 2) + dr Z.lk lp a) := by rw [nL120, nI_mul, nI_add]
      have k2 : (nI (120 * (s.rd a % 2) + dr Z.lk lp a)).toNatClampNeg = 120 * (s.rd a % 2) + dr Z.lk lp a := nI_clamp (by omega)
      refine rX8_next_123 h (by rw [c2]; exact vp_in_nI (by omega) (by omega)) ?_
      rw [c2, k2, nI_1, show vp_nar .boolean 0 = 0 from rfl]
      have hbx : ∀ q, BoxR 71 72 Z.lk q (fun _ => True) (fun q b p' => if q = s.rd a % 2 ∧ b = a ∧ p' < p then none else s.ps.2 q b p') m2 → BoxR 71 72 Z.lk q (fun _ => True) (fun q b p' => if q = s.rd a % 2 ∧ b = a ∧ p' < p + 1 then none else s.ps.2 q b p') (wr m2 71 (120 * (s.rd a % 2) + dr Z.lk lp a) 0) := fun q hq =>
        hq.clrO hok (q0 := s.rd a % 2) hlp rfl rfl (fun b' p' z => by
          show (if q = s.rd a % 2 ∧ b' = a ∧ p' < p + 1 then none else s.ps.2 q b' p') = if q = s.rd a % 2 ∧ b' = a ∧ p' < p then none else s.ps.2 q b' p'
          by_cases y : q = s.rd a % 2 ∧ b' = a ∧ p' < p
          · rw [if_pos y, if_pos ⟨y.1, y.2.1, by omega⟩]
          · rw [if_neg y, if_neg (fun y' => y ⟨y'.1, y'.2.1, by
              have : p' ≠ p := fun e => z ⟨y'.1, y'.2.1, e⟩
              omega⟩)]) (if_pos ⟨rfl, rfl, by omega⟩)
      exact ih (p + 1) _ (by omega) ⟨q1.1, ⟨q1.2.1.1, hbx 0 q1.2.1.2.1, hbx 1 q1.2.1.2.2⟩, q1.2.2.1, q1.2.2.2.1, q1.2.2.2.2.1, q1.2.2.2.2.2.1, q1.2.2.2.2.2.2⟩ q2 q3 (q4.trans' (SmR.wr (by decide) (by decide)))
  -- registers back
  have back : ∀ (w r : Nat) (m : jM), r + w = 8 → RepR Z (stA s ((fun j => if a * 8 ≤ j ∧ j < a * 8 + r then x.1 (j - a * 8) else s.ps.1 j), s.ps.2) s.hd) m → (∀ r, r < 8 → m 66 r = x.1 r) → (∀ p, p < 24 → m 69 p = if (x.2 p).isSome then 1 else 0) → (∀ p v, p < 24 → x.2 p = some v → m 70 p = v) → SmR WQ FQ mu m →
      J l G X Q0 4 56 [.ref 58, .int (nI a), .int (nI (s.rd a)), .int (nI r)] [] m 0 := by
    intro w
    induction w with
    | zero =>
      intro r m hr8 q1 q66 q2 q3 q4
      have hge : 8 ≤ nI r := nI_le (a := 8) (by omega) (by omega)
      refine rX8_next_56 h (fun z => absurd hge z) (fun z => absurd hge z) (fun _ => ?_) (fun z => absurd hge z)
      refine clear (nbl Z.lk a).length 0 m (by omega) ⟨q1.1, ⟨fun j hj => ?_, ?_, ?_⟩, q1.2.2.1, q1.2.2.2.1, q1.2.2.2.2.1, q1.2.2.2.2.2.1, q1.2.2.2.2.2.2⟩ q2 q3 q4
      · rw [q1.2.1.1 j hj, show r = 8 by omega, hxx]; rfl
      · intro b p' l' a1 a2
        have := q1.2.1.2.1 b p' l' a1 a2
        simp only [Nat.not_lt_zero, and_false, if_false]
        exact this
      · intro b p' l' a1 a2
        have := q1.2.1.2.2 b p' l' a1 a2
        simp only [Nat.not_lt_zero, and_false, if_false]
        exact this
    | succ w ih =>
      intro r m hr8 q1 q66 q2 q3 q4
      have hge : ¬ 8 ≤ nI r := nI_ge (b := 8) (by omega) (by omega)
      have c1 : 8 * nI a + nI r = nI (8 * a + r) := by rw [nL8, nI_mul, nI_add]
      have k1 : (nI (8 * a + r)).toNatClampNeg = 8 * a + r := nI_clamp (by omega)
      refine rX8_next_56 h (fun _ => vp_in_nI (by omega) (by omega)) (fun _ => by rw [c1]; exact vp_in_nI (by omega) (by omega)) (fun z => absurd z hge) (fun _ => ?_)
      rw [c1, k1, nI_1, nI_clamp (n := r) (by omega), q66 r (by omega)]
      refine ih (r + 1) _ (by omega) ⟨q1.1, ⟨fun j hj => ?_, q1.2.1.2.1, q1.2.1.2.2⟩, q1.2.2.1, q1.2.2.2.1, q1.2.2.2.2.1, q1.2.2.2.2.2.1, q1.2.2.2.2.2.2⟩ q66 q2 q3 (q4.trans' (SmR.wr (by decide) (by decide)))
      show (if j = 8 * a + r then x.1 r else m 76 j) = if a * 8 ≤ j ∧ j < a * 8 + (r + 1) then x.1 (j - a * 8) else s.ps.1 j
      have h0 : m 76 j = if a * 8 ≤ j ∧ j < a * 8 + r then x.1 (j - a * 8) else s.ps.1 j := q1.2.1.1 j hj
      by_cases z : j = 8 * a + r
      · rw [if_pos z, if_pos (by omega), show j - a * 8 = r by omega]
      · rw [if_neg z, h0]
        by_cases y : a * 8 ≤ j ∧ j < a * 8 + r
        · rw [if_pos y, if_pos (by omega)]
        · rw [if_neg y, if_neg (by omega)]
  refine rX8_next_0 h va ?_
  rw [hca, (hR.1 a ha24).1, nI_mod2 _ (by omega)]
  refine rX8_next_12 h (k_takeIn hl hG hok hS.1 (q := s.rd a % 2) (by omega) (hR.2.1.box (by omega)) ha24) (by decide) (Nat.zero_le _) (fun m1 e1 => ?_)
  obtain ⟨t1, t2⟩ := e1
  refine rX8_next_15 h ?_
  have load : ∀ (w r : Nat) (m : jM), r + w = 8 → (∀ r', r' < r → m 66 r' = s.ps.1 (a * 8 + r')) → SmR [66] [] m1 m → J l G X Q0 4 17 [.ref 58, .int (nI a), .int (nI (s.rd a)), .int (nI r)] [] m 0 := by
    intro w
    induction w with
    | zero =>
      intro r m hr8 q1 q2
      have hge : 8 ≤ nI r := nI_le (a := 8) (by omega) (by omega)
      refine rX8_next_17 h (fun z => absurd hge z) (fun z => absurd hge z) (fun _ => ?_) (fun z => absurd hge z)
      rw [nI_1]
      have W2 : SmR WQ FQ mu m := (t2.wide (by decide) (by decide)).trans' (q2.wide (by decide) (by decide))
      have S2 := hS.run W2
      refine rX8_next_51 h (k_doProgram hl hG S2.2.1 hval hprl (E := envOf Z.lk (s.rd a + 1) a s.ps.2) (R := fun r => s.ps.1 (a * 8 + r)) ha24 (by show m 61 a = nI (nbl Z.lk a).length; rw [(S2.1.2.2.2 a ha24).1, hnpl]) h24 (fun r' hr' => q1 r' (by omega)) (fun p hp => by
        rw [q2.1 67 (by decide) (by decide), q2.1 68 (by decide) (by decide)]
        exact t1 p hp)) (by decide) (Nat.zero_le _) (fun m3 e3 => ?_)
      obtain ⟨⟨u1, u2, u3, u4⟩, u5⟩ := e3
      have hE : exec Z.pr (envOf Z.lk (s.rd a + 1) a s.ps.2) (fun r => s.ps.1 (a * 8 + r)) = x := hxx.symm
      rw [hE] at u1 u2 u3
      refine rX8_next_54 h ?_
      have W3 : SmR WQ FQ mu m3 := W2.trans' (u5.wide (by decide) (by decide))
      have hc : ∀ c, c ≠ 58 → c ≠ 66 → c ≠ 67 → c ≠ 68 → c ≠ 69 → c ≠ 70 → m3 c = mu c := fun c n0 n1 n2 n3 n4 n5 => by
        rw [u5.1 c (by simp only [List.mem_cons, List.not_mem_nil, or_false]; omega) n0, q2.1 c (by simp only [List.mem_cons, List.not_mem_nil, or_false]; omega) n0, t2.1 c (by simp only [List.mem_cons, List.not_mem_nil, or_false]; omega) n0]
      have hf : ∀ f, m3 58 f = mu 58 f := fun f => by rw [u5.2 f (by simp), q2.2 f (by simp), t2.2 f (by simp)]
      refine back 8 0 m3 (by omega) ⟨hR.1.congr (hc 75 (by decide) (by decide) (by decide) (by decide) (by decide) (by decide)) (hc 77 (by decide) (by decide) (by decide) (by decide) (by decide) (by decide)), ?_, hR.2.2.1.congr (hc 78 (by decide) (by decide) (by decide) (by decide) (by decide) (by decide)) (hc 79 (by decide) (by decide) (by decide) (by decide) (by decide) (by decide)) (hc 80 (by decide) (by decide) (by decide) (by decide) (by decide) (by decide)), hR.2.2.2.1.congr (hc 81 (by decide) (by decide) (by decide) (by decide) (by decide) (by decide)), hR.2.2.2.2.1.congr (hf 38) (hc 89 (by decide) (by decide) (by decide) (by decide) (by decide) (by decide)) (hc 90 (by decide) (by decide) (by decide) (by decide) (by decide) (by decide)), by rw [hf, hf]; exact hR.2.2.2.2.2.1, hR.2.2.2.2.2.2.congr (hf 20) (hc 73 (by decide) (by decide) (by decide) (by decide) (by decide) (by decide)) (hc 74 (by decide) (by decide) (by decide) (by decide) (by decide) (by decide))⟩ u1 u2 u3 W3
      have P3 := hR.2.1.congr (hc 76 (by decide) (by decide) (by decide) (by decide) (by decide) (by decide)) (hc 71 (by decide) (by decide) (by decide) (by decide) (by decide) (by decide)) (hc 72 (by decide) (by decide) (by decide) (by decide) (by decide) (by decide))
      refine ⟨fun j hj => ?_, P3.2.1, P3.2.2⟩
      rw [P3.1 j hj]
      exact (if_neg (by omega)).symm
    | succ w ih =>
      intro r m hr8 q1 q2
      have hge : ¬ 8 ≤ nI r := nI_ge (b := 8) (by omega) (by omega)
      have c1 : 8 * nI a + nI r = nI (8 * a + r) := by rw [nL8, nI_mul, nI_add]
      have k1 : (nI (8 * a + r)).toNatClampNeg = 8 * a + r := nI_clamp (by omega)
      refine rX8_next_17 h (fun _ => by rw [c1]; exact vp_in_nI (by omega) (by omega)) (fun _ => vp_in_nI (by omega) (by omega)) (fun z => absurd z hge) (fun _ => ?_)
      rw [c1, k1, nI_1, nI_clamp (n := r) (by omega), q2.1 76 (by decide) (by decide), t2.1 76 (by decide) (by decide), hR.2.1.1 _ (by omega : 8 * a + r < 192)]
      refine ih (r + 1) _ (by omega) (fun r' hr' => ?_) (q2.trans' (SmR.wr (by decide) (by decide)))
      show (if r' = r then s.ps.1 (8 * a + r) else m 66 r') = _
      by_cases z : r' = r
      · rw [if_pos z, z, Nat.mul_comm]
      · rw [if_neg z]; exact q1 r' (by omega)
  exact load 8 0 m1 (by omega) (fun r' hr' => absurd hr' (Nat.not_lt_zero _)) SmR.rfl'
end C65
