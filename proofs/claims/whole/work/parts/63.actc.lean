/-! ===== the class's run: all that a node can do; letters come; another way ===== -/
def SwOk (sw : List (Nat × Nat)) : Prop := 1 ≤ sw.length ∧ sw.length ≤ 9 ∧ (∀ e ∈ sw, e.1 ≤ 501 ∧ e.2 ≤ 2) ∧ ∀ e, sw[0]? = some e → e.1 = 0
def Ext (s : RS) : Prop := s.wi ≤ 500 ∧ SwOk s.sw
theorem take_one {α : Type} (l : List α) {i : Nat} {e : α} (h : l[i]? = some e) : l.take (i + 1) = l.take i ++ [e] := by
  apply List.ext_getElem?
  intro j
  have hi := (List.getElem?_eq_some_iff.mp h).1
  rw [List.getElem?_append, List.length_take]
  by_cases h1 : j < i
  · rw [if_pos (by omega), List.getElem?_take_of_lt (by omega), List.getElem?_take_of_lt h1]
  · rw [if_neg (by omega)]
    by_cases h2 : j = i
    · subst h2
      rw [List.getElem?_take_of_lt (by omega), h, show j - min j l.length = 0 by omega]
      rfl
    · rw [List.getElem?_eq_none (by rw [List.length_take]; omega), List.getElem?_eq_none (by simp; omega)]
theorem wy_take (sw : List (Nat × Nat)) {i : Nat} {e : Nat × Nat} (h : sw[i]? = some e) (k : Nat) : wy (sw.take (i + 1)) k = if e.1 ≤ k then e.2 else wy (sw.take i) k := by
  rw [take_one sw h]
  exact wy_app _ _ _
theorem dd_sw (Z : NT) (s : RS) (a d : Nat) : (dd Z s a d).sw = s.sw := by
  unfold dd
  split <;> rfl
theorem Ext.deed {Z : NT} {s : RS} {a : Nat} (h : Ext s) (hI : Inv Z (dd Z s a (dk Z s a))) : Ext (dd Z s a (dk Z s a)) := by
  refine ⟨?_, by rw [dd_sw]; exact h.2⟩
  have h1 := hI.2.2.2.1
  have h2 := hI.2.2.2.2.1
  revert h1 h2
  generalize dk Z s a = d
  unfold dd
  intro h1 h2
  split
  · exact h.1
  · next q =>
    rw [if_neg q] at h1 h2
    exact mxW_bd (Nat.le_trans (h1 a) h2) h.1 Z.n
theorem Ext.act {Z : NT} (hZ : ZOk Z.n Z.lk Z.par Z.grp Z.ch) {a : Nat} (ha : a < Z.n) : ∀ (f : Nat) (s : RS), Inv Z s → Ext s → Ext (actF Z a f s)
  | 0, s, _, h => h
  | f + 1, s, hI, h => by
    unfold actF
    split
    · exact h
    · next q =>
      have := (inv_deed hZ hI ha q).1
      exact Ext.act hZ ha f _ this (h.deed this)
section C63
variable {l : Launch} {G : jG} {mu : jM}
theorem c_wayOut (hl : l.stackTraces = false) (hG : jGok G) {sw : List (Nat × Nat)} (hw : SwC sw mu) (hok : SwOk sw) {k : Nat} (hk : k ≤ 500) : jCi l G yX5_wayOutOf cX5_wayOutOf 3 1 (some .int) [.ref 19, .int (nI k)] mu (fun v mu' => v = nI (wy sw k) ∧ mu' = mu) := by
  refine jCi.of (pad := 1) hl hG (by decide) (Nat.le_of_ble_eq_true rfl) (fun X h => ?_)
  show J l G X _ 3 0 [.ref 19, .int (nI k), .float 0] [] mu 0
  refine rX5_wayOutOf_0 h ?_
  rw [hw.1, nL1, nI_sub hok.1]
  have loop : ∀ i, i < sw.length → wy (sw.take (i + 1)) k = wy sw k → J l G X (jRi G X (fun v mu' => v = nI (wy sw k) ∧ mu' = mu)) 3 7 [.ref 19, .int (nI k), .int (nI i)] [] mu 0 := by
    intro i
    induction i with
    | zero =>
      intro hi he
      obtain ⟨e, h0⟩ : ∃ e, sw[0]? = some e := ⟨_, List.getElem?_eq_getElem hi⟩
      have hle : nI 0 ≤ 0 := by decide
      refine rX5_wayOutOf_7 h (fun z => absurd hle z) (fun z => absurd hle z) (fun _ => ?_) (fun z => absurd hle z) (fun z => absurd hle z)
      refine J_iret h dX5_wayOutOf_40 rfl ⟨?_, rfl⟩
      rw [wy_take sw h0, if_pos (by rw [hok.2.2.2 e h0]; omega)] at he
      rw [← he]
      exact (hw.2 0 e h0).2
    | succ i ih =>
      intro hi he
      obtain ⟨e, h0⟩ : ∃ e, sw[i + 1]? = some e := ⟨_, List.getElem?_eq_getElem hi⟩
      have hle : ¬ nI (i + 1) ≤ 0 := nI_nle (by omega) (by have := hok.2.1; omega)
      have hi9 := hok.2.1
      have he1 := (hok.2.2.1 e (List.mem_of_getElem? h0)).1
      have v9 : vp_in (nI (i + 1)) 9 := vp_in_nI (by omega) (by omega)
      have hc : (nI (i + 1)).toNatClampNeg = i + 1 := nI_clamp (by omega)
      rw [wy_take sw h0] at he
      refine rX5_wayOutOf_7 h (fun _ => v9) (fun _ _ => v9) (fun z => absurd z hle) (fun _ q => ?_) (fun _ q => ?_)
      · rw [hc, (hw.2 _ e h0).1, nI_ltI (by omega) (by omega)] at q
        rw [if_neg (by omega)] at he
        rw [show nI (i + 1) + (-1) = nI (i + 1) - 1 by rw [Int32.sub_eq_add_neg], nI_pred]
        exact ih (by omega) he
      · rw [hc, (hw.2 _ e h0).1, nI_ltI (by omega) (by omega)] at q
        rw [if_pos (by omega)] at he
        refine J_iret h dX5_wayOutOf_27 rfl ⟨?_, rfl⟩
        rw [hc, (hw.2 _ e h0).2, he]
  exact loop (sw.length - 1) (by have := hok.1; omega) (by rw [show sw.length - 1 + 1 = sw.length from (by have := hok.1; omega), List.take_length])
/-- a node does all that it can -/
theorem c_carryOn (hl : l.stackTraces = false) (hG : jGok G) {Z : NT} (hZ : NT.ok Z) {s : RS} (hI : Inv Z s) (hE : Ext s) (hS : StC Z mu) (hR : RepC s mu) {a : Nat} (ha : a < Z.n) :
    jCv l G yX5_carryOn cX5_carryOn 5 6 [.ref 19, .int (nI a)] mu (fun mu' => RepC (act Z a s) mu' ∧ Same WR mu mu') := by
  refine jCv.of (pad := 3) hl hG (by decide) (Nat.le_of_ble_eq_true rfl) (fun X h => ?_)
  show J l G X _ 5 0 [.ref 19, .int (nI a), .float 0, .float 0, .float 0] [] mu 0
  have hn24 := hZ.1.1.1
  have ha24 : a < 24 := by omega
  have hca : (nI a).toNatClampNeg = a := nI_clamp (by omega)
  have va : vp_in (nI a) 24 := vp_in_nI ha24 (by omega)
  refine rX5_carryOn_0 h ?_
  have loop : ∀ (f i : Nat) (s1 : RS) (m1 : jM), i + f ≤ 2100 → mea s1 a < f → Inv Z s1 → Ext s1 → StC Z m1 → RepC s1 m1 → Same WR mu m1 → actF Z a f s1 = act Z a s →
      J l G X (jRv G X (fun mu' => RepC (act Z a s) mu' ∧ Same WR mu mu')) 5 2 [.ref 19, .int (nI a), .int (nI i), .float 0, .float 0] [] m1 0 := by
    intro f
    induction f with
    | zero => intro i s1 m1 _ hm; exact absurd hm (Nat.not_lt_zero _)
    | succ f ih =>
      intro i s1 m1 hif hm I1 E1 S1 R1 W1 he
      have hlt : ¬ 1000000 ≤ nI i := nI_ge (b := 1000000) (by omega) (by omega)
      obtain ⟨b1, b2, b3⟩ := I1.bd hZ.1
      have hrd := (b3 a).1
      refine rX5_carryOn_2 h (fun _ => va) (fun z => absurd z hlt) (fun _ => ?_)
      rw [hca, (R1.1 a ha24).1]
      refine rX5_carryOn_15 h (c_wayOut hl hG R1.2.2.2.2.2.2 E1.2 hrd) (by decide) (Nat.zero_le _) (fun v m2 e1 => ?_)
      obtain ⟨rfl, rfl⟩ := e1
      refine rX5_carryOn_18 h ?_
      refine rX5_carryOn_22 h (c_nextDeed hl hG hZ.1 I1 S1 R1 ha) (by decide) (Nat.zero_le _) (fun v m3 e1 => ?_)
      obtain ⟨rfl, rfl⟩ := e1
      have hw2 := I1.2.2.2.2.2.2.2.1 (s1.rd a)
      have hdc := dk_cases Z s1 a
      by_cases hd0 : dk Z s1 a = 0
      · have hz : nI (dk Z s1 a) = 0 := by rw [hd0]; rfl
        refine rX5_carryOn_25 h (fun z => absurd hz z) (fun z => absurd hz z) (fun _ => ?_)
        refine J_vret h dX5_carryOn_32 ⟨?_, W1⟩
        rw [← he]
        unfold actF
        rw [if_pos hd0]
        exact R1
      · have hd7 : dk Z s1 a < 7 := by omega
        have hz : ¬ nI (dk Z s1 a) = 0 := nI_ne0 (by omega) (by omega)
        obtain ⟨I2, hm2⟩ := inv_deed hZ.1 I1 ha hd0
        have E2 := E1.deed I2
        have hlen2 := (I2.bd hZ.1).1
        have hlen : (s1.lt ++ outD Z s1 a (dk Z s1 a)).length ≤ 456 := by
          revert hlen2
          generalize dk Z s1 a = d
          intro hlen2
          unfold dd at hlen2
          split at hlen2
          · exact hlen2
          · have h9 : ((s1.lt ++ outD Z s1 a d) ++ nxPg Z s1 a).length ≤ 456 := hlen2
            rw [List.length_append] at h9
            omega
        -- behind the letters
        have rest : ∀ (x3 : Int32) (m4 : jM), RepC (spk Z s1 a (dk Z s1 a)) m4 → Same WR m3 m4 → J l G X (jRv G X (fun mu' => RepC (act Z a s) mu' ∧ Same WR mu mu')) 5 59 [.ref 19, .int (nI a), .int (nI i), .int x3, .int (nI (dk Z s1 a))] [] m4 0 := by
          intro x3 m4 R4 W4
          have fin : ∀ m5, RepC (dd Z s1 a (dk Z s1 a)) m5 → Same WR m3 m5 → J l G X (jRv G X (fun mu' => RepC (act Z a s) mu' ∧ Same WR mu mu')) 5 77 [.ref 19, .int (nI a), .int (nI i), .int x3, .int (nI (dk Z s1 a))] [] m5 0 := by
            intro m5 R5 W5
            refine rX5_carryOn_77 h ?_
            rw [nI_1]
            refine J_forget 3 (J_forget 4 (ih (i + 1) _ m5 (by omega) (by omega) I2 E2 (S1.same W5 (by decide)) R5 (W1.trans' W5) ?_))
            rw [← he]
            conv => rhs; unfold actF
            rw [if_neg hd0]
          have go : (dk Z s1 a = 5 ∨ dk Z s1 a = 6) → J l G X (jRv G X (fun mu' => RepC (act Z a s) mu' ∧ Same WR mu mu')) 5 72 [.ref 19, .int (nI a), .int (nI i), .int x3, .int (nI (dk Z s1 a))] [] m4 0 := by
            intro h56
            have hnx : nx1 Z (spk Z s1 a (dk Z s1 a)) a = dd Z s1 a (dk Z s1 a) := by
              rcases h56 with q | q
              · rw [q]; exact nx1_5 Z s1 a
              · rw [q]; exact nx1_6 Z s1 a
            refine rX5_carryOn_72 h ?_
            refine rX5_carryOn_74 h (c_enterNextRound hl hG hZ (S1.same W4 (by decide)) R4 ha (fun x => (b3 x).1) E1.1 ?_) (by decide) (Nat.zero_le _) (fun m5 e5 => ?_)
            · have h9 : (nx1 Z (spk Z s1 a (dk Z s1 a)) a).lt.length ≤ 456 := by rw [hnx]; exact hlen2
              exact Nat.le_trans h9 (by omega)
            · rw [hnx] at e5
              exact fin m5 e5.1 (W4.trans' e5.2)
          refine rX5_carryOn_59 h (fun q => ?_) (fun q1 q2 => ?_) (fun _ q => ?_)
          · exact go (Or.inl ((nI_eq (b := 5) (by omega) (by omega)).mp q))
          · have h4 : dk Z s1 a ≤ 4 := by
              have n5 : dk Z s1 a ≠ 5 := fun z => q1 (by rw [z]; rfl)
              have n6 : dk Z s1 a ≠ 6 := fun z => q2 (by rw [z]; rfl)
              omega
            refine fin m4 ?_ W4
            unfold dd
            rw [if_pos h4]
            exact R4
          · exact go (Or.inr ((nI_eq (b := 6) (by omega) (by omega)).mp q))
        refine rX5_carryOn_25 h (fun _ q => ?_) (fun _ q => ?_) (fun z => absurd z hz)
        · have hne : wy s1.sw (s1.rd a) ≠ 2 := fun z => q (by rw [z]; rfl)
          refine rX5_carryOn_56 h (c_sendForT hl hG hZ.1 S1 R1 ha (d := dk Z s1 a) (by omega) (fun _ => by omega) (fun z => ?_) (by omega)) (by decide) (Nat.zero_le _) (fun m4 e4 => rest _ m4 e4.1 e4.2)
          rcases hdc with q' | q' | q'
          · omega
          · rcases q'.2 with w | w | w
            · omega
            · omega
            · exact w.2
          · omega
        · have hw : wy s1.sw (s1.rd a) = 2 := (nI_eq (b := 2) (by omega) (by omega)).mp q
          refine rX5_carryOn_56b h (c_sendForC hl hG hZ.1 S1 R1 ha (d := dk Z s1 a) ?_ hw (fun z => ?_) (by omega)) (by decide) (Nat.zero_le _) (fun m4 e4 => rest _ m4 e4.1 e4.2)
          · omega
          · rcases hdc with q' | q' | q'
            · omega
            · omega
            · rcases q'.2.2 with w | w | w | w
              · omega
              · omega
              · omega
              · exact w.2
  exact loop 2100 0 s mu (by omega) (by have := mea_le hI a; omega) hI hE hS hR Same.rfl' rfl
theorem c_greatestRound (hl : l.stackTraces = false) (hG : jGok G) {n : Nat} (hn24 : n ≤ 24) (h6 : mu 6 0 = nI n) {rd : Nat → Nat} (hrd : ∀ x, x < 24 → mu 45 x = nI (rd x)) (hb : ∀ x, rd x ≤ 500) : jCi l G yX5_greatestRound cX5_greatestRound 3 2 (some .int) [.ref 19] mu (fun v mu' => v = nI (mxR rd n) ∧ mu' = mu) := by
  refine jCi.of (pad := 2) hl hG (by decide) (Nat.le_of_ble_eq_true rfl) (fun X h => ?_)
  show J l G X _ 3 0 [.ref 19, .float 0, .float 0] [] mu 0
  refine rX5_greatestRound_0 h ?_
  have loop : ∀ (w x : Nat), x + w = n → J l G X (jRi G X (fun v mu' => v = nI (mxR rd n) ∧ mu' = mu)) 3 4 [.ref 19, .int (nI (mxR rd x)), .int (nI x)] [] mu 0 := by
    intro w
    induction w with
    | zero =>
      intro x hx
      have hle : mu 6 0 ≤ nI x := by rw [h6]; exact nI_le (by omega) (by omega)
      refine rX5_greatestRound_4 h (fun z => absurd hle z) (fun _ => ?_) (fun z => absurd hle z)
      have : x = n := by omega
      subst this
      exact J_iret h dX5_greatestRound_33 rfl ⟨rfl, rfl⟩
    | succ w ih =>
      intro x hx
      have hle : ¬ mu 6 0 ≤ nI x := by rw [h6]; exact nI_ge (by omega) (by omega)
      refine rX5_greatestRound_4 h (fun _ => vp_in_nI (by omega) (by omega)) (fun z => absurd z hle) (fun _ => ?_)
      rw [nI_clamp (by omega), hrd x (by omega)]
      refine J_max h dX5_greatestRound_22 w876 (by decide) (Nat.zero_le _) (Nat.le_of_ble_eq_true rfl) ?_
      refine rX5_greatestRound_25 h ?_
      have h1 := mxR_bd hb x
      have h2 := hb x
      have : (if nI (mxR rd x) < nI (rd x) then nI (rd x) else nI (mxR rd x)) = nI (mxR rd (x + 1)) := by
        show _ = nI (max (mxR rd x) (rd x))
        by_cases z : mxR rd x < rd x
        · rw [if_pos ((nI_ltI (by omega) (by omega)).mpr z)]
          congr 1
          omega
        · rw [if_neg (fun q => z ((nI_ltI (by omega) (by omega)).mp q))]
          congr 1
          omega
      rw [this, nI_1]
      exact ih (x + 1) (by omega)
  exact loop n 0 (by omega)
/-- another way -/
theorem c_changeWay (hl : l.stackTraces = false) (hG : jGok G) {Z : NT} (hZ : NT.ok Z) {s : RS} (hI : Inv Z s) (hS : StC Z mu) (hR : RepC s mu) (hsw : s.sw.length ≤ 8) (v : Nat) :
    jCi l G yX5_changeWay cX5_changeWay 2 3 (some .int) [.ref 19, .int (nI v)] mu (fun r mu' => r = nI (mxR s.rd Z.n + 1) ∧ RepC (swS Z s v) mu' ∧ Same [19, 56, 57] mu mu') := by
  refine jCi.of (pad := 0) hl hG (by decide) (Nat.le_of_ble_eq_true rfl) (fun X h => ?_)
  show J l G X _ 2 0 [.ref 19, .int (nI v)] [] mu 0
  obtain ⟨b1, b2, b3⟩ := hI.bd hZ.1
  refine rX5_changeWay_0 h ?_
  refine rX5_changeWay_9 h (c_greatestRound hl hG hZ.1.1.1 hS.1.1 (fun x hx => (hR.1 x hx).1) (fun x => (b3 x).1)) (by decide) (Nat.zero_le _) (fun r m1 e1 => ?_)
  obtain ⟨rfl, rfl⟩ := e1
  have h15 : m1 19 15 = nI s.sw.length := hR.2.2.2.2.2.2.1
  have v9 : vp_in (nI s.sw.length) 9 := vp_in_nI (by omega) (by omega)
  have hc : (nI s.sw.length).toNatClampNeg = s.sw.length := nI_clamp (by omega)
  have hsub : nI s.sw.length + 1 - 1 = nI s.sw.length := by rw [nI_1, nI_pred]
  refine rX5_changeWay_12 h (by rw [h15]; exact v9) (by rw [h15]; exact v9) (by rw [h15, hsub]; exact v9) ?_
  rw [h15, hsub, hc, nI_1, nI_1]
  refine J_iret h dX5_changeWay_46 rfl ⟨?_, ?_, ?_⟩
  · rw [rd_at]; simp [upd]
  · refine ⟨fun x hx => hR.1 x hx, hR.2.1, hR.2.2.1, hR.2.2.2.1.congr (fun c k1 k2 => by rw [rd_ne _ _ _ (by omega), rd_ne _ _ _ (by omega), rd_ne _ _ _ (by omega)]), hR.2.2.2.2.1.congr rfl (fun c k1 k2 => by rw [rd_ne _ _ _ (by omega), rd_ne _ _ _ (by omega), rd_ne _ _ _ (by omega)]), hR.2.2.2.2.2.1, ?_, fun j e he => ?_⟩
    · show nI (s.sw.length + 1) = nI (s.sw ++ [(mxR s.rd Z.n + 1, v)]).length
      rw [List.length_append]; rfl
    · have he : (s.sw ++ [(mxR s.rd Z.n + 1, v)])[j]? = some e := he
      show upd (m1 56) s.sw.length (nI (mxR s.rd Z.n + 1)) j = nI e.1 ∧ upd (m1 57) s.sw.length (nI v) j = nI e.2
      rw [List.getElem?_append] at he
      split at he
      · next q =>
        simp only [upd, if_neg (show ¬ j = s.sw.length by omega)]
        exact hR.2.2.2.2.2.2.2 j e he
      · next q =>
        have hj : j = s.sw.length := by
          have := (List.getElem?_eq_some_iff.mp he).1
          simp at this
          omega
        subst hj
        rw [Nat.sub_self] at he
        cases he
        simp [upd]
  · exact ((Same.wr (by decide)).trans' (Same.wr (by decide))).trans' (Same.wr (by decide))
theorem Ext.sw {Z : NT} {s : RS} (h : Ext s) (hI : Inv Z s) {v : Nat} (hv : v ≤ 2) (hsw : s.sw.length ≤ 8) : Ext (swS Z s v) := by
  refine ⟨h.1, ?_, ?_, fun e he => ?_, fun e he => ?_⟩
  · show 1 ≤ (s.sw ++ [(mxR s.rd Z.n + 1, v)]).length
    simp
  · show (s.sw ++ [(mxR s.rd Z.n + 1, v)]).length ≤ 9
    rw [List.length_append]
    simp
    omega
  · have he : e ∈ s.sw ++ [(mxR s.rd Z.n + 1, v)] := he
    rcases List.mem_append.mp he with q | q
    · exact h.2.2.2.1 e q
    · rw [List.mem_singleton.mp q]
      have := mxR_bd (rd := s.rd) (b := 500) (fun x => Nat.le_trans (hI.2.2.2.1 x) hI.2.2.2.2.1) Z.n
      exact ⟨by show mxR s.rd Z.n + 1 ≤ 501; omega, hv⟩
  · have he : (s.sw ++ [(mxR s.rd Z.n + 1, v)])[0]? = some e := he
    rw [List.getElem?_append_left h.2.1] at he
    exact h.2.2.2.2 e he
theorem RdC.congr {rd op : Nat → Nat} {mu mu' : jM} (h : RdC rd op mu) (h1 : mu' 45 = mu 45) (h2 : mu' 46 = mu 46) : RdC rd op mu' := fun a ha => by rw [h1, h2]; exact h a ha
theorem PsC.congr {ps : PS} {mu mu' : jM} (h : PsC ps mu) (h1 : mu' 21 = mu 21) (h2 : mu' 22 = mu 22) (h3 : mu' 23 = mu 23) : PsC ps mu' := ⟨fun j hj => by rw [h1]; exact h.1 j hj, h.2.congr h2 h3⟩
theorem recv_sw (Z : NT) (s : RS) (x : Lt) (lt : List Lt) : (recv Z s x lt).sw = s.sw ∧ (recv Z s x lt).wi = s.wi := by
  unfold recv
  split
  · exact ⟨rfl, rfl⟩
  · split <;> exact ⟨rfl, rfl⟩
/-- a letter is handed over -/
theorem c_handOver (hl : l.stackTraces = false) (hG : jGok G) {Z : NT} (hZ : NT.ok Z) {s : RS} (hI : Inv Z s) (hE : Ext s) (hS : StC Z mu) (hR : RepC s mu) {i : Nat} {x : Lt} (hx : s.lt[i]? = some x) :
    jCi l G yX5_handOver cX5_handOver 7 7 (some .int) [.ref 19, .int (nI i)] mu (fun v mu' => v = nI x.1 ∧ RepC (dlv Z s i) mu' ∧ Same WR mu mu') := by
  refine jCi.of (pad := 5) hl hG (by decide) (Nat.le_of_ble_eq_true rfl) (fun X h => ?_)
  show J l G X _ 7 0 [.ref 19, .int (nI i), .float 0, .float 0, .float 0, .float 0, .float 0] [] mu 0
  obtain ⟨b1, b2, b3⟩ := hI.bd hZ.1
  have hi := (List.getElem?_eq_some_iff.mp hx).1
  have hn24 := hZ.1.1.1
  obtain ⟨I2, t1, t2, t3, t4, t5, t6, t7⟩ := inv_recv hZ.1 hI hx
  have hc : (nI i).toNatClampNeg = i := nI_clamp (by omega)
  have vi : vp_in (nI i) 512 := vp_in_nI (by omega) (by omega)
  have L0 := hR.2.2.2.2.1
  obtain ⟨x1, x2, x3, x4, x5⟩ := L0.2.1 i x hx
  have hdl : dlv Z s i = act Z x.2.2.1 (recv Z s x (s.lt.eraseIdx i)) := by unfold dlv; rw [hx]
  refine rX5_handOver_0 h vi vi vi vi vi ?_
  rw [hc, x1, x2, x3, x4, x5]
  refine rX5_handOver_68 h (c_remove hl hG L0 (by omega) hi) (by decide) (Nat.zero_le _) (fun m1 e1 => ?_)
  obtain ⟨L1, w1⟩ := e1
  have hc1 : ∀ c, (c = 19 ∨ c = 21 ∨ c = 22 ∨ c = 23 ∨ c = 45 ∨ c = 46 ∨ (50 ≤ c ∧ c ≤ 57) ∨ (1 ≤ c ∧ c ≤ 12)) → m1 c = mu c := fun c hc => w1 c (by
    unfold WP
    simp only [List.mem_cons, List.not_mem_nil, or_false]
    omega)
  have E2 : Ext (recv Z s x (s.lt.eraseIdx i)) := by
    unfold Ext
    rw [(recv_sw Z s x _).1, (recv_sw Z s x _).2]
    exact hE
  have hle : (s.lt.eraseIdx i).length ≤ 455 := by rw [List.length_eraseIdx_of_lt hi]; omega
  have fin : ∀ (m2 : jM), RepC (recv Z s x (s.lt.eraseIdx i)) m2 → Same WR mu m2 → J l G X (jRi G X (fun v mu' => v = nI x.1 ∧ RepC (dlv Z s i) mu' ∧ Same WR mu mu')) 7 145 [.ref 19, .int (nI i), .int (nI x.1), .int (nI x.2.1), .int (nI x.2.2.1), .int (nI x.2.2.2.1), .int x.2.2.2.2] [] m2 0 := by
    intro m2 R2 W2
    refine rX5_handOver_145 h ?_
    refine rX5_handOver_148 h (c_carryOn hl hG hZ I2 E2 (hS.same W2 (by decide)) R2 t1) (by decide) (Nat.zero_le _) (fun m3 e3 => ?_)
    refine rX5_handOver_151 h ?_
    refine J_iret h dX5_handOver_152 rfl ⟨rfl, ?_, W2.trans' e3.2⟩
    rw [hdl]
    exact e3.1
  have v24 : vp_in (nI x.2.2.1) 24 := vp_in_nI (by omega) (by omega)
  have hc3 : (nI x.2.2.1).toNatClampNeg = x.2.2.1 := nI_clamp (by omega)
  by_cases z0 : x.1 = 0
  · have e0 : nI x.1 = 0 := by rw [z0]; rfl
    refine rX5_handOver_71 (r3 := 50) h (fun q => absurd e0 q) (fun q => absurd e0 q) rfl (fun q => absurd e0 q) (fun q => absurd e0 q) (fun q => absurd e0 q) (fun q => absurd e0 q) (fun _ => ?_)
    have hpt := pt_at ((nbl_sym hZ.1.1).mp t3)
    have N1 : PortC (nbl Z.lk) m1 := hS.1.2.2.2.congr (hc1 9 (by omega)) (hc1 10 (by omega)) (hc1 11 (by omega)) (hc1 12 (by omega))
    have hptl : pt Z.lk x.2.2.1 x.2.1 < 24 := Nat.lt_of_lt_of_le (List.getElem?_eq_some_iff.mp hpt).1 (nbl24 hZ.1.1 _)
    have B1 : BoxC 22 23 s.ps.2 m1 := hR.2.1.2.congr (hc1 22 (by omega)) (hc1 23 (by omega))
    refine rX5_handOver_86 h (c_acceptR hl hG (lk := Z.lk) B1 x.2.2.2.1 (by omega) (by omega) (by omega) hptl ((N1 x.2.2.1 (by omega)).2.2 _ _ hpt).2 x.2.2.2.2) (by decide) (Nat.zero_le _) (fun m2 e2 => ?_)
    refine rX5_handOver_89 h ?_
    have L2 : LetC (s.lt.eraseIdx i) s.ct m2 := L1.same e2.2 (by decide)
    refine rX5_handOver_100 h (c_send hl hG L2 (by omega) (K := 1) (by omega) x.2.2.1 x.2.1 x.2.2.2.1 0) (by decide) (Nat.zero_le _) (fun m3 e3 => ?_)
    refine rX5_handOver_103 h (fin m3 ?_ ?_)
    · have c3 : ∀ c, (c = 19 ∨ c = 21 ∨ c = 45 ∨ c = 46 ∨ (50 ≤ c ∧ c ≤ 57)) → m3 c = mu c := fun c hc => by
        rw [e3.2 c (by unfold WP; simp only [List.mem_cons, List.not_mem_nil, or_false]; omega), e2.2 c (by simp only [List.mem_cons, List.not_mem_nil, or_false]; omega), hc1 c (by omega)]
      unfold recv
      rw [if_pos z0]
      have h19 := c3 19 (by omega)
      refine ⟨hR.1.congr (c3 45 (by omega)) (c3 46 (by omega)), ⟨fun j hj => by rw [c3 21 (by omega)]; exact hR.2.1.1 j hj, e2.1.congr (e3.2 22 (by decide)) (e3.2 23 (by decide))⟩, hR.2.2.1.congr h19, hR.2.2.2.1.congr (fun c k1 k2 => c3 c (by omega)), e3.1, by rw [h19]; exact hR.2.2.2.2.2.1, hR.2.2.2.2.2.2.congr (by rw [h19]) (c3 56 (by omega)) (c3 57 (by omega))⟩
    · exact ((w1.wide WP_WR).trans' (e2.2.wide (by decide))).trans' (e3.2.wide WP_WR)
  · have e0 : ¬ nI x.1 = 0 := nI_ne0 (by omega) (by omega)
    by_cases z1 : x.1 = 1
    · have e1 : nI x.1 = 1 := by rw [z1]; rfl
      refine rX5_handOver_71 (r3 := 50) h (fun _ q => absurd e1 q) (fun _ q => absurd e1 q) rfl (fun _ _ => v24) (fun _ _ => v24) (fun _ q => absurd e1 q) (fun _ _ => ?_) (fun q => absurd q e0)
      rw [hc3]
      have ho := t6 z1
      refine fin _ ?_ ((w1.wide WP_WR).trans' (Same.wr (by decide)))
      unfold recv
      rw [if_neg z0, if_pos z1]
      refine ⟨fun a ha => ⟨?_, ?_⟩, ?_, ?_, ?_, ?_, ?_, ?_⟩
      · rw [rd_ne _ _ _ (by decide), hc1 45 (by omega)]; exact (hR.1 a ha).1
      · rw [rd_at]
        show upd (m1 46) x.2.2.1 (m1 46 x.2.2.1 - 1) a = nI (if a = x.2.2.1 then s.op x.2.2.1 - 1 else s.op a)
        simp only [upd]
        by_cases e : a = x.2.2.1
        · rw [if_pos e, if_pos e, hc1 46 (by omega), (hR.1 _ (by omega)).2, nL1, nI_sub ho]
        · rw [if_neg e, if_neg e, hc1 46 (by omega)]; exact (hR.1 a ha).2
      · exact hR.2.1.congr (by rw [rd_ne _ _ _ (by decide), hc1 21 (by omega)]) (by rw [rd_ne _ _ _ (by decide), hc1 22 (by omega)]) (by rw [rd_ne _ _ _ (by decide), hc1 23 (by omega)])
      · exact hR.2.2.1.congr (by rw [rd_ne _ _ _ (by decide), hc1 19 (by omega)])
      · exact hR.2.2.2.1.congr (fun c k1 k2 => by rw [rd_ne _ _ _ (by omega), hc1 c (by omega)])
      · exact L1.congr (by rw [rd_ne _ _ _ (by decide)]) (fun c k1 k2 => rd_ne _ _ _ (by omega))
      · rw [rd_ne _ _ _ (by decide), hc1 19 (by omega)]; exact hR.2.2.2.2.2.1
      · exact hR.2.2.2.2.2.2.congr (by rw [rd_ne _ _ _ (by decide), hc1 19 (by omega)]) (by rw [rd_ne _ _ _ (by decide), hc1 56 (by omega)]) (by rw [rd_ne _ _ _ (by decide), hc1 57 (by omega)])
    · have e1 : ¬ nI x.1 = 1 := fun q => z1 ((nI_eq (b := 1) (by omega) (by omega)).mp q)
      obtain ⟨r1, r2, r3⟩ := hd_cell (K := x.1) (by omega) (by omega)
      refine rX5_handOver_71 (r3 := 48 + x.1) h (fun _ _ => r3) (fun _ _ => r1) r2 (fun _ q => absurd q e1) (fun _ q => absurd q e1) (fun _ _ => ?_) (fun _ q => absurd q e1) (fun q => absurd q e0)
      refine rX5_handOver_135 h r2 (c_boxOf5 hl hG x.2.2.1 (by omega)) (by decide) (Nat.zero_le _) (fun v m2 e2 => ?_)
      obtain ⟨rfl, rfl⟩ := e2
      have hbx := bxN_lt (a := x.2.2.1) (k := x.2.2.2.1) (by omega)
      have vb : vp_in (nI (bxN x.2.2.1 x.2.2.2.1)) 48 := vp_in_nI hbx (by omega)
      refine rX5_handOver_138 h r2 vb vb ?_
      rw [nI_clamp (by omega)]
      have hK : 48 + x.1 ∈ WR := by
        have c : x.1 = 2 ∨ x.1 = 3 ∨ x.1 = 4 ∨ x.1 = 5 ∨ x.1 = 6 ∨ x.1 = 7 := by omega
        rcases c with q | q | q | q | q | q <;> rw [q] <;> decide
      refine fin _ ?_ ((w1.wide WP_WR).trans' (Same.wr hK))
      have cn : ∀ c, c < 50 ∨ 55 < c → wr m2 (48 + x.1) (bxN x.2.2.1 x.2.2.2.1) (m2 (48 + x.1) (bxN x.2.2.1 x.2.2.2.1) ||| (1 <<< (nI x.2.1 &&& 31))) c = m2 c := fun c q => rd_ne _ _ _ (by omega)
      unfold recv
      rw [if_neg z0, if_neg z1]
      refine ⟨?_, ?_, ?_, ?_, ?_, ?_, ?_⟩
      · exact hR.1.congr (by rw [cn 45 (by omega), hc1 45 (by omega)]) (by rw [cn 46 (by omega), hc1 46 (by omega)])
      · exact hR.2.1.congr (by rw [cn 21 (by omega), hc1 21 (by omega)]) (by rw [cn 22 (by omega), hc1 22 (by omega)]) (by rw [cn 23 (by omega), hc1 23 (by omega)])
      · exact hR.2.2.1.congr (by rw [cn 19 (by omega), hc1 19 (by omega)])
      · intro K q b i' k1 k2 k3 k4 k5
        have h0 := hR.2.2.2.1 K q b i' k1 k2 k3 k4 k5
        show bt (wr m2 (48 + x.1) (bxN x.2.2.1 x.2.2.2.1) (m2 (48 + x.1) (bxN x.2.2.1 x.2.2.2.1) ||| (1 <<< (nI x.2.1 &&& 31))) (48 + K) (q * 24 + b)) i' = (if K = x.1 ∧ q = x.2.2.2.1 % 2 ∧ b = x.2.2.1 ∧ i' = x.2.1 then true else s.hd K q b i')
        by_cases eK : K = x.1
        · subst eK
          rw [rd_at]
          simp only [upd]
          unfold bxN
          by_cases eb : q * 24 + b = x.2.2.2.1 % 2 * 24 + x.2.2.1
          · have hq : q = x.2.2.2.1 % 2 := by omega
            have hb : b = x.2.2.1 := by omega
            rw [if_pos eb, bt_set _ (by omega) k5, hc1 (48 + x.1) (by omega), ← eb, h0]
            by_cases ei : i' = x.2.1
            · rw [if_pos ⟨trivial, hq, hb, ei⟩]; simp [ei]
            · rw [if_neg (fun z => ei z.2.2.2)]; simp [ei]
          · rw [if_neg eb, if_neg (fun z => eb (by rw [z.2.1, z.2.2.1])), hc1 (48 + x.1) (by omega)]
            exact h0
        · rw [rd_ne _ _ _ (by omega), if_neg (fun z => eK z.1), hc1 (48 + K) (by omega)]
          exact h0
      · exact L1.congr (by rw [cn 25 (by omega)]) (fun c k1 k2 => cn c (by omega))
      · rw [cn 19 (by omega), hc1 19 (by omega)]; exact hR.2.2.2.2.2.1
      · exact hR.2.2.2.2.2.2.congr (by rw [cn 19 (by omega), hc1 19 (by omega)]) (by rw [cn 56 (by omega), hc1 56 (by omega)]) (by rw [cn 57 (by omega), hc1 57 (by omega)])
theorem Ext.deliver {Z : NT} (hZ : ZOk Z.n Z.lk Z.par Z.grp Z.ch) {s : RS} (hI : Inv Z s) (hE : Ext s) (i : Nat) : Ext (dlv Z s i) := by
  unfold dlv
  cases hx : s.lt[i]? with
  | none => exact hE
  | some x =>
    have := inv_recv hZ hI hx
    refine Ext.act hZ this.2.1 2100 _ this.1 ?_
    unfold Ext
    rw [(recv_sw Z s x _).1, (recv_sw Z s x _).2]
    exact hE
end C63
