/-! ===== the reference's run: a letter comes ===== -/
section C67
variable {l : Launch} {G : jG} {mu : jM}
theorem k_bring (hl : l.stackTraces = false) (hG : jGok G) {Z : NT} (hZ : NT.ok Z) {s : RS} (hI : Inv Z s) (hE : Ext s) (hS : StR Z mu) (hR : RepR Z s mu) {i : Nat} {x : Lt} (hx : s.lt[i]? = some x) :
    jCi l G yX8_bring cX8_bring 8 8 (some .int) [.ref 58, .int (nI i)] mu (fun v mu' => v = nI x.1 ∧ RepR Z (dlv Z s i) mu' ∧ SmR WQ FQ mu mu') := by
  refine jCi.of (pad := 6) hl hG (by decide) (Nat.le_of_ble_eq_true rfl) (fun X h => ?_)
  show J l G X _ 8 0 [.ref 58, .int (nI i), .float 0, .float 0, .float 0, .float 0, .float 0, .float 0] [] mu 0
  have hZ1 := hZ.1
  have hok := hZ1.1
  have hn24 := hok.1
  obtain ⟨b1, b2, b3⟩ := hI.bd hZ1
  have hi := (List.getElem?_eq_some_iff.mp hx).1
  obtain ⟨I2, t1, t2, t3, t4, t5, t6, t7⟩ := inv_recv hZ1 hI hx
  have hdl : dlv Z s i = act Z x.2.2.1 (recv Z s x (s.lt.eraseIdx i)) := by unfold dlv; rw [hx]
  have E2 : Ext (recv Z s x (s.lt.eraseIdx i)) := by
    unfold Ext
    rw [(recv_sw Z s x _).1, (recv_sw Z s x _).2]
    exact hE
  have hle : (s.lt.eraseIdx i).length ≤ 455 := by rw [List.length_eraseIdx_of_lt hi]; omega
  obtain ⟨x1, x2, x3, x4, x5⟩ := hR.2.2.2.2.1.2.1 i x hx
  have c0 : 5 * nI i = nI (5 * i) := by rw [nL5, nI_mul]
  have c1 : 5 * nI i + 1 = nI (5 * i + 1) := by rw [c0, nI_1]
  have c2 : 5 * nI i + 2 = nI (5 * i + 2) := by rw [c0, nL2, nI_add]
  have c3 : 5 * nI i + 3 = nI (5 * i + 3) := by rw [c0, nL3, nI_add]
  have c4 : 5 * nI i + 4 = nI (5 * i + 4) := by rw [c0, nL4, nI_add]
  have fin : ∀ (x7 : Int32) (m2 : jM), RepR Z (recv Z s x (s.lt.eraseIdx i)) m2 → SmR WQ FQ mu m2 → J l G X (jRi G X (fun v mu' => v = nI x.1 ∧ RepR Z (dlv Z s i) mu' ∧ SmR WQ FQ mu mu')) 8 207 [.ref 58, .int (nI i), .int (nI x.1), .int (nI x.2.1), .int (nI x.2.2.1), .int (nI x.2.2.2.1), .int x.2.2.2.2, .int x7] [] m2 0 := by
    intro x7 m2 R2 W2
    refine rX8_bring_207 h ?_
    refine rX8_bring_210 h (k_act hl hG hZ I2 E2 (hS.run W2) R2 t1) (by decide) (Nat.zero_le _) (fun m3 e3 => ?_)
    refine rX8_bring_213 h ?_
    refine J_iret h dX8_bring_214 rfl ⟨rfl, ?_, W2.trans' e3.2⟩
    rw [hdl]
    exact e3.1
  have v24 : vp_in (nI x.2.2.1) 24 := vp_in_nI (by omega) (by omega)
  have hc3 : (nI x.2.2.1).toNatClampNeg = x.2.2.1 := nI_clamp (by omega)
  refine rX8_bring_0 h (by rw [c0]; exact vp_in_nI (by omega) (by omega)) (by rw [c1]; exact vp_in_nI (by omega) (by omega)) (by rw [c2]; exact vp_in_nI (by omega) (by omega)) (by rw [c3]; exact vp_in_nI (by omega) (by omega)) (by rw [c4]; exact vp_in_nI (by omega) (by omega)) ?_
  rw [c1, c2, c3, c4, c0, nI_clamp (by omega), nI_clamp (by omega), nI_clamp (by omega), nI_clamp (by omega), nI_clamp (by omega), x1, x2, x3, x4, x5, hR.2.2.2.2.1.1, nL1, nI_sub (by omega)]
  have loop : ∀ (w j : Nat) (m1 : jM), j + w = 5 * (s.lt.length - 1) → 5 * i ≤ j → m1 58 38 = nI (s.lt.length - 1) → (∀ t, m1 89 t = if 5 * i ≤ t ∧ t < j then mu 89 (t + 5) else mu 89 t) → SmR [89] [38] mu m1 →
      J l G X (jRi G X (fun v mu' => v = nI x.1 ∧ RepR Z (dlv Z s i) mu' ∧ SmR WQ FQ mu mu')) 8 71 [.ref 58, .int (nI i), .int (nI x.1), .int (nI x.2.1), .int (nI x.2.2.1), .int (nI x.2.2.2.1), .int x.2.2.2.2, .int (nI j)] [] m1 0 := by
    intro w
    induction w with
    | zero =>
      intro j m1 hj hij q1 q2 q3
      have c5 : 5 * m1 58 38 = nI (5 * (s.lt.length - 1)) := by rw [q1, nL5, nI_mul]
      have hge : 5 * m1 58 38 ≤ nI j := by rw [c5]; exact nI_le (by omega) (by omega)
      have w1 : SmR WQ FQ mu m1 := q3.wide (by decide) (by decide)
      have S1 := hS.run w1
      have L1 : LetR (s.lt.eraseIdx i) s.ct m1 := by
        refine ⟨by rw [q1, List.length_eraseIdx_of_lt hi], fun j' y hy => ?_, fun c hc => by rw [q3.1 90 (by decide) (by decide)]; exact hR.2.2.2.2.1.2.2 c hc⟩
        rw [List.getElem?_eraseIdx] at hy
        rw [q2, q2, q2, q2, q2]
        split at hy
        · next z =>
          rw [if_neg (by omega), if_neg (by omega), if_neg (by omega), if_neg (by omega), if_neg (by omega)]
          exact hR.2.2.2.2.1.2.1 j' y hy
        · next z =>
          have hj' := (List.getElem?_eq_some_iff.mp hy).1
          rw [if_pos (by omega), if_pos (by omega), if_pos (by omega), if_pos (by omega), if_pos (by omega)]
          have := hR.2.2.2.2.1.2.1 (j' + 1) y hy
          rw [show 5 * (j' + 1) = 5 * j' + 5 by omega] at this
          rw [show 5 * j' + 1 + 5 = 5 * j' + 5 + 1 by omega, show 5 * j' + 2 + 5 = 5 * j' + 5 + 2 by omega, show 5 * j' + 3 + 5 = 5 * j' + 5 + 3 by omega, show 5 * j' + 4 + 5 = 5 * j' + 5 + 4 by omega]
          exact this
      have hc : ∀ c, c ≠ 58 → c ≠ 89 → m1 c = mu c := fun c k1 k2 => q3.1 c (by simpa using k2) k1
      have hf : ∀ f, f ≠ 38 → m1 58 f = mu 58 f := fun f k => q3.2 f (by simpa using k)
      have R1 : RepR Z (s.rd, s.op, s.ps, s.sd, s.td, s.al, s.hd, s.lt.eraseIdx i, s.ct, s.st, s.wi, s.sw) m1 :=
        ⟨hR.1.congr (hc 75 (by decide) (by decide)) (hc 77 (by decide) (by decide)), hR.2.1.congr (hc 76 (by decide) (by decide)) (hc 71 (by decide) (by decide)) (hc 72 (by decide) (by decide)), hR.2.2.1.congr (hc 78 (by decide) (by decide)) (hc 79 (by decide) (by decide)) (hc 80 (by decide) (by decide)), hR.2.2.2.1.congr (hc 81 (by decide) (by decide)), L1, by rw [hf 19 (by decide), hf 41 (by decide)]; exact hR.2.2.2.2.2.1, hR.2.2.2.2.2.2.congr (hf 20 (by decide)) (hc 73 (by decide) (by decide)) (hc 74 (by decide) (by decide))⟩
      by_cases z0 : x.1 = 0
      · have e0 : nI x.1 = 0 := by rw [z0]; rfl
        refine rX8_bring_71 h (fun _ q => absurd e0 q) (fun _ q => absurd e0 q) (fun q => absurd hge q) (fun q => absurd hge q) (fun _ q => absurd e0 q) (fun _ q => absurd e0 q) (fun _ _ => ?_) (fun q => absurd hge q)
        have hpt := pt_at ((nbl_sym hok).mp t3)
        obtain ⟨lp, e, hlp, he, hmt, -, -, -⟩ := port_nb hok hpt
        obtain ⟨-, -, hll, -⟩ := port_link hok hlp
        rw [mt_comm] at hmt
        refine rX8_bring_120 h (k_linkOf hl hG hok S1.1.2.1 S1.1.2.2.1 (a := x.2.1) (b := x.2.2.1) (by omega) (by omega)) (by decide) (Nat.zero_le _) (fun v m2 e2 => ?_)
        obtain ⟨rfl, rfl⟩ := e2
        rw [lnkTo_some hok he hmt _ hll]
        refine rX8_bring_123 h ?_
        refine rX8_bring_125 h (k_towards hl hG hok S1.1.2.2.1 he (by omega : x.2.2.1 < 24)) (by decide) (Nat.zero_le _) (fun v m3 e3 => ?_)
        obtain ⟨rfl, rfl⟩ := e3
        have hdr := dr_lt hok x.2.2.1 hll
        have cc : 120 * (nI x.2.2.2.1 - (nI x.2.2.2.1 / 2) * 2) + nI (dr Z.lk lp x.2.2.1) = nI (120 * (x.2.2.2.1 % 2) + dr Z.lk lp x.2.2.1) := by rw [nI_mod2 _ (by omega), nL120, nI_mul, nI_add]
        have kk : (nI (120 * (x.2.2.2.1 % 2) + dr Z.lk lp x.2.2.1)).toNatClampNeg = 120 * (x.2.2.2.1 % 2) + dr Z.lk lp x.2.2.1 := nI_clamp (by omega)
        have vd : vp_in (120 * (nI x.2.2.2.1 - (nI x.2.2.2.1 / 2) * 2) + nI (dr Z.lk lp x.2.2.1)) 240 := by rw [cc]; exact vp_in_nI (by omega) (by omega)
        refine rX8_bring_128 h vd vd ?_
        rw [cc, kk, show vp_nar .boolean 1 = 1 from rfl]
        have hbx : ∀ q, BoxR 71 72 Z.lk q (fun _ => True) s.ps.2 m3 → BoxR 71 72 Z.lk q (fun _ => True) (bxSet s.ps.2 (x.2.2.2.1 % 2) x.2.2.1 (pt Z.lk x.2.2.1 x.2.1) (some x.2.2.2.2)) (wr (wr m3 71 (120 * (x.2.2.2.1 % 2) + dr Z.lk lp x.2.2.1) 1) 72 (120 * (x.2.2.2.1 % 2) + dr Z.lk lp x.2.2.1) x.2.2.2.2) := fun q hq => hq.setO hok x.2.2.2.2 hlp rfl rfl
        obtain ⟨m4, hm4⟩ : ∃ m, m = wr (wr m3 71 (120 * (x.2.2.2.1 % 2) + dr Z.lk lp x.2.2.1) 1) 72 (120 * (x.2.2.2.1 % 2) + dr Z.lk lp x.2.2.1) x.2.2.2.2 := ⟨_, rfl⟩
        have R4 : RepR Z (s.rd, s.op, (s.ps.1, bxSet s.ps.2 (x.2.2.2.1 % 2) x.2.2.1 (pt Z.lk x.2.2.1 x.2.1) (some x.2.2.2.2)), s.sd, s.td, s.al, s.hd, s.lt.eraseIdx i, s.ct, s.st, s.wi, s.sw) m4 := by
          rw [hm4]
          exact ⟨R1.1, ⟨R1.2.1.1, hbx 0 R1.2.1.2.1, hbx 1 R1.2.1.2.2⟩, R1.2.2.1, R1.2.2.2.1, R1.2.2.2.2.1, R1.2.2.2.2.2.1, R1.2.2.2.2.2.2⟩
        have w4 : SmR WQ FQ mu m4 := by rw [hm4]; exact w1.trans' ((SmR.wr (by decide) (by decide)).trans' (SmR.wr (by decide) (by decide)))
        rw [← hm4]
        refine rX8_bring_156 h (k_send hl hG (lt := s.lt.eraseIdx i) (ct := s.ct) R4.2.2.2.2.1 (by omega) (K := 1) (by omega) x.2.2.1 x.2.1 x.2.2.2.1 0) (by decide) (Nat.zero_le _) (fun m5 e5 => ?_)
        refine rX8_bring_159 h (fin _ m5 ?_ (w4.trans' (e5.2.wide (by decide) (by decide))))
        unfold recv
        rw [if_pos z0]
        exact R4.lets (e5.2.wide (by decide) (by decide)) (R4.2.2.1.lets e5.2) e5.1
      · have e0 : ¬ nI x.1 = 0 := nI_ne0 (by omega) (by omega)
        by_cases z1 : x.1 = 1
        · have e1 : nI x.1 = 1 := by rw [z1]; rfl
          refine rX8_bring_71 h (fun _ _ _ => v24) (fun _ _ _ => v24) (fun q => absurd hge q) (fun q => absurd hge q) (fun _ _ q => absurd e1 q) (fun _ _ _ => ?_) (fun _ q => absurd q e0) (fun q => absurd hge q)
          rw [hc3]
          have ho := t6 z1
          refine fin _ _ ?_ (w1.trans' (SmR.wr (by decide) (by decide)))
          unfold recv
          rw [if_neg z0, if_pos z1]
          refine ⟨fun a ha => ⟨(R1.1 a ha).1, ?_⟩, R1.2.1, R1.2.2.1, R1.2.2.2.1, R1.2.2.2.2.1, R1.2.2.2.2.2.1, R1.2.2.2.2.2.2⟩
          show (if a = x.2.2.1 then m1 77 x.2.2.1 - 1 else m1 77 a) = nI (if a = x.2.2.1 then s.op x.2.2.1 - 1 else s.op a)
          by_cases e : a = x.2.2.1
          · rw [if_pos e, if_pos e, (R1.1 _ (by omega)).2, nL1]
            exact nI_sub ho
          · rw [if_neg e, if_neg e]; exact (R1.1 a ha).2
        · have e1 : ¬ nI x.1 = 1 := fun q => z1 ((nI_eq (b := 1) (by omega) (by omega)).mp q)
          refine rX8_bring_71 h (fun _ _ q => absurd q e1) (fun _ _ q => absurd q e1) (fun q => absurd hge q) (fun q => absurd hge q) (fun _ _ _ => ?_) (fun _ _ q => absurd q e1) (fun _ q => absurd q e0) (fun q => absurd hge q)
          refine rX8_bring_186 h (k_spot hl hG x.2.2.1 x.1 (by omega)) (by decide) (Nat.zero_le _) (fun v m2 e2 => ?_)
          obtain ⟨rfl, rfl⟩ := e2
          have vs : vp_in (nI (16 * x.2.2.1 + 8 * (x.2.2.2.1 % 2) + x.1)) 384 := vp_in_nI (by omega) (by omega)
          refine rX8_bring_189 h vs vs ?_
          rw [nI_clamp (by omega)]
          refine fin _ _ ?_ (w1.trans' (SmR.wr (by decide) (by decide)))
          unfold recv
          rw [if_neg z0, if_neg z1]
          refine ⟨R1.1, R1.2.1, R1.2.2.1, fun K q b k1 k2 k3 k4 => ?_, R1.2.2.2.2.1, R1.2.2.2.2.2.1, R1.2.2.2.2.2.2⟩
          have h0 : m2 81 (16 * b + 8 * q + K) = nI (fb_ct (s.hd K q b) Z.n) := R1.2.2.2.1 K q b k1 k2 k3 k4
          show (if 16 * b + 8 * q + K = 16 * x.2.2.1 + 8 * (x.2.2.2.1 % 2) + x.1 then m2 81 (16 * x.2.2.1 + 8 * (x.2.2.2.1 % 2) + x.1) + 1 else m2 81 (16 * b + 8 * q + K)) = nI (fb_ct (fun a => if K = x.1 ∧ q = x.2.2.2.1 % 2 ∧ b = x.2.2.1 ∧ a = x.2.1 then true else s.hd K q b a) Z.n)
          by_cases e : 16 * b + 8 * q + K = 16 * x.2.2.1 + 8 * (x.2.2.2.1 % 2) + x.1
          · have hK : K = x.1 := by omega
            have hq : q = x.2.2.2.1 % 2 := by omega
            have hb : b = x.2.2.1 := by omega
            rw [if_pos e, ← e, h0, nI_1]
            congr 1
            have hold := t7 (by omega)
            rw [← hK, ← hq, ← hb] at hold
            have hu := fb_ct_upd (s.hd K q b) true t2
            rw [if_pos rfl, hold] at hu
            have hcg : fb_ct (fun a => if K = x.1 ∧ q = x.2.2.2.1 % 2 ∧ b = x.2.2.1 ∧ a = x.2.1 then true else s.hd K q b a) Z.n = fb_ct (fun k => if k = x.2.1 then true else s.hd K q b k) Z.n := fb_ct_cong (fun a _ => by
              by_cases ea : a = x.2.1
              · rw [if_pos ⟨hK, hq, hb, ea⟩, if_pos ea]
              · rw [if_neg (fun z => ea z.2.2.2), if_neg ea])
            rw [hcg]
            exact hu.symm
          · rw [if_neg e, h0]
            congr 1
            refine fb_ct_cong (fun a _ => ?_)
            rw [if_neg (fun z => e (by rw [z.1, z.2.1, z.2.2.1]))]
    | succ w ih =>
      intro j m1 hj hij q1 q2 q3
      have c5 : 5 * m1 58 38 = nI (5 * (s.lt.length - 1)) := by rw [q1, nL5, nI_mul]
      have hge : ¬ 5 * m1 58 38 ≤ nI j := by rw [c5]; exact nI_ge (by omega) (by omega)
      have c6 : nI j + 5 = nI (j + 5) := by rw [nL5, nI_add]
      refine rX8_bring_71 h (fun q => absurd q hge) (fun q => absurd q hge) (fun _ => by rw [c6]; exact vp_in_nI (by omega) (by omega)) (fun _ => vp_in_nI (by omega) (by omega)) (fun q => absurd q hge) (fun q => absurd q hge) (fun q => absurd q hge) (fun _ => ?_)
      rw [c6, nI_1, nI_clamp (by omega), nI_clamp (by omega)]
      refine ih (j + 1) _ (by omega) (by omega) q1 (fun t => ?_) (q3.trans' (SmR.wr (by decide) (by decide)))
      show (if t = j then m1 89 (j + 5) else m1 89 t) = _
      by_cases e : t = j
      · rw [if_pos e, if_pos (by omega), q2, if_neg (by omega), e]
      · rw [if_neg e, q2]
        by_cases y : 5 * i ≤ t ∧ t < j
        · rw [if_pos y, if_pos (by omega)]
        · rw [if_neg y, if_neg (by omega)]
  exact loop (5 * (s.lt.length - 1) - 5 * i) (5 * i) _ (by omega) (Nat.le_refl _) rfl (fun t => by rw [if_neg (by omega)]; rfl) (SmR.fld (by decide))
end C67
