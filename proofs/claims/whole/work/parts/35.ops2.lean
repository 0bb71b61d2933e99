/-! ===== net and link of the reference; words of the class ===== -/
section C35
variable {l : Launch} {G : jG} {mu : jM}
theorem k_net (hl : l.stackTraces = false) (hG : jGok G) {run : Bool} (hr : RunR run mu) (x : Int32) : jCv l G yX8_net cX8_net 3 2 [.ref 58, .int x] mu (fun mu' => refX (cdNet run x) mu mu' ∧ (cdNet run x = 0 → (∃ n, n ≤ 24 ∧ 1 ≤ n ∧ x = nI n ∧ NetR n [] mu') ∧ (∀ k, k < 192 → mu' 63 k = 0) ∧ (∀ k, k < 192 → mu' 64 k = 0) ∧ SmR [61, 63, 64] [0, 1, 2] mu mu')) := by
  refine jCv.of (pad := 1) hl hG (by decide) (Nat.le_of_ble_eq_true rfl) (fun X h => ?_)
  show J l G X _ 3 0 [.ref 58, .int x, .float 0] [] mu 0
  obtain ⟨Q, hQ⟩ : ∃ Q : jM → Prop, Q = (fun mu' => refX (cdNet run x) mu mu' ∧ (cdNet run x = 0 → (∃ n, n ≤ 24 ∧ 1 ≤ n ∧ x = nI n ∧ NetR n [] mu') ∧ (∀ k, k < 192 → mu' 63 k = 0) ∧ (∀ k, k < 192 → mu' 64 k = 0) ∧ SmR [61, 63, 64] [0, 1, 2] mu mu')) := ⟨_, rfl⟩
  rw [← hQ]
  have bad : ∀ k : Nat, cdNet run x = k → k ≠ 0 → Q (wr mu 58 0 (nI k)) := fun k e hk => by
    rw [hQ]
    exact ⟨refX.of e, fun z => absurd (e.symm.trans z) hk⟩
  refine rX8_net_0 h (fun q => ?_) (fun q1 q2 q3 => ?_) (fun q1 q2 q3 => ?_) (fun q1 q2 => ?_)
  · exact J_vret h dX8_net_38 (bad 1 (if_pos (Or.inl q)) (by decide))
  · have hin : ¬ (x < 1 ∨ 24 < x) := fun z => z.elim q1 (fun w => i_le_nlt q2 w)
    have e0 : cdNet run x = 0 := by unfold cdNet; rw [if_neg hin, hr.no q3]; rfl
    obtain ⟨n, hn, hn1, hxn⟩ := nI_1_24 hin
    obtain ⟨mu0, h0⟩ : ∃ m : jM, m = wr (wr (wr mu 58 0 0) 58 1 x) 58 2 0 := ⟨_, rfl⟩
    rw [← h0]
    have lp1 : ∀ (m i : Nat), i + m = 24 → (∀ mu1, mu1 = jPut mu0 61 (fillTo (mu0 61) 0 24) → J l G X (jRv G X Q) 3 72 [.ref 58, .int x, .int 0] [] mu1 0) → J l G X (jRv G X Q) 3 51 [.ref 58, .int x, .int (nI i)] [] (jPut mu0 61 (fillTo (mu0 61) 0 i)) 0 := by
      intro m
      induction m with
      | zero =>
        intro i hi hk
        have hi : i = 24 := by omega
        subst hi
        exact rX8_net_51 h (fun q => absurd (Int32.le_refl _) q) (fun _ => hk _ rfl) (fun q => absurd (Int32.le_refl _) q)
      | succ m ih =>
        intro i hi hk
        refine rX8_net_51 h (fun _ => vp_in_nI (by omega) (by omega)) (fun q => absurd ((nI_leI (a := 24) (by omega) (by omega)).mp q) (by omega)) (fun _ => ?_)
        rw [nI_clamp (by omega), nI_1, wr_put, fillTo_succ]
        exact ih (i + 1) (by omega) hk
    have := lp1 24 0 (by omega) (fun mu1 e1 => ?_)
    · rw [fillTo_0, put_self] at this
      exact this
    have lp2 : ∀ (m i : Nat), i + m = 192 → J l G X (jRv G X Q) 3 72 [.ref 58, .int x, .int (nI i)] [] (jPut (jPut mu1 63 (fillTo (mu1 63) 0 i)) 64 (fillTo (mu1 64) 0 i)) 0 := by
      intro m
      induction m with
      | zero =>
        intro i hi
        have hi : i = 192 := by omega
        subst hi
        refine rX8_net_72 h (fun q => absurd (Int32.le_refl _) q) (fun q => absurd (Int32.le_refl _) q) (fun _ => ?_) (fun q => absurd (Int32.le_refl _) q)
        refine J_vret h dX8_net_99 ?_
        have sm : SmR [61, 63, 64] [0, 1, 2] mu (jPut (jPut mu1 63 (fillTo (mu1 63) 0 192)) 64 (fillTo (mu1 64) 0 192)) := by
          rw [e1, h0]
          exact ((((SmR.fld (by decide)).trans' (SmR.fld (by decide))).trans' (SmR.fld (by decide))).trans' (SmR.put (by decide) (by decide))).trans' ((SmR.put (by decide) (by decide)).trans' (SmR.put (by decide) (by decide)))
        rw [hQ]
        refine ⟨⟨?_, fun z => absurd e0 z⟩, fun _ => ⟨⟨n, hn, hn1, hxn, ?_, ?_, fun k e he => by simp at he, fun a ha => ⟨?_, fun p k hk => by simp [pll] at hk⟩⟩, fun k hk => ?_, fun k hk => ?_, sm⟩⟩
        · rw [e0, put_ne _ _ (by decide), put_ne _ _ (by decide), e1, put_ne _ _ (by decide), h0]; rfl
        · rw [put_ne _ _ (by decide), put_ne _ _ (by decide), e1, put_ne _ _ (by decide), h0]; exact hxn
        · rw [put_ne _ _ (by decide), put_ne _ _ (by decide), e1, put_ne _ _ (by decide), h0]; rfl
        · rw [put_ne _ _ (by decide), put_ne _ _ (by decide), e1, put_at]; simp only [fillTo, if_pos ha]; rfl
        · rw [put_ne _ _ (by decide), put_at]; simp [fillTo, hk]
        · rw [put_at]; simp [fillTo, hk]
      | succ m ih =>
        intro i hi
        have hv : vp_in (nI i) 192 := vp_in_nI (by omega) (by omega)
        refine rX8_net_72 h (fun _ => hv) (fun _ => hv) (fun q => absurd ((nI_leI (a := 192) (by omega) (by omega)).mp q) (by omega)) (fun _ => ?_)
        have e : wr (wr (jPut (jPut mu1 63 (fillTo (mu1 63) 0 i)) 64 (fillTo (mu1 64) 0 i)) 63 i 0) 64 i 0 = jPut (jPut mu1 63 (fillTo (mu1 63) 0 (i + 1))) 64 (fillTo (mu1 64) 0 (i + 1)) := by
          funext c
          by_cases c1 : c = 64
          · subst c1
            rw [rd_at, rd_ne _ _ _ (by decide), put_at, put_at, fillTo_succ]
          · rw [rd_ne _ _ _ c1, put_ne _ _ c1]
            by_cases c2 : c = 63
            · subst c2
              rw [rd_at, put_ne _ _ (by decide), put_at, put_at, fillTo_succ]
            · rw [rd_ne _ _ _ c2, put_ne _ _ c1, put_ne _ _ c2, put_ne _ _ c2]
        rw [nI_clamp (by omega), nI_1, e]
        exact ih (i + 1) (by omega)
    have := lp2 192 0 (by omega)
    rw [fillTo_0, fillTo_0, put_self, put_self] at this
    exact this
  · have hin : ¬ (x < 1 ∨ 24 < x) := fun z => z.elim q1 (fun w => i_le_nlt q2 w)
    exact J_vret h dX8_net_38 (bad 2 (by unfold cdNet; rw [if_neg hin, hr.yes q3]; rfl) (by decide))
  · exact J_vret h dX8_net_38 (bad 1 (if_pos (Or.inr (i_nle q2))) (by decide))
theorem pl_join {lk : Lk} {a b : Nat} (hab : a ≠ b) : (fun x => if x = b then (fun x => if x = a then pll lk a ++ [lk.length] else pll lk x) b ++ [lk.length] else (fun x => if x = a then pll lk a ++ [lk.length] else pll lk x) x) = pll (lk ++ [(a, b)]) := by
  funext x
  rw [pll_app]
  by_cases h1 : x = b
  · subst h1
    have hba : ¬ x = a := fun q => hab q.symm
    simp [hba]
  · by_cases h2 : x = a
    · subst h2
      simp [h1]
    · rw [if_neg (fun q : a = x ∨ b = x => q.elim (fun z => h2 z.symm) (fun z => h1 z.symm))]
      simp [h1, h2]
theorem k_link (hl : l.stackTraces = false) (hG : jGok G) {run : Bool} {n : Nat} {lk : Lk} (hr : RunR run mu) (hok : NetOk n lk) (hN : NetR n lk mu) (x y : Int32) : jCi l G yX8_link cX8_link 3 2 (some .int) [.ref 58, .int x, .int y] mu
    (fun v mu' => refX (cdLink n lk run x y) mu mu' ∧ (cdLink n lk run x y = 0 → v = nI lk.length ∧ NetR n (lk ++ [(x.toNatClampNeg, y.toNatClampNeg)]) mu' ∧ SmR [59, 60, 61, 62] [0, 2] mu mu')) := by
  have hn24 := hok.1
  have hlen60 := hok.2.1
  refine jCi.of (pad := 0) hl hG (by decide) (Nat.le_of_ble_eq_true rfl) (fun X h => ?_)
  show J l G X _ 3 0 [.ref 58, .int x, .int y] [] mu 0
  have bad : ∀ k : Nat, cdLink n lk run x y = k → k ≠ 0 → refX (cdLink n lk run x y) mu (wr mu 58 0 (nI k)) ∧ (cdLink n lk run x y = 0 → (0 : Int32) = nI lk.length ∧ NetR n (lk ++ [(x.toNatClampNeg, y.toNatClampNeg)]) (wr mu 58 0 (nI k)) ∧ SmR [59, 60, 61, 62] [0, 2] mu (wr mu 58 0 (nI k))) := fun k e hk => ⟨refX.of e, fun z => absurd (e.symm.trans z) hk⟩
  refine rX8_link_0 h ?_
  refine rX8_link_3 h (k_isNode hl hG hN.1 x) (by decide) (Nat.zero_le _) (fun w mu1 e1 => ?_)
  obtain ⟨rfl, rfl⟩ := e1
  refine rX8_link_6 h (fun q => ?_) (fun q => ?_)
  · have hx : ¬ isNd n x := fun z => by rw [if_pos z] at q; exact absurd q (by decide)
    exact J_iret h dX8_link_76 rfl (bad 1 (if_pos (Or.inl hx)) (by decide))
  have hx : isNd n x := Classical.byContradiction fun z => q (if_neg z)
  refine rX8_link_11 h (k_isNode hl hG hN.1 y) (by decide) (Nat.zero_le _) (fun w mu1 e1 => ?_)
  obtain ⟨rfl, rfl⟩ := e1
  have gy : ¬ (if isNd n y then (1 : Int32) else 0) = 0 → isNd n y := fun q => Classical.byContradiction fun z => q (if_neg z)
  refine rX8_link_14 h (fun q1 q2 q3 => ?_) (fun q1 q2 q3 => ?_) (fun q1 q2 => ?_) (fun q1 => ?_)
  · have hy := gy q1
    exact J_iret h dX8_link_76 rfl (bad 3 (by unfold cdLink; rw [if_neg (fun z => z.elim (fun w => w hx) (fun w => w hy)), if_neg q2, hr.yes q3, if_pos (Or.inl rfl)]) (by decide))
  · have hy := gy q1
    have c1 : ¬ (¬ isNd n x ∨ ¬ isNd n y) := fun q => q.elim (fun z => z hx) (fun z => z hy)
    obtain ⟨a, ha, rfl⟩ := hx.nat hn24
    obtain ⟨b, hb, rfl⟩ := hy.nat hn24
    have hab : a ≠ b := fun z => q2 (by rw [z])
    have ca : (nI a).toNatClampNeg = a := nI_clamp (by omega)
    have cb : (nI b).toNatClampNeg = b := nI_clamp (by omega)
    have hrun := hr.no q3
    have cd3 : b ∈ nbl lk a → cdLink n lk run (nI a) (nI b) = 3 := fun z => by unfold cdLink; rw [if_neg c1, if_neg q2, if_pos (Or.inr (by rw [ca, cb]; exact z))]
    have cd4 : b ∉ nbl lk a → cdLink n lk run (nI a) (nI b) = if lk.length = 60 then 4 else 0 := fun z => by
      unfold cdLink
      rw [if_neg c1, if_neg q2, if_neg (fun w => by
        rcases w with w | w
        · rw [hrun] at w; cases w
        · rw [ca, cb] at w; exact z w)]
    refine rX8_link_40 h (k_linkOf hl hG hok hN.2.1 hN.2.2.1 (by omega) (by omega)) (by decide) (Nat.zero_le _) (fun w mux e1 => ?_)
    obtain ⟨rfl, rfl⟩ := e1
    have old : ¬ lnkTo lk a b lk.length = -1 → b ∈ nbl lk a := fun q => Classical.byContradiction fun z => q (lnkTo_none (fun k e he => by
      rcases Bool.eq_false_or_eq_true (mt e a b) with w | w
      · exact absurd ((nbl_mt hab).mpr ⟨k, e, he, w⟩) z
      · exact w) _)
    have new : lnkTo lk a b lk.length = -1 → b ∉ nbl lk a := fun q z => by
      obtain ⟨k, e, he, hm⟩ := (nbl_mt hab).mp z
      have hk := (List.getElem?_eq_some_iff.mp he).1
      rw [lnkTo_some hok he hm _ hk] at q
      exact absurd (by rw [q]; decide) (nI_pos (n := k) (by omega))
    have h2 := hN.2.1
    refine rX8_link_43 h (fun q4 q5 => ?_) (fun q4 q5 => ?_) (fun q4 q5 => ?_) (fun q4 q5 => ?_) (fun q4 => ?_)
    · rw [h2] at q5 ⊢
      exact vp_in_nI (by
        rcases Nat.lt_or_ge lk.length 60 with z | z
        · exact z
        · exact absurd (by rw [show lk.length = 60 by omega]; rfl) q5) (by omega)
    · rw [h2] at q5 ⊢
      exact vp_in_nI (by
        rcases Nat.lt_or_ge lk.length 60 with z | z
        · exact z
        · exact absurd (by rw [show lk.length = 60 by omega]; rfl) q5) (by omega)
    · rw [h2] at q5
      have hlen : lk.length < 60 := by
        rcases Nat.lt_or_ge lk.length 60 with z | z
        · exact z
        · exact absurd (by rw [show lk.length = 60 by omega]; rfl) q5
      have hnew := new q4
      have e0 : cdLink n lk run (nI a) (nI b) = 0 := by rw [cd4 hnew, if_neg (by omega)]
      rw [h2, nI_clamp (by omega : lk.length < 2 ^ 31)]
      obtain ⟨mu0, h0⟩ : ∃ m : jM, m = wr (wr (wr mux 58 0 0) 59 lk.length (nI a)) 60 lk.length (nI b) := ⟨_, rfl⟩
      rw [← h0]
      have hne : ∀ e ∈ lk, e.1 ≠ e.2 := fun e he => (hok.2.2.1 e he).2.2
      have hP0 : PortR (pll lk) mu0 := by rw [h0]; exact hN.2.2.2
      have hlt : ∀ x, (pll lk x).length ≤ 24 := fun x => by rw [← nbl_len lk hne x]; exact nd_len (hok.2.2.2 x) (fun c hc => by have := (hok.nb hc).2.1; omega)
      have hokA := hok.add ha hb hab hnew hlen
      have hneA : ∀ e ∈ lk ++ [(a, b)], e.1 ≠ e.2 := fun e he => (hokA.2.2.1 e he).2.2
      have hltA : ∀ x, (pll (lk ++ [(a, b)]) x).length ≤ 24 := fun x => by rw [← nbl_len _ hneA x]; exact nd_len (hokA.2.2.2 x) (fun c hc => by have := (hokA.nb hc).2.1; omega)
      have la : (pll lk a).length < 24 := by have := hltA a; rw [pll_app, if_pos (Or.inl rfl), List.length_append] at this; simp at this; omega
      have lb : (pll lk b).length < 24 := by have := hltA b; rw [pll_app, if_pos (Or.inr rfl), List.length_append] at this; simp at this; omega
      refine rX8_link_103 h (k_addPort hl hG (by omega) hP0 hlt la) (by decide) (Nat.zero_le _) (fun mu1 e1 => ?_)
      refine rX8_link_106 h ?_
      have h21 : mu1 58 2 = nI lk.length := by rw [e1.2.2 2 (by decide), h0]; exact h2
      rw [h21]
      refine rX8_link_112 h (k_addPort hl hG (by omega) e1.1 (fun x => ?_) ?_) (by decide) (Nat.zero_le _) (fun mu2 e2 => ?_)
      · by_cases z : x = a
        · simp only [if_pos z, List.length_append]; simp; omega
        · simp only [if_neg z]; exact hlt x
      · simp only [if_neg (fun z : b = a => hab z.symm)]; exact lb
      have h22 : mu2 58 2 = nI lk.length := by rw [e2.2.2 2 (by decide)]; exact h21
      have s02 : SmR [61, 62] [] mu0 mu2 := e1.2.trans' e2.2
      have hP2 := e2.1
      rw [pl_join hab] at hP2
      refine rX8_link_115 h ?_
      rw [h22]
      refine J_iret h dX8_link_131 rfl ⟨⟨?_, fun z => absurd e0 z⟩, fun _ => ⟨by rw [nI_1, nI_pred], ⟨?_, ?_, fun k e he => ?_, fun x hx => by rw [ca, cb]; exact hP2 x hx⟩, ?_⟩⟩
      · show mu2 58 0 = _
        rw [e0, s02.2 0 (by decide), h0]; rfl
      · show mu2 58 1 = _
        rw [s02.2 1 (by decide), h0]; exact hN.1
      · show nI lk.length + 1 = _
        rw [nI_1, List.length_append]; rfl
      · rw [ca, cb] at he
        show mu2 59 k = _ ∧ mu2 60 k = _
        rw [s02.1 59 (by decide) (by decide), s02.1 60 (by decide) (by decide), h0]
        show upd (mux 59) lk.length (nI a) k = _ ∧ upd (mux 60) lk.length (nI b) k = _
        rw [List.getElem?_append] at he
        split at he
        · simp only [upd, if_neg (show ¬ k = lk.length by omega)]
          exact hN.2.2.1 k e he
        · have hk : k = lk.length := by
            rcases Nat.lt_or_ge k (lk.length + 1) with z | z
            · omega
            · rw [List.getElem?_eq_none (by simp; omega)] at he; cases he
          subst hk
          simp at he
          subst he
          simp [upd]
      · refine SmR.trans' ?_ (SmR.fld (by decide))
        refine SmR.trans' ?_ (s02.wide (by decide) (by decide))
        rw [h0]
        exact ((SmR.fld (by decide)).trans' (SmR.wr (by decide) (by decide))).trans' (SmR.wr (by decide) (by decide))
    · rw [h2] at q5
      have h60 : lk.length = 60 := (nI_eq (b := 60) (by omega) (by omega)).mp q5
      exact J_iret h dX8_link_76 rfl (bad 4 (by rw [cd4 (new q4), if_pos h60]) (by decide))
    · exact J_iret h dX8_link_76 rfl (bad 3 (cd3 (old q4)) (by decide))
  · have hy := gy q1
    exact J_iret h dX8_link_76 rfl (bad 2 (by unfold cdLink; rw [if_neg (fun z => z.elim (fun w => w hx) (fun w => w hy)), if_pos q2]) (by decide))
  · have hy : ¬ isNd n y := fun z => by rw [if_pos z] at q1; exact absurd q1 (by decide)
    exact J_iret h dX8_link_76 rfl (bad 1 (if_pos (Or.inr hy)) (by decide))
theorem c_put (hl : l.stackTraces = false) (hG : jGok G) {pr : List Wd} (hP : ProgC pr mu) {i : Nat} (hi : i < 64) (hi2 : i ≤ pr.length) (hlen : pr.length ≤ 64) (w : Wd) : jCv l G yX4_put cX4_put 6 1 [.ref 1, .int (nI i), .int w.1, .int w.2.1, .int w.2.2.1, .int w.2.2.2] mu
    (fun mu' => ProgC (wset pr i w) mu' ∧ Same [1, 2, 3, 4, 5] mu mu') := by
  have hv : vp_in (nI i) 64 := vp_in_nI hi (by omega)
  have hc : (nI i).toNatClampNeg = i := nI_clamp (by omega)
  have key : ∀ mu' : jM, mu' 1 4 = nI (wset pr i w).length → mu' 2 = upd (mu 2) i w.1 → mu' 3 = upd (mu 3) i w.2.1 → mu' 4 = upd (mu 4) i w.2.2.1 → mu' 5 = upd (mu 5) i w.2.2.2 → ProgC (wset pr i w) mu' := fun mu' a1 a2 a3 a4 a5 => ⟨a1, fun j w' hw' => by
    rw [a2, a3, a4, a5]
    rcases wset_get hi2 hw' with ⟨rfl, rfl⟩ | ⟨hj, hw2⟩
    · simp [upd]
    · simp only [upd, if_neg hj]
      exact hP.2 j w' hw2⟩
  refine jCv.of (pad := 0) hl hG (by decide) (Nat.le_of_ble_eq_true rfl) (fun X h => ?_)
  show J l G X _ 6 0 [.ref 1, .int (nI i), .int w.1, .int w.2.1, .int w.2.2.1, .int w.2.2.2] [] mu 0
  refine rX4_put_0 h hv hv hv hv (fun q => ?_) (fun q => ?_)
  · rw [hP.1] at q
    have hne : i ≠ pr.length := fun z => q (by rw [z])
    refine J_vret h dX4_put_48 ?_
    rw [hc]
    exact ⟨key _ (by rw [wset_len pr w hi2, if_neg hne]; exact hP.1) rfl rfl rfl rfl, (((Same.wr (by decide)).trans' (Same.wr (by decide))).trans' (Same.wr (by decide))).trans' (Same.wr (by decide))⟩
  · rw [hP.1] at q
    have heq : i = pr.length := (nI_eq (by omega) (by omega)).mp q
    refine J_vret h dX4_put_48 ?_
    rw [hc, hP.1]
    exact ⟨key _ (by rw [wset_len pr w hi2, if_pos heq, ← nI_1]; rfl) rfl rfl rfl rfl, ((((Same.wr (by decide)).trans' (Same.wr (by decide))).trans' (Same.wr (by decide))).trans' (Same.wr (by decide))).trans' (Same.wr (by decide))⟩
theorem c_word (hl : l.stackTraces = false) (hG : jGok G) {run : Bool} {pr : List Wd} (hr : RunC run mu) (hP : ProgC pr mu) (hlen : pr.length ≤ 64) (x : Int32) (w : Wd) : jXi l G yX7_word cX7_word 6 8 6 (some .int) [.ref 0, .int x, .int w.1, .int w.2.1, .int w.2.2.1, .int w.2.2.2] mu
    (fun v mu' => cdWord pr.length run x = 0 ∧ v = nI (wset pr x.toNatClampNeg w).length ∧ ProgC (wset pr x.toNatClampNeg w) mu' ∧ Same [1, 2, 3, 4, 5] mu mu') (exC (cdWord pr.length run x) [E_IAE, E_ISE, E_UOE] mu) := by
  refine jXi.of (pad := 0) hl hG (by decide) (Nat.le_of_ble_eq_true rfl) (fun X h ht => ?_)
  show J l G X _ 6 0 [.ref 0, .int x, .int w.1, .int w.2.1, .int w.2.2.1, .int w.2.2.2] [] mu 0
  have bad : (x < 0 ∨ nI pr.length < x) → exC (cdWord pr.length run x) [E_IAE, E_ISE, E_UOE] mu E_IAE mu := fun q => by
    rw [show cdWord pr.length run x = 1 from if_pos q]
    exact ⟨rfl, by decide, rfl⟩
  refine rX7_word_0 h (fun q => ?_) (fun q1 q2 => ?_) (fun q1 q2 => ?_)
  · exact tX7_word_15 h ht (by decide) (by decide) (bad (Or.inl q))
  · rw [hP.1] at q2
    have hin : ¬ (x < 0 ∨ nI pr.length < x) := fun z => z.elim q1 (fun w => i_le_nlt q2 w)
    refine rX7_word_26 h ht (c_refuse hl hG hr) (by decide) (by decide) (fun E mu' hE => ?_) (fun mu1 e1 => ?_)
    · obtain ⟨rfl, rfl, rfl⟩ := hE
      rw [show cdWord pr.length true x = 2 by unfold cdWord; rw [if_neg hin]; rfl]
      exact ⟨rfl, by decide, rfl⟩
    obtain ⟨rfl, rfl⟩ := e1
    refine rX7_word_29 h (fun q => ?_) (fun q => ?_)
    · obtain ⟨i, hi, rfl⟩ := nI_of q1
      have hi2 : i ≤ pr.length := (nI_leI hi (by omega)).mp q2
      have hi3 : i ≠ 64 := fun z => q (by rw [z]; rfl)
      refine rX7_word_56 h (c_put hl hG hP (by omega) hi2 hlen w) (by decide) (by decide) (fun mu1 e1 => ?_)
      refine rX7_word_59 h ?_
      refine J_iretX h dX7_word_66 rfl (by decide) ⟨?_, ?_, ?_, e1.2⟩
      · unfold cdWord; rw [if_neg hin, if_neg q]; rfl
      · rw [nI_clamp hi]; exact e1.1.1
      · rw [nI_clamp hi]; exact e1.1
    · refine tX7_word_35 h ht (by decide) (by decide) ?_
      rw [show cdWord pr.length false x = 3 by unfold cdWord; rw [if_neg hin, if_pos q]; rfl]
      exact ⟨rfl, by decide, rfl⟩
  · rw [hP.1] at q2
    exact tX7_word_15 h ht (by decide) (by decide) (bad (Or.inr (i_nle q2)))
theorem c_cutAt (hl : l.stackTraces = false) (hG : jGok G) {run : Bool} {pr : List Wd} (hr : RunC run mu) (hP : ProgC pr mu) (hlen : pr.length ≤ 64) (x : Int32) : jXv l G yX7_cutAt cX7_cutAt 2 8 6 [.ref 0, .int x] mu
    (fun mu' => cdCut pr.length run x = 0 ∧ ProgC (pr.take x.toNatClampNeg) mu' ∧ Same [1] mu mu') (exC (cdCut pr.length run x) [E_IAE, E_ISE] mu) := by
  refine jXv.of (pad := 0) hl hG (by decide) (Nat.le_of_ble_eq_true rfl) (fun X h ht => ?_)
  show J l G X _ 2 0 [.ref 0, .int x] [] mu 0
  have bad : (x < 0 ∨ nI pr.length < x) → exC (cdCut pr.length run x) [E_IAE, E_ISE] mu E_IAE mu := fun q => by
    rw [show cdCut pr.length run x = 1 from if_pos q]
    exact ⟨rfl, by decide, rfl⟩
  refine rX7_cutAt_0 h (fun q => ?_) (fun q1 q2 => ?_) (fun q1 q2 => ?_)
  · exact tX7_cutAt_15 h ht (by decide) (by decide) (bad (Or.inl q))
  · rw [hP.1] at q2
    have hin : ¬ (x < 0 ∨ nI pr.length < x) := fun z => z.elim q1 (fun w => i_le_nlt q2 w)
    refine rX7_cutAt_26 h ht (c_refuse hl hG hr) (by decide) (by decide) (fun E mu' hE => ?_) (fun mu1 e1 => ?_)
    · obtain ⟨rfl, rfl, rfl⟩ := hE
      rw [show cdCut pr.length true x = 2 by unfold cdCut; rw [if_neg hin]; rfl]
      exact ⟨rfl, by decide, rfl⟩
    obtain ⟨rfl, rfl⟩ := e1
    obtain ⟨j, hj, rfl⟩ := nI_of q1
    have hj2 : j ≤ pr.length := (nI_leI hj (by omega)).mp q2
    refine rX7_cutAt_29 h ?_
    refine J_vretX h dX7_cutAt_37 (by decide) ⟨?_, ⟨?_, fun i w hw => ?_⟩, Same.wr (by decide)⟩
    · unfold cdCut; rw [if_neg hin]; rfl
    · show nI j = _
      rw [nI_clamp hj, List.length_take, Nat.min_eq_left hj2]
    · have hw2 : pr[i]? = some w := by
        rw [List.getElem?_take] at hw
        split at hw
        · exact hw
        · cases hw
      exact hP.2 i w hw2
  · rw [hP.1] at q2
    exact tX7_cutAt_15 h ht (by decide) (by decide) (bad (Or.inr (i_nle q2)))
end C35
