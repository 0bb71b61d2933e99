/-! ===== the class's run: a deed done ===== -/
theorem nI_dif {x y : Nat} (hx : x < 2 ^ 30) (hy : y < 2 ^ 30) : (nI x - nI y).toInt = (x : Int) - (y : Int) := by
  rw [Int32.toInt_sub, nI_toInt (by omega), nI_toInt (by omega)]
  simp only [Int.bmod]
  split <;> omega
theorem setB_or {f : Nat → Bool} {a i : Nat} : (f i || decide (i = a)) = setB f a true i := by
  unfold setB
  by_cases e : i = a
  · simp [e]
  · simp [e]
theorem setB_and {f : Nat → Bool} {a i : Nat} : (f i && !decide (i = a)) = setB f a false i := by
  unfold setB
  by_cases e : i = a
  · simp [e]
  · simp [e]
def WR : List Nat := [19, 20, 21, 22, 23, 24, 25, 27, 28, 29, 30, 31, 32, 45, 46, 50, 51, 52, 53, 54, 55]
theorem WP_WR : ∀ c ∈ WP, c ∈ WR := by decide
theorem StC.same {Z : NT} {mu mu' : jM} {W : List Nat} (h : StC Z mu) (hs : Same W mu mu') (hw : W.all (fun c => decide ((c < 1 ∨ 12 < c) ∧ c ≠ 34 ∧ c ≠ 36 ∧ c ≠ 39 ∧ c ≠ 41 ∧ c ≠ 43)) = true) : StC Z mu' := by
  have hn : ∀ c, ((1 ≤ c ∧ c ≤ 12) ∨ c = 34 ∨ c = 36 ∨ c = 39 ∨ c = 41 ∨ c = 43) → mu' c = mu c := fun c hc => hs c (fun q => by
    have := List.all_eq_true.mp hw c q
    simp only [decide_eq_true_eq] at this
    omega)
  refine ⟨h.1.congr (fun c h1 h2 => hn c (by omega)), h.2.1.congr (fun c h1 h2 => hn c (by omega)), fun x hx => ?_⟩
  rw [hn 34 (by omega), hn 36 (by omega), hn 39 (by omega), hn 41 (by omega), hn 43 (by omega)]
  exact h.2.2 x hx
theorem RepC.spk {s : RS} {mu mu' : jM} (h : RepC s mu) {sd td al : Nat → Bool} {lt : List Lt} {ct : Nat → Nat} (hs : Same (19 :: WP) mu mu') (hf : FlC sd td al mu') (h19 : mu' 19 11 = mu 19 11 ∧ mu' 19 12 = mu 19 12 ∧ mu' 19 15 = mu 19 15) (hl : LetC lt ct mu') : RepC (s.rd, s.op, s.ps, sd, td, al, s.hd, lt, ct, s.st, s.wi, s.sw) mu' := by
  have hc : ∀ c, (c = 21 ∨ c = 22 ∨ c = 23 ∨ c = 45 ∨ c = 46 ∨ (50 ≤ c ∧ c ≤ 57)) → mu' c = mu c := fun c hc => hs c (by
    unfold WP
    simp only [List.mem_cons, List.not_mem_nil, or_false]
    omega)
  refine ⟨fun a ha => ?_, ⟨fun j hj => ?_, h.2.1.2.congr (hc 22 (by omega)) (hc 23 (by omega))⟩, hf, fun K q b i k1 k2 k3 k4 k5 => ?_, hl, ⟨?_, ?_⟩, ?_, fun j e he => ?_⟩
  · rw [hc 45 (by omega), hc 46 (by omega)]; exact h.1 a ha
  · rw [hc 21 (by omega)]; exact h.2.1.1 j hj
  · rw [hc (48 + K) (by omega)]; exact h.2.2.2.1 K q b i k1 k2 k3 k4 k5
  · rw [h19.1]; exact h.2.2.2.2.2.1.1
  · rw [h19.2.1]; exact h.2.2.2.2.2.1.2
  · rw [h19.2.2]; exact h.2.2.2.2.2.2.1
  · rw [hc 56 (by omega), hc 57 (by omega)]; exact h.2.2.2.2.2.2.2 j e he
theorem dk_cases (Z : NT) (s : RS) (a : Nat) : (wy s.sw (s.rd a) = 0 ∧ (dk Z s a = 0 ∨ dk Z s a = 1 ∨ dk Z s a = 6)) ∨ (wy s.sw (s.rd a) = 1 ∧ (dk Z s a = 0 ∨ dk Z s a = 5 ∨ (dk Z s a = 2 ∧ ∃ p, Z.par 1 a = some p))) ∨ (wy s.sw (s.rd a) ≠ 0 ∧ wy s.sw (s.rd a) ≠ 1 ∧ (dk Z s a = 0 ∨ dk Z s a = 3 ∨ dk Z s a = 5 ∨ ((dk Z s a = 2 ∨ dk Z s a = 4) ∧ ∃ p, Z.par 2 a = some p))) := by
  unfold dk
  by_cases h0 : wy s.sw (s.rd a) = 0
  · refine Or.inl ⟨h0, ?_⟩
    rw [if_pos h0]
    split
    · simp
    · split <;> simp
  · rw [if_neg h0]
    by_cases h1 : wy s.sw (s.rd a) = 1
    · refine Or.inr (Or.inl ⟨h1, ?_⟩)
      rw [if_pos h1]
      split
      · cases hp : Z.par 1 a with
        | none => simp
        | some p => simp
      · split <;> simp
    · refine Or.inr (Or.inr ⟨h0, h1, ?_⟩)
      rw [if_neg h1]
      split
      · cases hp : Z.par 2 a with
        | none => simp
        | some p => simp
      · split
        · split <;> simp
        · split
          · cases hp : Z.par 2 a with
            | none => simp
            | some p => simp
          · split <;> simp
theorem FlC.said {sd td al : Nat → Bool} {mu : jM} (h : FlC sd td al mu) {a : Nat} (ha : a < 32) : FlC (setB sd a true) td al (wr mu 19 8 (mu 19 8 ||| (1 <<< (nI a &&& 31)))) := fun i hi => by
  obtain ⟨h1, h2, h3⟩ := h i hi
  refine ⟨?_, h2, h3⟩
  show bt (mu 19 8 ||| (1 <<< (nI a &&& 31))) i = _
  rw [bt_set _ ha hi, h1, setB_or]
theorem FlC.told {sd td al : Nat → Bool} {mu : jM} (h : FlC sd td al mu) {a : Nat} (ha : a < 32) : FlC sd (setB td a true) al (wr mu 19 9 (mu 19 9 ||| (1 <<< (nI a &&& 31)))) := fun i hi => by
  obtain ⟨h1, h2, h3⟩ := h i hi
  refine ⟨h1, ?_, h3⟩
  show bt (mu 19 9 ||| (1 <<< (nI a &&& 31))) i = _
  rw [bt_set _ ha hi, h2, setB_or]
theorem FlC.alls {sd td al : Nat → Bool} {mu : jM} (h : FlC sd td al mu) {a : Nat} (ha : a < 32) : FlC sd td (setB al a true) (wr mu 19 10 (mu 19 10 ||| (1 <<< (nI a &&& 31)))) := fun i hi => by
  obtain ⟨h1, h2, h3⟩ := h i hi
  refine ⟨h1, h2, ?_⟩
  show bt (mu 19 10 ||| (1 <<< (nI a &&& 31))) i = _
  rw [bt_set _ ha hi, h3, setB_or]
theorem FlC.congr {sd td al : Nat → Bool} {mu mu' : jM} (h : FlC sd td al mu) (e : mu' 19 = mu 19) : FlC sd td al mu' := fun i hi => by rw [e]; exact h i hi
theorem LetC.w19 {lt : List Lt} {ct : Nat → Nat} {mu : jM} {j : Nat} {v : Int32} (h : LetC lt ct mu) : LetC lt ct (wr mu 19 j v) := h.congr (by rw [rd_ne _ _ _ (by decide)]) (fun c q1 q2 => rd_ne _ _ _ (by omega))
section C61
variable {l : Launch} {G : jG} {mu : jM}
/-- letters for a deed by the whole tree, or by none -/
theorem c_sendForT (hl : l.stackTraces = false) (hG : jGok G) {Z : NT} (hZ : ZOk Z.n Z.lk Z.par Z.grp Z.ch) {s : RS} (hS : StC Z mu) (hR : RepC s mu) {a : Nat} (ha : a < Z.n) {d : Nat} (hd : d = 1 ∨ d = 2 ∨ d = 5 ∨ d = 6) (hw : d = 2 ∨ d = 5 → wy s.sw (s.rd a) = 1) (hp : d = 2 → ∃ p, Z.par 1 a = some p) (hlen : (s.lt ++ outD Z s a d).length ≤ 512) :
    jCv l G yX5_sendFor cX5_sendFor 4 3 [.ref 19, .int (nI d), .int (nI a), .ref 33] mu (fun mu' => RepC (spk Z s a d) mu' ∧ Same WR mu mu') := by
  refine jCv.of (pad := 0) hl hG (by decide) (Nat.le_of_ble_eq_true rfl) (fun X h => ?_)
  show J l G X _ 4 0 [.ref 19, .int (nI d), .int (nI a), .ref 33] [] mu 0
  have hn24 := hZ.1.1
  have ha24 : a < 24 := by omega
  have hca : (nI a).toNatClampNeg = a := nI_clamp (by omega)
  have va : vp_in (nI a) 24 := vp_in_nI ha24 (by omega)
  have hNP := hS.1.2.2.2
  have hrd := (hR.1 a ha24).1
  have hwide : ∀ {x y : jM}, Same WP x y → Same (19 :: WP) x y := fun q => q.wide (fun c hc => List.mem_cons_of_mem _ hc)
  have hW : ∀ {x y : jM}, Same (19 :: WP) x y → Same WR x y := fun q => q.wide (by decide)
  refine rX5_sendForT_0 h ?_
  rcases hd with rfl | rfl | rfl | rfl
  · refine rX5_sendForT_1 h (fun _ => ?_) (fun q => absurd q (by decide)) (fun q => absurd q (by decide)) (fun q => absurd q (by decide)) (fun q => absurd q (by decide)) (fun q => absurd rfl q)
    refine rX5_sendForT_36 h va ?_
    rw [hca]
    have e0 : nbl Z.lk a = (nbl Z.lk a).filter (nbB Z a) := (List.filter_eq_self.mpr (fun x hx => by unfold nbB; simpa using hx)).symm
    have e1 : outD Z s a 1 = toL 2 a (s.rd a) ((nbl Z.lk a).filter (nbB Z a)) := by rw [← e0]; rfl
    rw [e1] at hlen
    refine rX5_sendForT_60 h (c_sendByPorts (mu := wr mu 19 8 (mu 19 8 ||| (1 <<< (nI a &&& 31)))) hl hG hZ.1 (hNP.congr rfl rfl rfl rfl) (lt := s.lt) (ct := s.ct) hR.2.2.2.2.1.w19 (K := 2) (by omega) ha24 (k := s.rd a) hrd (S := nbB Z a) (fun i hi => nbl_bit hZ.1 hNP ha24 hi) hlen) (by decide) (Nat.zero_le _) (fun m1 e2 => ?_)
    refine rX5_sendForT_63 h (J_vret h dX5_sendFor_211 ?_)
    have hsm : Same (19 :: WP) mu m1 := (Same.wr (by decide)).trans' (hwide e2.2)
    have h19 := e2.2 19 (by decide)
    refine ⟨?_, hW hsm⟩
    refine hR.spk (sd := setB s.sd a true) (td := s.td) (al := s.al) hsm ((hR.2.2.1.said (by omega)).congr h19) (by rw [h19]; exact ⟨rfl, rfl, rfl⟩) ?_
    rw [e1]; exact e2.1
  · refine rX5_sendForT_1 h (fun q => absurd q (by decide)) (fun _ => ?_) (fun q => absurd q (by decide)) (fun q => absurd q (by decide)) (fun q => absurd q (by decide)) (fun _ q => absurd rfl q)
    refine rX5_sendForT_66 h va va ?_
    obtain ⟨p, hp⟩ := hp rfl
    have hw1 := hw (Or.inl rfl)
    have e1 : outD Z s a 2 = [(3, a, p, s.rd a, 0)] := by
      show toL 3 a (s.rd a) [(Z.par (wy s.sw (s.rd a)) a).getD 0] = _
      rw [hw1, hp]; rfl
    rw [hca, hrd, (hS.2.2 a ha).1, hp]
    rw [e1] at hlen
    refine rX5_sendForT_97 h (c_send hl hG (lt := s.lt) (ct := s.ct) hR.2.2.2.2.1.w19 (by rw [List.length_append] at hlen; simp at hlen; omega) (K := 3) (by omega) a p (s.rd a) 0) (by decide) (Nat.zero_le _) (fun m1 e2 => ?_)
    refine rX5_sendForT_100 h (J_vret h dX5_sendFor_211 ?_)
    have hsm : Same (19 :: WP) mu m1 := (Same.wr (by decide)).trans' (hwide e2.2)
    have h19 := e2.2 19 (by decide)
    refine ⟨?_, hW hsm⟩
    refine hR.spk (sd := setB s.sd a true) (td := s.td) (al := s.al) hsm ((hR.2.2.1.said (by omega)).congr h19) (by rw [h19]; exact ⟨rfl, rfl, rfl⟩) ?_
    rw [e1]; exact e2.1
  · refine rX5_sendForT_1 h (fun q => absurd q (by decide)) (fun q => absurd q (by decide)) (fun q => absurd q (by decide)) (fun q => absurd q (by decide)) (fun _ => ?_) (fun _ _ _ _ q => absurd rfl q)
    refine rX5_sendForT_196 h va ?_
    have hw1 := hw (Or.inr rfl)
    have e1 : outD Z s a 5 = toL 4 a (s.rd a) ((List.range Z.n).filter (kid Z 1 a)) := by
      show toL 4 a (s.rd a) (kids Z (wy s.sw (s.rd a)) a) = _
      rw [hw1]; rfl
    rw [hca]
    rw [e1] at hlen
    refine rX5_sendForT_205 h (c_sendByNumbers hl hG hn24 hS.1.1 (lt := s.lt) (ct := s.ct) hR.2.2.2.2.1 (K := 4) (by omega) ha24 (k := s.rd a) hrd (S := kid Z 1 a) (fun i hi => ((hS.2.2 a ha).2.2 i hi).1) hlen) (by decide) (Nat.zero_le _) (fun m1 e2 => ?_)
    refine rX5_sendForT_208 h (J_vret h dX5_sendFor_211 ?_)
    have hsm : Same (19 :: WP) mu m1 := hwide e2.2
    have h19 := e2.2 19 (by decide)
    refine ⟨?_, hW hsm⟩
    refine hR.spk (sd := s.sd) (td := s.td) (al := s.al) hsm (hR.2.2.1.congr h19) (by rw [h19]; exact ⟨rfl, rfl, rfl⟩) ?_
    rw [e1]; exact e2.1
  · refine rX5_sendForT_1 h (fun q => absurd q (by decide)) (fun q => absurd q (by decide)) (fun q => absurd q (by decide)) (fun q => absurd q (by decide)) (fun q => absurd q (by decide)) (fun _ _ _ _ _ => ?_)
    refine J_vret h dX5_sendFor_211 ⟨?_, Same.rfl'⟩
    refine hR.spk (sd := s.sd) (td := s.td) (al := s.al) Same.rfl' hR.2.2.1 ⟨rfl, rfl, rfl⟩ ?_
    show LetC (s.lt ++ []) (ctAdd s.ct []) mu
    rw [List.append_nil, ctAdd_nil]
    exact hR.2.2.2.2.1
theorem c_sendForC (hl : l.stackTraces = false) (hG : jGok G) {Z : NT} (hZ : ZOk Z.n Z.lk Z.par Z.grp Z.ch) {s : RS} (hS : StC Z mu) (hR : RepC s mu) {a : Nat} (ha : a < Z.n) {d : Nat} (hd : d = 2 ∨ d = 3 ∨ d = 4 ∨ d = 5) (hw : wy s.sw (s.rd a) = 2) (hp : d = 2 ∨ d = 4 → ∃ p, Z.par 2 a = some p) (hlen : (s.lt ++ outD Z s a d).length ≤ 512) :
    jCv l G yX5_sendFor cX5_sendFor 4 3 [.ref 19, .int (nI d), .int (nI a), .ref 38] mu (fun mu' => RepC (spk Z s a d) mu' ∧ Same WR mu mu') := by
  refine jCv.of (pad := 0) hl hG (by decide) (Nat.le_of_ble_eq_true rfl) (fun X h => ?_)
  show J l G X _ 4 0 [.ref 19, .int (nI d), .int (nI a), .ref 38] [] mu 0
  have hn24 := hZ.1.1
  have ha24 : a < 24 := by omega
  have hca : (nI a).toNatClampNeg = a := nI_clamp (by omega)
  have va : vp_in (nI a) 24 := vp_in_nI ha24 (by omega)
  have hNP := hS.1.2.2.2
  have hrd := (hR.1 a ha24).1
  have hwide : ∀ {x y : jM}, Same WP x y → Same (19 :: WP) x y := fun q => q.wide (fun c hc => List.mem_cons_of_mem _ hc)
  have hW : ∀ {x y : jM}, Same (19 :: WP) x y → Same WR x y := fun q => q.wide (by decide)
  refine rX5_sendForC_0 h ?_
  rcases hd with rfl | rfl | rfl | rfl
  · refine rX5_sendForC_1 h (fun q => absurd q (by decide)) (fun _ => ?_) (fun q => absurd q (by decide)) (fun q => absurd q (by decide)) (fun q => absurd q (by decide)) (fun _ q => absurd rfl q)
    refine rX5_sendForC_66 h va va ?_
    obtain ⟨p, hp⟩ := hp (Or.inl rfl)
    have e1 : outD Z s a 2 = [(3, a, p, s.rd a, 0)] := by
      show toL 3 a (s.rd a) [(Z.par (wy s.sw (s.rd a)) a).getD 0] = _
      rw [hw, hp]; rfl
    rw [hca, hrd, (hS.2.2 a ha).2.1, hp]
    rw [e1] at hlen
    refine rX5_sendForC_97 h (c_send hl hG (lt := s.lt) (ct := s.ct) hR.2.2.2.2.1.w19 (by rw [List.length_append] at hlen; simp at hlen; omega) (K := 3) (by omega) a p (s.rd a) 0) (by decide) (Nat.zero_le _) (fun m1 e2 => ?_)
    refine rX5_sendForC_100 h (J_vret h dX5_sendFor_211 ?_)
    have hsm : Same (19 :: WP) mu m1 := (Same.wr (by decide)).trans' (hwide e2.2)
    have h19 := e2.2 19 (by decide)
    refine ⟨?_, hW hsm⟩
    refine hR.spk (sd := setB s.sd a true) (td := s.td) (al := s.al) hsm ((hR.2.2.1.said (by omega)).congr h19) (by rw [h19]; exact ⟨rfl, rfl, rfl⟩) ?_
    rw [e1]; exact e2.1
  · refine rX5_sendForC_1 h (fun q => absurd q (by decide)) (fun q => absurd q (by decide)) (fun _ => ?_) (fun q => absurd q (by decide)) (fun q => absurd q (by decide)) (fun _ _ q => absurd rfl q)
    refine rX5_sendForC_103 h va ?_
    have e1 : outD Z s a 3 = toL 5 a (s.rd a) ((List.range Z.n).filter (kid Z 2 a)) ++ toL 6 a (s.rd a) ((nbl Z.lk a).filter (Z.ch a)) := rfl
    rw [hca]
    rw [e1, ← List.append_assoc] at hlen
    have hlen1 : (s.lt ++ toL 5 a (s.rd a) ((List.range Z.n).filter (kid Z 2 a))).length ≤ 512 := by rw [List.length_append] at hlen; omega
    refine rX5_sendForC_136 h (c_sendByNumbers (mu := wr (wr mu 19 8 (mu 19 8 ||| (1 <<< (nI a &&& 31)))) 19 9 (mu 19 9 ||| (1 <<< (nI a &&& 31)))) hl hG hn24 hS.1.1 (lt := s.lt) (ct := s.ct) hR.2.2.2.2.1.w19.w19 (K := 5) (by omega) ha24 (k := s.rd a) hrd (S := kid Z 2 a) (fun i hi => ((hS.2.2 a ha).2.2 i hi).2.1) hlen1) (by decide) (Nat.zero_le _) (fun m1 e2 => ?_)
    refine rX5_sendForC_139 h va ?_
    have hsm1 : Same (19 :: WP) mu m1 := ((Same.wr (by decide)).trans' (Same.wr (by decide))).trans' (hwide e2.2)
    rw [hca, hsm1 43 (by decide)]
    refine rX5_sendForC_152 h (c_sendByPorts hl hG hZ.1 (hNP.congr (hsm1 9 (by decide)) (hsm1 10 (by decide)) (hsm1 11 (by decide)) (hsm1 12 (by decide))) e2.1 (K := 6) (by omega) ha24 (k := s.rd a) (by rw [hsm1 45 (by decide)]; exact hrd) (S := Z.ch a) (fun i hi => ((hS.2.2 a ha).2.2 i hi).2.2) hlen) (by decide) (Nat.zero_le _) (fun m2 e3 => ?_)
    refine rX5_sendForC_155 h (J_vret h dX5_sendFor_211 ?_)
    have hsm : Same (19 :: WP) mu m2 := hsm1.trans' (hwide e3.2)
    have h19 := (e3.2 19 (by decide)).trans (e2.2 19 (by decide))
    refine ⟨?_, hW hsm⟩
    refine hR.spk (sd := setB s.sd a true) (td := setB s.td a true) (al := s.al) hsm (((hR.2.2.1.said (by omega)).told (by omega)).congr h19) (by rw [h19]; exact ⟨rfl, rfl, rfl⟩) ?_
    rw [e1, ← List.append_assoc, ← ctAdd_app]; exact e3.1
  · refine rX5_sendForC_1 h (fun q => absurd q (by decide)) (fun q => absurd q (by decide)) (fun q => absurd q (by decide)) (fun _ => ?_) (fun q => absurd q (by decide)) (fun _ _ _ q => absurd rfl q)
    refine rX5_sendForC_158 h va va ?_
    obtain ⟨p, hp⟩ := hp (Or.inr rfl)
    have e1 : outD Z s a 4 = [(7, a, p, s.rd a, 0)] := by
      show toL 7 a (s.rd a) [(Z.par 2 a).getD 0] = _
      rw [hp]; rfl
    rw [hca, hrd, (hS.2.2 a ha).2.1, hp]
    rw [e1] at hlen
    refine rX5_sendForC_190 h (c_send hl hG (lt := s.lt) (ct := s.ct) hR.2.2.2.2.1.w19 (by rw [List.length_append] at hlen; simp at hlen; omega) (K := 7) (by omega) a p (s.rd a) 0) (by decide) (Nat.zero_le _) (fun m1 e2 => ?_)
    refine rX5_sendForC_193 h (J_vret h dX5_sendFor_211 ?_)
    have hsm : Same (19 :: WP) mu m1 := (Same.wr (by decide)).trans' (hwide e2.2)
    have h19 := e2.2 19 (by decide)
    refine ⟨?_, hW hsm⟩
    refine hR.spk (sd := s.sd) (td := s.td) (al := setB s.al a true) hsm ((hR.2.2.1.alls (by omega)).congr h19) (by rw [h19]; exact ⟨rfl, rfl, rfl⟩) ?_
    rw [e1]; exact e2.1
  · refine rX5_sendForC_1 h (fun q => absurd q (by decide)) (fun q => absurd q (by decide)) (fun q => absurd q (by decide)) (fun q => absurd q (by decide)) (fun _ => ?_) (fun _ _ _ _ q => absurd rfl q)
    refine rX5_sendForC_196 h va ?_
    have e1 : outD Z s a 5 = toL 4 a (s.rd a) ((List.range Z.n).filter (kid Z 2 a)) := by
      show toL 4 a (s.rd a) (kids Z (wy s.sw (s.rd a)) a) = _
      rw [hw]; rfl
    rw [hca]
    rw [e1] at hlen
    refine rX5_sendForC_205 h (c_sendByNumbers hl hG hn24 hS.1.1 (lt := s.lt) (ct := s.ct) hR.2.2.2.2.1 (K := 4) (by omega) ha24 (k := s.rd a) hrd (S := kid Z 2 a) (fun i hi => ((hS.2.2 a ha).2.2 i hi).2.1) hlen) (by decide) (Nat.zero_le _) (fun m1 e2 => ?_)
    refine rX5_sendForC_208 h (J_vret h dX5_sendFor_211 ?_)
    have hsm : Same (19 :: WP) mu m1 := hwide e2.2
    have h19 := e2.2 19 (by decide)
    refine ⟨?_, hW hsm⟩
    refine hR.spk (sd := s.sd) (td := s.td) (al := s.al) hsm (hR.2.2.1.congr h19) (by rw [h19]; exact ⟨rfl, rfl, rfl⟩) ?_
    rw [e1]; exact e2.1
end C61
