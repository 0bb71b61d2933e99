/-! ===== printed by wip/whole/wraps.py: the methods of the law that take throws up ===== -/
section C73
variable {l : Launch} {G : jG} {mu : jM}
abbrev hL_net : List (Nat × Nat × Nat × Nat) := [(0, 5, 8, 13), (0, 5, 11, 15)]
theorem w_net (hl : l.stackTraces = false) (hG : jGok G) {cd : Nat} {Qc : jM → Prop} {x1 : Int32} (hM : jXv l G yX7_net cX7_net 2 8 6 [.ref 0, .int x1] mu Qc (exC cd [E_IAE, E_ISE] mu)) (h0 : ∀ mu', Qc mu' → cd = 0) : jL l G yL_net cL_net 3 9 6 hL_net [.ref 0, .int x1] mu (fun k mu' => k = nI cd ∧ (cd = 0 → Qc mu') ∧ (cd ≠ 0 → mu' = mu)) := by
  refine jL.of (pad := 1) hl hG (by decide) (Nat.le_of_ble_eq_true rfl) (fun X h htab => ?_)
  show J l G X _ 3 0 [.ref 0, .int x1, .float 0] [] mu 0
  refine J_aload_n h dL_net_0 rfl rfl ?_
  refine J_iload_n h dL_net_1 rfl rfl ?_
  refine J_callHv (As := [.int x1]) (rest := []) h htab dL_net_2 hM (jgV w415 w416 w417 w76 w418) rfl (ci := 7) rfl rfl nmX7_net rfl (by decide) (Nat.le_of_ble_eq_true rfl) rfl (Nat.le_refl _) (fun E m2 e2 => ?_) (fun m2 e2 => ?_)
  · obtain ⟨rfl, hne, htb⟩ := e2
    have hlt := (List.getElem?_eq_some_iff.mp htb).1
    simp only [List.length_cons, List.length_nil] at hlt
    have hcs : cd = 1 ∨ cd = 2 := by omega
    rcases hcs with rfl | rfl
    · have htb : some E_IAE = some E := htb
      cases htb
      refine ⟨[], ⟨0, 5, 8, 13⟩, [⟨0, 5, 11, 15⟩], rfl, (fun z hz => absurd hz List.not_mem_nil), rfl, by decide, by decide +kernel, w413, w421, 2, 1, Or.inr ⟨2, rfl, dL_net_8, rfl⟩, by decide, rfl, ?_⟩
      refine J_iconst (pc := 9) h dL_net_9 ci_1 ?_
      exact J_iretX h dL_net_10 rfl (Nat.le_refl _) ⟨rfl, fun q => absurd q (by decide), fun _ => rfl⟩
    · have htb : some E_ISE = some E := htb
      cases htb
      refine ⟨[⟨0, 5, 8, 13⟩], ⟨0, 5, 11, 15⟩, [], rfl, (fun z hz => by
        rcases List.mem_cons.mp hz with rfl | hz
        · exact ⟨by decide, E_IAE, by decide +kernel, by decide +kernel, w413⟩
        exact absurd hz List.not_mem_nil), rfl, by decide, by decide +kernel, w414, w495, 2, 1, Or.inr ⟨2, rfl, dL_net_11, rfl⟩, by decide, rfl, ?_⟩
      refine J_iconst (pc := 12) h dL_net_12 ci_2 ?_
      exact J_iretX h dL_net_13 rfl (Nat.le_refl _) ⟨rfl, fun q => absurd q (by decide), fun _ => rfl⟩
  · have hz := h0 _ e2
    refine J_goto (tgt := 14) h dL_net_5 (by decide) ?_
    refine J_iconst h dL_net_14 ci_0 ?_
    exact J_iretX h dL_net_15 rfl (Nat.le_refl _) ⟨by rw [hz]; rfl, fun _ => e2, fun q => absurd hz q⟩
abbrev hL_link : List (Nat × Nat × Nat × Nat) := [(0, 10, 13, 21), (0, 10, 17, 13), (0, 10, 21, 15), (0, 10, 25, 23)]
theorem w_link (hl : l.stackTraces = false) (hG : jGok G) {cd : Nat} {Qc : Int32 → jM → Prop} {x1 x2 : Int32} (hM : jXi l G yX7_link cX7_link 3 8 6 (some .int) [.ref 0, .int x1, .int x2] mu Qc (exC cd [E_NSE, E_IAE, E_ISE, E_UOE] mu)) (h0 : ∀ v mu', Qc v mu' → cd = 0) : jL l G yL_link cL_link 5 9 6 hL_link [.ref 0, .int x1, .int x2, .ref 93] mu (fun k mu' => k = nI cd ∧ (cd = 0 → ∃ v mu1, Qc v mu1 ∧ mu' = wr mu1 93 0 v) ∧ (cd ≠ 0 → mu' = mu)) := by
  refine jL.of (pad := 1) hl hG (by decide) (Nat.le_of_ble_eq_true rfl) (fun X h htab => ?_)
  show J l G X _ 5 0 [.ref 0, .int x1, .int x2, .ref 93, .float 0] [] mu 0
  refine J_aload_n h dL_link_0 rfl rfl ?_
  refine J_iconst h dL_link_1 ci_0 ?_
  refine J_aload_n h dL_link_2 rfl rfl ?_
  refine J_iload_n h dL_link_3 rfl rfl ?_
  refine J_iload_n h dL_link_4 rfl rfl ?_
  refine J_callHi (As := [.int x1, .int x2]) (rest := [.int 0, .ref 93]) h htab dL_link_5 hM (jgV w530 w531 w532 w76 w533) rfl (ci := 7) rfl rfl nmX7_link rfl (by decide) (Nat.le_of_ble_eq_true rfl) rfl (Nat.le_refl _) (fun E m2 e2 => ?_) (fun v m2 e2 => ?_)
  · obtain ⟨rfl, hne, htb⟩ := e2
    have hlt := (List.getElem?_eq_some_iff.mp htb).1
    simp only [List.length_cons, List.length_nil] at hlt
    have hcs : cd = 1 ∨ cd = 2 ∨ cd = 3 ∨ cd = 4 := by omega
    rcases hcs with rfl | rfl | rfl | rfl
    · have htb : some E_NSE = some E := htb
      cases htb
      refine ⟨[], ⟨0, 10, 13, 21⟩, [⟨0, 10, 17, 13⟩, ⟨0, 10, 21, 15⟩, ⟨0, 10, 25, 23⟩], rfl, (fun z hz => absurd hz List.not_mem_nil), rfl, by decide, by decide +kernel, w528, w540, 4, 2, Or.inl ⟨dL_link_13, rfl⟩, by decide, rfl, ?_⟩
      refine J_iconst (pc := 15) h dL_link_15 ci_1 ?_
      exact J_iretX h dL_link_16 rfl (Nat.le_refl _) ⟨rfl, fun q => absurd q (by decide), fun _ => rfl⟩
    · have htb : some E_IAE = some E := htb
      cases htb
      refine ⟨[⟨0, 10, 13, 21⟩], ⟨0, 10, 17, 13⟩, [⟨0, 10, 21, 15⟩, ⟨0, 10, 25, 23⟩], rfl, (fun z hz => by
        rcases List.mem_cons.mp hz with rfl | hz
        · exact ⟨by decide, E_NSE, by decide +kernel, by decide +kernel, w528⟩
        exact absurd hz List.not_mem_nil), rfl, by decide, by decide +kernel, w413, w421, 4, 2, Or.inl ⟨dL_link_17, rfl⟩, by decide, rfl, ?_⟩
      refine J_iconst (pc := 19) h dL_link_19 ci_2 ?_
      exact J_iretX h dL_link_20 rfl (Nat.le_refl _) ⟨rfl, fun q => absurd q (by decide), fun _ => rfl⟩
    · have htb : some E_ISE = some E := htb
      cases htb
      refine ⟨[⟨0, 10, 13, 21⟩, ⟨0, 10, 17, 13⟩], ⟨0, 10, 21, 15⟩, [⟨0, 10, 25, 23⟩], rfl, (fun z hz => by
        rcases List.mem_cons.mp hz with rfl | hz
        · exact ⟨by decide, E_NSE, by decide +kernel, by decide +kernel, w528⟩
        rcases List.mem_cons.mp hz with rfl | hz
        · exact ⟨by decide, E_IAE, by decide +kernel, by decide +kernel, w413⟩
        exact absurd hz List.not_mem_nil), rfl, by decide, by decide +kernel, w414, w495, 4, 2, Or.inl ⟨dL_link_21, rfl⟩, by decide, rfl, ?_⟩
      refine J_iconst (pc := 23) h dL_link_23 ci_3 ?_
      exact J_iretX h dL_link_24 rfl (Nat.le_refl _) ⟨rfl, fun q => absurd q (by decide), fun _ => rfl⟩
    · have htb : some E_UOE = some E := htb
      cases htb
      refine ⟨[⟨0, 10, 13, 21⟩, ⟨0, 10, 17, 13⟩, ⟨0, 10, 21, 15⟩], ⟨0, 10, 25, 23⟩, [], rfl, (fun z hz => by
        rcases List.mem_cons.mp hz with rfl | hz
        · exact ⟨by decide, E_NSE, by decide +kernel, by decide +kernel, w528⟩
        rcases List.mem_cons.mp hz with rfl | hz
        · exact ⟨by decide, E_IAE, by decide +kernel, by decide +kernel, w413⟩
        rcases List.mem_cons.mp hz with rfl | hz
        · exact ⟨by decide, E_ISE, by decide +kernel, by decide +kernel, w414⟩
        exact absurd hz List.not_mem_nil), rfl, by decide, by decide +kernel, w529, w562, 4, 2, Or.inl ⟨dL_link_25, rfl⟩, by decide, rfl, ?_⟩
      refine J_iconst (pc := 27) h dL_link_27 ci_4 ?_
      exact J_iretX h dL_link_28 rfl (Nat.le_refl _) ⟨rfl, fun q => absurd q (by decide), fun _ => rfl⟩
  · have hz := h0 _ _ e2
    refine J_i2l h dL_link_8 ?_
    refine J_last h dL_link_9 rfl (jin (by decide)) ?_
    refine J_goto (tgt := 29) h dL_link_10 (by decide) ?_
    refine J_iconst h dL_link_29 ci_0 ?_
    exact J_iretX h dL_link_30 rfl (Nat.le_refl _) ⟨by rw [hz]; rfl, fun _ => ⟨v, m2, e2, rfl⟩, fun q => absurd hz q⟩
abbrev hL_word : List (Nat × Nat × Nat × Nat) := [(0, 16, 19, 13), (0, 16, 23, 15), (0, 16, 27, 23)]
theorem w_word (hl : l.stackTraces = false) (hG : jGok G) {cd : Nat} {Qc : Int32 → jM → Prop} {x1 x2 x3 x4 x5 : Int32} (hM : jXi l G yX7_word cX7_word 6 8 6 (some .int) [.ref 0, .int x1, .int x2, .int x3, .int x4, .int x5] mu Qc (exC cd [E_IAE, E_ISE, E_UOE] mu)) (h0 : ∀ v mu', Qc v mu' → cd = 0) : jL l G yL_word cL_word 8 9 6 hL_word [.ref 0, .int x1, .int x2, .int x3, .int x4, .int x5, .ref 93] mu (fun k mu' => k = nI cd ∧ (cd = 0 → ∃ v mu1, Qc v mu1 ∧ mu' = wr mu1 93 0 v) ∧ (cd ≠ 0 → mu' = mu)) := by
  refine jL.of (pad := 1) hl hG (by decide) (Nat.le_of_ble_eq_true rfl) (fun X h htab => ?_)
  show J l G X _ 8 0 [.ref 0, .int x1, .int x2, .int x3, .int x4, .int x5, .ref 93, .float 0] [] mu 0
  refine J_aload h dL_word_0 rfl ?_
  refine J_iconst h dL_word_2 ci_0 ?_
  refine J_aload_n h dL_word_3 rfl rfl ?_
  refine J_iload_n h dL_word_4 rfl rfl ?_
  refine J_iload_n h dL_word_5 rfl rfl ?_
  refine J_iload_n h dL_word_6 rfl rfl ?_
  refine J_iload h dL_word_7 rfl ?_
  refine J_iload h dL_word_9 rfl ?_
  refine J_callHi (As := [.int x1, .int x2, .int x3, .int x4, .int x5]) (rest := [.int 0, .ref 93]) h htab dL_word_11 hM (jgV w587 w588 w589 w76 w590) rfl (ci := 7) rfl rfl nmX7_word rfl (by decide) (Nat.le_of_ble_eq_true rfl) rfl (Nat.le_refl _) (fun E m2 e2 => ?_) (fun v m2 e2 => ?_)
  · obtain ⟨rfl, hne, htb⟩ := e2
    have hlt := (List.getElem?_eq_some_iff.mp htb).1
    simp only [List.length_cons, List.length_nil] at hlt
    have hcs : cd = 1 ∨ cd = 2 ∨ cd = 3 := by omega
    rcases hcs with rfl | rfl | rfl
    · have htb : some E_IAE = some E := htb
      cases htb
      refine ⟨[], ⟨0, 16, 19, 13⟩, [⟨0, 16, 23, 15⟩, ⟨0, 16, 27, 23⟩], rfl, (fun z hz => absurd hz List.not_mem_nil), rfl, by decide, by decide +kernel, w413, w421, 7, 2, Or.inl ⟨dL_word_19, rfl⟩, by decide, rfl, ?_⟩
      refine J_iconst (pc := 21) h dL_word_21 ci_1 ?_
      exact J_iretX h dL_word_22 rfl (Nat.le_refl _) ⟨rfl, fun q => absurd q (by decide), fun _ => rfl⟩
    · have htb : some E_ISE = some E := htb
      cases htb
      refine ⟨[⟨0, 16, 19, 13⟩], ⟨0, 16, 23, 15⟩, [⟨0, 16, 27, 23⟩], rfl, (fun z hz => by
        rcases List.mem_cons.mp hz with rfl | hz
        · exact ⟨by decide, E_IAE, by decide +kernel, by decide +kernel, w413⟩
        exact absurd hz List.not_mem_nil), rfl, by decide, by decide +kernel, w414, w495, 7, 2, Or.inl ⟨dL_word_23, rfl⟩, by decide, rfl, ?_⟩
      refine J_iconst (pc := 25) h dL_word_25 ci_2 ?_
      exact J_iretX h dL_word_26 rfl (Nat.le_refl _) ⟨rfl, fun q => absurd q (by decide), fun _ => rfl⟩
    · have htb : some E_UOE = some E := htb
      cases htb
      refine ⟨[⟨0, 16, 19, 13⟩, ⟨0, 16, 23, 15⟩], ⟨0, 16, 27, 23⟩, [], rfl, (fun z hz => by
        rcases List.mem_cons.mp hz with rfl | hz
        · exact ⟨by decide, E_IAE, by decide +kernel, by decide +kernel, w413⟩
        rcases List.mem_cons.mp hz with rfl | hz
        · exact ⟨by decide, E_ISE, by decide +kernel, by decide +kernel, w414⟩
        exact absurd hz List.not_mem_nil), rfl, by decide, by decide +kernel, w529, w562, 7, 2, Or.inl ⟨dL_word_27, rfl⟩, by decide, rfl, ?_⟩
      refine J_iconst (pc := 29) h dL_word_29 ci_3 ?_
      exact J_iretX h dL_word_30 rfl (Nat.le_refl _) ⟨rfl, fun q => absurd q (by decide), fun _ => rfl⟩
  · have hz := h0 _ _ e2
    refine J_i2l h dL_word_14 ?_
    refine J_last h dL_word_15 rfl (jin (by decide)) ?_
    refine J_goto (tgt := 31) h dL_word_16 (by decide) ?_
    refine J_iconst h dL_word_31 ci_0 ?_
    exact J_iretX h dL_word_32 rfl (Nat.le_refl _) ⟨by rw [hz]; rfl, fun _ => ⟨v, m2, e2, rfl⟩, fun q => absurd hz q⟩
abbrev hL_builtin : List (Nat × Nat × Nat × Nat) := [(0, 9, 12, 13), (0, 9, 15, 15)]
theorem w_builtin (hl : l.stackTraces = false) (hG : jGok G) {cd : Nat} {Qc : Int32 → jM → Prop} {x1 : Int32} (hM : jXi l G yX7_builtin cX7_builtin 2 8 6 (some .int) [.ref 0, .int x1] mu Qc (exC cd [E_IAE, E_ISE] mu)) (h0 : ∀ v mu', Qc v mu' → cd = 0) : jL l G yL_builtin cL_builtin 4 9 6 hL_builtin [.ref 0, .int x1, .ref 93] mu (fun k mu' => k = nI cd ∧ (cd = 0 → ∃ v mu1, Qc v mu1 ∧ mu' = wr mu1 93 0 v) ∧ (cd ≠ 0 → mu' = mu)) := by
  refine jL.of (pad := 1) hl hG (by decide) (Nat.le_of_ble_eq_true rfl) (fun X h htab => ?_)
  show J l G X _ 4 0 [.ref 0, .int x1, .ref 93, .float 0] [] mu 0
  refine J_aload_n h dL_builtin_0 rfl rfl ?_
  refine J_iconst h dL_builtin_1 ci_0 ?_
  refine J_aload_n h dL_builtin_2 rfl rfl ?_
  refine J_iload_n h dL_builtin_3 rfl rfl ?_
  refine J_callHi (As := [.int x1]) (rest := [.int 0, .ref 93]) h htab dL_builtin_4 hM (jgV w600 w601 w602 w76 w603) rfl (ci := 7) rfl rfl nmX7_builtin rfl (by decide) (Nat.le_of_ble_eq_true rfl) rfl (Nat.le_refl _) (fun E m2 e2 => ?_) (fun v m2 e2 => ?_)
  · obtain ⟨rfl, hne, htb⟩ := e2
    have hlt := (List.getElem?_eq_some_iff.mp htb).1
    simp only [List.length_cons, List.length_nil] at hlt
    have hcs : cd = 1 ∨ cd = 2 := by omega
    rcases hcs with rfl | rfl
    · have htb : some E_IAE = some E := htb
      cases htb
      refine ⟨[], ⟨0, 9, 12, 13⟩, [⟨0, 9, 15, 15⟩], rfl, (fun z hz => absurd hz List.not_mem_nil), rfl, by decide, by decide +kernel, w413, w421, 3, 1, Or.inr ⟨3, rfl, dL_builtin_12, rfl⟩, by decide, rfl, ?_⟩
      refine J_iconst (pc := 13) h dL_builtin_13 ci_1 ?_
      exact J_iretX h dL_builtin_14 rfl (Nat.le_refl _) ⟨rfl, fun q => absurd q (by decide), fun _ => rfl⟩
    · have htb : some E_ISE = some E := htb
      cases htb
      refine ⟨[⟨0, 9, 12, 13⟩], ⟨0, 9, 15, 15⟩, [], rfl, (fun z hz => by
        rcases List.mem_cons.mp hz with rfl | hz
        · exact ⟨by decide, E_IAE, by decide +kernel, by decide +kernel, w413⟩
        exact absurd hz List.not_mem_nil), rfl, by decide, by decide +kernel, w414, w495, 3, 1, Or.inr ⟨3, rfl, dL_builtin_15, rfl⟩, by decide, rfl, ?_⟩
      refine J_iconst (pc := 16) h dL_builtin_16 ci_2 ?_
      exact J_iretX h dL_builtin_17 rfl (Nat.le_refl _) ⟨rfl, fun q => absurd q (by decide), fun _ => rfl⟩
  · have hz := h0 _ _ e2
    refine J_i2l h dL_builtin_7 ?_
    refine J_last h dL_builtin_8 rfl (jin (by decide)) ?_
    refine J_goto (tgt := 18) h dL_builtin_9 (by decide) ?_
    refine J_iconst h dL_builtin_18 ci_0 ?_
    exact J_iretX h dL_builtin_19 rfl (Nat.le_refl _) ⟨by rw [hz]; rfl, fun _ => ⟨v, m2, e2, rfl⟩, fun q => absurd hz q⟩
abbrev hL_cutAt : List (Nat × Nat × Nat × Nat) := [(0, 5, 8, 13), (0, 5, 11, 15)]
theorem w_cutAt (hl : l.stackTraces = false) (hG : jGok G) {cd : Nat} {Qc : jM → Prop} {x1 : Int32} (hM : jXv l G yX7_cutAt cX7_cutAt 2 8 6 [.ref 0, .int x1] mu Qc (exC cd [E_IAE, E_ISE] mu)) (h0 : ∀ mu', Qc mu' → cd = 0) : jL l G yL_cutAt cL_cutAt 3 9 6 hL_cutAt [.ref 0, .int x1] mu (fun k mu' => k = nI cd ∧ (cd = 0 → Qc mu') ∧ (cd ≠ 0 → mu' = mu)) := by
  refine jL.of (pad := 1) hl hG (by decide) (Nat.le_of_ble_eq_true rfl) (fun X h htab => ?_)
  show J l G X _ 3 0 [.ref 0, .int x1, .float 0] [] mu 0
  refine J_aload_n h dL_cutAt_0 rfl rfl ?_
  refine J_iload_n h dL_cutAt_1 rfl rfl ?_
  refine J_callHv (As := [.int x1]) (rest := []) h htab dL_cutAt_2 hM (jgV w625 w626 w627 w76 w628) rfl (ci := 7) rfl rfl nmX7_cutAt rfl (by decide) (Nat.le_of_ble_eq_true rfl) rfl (Nat.le_refl _) (fun E m2 e2 => ?_) (fun m2 e2 => ?_)
  · obtain ⟨rfl, hne, htb⟩ := e2
    have hlt := (List.getElem?_eq_some_iff.mp htb).1
    simp only [List.length_cons, List.length_nil] at hlt
    have hcs : cd = 1 ∨ cd = 2 := by omega
    rcases hcs with rfl | rfl
    · have htb : some E_IAE = some E := htb
      cases htb
      refine ⟨[], ⟨0, 5, 8, 13⟩, [⟨0, 5, 11, 15⟩], rfl, (fun z hz => absurd hz List.not_mem_nil), rfl, by decide, by decide +kernel, w413, w421, 2, 1, Or.inr ⟨2, rfl, dL_cutAt_8, rfl⟩, by decide, rfl, ?_⟩
      refine J_iconst (pc := 9) h dL_cutAt_9 ci_1 ?_
      exact J_iretX h dL_cutAt_10 rfl (Nat.le_refl _) ⟨rfl, fun q => absurd q (by decide), fun _ => rfl⟩
    · have htb : some E_ISE = some E := htb
      cases htb
      refine ⟨[⟨0, 5, 8, 13⟩], ⟨0, 5, 11, 15⟩, [], rfl, (fun z hz => by
        rcases List.mem_cons.mp hz with rfl | hz
        · exact ⟨by decide, E_IAE, by decide +kernel, by decide +kernel, w413⟩
        exact absurd hz List.not_mem_nil), rfl, by decide, by decide +kernel, w414, w495, 2, 1, Or.inr ⟨2, rfl, dL_cutAt_11, rfl⟩, by decide, rfl, ?_⟩
      refine J_iconst (pc := 12) h dL_cutAt_12 ci_2 ?_
      exact J_iretX h dL_cutAt_13 rfl (Nat.le_refl _) ⟨rfl, fun q => absurd q (by decide), fun _ => rfl⟩
  · have hz := h0 _ e2
    refine J_goto (tgt := 14) h dL_cutAt_5 (by decide) ?_
    refine J_iconst h dL_cutAt_14 ci_0 ?_
    exact J_iretX h dL_cutAt_15 rfl (Nat.le_refl _) ⟨by rw [hz]; rfl, fun _ => e2, fun q => absurd hz q⟩
abbrev hL_input : List (Nat × Nat × Nat × Nat) := [(0, 7, 10, 21), (0, 7, 14, 40), (0, 7, 18, 15)]
theorem w_input (hl : l.stackTraces = false) (hG : jGok G) {cd : Nat} {Qc : jM → Prop} {x1 x2 x3 : Int32} (hM : jXv l G yX7_input cX7_input 4 8 6 [.ref 0, .int x1, .int x2, .int x3] mu Qc (exC cd [E_NSE, E_IOB, E_ISE] mu)) (h0 : ∀ mu', Qc mu' → cd = 0) : jL l G yL_input cL_input 5 9 6 hL_input [.ref 0, .int x1, .int x2, .int x3] mu (fun k mu' => k = nI cd ∧ (cd = 0 → Qc mu') ∧ (cd ≠ 0 → mu' = mu)) := by
  refine jL.of (pad := 1) hl hG (by decide) (Nat.le_of_ble_eq_true rfl) (fun X h htab => ?_)
  show J l G X _ 5 0 [.ref 0, .int x1, .int x2, .int x3, .float 0] [] mu 0
  refine J_aload_n h dL_input_0 rfl rfl ?_
  refine J_iload_n h dL_input_1 rfl rfl ?_
  refine J_iload_n h dL_input_2 rfl rfl ?_
  refine J_iload_n h dL_input_3 rfl rfl ?_
  refine J_callHv (As := [.int x1, .int x2, .int x3]) (rest := []) h htab dL_input_4 hM (jgV w634 w635 w636 w76 w637) rfl (ci := 7) rfl rfl nmX7_input rfl (by decide) (Nat.le_of_ble_eq_true rfl) rfl (Nat.le_refl _) (fun E m2 e2 => ?_) (fun m2 e2 => ?_)
  · obtain ⟨rfl, hne, htb⟩ := e2
    have hlt := (List.getElem?_eq_some_iff.mp htb).1
    simp only [List.length_cons, List.length_nil] at hlt
    have hcs : cd = 1 ∨ cd = 2 ∨ cd = 3 := by omega
    rcases hcs with rfl | rfl | rfl
    · have htb : some E_NSE = some E := htb
      cases htb
      refine ⟨[], ⟨0, 7, 10, 21⟩, [⟨0, 7, 14, 40⟩, ⟨0, 7, 18, 15⟩], rfl, (fun z hz => absurd hz List.not_mem_nil), rfl, by decide, by decide +kernel, w528, w540, 4, 2, Or.inl ⟨dL_input_10, rfl⟩, by decide, rfl, ?_⟩
      refine J_iconst (pc := 12) h dL_input_12 ci_1 ?_
      exact J_iretX h dL_input_13 rfl (Nat.le_refl _) ⟨rfl, fun q => absurd q (by decide), fun _ => rfl⟩
    · have htb : some E_IOB = some E := htb
      cases htb
      refine ⟨[⟨0, 7, 10, 21⟩], ⟨0, 7, 14, 40⟩, [⟨0, 7, 18, 15⟩], rfl, (fun z hz => by
        rcases List.mem_cons.mp hz with rfl | hz
        · exact ⟨by decide, E_NSE, by decide +kernel, by decide +kernel, w528⟩
        exact absurd hz List.not_mem_nil), rfl, by decide, by decide +kernel, w633, w643, 4, 2, Or.inl ⟨dL_input_14, rfl⟩, by decide, rfl, ?_⟩
      refine J_iconst (pc := 16) h dL_input_16 ci_2 ?_
      exact J_iretX h dL_input_17 rfl (Nat.le_refl _) ⟨rfl, fun q => absurd q (by decide), fun _ => rfl⟩
    · have htb : some E_ISE = some E := htb
      cases htb
      refine ⟨[⟨0, 7, 10, 21⟩, ⟨0, 7, 14, 40⟩], ⟨0, 7, 18, 15⟩, [], rfl, (fun z hz => by
        rcases List.mem_cons.mp hz with rfl | hz
        · exact ⟨by decide, E_NSE, by decide +kernel, by decide +kernel, w528⟩
        rcases List.mem_cons.mp hz with rfl | hz
        · exact ⟨by decide, E_IOB, by decide +kernel, by decide +kernel, w633⟩
        exact absurd hz List.not_mem_nil), rfl, by decide, by decide +kernel, w414, w495, 4, 2, Or.inl ⟨dL_input_18, rfl⟩, by decide, rfl, ?_⟩
      refine J_iconst (pc := 20) h dL_input_20 ci_3 ?_
      exact J_iretX h dL_input_21 rfl (Nat.le_refl _) ⟨rfl, fun q => absurd q (by decide), fun _ => rfl⟩
  · have hz := h0 _ e2
    refine J_goto (tgt := 22) h dL_input_7 (by decide) ?_
    refine J_iconst h dL_input_22 ci_0 ?_
    exact J_iretX h dL_input_23 rfl (Nat.le_refl _) ⟨by rw [hz]; rfl, fun _ => e2, fun q => absurd hz q⟩
abbrev hL_lockstep : List (Nat × Nat × Nat × Nat) := [(0, 5, 8, 13), (0, 5, 11, 15)]
theorem w_lockstep (hl : l.stackTraces = false) (hG : jGok G) {cd : Nat} {Qc : jM → Prop} {x1 : Int32} (hM : jXv l G yX7_lockstep cX7_lockstep 4 8 6 [.ref 0, .int x1] mu Qc (exC cd [E_IAE, E_ISE] mu)) (h0 : ∀ mu', Qc mu' → cd = 0) : jL l G yL_lockstep cL_lockstep 3 9 6 hL_lockstep [.ref 0, .int x1] mu (fun k mu' => k = nI cd ∧ (cd = 0 → Qc mu') ∧ (cd ≠ 0 → mu' = mu)) := by
  refine jL.of (pad := 1) hl hG (by decide) (Nat.le_of_ble_eq_true rfl) (fun X h htab => ?_)
  show J l G X _ 3 0 [.ref 0, .int x1, .float 0] [] mu 0
  refine J_aload_n h dL_lockstep_0 rfl rfl ?_
  refine J_iload_n h dL_lockstep_1 rfl rfl ?_
  refine J_callHv (As := [.int x1]) (rest := []) h htab dL_lockstep_2 hM (jgV w660 w661 w662 w76 w663) rfl (ci := 7) rfl rfl nmX7_lockstep rfl (by decide) (Nat.le_of_ble_eq_true rfl) rfl (Nat.le_refl _) (fun E m2 e2 => ?_) (fun m2 e2 => ?_)
  · obtain ⟨rfl, hne, htb⟩ := e2
    have hlt := (List.getElem?_eq_some_iff.mp htb).1
    simp only [List.length_cons, List.length_nil] at hlt
    have hcs : cd = 1 ∨ cd = 2 := by omega
    rcases hcs with rfl | rfl
    · have htb : some E_IAE = some E := htb
      cases htb
      refine ⟨[], ⟨0, 5, 8, 13⟩, [⟨0, 5, 11, 15⟩], rfl, (fun z hz => absurd hz List.not_mem_nil), rfl, by decide, by decide +kernel, w413, w421, 2, 1, Or.inr ⟨2, rfl, dL_lockstep_8, rfl⟩, by decide, rfl, ?_⟩
      refine J_iconst (pc := 9) h dL_lockstep_9 ci_1 ?_
      exact J_iretX h dL_lockstep_10 rfl (Nat.le_refl _) ⟨rfl, fun q => absurd q (by decide), fun _ => rfl⟩
    · have htb : some E_ISE = some E := htb
      cases htb
      refine ⟨[⟨0, 5, 8, 13⟩], ⟨0, 5, 11, 15⟩, [], rfl, (fun z hz => by
        rcases List.mem_cons.mp hz with rfl | hz
        · exact ⟨by decide, E_IAE, by decide +kernel, by decide +kernel, w413⟩
        exact absurd hz List.not_mem_nil), rfl, by decide, by decide +kernel, w414, w495, 2, 1, Or.inr ⟨2, rfl, dL_lockstep_11, rfl⟩, by decide, rfl, ?_⟩
      refine J_iconst (pc := 12) h dL_lockstep_12 ci_2 ?_
      exact J_iretX h dL_lockstep_13 rfl (Nat.le_refl _) ⟨rfl, fun q => absurd q (by decide), fun _ => rfl⟩
  · have hz := h0 _ e2
    refine J_goto (tgt := 14) h dL_lockstep_5 (by decide) ?_
    refine J_iconst h dL_lockstep_14 ci_0 ?_
    exact J_iretX h dL_lockstep_15 rfl (Nat.le_refl _) ⟨by rw [hz]; rfl, fun _ => e2, fun q => absurd hz q⟩
abbrev hL_plain : List (Nat × Nat × Nat × Nat) := [(0, 10, 13, 21), (0, 10, 17, 40)]
theorem w_plain (hl : l.stackTraces = false) (hG : jGok G) {cd : Nat} {Qc : Int32 → jM → Prop} {x1 x2 : Int32} (hM : jXi l G yX7_plain cX7_plain 3 8 6 (some .int) [.ref 0, .int x1, .int x2] mu Qc (exC cd [E_NSE, E_IOB] mu)) (h0 : ∀ v mu', Qc v mu' → cd = 0) : jL l G yL_plain cL_plain 5 9 6 hL_plain [.ref 0, .int x1, .int x2, .ref 93] mu (fun k mu' => k = nI cd ∧ (cd = 0 → ∃ v mu1, Qc v mu1 ∧ mu' = wr mu1 93 0 v) ∧ (cd ≠ 0 → mu' = mu)) := by
  refine jL.of (pad := 1) hl hG (by decide) (Nat.le_of_ble_eq_true rfl) (fun X h htab => ?_)
  show J l G X _ 5 0 [.ref 0, .int x1, .int x2, .ref 93, .float 0] [] mu 0
  refine J_aload_n h dL_plain_0 rfl rfl ?_
  refine J_iconst h dL_plain_1 ci_0 ?_
  refine J_aload_n h dL_plain_2 rfl rfl ?_
  refine J_iload_n h dL_plain_3 rfl rfl ?_
  refine J_iload_n h dL_plain_4 rfl rfl ?_
  refine J_callHi (As := [.int x1, .int x2]) (rest := [.int 0, .ref 93]) h htab dL_plain_5 hM (jgV w713 w714 w715 w76 w716) rfl (ci := 7) rfl rfl nmX7_plain rfl (by decide) (Nat.le_of_ble_eq_true rfl) rfl (Nat.le_refl _) (fun E m2 e2 => ?_) (fun v m2 e2 => ?_)
  · obtain ⟨rfl, hne, htb⟩ := e2
    have hlt := (List.getElem?_eq_some_iff.mp htb).1
    simp only [List.length_cons, List.length_nil] at hlt
    have hcs : cd = 1 ∨ cd = 2 := by omega
    rcases hcs with rfl | rfl
    · have htb : some E_NSE = some E := htb
      cases htb
      refine ⟨[], ⟨0, 10, 13, 21⟩, [⟨0, 10, 17, 40⟩], rfl, (fun z hz => absurd hz List.not_mem_nil), rfl, by decide, by decide +kernel, w528, w540, 4, 2, Or.inl ⟨dL_plain_13, rfl⟩, by decide, rfl, ?_⟩
      refine J_iconst (pc := 15) h dL_plain_15 ci_1 ?_
      exact J_iretX h dL_plain_16 rfl (Nat.le_refl _) ⟨rfl, fun q => absurd q (by decide), fun _ => rfl⟩
    · have htb : some E_IOB = some E := htb
      cases htb
      refine ⟨[⟨0, 10, 13, 21⟩], ⟨0, 10, 17, 40⟩, [], rfl, (fun z hz => by
        rcases List.mem_cons.mp hz with rfl | hz
        · exact ⟨by decide, E_NSE, by decide +kernel, by decide +kernel, w528⟩
        exact absurd hz List.not_mem_nil), rfl, by decide, by decide +kernel, w633, w643, 4, 2, Or.inl ⟨dL_plain_17, rfl⟩, by decide, rfl, ?_⟩
      refine J_iconst (pc := 19) h dL_plain_19 ci_2 ?_
      exact J_iretX h dL_plain_20 rfl (Nat.le_refl _) ⟨rfl, fun q => absurd q (by decide), fun _ => rfl⟩
  · have hz := h0 _ _ e2
    refine J_i2l h dL_plain_8 ?_
    refine J_last h dL_plain_9 rfl (jin (by decide)) ?_
    refine J_goto (tgt := 21) h dL_plain_10 (by decide) ?_
    refine J_iconst h dL_plain_21 ci_0 ?_
    exact J_iretX h dL_plain_22 rfl (Nat.le_refl _) ⟨by rw [hz]; rfl, fun _ => ⟨v, m2, e2, rfl⟩, fun q => absurd hz q⟩
abbrev hL_prepare : List (Nat × Nat × Nat × Nat) := [(0, 10, 13, 13), (0, 10, 17, 15)]
theorem w_prepare (hl : l.stackTraces = false) (hG : jGok G) {cd : Nat} {Qc : Int32 → jM → Prop} {x1 x2 : Int32} (hM : jXi l G yX7_prepare cX7_prepare 3 8 6 (some .int) [.ref 0, .int x1, .int x2] mu Qc (exC cd [E_IAE, E_ISE] mu)) (h0 : ∀ v mu', Qc v mu' → cd = 0) : jL l G yL_prepare cL_prepare 5 9 6 hL_prepare [.ref 0, .int x1, .int x2, .ref 93] mu (fun k mu' => k = nI cd ∧ (cd = 0 → ∃ v mu1, Qc v mu1 ∧ mu' = wr mu1 93 0 v) ∧ (cd ≠ 0 → mu' = mu)) := by
  refine jL.of (pad := 1) hl hG (by decide) (Nat.le_of_ble_eq_true rfl) (fun X h htab => ?_)
  show J l G X _ 5 0 [.ref 0, .int x1, .int x2, .ref 93, .float 0] [] mu 0
  refine J_aload_n h dL_prepare_0 rfl rfl ?_
  refine J_iconst h dL_prepare_1 ci_0 ?_
  refine J_aload_n h dL_prepare_2 rfl rfl ?_
  refine J_iload_n h dL_prepare_3 rfl rfl ?_
  refine J_iload_n h dL_prepare_4 rfl rfl ?_
  refine J_callHi (As := [.int x1, .int x2]) (rest := [.int 0, .ref 93]) h htab dL_prepare_5 hM (jgV w720 w721 w722 w76 w723) rfl (ci := 7) rfl rfl nmX7_prepare rfl (by decide) (Nat.le_of_ble_eq_true rfl) rfl (Nat.le_refl _) (fun E m2 e2 => ?_) (fun v m2 e2 => ?_)
  · obtain ⟨rfl, hne, htb⟩ := e2
    have hlt := (List.getElem?_eq_some_iff.mp htb).1
    simp only [List.length_cons, List.length_nil] at hlt
    have hcs : cd = 1 ∨ cd = 2 := by omega
    rcases hcs with rfl | rfl
    · have htb : some E_IAE = some E := htb
      cases htb
      refine ⟨[], ⟨0, 10, 13, 13⟩, [⟨0, 10, 17, 15⟩], rfl, (fun z hz => absurd hz List.not_mem_nil), rfl, by decide, by decide +kernel, w413, w421, 4, 2, Or.inl ⟨dL_prepare_13, rfl⟩, by decide, rfl, ?_⟩
      refine J_iconst (pc := 15) h dL_prepare_15 ci_1 ?_
      exact J_iretX h dL_prepare_16 rfl (Nat.le_refl _) ⟨rfl, fun q => absurd q (by decide), fun _ => rfl⟩
    · have htb : some E_ISE = some E := htb
      cases htb
      refine ⟨[⟨0, 10, 13, 13⟩], ⟨0, 10, 17, 15⟩, [], rfl, (fun z hz => by
        rcases List.mem_cons.mp hz with rfl | hz
        · exact ⟨by decide, E_IAE, by decide +kernel, by decide +kernel, w413⟩
        exact absurd hz List.not_mem_nil), rfl, by decide, by decide +kernel, w414, w495, 4, 2, Or.inl ⟨dL_prepare_17, rfl⟩, by decide, rfl, ?_⟩
      refine J_iconst (pc := 19) h dL_prepare_19 ci_2 ?_
      exact J_iretX h dL_prepare_20 rfl (Nat.le_refl _) ⟨rfl, fun q => absurd q (by decide), fun _ => rfl⟩
  · have hz := h0 _ _ e2
    refine J_i2l h dL_prepare_8 ?_
    refine J_last h dL_prepare_9 rfl (jin (by decide)) ?_
    refine J_goto (tgt := 21) h dL_prepare_10 (by decide) ?_
    refine J_iconst h dL_prepare_21 ci_0 ?_
    exact J_iretX h dL_prepare_22 rfl (Nat.le_refl _) ⟨by rw [hz]; rfl, fun _ => ⟨v, m2, e2, rfl⟩, fun q => absurd hz q⟩
abbrev hL_release : List (Nat × Nat × Nat × Nat) := [(0, 4, 7, 15)]
theorem w_release (hl : l.stackTraces = false) (hG : jGok G) {cd : Nat} {Qc : jM → Prop} (hM : jXv l G yX7_release cX7_release 1 8 6 [.ref 0] mu Qc (exC cd [E_ISE] mu)) (h0 : ∀ mu', Qc mu' → cd = 0) : jL l G yL_release cL_release 2 9 6 hL_release [.ref 0] mu (fun k mu' => k = nI cd ∧ (cd = 0 → Qc mu') ∧ (cd ≠ 0 → mu' = mu)) := by
  refine jL.of (pad := 1) hl hG (by decide) (Nat.le_of_ble_eq_true rfl) (fun X h htab => ?_)
  show J l G X _ 2 0 [.ref 0, .float 0] [] mu 0
  refine J_aload_n h dL_release_0 rfl rfl ?_
  refine J_callHv (As := []) (rest := []) h htab dL_release_1 hM (jgV w789 w790 w791 w76 w792) rfl (ci := 7) rfl rfl nmX7_release rfl (by decide) (Nat.le_of_ble_eq_true rfl) rfl (Nat.le_refl _) (fun E m2 e2 => ?_) (fun m2 e2 => ?_)
  · obtain ⟨rfl, hne, htb⟩ := e2
    have hlt := (List.getElem?_eq_some_iff.mp htb).1
    simp only [List.length_cons, List.length_nil] at hlt
    have hcs : cd = 1 := by omega
    rcases hcs with rfl
    · have htb : some E_ISE = some E := htb
      cases htb
      refine ⟨[], ⟨0, 4, 7, 15⟩, [], rfl, (fun z hz => absurd hz List.not_mem_nil), rfl, by decide, by decide +kernel, w414, w495, 1, 1, Or.inr ⟨1, rfl, dL_release_7, rfl⟩, by decide, rfl, ?_⟩
      refine J_iconst (pc := 8) h dL_release_8 ci_1 ?_
      exact J_iretX h dL_release_9 rfl (Nat.le_refl _) ⟨rfl, fun q => absurd q (by decide), fun _ => rfl⟩
  · have hz := h0 _ e2
    refine J_goto (tgt := 10) h dL_release_4 (by decide) ?_
    refine J_iconst h dL_release_10 ci_0 ?_
    exact J_iretX h dL_release_11 rfl (Nat.le_refl _) ⟨by rw [hz]; rfl, fun _ => e2, fun q => absurd hz q⟩
abbrev hL_stopAt : List (Nat × Nat × Nat × Nat) := [(0, 5, 8, 15), (0, 5, 11, 13)]
theorem w_stopAt (hl : l.stackTraces = false) (hG : jGok G) {cd : Nat} {Qc : jM → Prop} {x1 : Int32} (hM : jXv l G yX7_stopAt cX7_stopAt 3 8 6 [.ref 0, .int x1] mu Qc (exC cd [E_ISE, E_IAE] mu)) (h0 : ∀ mu', Qc mu' → cd = 0) : jL l G yL_stopAt cL_stopAt 3 9 6 hL_stopAt [.ref 0, .int x1] mu (fun k mu' => k = nI cd ∧ (cd = 0 → Qc mu') ∧ (cd ≠ 0 → mu' = mu)) := by
  refine jL.of (pad := 1) hl hG (by decide) (Nat.le_of_ble_eq_true rfl) (fun X h htab => ?_)
  show J l G X _ 3 0 [.ref 0, .int x1, .float 0] [] mu 0
  refine J_aload_n h dL_stopAt_0 rfl rfl ?_
  refine J_iload_n h dL_stopAt_1 rfl rfl ?_
  refine J_callHv (As := [.int x1]) (rest := []) h htab dL_stopAt_2 hM (jgV w801 w802 w803 w76 w804) rfl (ci := 7) rfl rfl nmX7_stopAt rfl (by decide) (Nat.le_of_ble_eq_true rfl) rfl (Nat.le_refl _) (fun E m2 e2 => ?_) (fun m2 e2 => ?_)
  · obtain ⟨rfl, hne, htb⟩ := e2
    have hlt := (List.getElem?_eq_some_iff.mp htb).1
    simp only [List.length_cons, List.length_nil] at hlt
    have hcs : cd = 1 ∨ cd = 2 := by omega
    rcases hcs with rfl | rfl
    · have htb : some E_ISE = some E := htb
      cases htb
      refine ⟨[], ⟨0, 5, 8, 15⟩, [⟨0, 5, 11, 13⟩], rfl, (fun z hz => absurd hz List.not_mem_nil), rfl, by decide, by decide +kernel, w414, w495, 2, 1, Or.inr ⟨2, rfl, dL_stopAt_8, rfl⟩, by decide, rfl, ?_⟩
      refine J_iconst (pc := 9) h dL_stopAt_9 ci_1 ?_
      exact J_iretX h dL_stopAt_10 rfl (Nat.le_refl _) ⟨rfl, fun q => absurd q (by decide), fun _ => rfl⟩
    · have htb : some E_IAE = some E := htb
      cases htb
      refine ⟨[⟨0, 5, 8, 15⟩], ⟨0, 5, 11, 13⟩, [], rfl, (fun z hz => by
        rcases List.mem_cons.mp hz with rfl | hz
        · exact ⟨by decide, E_ISE, by decide +kernel, by decide +kernel, w414⟩
        exact absurd hz List.not_mem_nil), rfl, by decide, by decide +kernel, w413, w421, 2, 1, Or.inr ⟨2, rfl, dL_stopAt_11, rfl⟩, by decide, rfl, ?_⟩
      refine J_iconst (pc := 12) h dL_stopAt_12 ci_2 ?_
      exact J_iretX h dL_stopAt_13 rfl (Nat.le_refl _) ⟨rfl, fun q => absurd q (by decide), fun _ => rfl⟩
  · have hz := h0 _ e2
    refine J_goto (tgt := 14) h dL_stopAt_5 (by decide) ?_
    refine J_iconst h dL_stopAt_14 ci_0 ?_
    exact J_iretX h dL_stopAt_15 rfl (Nat.le_refl _) ⟨by rw [hz]; rfl, fun _ => e2, fun q => absurd hz q⟩
abbrev hL_letter : List (Nat × Nat × Nat × Nat) := [(0, 10, 13, 40)]
theorem w_letter (hl : l.stackTraces = false) (hG : jGok G) {cd : Nat} {Qc : Int32 → jM → Prop} {x1 x2 : Int32} (hM : jXi l G yX7_letter cX7_letter 3 8 6 (some .int) [.ref 0, .int x1, .int x2] mu Qc (exC cd [E_IOB] mu)) (h0 : ∀ v mu', Qc v mu' → cd = 0) : jL l G yL_letter cL_letter 5 9 6 hL_letter [.ref 0, .int x1, .int x2, .ref 93] mu (fun k mu' => k = nI cd ∧ (cd = 0 → ∃ v mu1, Qc v mu1 ∧ mu' = wr mu1 93 0 v) ∧ (cd ≠ 0 → mu' = mu)) := by
  refine jL.of (pad := 1) hl hG (by decide) (Nat.le_of_ble_eq_true rfl) (fun X h htab => ?_)
  show J l G X _ 5 0 [.ref 0, .int x1, .int x2, .ref 93, .float 0] [] mu 0
  refine J_aload_n h dL_letter_0 rfl rfl ?_
  refine J_iconst h dL_letter_1 ci_0 ?_
  refine J_aload_n h dL_letter_2 rfl rfl ?_
  refine J_iload_n h dL_letter_3 rfl rfl ?_
  refine J_iload_n h dL_letter_4 rfl rfl ?_
  refine J_callHi (As := [.int x1, .int x2]) (rest := [.int 0, .ref 93]) h htab dL_letter_5 hM (jgV w882 w883 w884 w76 w885) rfl (ci := 7) rfl rfl nmX7_letter rfl (by decide) (Nat.le_of_ble_eq_true rfl) rfl (Nat.le_refl _) (fun E m2 e2 => ?_) (fun v m2 e2 => ?_)
  · obtain ⟨rfl, hne, htb⟩ := e2
    have hlt := (List.getElem?_eq_some_iff.mp htb).1
    simp only [List.length_cons, List.length_nil] at hlt
    have hcs : cd = 1 := by omega
    rcases hcs with rfl
    · have htb : some E_IOB = some E := htb
      cases htb
      refine ⟨[], ⟨0, 10, 13, 40⟩, [], rfl, (fun z hz => absurd hz List.not_mem_nil), rfl, by decide, by decide +kernel, w633, w643, 4, 2, Or.inl ⟨dL_letter_13, rfl⟩, by decide, rfl, ?_⟩
      refine J_iconst (pc := 15) h dL_letter_15 ci_1 ?_
      exact J_iretX h dL_letter_16 rfl (Nat.le_refl _) ⟨rfl, fun q => absurd q (by decide), fun _ => rfl⟩
  · have hz := h0 _ _ e2
    refine J_i2l h dL_letter_8 ?_
    refine J_last h dL_letter_9 rfl (jin (by decide)) ?_
    refine J_goto (tgt := 17) h dL_letter_10 (by decide) ?_
    refine J_iconst h dL_letter_17 ci_0 ?_
    exact J_iretX h dL_letter_18 rfl (Nat.le_refl _) ⟨by rw [hz]; rfl, fun _ => ⟨v, m2, e2, rfl⟩, fun q => absurd hz q⟩
abbrev hL_deliver : List (Nat × Nat × Nat × Nat) := [(0, 9, 12, 40)]
theorem w_deliver (hl : l.stackTraces = false) (hG : jGok G) {cd : Nat} {Qc : Int32 → jM → Prop} {x1 : Int32} (hM : jXi l G yX7_deliver cX7_deliver 2 8 6 (some .int) [.ref 0, .int x1] mu Qc (exC cd [E_IOB] mu)) (h0 : ∀ v mu', Qc v mu' → cd = 0) : jL l G yL_deliver cL_deliver 4 9 6 hL_deliver [.ref 0, .int x1, .ref 93] mu (fun k mu' => k = nI cd ∧ (cd = 0 → ∃ v mu1, Qc v mu1 ∧ mu' = wr mu1 93 0 v) ∧ (cd ≠ 0 → mu' = mu)) := by
  refine jL.of (pad := 1) hl hG (by decide) (Nat.le_of_ble_eq_true rfl) (fun X h htab => ?_)
  show J l G X _ 4 0 [.ref 0, .int x1, .ref 93, .float 0] [] mu 0
  refine J_aload_n h dL_deliver_0 rfl rfl ?_
  refine J_iconst h dL_deliver_1 ci_0 ?_
  refine J_aload_n h dL_deliver_2 rfl rfl ?_
  refine J_iload_n h dL_deliver_3 rfl rfl ?_
  refine J_callHi (As := [.int x1]) (rest := [.int 0, .ref 93]) h htab dL_deliver_4 hM (jgV w895 w896 w897 w76 w898) rfl (ci := 7) rfl rfl nmX7_deliver rfl (by decide) (Nat.le_of_ble_eq_true rfl) rfl (Nat.le_refl _) (fun E m2 e2 => ?_) (fun v m2 e2 => ?_)
  · obtain ⟨rfl, hne, htb⟩ := e2
    have hlt := (List.getElem?_eq_some_iff.mp htb).1
    simp only [List.length_cons, List.length_nil] at hlt
    have hcs : cd = 1 := by omega
    rcases hcs with rfl
    · have htb : some E_IOB = some E := htb
      cases htb
      refine ⟨[], ⟨0, 9, 12, 40⟩, [], rfl, (fun z hz => absurd hz List.not_mem_nil), rfl, by decide, by decide +kernel, w633, w643, 3, 1, Or.inr ⟨3, rfl, dL_deliver_12, rfl⟩, by decide, rfl, ?_⟩
      refine J_iconst (pc := 13) h dL_deliver_13 ci_1 ?_
      exact J_iretX h dL_deliver_14 rfl (Nat.le_refl _) ⟨rfl, fun q => absurd q (by decide), fun _ => rfl⟩
  · have hz := h0 _ _ e2
    refine J_i2l h dL_deliver_7 ?_
    refine J_last h dL_deliver_8 rfl (jin (by decide)) ?_
    refine J_goto (tgt := 15) h dL_deliver_9 (by decide) ?_
    refine J_iconst h dL_deliver_15 ci_0 ?_
    exact J_iretX h dL_deliver_16 rfl (Nat.le_refl _) ⟨by rw [hz]; rfl, fun _ => ⟨v, m2, e2, rfl⟩, fun q => absurd hz q⟩
abbrev hL_deliverAll : List (Nat × Nat × Nat × Nat) := [(0, 12, 15, 13), (0, 12, 19, 15)]
theorem w_deliverAll (hl : l.stackTraces = false) (hG : jGok G) {cd : Nat} {Qc : Int32 → jM → Prop} {x1 x2 x3 : Int32} (hM : jXi l G yX7_deliverAll cX7_deliverAll 7 8 6 (some .int) [.ref 0, .int x1, .int x2, .int x3] mu Qc (exC cd [E_IAE, E_ISE] mu)) (h0 : ∀ v mu', Qc v mu' → cd = 0) : jL l G yL_deliverAll cL_deliverAll 6 9 6 hL_deliverAll [.ref 0, .int x1, .int x2, .int x3, .ref 93] mu (fun k mu' => k = nI cd ∧ (cd = 0 → ∃ v mu1, Qc v mu1 ∧ mu' = wr mu1 93 0 v) ∧ (cd ≠ 0 → mu' = mu)) := by
  refine jL.of (pad := 1) hl hG (by decide) (Nat.le_of_ble_eq_true rfl) (fun X h htab => ?_)
  show J l G X _ 6 0 [.ref 0, .int x1, .int x2, .int x3, .ref 93, .float 0] [] mu 0
  refine J_aload h dL_deliverAll_0 rfl ?_
  refine J_iconst h dL_deliverAll_2 ci_0 ?_
  refine J_aload_n h dL_deliverAll_3 rfl rfl ?_
  refine J_iload_n h dL_deliverAll_4 rfl rfl ?_
  refine J_iload_n h dL_deliverAll_5 rfl rfl ?_
  refine J_iload_n h dL_deliverAll_6 rfl rfl ?_
  refine J_callHi (As := [.int x1, .int x2, .int x3]) (rest := [.int 0, .ref 93]) h htab dL_deliverAll_7 hM (jgV w913 w914 w915 w76 w916) rfl (ci := 7) rfl rfl nmX7_deliverAll rfl (by decide) (Nat.le_of_ble_eq_true rfl) rfl (Nat.le_refl _) (fun E m2 e2 => ?_) (fun v m2 e2 => ?_)
  · obtain ⟨rfl, hne, htb⟩ := e2
    have hlt := (List.getElem?_eq_some_iff.mp htb).1
    simp only [List.length_cons, List.length_nil] at hlt
    have hcs : cd = 1 ∨ cd = 2 := by omega
    rcases hcs with rfl | rfl
    · have htb : some E_IAE = some E := htb
      cases htb
      refine ⟨[], ⟨0, 12, 15, 13⟩, [⟨0, 12, 19, 15⟩], rfl, (fun z hz => absurd hz List.not_mem_nil), rfl, by decide, by decide +kernel, w413, w421, 5, 2, Or.inl ⟨dL_deliverAll_15, rfl⟩, by decide, rfl, ?_⟩
      refine J_iconst (pc := 17) h dL_deliverAll_17 ci_1 ?_
      exact J_iretX h dL_deliverAll_18 rfl (Nat.le_refl _) ⟨rfl, fun q => absurd q (by decide), fun _ => rfl⟩
    · have htb : some E_ISE = some E := htb
      cases htb
      refine ⟨[⟨0, 12, 15, 13⟩], ⟨0, 12, 19, 15⟩, [], rfl, (fun z hz => by
        rcases List.mem_cons.mp hz with rfl | hz
        · exact ⟨by decide, E_IAE, by decide +kernel, by decide +kernel, w413⟩
        exact absurd hz List.not_mem_nil), rfl, by decide, by decide +kernel, w414, w495, 5, 2, Or.inl ⟨dL_deliverAll_19, rfl⟩, by decide, rfl, ?_⟩
      refine J_iconst (pc := 21) h dL_deliverAll_21 ci_2 ?_
      exact J_iretX h dL_deliverAll_22 rfl (Nat.le_refl _) ⟨rfl, fun q => absurd q (by decide), fun _ => rfl⟩
  · have hz := h0 _ _ e2
    refine J_i2l h dL_deliverAll_10 ?_
    refine J_last h dL_deliverAll_11 rfl (jin (by decide)) ?_
    refine J_goto (tgt := 23) h dL_deliverAll_12 (by decide) ?_
    refine J_iconst h dL_deliverAll_23 ci_0 ?_
    exact J_iretX h dL_deliverAll_24 rfl (Nat.le_refl _) ⟨by rw [hz]; rfl, fun _ => ⟨v, m2, e2, rfl⟩, fun q => absurd hz q⟩
abbrev hL_switchTo : List (Nat × Nat × Nat × Nat) := [(0, 9, 12, 13), (0, 9, 15, 15), (0, 9, 18, 23)]
theorem w_switchTo (hl : l.stackTraces = false) (hG : jGok G) {cd : Nat} {Qc : Int32 → jM → Prop} {x1 : Int32} (hM : jXi l G yX7_switchTo cX7_switchTo 2 8 6 (some .int) [.ref 0, .int x1] mu Qc (exC cd [E_IAE, E_ISE, E_UOE] mu)) (h0 : ∀ v mu', Qc v mu' → cd = 0) : jL l G yL_switchTo cL_switchTo 4 9 6 hL_switchTo [.ref 0, .int x1, .ref 93] mu (fun k mu' => k = nI cd ∧ (cd = 0 → ∃ v mu1, Qc v mu1 ∧ mu' = wr mu1 93 0 v) ∧ (cd ≠ 0 → mu' = mu)) := by
  refine jL.of (pad := 1) hl hG (by decide) (Nat.le_of_ble_eq_true rfl) (fun X h htab => ?_)
  show J l G X _ 4 0 [.ref 0, .int x1, .ref 93, .float 0] [] mu 0
  refine J_aload_n h dL_switchTo_0 rfl rfl ?_
  refine J_iconst h dL_switchTo_1 ci_0 ?_
  refine J_aload_n h dL_switchTo_2 rfl rfl ?_
  refine J_iload_n h dL_switchTo_3 rfl rfl ?_
  refine J_callHi (As := [.int x1]) (rest := [.int 0, .ref 93]) h htab dL_switchTo_4 hM (jgV w922 w923 w924 w76 w925) rfl (ci := 7) rfl rfl nmX7_switchTo rfl (by decide) (Nat.le_of_ble_eq_true rfl) rfl (Nat.le_refl _) (fun E m2 e2 => ?_) (fun v m2 e2 => ?_)
  · obtain ⟨rfl, hne, htb⟩ := e2
    have hlt := (List.getElem?_eq_some_iff.mp htb).1
    simp only [List.length_cons, List.length_nil] at hlt
    have hcs : cd = 1 ∨ cd = 2 ∨ cd = 3 := by omega
    rcases hcs with rfl | rfl | rfl
    · have htb : some E_IAE = some E := htb
      cases htb
      refine ⟨[], ⟨0, 9, 12, 13⟩, [⟨0, 9, 15, 15⟩, ⟨0, 9, 18, 23⟩], rfl, (fun z hz => absurd hz List.not_mem_nil), rfl, by decide, by decide +kernel, w413, w421, 3, 1, Or.inr ⟨3, rfl, dL_switchTo_12, rfl⟩, by decide, rfl, ?_⟩
      refine J_iconst (pc := 13) h dL_switchTo_13 ci_1 ?_
      exact J_iretX h dL_switchTo_14 rfl (Nat.le_refl _) ⟨rfl, fun q => absurd q (by decide), fun _ => rfl⟩
    · have htb : some E_ISE = some E := htb
      cases htb
      refine ⟨[⟨0, 9, 12, 13⟩], ⟨0, 9, 15, 15⟩, [⟨0, 9, 18, 23⟩], rfl, (fun z hz => by
        rcases List.mem_cons.mp hz with rfl | hz
        · exact ⟨by decide, E_IAE, by decide +kernel, by decide +kernel, w413⟩
        exact absurd hz List.not_mem_nil), rfl, by decide, by decide +kernel, w414, w495, 3, 1, Or.inr ⟨3, rfl, dL_switchTo_15, rfl⟩, by decide, rfl, ?_⟩
      refine J_iconst (pc := 16) h dL_switchTo_16 ci_2 ?_
      exact J_iretX h dL_switchTo_17 rfl (Nat.le_refl _) ⟨rfl, fun q => absurd q (by decide), fun _ => rfl⟩
    · have htb : some E_UOE = some E := htb
      cases htb
      refine ⟨[⟨0, 9, 12, 13⟩, ⟨0, 9, 15, 15⟩], ⟨0, 9, 18, 23⟩, [], rfl, (fun z hz => by
        rcases List.mem_cons.mp hz with rfl | hz
        · exact ⟨by decide, E_IAE, by decide +kernel, by decide +kernel, w413⟩
        rcases List.mem_cons.mp hz with rfl | hz
        · exact ⟨by decide, E_ISE, by decide +kernel, by decide +kernel, w414⟩
        exact absurd hz List.not_mem_nil), rfl, by decide, by decide +kernel, w529, w562, 3, 1, Or.inr ⟨3, rfl, dL_switchTo_18, rfl⟩, by decide, rfl, ?_⟩
      refine J_iconst (pc := 19) h dL_switchTo_19 ci_3 ?_
      exact J_iretX h dL_switchTo_20 rfl (Nat.le_refl _) ⟨rfl, fun q => absurd q (by decide), fun _ => rfl⟩
  · have hz := h0 _ _ e2
    refine J_i2l h dL_switchTo_7 ?_
    refine J_last h dL_switchTo_8 rfl (jin (by decide)) ?_
    refine J_goto (tgt := 21) h dL_switchTo_9 (by decide) ?_
    refine J_iconst h dL_switchTo_21 ci_0 ?_
    exact J_iretX h dL_switchTo_22 rfl (Nat.le_refl _) ⟨by rw [hz]; rfl, fun _ => ⟨v, m2, e2, rfl⟩, fun q => absurd hz q⟩
abbrev hL_roundOf : List (Nat × Nat × Nat × Nat) := [(0, 9, 12, 21), (0, 9, 15, 15)]
theorem w_roundOf (hl : l.stackTraces = false) (hG : jGok G) {cd : Nat} {Qc : Int32 → jM → Prop} {x1 : Int32} (hM : jXi l G yX7_roundOf cX7_roundOf 2 8 6 (some .int) [.ref 0, .int x1] mu Qc (exC cd [E_NSE, E_ISE] mu)) (h0 : ∀ v mu', Qc v mu' → cd = 0) : jL l G yL_roundOf cL_roundOf 4 9 6 hL_roundOf [.ref 0, .int x1, .ref 93] mu (fun k mu' => k = nI cd ∧ (cd = 0 → ∃ v mu1, Qc v mu1 ∧ mu' = wr mu1 93 0 v) ∧ (cd ≠ 0 → mu' = mu)) := by
  refine jL.of (pad := 1) hl hG (by decide) (Nat.le_of_ble_eq_true rfl) (fun X h htab => ?_)
  show J l G X _ 4 0 [.ref 0, .int x1, .ref 93, .float 0] [] mu 0
  refine J_aload_n h dL_roundOf_0 rfl rfl ?_
  refine J_iconst h dL_roundOf_1 ci_0 ?_
  refine J_aload_n h dL_roundOf_2 rfl rfl ?_
  refine J_iload_n h dL_roundOf_3 rfl rfl ?_
  refine J_callHi (As := [.int x1]) (rest := [.int 0, .ref 93]) h htab dL_roundOf_4 hM (jgV w939 w940 w941 w76 w942) rfl (ci := 7) rfl rfl nmX7_roundOf rfl (by decide) (Nat.le_of_ble_eq_true rfl) rfl (Nat.le_refl _) (fun E m2 e2 => ?_) (fun v m2 e2 => ?_)
  · obtain ⟨rfl, hne, htb⟩ := e2
    have hlt := (List.getElem?_eq_some_iff.mp htb).1
    simp only [List.length_cons, List.length_nil] at hlt
    have hcs : cd = 1 ∨ cd = 2 := by omega
    rcases hcs with rfl | rfl
    · have htb : some E_NSE = some E := htb
      cases htb
      refine ⟨[], ⟨0, 9, 12, 21⟩, [⟨0, 9, 15, 15⟩], rfl, (fun z hz => absurd hz List.not_mem_nil), rfl, by decide, by decide +kernel, w528, w540, 3, 1, Or.inr ⟨3, rfl, dL_roundOf_12, rfl⟩, by decide, rfl, ?_⟩
      refine J_iconst (pc := 13) h dL_roundOf_13 ci_1 ?_
      exact J_iretX h dL_roundOf_14 rfl (Nat.le_refl _) ⟨rfl, fun q => absurd q (by decide), fun _ => rfl⟩
    · have htb : some E_ISE = some E := htb
      cases htb
      refine ⟨[⟨0, 9, 12, 21⟩], ⟨0, 9, 15, 15⟩, [], rfl, (fun z hz => by
        rcases List.mem_cons.mp hz with rfl | hz
        · exact ⟨by decide, E_NSE, by decide +kernel, by decide +kernel, w528⟩
        exact absurd hz List.not_mem_nil), rfl, by decide, by decide +kernel, w414, w495, 3, 1, Or.inr ⟨3, rfl, dL_roundOf_15, rfl⟩, by decide, rfl, ?_⟩
      refine J_iconst (pc := 16) h dL_roundOf_16 ci_2 ?_
      exact J_iretX h dL_roundOf_17 rfl (Nat.le_refl _) ⟨rfl, fun q => absurd q (by decide), fun _ => rfl⟩
  · have hz := h0 _ _ e2
    refine J_i2l h dL_roundOf_7 ?_
    refine J_last h dL_roundOf_8 rfl (jin (by decide)) ?_
    refine J_goto (tgt := 18) h dL_roundOf_9 (by decide) ?_
    refine J_iconst h dL_roundOf_18 ci_0 ?_
    exact J_iretX h dL_roundOf_19 rfl (Nat.le_refl _) ⟨by rw [hz]; rfl, fun _ => ⟨v, m2, e2, rfl⟩, fun q => absurd hz q⟩
abbrev hL_value : List (Nat × Nat × Nat × Nat) := [(0, 10, 13, 21), (0, 10, 17, 40), (0, 10, 21, 15)]
theorem w_value (hl : l.stackTraces = false) (hG : jGok G) {cd : Nat} {Qc : Int32 → jM → Prop} {x1 x2 : Int32} (hM : jXi l G yX7_value cX7_value 3 8 6 (some .int) [.ref 0, .int x1, .int x2] mu Qc (exC cd [E_NSE, E_IOB, E_ISE] mu)) (h0 : ∀ v mu', Qc v mu' → cd = 0) : jL l G yL_value cL_value 5 9 6 hL_value [.ref 0, .int x1, .int x2, .ref 93] mu (fun k mu' => k = nI cd ∧ (cd = 0 → ∃ v mu1, Qc v mu1 ∧ mu' = wr mu1 93 0 v) ∧ (cd ≠ 0 → mu' = mu)) := by
  refine jL.of (pad := 1) hl hG (by decide) (Nat.le_of_ble_eq_true rfl) (fun X h htab => ?_)
  show J l G X _ 5 0 [.ref 0, .int x1, .int x2, .ref 93, .float 0] [] mu 0
  refine J_aload_n h dL_value_0 rfl rfl ?_
  refine J_iconst h dL_value_1 ci_0 ?_
  refine J_aload_n h dL_value_2 rfl rfl ?_
  refine J_iload_n h dL_value_3 rfl rfl ?_
  refine J_iload_n h dL_value_4 rfl rfl ?_
  refine J_callHi (As := [.int x1, .int x2]) (rest := [.int 0, .ref 93]) h htab dL_value_5 hM (jgV w946 w947 w948 w76 w949) rfl (ci := 7) rfl rfl nmX7_value rfl (by decide) (Nat.le_of_ble_eq_true rfl) rfl (Nat.le_refl _) (fun E m2 e2 => ?_) (fun v m2 e2 => ?_)
  · obtain ⟨rfl, hne, htb⟩ := e2
    have hlt := (List.getElem?_eq_some_iff.mp htb).1
    simp only [List.length_cons, List.length_nil] at hlt
    have hcs : cd = 1 ∨ cd = 2 ∨ cd = 3 := by omega
    rcases hcs with rfl | rfl | rfl
    · have htb : some E_NSE = some E := htb
      cases htb
      refine ⟨[], ⟨0, 10, 13, 21⟩, [⟨0, 10, 17, 40⟩, ⟨0, 10, 21, 15⟩], rfl, (fun z hz => absurd hz List.not_mem_nil), rfl, by decide, by decide +kernel, w528, w540, 4, 2, Or.inl ⟨dL_value_13, rfl⟩, by decide, rfl, ?_⟩
      refine J_iconst (pc := 15) h dL_value_15 ci_1 ?_
      exact J_iretX h dL_value_16 rfl (Nat.le_refl _) ⟨rfl, fun q => absurd q (by decide), fun _ => rfl⟩
    · have htb : some E_IOB = some E := htb
      cases htb
      refine ⟨[⟨0, 10, 13, 21⟩], ⟨0, 10, 17, 40⟩, [⟨0, 10, 21, 15⟩], rfl, (fun z hz => by
        rcases List.mem_cons.mp hz with rfl | hz
        · exact ⟨by decide, E_NSE, by decide +kernel, by decide +kernel, w528⟩
        exact absurd hz List.not_mem_nil), rfl, by decide, by decide +kernel, w633, w643, 4, 2, Or.inl ⟨dL_value_17, rfl⟩, by decide, rfl, ?_⟩
      refine J_iconst (pc := 19) h dL_value_19 ci_2 ?_
      exact J_iretX h dL_value_20 rfl (Nat.le_refl _) ⟨rfl, fun q => absurd q (by decide), fun _ => rfl⟩
    · have htb : some E_ISE = some E := htb
      cases htb
      refine ⟨[⟨0, 10, 13, 21⟩, ⟨0, 10, 17, 40⟩], ⟨0, 10, 21, 15⟩, [], rfl, (fun z hz => by
        rcases List.mem_cons.mp hz with rfl | hz
        · exact ⟨by decide, E_NSE, by decide +kernel, by decide +kernel, w528⟩
        rcases List.mem_cons.mp hz with rfl | hz
        · exact ⟨by decide, E_IOB, by decide +kernel, by decide +kernel, w633⟩
        exact absurd hz List.not_mem_nil), rfl, by decide, by decide +kernel, w414, w495, 4, 2, Or.inl ⟨dL_value_21, rfl⟩, by decide, rfl, ?_⟩
      refine J_iconst (pc := 23) h dL_value_23 ci_3 ?_
      exact J_iretX h dL_value_24 rfl (Nat.le_refl _) ⟨rfl, fun q => absurd q (by decide), fun _ => rfl⟩
  · have hz := h0 _ _ e2
    refine J_i2l h dL_value_8 ?_
    refine J_last h dL_value_9 rfl (jin (by decide)) ?_
    refine J_goto (tgt := 25) h dL_value_10 (by decide) ?_
    refine J_iconst h dL_value_25 ci_0 ?_
    exact J_iretX h dL_value_26 rfl (Nat.le_refl _) ⟨by rw [hz]; rfl, fun _ => ⟨v, m2, e2, rfl⟩, fun q => absurd hz q⟩
abbrev hL_place : List (Nat × Nat × Nat × Nat) := [(0, 10, 13, 21), (0, 10, 17, 40), (0, 10, 21, 15)]
theorem w_place (hl : l.stackTraces = false) (hG : jGok G) {cd : Nat} {Qc : Int32 → jM → Prop} {x1 x2 : Int32} (hM : jXi l G yX7_place cX7_place 3 8 6 (some .int) [.ref 0, .int x1, .int x2] mu Qc (exC cd [E_NSE, E_IOB, E_ISE] mu)) (h0 : ∀ v mu', Qc v mu' → cd = 0) : jL l G yL_place cL_place 5 9 6 hL_place [.ref 0, .int x1, .int x2, .ref 93] mu (fun k mu' => k = nI cd ∧ (cd = 0 → ∃ v mu1, Qc v mu1 ∧ mu' = wr mu1 93 0 v) ∧ (cd ≠ 0 → mu' = mu)) := by
  refine jL.of (pad := 1) hl hG (by decide) (Nat.le_of_ble_eq_true rfl) (fun X h htab => ?_)
  show J l G X _ 5 0 [.ref 0, .int x1, .int x2, .ref 93, .float 0] [] mu 0
  refine J_aload_n h dL_place_0 rfl rfl ?_
  refine J_iconst h dL_place_1 ci_0 ?_
  refine J_aload_n h dL_place_2 rfl rfl ?_
  refine J_iload_n h dL_place_3 rfl rfl ?_
  refine J_iload_n h dL_place_4 rfl rfl ?_
  refine J_callHi (As := [.int x1, .int x2]) (rest := [.int 0, .ref 93]) h htab dL_place_5 hM (jgV w953 w954 w955 w76 w956) rfl (ci := 7) rfl rfl nmX7_place rfl (by decide) (Nat.le_of_ble_eq_true rfl) rfl (Nat.le_refl _) (fun E m2 e2 => ?_) (fun v m2 e2 => ?_)
  · obtain ⟨rfl, hne, htb⟩ := e2
    have hlt := (List.getElem?_eq_some_iff.mp htb).1
    simp only [List.length_cons, List.length_nil] at hlt
    have hcs : cd = 1 ∨ cd = 2 ∨ cd = 3 := by omega
    rcases hcs with rfl | rfl | rfl
    · have htb : some E_NSE = some E := htb
      cases htb
      refine ⟨[], ⟨0, 10, 13, 21⟩, [⟨0, 10, 17, 40⟩, ⟨0, 10, 21, 15⟩], rfl, (fun z hz => absurd hz List.not_mem_nil), rfl, by decide, by decide +kernel, w528, w540, 4, 2, Or.inl ⟨dL_place_13, rfl⟩, by decide, rfl, ?_⟩
      refine J_iconst (pc := 15) h dL_place_15 ci_1 ?_
      exact J_iretX h dL_place_16 rfl (Nat.le_refl _) ⟨rfl, fun q => absurd q (by decide), fun _ => rfl⟩
    · have htb : some E_IOB = some E := htb
      cases htb
      refine ⟨[⟨0, 10, 13, 21⟩], ⟨0, 10, 17, 40⟩, [⟨0, 10, 21, 15⟩], rfl, (fun z hz => by
        rcases List.mem_cons.mp hz with rfl | hz
        · exact ⟨by decide, E_NSE, by decide +kernel, by decide +kernel, w528⟩
        exact absurd hz List.not_mem_nil), rfl, by decide, by decide +kernel, w633, w643, 4, 2, Or.inl ⟨dL_place_17, rfl⟩, by decide, rfl, ?_⟩
      refine J_iconst (pc := 19) h dL_place_19 ci_2 ?_
      exact J_iretX h dL_place_20 rfl (Nat.le_refl _) ⟨rfl, fun q => absurd q (by decide), fun _ => rfl⟩
    · have htb : some E_ISE = some E := htb
      cases htb
      refine ⟨[⟨0, 10, 13, 21⟩, ⟨0, 10, 17, 40⟩], ⟨0, 10, 21, 15⟩, [], rfl, (fun z hz => by
        rcases List.mem_cons.mp hz with rfl | hz
        · exact ⟨by decide, E_NSE, by decide +kernel, by decide +kernel, w528⟩
        rcases List.mem_cons.mp hz with rfl | hz
        · exact ⟨by decide, E_IOB, by decide +kernel, by decide +kernel, w633⟩
        exact absurd hz List.not_mem_nil), rfl, by decide, by decide +kernel, w414, w495, 4, 2, Or.inl ⟨dL_place_21, rfl⟩, by decide, rfl, ?_⟩
      refine J_iconst (pc := 23) h dL_place_23 ci_3 ?_
      exact J_iretX h dL_place_24 rfl (Nat.le_refl _) ⟨rfl, fun q => absurd q (by decide), fun _ => rfl⟩
  · have hz := h0 _ _ e2
    refine J_i2l h dL_place_8 ?_
    refine J_last h dL_place_9 rfl (jin (by decide)) ?_
    refine J_goto (tgt := 25) h dL_place_10 (by decide) ?_
    refine J_iconst h dL_place_25 ci_0 ?_
    exact J_iretX h dL_place_26 rfl (Nat.le_refl _) ⟨by rw [hz]; rfl, fun _ => ⟨v, m2, e2, rfl⟩, fun q => absurd hz q⟩
abbrev hL_chosen : List (Nat × Nat × Nat × Nat) := [(0, 10, 13, 40)]
theorem w_chosen (hl : l.stackTraces = false) (hG : jGok G) {cd : Nat} {Qc : Int32 → jM → Prop} {x1 x2 : Int32} (hM : jXi l G yX7_chosen cX7_chosen 3 8 6 (some .int) [.ref 0, .int x1, .int x2] mu Qc (exC cd [E_IOB] mu)) (h0 : ∀ v mu', Qc v mu' → cd = 0) : jL l G yL_chosen cL_chosen 5 9 6 hL_chosen [.ref 0, .int x1, .int x2, .ref 93] mu (fun k mu' => k = nI cd ∧ (cd = 0 → ∃ v mu1, Qc v mu1 ∧ mu' = wr mu1 93 0 v) ∧ (cd ≠ 0 → mu' = mu)) := by
  refine jL.of (pad := 1) hl hG (by decide) (Nat.le_of_ble_eq_true rfl) (fun X h htab => ?_)
  show J l G X _ 5 0 [.ref 0, .int x1, .int x2, .ref 93, .float 0] [] mu 0
  refine J_aload_n h dL_chosen_0 rfl rfl ?_
  refine J_iconst h dL_chosen_1 ci_0 ?_
  refine J_aload_n h dL_chosen_2 rfl rfl ?_
  refine J_iload_n h dL_chosen_3 rfl rfl ?_
  refine J_iload_n h dL_chosen_4 rfl rfl ?_
  refine J_callHi (As := [.int x1, .int x2]) (rest := [.int 0, .ref 93]) h htab dL_chosen_5 hM (jgV w961 w962 w963 w76 w964) rfl (ci := 7) rfl rfl nmX7_chosen rfl (by decide) (Nat.le_of_ble_eq_true rfl) rfl (Nat.le_refl _) (fun E m2 e2 => ?_) (fun v m2 e2 => ?_)
  · obtain ⟨rfl, hne, htb⟩ := e2
    have hlt := (List.getElem?_eq_some_iff.mp htb).1
    simp only [List.length_cons, List.length_nil] at hlt
    have hcs : cd = 1 := by omega
    rcases hcs with rfl
    · have htb : some E_IOB = some E := htb
      cases htb
      refine ⟨[], ⟨0, 10, 13, 40⟩, [], rfl, (fun z hz => absurd hz List.not_mem_nil), rfl, by decide, by decide +kernel, w633, w643, 4, 2, Or.inl ⟨dL_chosen_13, rfl⟩, by decide, rfl, ?_⟩
      refine J_iconst (pc := 15) h dL_chosen_15 ci_1 ?_
      exact J_iretX h dL_chosen_16 rfl (Nat.le_refl _) ⟨rfl, fun q => absurd q (by decide), fun _ => rfl⟩
  · have hz := h0 _ _ e2
    refine J_i2l h dL_chosen_8 ?_
    refine J_last h dL_chosen_9 rfl (jin (by decide)) ?_
    refine J_goto (tgt := 17) h dL_chosen_10 (by decide) ?_
    refine J_iconst h dL_chosen_17 ci_0 ?_
    exact J_iretX h dL_chosen_18 rfl (Nat.le_refl _) ⟨by rw [hz]; rfl, fun _ => ⟨v, m2, e2, rfl⟩, fun q => absurd hz q⟩
abbrev hL_count : List (Nat × Nat × Nat × Nat) := [(0, 9, 12, 40)]
theorem w_count (hl : l.stackTraces = false) (hG : jGok G) {cd : Nat} {Qc : Int32 → jM → Prop} {x1 : Int32} (hM : jXi l G yX7_count cX7_count 2 8 6 (some .int) [.ref 0, .int x1] mu Qc (exC cd [E_IOB] mu)) (h0 : ∀ v mu', Qc v mu' → cd = 0) : jL l G yL_count cL_count 4 9 6 hL_count [.ref 0, .int x1, .ref 93] mu (fun k mu' => k = nI cd ∧ (cd = 0 → ∃ v mu1, Qc v mu1 ∧ mu' = wr mu1 93 0 v) ∧ (cd ≠ 0 → mu' = mu)) := by
  refine jL.of (pad := 1) hl hG (by decide) (Nat.le_of_ble_eq_true rfl) (fun X h htab => ?_)
  show J l G X _ 4 0 [.ref 0, .int x1, .ref 93, .float 0] [] mu 0
  refine J_aload_n h dL_count_0 rfl rfl ?_
  refine J_iconst h dL_count_1 ci_0 ?_
  refine J_aload_n h dL_count_2 rfl rfl ?_
  refine J_iload_n h dL_count_3 rfl rfl ?_
  refine J_callHi (As := [.int x1]) (rest := [.int 0, .ref 93]) h htab dL_count_4 hM (jgV w973 w974 w975 w76 w976) rfl (ci := 7) rfl rfl nmX7_count rfl (by decide) (Nat.le_of_ble_eq_true rfl) rfl (Nat.le_refl _) (fun E m2 e2 => ?_) (fun v m2 e2 => ?_)
  · obtain ⟨rfl, hne, htb⟩ := e2
    have hlt := (List.getElem?_eq_some_iff.mp htb).1
    simp only [List.length_cons, List.length_nil] at hlt
    have hcs : cd = 1 := by omega
    rcases hcs with rfl
    · have htb : some E_IOB = some E := htb
      cases htb
      refine ⟨[], ⟨0, 9, 12, 40⟩, [], rfl, (fun z hz => absurd hz List.not_mem_nil), rfl, by decide, by decide +kernel, w633, w643, 3, 1, Or.inr ⟨3, rfl, dL_count_12, rfl⟩, by decide, rfl, ?_⟩
      refine J_iconst (pc := 13) h dL_count_13 ci_1 ?_
      exact J_iretX h dL_count_14 rfl (Nat.le_refl _) ⟨rfl, fun q => absurd q (by decide), fun _ => rfl⟩
  · have hz := h0 _ _ e2
    refine J_i2l h dL_count_7 ?_
    refine J_last h dL_count_8 rfl (jin (by decide)) ?_
    refine J_goto (tgt := 15) h dL_count_9 (by decide) ?_
    refine J_iconst h dL_count_15 ci_0 ?_
    exact J_iretX h dL_count_16 rfl (Nat.le_refl _) ⟨by rw [hz]; rfl, fun _ => ⟨v, m2, e2, rfl⟩, fun q => absurd hz q⟩
end C73
