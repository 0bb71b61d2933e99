/-! LockstepNet.net(I)V -/
theorem rX7_net_0 {l : Launch} {G : jG} {X : jX} {Q : State → Prop} {n hg nc : Nat} {ret : Option FieldType} {mu : jM} {x1 : Int32} (h : jOk l G X cX7_net 2 ret RX7 hg nc)
    (k2 : x1 < 1 → J l G X Q 2 11 [.ref 0, .int x1] [] mu n)
    (k4 : ¬ x1 < 1 → x1 ≤ 24 → J l G X Q 2 22 [.ref 0, .int x1] [.ref 0] mu n)
    (k5 : ¬ x1 < 1 → ¬ x1 ≤ 24 → J l G X Q 2 11 [.ref 0, .int x1] [] mu n) :
    J l G X Q 2 0 [.ref 0, .int x1] [] mu n := by
  refine J_iload_n h dX7_net_0 rfl rfl ?_
  refine J_iconst h dX7_net_1 ci_1 ?_
  refine J_icmp_lt (tgt := 11) h dX7_net_2 (by decide) (fun q1 => ?_) (fun q1 => ?_)
  · skip
    exact k2 q1
  · skip
    refine J_iload_n h dX7_net_5 rfl rfl ?_
    refine J_bipush h dX7_net_6 cb_24 ?_
    refine J_icmp_le (tgt := 21) h dX7_net_8 (by decide) (fun q3 => ?_) (fun q3 => ?_)
    · skip
      refine J_aload_n h dX7_net_21 rfl rfl ?_
      exact k4 q1 q3
    · skip
      exact k5 q1 q3
theorem rX7_net_22 {l : Launch} {G : jG} {X : jX} {n hg nc : Nat} {ret : Option FieldType} {mu : jM} {Qr : Array Value → State → Outcome → State → Prop} {Ex Ec : String → jM → Prop} {nc' : Nat} {x1 : Int32} {Qc : jM → Prop} {h' : Nat} (h : jOk l G X cX7_net 2 ret RX7 hg nc) (ht : jNt X) (hM : jXv l G yX7_refuseWithRun cX7_refuseWithRun 1 h' nc' (.ref 0 :: []) mu Qc Ec) (hh : h' < hg ∧ 1 ≤ 21) (hn : n + nc' ≤ nc) (kx : ∀ E mu', Ec E mu' → Ex E mu')
    (kk : ∀ mu', Qc mu' → J l G X (jRx G X nc Qr Ex) 2 25 [.ref 0, .int x1] [] mu' (n + nc')) :
    J l G X (jRx G X nc Qr Ex) 2 22 [.ref 0, .int x1] [.ref 0] mu n :=
  J_callXv (As := []) (rest := []) h ht dX7_net_22 hM (jgV w489 w491 w5 w76 w492) rfl (ci := 7) rfl rfl nmX7_refuseWithRun rfl hh (Nat.le_of_ble_eq_true rfl) rfl hn kx kk
theorem rX7_net_25 {l : Launch} {G : jG} {X : jX} {Q : State → Prop} {n hg nc : Nat} {ret : Option FieldType} {mu : jM} {x1 : Int32} (h : jOk l G X cX7_net 2 ret RX7 hg nc)
    (k1 : J l G X Q 2 30 [.ref 0, .int x1] [.int x1, .ref 6] mu n) :
    J l G X Q 2 25 [.ref 0, .int x1] [] mu n := by
  refine J_aload_n h dX7_net_25 rfl rfl ?_
  refine J_getr (k := 1) h dX7_net_26 jc7 rfl rfl (by decide) w361 ?_
  refine J_iload_n h dX7_net_29 rfl rfl ?_
  exact k1
theorem rX7_net_30 {l : Launch} {G : jG} {X : jX} {Q : State → Prop} {n hg nc : Nat} {ret : Option FieldType} {mu : jM} {x1 : Int32} {y0 : Int32} {Qc : jM → Prop} {h' : Nat} (h : jOk l G X cX7_net 2 ret RX7 hg nc) (hM : jCv l G yX2_empty cX2_empty 2 h' (.ref 6 :: [.int y0]) mu Qc) (hh : h' < hg ∧ 2 ≤ 21) (hn : n ≤ nc)
    (kk : ∀ mu', Qc mu' → J l G X Q 2 33 [.ref 0, .int x1] [] mu' n) :
    J l G X Q 2 30 [.ref 0, .int x1] [.int y0, .ref 6] mu n :=
  J_callV (As := [.int y0]) (rest := []) h dX7_net_30 hM (jgV w509 w510 w511 w78 w512) rfl (ci := 2) rfl rfl nmX2_empty rfl hh (Nat.le_of_ble_eq_true rfl) rfl kk hn
theorem rX7_net_33 {l : Launch} {G : jG} {X : jX} {Q : State → Prop} {n hg nc : Nat} {ret : Option FieldType} {mu : jM} {x1 : Int32} (h : jOk l G X cX7_net 2 ret RX7 hg nc)
    (k1 : J l G X Q 2 38 [.ref 0, .int x1] [.int 0, .ref 13] mu n) :
    J l G X Q 2 33 [.ref 0, .int x1] [] mu n := by
  refine J_aload_n h dX7_net_33 rfl rfl ?_
  refine J_getr (k := 2) h dX7_net_34 jc7 rfl rfl (by decide) w362 ?_
  refine J_iconst h dX7_net_37 ci_0 ?_
  exact k1
theorem rX7_net_38 {l : Launch} {G : jG} {X : jX} {Q : State → Prop} {n hg nc : Nat} {ret : Option FieldType} {mu : jM} {x1 : Int32} {y0 : Int32} {Qc : jM → Prop} {h' : Nat} (h : jOk l G X cX7_net 2 ret RX7 hg nc) (hM : jCv l G yJ7_fill_53178 cJ7_fill_53178 4 h' [.ref 13, .int y0] mu Qc) (hh : h' < hg ∧ 4 ≤ 21) (hn : n ≤ nc)
    (kk : ∀ mu', Qc mu' → J l G X Q 2 41 [.ref 0, .int x1] [] mu' n) :
    J l G X Q 2 38 [.ref 0, .int x1] [.int y0, .ref 13] mu n :=
  J_callS (As := [.ref 13, .int y0]) (rest := []) h dX7_net_38 hM (jgS w516 w514 w90 w515) nmJ7_fill_53178 rfl hh (Nat.le_of_ble_eq_true rfl) rfl kk hn
theorem rX7_net_41 {l : Launch} {G : jG} {X : jX} {Q : State → Prop} {n hg nc : Nat} {ret : Option FieldType} {mu : jM} {x1 : Int32} (h : jOk l G X cX7_net 2 ret RX7 hg nc)
    (k1 : J l G X Q 2 49 [.ref 0, .int x1] [.ref 13, .ref 14] mu n) :
    J l G X Q 2 41 [.ref 0, .int x1] [] mu n := by
  refine J_aload_n h dX7_net_41 rfl rfl ?_
  refine J_getr (k := 3) h dX7_net_42 jc7 rfl rfl (by decide) w363 ?_
  refine J_aload_n h dX7_net_45 rfl rfl ?_
  refine J_getr (k := 2) h dX7_net_46 jc7 rfl rfl (by decide) w362 ?_
  exact k1
theorem rX7_net_49 {l : Launch} {G : jG} {X : jX} {Q : State → Prop} {n hg nc : Nat} {ret : Option FieldType} {mu : jM} {x1 : Int32} {Qc : jM → Prop} {h' : Nat} (h : jOk l G X cX7_net 2 ret RX7 hg nc) (hM : jCv l G yX1_begin cX1_begin 2 h' (.ref 14 :: [.ref 13]) mu Qc) (hh : h' < hg ∧ 2 ≤ 21) (hn : n ≤ nc)
    (kk : ∀ mu', Qc mu' → J l G X Q 2 52 [.ref 0, .int x1] [] mu' n) :
    J l G X Q 2 49 [.ref 0, .int x1] [.ref 13, .ref 14] mu n :=
  J_callV (As := [.ref 13]) (rest := []) h dX7_net_49 hM (jgV w517 w518 w519 w79 w520) rfl (ci := 1) rfl rfl nmX1_begin rfl hh (Nat.le_of_ble_eq_true rfl) rfl kk hn
/-! LockstepNet.link(II)I -/
theorem rX7_link_0 {l : Launch} {G : jG} {X : jX} {Q : State → Prop} {n hg nc : Nat} {ret : Option FieldType} {mu : jM} {x1 : Int32} {x2 : Int32} (h : jOk l G X cX7_link 3 ret RX7 hg nc)
    (k1 : J l G X Q 3 2 [.ref 0, .int x1, .int x2] [.int x1, .ref 0] mu n) :
    J l G X Q 3 0 [.ref 0, .int x1, .int x2] [] mu n := by
  refine J_aload_n h dX7_link_0 rfl rfl ?_
  refine J_iload_n h dX7_link_1 rfl rfl ?_
  exact k1
theorem rX7_link_2 {l : Launch} {G : jG} {X : jX} {n hg nc : Nat} {ret : Option FieldType} {mu : jM} {Qr : Array Value → State → Outcome → State → Prop} {Ex Ec : String → jM → Prop} {nc' : Nat} {x1 : Int32} {x2 : Int32} {y0 : Int32} {Qc : jM → Prop} {h' : Nat} (h : jOk l G X cX7_link 3 ret RX7 hg nc) (ht : jNt X) (hM : jXv l G yX7_needNode cX7_needNode 2 h' nc' (.ref 0 :: [.int y0]) mu Qc Ec) (hh : h' < hg ∧ 2 ≤ 21) (hn : n + nc' ≤ nc) (kx : ∀ E mu', Ec E mu' → Ex E mu')
    (kk : ∀ mu', Qc mu' → J l G X (jRx G X nc Qr Ex) 3 5 [.ref 0, .int x1, .int x2] [] mu' (n + nc')) :
    J l G X (jRx G X nc Qr Ex) 3 2 [.ref 0, .int x1, .int x2] [.int y0, .ref 0] mu n :=
  J_callXv (As := [.int y0]) (rest := []) h ht dX7_link_2 hM (jgV w534 w536 w6 w76 w537) rfl (ci := 7) rfl rfl nmX7_needNode rfl hh (Nat.le_of_ble_eq_true rfl) rfl hn kx kk
theorem rX7_link_5 {l : Launch} {G : jG} {X : jX} {Q : State → Prop} {n hg nc : Nat} {ret : Option FieldType} {mu : jM} {x1 : Int32} {x2 : Int32} (h : jOk l G X cX7_link 3 ret RX7 hg nc)
    (k1 : J l G X Q 3 7 [.ref 0, .int x1, .int x2] [.int x2, .ref 0] mu n) :
    J l G X Q 3 5 [.ref 0, .int x1, .int x2] [] mu n := by
  refine J_aload_n h dX7_link_5 rfl rfl ?_
  refine J_iload_n h dX7_link_6 rfl rfl ?_
  exact k1
theorem rX7_link_7 {l : Launch} {G : jG} {X : jX} {n hg nc : Nat} {ret : Option FieldType} {mu : jM} {Qr : Array Value → State → Outcome → State → Prop} {Ex Ec : String → jM → Prop} {nc' : Nat} {x1 : Int32} {x2 : Int32} {y0 : Int32} {Qc : jM → Prop} {h' : Nat} (h : jOk l G X cX7_link 3 ret RX7 hg nc) (ht : jNt X) (hM : jXv l G yX7_needNode cX7_needNode 2 h' nc' (.ref 0 :: [.int y0]) mu Qc Ec) (hh : h' < hg ∧ 2 ≤ 21) (hn : n + nc' ≤ nc) (kx : ∀ E mu', Ec E mu' → Ex E mu')
    (kk : ∀ mu', Qc mu' → J l G X (jRx G X nc Qr Ex) 3 10 [.ref 0, .int x1, .int x2] [] mu' (n + nc')) :
    J l G X (jRx G X nc Qr Ex) 3 7 [.ref 0, .int x1, .int x2] [.int y0, .ref 0] mu n :=
  J_callXv (As := [.int y0]) (rest := []) h ht dX7_link_7 hM (jgV w534 w536 w6 w76 w537) rfl (ci := 7) rfl rfl nmX7_needNode rfl hh (Nat.le_of_ble_eq_true rfl) rfl hn kx kk
theorem rX7_link_10 {l : Launch} {G : jG} {X : jX} {Q : State → Prop} {n hg nc : Nat} {ret : Option FieldType} {mu : jM} {x1 : Int32} {x2 : Int32} (h : jOk l G X cX7_link 3 ret RX7 hg nc)
    (k2 : ¬ x1 = x2 → J l G X Q 3 26 [.ref 0, .int x1, .int x2] [.ref 0] mu n)
    (k3 : x1 = x2 → J l G X Q 3 15 [.ref 0, .int x1, .int x2] [] mu n) :
    J l G X Q 3 10 [.ref 0, .int x1, .int x2] [] mu n := by
  refine J_iload_n h dX7_link_10 rfl rfl ?_
  refine J_iload_n h dX7_link_11 rfl rfl ?_
  refine J_icmp_ne (tgt := 25) h dX7_link_12 (by decide) (fun q1 => ?_) (fun q1 => ?_)
  · skip
    refine J_aload_n h dX7_link_25 rfl rfl ?_
    exact k2 q1
  · skip
    exact k3 q1
theorem rX7_link_26 {l : Launch} {G : jG} {X : jX} {n hg nc : Nat} {ret : Option FieldType} {mu : jM} {Qr : Array Value → State → Outcome → State → Prop} {Ex Ec : String → jM → Prop} {nc' : Nat} {x1 : Int32} {x2 : Int32} {Qc : jM → Prop} {h' : Nat} (h : jOk l G X cX7_link 3 ret RX7 hg nc) (ht : jNt X) (hM : jXv l G yX7_refuseWithRun cX7_refuseWithRun 1 h' nc' (.ref 0 :: []) mu Qc Ec) (hh : h' < hg ∧ 1 ≤ 21) (hn : n + nc' ≤ nc) (kx : ∀ E mu', Ec E mu' → Ex E mu')
    (kk : ∀ mu', Qc mu' → J l G X (jRx G X nc Qr Ex) 3 29 [.ref 0, .int x1, .int x2] [] mu' (n + nc')) :
    J l G X (jRx G X nc Qr Ex) 3 26 [.ref 0, .int x1, .int x2] [.ref 0] mu n :=
  J_callXv (As := []) (rest := []) h ht dX7_link_26 hM (jgV w489 w491 w5 w76 w492) rfl (ci := 7) rfl rfl nmX7_refuseWithRun rfl hh (Nat.le_of_ble_eq_true rfl) rfl hn kx kk
theorem rX7_link_29 {l : Launch} {G : jG} {X : jX} {Q : State → Prop} {n hg nc : Nat} {ret : Option FieldType} {mu : jM} {x1 : Int32} {x2 : Int32} (h : jOk l G X cX7_link 3 ret RX7 hg nc)
    (k1 : J l G X Q 3 35 [.ref 0, .int x1, .int x2] [.int x2, .int x1, .ref 6] mu n) :
    J l G X Q 3 29 [.ref 0, .int x1, .int x2] [] mu n := by
  refine J_aload_n h dX7_link_29 rfl rfl ?_
  refine J_getr (k := 1) h dX7_link_30 jc7 rfl rfl (by decide) w361 ?_
  refine J_iload_n h dX7_link_33 rfl rfl ?_
  refine J_iload_n h dX7_link_34 rfl rfl ?_
  exact k1
theorem rX7_link_35 {l : Launch} {G : jG} {X : jX} {Q : State → Prop} {n hg nc : Nat} {ret : Option FieldType} {mu : jM} {x1 : Int32} {x2 : Int32} {y0 : Int32} {y1 : Int32} {Qc : Int32 → jM → Prop} {h' : Nat} (h : jOk l G X cX7_link 3 ret RX7 hg nc) (hM : jCi l G yX2_areLinked cX2_areLinked 3 h' (some .boolean) (.ref 6 :: [.int y1, .int y0]) mu Qc) (hh : h' < hg ∧ 3 ≤ 21) (hn : n ≤ nc)
    (kk : ∀ v mu', Qc v mu' → J l G X Q 3 38 [.ref 0, .int x1, .int x2] (.int v :: []) mu' n) :
    J l G X Q 3 35 [.ref 0, .int x1, .int x2] [.int y0, .int y1, .ref 6] mu n :=
  J_callVi (As := [.int y1, .int y0]) (rest := []) h dX7_link_35 hM (jgV w555 w556 w557 w78 w558) rfl (ci := 2) rfl rfl nmX2_areLinked rfl hh (Nat.le_of_ble_eq_true rfl) rfl kk hn
theorem rX7_link_38 {l : Launch} {G : jG} {X : jX} {Q : State → Prop} {n hg nc : Nat} {ret : Option FieldType} {mu : jM} {x1 : Int32} {x2 : Int32} {y0 : Int32} (h : jOk l G X cX7_link 3 ret RX7 hg nc)
    (k3 : y0 = 0 → ¬ (mu 6 1) = 60 → J l G X Q 3 79 [.ref 0, .int x1, .int x2] [.int x2, .int x1, .ref 6] mu n)
    (k4 : y0 = 0 → (mu 6 1) = 60 → J l G X Q 3 63 [.ref 0, .int x1, .int x2] [] mu n)
    (k5 : ¬ y0 = 0 → J l G X Q 3 41 [.ref 0, .int x1, .int x2] [] mu n) :
    J l G X Q 3 38 [.ref 0, .int x1, .int x2] [.int y0] mu n := by
  refine J_if_eq (tgt := 51) h dX7_link_38 (by decide) (fun q1 => ?_) (fun q1 => ?_)
  · skip
    refine J_aload_n h dX7_link_51 rfl rfl ?_
    refine J_getr (k := 1) h dX7_link_52 jc7 rfl rfl (by decide) w361 ?_
    refine J_getiN (k := 1) h dX7_link_55 jc2 rfl rfl (by decide) w146 ?_
    refine J_bipush h dX7_link_58 cb_60 ?_
    refine J_icmp_ne (tgt := 73) h dX7_link_60 (by decide) (fun q2 => ?_) (fun q2 => ?_)
    · skip
      refine J_aload_n h dX7_link_73 rfl rfl ?_
      refine J_getr (k := 1) h dX7_link_74 jc7 rfl rfl (by decide) w361 ?_
      refine J_iload_n h dX7_link_77 rfl rfl ?_
      refine J_iload_n h dX7_link_78 rfl rfl ?_
      exact k3 q1 q2
    · skip
      exact k4 q1 q2
  · skip
    exact k5 q1
theorem rX7_link_79 {l : Launch} {G : jG} {X : jX} {Q : State → Prop} {n hg nc : Nat} {ret : Option FieldType} {mu : jM} {x1 : Int32} {x2 : Int32} {y0 : Int32} {y1 : Int32} {Qc : Int32 → jM → Prop} {h' : Nat} (h : jOk l G X cX7_link 3 ret RX7 hg nc) (hM : jCi l G yX2_join cX2_join 3 h' (some .int) (.ref 6 :: [.int y1, .int y0]) mu Qc) (hh : h' < hg ∧ 3 ≤ 21) (hn : n ≤ nc)
    (kk : ∀ v mu', Qc v mu' → J l G X Q 3 82 [.ref 0, .int x1, .int x2] (.int v :: []) mu' n) :
    J l G X Q 3 79 [.ref 0, .int x1, .int x2] [.int y0, .int y1, .ref 6] mu n :=
  J_callVi (As := [.int y1, .int y0]) (rest := []) h dX7_link_79 hM (jgV w576 w577 w578 w78 w579) rfl (ci := 2) rfl rfl nmX2_join rfl hh (Nat.le_of_ble_eq_true rfl) rfl kk hn
/-! LockstepNet.word(IIIII)I -/
theorem rX7_word_0 {l : Launch} {G : jG} {X : jX} {Q : State → Prop} {n hg nc : Nat} {ret : Option FieldType} {mu : jM} {x1 : Int32} {x2 : Int32} {x3 : Int32} {x4 : Int32} {x5 : Int32} (h : jOk l G X cX7_word 6 ret RX7 hg nc)
    (k2 : x1 < 0 → J l G X Q 6 15 [.ref 0, .int x1, .int x2, .int x3, .int x4, .int x5] [] mu n)
    (k4 : ¬ x1 < 0 → x1 ≤ (mu 1 4) → J l G X Q 6 26 [.ref 0, .int x1, .int x2, .int x3, .int x4, .int x5] [.ref 0] mu n)
    (k5 : ¬ x1 < 0 → ¬ x1 ≤ (mu 1 4) → J l G X Q 6 15 [.ref 0, .int x1, .int x2, .int x3, .int x4, .int x5] [] mu n) :
    J l G X Q 6 0 [.ref 0, .int x1, .int x2, .int x3, .int x4, .int x5] [] mu n := by
  refine J_iload_n h dX7_word_0 rfl rfl ?_
  refine J_if_lt (tgt := 15) h dX7_word_1 (by decide) (fun q1 => ?_) (fun q1 => ?_)
  · skip
    exact k2 q1
  · skip
    refine J_iload_n h dX7_word_4 rfl rfl ?_
    refine J_aload_n h dX7_word_5 rfl rfl ?_
    refine J_getr (k := 0) h dX7_word_6 jc7 rfl rfl (by decide) w360 ?_
    refine J_getiN (k := 4) h dX7_word_9 jc4 rfl rfl (by decide) w120 ?_
    refine J_icmp_le (tgt := 25) h dX7_word_12 (by decide) (fun q3 => ?_) (fun q3 => ?_)
    · skip
      refine J_aload_n h dX7_word_25 rfl rfl ?_
      exact k4 q1 q3
    · skip
      exact k5 q1 q3
theorem rX7_word_26 {l : Launch} {G : jG} {X : jX} {n hg nc : Nat} {ret : Option FieldType} {mu : jM} {Qr : Array Value → State → Outcome → State → Prop} {Ex Ec : String → jM → Prop} {nc' : Nat} {x1 : Int32} {x2 : Int32} {x3 : Int32} {x4 : Int32} {x5 : Int32} {Qc : jM → Prop} {h' : Nat} (h : jOk l G X cX7_word 6 ret RX7 hg nc) (ht : jNt X) (hM : jXv l G yX7_refuseWithRun cX7_refuseWithRun 1 h' nc' (.ref 0 :: []) mu Qc Ec) (hh : h' < hg ∧ 1 ≤ 21) (hn : n + nc' ≤ nc) (kx : ∀ E mu', Ec E mu' → Ex E mu')
    (kk : ∀ mu', Qc mu' → J l G X (jRx G X nc Qr Ex) 6 29 [.ref 0, .int x1, .int x2, .int x3, .int x4, .int x5] [] mu' (n + nc')) :
    J l G X (jRx G X nc Qr Ex) 6 26 [.ref 0, .int x1, .int x2, .int x3, .int x4, .int x5] [.ref 0] mu n :=
  J_callXv (As := []) (rest := []) h ht dX7_word_26 hM (jgV w489 w491 w5 w76 w492) rfl (ci := 7) rfl rfl nmX7_refuseWithRun rfl hh (Nat.le_of_ble_eq_true rfl) rfl hn kx kk
theorem rX7_word_29 {l : Launch} {G : jG} {X : jX} {Q : State → Prop} {n hg nc : Nat} {ret : Option FieldType} {mu : jM} {x1 : Int32} {x2 : Int32} {x3 : Int32} {x4 : Int32} {x5 : Int32} (h : jOk l G X cX7_word 6 ret RX7 hg nc)
    (k2 : ¬ x1 = 64 → J l G X Q 6 56 [.ref 0, .int x1, .int x2, .int x3, .int x4, .int x5] [.int x5, .int x4, .int x3, .int x2, .int x1, .ref 1] mu n)
    (k3 : x1 = 64 → J l G X Q 6 35 [.ref 0, .int x1, .int x2, .int x3, .int x4, .int x5] [] mu n) :
    J l G X Q 6 29 [.ref 0, .int x1, .int x2, .int x3, .int x4, .int x5] [] mu n := by
  refine J_iload_n h dX7_word_29 rfl rfl ?_
  refine J_bipush h dX7_word_30 cb_64 ?_
  refine J_icmp_ne (tgt := 45) h dX7_word_32 (by decide) (fun q1 => ?_) (fun q1 => ?_)
  · skip
    refine J_aload_n h dX7_word_45 rfl rfl ?_
    refine J_getr (k := 0) h dX7_word_46 jc7 rfl rfl (by decide) w360 ?_
    refine J_iload_n h dX7_word_49 rfl rfl ?_
    refine J_iload_n h dX7_word_50 rfl rfl ?_
    refine J_iload_n h dX7_word_51 rfl rfl ?_
    refine J_iload h dX7_word_52 rfl ?_
    refine J_iload h dX7_word_54 rfl ?_
    exact k2 q1
  · skip
    exact k3 q1
theorem rX7_word_56 {l : Launch} {G : jG} {X : jX} {Q : State → Prop} {n hg nc : Nat} {ret : Option FieldType} {mu : jM} {x1 : Int32} {x2 : Int32} {x3 : Int32} {x4 : Int32} {x5 : Int32} {y0 : Int32} {y1 : Int32} {y2 : Int32} {y3 : Int32} {y4 : Int32} {Qc : jM → Prop} {h' : Nat} (h : jOk l G X cX7_word 6 ret RX7 hg nc) (hM : jCv l G yX4_put cX4_put 6 h' (.ref 1 :: [.int y4, .int y3, .int y2, .int y1, .int y0]) mu Qc) (hh : h' < hg ∧ 6 ≤ 21) (hn : n ≤ nc)
    (kk : ∀ mu', Qc mu' → J l G X Q 6 59 [.ref 0, .int x1, .int x2, .int x3, .int x4, .int x5] [] mu' n) :
    J l G X Q 6 56 [.ref 0, .int x1, .int x2, .int x3, .int x4, .int x5] [.int y0, .int y1, .int y2, .int y3, .int y4, .ref 1] mu n :=
  J_callV (As := [.int y4, .int y3, .int y2, .int y1, .int y0]) (rest := []) h dX7_word_56 hM (jgV w593 w594 w595 w77 w596) rfl (ci := 4) rfl rfl nmX4_put rfl hh (Nat.le_of_ble_eq_true rfl) rfl kk hn
theorem rX7_word_59 {l : Launch} {G : jG} {X : jX} {Q : State → Prop} {n hg nc : Nat} {ret : Option FieldType} {mu : jM} {x1 : Int32} {x2 : Int32} {x3 : Int32} {x4 : Int32} {x5 : Int32} (h : jOk l G X cX7_word 6 ret RX7 hg nc)
    (k1 : J l G X Q 6 66 [.ref 0, .int x1, .int x2, .int x3, .int x4, .int x5] [.int (mu 1 4)] mu n) :
    J l G X Q 6 59 [.ref 0, .int x1, .int x2, .int x3, .int x4, .int x5] [] mu n := by
  refine J_aload_n h dX7_word_59 rfl rfl ?_
  refine J_getr (k := 0) h dX7_word_60 jc7 rfl rfl (by decide) w360 ?_
  refine J_getiN (k := 4) h dX7_word_63 jc4 rfl rfl (by decide) w120 ?_
  exact k1
/-! LockstepNet.builtin(I)I -/
theorem rX7_builtin_0 {l : Launch} {G : jG} {X : jX} {Q : State → Prop} {n hg nc : Nat} {ret : Option FieldType} {mu : jM} {x1 : Int32} (h : jOk l G X cX7_builtin 2 ret RX7 hg nc)
    (k2 : x1 < 0 → J l G X Q 2 9 [.ref 0, .int x1] [] mu n)
    (k4 : ¬ x1 < 0 → x1 < 5 → J l G X Q 2 20 [.ref 0, .int x1] [.ref 0] mu n)
    (k5 : ¬ x1 < 0 → ¬ x1 < 5 → J l G X Q 2 9 [.ref 0, .int x1] [] mu n) :
    J l G X Q 2 0 [.ref 0, .int x1] [] mu n := by
  refine J_iload_n h dX7_builtin_0 rfl rfl ?_
  refine J_if_lt (tgt := 9) h dX7_builtin_1 (by decide) (fun q1 => ?_) (fun q1 => ?_)
  · skip
    exact k2 q1
  · skip
    refine J_iload_n h dX7_builtin_4 rfl rfl ?_
    refine J_iconst h dX7_builtin_5 ci_5 ?_
    refine J_icmp_lt (tgt := 19) h dX7_builtin_6 (by decide) (fun q3 => ?_) (fun q3 => ?_)
    · skip
      refine J_aload_n h dX7_builtin_19 rfl rfl ?_
      exact k4 q1 q3
    · skip
      exact k5 q1 q3
theorem rX7_builtin_20 {l : Launch} {G : jG} {X : jX} {n hg nc : Nat} {ret : Option FieldType} {mu : jM} {Qr : Array Value → State → Outcome → State → Prop} {Ex Ec : String → jM → Prop} {nc' : Nat} {x1 : Int32} {Qc : jM → Prop} {h' : Nat} (h : jOk l G X cX7_builtin 2 ret RX7 hg nc) (ht : jNt X) (hM : jXv l G yX7_refuseWithRun cX7_refuseWithRun 1 h' nc' (.ref 0 :: []) mu Qc Ec) (hh : h' < hg ∧ 1 ≤ 21) (hn : n + nc' ≤ nc) (kx : ∀ E mu', Ec E mu' → Ex E mu')
    (kk : ∀ mu', Qc mu' → J l G X (jRx G X nc Qr Ex) 2 23 [.ref 0, .int x1] [] mu' (n + nc')) :
    J l G X (jRx G X nc Qr Ex) 2 20 [.ref 0, .int x1] [.ref 0] mu n :=
  J_callXv (As := []) (rest := []) h ht dX7_builtin_20 hM (jgV w489 w491 w5 w76 w492) rfl (ci := 7) rfl rfl nmX7_refuseWithRun rfl hh (Nat.le_of_ble_eq_true rfl) rfl hn kx kk
theorem rX7_builtin_23 {l : Launch} {G : jG} {X : jX} {Q : State → Prop} {n hg nc : Nat} {ret : Option FieldType} {mu : jM} {x1 : Int32} (h : jOk l G X cX7_builtin 2 ret RX7 hg nc)
    (k1 : J l G X Q 2 28 [.ref 0, .int x1] [.int x1, .ref 1] mu n) :
    J l G X Q 2 23 [.ref 0, .int x1] [] mu n := by
  refine J_aload_n h dX7_builtin_23 rfl rfl ?_
  refine J_getr (k := 0) h dX7_builtin_24 jc7 rfl rfl (by decide) w360 ?_
  refine J_iload_n h dX7_builtin_27 rfl rfl ?_
  exact k1
theorem rX7_builtin_28 {l : Launch} {G : jG} {X : jX} {Q : State → Prop} {n hg nc : Nat} {ret : Option FieldType} {mu : jM} {x1 : Int32} {y0 : Int32} {Qc : jM → Prop} {h' : Nat} (h : jOk l G X cX7_builtin 2 ret RX7 hg nc) (hM : jCv l G yX4_load cX4_load 4 h' (.ref 1 :: [.int y0]) mu Qc) (hh : h' < hg ∧ 4 ≤ 21) (hn : n ≤ nc)
    (kk : ∀ mu', Qc mu' → J l G X Q 2 31 [.ref 0, .int x1] [] mu' n) :
    J l G X Q 2 28 [.ref 0, .int x1] [.int y0, .ref 1] mu n :=
  J_callV (As := [.int y0]) (rest := []) h dX7_builtin_28 hM (jgV w605 w606 w607 w77 w608) rfl (ci := 4) rfl rfl nmX4_load rfl hh (Nat.le_of_ble_eq_true rfl) rfl kk hn
theorem rX7_builtin_31 {l : Launch} {G : jG} {X : jX} {Q : State → Prop} {n hg nc : Nat} {ret : Option FieldType} {mu : jM} {x1 : Int32} (h : jOk l G X cX7_builtin 2 ret RX7 hg nc)
    (k1 : J l G X Q 2 38 [.ref 0, .int x1] [.int (mu 1 4)] mu n) :
    J l G X Q 2 31 [.ref 0, .int x1] [] mu n := by
  refine J_aload_n h dX7_builtin_31 rfl rfl ?_
  refine J_getr (k := 0) h dX7_builtin_32 jc7 rfl rfl (by decide) w360 ?_
  refine J_getiN (k := 4) h dX7_builtin_35 jc4 rfl rfl (by decide) w120 ?_
  exact k1
/-! LockstepNet.cutAt(I)V -/
theorem rX7_cutAt_0 {l : Launch} {G : jG} {X : jX} {Q : State → Prop} {n hg nc : Nat} {ret : Option FieldType} {mu : jM} {x1 : Int32} (h : jOk l G X cX7_cutAt 2 ret RX7 hg nc)
    (k2 : x1 < 0 → J l G X Q 2 15 [.ref 0, .int x1] [] mu n)
    (k4 : ¬ x1 < 0 → x1 ≤ (mu 1 4) → J l G X Q 2 26 [.ref 0, .int x1] [.ref 0] mu n)
    (k5 : ¬ x1 < 0 → ¬ x1 ≤ (mu 1 4) → J l G X Q 2 15 [.ref 0, .int x1] [] mu n) :
    J l G X Q 2 0 [.ref 0, .int x1] [] mu n := by
  refine J_iload_n h dX7_cutAt_0 rfl rfl ?_
  refine J_if_lt (tgt := 15) h dX7_cutAt_1 (by decide) (fun q1 => ?_) (fun q1 => ?_)
  · skip
    exact k2 q1
  · skip
    refine J_iload_n h dX7_cutAt_4 rfl rfl ?_
    refine J_aload_n h dX7_cutAt_5 rfl rfl ?_
    refine J_getr (k := 0) h dX7_cutAt_6 jc7 rfl rfl (by decide) w360 ?_
    refine J_getiN (k := 4) h dX7_cutAt_9 jc4 rfl rfl (by decide) w120 ?_
    refine J_icmp_le (tgt := 25) h dX7_cutAt_12 (by decide) (fun q3 => ?_) (fun q3 => ?_)
    · skip
      refine J_aload_n h dX7_cutAt_25 rfl rfl ?_
      exact k4 q1 q3
    · skip
      exact k5 q1 q3
theorem rX7_cutAt_26 {l : Launch} {G : jG} {X : jX} {n hg nc : Nat} {ret : Option FieldType} {mu : jM} {Qr : Array Value → State → Outcome → State → Prop} {Ex Ec : String → jM → Prop} {nc' : Nat} {x1 : Int32} {Qc : jM → Prop} {h' : Nat} (h : jOk l G X cX7_cutAt 2 ret RX7 hg nc) (ht : jNt X) (hM : jXv l G yX7_refuseWithRun cX7_refuseWithRun 1 h' nc' (.ref 0 :: []) mu Qc Ec) (hh : h' < hg ∧ 1 ≤ 21) (hn : n + nc' ≤ nc) (kx : ∀ E mu', Ec E mu' → Ex E mu')
    (kk : ∀ mu', Qc mu' → J l G X (jRx G X nc Qr Ex) 2 29 [.ref 0, .int x1] [] mu' (n + nc')) :
    J l G X (jRx G X nc Qr Ex) 2 26 [.ref 0, .int x1] [.ref 0] mu n :=
  J_callXv (As := []) (rest := []) h ht dX7_cutAt_26 hM (jgV w489 w491 w5 w76 w492) rfl (ci := 7) rfl rfl nmX7_refuseWithRun rfl hh (Nat.le_of_ble_eq_true rfl) rfl hn kx kk
theorem rX7_cutAt_29 {l : Launch} {G : jG} {X : jX} {Q : State → Prop} {n hg nc : Nat} {ret : Option FieldType} {mu : jM} {x1 : Int32} (h : jOk l G X cX7_cutAt 2 ret RX7 hg nc)
    (k1 : J l G X Q 2 37 [.ref 0, .int x1] [] (wr mu 1 4 x1) n) :
    J l G X Q 2 29 [.ref 0, .int x1] [] mu n := by
  refine J_aload_n h dX7_cutAt_29 rfl rfl ?_
  refine J_getr (k := 0) h dX7_cutAt_30 jc7 rfl rfl (by decide) w360 ?_
  refine J_iload_n h dX7_cutAt_33 rfl rfl ?_
  refine J_putiN (k := 4) (ty0 := tyX4) h dX7_cutAt_34 jc4 tyX4_ok nmX4 rfl rfl (by decide) rfl rfl rfl w120 ?_
  exact k1
/-! LockstepNet.check()I -/
theorem rX7_check_0 {l : Launch} {G : jG} {X : jX} {Q : State → Prop} {n hg nc : Nat} {ret : Option FieldType} {mu : jM} (h : jOk l G X cX7_check 1 ret RX7 hg nc)
    (k1 : J l G X Q 1 4 [.ref 0] [.ref 1] mu n) :
    J l G X Q 1 0 [.ref 0] [] mu n := by
  refine J_aload_n h dX7_check_0 rfl rfl ?_
  refine J_getr (k := 0) h dX7_check_1 jc7 rfl rfl (by decide) w360 ?_
  exact k1
theorem rX7_check_4 {l : Launch} {G : jG} {X : jX} {Q : State → Prop} {n hg nc : Nat} {ret : Option FieldType} {mu : jM} {Qc : Int32 → jM → Prop} {h' : Nat} (h : jOk l G X cX7_check 1 ret RX7 hg nc) (hM : jCi l G yX4_firstWrong cX4_firstWrong 4 h' (some .int) (.ref 1 :: []) mu Qc) (hh : h' < hg ∧ 4 ≤ 21) (hn : n ≤ nc)
    (kk : ∀ v mu', Qc v mu' → J l G X Q 1 7 [.ref 0] (.int v :: []) mu' n) :
    J l G X Q 1 4 [.ref 0] [.ref 1] mu n :=
  J_callVi (As := []) (rest := []) h dX7_check_4 hM (jgV w383 w384 w385 w77 w386) rfl (ci := 4) rfl rfl nmX4_firstWrong rfl hh (Nat.le_of_ble_eq_true rfl) rfl kk hn
/-! LockstepNet.input(III)V -/
theorem rX7_input_0 {l : Launch} {G : jG} {X : jX} {Q : State → Prop} {n hg nc : Nat} {ret : Option FieldType} {mu : jM} {x1 : Int32} {x2 : Int32} {x3 : Int32} (h : jOk l G X cX7_input 4 ret RX7 hg nc)
    (k1 : J l G X Q 4 2 [.ref 0, .int x1, .int x2, .int x3] [.int x1, .ref 0] mu n) :
    J l G X Q 4 0 [.ref 0, .int x1, .int x2, .int x3] [] mu n := by
  refine J_aload_n h dX7_input_0 rfl rfl ?_
  refine J_iload_n h dX7_input_1 rfl rfl ?_
  exact k1
theorem rX7_input_2 {l : Launch} {G : jG} {X : jX} {n hg nc : Nat} {ret : Option FieldType} {mu : jM} {Qr : Array Value → State → Outcome → State → Prop} {Ex Ec : String → jM → Prop} {nc' : Nat} {x1 : Int32} {x2 : Int32} {x3 : Int32} {y0 : Int32} {Qc : jM → Prop} {h' : Nat} (h : jOk l G X cX7_input 4 ret RX7 hg nc) (ht : jNt X) (hM : jXv l G yX7_needNode cX7_needNode 2 h' nc' (.ref 0 :: [.int y0]) mu Qc Ec) (hh : h' < hg ∧ 2 ≤ 21) (hn : n + nc' ≤ nc) (kx : ∀ E mu', Ec E mu' → Ex E mu')
    (kk : ∀ mu', Qc mu' → J l G X (jRx G X nc Qr Ex) 4 5 [.ref 0, .int x1, .int x2, .int x3] [] mu' (n + nc')) :
    J l G X (jRx G X nc Qr Ex) 4 2 [.ref 0, .int x1, .int x2, .int x3] [.int y0, .ref 0] mu n :=
  J_callXv (As := [.int y0]) (rest := []) h ht dX7_input_2 hM (jgV w534 w536 w6 w76 w537) rfl (ci := 7) rfl rfl nmX7_needNode rfl hh (Nat.le_of_ble_eq_true rfl) rfl hn kx kk
theorem rX7_input_5 {l : Launch} {G : jG} {X : jX} {Q : State → Prop} {n hg nc : Nat} {ret : Option FieldType} {mu : jM} {x1 : Int32} {x2 : Int32} {x3 : Int32} (h : jOk l G X cX7_input 4 ret RX7 hg nc)
    (k1 : J l G X Q 4 6 [.ref 0, .int x1, .int x2, .int x3] [.int x2] mu n) :
    J l G X Q 4 5 [.ref 0, .int x1, .int x2, .int x3] [] mu n := by
  refine J_iload_n h dX7_input_5 rfl rfl ?_
  exact k1
theorem rX7_input_6 {l : Launch} {G : jG} {X : jX} {n hg nc : Nat} {ret : Option FieldType} {mu : jM} {Qr : Array Value → State → Outcome → State → Prop} {Ex Ec : String → jM → Prop} {nc' : Nat} {x1 : Int32} {x2 : Int32} {x3 : Int32} {y0 : Int32} {Qc : jM → Prop} {h' : Nat} (h : jOk l G X cX7_input 4 ret RX7 hg nc) (ht : jNt X) (hM : jXv l G yX7_needRegister cX7_needRegister 1 h' nc' [.int y0] mu Qc Ec) (hh : h' < hg ∧ 1 ≤ 21) (hn : n + nc' ≤ nc) (kx : ∀ E mu', Ec E mu' → Ex E mu')
    (kk : ∀ mu', Qc mu' → J l G X (jRx G X nc Qr Ex) 4 9 [.ref 0, .int x1, .int x2, .int x3] [] mu' (n + nc')) :
    J l G X (jRx G X nc Qr Ex) 4 6 [.ref 0, .int x1, .int x2, .int x3] [.int y0] mu n :=
  J_callXS (As := [.int y0]) (rest := []) h ht dX7_input_6 hM (jgS w638 w639 w76 w640) nmX7_needRegister rfl hh (Nat.le_of_ble_eq_true rfl) rfl hn kx kk
theorem rX7_input_9 {l : Launch} {G : jG} {X : jX} {Q : State → Prop} {n hg nc : Nat} {ret : Option FieldType} {mu : jM} {x1 : Int32} {x2 : Int32} {x3 : Int32} (h : jOk l G X cX7_input 4 ret RX7 hg nc)
    (k1 : J l G X Q 4 10 [.ref 0, .int x1, .int x2, .int x3] [.ref 0] mu n) :
    J l G X Q 4 9 [.ref 0, .int x1, .int x2, .int x3] [] mu n := by
  refine J_aload_n h dX7_input_9 rfl rfl ?_
  exact k1
theorem rX7_input_10 {l : Launch} {G : jG} {X : jX} {n hg nc : Nat} {ret : Option FieldType} {mu : jM} {Qr : Array Value → State → Outcome → State → Prop} {Ex Ec : String → jM → Prop} {nc' : Nat} {x1 : Int32} {x2 : Int32} {x3 : Int32} {Qc : jM → Prop} {h' : Nat} (h : jOk l G X cX7_input 4 ret RX7 hg nc) (ht : jNt X) (hM : jXv l G yX7_refuseWithRun cX7_refuseWithRun 1 h' nc' (.ref 0 :: []) mu Qc Ec) (hh : h' < hg ∧ 1 ≤ 21) (hn : n + nc' ≤ nc) (kx : ∀ E mu', Ec E mu' → Ex E mu')
    (kk : ∀ mu', Qc mu' → J l G X (jRx G X nc Qr Ex) 4 13 [.ref 0, .int x1, .int x2, .int x3] [] mu' (n + nc')) :
    J l G X (jRx G X nc Qr Ex) 4 10 [.ref 0, .int x1, .int x2, .int x3] [.ref 0] mu n :=
  J_callXv (As := []) (rest := []) h ht dX7_input_10 hM (jgV w489 w491 w5 w76 w492) rfl (ci := 7) rfl rfl nmX7_refuseWithRun rfl hh (Nat.le_of_ble_eq_true rfl) rfl hn kx kk
theorem rX7_input_13 {l : Launch} {G : jG} {X : jX} {Q : State → Prop} {n hg nc : Nat} {ret : Option FieldType} {mu : jM} {x1 : Int32} {x2 : Int32} {x3 : Int32} (h : jOk l G X cX7_input 4 ret RX7 hg nc) (s1 : vp_in ((x1 * 8) + x2) 192)
    (k2 : J l G X Q 4 25 [.ref 0, .int x1, .int x2, .int x3] [] (wr mu 13 (((x1 * 8) + x2)).toNatClampNeg x3) n) :
    J l G X Q 4 13 [.ref 0, .int x1, .int x2, .int x3] [] mu n := by
  refine J_aload_n h dX7_input_13 rfl rfl ?_
  refine J_getr (k := 2) h dX7_input_14 jc7 rfl rfl (by decide) w362 ?_
  refine J_iload_n h dX7_input_17 rfl rfl ?_
  refine J_bipush h dX7_input_18 cb_8 ?_
  refine J_imul h dX7_input_20 ?_
  refine J_iload_n h dX7_input_21 rfl rfl ?_
  refine J_iadd h dX7_input_22 ?_
  refine J_iload_n h dX7_input_23 rfl rfl ?_
  refine J_iast h dX7_input_24 rfl (s1) ?_
  exact k2
/-! LockstepNet.lockstep(I)V -/
theorem rX7_lockstep_0 {l : Launch} {G : jG} {X : jX} {Q : State → Prop} {n hg nc : Nat} {ret : Option FieldType} {mu : jM} {x1 : Int32} (h : jOk l G X cX7_lockstep 4 ret RX7 hg nc)
    (k2 : x1 < 0 → J l G X Q 4 11 [.ref 0, .int x1, .float 0, .float 0] [] mu n)
    (k4 : ¬ x1 < 0 → x1 ≤ 300 → J l G X Q 4 22 [.ref 0, .int x1, .float 0, .float 0] [.ref 0] mu n)
    (k5 : ¬ x1 < 0 → ¬ x1 ≤ 300 → J l G X Q 4 11 [.ref 0, .int x1, .float 0, .float 0] [] mu n) :
    J l G X Q 4 0 [.ref 0, .int x1, .float 0, .float 0] [] mu n := by
  refine J_iload_n h dX7_lockstep_0 rfl rfl ?_
  refine J_if_lt (tgt := 11) h dX7_lockstep_1 (by decide) (fun q1 => ?_) (fun q1 => ?_)
  · skip
    exact k2 q1
  · skip
    refine J_iload_n h dX7_lockstep_4 rfl rfl ?_
    refine J_sipush h dX7_lockstep_5 cs_300 ?_
    refine J_icmp_le (tgt := 21) h dX7_lockstep_8 (by decide) (fun q3 => ?_) (fun q3 => ?_)
    · skip
      refine J_aload_n h dX7_lockstep_21 rfl rfl ?_
      exact k4 q1 q3
    · skip
      exact k5 q1 q3
theorem rX7_lockstep_22 {l : Launch} {G : jG} {X : jX} {n hg nc : Nat} {ret : Option FieldType} {mu : jM} {Qr : Array Value → State → Outcome → State → Prop} {Ex Ec : String → jM → Prop} {nc' : Nat} {x1 : Int32} {Qc : jM → Prop} {h' : Nat} (h : jOk l G X cX7_lockstep 4 ret RX7 hg nc) (ht : jNt X) (hM : jXv l G yX7_refuseWrongWord cX7_refuseWrongWord 1 h' nc' (.ref 0 :: []) mu Qc Ec) (hh : h' < hg ∧ 1 ≤ 21) (hn : n + nc' ≤ nc) (kx : ∀ E mu', Ec E mu' → Ex E mu')
    (kk : ∀ mu', Qc mu' → J l G X (jRx G X nc Qr Ex) 4 25 [.ref 0, .int x1, .float 0, .float 0] [] mu' (n + nc')) :
    J l G X (jRx G X nc Qr Ex) 4 22 [.ref 0, .int x1, .float 0, .float 0] [.ref 0] mu n :=
  J_callXv (As := []) (rest := []) h ht dX7_lockstep_22 hM (jgV w665 w667 w8 w76 w668) rfl (ci := 7) rfl rfl nmX7_refuseWrongWord rfl hh (Nat.le_of_ble_eq_true rfl) rfl hn kx kk
theorem rX7_lockstep_25 {l : Launch} {G : jG} {X : jX} {Q : State → Prop} {n hg nc : Nat} {ret : Option FieldType} {mu : jM} {x1 : Int32} (h : jOk l G X cX7_lockstep 4 ret RX7 hg nc)
    (k1 : J l G X Q 4 33 [.ref 0, .int x1, .float 0, .float 0] [.ref 13, .ref 14] mu n) :
    J l G X Q 4 25 [.ref 0, .int x1, .float 0, .float 0] [] mu n := by
  refine J_aload_n h dX7_lockstep_25 rfl rfl ?_
  refine J_getr (k := 3) h dX7_lockstep_26 jc7 rfl rfl (by decide) w363 ?_
  refine J_aload_n h dX7_lockstep_29 rfl rfl ?_
  refine J_getr (k := 2) h dX7_lockstep_30 jc7 rfl rfl (by decide) w362 ?_
  exact k1
theorem rX7_lockstep_33 {l : Launch} {G : jG} {X : jX} {Q : State → Prop} {n hg nc : Nat} {ret : Option FieldType} {mu : jM} {x1 : Int32} {Qc : jM → Prop} {h' : Nat} (h : jOk l G X cX7_lockstep 4 ret RX7 hg nc) (hM : jCv l G yX1_begin cX1_begin 2 h' (.ref 14 :: [.ref 13]) mu Qc) (hh : h' < hg ∧ 2 ≤ 21) (hn : n ≤ nc)
    (kk : ∀ mu', Qc mu' → J l G X Q 4 36 [.ref 0, .int x1, .float 0, .float 0] [] mu' n) :
    J l G X Q 4 33 [.ref 0, .int x1, .float 0, .float 0] [.ref 13, .ref 14] mu n :=
  J_callV (As := [.ref 13]) (rest := []) h dX7_lockstep_33 hM (jgV w517 w518 w519 w79 w520) rfl (ci := 1) rfl rfl nmX1_begin rfl hh (Nat.le_of_ble_eq_true rfl) rfl kk hn
theorem rX7_lockstep_36 {l : Launch} {G : jG} {X : jX} {Q : State → Prop} {n hg nc : Nat} {ret : Option FieldType} {mu : jM} {x1 : Int32} (h : jOk l G X cX7_lockstep 4 ret RX7 hg nc)
    (k1 : J l G X Q 4 38 [.ref 0, .int x1, .int 1, .float 0] [] mu n) :
    J l G X Q 4 36 [.ref 0, .int x1, .float 0, .float 0] [] mu n := by
  refine J_iconst h dX7_lockstep_36 ci_1 ?_
  refine J_istore_n h dX7_lockstep_37 rfl (by decide) rfl ?_
  show J l G X Q 4 38 [.ref 0, .int x1, .int 1, .float 0] [] mu n
  exact k1
theorem rX7_lockstep_38 {l : Launch} {G : jG} {X : jX} {Q : State → Prop} {n hg nc : Nat} {ret : Option FieldType} {mu : jM} {x1 : Int32} {x2 : Int32} (h : jOk l G X cX7_lockstep 4 ret RX7 hg nc)
    (k2 : x1 < x2 → J l G X Q 4 86 [.ref 0, .int x1, .int x2, .float 0] [] mu n)
    (k3 : ¬ x1 < x2 → J l G X Q 4 45 [.ref 0, .int x1, .int x2, .int 0] [] mu n) :
    J l G X Q 4 38 [.ref 0, .int x1, .int x2, .float 0] [] mu n := by
  refine J_iload_n h dX7_lockstep_38 rfl rfl ?_
  refine J_iload_n h dX7_lockstep_39 rfl rfl ?_
  refine J_icmp_gt (tgt := 86) h dX7_lockstep_40 (by decide) (fun q1 => ?_) (fun q1 => ?_)
  · skip
    exact k2 q1
  · skip
    refine J_iconst h dX7_lockstep_43 ci_0 ?_
    refine J_istore_n h dX7_lockstep_44 rfl (by decide) rfl ?_
    show J l G X Q 4 45 [.ref 0, .int x1, .int x2, .int 0] [] mu n
    exact k3 q1
theorem rX7_lockstep_45 {l : Launch} {G : jG} {X : jX} {Q : State → Prop} {n hg nc : Nat} {ret : Option FieldType} {mu : jM} {x1 : Int32} {x2 : Int32} {x3 : Int32} (h : jOk l G X cX7_lockstep 4 ret RX7 hg nc)
    (k2 : (mu 6 0) ≤ x3 → J l G X Q 4 38 [.ref 0, .int x1, .int (x2 + 1), .int x3] [] mu n)
    (k3 : ¬ (mu 6 0) ≤ x3 → J l G X Q 4 62 [.ref 0, .int x1, .int x2, .int x3] [.int x2, .int x3, .ref 14] mu n) :
    J l G X Q 4 45 [.ref 0, .int x1, .int x2, .int x3] [] mu n := by
  refine J_iload_n h dX7_lockstep_45 rfl rfl ?_
  refine J_aload_n h dX7_lockstep_46 rfl rfl ?_
  refine J_getr (k := 1) h dX7_lockstep_47 jc7 rfl rfl (by decide) w361 ?_
  refine J_getiN (k := 0) h dX7_lockstep_50 jc2 rfl rfl (by decide) w144 ?_
  refine J_icmp_ge (tgt := 80) h dX7_lockstep_53 (by decide) (fun q1 => ?_) (fun q1 => ?_)
  · skip
    refine J_iinc h dX7_lockstep_80 rfl (cc_1 _) (by decide) rfl ?_
    show J l G X Q 4 83 [.ref 0, .int x1, .int (x2 + 1), .int x3] [] mu n
    refine J_goto (tgt := 38) h dX7_lockstep_83 (by decide) ?_
    exact k2 q1
  · skip
    refine J_aload_n h dX7_lockstep_56 rfl rfl ?_
    refine J_getr (k := 3) h dX7_lockstep_57 jc7 rfl rfl (by decide) w363 ?_
    refine J_iload_n h dX7_lockstep_60 rfl rfl ?_
    refine J_iload_n h dX7_lockstep_61 rfl rfl ?_
    exact k3 q1
theorem rX7_lockstep_38b {l : Launch} {G : jG} {X : jX} {Q : State → Prop} {n hg nc : Nat} {ret : Option FieldType} {mu : jM} {x1 : Int32} {x2 : Int32} {x3 : Int32} (h : jOk l G X cX7_lockstep 4 ret RX7 hg nc)
    (k2 : x1 < x2 → J l G X Q 4 86 [.ref 0, .int x1, .int x2, .int x3] [] mu n)
    (k3 : ¬ x1 < x2 → J l G X Q 4 45 [.ref 0, .int x1, .int x2, .int 0] [] mu n) :
    J l G X Q 4 38 [.ref 0, .int x1, .int x2, .int x3] [] mu n := by
  refine J_iload_n h dX7_lockstep_38 rfl rfl ?_
  refine J_iload_n h dX7_lockstep_39 rfl rfl ?_
  refine J_icmp_gt (tgt := 86) h dX7_lockstep_40 (by decide) (fun q1 => ?_) (fun q1 => ?_)
  · skip
    exact k2 q1
  · skip
    refine J_iconst h dX7_lockstep_43 ci_0 ?_
    refine J_istore_n h dX7_lockstep_44 rfl (by decide) rfl ?_
    show J l G X Q 4 45 [.ref 0, .int x1, .int x2, .int 0] [] mu n
    exact k3 q1
theorem rX7_lockstep_62 {l : Launch} {G : jG} {X : jX} {Q : State → Prop} {n hg nc : Nat} {ret : Option FieldType} {mu : jM} {x1 : Int32} {x2 : Int32} {x3 : Int32} {y0 : Int32} {y1 : Int32} {Qc : jM → Prop} {h' : Nat} (h : jOk l G X cX7_lockstep 4 ret RX7 hg nc) (hM : jCv l G yX1_doRound cX1_doRound 7 h' (.ref 14 :: [.int y1, .int y0]) mu Qc) (hh : h' < hg ∧ 7 ≤ 21) (hn : n ≤ nc)
    (kk : ∀ mu', Qc mu' → J l G X Q 4 65 [.ref 0, .int x1, .int x2, .int x3] [] mu' n) :
    J l G X Q 4 62 [.ref 0, .int x1, .int x2, .int x3] [.int y0, .int y1, .ref 14] mu n :=
  J_callV (As := [.int y1, .int y0]) (rest := []) h dX7_lockstep_62 hM (jgV w670 w671 w672 w79 w673) rfl (ci := 1) rfl rfl nmX1_doRound rfl hh (Nat.le_of_ble_eq_true rfl) rfl kk hn
theorem rX7_lockstep_65 {l : Launch} {G : jG} {X : jX} {Q : State → Prop} {n hg nc : Nat} {ret : Option FieldType} {mu : jM} {x1 : Int32} {x2 : Int32} {x3 : Int32} (h : jOk l G X cX7_lockstep 4 ret RX7 hg nc)
    (k1 : J l G X Q 4 71 [.ref 0, .int x1, .int x2, .int x3] [.int x2, .int x3, .ref 14] mu n) :
    J l G X Q 4 65 [.ref 0, .int x1, .int x2, .int x3] [] mu n := by
  refine J_aload_n h dX7_lockstep_65 rfl rfl ?_
  refine J_getr (k := 3) h dX7_lockstep_66 jc7 rfl rfl (by decide) w363 ?_
  refine J_iload_n h dX7_lockstep_69 rfl rfl ?_
  refine J_iload_n h dX7_lockstep_70 rfl rfl ?_
  exact k1
theorem rX7_lockstep_71 {l : Launch} {G : jG} {X : jX} {Q : State → Prop} {n hg nc : Nat} {ret : Option FieldType} {mu : jM} {x1 : Int32} {x2 : Int32} {x3 : Int32} {y0 : Int32} {y1 : Int32} {Qc : jM → Prop} {h' : Nat} (h : jOk l G X cX7_lockstep 4 ret RX7 hg nc) (hM : jCv l G yX1_passOn cX1_passOn 4 h' (.ref 14 :: [.int y1, .int y0]) mu Qc) (hh : h' < hg ∧ 4 ≤ 21) (hn : n ≤ nc)
    (kk : ∀ mu', Qc mu' → J l G X Q 4 74 [.ref 0, .int x1, .int x2, .int x3] [] mu' n) :
    J l G X Q 4 71 [.ref 0, .int x1, .int x2, .int x3] [.int y0, .int y1, .ref 14] mu n :=
  J_callV (As := [.int y1, .int y0]) (rest := []) h dX7_lockstep_71 hM (jgV w698 w699 w700 w79 w701) rfl (ci := 1) rfl rfl nmX1_passOn rfl hh (Nat.le_of_ble_eq_true rfl) rfl kk hn
theorem rX7_lockstep_74 {l : Launch} {G : jG} {X : jX} {Q : State → Prop} {n hg nc : Nat} {ret : Option FieldType} {mu : jM} {x1 : Int32} {x2 : Int32} {x3 : Int32} (h : jOk l G X cX7_lockstep 4 ret RX7 hg nc)
    (k1 : J l G X Q 4 45 [.ref 0, .int x1, .int x2, .int (x3 + 1)] [] mu n) :
    J l G X Q 4 74 [.ref 0, .int x1, .int x2, .int x3] [] mu n := by
  refine J_iinc h dX7_lockstep_74 rfl (cc_1 _) (by decide) rfl ?_
  show J l G X Q 4 77 [.ref 0, .int x1, .int x2, .int (x3 + 1)] [] mu n
  refine J_goto (tgt := 45) h dX7_lockstep_77 (by decide) ?_
  exact k1
/-! LockstepNet.plain(II)I -/
theorem rX7_plain_0 {l : Launch} {G : jG} {X : jX} {Q : State → Prop} {n hg nc : Nat} {ret : Option FieldType} {mu : jM} {x1 : Int32} {x2 : Int32} (h : jOk l G X cX7_plain 3 ret RX7 hg nc)
    (k1 : J l G X Q 3 2 [.ref 0, .int x1, .int x2] [.int x1, .ref 0] mu n) :
    J l G X Q 3 0 [.ref 0, .int x1, .int x2] [] mu n := by
  refine J_aload_n h dX7_plain_0 rfl rfl ?_
  refine J_iload_n h dX7_plain_1 rfl rfl ?_
  exact k1
theorem rX7_plain_2 {l : Launch} {G : jG} {X : jX} {n hg nc : Nat} {ret : Option FieldType} {mu : jM} {Qr : Array Value → State → Outcome → State → Prop} {Ex Ec : String → jM → Prop} {nc' : Nat} {x1 : Int32} {x2 : Int32} {y0 : Int32} {Qc : jM → Prop} {h' : Nat} (h : jOk l G X cX7_plain 3 ret RX7 hg nc) (ht : jNt X) (hM : jXv l G yX7_needNode cX7_needNode 2 h' nc' (.ref 0 :: [.int y0]) mu Qc Ec) (hh : h' < hg ∧ 2 ≤ 21) (hn : n + nc' ≤ nc) (kx : ∀ E mu', Ec E mu' → Ex E mu')
    (kk : ∀ mu', Qc mu' → J l G X (jRx G X nc Qr Ex) 3 5 [.ref 0, .int x1, .int x2] [] mu' (n + nc')) :
    J l G X (jRx G X nc Qr Ex) 3 2 [.ref 0, .int x1, .int x2] [.int y0, .ref 0] mu n :=
  J_callXv (As := [.int y0]) (rest := []) h ht dX7_plain_2 hM (jgV w534 w536 w6 w76 w537) rfl (ci := 7) rfl rfl nmX7_needNode rfl hh (Nat.le_of_ble_eq_true rfl) rfl hn kx kk
theorem rX7_plain_5 {l : Launch} {G : jG} {X : jX} {Q : State → Prop} {n hg nc : Nat} {ret : Option FieldType} {mu : jM} {x1 : Int32} {x2 : Int32} (h : jOk l G X cX7_plain 3 ret RX7 hg nc)
    (k1 : J l G X Q 3 6 [.ref 0, .int x1, .int x2] [.int x2] mu n) :
    J l G X Q 3 5 [.ref 0, .int x1, .int x2] [] mu n := by
  refine J_iload_n h dX7_plain_5 rfl rfl ?_
  exact k1
theorem rX7_plain_6 {l : Launch} {G : jG} {X : jX} {n hg nc : Nat} {ret : Option FieldType} {mu : jM} {Qr : Array Value → State → Outcome → State → Prop} {Ex Ec : String → jM → Prop} {nc' : Nat} {x1 : Int32} {x2 : Int32} {y0 : Int32} {Qc : jM → Prop} {h' : Nat} (h : jOk l G X cX7_plain 3 ret RX7 hg nc) (ht : jNt X) (hM : jXv l G yX7_needRegister cX7_needRegister 1 h' nc' [.int y0] mu Qc Ec) (hh : h' < hg ∧ 1 ≤ 21) (hn : n + nc' ≤ nc) (kx : ∀ E mu', Ec E mu' → Ex E mu')
    (kk : ∀ mu', Qc mu' → J l G X (jRx G X nc Qr Ex) 3 9 [.ref 0, .int x1, .int x2] [] mu' (n + nc')) :
    J l G X (jRx G X nc Qr Ex) 3 6 [.ref 0, .int x1, .int x2] [.int y0] mu n :=
  J_callXS (As := [.int y0]) (rest := []) h ht dX7_plain_6 hM (jgS w638 w639 w76 w640) nmX7_needRegister rfl hh (Nat.le_of_ble_eq_true rfl) rfl hn kx kk
theorem rX7_plain_9 {l : Launch} {G : jG} {X : jX} {Q : State → Prop} {n hg nc : Nat} {ret : Option FieldType} {mu : jM} {x1 : Int32} {x2 : Int32} (h : jOk l G X cX7_plain 3 ret RX7 hg nc) (s1 : vp_in ((x1 * 8) + x2) 192)
    (k2 : J l G X Q 3 23 [.ref 0, .int x1, .int x2] [.int (mu 15 (((x1 * 8) + x2)).toNatClampNeg)] mu n) :
    J l G X Q 3 9 [.ref 0, .int x1, .int x2] [] mu n := by
  refine J_aload_n h dX7_plain_9 rfl rfl ?_
  refine J_getr (k := 3) h dX7_plain_10 jc7 rfl rfl (by decide) w363 ?_
  refine J_getrN (k := 2) h dX7_plain_13 jc1 rfl rfl (by decide) w189 ?_
  refine J_iload_n h dX7_plain_16 rfl rfl ?_
  refine J_bipush h dX7_plain_17 cb_8 ?_
  refine J_imul h dX7_plain_19 ?_
  refine J_iload_n h dX7_plain_20 rfl rfl ?_
  refine J_iadd h dX7_plain_21 ?_
  refine J_iald h dX7_plain_22 rfl (s1) ?_
  exact k2
/-! LockstepNet.prepare(II)I -/
theorem rX7_prepare_0 {l : Launch} {G : jG} {X : jX} {Q : State → Prop} {n hg nc : Nat} {ret : Option FieldType} {mu : jM} {x1 : Int32} {x2 : Int32} (h : jOk l G X cX7_prepare 3 ret RX7 hg nc)
    (k1 : J l G X Q 3 1 [.ref 0, .int x1, .int x2] [.int x1] mu n) :
    J l G X Q 3 0 [.ref 0, .int x1, .int x2] [] mu n := by
  refine J_iload_n h dX7_prepare_0 rfl rfl ?_
  exact k1
theorem rX7_prepare_1 {l : Launch} {G : jG} {X : jX} {Q : State → Prop} {n hg nc : Nat} {ret : Option FieldType} {mu : jM} {x1 : Int32} {x2 : Int32} {y0 : Int32} {Qc : Int32 → jM → Prop} {h' : Nat} (h : jOk l G X cX7_prepare 3 ret RX7 hg nc) (hM : jCi l G yX7_isWay cX7_isWay 1 h' (some .boolean) [.int y0] mu Qc) (hh : h' < hg ∧ 1 ≤ 21) (hn : n ≤ nc)
    (kk : ∀ v mu', Qc v mu' → J l G X Q 3 4 [.ref 0, .int x1, .int x2] (.int v :: []) mu' n) :
    J l G X Q 3 1 [.ref 0, .int x1, .int x2] [.int y0] mu n :=
  J_callSi (As := [.int y0]) (rest := []) h dX7_prepare_1 hM (jgS w724 w725 w76 w726) nmX7_isWay rfl hh (Nat.le_of_ble_eq_true rfl) rfl kk hn
theorem rX7_prepare_4 {l : Launch} {G : jG} {X : jX} {Q : State → Prop} {n hg nc : Nat} {ret : Option FieldType} {mu : jM} {x1 : Int32} {x2 : Int32} {y0 : Int32} (h : jOk l G X cX7_prepare 3 ret RX7 hg nc)
    (k2 : y0 = 0 → J l G X Q 3 18 [.ref 0, .int x1, .int x2] [] mu n)
    (k4 : ¬ y0 = 0 → x2 < 2 → J l G X Q 3 18 [.ref 0, .int x1, .int x2] [] mu n)
    (k6 : ¬ y0 = 0 → ¬ x2 < 2 → x2 ≤ 8 → J l G X Q 3 29 [.ref 0, .int x1, .int x2] [.ref 0] mu n)
    (k7 : ¬ y0 = 0 → ¬ x2 < 2 → ¬ x2 ≤ 8 → J l G X Q 3 18 [.ref 0, .int x1, .int x2] [] mu n) :
    J l G X Q 3 4 [.ref 0, .int x1, .int x2] [.int y0] mu n := by
  refine J_if_eq (tgt := 18) h dX7_prepare_4 (by decide) (fun q1 => ?_) (fun q1 => ?_)
  · skip
    exact k2 q1
  · skip
    refine J_iload_n h dX7_prepare_7 rfl rfl ?_
    refine J_iconst h dX7_prepare_8 ci_2 ?_
    refine J_icmp_lt (tgt := 18) h dX7_prepare_9 (by decide) (fun q3 => ?_) (fun q3 => ?_)
    · skip
      exact k4 q1 q3
    · skip
      refine J_iload_n h dX7_prepare_12 rfl rfl ?_
      refine J_bipush h dX7_prepare_13 cb_8 ?_
      refine J_icmp_le (tgt := 28) h dX7_prepare_15 (by decide) (fun q5 => ?_) (fun q5 => ?_)
      · skip
        refine J_aload_n h dX7_prepare_28 rfl rfl ?_
        exact k6 q1 q3 q5
      · skip
        exact k7 q1 q3 q5
theorem rX7_prepare_29 {l : Launch} {G : jG} {X : jX} {n hg nc : Nat} {ret : Option FieldType} {mu : jM} {Qr : Array Value → State → Outcome → State → Prop} {Ex Ec : String → jM → Prop} {nc' : Nat} {x1 : Int32} {x2 : Int32} {Qc : jM → Prop} {h' : Nat} (h : jOk l G X cX7_prepare 3 ret RX7 hg nc) (ht : jNt X) (hM : jXv l G yX7_refuseWithRun cX7_refuseWithRun 1 h' nc' (.ref 0 :: []) mu Qc Ec) (hh : h' < hg ∧ 1 ≤ 21) (hn : n + nc' ≤ nc) (kx : ∀ E mu', Ec E mu' → Ex E mu')
    (kk : ∀ mu', Qc mu' → J l G X (jRx G X nc Qr Ex) 3 32 [.ref 0, .int x1, .int x2] [] mu' (n + nc')) :
    J l G X (jRx G X nc Qr Ex) 3 29 [.ref 0, .int x1, .int x2] [.ref 0] mu n :=
  J_callXv (As := []) (rest := []) h ht dX7_prepare_29 hM (jgV w489 w491 w5 w76 w492) rfl (ci := 7) rfl rfl nmX7_refuseWithRun rfl hh (Nat.le_of_ble_eq_true rfl) rfl hn kx kk
theorem rX7_prepare_32 {l : Launch} {G : jG} {X : jX} {Q : State → Prop} {n hg nc : Nat} {ret : Option FieldType} {mu : jM} {x1 : Int32} {x2 : Int32} (h : jOk l G X cX7_prepare 3 ret RX7 hg nc)
    (k1 : J l G X Q 3 33 [.ref 0, .int x1, .int x2] [.ref 0] mu n) :
    J l G X Q 3 32 [.ref 0, .int x1, .int x2] [] mu n := by
  refine J_aload_n h dX7_prepare_32 rfl rfl ?_
  exact k1
theorem rX7_prepare_33 {l : Launch} {G : jG} {X : jX} {n hg nc : Nat} {ret : Option FieldType} {mu : jM} {Qr : Array Value → State → Outcome → State → Prop} {Ex Ec : String → jM → Prop} {nc' : Nat} {x1 : Int32} {x2 : Int32} {Qc : jM → Prop} {h' : Nat} (h : jOk l G X cX7_prepare 3 ret RX7 hg nc) (ht : jNt X) (hM : jXv l G yX7_refuseWrongWord cX7_refuseWrongWord 1 h' nc' (.ref 0 :: []) mu Qc Ec) (hh : h' < hg ∧ 1 ≤ 21) (hn : n + nc' ≤ nc) (kx : ∀ E mu', Ec E mu' → Ex E mu')
    (kk : ∀ mu', Qc mu' → J l G X (jRx G X nc Qr Ex) 3 36 [.ref 0, .int x1, .int x2] [] mu' (n + nc')) :
    J l G X (jRx G X nc Qr Ex) 3 33 [.ref 0, .int x1, .int x2] [.ref 0] mu n :=
  J_callXv (As := []) (rest := []) h ht dX7_prepare_33 hM (jgV w665 w667 w8 w76 w668) rfl (ci := 7) rfl rfl nmX7_refuseWrongWord rfl hh (Nat.le_of_ble_eq_true rfl) rfl hn kx kk
theorem rX7_prepare_36 {l : Launch} {G : jG} {X : jX} {Q : State → Prop} {n hg nc : Nat} {ret : Option FieldType} {mu : jM} {x1 : Int32} {x2 : Int32} (h : jOk l G X cX7_prepare 3 ret RX7 hg nc)
    (k1 : J l G X Q 3 40 [.ref 0, .int x1, .int x2] [.ref 6] mu n) :
    J l G X Q 3 36 [.ref 0, .int x1, .int x2] [] mu n := by
  refine J_aload_n h dX7_prepare_36 rfl rfl ?_
  refine J_getr (k := 1) h dX7_prepare_37 jc7 rfl rfl (by decide) w361 ?_
  exact k1
theorem rX7_prepare_40 {l : Launch} {G : jG} {X : jX} {Q : State → Prop} {n hg nc : Nat} {ret : Option FieldType} {mu : jM} {x1 : Int32} {x2 : Int32} {Qc : Int32 → jM → Prop} {h' : Nat} (h : jOk l G X cX7_prepare 3 ret RX7 hg nc) (hM : jCi l G yX2_isConnected cX2_isConnected 3 h' (some .boolean) (.ref 6 :: []) mu Qc) (hh : h' < hg ∧ 3 ≤ 21) (hn : n ≤ nc)
    (kk : ∀ v mu', Qc v mu' → J l G X Q 3 43 [.ref 0, .int x1, .int x2] (.int v :: []) mu' n) :
    J l G X Q 3 40 [.ref 0, .int x1, .int x2] [.ref 6] mu n :=
  J_callVi (As := []) (rest := []) h dX7_prepare_40 hM (jgV w728 w729 w730 w78 w731) rfl (ci := 2) rfl rfl nmX2_isConnected rfl hh (Nat.le_of_ble_eq_true rfl) rfl kk hn
theorem rX7_prepare_43 {l : Launch} {G : jG} {X : jX} {Q : State → Prop} {n hg nc : Nat} {ret : Option FieldType} {mu : jM} {x1 : Int32} {x2 : Int32} {y0 : Int32} (h : jOk l G X cX7_prepare 3 ret RX7 hg nc)
    (k2 : ¬ y0 = 0 → J l G X Q 3 66 [.ref 0, .int x1, .int x2] [.int x2, .int x1, .ref 13, .ref 19] mu n)
    (k3 : y0 = 0 → J l G X Q 3 46 [.ref 0, .int x1, .int x2] [] mu n) :
    J l G X Q 3 43 [.ref 0, .int x1, .int x2] [.int y0] mu n := by
  refine J_if_ne (tgt := 56) h dX7_prepare_43 (by decide) (fun q1 => ?_) (fun q1 => ?_)
  · skip
    refine J_aload_n h dX7_prepare_56 rfl rfl ?_
    refine J_getr (k := 4) h dX7_prepare_57 jc7 rfl rfl (by decide) w364 ?_
    refine J_aload_n h dX7_prepare_60 rfl rfl ?_
    refine J_getr (k := 2) h dX7_prepare_61 jc7 rfl rfl (by decide) w362 ?_
    refine J_iload_n h dX7_prepare_64 rfl rfl ?_
    refine J_iload_n h dX7_prepare_65 rfl rfl ?_
    exact k2 q1
  · skip
    exact k3 q1
theorem rX7_prepare_66 {l : Launch} {G : jG} {X : jX} {Q : State → Prop} {n hg nc : Nat} {ret : Option FieldType} {mu : jM} {x1 : Int32} {x2 : Int32} {y0 : Int32} {y1 : Int32} {Qc : jM → Prop} {h' : Nat} (h : jOk l G X cX7_prepare 3 ret RX7 hg nc) (hM : jCv l G yX5_begin cX5_begin 5 h' (.ref 19 :: [.ref 13, .int y1, .int y0]) mu Qc) (hh : h' < hg ∧ 5 ≤ 21) (hn : n ≤ nc)
    (kk : ∀ mu', Qc mu' → J l G X Q 3 69 [.ref 0, .int x1, .int x2] [] mu' n) :
    J l G X Q 3 66 [.ref 0, .int x1, .int x2] [.int y0, .int y1, .ref 13, .ref 19] mu n :=
  J_callV (As := [.ref 13, .int y1, .int y0]) (rest := []) h dX7_prepare_66 hM (jgV w741 w742 w743 w80 w744) rfl (ci := 5) rfl rfl nmX5_begin rfl hh (Nat.le_of_ble_eq_true rfl) rfl kk hn
theorem rX7_prepare_69 {l : Launch} {G : jG} {X : jX} {Q : State → Prop} {n hg nc : Nat} {ret : Option FieldType} {mu : jM} {x1 : Int32} {x2 : Int32} (h : jOk l G X cX7_prepare 3 ret RX7 hg nc)
    (k1 : J l G X Q 3 84 [.ref 0, .int x1, .int x2] [.int (mu 37 0)] (wr mu 0 5 1) n) :
    J l G X Q 3 69 [.ref 0, .int x1, .int x2] [] mu n := by
  refine J_aload_n h dX7_prepare_69 rfl rfl ?_
  refine J_iconst h dX7_prepare_70 ci_1 ?_
  refine J_puti (k := 5) (ty0 := tyX7) h dX7_prepare_71 jc7 tyX7_ok nmX7 rfl rfl (by decide) rfl (by decide) (jfitZ _ (by decide)) w365 ?_
  refine J_aload_n h dX7_prepare_74 rfl rfl ?_
  refine J_getr (k := 4) h dX7_prepare_75 jc7 rfl rfl (by decide) w364 ?_
  refine J_getrN (k := 4) h dX7_prepare_78 jc5 rfl rfl (by decide) w311 ?_
  refine J_getiN (k := 0) h dX7_prepare_81 jc0 rfl rfl (by decide) w274 ?_
  exact k1
/-! LockstepNet.release()V -/
theorem rX7_release_0 {l : Launch} {G : jG} {X : jX} {Q : State → Prop} {n hg nc : Nat} {ret : Option FieldType} {mu : jM} (h : jOk l G X cX7_release 1 ret RX7 hg nc)
    (k1 : J l G X Q 1 1 [.ref 0] [.ref 0] mu n) :
    J l G X Q 1 0 [.ref 0] [] mu n := by
  refine J_aload_n h dX7_release_0 rfl rfl ?_
  exact k1
theorem rX7_release_1 {l : Launch} {G : jG} {X : jX} {n hg nc : Nat} {ret : Option FieldType} {mu : jM} {Qr : Array Value → State → Outcome → State → Prop} {Ex Ec : String → jM → Prop} {nc' : Nat} {Qc : jM → Prop} {h' : Nat} (h : jOk l G X cX7_release 1 ret RX7 hg nc) (ht : jNt X) (hM : jXv l G yX7_needRun cX7_needRun 1 h' nc' (.ref 0 :: []) mu Qc Ec) (hh : h' < hg ∧ 1 ≤ 21) (hn : n + nc' ≤ nc) (kx : ∀ E mu', Ec E mu' → Ex E mu')
    (kk : ∀ mu', Qc mu' → J l G X (jRx G X nc Qr Ex) 1 4 [.ref 0] [] mu' (n + nc')) :
    J l G X (jRx G X nc Qr Ex) 1 1 [.ref 0] [.ref 0] mu n :=
  J_callXv (As := []) (rest := []) h ht dX7_release_1 hM (jgV w793 w795 w14 w76 w796) rfl (ci := 7) rfl rfl nmX7_needRun rfl hh (Nat.le_of_ble_eq_true rfl) rfl hn kx kk
theorem rX7_release_4 {l : Launch} {G : jG} {X : jX} {Q : State → Prop} {n hg nc : Nat} {ret : Option FieldType} {mu : jM} (h : jOk l G X cX7_release 1 ret RX7 hg nc)
    (k1 : J l G X Q 1 9 [.ref 0] [] (wr mu 0 5 0) n) :
    J l G X Q 1 4 [.ref 0] [] mu n := by
  refine J_aload_n h dX7_release_4 rfl rfl ?_
  refine J_iconst h dX7_release_5 ci_0 ?_
  refine J_puti (k := 5) (ty0 := tyX7) h dX7_release_6 jc7 tyX7_ok nmX7 rfl rfl (by decide) rfl (by decide) (jfitZ _ (by decide)) w365 ?_
  exact k1
/-! LockstepNet.stopAt(I)V -/
theorem rX7_stopAt_0 {l : Launch} {G : jG} {X : jX} {Q : State → Prop} {n hg nc : Nat} {ret : Option FieldType} {mu : jM} {x1 : Int32} (h : jOk l G X cX7_stopAt 3 ret RX7 hg nc)
    (k1 : J l G X Q 3 1 [.ref 0, .int x1, .float 0] [.ref 0] mu n) :
    J l G X Q 3 0 [.ref 0, .int x1, .float 0] [] mu n := by
  refine J_aload_n h dX7_stopAt_0 rfl rfl ?_
  exact k1
theorem rX7_stopAt_1 {l : Launch} {G : jG} {X : jX} {n hg nc : Nat} {ret : Option FieldType} {mu : jM} {Qr : Array Value → State → Outcome → State → Prop} {Ex Ec : String → jM → Prop} {nc' : Nat} {x1 : Int32} {Qc : jM → Prop} {h' : Nat} (h : jOk l G X cX7_stopAt 3 ret RX7 hg nc) (ht : jNt X) (hM : jXv l G yX7_needRun cX7_needRun 1 h' nc' (.ref 0 :: []) mu Qc Ec) (hh : h' < hg ∧ 1 ≤ 21) (hn : n + nc' ≤ nc) (kx : ∀ E mu', Ec E mu' → Ex E mu')
    (kk : ∀ mu', Qc mu' → J l G X (jRx G X nc Qr Ex) 3 4 [.ref 0, .int x1, .float 0] [] mu' (n + nc')) :
    J l G X (jRx G X nc Qr Ex) 3 1 [.ref 0, .int x1, .float 0] [.ref 0] mu n :=
  J_callXv (As := []) (rest := []) h ht dX7_stopAt_1 hM (jgV w793 w795 w14 w76 w796) rfl (ci := 7) rfl rfl nmX7_needRun rfl hh (Nat.le_of_ble_eq_true rfl) rfl hn kx kk
theorem rX7_stopAt_4 {l : Launch} {G : jG} {X : jX} {Q : State → Prop} {n hg nc : Nat} {ret : Option FieldType} {mu : jM} {x1 : Int32} (h : jOk l G X cX7_stopAt 3 ret RX7 hg nc)
    (k2 : 500 < x1 → J l G X Q 3 22 [.ref 0, .int x1, .float 0] [] mu n)
    (k4 : ¬ 500 < x1 → (mu 19 11) ≤ x1 → J l G X Q 3 42 [.ref 0, .int x1, .int 0] [] (wr mu 19 11 x1) n)
    (k5 : ¬ 500 < x1 → ¬ (mu 19 11) ≤ x1 → J l G X Q 3 22 [.ref 0, .int x1, .float 0] [] mu n) :
    J l G X Q 3 4 [.ref 0, .int x1, .float 0] [] mu n := by
  refine J_iload_n h dX7_stopAt_4 rfl rfl ?_
  refine J_sipush h dX7_stopAt_5 cs_500 ?_
  refine J_icmp_gt (tgt := 22) h dX7_stopAt_8 (by decide) (fun q1 => ?_) (fun q1 => ?_)
  · skip
    exact k2 q1
  · skip
    refine J_iload_n h dX7_stopAt_11 rfl rfl ?_
    refine J_aload_n h dX7_stopAt_12 rfl rfl ?_
    refine J_getr (k := 4) h dX7_stopAt_13 jc7 rfl rfl (by decide) w364 ?_
    refine J_getiN (k := 11) h dX7_stopAt_16 jc5 rfl rfl (by decide) w320 ?_
    refine J_icmp_ge (tgt := 32) h dX7_stopAt_19 (by decide) (fun q3 => ?_) (fun q3 => ?_)
    · skip
      refine J_aload_n h dX7_stopAt_32 rfl rfl ?_
      refine J_getr (k := 4) h dX7_stopAt_33 jc7 rfl rfl (by decide) w364 ?_
      refine J_iload_n h dX7_stopAt_36 rfl rfl ?_
      refine J_putiN (k := 11) (ty0 := tyX5) h dX7_stopAt_37 jc5 tyX5_ok nmX5 rfl rfl (by decide) rfl rfl rfl w320 ?_
      refine J_iconst h dX7_stopAt_40 ci_0 ?_
      refine J_istore_n h dX7_stopAt_41 rfl (by decide) rfl ?_
      show J l G X Q 3 42 [.ref 0, .int x1, .int 0] [] (wr mu 19 11 x1) n
      exact k4 q1 q3
    · skip
      exact k5 q1 q3
theorem rX7_stopAt_42 {l : Launch} {G : jG} {X : jX} {Q : State → Prop} {n hg nc : Nat} {ret : Option FieldType} {mu : jM} {x1 : Int32} {x2 : Int32} (h : jOk l G X cX7_stopAt 3 ret RX7 hg nc)
    (k2 : (mu 6 0) ≤ x2 → J l G X Q 3 67 [.ref 0, .int x1, .int x2] [] mu n)
    (k3 : ¬ (mu 6 0) ≤ x2 → J l G X Q 3 58 [.ref 0, .int x1, .int x2] [.int x2, .ref 19] mu n) :
    J l G X Q 3 42 [.ref 0, .int x1, .int x2] [] mu n := by
  refine J_iload_n h dX7_stopAt_42 rfl rfl ?_
  refine J_aload_n h dX7_stopAt_43 rfl rfl ?_
  refine J_getr (k := 1) h dX7_stopAt_44 jc7 rfl rfl (by decide) w361 ?_
  refine J_getiN (k := 0) h dX7_stopAt_47 jc2 rfl rfl (by decide) w144 ?_
  refine J_icmp_ge (tgt := 67) h dX7_stopAt_50 (by decide) (fun q1 => ?_) (fun q1 => ?_)
  · skip
    exact k2 q1
  · skip
    refine J_aload_n h dX7_stopAt_53 rfl rfl ?_
    refine J_getr (k := 4) h dX7_stopAt_54 jc7 rfl rfl (by decide) w364 ?_
    refine J_iload_n h dX7_stopAt_57 rfl rfl ?_
    exact k3 q1
theorem rX7_stopAt_58 {l : Launch} {G : jG} {X : jX} {Q : State → Prop} {n hg nc : Nat} {ret : Option FieldType} {mu : jM} {x1 : Int32} {x2 : Int32} {y0 : Int32} {Qc : jM → Prop} {h' : Nat} (h : jOk l G X cX7_stopAt 3 ret RX7 hg nc) (hM : jCv l G yX5_carryOn cX5_carryOn 5 h' (.ref 19 :: [.int y0]) mu Qc) (hh : h' < hg ∧ 5 ≤ 21) (hn : n ≤ nc)
    (kk : ∀ mu', Qc mu' → J l G X Q 3 61 [.ref 0, .int x1, .int x2] [] mu' n) :
    J l G X Q 3 58 [.ref 0, .int x1, .int x2] [.int y0, .ref 19] mu n :=
  J_callV (As := [.int y0]) (rest := []) h dX7_stopAt_58 hM (jgV w806 w807 w808 w80 w809) rfl (ci := 5) rfl rfl nmX5_carryOn rfl hh (Nat.le_of_ble_eq_true rfl) rfl kk hn
theorem rX7_stopAt_61 {l : Launch} {G : jG} {X : jX} {Q : State → Prop} {n hg nc : Nat} {ret : Option FieldType} {mu : jM} {x1 : Int32} {x2 : Int32} (h : jOk l G X cX7_stopAt 3 ret RX7 hg nc)
    (k1 : J l G X Q 3 42 [.ref 0, .int x1, .int (x2 + 1)] [] mu n) :
    J l G X Q 3 61 [.ref 0, .int x1, .int x2] [] mu n := by
  refine J_iinc h dX7_stopAt_61 rfl (cc_1 _) (by decide) rfl ?_
  show J l G X Q 3 64 [.ref 0, .int x1, .int (x2 + 1)] [] mu n
  refine J_goto (tgt := 42) h dX7_stopAt_64 (by decide) ?_
  exact k1
/-! LockstepNet.letters()I -/
theorem rX7_letters_0 {l : Launch} {G : jG} {X : jX} {Q : State → Prop} {n hg nc : Nat} {ret : Option FieldType} {mu : jM} (h : jOk l G X cX7_letters 1 ret RX7 hg nc)
    (k2 : (mu 0 5) = 0 → J l G X Q 1 21 [.ref 0] [.int 0] mu n)
    (k3 : ¬ (mu 0 5) = 0 → J l G X Q 1 21 [.ref 0] [.int (mu 25 2)] mu n) :
    J l G X Q 1 0 [.ref 0] [] mu n := by
  refine J_aload_n h dX7_letters_0 rfl rfl ?_
  refine J_geti (k := 5) h dX7_letters_1 jc7 rfl rfl (by decide) w365 ?_
  refine J_if_eq (tgt := 20) h dX7_letters_4 (by decide) (fun q1 => ?_) (fun q1 => ?_)
  · skip
    refine J_iconst h dX7_letters_20 ci_0 ?_
    exact k2 q1
  · skip
    refine J_aload_n h dX7_letters_7 rfl rfl ?_
    refine J_getr (k := 4) h dX7_letters_8 jc7 rfl rfl (by decide) w364 ?_
    refine J_getrN (k := 2) h dX7_letters_11 jc5 rfl rfl (by decide) w307 ?_
    refine J_getiN (k := 2) h dX7_letters_14 jc3 rfl rfl (by decide) w237 ?_
    refine J_goto (tgt := 21) h dX7_letters_17 (by decide) ?_
    exact k3 q1
/-! LockstepNet.letter(II)I -/
theorem rX7_letter_0 {l : Launch} {G : jG} {X : jX} {Q : State → Prop} {n hg nc : Nat} {ret : Option FieldType} {mu : jM} {x1 : Int32} {x2 : Int32} (h : jOk l G X cX7_letter 3 ret RX7 hg nc)
    (k1 : J l G X Q 3 2 [.ref 0, .int x1, .int x2] [.int x1, .ref 0] mu n) :
    J l G X Q 3 0 [.ref 0, .int x1, .int x2] [] mu n := by
  refine J_aload_n h dX7_letter_0 rfl rfl ?_
  refine J_iload_n h dX7_letter_1 rfl rfl ?_
  exact k1
theorem rX7_letter_2 {l : Launch} {G : jG} {X : jX} {n hg nc : Nat} {ret : Option FieldType} {mu : jM} {Qr : Array Value → State → Outcome → State → Prop} {Ex Ec : String → jM → Prop} {nc' : Nat} {x1 : Int32} {x2 : Int32} {y0 : Int32} {Qc : jM → Prop} {h' : Nat} (h : jOk l G X cX7_letter 3 ret RX7 hg nc) (ht : jNt X) (hM : jXv l G yX7_needLetter cX7_needLetter 2 h' nc' (.ref 0 :: [.int y0]) mu Qc Ec) (hh : h' < hg ∧ 2 ≤ 21) (hn : n + nc' ≤ nc) (kx : ∀ E mu', Ec E mu' → Ex E mu')
    (kk : ∀ mu', Qc mu' → J l G X (jRx G X nc Qr Ex) 3 5 [.ref 0, .int x1, .int x2] [] mu' (n + nc')) :
    J l G X (jRx G X nc Qr Ex) 3 2 [.ref 0, .int x1, .int x2] [.int y0, .ref 0] mu n :=
  J_callXv (As := [.int y0]) (rest := []) h ht dX7_letter_2 hM (jgV w886 w888 w28 w76 w889) rfl (ci := 7) rfl rfl nmX7_needLetter rfl hh (Nat.le_of_ble_eq_true rfl) rfl hn kx kk
theorem rX7_letter_5 {l : Launch} {G : jG} {X : jX} {Q : State → Prop} {n hg nc : Nat} {ret : Option FieldType} {mu : jM} {x1 : Int32} {x2 : Int32} {r4 : Nat} (h : jOk l G X cX7_letter 3 ret RX7 hg nc) (s5 : ¬ x2 < 0 → x2 < 5 → vp_in x2 5) (s6 : ¬ x2 < 0 → x2 < 5 → [27, 28, 29, 30, 31][(x2).toNatClampNeg]? = some r4) (h_r4 : jShp[r4]? = some (.inr (0, 512, fun _ => none))) (s7 : ¬ x2 < 0 → x2 < 5 → vp_in x1 512)
    (k2 : x2 < 0 → J l G X Q 3 14 [.ref 0, .int x1, .int x2] [] mu n)
    (k8 : ¬ x2 < 0 → x2 < 5 → J l G X Q 3 38 [.ref 0, .int x1, .int x2] [.int (mu r4 (x1).toNatClampNeg)] mu n)
    (k9 : ¬ x2 < 0 → ¬ x2 < 5 → J l G X Q 3 14 [.ref 0, .int x1, .int x2] [] mu n) :
    J l G X Q 3 5 [.ref 0, .int x1, .int x2] [] mu n := by
  refine J_iload_n h dX7_letter_5 rfl rfl ?_
  refine J_if_lt (tgt := 14) h dX7_letter_6 (by decide) (fun q1 => ?_) (fun q1 => ?_)
  · skip
    exact k2 q1
  · skip
    refine J_iload_n h dX7_letter_9 rfl rfl ?_
    refine J_iconst h dX7_letter_10 ci_5 ?_
    refine J_icmp_lt (tgt := 24) h dX7_letter_11 (by decide) (fun q3 => ?_) (fun q3 => ?_)
    · skip
      refine J_aload_n h dX7_letter_24 rfl rfl ?_
      refine J_getr (k := 4) h dX7_letter_25 jc7 rfl rfl (by decide) w364 ?_
      refine J_getrN (k := 2) h dX7_letter_28 jc5 rfl rfl (by decide) w307 ?_
      refine J_getrN (k := 0) h dX7_letter_31 jc3 rfl rfl (by decide) w233 ?_
      refine J_iload_n h dX7_letter_34 rfl rfl ?_
      refine J_aald h dX7_letter_35 rfl (s5 q1 q3) (s6 q1 q3) ?_
      refine J_iload_n h dX7_letter_36 rfl rfl ?_
      refine J_iald h dX7_letter_37 h_r4 (s7 q1 q3) ?_
      exact k8 q1 q3
    · skip
      exact k9 q1 q3
/-! LockstepNet.deliver(I)I -/
theorem rX7_deliver_0 {l : Launch} {G : jG} {X : jX} {Q : State → Prop} {n hg nc : Nat} {ret : Option FieldType} {mu : jM} {x1 : Int32} (h : jOk l G X cX7_deliver 2 ret RX7 hg nc)
    (k1 : J l G X Q 2 2 [.ref 0, .int x1] [.int x1, .ref 0] mu n) :
    J l G X Q 2 0 [.ref 0, .int x1] [] mu n := by
  refine J_aload_n h dX7_deliver_0 rfl rfl ?_
  refine J_iload_n h dX7_deliver_1 rfl rfl ?_
  exact k1
theorem rX7_deliver_2 {l : Launch} {G : jG} {X : jX} {n hg nc : Nat} {ret : Option FieldType} {mu : jM} {Qr : Array Value → State → Outcome → State → Prop} {Ex Ec : String → jM → Prop} {nc' : Nat} {x1 : Int32} {y0 : Int32} {Qc : jM → Prop} {h' : Nat} (h : jOk l G X cX7_deliver 2 ret RX7 hg nc) (ht : jNt X) (hM : jXv l G yX7_needLetter cX7_needLetter 2 h' nc' (.ref 0 :: [.int y0]) mu Qc Ec) (hh : h' < hg ∧ 2 ≤ 21) (hn : n + nc' ≤ nc) (kx : ∀ E mu', Ec E mu' → Ex E mu')
    (kk : ∀ mu', Qc mu' → J l G X (jRx G X nc Qr Ex) 2 5 [.ref 0, .int x1] [] mu' (n + nc')) :
    J l G X (jRx G X nc Qr Ex) 2 2 [.ref 0, .int x1] [.int y0, .ref 0] mu n :=
  J_callXv (As := [.int y0]) (rest := []) h ht dX7_deliver_2 hM (jgV w886 w888 w28 w76 w889) rfl (ci := 7) rfl rfl nmX7_needLetter rfl hh (Nat.le_of_ble_eq_true rfl) rfl hn kx kk
theorem rX7_deliver_5 {l : Launch} {G : jG} {X : jX} {Q : State → Prop} {n hg nc : Nat} {ret : Option FieldType} {mu : jM} {x1 : Int32} (h : jOk l G X cX7_deliver 2 ret RX7 hg nc)
    (k1 : J l G X Q 2 10 [.ref 0, .int x1] [.int x1, .ref 19] mu n) :
    J l G X Q 2 5 [.ref 0, .int x1] [] mu n := by
  refine J_aload_n h dX7_deliver_5 rfl rfl ?_
  refine J_getr (k := 4) h dX7_deliver_6 jc7 rfl rfl (by decide) w364 ?_
  refine J_iload_n h dX7_deliver_9 rfl rfl ?_
  exact k1
theorem rX7_deliver_10 {l : Launch} {G : jG} {X : jX} {Q : State → Prop} {n hg nc : Nat} {ret : Option FieldType} {mu : jM} {x1 : Int32} {y0 : Int32} {Qc : Int32 → jM → Prop} {h' : Nat} (h : jOk l G X cX7_deliver 2 ret RX7 hg nc) (hM : jCi l G yX5_handOver cX5_handOver 7 h' (some .int) (.ref 19 :: [.int y0]) mu Qc) (hh : h' < hg ∧ 7 ≤ 21) (hn : n ≤ nc)
    (kk : ∀ v mu', Qc v mu' → J l G X Q 2 13 [.ref 0, .int x1] (.int v :: []) mu' n) :
    J l G X Q 2 10 [.ref 0, .int x1] [.int y0, .ref 19] mu n :=
  J_callVi (As := [.int y0]) (rest := []) h dX7_deliver_10 hM (jgV w899 w900 w901 w80 w902) rfl (ci := 5) rfl rfl nmX5_handOver rfl hh (Nat.le_of_ble_eq_true rfl) rfl kk hn
/-! LockstepNet.deliverAll(III)I -/
theorem rX7_deliverAll_0 {l : Launch} {G : jG} {X : jX} {Q : State → Prop} {n hg nc : Nat} {ret : Option FieldType} {mu : jM} {x1 : Int32} {x2 : Int32} {x3 : Int32} (h : jOk l G X cX7_deliverAll 7 ret RX7 hg nc)
    (k2 : x1 < 0 → J l G X Q 7 20 [.ref 0, .int x1, .int x2, .int x3, .float 0, .float 0, .float 0] [] mu n)
    (k4 : ¬ x1 < 0 → 2 < x1 → J l G X Q 7 20 [.ref 0, .int x1, .int x2, .int x3, .float 0, .float 0, .float 0] [] mu n)
    (k6 : ¬ x1 < 0 → ¬ 2 < x1 → x3 < 0 → J l G X Q 7 20 [.ref 0, .int x1, .int x2, .int x3, .float 0, .float 0, .float 0] [] mu n)
    (k8 : ¬ x1 < 0 → ¬ 2 < x1 → ¬ x3 < 0 → x3 ≤ 2000 → J l G X Q 7 31 [.ref 0, .int x1, .int x2, .int x3, .float 0, .float 0, .float 0] [.ref 0] mu n)
    (k9 : ¬ x1 < 0 → ¬ 2 < x1 → ¬ x3 < 0 → ¬ x3 ≤ 2000 → J l G X Q 7 20 [.ref 0, .int x1, .int x2, .int x3, .float 0, .float 0, .float 0] [] mu n) :
    J l G X Q 7 0 [.ref 0, .int x1, .int x2, .int x3, .float 0, .float 0, .float 0] [] mu n := by
  refine J_iload_n h dX7_deliverAll_0 rfl rfl ?_
  refine J_if_lt (tgt := 20) h dX7_deliverAll_1 (by decide) (fun q1 => ?_) (fun q1 => ?_)
  · skip
    exact k2 q1
  · skip
    refine J_iload_n h dX7_deliverAll_4 rfl rfl ?_
    refine J_iconst h dX7_deliverAll_5 ci_2 ?_
    refine J_icmp_gt (tgt := 20) h dX7_deliverAll_6 (by decide) (fun q3 => ?_) (fun q3 => ?_)
    · skip
      exact k4 q1 q3
    · skip
      refine J_iload_n h dX7_deliverAll_9 rfl rfl ?_
      refine J_if_lt (tgt := 20) h dX7_deliverAll_10 (by decide) (fun q5 => ?_) (fun q5 => ?_)
      · skip
        exact k6 q1 q3 q5
      · skip
        refine J_iload_n h dX7_deliverAll_13 rfl rfl ?_
        refine J_sipush h dX7_deliverAll_14 cs_2000 ?_
        refine J_icmp_le (tgt := 30) h dX7_deliverAll_17 (by decide) (fun q7 => ?_) (fun q7 => ?_)
        · skip
          refine J_aload_n h dX7_deliverAll_30 rfl rfl ?_
          exact k8 q1 q3 q5 q7
        · skip
          exact k9 q1 q3 q5 q7
theorem rX7_deliverAll_31 {l : Launch} {G : jG} {X : jX} {n hg nc : Nat} {ret : Option FieldType} {mu : jM} {Qr : Array Value → State → Outcome → State → Prop} {Ex Ec : String → jM → Prop} {nc' : Nat} {x1 : Int32} {x2 : Int32} {x3 : Int32} {Qc : jM → Prop} {h' : Nat} (h : jOk l G X cX7_deliverAll 7 ret RX7 hg nc) (ht : jNt X) (hM : jXv l G yX7_needRun cX7_needRun 1 h' nc' (.ref 0 :: []) mu Qc Ec) (hh : h' < hg ∧ 1 ≤ 21) (hn : n + nc' ≤ nc) (kx : ∀ E mu', Ec E mu' → Ex E mu')
    (kk : ∀ mu', Qc mu' → J l G X (jRx G X nc Qr Ex) 7 34 [.ref 0, .int x1, .int x2, .int x3, .float 0, .float 0, .float 0] [] mu' (n + nc')) :
    J l G X (jRx G X nc Qr Ex) 7 31 [.ref 0, .int x1, .int x2, .int x3, .float 0, .float 0, .float 0] [.ref 0] mu n :=
  J_callXv (As := []) (rest := []) h ht dX7_deliverAll_31 hM (jgV w793 w795 w14 w76 w796) rfl (ci := 7) rfl rfl nmX7_needRun rfl hh (Nat.le_of_ble_eq_true rfl) rfl hn kx kk
theorem rX7_deliverAll_34 {l : Launch} {G : jG} {X : jX} {Q : State → Prop} {n hg nc : Nat} {ret : Option FieldType} {mu : jM} {x1 : Int32} {x2 : Int32} {x3 : Int32} (h : jOk l G X cX7_deliverAll 7 ret RX7 hg nc)
    (k1 : J l G X Q 7 40 [.ref 0, .int x1, .int x2, .int x3, .int x2, .int 0, .float 0] [] mu n) :
    J l G X Q 7 34 [.ref 0, .int x1, .int x2, .int x3, .float 0, .float 0, .float 0] [] mu n := by
  refine J_iload_n h dX7_deliverAll_34 rfl rfl ?_
  refine J_istore h dX7_deliverAll_35 (by decide) rfl ?_
  show J l G X Q 7 37 [.ref 0, .int x1, .int x2, .int x3, .int x2, .float 0, .float 0] [] mu n
  refine J_iconst h dX7_deliverAll_37 ci_0 ?_
  refine J_istore h dX7_deliverAll_38 (by decide) rfl ?_
  show J l G X Q 7 40 [.ref 0, .int x1, .int x2, .int x3, .int x2, .int 0, .float 0] [] mu n
  exact k1
theorem rX7_deliverAll_40 {l : Launch} {G : jG} {X : jX} {Q : State → Prop} {n hg nc : Nat} {ret : Option FieldType} {mu : jM} {x1 : Int32} {x2 : Int32} {x3 : Int32} {x4 : Int32} {x5 : Int32} (h : jOk l G X cX7_deliverAll 7 ret RX7 hg nc) (s8 : ¬ x3 ≤ x5 → ¬ (mu 25 2) ≤ 0 → ¬ x1 = 1 → x1 = 2 → ¬ (mu 25 2) = 0)
    (k2 : x3 ≤ x5 → J l G X Q 7 134 [.ref 0, .int x1, .int x2, .int x3, .int x4, .int x5, .float 0] [] mu n)
    (k4 : ¬ x3 ≤ x5 → (mu 25 2) ≤ 0 → J l G X Q 7 134 [.ref 0, .int x1, .int x2, .int x3, .int x4, .int x5, .float 0] [] mu n)
    (k7 : ¬ x3 ≤ x5 → ¬ (mu 25 2) ≤ 0 → ¬ x1 = 1 → ¬ x1 = 2 → J l G X Q 7 118 [.ref 0, .int x1, .int x2, .int x3, .int x4, .int x5, .int 0] [] mu n)
    (k9 : ¬ x3 ≤ x5 → ¬ (mu 25 2) ≤ 0 → ¬ x1 = 1 → x1 = 2 → J l G X Q 7 118 [.ref 0, .int x1, .int x2, .int x3, .int ((x4 * 1103515245) + 12345), .int x5, .int (((Int32.toUInt32 ((x4 * 1103515245) + 12345) >>> (Int32.toUInt32 16 &&& Int32.toUInt32 31)).toInt32) - (((Int32.toUInt32 ((x4 * 1103515245) + 12345) >>> (Int32.toUInt32 16 &&& Int32.toUInt32 31)).toInt32) / (mu 25 2)) * (mu 25 2))] [] mu n)
    (k10 : ¬ x3 ≤ x5 → ¬ (mu 25 2) ≤ 0 → x1 = 1 → J l G X Q 7 118 [.ref 0, .int x1, .int x2, .int x3, .int x4, .int x5, .int ((mu 25 2) - 1)] [] mu n) :
    J l G X Q 7 40 [.ref 0, .int x1, .int x2, .int x3, .int x4, .int x5, .float 0] [] mu n := by
  refine J_iload h dX7_deliverAll_40 rfl ?_
  refine J_iload_n h dX7_deliverAll_42 rfl rfl ?_
  refine J_icmp_ge (tgt := 134) h dX7_deliverAll_43 (by decide) (fun q1 => ?_) (fun q1 => ?_)
  · skip
    exact k2 q1
  · skip
    refine J_aload_n h dX7_deliverAll_46 rfl rfl ?_
    refine J_getr (k := 4) h dX7_deliverAll_47 jc7 rfl rfl (by decide) w364 ?_
    refine J_getrN (k := 2) h dX7_deliverAll_50 jc5 rfl rfl (by decide) w307 ?_
    refine J_getiN (k := 2) h dX7_deliverAll_53 jc3 rfl rfl (by decide) w237 ?_
    refine J_if_le (tgt := 134) h dX7_deliverAll_56 (by decide) (fun q3 => ?_) (fun q3 => ?_)
    · skip
      exact k4 q1 q3
    · skip
      refine J_iconst h dX7_deliverAll_59 ci_0 ?_
      refine J_istore h dX7_deliverAll_60 (by decide) rfl ?_
      show J l G X Q 7 62 [.ref 0, .int x1, .int x2, .int x3, .int x4, .int x5, .int 0] [] mu n
      refine J_iload_n h dX7_deliverAll_62 rfl rfl ?_
      refine J_iconst h dX7_deliverAll_63 ci_1 ?_
      refine J_icmp_ne (tgt := 84) h dX7_deliverAll_64 (by decide) (fun q5 => ?_) (fun q5 => ?_)
      · skip
        refine J_iload_n h dX7_deliverAll_84 rfl rfl ?_
        refine J_iconst h dX7_deliverAll_85 ci_2 ?_
        refine J_icmp_ne (tgt := 118) h dX7_deliverAll_86 (by decide) (fun q6 => ?_) (fun q6 => ?_)
        · skip
          exact k7 q1 q3 q5 q6
        · skip
          refine J_iload h dX7_deliverAll_89 rfl ?_
          refine J_ldc h dX7_deliverAll_91 w918 ?_
          refine J_imul h dX7_deliverAll_93 ?_
          refine J_sipush h dX7_deliverAll_94 cs_12345 ?_
          refine J_iadd h dX7_deliverAll_97 ?_
          refine J_istore h dX7_deliverAll_98 (by decide) rfl ?_
          show J l G X Q 7 100 [.ref 0, .int x1, .int x2, .int x3, .int ((x4 * 1103515245) + 12345), .int x5, .int 0] [] mu n
          refine J_iload h dX7_deliverAll_100 rfl ?_
          refine J_bipush h dX7_deliverAll_102 cb_16 ?_
          refine J_iushr h dX7_deliverAll_104 ?_
          refine J_aload_n h dX7_deliverAll_105 rfl rfl ?_
          refine J_getr (k := 4) h dX7_deliverAll_106 jc7 rfl rfl (by decide) w364 ?_
          refine J_getrN (k := 2) h dX7_deliverAll_109 jc5 rfl rfl (by decide) w307 ?_
          refine J_getiN (k := 2) h dX7_deliverAll_112 jc3 rfl rfl (by decide) w237 ?_
          refine J_irem h dX7_deliverAll_115 (s8 q1 q3 q5 q6) ?_
          refine J_istore h dX7_deliverAll_116 (by decide) rfl ?_
          show J l G X Q 7 118 [.ref 0, .int x1, .int x2, .int x3, .int ((x4 * 1103515245) + 12345), .int x5, .int (((Int32.toUInt32 ((x4 * 1103515245) + 12345) >>> (Int32.toUInt32 16 &&& Int32.toUInt32 31)).toInt32) - (((Int32.toUInt32 ((x4 * 1103515245) + 12345) >>> (Int32.toUInt32 16 &&& Int32.toUInt32 31)).toInt32) / (mu 25 2)) * (mu 25 2))] [] mu n
          exact k9 q1 q3 q5 q6
      · skip
        refine J_aload_n h dX7_deliverAll_67 rfl rfl ?_
        refine J_getr (k := 4) h dX7_deliverAll_68 jc7 rfl rfl (by decide) w364 ?_
        refine J_getrN (k := 2) h dX7_deliverAll_71 jc5 rfl rfl (by decide) w307 ?_
        refine J_getiN (k := 2) h dX7_deliverAll_74 jc3 rfl rfl (by decide) w237 ?_
        refine J_iconst h dX7_deliverAll_77 ci_1 ?_
        refine J_isub h dX7_deliverAll_78 ?_
        refine J_istore h dX7_deliverAll_79 (by decide) rfl ?_
        show J l G X Q 7 81 [.ref 0, .int x1, .int x2, .int x3, .int x4, .int x5, .int ((mu 25 2) - 1)] [] mu n
        refine J_goto (tgt := 118) h dX7_deliverAll_81 (by decide) ?_
        exact k10 q1 q3 q5
theorem rX7_deliverAll_134 {l : Launch} {G : jG} {X : jX} {Q : State → Prop} {n hg nc : Nat} {ret : Option FieldType} {mu : jM} {x1 : Int32} {x2 : Int32} {x3 : Int32} {x4 : Int32} {x5 : Int32} (h : jOk l G X cX7_deliverAll 7 ret RX7 hg nc)
    (k1 : J l G X Q 7 136 [.ref 0, .int x1, .int x2, .int x3, .int x4, .int x5, .float 0] [.int x5] mu n) :
    J l G X Q 7 134 [.ref 0, .int x1, .int x2, .int x3, .int x4, .int x5, .float 0] [] mu n := by
  refine J_iload h dX7_deliverAll_134 rfl ?_
  exact k1
theorem rX7_deliverAll_118 {l : Launch} {G : jG} {X : jX} {Q : State → Prop} {n hg nc : Nat} {ret : Option FieldType} {mu : jM} {x1 : Int32} {x2 : Int32} {x3 : Int32} {x4 : Int32} {x5 : Int32} {x6 : Int32} (h : jOk l G X cX7_deliverAll 7 ret RX7 hg nc)
    (k1 : J l G X Q 7 124 [.ref 0, .int x1, .int x2, .int x3, .int x4, .int x5, .int x6] [.int x6, .ref 19] mu n) :
    J l G X Q 7 118 [.ref 0, .int x1, .int x2, .int x3, .int x4, .int x5, .int x6] [] mu n := by
  refine J_aload_n h dX7_deliverAll_118 rfl rfl ?_
  refine J_getr (k := 4) h dX7_deliverAll_119 jc7 rfl rfl (by decide) w364 ?_
  refine J_iload h dX7_deliverAll_122 rfl ?_
  exact k1
theorem rX7_deliverAll_124 {l : Launch} {G : jG} {X : jX} {Q : State → Prop} {n hg nc : Nat} {ret : Option FieldType} {mu : jM} {x1 : Int32} {x2 : Int32} {x3 : Int32} {x4 : Int32} {x5 : Int32} {x6 : Int32} {y0 : Int32} {Qc : Int32 → jM → Prop} {h' : Nat} (h : jOk l G X cX7_deliverAll 7 ret RX7 hg nc) (hM : jCi l G yX5_handOver cX5_handOver 7 h' (some .int) (.ref 19 :: [.int y0]) mu Qc) (hh : h' < hg ∧ 7 ≤ 21) (hn : n ≤ nc)
    (kk : ∀ v mu', Qc v mu' → J l G X Q 7 127 [.ref 0, .int x1, .int x2, .int x3, .int x4, .int x5, .int x6] (.int v :: []) mu' n) :
    J l G X Q 7 124 [.ref 0, .int x1, .int x2, .int x3, .int x4, .int x5, .int x6] [.int y0, .ref 19] mu n :=
  J_callVi (As := [.int y0]) (rest := []) h dX7_deliverAll_124 hM (jgV w899 w900 w901 w80 w902) rfl (ci := 5) rfl rfl nmX5_handOver rfl hh (Nat.le_of_ble_eq_true rfl) rfl kk hn
theorem rX7_deliverAll_127 {l : Launch} {G : jG} {X : jX} {Q : State → Prop} {n hg nc : Nat} {ret : Option FieldType} {mu : jM} {x1 : Int32} {x2 : Int32} {x3 : Int32} {x4 : Int32} {x5 : Int32} {x6 : Int32} {y0 : Int32} (h : jOk l G X cX7_deliverAll 7 ret RX7 hg nc)
    (k1 : J l G X Q 7 40 [.ref 0, .int x1, .int x2, .int x3, .int x4, .int (x5 + 1), .int x6] [] mu n) :
    J l G X Q 7 127 [.ref 0, .int x1, .int x2, .int x3, .int x4, .int x5, .int x6] [.int y0] mu n := by
  refine J_pop h dX7_deliverAll_127 rfl ?_
  refine J_iinc h dX7_deliverAll_128 rfl (cc_1 _) (by decide) rfl ?_
  show J l G X Q 7 131 [.ref 0, .int x1, .int x2, .int x3, .int x4, .int (x5 + 1), .int x6] [] mu n
  refine J_goto (tgt := 40) h dX7_deliverAll_131 (by decide) ?_
  exact k1
theorem rX7_deliverAll_40b {l : Launch} {G : jG} {X : jX} {Q : State → Prop} {n hg nc : Nat} {ret : Option FieldType} {mu : jM} {x1 : Int32} {x2 : Int32} {x3 : Int32} {x4 : Int32} {x5 : Int32} {x6 : Int32} (h : jOk l G X cX7_deliverAll 7 ret RX7 hg nc) (s8 : ¬ x3 ≤ x5 → ¬ (mu 25 2) ≤ 0 → ¬ x1 = 1 → x1 = 2 → ¬ (mu 25 2) = 0)
    (k2 : x3 ≤ x5 → J l G X Q 7 134 [.ref 0, .int x1, .int x2, .int x3, .int x4, .int x5, .int x6] [] mu n)
    (k4 : ¬ x3 ≤ x5 → (mu 25 2) ≤ 0 → J l G X Q 7 134 [.ref 0, .int x1, .int x2, .int x3, .int x4, .int x5, .int x6] [] mu n)
    (k7 : ¬ x3 ≤ x5 → ¬ (mu 25 2) ≤ 0 → ¬ x1 = 1 → ¬ x1 = 2 → J l G X Q 7 118 [.ref 0, .int x1, .int x2, .int x3, .int x4, .int x5, .int 0] [] mu n)
    (k9 : ¬ x3 ≤ x5 → ¬ (mu 25 2) ≤ 0 → ¬ x1 = 1 → x1 = 2 → J l G X Q 7 118 [.ref 0, .int x1, .int x2, .int x3, .int ((x4 * 1103515245) + 12345), .int x5, .int (((Int32.toUInt32 ((x4 * 1103515245) + 12345) >>> (Int32.toUInt32 16 &&& Int32.toUInt32 31)).toInt32) - (((Int32.toUInt32 ((x4 * 1103515245) + 12345) >>> (Int32.toUInt32 16 &&& Int32.toUInt32 31)).toInt32) / (mu 25 2)) * (mu 25 2))] [] mu n)
    (k10 : ¬ x3 ≤ x5 → ¬ (mu 25 2) ≤ 0 → x1 = 1 → J l G X Q 7 118 [.ref 0, .int x1, .int x2, .int x3, .int x4, .int x5, .int ((mu 25 2) - 1)] [] mu n) :
    J l G X Q 7 40 [.ref 0, .int x1, .int x2, .int x3, .int x4, .int x5, .int x6] [] mu n := by
  refine J_iload h dX7_deliverAll_40 rfl ?_
  refine J_iload_n h dX7_deliverAll_42 rfl rfl ?_
  refine J_icmp_ge (tgt := 134) h dX7_deliverAll_43 (by decide) (fun q1 => ?_) (fun q1 => ?_)
  · skip
    exact k2 q1
  · skip
    refine J_aload_n h dX7_deliverAll_46 rfl rfl ?_
    refine J_getr (k := 4) h dX7_deliverAll_47 jc7 rfl rfl (by decide) w364 ?_
    refine J_getrN (k := 2) h dX7_deliverAll_50 jc5 rfl rfl (by decide) w307 ?_
    refine J_getiN (k := 2) h dX7_deliverAll_53 jc3 rfl rfl (by decide) w237 ?_
    refine J_if_le (tgt := 134) h dX7_deliverAll_56 (by decide) (fun q3 => ?_) (fun q3 => ?_)
    · skip
      exact k4 q1 q3
    · skip
      refine J_iconst h dX7_deliverAll_59 ci_0 ?_
      refine J_istore h dX7_deliverAll_60 (by decide) rfl ?_
      show J l G X Q 7 62 [.ref 0, .int x1, .int x2, .int x3, .int x4, .int x5, .int 0] [] mu n
      refine J_iload_n h dX7_deliverAll_62 rfl rfl ?_
      refine J_iconst h dX7_deliverAll_63 ci_1 ?_
      refine J_icmp_ne (tgt := 84) h dX7_deliverAll_64 (by decide) (fun q5 => ?_) (fun q5 => ?_)
      · skip
        refine J_iload_n h dX7_deliverAll_84 rfl rfl ?_
        refine J_iconst h dX7_deliverAll_85 ci_2 ?_
        refine J_icmp_ne (tgt := 118) h dX7_deliverAll_86 (by decide) (fun q6 => ?_) (fun q6 => ?_)
        · skip
          exact k7 q1 q3 q5 q6
        · skip
          refine J_iload h dX7_deliverAll_89 rfl ?_
          refine J_ldc h dX7_deliverAll_91 w918 ?_
          refine J_imul h dX7_deliverAll_93 ?_
          refine J_sipush h dX7_deliverAll_94 cs_12345 ?_
          refine J_iadd h dX7_deliverAll_97 ?_
          refine J_istore h dX7_deliverAll_98 (by decide) rfl ?_
          show J l G X Q 7 100 [.ref 0, .int x1, .int x2, .int x3, .int ((x4 * 1103515245) + 12345), .int x5, .int 0] [] mu n
          refine J_iload h dX7_deliverAll_100 rfl ?_
          refine J_bipush h dX7_deliverAll_102 cb_16 ?_
          refine J_iushr h dX7_deliverAll_104 ?_
          refine J_aload_n h dX7_deliverAll_105 rfl rfl ?_
          refine J_getr (k := 4) h dX7_deliverAll_106 jc7 rfl rfl (by decide) w364 ?_
          refine J_getrN (k := 2) h dX7_deliverAll_109 jc5 rfl rfl (by decide) w307 ?_
          refine J_getiN (k := 2) h dX7_deliverAll_112 jc3 rfl rfl (by decide) w237 ?_
          refine J_irem h dX7_deliverAll_115 (s8 q1 q3 q5 q6) ?_
          refine J_istore h dX7_deliverAll_116 (by decide) rfl ?_
          show J l G X Q 7 118 [.ref 0, .int x1, .int x2, .int x3, .int ((x4 * 1103515245) + 12345), .int x5, .int (((Int32.toUInt32 ((x4 * 1103515245) + 12345) >>> (Int32.toUInt32 16 &&& Int32.toUInt32 31)).toInt32) - (((Int32.toUInt32 ((x4 * 1103515245) + 12345) >>> (Int32.toUInt32 16 &&& Int32.toUInt32 31)).toInt32) / (mu 25 2)) * (mu 25 2))] [] mu n
          exact k9 q1 q3 q5 q6
      · skip
        refine J_aload_n h dX7_deliverAll_67 rfl rfl ?_
        refine J_getr (k := 4) h dX7_deliverAll_68 jc7 rfl rfl (by decide) w364 ?_
        refine J_getrN (k := 2) h dX7_deliverAll_71 jc5 rfl rfl (by decide) w307 ?_
        refine J_getiN (k := 2) h dX7_deliverAll_74 jc3 rfl rfl (by decide) w237 ?_
        refine J_iconst h dX7_deliverAll_77 ci_1 ?_
        refine J_isub h dX7_deliverAll_78 ?_
        refine J_istore h dX7_deliverAll_79 (by decide) rfl ?_
        show J l G X Q 7 81 [.ref 0, .int x1, .int x2, .int x3, .int x4, .int x5, .int ((mu 25 2) - 1)] [] mu n
        refine J_goto (tgt := 118) h dX7_deliverAll_81 (by decide) ?_
        exact k10 q1 q3 q5
theorem rX7_deliverAll_134b {l : Launch} {G : jG} {X : jX} {Q : State → Prop} {n hg nc : Nat} {ret : Option FieldType} {mu : jM} {x1 : Int32} {x2 : Int32} {x3 : Int32} {x4 : Int32} {x5 : Int32} {x6 : Int32} (h : jOk l G X cX7_deliverAll 7 ret RX7 hg nc)
    (k1 : J l G X Q 7 136 [.ref 0, .int x1, .int x2, .int x3, .int x4, .int x5, .int x6] [.int x5] mu n) :
    J l G X Q 7 134 [.ref 0, .int x1, .int x2, .int x3, .int x4, .int x5, .int x6] [] mu n := by
  refine J_iload h dX7_deliverAll_134 rfl ?_
  exact k1
/-! LockstepNet.switchTo(I)I -/
theorem rX7_switchTo_0 {l : Launch} {G : jG} {X : jX} {Q : State → Prop} {n hg nc : Nat} {ret : Option FieldType} {mu : jM} {x1 : Int32} (h : jOk l G X cX7_switchTo 2 ret RX7 hg nc)
    (k1 : J l G X Q 2 1 [.ref 0, .int x1] [.int x1] mu n) :
    J l G X Q 2 0 [.ref 0, .int x1] [] mu n := by
  refine J_iload_n h dX7_switchTo_0 rfl rfl ?_
  exact k1
theorem rX7_switchTo_1 {l : Launch} {G : jG} {X : jX} {Q : State → Prop} {n hg nc : Nat} {ret : Option FieldType} {mu : jM} {x1 : Int32} {y0 : Int32} {Qc : Int32 → jM → Prop} {h' : Nat} (h : jOk l G X cX7_switchTo 2 ret RX7 hg nc) (hM : jCi l G yX7_isWay cX7_isWay 1 h' (some .boolean) [.int y0] mu Qc) (hh : h' < hg ∧ 1 ≤ 21) (hn : n ≤ nc)
    (kk : ∀ v mu', Qc v mu' → J l G X Q 2 4 [.ref 0, .int x1] (.int v :: []) mu' n) :
    J l G X Q 2 1 [.ref 0, .int x1] [.int y0] mu n :=
  J_callSi (As := [.int y0]) (rest := []) h dX7_switchTo_1 hM (jgS w724 w725 w76 w726) nmX7_isWay rfl hh (Nat.le_of_ble_eq_true rfl) rfl kk hn
theorem rX7_switchTo_4 {l : Launch} {G : jG} {X : jX} {Q : State → Prop} {n hg nc : Nat} {ret : Option FieldType} {mu : jM} {x1 : Int32} {y0 : Int32} (h : jOk l G X cX7_switchTo 2 ret RX7 hg nc)
    (k2 : ¬ y0 = 0 → J l G X Q 2 18 [.ref 0, .int x1] [.ref 0] mu n)
    (k3 : y0 = 0 → J l G X Q 2 7 [.ref 0, .int x1] [] mu n) :
    J l G X Q 2 4 [.ref 0, .int x1] [.int y0] mu n := by
  refine J_if_ne (tgt := 17) h dX7_switchTo_4 (by decide) (fun q1 => ?_) (fun q1 => ?_)
  · skip
    refine J_aload_n h dX7_switchTo_17 rfl rfl ?_
    exact k2 q1
  · skip
    exact k3 q1
theorem rX7_switchTo_18 {l : Launch} {G : jG} {X : jX} {n hg nc : Nat} {ret : Option FieldType} {mu : jM} {Qr : Array Value → State → Outcome → State → Prop} {Ex Ec : String → jM → Prop} {nc' : Nat} {x1 : Int32} {Qc : jM → Prop} {h' : Nat} (h : jOk l G X cX7_switchTo 2 ret RX7 hg nc) (ht : jNt X) (hM : jXv l G yX7_needRun cX7_needRun 1 h' nc' (.ref 0 :: []) mu Qc Ec) (hh : h' < hg ∧ 1 ≤ 21) (hn : n + nc' ≤ nc) (kx : ∀ E mu', Ec E mu' → Ex E mu')
    (kk : ∀ mu', Qc mu' → J l G X (jRx G X nc Qr Ex) 2 21 [.ref 0, .int x1] [] mu' (n + nc')) :
    J l G X (jRx G X nc Qr Ex) 2 18 [.ref 0, .int x1] [.ref 0] mu n :=
  J_callXv (As := []) (rest := []) h ht dX7_switchTo_18 hM (jgV w793 w795 w14 w76 w796) rfl (ci := 7) rfl rfl nmX7_needRun rfl hh (Nat.le_of_ble_eq_true rfl) rfl hn kx kk
theorem rX7_switchTo_21 {l : Launch} {G : jG} {X : jX} {Q : State → Prop} {n hg nc : Nat} {ret : Option FieldType} {mu : jM} {x1 : Int32} (h : jOk l G X cX7_switchTo 2 ret RX7 hg nc)
    (k2 : (mu 19 15) ≤ 8 → J l G X Q 2 48 [.ref 0, .int x1] [.int x1, .ref 19] mu n)
    (k3 : ¬ (mu 19 15) ≤ 8 → J l G X Q 2 33 [.ref 0, .int x1] [] mu n) :
    J l G X Q 2 21 [.ref 0, .int x1] [] mu n := by
  refine J_aload_n h dX7_switchTo_21 rfl rfl ?_
  refine J_getr (k := 4) h dX7_switchTo_22 jc7 rfl rfl (by decide) w364 ?_
  refine J_getiN (k := 15) h dX7_switchTo_25 jc5 rfl rfl (by decide) w326 ?_
  refine J_bipush h dX7_switchTo_28 cb_8 ?_
  refine J_icmp_le (tgt := 43) h dX7_switchTo_30 (by decide) (fun q1 => ?_) (fun q1 => ?_)
  · skip
    refine J_aload_n h dX7_switchTo_43 rfl rfl ?_
    refine J_getr (k := 4) h dX7_switchTo_44 jc7 rfl rfl (by decide) w364 ?_
    refine J_iload_n h dX7_switchTo_47 rfl rfl ?_
    exact k2 q1
  · skip
    exact k3 q1
theorem rX7_switchTo_48 {l : Launch} {G : jG} {X : jX} {Q : State → Prop} {n hg nc : Nat} {ret : Option FieldType} {mu : jM} {x1 : Int32} {y0 : Int32} {Qc : Int32 → jM → Prop} {h' : Nat} (h : jOk l G X cX7_switchTo 2 ret RX7 hg nc) (hM : jCi l G yX5_changeWay cX5_changeWay 2 h' (some .int) (.ref 19 :: [.int y0]) mu Qc) (hh : h' < hg ∧ 2 ≤ 21) (hn : n ≤ nc)
    (kk : ∀ v mu', Qc v mu' → J l G X Q 2 51 [.ref 0, .int x1] (.int v :: []) mu' n) :
    J l G X Q 2 48 [.ref 0, .int x1] [.int y0, .ref 19] mu n :=
  J_callVi (As := [.int y0]) (rest := []) h dX7_switchTo_48 hM (jgV w928 w929 w930 w80 w931) rfl (ci := 5) rfl rfl nmX5_changeWay rfl hh (Nat.le_of_ble_eq_true rfl) rfl kk hn
/-! LockstepNet.roundOf(I)I -/
theorem rX7_roundOf_0 {l : Launch} {G : jG} {X : jX} {Q : State → Prop} {n hg nc : Nat} {ret : Option FieldType} {mu : jM} {x1 : Int32} (h : jOk l G X cX7_roundOf 2 ret RX7 hg nc)
    (k1 : J l G X Q 2 2 [.ref 0, .int x1] [.int x1, .ref 0] mu n) :
    J l G X Q 2 0 [.ref 0, .int x1] [] mu n := by
  refine J_aload_n h dX7_roundOf_0 rfl rfl ?_
  refine J_iload_n h dX7_roundOf_1 rfl rfl ?_
  exact k1
theorem rX7_roundOf_2 {l : Launch} {G : jG} {X : jX} {n hg nc : Nat} {ret : Option FieldType} {mu : jM} {Qr : Array Value → State → Outcome → State → Prop} {Ex Ec : String → jM → Prop} {nc' : Nat} {x1 : Int32} {y0 : Int32} {Qc : jM → Prop} {h' : Nat} (h : jOk l G X cX7_roundOf 2 ret RX7 hg nc) (ht : jNt X) (hM : jXv l G yX7_needNode cX7_needNode 2 h' nc' (.ref 0 :: [.int y0]) mu Qc Ec) (hh : h' < hg ∧ 2 ≤ 21) (hn : n + nc' ≤ nc) (kx : ∀ E mu', Ec E mu' → Ex E mu')
    (kk : ∀ mu', Qc mu' → J l G X (jRx G X nc Qr Ex) 2 5 [.ref 0, .int x1] [] mu' (n + nc')) :
    J l G X (jRx G X nc Qr Ex) 2 2 [.ref 0, .int x1] [.int y0, .ref 0] mu n :=
  J_callXv (As := [.int y0]) (rest := []) h ht dX7_roundOf_2 hM (jgV w534 w536 w6 w76 w537) rfl (ci := 7) rfl rfl nmX7_needNode rfl hh (Nat.le_of_ble_eq_true rfl) rfl hn kx kk
theorem rX7_roundOf_5 {l : Launch} {G : jG} {X : jX} {Q : State → Prop} {n hg nc : Nat} {ret : Option FieldType} {mu : jM} {x1 : Int32} (h : jOk l G X cX7_roundOf 2 ret RX7 hg nc)
    (k1 : J l G X Q 2 6 [.ref 0, .int x1] [.ref 0] mu n) :
    J l G X Q 2 5 [.ref 0, .int x1] [] mu n := by
  refine J_aload_n h dX7_roundOf_5 rfl rfl ?_
  exact k1
theorem rX7_roundOf_6 {l : Launch} {G : jG} {X : jX} {n hg nc : Nat} {ret : Option FieldType} {mu : jM} {Qr : Array Value → State → Outcome → State → Prop} {Ex Ec : String → jM → Prop} {nc' : Nat} {x1 : Int32} {Qc : jM → Prop} {h' : Nat} (h : jOk l G X cX7_roundOf 2 ret RX7 hg nc) (ht : jNt X) (hM : jXv l G yX7_needRun cX7_needRun 1 h' nc' (.ref 0 :: []) mu Qc Ec) (hh : h' < hg ∧ 1 ≤ 21) (hn : n + nc' ≤ nc) (kx : ∀ E mu', Ec E mu' → Ex E mu')
    (kk : ∀ mu', Qc mu' → J l G X (jRx G X nc Qr Ex) 2 9 [.ref 0, .int x1] [] mu' (n + nc')) :
    J l G X (jRx G X nc Qr Ex) 2 6 [.ref 0, .int x1] [.ref 0] mu n :=
  J_callXv (As := []) (rest := []) h ht dX7_roundOf_6 hM (jgV w793 w795 w14 w76 w796) rfl (ci := 7) rfl rfl nmX7_needRun rfl hh (Nat.le_of_ble_eq_true rfl) rfl hn kx kk
theorem rX7_roundOf_9 {l : Launch} {G : jG} {X : jX} {Q : State → Prop} {n hg nc : Nat} {ret : Option FieldType} {mu : jM} {x1 : Int32} (h : jOk l G X cX7_roundOf 2 ret RX7 hg nc) (s1 : vp_in x1 24)
    (k2 : J l G X Q 2 18 [.ref 0, .int x1] [.int (mu 45 (x1).toNatClampNeg)] mu n) :
    J l G X Q 2 9 [.ref 0, .int x1] [] mu n := by
  refine J_aload_n h dX7_roundOf_9 rfl rfl ?_
  refine J_getr (k := 4) h dX7_roundOf_10 jc7 rfl rfl (by decide) w364 ?_
  refine J_getrN (k := 5) h dX7_roundOf_13 jc5 rfl rfl (by decide) w313 ?_
  refine J_iload_n h dX7_roundOf_16 rfl rfl ?_
  refine J_iald h dX7_roundOf_17 rfl (s1) ?_
  exact k2
/-! LockstepNet.value(II)I -/
theorem rX7_value_0 {l : Launch} {G : jG} {X : jX} {Q : State → Prop} {n hg nc : Nat} {ret : Option FieldType} {mu : jM} {x1 : Int32} {x2 : Int32} (h : jOk l G X cX7_value 3 ret RX7 hg nc)
    (k1 : J l G X Q 3 2 [.ref 0, .int x1, .int x2] [.int x1, .ref 0] mu n) :
    J l G X Q 3 0 [.ref 0, .int x1, .int x2] [] mu n := by
  refine J_aload_n h dX7_value_0 rfl rfl ?_
  refine J_iload_n h dX7_value_1 rfl rfl ?_
  exact k1
theorem rX7_value_2 {l : Launch} {G : jG} {X : jX} {n hg nc : Nat} {ret : Option FieldType} {mu : jM} {Qr : Array Value → State → Outcome → State → Prop} {Ex Ec : String → jM → Prop} {nc' : Nat} {x1 : Int32} {x2 : Int32} {y0 : Int32} {Qc : jM → Prop} {h' : Nat} (h : jOk l G X cX7_value 3 ret RX7 hg nc) (ht : jNt X) (hM : jXv l G yX7_needNode cX7_needNode 2 h' nc' (.ref 0 :: [.int y0]) mu Qc Ec) (hh : h' < hg ∧ 2 ≤ 21) (hn : n + nc' ≤ nc) (kx : ∀ E mu', Ec E mu' → Ex E mu')
    (kk : ∀ mu', Qc mu' → J l G X (jRx G X nc Qr Ex) 3 5 [.ref 0, .int x1, .int x2] [] mu' (n + nc')) :
    J l G X (jRx G X nc Qr Ex) 3 2 [.ref 0, .int x1, .int x2] [.int y0, .ref 0] mu n :=
  J_callXv (As := [.int y0]) (rest := []) h ht dX7_value_2 hM (jgV w534 w536 w6 w76 w537) rfl (ci := 7) rfl rfl nmX7_needNode rfl hh (Nat.le_of_ble_eq_true rfl) rfl hn kx kk
theorem rX7_value_5 {l : Launch} {G : jG} {X : jX} {Q : State → Prop} {n hg nc : Nat} {ret : Option FieldType} {mu : jM} {x1 : Int32} {x2 : Int32} (h : jOk l G X cX7_value 3 ret RX7 hg nc)
    (k1 : J l G X Q 3 6 [.ref 0, .int x1, .int x2] [.int x2] mu n) :
    J l G X Q 3 5 [.ref 0, .int x1, .int x2] [] mu n := by
  refine J_iload_n h dX7_value_5 rfl rfl ?_
  exact k1
theorem rX7_value_6 {l : Launch} {G : jG} {X : jX} {n hg nc : Nat} {ret : Option FieldType} {mu : jM} {Qr : Array Value → State → Outcome → State → Prop} {Ex Ec : String → jM → Prop} {nc' : Nat} {x1 : Int32} {x2 : Int32} {y0 : Int32} {Qc : jM → Prop} {h' : Nat} (h : jOk l G X cX7_value 3 ret RX7 hg nc) (ht : jNt X) (hM : jXv l G yX7_needRegister cX7_needRegister 1 h' nc' [.int y0] mu Qc Ec) (hh : h' < hg ∧ 1 ≤ 21) (hn : n + nc' ≤ nc) (kx : ∀ E mu', Ec E mu' → Ex E mu')
    (kk : ∀ mu', Qc mu' → J l G X (jRx G X nc Qr Ex) 3 9 [.ref 0, .int x1, .int x2] [] mu' (n + nc')) :
    J l G X (jRx G X nc Qr Ex) 3 6 [.ref 0, .int x1, .int x2] [.int y0] mu n :=
  J_callXS (As := [.int y0]) (rest := []) h ht dX7_value_6 hM (jgS w638 w639 w76 w640) nmX7_needRegister rfl hh (Nat.le_of_ble_eq_true rfl) rfl hn kx kk
theorem rX7_value_9 {l : Launch} {G : jG} {X : jX} {Q : State → Prop} {n hg nc : Nat} {ret : Option FieldType} {mu : jM} {x1 : Int32} {x2 : Int32} (h : jOk l G X cX7_value 3 ret RX7 hg nc)
    (k1 : J l G X Q 3 10 [.ref 0, .int x1, .int x2] [.ref 0] mu n) :
    J l G X Q 3 9 [.ref 0, .int x1, .int x2] [] mu n := by
  refine J_aload_n h dX7_value_9 rfl rfl ?_
  exact k1
theorem rX7_value_10 {l : Launch} {G : jG} {X : jX} {n hg nc : Nat} {ret : Option FieldType} {mu : jM} {Qr : Array Value → State → Outcome → State → Prop} {Ex Ec : String → jM → Prop} {nc' : Nat} {x1 : Int32} {x2 : Int32} {Qc : jM → Prop} {h' : Nat} (h : jOk l G X cX7_value 3 ret RX7 hg nc) (ht : jNt X) (hM : jXv l G yX7_needRun cX7_needRun 1 h' nc' (.ref 0 :: []) mu Qc Ec) (hh : h' < hg ∧ 1 ≤ 21) (hn : n + nc' ≤ nc) (kx : ∀ E mu', Ec E mu' → Ex E mu')
    (kk : ∀ mu', Qc mu' → J l G X (jRx G X nc Qr Ex) 3 13 [.ref 0, .int x1, .int x2] [] mu' (n + nc')) :
    J l G X (jRx G X nc Qr Ex) 3 10 [.ref 0, .int x1, .int x2] [.ref 0] mu n :=
  J_callXv (As := []) (rest := []) h ht dX7_value_10 hM (jgV w793 w795 w14 w76 w796) rfl (ci := 7) rfl rfl nmX7_needRun rfl hh (Nat.le_of_ble_eq_true rfl) rfl hn kx kk
theorem rX7_value_13 {l : Launch} {G : jG} {X : jX} {Q : State → Prop} {n hg nc : Nat} {ret : Option FieldType} {mu : jM} {x1 : Int32} {x2 : Int32} (h : jOk l G X cX7_value 3 ret RX7 hg nc) (s1 : vp_in ((x1 * 8) + x2) 192)
    (k2 : J l G X Q 3 30 [.ref 0, .int x1, .int x2] [.int (mu 21 (((x1 * 8) + x2)).toNatClampNeg)] mu n) :
    J l G X Q 3 13 [.ref 0, .int x1, .int x2] [] mu n := by
  refine J_aload_n h dX7_value_13 rfl rfl ?_
  refine J_getr (k := 4) h dX7_value_14 jc7 rfl rfl (by decide) w364 ?_
  refine J_getrN (k := 1) h dX7_value_17 jc5 rfl rfl (by decide) w305 ?_
  refine J_getrN (k := 2) h dX7_value_20 jc1 rfl rfl (by decide) w189 ?_
  refine J_iload_n h dX7_value_23 rfl rfl ?_
  refine J_bipush h dX7_value_24 cb_8 ?_
  refine J_imul h dX7_value_26 ?_
  refine J_iload_n h dX7_value_27 rfl rfl ?_
  refine J_iadd h dX7_value_28 ?_
  refine J_iald h dX7_value_29 rfl (s1) ?_
  exact k2
/-! LockstepNet.place(II)I -/
theorem rX7_place_0 {l : Launch} {G : jG} {X : jX} {Q : State → Prop} {n hg nc : Nat} {ret : Option FieldType} {mu : jM} {x1 : Int32} {x2 : Int32} (h : jOk l G X cX7_place 3 ret RX7 hg nc)
    (k1 : J l G X Q 3 2 [.ref 0, .int x1, .int x2] [.int x1, .ref 0] mu n) :
    J l G X Q 3 0 [.ref 0, .int x1, .int x2] [] mu n := by
  refine J_aload_n h dX7_place_0 rfl rfl ?_
  refine J_iload_n h dX7_place_1 rfl rfl ?_
  exact k1
theorem rX7_place_2 {l : Launch} {G : jG} {X : jX} {n hg nc : Nat} {ret : Option FieldType} {mu : jM} {Qr : Array Value → State → Outcome → State → Prop} {Ex Ec : String → jM → Prop} {nc' : Nat} {x1 : Int32} {x2 : Int32} {y0 : Int32} {Qc : jM → Prop} {h' : Nat} (h : jOk l G X cX7_place 3 ret RX7 hg nc) (ht : jNt X) (hM : jXv l G yX7_needNode cX7_needNode 2 h' nc' (.ref 0 :: [.int y0]) mu Qc Ec) (hh : h' < hg ∧ 2 ≤ 21) (hn : n + nc' ≤ nc) (kx : ∀ E mu', Ec E mu' → Ex E mu')
    (kk : ∀ mu', Qc mu' → J l G X (jRx G X nc Qr Ex) 3 5 [.ref 0, .int x1, .int x2] [] mu' (n + nc')) :
    J l G X (jRx G X nc Qr Ex) 3 2 [.ref 0, .int x1, .int x2] [.int y0, .ref 0] mu n :=
  J_callXv (As := [.int y0]) (rest := []) h ht dX7_place_2 hM (jgV w534 w536 w6 w76 w537) rfl (ci := 7) rfl rfl nmX7_needNode rfl hh (Nat.le_of_ble_eq_true rfl) rfl hn kx kk
theorem rX7_place_5 {l : Launch} {G : jG} {X : jX} {Q : State → Prop} {n hg nc : Nat} {ret : Option FieldType} {mu : jM} {x1 : Int32} {x2 : Int32} (h : jOk l G X cX7_place 3 ret RX7 hg nc)
    (k2 : x2 < 0 → J l G X Q 3 14 [.ref 0, .int x1, .int x2] [] mu n)
    (k4 : ¬ x2 < 0 → x2 ≤ 5 → J l G X Q 3 25 [.ref 0, .int x1, .int x2] [.ref 0] mu n)
    (k5 : ¬ x2 < 0 → ¬ x2 ≤ 5 → J l G X Q 3 14 [.ref 0, .int x1, .int x2] [] mu n) :
    J l G X Q 3 5 [.ref 0, .int x1, .int x2] [] mu n := by
  refine J_iload_n h dX7_place_5 rfl rfl ?_
  refine J_if_lt (tgt := 14) h dX7_place_6 (by decide) (fun q1 => ?_) (fun q1 => ?_)
  · skip
    exact k2 q1
  · skip
    refine J_iload_n h dX7_place_9 rfl rfl ?_
    refine J_iconst h dX7_place_10 ci_5 ?_
    refine J_icmp_le (tgt := 24) h dX7_place_11 (by decide) (fun q3 => ?_) (fun q3 => ?_)
    · skip
      refine J_aload_n h dX7_place_24 rfl rfl ?_
      exact k4 q1 q3
    · skip
      exact k5 q1 q3
theorem rX7_place_25 {l : Launch} {G : jG} {X : jX} {n hg nc : Nat} {ret : Option FieldType} {mu : jM} {Qr : Array Value → State → Outcome → State → Prop} {Ex Ec : String → jM → Prop} {nc' : Nat} {x1 : Int32} {x2 : Int32} {Qc : jM → Prop} {h' : Nat} (h : jOk l G X cX7_place 3 ret RX7 hg nc) (ht : jNt X) (hM : jXv l G yX7_needRun cX7_needRun 1 h' nc' (.ref 0 :: []) mu Qc Ec) (hh : h' < hg ∧ 1 ≤ 21) (hn : n + nc' ≤ nc) (kx : ∀ E mu', Ec E mu' → Ex E mu')
    (kk : ∀ mu', Qc mu' → J l G X (jRx G X nc Qr Ex) 3 28 [.ref 0, .int x1, .int x2] [] mu' (n + nc')) :
    J l G X (jRx G X nc Qr Ex) 3 25 [.ref 0, .int x1, .int x2] [.ref 0] mu n :=
  J_callXv (As := []) (rest := []) h ht dX7_place_25 hM (jgV w793 w795 w14 w76 w796) rfl (ci := 7) rfl rfl nmX7_needRun rfl hh (Nat.le_of_ble_eq_true rfl) rfl hn kx kk
theorem rX7_place_28 {l : Launch} {G : jG} {X : jX} {Q : State → Prop} {n hg nc : Nat} {ret : Option FieldType} {mu : jM} {x1 : Int32} {x2 : Int32} (h : jOk l G X cX7_place 3 ret RX7 hg nc)
    (k1 : J l G X Q 3 29 [.ref 0, .int x1, .int x2] [.int x2] mu n) :
    J l G X Q 3 28 [.ref 0, .int x1, .int x2] [] mu n := by
  refine J_iload_n h dX7_place_28 rfl rfl ?_
  exact k1
theorem rX7_place_29 {l : Launch} {G : jG} {X : jX} {Q : State → Prop} {n hg nc : Nat} {ret : Option FieldType} {mu : jM} {x1 : Int32} {x2 : Int32} {y0 : Int32} (h : jOk l G X cX7_place 3 ret RX7 hg nc)
    (k0 : y0 = 0 → J l G X Q 3 64 [.ref 0, .int x1, .int x2] [] mu n)
    (k1 : y0 = 1 → J l G X Q 3 77 [.ref 0, .int x1, .int x2] [] mu n)
    (k2 : y0 = 2 → J l G X Q 3 90 [.ref 0, .int x1, .int x2] [] mu n)
    (k3 : y0 = 3 → J l G X Q 3 103 [.ref 0, .int x1, .int x2] [] mu n)
    (k4 : y0 = 4 → J l G X Q 3 119 [.ref 0, .int x1, .int x2] [] mu n)
    (kd : ¬ y0 = 0 → ¬ y0 = 1 → ¬ y0 = 2 → ¬ y0 = 3 → ¬ y0 = 4 → J l G X Q 3 135 [.ref 0, .int x1, .int x2] [] mu n) :
    J l G X Q 3 29 [.ref 0, .int x1, .int x2] [.int y0] mu n := by
  by_cases e0 : y0 = 0
  · subst e0
    exact J_tableIn (tgt := 64) (off := 35) h dX7_place_29 (by decide) (by decide) (by decide) (by decide) (k0 rfl)
  by_cases e1 : y0 = 1
  · subst e1
    exact J_tableIn (tgt := 77) (off := 48) h dX7_place_29 (by decide) (by decide) (by decide) (by decide) (k1 rfl)
  by_cases e2 : y0 = 2
  · subst e2
    exact J_tableIn (tgt := 90) (off := 61) h dX7_place_29 (by decide) (by decide) (by decide) (by decide) (k2 rfl)
  by_cases e3 : y0 = 3
  · subst e3
    exact J_tableIn (tgt := 103) (off := 74) h dX7_place_29 (by decide) (by decide) (by decide) (by decide) (k3 rfl)
  by_cases e4 : y0 = 4
  · subst e4
    exact J_tableIn (tgt := 119) (off := 90) h dX7_place_29 (by decide) (by decide) (by decide) (by decide) (k4 rfl)
  refine J_tableOut (tgt := 135) h dX7_place_29 ?_ (by decide) (kd e0 e1 e2 e3 e4)
  refine jout 5 (by decide) (fun k hk => ?_)
  match k, hk with
  | 0, _ => exact lv_neT e0 (by decide)
  | 1, _ => exact lv_neT e1 (by decide)
  | 2, _ => exact lv_neT e2 (by decide)
  | 3, _ => exact lv_neT e3 (by decide)
  | 4, _ => exact lv_neT e4 (by decide)
  | k + 5, hk => omega
theorem rX7_place_64 {l : Launch} {G : jG} {X : jX} {Q : State → Prop} {n hg nc : Nat} {ret : Option FieldType} {mu : jM} {x1 : Int32} {x2 : Int32} (h : jOk l G X cX7_place 3 ret RX7 hg nc) (s1 : vp_in x1 24)
    (k2 : J l G X Q 3 76 [.ref 0, .int x1, .int x2] [.int (mu 34 (x1).toNatClampNeg)] mu n) :
    J l G X Q 3 64 [.ref 0, .int x1, .int x2] [] mu n := by
  refine J_aload_n h dX7_place_64 rfl rfl ?_
  refine J_getr (k := 4) h dX7_place_65 jc7 rfl rfl (by decide) w364 ?_
  refine J_getrN (k := 3) h dX7_place_68 jc5 rfl rfl (by decide) w309 ?_
  refine J_getrN (k := 0) h dX7_place_71 jc6 rfl rfl (by decide) w253 ?_
  refine J_iload_n h dX7_place_74 rfl rfl ?_
  refine J_iald h dX7_place_75 rfl (s1) ?_
  exact k2
theorem rX7_place_77 {l : Launch} {G : jG} {X : jX} {Q : State → Prop} {n hg nc : Nat} {ret : Option FieldType} {mu : jM} {x1 : Int32} {x2 : Int32} (h : jOk l G X cX7_place 3 ret RX7 hg nc) (s1 : vp_in x1 24)
    (k2 : J l G X Q 3 89 [.ref 0, .int x1, .int x2] [.int (mu 35 (x1).toNatClampNeg)] mu n) :
    J l G X Q 3 77 [.ref 0, .int x1, .int x2] [] mu n := by
  refine J_aload_n h dX7_place_77 rfl rfl ?_
  refine J_getr (k := 4) h dX7_place_78 jc7 rfl rfl (by decide) w364 ?_
  refine J_getrN (k := 3) h dX7_place_81 jc5 rfl rfl (by decide) w309 ?_
  refine J_getrN (k := 1) h dX7_place_84 jc6 rfl rfl (by decide) w255 ?_
  refine J_iload_n h dX7_place_87 rfl rfl ?_
  refine J_iald h dX7_place_88 rfl (s1) ?_
  exact k2
theorem rX7_place_90 {l : Launch} {G : jG} {X : jX} {Q : State → Prop} {n hg nc : Nat} {ret : Option FieldType} {mu : jM} {x1 : Int32} {x2 : Int32} (h : jOk l G X cX7_place 3 ret RX7 hg nc) (s1 : vp_in x1 24)
    (k2 : J l G X Q 3 102 [.ref 0, .int x1, .int x2] [.int (mu 42 (x1).toNatClampNeg)] mu n) :
    J l G X Q 3 90 [.ref 0, .int x1, .int x2] [] mu n := by
  refine J_aload_n h dX7_place_90 rfl rfl ?_
  refine J_getr (k := 4) h dX7_place_91 jc7 rfl rfl (by decide) w364 ?_
  refine J_getrN (k := 4) h dX7_place_94 jc5 rfl rfl (by decide) w311 ?_
  refine J_getrN (k := 3) h dX7_place_97 jc0 rfl rfl (by decide) w281 ?_
  refine J_iload_n h dX7_place_100 rfl rfl ?_
  refine J_iald h dX7_place_101 rfl (s1) ?_
  exact k2
theorem rX7_place_103 {l : Launch} {G : jG} {X : jX} {Q : State → Prop} {n hg nc : Nat} {ret : Option FieldType} {mu : jM} {x1 : Int32} {x2 : Int32} (h : jOk l G X cX7_place 3 ret RX7 hg nc) (s1 : vp_in x1 24)
    (k2 : J l G X Q 3 118 [.ref 0, .int x1, .int x2] [.int (mu 39 (x1).toNatClampNeg)] mu n) :
    J l G X Q 3 103 [.ref 0, .int x1, .int x2] [] mu n := by
  refine J_aload_n h dX7_place_103 rfl rfl ?_
  refine J_getr (k := 4) h dX7_place_104 jc7 rfl rfl (by decide) w364 ?_
  refine J_getrN (k := 4) h dX7_place_107 jc5 rfl rfl (by decide) w311 ?_
  refine J_getrN (k := 2) h dX7_place_110 jc0 rfl rfl (by decide) w279 ?_
  refine J_getrN (k := 0) h dX7_place_113 jc6 rfl rfl (by decide) w253 ?_
  refine J_iload_n h dX7_place_116 rfl rfl ?_
  refine J_iald h dX7_place_117 rfl (s1) ?_
  exact k2
theorem rX7_place_119 {l : Launch} {G : jG} {X : jX} {Q : State → Prop} {n hg nc : Nat} {ret : Option FieldType} {mu : jM} {x1 : Int32} {x2 : Int32} (h : jOk l G X cX7_place 3 ret RX7 hg nc) (s1 : vp_in x1 24)
    (k2 : J l G X Q 3 134 [.ref 0, .int x1, .int x2] [.int (mu 40 (x1).toNatClampNeg)] mu n) :
    J l G X Q 3 119 [.ref 0, .int x1, .int x2] [] mu n := by
  refine J_aload_n h dX7_place_119 rfl rfl ?_
  refine J_getr (k := 4) h dX7_place_120 jc7 rfl rfl (by decide) w364 ?_
  refine J_getrN (k := 4) h dX7_place_123 jc5 rfl rfl (by decide) w311 ?_
  refine J_getrN (k := 2) h dX7_place_126 jc0 rfl rfl (by decide) w279 ?_
  refine J_getrN (k := 1) h dX7_place_129 jc6 rfl rfl (by decide) w255 ?_
  refine J_iload_n h dX7_place_132 rfl rfl ?_
  refine J_iald h dX7_place_133 rfl (s1) ?_
  exact k2
theorem rX7_place_135 {l : Launch} {G : jG} {X : jX} {Q : State → Prop} {n hg nc : Nat} {ret : Option FieldType} {mu : jM} {x1 : Int32} {x2 : Int32} (h : jOk l G X cX7_place 3 ret RX7 hg nc) (s1 : vp_in x1 24)
    (k2 : J l G X Q 3 147 [.ref 0, .int x1, .int x2] [.int (mu 43 (x1).toNatClampNeg)] mu n) :
    J l G X Q 3 135 [.ref 0, .int x1, .int x2] [] mu n := by
  refine J_aload_n h dX7_place_135 rfl rfl ?_
  refine J_getr (k := 4) h dX7_place_136 jc7 rfl rfl (by decide) w364 ?_
  refine J_getrN (k := 4) h dX7_place_139 jc5 rfl rfl (by decide) w311 ?_
  refine J_getrN (k := 4) h dX7_place_142 jc0 rfl rfl (by decide) w284 ?_
  refine J_iload_n h dX7_place_145 rfl rfl ?_
  refine J_iald h dX7_place_146 rfl (s1) ?_
  exact k2
theorem rX7_place_147 {l : Launch} {G : jG} {X : jX} {Q : State → Prop} {n hg nc : Nat} {ret : Option FieldType} {mu : jM} {x1 : Int32} {x2 : Int32} {y0 : Int32} {Qc : Int32 → jM → Prop} {h' : Nat} (h : jOk l G X cX7_place 3 ret RX7 hg nc) (hM : jCi l G yJ6_bitCount_0f7a4 cJ6_bitCount_0f7a4 1 h' (some .int) [.int y0] mu Qc) (hh : h' < hg ∧ 1 ≤ 21) (hn : n ≤ nc)
    (kk : ∀ v mu', Qc v mu' → J l G X Q 3 150 [.ref 0, .int x1, .int x2] (.int v :: []) mu' n) :
    J l G X Q 3 147 [.ref 0, .int x1, .int x2] [.int y0] mu n :=
  J_callSi (As := [.int y0]) (rest := []) h dX7_place_147 hM (jgS w765 w690 w95 w691) nmJ6_bitCount_0f7a4 rfl hh (Nat.le_of_ble_eq_true rfl) rfl kk hn
/-! LockstepNet.chosen(II)I -/
theorem rX7_chosen_0 {l : Launch} {G : jG} {X : jX} {Q : State → Prop} {n hg nc : Nat} {ret : Option FieldType} {mu : jM} {x1 : Int32} {x2 : Int32} (h : jOk l G X cX7_chosen 3 ret RX7 hg nc)
    (k1 : J l G X Q 3 2 [.ref 0, .int x1, .int x2] [.int x1, .ref 0] mu n) :
    J l G X Q 3 0 [.ref 0, .int x1, .int x2] [] mu n := by
  refine J_aload_n h dX7_chosen_0 rfl rfl ?_
  refine J_iload_n h dX7_chosen_1 rfl rfl ?_
  exact k1
theorem rX7_chosen_2 {l : Launch} {G : jG} {X : jX} {n hg nc : Nat} {ret : Option FieldType} {mu : jM} {Qr : Array Value → State → Outcome → State → Prop} {Ex Ec : String → jM → Prop} {nc' : Nat} {x1 : Int32} {x2 : Int32} {y0 : Int32} {Qc : jM → Prop} {h' : Nat} (h : jOk l G X cX7_chosen 3 ret RX7 hg nc) (ht : jNt X) (hM : jXv l G yX7_needCluster cX7_needCluster 2 h' nc' (.ref 0 :: [.int y0]) mu Qc Ec) (hh : h' < hg ∧ 2 ≤ 21) (hn : n + nc' ≤ nc) (kx : ∀ E mu', Ec E mu' → Ex E mu')
    (kk : ∀ mu', Qc mu' → J l G X (jRx G X nc Qr Ex) 3 5 [.ref 0, .int x1, .int x2] [] mu' (n + nc')) :
    J l G X (jRx G X nc Qr Ex) 3 2 [.ref 0, .int x1, .int x2] [.int y0, .ref 0] mu n :=
  J_callXv (As := [.int y0]) (rest := []) h ht dX7_chosen_2 hM (jgV w965 w967 w30 w76 w968) rfl (ci := 7) rfl rfl nmX7_needCluster rfl hh (Nat.le_of_ble_eq_true rfl) rfl hn kx kk
theorem rX7_chosen_5 {l : Launch} {G : jG} {X : jX} {Q : State → Prop} {n hg nc : Nat} {ret : Option FieldType} {mu : jM} {x1 : Int32} {x2 : Int32} (h : jOk l G X cX7_chosen 3 ret RX7 hg nc)
    (k1 : J l G X Q 3 7 [.ref 0, .int x1, .int x2] [.int x2, .ref 0] mu n) :
    J l G X Q 3 5 [.ref 0, .int x1, .int x2] [] mu n := by
  refine J_aload_n h dX7_chosen_5 rfl rfl ?_
  refine J_iload_n h dX7_chosen_6 rfl rfl ?_
  exact k1
theorem rX7_chosen_7 {l : Launch} {G : jG} {X : jX} {n hg nc : Nat} {ret : Option FieldType} {mu : jM} {Qr : Array Value → State → Outcome → State → Prop} {Ex Ec : String → jM → Prop} {nc' : Nat} {x1 : Int32} {x2 : Int32} {y0 : Int32} {Qc : jM → Prop} {h' : Nat} (h : jOk l G X cX7_chosen 3 ret RX7 hg nc) (ht : jNt X) (hM : jXv l G yX7_needCluster cX7_needCluster 2 h' nc' (.ref 0 :: [.int y0]) mu Qc Ec) (hh : h' < hg ∧ 2 ≤ 21) (hn : n + nc' ≤ nc) (kx : ∀ E mu', Ec E mu' → Ex E mu')
    (kk : ∀ mu', Qc mu' → J l G X (jRx G X nc Qr Ex) 3 10 [.ref 0, .int x1, .int x2] [] mu' (n + nc')) :
    J l G X (jRx G X nc Qr Ex) 3 7 [.ref 0, .int x1, .int x2] [.int y0, .ref 0] mu n :=
  J_callXv (As := [.int y0]) (rest := []) h ht dX7_chosen_7 hM (jgV w965 w967 w30 w76 w968) rfl (ci := 7) rfl rfl nmX7_needCluster rfl hh (Nat.le_of_ble_eq_true rfl) rfl hn kx kk
theorem rX7_chosen_10 {l : Launch} {G : jG} {X : jX} {Q : State → Prop} {n hg nc : Nat} {ret : Option FieldType} {mu : jM} {x1 : Int32} {x2 : Int32} (h : jOk l G X cX7_chosen 3 ret RX7 hg nc) (s1 : vp_in ((x1 * 24) + x2) 576)
    (k2 : J l G X Q 3 27 [.ref 0, .int x1, .int x2] [.int (mu 44 (((x1 * 24) + x2)).toNatClampNeg)] mu n) :
    J l G X Q 3 10 [.ref 0, .int x1, .int x2] [] mu n := by
  refine J_aload_n h dX7_chosen_10 rfl rfl ?_
  refine J_getr (k := 4) h dX7_chosen_11 jc7 rfl rfl (by decide) w364 ?_
  refine J_getrN (k := 4) h dX7_chosen_14 jc5 rfl rfl (by decide) w311 ?_
  refine J_getrN (k := 5) h dX7_chosen_17 jc0 rfl rfl (by decide) w286 ?_
  refine J_iload_n h dX7_chosen_20 rfl rfl ?_
  refine J_bipush h dX7_chosen_21 cb_24 ?_
  refine J_imul h dX7_chosen_23 ?_
  refine J_iload_n h dX7_chosen_24 rfl rfl ?_
  refine J_iadd h dX7_chosen_25 ?_
  refine J_iald h dX7_chosen_26 rfl (s1) ?_
  exact k2
/-! LockstepNet.count(I)I -/
theorem rX7_count_0 {l : Launch} {G : jG} {X : jX} {Q : State → Prop} {n hg nc : Nat} {ret : Option FieldType} {mu : jM} {x1 : Int32} (h : jOk l G X cX7_count 2 ret RX7 hg nc)
    (k2 : (mu 0 5) = 0 → J l G X Q 2 17 [.ref 0, .int x1] [] mu n)
    (k4 : ¬ (mu 0 5) = 0 → x1 < 0 → J l G X Q 2 17 [.ref 0, .int x1] [] mu n)
    (k6 : ¬ (mu 0 5) = 0 → ¬ x1 < 0 → x1 ≤ 6 → J l G X Q 2 28 [.ref 0, .int x1] [.int x1] mu n)
    (k7 : ¬ (mu 0 5) = 0 → ¬ x1 < 0 → ¬ x1 ≤ 6 → J l G X Q 2 17 [.ref 0, .int x1] [] mu n) :
    J l G X Q 2 0 [.ref 0, .int x1] [] mu n := by
  refine J_aload_n h dX7_count_0 rfl rfl ?_
  refine J_geti (k := 5) h dX7_count_1 jc7 rfl rfl (by decide) w365 ?_
  refine J_if_eq (tgt := 17) h dX7_count_4 (by decide) (fun q1 => ?_) (fun q1 => ?_)
  · skip
    exact k2 q1
  · skip
    refine J_iload_n h dX7_count_7 rfl rfl ?_
    refine J_if_lt (tgt := 17) h dX7_count_8 (by decide) (fun q3 => ?_) (fun q3 => ?_)
    · skip
      exact k4 q1 q3
    · skip
      refine J_iload_n h dX7_count_11 rfl rfl ?_
      refine J_bipush h dX7_count_12 cb_6 ?_
      refine J_icmp_le (tgt := 27) h dX7_count_14 (by decide) (fun q5 => ?_) (fun q5 => ?_)
      · skip
        refine J_iload_n h dX7_count_27 rfl rfl ?_
        exact k6 q1 q3 q5
      · skip
        exact k7 q1 q3 q5
theorem rX7_count_28 {l : Launch} {G : jG} {X : jX} {Q : State → Prop} {n hg nc : Nat} {ret : Option FieldType} {mu : jM} {x1 : Int32} {y0 : Int32} (h : jOk l G X cX7_count 2 ret RX7 hg nc)
    (k0 : y0 = 0 → J l G X Q 2 68 [.ref 0, .int x1] [] mu n)
    (k1 : y0 = 1 → J l G X Q 2 68 [.ref 0, .int x1] [] mu n)
    (k2 : y0 = 2 → J l G X Q 2 68 [.ref 0, .int x1] [] mu n)
    (k3 : y0 = 3 → J l G X Q 2 81 [.ref 0, .int x1] [] mu n)
    (k4 : y0 = 4 → J l G X Q 2 89 [.ref 0, .int x1] [] mu n)
    (k5 : y0 = 5 → J l G X Q 2 99 [.ref 0, .int x1] [] mu n)
    (kd : ¬ y0 = 0 → ¬ y0 = 1 → ¬ y0 = 2 → ¬ y0 = 3 → ¬ y0 = 4 → ¬ y0 = 5 → J l G X Q 2 111 [.ref 0, .int x1] [] mu n) :
    J l G X Q 2 28 [.ref 0, .int x1] [.int y0] mu n := by
  by_cases e0 : y0 = 0
  · subst e0
    exact J_tableIn (tgt := 68) (off := 40) h dX7_count_28 (by decide) (by decide) (by decide) (by decide) (k0 rfl)
  by_cases e1 : y0 = 1
  · subst e1
    exact J_tableIn (tgt := 68) (off := 40) h dX7_count_28 (by decide) (by decide) (by decide) (by decide) (k1 rfl)
  by_cases e2 : y0 = 2
  · subst e2
    exact J_tableIn (tgt := 68) (off := 40) h dX7_count_28 (by decide) (by decide) (by decide) (by decide) (k2 rfl)
  by_cases e3 : y0 = 3
  · subst e3
    exact J_tableIn (tgt := 81) (off := 53) h dX7_count_28 (by decide) (by decide) (by decide) (by decide) (k3 rfl)
  by_cases e4 : y0 = 4
  · subst e4
    exact J_tableIn (tgt := 89) (off := 61) h dX7_count_28 (by decide) (by decide) (by decide) (by decide) (k4 rfl)
  by_cases e5 : y0 = 5
  · subst e5
    exact J_tableIn (tgt := 99) (off := 71) h dX7_count_28 (by decide) (by decide) (by decide) (by decide) (k5 rfl)
  refine J_tableOut (tgt := 111) h dX7_count_28 ?_ (by decide) (kd e0 e1 e2 e3 e4 e5)
  refine jout 6 (by decide) (fun k hk => ?_)
  match k, hk with
  | 0, _ => exact lv_neT e0 (by decide)
  | 1, _ => exact lv_neT e1 (by decide)
  | 2, _ => exact lv_neT e2 (by decide)
  | 3, _ => exact lv_neT e3 (by decide)
  | 4, _ => exact lv_neT e4 (by decide)
  | 5, _ => exact lv_neT e5 (by decide)
  | k + 6, hk => omega
theorem rX7_count_68 {l : Launch} {G : jG} {X : jX} {Q : State → Prop} {n hg nc : Nat} {ret : Option FieldType} {mu : jM} {x1 : Int32} (h : jOk l G X cX7_count 2 ret RX7 hg nc) (s1 : vp_in x1 3)
    (k2 : J l G X Q 2 80 [.ref 0, .int x1] [.int (mu 32 (x1).toNatClampNeg)] mu n) :
    J l G X Q 2 68 [.ref 0, .int x1] [] mu n := by
  refine J_aload_n h dX7_count_68 rfl rfl ?_
  refine J_getr (k := 4) h dX7_count_69 jc7 rfl rfl (by decide) w364 ?_
  refine J_getrN (k := 2) h dX7_count_72 jc5 rfl rfl (by decide) w307 ?_
  refine J_getrN (k := 1) h dX7_count_75 jc3 rfl rfl (by decide) w235 ?_
  refine J_iload_n h dX7_count_78 rfl rfl ?_
  refine J_iald h dX7_count_79 rfl (s1) ?_
  exact k2
theorem rX7_count_81 {l : Launch} {G : jG} {X : jX} {Q : State → Prop} {n hg nc : Nat} {ret : Option FieldType} {mu : jM} {x1 : Int32} (h : jOk l G X cX7_count 2 ret RX7 hg nc)
    (k1 : J l G X Q 2 88 [.ref 0, .int x1] [.int (mu 19 12)] mu n) :
    J l G X Q 2 81 [.ref 0, .int x1] [] mu n := by
  refine J_aload_n h dX7_count_81 rfl rfl ?_
  refine J_getr (k := 4) h dX7_count_82 jc7 rfl rfl (by decide) w364 ?_
  refine J_getiN (k := 12) h dX7_count_85 jc5 rfl rfl (by decide) w322 ?_
  exact k1
theorem rX7_count_89 {l : Launch} {G : jG} {X : jX} {Q : State → Prop} {n hg nc : Nat} {ret : Option FieldType} {mu : jM} {x1 : Int32} (h : jOk l G X cX7_count 2 ret RX7 hg nc)
    (k1 : J l G X Q 2 98 [.ref 0, .int x1] [.int (2 * (mu 6 1))] mu n) :
    J l G X Q 2 89 [.ref 0, .int x1] [] mu n := by
  refine J_iconst h dX7_count_89 ci_2 ?_
  refine J_aload_n h dX7_count_90 rfl rfl ?_
  refine J_getr (k := 1) h dX7_count_91 jc7 rfl rfl (by decide) w361 ?_
  refine J_getiN (k := 1) h dX7_count_94 jc2 rfl rfl (by decide) w146 ?_
  refine J_imul h dX7_count_97 ?_
  exact k1
theorem rX7_count_99 {l : Launch} {G : jG} {X : jX} {Q : State → Prop} {n hg nc : Nat} {ret : Option FieldType} {mu : jM} {x1 : Int32} (h : jOk l G X cX7_count 2 ret RX7 hg nc)
    (k1 : J l G X Q 2 110 [.ref 0, .int x1] [.int (2 * ((mu 6 0) - 1))] mu n) :
    J l G X Q 2 99 [.ref 0, .int x1] [] mu n := by
  refine J_iconst h dX7_count_99 ci_2 ?_
  refine J_aload_n h dX7_count_100 rfl rfl ?_
  refine J_getr (k := 1) h dX7_count_101 jc7 rfl rfl (by decide) w361 ?_
  refine J_getiN (k := 0) h dX7_count_104 jc2 rfl rfl (by decide) w144 ?_
  refine J_iconst h dX7_count_107 ci_1 ?_
  refine J_isub h dX7_count_108 ?_
  refine J_imul h dX7_count_109 ?_
  exact k1
theorem rX7_count_111 {l : Launch} {G : jG} {X : jX} {Q : State → Prop} {n hg nc : Nat} {ret : Option FieldType} {mu : jM} {x1 : Int32} (h : jOk l G X cX7_count 2 ret RX7 hg nc)
    (k1 : J l G X Q 2 144 [.ref 0, .int x1] [.int ((4 * ((mu 6 0) - (mu 37 0))) + (2 * (mu 37 1)))] mu n) :
    J l G X Q 2 111 [.ref 0, .int x1] [] mu n := by
  refine J_iconst h dX7_count_111 ci_4 ?_
  refine J_aload_n h dX7_count_112 rfl rfl ?_
  refine J_getr (k := 1) h dX7_count_113 jc7 rfl rfl (by decide) w361 ?_
  refine J_getiN (k := 0) h dX7_count_116 jc2 rfl rfl (by decide) w144 ?_
  refine J_aload_n h dX7_count_119 rfl rfl ?_
  refine J_getr (k := 4) h dX7_count_120 jc7 rfl rfl (by decide) w364 ?_
  refine J_getrN (k := 4) h dX7_count_123 jc5 rfl rfl (by decide) w311 ?_
  refine J_getiN (k := 0) h dX7_count_126 jc0 rfl rfl (by decide) w274 ?_
  refine J_isub h dX7_count_129 ?_
  refine J_imul h dX7_count_130 ?_
  refine J_iconst h dX7_count_131 ci_2 ?_
  refine J_aload_n h dX7_count_132 rfl rfl ?_
  refine J_getr (k := 4) h dX7_count_133 jc7 rfl rfl (by decide) w364 ?_
  refine J_getrN (k := 4) h dX7_count_136 jc5 rfl rfl (by decide) w311 ?_
  refine J_getiN (k := 1) h dX7_count_139 jc0 rfl rfl (by decide) w276 ?_
  refine J_imul h dX7_count_142 ?_
  refine J_iadd h dX7_count_143 ?_
  exact k1
/-! LockstepNet.isWay(I)Z -/
theorem rX7_isWay_0 {l : Launch} {G : jG} {X : jX} {Q : State → Prop} {n hg nc : Nat} {ret : Option FieldType} {mu : jM} {x0 : Int32} (h : jOk l G X cX7_isWay 1 ret RX7 hg nc)
    (k2 : x0 < 0 → J l G X Q 1 13 [.int x0] [] mu n)
    (k4 : ¬ x0 < 0 → 2 < x0 → J l G X Q 1 13 [.int x0] [] mu n)
    (k5 : ¬ x0 < 0 → ¬ 2 < x0 → J l G X Q 1 14 [.int x0] [.int 1] mu n) :
    J l G X Q 1 0 [.int x0] [] mu n := by
  refine J_iload_n h dX7_isWay_0 rfl rfl ?_
  refine J_if_lt (tgt := 13) h dX7_isWay_1 (by decide) (fun q1 => ?_) (fun q1 => ?_)
  · skip
    exact k2 q1
  · skip
    refine J_iload_n h dX7_isWay_4 rfl rfl ?_
    refine J_iconst h dX7_isWay_5 ci_2 ?_
    refine J_icmp_gt (tgt := 13) h dX7_isWay_6 (by decide) (fun q3 => ?_) (fun q3 => ?_)
    · skip
      exact k4 q1 q3
    · skip
      refine J_iconst h dX7_isWay_9 ci_1 ?_
      refine J_goto (tgt := 14) h dX7_isWay_10 (by decide) ?_
      exact k5 q1 q3
theorem rX7_isWay_13 {l : Launch} {G : jG} {X : jX} {Q : State → Prop} {n hg nc : Nat} {ret : Option FieldType} {mu : jM} {x0 : Int32} (h : jOk l G X cX7_isWay 1 ret RX7 hg nc)
    (k1 : J l G X Q 1 14 [.int x0] [.int 0] mu n) :
    J l G X Q 1 13 [.int x0] [] mu n := by
  refine J_iconst h dX7_isWay_13 ci_0 ?_
  exact k1
/-! LockstepNet.needNode(I)V -/
theorem rX7_needNode_0 {l : Launch} {G : jG} {X : jX} {Q : State → Prop} {n hg nc : Nat} {ret : Option FieldType} {mu : jM} {x1 : Int32} (h : jOk l G X cX7_needNode 2 ret RX7 hg nc)
    (k2 : x1 < 0 → J l G X Q 2 15 [.ref 0, .int x1] [] mu n)
    (k4 : ¬ x1 < 0 → x1 < (mu 6 0) → J l G X Q 2 26 [.ref 0, .int x1] [] mu n)
    (k5 : ¬ x1 < 0 → ¬ x1 < (mu 6 0) → J l G X Q 2 15 [.ref 0, .int x1] [] mu n) :
    J l G X Q 2 0 [.ref 0, .int x1] [] mu n := by
  refine J_iload_n h dX7_needNode_0 rfl rfl ?_
  refine J_if_lt (tgt := 15) h dX7_needNode_1 (by decide) (fun q1 => ?_) (fun q1 => ?_)
  · skip
    exact k2 q1
  · skip
    refine J_iload_n h dX7_needNode_4 rfl rfl ?_
    refine J_aload_n h dX7_needNode_5 rfl rfl ?_
    refine J_getr (k := 1) h dX7_needNode_6 jc7 rfl rfl (by decide) w361 ?_
    refine J_getiN (k := 0) h dX7_needNode_9 jc2 rfl rfl (by decide) w144 ?_
    refine J_icmp_lt (tgt := 26) h dX7_needNode_12 (by decide) (fun q3 => ?_) (fun q3 => ?_)
    · skip
      exact k4 q1 q3
    · skip
      exact k5 q1 q3
/-! LockstepNet.needRegister(I)V -/
theorem rX7_needRegister_0 {l : Launch} {G : jG} {X : jX} {Q : State → Prop} {n hg nc : Nat} {ret : Option FieldType} {mu : jM} {x0 : Int32} (h : jOk l G X cX7_needRegister 1 ret RX7 hg nc)
    (k2 : x0 < 0 → J l G X Q 1 10 [.int x0] [] mu n)
    (k4 : ¬ x0 < 0 → x0 < 8 → J l G X Q 1 21 [.int x0] [] mu n)
    (k5 : ¬ x0 < 0 → ¬ x0 < 8 → J l G X Q 1 10 [.int x0] [] mu n) :
    J l G X Q 1 0 [.int x0] [] mu n := by
  refine J_iload_n h dX7_needRegister_0 rfl rfl ?_
  refine J_if_lt (tgt := 10) h dX7_needRegister_1 (by decide) (fun q1 => ?_) (fun q1 => ?_)
  · skip
    exact k2 q1
  · skip
    refine J_iload_n h dX7_needRegister_4 rfl rfl ?_
    refine J_bipush h dX7_needRegister_5 cb_8 ?_
    refine J_icmp_lt (tgt := 21) h dX7_needRegister_7 (by decide) (fun q3 => ?_) (fun q3 => ?_)
    · skip
      exact k4 q1 q3
    · skip
      exact k5 q1 q3
/-! LockstepNet.needLetter(I)V -/
theorem rX7_needLetter_0 {l : Launch} {G : jG} {X : jX} {Q : State → Prop} {n hg nc : Nat} {ret : Option FieldType} {mu : jM} {x1 : Int32} (h : jOk l G X cX7_needLetter 2 ret RX7 hg nc)
    (k2 : (mu 0 5) = 0 → J l G X Q 2 25 [.ref 0, .int x1] [] mu n)
    (k4 : ¬ (mu 0 5) = 0 → x1 < 0 → J l G X Q 2 25 [.ref 0, .int x1] [] mu n)
    (k6 : ¬ (mu 0 5) = 0 → ¬ x1 < 0 → x1 < (mu 25 2) → J l G X Q 2 36 [.ref 0, .int x1] [] mu n)
    (k7 : ¬ (mu 0 5) = 0 → ¬ x1 < 0 → ¬ x1 < (mu 25 2) → J l G X Q 2 25 [.ref 0, .int x1] [] mu n) :
    J l G X Q 2 0 [.ref 0, .int x1] [] mu n := by
  refine J_aload_n h dX7_needLetter_0 rfl rfl ?_
  refine J_geti (k := 5) h dX7_needLetter_1 jc7 rfl rfl (by decide) w365 ?_
  refine J_if_eq (tgt := 25) h dX7_needLetter_4 (by decide) (fun q1 => ?_) (fun q1 => ?_)
  · skip
    exact k2 q1
  · skip
    refine J_iload_n h dX7_needLetter_7 rfl rfl ?_
    refine J_if_lt (tgt := 25) h dX7_needLetter_8 (by decide) (fun q3 => ?_) (fun q3 => ?_)
    · skip
      exact k4 q1 q3
    · skip
      refine J_iload_n h dX7_needLetter_11 rfl rfl ?_
      refine J_aload_n h dX7_needLetter_12 rfl rfl ?_
      refine J_getr (k := 4) h dX7_needLetter_13 jc7 rfl rfl (by decide) w364 ?_
      refine J_getrN (k := 2) h dX7_needLetter_16 jc5 rfl rfl (by decide) w307 ?_
      refine J_getiN (k := 2) h dX7_needLetter_19 jc3 rfl rfl (by decide) w237 ?_
      refine J_icmp_lt (tgt := 36) h dX7_needLetter_22 (by decide) (fun q5 => ?_) (fun q5 => ?_)
      · skip
        exact k6 q1 q3 q5
      · skip
        exact k7 q1 q3 q5
/-! LockstepNet.needCluster(I)V -/
theorem rX7_needCluster_0 {l : Launch} {G : jG} {X : jX} {Q : State → Prop} {n hg nc : Nat} {ret : Option FieldType} {mu : jM} {x1 : Int32} (h : jOk l G X cX7_needCluster 2 ret RX7 hg nc)
    (k2 : (mu 0 5) = 0 → J l G X Q 2 25 [.ref 0, .int x1] [] mu n)
    (k4 : ¬ (mu 0 5) = 0 → x1 < 0 → J l G X Q 2 25 [.ref 0, .int x1] [] mu n)
    (k6 : ¬ (mu 0 5) = 0 → ¬ x1 < 0 → x1 < (mu 37 0) → J l G X Q 2 36 [.ref 0, .int x1] [] mu n)
    (k7 : ¬ (mu 0 5) = 0 → ¬ x1 < 0 → ¬ x1 < (mu 37 0) → J l G X Q 2 25 [.ref 0, .int x1] [] mu n) :
    J l G X Q 2 0 [.ref 0, .int x1] [] mu n := by
  refine J_aload_n h dX7_needCluster_0 rfl rfl ?_
  refine J_geti (k := 5) h dX7_needCluster_1 jc7 rfl rfl (by decide) w365 ?_
  refine J_if_eq (tgt := 25) h dX7_needCluster_4 (by decide) (fun q1 => ?_) (fun q1 => ?_)
  · skip
    exact k2 q1
  · skip
    refine J_iload_n h dX7_needCluster_7 rfl rfl ?_
    refine J_if_lt (tgt := 25) h dX7_needCluster_8 (by decide) (fun q3 => ?_) (fun q3 => ?_)
    · skip
      exact k4 q1 q3
    · skip
      refine J_iload_n h dX7_needCluster_11 rfl rfl ?_
      refine J_aload_n h dX7_needCluster_12 rfl rfl ?_
      refine J_getr (k := 4) h dX7_needCluster_13 jc7 rfl rfl (by decide) w364 ?_
      refine J_getrN (k := 4) h dX7_needCluster_16 jc5 rfl rfl (by decide) w311 ?_
      refine J_getiN (k := 0) h dX7_needCluster_19 jc0 rfl rfl (by decide) w274 ?_
      refine J_icmp_lt (tgt := 36) h dX7_needCluster_22 (by decide) (fun q5 => ?_) (fun q5 => ?_)
      · skip
        exact k6 q1 q3 q5
      · skip
        exact k7 q1 q3 q5
/-! LockstepNet.needRun()V -/
theorem rX7_needRun_0 {l : Launch} {G : jG} {X : jX} {Q : State → Prop} {n hg nc : Nat} {ret : Option FieldType} {mu : jM} (h : jOk l G X cX7_needRun 1 ret RX7 hg nc)
    (k2 : ¬ (mu 0 5) = 0 → J l G X Q 1 18 [.ref 0] [] mu n)
    (k3 : (mu 0 5) = 0 → J l G X Q 1 7 [.ref 0] [] mu n) :
    J l G X Q 1 0 [.ref 0] [] mu n := by
  refine J_aload_n h dX7_needRun_0 rfl rfl ?_
  refine J_geti (k := 5) h dX7_needRun_1 jc7 rfl rfl (by decide) w365 ?_
  refine J_if_ne (tgt := 18) h dX7_needRun_4 (by decide) (fun q1 => ?_) (fun q1 => ?_)
  · skip
    exact k2 q1
  · skip
    exact k3 q1
/-! LockstepNet.refuseWithRun()V -/
theorem rX7_refuseWithRun_0 {l : Launch} {G : jG} {X : jX} {Q : State → Prop} {n hg nc : Nat} {ret : Option FieldType} {mu : jM} (h : jOk l G X cX7_refuseWithRun 1 ret RX7 hg nc)
    (k2 : (mu 0 5) = 0 → J l G X Q 1 18 [.ref 0] [] mu n)
    (k3 : ¬ (mu 0 5) = 0 → J l G X Q 1 7 [.ref 0] [] mu n) :
    J l G X Q 1 0 [.ref 0] [] mu n := by
  refine J_aload_n h dX7_refuseWithRun_0 rfl rfl ?_
  refine J_geti (k := 5) h dX7_refuseWithRun_1 jc7 rfl rfl (by decide) w365 ?_
  refine J_if_eq (tgt := 18) h dX7_refuseWithRun_4 (by decide) (fun q1 => ?_) (fun q1 => ?_)
  · skip
    exact k2 q1
  · skip
    exact k3 q1
/-! LockstepNet.refuseWrongWord()V -/
theorem rX7_refuseWrongWord_0 {l : Launch} {G : jG} {X : jX} {Q : State → Prop} {n hg nc : Nat} {ret : Option FieldType} {mu : jM} (h : jOk l G X cX7_refuseWrongWord 1 ret RX7 hg nc)
    (k1 : J l G X Q 1 4 [.ref 0] [.ref 1] mu n) :
    J l G X Q 1 0 [.ref 0] [] mu n := by
  refine J_aload_n h dX7_refuseWrongWord_0 rfl rfl ?_
  refine J_getr (k := 0) h dX7_refuseWrongWord_1 jc7 rfl rfl (by decide) w360 ?_
  exact k1
theorem rX7_refuseWrongWord_4 {l : Launch} {G : jG} {X : jX} {Q : State → Prop} {n hg nc : Nat} {ret : Option FieldType} {mu : jM} {Qc : Int32 → jM → Prop} {h' : Nat} (h : jOk l G X cX7_refuseWrongWord 1 ret RX7 hg nc) (hM : jCi l G yX4_firstWrong cX4_firstWrong 4 h' (some .int) (.ref 1 :: []) mu Qc) (hh : h' < hg ∧ 4 ≤ 21) (hn : n ≤ nc)
    (kk : ∀ v mu', Qc v mu' → J l G X Q 1 7 [.ref 0] (.int v :: []) mu' n) :
    J l G X Q 1 4 [.ref 0] [.ref 1] mu n :=
  J_callVi (As := []) (rest := []) h dX7_refuseWrongWord_4 hM (jgV w383 w384 w385 w77 w386) rfl (ci := 4) rfl rfl nmX4_firstWrong rfl hh (Nat.le_of_ble_eq_true rfl) rfl kk hn
theorem rX7_refuseWrongWord_7 {l : Launch} {G : jG} {X : jX} {Q : State → Prop} {n hg nc : Nat} {ret : Option FieldType} {mu : jM} {y0 : Int32} (h : jOk l G X cX7_refuseWrongWord 1 ret RX7 hg nc)
    (k2 : y0 < 0 → J l G X Q 1 21 [.ref 0] [] mu n)
    (k3 : ¬ y0 < 0 → J l G X Q 1 10 [.ref 0] [] mu n) :
    J l G X Q 1 7 [.ref 0] [.int y0] mu n := by
  refine J_if_lt (tgt := 21) h dX7_refuseWrongWord_7 (by decide) (fun q1 => ?_) (fun q1 => ?_)
  · skip
    exact k2 q1
  · skip
    exact k3 q1
