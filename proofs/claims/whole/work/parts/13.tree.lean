/-! LockstepNet.lowestNode(I)I -/
theorem rX7_lowestNode_0 {l : Launch} {G : jG} {X : jX} {Q : State → Prop} {n hg nc : Nat} {ret : Option FieldType} {mu : jM} {x0 : Int32} (h : jOk l G X cX7_lowestNode 1 ret RX7 hg nc)
    (k1 : J l G X Q 1 6 [.int x0] [.int ((x0 &&& (-x0)) - 1)] mu n) :
    J l G X Q 1 0 [.int x0] [] mu n := by
  refine J_iload_n h dX7_lowestNode_0 rfl rfl ?_
  refine J_iload_n h dX7_lowestNode_1 rfl rfl ?_
  refine J_ineg h dX7_lowestNode_2 ?_
  refine J_iand h dX7_lowestNode_3 ?_
  refine J_iconst h dX7_lowestNode_4 ci_1 ?_
  refine J_isub h dX7_lowestNode_5 ?_
  exact k1
theorem rX7_lowestNode_6 {l : Launch} {G : jG} {X : jX} {Q : State → Prop} {n hg nc : Nat} {ret : Option FieldType} {mu : jM} {x0 : Int32} {y0 : Int32} {Qc : Int32 → jM → Prop} {h' : Nat} (h : jOk l G X cX7_lowestNode 1 ret RX7 hg nc) (hM : jCi l G yJ6_bitCount_0f7a4 cJ6_bitCount_0f7a4 1 h' (some .int) [.int y0] mu Qc) (hh : h' < hg ∧ 1 ≤ 21) (hn : n ≤ nc)
    (kk : ∀ v mu', Qc v mu' → J l G X Q 1 9 [.int x0] (.int v :: []) mu' n) :
    J l G X Q 1 6 [.int x0] [.int y0] mu n :=
  J_callSi (As := [.int y0]) (rest := []) h dX7_lowestNode_6 hM (jgS w765 w690 w95 w691) nmJ6_bitCount_0f7a4 rfl hh (Nat.le_of_ble_eq_true rfl) rfl kk hn
/-! LockstepNet$Tree.plant(I)V T -/
theorem rX6_plantT_0 {l : Launch} {G : jG} {X : jX} {Q : State → Prop} {n hg nc : Nat} {ret : Option FieldType} {mu : jM} {x1 : Int32} (h : jOk l G X cX6_plant 2 ret RX6 hg nc) (s1 : vp_in x1 24) (s2 : vp_in x1 24) (s3 : vp_in x1 24)
    (k4 : J l G X Q 2 21 [.ref 33, .int x1] [] (wr (wr (wr mu 34 (x1).toNatClampNeg (-1)) 35 (x1).toNatClampNeg 0) 36 (x1).toNatClampNeg 0) n) :
    J l G X Q 2 0 [.ref 33, .int x1] [] mu n := by
  refine J_aload_n h dX6_plant_0 rfl rfl ?_
  refine J_getr (k := 0) h dX6_plant_1 jc6 rfl rfl (by decide) w251 ?_
  refine J_iload_n h dX6_plant_4 rfl rfl ?_
  refine J_iconst h dX6_plant_5 ci_m1 ?_
  refine J_iast h dX6_plant_6 rfl (s1) ?_
  refine J_aload_n h dX6_plant_7 rfl rfl ?_
  refine J_getr (k := 1) h dX6_plant_8 jc6 rfl rfl (by decide) w254 ?_
  refine J_iload_n h dX6_plant_11 rfl rfl ?_
  refine J_iconst h dX6_plant_12 ci_0 ?_
  refine J_iast h dX6_plant_13 rfl (s2) ?_
  refine J_aload_n h dX6_plant_14 rfl rfl ?_
  refine J_getr (k := 2) h dX6_plant_15 jc6 rfl rfl (by decide) w256 ?_
  refine J_iload_n h dX6_plant_18 rfl rfl ?_
  refine J_iconst h dX6_plant_19 ci_0 ?_
  refine J_iast h dX6_plant_20 rfl (s3) ?_
  exact k4
/-! LockstepNet$Tree.hang(II)V T -/
theorem rX6_hangT_0 {l : Launch} {G : jG} {X : jX} {Q : State → Prop} {n hg nc : Nat} {ret : Option FieldType} {mu : jM} {x1 : Int32} {x2 : Int32} (h : jOk l G X cX6_hang 3 ret RX6 hg nc) (s1 : vp_in x1 24) (s2 : vp_in x2 24) (s3 : vp_in x1 24) (s4 : vp_in x1 24) (s5 : vp_in x2 24) (s6 : vp_in x2 24)
    (k7 : J l G X Q 3 40 [.ref 33, .int x1, .int x2] [] (wr (wr (wr (wr mu 34 (x1).toNatClampNeg x2) 35 (x1).toNatClampNeg ((mu 35 (x2).toNatClampNeg) + 1)) 36 (x1).toNatClampNeg 0) 36 (x2).toNatClampNeg (((wr (wr (wr mu 34 (x1).toNatClampNeg x2) 35 (x1).toNatClampNeg ((mu 35 (x2).toNatClampNeg) + 1)) 36 (x1).toNatClampNeg 0) 36 (x2).toNatClampNeg) ||| (1 <<< (x1 &&& 31)))) n) :
    J l G X Q 3 0 [.ref 33, .int x1, .int x2] [] mu n := by
  refine J_aload_n h dX6_hang_0 rfl rfl ?_
  refine J_getr (k := 0) h dX6_hang_1 jc6 rfl rfl (by decide) w251 ?_
  refine J_iload_n h dX6_hang_4 rfl rfl ?_
  refine J_iload_n h dX6_hang_5 rfl rfl ?_
  refine J_iast h dX6_hang_6 rfl (s1) ?_
  refine J_aload_n h dX6_hang_7 rfl rfl ?_
  refine J_getr (k := 1) h dX6_hang_8 jc6 rfl rfl (by decide) w254 ?_
  refine J_iload_n h dX6_hang_11 rfl rfl ?_
  refine J_aload_n h dX6_hang_12 rfl rfl ?_
  refine J_getr (k := 1) h dX6_hang_13 jc6 rfl rfl (by decide) w254 ?_
  refine J_iload_n h dX6_hang_16 rfl rfl ?_
  refine J_iald h dX6_hang_17 rfl (s2) ?_
  refine J_iconst h dX6_hang_18 ci_1 ?_
  refine J_iadd h dX6_hang_19 ?_
  refine J_iast h dX6_hang_20 rfl (s3) ?_
  refine J_aload_n h dX6_hang_21 rfl rfl ?_
  refine J_getr (k := 2) h dX6_hang_22 jc6 rfl rfl (by decide) w256 ?_
  refine J_iload_n h dX6_hang_25 rfl rfl ?_
  refine J_iconst h dX6_hang_26 ci_0 ?_
  refine J_iast h dX6_hang_27 rfl (s4) ?_
  refine J_aload_n h dX6_hang_28 rfl rfl ?_
  refine J_getr (k := 2) h dX6_hang_29 jc6 rfl rfl (by decide) w256 ?_
  refine J_iload_n h dX6_hang_32 rfl rfl ?_
  refine J_dup2 h dX6_hang_33 rfl rfl ?_
  refine J_iald h dX6_hang_34 rfl (s5) ?_
  refine J_iconst h dX6_hang_35 ci_1 ?_
  refine J_iload_n h dX6_hang_36 rfl rfl ?_
  refine J_ishl h dX6_hang_37 ?_
  refine J_ior h dX6_hang_38 ?_
  refine J_iast h dX6_hang_39 rfl (s6) ?_
  exact k7
/-! LockstepNet$Tree.grow(LLockstepNet$Net;III)I T -/
theorem rX6_growT_0 {l : Launch} {G : jG} {X : jX} {Q : State → Prop} {n hg nc : Nat} {ret : Option FieldType} {mu : jM} {x2 : Int32} {x3 : Int32} {x4 : Int32} (h : jOk l G X cX6_grow 10 ret RX6 hg nc)
    (k1 : J l G X Q 10 2 [.ref 33, .ref 6, .int x2, .int x3, .int x4, .float 0, .float 0, .float 0, .float 0, .float 0] [.int x2, .ref 33] mu n) :
    J l G X Q 10 0 [.ref 33, .ref 6, .int x2, .int x3, .int x4, .float 0, .float 0, .float 0, .float 0, .float 0] [] mu n := by
  refine J_aload_n h dX6_grow_0 rfl rfl ?_
  refine J_iload_n h dX6_grow_1 rfl rfl ?_
  exact k1
theorem rX6_growT_2 {l : Launch} {G : jG} {X : jX} {Q : State → Prop} {n hg nc : Nat} {ret : Option FieldType} {mu : jM} {x2 : Int32} {x3 : Int32} {x4 : Int32} {y0 : Int32} {Qc : jM → Prop} {h' : Nat} (h : jOk l G X cX6_grow 10 ret RX6 hg nc) (hM : jCv l G yX6_plant cX6_plant 2 h' (.ref 33 :: [.int y0]) mu Qc) (hh : h' < hg ∧ 2 ≤ 21) (hn : n ≤ nc)
    (kk : ∀ mu', Qc mu' → J l G X Q 10 5 [.ref 33, .ref 6, .int x2, .int x3, .int x4, .float 0, .float 0, .float 0, .float 0, .float 0] [] mu' n) :
    J l G X Q 10 2 [.ref 33, .ref 6, .int x2, .int x3, .int x4, .float 0, .float 0, .float 0, .float 0, .float 0] [.int y0, .ref 33] mu n :=
  J_callV (As := [.int y0]) (rest := []) h dX6_grow_2 hM (jgV w756 w757 w758 w82 w759) rfl (ci := 6) rfl rfl nmX6_plant rfl hh (Nat.le_of_ble_eq_true rfl) rfl kk hn
theorem rX6_growT_5 {l : Launch} {G : jG} {X : jX} {Q : State → Prop} {n hg nc : Nat} {ret : Option FieldType} {mu : jM} {x2 : Int32} {x3 : Int32} {x4 : Int32} (h : jOk l G X cX6_grow 10 ret RX6 hg nc)
    (k1 : J l G X Q 10 17 [.ref 33, .ref 6, .int x2, .int x3, .int x4, .int (1 <<< (x2 &&& 31)), .int (1 <<< (x2 &&& 31)), .int 0, .float 0, .float 0] [] mu n) :
    J l G X Q 10 5 [.ref 33, .ref 6, .int x2, .int x3, .int x4, .float 0, .float 0, .float 0, .float 0, .float 0] [] mu n := by
  refine J_iconst h dX6_grow_5 ci_1 ?_
  refine J_iload_n h dX6_grow_6 rfl rfl ?_
  refine J_ishl h dX6_grow_7 ?_
  refine J_istore h dX6_grow_8 (by decide) rfl ?_
  show J l G X Q 10 10 [.ref 33, .ref 6, .int x2, .int x3, .int x4, .int (1 <<< (x2 &&& 31)), .float 0, .float 0, .float 0, .float 0] [] mu n
  refine J_iload h dX6_grow_10 rfl ?_
  refine J_istore h dX6_grow_12 (by decide) rfl ?_
  show J l G X Q 10 14 [.ref 33, .ref 6, .int x2, .int x3, .int x4, .int (1 <<< (x2 &&& 31)), .int (1 <<< (x2 &&& 31)), .float 0, .float 0, .float 0] [] mu n
  refine J_iconst h dX6_grow_14 ci_0 ?_
  refine J_istore h dX6_grow_15 (by decide) rfl ?_
  show J l G X Q 10 17 [.ref 33, .ref 6, .int x2, .int x3, .int x4, .int (1 <<< (x2 &&& 31)), .int (1 <<< (x2 &&& 31)), .int 0, .float 0, .float 0] [] mu n
  exact k1
theorem rX6_growT_17 {l : Launch} {G : jG} {X : jX} {Q : State → Prop} {n hg nc : Nat} {ret : Option FieldType} {mu : jM} {x2 : Int32} {x3 : Int32} {x4 : Int32} {x5 : Int32} {x6 : Int32} {x7 : Int32} (h : jOk l G X cX6_grow 10 ret RX6 hg nc)
    (k2 : (mu 6 0) ≤ x7 → J l G X Q 10 126 [.ref 33, .ref 6, .int x2, .int x3, .int x4, .int x5, .int x6, .int x7, .float 0, .float 0] [.int x5] mu n)
    (k3 : ¬ (mu 6 0) ≤ x7 → J l G X Q 10 29 [.ref 33, .ref 6, .int x2, .int x3, .int x4, .int x5, .int x6, .int x7, .float 0, .float 0] [.int x5, .ref 6] mu n) :
    J l G X Q 10 17 [.ref 33, .ref 6, .int x2, .int x3, .int x4, .int x5, .int x6, .int x7, .float 0, .float 0] [] mu n := by
  refine J_iload h dX6_grow_17 rfl ?_
  refine J_aload_n h dX6_grow_19 rfl rfl ?_
  refine J_getiN (k := 0) h dX6_grow_20 jc2 rfl rfl (by decide) w143 ?_
  refine J_icmp_ge (tgt := 124) h dX6_grow_23 (by decide) (fun q1 => ?_) (fun q1 => ?_)
  · skip
    refine J_iload h dX6_grow_124 rfl ?_
    exact k2 q1
  · skip
    refine J_aload_n h dX6_grow_26 rfl rfl ?_
    refine J_iload h dX6_grow_27 rfl ?_
    exact k3 q1
theorem rX6_growT_29 {l : Launch} {G : jG} {X : jX} {Q : State → Prop} {n hg nc : Nat} {ret : Option FieldType} {mu : jM} {x2 : Int32} {x3 : Int32} {x4 : Int32} {x5 : Int32} {x6 : Int32} {x7 : Int32} {y0 : Int32} {Qc : Int32 → jM → Prop} {h' : Nat} (h : jOk l G X cX6_grow 10 ret RX6 hg nc) (hM : jCi l G yX2_nextTo cX2_nextTo 4 h' (some .int) (.ref 6 :: [.int y0]) mu Qc) (hh : h' < hg ∧ 4 ≤ 21) (hn : n ≤ nc)
    (kk : ∀ v mu', Qc v mu' → J l G X Q 10 32 [.ref 33, .ref 6, .int x2, .int x3, .int x4, .int x5, .int x6, .int x7, .float 0, .float 0] (.int v :: []) mu' n) :
    J l G X Q 10 29 [.ref 33, .ref 6, .int x2, .int x3, .int x4, .int x5, .int x6, .int x7, .float 0, .float 0] [.int y0, .ref 6] mu n :=
  J_callVi (As := [.int y0]) (rest := []) h dX6_grow_29 hM (jgV w760 w733 w734 w78 w735) rfl (ci := 2) rfl rfl nmX2_nextTo rfl hh (Nat.le_of_ble_eq_true rfl) rfl kk hn
theorem rX6_growT_32 {l : Launch} {G : jG} {X : jX} {Q : State → Prop} {n hg nc : Nat} {ret : Option FieldType} {mu : jM} {x2 : Int32} {x3 : Int32} {x4 : Int32} {x5 : Int32} {x6 : Int32} {x7 : Int32} {y0 : Int32} (h : jOk l G X cX6_grow 10 ret RX6 hg nc)
    (k2 : (y0 &&& x3) = 0 → J l G X Q 10 57 [.ref 33, .ref 6, .int x2, .int x3, .int x4, .int x5, .int x6, .int x7, .int (y0 &&& x3), .float 0] [] mu n)
    (k3 : ¬ (y0 &&& x3) = 0 → J l G X Q 10 43 [.ref 33, .ref 6, .int x2, .int x3, .int x4, .int x5, .int x6, .int x7, .int (y0 &&& x3), .float 0] [.int (y0 &&& x3)] mu n) :
    J l G X Q 10 32 [.ref 33, .ref 6, .int x2, .int x3, .int x4, .int x5, .int x6, .int x7, .float 0, .float 0] [.int y0] mu n := by
  refine J_iload_n h dX6_grow_32 rfl rfl ?_
  refine J_iand h dX6_grow_33 ?_
  refine J_istore h dX6_grow_34 (by decide) rfl ?_
  show J l G X Q 10 36 [.ref 33, .ref 6, .int x2, .int x3, .int x4, .int x5, .int x6, .int x7, .int (y0 &&& x3), .float 0] [] mu n
  refine J_iload h dX6_grow_36 rfl ?_
  refine J_if_eq (tgt := 57) h dX6_grow_38 (by decide) (fun q1 => ?_) (fun q1 => ?_)
  · skip
    exact k2 q1
  · skip
    refine J_iload h dX6_grow_41 rfl ?_
    exact k3 q1
theorem rX6_growT_57 {l : Launch} {G : jG} {X : jX} {Q : State → Prop} {n hg nc : Nat} {ret : Option FieldType} {mu : jM} {x2 : Int32} {x3 : Int32} {x4 : Int32} {x5 : Int32} {x6 : Int32} {x7 : Int32} {x8 : Int32} (h : jOk l G X cX6_grow 10 ret RX6 hg nc)
    (k1 : J l G X Q 10 59 [.ref 33, .ref 6, .int x2, .int x3, .int x4, .int x5, .int x6, .int x7, .int x8, .float 0] [.int x5] mu n) :
    J l G X Q 10 57 [.ref 33, .ref 6, .int x2, .int x3, .int x4, .int x5, .int x6, .int x7, .int x8, .float 0] [] mu n := by
  refine J_iload h dX6_grow_57 rfl ?_
  exact k1
theorem rX6_growT_43 {l : Launch} {G : jG} {X : jX} {Q : State → Prop} {n hg nc : Nat} {ret : Option FieldType} {mu : jM} {x2 : Int32} {x3 : Int32} {x4 : Int32} {x5 : Int32} {x6 : Int32} {x7 : Int32} {x8 : Int32} {y0 : Int32} {Qc : Int32 → jM → Prop} {h' : Nat} (h : jOk l G X cX6_grow 10 ret RX6 hg nc) (hM : jCi l G yJ6_bitCount_0f7a4 cJ6_bitCount_0f7a4 1 h' (some .int) [.int y0] mu Qc) (hh : h' < hg ∧ 1 ≤ 21) (hn : n ≤ nc)
    (kk : ∀ v mu', Qc v mu' → J l G X Q 10 46 [.ref 33, .ref 6, .int x2, .int x3, .int x4, .int x5, .int x6, .int x7, .int x8, .float 0] (.int v :: []) mu' n) :
    J l G X Q 10 43 [.ref 33, .ref 6, .int x2, .int x3, .int x4, .int x5, .int x6, .int x7, .int x8, .float 0] [.int y0] mu n :=
  J_callSi (As := [.int y0]) (rest := []) h dX6_grow_43 hM (jgS w761 w690 w95 w691) nmJ6_bitCount_0f7a4 rfl hh (Nat.le_of_ble_eq_true rfl) rfl kk hn
theorem rX6_growT_46 {l : Launch} {G : jG} {X : jX} {Q : State → Prop} {n hg nc : Nat} {ret : Option FieldType} {mu : jM} {x2 : Int32} {x3 : Int32} {x4 : Int32} {x5 : Int32} {x6 : Int32} {x7 : Int32} {x8 : Int32} {y0 : Int32} (h : jOk l G X cX6_grow 10 ret RX6 hg nc)
    (k1 : J l G X Q 10 50 [.ref 33, .ref 6, .int x2, .int x3, .int x4, .int x5, .int x6, .int x7, .int x8, .float 0] [.int x5, .int x4, .int y0] mu n) :
    J l G X Q 10 46 [.ref 33, .ref 6, .int x2, .int x3, .int x4, .int x5, .int x6, .int x7, .int x8, .float 0] [.int y0] mu n := by
  refine J_iload h dX6_grow_46 rfl ?_
  refine J_iload h dX6_grow_48 rfl ?_
  exact k1
theorem rX6_growT_50 {l : Launch} {G : jG} {X : jX} {Q : State → Prop} {n hg nc : Nat} {ret : Option FieldType} {mu : jM} {x2 : Int32} {x3 : Int32} {x4 : Int32} {x5 : Int32} {x6 : Int32} {x7 : Int32} {x8 : Int32} {y0 : Int32} {y1 : Int32} {y2 : Int32} {Qc : Int32 → jM → Prop} {h' : Nat} (h : jOk l G X cX6_grow 10 ret RX6 hg nc) (hM : jCi l G yJ6_bitCount_0f7a4 cJ6_bitCount_0f7a4 1 h' (some .int) [.int y0] mu Qc) (hh : h' < hg ∧ 1 ≤ 21) (hn : n ≤ nc)
    (kk : ∀ v mu', Qc v mu' → J l G X Q 10 53 [.ref 33, .ref 6, .int x2, .int x3, .int x4, .int x5, .int x6, .int x7, .int x8, .float 0] (.int v :: [.int y1, .int y2]) mu' n) :
    J l G X Q 10 50 [.ref 33, .ref 6, .int x2, .int x3, .int x4, .int x5, .int x6, .int x7, .int x8, .float 0] [.int y0, .int y1, .int y2] mu n :=
  J_callSi (As := [.int y0]) (rest := [.int y1, .int y2]) h dX6_grow_50 hM (jgS w761 w690 w95 w691) nmJ6_bitCount_0f7a4 rfl hh (Nat.le_of_ble_eq_true rfl) rfl kk hn
theorem rX6_growT_53 {l : Launch} {G : jG} {X : jX} {Q : State → Prop} {n hg nc : Nat} {ret : Option FieldType} {mu : jM} {x2 : Int32} {x3 : Int32} {x4 : Int32} {x5 : Int32} {x6 : Int32} {x7 : Int32} {x8 : Int32} {y0 : Int32} {y1 : Int32} {y2 : Int32} (h : jOk l G X cX6_grow 10 ret RX6 hg nc)
    (k2 : (y1 * y0) ≤ y2 → J l G X Q 10 63 [.ref 33, .ref 6, .int x2, .int x3, .int x4, .int x5, .int x6, .int x7, .int x8, .int 0] [] mu n)
    (k3 : ¬ (y1 * y0) ≤ y2 → J l G X Q 10 57 [.ref 33, .ref 6, .int x2, .int x3, .int x4, .int x5, .int x6, .int x7, .int x8, .float 0] [] mu n) :
    J l G X Q 10 53 [.ref 33, .ref 6, .int x2, .int x3, .int x4, .int x5, .int x6, .int x7, .int x8, .float 0] [.int y0, .int y1, .int y2] mu n := by
  refine J_imul h dX6_grow_53 ?_
  refine J_icmp_ge (tgt := 60) h dX6_grow_54 (by decide) (fun q1 => ?_) (fun q1 => ?_)
  · skip
    refine J_iconst h dX6_grow_60 ci_0 ?_
    refine J_istore h dX6_grow_61 (by decide) rfl ?_
    show J l G X Q 10 63 [.ref 33, .ref 6, .int x2, .int x3, .int x4, .int x5, .int x6, .int x7, .int x8, .int 0] [] mu n
    exact k2 q1
  · skip
    exact k3 q1
theorem rX6_growT_63 {l : Launch} {G : jG} {X : jX} {Q : State → Prop} {n hg nc : Nat} {ret : Option FieldType} {mu : jM} {x2 : Int32} {x3 : Int32} {x4 : Int32} {x5 : Int32} {x6 : Int32} {x7 : Int32} {x8 : Int32} {x9 : Int32} (h : jOk l G X cX6_grow 10 ret RX6 hg nc) (s5 : ¬ (mu 6 0) ≤ x9 → ¬ ((x8 >>> (x9 &&& 31)) &&& 1) = 0 → vp_in x9 24)
    (k2 : (mu 6 0) ≤ x9 → J l G X Q 10 17 [.ref 33, .ref 6, .int x2, .int x3, .int x4, .int (x5 ||| x8), .int x8, .int (x7 + 1), .int x8, .int x9] [] mu n)
    (k4 : ¬ (mu 6 0) ≤ x9 → ((x8 >>> (x9 &&& 31)) &&& 1) = 0 → J l G X Q 10 101 [.ref 33, .ref 6, .int x2, .int x3, .int x4, .int x5, .int x6, .int x7, .int x8, .int x9] [] mu n)
    (k6 : ¬ (mu 6 0) ≤ x9 → ¬ ((x8 >>> (x9 &&& 31)) &&& 1) = 0 → J l G X Q 10 95 [.ref 33, .ref 6, .int x2, .int x3, .int x4, .int x5, .int x6, .int x7, .int x8, .int x9] [.int ((mu 10 (x9).toNatClampNeg) &&& x6), .int x9, .ref 33] mu n) :
    J l G X Q 10 63 [.ref 33, .ref 6, .int x2, .int x3, .int x4, .int x5, .int x6, .int x7, .int x8, .int x9] [] mu n := by
  refine J_iload h dX6_grow_63 rfl ?_
  refine J_aload_n h dX6_grow_65 rfl rfl ?_
  refine J_getiN (k := 0) h dX6_grow_66 jc2 rfl rfl (by decide) w143 ?_
  refine J_icmp_ge (tgt := 107) h dX6_grow_69 (by decide) (fun q1 => ?_) (fun q1 => ?_)
  · skip
    refine J_iload h dX6_grow_107 rfl ?_
    refine J_iload h dX6_grow_109 rfl ?_
    refine J_ior h dX6_grow_111 ?_
    refine J_istore h dX6_grow_112 (by decide) rfl ?_
    show J l G X Q 10 114 [.ref 33, .ref 6, .int x2, .int x3, .int x4, .int (x5 ||| x8), .int x6, .int x7, .int x8, .int x9] [] mu n
    refine J_iload h dX6_grow_114 rfl ?_
    refine J_istore h dX6_grow_116 (by decide) rfl ?_
    show J l G X Q 10 118 [.ref 33, .ref 6, .int x2, .int x3, .int x4, .int (x5 ||| x8), .int x8, .int x7, .int x8, .int x9] [] mu n
    refine J_iinc h dX6_grow_118 rfl (cc_1 _) (by decide) rfl ?_
    show J l G X Q 10 121 [.ref 33, .ref 6, .int x2, .int x3, .int x4, .int (x5 ||| x8), .int x8, .int (x7 + 1), .int x8, .int x9] [] mu n
    refine J_goto (tgt := 17) h dX6_grow_121 (by decide) ?_
    exact k2 q1
  · skip
    refine J_iload h dX6_grow_72 rfl ?_
    refine J_iload h dX6_grow_74 rfl ?_
    refine J_ishr h dX6_grow_76 ?_
    refine J_iconst h dX6_grow_77 ci_1 ?_
    refine J_iand h dX6_grow_78 ?_
    refine J_if_eq (tgt := 101) h dX6_grow_79 (by decide) (fun q3 => ?_) (fun q3 => ?_)
    · skip
      exact k4 q1 q3
    · skip
      refine J_aload_n h dX6_grow_82 rfl rfl ?_
      refine J_iload h dX6_grow_83 rfl ?_
      refine J_aload_n h dX6_grow_85 rfl rfl ?_
      refine J_getrN (k := 5) h dX6_grow_86 jc2 rfl rfl (by decide) w156 ?_
      refine J_iload h dX6_grow_89 rfl ?_
      refine J_iald h dX6_grow_91 rfl (s5 q1 q3) ?_
      refine J_iload h dX6_grow_92 rfl ?_
      refine J_iand h dX6_grow_94 ?_
      exact k6 q1 q3
theorem rX6_growT_17b {l : Launch} {G : jG} {X : jX} {Q : State → Prop} {n hg nc : Nat} {ret : Option FieldType} {mu : jM} {x2 : Int32} {x3 : Int32} {x4 : Int32} {x5 : Int32} {x6 : Int32} {x7 : Int32} {x8 : Int32} {x9 : Int32} (h : jOk l G X cX6_grow 10 ret RX6 hg nc)
    (k2 : (mu 6 0) ≤ x7 → J l G X Q 10 126 [.ref 33, .ref 6, .int x2, .int x3, .int x4, .int x5, .int x6, .int x7, .int x8, .int x9] [.int x5] mu n)
    (k3 : ¬ (mu 6 0) ≤ x7 → J l G X Q 10 29 [.ref 33, .ref 6, .int x2, .int x3, .int x4, .int x5, .int x6, .int x7, .int x8, .int x9] [.int x5, .ref 6] mu n) :
    J l G X Q 10 17 [.ref 33, .ref 6, .int x2, .int x3, .int x4, .int x5, .int x6, .int x7, .int x8, .int x9] [] mu n := by
  refine J_iload h dX6_grow_17 rfl ?_
  refine J_aload_n h dX6_grow_19 rfl rfl ?_
  refine J_getiN (k := 0) h dX6_grow_20 jc2 rfl rfl (by decide) w143 ?_
  refine J_icmp_ge (tgt := 124) h dX6_grow_23 (by decide) (fun q1 => ?_) (fun q1 => ?_)
  · skip
    refine J_iload h dX6_grow_124 rfl ?_
    exact k2 q1
  · skip
    refine J_aload_n h dX6_grow_26 rfl rfl ?_
    refine J_iload h dX6_grow_27 rfl ?_
    exact k3 q1
theorem rX6_growT_101 {l : Launch} {G : jG} {X : jX} {Q : State → Prop} {n hg nc : Nat} {ret : Option FieldType} {mu : jM} {x2 : Int32} {x3 : Int32} {x4 : Int32} {x5 : Int32} {x6 : Int32} {x7 : Int32} {x8 : Int32} {x9 : Int32} (h : jOk l G X cX6_grow 10 ret RX6 hg nc)
    (k1 : J l G X Q 10 63 [.ref 33, .ref 6, .int x2, .int x3, .int x4, .int x5, .int x6, .int x7, .int x8, .int (x9 + 1)] [] mu n) :
    J l G X Q 10 101 [.ref 33, .ref 6, .int x2, .int x3, .int x4, .int x5, .int x6, .int x7, .int x8, .int x9] [] mu n := by
  refine J_iinc h dX6_grow_101 rfl (cc_1 _) (by decide) rfl ?_
  show J l G X Q 10 104 [.ref 33, .ref 6, .int x2, .int x3, .int x4, .int x5, .int x6, .int x7, .int x8, .int (x9 + 1)] [] mu n
  refine J_goto (tgt := 63) h dX6_grow_104 (by decide) ?_
  exact k1
theorem rX6_growT_95 {l : Launch} {G : jG} {X : jX} {Q : State → Prop} {n hg nc : Nat} {ret : Option FieldType} {mu : jM} {x2 : Int32} {x3 : Int32} {x4 : Int32} {x5 : Int32} {x6 : Int32} {x7 : Int32} {x8 : Int32} {x9 : Int32} {y0 : Int32} {y1 : Int32} {Qc : Int32 → jM → Prop} {h' : Nat} (h : jOk l G X cX6_grow 10 ret RX6 hg nc) (hM : jCi l G yX7_lowestNode cX7_lowestNode 1 h' (some .int) [.int y0] mu Qc) (hh : h' < hg ∧ 1 ≤ 21) (hn : n ≤ nc)
    (kk : ∀ v mu', Qc v mu' → J l G X Q 10 98 [.ref 33, .ref 6, .int x2, .int x3, .int x4, .int x5, .int x6, .int x7, .int x8, .int x9] (.int v :: [.int y1, .ref 33]) mu' n) :
    J l G X Q 10 95 [.ref 33, .ref 6, .int x2, .int x3, .int x4, .int x5, .int x6, .int x7, .int x8, .int x9] [.int y0, .int y1, .ref 33] mu n :=
  J_callSNi (As := [.int y0]) (rest := [.int y1, .ref 33]) h dX6_grow_95 hM w762 w763 w76 w764 nmX7_lowestNode rfl hh (Nat.le_of_ble_eq_true rfl) rfl kk hn
theorem rX6_growT_29b {l : Launch} {G : jG} {X : jX} {Q : State → Prop} {n hg nc : Nat} {ret : Option FieldType} {mu : jM} {x2 : Int32} {x3 : Int32} {x4 : Int32} {x5 : Int32} {x6 : Int32} {x7 : Int32} {x8 : Int32} {x9 : Int32} {y0 : Int32} {Qc : Int32 → jM → Prop} {h' : Nat} (h : jOk l G X cX6_grow 10 ret RX6 hg nc) (hM : jCi l G yX2_nextTo cX2_nextTo 4 h' (some .int) (.ref 6 :: [.int y0]) mu Qc) (hh : h' < hg ∧ 4 ≤ 21) (hn : n ≤ nc)
    (kk : ∀ v mu', Qc v mu' → J l G X Q 10 32 [.ref 33, .ref 6, .int x2, .int x3, .int x4, .int x5, .int x6, .int x7, .int x8, .int x9] (.int v :: []) mu' n) :
    J l G X Q 10 29 [.ref 33, .ref 6, .int x2, .int x3, .int x4, .int x5, .int x6, .int x7, .int x8, .int x9] [.int y0, .ref 6] mu n :=
  J_callVi (As := [.int y0]) (rest := []) h dX6_grow_29 hM (jgV w760 w733 w734 w78 w735) rfl (ci := 2) rfl rfl nmX2_nextTo rfl hh (Nat.le_of_ble_eq_true rfl) rfl kk hn
theorem rX6_growT_98 {l : Launch} {G : jG} {X : jX} {Q : State → Prop} {n hg nc : Nat} {ret : Option FieldType} {mu : jM} {x2 : Int32} {x3 : Int32} {x4 : Int32} {x5 : Int32} {x6 : Int32} {x7 : Int32} {x8 : Int32} {x9 : Int32} {y0 : Int32} {y1 : Int32} {Qc : jM → Prop} {h' : Nat} (h : jOk l G X cX6_grow 10 ret RX6 hg nc) (hM : jCv l G yX6_hang cX6_hang 3 h' (.ref 33 :: [.int y1, .int y0]) mu Qc) (hh : h' < hg ∧ 3 ≤ 21) (hn : n ≤ nc)
    (kk : ∀ mu', Qc mu' → J l G X Q 10 101 [.ref 33, .ref 6, .int x2, .int x3, .int x4, .int x5, .int x6, .int x7, .int x8, .int x9] [] mu' n) :
    J l G X Q 10 98 [.ref 33, .ref 6, .int x2, .int x3, .int x4, .int x5, .int x6, .int x7, .int x8, .int x9] [.int y0, .int y1, .ref 33] mu n :=
  J_callV (As := [.int y1, .int y0]) (rest := []) h dX6_grow_98 hM (jgV w766 w767 w768 w82 w769) rfl (ci := 6) rfl rfl nmX6_hang rfl hh (Nat.le_of_ble_eq_true rfl) rfl kk hn
theorem rX6_growT_32b {l : Launch} {G : jG} {X : jX} {Q : State → Prop} {n hg nc : Nat} {ret : Option FieldType} {mu : jM} {x2 : Int32} {x3 : Int32} {x4 : Int32} {x5 : Int32} {x6 : Int32} {x7 : Int32} {x8 : Int32} {x9 : Int32} {y0 : Int32} (h : jOk l G X cX6_grow 10 ret RX6 hg nc)
    (k2 : (y0 &&& x3) = 0 → J l G X Q 10 57 [.ref 33, .ref 6, .int x2, .int x3, .int x4, .int x5, .int x6, .int x7, .int (y0 &&& x3), .int x9] [] mu n)
    (k3 : ¬ (y0 &&& x3) = 0 → J l G X Q 10 43 [.ref 33, .ref 6, .int x2, .int x3, .int x4, .int x5, .int x6, .int x7, .int (y0 &&& x3), .int x9] [.int (y0 &&& x3)] mu n) :
    J l G X Q 10 32 [.ref 33, .ref 6, .int x2, .int x3, .int x4, .int x5, .int x6, .int x7, .int x8, .int x9] [.int y0] mu n := by
  refine J_iload_n h dX6_grow_32 rfl rfl ?_
  refine J_iand h dX6_grow_33 ?_
  refine J_istore h dX6_grow_34 (by decide) rfl ?_
  show J l G X Q 10 36 [.ref 33, .ref 6, .int x2, .int x3, .int x4, .int x5, .int x6, .int x7, .int (y0 &&& x3), .int x9] [] mu n
  refine J_iload h dX6_grow_36 rfl ?_
  refine J_if_eq (tgt := 57) h dX6_grow_38 (by decide) (fun q1 => ?_) (fun q1 => ?_)
  · skip
    exact k2 q1
  · skip
    refine J_iload h dX6_grow_41 rfl ?_
    exact k3 q1
theorem rX6_growT_57b {l : Launch} {G : jG} {X : jX} {Q : State → Prop} {n hg nc : Nat} {ret : Option FieldType} {mu : jM} {x2 : Int32} {x3 : Int32} {x4 : Int32} {x5 : Int32} {x6 : Int32} {x7 : Int32} {x8 : Int32} {x9 : Int32} (h : jOk l G X cX6_grow 10 ret RX6 hg nc)
    (k1 : J l G X Q 10 59 [.ref 33, .ref 6, .int x2, .int x3, .int x4, .int x5, .int x6, .int x7, .int x8, .int x9] [.int x5] mu n) :
    J l G X Q 10 57 [.ref 33, .ref 6, .int x2, .int x3, .int x4, .int x5, .int x6, .int x7, .int x8, .int x9] [] mu n := by
  refine J_iload h dX6_grow_57 rfl ?_
  exact k1
theorem rX6_growT_43b {l : Launch} {G : jG} {X : jX} {Q : State → Prop} {n hg nc : Nat} {ret : Option FieldType} {mu : jM} {x2 : Int32} {x3 : Int32} {x4 : Int32} {x5 : Int32} {x6 : Int32} {x7 : Int32} {x8 : Int32} {x9 : Int32} {y0 : Int32} {Qc : Int32 → jM → Prop} {h' : Nat} (h : jOk l G X cX6_grow 10 ret RX6 hg nc) (hM : jCi l G yJ6_bitCount_0f7a4 cJ6_bitCount_0f7a4 1 h' (some .int) [.int y0] mu Qc) (hh : h' < hg ∧ 1 ≤ 21) (hn : n ≤ nc)
    (kk : ∀ v mu', Qc v mu' → J l G X Q 10 46 [.ref 33, .ref 6, .int x2, .int x3, .int x4, .int x5, .int x6, .int x7, .int x8, .int x9] (.int v :: []) mu' n) :
    J l G X Q 10 43 [.ref 33, .ref 6, .int x2, .int x3, .int x4, .int x5, .int x6, .int x7, .int x8, .int x9] [.int y0] mu n :=
  J_callSi (As := [.int y0]) (rest := []) h dX6_grow_43 hM (jgS w761 w690 w95 w691) nmJ6_bitCount_0f7a4 rfl hh (Nat.le_of_ble_eq_true rfl) rfl kk hn
theorem rX6_growT_46b {l : Launch} {G : jG} {X : jX} {Q : State → Prop} {n hg nc : Nat} {ret : Option FieldType} {mu : jM} {x2 : Int32} {x3 : Int32} {x4 : Int32} {x5 : Int32} {x6 : Int32} {x7 : Int32} {x8 : Int32} {x9 : Int32} {y0 : Int32} (h : jOk l G X cX6_grow 10 ret RX6 hg nc)
    (k1 : J l G X Q 10 50 [.ref 33, .ref 6, .int x2, .int x3, .int x4, .int x5, .int x6, .int x7, .int x8, .int x9] [.int x5, .int x4, .int y0] mu n) :
    J l G X Q 10 46 [.ref 33, .ref 6, .int x2, .int x3, .int x4, .int x5, .int x6, .int x7, .int x8, .int x9] [.int y0] mu n := by
  refine J_iload h dX6_grow_46 rfl ?_
  refine J_iload h dX6_grow_48 rfl ?_
  exact k1
theorem rX6_growT_50b {l : Launch} {G : jG} {X : jX} {Q : State → Prop} {n hg nc : Nat} {ret : Option FieldType} {mu : jM} {x2 : Int32} {x3 : Int32} {x4 : Int32} {x5 : Int32} {x6 : Int32} {x7 : Int32} {x8 : Int32} {x9 : Int32} {y0 : Int32} {y1 : Int32} {y2 : Int32} {Qc : Int32 → jM → Prop} {h' : Nat} (h : jOk l G X cX6_grow 10 ret RX6 hg nc) (hM : jCi l G yJ6_bitCount_0f7a4 cJ6_bitCount_0f7a4 1 h' (some .int) [.int y0] mu Qc) (hh : h' < hg ∧ 1 ≤ 21) (hn : n ≤ nc)
    (kk : ∀ v mu', Qc v mu' → J l G X Q 10 53 [.ref 33, .ref 6, .int x2, .int x3, .int x4, .int x5, .int x6, .int x7, .int x8, .int x9] (.int v :: [.int y1, .int y2]) mu' n) :
    J l G X Q 10 50 [.ref 33, .ref 6, .int x2, .int x3, .int x4, .int x5, .int x6, .int x7, .int x8, .int x9] [.int y0, .int y1, .int y2] mu n :=
  J_callSi (As := [.int y0]) (rest := [.int y1, .int y2]) h dX6_grow_50 hM (jgS w761 w690 w95 w691) nmJ6_bitCount_0f7a4 rfl hh (Nat.le_of_ble_eq_true rfl) rfl kk hn
theorem rX6_growT_53b {l : Launch} {G : jG} {X : jX} {Q : State → Prop} {n hg nc : Nat} {ret : Option FieldType} {mu : jM} {x2 : Int32} {x3 : Int32} {x4 : Int32} {x5 : Int32} {x6 : Int32} {x7 : Int32} {x8 : Int32} {x9 : Int32} {y0 : Int32} {y1 : Int32} {y2 : Int32} (h : jOk l G X cX6_grow 10 ret RX6 hg nc)
    (k2 : (y1 * y0) ≤ y2 → J l G X Q 10 63 [.ref 33, .ref 6, .int x2, .int x3, .int x4, .int x5, .int x6, .int x7, .int x8, .int 0] [] mu n)
    (k3 : ¬ (y1 * y0) ≤ y2 → J l G X Q 10 57 [.ref 33, .ref 6, .int x2, .int x3, .int x4, .int x5, .int x6, .int x7, .int x8, .int x9] [] mu n) :
    J l G X Q 10 53 [.ref 33, .ref 6, .int x2, .int x3, .int x4, .int x5, .int x6, .int x7, .int x8, .int x9] [.int y0, .int y1, .int y2] mu n := by
  refine J_imul h dX6_grow_53 ?_
  refine J_icmp_ge (tgt := 60) h dX6_grow_54 (by decide) (fun q1 => ?_) (fun q1 => ?_)
  · skip
    refine J_iconst h dX6_grow_60 ci_0 ?_
    refine J_istore h dX6_grow_61 (by decide) rfl ?_
    show J l G X Q 10 63 [.ref 33, .ref 6, .int x2, .int x3, .int x4, .int x5, .int x6, .int x7, .int x8, .int 0] [] mu n
    exact k2 q1
  · skip
    exact k3 q1
/-! LockstepNet$Tree.plant(I)V C -/
theorem rX6_plantC_0 {l : Launch} {G : jG} {X : jX} {Q : State → Prop} {n hg nc : Nat} {ret : Option FieldType} {mu : jM} {x1 : Int32} (h : jOk l G X cX6_plant 2 ret RX6 hg nc) (s1 : vp_in x1 24) (s2 : vp_in x1 24) (s3 : vp_in x1 24)
    (k4 : J l G X Q 2 21 [.ref 38, .int x1] [] (wr (wr (wr mu 39 (x1).toNatClampNeg (-1)) 40 (x1).toNatClampNeg 0) 41 (x1).toNatClampNeg 0) n) :
    J l G X Q 2 0 [.ref 38, .int x1] [] mu n := by
  refine J_aload_n h dX6_plant_0 rfl rfl ?_
  refine J_getr (k := 0) h dX6_plant_1 jc6 rfl rfl (by decide) w251 ?_
  refine J_iload_n h dX6_plant_4 rfl rfl ?_
  refine J_iconst h dX6_plant_5 ci_m1 ?_
  refine J_iast h dX6_plant_6 rfl (s1) ?_
  refine J_aload_n h dX6_plant_7 rfl rfl ?_
  refine J_getr (k := 1) h dX6_plant_8 jc6 rfl rfl (by decide) w254 ?_
  refine J_iload_n h dX6_plant_11 rfl rfl ?_
  refine J_iconst h dX6_plant_12 ci_0 ?_
  refine J_iast h dX6_plant_13 rfl (s2) ?_
  refine J_aload_n h dX6_plant_14 rfl rfl ?_
  refine J_getr (k := 2) h dX6_plant_15 jc6 rfl rfl (by decide) w256 ?_
  refine J_iload_n h dX6_plant_18 rfl rfl ?_
  refine J_iconst h dX6_plant_19 ci_0 ?_
  refine J_iast h dX6_plant_20 rfl (s3) ?_
  exact k4
/-! LockstepNet$Tree.hang(II)V C -/
theorem rX6_hangC_0 {l : Launch} {G : jG} {X : jX} {Q : State → Prop} {n hg nc : Nat} {ret : Option FieldType} {mu : jM} {x1 : Int32} {x2 : Int32} (h : jOk l G X cX6_hang 3 ret RX6 hg nc) (s1 : vp_in x1 24) (s2 : vp_in x2 24) (s3 : vp_in x1 24) (s4 : vp_in x1 24) (s5 : vp_in x2 24) (s6 : vp_in x2 24)
    (k7 : J l G X Q 3 40 [.ref 38, .int x1, .int x2] [] (wr (wr (wr (wr mu 39 (x1).toNatClampNeg x2) 40 (x1).toNatClampNeg ((mu 40 (x2).toNatClampNeg) + 1)) 41 (x1).toNatClampNeg 0) 41 (x2).toNatClampNeg (((wr (wr (wr mu 39 (x1).toNatClampNeg x2) 40 (x1).toNatClampNeg ((mu 40 (x2).toNatClampNeg) + 1)) 41 (x1).toNatClampNeg 0) 41 (x2).toNatClampNeg) ||| (1 <<< (x1 &&& 31)))) n) :
    J l G X Q 3 0 [.ref 38, .int x1, .int x2] [] mu n := by
  refine J_aload_n h dX6_hang_0 rfl rfl ?_
  refine J_getr (k := 0) h dX6_hang_1 jc6 rfl rfl (by decide) w251 ?_
  refine J_iload_n h dX6_hang_4 rfl rfl ?_
  refine J_iload_n h dX6_hang_5 rfl rfl ?_
  refine J_iast h dX6_hang_6 rfl (s1) ?_
  refine J_aload_n h dX6_hang_7 rfl rfl ?_
  refine J_getr (k := 1) h dX6_hang_8 jc6 rfl rfl (by decide) w254 ?_
  refine J_iload_n h dX6_hang_11 rfl rfl ?_
  refine J_aload_n h dX6_hang_12 rfl rfl ?_
  refine J_getr (k := 1) h dX6_hang_13 jc6 rfl rfl (by decide) w254 ?_
  refine J_iload_n h dX6_hang_16 rfl rfl ?_
  refine J_iald h dX6_hang_17 rfl (s2) ?_
  refine J_iconst h dX6_hang_18 ci_1 ?_
  refine J_iadd h dX6_hang_19 ?_
  refine J_iast h dX6_hang_20 rfl (s3) ?_
  refine J_aload_n h dX6_hang_21 rfl rfl ?_
  refine J_getr (k := 2) h dX6_hang_22 jc6 rfl rfl (by decide) w256 ?_
  refine J_iload_n h dX6_hang_25 rfl rfl ?_
  refine J_iconst h dX6_hang_26 ci_0 ?_
  refine J_iast h dX6_hang_27 rfl (s4) ?_
  refine J_aload_n h dX6_hang_28 rfl rfl ?_
  refine J_getr (k := 2) h dX6_hang_29 jc6 rfl rfl (by decide) w256 ?_
  refine J_iload_n h dX6_hang_32 rfl rfl ?_
  refine J_dup2 h dX6_hang_33 rfl rfl ?_
  refine J_iald h dX6_hang_34 rfl (s5) ?_
  refine J_iconst h dX6_hang_35 ci_1 ?_
  refine J_iload_n h dX6_hang_36 rfl rfl ?_
  refine J_ishl h dX6_hang_37 ?_
  refine J_ior h dX6_hang_38 ?_
  refine J_iast h dX6_hang_39 rfl (s6) ?_
  exact k7
/-! LockstepNet$Tree.grow(LLockstepNet$Net;III)I C -/
theorem rX6_growC_0 {l : Launch} {G : jG} {X : jX} {Q : State → Prop} {n hg nc : Nat} {ret : Option FieldType} {mu : jM} {x2 : Int32} {x3 : Int32} {x4 : Int32} (h : jOk l G X cX6_grow 10 ret RX6 hg nc)
    (k1 : J l G X Q 10 2 [.ref 38, .ref 6, .int x2, .int x3, .int x4, .float 0, .float 0, .float 0, .float 0, .float 0] [.int x2, .ref 38] mu n) :
    J l G X Q 10 0 [.ref 38, .ref 6, .int x2, .int x3, .int x4, .float 0, .float 0, .float 0, .float 0, .float 0] [] mu n := by
  refine J_aload_n h dX6_grow_0 rfl rfl ?_
  refine J_iload_n h dX6_grow_1 rfl rfl ?_
  exact k1
theorem rX6_growC_2 {l : Launch} {G : jG} {X : jX} {Q : State → Prop} {n hg nc : Nat} {ret : Option FieldType} {mu : jM} {x2 : Int32} {x3 : Int32} {x4 : Int32} {y0 : Int32} {Qc : jM → Prop} {h' : Nat} (h : jOk l G X cX6_grow 10 ret RX6 hg nc) (hM : jCv l G yX6_plant cX6_plant 2 h' (.ref 38 :: [.int y0]) mu Qc) (hh : h' < hg ∧ 2 ≤ 21) (hn : n ≤ nc)
    (kk : ∀ mu', Qc mu' → J l G X Q 10 5 [.ref 38, .ref 6, .int x2, .int x3, .int x4, .float 0, .float 0, .float 0, .float 0, .float 0] [] mu' n) :
    J l G X Q 10 2 [.ref 38, .ref 6, .int x2, .int x3, .int x4, .float 0, .float 0, .float 0, .float 0, .float 0] [.int y0, .ref 38] mu n :=
  J_callV (As := [.int y0]) (rest := []) h dX6_grow_2 hM (jgV w756 w757 w758 w82 w759) rfl (ci := 6) rfl rfl nmX6_plant rfl hh (Nat.le_of_ble_eq_true rfl) rfl kk hn
theorem rX6_growC_5 {l : Launch} {G : jG} {X : jX} {Q : State → Prop} {n hg nc : Nat} {ret : Option FieldType} {mu : jM} {x2 : Int32} {x3 : Int32} {x4 : Int32} (h : jOk l G X cX6_grow 10 ret RX6 hg nc)
    (k1 : J l G X Q 10 17 [.ref 38, .ref 6, .int x2, .int x3, .int x4, .int (1 <<< (x2 &&& 31)), .int (1 <<< (x2 &&& 31)), .int 0, .float 0, .float 0] [] mu n) :
    J l G X Q 10 5 [.ref 38, .ref 6, .int x2, .int x3, .int x4, .float 0, .float 0, .float 0, .float 0, .float 0] [] mu n := by
  refine J_iconst h dX6_grow_5 ci_1 ?_
  refine J_iload_n h dX6_grow_6 rfl rfl ?_
  refine J_ishl h dX6_grow_7 ?_
  refine J_istore h dX6_grow_8 (by decide) rfl ?_
  show J l G X Q 10 10 [.ref 38, .ref 6, .int x2, .int x3, .int x4, .int (1 <<< (x2 &&& 31)), .float 0, .float 0, .float 0, .float 0] [] mu n
  refine J_iload h dX6_grow_10 rfl ?_
  refine J_istore h dX6_grow_12 (by decide) rfl ?_
  show J l G X Q 10 14 [.ref 38, .ref 6, .int x2, .int x3, .int x4, .int (1 <<< (x2 &&& 31)), .int (1 <<< (x2 &&& 31)), .float 0, .float 0, .float 0] [] mu n
  refine J_iconst h dX6_grow_14 ci_0 ?_
  refine J_istore h dX6_grow_15 (by decide) rfl ?_
  show J l G X Q 10 17 [.ref 38, .ref 6, .int x2, .int x3, .int x4, .int (1 <<< (x2 &&& 31)), .int (1 <<< (x2 &&& 31)), .int 0, .float 0, .float 0] [] mu n
  exact k1
theorem rX6_growC_17 {l : Launch} {G : jG} {X : jX} {Q : State → Prop} {n hg nc : Nat} {ret : Option FieldType} {mu : jM} {x2 : Int32} {x3 : Int32} {x4 : Int32} {x5 : Int32} {x6 : Int32} {x7 : Int32} (h : jOk l G X cX6_grow 10 ret RX6 hg nc)
    (k2 : (mu 6 0) ≤ x7 → J l G X Q 10 126 [.ref 38, .ref 6, .int x2, .int x3, .int x4, .int x5, .int x6, .int x7, .float 0, .float 0] [.int x5] mu n)
    (k3 : ¬ (mu 6 0) ≤ x7 → J l G X Q 10 29 [.ref 38, .ref 6, .int x2, .int x3, .int x4, .int x5, .int x6, .int x7, .float 0, .float 0] [.int x5, .ref 6] mu n) :
    J l G X Q 10 17 [.ref 38, .ref 6, .int x2, .int x3, .int x4, .int x5, .int x6, .int x7, .float 0, .float 0] [] mu n := by
  refine J_iload h dX6_grow_17 rfl ?_
  refine J_aload_n h dX6_grow_19 rfl rfl ?_
  refine J_getiN (k := 0) h dX6_grow_20 jc2 rfl rfl (by decide) w143 ?_
  refine J_icmp_ge (tgt := 124) h dX6_grow_23 (by decide) (fun q1 => ?_) (fun q1 => ?_)
  · skip
    refine J_iload h dX6_grow_124 rfl ?_
    exact k2 q1
  · skip
    refine J_aload_n h dX6_grow_26 rfl rfl ?_
    refine J_iload h dX6_grow_27 rfl ?_
    exact k3 q1
theorem rX6_growC_29 {l : Launch} {G : jG} {X : jX} {Q : State → Prop} {n hg nc : Nat} {ret : Option FieldType} {mu : jM} {x2 : Int32} {x3 : Int32} {x4 : Int32} {x5 : Int32} {x6 : Int32} {x7 : Int32} {y0 : Int32} {Qc : Int32 → jM → Prop} {h' : Nat} (h : jOk l G X cX6_grow 10 ret RX6 hg nc) (hM : jCi l G yX2_nextTo cX2_nextTo 4 h' (some .int) (.ref 6 :: [.int y0]) mu Qc) (hh : h' < hg ∧ 4 ≤ 21) (hn : n ≤ nc)
    (kk : ∀ v mu', Qc v mu' → J l G X Q 10 32 [.ref 38, .ref 6, .int x2, .int x3, .int x4, .int x5, .int x6, .int x7, .float 0, .float 0] (.int v :: []) mu' n) :
    J l G X Q 10 29 [.ref 38, .ref 6, .int x2, .int x3, .int x4, .int x5, .int x6, .int x7, .float 0, .float 0] [.int y0, .ref 6] mu n :=
  J_callVi (As := [.int y0]) (rest := []) h dX6_grow_29 hM (jgV w760 w733 w734 w78 w735) rfl (ci := 2) rfl rfl nmX2_nextTo rfl hh (Nat.le_of_ble_eq_true rfl) rfl kk hn
theorem rX6_growC_32 {l : Launch} {G : jG} {X : jX} {Q : State → Prop} {n hg nc : Nat} {ret : Option FieldType} {mu : jM} {x2 : Int32} {x3 : Int32} {x4 : Int32} {x5 : Int32} {x6 : Int32} {x7 : Int32} {y0 : Int32} (h : jOk l G X cX6_grow 10 ret RX6 hg nc)
    (k2 : (y0 &&& x3) = 0 → J l G X Q 10 57 [.ref 38, .ref 6, .int x2, .int x3, .int x4, .int x5, .int x6, .int x7, .int (y0 &&& x3), .float 0] [] mu n)
    (k3 : ¬ (y0 &&& x3) = 0 → J l G X Q 10 43 [.ref 38, .ref 6, .int x2, .int x3, .int x4, .int x5, .int x6, .int x7, .int (y0 &&& x3), .float 0] [.int (y0 &&& x3)] mu n) :
    J l G X Q 10 32 [.ref 38, .ref 6, .int x2, .int x3, .int x4, .int x5, .int x6, .int x7, .float 0, .float 0] [.int y0] mu n := by
  refine J_iload_n h dX6_grow_32 rfl rfl ?_
  refine J_iand h dX6_grow_33 ?_
  refine J_istore h dX6_grow_34 (by decide) rfl ?_
  show J l G X Q 10 36 [.ref 38, .ref 6, .int x2, .int x3, .int x4, .int x5, .int x6, .int x7, .int (y0 &&& x3), .float 0] [] mu n
  refine J_iload h dX6_grow_36 rfl ?_
  refine J_if_eq (tgt := 57) h dX6_grow_38 (by decide) (fun q1 => ?_) (fun q1 => ?_)
  · skip
    exact k2 q1
  · skip
    refine J_iload h dX6_grow_41 rfl ?_
    exact k3 q1
theorem rX6_growC_57 {l : Launch} {G : jG} {X : jX} {Q : State → Prop} {n hg nc : Nat} {ret : Option FieldType} {mu : jM} {x2 : Int32} {x3 : Int32} {x4 : Int32} {x5 : Int32} {x6 : Int32} {x7 : Int32} {x8 : Int32} (h : jOk l G X cX6_grow 10 ret RX6 hg nc)
    (k1 : J l G X Q 10 59 [.ref 38, .ref 6, .int x2, .int x3, .int x4, .int x5, .int x6, .int x7, .int x8, .float 0] [.int x5] mu n) :
    J l G X Q 10 57 [.ref 38, .ref 6, .int x2, .int x3, .int x4, .int x5, .int x6, .int x7, .int x8, .float 0] [] mu n := by
  refine J_iload h dX6_grow_57 rfl ?_
  exact k1
theorem rX6_growC_43 {l : Launch} {G : jG} {X : jX} {Q : State → Prop} {n hg nc : Nat} {ret : Option FieldType} {mu : jM} {x2 : Int32} {x3 : Int32} {x4 : Int32} {x5 : Int32} {x6 : Int32} {x7 : Int32} {x8 : Int32} {y0 : Int32} {Qc : Int32 → jM → Prop} {h' : Nat} (h : jOk l G X cX6_grow 10 ret RX6 hg nc) (hM : jCi l G yJ6_bitCount_0f7a4 cJ6_bitCount_0f7a4 1 h' (some .int) [.int y0] mu Qc) (hh : h' < hg ∧ 1 ≤ 21) (hn : n ≤ nc)
    (kk : ∀ v mu', Qc v mu' → J l G X Q 10 46 [.ref 38, .ref 6, .int x2, .int x3, .int x4, .int x5, .int x6, .int x7, .int x8, .float 0] (.int v :: []) mu' n) :
    J l G X Q 10 43 [.ref 38, .ref 6, .int x2, .int x3, .int x4, .int x5, .int x6, .int x7, .int x8, .float 0] [.int y0] mu n :=
  J_callSi (As := [.int y0]) (rest := []) h dX6_grow_43 hM (jgS w761 w690 w95 w691) nmJ6_bitCount_0f7a4 rfl hh (Nat.le_of_ble_eq_true rfl) rfl kk hn
theorem rX6_growC_46 {l : Launch} {G : jG} {X : jX} {Q : State → Prop} {n hg nc : Nat} {ret : Option FieldType} {mu : jM} {x2 : Int32} {x3 : Int32} {x4 : Int32} {x5 : Int32} {x6 : Int32} {x7 : Int32} {x8 : Int32} {y0 : Int32} (h : jOk l G X cX6_grow 10 ret RX6 hg nc)
    (k1 : J l G X Q 10 50 [.ref 38, .ref 6, .int x2, .int x3, .int x4, .int x5, .int x6, .int x7, .int x8, .float 0] [.int x5, .int x4, .int y0] mu n) :
    J l G X Q 10 46 [.ref 38, .ref 6, .int x2, .int x3, .int x4, .int x5, .int x6, .int x7, .int x8, .float 0] [.int y0] mu n := by
  refine J_iload h dX6_grow_46 rfl ?_
  refine J_iload h dX6_grow_48 rfl ?_
  exact k1
theorem rX6_growC_50 {l : Launch} {G : jG} {X : jX} {Q : State → Prop} {n hg nc : Nat} {ret : Option FieldType} {mu : jM} {x2 : Int32} {x3 : Int32} {x4 : Int32} {x5 : Int32} {x6 : Int32} {x7 : Int32} {x8 : Int32} {y0 : Int32} {y1 : Int32} {y2 : Int32} {Qc : Int32 → jM → Prop} {h' : Nat} (h : jOk l G X cX6_grow 10 ret RX6 hg nc) (hM : jCi l G yJ6_bitCount_0f7a4 cJ6_bitCount_0f7a4 1 h' (some .int) [.int y0] mu Qc) (hh : h' < hg ∧ 1 ≤ 21) (hn : n ≤ nc)
    (kk : ∀ v mu', Qc v mu' → J l G X Q 10 53 [.ref 38, .ref 6, .int x2, .int x3, .int x4, .int x5, .int x6, .int x7, .int x8, .float 0] (.int v :: [.int y1, .int y2]) mu' n) :
    J l G X Q 10 50 [.ref 38, .ref 6, .int x2, .int x3, .int x4, .int x5, .int x6, .int x7, .int x8, .float 0] [.int y0, .int y1, .int y2] mu n :=
  J_callSi (As := [.int y0]) (rest := [.int y1, .int y2]) h dX6_grow_50 hM (jgS w761 w690 w95 w691) nmJ6_bitCount_0f7a4 rfl hh (Nat.le_of_ble_eq_true rfl) rfl kk hn
theorem rX6_growC_53 {l : Launch} {G : jG} {X : jX} {Q : State → Prop} {n hg nc : Nat} {ret : Option FieldType} {mu : jM} {x2 : Int32} {x3 : Int32} {x4 : Int32} {x5 : Int32} {x6 : Int32} {x7 : Int32} {x8 : Int32} {y0 : Int32} {y1 : Int32} {y2 : Int32} (h : jOk l G X cX6_grow 10 ret RX6 hg nc)
    (k2 : (y1 * y0) ≤ y2 → J l G X Q 10 63 [.ref 38, .ref 6, .int x2, .int x3, .int x4, .int x5, .int x6, .int x7, .int x8, .int 0] [] mu n)
    (k3 : ¬ (y1 * y0) ≤ y2 → J l G X Q 10 57 [.ref 38, .ref 6, .int x2, .int x3, .int x4, .int x5, .int x6, .int x7, .int x8, .float 0] [] mu n) :
    J l G X Q 10 53 [.ref 38, .ref 6, .int x2, .int x3, .int x4, .int x5, .int x6, .int x7, .int x8, .float 0] [.int y0, .int y1, .int y2] mu n := by
  refine J_imul h dX6_grow_53 ?_
  refine J_icmp_ge (tgt := 60) h dX6_grow_54 (by decide) (fun q1 => ?_) (fun q1 => ?_)
  · skip
    refine J_iconst h dX6_grow_60 ci_0 ?_
    refine J_istore h dX6_grow_61 (by decide) rfl ?_
    show J l G X Q 10 63 [.ref 38, .ref 6, .int x2, .int x3, .int x4, .int x5, .int x6, .int x7, .int x8, .int 0] [] mu n
    exact k2 q1
  · skip
    exact k3 q1
theorem rX6_growC_63 {l : Launch} {G : jG} {X : jX} {Q : State → Prop} {n hg nc : Nat} {ret : Option FieldType} {mu : jM} {x2 : Int32} {x3 : Int32} {x4 : Int32} {x5 : Int32} {x6 : Int32} {x7 : Int32} {x8 : Int32} {x9 : Int32} (h : jOk l G X cX6_grow 10 ret RX6 hg nc) (s5 : ¬ (mu 6 0) ≤ x9 → ¬ ((x8 >>> (x9 &&& 31)) &&& 1) = 0 → vp_in x9 24)
    (k2 : (mu 6 0) ≤ x9 → J l G X Q 10 17 [.ref 38, .ref 6, .int x2, .int x3, .int x4, .int (x5 ||| x8), .int x8, .int (x7 + 1), .int x8, .int x9] [] mu n)
    (k4 : ¬ (mu 6 0) ≤ x9 → ((x8 >>> (x9 &&& 31)) &&& 1) = 0 → J l G X Q 10 101 [.ref 38, .ref 6, .int x2, .int x3, .int x4, .int x5, .int x6, .int x7, .int x8, .int x9] [] mu n)
    (k6 : ¬ (mu 6 0) ≤ x9 → ¬ ((x8 >>> (x9 &&& 31)) &&& 1) = 0 → J l G X Q 10 95 [.ref 38, .ref 6, .int x2, .int x3, .int x4, .int x5, .int x6, .int x7, .int x8, .int x9] [.int ((mu 10 (x9).toNatClampNeg) &&& x6), .int x9, .ref 38] mu n) :
    J l G X Q 10 63 [.ref 38, .ref 6, .int x2, .int x3, .int x4, .int x5, .int x6, .int x7, .int x8, .int x9] [] mu n := by
  refine J_iload h dX6_grow_63 rfl ?_
  refine J_aload_n h dX6_grow_65 rfl rfl ?_
  refine J_getiN (k := 0) h dX6_grow_66 jc2 rfl rfl (by decide) w143 ?_
  refine J_icmp_ge (tgt := 107) h dX6_grow_69 (by decide) (fun q1 => ?_) (fun q1 => ?_)
  · skip
    refine J_iload h dX6_grow_107 rfl ?_
    refine J_iload h dX6_grow_109 rfl ?_
    refine J_ior h dX6_grow_111 ?_
    refine J_istore h dX6_grow_112 (by decide) rfl ?_
    show J l G X Q 10 114 [.ref 38, .ref 6, .int x2, .int x3, .int x4, .int (x5 ||| x8), .int x6, .int x7, .int x8, .int x9] [] mu n
    refine J_iload h dX6_grow_114 rfl ?_
    refine J_istore h dX6_grow_116 (by decide) rfl ?_
    show J l G X Q 10 118 [.ref 38, .ref 6, .int x2, .int x3, .int x4, .int (x5 ||| x8), .int x8, .int x7, .int x8, .int x9] [] mu n
    refine J_iinc h dX6_grow_118 rfl (cc_1 _) (by decide) rfl ?_
    show J l G X Q 10 121 [.ref 38, .ref 6, .int x2, .int x3, .int x4, .int (x5 ||| x8), .int x8, .int (x7 + 1), .int x8, .int x9] [] mu n
    refine J_goto (tgt := 17) h dX6_grow_121 (by decide) ?_
    exact k2 q1
  · skip
    refine J_iload h dX6_grow_72 rfl ?_
    refine J_iload h dX6_grow_74 rfl ?_
    refine J_ishr h dX6_grow_76 ?_
    refine J_iconst h dX6_grow_77 ci_1 ?_
    refine J_iand h dX6_grow_78 ?_
    refine J_if_eq (tgt := 101) h dX6_grow_79 (by decide) (fun q3 => ?_) (fun q3 => ?_)
    · skip
      exact k4 q1 q3
    · skip
      refine J_aload_n h dX6_grow_82 rfl rfl ?_
      refine J_iload h dX6_grow_83 rfl ?_
      refine J_aload_n h dX6_grow_85 rfl rfl ?_
      refine J_getrN (k := 5) h dX6_grow_86 jc2 rfl rfl (by decide) w156 ?_
      refine J_iload h dX6_grow_89 rfl ?_
      refine J_iald h dX6_grow_91 rfl (s5 q1 q3) ?_
      refine J_iload h dX6_grow_92 rfl ?_
      refine J_iand h dX6_grow_94 ?_
      exact k6 q1 q3
theorem rX6_growC_17b {l : Launch} {G : jG} {X : jX} {Q : State → Prop} {n hg nc : Nat} {ret : Option FieldType} {mu : jM} {x2 : Int32} {x3 : Int32} {x4 : Int32} {x5 : Int32} {x6 : Int32} {x7 : Int32} {x8 : Int32} {x9 : Int32} (h : jOk l G X cX6_grow 10 ret RX6 hg nc)
    (k2 : (mu 6 0) ≤ x7 → J l G X Q 10 126 [.ref 38, .ref 6, .int x2, .int x3, .int x4, .int x5, .int x6, .int x7, .int x8, .int x9] [.int x5] mu n)
    (k3 : ¬ (mu 6 0) ≤ x7 → J l G X Q 10 29 [.ref 38, .ref 6, .int x2, .int x3, .int x4, .int x5, .int x6, .int x7, .int x8, .int x9] [.int x5, .ref 6] mu n) :
    J l G X Q 10 17 [.ref 38, .ref 6, .int x2, .int x3, .int x4, .int x5, .int x6, .int x7, .int x8, .int x9] [] mu n := by
  refine J_iload h dX6_grow_17 rfl ?_
  refine J_aload_n h dX6_grow_19 rfl rfl ?_
  refine J_getiN (k := 0) h dX6_grow_20 jc2 rfl rfl (by decide) w143 ?_
  refine J_icmp_ge (tgt := 124) h dX6_grow_23 (by decide) (fun q1 => ?_) (fun q1 => ?_)
  · skip
    refine J_iload h dX6_grow_124 rfl ?_
    exact k2 q1
  · skip
    refine J_aload_n h dX6_grow_26 rfl rfl ?_
    refine J_iload h dX6_grow_27 rfl ?_
    exact k3 q1
theorem rX6_growC_101 {l : Launch} {G : jG} {X : jX} {Q : State → Prop} {n hg nc : Nat} {ret : Option FieldType} {mu : jM} {x2 : Int32} {x3 : Int32} {x4 : Int32} {x5 : Int32} {x6 : Int32} {x7 : Int32} {x8 : Int32} {x9 : Int32} (h : jOk l G X cX6_grow 10 ret RX6 hg nc)
    (k1 : J l G X Q 10 63 [.ref 38, .ref 6, .int x2, .int x3, .int x4, .int x5, .int x6, .int x7, .int x8, .int (x9 + 1)] [] mu n) :
    J l G X Q 10 101 [.ref 38, .ref 6, .int x2, .int x3, .int x4, .int x5, .int x6, .int x7, .int x8, .int x9] [] mu n := by
  refine J_iinc h dX6_grow_101 rfl (cc_1 _) (by decide) rfl ?_
  show J l G X Q 10 104 [.ref 38, .ref 6, .int x2, .int x3, .int x4, .int x5, .int x6, .int x7, .int x8, .int (x9 + 1)] [] mu n
  refine J_goto (tgt := 63) h dX6_grow_104 (by decide) ?_
  exact k1
theorem rX6_growC_95 {l : Launch} {G : jG} {X : jX} {Q : State → Prop} {n hg nc : Nat} {ret : Option FieldType} {mu : jM} {x2 : Int32} {x3 : Int32} {x4 : Int32} {x5 : Int32} {x6 : Int32} {x7 : Int32} {x8 : Int32} {x9 : Int32} {y0 : Int32} {y1 : Int32} {Qc : Int32 → jM → Prop} {h' : Nat} (h : jOk l G X cX6_grow 10 ret RX6 hg nc) (hM : jCi l G yX7_lowestNode cX7_lowestNode 1 h' (some .int) [.int y0] mu Qc) (hh : h' < hg ∧ 1 ≤ 21) (hn : n ≤ nc)
    (kk : ∀ v mu', Qc v mu' → J l G X Q 10 98 [.ref 38, .ref 6, .int x2, .int x3, .int x4, .int x5, .int x6, .int x7, .int x8, .int x9] (.int v :: [.int y1, .ref 38]) mu' n) :
    J l G X Q 10 95 [.ref 38, .ref 6, .int x2, .int x3, .int x4, .int x5, .int x6, .int x7, .int x8, .int x9] [.int y0, .int y1, .ref 38] mu n :=
  J_callSNi (As := [.int y0]) (rest := [.int y1, .ref 38]) h dX6_grow_95 hM w762 w763 w76 w764 nmX7_lowestNode rfl hh (Nat.le_of_ble_eq_true rfl) rfl kk hn
theorem rX6_growC_29b {l : Launch} {G : jG} {X : jX} {Q : State → Prop} {n hg nc : Nat} {ret : Option FieldType} {mu : jM} {x2 : Int32} {x3 : Int32} {x4 : Int32} {x5 : Int32} {x6 : Int32} {x7 : Int32} {x8 : Int32} {x9 : Int32} {y0 : Int32} {Qc : Int32 → jM → Prop} {h' : Nat} (h : jOk l G X cX6_grow 10 ret RX6 hg nc) (hM : jCi l G yX2_nextTo cX2_nextTo 4 h' (some .int) (.ref 6 :: [.int y0]) mu Qc) (hh : h' < hg ∧ 4 ≤ 21) (hn : n ≤ nc)
    (kk : ∀ v mu', Qc v mu' → J l G X Q 10 32 [.ref 38, .ref 6, .int x2, .int x3, .int x4, .int x5, .int x6, .int x7, .int x8, .int x9] (.int v :: []) mu' n) :
    J l G X Q 10 29 [.ref 38, .ref 6, .int x2, .int x3, .int x4, .int x5, .int x6, .int x7, .int x8, .int x9] [.int y0, .ref 6] mu n :=
  J_callVi (As := [.int y0]) (rest := []) h dX6_grow_29 hM (jgV w760 w733 w734 w78 w735) rfl (ci := 2) rfl rfl nmX2_nextTo rfl hh (Nat.le_of_ble_eq_true rfl) rfl kk hn
theorem rX6_growC_98 {l : Launch} {G : jG} {X : jX} {Q : State → Prop} {n hg nc : Nat} {ret : Option FieldType} {mu : jM} {x2 : Int32} {x3 : Int32} {x4 : Int32} {x5 : Int32} {x6 : Int32} {x7 : Int32} {x8 : Int32} {x9 : Int32} {y0 : Int32} {y1 : Int32} {Qc : jM → Prop} {h' : Nat} (h : jOk l G X cX6_grow 10 ret RX6 hg nc) (hM : jCv l G yX6_hang cX6_hang 3 h' (.ref 38 :: [.int y1, .int y0]) mu Qc) (hh : h' < hg ∧ 3 ≤ 21) (hn : n ≤ nc)
    (kk : ∀ mu', Qc mu' → J l G X Q 10 101 [.ref 38, .ref 6, .int x2, .int x3, .int x4, .int x5, .int x6, .int x7, .int x8, .int x9] [] mu' n) :
    J l G X Q 10 98 [.ref 38, .ref 6, .int x2, .int x3, .int x4, .int x5, .int x6, .int x7, .int x8, .int x9] [.int y0, .int y1, .ref 38] mu n :=
  J_callV (As := [.int y1, .int y0]) (rest := []) h dX6_grow_98 hM (jgV w766 w767 w768 w82 w769) rfl (ci := 6) rfl rfl nmX6_hang rfl hh (Nat.le_of_ble_eq_true rfl) rfl kk hn
theorem rX6_growC_32b {l : Launch} {G : jG} {X : jX} {Q : State → Prop} {n hg nc : Nat} {ret : Option FieldType} {mu : jM} {x2 : Int32} {x3 : Int32} {x4 : Int32} {x5 : Int32} {x6 : Int32} {x7 : Int32} {x8 : Int32} {x9 : Int32} {y0 : Int32} (h : jOk l G X cX6_grow 10 ret RX6 hg nc)
    (k2 : (y0 &&& x3) = 0 → J l G X Q 10 57 [.ref 38, .ref 6, .int x2, .int x3, .int x4, .int x5, .int x6, .int x7, .int (y0 &&& x3), .int x9] [] mu n)
    (k3 : ¬ (y0 &&& x3) = 0 → J l G X Q 10 43 [.ref 38, .ref 6, .int x2, .int x3, .int x4, .int x5, .int x6, .int x7, .int (y0 &&& x3), .int x9] [.int (y0 &&& x3)] mu n) :
    J l G X Q 10 32 [.ref 38, .ref 6, .int x2, .int x3, .int x4, .int x5, .int x6, .int x7, .int x8, .int x9] [.int y0] mu n := by
  refine J_iload_n h dX6_grow_32 rfl rfl ?_
  refine J_iand h dX6_grow_33 ?_
  refine J_istore h dX6_grow_34 (by decide) rfl ?_
  show J l G X Q 10 36 [.ref 38, .ref 6, .int x2, .int x3, .int x4, .int x5, .int x6, .int x7, .int (y0 &&& x3), .int x9] [] mu n
  refine J_iload h dX6_grow_36 rfl ?_
  refine J_if_eq (tgt := 57) h dX6_grow_38 (by decide) (fun q1 => ?_) (fun q1 => ?_)
  · skip
    exact k2 q1
  · skip
    refine J_iload h dX6_grow_41 rfl ?_
    exact k3 q1
theorem rX6_growC_57b {l : Launch} {G : jG} {X : jX} {Q : State → Prop} {n hg nc : Nat} {ret : Option FieldType} {mu : jM} {x2 : Int32} {x3 : Int32} {x4 : Int32} {x5 : Int32} {x6 : Int32} {x7 : Int32} {x8 : Int32} {x9 : Int32} (h : jOk l G X cX6_grow 10 ret RX6 hg nc)
    (k1 : J l G X Q 10 59 [.ref 38, .ref 6, .int x2, .int x3, .int x4, .int x5, .int x6, .int x7, .int x8, .int x9] [.int x5] mu n) :
    J l G X Q 10 57 [.ref 38, .ref 6, .int x2, .int x3, .int x4, .int x5, .int x6, .int x7, .int x8, .int x9] [] mu n := by
  refine J_iload h dX6_grow_57 rfl ?_
  exact k1
theorem rX6_growC_43b {l : Launch} {G : jG} {X : jX} {Q : State → Prop} {n hg nc : Nat} {ret : Option FieldType} {mu : jM} {x2 : Int32} {x3 : Int32} {x4 : Int32} {x5 : Int32} {x6 : Int32} {x7 : Int32} {x8 : Int32} {x9 : Int32} {y0 : Int32} {Qc : Int32 → jM → Prop} {h' : Nat} (h : jOk l G X cX6_grow 10 ret RX6 hg nc) (hM : jCi l G yJ6_bitCount_0f7a4 cJ6_bitCount_0f7a4 1 h' (some .int) [.int y0] mu Qc) (hh : h' < hg ∧ 1 ≤ 21) (hn : n ≤ nc)
    (kk : ∀ v mu', Qc v mu' → J l G X Q 10 46 [.ref 38, .ref 6, .int x2, .int x3, .int x4, .int x5, .int x6, .int x7, .int x8, .int x9] (.int v :: []) mu' n) :
    J l G X Q 10 43 [.ref 38, .ref 6, .int x2, .int x3, .int x4, .int x5, .int x6, .int x7, .int x8, .int x9] [.int y0] mu n :=
  J_callSi (As := [.int y0]) (rest := []) h dX6_grow_43 hM (jgS w761 w690 w95 w691) nmJ6_bitCount_0f7a4 rfl hh (Nat.le_of_ble_eq_true rfl) rfl kk hn
theorem rX6_growC_46b {l : Launch} {G : jG} {X : jX} {Q : State → Prop} {n hg nc : Nat} {ret : Option FieldType} {mu : jM} {x2 : Int32} {x3 : Int32} {x4 : Int32} {x5 : Int32} {x6 : Int32} {x7 : Int32} {x8 : Int32} {x9 : Int32} {y0 : Int32} (h : jOk l G X cX6_grow 10 ret RX6 hg nc)
    (k1 : J l G X Q 10 50 [.ref 38, .ref 6, .int x2, .int x3, .int x4, .int x5, .int x6, .int x7, .int x8, .int x9] [.int x5, .int x4, .int y0] mu n) :
    J l G X Q 10 46 [.ref 38, .ref 6, .int x2, .int x3, .int x4, .int x5, .int x6, .int x7, .int x8, .int x9] [.int y0] mu n := by
  refine J_iload h dX6_grow_46 rfl ?_
  refine J_iload h dX6_grow_48 rfl ?_
  exact k1
theorem rX6_growC_50b {l : Launch} {G : jG} {X : jX} {Q : State → Prop} {n hg nc : Nat} {ret : Option FieldType} {mu : jM} {x2 : Int32} {x3 : Int32} {x4 : Int32} {x5 : Int32} {x6 : Int32} {x7 : Int32} {x8 : Int32} {x9 : Int32} {y0 : Int32} {y1 : Int32} {y2 : Int32} {Qc : Int32 → jM → Prop} {h' : Nat} (h : jOk l G X cX6_grow 10 ret RX6 hg nc) (hM : jCi l G yJ6_bitCount_0f7a4 cJ6_bitCount_0f7a4 1 h' (some .int) [.int y0] mu Qc) (hh : h' < hg ∧ 1 ≤ 21) (hn : n ≤ nc)
    (kk : ∀ v mu', Qc v mu' → J l G X Q 10 53 [.ref 38, .ref 6, .int x2, .int x3, .int x4, .int x5, .int x6, .int x7, .int x8, .int x9] (.int v :: [.int y1, .int y2]) mu' n) :
    J l G X Q 10 50 [.ref 38, .ref 6, .int x2, .int x3, .int x4, .int x5, .int x6, .int x7, .int x8, .int x9] [.int y0, .int y1, .int y2] mu n :=
  J_callSi (As := [.int y0]) (rest := [.int y1, .int y2]) h dX6_grow_50 hM (jgS w761 w690 w95 w691) nmJ6_bitCount_0f7a4 rfl hh (Nat.le_of_ble_eq_true rfl) rfl kk hn
theorem rX6_growC_53b {l : Launch} {G : jG} {X : jX} {Q : State → Prop} {n hg nc : Nat} {ret : Option FieldType} {mu : jM} {x2 : Int32} {x3 : Int32} {x4 : Int32} {x5 : Int32} {x6 : Int32} {x7 : Int32} {x8 : Int32} {x9 : Int32} {y0 : Int32} {y1 : Int32} {y2 : Int32} (h : jOk l G X cX6_grow 10 ret RX6 hg nc)
    (k2 : (y1 * y0) ≤ y2 → J l G X Q 10 63 [.ref 38, .ref 6, .int x2, .int x3, .int x4, .int x5, .int x6, .int x7, .int x8, .int 0] [] mu n)
    (k3 : ¬ (y1 * y0) ≤ y2 → J l G X Q 10 57 [.ref 38, .ref 6, .int x2, .int x3, .int x4, .int x5, .int x6, .int x7, .int x8, .int x9] [] mu n) :
    J l G X Q 10 53 [.ref 38, .ref 6, .int x2, .int x3, .int x4, .int x5, .int x6, .int x7, .int x8, .int x9] [.int y0, .int y1, .int y2] mu n := by
  refine J_imul h dX6_grow_53 ?_
  refine J_icmp_ge (tgt := 60) h dX6_grow_54 (by decide) (fun q1 => ?_) (fun q1 => ?_)
  · skip
    refine J_iconst h dX6_grow_60 ci_0 ?_
    refine J_istore h dX6_grow_61 (by decide) rfl ?_
    show J l G X Q 10 63 [.ref 38, .ref 6, .int x2, .int x3, .int x4, .int x5, .int x6, .int x7, .int x8, .int 0] [] mu n
    exact k2 q1
  · skip
    exact k3 q1
