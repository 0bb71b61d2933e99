/-! LockstepNet$Clusters.make(LLockstepNet$Net;I)V -/
theorem rX0_make_0 {l : Launch} {G : jG} {X : jX} {Q : State → Prop} {n hg nc : Nat} {ret : Option FieldType} {mu : jM} {x2 : Int32} (h : jOk l G X cX0_make 6 ret RX0 hg nc)
    (k1 : J l G X Q 6 6 [.ref 37, .ref 6, .int x2, .float 0, .float 0, .float 0] [.ref 6] (wr mu 37 0 0) n) :
    J l G X Q 6 0 [.ref 37, .ref 6, .int x2, .float 0, .float 0, .float 0] [] mu n := by
  refine J_aload_n h dX0_make_0 rfl rfl ?_
  refine J_iconst h dX0_make_1 ci_0 ?_
  refine J_puti (k := 0) (ty0 := tyX0) h dX0_make_2 jc0 tyX0_ok nmX0 rfl rfl (by decide) rfl rfl rfl w273 ?_
  refine J_aload_n h dX0_make_5 rfl rfl ?_
  exact k1
theorem rX0_make_6 {l : Launch} {G : jG} {X : jX} {Q : State → Prop} {n hg nc : Nat} {ret : Option FieldType} {mu : jM} {x2 : Int32} {Qc : Int32 → jM → Prop} {h' : Nat} (h : jOk l G X cX0_make 6 ret RX0 hg nc) (hM : jCi l G yX2_allNodes cX2_allNodes 1 h' (some .int) (.ref 6 :: []) mu Qc) (hh : h' < hg ∧ 1 ≤ 21) (hn : n ≤ nc)
    (kk : ∀ v mu', Qc v mu' → J l G X Q 6 9 [.ref 37, .ref 6, .int x2, .float 0, .float 0, .float 0] (.int v :: []) mu' n) :
    J l G X Q 6 6 [.ref 37, .ref 6, .int x2, .float 0, .float 0, .float 0] [.ref 6] mu n :=
  J_callVi (As := []) (rest := []) h dX0_make_6 hM (jgV w774 w737 w738 w78 w739) rfl (ci := 2) rfl rfl nmX2_allNodes rfl hh (Nat.le_of_ble_eq_true rfl) rfl kk hn
theorem rX0_make_9 {l : Launch} {G : jG} {X : jX} {Q : State → Prop} {n hg nc : Nat} {ret : Option FieldType} {mu : jM} {x2 : Int32} {y0 : Int32} (h : jOk l G X cX0_make 6 ret RX0 hg nc)
    (k1 : J l G X Q 6 13 [.ref 37, .ref 6, .int x2, .int y0, .int 0, .float 0] [] mu n) :
    J l G X Q 6 9 [.ref 37, .ref 6, .int x2, .float 0, .float 0, .float 0] [.int y0] mu n := by
  refine J_istore_n h dX0_make_9 rfl (by decide) rfl ?_
  show J l G X Q 6 10 [.ref 37, .ref 6, .int x2, .int y0, .float 0, .float 0] [] mu n
  refine J_iconst h dX0_make_10 ci_0 ?_
  refine J_istore h dX0_make_11 (by decide) rfl ?_
  show J l G X Q 6 13 [.ref 37, .ref 6, .int x2, .int y0, .int 0, .float 0] [] mu n
  exact k1
theorem rX0_make_13 {l : Launch} {G : jG} {X : jX} {Q : State → Prop} {n hg nc : Nat} {ret : Option FieldType} {mu : jM} {x2 : Int32} {x3 : Int32} {x4 : Int32} (h : jOk l G X cX0_make 6 ret RX0 hg nc)
    (k2 : (mu 6 0) ≤ x4 → J l G X Q 6 72 [.ref 37, .ref 6, .int x2, .int x3, .int x4, .float 0] [.ref 6, .ref 37] mu n)
    (k4 : ¬ (mu 6 0) ≤ x4 → ((x3 >>> (x4 &&& 31)) &&& 1) = 0 → J l G X Q 6 64 [.ref 37, .ref 6, .int x2, .int x3, .int x4, .float 0] [] mu n)
    (k5 : ¬ (mu 6 0) ≤ x4 → ¬ ((x3 >>> (x4 &&& 31)) &&& 1) = 0 → J l G X Q 6 42 [.ref 37, .ref 6, .int x2, .int x3, .int x4, .float 0] [.int (x2 - 1), .int x3, .int x4, .ref 6, .ref 38] mu n) :
    J l G X Q 6 13 [.ref 37, .ref 6, .int x2, .int x3, .int x4, .float 0] [] mu n := by
  refine J_iload h dX0_make_13 rfl ?_
  refine J_aload_n h dX0_make_15 rfl rfl ?_
  refine J_getiN (k := 0) h dX0_make_16 jc2 rfl rfl (by decide) w141 ?_
  refine J_icmp_ge (tgt := 70) h dX0_make_19 (by decide) (fun q1 => ?_) (fun q1 => ?_)
  · skip
    refine J_aload_n h dX0_make_70 rfl rfl ?_
    refine J_aload_n h dX0_make_71 rfl rfl ?_
    exact k2 q1
  · skip
    refine J_iload_n h dX0_make_22 rfl rfl ?_
    refine J_iload h dX0_make_23 rfl ?_
    refine J_ishr h dX0_make_25 ?_
    refine J_iconst h dX0_make_26 ci_1 ?_
    refine J_iand h dX0_make_27 ?_
    refine J_if_eq (tgt := 64) h dX0_make_28 (by decide) (fun q3 => ?_) (fun q3 => ?_)
    · skip
      exact k4 q1 q3
    · skip
      refine J_aload_n h dX0_make_31 rfl rfl ?_
      refine J_getr (k := 2) h dX0_make_32 jc0 rfl rfl (by decide) w277 ?_
      refine J_aload_n h dX0_make_35 rfl rfl ?_
      refine J_iload h dX0_make_36 rfl ?_
      refine J_iload_n h dX0_make_38 rfl rfl ?_
      refine J_iload_n h dX0_make_39 rfl rfl ?_
      refine J_iconst h dX0_make_40 ci_1 ?_
      refine J_isub h dX0_make_41 ?_
      exact k5 q1 q3
theorem rX0_make_72 {l : Launch} {G : jG} {X : jX} {Q : State → Prop} {n hg nc : Nat} {ret : Option FieldType} {mu : jM} {x2 : Int32} {x3 : Int32} {x4 : Int32} {Qc : jM → Prop} {h' : Nat} (h : jOk l G X cX0_make 6 ret RX0 hg nc) (hM : jCv l G yX0_choose cX0_choose 6 h' (.ref 37 :: [.ref 6]) mu Qc) (hh : h' < hg ∧ 6 ≤ 21) (hn : n ≤ nc)
    (kk : ∀ mu', Qc mu' → J l G X Q 6 75 [.ref 37, .ref 6, .int x2, .int x3, .int x4, .float 0] [] mu' n) :
    J l G X Q 6 72 [.ref 37, .ref 6, .int x2, .int x3, .int x4, .float 0] [.ref 6, .ref 37] mu n :=
  J_callV (As := [.ref 6]) (rest := []) h dX0_make_72 hM (jgV w780 w782 w13 w83 w783) rfl (ci := 0) rfl rfl nmX0_choose rfl hh (Nat.le_of_ble_eq_true rfl) rfl kk hn
theorem rX0_make_64 {l : Launch} {G : jG} {X : jX} {Q : State → Prop} {n hg nc : Nat} {ret : Option FieldType} {mu : jM} {x2 : Int32} {x3 : Int32} {x4 : Int32} (h : jOk l G X cX0_make 6 ret RX0 hg nc)
    (k1 : J l G X Q 6 13 [.ref 37, .ref 6, .int x2, .int x3, .int (x4 + 1), .float 0] [] mu n) :
    J l G X Q 6 64 [.ref 37, .ref 6, .int x2, .int x3, .int x4, .float 0] [] mu n := by
  refine J_iinc h dX0_make_64 rfl (cc_1 _) (by decide) rfl ?_
  show J l G X Q 6 67 [.ref 37, .ref 6, .int x2, .int x3, .int (x4 + 1), .float 0] [] mu n
  refine J_goto (tgt := 13) h dX0_make_67 (by decide) ?_
  exact k1
theorem rX0_make_42 {l : Launch} {G : jG} {X : jX} {Q : State → Prop} {n hg nc : Nat} {ret : Option FieldType} {mu : jM} {x2 : Int32} {x3 : Int32} {x4 : Int32} {y0 : Int32} {y1 : Int32} {y2 : Int32} {Qc : Int32 → jM → Prop} {h' : Nat} (h : jOk l G X cX0_make 6 ret RX0 hg nc) (hM : jCi l G yX6_grow cX6_grow 10 h' (some .int) (.ref 38 :: [.ref 6, .int y2, .int y1, .int y0]) mu Qc) (hh : h' < hg ∧ 10 ≤ 21) (hn : n ≤ nc)
    (kk : ∀ v mu', Qc v mu' → J l G X Q 6 45 [.ref 37, .ref 6, .int x2, .int x3, .int x4, .float 0] (.int v :: []) mu' n) :
    J l G X Q 6 42 [.ref 37, .ref 6, .int x2, .int x3, .int x4, .float 0] [.int y0, .int y1, .int y2, .ref 6, .ref 38] mu n :=
  J_callVi (As := [.ref 6, .int y2, .int y1, .int y0]) (rest := []) h dX0_make_42 hM (jgV w775 w753 w754 w82 w755) rfl (ci := 6) rfl rfl nmX6_grow rfl hh (Nat.le_of_ble_eq_true rfl) rfl kk hn
theorem rX0_make_45 {l : Launch} {G : jG} {X : jX} {Q : State → Prop} {n hg nc : Nat} {ret : Option FieldType} {mu : jM} {x2 : Int32} {x3 : Int32} {x4 : Int32} {y0 : Int32} (h : jOk l G X cX0_make 6 ret RX0 hg nc)
    (k1 : J l G X Q 6 54 [.ref 37, .ref 6, .int x2, .int x3, .int x4, .int y0] [.int (mu 6 0), .int y0, .ref 37] mu n) :
    J l G X Q 6 45 [.ref 37, .ref 6, .int x2, .int x3, .int x4, .float 0] [.int y0] mu n := by
  refine J_istore h dX0_make_45 (by decide) rfl ?_
  show J l G X Q 6 47 [.ref 37, .ref 6, .int x2, .int x3, .int x4, .int y0] [] mu n
  refine J_aload_n h dX0_make_47 rfl rfl ?_
  refine J_iload h dX0_make_48 rfl ?_
  refine J_aload_n h dX0_make_50 rfl rfl ?_
  refine J_getiN (k := 0) h dX0_make_51 jc2 rfl rfl (by decide) w141 ?_
  exact k1
theorem rX0_make_54 {l : Launch} {G : jG} {X : jX} {Q : State → Prop} {n hg nc : Nat} {ret : Option FieldType} {mu : jM} {x2 : Int32} {x3 : Int32} {x4 : Int32} {x5 : Int32} {y0 : Int32} {y1 : Int32} {Qc : jM → Prop} {h' : Nat} (h : jOk l G X cX0_make 6 ret RX0 hg nc) (hM : jCv l G yX0_number cX0_number 4 h' (.ref 37 :: [.int y1, .int y0]) mu Qc) (hh : h' < hg ∧ 4 ≤ 21) (hn : n ≤ nc)
    (kk : ∀ mu', Qc mu' → J l G X Q 6 57 [.ref 37, .ref 6, .int x2, .int x3, .int x4, .int x5] [] mu' n) :
    J l G X Q 6 54 [.ref 37, .ref 6, .int x2, .int x3, .int x4, .int x5] [.int y0, .int y1, .ref 37] mu n :=
  J_callV (As := [.int y1, .int y0]) (rest := []) h dX0_make_54 hM (jgV w776 w778 w12 w83 w779) rfl (ci := 0) rfl rfl nmX0_number rfl hh (Nat.le_of_ble_eq_true rfl) rfl kk hn
theorem rX0_make_57 {l : Launch} {G : jG} {X : jX} {Q : State → Prop} {n hg nc : Nat} {ret : Option FieldType} {mu : jM} {x2 : Int32} {x3 : Int32} {x4 : Int32} {x5 : Int32} (h : jOk l G X cX0_make 6 ret RX0 hg nc)
    (k1 : J l G X Q 6 64 [.ref 37, .ref 6, .int x2, .int (x3 &&& (x5 ^^^ (-1))), .int x4, .int x5] [] mu n) :
    J l G X Q 6 57 [.ref 37, .ref 6, .int x2, .int x3, .int x4, .int x5] [] mu n := by
  refine J_iload_n h dX0_make_57 rfl rfl ?_
  refine J_iload h dX0_make_58 rfl ?_
  refine J_iconst h dX0_make_60 ci_m1 ?_
  refine J_ixor h dX0_make_61 ?_
  refine J_iand h dX0_make_62 ?_
  refine J_istore_n h dX0_make_63 rfl (by decide) rfl ?_
  show J l G X Q 6 64 [.ref 37, .ref 6, .int x2, .int (x3 &&& (x5 ^^^ (-1))), .int x4, .int x5] [] mu n
  exact k1
theorem rX0_make_64b {l : Launch} {G : jG} {X : jX} {Q : State → Prop} {n hg nc : Nat} {ret : Option FieldType} {mu : jM} {x2 : Int32} {x3 : Int32} {x4 : Int32} {x5 : Int32} (h : jOk l G X cX0_make 6 ret RX0 hg nc)
    (k1 : J l G X Q 6 13 [.ref 37, .ref 6, .int x2, .int x3, .int (x4 + 1), .int x5] [] mu n) :
    J l G X Q 6 64 [.ref 37, .ref 6, .int x2, .int x3, .int x4, .int x5] [] mu n := by
  refine J_iinc h dX0_make_64 rfl (cc_1 _) (by decide) rfl ?_
  show J l G X Q 6 67 [.ref 37, .ref 6, .int x2, .int x3, .int (x4 + 1), .int x5] [] mu n
  refine J_goto (tgt := 13) h dX0_make_67 (by decide) ?_
  exact k1
theorem rX0_make_13b {l : Launch} {G : jG} {X : jX} {Q : State → Prop} {n hg nc : Nat} {ret : Option FieldType} {mu : jM} {x2 : Int32} {x3 : Int32} {x4 : Int32} {x5 : Int32} (h : jOk l G X cX0_make 6 ret RX0 hg nc)
    (k2 : (mu 6 0) ≤ x4 → J l G X Q 6 72 [.ref 37, .ref 6, .int x2, .int x3, .int x4, .int x5] [.ref 6, .ref 37] mu n)
    (k4 : ¬ (mu 6 0) ≤ x4 → ((x3 >>> (x4 &&& 31)) &&& 1) = 0 → J l G X Q 6 64 [.ref 37, .ref 6, .int x2, .int x3, .int x4, .int x5] [] mu n)
    (k5 : ¬ (mu 6 0) ≤ x4 → ¬ ((x3 >>> (x4 &&& 31)) &&& 1) = 0 → J l G X Q 6 42 [.ref 37, .ref 6, .int x2, .int x3, .int x4, .int x5] [.int (x2 - 1), .int x3, .int x4, .ref 6, .ref 38] mu n) :
    J l G X Q 6 13 [.ref 37, .ref 6, .int x2, .int x3, .int x4, .int x5] [] mu n := by
  refine J_iload h dX0_make_13 rfl ?_
  refine J_aload_n h dX0_make_15 rfl rfl ?_
  refine J_getiN (k := 0) h dX0_make_16 jc2 rfl rfl (by decide) w141 ?_
  refine J_icmp_ge (tgt := 70) h dX0_make_19 (by decide) (fun q1 => ?_) (fun q1 => ?_)
  · skip
    refine J_aload_n h dX0_make_70 rfl rfl ?_
    refine J_aload_n h dX0_make_71 rfl rfl ?_
    exact k2 q1
  · skip
    refine J_iload_n h dX0_make_22 rfl rfl ?_
    refine J_iload h dX0_make_23 rfl ?_
    refine J_ishr h dX0_make_25 ?_
    refine J_iconst h dX0_make_26 ci_1 ?_
    refine J_iand h dX0_make_27 ?_
    refine J_if_eq (tgt := 64) h dX0_make_28 (by decide) (fun q3 => ?_) (fun q3 => ?_)
    · skip
      exact k4 q1 q3
    · skip
      refine J_aload_n h dX0_make_31 rfl rfl ?_
      refine J_getr (k := 2) h dX0_make_32 jc0 rfl rfl (by decide) w277 ?_
      refine J_aload_n h dX0_make_35 rfl rfl ?_
      refine J_iload h dX0_make_36 rfl ?_
      refine J_iload_n h dX0_make_38 rfl rfl ?_
      refine J_iload_n h dX0_make_39 rfl rfl ?_
      refine J_iconst h dX0_make_40 ci_1 ?_
      refine J_isub h dX0_make_41 ?_
      exact k5 q1 q3
theorem rX0_make_72b {l : Launch} {G : jG} {X : jX} {Q : State → Prop} {n hg nc : Nat} {ret : Option FieldType} {mu : jM} {x2 : Int32} {x3 : Int32} {x4 : Int32} {x5 : Int32} {Qc : jM → Prop} {h' : Nat} (h : jOk l G X cX0_make 6 ret RX0 hg nc) (hM : jCv l G yX0_choose cX0_choose 6 h' (.ref 37 :: [.ref 6]) mu Qc) (hh : h' < hg ∧ 6 ≤ 21) (hn : n ≤ nc)
    (kk : ∀ mu', Qc mu' → J l G X Q 6 75 [.ref 37, .ref 6, .int x2, .int x3, .int x4, .int x5] [] mu' n) :
    J l G X Q 6 72 [.ref 37, .ref 6, .int x2, .int x3, .int x4, .int x5] [.ref 6, .ref 37] mu n :=
  J_callV (As := [.ref 6]) (rest := []) h dX0_make_72 hM (jgV w780 w782 w13 w83 w783) rfl (ci := 0) rfl rfl nmX0_choose rfl hh (Nat.le_of_ble_eq_true rfl) rfl kk hn
theorem rX0_make_42b {l : Launch} {G : jG} {X : jX} {Q : State → Prop} {n hg nc : Nat} {ret : Option FieldType} {mu : jM} {x2 : Int32} {x3 : Int32} {x4 : Int32} {x5 : Int32} {y0 : Int32} {y1 : Int32} {y2 : Int32} {Qc : Int32 → jM → Prop} {h' : Nat} (h : jOk l G X cX0_make 6 ret RX0 hg nc) (hM : jCi l G yX6_grow cX6_grow 10 h' (some .int) (.ref 38 :: [.ref 6, .int y2, .int y1, .int y0]) mu Qc) (hh : h' < hg ∧ 10 ≤ 21) (hn : n ≤ nc)
    (kk : ∀ v mu', Qc v mu' → J l G X Q 6 45 [.ref 37, .ref 6, .int x2, .int x3, .int x4, .int x5] (.int v :: []) mu' n) :
    J l G X Q 6 42 [.ref 37, .ref 6, .int x2, .int x3, .int x4, .int x5] [.int y0, .int y1, .int y2, .ref 6, .ref 38] mu n :=
  J_callVi (As := [.ref 6, .int y2, .int y1, .int y0]) (rest := []) h dX0_make_42 hM (jgV w775 w753 w754 w82 w755) rfl (ci := 6) rfl rfl nmX6_grow rfl hh (Nat.le_of_ble_eq_true rfl) rfl kk hn
theorem rX0_make_45b {l : Launch} {G : jG} {X : jX} {Q : State → Prop} {n hg nc : Nat} {ret : Option FieldType} {mu : jM} {x2 : Int32} {x3 : Int32} {x4 : Int32} {x5 : Int32} {y0 : Int32} (h : jOk l G X cX0_make 6 ret RX0 hg nc)
    (k1 : J l G X Q 6 54 [.ref 37, .ref 6, .int x2, .int x3, .int x4, .int y0] [.int (mu 6 0), .int y0, .ref 37] mu n) :
    J l G X Q 6 45 [.ref 37, .ref 6, .int x2, .int x3, .int x4, .int x5] [.int y0] mu n := by
  refine J_istore h dX0_make_45 (by decide) rfl ?_
  show J l G X Q 6 47 [.ref 37, .ref 6, .int x2, .int x3, .int x4, .int y0] [] mu n
  refine J_aload_n h dX0_make_47 rfl rfl ?_
  refine J_iload h dX0_make_48 rfl ?_
  refine J_aload_n h dX0_make_50 rfl rfl ?_
  refine J_getiN (k := 0) h dX0_make_51 jc2 rfl rfl (by decide) w141 ?_
  exact k1
/-! LockstepNet$Clusters.number(II)V -/
theorem rX0_number_0 {l : Launch} {G : jG} {X : jX} {Q : State → Prop} {n hg nc : Nat} {ret : Option FieldType} {mu : jM} {x1 : Int32} {x2 : Int32} (h : jOk l G X cX0_number 4 ret RX0 hg nc)
    (k1 : J l G X Q 4 2 [.ref 37, .int x1, .int x2, .int 0] [] mu n) :
    J l G X Q 4 0 [.ref 37, .int x1, .int x2, .float 0] [] mu n := by
  refine J_iconst h dX0_number_0 ci_0 ?_
  refine J_istore_n h dX0_number_1 rfl (by decide) rfl ?_
  show J l G X Q 4 2 [.ref 37, .int x1, .int x2, .int 0] [] mu n
  exact k1
theorem rX0_number_2 {l : Launch} {G : jG} {X : jX} {Q : State → Prop} {n hg nc : Nat} {ret : Option FieldType} {mu : jM} {x1 : Int32} {x2 : Int32} {x3 : Int32} (h : jOk l G X cX0_number 4 ret RX0 hg nc) (s5 : ¬ x2 ≤ x3 → ¬ ((x1 >>> (x3 &&& 31)) &&& 1) = 0 → vp_in x3 24)
    (k2 : x2 ≤ x3 → J l G X Q 4 41 [.ref 37, .int x1, .int x2, .int x3] [] (wr mu 37 0 ((mu 37 0) + 1)) n)
    (k4 : ¬ x2 ≤ x3 → ((x1 >>> (x3 &&& 31)) &&& 1) = 0 → J l G X Q 4 25 [.ref 37, .int x1, .int x2, .int x3] [] mu n)
    (k6 : ¬ x2 ≤ x3 → ¬ ((x1 >>> (x3 &&& 31)) &&& 1) = 0 → J l G X Q 4 25 [.ref 37, .int x1, .int x2, .int x3] [] (wr mu 42 (x3).toNatClampNeg (mu 37 0)) n) :
    J l G X Q 4 2 [.ref 37, .int x1, .int x2, .int x3] [] mu n := by
  refine J_iload_n h dX0_number_2 rfl rfl ?_
  refine J_iload_n h dX0_number_3 rfl rfl ?_
  refine J_icmp_ge (tgt := 31) h dX0_number_4 (by decide) (fun q1 => ?_) (fun q1 => ?_)
  · skip
    refine J_aload_n h dX0_number_31 rfl rfl ?_
    refine J_dup h dX0_number_32 rfl ?_
    refine J_geti (k := 0) h dX0_number_33 jc0 rfl rfl (by decide) w273 ?_
    refine J_iconst h dX0_number_36 ci_1 ?_
    refine J_iadd h dX0_number_37 ?_
    refine J_puti (k := 0) (ty0 := tyX0) h dX0_number_38 jc0 tyX0_ok nmX0 rfl rfl (by decide) rfl rfl rfl w273 ?_
    exact k2 q1
  · skip
    refine J_iload_n h dX0_number_7 rfl rfl ?_
    refine J_iload_n h dX0_number_8 rfl rfl ?_
    refine J_ishr h dX0_number_9 ?_
    refine J_iconst h dX0_number_10 ci_1 ?_
    refine J_iand h dX0_number_11 ?_
    refine J_if_eq (tgt := 25) h dX0_number_12 (by decide) (fun q3 => ?_) (fun q3 => ?_)
    · skip
      exact k4 q1 q3
    · skip
      refine J_aload_n h dX0_number_15 rfl rfl ?_
      refine J_getr (k := 3) h dX0_number_16 jc0 rfl rfl (by decide) w280 ?_
      refine J_iload_n h dX0_number_19 rfl rfl ?_
      refine J_aload_n h dX0_number_20 rfl rfl ?_
      refine J_geti (k := 0) h dX0_number_21 jc0 rfl rfl (by decide) w273 ?_
      refine J_iast h dX0_number_24 rfl (s5 q1 q3) ?_
      exact k6 q1 q3
theorem rX0_number_25 {l : Launch} {G : jG} {X : jX} {Q : State → Prop} {n hg nc : Nat} {ret : Option FieldType} {mu : jM} {x1 : Int32} {x2 : Int32} {x3 : Int32} (h : jOk l G X cX0_number 4 ret RX0 hg nc)
    (k1 : J l G X Q 4 2 [.ref 37, .int x1, .int x2, .int (x3 + 1)] [] mu n) :
    J l G X Q 4 25 [.ref 37, .int x1, .int x2, .int x3] [] mu n := by
  refine J_iinc h dX0_number_25 rfl (cc_1 _) (by decide) rfl ?_
  show J l G X Q 4 28 [.ref 37, .int x1, .int x2, .int (x3 + 1)] [] mu n
  refine J_goto (tgt := 2) h dX0_number_28 (by decide) ?_
  exact k1
/-! LockstepNet$Clusters.choose(LLockstepNet$Net;)V -/
theorem rX0_choose_0 {l : Launch} {G : jG} {X : jX} {Q : State → Prop} {n hg nc : Nat} {ret : Option FieldType} {mu : jM} (h : jOk l G X cX0_choose 6 ret RX0 hg nc)
    (k1 : J l G X Q 6 10 [.ref 37, .ref 6, .float 0, .float 0, .float 0, .float 0] [.int (-1), .ref 44] (wr mu 37 1 0) n) :
    J l G X Q 6 0 [.ref 37, .ref 6, .float 0, .float 0, .float 0, .float 0] [] mu n := by
  refine J_aload_n h dX0_choose_0 rfl rfl ?_
  refine J_iconst h dX0_choose_1 ci_0 ?_
  refine J_puti (k := 1) (ty0 := tyX0) h dX0_choose_2 jc0 tyX0_ok nmX0 rfl rfl (by decide) rfl rfl rfl w275 ?_
  refine J_aload_n h dX0_choose_5 rfl rfl ?_
  refine J_getr (k := 5) h dX0_choose_6 jc0 rfl rfl (by decide) w285 ?_
  refine J_iconst h dX0_choose_9 ci_m1 ?_
  exact k1
theorem rX0_choose_10 {l : Launch} {G : jG} {X : jX} {Q : State → Prop} {n hg nc : Nat} {ret : Option FieldType} {mu : jM} {y0 : Int32} {Qc : jM → Prop} {h' : Nat} (h : jOk l G X cX0_choose 6 ret RX0 hg nc) (hM : jCv l G yJ7_fill_53178 cJ7_fill_53178 4 h' [.ref 44, .int y0] mu Qc) (hh : h' < hg ∧ 4 ≤ 21) (hn : n ≤ nc)
    (kk : ∀ mu', Qc mu' → J l G X Q 6 13 [.ref 37, .ref 6, .float 0, .float 0, .float 0, .float 0] [] mu' n) :
    J l G X Q 6 10 [.ref 37, .ref 6, .float 0, .float 0, .float 0, .float 0] [.int y0, .ref 44] mu n :=
  J_callS (As := [.ref 44, .int y0]) (rest := []) h dX0_choose_10 hM (jgS w784 w514 w90 w515) nmJ7_fill_53178 rfl hh (Nat.le_of_ble_eq_true rfl) rfl kk hn
theorem rX0_choose_13 {l : Launch} {G : jG} {X : jX} {Q : State → Prop} {n hg nc : Nat} {ret : Option FieldType} {mu : jM} (h : jOk l G X cX0_choose 6 ret RX0 hg nc)
    (k1 : J l G X Q 6 18 [.ref 37, .ref 6, .float 0, .float 0, .float 0, .float 0] [.int 0, .ref 43] mu n) :
    J l G X Q 6 13 [.ref 37, .ref 6, .float 0, .float 0, .float 0, .float 0] [] mu n := by
  refine J_aload_n h dX0_choose_13 rfl rfl ?_
  refine J_getr (k := 4) h dX0_choose_14 jc0 rfl rfl (by decide) w282 ?_
  refine J_iconst h dX0_choose_17 ci_0 ?_
  exact k1
theorem rX0_choose_18 {l : Launch} {G : jG} {X : jX} {Q : State → Prop} {n hg nc : Nat} {ret : Option FieldType} {mu : jM} {y0 : Int32} {Qc : jM → Prop} {h' : Nat} (h : jOk l G X cX0_choose 6 ret RX0 hg nc) (hM : jCv l G yJ7_fill_53178 cJ7_fill_53178 4 h' [.ref 43, .int y0] mu Qc) (hh : h' < hg ∧ 4 ≤ 21) (hn : n ≤ nc)
    (kk : ∀ mu', Qc mu' → J l G X Q 6 21 [.ref 37, .ref 6, .float 0, .float 0, .float 0, .float 0] [] mu' n) :
    J l G X Q 6 18 [.ref 37, .ref 6, .float 0, .float 0, .float 0, .float 0] [.int y0, .ref 43] mu n :=
  J_callS (As := [.ref 43, .int y0]) (rest := []) h dX0_choose_18 hM (jgS w784 w514 w90 w515) nmJ7_fill_53178 rfl hh (Nat.le_of_ble_eq_true rfl) rfl kk hn
theorem rX0_choose_21 {l : Launch} {G : jG} {X : jX} {Q : State → Prop} {n hg nc : Nat} {ret : Option FieldType} {mu : jM} (h : jOk l G X cX0_choose 6 ret RX0 hg nc)
    (k1 : J l G X Q 6 23 [.ref 37, .ref 6, .int 0, .float 0, .float 0, .float 0] [] mu n) :
    J l G X Q 6 21 [.ref 37, .ref 6, .float 0, .float 0, .float 0, .float 0] [] mu n := by
  refine J_iconst h dX0_choose_21 ci_0 ?_
  refine J_istore_n h dX0_choose_22 rfl (by decide) rfl ?_
  show J l G X Q 6 23 [.ref 37, .ref 6, .int 0, .float 0, .float 0, .float 0] [] mu n
  exact k1
theorem rX0_choose_23 {l : Launch} {G : jG} {X : jX} {Q : State → Prop} {n hg nc : Nat} {ret : Option FieldType} {mu : jM} {x2 : Int32} (h : jOk l G X cX0_choose 6 ret RX0 hg nc) (s3 : ¬ (mu 6 1) ≤ x2 → vp_in x2 60) (s4 : ¬ (mu 6 1) ≤ x2 → vp_in x2 60) (s5 : ¬ (mu 6 1) ≤ x2 → vp_in (mu 7 (x2).toNatClampNeg) 24) (s6 : ¬ (mu 6 1) ≤ x2 → vp_in (mu 8 (x2).toNatClampNeg) 24) (s7 : ¬ (mu 6 1) ≤ x2 → vp_in (mu 7 (x2).toNatClampNeg) 24) (s8 : ¬ (mu 6 1) ≤ x2 → vp_in (mu 8 (x2).toNatClampNeg) 24) (s11 : ¬ (mu 6 1) ≤ x2 → ¬ (mu 42 ((mu 7 (x2).toNatClampNeg)).toNatClampNeg) = (mu 42 ((mu 8 (x2).toNatClampNeg)).toNatClampNeg) → vp_in (((mu 42 ((mu 7 (x2).toNatClampNeg)).toNatClampNeg) * 24) + (mu 42 ((mu 8 (x2).toNatClampNeg)).toNatClampNeg)) 576) (s14 : ¬ (mu 6 1) ≤ x2 → ¬ (mu 42 ((mu 7 (x2).toNatClampNeg)).toNatClampNeg) = (mu 42 ((mu 8 (x2).toNatClampNeg)).toNatClampNeg) → ¬ 0 ≤ (mu 44 ((((mu 42 ((mu 7 (x2).toNatClampNeg)).toNatClampNeg) * 24) + (mu 42 ((mu 8 (x2).toNatClampNeg)).toNatClampNeg))).toNatClampNeg) → vp_in (((mu 42 ((mu 7 (x2).toNatClampNeg)).toNatClampNeg) * 24) + (mu 42 ((mu 8 (x2).toNatClampNeg)).toNatClampNeg)) 576) (s15 : ¬ (mu 6 1) ≤ x2 → ¬ (mu 42 ((mu 7 (x2).toNatClampNeg)).toNatClampNeg) = (mu 42 ((mu 8 (x2).toNatClampNeg)).toNatClampNeg) → ¬ 0 ≤ (mu 44 ((((mu 42 ((mu 7 (x2).toNatClampNeg)).toNatClampNeg) * 24) + (mu 42 ((mu 8 (x2).toNatClampNeg)).toNatClampNeg))).toNatClampNeg) → vp_in (mu 8 (x2).toNatClampNeg) 24) (s16 : ¬ (mu 6 1) ≤ x2 → ¬ (mu 42 ((mu 7 (x2).toNatClampNeg)).toNatClampNeg) = (mu 42 ((mu 8 (x2).toNatClampNeg)).toNatClampNeg) → ¬ 0 ≤ (mu 44 ((((mu 42 ((mu 7 (x2).toNatClampNeg)).toNatClampNeg) * 24) + (mu 42 ((mu 8 (x2).toNatClampNeg)).toNatClampNeg))).toNatClampNeg) → vp_in (mu 7 (x2).toNatClampNeg) 24) (s17 : ¬ (mu 6 1) ≤ x2 → ¬ (mu 42 ((mu 7 (x2).toNatClampNeg)).toNatClampNeg) = (mu 42 ((mu 8 (x2).toNatClampNeg)).toNatClampNeg) → ¬ 0 ≤ (mu 44 ((((mu 42 ((mu 7 (x2).toNatClampNeg)).toNatClampNeg) * 24) + (mu 42 ((mu 8 (x2).toNatClampNeg)).toNatClampNeg))).toNatClampNeg) → vp_in (((mu 42 ((mu 8 (x2).toNatClampNeg)).toNatClampNeg) * 24) + (mu 42 ((mu 7 (x2).toNatClampNeg)).toNatClampNeg)) 576) (s18 : ¬ (mu 6 1) ≤ x2 → ¬ (mu 42 ((mu 7 (x2).toNatClampNeg)).toNatClampNeg) = (mu 42 ((mu 8 (x2).toNatClampNeg)).toNatClampNeg) → ¬ 0 ≤ (mu 44 ((((mu 42 ((mu 7 (x2).toNatClampNeg)).toNatClampNeg) * 24) + (mu 42 ((mu 8 (x2).toNatClampNeg)).toNatClampNeg))).toNatClampNeg) → vp_in (mu 7 (x2).toNatClampNeg) 24) (s19 : ¬ (mu 6 1) ≤ x2 → ¬ (mu 42 ((mu 7 (x2).toNatClampNeg)).toNatClampNeg) = (mu 42 ((mu 8 (x2).toNatClampNeg)).toNatClampNeg) → ¬ 0 ≤ (mu 44 ((((mu 42 ((mu 7 (x2).toNatClampNeg)).toNatClampNeg) * 24) + (mu 42 ((mu 8 (x2).toNatClampNeg)).toNatClampNeg))).toNatClampNeg) → vp_in (mu 7 (x2).toNatClampNeg) 24) (s20 : ¬ (mu 6 1) ≤ x2 → ¬ (mu 42 ((mu 7 (x2).toNatClampNeg)).toNatClampNeg) = (mu 42 ((mu 8 (x2).toNatClampNeg)).toNatClampNeg) → ¬ 0 ≤ (mu 44 ((((mu 42 ((mu 7 (x2).toNatClampNeg)).toNatClampNeg) * 24) + (mu 42 ((mu 8 (x2).toNatClampNeg)).toNatClampNeg))).toNatClampNeg) → vp_in (mu 8 (x2).toNatClampNeg) 24) (s21 : ¬ (mu 6 1) ≤ x2 → ¬ (mu 42 ((mu 7 (x2).toNatClampNeg)).toNatClampNeg) = (mu 42 ((mu 8 (x2).toNatClampNeg)).toNatClampNeg) → ¬ 0 ≤ (mu 44 ((((mu 42 ((mu 7 (x2).toNatClampNeg)).toNatClampNeg) * 24) + (mu 42 ((mu 8 (x2).toNatClampNeg)).toNatClampNeg))).toNatClampNeg) → vp_in (mu 8 (x2).toNatClampNeg) 24)
    (k2 : (mu 6 1) ≤ x2 → J l G X Q 6 164 [.ref 37, .ref 6, .int x2, .float 0, .float 0, .float 0] [] mu n)
    (k10 : ¬ (mu 6 1) ≤ x2 → (mu 42 ((mu 7 (x2).toNatClampNeg)).toNatClampNeg) = (mu 42 ((mu 8 (x2).toNatClampNeg)).toNatClampNeg) → J l G X Q 6 158 [.ref 37, .ref 6, .int x2, .int (mu 7 (x2).toNatClampNeg), .int (mu 8 (x2).toNatClampNeg), .int (((mu 42 ((mu 7 (x2).toNatClampNeg)).toNatClampNeg) * 24) + (mu 42 ((mu 8 (x2).toNatClampNeg)).toNatClampNeg))] [] mu n)
    (k13 : ¬ (mu 6 1) ≤ x2 → ¬ (mu 42 ((mu 7 (x2).toNatClampNeg)).toNatClampNeg) = (mu 42 ((mu 8 (x2).toNatClampNeg)).toNatClampNeg) → 0 ≤ (mu 44 ((((mu 42 ((mu 7 (x2).toNatClampNeg)).toNatClampNeg) * 24) + (mu 42 ((mu 8 (x2).toNatClampNeg)).toNatClampNeg))).toNatClampNeg) → J l G X Q 6 158 [.ref 37, .ref 6, .int x2, .int (mu 7 (x2).toNatClampNeg), .int (mu 8 (x2).toNatClampNeg), .int (((mu 42 ((mu 7 (x2).toNatClampNeg)).toNatClampNeg) * 24) + (mu 42 ((mu 8 (x2).toNatClampNeg)).toNatClampNeg))] [] mu n)
    (k22 : ¬ (mu 6 1) ≤ x2 → ¬ (mu 42 ((mu 7 (x2).toNatClampNeg)).toNatClampNeg) = (mu 42 ((mu 8 (x2).toNatClampNeg)).toNatClampNeg) → ¬ 0 ≤ (mu 44 ((((mu 42 ((mu 7 (x2).toNatClampNeg)).toNatClampNeg) * 24) + (mu 42 ((mu 8 (x2).toNatClampNeg)).toNatClampNeg))).toNatClampNeg) → J l G X Q 6 158 [.ref 37, .ref 6, .int x2, .int (mu 7 (x2).toNatClampNeg), .int (mu 8 (x2).toNatClampNeg), .int (((mu 42 ((mu 7 (x2).toNatClampNeg)).toNatClampNeg) * 24) + (mu 42 ((mu 8 (x2).toNatClampNeg)).toNatClampNeg))] [] (wr (wr (wr (wr (wr mu 44 ((((mu 42 ((mu 7 (x2).toNatClampNeg)).toNatClampNeg) * 24) + (mu 42 ((mu 8 (x2).toNatClampNeg)).toNatClampNeg))).toNatClampNeg x2) 44 ((((mu 42 ((mu 8 (x2).toNatClampNeg)).toNatClampNeg) * 24) + (mu 42 ((mu 7 (x2).toNatClampNeg)).toNatClampNeg))).toNatClampNeg x2) 43 ((mu 7 (x2).toNatClampNeg)).toNatClampNeg ((mu 43 ((mu 7 (x2).toNatClampNeg)).toNatClampNeg) ||| (1 <<< ((mu 8 (x2).toNatClampNeg) &&& 31)))) 43 ((mu 8 (x2).toNatClampNeg)).toNatClampNeg (((wr (wr (wr mu 44 ((((mu 42 ((mu 7 (x2).toNatClampNeg)).toNatClampNeg) * 24) + (mu 42 ((mu 8 (x2).toNatClampNeg)).toNatClampNeg))).toNatClampNeg x2) 44 ((((mu 42 ((mu 8 (x2).toNatClampNeg)).toNatClampNeg) * 24) + (mu 42 ((mu 7 (x2).toNatClampNeg)).toNatClampNeg))).toNatClampNeg x2) 43 ((mu 7 (x2).toNatClampNeg)).toNatClampNeg ((mu 43 ((mu 7 (x2).toNatClampNeg)).toNatClampNeg) ||| (1 <<< ((mu 8 (x2).toNatClampNeg) &&& 31)))) 43 ((mu 8 (x2).toNatClampNeg)).toNatClampNeg) ||| (1 <<< ((mu 7 (x2).toNatClampNeg) &&& 31)))) 37 1 ((mu 37 1) + 1)) n) :
    J l G X Q 6 23 [.ref 37, .ref 6, .int x2, .float 0, .float 0, .float 0] [] mu n := by
  refine J_iload_n h dX0_choose_23 rfl rfl ?_
  refine J_aload_n h dX0_choose_24 rfl rfl ?_
  refine J_getiN (k := 1) h dX0_choose_25 jc2 rfl rfl (by decide) w147 ?_
  refine J_icmp_ge (tgt := 164) h dX0_choose_28 (by decide) (fun q1 => ?_) (fun q1 => ?_)
  · skip
    exact k2 q1
  · skip
    refine J_aload_n h dX0_choose_31 rfl rfl ?_
    refine J_getrN (k := 2) h dX0_choose_32 jc2 rfl rfl (by decide) w149 ?_
    refine J_iload_n h dX0_choose_35 rfl rfl ?_
    refine J_iald h dX0_choose_36 rfl (s3 q1) ?_
    refine J_istore_n h dX0_choose_37 rfl (by decide) rfl ?_
    show J l G X Q 6 38 [.ref 37, .ref 6, .int x2, .int (mu 7 (x2).toNatClampNeg), .float 0, .float 0] [] mu n
    refine J_aload_n h dX0_choose_38 rfl rfl ?_
    refine J_getrN (k := 3) h dX0_choose_39 jc2 rfl rfl (by decide) w151 ?_
    refine J_iload_n h dX0_choose_42 rfl rfl ?_
    refine J_iald h dX0_choose_43 rfl (s4 q1) ?_
    refine J_istore h dX0_choose_44 (by decide) rfl ?_
    show J l G X Q 6 46 [.ref 37, .ref 6, .int x2, .int (mu 7 (x2).toNatClampNeg), .int (mu 8 (x2).toNatClampNeg), .float 0] [] mu n
    refine J_aload_n h dX0_choose_46 rfl rfl ?_
    refine J_getr (k := 3) h dX0_choose_47 jc0 rfl rfl (by decide) w280 ?_
    refine J_iload_n h dX0_choose_50 rfl rfl ?_
    refine J_iald h dX0_choose_51 rfl (s5 q1) ?_
    refine J_bipush h dX0_choose_52 cb_24 ?_
    refine J_imul h dX0_choose_54 ?_
    refine J_aload_n h dX0_choose_55 rfl rfl ?_
    refine J_getr (k := 3) h dX0_choose_56 jc0 rfl rfl (by decide) w280 ?_
    refine J_iload h dX0_choose_59 rfl ?_
    refine J_iald h dX0_choose_61 rfl (s6 q1) ?_
    refine J_iadd h dX0_choose_62 ?_
    refine J_istore h dX0_choose_63 (by decide) rfl ?_
    show J l G X Q 6 65 [.ref 37, .ref 6, .int x2, .int (mu 7 (x2).toNatClampNeg), .int (mu 8 (x2).toNatClampNeg), .int (((mu 42 ((mu 7 (x2).toNatClampNeg)).toNatClampNeg) * 24) + (mu 42 ((mu 8 (x2).toNatClampNeg)).toNatClampNeg))] [] mu n
    refine J_aload_n h dX0_choose_65 rfl rfl ?_
    refine J_getr (k := 3) h dX0_choose_66 jc0 rfl rfl (by decide) w280 ?_
    refine J_iload_n h dX0_choose_69 rfl rfl ?_
    refine J_iald h dX0_choose_70 rfl (s7 q1) ?_
    refine J_aload_n h dX0_choose_71 rfl rfl ?_
    refine J_getr (k := 3) h dX0_choose_72 jc0 rfl rfl (by decide) w280 ?_
    refine J_iload h dX0_choose_75 rfl ?_
    refine J_iald h dX0_choose_77 rfl (s8 q1) ?_
    refine J_icmp_eq (tgt := 158) h dX0_choose_78 (by decide) (fun q9 => ?_) (fun q9 => ?_)
    · skip
      exact k10 q1 q9
    · skip
      refine J_aload_n h dX0_choose_81 rfl rfl ?_
      refine J_getr (k := 5) h dX0_choose_82 jc0 rfl rfl (by decide) w285 ?_
      refine J_iload h dX0_choose_85 rfl ?_
      refine J_iald h dX0_choose_87 rfl (s11 q1 q9) ?_
      refine J_if_ge (tgt := 158) h dX0_choose_88 (by decide) (fun q12 => ?_) (fun q12 => ?_)
      · skip
        exact k13 q1 q9 q12
      · skip
        refine J_aload_n h dX0_choose_91 rfl rfl ?_
        refine J_getr (k := 5) h dX0_choose_92 jc0 rfl rfl (by decide) w285 ?_
        refine J_iload h dX0_choose_95 rfl ?_
        refine J_iload_n h dX0_choose_97 rfl rfl ?_
        refine J_iast h dX0_choose_98 rfl (s14 q1 q9 q12) ?_
        refine J_aload_n h dX0_choose_99 rfl rfl ?_
        refine J_getr (k := 5) h dX0_choose_100 jc0 rfl rfl (by decide) w285 ?_
        refine J_aload_n h dX0_choose_103 rfl rfl ?_
        refine J_getr (k := 3) h dX0_choose_104 jc0 rfl rfl (by decide) w280 ?_
        refine J_iload h dX0_choose_107 rfl ?_
        refine J_iald h dX0_choose_109 rfl (s15 q1 q9 q12) ?_
        refine J_bipush h dX0_choose_110 cb_24 ?_
        refine J_imul h dX0_choose_112 ?_
        refine J_aload_n h dX0_choose_113 rfl rfl ?_
        refine J_getr (k := 3) h dX0_choose_114 jc0 rfl rfl (by decide) w280 ?_
        refine J_iload_n h dX0_choose_117 rfl rfl ?_
        refine J_iald h dX0_choose_118 rfl (s16 q1 q9 q12) ?_
        refine J_iadd h dX0_choose_119 ?_
        refine J_iload_n h dX0_choose_120 rfl rfl ?_
        refine J_iast h dX0_choose_121 rfl (s17 q1 q9 q12) ?_
        refine J_aload_n h dX0_choose_122 rfl rfl ?_
        refine J_getr (k := 4) h dX0_choose_123 jc0 rfl rfl (by decide) w282 ?_
        refine J_iload_n h dX0_choose_126 rfl rfl ?_
        refine J_dup2 h dX0_choose_127 rfl rfl ?_
        refine J_iald h dX0_choose_128 rfl (s18 q1 q9 q12) ?_
        refine J_iconst h dX0_choose_129 ci_1 ?_
        refine J_iload h dX0_choose_130 rfl ?_
        refine J_ishl h dX0_choose_132 ?_
        refine J_ior h dX0_choose_133 ?_
        refine J_iast h dX0_choose_134 rfl (s19 q1 q9 q12) ?_
        refine J_aload_n h dX0_choose_135 rfl rfl ?_
        refine J_getr (k := 4) h dX0_choose_136 jc0 rfl rfl (by decide) w282 ?_
        refine J_iload h dX0_choose_139 rfl ?_
        refine J_dup2 h dX0_choose_141 rfl rfl ?_
        refine J_iald h dX0_choose_142 rfl (s20 q1 q9 q12) ?_
        refine J_iconst h dX0_choose_143 ci_1 ?_
        refine J_iload_n h dX0_choose_144 rfl rfl ?_
        refine J_ishl h dX0_choose_145 ?_
        refine J_ior h dX0_choose_146 ?_
        refine J_iast h dX0_choose_147 rfl (s21 q1 q9 q12) ?_
        refine J_aload_n h dX0_choose_148 rfl rfl ?_
        refine J_dup h dX0_choose_149 rfl ?_
        refine J_geti (k := 1) h dX0_choose_150 jc0 rfl rfl (by decide) w275 ?_
        refine J_iconst h dX0_choose_153 ci_1 ?_
        refine J_iadd h dX0_choose_154 ?_
        refine J_puti (k := 1) (ty0 := tyX0) h dX0_choose_155 jc0 tyX0_ok nmX0 rfl rfl (by decide) rfl rfl rfl w275 ?_
        exact k22 q1 q9 q12
theorem rX0_choose_158 {l : Launch} {G : jG} {X : jX} {Q : State → Prop} {n hg nc : Nat} {ret : Option FieldType} {mu : jM} {x2 : Int32} {x3 : Int32} {x4 : Int32} {x5 : Int32} (h : jOk l G X cX0_choose 6 ret RX0 hg nc)
    (k1 : J l G X Q 6 23 [.ref 37, .ref 6, .int (x2 + 1), .int x3, .int x4, .int x5] [] mu n) :
    J l G X Q 6 158 [.ref 37, .ref 6, .int x2, .int x3, .int x4, .int x5] [] mu n := by
  refine J_iinc h dX0_choose_158 rfl (cc_1 _) (by decide) rfl ?_
  show J l G X Q 6 161 [.ref 37, .ref 6, .int (x2 + 1), .int x3, .int x4, .int x5] [] mu n
  refine J_goto (tgt := 23) h dX0_choose_161 (by decide) ?_
  exact k1
theorem rX0_choose_23b {l : Launch} {G : jG} {X : jX} {Q : State → Prop} {n hg nc : Nat} {ret : Option FieldType} {mu : jM} {x2 : Int32} {x3 : Int32} {x4 : Int32} {x5 : Int32} (h : jOk l G X cX0_choose 6 ret RX0 hg nc) (s3 : ¬ (mu 6 1) ≤ x2 → vp_in x2 60) (s4 : ¬ (mu 6 1) ≤ x2 → vp_in x2 60) (s5 : ¬ (mu 6 1) ≤ x2 → vp_in (mu 7 (x2).toNatClampNeg) 24) (s6 : ¬ (mu 6 1) ≤ x2 → vp_in (mu 8 (x2).toNatClampNeg) 24) (s7 : ¬ (mu 6 1) ≤ x2 → vp_in (mu 7 (x2).toNatClampNeg) 24) (s8 : ¬ (mu 6 1) ≤ x2 → vp_in (mu 8 (x2).toNatClampNeg) 24) (s11 : ¬ (mu 6 1) ≤ x2 → ¬ (mu 42 ((mu 7 (x2).toNatClampNeg)).toNatClampNeg) = (mu 42 ((mu 8 (x2).toNatClampNeg)).toNatClampNeg) → vp_in (((mu 42 ((mu 7 (x2).toNatClampNeg)).toNatClampNeg) * 24) + (mu 42 ((mu 8 (x2).toNatClampNeg)).toNatClampNeg)) 576) (s14 : ¬ (mu 6 1) ≤ x2 → ¬ (mu 42 ((mu 7 (x2).toNatClampNeg)).toNatClampNeg) = (mu 42 ((mu 8 (x2).toNatClampNeg)).toNatClampNeg) → ¬ 0 ≤ (mu 44 ((((mu 42 ((mu 7 (x2).toNatClampNeg)).toNatClampNeg) * 24) + (mu 42 ((mu 8 (x2).toNatClampNeg)).toNatClampNeg))).toNatClampNeg) → vp_in (((mu 42 ((mu 7 (x2).toNatClampNeg)).toNatClampNeg) * 24) + (mu 42 ((mu 8 (x2).toNatClampNeg)).toNatClampNeg)) 576) (s15 : ¬ (mu 6 1) ≤ x2 → ¬ (mu 42 ((mu 7 (x2).toNatClampNeg)).toNatClampNeg) = (mu 42 ((mu 8 (x2).toNatClampNeg)).toNatClampNeg) → ¬ 0 ≤ (mu 44 ((((mu 42 ((mu 7 (x2).toNatClampNeg)).toNatClampNeg) * 24) + (mu 42 ((mu 8 (x2).toNatClampNeg)).toNatClampNeg))).toNatClampNeg) → vp_in (mu 8 (x2).toNatClampNeg) 24) (s16 : ¬ (mu 6 1) ≤ x2 → ¬ (mu 42 ((mu 7 (x2).toNatClampNeg)).toNatClampNeg) = (mu 42 ((mu 8 (x2).toNatClampNeg)).toNatClampNeg) → ¬ 0 ≤ (mu 44 ((((mu 42 ((mu 7 (x2).toNatClampNeg)).toNatClampNeg) * 24) + (mu 42 ((mu 8 (x2).toNatClampNeg)).toNatClampNeg))).toNatClampNeg) → vp_in (mu 7 (x2).toNatClampNeg) 24) (s17 : ¬ (mu 6 1) ≤ x2 → ¬ (mu 42 ((mu 7 (x2).toNatClampNeg)).toNatClampNeg) = (mu 42 ((mu 8 (x2).toNatClampNeg)).toNatClampNeg) → ¬ 0 ≤ (mu 44 ((((mu 42 ((mu 7 (x2).toNatClampNeg)).toNatClampNeg) * 24) + (mu 42 ((mu 8 (x2).toNatClampNeg)).toNatClampNeg))).toNatClampNeg) → vp_in (((mu 42 ((mu 8 (x2).toNatClampNeg)).toNatClampNeg) * 24) + (mu 42 ((mu 7 (x2).toNatClampNeg)).toNatClampNeg)) 576) (s18 : ¬ (mu 6 1) ≤ x2 → ¬ (mu 42 ((mu 7 (x2).toNatClampNeg)).toNatClampNeg) = (mu 42 ((mu 8 (x2).toNatClampNeg)).toNatClampNeg) → ¬ 0 ≤ (mu 44 ((((mu 42 ((mu 7 (x2).toNatClampNeg)).toNatClampNeg) * 24) + (mu 42 ((mu 8 (x2).toNatClampNeg)).toNatClampNeg))).toNatClampNeg) → vp_in (mu 7 (x2).toNatClampNeg) 24) (s19 : ¬ (mu 6 1) ≤ x2 → ¬ (mu 42 ((mu 7 (x2).toNatClampNeg)).toNatClampNeg) = (mu 42 ((mu 8 (x2).toNatClampNeg)).toNatClampNeg) → ¬ 0 ≤ (mu 44 ((((mu 42 ((mu 7 (x2).toNatClampNeg)).toNatClampNeg) * 24) + (mu 42 ((mu 8 (x2).toNatClampNeg)).toNatClampNeg))).toNatClampNeg) → vp_in (mu 7 (x2).toNatClampNeg) 24) (s20 : ¬ (mu 6 1) ≤ x2 → ¬ (mu 42 ((mu 7 (x2).toNatClampNeg)).toNatClampNeg) = (mu 42 ((mu 8 (x2).toNatClampNeg)).toNatClampNeg) → ¬ 0 ≤ (mu 44 ((((mu 42 ((mu 7 (x2).toNatClampNeg)).toNatClampNeg) * 24) + (mu 42 ((mu 8 (x2).toNatClampNeg)).toNatClampNeg))).toNatClampNeg) → vp_in (mu 8 (x2).toNatClampNeg) 24) (s21 : ¬ (mu 6 1) ≤ x2 → ¬ (mu 42 ((mu 7 (x2).toNatClampNeg)).toNatClampNeg) = (mu 42 ((mu 8 (x2).toNatClampNeg)).toNatClampNeg) → ¬ 0 ≤ (mu 44 ((((mu 42 ((mu 7 (x2).toNatClampNeg)).toNatClampNeg) * 24) + (mu 42 ((mu 8 (x2).toNatClampNeg)).toNatClampNeg))).toNatClampNeg) → vp_in (mu 8 (x2).toNatClampNeg) 24)
    (k2 : (mu 6 1) ≤ x2 → J l G X Q 6 164 [.ref 37, .ref 6, .int x2, .int x3, .int x4, .int x5] [] mu n)
    (k10 : ¬ (mu 6 1) ≤ x2 → (mu 42 ((mu 7 (x2).toNatClampNeg)).toNatClampNeg) = (mu 42 ((mu 8 (x2).toNatClampNeg)).toNatClampNeg) → J l G X Q 6 158 [.ref 37, .ref 6, .int x2, .int (mu 7 (x2).toNatClampNeg), .int (mu 8 (x2).toNatClampNeg), .int (((mu 42 ((mu 7 (x2).toNatClampNeg)).toNatClampNeg) * 24) + (mu 42 ((mu 8 (x2).toNatClampNeg)).toNatClampNeg))] [] mu n)
    (k13 : ¬ (mu 6 1) ≤ x2 → ¬ (mu 42 ((mu 7 (x2).toNatClampNeg)).toNatClampNeg) = (mu 42 ((mu 8 (x2).toNatClampNeg)).toNatClampNeg) → 0 ≤ (mu 44 ((((mu 42 ((mu 7 (x2).toNatClampNeg)).toNatClampNeg) * 24) + (mu 42 ((mu 8 (x2).toNatClampNeg)).toNatClampNeg))).toNatClampNeg) → J l G X Q 6 158 [.ref 37, .ref 6, .int x2, .int (mu 7 (x2).toNatClampNeg), .int (mu 8 (x2).toNatClampNeg), .int (((mu 42 ((mu 7 (x2).toNatClampNeg)).toNatClampNeg) * 24) + (mu 42 ((mu 8 (x2).toNatClampNeg)).toNatClampNeg))] [] mu n)
    (k22 : ¬ (mu 6 1) ≤ x2 → ¬ (mu 42 ((mu 7 (x2).toNatClampNeg)).toNatClampNeg) = (mu 42 ((mu 8 (x2).toNatClampNeg)).toNatClampNeg) → ¬ 0 ≤ (mu 44 ((((mu 42 ((mu 7 (x2).toNatClampNeg)).toNatClampNeg) * 24) + (mu 42 ((mu 8 (x2).toNatClampNeg)).toNatClampNeg))).toNatClampNeg) → J l G X Q 6 158 [.ref 37, .ref 6, .int x2, .int (mu 7 (x2).toNatClampNeg), .int (mu 8 (x2).toNatClampNeg), .int (((mu 42 ((mu 7 (x2).toNatClampNeg)).toNatClampNeg) * 24) + (mu 42 ((mu 8 (x2).toNatClampNeg)).toNatClampNeg))] [] (wr (wr (wr (wr (wr mu 44 ((((mu 42 ((mu 7 (x2).toNatClampNeg)).toNatClampNeg) * 24) + (mu 42 ((mu 8 (x2).toNatClampNeg)).toNatClampNeg))).toNatClampNeg x2) 44 ((((mu 42 ((mu 8 (x2).toNatClampNeg)).toNatClampNeg) * 24) + (mu 42 ((mu 7 (x2).toNatClampNeg)).toNatClampNeg))).toNatClampNeg x2) 43 ((mu 7 (x2).toNatClampNeg)).toNatClampNeg ((mu 43 ((mu 7 (x2).toNatClampNeg)).toNatClampNeg) ||| (1 <<< ((mu 8 (x2).toNatClampNeg) &&& 31)))) 43 ((mu 8 (x2).toNatClampNeg)).toNatClampNeg (((wr (wr (wr mu 44 ((((mu 42 ((mu 7 (x2).toNatClampNeg)).toNatClampNeg) * 24) + (mu 42 ((mu 8 (x2).toNatClampNeg)).toNatClampNeg))).toNatClampNeg x2) 44 ((((mu 42 ((mu 8 (x2).toNatClampNeg)).toNatClampNeg) * 24) + (mu 42 ((mu 7 (x2).toNatClampNeg)).toNatClampNeg))).toNatClampNeg x2) 43 ((mu 7 (x2).toNatClampNeg)).toNatClampNeg ((mu 43 ((mu 7 (x2).toNatClampNeg)).toNatClampNeg) ||| (1 <<< ((mu 8 (x2).toNatClampNeg) &&& 31)))) 43 ((mu 8 (x2).toNatClampNeg)).toNatClampNeg) ||| (1 <<< ((mu 7 (x2).toNatClampNeg) &&& 31)))) 37 1 ((mu 37 1) + 1)) n) :
    J l G X Q 6 23 [.ref 37, .ref 6, .int x2, .int x3, .int x4, .int x5] [] mu n := by
  refine J_iload_n h dX0_choose_23 rfl rfl ?_
  refine J_aload_n h dX0_choose_24 rfl rfl ?_
  refine J_getiN (k := 1) h dX0_choose_25 jc2 rfl rfl (by decide) w147 ?_
  refine J_icmp_ge (tgt := 164) h dX0_choose_28 (by decide) (fun q1 => ?_) (fun q1 => ?_)
  · skip
    exact k2 q1
  · skip
    refine J_aload_n h dX0_choose_31 rfl rfl ?_
    refine J_getrN (k := 2) h dX0_choose_32 jc2 rfl rfl (by decide) w149 ?_
    refine J_iload_n h dX0_choose_35 rfl rfl ?_
    refine J_iald h dX0_choose_36 rfl (s3 q1) ?_
    refine J_istore_n h dX0_choose_37 rfl (by decide) rfl ?_
    show J l G X Q 6 38 [.ref 37, .ref 6, .int x2, .int (mu 7 (x2).toNatClampNeg), .int x4, .int x5] [] mu n
    refine J_aload_n h dX0_choose_38 rfl rfl ?_
    refine J_getrN (k := 3) h dX0_choose_39 jc2 rfl rfl (by decide) w151 ?_
    refine J_iload_n h dX0_choose_42 rfl rfl ?_
    refine J_iald h dX0_choose_43 rfl (s4 q1) ?_
    refine J_istore h dX0_choose_44 (by decide) rfl ?_
    show J l G X Q 6 46 [.ref 37, .ref 6, .int x2, .int (mu 7 (x2).toNatClampNeg), .int (mu 8 (x2).toNatClampNeg), .int x5] [] mu n
    refine J_aload_n h dX0_choose_46 rfl rfl ?_
    refine J_getr (k := 3) h dX0_choose_47 jc0 rfl rfl (by decide) w280 ?_
    refine J_iload_n h dX0_choose_50 rfl rfl ?_
    refine J_iald h dX0_choose_51 rfl (s5 q1) ?_
    refine J_bipush h dX0_choose_52 cb_24 ?_
    refine J_imul h dX0_choose_54 ?_
    refine J_aload_n h dX0_choose_55 rfl rfl ?_
    refine J_getr (k := 3) h dX0_choose_56 jc0 rfl rfl (by decide) w280 ?_
    refine J_iload h dX0_choose_59 rfl ?_
    refine J_iald h dX0_choose_61 rfl (s6 q1) ?_
    refine J_iadd h dX0_choose_62 ?_
    refine J_istore h dX0_choose_63 (by decide) rfl ?_
    show J l G X Q 6 65 [.ref 37, .ref 6, .int x2, .int (mu 7 (x2).toNatClampNeg), .int (mu 8 (x2).toNatClampNeg), .int (((mu 42 ((mu 7 (x2).toNatClampNeg)).toNatClampNeg) * 24) + (mu 42 ((mu 8 (x2).toNatClampNeg)).toNatClampNeg))] [] mu n
    refine J_aload_n h dX0_choose_65 rfl rfl ?_
    refine J_getr (k := 3) h dX0_choose_66 jc0 rfl rfl (by decide) w280 ?_
    refine J_iload_n h dX0_choose_69 rfl rfl ?_
    refine J_iald h dX0_choose_70 rfl (s7 q1) ?_
    refine J_aload_n h dX0_choose_71 rfl rfl ?_
    refine J_getr (k := 3) h dX0_choose_72 jc0 rfl rfl (by decide) w280 ?_
    refine J_iload h dX0_choose_75 rfl ?_
    refine J_iald h dX0_choose_77 rfl (s8 q1) ?_
    refine J_icmp_eq (tgt := 158) h dX0_choose_78 (by decide) (fun q9 => ?_) (fun q9 => ?_)
    · skip
      exact k10 q1 q9
    · skip
      refine J_aload_n h dX0_choose_81 rfl rfl ?_
      refine J_getr (k := 5) h dX0_choose_82 jc0 rfl rfl (by decide) w285 ?_
      refine J_iload h dX0_choose_85 rfl ?_
      refine J_iald h dX0_choose_87 rfl (s11 q1 q9) ?_
      refine J_if_ge (tgt := 158) h dX0_choose_88 (by decide) (fun q12 => ?_) (fun q12 => ?_)
      · skip
        exact k13 q1 q9 q12
      · skip
        refine J_aload_n h dX0_choose_91 rfl rfl ?_
        refine J_getr (k := 5) h dX0_choose_92 jc0 rfl rfl (by decide) w285 ?_
        refine J_iload h dX0_choose_95 rfl ?_
        refine J_iload_n h dX0_choose_97 rfl rfl ?_
        refine J_iast h dX0_choose_98 rfl (s14 q1 q9 q12) ?_
        refine J_aload_n h dX0_choose_99 rfl rfl ?_
        refine J_getr (k := 5) h dX0_choose_100 jc0 rfl rfl (by decide) w285 ?_
        refine J_aload_n h dX0_choose_103 rfl rfl ?_
        refine J_getr (k := 3) h dX0_choose_104 jc0 rfl rfl (by decide) w280 ?_
        refine J_iload h dX0_choose_107 rfl ?_
        refine J_iald h dX0_choose_109 rfl (s15 q1 q9 q12) ?_
        refine J_bipush h dX0_choose_110 cb_24 ?_
        refine J_imul h dX0_choose_112 ?_
        refine J_aload_n h dX0_choose_113 rfl rfl ?_
        refine J_getr (k := 3) h dX0_choose_114 jc0 rfl rfl (by decide) w280 ?_
        refine J_iload_n h dX0_choose_117 rfl rfl ?_
        refine J_iald h dX0_choose_118 rfl (s16 q1 q9 q12) ?_
        refine J_iadd h dX0_choose_119 ?_
        refine J_iload_n h dX0_choose_120 rfl rfl ?_
        refine J_iast h dX0_choose_121 rfl (s17 q1 q9 q12) ?_
        refine J_aload_n h dX0_choose_122 rfl rfl ?_
        refine J_getr (k := 4) h dX0_choose_123 jc0 rfl rfl (by decide) w282 ?_
        refine J_iload_n h dX0_choose_126 rfl rfl ?_
        refine J_dup2 h dX0_choose_127 rfl rfl ?_
        refine J_iald h dX0_choose_128 rfl (s18 q1 q9 q12) ?_
        refine J_iconst h dX0_choose_129 ci_1 ?_
        refine J_iload h dX0_choose_130 rfl ?_
        refine J_ishl h dX0_choose_132 ?_
        refine J_ior h dX0_choose_133 ?_
        refine J_iast h dX0_choose_134 rfl (s19 q1 q9 q12) ?_
        refine J_aload_n h dX0_choose_135 rfl rfl ?_
        refine J_getr (k := 4) h dX0_choose_136 jc0 rfl rfl (by decide) w282 ?_
        refine J_iload h dX0_choose_139 rfl ?_
        refine J_dup2 h dX0_choose_141 rfl rfl ?_
        refine J_iald h dX0_choose_142 rfl (s20 q1 q9 q12) ?_
        refine J_iconst h dX0_choose_143 ci_1 ?_
        refine J_iload_n h dX0_choose_144 rfl rfl ?_
        refine J_ishl h dX0_choose_145 ?_
        refine J_ior h dX0_choose_146 ?_
        refine J_iast h dX0_choose_147 rfl (s21 q1 q9 q12) ?_
        refine J_aload_n h dX0_choose_148 rfl rfl ?_
        refine J_dup h dX0_choose_149 rfl ?_
        refine J_geti (k := 1) h dX0_choose_150 jc0 rfl rfl (by decide) w275 ?_
        refine J_iconst h dX0_choose_153 ci_1 ?_
        refine J_iadd h dX0_choose_154 ?_
        refine J_puti (k := 1) (ty0 := tyX0) h dX0_choose_155 jc0 tyX0_ok nmX0 rfl rfl (by decide) rfl rfl rfl w275 ?_
        exact k22 q1 q9 q12
