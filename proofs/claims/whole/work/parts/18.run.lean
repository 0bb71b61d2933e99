/-! LockstepNet$Run.begin([III)V -/
theorem rX5_begin_0 {l : Launch} {G : jG} {X : jX} {Q : State → Prop} {n hg nc : Nat} {ret : Option FieldType} {mu : jM} {x2 : Int32} {x3 : Int32} (h : jOk l G X cX5_begin 5 ret RX5 hg nc)
    (k1 : J l G X Q 5 5 [.ref 19, .ref 13, .int x2, .int x3, .float 0] [.ref 13, .ref 20] mu n) :
    J l G X Q 5 0 [.ref 19, .ref 13, .int x2, .int x3, .float 0] [] mu n := by
  refine J_aload_n h dX5_begin_0 rfl rfl ?_
  refine J_getr (k := 1) h dX5_begin_1 jc5 rfl rfl (by decide) w304 ?_
  refine J_aload_n h dX5_begin_4 rfl rfl ?_
  exact k1
theorem rX5_begin_5 {l : Launch} {G : jG} {X : jX} {Q : State → Prop} {n hg nc : Nat} {ret : Option FieldType} {mu : jM} {x2 : Int32} {x3 : Int32} {Qc : jM → Prop} {h' : Nat} (h : jOk l G X cX5_begin 5 ret RX5 hg nc) (hM : jCv l G yX1_begin cX1_begin 2 h' (.ref 20 :: [.ref 13]) mu Qc) (hh : h' < hg ∧ 2 ≤ 21) (hn : n ≤ nc)
    (kk : ∀ mu', Qc mu' → J l G X Q 5 8 [.ref 19, .ref 13, .int x2, .int x3, .float 0] [] mu' n) :
    J l G X Q 5 5 [.ref 19, .ref 13, .int x2, .int x3, .float 0] [.ref 13, .ref 20] mu n :=
  J_callV (As := [.ref 13]) (rest := []) h dX5_begin_5 hM (jgV w745 w518 w519 w79 w520) rfl (ci := 1) rfl rfl nmX1_begin rfl hh (Nat.le_of_ble_eq_true rfl) rfl kk hn
theorem rX5_begin_8 {l : Launch} {G : jG} {X : jX} {Q : State → Prop} {n hg nc : Nat} {ret : Option FieldType} {mu : jM} {x2 : Int32} {x3 : Int32} (h : jOk l G X cX5_begin 5 ret RX5 hg nc)
    (k1 : J l G X Q 5 12 [.ref 19, .ref 13, .int x2, .int x3, .float 0] [.ref 25] mu n) :
    J l G X Q 5 8 [.ref 19, .ref 13, .int x2, .int x3, .float 0] [] mu n := by
  refine J_aload_n h dX5_begin_8 rfl rfl ?_
  refine J_getr (k := 2) h dX5_begin_9 jc5 rfl rfl (by decide) w306 ?_
  exact k1
theorem rX5_begin_12 {l : Launch} {G : jG} {X : jX} {Q : State → Prop} {n hg nc : Nat} {ret : Option FieldType} {mu : jM} {x2 : Int32} {x3 : Int32} {Qc : jM → Prop} {h' : Nat} (h : jOk l G X cX5_begin 5 ret RX5 hg nc) (hM : jCv l G yX3_empty cX3_empty 1 h' (.ref 25 :: []) mu Qc) (hh : h' < hg ∧ 1 ≤ 21) (hn : n ≤ nc)
    (kk : ∀ mu', Qc mu' → J l G X Q 5 15 [.ref 19, .ref 13, .int x2, .int x3, .float 0] [] mu' n) :
    J l G X Q 5 12 [.ref 19, .ref 13, .int x2, .int x3, .float 0] [.ref 25] mu n :=
  J_callV (As := []) (rest := []) h dX5_begin_12 hM (jgV w746 w747 w748 w81 w749) rfl (ci := 3) rfl rfl nmX3_empty rfl hh (Nat.le_of_ble_eq_true rfl) rfl kk hn
theorem rX5_begin_15 {l : Launch} {G : jG} {X : jX} {Q : State → Prop} {n hg nc : Nat} {ret : Option FieldType} {mu : jM} {x2 : Int32} {x3 : Int32} (h : jOk l G X cX5_begin 5 ret RX5 hg nc)
    (k1 : J l G X Q 5 28 [.ref 19, .ref 13, .int x2, .int x3, .float 0] [.ref 6, .int 0, .ref 6, .ref 33] mu n) :
    J l G X Q 5 15 [.ref 19, .ref 13, .int x2, .int x3, .float 0] [] mu n := by
  refine J_aload_n h dX5_begin_15 rfl rfl ?_
  refine J_getr (k := 3) h dX5_begin_16 jc5 rfl rfl (by decide) w308 ?_
  refine J_aload_n h dX5_begin_19 rfl rfl ?_
  refine J_getr (k := 0) h dX5_begin_20 jc5 rfl rfl (by decide) w303 ?_
  refine J_iconst h dX5_begin_23 ci_0 ?_
  refine J_aload_n h dX5_begin_24 rfl rfl ?_
  refine J_getr (k := 0) h dX5_begin_25 jc5 rfl rfl (by decide) w303 ?_
  exact k1
theorem rX5_begin_28 {l : Launch} {G : jG} {X : jX} {Q : State → Prop} {n hg nc : Nat} {ret : Option FieldType} {mu : jM} {x2 : Int32} {x3 : Int32} {y1 : Int32} {Qc : Int32 → jM → Prop} {h' : Nat} (h : jOk l G X cX5_begin 5 ret RX5 hg nc) (hM : jCi l G yX2_allNodes cX2_allNodes 1 h' (some .int) (.ref 6 :: []) mu Qc) (hh : h' < hg ∧ 1 ≤ 21) (hn : n ≤ nc)
    (kk : ∀ v mu', Qc v mu' → J l G X Q 5 31 [.ref 19, .ref 13, .int x2, .int x3, .float 0] (.int v :: [.int y1, .ref 6, .ref 33]) mu' n) :
    J l G X Q 5 28 [.ref 19, .ref 13, .int x2, .int x3, .float 0] [.ref 6, .int y1, .ref 6, .ref 33] mu n :=
  J_callVi (As := []) (rest := [.int y1, .ref 6, .ref 33]) h dX5_begin_28 hM (jgV w751 w737 w738 w78 w739) rfl (ci := 2) rfl rfl nmX2_allNodes rfl hh (Nat.le_of_ble_eq_true rfl) rfl kk hn
theorem rX5_begin_31 {l : Launch} {G : jG} {X : jX} {Q : State → Prop} {n hg nc : Nat} {ret : Option FieldType} {mu : jM} {x2 : Int32} {x3 : Int32} {y0 : Int32} {y1 : Int32} (h : jOk l G X cX5_begin 5 ret RX5 hg nc)
    (k1 : J l G X Q 5 32 [.ref 19, .ref 13, .int x2, .int x3, .float 0] [.int 0, .int y0, .int y1, .ref 6, .ref 33] mu n) :
    J l G X Q 5 31 [.ref 19, .ref 13, .int x2, .int x3, .float 0] [.int y0, .int y1, .ref 6, .ref 33] mu n := by
  refine J_iconst h dX5_begin_31 ci_0 ?_
  exact k1
theorem rX5_begin_32 {l : Launch} {G : jG} {X : jX} {Q : State → Prop} {n hg nc : Nat} {ret : Option FieldType} {mu : jM} {x2 : Int32} {x3 : Int32} {y0 : Int32} {y1 : Int32} {y2 : Int32} {Qc : Int32 → jM → Prop} {h' : Nat} (h : jOk l G X cX5_begin 5 ret RX5 hg nc) (hM : jCi l G yX6_grow cX6_grow 10 h' (some .int) (.ref 33 :: [.ref 6, .int y2, .int y1, .int y0]) mu Qc) (hh : h' < hg ∧ 10 ≤ 21) (hn : n ≤ nc)
    (kk : ∀ v mu', Qc v mu' → J l G X Q 5 35 [.ref 19, .ref 13, .int x2, .int x3, .float 0] (.int v :: []) mu' n) :
    J l G X Q 5 32 [.ref 19, .ref 13, .int x2, .int x3, .float 0] [.int y0, .int y1, .int y2, .ref 6, .ref 33] mu n :=
  J_callVi (As := [.ref 6, .int y2, .int y1, .int y0]) (rest := []) h dX5_begin_32 hM (jgV w752 w753 w754 w82 w755) rfl (ci := 6) rfl rfl nmX6_grow rfl hh (Nat.le_of_ble_eq_true rfl) rfl kk hn
theorem rX5_begin_35 {l : Launch} {G : jG} {X : jX} {Q : State → Prop} {n hg nc : Nat} {ret : Option FieldType} {mu : jM} {x2 : Int32} {x3 : Int32} {y0 : Int32} (h : jOk l G X cX5_begin 5 ret RX5 hg nc)
    (k1 : J l G X Q 5 45 [.ref 19, .ref 13, .int x2, .int x3, .float 0] [.int x3, .ref 6, .ref 37] mu n) :
    J l G X Q 5 35 [.ref 19, .ref 13, .int x2, .int x3, .float 0] [.int y0] mu n := by
  refine J_pop h dX5_begin_35 rfl ?_
  refine J_aload_n h dX5_begin_36 rfl rfl ?_
  refine J_getr (k := 4) h dX5_begin_37 jc5 rfl rfl (by decide) w310 ?_
  refine J_aload_n h dX5_begin_40 rfl rfl ?_
  refine J_getr (k := 0) h dX5_begin_41 jc5 rfl rfl (by decide) w303 ?_
  refine J_iload_n h dX5_begin_44 rfl rfl ?_
  exact k1
theorem rX5_begin_45 {l : Launch} {G : jG} {X : jX} {Q : State → Prop} {n hg nc : Nat} {ret : Option FieldType} {mu : jM} {x2 : Int32} {x3 : Int32} {y0 : Int32} {Qc : jM → Prop} {h' : Nat} (h : jOk l G X cX5_begin 5 ret RX5 hg nc) (hM : jCv l G yX0_make cX0_make 6 h' (.ref 37 :: [.ref 6, .int y0]) mu Qc) (hh : h' < hg ∧ 6 ≤ 21) (hn : n ≤ nc)
    (kk : ∀ mu', Qc mu' → J l G X Q 5 48 [.ref 19, .ref 13, .int x2, .int x3, .float 0] [] mu' n) :
    J l G X Q 5 45 [.ref 19, .ref 13, .int x2, .int x3, .float 0] [.int y0, .ref 6, .ref 37] mu n :=
  J_callV (As := [.ref 6, .int y0]) (rest := []) h dX5_begin_45 hM (jgV w770 w771 w772 w83 w773) rfl (ci := 0) rfl rfl nmX0_make rfl hh (Nat.le_of_ble_eq_true rfl) rfl kk hn
theorem rX5_begin_48 {l : Launch} {G : jG} {X : jX} {Q : State → Prop} {n hg nc : Nat} {ret : Option FieldType} {mu : jM} {x2 : Int32} {x3 : Int32} (h : jOk l G X cX5_begin 5 ret RX5 hg nc)
    (k1 : J l G X Q 5 53 [.ref 19, .ref 13, .int x2, .int x3, .float 0] [.int 0, .ref 45] mu n) :
    J l G X Q 5 48 [.ref 19, .ref 13, .int x2, .int x3, .float 0] [] mu n := by
  refine J_aload_n h dX5_begin_48 rfl rfl ?_
  refine J_getr (k := 5) h dX5_begin_49 jc5 rfl rfl (by decide) w312 ?_
  refine J_iconst h dX5_begin_52 ci_0 ?_
  exact k1
theorem rX5_begin_53 {l : Launch} {G : jG} {X : jX} {Q : State → Prop} {n hg nc : Nat} {ret : Option FieldType} {mu : jM} {x2 : Int32} {x3 : Int32} {y0 : Int32} {Qc : jM → Prop} {h' : Nat} (h : jOk l G X cX5_begin 5 ret RX5 hg nc) (hM : jCv l G yJ7_fill_53178 cJ7_fill_53178 4 h' [.ref 45, .int y0] mu Qc) (hh : h' < hg ∧ 4 ≤ 21) (hn : n ≤ nc)
    (kk : ∀ mu', Qc mu' → J l G X Q 5 56 [.ref 19, .ref 13, .int x2, .int x3, .float 0] [] mu' n) :
    J l G X Q 5 53 [.ref 19, .ref 13, .int x2, .int x3, .float 0] [.int y0, .ref 45] mu n :=
  J_callS (As := [.ref 45, .int y0]) (rest := []) h dX5_begin_53 hM (jgS w785 w514 w90 w515) nmJ7_fill_53178 rfl hh (Nat.le_of_ble_eq_true rfl) rfl kk hn
theorem rX5_begin_56 {l : Launch} {G : jG} {X : jX} {Q : State → Prop} {n hg nc : Nat} {ret : Option FieldType} {mu : jM} {x2 : Int32} {x3 : Int32} (h : jOk l G X cX5_begin 5 ret RX5 hg nc)
    (k1 : J l G X Q 5 61 [.ref 19, .ref 13, .int x2, .int x3, .float 0] [.int 0, .ref 46] mu n) :
    J l G X Q 5 56 [.ref 19, .ref 13, .int x2, .int x3, .float 0] [] mu n := by
  refine J_aload_n h dX5_begin_56 rfl rfl ?_
  refine J_getr (k := 6) h dX5_begin_57 jc5 rfl rfl (by decide) w314 ?_
  refine J_iconst h dX5_begin_60 ci_0 ?_
  exact k1
theorem rX5_begin_61 {l : Launch} {G : jG} {X : jX} {Q : State → Prop} {n hg nc : Nat} {ret : Option FieldType} {mu : jM} {x2 : Int32} {x3 : Int32} {y0 : Int32} {Qc : jM → Prop} {h' : Nat} (h : jOk l G X cX5_begin 5 ret RX5 hg nc) (hM : jCv l G yJ7_fill_53178 cJ7_fill_53178 4 h' [.ref 46, .int y0] mu Qc) (hh : h' < hg ∧ 4 ≤ 21) (hn : n ≤ nc)
    (kk : ∀ mu', Qc mu' → J l G X Q 5 64 [.ref 19, .ref 13, .int x2, .int x3, .float 0] [] mu' n) :
    J l G X Q 5 61 [.ref 19, .ref 13, .int x2, .int x3, .float 0] [.int y0, .ref 46] mu n :=
  J_callS (As := [.ref 46, .int y0]) (rest := []) h dX5_begin_61 hM (jgS w785 w514 w90 w515) nmJ7_fill_53178 rfl hh (Nat.le_of_ble_eq_true rfl) rfl kk hn
theorem rX5_begin_64 {l : Launch} {G : jG} {X : jX} {Q : State → Prop} {n hg nc : Nat} {ret : Option FieldType} {mu : jM} {x2 : Int32} {x3 : Int32} (h : jOk l G X cX5_begin 5 ret RX5 hg nc)
    (k1 : J l G X Q 5 67 [.ref 19, .ref 13, .int x2, .int x3, .int 0] [] mu n) :
    J l G X Q 5 64 [.ref 19, .ref 13, .int x2, .int x3, .float 0] [] mu n := by
  refine J_iconst h dX5_begin_64 ci_0 ?_
  refine J_istore h dX5_begin_65 (by decide) rfl ?_
  show J l G X Q 5 67 [.ref 19, .ref 13, .int x2, .int x3, .int 0] [] mu n
  exact k1
theorem rX5_begin_67 {l : Launch} {G : jG} {X : jX} {Q : State → Prop} {n hg nc : Nat} {ret : Option FieldType} {mu : jM} {x2 : Int32} {x3 : Int32} {x4 : Int32} {r3 : Nat} (h : jOk l G X cX5_begin 5 ret RX5 hg nc) (s4 : ¬ 8 ≤ x4 → vp_in x4 8) (s5 : ¬ 8 ≤ x4 → [48, 49, 50, 51, 52, 53, 54, 55][(x4).toNatClampNeg]? = some r3) (h_r3 : jShp[r3]? = some (.inr (0, 48, fun _ => none)))
    (k2 : 8 ≤ x4 → J l G X Q 5 135 [.ref 19, .ref 13, .int x2, .int x3, .int x4] [] (wr (wr (wr (wr (wr (wr (wr (wr mu 19 8 0) 19 9 0) 19 10 0) 19 11 0) 19 12 0) 56 (0 : Int32).toNatClampNeg 0) 57 (0 : Int32).toNatClampNeg x2) 19 15 1) n)
    (k6 : ¬ 8 ≤ x4 → J l G X Q 5 82 [.ref 19, .ref 13, .int x2, .int x3, .int x4] [.int 0, .ref r3] mu n) :
    J l G X Q 5 67 [.ref 19, .ref 13, .int x2, .int x3, .int x4] [] mu n := by
  refine J_iload h dX5_begin_67 rfl ?_
  refine J_bipush h dX5_begin_69 cb_8 ?_
  refine J_icmp_ge (tgt := 91) h dX5_begin_71 (by decide) (fun q1 => ?_) (fun q1 => ?_)
  · skip
    refine J_aload_n h dX5_begin_91 rfl rfl ?_
    refine J_iconst h dX5_begin_92 ci_0 ?_
    refine J_puti (k := 8) (ty0 := tyX5) h dX5_begin_93 jc5 tyX5_ok nmX5 rfl rfl (by decide) rfl rfl rfl w316 ?_
    refine J_aload_n h dX5_begin_96 rfl rfl ?_
    refine J_iconst h dX5_begin_97 ci_0 ?_
    refine J_puti (k := 9) (ty0 := tyX5) h dX5_begin_98 jc5 tyX5_ok nmX5 rfl rfl (by decide) rfl rfl rfl w317 ?_
    refine J_aload_n h dX5_begin_101 rfl rfl ?_
    refine J_iconst h dX5_begin_102 ci_0 ?_
    refine J_puti (k := 10) (ty0 := tyX5) h dX5_begin_103 jc5 tyX5_ok nmX5 rfl rfl (by decide) rfl rfl rfl w318 ?_
    refine J_aload_n h dX5_begin_106 rfl rfl ?_
    refine J_iconst h dX5_begin_107 ci_0 ?_
    refine J_puti (k := 11) (ty0 := tyX5) h dX5_begin_108 jc5 tyX5_ok nmX5 rfl rfl (by decide) rfl rfl rfl w319 ?_
    refine J_aload_n h dX5_begin_111 rfl rfl ?_
    refine J_iconst h dX5_begin_112 ci_0 ?_
    refine J_puti (k := 12) (ty0 := tyX5) h dX5_begin_113 jc5 tyX5_ok nmX5 rfl rfl (by decide) rfl rfl rfl w321 ?_
    refine J_aload_n h dX5_begin_116 rfl rfl ?_
    refine J_getr (k := 13) h dX5_begin_117 jc5 rfl rfl (by decide) w323 ?_
    refine J_iconst h dX5_begin_120 ci_0 ?_
    refine J_iconst h dX5_begin_121 ci_0 ?_
    refine J_iast h dX5_begin_122 rfl (jin (by decide)) ?_
    refine J_aload_n h dX5_begin_123 rfl rfl ?_
    refine J_getr (k := 14) h dX5_begin_124 jc5 rfl rfl (by decide) w324 ?_
    refine J_iconst h dX5_begin_127 ci_0 ?_
    refine J_iload_n h dX5_begin_128 rfl rfl ?_
    refine J_iast h dX5_begin_129 rfl (jin (by decide)) ?_
    refine J_aload_n h dX5_begin_130 rfl rfl ?_
    refine J_iconst h dX5_begin_131 ci_1 ?_
    refine J_puti (k := 15) (ty0 := tyX5) h dX5_begin_132 jc5 tyX5_ok nmX5 rfl rfl (by decide) rfl rfl rfl w325 ?_
    exact k2 q1
  · skip
    refine J_aload_n h dX5_begin_74 rfl rfl ?_
    refine J_getr (k := 7) h dX5_begin_75 jc5 rfl rfl (by decide) w315 ?_
    refine J_iload h dX5_begin_78 rfl ?_
    refine J_aald h dX5_begin_80 rfl (s4 q1) (s5 q1) ?_
    refine J_iconst h dX5_begin_81 ci_0 ?_
    exact k6 q1
theorem rX5_begin_82 {l : Launch} {G : jG} {X : jX} {Q : State → Prop} {n hg nc : Nat} {ret : Option FieldType} {mu : jM} {x2 : Int32} {x3 : Int32} {x4 : Int32} {y0 : Int32} {r3 : Nat} {Qc : jM → Prop} {h' : Nat} (h : jOk l G X cX5_begin 5 ret RX5 hg nc) (h_r3 : jShp[r3]? = some (.inr (0, 48, fun _ => none))) (hM : jCv l G yJ7_fill_53178 cJ7_fill_53178 4 h' [.ref r3, .int y0] mu Qc) (hh : h' < hg ∧ 4 ≤ 21) (hn : n ≤ nc)
    (kk : ∀ mu', Qc mu' → J l G X Q 5 85 [.ref 19, .ref 13, .int x2, .int x3, .int x4] [] mu' n) :
    J l G X Q 5 82 [.ref 19, .ref 13, .int x2, .int x3, .int x4] [.int y0, .ref r3] mu n :=
  J_callS (As := [.ref r3, .int y0]) (rest := []) h dX5_begin_82 hM (jgS w785 w514 w90 w515) nmJ7_fill_53178 rfl hh (Nat.le_of_ble_eq_true rfl) rfl kk hn
theorem rX5_begin_85 {l : Launch} {G : jG} {X : jX} {Q : State → Prop} {n hg nc : Nat} {ret : Option FieldType} {mu : jM} {x2 : Int32} {x3 : Int32} {x4 : Int32} (h : jOk l G X cX5_begin 5 ret RX5 hg nc)
    (k1 : J l G X Q 5 67 [.ref 19, .ref 13, .int x2, .int x3, .int (x4 + 1)] [] mu n) :
    J l G X Q 5 85 [.ref 19, .ref 13, .int x2, .int x3, .int x4] [] mu n := by
  refine J_iinc h dX5_begin_85 rfl (cc_1 _) (by decide) rfl ?_
  show J l G X Q 5 88 [.ref 19, .ref 13, .int x2, .int x3, .int (x4 + 1)] [] mu n
  refine J_goto (tgt := 67) h dX5_begin_88 (by decide) ?_
  exact k1
/-! LockstepNet$Run.changeWay(I)I -/
theorem rX5_changeWay_0 {l : Launch} {G : jG} {X : jX} {Q : State → Prop} {n hg nc : Nat} {ret : Option FieldType} {mu : jM} {x1 : Int32} (h : jOk l G X cX5_changeWay 2 ret RX5 hg nc)
    (k1 : J l G X Q 2 9 [.ref 19, .int x1] [.ref 19, .int (mu 19 15), .ref 56] mu n) :
    J l G X Q 2 0 [.ref 19, .int x1] [] mu n := by
  refine J_aload_n h dX5_changeWay_0 rfl rfl ?_
  refine J_getr (k := 13) h dX5_changeWay_1 jc5 rfl rfl (by decide) w323 ?_
  refine J_aload_n h dX5_changeWay_4 rfl rfl ?_
  refine J_geti (k := 15) h dX5_changeWay_5 jc5 rfl rfl (by decide) w325 ?_
  refine J_aload_n h dX5_changeWay_8 rfl rfl ?_
  exact k1
theorem rX5_changeWay_9 {l : Launch} {G : jG} {X : jX} {Q : State → Prop} {n hg nc : Nat} {ret : Option FieldType} {mu : jM} {x1 : Int32} {y1 : Int32} {Qc : Int32 → jM → Prop} {h' : Nat} (h : jOk l G X cX5_changeWay 2 ret RX5 hg nc) (hM : jCi l G yX5_greatestRound cX5_greatestRound 3 h' (some .int) (.ref 19 :: []) mu Qc) (hh : h' < hg ∧ 3 ≤ 21) (hn : n ≤ nc)
    (kk : ∀ v mu', Qc v mu' → J l G X Q 2 12 [.ref 19, .int x1] (.int v :: [.int y1, .ref 56]) mu' n) :
    J l G X Q 2 9 [.ref 19, .int x1] [.ref 19, .int y1, .ref 56] mu n :=
  J_callVi (As := []) (rest := [.int y1, .ref 56]) h dX5_changeWay_9 hM (jgV w932 w934 w29 w80 w935) rfl (ci := 5) rfl rfl nmX5_greatestRound rfl hh (Nat.le_of_ble_eq_true rfl) rfl kk hn
theorem rX5_changeWay_12 {l : Launch} {G : jG} {X : jX} {Q : State → Prop} {n hg nc : Nat} {ret : Option FieldType} {mu : jM} {x1 : Int32} {y0 : Int32} {y1 : Int32} (h : jOk l G X cX5_changeWay 2 ret RX5 hg nc) (s1 : vp_in y1 9) (s2 : vp_in (mu 19 15) 9) (s3 : vp_in (((mu 19 15) + 1) - 1) 9)
    (k4 : J l G X Q 2 46 [.ref 19, .int x1] [.int ((wr mu 56 (y1).toNatClampNeg (y0 + 1)) 56 ((((mu 19 15) + 1) - 1)).toNatClampNeg)] (wr (wr (wr mu 56 (y1).toNatClampNeg (y0 + 1)) 57 ((mu 19 15)).toNatClampNeg x1) 19 15 ((mu 19 15) + 1)) n) :
    J l G X Q 2 12 [.ref 19, .int x1] [.int y0, .int y1, .ref 56] mu n := by
  refine J_iconst h dX5_changeWay_12 ci_1 ?_
  refine J_iadd h dX5_changeWay_13 ?_
  refine J_iast h dX5_changeWay_14 rfl (s1) ?_
  refine J_aload_n h dX5_changeWay_15 rfl rfl ?_
  refine J_getr (k := 14) h dX5_changeWay_16 jc5 rfl rfl (by decide) w324 ?_
  refine J_aload_n h dX5_changeWay_19 rfl rfl ?_
  refine J_geti (k := 15) h dX5_changeWay_20 jc5 rfl rfl (by decide) w325 ?_
  refine J_iload_n h dX5_changeWay_23 rfl rfl ?_
  refine J_iast h dX5_changeWay_24 rfl (s2) ?_
  refine J_aload_n h dX5_changeWay_25 rfl rfl ?_
  refine J_dup h dX5_changeWay_26 rfl ?_
  refine J_geti (k := 15) h dX5_changeWay_27 jc5 rfl rfl (by decide) w325 ?_
  refine J_iconst h dX5_changeWay_30 ci_1 ?_
  refine J_iadd h dX5_changeWay_31 ?_
  refine J_puti (k := 15) (ty0 := tyX5) h dX5_changeWay_32 jc5 tyX5_ok nmX5 rfl rfl (by decide) rfl rfl rfl w325 ?_
  refine J_aload_n h dX5_changeWay_35 rfl rfl ?_
  refine J_getr (k := 13) h dX5_changeWay_36 jc5 rfl rfl (by decide) w323 ?_
  refine J_aload_n h dX5_changeWay_39 rfl rfl ?_
  refine J_geti (k := 15) h dX5_changeWay_40 jc5 rfl rfl (by decide) w325 ?_
  refine J_iconst h dX5_changeWay_43 ci_1 ?_
  refine J_isub h dX5_changeWay_44 ?_
  refine J_iald h dX5_changeWay_45 rfl (s3) ?_
  exact k4
/-! LockstepNet$Run.greatestRound()I -/
theorem rX5_greatestRound_0 {l : Launch} {G : jG} {X : jX} {Q : State → Prop} {n hg nc : Nat} {ret : Option FieldType} {mu : jM} (h : jOk l G X cX5_greatestRound 3 ret RX5 hg nc)
    (k1 : J l G X Q 3 4 [.ref 19, .int 0, .int 0] [] mu n) :
    J l G X Q 3 0 [.ref 19, .float 0, .float 0] [] mu n := by
  refine J_iconst h dX5_greatestRound_0 ci_0 ?_
  refine J_istore_n h dX5_greatestRound_1 rfl (by decide) rfl ?_
  show J l G X Q 3 2 [.ref 19, .int 0, .float 0] [] mu n
  refine J_iconst h dX5_greatestRound_2 ci_0 ?_
  refine J_istore_n h dX5_greatestRound_3 rfl (by decide) rfl ?_
  show J l G X Q 3 4 [.ref 19, .int 0, .int 0] [] mu n
  exact k1
theorem rX5_greatestRound_4 {l : Launch} {G : jG} {X : jX} {Q : State → Prop} {n hg nc : Nat} {ret : Option FieldType} {mu : jM} {x1 : Int32} {x2 : Int32} (h : jOk l G X cX5_greatestRound 3 ret RX5 hg nc) (s3 : ¬ (mu 6 0) ≤ x2 → vp_in x2 24)
    (k2 : (mu 6 0) ≤ x2 → J l G X Q 3 33 [.ref 19, .int x1, .int x2] [.int x1] mu n)
    (k4 : ¬ (mu 6 0) ≤ x2 → J l G X Q 3 22 [.ref 19, .int x1, .int x2] [.int (mu 45 (x2).toNatClampNeg), .int x1] mu n) :
    J l G X Q 3 4 [.ref 19, .int x1, .int x2] [] mu n := by
  refine J_iload_n h dX5_greatestRound_4 rfl rfl ?_
  refine J_aload_n h dX5_greatestRound_5 rfl rfl ?_
  refine J_getr (k := 0) h dX5_greatestRound_6 jc5 rfl rfl (by decide) w303 ?_
  refine J_getiN (k := 0) h dX5_greatestRound_9 jc2 rfl rfl (by decide) w142 ?_
  refine J_icmp_ge (tgt := 32) h dX5_greatestRound_12 (by decide) (fun q1 => ?_) (fun q1 => ?_)
  · skip
    refine J_iload_n h dX5_greatestRound_32 rfl rfl ?_
    exact k2 q1
  · skip
    refine J_iload_n h dX5_greatestRound_15 rfl rfl ?_
    refine J_aload_n h dX5_greatestRound_16 rfl rfl ?_
    refine J_getr (k := 5) h dX5_greatestRound_17 jc5 rfl rfl (by decide) w312 ?_
    refine J_iload_n h dX5_greatestRound_20 rfl rfl ?_
    refine J_iald h dX5_greatestRound_21 rfl (s3 q1) ?_
    exact k4 q1
theorem rX5_greatestRound_22 {l : Launch} {G : jG} {X : jX} {Q : State → Prop} {n hg nc : Nat} {ret : Option FieldType} {mu : jM} {x1 : Int32} {x2 : Int32} {y0 : Int32} {y1 : Int32} {Qc : Int32 → jM → Prop} {h' : Nat} (h : jOk l G X cX5_greatestRound 3 ret RX5 hg nc) (hM : jCi l G yJ9_max_7cf53 cJ9_max_7cf53 2 h' (some .int) [.int y1, .int y0] mu Qc) (hh : h' < hg ∧ 2 ≤ 21) (hn : n ≤ nc)
    (kk : ∀ v mu', Qc v mu' → J l G X Q 3 25 [.ref 19, .int x1, .int x2] (.int v :: []) mu' n) :
    J l G X Q 3 22 [.ref 19, .int x1, .int x2] [.int y0, .int y1] mu n :=
  J_callSi (As := [.int y1, .int y0]) (rest := []) h dX5_greatestRound_22 hM (jgS w876 w877 w96 w878) nmJ9_max_7cf53 rfl hh (Nat.le_of_ble_eq_true rfl) rfl kk hn
theorem rX5_greatestRound_25 {l : Launch} {G : jG} {X : jX} {Q : State → Prop} {n hg nc : Nat} {ret : Option FieldType} {mu : jM} {x1 : Int32} {x2 : Int32} {y0 : Int32} (h : jOk l G X cX5_greatestRound 3 ret RX5 hg nc)
    (k1 : J l G X Q 3 4 [.ref 19, .int y0, .int (x2 + 1)] [] mu n) :
    J l G X Q 3 25 [.ref 19, .int x1, .int x2] [.int y0] mu n := by
  refine J_istore_n h dX5_greatestRound_25 rfl (by decide) rfl ?_
  show J l G X Q 3 26 [.ref 19, .int y0, .int x2] [] mu n
  refine J_iinc h dX5_greatestRound_26 rfl (cc_1 _) (by decide) rfl ?_
  show J l G X Q 3 29 [.ref 19, .int y0, .int (x2 + 1)] [] mu n
  refine J_goto (tgt := 4) h dX5_greatestRound_29 (by decide) ?_
  exact k1
/-! LockstepNet$Run.wayOutOf(I)I -/
theorem rX5_wayOutOf_0 {l : Launch} {G : jG} {X : jX} {Q : State → Prop} {n hg nc : Nat} {ret : Option FieldType} {mu : jM} {x1 : Int32} (h : jOk l G X cX5_wayOutOf 3 ret RX5 hg nc)
    (k1 : J l G X Q 3 7 [.ref 19, .int x1, .int ((mu 19 15) - 1)] [] mu n) :
    J l G X Q 3 0 [.ref 19, .int x1, .float 0] [] mu n := by
  refine J_aload_n h dX5_wayOutOf_0 rfl rfl ?_
  refine J_geti (k := 15) h dX5_wayOutOf_1 jc5 rfl rfl (by decide) w325 ?_
  refine J_iconst h dX5_wayOutOf_4 ci_1 ?_
  refine J_isub h dX5_wayOutOf_5 ?_
  refine J_istore_n h dX5_wayOutOf_6 rfl (by decide) rfl ?_
  show J l G X Q 3 7 [.ref 19, .int x1, .int ((mu 19 15) - 1)] [] mu n
  exact k1
theorem rX5_wayOutOf_7 {l : Launch} {G : jG} {X : jX} {Q : State → Prop} {n hg nc : Nat} {ret : Option FieldType} {mu : jM} {x1 : Int32} {x2 : Int32} (h : jOk l G X cX5_wayOutOf 3 ret RX5 hg nc) (s4 : ¬ x2 ≤ 0 → vp_in x2 9) (s7 : ¬ x2 ≤ 0 → ¬ x1 < (mu 56 (x2).toNatClampNeg) → vp_in x2 9)
    (k3 : x2 ≤ 0 → J l G X Q 3 40 [.ref 19, .int x1, .int x2] [.int (mu 57 (0 : Int32).toNatClampNeg)] mu n)
    (k6 : ¬ x2 ≤ 0 → x1 < (mu 56 (x2).toNatClampNeg) → J l G X Q 3 7 [.ref 19, .int x1, .int (x2 + (-1))] [] mu n)
    (k8 : ¬ x2 ≤ 0 → ¬ x1 < (mu 56 (x2).toNatClampNeg) → J l G X Q 3 27 [.ref 19, .int x1, .int x2] [.int (mu 57 (x2).toNatClampNeg)] mu n) :
    J l G X Q 3 7 [.ref 19, .int x1, .int x2] [] mu n := by
  refine J_iload_n h dX5_wayOutOf_7 rfl rfl ?_
  refine J_if_le (tgt := 34) h dX5_wayOutOf_8 (by decide) (fun q1 => ?_) (fun q1 => ?_)
  · skip
    refine J_aload_n h dX5_wayOutOf_34 rfl rfl ?_
    refine J_getr (k := 14) h dX5_wayOutOf_35 jc5 rfl rfl (by decide) w324 ?_
    refine J_iconst h dX5_wayOutOf_38 ci_0 ?_
    refine J_iald h dX5_wayOutOf_39 rfl (jin (by decide)) ?_
    exact k3 q1
  · skip
    refine J_aload_n h dX5_wayOutOf_11 rfl rfl ?_
    refine J_getr (k := 13) h dX5_wayOutOf_12 jc5 rfl rfl (by decide) w323 ?_
    refine J_iload_n h dX5_wayOutOf_15 rfl rfl ?_
    refine J_iald h dX5_wayOutOf_16 rfl (s4 q1) ?_
    refine J_iload_n h dX5_wayOutOf_17 rfl rfl ?_
    refine J_icmp_gt (tgt := 28) h dX5_wayOutOf_18 (by decide) (fun q5 => ?_) (fun q5 => ?_)
    · skip
      refine J_iinc h dX5_wayOutOf_28 rfl (cc_m1 _) (by decide) rfl ?_
      show J l G X Q 3 31 [.ref 19, .int x1, .int (x2 + (-1))] [] mu n
      refine J_goto (tgt := 7) h dX5_wayOutOf_31 (by decide) ?_
      exact k6 q1 q5
    · skip
      refine J_aload_n h dX5_wayOutOf_21 rfl rfl ?_
      refine J_getr (k := 14) h dX5_wayOutOf_22 jc5 rfl rfl (by decide) w324 ?_
      refine J_iload_n h dX5_wayOutOf_25 rfl rfl ?_
      refine J_iald h dX5_wayOutOf_26 rfl (s7 q1 q5) ?_
      exact k8 q1 q5
/-! LockstepNet$Run.handOver(I)I -/
theorem rX5_handOver_0 {l : Launch} {G : jG} {X : jX} {Q : State → Prop} {n hg nc : Nat} {ret : Option FieldType} {mu : jM} {x1 : Int32} (h : jOk l G X cX5_handOver 7 ret RX5 hg nc) (s1 : vp_in x1 512) (s2 : vp_in x1 512) (s3 : vp_in x1 512) (s4 : vp_in x1 512) (s5 : vp_in x1 512)
    (k6 : J l G X Q 7 68 [.ref 19, .int x1, .int (mu 27 (x1).toNatClampNeg), .int (mu 28 (x1).toNatClampNeg), .int (mu 29 (x1).toNatClampNeg), .int (mu 30 (x1).toNatClampNeg), .int (mu 31 (x1).toNatClampNeg)] [.int x1, .ref 25] mu n) :
    J l G X Q 7 0 [.ref 19, .int x1, .float 0, .float 0, .float 0, .float 0, .float 0] [] mu n := by
  refine J_aload_n h dX5_handOver_0 rfl rfl ?_
  refine J_getr (k := 2) h dX5_handOver_1 jc5 rfl rfl (by decide) w306 ?_
  refine J_getrN (k := 0) h dX5_handOver_4 jc3 rfl rfl (by decide) w232 ?_
  refine J_iconst h dX5_handOver_7 ci_0 ?_
  refine J_aald h dX5_handOver_8 rfl (jin (by decide)) rfl ?_
  refine J_iload_n h dX5_handOver_9 rfl rfl ?_
  refine J_iald h dX5_handOver_10 rfl (s1) ?_
  refine J_istore_n h dX5_handOver_11 rfl (by decide) rfl ?_
  show J l G X Q 7 12 [.ref 19, .int x1, .int (mu 27 (x1).toNatClampNeg), .float 0, .float 0, .float 0, .float 0] [] mu n
  refine J_aload_n h dX5_handOver_12 rfl rfl ?_
  refine J_getr (k := 2) h dX5_handOver_13 jc5 rfl rfl (by decide) w306 ?_
  refine J_getrN (k := 0) h dX5_handOver_16 jc3 rfl rfl (by decide) w232 ?_
  refine J_iconst h dX5_handOver_19 ci_1 ?_
  refine J_aald h dX5_handOver_20 rfl (jin (by decide)) rfl ?_
  refine J_iload_n h dX5_handOver_21 rfl rfl ?_
  refine J_iald h dX5_handOver_22 rfl (s2) ?_
  refine J_istore_n h dX5_handOver_23 rfl (by decide) rfl ?_
  show J l G X Q 7 24 [.ref 19, .int x1, .int (mu 27 (x1).toNatClampNeg), .int (mu 28 (x1).toNatClampNeg), .float 0, .float 0, .float 0] [] mu n
  refine J_aload_n h dX5_handOver_24 rfl rfl ?_
  refine J_getr (k := 2) h dX5_handOver_25 jc5 rfl rfl (by decide) w306 ?_
  refine J_getrN (k := 0) h dX5_handOver_28 jc3 rfl rfl (by decide) w232 ?_
  refine J_iconst h dX5_handOver_31 ci_2 ?_
  refine J_aald h dX5_handOver_32 rfl (jin (by decide)) rfl ?_
  refine J_iload_n h dX5_handOver_33 rfl rfl ?_
  refine J_iald h dX5_handOver_34 rfl (s3) ?_
  refine J_istore h dX5_handOver_35 (by decide) rfl ?_
  show J l G X Q 7 37 [.ref 19, .int x1, .int (mu 27 (x1).toNatClampNeg), .int (mu 28 (x1).toNatClampNeg), .int (mu 29 (x1).toNatClampNeg), .float 0, .float 0] [] mu n
  refine J_aload_n h dX5_handOver_37 rfl rfl ?_
  refine J_getr (k := 2) h dX5_handOver_38 jc5 rfl rfl (by decide) w306 ?_
  refine J_getrN (k := 0) h dX5_handOver_41 jc3 rfl rfl (by decide) w232 ?_
  refine J_iconst h dX5_handOver_44 ci_3 ?_
  refine J_aald h dX5_handOver_45 rfl (jin (by decide)) rfl ?_
  refine J_iload_n h dX5_handOver_46 rfl rfl ?_
  refine J_iald h dX5_handOver_47 rfl (s4) ?_
  refine J_istore h dX5_handOver_48 (by decide) rfl ?_
  show J l G X Q 7 50 [.ref 19, .int x1, .int (mu 27 (x1).toNatClampNeg), .int (mu 28 (x1).toNatClampNeg), .int (mu 29 (x1).toNatClampNeg), .int (mu 30 (x1).toNatClampNeg), .float 0] [] mu n
  refine J_aload_n h dX5_handOver_50 rfl rfl ?_
  refine J_getr (k := 2) h dX5_handOver_51 jc5 rfl rfl (by decide) w306 ?_
  refine J_getrN (k := 0) h dX5_handOver_54 jc3 rfl rfl (by decide) w232 ?_
  refine J_iconst h dX5_handOver_57 ci_4 ?_
  refine J_aald h dX5_handOver_58 rfl (jin (by decide)) rfl ?_
  refine J_iload_n h dX5_handOver_59 rfl rfl ?_
  refine J_iald h dX5_handOver_60 rfl (s5) ?_
  refine J_istore h dX5_handOver_61 (by decide) rfl ?_
  show J l G X Q 7 63 [.ref 19, .int x1, .int (mu 27 (x1).toNatClampNeg), .int (mu 28 (x1).toNatClampNeg), .int (mu 29 (x1).toNatClampNeg), .int (mu 30 (x1).toNatClampNeg), .int (mu 31 (x1).toNatClampNeg)] [] mu n
  refine J_aload_n h dX5_handOver_63 rfl rfl ?_
  refine J_getr (k := 2) h dX5_handOver_64 jc5 rfl rfl (by decide) w306 ?_
  refine J_iload_n h dX5_handOver_67 rfl rfl ?_
  exact k6
theorem rX5_handOver_68 {l : Launch} {G : jG} {X : jX} {Q : State → Prop} {n hg nc : Nat} {ret : Option FieldType} {mu : jM} {x1 : Int32} {x2 : Int32} {x3 : Int32} {x4 : Int32} {x5 : Int32} {x6 : Int32} {y0 : Int32} {Qc : jM → Prop} {h' : Nat} (h : jOk l G X cX5_handOver 7 ret RX5 hg nc) (hM : jCv l G yX3_remove cX3_remove 3 h' (.ref 25 :: [.int y0]) mu Qc) (hh : h' < hg ∧ 3 ≤ 21) (hn : n ≤ nc)
    (kk : ∀ mu', Qc mu' → J l G X Q 7 71 [.ref 19, .int x1, .int x2, .int x3, .int x4, .int x5, .int x6] [] mu' n) :
    J l G X Q 7 68 [.ref 19, .int x1, .int x2, .int x3, .int x4, .int x5, .int x6] [.int y0, .ref 25] mu n :=
  J_callV (As := [.int y0]) (rest := []) h dX5_handOver_68 hM (jgV w903 w904 w905 w81 w906) rfl (ci := 3) rfl rfl nmX3_remove rfl hh (Nat.le_of_ble_eq_true rfl) rfl kk hn
theorem rX5_handOver_71 {l : Launch} {G : jG} {X : jX} {Q : State → Prop} {n hg nc : Nat} {ret : Option FieldType} {mu : jM} {x1 : Int32} {x2 : Int32} {x3 : Int32} {x4 : Int32} {x5 : Int32} {x6 : Int32} {r3 : Nat} (h : jOk l G X cX5_handOver 7 ret RX5 hg nc) (s4 : ¬ x2 = 0 → ¬ x2 = 1 → vp_in x2 8) (s5 : ¬ x2 = 0 → ¬ x2 = 1 → [48, 49, 50, 51, 52, 53, 54, 55][(x2).toNatClampNeg]? = some r3) (h_r3 : jShp[r3]? = some (.inr (0, 48, fun _ => none))) (s7 : ¬ x2 = 0 → x2 = 1 → vp_in x4 24) (s8 : ¬ x2 = 0 → x2 = 1 → vp_in x4 24)
    (k6 : ¬ x2 = 0 → ¬ x2 = 1 → J l G X Q 7 135 [.ref 19, .int x1, .int x2, .int x3, .int x4, .int x5, .int x6] [.int x5, .int x4, .ref r3] mu n)
    (k9 : ¬ x2 = 0 → x2 = 1 → J l G X Q 7 145 [.ref 19, .int x1, .int x2, .int x3, .int x4, .int x5, .int x6] [] (wr mu 46 (x4).toNatClampNeg ((mu 46 (x4).toNatClampNeg) - 1)) n)
    (k10 : x2 = 0 → J l G X Q 7 86 [.ref 19, .int x1, .int x2, .int x3, .int x4, .int x5, .int x6] [.int x6, .int x5, .int x3, .int x4, .ref 20] mu n) :
    J l G X Q 7 71 [.ref 19, .int x1, .int x2, .int x3, .int x4, .int x5, .int x6] [] mu n := by
  refine J_iload_n h dX5_handOver_71 rfl rfl ?_
  refine J_if_ne (tgt := 106) h dX5_handOver_72 (by decide) (fun q1 => ?_) (fun q1 => ?_)
  · skip
    refine J_iload_n h dX5_handOver_106 rfl rfl ?_
    refine J_iconst h dX5_handOver_107 ci_1 ?_
    refine J_icmp_ne (tgt := 125) h dX5_handOver_108 (by decide) (fun q2 => ?_) (fun q2 => ?_)
    · skip
      refine J_aload_n h dX5_handOver_125 rfl rfl ?_
      refine J_getr (k := 7) h dX5_handOver_126 jc5 rfl rfl (by decide) w315 ?_
      refine J_iload_n h dX5_handOver_129 rfl rfl ?_
      refine J_aald h dX5_handOver_130 rfl (s4 q1 q2) (s5 q1 q2) ?_
      refine J_iload h dX5_handOver_131 rfl ?_
      refine J_iload h dX5_handOver_133 rfl ?_
      exact k6 q1 q2
    · skip
      refine J_aload_n h dX5_handOver_111 rfl rfl ?_
      refine J_getr (k := 6) h dX5_handOver_112 jc5 rfl rfl (by decide) w314 ?_
      refine J_iload h dX5_handOver_115 rfl ?_
      refine J_dup2 h dX5_handOver_117 rfl rfl ?_
      refine J_iald h dX5_handOver_118 rfl (s7 q1 q2) ?_
      refine J_iconst h dX5_handOver_119 ci_1 ?_
      refine J_isub h dX5_handOver_120 ?_
      refine J_iast h dX5_handOver_121 rfl (s8 q1 q2) ?_
      refine J_goto (tgt := 145) h dX5_handOver_122 (by decide) ?_
      exact k9 q1 q2
  · skip
    refine J_aload_n h dX5_handOver_75 rfl rfl ?_
    refine J_getr (k := 1) h dX5_handOver_76 jc5 rfl rfl (by decide) w304 ?_
    refine J_iload h dX5_handOver_79 rfl ?_
    refine J_iload_n h dX5_handOver_81 rfl rfl ?_
    refine J_iload h dX5_handOver_82 rfl ?_
    refine J_iload h dX5_handOver_84 rfl ?_
    exact k10 q1
theorem rX5_handOver_135 {l : Launch} {G : jG} {X : jX} {Q : State → Prop} {n hg nc : Nat} {ret : Option FieldType} {mu : jM} {x1 : Int32} {x2 : Int32} {x3 : Int32} {x4 : Int32} {x5 : Int32} {x6 : Int32} {y0 : Int32} {y1 : Int32} {r3 : Nat} {Qc : Int32 → jM → Prop} {h' : Nat} (h : jOk l G X cX5_handOver 7 ret RX5 hg nc) (h_r3 : jShp[r3]? = some (.inr (0, 48, fun _ => none))) (hM : jCi l G yX5_boxOf cX5_boxOf 2 h' (some .int) [.int y1, .int y0] mu Qc) (hh : h' < hg ∧ 2 ≤ 21) (hn : n ≤ nc)
    (kk : ∀ v mu', Qc v mu' → J l G X Q 7 138 [.ref 19, .int x1, .int x2, .int x3, .int x4, .int x5, .int x6] (.int v :: [.ref r3]) mu' n) :
    J l G X Q 7 135 [.ref 19, .int x1, .int x2, .int x3, .int x4, .int x5, .int x6] [.int y0, .int y1, .ref r3] mu n :=
  J_callSi (As := [.int y1, .int y0]) (rest := [.ref r3]) h dX5_handOver_135 hM (jgS w834 w835 w80 w836) nmX5_boxOf rfl hh (Nat.le_of_ble_eq_true rfl) rfl kk hn
theorem rX5_handOver_145 {l : Launch} {G : jG} {X : jX} {Q : State → Prop} {n hg nc : Nat} {ret : Option FieldType} {mu : jM} {x1 : Int32} {x2 : Int32} {x3 : Int32} {x4 : Int32} {x5 : Int32} {x6 : Int32} (h : jOk l G X cX5_handOver 7 ret RX5 hg nc)
    (k1 : J l G X Q 7 148 [.ref 19, .int x1, .int x2, .int x3, .int x4, .int x5, .int x6] [.int x4, .ref 19] mu n) :
    J l G X Q 7 145 [.ref 19, .int x1, .int x2, .int x3, .int x4, .int x5, .int x6] [] mu n := by
  refine J_aload_n h dX5_handOver_145 rfl rfl ?_
  refine J_iload h dX5_handOver_146 rfl ?_
  exact k1
theorem rX5_handOver_86 {l : Launch} {G : jG} {X : jX} {Q : State → Prop} {n hg nc : Nat} {ret : Option FieldType} {mu : jM} {x1 : Int32} {x2 : Int32} {x3 : Int32} {x4 : Int32} {x5 : Int32} {x6 : Int32} {y0 : Int32} {y1 : Int32} {y2 : Int32} {y3 : Int32} {Qc : jM → Prop} {h' : Nat} (h : jOk l G X cX5_handOver 7 ret RX5 hg nc) (hM : jCv l G yX1_accept cX1_accept 7 h' (.ref 20 :: [.int y3, .int y2, .int y1, .int y0]) mu Qc) (hh : h' < hg ∧ 7 ≤ 21) (hn : n ≤ nc)
    (kk : ∀ mu', Qc mu' → J l G X Q 7 89 [.ref 19, .int x1, .int x2, .int x3, .int x4, .int x5, .int x6] [] mu' n) :
    J l G X Q 7 86 [.ref 19, .int x1, .int x2, .int x3, .int x4, .int x5, .int x6] [.int y0, .int y1, .int y2, .int y3, .ref 20] mu n :=
  J_callV (As := [.int y3, .int y2, .int y1, .int y0]) (rest := []) h dX5_handOver_86 hM (jgV w908 w707 w708 w79 w709) rfl (ci := 1) rfl rfl nmX1_accept rfl hh (Nat.le_of_ble_eq_true rfl) rfl kk hn
theorem rX5_handOver_138 {l : Launch} {G : jG} {X : jX} {Q : State → Prop} {n hg nc : Nat} {ret : Option FieldType} {mu : jM} {x1 : Int32} {x2 : Int32} {x3 : Int32} {x4 : Int32} {x5 : Int32} {x6 : Int32} {y0 : Int32} {r3 : Nat} (h : jOk l G X cX5_handOver 7 ret RX5 hg nc) (h_r3 : jShp[r3]? = some (.inr (0, 48, fun _ => none))) (s1 : vp_in y0 48) (s2 : vp_in y0 48)
    (k3 : J l G X Q 7 145 [.ref 19, .int x1, .int x2, .int x3, .int x4, .int x5, .int x6] [] (wr mu r3 (y0).toNatClampNeg ((mu r3 (y0).toNatClampNeg) ||| (1 <<< (x3 &&& 31)))) n) :
    J l G X Q 7 138 [.ref 19, .int x1, .int x2, .int x3, .int x4, .int x5, .int x6] [.int y0, .ref r3] mu n := by
  refine J_dup2 h dX5_handOver_138 rfl rfl ?_
  refine J_iald h dX5_handOver_139 h_r3 (s1) ?_
  refine J_iconst h dX5_handOver_140 ci_1 ?_
  refine J_iload_n h dX5_handOver_141 rfl rfl ?_
  refine J_ishl h dX5_handOver_142 ?_
  refine J_ior h dX5_handOver_143 ?_
  refine J_iast h dX5_handOver_144 h_r3 (s2) ?_
  exact k3
theorem rX5_handOver_148 {l : Launch} {G : jG} {X : jX} {Q : State → Prop} {n hg nc : Nat} {ret : Option FieldType} {mu : jM} {x1 : Int32} {x2 : Int32} {x3 : Int32} {x4 : Int32} {x5 : Int32} {x6 : Int32} {y0 : Int32} {Qc : jM → Prop} {h' : Nat} (h : jOk l G X cX5_handOver 7 ret RX5 hg nc) (hM : jCv l G yX5_carryOn cX5_carryOn 5 h' (.ref 19 :: [.int y0]) mu Qc) (hh : h' < hg ∧ 5 ≤ 21) (hn : n ≤ nc)
    (kk : ∀ mu', Qc mu' → J l G X Q 7 151 [.ref 19, .int x1, .int x2, .int x3, .int x4, .int x5, .int x6] [] mu' n) :
    J l G X Q 7 148 [.ref 19, .int x1, .int x2, .int x3, .int x4, .int x5, .int x6] [.int y0, .ref 19] mu n :=
  J_callV (As := [.int y0]) (rest := []) h dX5_handOver_148 hM (jgV w909 w807 w808 w80 w809) rfl (ci := 5) rfl rfl nmX5_carryOn rfl hh (Nat.le_of_ble_eq_true rfl) rfl kk hn
theorem rX5_handOver_89 {l : Launch} {G : jG} {X : jX} {Q : State → Prop} {n hg nc : Nat} {ret : Option FieldType} {mu : jM} {x1 : Int32} {x2 : Int32} {x3 : Int32} {x4 : Int32} {x5 : Int32} {x6 : Int32} (h : jOk l G X cX5_handOver 7 ret RX5 hg nc)
    (k1 : J l G X Q 7 100 [.ref 19, .int x1, .int x2, .int x3, .int x4, .int x5, .int x6] [.int 0, .int x5, .int x3, .int x4, .int 1, .ref 25] mu n) :
    J l G X Q 7 89 [.ref 19, .int x1, .int x2, .int x3, .int x4, .int x5, .int x6] [] mu n := by
  refine J_aload_n h dX5_handOver_89 rfl rfl ?_
  refine J_getr (k := 2) h dX5_handOver_90 jc5 rfl rfl (by decide) w306 ?_
  refine J_iconst h dX5_handOver_93 ci_1 ?_
  refine J_iload h dX5_handOver_94 rfl ?_
  refine J_iload_n h dX5_handOver_96 rfl rfl ?_
  refine J_iload h dX5_handOver_97 rfl ?_
  refine J_iconst h dX5_handOver_99 ci_0 ?_
  exact k1
theorem rX5_handOver_151 {l : Launch} {G : jG} {X : jX} {Q : State → Prop} {n hg nc : Nat} {ret : Option FieldType} {mu : jM} {x1 : Int32} {x2 : Int32} {x3 : Int32} {x4 : Int32} {x5 : Int32} {x6 : Int32} (h : jOk l G X cX5_handOver 7 ret RX5 hg nc)
    (k1 : J l G X Q 7 152 [.ref 19, .int x1, .int x2, .int x3, .int x4, .int x5, .int x6] [.int x2] mu n) :
    J l G X Q 7 151 [.ref 19, .int x1, .int x2, .int x3, .int x4, .int x5, .int x6] [] mu n := by
  refine J_iload_n h dX5_handOver_151 rfl rfl ?_
  exact k1
theorem rX5_handOver_100 {l : Launch} {G : jG} {X : jX} {Q : State → Prop} {n hg nc : Nat} {ret : Option FieldType} {mu : jM} {x1 : Int32} {x2 : Int32} {x3 : Int32} {x4 : Int32} {x5 : Int32} {x6 : Int32} {y0 : Int32} {y1 : Int32} {y2 : Int32} {y3 : Int32} {y4 : Int32} {Qc : jM → Prop} {h' : Nat} (h : jOk l G X cX5_handOver 7 ret RX5 hg nc) (hM : jCv l G yX3_send cX3_send 6 h' (.ref 25 :: [.int y4, .int y3, .int y2, .int y1, .int y0]) mu Qc) (hh : h' < hg ∧ 6 ≤ 21) (hn : n ≤ nc)
    (kk : ∀ mu', Qc mu' → J l G X Q 7 103 [.ref 19, .int x1, .int x2, .int x3, .int x4, .int x5, .int x6] [] mu' n) :
    J l G X Q 7 100 [.ref 19, .int x1, .int x2, .int x3, .int x4, .int x5, .int x6] [.int y0, .int y1, .int y2, .int y3, .int y4, .ref 25] mu n :=
  J_callV (As := [.int y4, .int y3, .int y2, .int y1, .int y0]) (rest := []) h dX5_handOver_100 hM (jgV w853 w854 w855 w81 w856) rfl (ci := 3) rfl rfl nmX3_send rfl hh (Nat.le_of_ble_eq_true rfl) rfl kk hn
theorem rX5_handOver_103 {l : Launch} {G : jG} {X : jX} {Q : State → Prop} {n hg nc : Nat} {ret : Option FieldType} {mu : jM} {x1 : Int32} {x2 : Int32} {x3 : Int32} {x4 : Int32} {x5 : Int32} {x6 : Int32} (h : jOk l G X cX5_handOver 7 ret RX5 hg nc)
    (k1 : J l G X Q 7 145 [.ref 19, .int x1, .int x2, .int x3, .int x4, .int x5, .int x6] [] mu n) :
    J l G X Q 7 103 [.ref 19, .int x1, .int x2, .int x3, .int x4, .int x5, .int x6] [] mu n := by
  refine J_goto (tgt := 145) h dX5_handOver_103 (by decide) ?_
  exact k1
/-! LockstepNet$Run.boxOf(II)I -/
theorem rX5_boxOf_0 {l : Launch} {G : jG} {X : jX} {Q : State → Prop} {n hg nc : Nat} {ret : Option FieldType} {mu : jM} {x0 : Int32} {x1 : Int32} (h : jOk l G X cX5_boxOf 2 ret RX5 hg nc)
    (k1 : J l G X Q 2 8 [.int x0, .int x1] [.int (((x1 &&& 1) * 24) + x0)] mu n) :
    J l G X Q 2 0 [.int x0, .int x1] [] mu n := by
  refine J_iload_n h dX5_boxOf_0 rfl rfl ?_
  refine J_iconst h dX5_boxOf_1 ci_1 ?_
  refine J_iand h dX5_boxOf_2 ?_
  refine J_bipush h dX5_boxOf_3 cb_24 ?_
  refine J_imul h dX5_boxOf_5 ?_
  refine J_iload_n h dX5_boxOf_6 rfl rfl ?_
  refine J_iadd h dX5_boxOf_7 ?_
  exact k1
/-! LockstepNet$Run.carryOn(I)V -/
theorem rX5_carryOn_0 {l : Launch} {G : jG} {X : jX} {Q : State → Prop} {n hg nc : Nat} {ret : Option FieldType} {mu : jM} {x1 : Int32} (h : jOk l G X cX5_carryOn 5 ret RX5 hg nc)
    (k1 : J l G X Q 5 2 [.ref 19, .int x1, .int 0, .float 0, .float 0] [] mu n) :
    J l G X Q 5 0 [.ref 19, .int x1, .float 0, .float 0, .float 0] [] mu n := by
  refine J_iconst h dX5_carryOn_0 ci_0 ?_
  refine J_istore_n h dX5_carryOn_1 rfl (by decide) rfl ?_
  show J l G X Q 5 2 [.ref 19, .int x1, .int 0, .float 0, .float 0] [] mu n
  exact k1
theorem rX5_carryOn_2 {l : Launch} {G : jG} {X : jX} {Q : State → Prop} {n hg nc : Nat} {ret : Option FieldType} {mu : jM} {x1 : Int32} {x2 : Int32} (h : jOk l G X cX5_carryOn 5 ret RX5 hg nc) (s3 : ¬ 1000000 ≤ x2 → vp_in x1 24)
    (k2 : 1000000 ≤ x2 → J l G X Q 5 83 [.ref 19, .int x1, .int x2, .float 0, .float 0] [] mu n)
    (k4 : ¬ 1000000 ≤ x2 → J l G X Q 5 15 [.ref 19, .int x1, .int x2, .float 0, .float 0] [.int (mu 45 (x1).toNatClampNeg), .ref 19] mu n) :
    J l G X Q 5 2 [.ref 19, .int x1, .int x2, .float 0, .float 0] [] mu n := by
  refine J_iload_n h dX5_carryOn_2 rfl rfl ?_
  refine J_ldc h dX5_carryOn_3 w810 ?_
  refine J_icmp_ge (tgt := 83) h dX5_carryOn_5 (by decide) (fun q1 => ?_) (fun q1 => ?_)
  · skip
    exact k2 q1
  · skip
    refine J_aload_n h dX5_carryOn_8 rfl rfl ?_
    refine J_aload_n h dX5_carryOn_9 rfl rfl ?_
    refine J_getr (k := 5) h dX5_carryOn_10 jc5 rfl rfl (by decide) w312 ?_
    refine J_iload_n h dX5_carryOn_13 rfl rfl ?_
    refine J_iald h dX5_carryOn_14 rfl (s3 q1) ?_
    exact k4 q1
theorem rX5_carryOn_15 {l : Launch} {G : jG} {X : jX} {Q : State → Prop} {n hg nc : Nat} {ret : Option FieldType} {mu : jM} {x1 : Int32} {x2 : Int32} {y0 : Int32} {Qc : Int32 → jM → Prop} {h' : Nat} (h : jOk l G X cX5_carryOn 5 ret RX5 hg nc) (hM : jCi l G yX5_wayOutOf cX5_wayOutOf 3 h' (some .int) (.ref 19 :: [.int y0]) mu Qc) (hh : h' < hg ∧ 3 ≤ 21) (hn : n ≤ nc)
    (kk : ∀ v mu', Qc v mu' → J l G X Q 5 18 [.ref 19, .int x1, .int x2, .float 0, .float 0] (.int v :: []) mu' n) :
    J l G X Q 5 15 [.ref 19, .int x1, .int x2, .float 0, .float 0] [.int y0, .ref 19] mu n :=
  J_callVi (As := [.int y0]) (rest := []) h dX5_carryOn_15 hM (jgV w811 w813 w15 w80 w814) rfl (ci := 5) rfl rfl nmX5_wayOutOf rfl hh (Nat.le_of_ble_eq_true rfl) rfl kk hn
theorem rX5_carryOn_18 {l : Launch} {G : jG} {X : jX} {Q : State → Prop} {n hg nc : Nat} {ret : Option FieldType} {mu : jM} {x1 : Int32} {x2 : Int32} {y0 : Int32} (h : jOk l G X cX5_carryOn 5 ret RX5 hg nc)
    (k1 : J l G X Q 5 22 [.ref 19, .int x1, .int x2, .int y0, .float 0] [.int y0, .int x1, .ref 19] mu n) :
    J l G X Q 5 18 [.ref 19, .int x1, .int x2, .float 0, .float 0] [.int y0] mu n := by
  refine J_istore_n h dX5_carryOn_18 rfl (by decide) rfl ?_
  show J l G X Q 5 19 [.ref 19, .int x1, .int x2, .int y0, .float 0] [] mu n
  refine J_aload_n h dX5_carryOn_19 rfl rfl ?_
  refine J_iload_n h dX5_carryOn_20 rfl rfl ?_
  refine J_iload_n h dX5_carryOn_21 rfl rfl ?_
  exact k1
theorem rX5_carryOn_22 {l : Launch} {G : jG} {X : jX} {Q : State → Prop} {n hg nc : Nat} {ret : Option FieldType} {mu : jM} {x1 : Int32} {x2 : Int32} {x3 : Int32} {y0 : Int32} {y1 : Int32} {Qc : Int32 → jM → Prop} {h' : Nat} (h : jOk l G X cX5_carryOn 5 ret RX5 hg nc) (hM : jCi l G yX5_nextDeed cX5_nextDeed 3 h' (some .int) (.ref 19 :: [.int y1, .int y0]) mu Qc) (hh : h' < hg ∧ 3 ≤ 21) (hn : n ≤ nc)
    (kk : ∀ v mu', Qc v mu' → J l G X Q 5 25 [.ref 19, .int x1, .int x2, .int x3, .float 0] (.int v :: []) mu' n) :
    J l G X Q 5 22 [.ref 19, .int x1, .int x2, .int x3, .float 0] [.int y0, .int y1, .ref 19] mu n :=
  J_callVi (As := [.int y1, .int y0]) (rest := []) h dX5_carryOn_22 hM (jgV w815 w817 w16 w80 w818) rfl (ci := 5) rfl rfl nmX5_nextDeed rfl hh (Nat.le_of_ble_eq_true rfl) rfl kk hn
theorem rX5_carryOn_25 {l : Launch} {G : jG} {X : jX} {Q : State → Prop} {n hg nc : Nat} {ret : Option FieldType} {mu : jM} {x1 : Int32} {x2 : Int32} {x3 : Int32} {y0 : Int32} (h : jOk l G X cX5_carryOn 5 ret RX5 hg nc)
    (k3 : ¬ y0 = 0 → ¬ x3 = 2 → J l G X Q 5 56 [.ref 19, .int x1, .int x2, .int x3, .int y0] [.ref 33, .int x1, .int y0, .ref 19] mu n)
    (k4 : ¬ y0 = 0 → x3 = 2 → J l G X Q 5 56 [.ref 19, .int x1, .int x2, .int x3, .int y0] [.ref 38, .int x1, .int y0, .ref 19] mu n)
    (k5 : y0 = 0 → J l G X Q 5 32 [.ref 19, .int x1, .int x2, .int x3, .int y0] [] mu n) :
    J l G X Q 5 25 [.ref 19, .int x1, .int x2, .int x3, .float 0] [.int y0] mu n := by
  refine J_istore h dX5_carryOn_25 (by decide) rfl ?_
  show J l G X Q 5 27 [.ref 19, .int x1, .int x2, .int x3, .int y0] [] mu n
  refine J_iload h dX5_carryOn_27 rfl ?_
  refine J_if_ne (tgt := 33) h dX5_carryOn_29 (by decide) (fun q1 => ?_) (fun q1 => ?_)
  · skip
    refine J_aload_n h dX5_carryOn_33 rfl rfl ?_
    refine J_iload h dX5_carryOn_34 rfl ?_
    refine J_iload_n h dX5_carryOn_36 rfl rfl ?_
    refine J_iload_n h dX5_carryOn_37 rfl rfl ?_
    refine J_iconst h dX5_carryOn_38 ci_2 ?_
    refine J_icmp_ne (tgt := 52) h dX5_carryOn_39 (by decide) (fun q2 => ?_) (fun q2 => ?_)
    · skip
      refine J_aload_n h dX5_carryOn_52 rfl rfl ?_
      refine J_getr (k := 3) h dX5_carryOn_53 jc5 rfl rfl (by decide) w308 ?_
      exact k3 q1 q2
    · skip
      refine J_aload_n h dX5_carryOn_42 rfl rfl ?_
      refine J_getr (k := 4) h dX5_carryOn_43 jc5 rfl rfl (by decide) w310 ?_
      refine J_getrN (k := 2) h dX5_carryOn_46 jc0 rfl rfl (by decide) w278 ?_
      refine J_goto (tgt := 56) h dX5_carryOn_49 (by decide) ?_
      exact k4 q1 q2
  · skip
    exact k5 q1
theorem rX5_carryOn_56 {l : Launch} {G : jG} {X : jX} {Q : State → Prop} {n hg nc : Nat} {ret : Option FieldType} {mu : jM} {x1 : Int32} {x2 : Int32} {x3 : Int32} {x4 : Int32} {y1 : Int32} {y2 : Int32} {Qc : jM → Prop} {h' : Nat} (h : jOk l G X cX5_carryOn 5 ret RX5 hg nc) (hM : jCv l G yX5_sendFor cX5_sendFor 4 h' (.ref 19 :: [.int y2, .int y1, .ref 33]) mu Qc) (hh : h' < hg ∧ 4 ≤ 21) (hn : n ≤ nc)
    (kk : ∀ mu', Qc mu' → J l G X Q 5 59 [.ref 19, .int x1, .int x2, .int x3, .int x4] [] mu' n) :
    J l G X Q 5 56 [.ref 19, .int x1, .int x2, .int x3, .int x4] [.ref 33, .int y1, .int y2, .ref 19] mu n :=
  J_callV (As := [.int y2, .int y1, .ref 33]) (rest := []) h dX5_carryOn_56 hM (jgV w845 w847 w22 w80 w848) rfl (ci := 5) rfl rfl nmX5_sendFor rfl hh (Nat.le_of_ble_eq_true rfl) rfl kk hn
theorem rX5_carryOn_56b {l : Launch} {G : jG} {X : jX} {Q : State → Prop} {n hg nc : Nat} {ret : Option FieldType} {mu : jM} {x1 : Int32} {x2 : Int32} {x3 : Int32} {x4 : Int32} {y1 : Int32} {y2 : Int32} {Qc : jM → Prop} {h' : Nat} (h : jOk l G X cX5_carryOn 5 ret RX5 hg nc) (hM : jCv l G yX5_sendFor cX5_sendFor 4 h' (.ref 19 :: [.int y2, .int y1, .ref 38]) mu Qc) (hh : h' < hg ∧ 4 ≤ 21) (hn : n ≤ nc)
    (kk : ∀ mu', Qc mu' → J l G X Q 5 59 [.ref 19, .int x1, .int x2, .int x3, .int x4] [] mu' n) :
    J l G X Q 5 56 [.ref 19, .int x1, .int x2, .int x3, .int x4] [.ref 38, .int y1, .int y2, .ref 19] mu n :=
  J_callV (As := [.int y2, .int y1, .ref 38]) (rest := []) h dX5_carryOn_56 hM (jgV w845 w847 w22 w80 w848) rfl (ci := 5) rfl rfl nmX5_sendFor rfl hh (Nat.le_of_ble_eq_true rfl) rfl kk hn
theorem rX5_carryOn_59 {l : Launch} {G : jG} {X : jX} {Q : State → Prop} {n hg nc : Nat} {ret : Option FieldType} {mu : jM} {x1 : Int32} {x2 : Int32} {x3 : Int32} {x4 : Int32} (h : jOk l G X cX5_carryOn 5 ret RX5 hg nc)
    (k2 : x4 = 5 → J l G X Q 5 72 [.ref 19, .int x1, .int x2, .int x3, .int x4] [] mu n)
    (k4 : ¬ x4 = 5 → ¬ x4 = 6 → J l G X Q 5 77 [.ref 19, .int x1, .int x2, .int x3, .int x4] [] mu n)
    (k5 : ¬ x4 = 5 → x4 = 6 → J l G X Q 5 72 [.ref 19, .int x1, .int x2, .int x3, .int x4] [] mu n) :
    J l G X Q 5 59 [.ref 19, .int x1, .int x2, .int x3, .int x4] [] mu n := by
  refine J_iload h dX5_carryOn_59 rfl ?_
  refine J_iconst h dX5_carryOn_61 ci_5 ?_
  refine J_icmp_eq (tgt := 72) h dX5_carryOn_62 (by decide) (fun q1 => ?_) (fun q1 => ?_)
  · skip
    exact k2 q1
  · skip
    refine J_iload h dX5_carryOn_65 rfl ?_
    refine J_bipush h dX5_carryOn_67 cb_6 ?_
    refine J_icmp_ne (tgt := 77) h dX5_carryOn_69 (by decide) (fun q3 => ?_) (fun q3 => ?_)
    · skip
      exact k4 q1 q3
    · skip
      exact k5 q1 q3
theorem rX5_carryOn_72 {l : Launch} {G : jG} {X : jX} {Q : State → Prop} {n hg nc : Nat} {ret : Option FieldType} {mu : jM} {x1 : Int32} {x2 : Int32} {x3 : Int32} {x4 : Int32} (h : jOk l G X cX5_carryOn 5 ret RX5 hg nc)
    (k1 : J l G X Q 5 74 [.ref 19, .int x1, .int x2, .int x3, .int x4] [.int x1, .ref 19] mu n) :
    J l G X Q 5 72 [.ref 19, .int x1, .int x2, .int x3, .int x4] [] mu n := by
  refine J_aload_n h dX5_carryOn_72 rfl rfl ?_
  refine J_iload_n h dX5_carryOn_73 rfl rfl ?_
  exact k1
theorem rX5_carryOn_77 {l : Launch} {G : jG} {X : jX} {Q : State → Prop} {n hg nc : Nat} {ret : Option FieldType} {mu : jM} {x1 : Int32} {x2 : Int32} {x3 : Int32} {x4 : Int32} (h : jOk l G X cX5_carryOn 5 ret RX5 hg nc)
    (k1 : J l G X Q 5 2 [.ref 19, .int x1, .int (x2 + 1), .int x3, .int x4] [] mu n) :
    J l G X Q 5 77 [.ref 19, .int x1, .int x2, .int x3, .int x4] [] mu n := by
  refine J_iinc h dX5_carryOn_77 rfl (cc_1 _) (by decide) rfl ?_
  show J l G X Q 5 80 [.ref 19, .int x1, .int (x2 + 1), .int x3, .int x4] [] mu n
  refine J_goto (tgt := 2) h dX5_carryOn_80 (by decide) ?_
  exact k1
theorem rX5_carryOn_74 {l : Launch} {G : jG} {X : jX} {Q : State → Prop} {n hg nc : Nat} {ret : Option FieldType} {mu : jM} {x1 : Int32} {x2 : Int32} {x3 : Int32} {x4 : Int32} {y0 : Int32} {Qc : jM → Prop} {h' : Nat} (h : jOk l G X cX5_carryOn 5 ret RX5 hg nc) (hM : jCv l G yX5_enterNextRound cX5_enterNextRound 3 h' (.ref 19 :: [.int y0]) mu Qc) (hh : h' < hg ∧ 3 ≤ 21) (hn : n ≤ nc)
    (kk : ∀ mu', Qc mu' → J l G X Q 5 77 [.ref 19, .int x1, .int x2, .int x3, .int x4] [] mu' n) :
    J l G X Q 5 74 [.ref 19, .int x1, .int x2, .int x3, .int x4] [.int y0, .ref 19] mu n :=
  J_callV (As := [.int y0]) (rest := []) h dX5_carryOn_74 hM (jgV w861 w863 w25 w80 w864) rfl (ci := 5) rfl rfl nmX5_enterNextRound rfl hh (Nat.le_of_ble_eq_true rfl) rfl kk hn
theorem rX5_carryOn_2b {l : Launch} {G : jG} {X : jX} {Q : State → Prop} {n hg nc : Nat} {ret : Option FieldType} {mu : jM} {x1 : Int32} {x2 : Int32} {x3 : Int32} {x4 : Int32} (h : jOk l G X cX5_carryOn 5 ret RX5 hg nc) (s3 : ¬ 1000000 ≤ x2 → vp_in x1 24)
    (k2 : 1000000 ≤ x2 → J l G X Q 5 83 [.ref 19, .int x1, .int x2, .int x3, .int x4] [] mu n)
    (k4 : ¬ 1000000 ≤ x2 → J l G X Q 5 15 [.ref 19, .int x1, .int x2, .int x3, .int x4] [.int (mu 45 (x1).toNatClampNeg), .ref 19] mu n) :
    J l G X Q 5 2 [.ref 19, .int x1, .int x2, .int x3, .int x4] [] mu n := by
  refine J_iload_n h dX5_carryOn_2 rfl rfl ?_
  refine J_ldc h dX5_carryOn_3 w810 ?_
  refine J_icmp_ge (tgt := 83) h dX5_carryOn_5 (by decide) (fun q1 => ?_) (fun q1 => ?_)
  · skip
    exact k2 q1
  · skip
    refine J_aload_n h dX5_carryOn_8 rfl rfl ?_
    refine J_aload_n h dX5_carryOn_9 rfl rfl ?_
    refine J_getr (k := 5) h dX5_carryOn_10 jc5 rfl rfl (by decide) w312 ?_
    refine J_iload_n h dX5_carryOn_13 rfl rfl ?_
    refine J_iald h dX5_carryOn_14 rfl (s3 q1) ?_
    exact k4 q1
theorem rX5_carryOn_15b {l : Launch} {G : jG} {X : jX} {Q : State → Prop} {n hg nc : Nat} {ret : Option FieldType} {mu : jM} {x1 : Int32} {x2 : Int32} {x3 : Int32} {x4 : Int32} {y0 : Int32} {Qc : Int32 → jM → Prop} {h' : Nat} (h : jOk l G X cX5_carryOn 5 ret RX5 hg nc) (hM : jCi l G yX5_wayOutOf cX5_wayOutOf 3 h' (some .int) (.ref 19 :: [.int y0]) mu Qc) (hh : h' < hg ∧ 3 ≤ 21) (hn : n ≤ nc)
    (kk : ∀ v mu', Qc v mu' → J l G X Q 5 18 [.ref 19, .int x1, .int x2, .int x3, .int x4] (.int v :: []) mu' n) :
    J l G X Q 5 15 [.ref 19, .int x1, .int x2, .int x3, .int x4] [.int y0, .ref 19] mu n :=
  J_callVi (As := [.int y0]) (rest := []) h dX5_carryOn_15 hM (jgV w811 w813 w15 w80 w814) rfl (ci := 5) rfl rfl nmX5_wayOutOf rfl hh (Nat.le_of_ble_eq_true rfl) rfl kk hn
theorem rX5_carryOn_18b {l : Launch} {G : jG} {X : jX} {Q : State → Prop} {n hg nc : Nat} {ret : Option FieldType} {mu : jM} {x1 : Int32} {x2 : Int32} {x3 : Int32} {x4 : Int32} {y0 : Int32} (h : jOk l G X cX5_carryOn 5 ret RX5 hg nc)
    (k1 : J l G X Q 5 22 [.ref 19, .int x1, .int x2, .int y0, .int x4] [.int y0, .int x1, .ref 19] mu n) :
    J l G X Q 5 18 [.ref 19, .int x1, .int x2, .int x3, .int x4] [.int y0] mu n := by
  refine J_istore_n h dX5_carryOn_18 rfl (by decide) rfl ?_
  show J l G X Q 5 19 [.ref 19, .int x1, .int x2, .int y0, .int x4] [] mu n
  refine J_aload_n h dX5_carryOn_19 rfl rfl ?_
  refine J_iload_n h dX5_carryOn_20 rfl rfl ?_
  refine J_iload_n h dX5_carryOn_21 rfl rfl ?_
  exact k1
theorem rX5_carryOn_22b {l : Launch} {G : jG} {X : jX} {Q : State → Prop} {n hg nc : Nat} {ret : Option FieldType} {mu : jM} {x1 : Int32} {x2 : Int32} {x3 : Int32} {x4 : Int32} {y0 : Int32} {y1 : Int32} {Qc : Int32 → jM → Prop} {h' : Nat} (h : jOk l G X cX5_carryOn 5 ret RX5 hg nc) (hM : jCi l G yX5_nextDeed cX5_nextDeed 3 h' (some .int) (.ref 19 :: [.int y1, .int y0]) mu Qc) (hh : h' < hg ∧ 3 ≤ 21) (hn : n ≤ nc)
    (kk : ∀ v mu', Qc v mu' → J l G X Q 5 25 [.ref 19, .int x1, .int x2, .int x3, .int x4] (.int v :: []) mu' n) :
    J l G X Q 5 22 [.ref 19, .int x1, .int x2, .int x3, .int x4] [.int y0, .int y1, .ref 19] mu n :=
  J_callVi (As := [.int y1, .int y0]) (rest := []) h dX5_carryOn_22 hM (jgV w815 w817 w16 w80 w818) rfl (ci := 5) rfl rfl nmX5_nextDeed rfl hh (Nat.le_of_ble_eq_true rfl) rfl kk hn
theorem rX5_carryOn_25b {l : Launch} {G : jG} {X : jX} {Q : State → Prop} {n hg nc : Nat} {ret : Option FieldType} {mu : jM} {x1 : Int32} {x2 : Int32} {x3 : Int32} {x4 : Int32} {y0 : Int32} (h : jOk l G X cX5_carryOn 5 ret RX5 hg nc)
    (k3 : ¬ y0 = 0 → ¬ x3 = 2 → J l G X Q 5 56 [.ref 19, .int x1, .int x2, .int x3, .int y0] [.ref 33, .int x1, .int y0, .ref 19] mu n)
    (k4 : ¬ y0 = 0 → x3 = 2 → J l G X Q 5 56 [.ref 19, .int x1, .int x2, .int x3, .int y0] [.ref 38, .int x1, .int y0, .ref 19] mu n)
    (k5 : y0 = 0 → J l G X Q 5 32 [.ref 19, .int x1, .int x2, .int x3, .int y0] [] mu n) :
    J l G X Q 5 25 [.ref 19, .int x1, .int x2, .int x3, .int x4] [.int y0] mu n := by
  refine J_istore h dX5_carryOn_25 (by decide) rfl ?_
  show J l G X Q 5 27 [.ref 19, .int x1, .int x2, .int x3, .int y0] [] mu n
  refine J_iload h dX5_carryOn_27 rfl ?_
  refine J_if_ne (tgt := 33) h dX5_carryOn_29 (by decide) (fun q1 => ?_) (fun q1 => ?_)
  · skip
    refine J_aload_n h dX5_carryOn_33 rfl rfl ?_
    refine J_iload h dX5_carryOn_34 rfl ?_
    refine J_iload_n h dX5_carryOn_36 rfl rfl ?_
    refine J_iload_n h dX5_carryOn_37 rfl rfl ?_
    refine J_iconst h dX5_carryOn_38 ci_2 ?_
    refine J_icmp_ne (tgt := 52) h dX5_carryOn_39 (by decide) (fun q2 => ?_) (fun q2 => ?_)
    · skip
      refine J_aload_n h dX5_carryOn_52 rfl rfl ?_
      refine J_getr (k := 3) h dX5_carryOn_53 jc5 rfl rfl (by decide) w308 ?_
      exact k3 q1 q2
    · skip
      refine J_aload_n h dX5_carryOn_42 rfl rfl ?_
      refine J_getr (k := 4) h dX5_carryOn_43 jc5 rfl rfl (by decide) w310 ?_
      refine J_getrN (k := 2) h dX5_carryOn_46 jc0 rfl rfl (by decide) w278 ?_
      refine J_goto (tgt := 56) h dX5_carryOn_49 (by decide) ?_
      exact k4 q1 q2
  · skip
    exact k5 q1
/-! LockstepNet$Run.nextDeed(II)I -/
theorem rX5_nextDeed_0 {l : Launch} {G : jG} {X : jX} {Q : State → Prop} {n hg nc : Nat} {ret : Option FieldType} {mu : jM} {x1 : Int32} {x2 : Int32} (h : jOk l G X cX5_nextDeed 3 ret RX5 hg nc)
    (k1 : J l G X Q 3 1 [.ref 19, .int x1, .int x2] [.int x2] mu n) :
    J l G X Q 3 0 [.ref 19, .int x1, .int x2] [] mu n := by
  refine J_iload_n h dX5_nextDeed_0 rfl rfl ?_
  exact k1
theorem rX5_nextDeed_1 {l : Launch} {G : jG} {X : jX} {Q : State → Prop} {n hg nc : Nat} {ret : Option FieldType} {mu : jM} {x1 : Int32} {x2 : Int32} {y0 : Int32} (h : jOk l G X cX5_nextDeed 3 ret RX5 hg nc)
    (k0 : y0 = 0 → J l G X Q 3 28 [.ref 19, .int x1, .int x2] [] mu n)
    (k1 : y0 = 1 → J l G X Q 3 34 [.ref 19, .int x1, .int x2] [] mu n)
    (kd : ¬ y0 = 0 → ¬ y0 = 1 → J l G X Q 3 40 [.ref 19, .int x1, .int x2] [] mu n) :
    J l G X Q 3 1 [.ref 19, .int x1, .int x2] [.int y0] mu n := by
  by_cases e0 : y0 = 0
  · subst e0
    exact J_lookup (tgt := 28) (off := 27) h dX5_nextDeed_1 (by decide) (by decide) (by decide) (k0 rfl)
  by_cases e1 : y0 = 1
  · subst e1
    exact J_lookup (tgt := 34) (off := 33) h dX5_nextDeed_1 (by decide) (by decide) (by decide) (k1 rfl)
  exact J_lookup (tgt := 40) (off := 39) h dX5_nextDeed_1 (by decide) (by show Op.lookupswitch.offset [(0, 27), (1, 33)] _ _ = _; rw [lv_osw e0 (by decide), lv_osw e1 (by decide)]; rfl) (by decide) (kd e0 e1)
theorem rX5_nextDeed_28 {l : Launch} {G : jG} {X : jX} {Q : State → Prop} {n hg nc : Nat} {ret : Option FieldType} {mu : jM} {x1 : Int32} {x2 : Int32} (h : jOk l G X cX5_nextDeed 3 ret RX5 hg nc)
    (k1 : J l G X Q 3 30 [.ref 19, .int x1, .int x2] [.int x1, .ref 19] mu n) :
    J l G X Q 3 28 [.ref 19, .int x1, .int x2] [] mu n := by
  refine J_aload_n h dX5_nextDeed_28 rfl rfl ?_
  refine J_iload_n h dX5_nextDeed_29 rfl rfl ?_
  exact k1
theorem rX5_nextDeed_34 {l : Launch} {G : jG} {X : jX} {Q : State → Prop} {n hg nc : Nat} {ret : Option FieldType} {mu : jM} {x1 : Int32} {x2 : Int32} (h : jOk l G X cX5_nextDeed 3 ret RX5 hg nc)
    (k1 : J l G X Q 3 36 [.ref 19, .int x1, .int x2] [.int x1, .ref 19] mu n) :
    J l G X Q 3 34 [.ref 19, .int x1, .int x2] [] mu n := by
  refine J_aload_n h dX5_nextDeed_34 rfl rfl ?_
  refine J_iload_n h dX5_nextDeed_35 rfl rfl ?_
  exact k1
theorem rX5_nextDeed_40 {l : Launch} {G : jG} {X : jX} {Q : State → Prop} {n hg nc : Nat} {ret : Option FieldType} {mu : jM} {x1 : Int32} {x2 : Int32} (h : jOk l G X cX5_nextDeed 3 ret RX5 hg nc)
    (k1 : J l G X Q 3 42 [.ref 19, .int x1, .int x2] [.int x1, .ref 19] mu n) :
    J l G X Q 3 40 [.ref 19, .int x1, .int x2] [] mu n := by
  refine J_aload_n h dX5_nextDeed_40 rfl rfl ?_
  refine J_iload_n h dX5_nextDeed_41 rfl rfl ?_
  exact k1
theorem rX5_nextDeed_30 {l : Launch} {G : jG} {X : jX} {Q : State → Prop} {n hg nc : Nat} {ret : Option FieldType} {mu : jM} {x1 : Int32} {x2 : Int32} {y0 : Int32} {Qc : Int32 → jM → Prop} {h' : Nat} (h : jOk l G X cX5_nextDeed 3 ret RX5 hg nc) (hM : jCi l G yX5_nextByNodes cX5_nextByNodes 3 h' (some .int) (.ref 19 :: [.int y0]) mu Qc) (hh : h' < hg ∧ 3 ≤ 21) (hn : n ≤ nc)
    (kk : ∀ v mu', Qc v mu' → J l G X Q 3 33 [.ref 19, .int x1, .int x2] (.int v :: []) mu' n) :
    J l G X Q 3 30 [.ref 19, .int x1, .int x2] [.int y0, .ref 19] mu n :=
  J_callVi (As := [.int y0]) (rest := []) h dX5_nextDeed_30 hM (jgV w819 w821 w17 w80 w822) rfl (ci := 5) rfl rfl nmX5_nextByNodes rfl hh (Nat.le_of_ble_eq_true rfl) rfl kk hn
theorem rX5_nextDeed_36 {l : Launch} {G : jG} {X : jX} {Q : State → Prop} {n hg nc : Nat} {ret : Option FieldType} {mu : jM} {x1 : Int32} {x2 : Int32} {y0 : Int32} {Qc : Int32 → jM → Prop} {h' : Nat} (h : jOk l G X cX5_nextDeed 3 ret RX5 hg nc) (hM : jCi l G yX5_nextByTree cX5_nextByTree 2 h' (some .int) (.ref 19 :: [.int y0]) mu Qc) (hh : h' < hg ∧ 2 ≤ 21) (hn : n ≤ nc)
    (kk : ∀ v mu', Qc v mu' → J l G X Q 3 39 [.ref 19, .int x1, .int x2] (.int v :: []) mu' n) :
    J l G X Q 3 36 [.ref 19, .int x1, .int x2] [.int y0, .ref 19] mu n :=
  J_callVi (As := [.int y0]) (rest := []) h dX5_nextDeed_36 hM (jgV w837 w839 w20 w80 w840) rfl (ci := 5) rfl rfl nmX5_nextByTree rfl hh (Nat.le_of_ble_eq_true rfl) rfl kk hn
theorem rX5_nextDeed_42 {l : Launch} {G : jG} {X : jX} {Q : State → Prop} {n hg nc : Nat} {ret : Option FieldType} {mu : jM} {x1 : Int32} {x2 : Int32} {y0 : Int32} {Qc : Int32 → jM → Prop} {h' : Nat} (h : jOk l G X cX5_nextDeed 3 ret RX5 hg nc) (hM : jCi l G yX5_nextByClusters cX5_nextByClusters 4 h' (some .int) (.ref 19 :: [.int y0]) mu Qc) (hh : h' < hg ∧ 4 ≤ 21) (hn : n ≤ nc)
    (kk : ∀ v mu', Qc v mu' → J l G X Q 3 45 [.ref 19, .int x1, .int x2] (.int v :: []) mu' n) :
    J l G X Q 3 42 [.ref 19, .int x1, .int x2] [.int y0, .ref 19] mu n :=
  J_callVi (As := [.int y0]) (rest := []) h dX5_nextDeed_42 hM (jgV w841 w843 w21 w80 w844) rfl (ci := 5) rfl rfl nmX5_nextByClusters rfl hh (Nat.le_of_ble_eq_true rfl) rfl kk hn
/-! LockstepNet$Run.nextByNodes(I)I -/
theorem rX5_nextByNodes_0 {l : Launch} {G : jG} {X : jX} {Q : State → Prop} {n hg nc : Nat} {ret : Option FieldType} {mu : jM} {x1 : Int32} (h : jOk l G X cX5_nextByNodes 3 ret RX5 hg nc)
    (k1 : J l G X Q 3 2 [.ref 19, .int x1, .float 0] [.int x1, .ref 19] mu n) :
    J l G X Q 3 0 [.ref 19, .int x1, .float 0] [] mu n := by
  refine J_aload_n h dX5_nextByNodes_0 rfl rfl ?_
  refine J_iload_n h dX5_nextByNodes_1 rfl rfl ?_
  exact k1
theorem rX5_nextByNodes_2 {l : Launch} {G : jG} {X : jX} {Q : State → Prop} {n hg nc : Nat} {ret : Option FieldType} {mu : jM} {x1 : Int32} {y0 : Int32} {Qc : Int32 → jM → Prop} {h' : Nat} (h : jOk l G X cX5_nextByNodes 3 ret RX5 hg nc) (hM : jCi l G yX5_mayAnnounce cX5_mayAnnounce 2 h' (some .boolean) (.ref 19 :: [.int y0]) mu Qc) (hh : h' < hg ∧ 2 ≤ 21) (hn : n ≤ nc)
    (kk : ∀ v mu', Qc v mu' → J l G X Q 3 5 [.ref 19, .int x1, .float 0] (.int v :: []) mu' n) :
    J l G X Q 3 2 [.ref 19, .int x1, .float 0] [.int y0, .ref 19] mu n :=
  J_callVi (As := [.int y0]) (rest := []) h dX5_nextByNodes_2 hM (jgV w823 w825 w18 w80 w826) rfl (ci := 5) rfl rfl nmX5_mayAnnounce rfl hh (Nat.le_of_ble_eq_true rfl) rfl kk hn
theorem rX5_nextByNodes_5 {l : Launch} {G : jG} {X : jX} {Q : State → Prop} {n hg nc : Nat} {ret : Option FieldType} {mu : jM} {x1 : Int32} {y0 : Int32} (h : jOk l G X cX5_nextByNodes 3 ret RX5 hg nc)
    (k2 : y0 = 0 → J l G X Q 3 15 [.ref 19, .int x1, .float 0] [.int x1, .int (mu 19 8)] mu n)
    (k3 : ¬ y0 = 0 → J l G X Q 3 9 [.ref 19, .int x1, .float 0] [.int 1] mu n) :
    J l G X Q 3 5 [.ref 19, .int x1, .float 0] [.int y0] mu n := by
  refine J_if_eq (tgt := 10) h dX5_nextByNodes_5 (by decide) (fun q1 => ?_) (fun q1 => ?_)
  · skip
    refine J_aload_n h dX5_nextByNodes_10 rfl rfl ?_
    refine J_geti (k := 8) h dX5_nextByNodes_11 jc5 rfl rfl (by decide) w316 ?_
    refine J_iload_n h dX5_nextByNodes_14 rfl rfl ?_
    exact k2 q1
  · skip
    refine J_iconst h dX5_nextByNodes_8 ci_1 ?_
    exact k3 q1
theorem rX5_nextByNodes_15 {l : Launch} {G : jG} {X : jX} {Q : State → Prop} {n hg nc : Nat} {ret : Option FieldType} {mu : jM} {x1 : Int32} {y0 : Int32} {y1 : Int32} {Qc : Int32 → jM → Prop} {h' : Nat} (h : jOk l G X cX5_nextByNodes 3 ret RX5 hg nc) (hM : jCi l G yX5_isIn cX5_isIn 2 h' (some .boolean) [.int y1, .int y0] mu Qc) (hh : h' < hg ∧ 2 ≤ 21) (hn : n ≤ nc)
    (kk : ∀ v mu', Qc v mu' → J l G X Q 3 18 [.ref 19, .int x1, .float 0] (.int v :: []) mu' n) :
    J l G X Q 3 15 [.ref 19, .int x1, .float 0] [.int y0, .int y1] mu n :=
  J_callSi (As := [.int y1, .int y0]) (rest := []) h dX5_nextByNodes_15 hM (jgS w827 w828 w80 w829) nmX5_isIn rfl hh (Nat.le_of_ble_eq_true rfl) rfl kk hn
theorem rX5_nextByNodes_18 {l : Launch} {G : jG} {X : jX} {Q : State → Prop} {n hg nc : Nat} {ret : Option FieldType} {mu : jM} {x1 : Int32} {y0 : Int32} (h : jOk l G X cX5_nextByNodes 3 ret RX5 hg nc)
    (k2 : y0 = 0 → J l G X Q 3 43 [.ref 19, .int x1, .float 0] [] mu n)
    (k3 : ¬ y0 = 0 → J l G X Q 3 24 [.ref 19, .int x1, .float 0] [.int 2, .int x1, .ref 19] mu n) :
    J l G X Q 3 18 [.ref 19, .int x1, .float 0] [.int y0] mu n := by
  refine J_if_eq (tgt := 43) h dX5_nextByNodes_18 (by decide) (fun q1 => ?_) (fun q1 => ?_)
  · skip
    exact k2 q1
  · skip
    refine J_aload_n h dX5_nextByNodes_21 rfl rfl ?_
    refine J_iload_n h dX5_nextByNodes_22 rfl rfl ?_
    refine J_iconst h dX5_nextByNodes_23 ci_2 ?_
    exact k3 q1
theorem rX5_nextByNodes_43 {l : Launch} {G : jG} {X : jX} {Q : State → Prop} {n hg nc : Nat} {ret : Option FieldType} {mu : jM} {x1 : Int32} (h : jOk l G X cX5_nextByNodes 3 ret RX5 hg nc)
    (k2 : J l G X Q 3 55 [.ref 19, .int x1, .int 0] [.int 0] mu n) :
    J l G X Q 3 43 [.ref 19, .int x1, .float 0] [] mu n := by
  refine J_iconst h dX5_nextByNodes_43 ci_0 ?_
  refine J_istore_n h dX5_nextByNodes_44 rfl (by decide) rfl ?_
  show J l G X Q 3 45 [.ref 19, .int x1, .int 0] [] mu n
  refine J_iload_n h dX5_nextByNodes_45 rfl rfl ?_
  refine J_if_eq (tgt := 54) h dX5_nextByNodes_46 (by decide) (fun q1 => ?_) (fun q1 => ?_)
  · skip
    refine J_iconst h dX5_nextByNodes_54 ci_0 ?_
    exact k2
  · skip
    exact absurd (show ¬ (0 : Int32) = (0 : Int32) from q1) (by decide)
theorem rX5_nextByNodes_24 {l : Launch} {G : jG} {X : jX} {Q : State → Prop} {n hg nc : Nat} {ret : Option FieldType} {mu : jM} {x1 : Int32} {y0 : Int32} {y1 : Int32} {Qc : Int32 → jM → Prop} {h' : Nat} (h : jOk l G X cX5_nextByNodes 3 ret RX5 hg nc) (hM : jCi l G yX5_heardBy cX5_heardBy 3 h' (some .int) (.ref 19 :: [.int y1, .int y0]) mu Qc) (hh : h' < hg ∧ 3 ≤ 21) (hn : n ≤ nc)
    (kk : ∀ v mu', Qc v mu' → J l G X Q 3 27 [.ref 19, .int x1, .float 0] (.int v :: []) mu' n) :
    J l G X Q 3 24 [.ref 19, .int x1, .float 0] [.int y0, .int y1, .ref 19] mu n :=
  J_callVi (As := [.int y1, .int y0]) (rest := []) h dX5_nextByNodes_24 hM (jgV w830 w832 w19 w80 w833) rfl (ci := 5) rfl rfl nmX5_heardBy rfl hh (Nat.le_of_ble_eq_true rfl) rfl kk hn
theorem rX5_nextByNodes_27 {l : Launch} {G : jG} {X : jX} {Q : State → Prop} {n hg nc : Nat} {ret : Option FieldType} {mu : jM} {x1 : Int32} {y0 : Int32} (h : jOk l G X cX5_nextByNodes 3 ret RX5 hg nc) (s1 : vp_in x1 24)
    (k3 : ¬ y0 = (mu 10 (x1).toNatClampNeg) → J l G X Q 3 43 [.ref 19, .int x1, .float 0] [] mu n)
    (k5 : y0 = (mu 10 (x1).toNatClampNeg) → J l G X Q 3 55 [.ref 19, .int x1, .int 1] [.int 6] mu n) :
    J l G X Q 3 27 [.ref 19, .int x1, .float 0] [.int y0] mu n := by
  refine J_aload_n h dX5_nextByNodes_27 rfl rfl ?_
  refine J_getr (k := 0) h dX5_nextByNodes_28 jc5 rfl rfl (by decide) w303 ?_
  refine J_getrN (k := 5) h dX5_nextByNodes_31 jc2 rfl rfl (by decide) w157 ?_
  refine J_iload_n h dX5_nextByNodes_34 rfl rfl ?_
  refine J_iald h dX5_nextByNodes_35 rfl (s1) ?_
  refine J_icmp_ne (tgt := 43) h dX5_nextByNodes_36 (by decide) (fun q2 => ?_) (fun q2 => ?_)
  · skip
    exact k3 q2
  · skip
    refine J_iconst h dX5_nextByNodes_39 ci_1 ?_
    refine J_goto (tgt := 44) h dX5_nextByNodes_40 (by decide) ?_
    refine J_istore_n h dX5_nextByNodes_44 rfl (by decide) rfl ?_
    show J l G X Q 3 45 [.ref 19, .int x1, .int 1] [] mu n
    refine J_iload_n h dX5_nextByNodes_45 rfl rfl ?_
    refine J_if_eq (tgt := 54) h dX5_nextByNodes_46 (by decide) (fun q4 => ?_) (fun q4 => ?_)
    · skip
      exact absurd (show (1 : Int32) = (0 : Int32) from q4) (by decide)
    · skip
      refine J_bipush h dX5_nextByNodes_49 cb_6 ?_
      refine J_goto (tgt := 55) h dX5_nextByNodes_51 (by decide) ?_
      exact k5 q2
/-! LockstepNet$Run.nextByTree(I)I -/
theorem rX5_nextByTree_0 {l : Launch} {G : jG} {X : jX} {Q : State → Prop} {n hg nc : Nat} {ret : Option FieldType} {mu : jM} {x1 : Int32} (h : jOk l G X cX5_nextByTree 2 ret RX5 hg nc)
    (k1 : J l G X Q 2 2 [.ref 19, .int x1] [.int x1, .ref 19] mu n) :
    J l G X Q 2 0 [.ref 19, .int x1] [] mu n := by
  refine J_aload_n h dX5_nextByTree_0 rfl rfl ?_
  refine J_iload_n h dX5_nextByTree_1 rfl rfl ?_
  exact k1
theorem rX5_nextByTree_2 {l : Launch} {G : jG} {X : jX} {Q : State → Prop} {n hg nc : Nat} {ret : Option FieldType} {mu : jM} {x1 : Int32} {y0 : Int32} {Qc : Int32 → jM → Prop} {h' : Nat} (h : jOk l G X cX5_nextByTree 2 ret RX5 hg nc) (hM : jCi l G yX5_mayAnnounce cX5_mayAnnounce 2 h' (some .boolean) (.ref 19 :: [.int y0]) mu Qc) (hh : h' < hg ∧ 2 ≤ 21) (hn : n ≤ nc)
    (kk : ∀ v mu', Qc v mu' → J l G X Q 2 5 [.ref 19, .int x1] (.int v :: []) mu' n) :
    J l G X Q 2 2 [.ref 19, .int x1] [.int y0, .ref 19] mu n :=
  J_callVi (As := [.int y0]) (rest := []) h dX5_nextByTree_2 hM (jgV w823 w825 w18 w80 w826) rfl (ci := 5) rfl rfl nmX5_mayAnnounce rfl hh (Nat.le_of_ble_eq_true rfl) rfl kk hn
theorem rX5_nextByTree_5 {l : Launch} {G : jG} {X : jX} {Q : State → Prop} {n hg nc : Nat} {ret : Option FieldType} {mu : jM} {x1 : Int32} {y0 : Int32} (h : jOk l G X cX5_nextByTree 2 ret RX5 hg nc)
    (k2 : y0 = 0 → J l G X Q 2 44 [.ref 19, .int x1] [] mu n)
    (k3 : ¬ y0 = 0 → J l G X Q 2 11 [.ref 19, .int x1] [.int 3, .int x1, .ref 19] mu n) :
    J l G X Q 2 5 [.ref 19, .int x1] [.int y0] mu n := by
  refine J_if_eq (tgt := 44) h dX5_nextByTree_5 (by decide) (fun q1 => ?_) (fun q1 => ?_)
  · skip
    exact k2 q1
  · skip
    refine J_aload_n h dX5_nextByTree_8 rfl rfl ?_
    refine J_iload_n h dX5_nextByTree_9 rfl rfl ?_
    refine J_iconst h dX5_nextByTree_10 ci_3 ?_
    exact k3 q1
theorem rX5_nextByTree_44 {l : Launch} {G : jG} {X : jX} {Q : State → Prop} {n hg nc : Nat} {ret : Option FieldType} {mu : jM} {x1 : Int32} (h : jOk l G X cX5_nextByTree 2 ret RX5 hg nc)
    (k1 : J l G X Q 2 47 [.ref 19, .int x1] [.int 4, .int x1, .ref 19] mu n) :
    J l G X Q 2 44 [.ref 19, .int x1] [] mu n := by
  refine J_aload_n h dX5_nextByTree_44 rfl rfl ?_
  refine J_iload_n h dX5_nextByTree_45 rfl rfl ?_
  refine J_iconst h dX5_nextByTree_46 ci_4 ?_
  exact k1
theorem rX5_nextByTree_11 {l : Launch} {G : jG} {X : jX} {Q : State → Prop} {n hg nc : Nat} {ret : Option FieldType} {mu : jM} {x1 : Int32} {y0 : Int32} {y1 : Int32} {Qc : Int32 → jM → Prop} {h' : Nat} (h : jOk l G X cX5_nextByTree 2 ret RX5 hg nc) (hM : jCi l G yX5_heardBy cX5_heardBy 3 h' (some .int) (.ref 19 :: [.int y1, .int y0]) mu Qc) (hh : h' < hg ∧ 3 ≤ 21) (hn : n ≤ nc)
    (kk : ∀ v mu', Qc v mu' → J l G X Q 2 14 [.ref 19, .int x1] (.int v :: []) mu' n) :
    J l G X Q 2 11 [.ref 19, .int x1] [.int y0, .int y1, .ref 19] mu n :=
  J_callVi (As := [.int y1, .int y0]) (rest := []) h dX5_nextByTree_11 hM (jgV w830 w832 w19 w80 w833) rfl (ci := 5) rfl rfl nmX5_heardBy rfl hh (Nat.le_of_ble_eq_true rfl) rfl kk hn
theorem rX5_nextByTree_47 {l : Launch} {G : jG} {X : jX} {Q : State → Prop} {n hg nc : Nat} {ret : Option FieldType} {mu : jM} {x1 : Int32} {y0 : Int32} {y1 : Int32} {Qc : Int32 → jM → Prop} {h' : Nat} (h : jOk l G X cX5_nextByTree 2 ret RX5 hg nc) (hM : jCi l G yX5_heardBy cX5_heardBy 3 h' (some .int) (.ref 19 :: [.int y1, .int y0]) mu Qc) (hh : h' < hg ∧ 3 ≤ 21) (hn : n ≤ nc)
    (kk : ∀ v mu', Qc v mu' → J l G X Q 2 50 [.ref 19, .int x1] (.int v :: []) mu' n) :
    J l G X Q 2 47 [.ref 19, .int x1] [.int y0, .int y1, .ref 19] mu n :=
  J_callVi (As := [.int y1, .int y0]) (rest := []) h dX5_nextByTree_47 hM (jgV w830 w832 w19 w80 w833) rfl (ci := 5) rfl rfl nmX5_heardBy rfl hh (Nat.le_of_ble_eq_true rfl) rfl kk hn
theorem rX5_nextByTree_14 {l : Launch} {G : jG} {X : jX} {Q : State → Prop} {n hg nc : Nat} {ret : Option FieldType} {mu : jM} {x1 : Int32} {y0 : Int32} (h : jOk l G X cX5_nextByTree 2 ret RX5 hg nc) (s1 : vp_in x1 24) (s4 : y0 = (mu 36 (x1).toNatClampNeg) → vp_in x1 24)
    (k3 : ¬ y0 = (mu 36 (x1).toNatClampNeg) → J l G X Q 2 44 [.ref 19, .int x1] [] mu n)
    (k6 : y0 = (mu 36 (x1).toNatClampNeg) → 0 ≤ (mu 34 (x1).toNatClampNeg) → J l G X Q 2 43 [.ref 19, .int x1] [.int 2] mu n)
    (k7 : y0 = (mu 36 (x1).toNatClampNeg) → ¬ 0 ≤ (mu 34 (x1).toNatClampNeg) → J l G X Q 2 43 [.ref 19, .int x1] [.int 5] mu n) :
    J l G X Q 2 14 [.ref 19, .int x1] [.int y0] mu n := by
  refine J_aload_n h dX5_nextByTree_14 rfl rfl ?_
  refine J_getr (k := 3) h dX5_nextByTree_15 jc5 rfl rfl (by decide) w308 ?_
  refine J_getrN (k := 2) h dX5_nextByTree_18 jc6 rfl rfl (by decide) w257 ?_
  refine J_iload_n h dX5_nextByTree_21 rfl rfl ?_
  refine J_iald h dX5_nextByTree_22 rfl (s1) ?_
  refine J_icmp_ne (tgt := 44) h dX5_nextByTree_23 (by decide) (fun q2 => ?_) (fun q2 => ?_)
  · skip
    exact k3 q2
  · skip
    refine J_aload_n h dX5_nextByTree_26 rfl rfl ?_
    refine J_getr (k := 3) h dX5_nextByTree_27 jc5 rfl rfl (by decide) w308 ?_
    refine J_getrN (k := 0) h dX5_nextByTree_30 jc6 rfl rfl (by decide) w252 ?_
    refine J_iload_n h dX5_nextByTree_33 rfl rfl ?_
    refine J_iald h dX5_nextByTree_34 rfl (s4 q2) ?_
    refine J_if_ge (tgt := 42) h dX5_nextByTree_35 (by decide) (fun q5 => ?_) (fun q5 => ?_)
    · skip
      refine J_iconst h dX5_nextByTree_42 ci_2 ?_
      exact k6 q2 q5
    · skip
      refine J_iconst h dX5_nextByTree_38 ci_5 ?_
      refine J_goto (tgt := 43) h dX5_nextByTree_39 (by decide) ?_
      exact k7 q2 q5
theorem rX5_nextByTree_50 {l : Launch} {G : jG} {X : jX} {Q : State → Prop} {n hg nc : Nat} {ret : Option FieldType} {mu : jM} {x1 : Int32} {y0 : Int32} (h : jOk l G X cX5_nextByTree 2 ret RX5 hg nc)
    (k2 : y0 = 0 → J l G X Q 2 58 [.ref 19, .int x1] [.int 0] mu n)
    (k3 : ¬ y0 = 0 → J l G X Q 2 58 [.ref 19, .int x1] [.int 5] mu n) :
    J l G X Q 2 50 [.ref 19, .int x1] [.int y0] mu n := by
  refine J_if_eq (tgt := 57) h dX5_nextByTree_50 (by decide) (fun q1 => ?_) (fun q1 => ?_)
  · skip
    refine J_iconst h dX5_nextByTree_57 ci_0 ?_
    exact k2 q1
  · skip
    refine J_iconst h dX5_nextByTree_53 ci_5 ?_
    refine J_goto (tgt := 58) h dX5_nextByTree_54 (by decide) ?_
    exact k3 q1
/-! LockstepNet$Run.nextByClusters(I)I -/
theorem rX5_nextByClusters_0 {l : Launch} {G : jG} {X : jX} {Q : State → Prop} {n hg nc : Nat} {ret : Option FieldType} {mu : jM} {x1 : Int32} (h : jOk l G X cX5_nextByClusters 4 ret RX5 hg nc) (s1 : vp_in x1 24) (s2 : vp_in x1 24)
    (k4 : 0 ≤ (mu 39 (x1).toNatClampNeg) → J l G X Q 4 36 [.ref 19, .int x1, .int (mu 41 (x1).toNatClampNeg), .int 0] [.int x1, .ref 19] mu n)
    (k5 : ¬ 0 ≤ (mu 39 (x1).toNatClampNeg) → J l G X Q 4 36 [.ref 19, .int x1, .int (mu 41 (x1).toNatClampNeg), .int 1] [.int x1, .ref 19] mu n) :
    J l G X Q 4 0 [.ref 19, .int x1, .float 0, .float 0] [] mu n := by
  refine J_aload_n h dX5_nextByClusters_0 rfl rfl ?_
  refine J_getr (k := 4) h dX5_nextByClusters_1 jc5 rfl rfl (by decide) w310 ?_
  refine J_getrN (k := 2) h dX5_nextByClusters_4 jc0 rfl rfl (by decide) w278 ?_
  refine J_getrN (k := 2) h dX5_nextByClusters_7 jc6 rfl rfl (by decide) w257 ?_
  refine J_iload_n h dX5_nextByClusters_10 rfl rfl ?_
  refine J_iald h dX5_nextByClusters_11 rfl (s1) ?_
  refine J_istore_n h dX5_nextByClusters_12 rfl (by decide) rfl ?_
  show J l G X Q 4 13 [.ref 19, .int x1, .int (mu 41 (x1).toNatClampNeg), .float 0] [] mu n
  refine J_aload_n h dX5_nextByClusters_13 rfl rfl ?_
  refine J_getr (k := 4) h dX5_nextByClusters_14 jc5 rfl rfl (by decide) w310 ?_
  refine J_getrN (k := 2) h dX5_nextByClusters_17 jc0 rfl rfl (by decide) w278 ?_
  refine J_getrN (k := 0) h dX5_nextByClusters_20 jc6 rfl rfl (by decide) w252 ?_
  refine J_iload_n h dX5_nextByClusters_23 rfl rfl ?_
  refine J_iald h dX5_nextByClusters_24 rfl (s2) ?_
  refine J_if_ge (tgt := 32) h dX5_nextByClusters_25 (by decide) (fun q3 => ?_) (fun q3 => ?_)
  · skip
    refine J_iconst h dX5_nextByClusters_32 ci_0 ?_
    refine J_istore_n h dX5_nextByClusters_33 rfl (by decide) rfl ?_
    show J l G X Q 4 34 [.ref 19, .int x1, .int (mu 41 (x1).toNatClampNeg), .int 0] [] mu n
    refine J_aload_n h dX5_nextByClusters_34 rfl rfl ?_
    refine J_iload_n h dX5_nextByClusters_35 rfl rfl ?_
    exact k4 q3
  · skip
    refine J_iconst h dX5_nextByClusters_28 ci_1 ?_
    refine J_goto (tgt := 33) h dX5_nextByClusters_29 (by decide) ?_
    refine J_istore_n h dX5_nextByClusters_33 rfl (by decide) rfl ?_
    show J l G X Q 4 34 [.ref 19, .int x1, .int (mu 41 (x1).toNatClampNeg), .int 1] [] mu n
    refine J_aload_n h dX5_nextByClusters_34 rfl rfl ?_
    refine J_iload_n h dX5_nextByClusters_35 rfl rfl ?_
    exact k5 q3
theorem rX5_nextByClusters_36 {l : Launch} {G : jG} {X : jX} {Q : State → Prop} {n hg nc : Nat} {ret : Option FieldType} {mu : jM} {x1 : Int32} {x2 : Int32} {x3 : Int32} {y0 : Int32} {Qc : Int32 → jM → Prop} {h' : Nat} (h : jOk l G X cX5_nextByClusters 4 ret RX5 hg nc) (hM : jCi l G yX5_mayAnnounce cX5_mayAnnounce 2 h' (some .boolean) (.ref 19 :: [.int y0]) mu Qc) (hh : h' < hg ∧ 2 ≤ 21) (hn : n ≤ nc)
    (kk : ∀ v mu', Qc v mu' → J l G X Q 4 39 [.ref 19, .int x1, .int x2, .int x3] (.int v :: []) mu' n) :
    J l G X Q 4 36 [.ref 19, .int x1, .int x2, .int x3] [.int y0, .ref 19] mu n :=
  J_callVi (As := [.int y0]) (rest := []) h dX5_nextByClusters_36 hM (jgV w823 w825 w18 w80 w826) rfl (ci := 5) rfl rfl nmX5_mayAnnounce rfl hh (Nat.le_of_ble_eq_true rfl) rfl kk hn
theorem rX5_nextByClusters_39 {l : Launch} {G : jG} {X : jX} {Q : State → Prop} {n hg nc : Nat} {ret : Option FieldType} {mu : jM} {x1 : Int32} {x2 : Int32} {x3 : Int32} {y0 : Int32} (h : jOk l G X cX5_nextByClusters 4 ret RX5 hg nc)
    (k2 : y0 = 0 → J l G X Q 4 62 [.ref 19, .int x1, .int x2, .int x3] [] mu n)
    (k3 : ¬ y0 = 0 → J l G X Q 4 45 [.ref 19, .int x1, .int x2, .int x3] [.int 3, .int x1, .ref 19] mu n) :
    J l G X Q 4 39 [.ref 19, .int x1, .int x2, .int x3] [.int y0] mu n := by
  refine J_if_eq (tgt := 62) h dX5_nextByClusters_39 (by decide) (fun q1 => ?_) (fun q1 => ?_)
  · skip
    exact k2 q1
  · skip
    refine J_aload_n h dX5_nextByClusters_42 rfl rfl ?_
    refine J_iload_n h dX5_nextByClusters_43 rfl rfl ?_
    refine J_iconst h dX5_nextByClusters_44 ci_3 ?_
    exact k3 q1
theorem rX5_nextByClusters_62 {l : Launch} {G : jG} {X : jX} {Q : State → Prop} {n hg nc : Nat} {ret : Option FieldType} {mu : jM} {x1 : Int32} {x2 : Int32} {x3 : Int32} (h : jOk l G X cX5_nextByClusters 4 ret RX5 hg nc)
    (k1 : J l G X Q 4 67 [.ref 19, .int x1, .int x2, .int x3] [.int x1, .int (mu 19 9)] mu n) :
    J l G X Q 4 62 [.ref 19, .int x1, .int x2, .int x3] [] mu n := by
  refine J_aload_n h dX5_nextByClusters_62 rfl rfl ?_
  refine J_geti (k := 9) h dX5_nextByClusters_63 jc5 rfl rfl (by decide) w317 ?_
  refine J_iload_n h dX5_nextByClusters_66 rfl rfl ?_
  exact k1
theorem rX5_nextByClusters_45 {l : Launch} {G : jG} {X : jX} {Q : State → Prop} {n hg nc : Nat} {ret : Option FieldType} {mu : jM} {x1 : Int32} {x2 : Int32} {x3 : Int32} {y0 : Int32} {y1 : Int32} {Qc : Int32 → jM → Prop} {h' : Nat} (h : jOk l G X cX5_nextByClusters 4 ret RX5 hg nc) (hM : jCi l G yX5_heardBy cX5_heardBy 3 h' (some .int) (.ref 19 :: [.int y1, .int y0]) mu Qc) (hh : h' < hg ∧ 3 ≤ 21) (hn : n ≤ nc)
    (kk : ∀ v mu', Qc v mu' → J l G X Q 4 48 [.ref 19, .int x1, .int x2, .int x3] (.int v :: []) mu' n) :
    J l G X Q 4 45 [.ref 19, .int x1, .int x2, .int x3] [.int y0, .int y1, .ref 19] mu n :=
  J_callVi (As := [.int y1, .int y0]) (rest := []) h dX5_nextByClusters_45 hM (jgV w830 w832 w19 w80 w833) rfl (ci := 5) rfl rfl nmX5_heardBy rfl hh (Nat.le_of_ble_eq_true rfl) rfl kk hn
theorem rX5_nextByClusters_67 {l : Launch} {G : jG} {X : jX} {Q : State → Prop} {n hg nc : Nat} {ret : Option FieldType} {mu : jM} {x1 : Int32} {x2 : Int32} {x3 : Int32} {y0 : Int32} {y1 : Int32} {Qc : Int32 → jM → Prop} {h' : Nat} (h : jOk l G X cX5_nextByClusters 4 ret RX5 hg nc) (hM : jCi l G yX5_isIn cX5_isIn 2 h' (some .boolean) [.int y1, .int y0] mu Qc) (hh : h' < hg ∧ 2 ≤ 21) (hn : n ≤ nc)
    (kk : ∀ v mu', Qc v mu' → J l G X Q 4 70 [.ref 19, .int x1, .int x2, .int x3] (.int v :: []) mu' n) :
    J l G X Q 4 67 [.ref 19, .int x1, .int x2, .int x3] [.int y0, .int y1] mu n :=
  J_callSi (As := [.int y1, .int y0]) (rest := []) h dX5_nextByClusters_67 hM (jgS w827 w828 w80 w829) nmX5_isIn rfl hh (Nat.le_of_ble_eq_true rfl) rfl kk hn
theorem rX5_nextByClusters_48 {l : Launch} {G : jG} {X : jX} {Q : State → Prop} {n hg nc : Nat} {ret : Option FieldType} {mu : jM} {x1 : Int32} {x2 : Int32} {x3 : Int32} {y0 : Int32} (h : jOk l G X cX5_nextByClusters 4 ret RX5 hg nc)
    (k2 : ¬ y0 = x2 → J l G X Q 4 62 [.ref 19, .int x1, .int x2, .int x3] [] mu n)
    (k4 : y0 = x2 → x3 = 0 → J l G X Q 4 61 [.ref 19, .int x1, .int x2, .int x3] [.int 2] mu n)
    (k5 : y0 = x2 → ¬ x3 = 0 → J l G X Q 4 61 [.ref 19, .int x1, .int x2, .int x3] [.int 3] mu n) :
    J l G X Q 4 48 [.ref 19, .int x1, .int x2, .int x3] [.int y0] mu n := by
  refine J_iload_n h dX5_nextByClusters_48 rfl rfl ?_
  refine J_icmp_ne (tgt := 62) h dX5_nextByClusters_49 (by decide) (fun q1 => ?_) (fun q1 => ?_)
  · skip
    exact k2 q1
  · skip
    refine J_iload_n h dX5_nextByClusters_52 rfl rfl ?_
    refine J_if_eq (tgt := 60) h dX5_nextByClusters_53 (by decide) (fun q3 => ?_) (fun q3 => ?_)
    · skip
      refine J_iconst h dX5_nextByClusters_60 ci_2 ?_
      exact k4 q1 q3
    · skip
      refine J_iconst h dX5_nextByClusters_56 ci_3 ?_
      refine J_goto (tgt := 61) h dX5_nextByClusters_57 (by decide) ?_
      exact k5 q1 q3
theorem rX5_nextByClusters_70 {l : Launch} {G : jG} {X : jX} {Q : State → Prop} {n hg nc : Nat} {ret : Option FieldType} {mu : jM} {x1 : Int32} {x2 : Int32} {x3 : Int32} {y0 : Int32} (h : jOk l G X cX5_nextByClusters 4 ret RX5 hg nc)
    (k2 : ¬ y0 = 0 → J l G X Q 4 93 [.ref 19, .int x1, .int x2, .int x3] [.int x1, .int (mu 19 10)] mu n)
    (k3 : y0 = 0 → J l G X Q 4 76 [.ref 19, .int x1, .int x2, .int x3] [.int 5, .int x1, .ref 19] mu n) :
    J l G X Q 4 70 [.ref 19, .int x1, .int x2, .int x3] [.int y0] mu n := by
  refine J_if_ne (tgt := 88) h dX5_nextByClusters_70 (by decide) (fun q1 => ?_) (fun q1 => ?_)
  · skip
    refine J_aload_n h dX5_nextByClusters_88 rfl rfl ?_
    refine J_geti (k := 10) h dX5_nextByClusters_89 jc5 rfl rfl (by decide) w318 ?_
    refine J_iload_n h dX5_nextByClusters_92 rfl rfl ?_
    exact k2 q1
  · skip
    refine J_aload_n h dX5_nextByClusters_73 rfl rfl ?_
    refine J_iload_n h dX5_nextByClusters_74 rfl rfl ?_
    refine J_iconst h dX5_nextByClusters_75 ci_5 ?_
    exact k3 q1
theorem rX5_nextByClusters_93 {l : Launch} {G : jG} {X : jX} {Q : State → Prop} {n hg nc : Nat} {ret : Option FieldType} {mu : jM} {x1 : Int32} {x2 : Int32} {x3 : Int32} {y0 : Int32} {y1 : Int32} {Qc : Int32 → jM → Prop} {h' : Nat} (h : jOk l G X cX5_nextByClusters 4 ret RX5 hg nc) (hM : jCi l G yX5_isIn cX5_isIn 2 h' (some .boolean) [.int y1, .int y0] mu Qc) (hh : h' < hg ∧ 2 ≤ 21) (hn : n ≤ nc)
    (kk : ∀ v mu', Qc v mu' → J l G X Q 4 96 [.ref 19, .int x1, .int x2, .int x3] (.int v :: []) mu' n) :
    J l G X Q 4 93 [.ref 19, .int x1, .int x2, .int x3] [.int y0, .int y1] mu n :=
  J_callSi (As := [.int y1, .int y0]) (rest := []) h dX5_nextByClusters_93 hM (jgS w827 w828 w80 w829) nmX5_isIn rfl hh (Nat.le_of_ble_eq_true rfl) rfl kk hn
theorem rX5_nextByClusters_76 {l : Launch} {G : jG} {X : jX} {Q : State → Prop} {n hg nc : Nat} {ret : Option FieldType} {mu : jM} {x1 : Int32} {x2 : Int32} {x3 : Int32} {y0 : Int32} {y1 : Int32} {Qc : Int32 → jM → Prop} {h' : Nat} (h : jOk l G X cX5_nextByClusters 4 ret RX5 hg nc) (hM : jCi l G yX5_heardBy cX5_heardBy 3 h' (some .int) (.ref 19 :: [.int y1, .int y0]) mu Qc) (hh : h' < hg ∧ 3 ≤ 21) (hn : n ≤ nc)
    (kk : ∀ v mu', Qc v mu' → J l G X Q 4 79 [.ref 19, .int x1, .int x2, .int x3] (.int v :: []) mu' n) :
    J l G X Q 4 76 [.ref 19, .int x1, .int x2, .int x3] [.int y0, .int y1, .ref 19] mu n :=
  J_callVi (As := [.int y1, .int y0]) (rest := []) h dX5_nextByClusters_76 hM (jgV w830 w832 w19 w80 w833) rfl (ci := 5) rfl rfl nmX5_heardBy rfl hh (Nat.le_of_ble_eq_true rfl) rfl kk hn
theorem rX5_nextByClusters_96 {l : Launch} {G : jG} {X : jX} {Q : State → Prop} {n hg nc : Nat} {ret : Option FieldType} {mu : jM} {x1 : Int32} {x2 : Int32} {x3 : Int32} {y0 : Int32} (h : jOk l G X cX5_nextByClusters 4 ret RX5 hg nc)
    (k2 : ¬ y0 = 0 → J l G X Q 4 139 [.ref 19, .int x1, .int x2, .int x3] [] mu n)
    (k3 : y0 = 0 → J l G X Q 4 103 [.ref 19, .int x1, .int x2, .int x3] [.int 7, .int x1, .ref 19] mu n) :
    J l G X Q 4 96 [.ref 19, .int x1, .int x2, .int x3] [.int y0] mu n := by
  refine J_if_ne (tgt := 139) h dX5_nextByClusters_96 (by decide) (fun q1 => ?_) (fun q1 => ?_)
  · skip
    exact k2 q1
  · skip
    refine J_aload_n h dX5_nextByClusters_99 rfl rfl ?_
    refine J_iload_n h dX5_nextByClusters_100 rfl rfl ?_
    refine J_bipush h dX5_nextByClusters_101 cb_7 ?_
    exact k3 q1
theorem rX5_nextByClusters_79 {l : Launch} {G : jG} {X : jX} {Q : State → Prop} {n hg nc : Nat} {ret : Option FieldType} {mu : jM} {x1 : Int32} {x2 : Int32} {x3 : Int32} {y0 : Int32} (h : jOk l G X cX5_nextByClusters 4 ret RX5 hg nc)
    (k2 : y0 = 0 → J l G X Q 4 87 [.ref 19, .int x1, .int x2, .int x3] [.int 0] mu n)
    (k3 : ¬ y0 = 0 → J l G X Q 4 87 [.ref 19, .int x1, .int x2, .int x3] [.int 3] mu n) :
    J l G X Q 4 79 [.ref 19, .int x1, .int x2, .int x3] [.int y0] mu n := by
  refine J_if_eq (tgt := 86) h dX5_nextByClusters_79 (by decide) (fun q1 => ?_) (fun q1 => ?_)
  · skip
    refine J_iconst h dX5_nextByClusters_86 ci_0 ?_
    exact k2 q1
  · skip
    refine J_iconst h dX5_nextByClusters_82 ci_3 ?_
    refine J_goto (tgt := 87) h dX5_nextByClusters_83 (by decide) ?_
    exact k3 q1
theorem rX5_nextByClusters_139 {l : Launch} {G : jG} {X : jX} {Q : State → Prop} {n hg nc : Nat} {ret : Option FieldType} {mu : jM} {x1 : Int32} {x2 : Int32} {x3 : Int32} (h : jOk l G X cX5_nextByClusters 4 ret RX5 hg nc)
    (k1 : J l G X Q 4 142 [.ref 19, .int x1, .int x2, .int x3] [.int 4, .int x1, .ref 19] mu n) :
    J l G X Q 4 139 [.ref 19, .int x1, .int x2, .int x3] [] mu n := by
  refine J_aload_n h dX5_nextByClusters_139 rfl rfl ?_
  refine J_iload_n h dX5_nextByClusters_140 rfl rfl ?_
  refine J_iconst h dX5_nextByClusters_141 ci_4 ?_
  exact k1
theorem rX5_nextByClusters_103 {l : Launch} {G : jG} {X : jX} {Q : State → Prop} {n hg nc : Nat} {ret : Option FieldType} {mu : jM} {x1 : Int32} {x2 : Int32} {x3 : Int32} {y0 : Int32} {y1 : Int32} {Qc : Int32 → jM → Prop} {h' : Nat} (h : jOk l G X cX5_nextByClusters 4 ret RX5 hg nc) (hM : jCi l G yX5_heardBy cX5_heardBy 3 h' (some .int) (.ref 19 :: [.int y1, .int y0]) mu Qc) (hh : h' < hg ∧ 3 ≤ 21) (hn : n ≤ nc)
    (kk : ∀ v mu', Qc v mu' → J l G X Q 4 106 [.ref 19, .int x1, .int x2, .int x3] (.int v :: []) mu' n) :
    J l G X Q 4 103 [.ref 19, .int x1, .int x2, .int x3] [.int y0, .int y1, .ref 19] mu n :=
  J_callVi (As := [.int y1, .int y0]) (rest := []) h dX5_nextByClusters_103 hM (jgV w830 w832 w19 w80 w833) rfl (ci := 5) rfl rfl nmX5_heardBy rfl hh (Nat.le_of_ble_eq_true rfl) rfl kk hn
theorem rX5_nextByClusters_142 {l : Launch} {G : jG} {X : jX} {Q : State → Prop} {n hg nc : Nat} {ret : Option FieldType} {mu : jM} {x1 : Int32} {x2 : Int32} {x3 : Int32} {y0 : Int32} {y1 : Int32} {Qc : Int32 → jM → Prop} {h' : Nat} (h : jOk l G X cX5_nextByClusters 4 ret RX5 hg nc) (hM : jCi l G yX5_heardBy cX5_heardBy 3 h' (some .int) (.ref 19 :: [.int y1, .int y0]) mu Qc) (hh : h' < hg ∧ 3 ≤ 21) (hn : n ≤ nc)
    (kk : ∀ v mu', Qc v mu' → J l G X Q 4 145 [.ref 19, .int x1, .int x2, .int x3] (.int v :: []) mu' n) :
    J l G X Q 4 142 [.ref 19, .int x1, .int x2, .int x3] [.int y0, .int y1, .ref 19] mu n :=
  J_callVi (As := [.int y1, .int y0]) (rest := []) h dX5_nextByClusters_142 hM (jgV w830 w832 w19 w80 w833) rfl (ci := 5) rfl rfl nmX5_heardBy rfl hh (Nat.le_of_ble_eq_true rfl) rfl kk hn
theorem rX5_nextByClusters_106 {l : Launch} {G : jG} {X : jX} {Q : State → Prop} {n hg nc : Nat} {ret : Option FieldType} {mu : jM} {x1 : Int32} {x2 : Int32} {x3 : Int32} {y0 : Int32} (h : jOk l G X cX5_nextByClusters 4 ret RX5 hg nc)
    (k2 : ¬ y0 = x2 → J l G X Q 4 139 [.ref 19, .int x1, .int x2, .int x3] [] mu n)
    (k3 : y0 = x2 → J l G X Q 4 114 [.ref 19, .int x1, .int x2, .int x3] [.int 6, .int x1, .ref 19] mu n) :
    J l G X Q 4 106 [.ref 19, .int x1, .int x2, .int x3] [.int y0] mu n := by
  refine J_iload_n h dX5_nextByClusters_106 rfl rfl ?_
  refine J_icmp_ne (tgt := 139) h dX5_nextByClusters_107 (by decide) (fun q1 => ?_) (fun q1 => ?_)
  · skip
    exact k2 q1
  · skip
    refine J_aload_n h dX5_nextByClusters_110 rfl rfl ?_
    refine J_iload_n h dX5_nextByClusters_111 rfl rfl ?_
    refine J_bipush h dX5_nextByClusters_112 cb_6 ?_
    exact k3 q1
theorem rX5_nextByClusters_145 {l : Launch} {G : jG} {X : jX} {Q : State → Prop} {n hg nc : Nat} {ret : Option FieldType} {mu : jM} {x1 : Int32} {x2 : Int32} {x3 : Int32} {y0 : Int32} (h : jOk l G X cX5_nextByClusters 4 ret RX5 hg nc)
    (k2 : y0 = 0 → J l G X Q 4 153 [.ref 19, .int x1, .int x2, .int x3] [.int 0] mu n)
    (k3 : ¬ y0 = 0 → J l G X Q 4 153 [.ref 19, .int x1, .int x2, .int x3] [.int 5] mu n) :
    J l G X Q 4 145 [.ref 19, .int x1, .int x2, .int x3] [.int y0] mu n := by
  refine J_if_eq (tgt := 152) h dX5_nextByClusters_145 (by decide) (fun q1 => ?_) (fun q1 => ?_)
  · skip
    refine J_iconst h dX5_nextByClusters_152 ci_0 ?_
    exact k2 q1
  · skip
    refine J_iconst h dX5_nextByClusters_148 ci_5 ?_
    refine J_goto (tgt := 153) h dX5_nextByClusters_149 (by decide) ?_
    exact k3 q1
theorem rX5_nextByClusters_114 {l : Launch} {G : jG} {X : jX} {Q : State → Prop} {n hg nc : Nat} {ret : Option FieldType} {mu : jM} {x1 : Int32} {x2 : Int32} {x3 : Int32} {y0 : Int32} {y1 : Int32} {Qc : Int32 → jM → Prop} {h' : Nat} (h : jOk l G X cX5_nextByClusters 4 ret RX5 hg nc) (hM : jCi l G yX5_heardBy cX5_heardBy 3 h' (some .int) (.ref 19 :: [.int y1, .int y0]) mu Qc) (hh : h' < hg ∧ 3 ≤ 21) (hn : n ≤ nc)
    (kk : ∀ v mu', Qc v mu' → J l G X Q 4 117 [.ref 19, .int x1, .int x2, .int x3] (.int v :: []) mu' n) :
    J l G X Q 4 114 [.ref 19, .int x1, .int x2, .int x3] [.int y0, .int y1, .ref 19] mu n :=
  J_callVi (As := [.int y1, .int y0]) (rest := []) h dX5_nextByClusters_114 hM (jgV w830 w832 w19 w80 w833) rfl (ci := 5) rfl rfl nmX5_heardBy rfl hh (Nat.le_of_ble_eq_true rfl) rfl kk hn
theorem rX5_nextByClusters_117 {l : Launch} {G : jG} {X : jX} {Q : State → Prop} {n hg nc : Nat} {ret : Option FieldType} {mu : jM} {x1 : Int32} {x2 : Int32} {x3 : Int32} {y0 : Int32} (h : jOk l G X cX5_nextByClusters 4 ret RX5 hg nc) (s1 : vp_in x1 24)
    (k3 : ¬ y0 = (mu 43 (x1).toNatClampNeg) → J l G X Q 4 139 [.ref 19, .int x1, .int x2, .int x3] [] mu n)
    (k5 : y0 = (mu 43 (x1).toNatClampNeg) → x3 = 0 → J l G X Q 4 138 [.ref 19, .int x1, .int x2, .int x3] [.int 4] mu n)
    (k6 : y0 = (mu 43 (x1).toNatClampNeg) → ¬ x3 = 0 → J l G X Q 4 138 [.ref 19, .int x1, .int x2, .int x3] [.int 5] mu n) :
    J l G X Q 4 117 [.ref 19, .int x1, .int x2, .int x3] [.int y0] mu n := by
  refine J_aload_n h dX5_nextByClusters_117 rfl rfl ?_
  refine J_getr (k := 4) h dX5_nextByClusters_118 jc5 rfl rfl (by decide) w310 ?_
  refine J_getrN (k := 4) h dX5_nextByClusters_121 jc0 rfl rfl (by decide) w283 ?_
  refine J_iload_n h dX5_nextByClusters_124 rfl rfl ?_
  refine J_iald h dX5_nextByClusters_125 rfl (s1) ?_
  refine J_icmp_ne (tgt := 139) h dX5_nextByClusters_126 (by decide) (fun q2 => ?_) (fun q2 => ?_)
  · skip
    exact k3 q2
  · skip
    refine J_iload_n h dX5_nextByClusters_129 rfl rfl ?_
    refine J_if_eq (tgt := 137) h dX5_nextByClusters_130 (by decide) (fun q4 => ?_) (fun q4 => ?_)
    · skip
      refine J_iconst h dX5_nextByClusters_137 ci_4 ?_
      exact k5 q2 q4
    · skip
      refine J_iconst h dX5_nextByClusters_133 ci_5 ?_
      refine J_goto (tgt := 138) h dX5_nextByClusters_134 (by decide) ?_
      exact k6 q2 q4
/-! LockstepNet$Run.mayAnnounce(I)Z -/
theorem rX5_mayAnnounce_0 {l : Launch} {G : jG} {X : jX} {Q : State → Prop} {n hg nc : Nat} {ret : Option FieldType} {mu : jM} {x1 : Int32} (h : jOk l G X cX5_mayAnnounce 2 ret RX5 hg nc)
    (k1 : J l G X Q 2 5 [.ref 19, .int x1] [.int x1, .int (mu 19 8)] mu n) :
    J l G X Q 2 0 [.ref 19, .int x1] [] mu n := by
  refine J_aload_n h dX5_mayAnnounce_0 rfl rfl ?_
  refine J_geti (k := 8) h dX5_mayAnnounce_1 jc5 rfl rfl (by decide) w316 ?_
  refine J_iload_n h dX5_mayAnnounce_4 rfl rfl ?_
  exact k1
theorem rX5_mayAnnounce_5 {l : Launch} {G : jG} {X : jX} {Q : State → Prop} {n hg nc : Nat} {ret : Option FieldType} {mu : jM} {x1 : Int32} {y0 : Int32} {y1 : Int32} {Qc : Int32 → jM → Prop} {h' : Nat} (h : jOk l G X cX5_mayAnnounce 2 ret RX5 hg nc) (hM : jCi l G yX5_isIn cX5_isIn 2 h' (some .boolean) [.int y1, .int y0] mu Qc) (hh : h' < hg ∧ 2 ≤ 21) (hn : n ≤ nc)
    (kk : ∀ v mu', Qc v mu' → J l G X Q 2 8 [.ref 19, .int x1] (.int v :: []) mu' n) :
    J l G X Q 2 5 [.ref 19, .int x1] [.int y0, .int y1] mu n :=
  J_callSi (As := [.int y1, .int y0]) (rest := []) h dX5_mayAnnounce_5 hM (jgS w827 w828 w80 w829) nmX5_isIn rfl hh (Nat.le_of_ble_eq_true rfl) rfl kk hn
theorem rX5_mayAnnounce_8 {l : Launch} {G : jG} {X : jX} {Q : State → Prop} {n hg nc : Nat} {ret : Option FieldType} {mu : jM} {x1 : Int32} {y0 : Int32} (h : jOk l G X cX5_mayAnnounce 2 ret RX5 hg nc) (s3 : y0 = 0 → vp_in x1 24) (s6 : y0 = 0 → (mu 46 (x1).toNatClampNeg) = 0 → vp_in x1 24)
    (k2 : ¬ y0 = 0 → J l G X Q 2 37 [.ref 19, .int x1] [] mu n)
    (k5 : y0 = 0 → ¬ (mu 46 (x1).toNatClampNeg) = 0 → J l G X Q 2 37 [.ref 19, .int x1] [] mu n)
    (k8 : y0 = 0 → (mu 46 (x1).toNatClampNeg) = 0 → (mu 19 11) ≤ (mu 45 (x1).toNatClampNeg) → J l G X Q 2 37 [.ref 19, .int x1] [] mu n)
    (k9 : y0 = 0 → (mu 46 (x1).toNatClampNeg) = 0 → ¬ (mu 19 11) ≤ (mu 45 (x1).toNatClampNeg) → J l G X Q 2 38 [.ref 19, .int x1] [.int 1] mu n) :
    J l G X Q 2 8 [.ref 19, .int x1] [.int y0] mu n := by
  refine J_if_ne (tgt := 37) h dX5_mayAnnounce_8 (by decide) (fun q1 => ?_) (fun q1 => ?_)
  · skip
    exact k2 q1
  · skip
    refine J_aload_n h dX5_mayAnnounce_11 rfl rfl ?_
    refine J_getr (k := 6) h dX5_mayAnnounce_12 jc5 rfl rfl (by decide) w314 ?_
    refine J_iload_n h dX5_mayAnnounce_15 rfl rfl ?_
    refine J_iald h dX5_mayAnnounce_16 rfl (s3 q1) ?_
    refine J_if_ne (tgt := 37) h dX5_mayAnnounce_17 (by decide) (fun q4 => ?_) (fun q4 => ?_)
    · skip
      exact k5 q1 q4
    · skip
      refine J_aload_n h dX5_mayAnnounce_20 rfl rfl ?_
      refine J_getr (k := 5) h dX5_mayAnnounce_21 jc5 rfl rfl (by decide) w312 ?_
      refine J_iload_n h dX5_mayAnnounce_24 rfl rfl ?_
      refine J_iald h dX5_mayAnnounce_25 rfl (s6 q1 q4) ?_
      refine J_aload_n h dX5_mayAnnounce_26 rfl rfl ?_
      refine J_geti (k := 11) h dX5_mayAnnounce_27 jc5 rfl rfl (by decide) w319 ?_
      refine J_icmp_ge (tgt := 37) h dX5_mayAnnounce_30 (by decide) (fun q7 => ?_) (fun q7 => ?_)
      · skip
        exact k8 q1 q4 q7
      · skip
        refine J_iconst h dX5_mayAnnounce_33 ci_1 ?_
        refine J_goto (tgt := 38) h dX5_mayAnnounce_34 (by decide) ?_
        exact k9 q1 q4 q7
theorem rX5_mayAnnounce_37 {l : Launch} {G : jG} {X : jX} {Q : State → Prop} {n hg nc : Nat} {ret : Option FieldType} {mu : jM} {x1 : Int32} (h : jOk l G X cX5_mayAnnounce 2 ret RX5 hg nc)
    (k1 : J l G X Q 2 38 [.ref 19, .int x1] [.int 0] mu n) :
    J l G X Q 2 37 [.ref 19, .int x1] [] mu n := by
  refine J_iconst h dX5_mayAnnounce_37 ci_0 ?_
  exact k1
/-! LockstepNet$Run.heardBy(II)I -/
theorem rX5_heardBy_0 {l : Launch} {G : jG} {X : jX} {Q : State → Prop} {n hg nc : Nat} {ret : Option FieldType} {mu : jM} {x1 : Int32} {x2 : Int32} {r1 : Nat} (h : jOk l G X cX5_heardBy 3 ret RX5 hg nc) (s2 : vp_in x2 8) (s3 : [48, 49, 50, 51, 52, 53, 54, 55][(x2).toNatClampNeg]? = some r1) (h_r1 : jShp[r1]? = some (.inr (0, 48, fun _ => none))) (s4 : vp_in x1 24)
    (k5 : J l G X Q 3 13 [.ref 19, .int x1, .int x2] [.int (mu 45 (x1).toNatClampNeg), .int x1, .ref r1] mu n) :
    J l G X Q 3 0 [.ref 19, .int x1, .int x2] [] mu n := by
  refine J_aload_n h dX5_heardBy_0 rfl rfl ?_
  refine J_getr (k := 7) h dX5_heardBy_1 jc5 rfl rfl (by decide) w315 ?_
  refine J_iload_n h dX5_heardBy_4 rfl rfl ?_
  refine J_aald h dX5_heardBy_5 rfl (s2) (s3) ?_
  refine J_iload_n h dX5_heardBy_6 rfl rfl ?_
  refine J_aload_n h dX5_heardBy_7 rfl rfl ?_
  refine J_getr (k := 5) h dX5_heardBy_8 jc5 rfl rfl (by decide) w312 ?_
  refine J_iload_n h dX5_heardBy_11 rfl rfl ?_
  refine J_iald h dX5_heardBy_12 rfl (s4) ?_
  exact k5
theorem rX5_heardBy_13 {l : Launch} {G : jG} {X : jX} {Q : State → Prop} {n hg nc : Nat} {ret : Option FieldType} {mu : jM} {x1 : Int32} {x2 : Int32} {y0 : Int32} {y1 : Int32} {r1 : Nat} {Qc : Int32 → jM → Prop} {h' : Nat} (h : jOk l G X cX5_heardBy 3 ret RX5 hg nc) (h_r1 : jShp[r1]? = some (.inr (0, 48, fun _ => none))) (hM : jCi l G yX5_boxOf cX5_boxOf 2 h' (some .int) [.int y1, .int y0] mu Qc) (hh : h' < hg ∧ 2 ≤ 21) (hn : n ≤ nc)
    (kk : ∀ v mu', Qc v mu' → J l G X Q 3 16 [.ref 19, .int x1, .int x2] (.int v :: [.ref r1]) mu' n) :
    J l G X Q 3 13 [.ref 19, .int x1, .int x2] [.int y0, .int y1, .ref r1] mu n :=
  J_callSi (As := [.int y1, .int y0]) (rest := [.ref r1]) h dX5_heardBy_13 hM (jgS w834 w835 w80 w836) nmX5_boxOf rfl hh (Nat.le_of_ble_eq_true rfl) rfl kk hn
theorem rX5_heardBy_16 {l : Launch} {G : jG} {X : jX} {Q : State → Prop} {n hg nc : Nat} {ret : Option FieldType} {mu : jM} {x1 : Int32} {x2 : Int32} {y0 : Int32} {r1 : Nat} (h : jOk l G X cX5_heardBy 3 ret RX5 hg nc) (h_r1 : jShp[r1]? = some (.inr (0, 48, fun _ => none))) (s1 : vp_in y0 48)
    (k2 : J l G X Q 3 17 [.ref 19, .int x1, .int x2] [.int (mu r1 (y0).toNatClampNeg)] mu n) :
    J l G X Q 3 16 [.ref 19, .int x1, .int x2] [.int y0, .ref r1] mu n := by
  refine J_iald h dX5_heardBy_16 h_r1 (s1) ?_
  exact k2
/-! LockstepNet$Run.isIn(II)Z -/
theorem rX5_isIn_0 {l : Launch} {G : jG} {X : jX} {Q : State → Prop} {n hg nc : Nat} {ret : Option FieldType} {mu : jM} {x0 : Int32} {x1 : Int32} (h : jOk l G X cX5_isIn 2 ret RX5 hg nc)
    (k2 : ((x0 >>> (x1 &&& 31)) &&& 1) = 0 → J l G X Q 2 13 [.int x0, .int x1] [.int 0] mu n)
    (k3 : ¬ ((x0 >>> (x1 &&& 31)) &&& 1) = 0 → J l G X Q 2 13 [.int x0, .int x1] [.int 1] mu n) :
    J l G X Q 2 0 [.int x0, .int x1] [] mu n := by
  refine J_iload_n h dX5_isIn_0 rfl rfl ?_
  refine J_iload_n h dX5_isIn_1 rfl rfl ?_
  refine J_ishr h dX5_isIn_2 ?_
  refine J_iconst h dX5_isIn_3 ci_1 ?_
  refine J_iand h dX5_isIn_4 ?_
  refine J_if_eq (tgt := 12) h dX5_isIn_5 (by decide) (fun q1 => ?_) (fun q1 => ?_)
  · skip
    refine J_iconst h dX5_isIn_12 ci_0 ?_
    exact k2 q1
  · skip
    refine J_iconst h dX5_isIn_8 ci_1 ?_
    refine J_goto (tgt := 13) h dX5_isIn_9 (by decide) ?_
    exact k3 q1
/-! LockstepNet$Run.sendByPorts(III)V -/
theorem rX5_sendByPorts_0 {l : Launch} {G : jG} {X : jX} {Q : State → Prop} {n hg nc : Nat} {ret : Option FieldType} {mu : jM} {x1 : Int32} {x2 : Int32} {x3 : Int32} (h : jOk l G X cX5_sendByPorts 6 ret RX5 hg nc)
    (k1 : J l G X Q 6 3 [.ref 19, .int x1, .int x2, .int x3, .int 0, .float 0] [] mu n) :
    J l G X Q 6 0 [.ref 19, .int x1, .int x2, .int x3, .float 0, .float 0] [] mu n := by
  refine J_iconst h dX5_sendByPorts_0 ci_0 ?_
  refine J_istore h dX5_sendByPorts_1 (by decide) rfl ?_
  show J l G X Q 6 3 [.ref 19, .int x1, .int x2, .int x3, .int 0, .float 0] [] mu n
  exact k1
theorem rX5_sendByPorts_3 {l : Launch} {G : jG} {X : jX} {Q : State → Prop} {n hg nc : Nat} {ret : Option FieldType} {mu : jM} {x1 : Int32} {x2 : Int32} {x3 : Int32} {x4 : Int32} (h : jOk l G X cX5_sendByPorts 6 ret RX5 hg nc) (s1 : vp_in x2 24) (s4 : ¬ (mu 9 (x2).toNatClampNeg) ≤ x4 → vp_in ((x2 * 24) + x4) 576)
    (k3 : (mu 9 (x2).toNatClampNeg) ≤ x4 → J l G X Q 6 67 [.ref 19, .int x1, .int x2, .int x3, .int x4, .float 0] [] mu n)
    (k5 : ¬ (mu 9 (x2).toNatClampNeg) ≤ x4 → J l G X Q 6 37 [.ref 19, .int x1, .int x2, .int x3, .int x4, .int (mu 11 (((x2 * 24) + x4)).toNatClampNeg)] [.int (mu 11 (((x2 * 24) + x4)).toNatClampNeg), .int x3] mu n) :
    J l G X Q 6 3 [.ref 19, .int x1, .int x2, .int x3, .int x4, .float 0] [] mu n := by
  refine J_iload h dX5_sendByPorts_3 rfl ?_
  refine J_aload_n h dX5_sendByPorts_5 rfl rfl ?_
  refine J_getr (k := 0) h dX5_sendByPorts_6 jc5 rfl rfl (by decide) w303 ?_
  refine J_getrN (k := 4) h dX5_sendByPorts_9 jc2 rfl rfl (by decide) w154 ?_
  refine J_iload_n h dX5_sendByPorts_12 rfl rfl ?_
  refine J_iald h dX5_sendByPorts_13 rfl (s1) ?_
  refine J_icmp_ge (tgt := 67) h dX5_sendByPorts_14 (by decide) (fun q2 => ?_) (fun q2 => ?_)
  · skip
    exact k3 q2
  · skip
    refine J_aload_n h dX5_sendByPorts_17 rfl rfl ?_
    refine J_getr (k := 0) h dX5_sendByPorts_18 jc5 rfl rfl (by decide) w303 ?_
    refine J_getrN (k := 6) h dX5_sendByPorts_21 jc2 rfl rfl (by decide) w160 ?_
    refine J_iload_n h dX5_sendByPorts_24 rfl rfl ?_
    refine J_bipush h dX5_sendByPorts_25 cb_24 ?_
    refine J_imul h dX5_sendByPorts_27 ?_
    refine J_iload h dX5_sendByPorts_28 rfl ?_
    refine J_iadd h dX5_sendByPorts_30 ?_
    refine J_iald h dX5_sendByPorts_31 rfl (s4 q2) ?_
    refine J_istore h dX5_sendByPorts_32 (by decide) rfl ?_
    show J l G X Q 6 34 [.ref 19, .int x1, .int x2, .int x3, .int x4, .int (mu 11 (((x2 * 24) + x4)).toNatClampNeg)] [] mu n
    refine J_iload_n h dX5_sendByPorts_34 rfl rfl ?_
    refine J_iload h dX5_sendByPorts_35 rfl ?_
    exact k5 q2
theorem rX5_sendByPorts_37 {l : Launch} {G : jG} {X : jX} {Q : State → Prop} {n hg nc : Nat} {ret : Option FieldType} {mu : jM} {x1 : Int32} {x2 : Int32} {x3 : Int32} {x4 : Int32} {x5 : Int32} {y0 : Int32} {y1 : Int32} {Qc : Int32 → jM → Prop} {h' : Nat} (h : jOk l G X cX5_sendByPorts 6 ret RX5 hg nc) (hM : jCi l G yX5_isIn cX5_isIn 2 h' (some .boolean) [.int y1, .int y0] mu Qc) (hh : h' < hg ∧ 2 ≤ 21) (hn : n ≤ nc)
    (kk : ∀ v mu', Qc v mu' → J l G X Q 6 40 [.ref 19, .int x1, .int x2, .int x3, .int x4, .int x5] (.int v :: []) mu' n) :
    J l G X Q 6 37 [.ref 19, .int x1, .int x2, .int x3, .int x4, .int x5] [.int y0, .int y1] mu n :=
  J_callSi (As := [.int y1, .int y0]) (rest := []) h dX5_sendByPorts_37 hM (jgS w827 w828 w80 w829) nmX5_isIn rfl hh (Nat.le_of_ble_eq_true rfl) rfl kk hn
theorem rX5_sendByPorts_40 {l : Launch} {G : jG} {X : jX} {Q : State → Prop} {n hg nc : Nat} {ret : Option FieldType} {mu : jM} {x1 : Int32} {x2 : Int32} {x3 : Int32} {x4 : Int32} {x5 : Int32} {y0 : Int32} (h : jOk l G X cX5_sendByPorts 6 ret RX5 hg nc) (s3 : ¬ y0 = 0 → vp_in x2 24)
    (k2 : y0 = 0 → J l G X Q 6 61 [.ref 19, .int x1, .int x2, .int x3, .int x4, .int x5] [] mu n)
    (k4 : ¬ y0 = 0 → J l G X Q 6 58 [.ref 19, .int x1, .int x2, .int x3, .int x4, .int x5] [.int 0, .int (mu 45 (x2).toNatClampNeg), .int x5, .int x2, .int x1, .ref 25] mu n) :
    J l G X Q 6 40 [.ref 19, .int x1, .int x2, .int x3, .int x4, .int x5] [.int y0] mu n := by
  refine J_if_eq (tgt := 61) h dX5_sendByPorts_40 (by decide) (fun q1 => ?_) (fun q1 => ?_)
  · skip
    exact k2 q1
  · skip
    refine J_aload_n h dX5_sendByPorts_43 rfl rfl ?_
    refine J_getr (k := 2) h dX5_sendByPorts_44 jc5 rfl rfl (by decide) w306 ?_
    refine J_iload_n h dX5_sendByPorts_47 rfl rfl ?_
    refine J_iload_n h dX5_sendByPorts_48 rfl rfl ?_
    refine J_iload h dX5_sendByPorts_49 rfl ?_
    refine J_aload_n h dX5_sendByPorts_51 rfl rfl ?_
    refine J_getr (k := 5) h dX5_sendByPorts_52 jc5 rfl rfl (by decide) w312 ?_
    refine J_iload_n h dX5_sendByPorts_55 rfl rfl ?_
    refine J_iald h dX5_sendByPorts_56 rfl (s3 q1) ?_
    refine J_iconst h dX5_sendByPorts_57 ci_0 ?_
    exact k4 q1
theorem rX5_sendByPorts_61 {l : Launch} {G : jG} {X : jX} {Q : State → Prop} {n hg nc : Nat} {ret : Option FieldType} {mu : jM} {x1 : Int32} {x2 : Int32} {x3 : Int32} {x4 : Int32} {x5 : Int32} (h : jOk l G X cX5_sendByPorts 6 ret RX5 hg nc)
    (k1 : J l G X Q 6 3 [.ref 19, .int x1, .int x2, .int x3, .int (x4 + 1), .int x5] [] mu n) :
    J l G X Q 6 61 [.ref 19, .int x1, .int x2, .int x3, .int x4, .int x5] [] mu n := by
  refine J_iinc h dX5_sendByPorts_61 rfl (cc_1 _) (by decide) rfl ?_
  show J l G X Q 6 64 [.ref 19, .int x1, .int x2, .int x3, .int (x4 + 1), .int x5] [] mu n
  refine J_goto (tgt := 3) h dX5_sendByPorts_64 (by decide) ?_
  exact k1
theorem rX5_sendByPorts_58 {l : Launch} {G : jG} {X : jX} {Q : State → Prop} {n hg nc : Nat} {ret : Option FieldType} {mu : jM} {x1 : Int32} {x2 : Int32} {x3 : Int32} {x4 : Int32} {x5 : Int32} {y0 : Int32} {y1 : Int32} {y2 : Int32} {y3 : Int32} {y4 : Int32} {Qc : jM → Prop} {h' : Nat} (h : jOk l G X cX5_sendByPorts 6 ret RX5 hg nc) (hM : jCv l G yX3_send cX3_send 6 h' (.ref 25 :: [.int y4, .int y3, .int y2, .int y1, .int y0]) mu Qc) (hh : h' < hg ∧ 6 ≤ 21) (hn : n ≤ nc)
    (kk : ∀ mu', Qc mu' → J l G X Q 6 61 [.ref 19, .int x1, .int x2, .int x3, .int x4, .int x5] [] mu' n) :
    J l G X Q 6 58 [.ref 19, .int x1, .int x2, .int x3, .int x4, .int x5] [.int y0, .int y1, .int y2, .int y3, .int y4, .ref 25] mu n :=
  J_callV (As := [.int y4, .int y3, .int y2, .int y1, .int y0]) (rest := []) h dX5_sendByPorts_58 hM (jgV w853 w854 w855 w81 w856) rfl (ci := 3) rfl rfl nmX3_send rfl hh (Nat.le_of_ble_eq_true rfl) rfl kk hn
theorem rX5_sendByPorts_3b {l : Launch} {G : jG} {X : jX} {Q : State → Prop} {n hg nc : Nat} {ret : Option FieldType} {mu : jM} {x1 : Int32} {x2 : Int32} {x3 : Int32} {x4 : Int32} {x5 : Int32} (h : jOk l G X cX5_sendByPorts 6 ret RX5 hg nc) (s1 : vp_in x2 24) (s4 : ¬ (mu 9 (x2).toNatClampNeg) ≤ x4 → vp_in ((x2 * 24) + x4) 576)
    (k3 : (mu 9 (x2).toNatClampNeg) ≤ x4 → J l G X Q 6 67 [.ref 19, .int x1, .int x2, .int x3, .int x4, .int x5] [] mu n)
    (k5 : ¬ (mu 9 (x2).toNatClampNeg) ≤ x4 → J l G X Q 6 37 [.ref 19, .int x1, .int x2, .int x3, .int x4, .int (mu 11 (((x2 * 24) + x4)).toNatClampNeg)] [.int (mu 11 (((x2 * 24) + x4)).toNatClampNeg), .int x3] mu n) :
    J l G X Q 6 3 [.ref 19, .int x1, .int x2, .int x3, .int x4, .int x5] [] mu n := by
  refine J_iload h dX5_sendByPorts_3 rfl ?_
  refine J_aload_n h dX5_sendByPorts_5 rfl rfl ?_
  refine J_getr (k := 0) h dX5_sendByPorts_6 jc5 rfl rfl (by decide) w303 ?_
  refine J_getrN (k := 4) h dX5_sendByPorts_9 jc2 rfl rfl (by decide) w154 ?_
  refine J_iload_n h dX5_sendByPorts_12 rfl rfl ?_
  refine J_iald h dX5_sendByPorts_13 rfl (s1) ?_
  refine J_icmp_ge (tgt := 67) h dX5_sendByPorts_14 (by decide) (fun q2 => ?_) (fun q2 => ?_)
  · skip
    exact k3 q2
  · skip
    refine J_aload_n h dX5_sendByPorts_17 rfl rfl ?_
    refine J_getr (k := 0) h dX5_sendByPorts_18 jc5 rfl rfl (by decide) w303 ?_
    refine J_getrN (k := 6) h dX5_sendByPorts_21 jc2 rfl rfl (by decide) w160 ?_
    refine J_iload_n h dX5_sendByPorts_24 rfl rfl ?_
    refine J_bipush h dX5_sendByPorts_25 cb_24 ?_
    refine J_imul h dX5_sendByPorts_27 ?_
    refine J_iload h dX5_sendByPorts_28 rfl ?_
    refine J_iadd h dX5_sendByPorts_30 ?_
    refine J_iald h dX5_sendByPorts_31 rfl (s4 q2) ?_
    refine J_istore h dX5_sendByPorts_32 (by decide) rfl ?_
    show J l G X Q 6 34 [.ref 19, .int x1, .int x2, .int x3, .int x4, .int (mu 11 (((x2 * 24) + x4)).toNatClampNeg)] [] mu n
    refine J_iload_n h dX5_sendByPorts_34 rfl rfl ?_
    refine J_iload h dX5_sendByPorts_35 rfl ?_
    exact k5 q2
/-! LockstepNet$Run.sendByNumbers(III)V -/
theorem rX5_sendByNumbers_0 {l : Launch} {G : jG} {X : jX} {Q : State → Prop} {n hg nc : Nat} {ret : Option FieldType} {mu : jM} {x1 : Int32} {x2 : Int32} {x3 : Int32} (h : jOk l G X cX5_sendByNumbers 5 ret RX5 hg nc)
    (k1 : J l G X Q 5 3 [.ref 19, .int x1, .int x2, .int x3, .int 0] [] mu n) :
    J l G X Q 5 0 [.ref 19, .int x1, .int x2, .int x3, .float 0] [] mu n := by
  refine J_iconst h dX5_sendByNumbers_0 ci_0 ?_
  refine J_istore h dX5_sendByNumbers_1 (by decide) rfl ?_
  show J l G X Q 5 3 [.ref 19, .int x1, .int x2, .int x3, .int 0] [] mu n
  exact k1
theorem rX5_sendByNumbers_3 {l : Launch} {G : jG} {X : jX} {Q : State → Prop} {n hg nc : Nat} {ret : Option FieldType} {mu : jM} {x1 : Int32} {x2 : Int32} {x3 : Int32} {x4 : Int32} (h : jOk l G X cX5_sendByNumbers 5 ret RX5 hg nc)
    (k2 : (mu 6 0) ≤ x4 → J l G X Q 5 48 [.ref 19, .int x1, .int x2, .int x3, .int x4] [] mu n)
    (k3 : ¬ (mu 6 0) ≤ x4 → J l G X Q 5 18 [.ref 19, .int x1, .int x2, .int x3, .int x4] [.int x4, .int x3] mu n) :
    J l G X Q 5 3 [.ref 19, .int x1, .int x2, .int x3, .int x4] [] mu n := by
  refine J_iload h dX5_sendByNumbers_3 rfl ?_
  refine J_aload_n h dX5_sendByNumbers_5 rfl rfl ?_
  refine J_getr (k := 0) h dX5_sendByNumbers_6 jc5 rfl rfl (by decide) w303 ?_
  refine J_getiN (k := 0) h dX5_sendByNumbers_9 jc2 rfl rfl (by decide) w142 ?_
  refine J_icmp_ge (tgt := 48) h dX5_sendByNumbers_12 (by decide) (fun q1 => ?_) (fun q1 => ?_)
  · skip
    exact k2 q1
  · skip
    refine J_iload_n h dX5_sendByNumbers_15 rfl rfl ?_
    refine J_iload h dX5_sendByNumbers_16 rfl ?_
    exact k3 q1
theorem rX5_sendByNumbers_18 {l : Launch} {G : jG} {X : jX} {Q : State → Prop} {n hg nc : Nat} {ret : Option FieldType} {mu : jM} {x1 : Int32} {x2 : Int32} {x3 : Int32} {x4 : Int32} {y0 : Int32} {y1 : Int32} {Qc : Int32 → jM → Prop} {h' : Nat} (h : jOk l G X cX5_sendByNumbers 5 ret RX5 hg nc) (hM : jCi l G yX5_isIn cX5_isIn 2 h' (some .boolean) [.int y1, .int y0] mu Qc) (hh : h' < hg ∧ 2 ≤ 21) (hn : n ≤ nc)
    (kk : ∀ v mu', Qc v mu' → J l G X Q 5 21 [.ref 19, .int x1, .int x2, .int x3, .int x4] (.int v :: []) mu' n) :
    J l G X Q 5 18 [.ref 19, .int x1, .int x2, .int x3, .int x4] [.int y0, .int y1] mu n :=
  J_callSi (As := [.int y1, .int y0]) (rest := []) h dX5_sendByNumbers_18 hM (jgS w827 w828 w80 w829) nmX5_isIn rfl hh (Nat.le_of_ble_eq_true rfl) rfl kk hn
theorem rX5_sendByNumbers_21 {l : Launch} {G : jG} {X : jX} {Q : State → Prop} {n hg nc : Nat} {ret : Option FieldType} {mu : jM} {x1 : Int32} {x2 : Int32} {x3 : Int32} {x4 : Int32} {y0 : Int32} (h : jOk l G X cX5_sendByNumbers 5 ret RX5 hg nc) (s3 : ¬ y0 = 0 → vp_in x2 24)
    (k2 : y0 = 0 → J l G X Q 5 42 [.ref 19, .int x1, .int x2, .int x3, .int x4] [] mu n)
    (k4 : ¬ y0 = 0 → J l G X Q 5 39 [.ref 19, .int x1, .int x2, .int x3, .int x4] [.int 0, .int (mu 45 (x2).toNatClampNeg), .int x4, .int x2, .int x1, .ref 25] mu n) :
    J l G X Q 5 21 [.ref 19, .int x1, .int x2, .int x3, .int x4] [.int y0] mu n := by
  refine J_if_eq (tgt := 42) h dX5_sendByNumbers_21 (by decide) (fun q1 => ?_) (fun q1 => ?_)
  · skip
    exact k2 q1
  · skip
    refine J_aload_n h dX5_sendByNumbers_24 rfl rfl ?_
    refine J_getr (k := 2) h dX5_sendByNumbers_25 jc5 rfl rfl (by decide) w306 ?_
    refine J_iload_n h dX5_sendByNumbers_28 rfl rfl ?_
    refine J_iload_n h dX5_sendByNumbers_29 rfl rfl ?_
    refine J_iload h dX5_sendByNumbers_30 rfl ?_
    refine J_aload_n h dX5_sendByNumbers_32 rfl rfl ?_
    refine J_getr (k := 5) h dX5_sendByNumbers_33 jc5 rfl rfl (by decide) w312 ?_
    refine J_iload_n h dX5_sendByNumbers_36 rfl rfl ?_
    refine J_iald h dX5_sendByNumbers_37 rfl (s3 q1) ?_
    refine J_iconst h dX5_sendByNumbers_38 ci_0 ?_
    exact k4 q1
theorem rX5_sendByNumbers_42 {l : Launch} {G : jG} {X : jX} {Q : State → Prop} {n hg nc : Nat} {ret : Option FieldType} {mu : jM} {x1 : Int32} {x2 : Int32} {x3 : Int32} {x4 : Int32} (h : jOk l G X cX5_sendByNumbers 5 ret RX5 hg nc)
    (k1 : J l G X Q 5 3 [.ref 19, .int x1, .int x2, .int x3, .int (x4 + 1)] [] mu n) :
    J l G X Q 5 42 [.ref 19, .int x1, .int x2, .int x3, .int x4] [] mu n := by
  refine J_iinc h dX5_sendByNumbers_42 rfl (cc_1 _) (by decide) rfl ?_
  show J l G X Q 5 45 [.ref 19, .int x1, .int x2, .int x3, .int (x4 + 1)] [] mu n
  refine J_goto (tgt := 3) h dX5_sendByNumbers_45 (by decide) ?_
  exact k1
theorem rX5_sendByNumbers_39 {l : Launch} {G : jG} {X : jX} {Q : State → Prop} {n hg nc : Nat} {ret : Option FieldType} {mu : jM} {x1 : Int32} {x2 : Int32} {x3 : Int32} {x4 : Int32} {y0 : Int32} {y1 : Int32} {y2 : Int32} {y3 : Int32} {y4 : Int32} {Qc : jM → Prop} {h' : Nat} (h : jOk l G X cX5_sendByNumbers 5 ret RX5 hg nc) (hM : jCv l G yX3_send cX3_send 6 h' (.ref 25 :: [.int y4, .int y3, .int y2, .int y1, .int y0]) mu Qc) (hh : h' < hg ∧ 6 ≤ 21) (hn : n ≤ nc)
    (kk : ∀ mu', Qc mu' → J l G X Q 5 42 [.ref 19, .int x1, .int x2, .int x3, .int x4] [] mu' n) :
    J l G X Q 5 39 [.ref 19, .int x1, .int x2, .int x3, .int x4] [.int y0, .int y1, .int y2, .int y3, .int y4, .ref 25] mu n :=
  J_callV (As := [.int y4, .int y3, .int y2, .int y1, .int y0]) (rest := []) h dX5_sendByNumbers_39 hM (jgV w853 w854 w855 w81 w856) rfl (ci := 3) rfl rfl nmX3_send rfl hh (Nat.le_of_ble_eq_true rfl) rfl kk hn
/-! LockstepNet$Run.enterNextRound(I)V -/
theorem rX5_enterNextRound_0 {l : Launch} {G : jG} {X : jX} {Q : State → Prop} {n hg nc : Nat} {ret : Option FieldType} {mu : jM} {x1 : Int32} (h : jOk l G X cX5_enterNextRound 3 ret RX5 hg nc)
    (k1 : J l G X Q 3 2 [.ref 19, .int x1, .float 0] [.int x1, .ref 19] mu n) :
    J l G X Q 3 0 [.ref 19, .int x1, .float 0] [] mu n := by
  refine J_aload_n h dX5_enterNextRound_0 rfl rfl ?_
  refine J_iload_n h dX5_enterNextRound_1 rfl rfl ?_
  exact k1
theorem rX5_enterNextRound_2 {l : Launch} {G : jG} {X : jX} {Q : State → Prop} {n hg nc : Nat} {ret : Option FieldType} {mu : jM} {x1 : Int32} {y0 : Int32} {Qc : jM → Prop} {h' : Nat} (h : jOk l G X cX5_enterNextRound 3 ret RX5 hg nc) (hM : jCv l G yX5_forgetRound cX5_forgetRound 4 h' (.ref 19 :: [.int y0]) mu Qc) (hh : h' < hg ∧ 4 ≤ 21) (hn : n ≤ nc)
    (kk : ∀ mu', Qc mu' → J l G X Q 3 5 [.ref 19, .int x1, .float 0] [] mu' n) :
    J l G X Q 3 2 [.ref 19, .int x1, .float 0] [.int y0, .ref 19] mu n :=
  J_callV (As := [.int y0]) (rest := []) h dX5_enterNextRound_2 hM (jgV w865 w867 w26 w80 w868) rfl (ci := 5) rfl rfl nmX5_forgetRound rfl hh (Nat.le_of_ble_eq_true rfl) rfl kk hn
theorem rX5_enterNextRound_5 {l : Launch} {G : jG} {X : jX} {Q : State → Prop} {n hg nc : Nat} {ret : Option FieldType} {mu : jM} {x1 : Int32} (h : jOk l G X cX5_enterNextRound 3 ret RX5 hg nc) (s1 : vp_in x1 24) (s2 : vp_in x1 24) (s3 : vp_in x1 24)
    (k4 : J l G X Q 3 26 [.ref 19, .int x1, .float 0] [.int ((wr mu 45 (x1).toNatClampNeg ((mu 45 (x1).toNatClampNeg) + 1)) 45 (x1).toNatClampNeg), .int x1, .ref 20] (wr mu 45 (x1).toNatClampNeg ((mu 45 (x1).toNatClampNeg) + 1)) n) :
    J l G X Q 3 5 [.ref 19, .int x1, .float 0] [] mu n := by
  refine J_aload_n h dX5_enterNextRound_5 rfl rfl ?_
  refine J_getr (k := 5) h dX5_enterNextRound_6 jc5 rfl rfl (by decide) w312 ?_
  refine J_iload_n h dX5_enterNextRound_9 rfl rfl ?_
  refine J_dup2 h dX5_enterNextRound_10 rfl rfl ?_
  refine J_iald h dX5_enterNextRound_11 rfl (s1) ?_
  refine J_iconst h dX5_enterNextRound_12 ci_1 ?_
  refine J_iadd h dX5_enterNextRound_13 ?_
  refine J_iast h dX5_enterNextRound_14 rfl (s2) ?_
  refine J_aload_n h dX5_enterNextRound_15 rfl rfl ?_
  refine J_getr (k := 1) h dX5_enterNextRound_16 jc5 rfl rfl (by decide) w304 ?_
  refine J_iload_n h dX5_enterNextRound_19 rfl rfl ?_
  refine J_aload_n h dX5_enterNextRound_20 rfl rfl ?_
  refine J_getr (k := 5) h dX5_enterNextRound_21 jc5 rfl rfl (by decide) w312 ?_
  refine J_iload_n h dX5_enterNextRound_24 rfl rfl ?_
  refine J_iald h dX5_enterNextRound_25 rfl (s3) ?_
  exact k4
theorem rX5_enterNextRound_26 {l : Launch} {G : jG} {X : jX} {Q : State → Prop} {n hg nc : Nat} {ret : Option FieldType} {mu : jM} {x1 : Int32} {y0 : Int32} {y1 : Int32} {Qc : jM → Prop} {h' : Nat} (h : jOk l G X cX5_enterNextRound 3 ret RX5 hg nc) (hM : jCv l G yX1_doRound cX1_doRound 7 h' (.ref 20 :: [.int y1, .int y0]) mu Qc) (hh : h' < hg ∧ 7 ≤ 21) (hn : n ≤ nc)
    (kk : ∀ mu', Qc mu' → J l G X Q 3 29 [.ref 19, .int x1, .float 0] [] mu' n) :
    J l G X Q 3 26 [.ref 19, .int x1, .float 0] [.int y0, .int y1, .ref 20] mu n :=
  J_callV (As := [.int y1, .int y0]) (rest := []) h dX5_enterNextRound_26 hM (jgV w869 w671 w672 w79 w673) rfl (ci := 1) rfl rfl nmX1_doRound rfl hh (Nat.le_of_ble_eq_true rfl) rfl kk hn
theorem rX5_enterNextRound_29 {l : Launch} {G : jG} {X : jX} {Q : State → Prop} {n hg nc : Nat} {ret : Option FieldType} {mu : jM} {x1 : Int32} (h : jOk l G X cX5_enterNextRound 3 ret RX5 hg nc)
    (k1 : J l G X Q 3 31 [.ref 19, .int x1, .int 0] [] mu n) :
    J l G X Q 3 29 [.ref 19, .int x1, .float 0] [] mu n := by
  refine J_iconst h dX5_enterNextRound_29 ci_0 ?_
  refine J_istore_n h dX5_enterNextRound_30 rfl (by decide) rfl ?_
  show J l G X Q 3 31 [.ref 19, .int x1, .int 0] [] mu n
  exact k1
theorem rX5_enterNextRound_31 {l : Launch} {G : jG} {X : jX} {Q : State → Prop} {n hg nc : Nat} {ret : Option FieldType} {mu : jM} {x1 : Int32} {x2 : Int32} (h : jOk l G X cX5_enterNextRound 3 ret RX5 hg nc) (s1 : vp_in x1 24)
    (k3 : (mu 9 (x1).toNatClampNeg) ≤ x2 → J l G X Q 3 111 [.ref 19, .int x1, .int x2] [.int (mu 20 6), .int x1, .ref 46] mu n)
    (k4 : ¬ (mu 9 (x1).toNatClampNeg) ≤ x2 → J l G X Q 3 49 [.ref 19, .int x1, .int x2] [.int x2, .ref 20] mu n) :
    J l G X Q 3 31 [.ref 19, .int x1, .int x2] [] mu n := by
  refine J_iload_n h dX5_enterNextRound_31 rfl rfl ?_
  refine J_aload_n h dX5_enterNextRound_32 rfl rfl ?_
  refine J_getr (k := 0) h dX5_enterNextRound_33 jc5 rfl rfl (by decide) w303 ?_
  refine J_getrN (k := 4) h dX5_enterNextRound_36 jc2 rfl rfl (by decide) w154 ?_
  refine J_iload_n h dX5_enterNextRound_39 rfl rfl ?_
  refine J_iald h dX5_enterNextRound_40 rfl (s1) ?_
  refine J_icmp_ge (tgt := 99) h dX5_enterNextRound_41 (by decide) (fun q2 => ?_) (fun q2 => ?_)
  · skip
    refine J_aload_n h dX5_enterNextRound_99 rfl rfl ?_
    refine J_getr (k := 6) h dX5_enterNextRound_100 jc5 rfl rfl (by decide) w314 ?_
    refine J_iload_n h dX5_enterNextRound_103 rfl rfl ?_
    refine J_aload_n h dX5_enterNextRound_104 rfl rfl ?_
    refine J_getr (k := 1) h dX5_enterNextRound_105 jc5 rfl rfl (by decide) w304 ?_
    refine J_getiN (k := 6) h dX5_enterNextRound_108 jc1 rfl rfl (by decide) w195 ?_
    exact k3 q2
  · skip
    refine J_aload_n h dX5_enterNextRound_44 rfl rfl ?_
    refine J_getr (k := 1) h dX5_enterNextRound_45 jc5 rfl rfl (by decide) w304 ?_
    refine J_iload_n h dX5_enterNextRound_48 rfl rfl ?_
    exact k4 q2
theorem rX5_enterNextRound_111 {l : Launch} {G : jG} {X : jX} {Q : State → Prop} {n hg nc : Nat} {ret : Option FieldType} {mu : jM} {x1 : Int32} {x2 : Int32} {y0 : Int32} {y1 : Int32} {Qc : Int32 → jM → Prop} {h' : Nat} (h : jOk l G X cX5_enterNextRound 3 ret RX5 hg nc) (hM : jCi l G yJ6_bitCount_0f7a4 cJ6_bitCount_0f7a4 1 h' (some .int) [.int y0] mu Qc) (hh : h' < hg ∧ 1 ≤ 21) (hn : n ≤ nc)
    (kk : ∀ v mu', Qc v mu' → J l G X Q 3 114 [.ref 19, .int x1, .int x2] (.int v :: [.int y1, .ref 46]) mu' n) :
    J l G X Q 3 111 [.ref 19, .int x1, .int x2] [.int y0, .int y1, .ref 46] mu n :=
  J_callSi (As := [.int y0]) (rest := [.int y1, .ref 46]) h dX5_enterNextRound_111 hM (jgS w871 w690 w95 w691) nmJ6_bitCount_0f7a4 rfl hh (Nat.le_of_ble_eq_true rfl) rfl kk hn
theorem rX5_enterNextRound_49 {l : Launch} {G : jG} {X : jX} {Q : State → Prop} {n hg nc : Nat} {ret : Option FieldType} {mu : jM} {x1 : Int32} {x2 : Int32} {y0 : Int32} {Qc : Int32 → jM → Prop} {h' : Nat} (h : jOk l G X cX5_enterNextRound 3 ret RX5 hg nc) (hM : jCi l G yX1_goesBy cX1_goesBy 2 h' (some .boolean) (.ref 20 :: [.int y0]) mu Qc) (hh : h' < hg ∧ 2 ≤ 21) (hn : n ≤ nc)
    (kk : ∀ v mu', Qc v mu' → J l G X Q 3 52 [.ref 19, .int x1, .int x2] (.int v :: []) mu' n) :
    J l G X Q 3 49 [.ref 19, .int x1, .int x2] [.int y0, .ref 20] mu n :=
  J_callVi (As := [.int y0]) (rest := []) h dX5_enterNextRound_49 hM (jgV w870 w703 w704 w79 w705) rfl (ci := 1) rfl rfl nmX1_goesBy rfl hh (Nat.le_of_ble_eq_true rfl) rfl kk hn
theorem rX5_enterNextRound_114 {l : Launch} {G : jG} {X : jX} {Q : State → Prop} {n hg nc : Nat} {ret : Option FieldType} {mu : jM} {x1 : Int32} {x2 : Int32} {y0 : Int32} {y1 : Int32} (h : jOk l G X cX5_enterNextRound 3 ret RX5 hg nc) (s1 : vp_in y1 24)
    (k2 : J l G X Q 3 117 [.ref 19, .int x1, .int x2] [.int x1, .ref 19] (wr mu 46 (y1).toNatClampNeg y0) n) :
    J l G X Q 3 114 [.ref 19, .int x1, .int x2] [.int y0, .int y1, .ref 46] mu n := by
  refine J_iast h dX5_enterNextRound_114 rfl (s1) ?_
  refine J_aload_n h dX5_enterNextRound_115 rfl rfl ?_
  refine J_iload_n h dX5_enterNextRound_116 rfl rfl ?_
  exact k2
theorem rX5_enterNextRound_52 {l : Launch} {G : jG} {X : jX} {Q : State → Prop} {n hg nc : Nat} {ret : Option FieldType} {mu : jM} {x1 : Int32} {x2 : Int32} {y0 : Int32} (h : jOk l G X cX5_enterNextRound 3 ret RX5 hg nc) (s3 : ¬ y0 = 0 → vp_in ((x1 * 24) + x2) 576) (s4 : ¬ y0 = 0 → vp_in x1 24) (s5 : ¬ y0 = 0 → vp_in x2 24)
    (k2 : y0 = 0 → J l G X Q 3 93 [.ref 19, .int x1, .int x2] [] mu n)
    (k6 : ¬ y0 = 0 → J l G X Q 3 90 [.ref 19, .int x1, .int x2] [.int (mu 24 (x2).toNatClampNeg), .int (mu 45 (x1).toNatClampNeg), .int (mu 11 (((x1 * 24) + x2)).toNatClampNeg), .int x1, .int 0, .ref 25] mu n) :
    J l G X Q 3 52 [.ref 19, .int x1, .int x2] [.int y0] mu n := by
  refine J_if_eq (tgt := 93) h dX5_enterNextRound_52 (by decide) (fun q1 => ?_) (fun q1 => ?_)
  · skip
    exact k2 q1
  · skip
    refine J_aload_n h dX5_enterNextRound_55 rfl rfl ?_
    refine J_getr (k := 2) h dX5_enterNextRound_56 jc5 rfl rfl (by decide) w306 ?_
    refine J_iconst h dX5_enterNextRound_59 ci_0 ?_
    refine J_iload_n h dX5_enterNextRound_60 rfl rfl ?_
    refine J_aload_n h dX5_enterNextRound_61 rfl rfl ?_
    refine J_getr (k := 0) h dX5_enterNextRound_62 jc5 rfl rfl (by decide) w303 ?_
    refine J_getrN (k := 6) h dX5_enterNextRound_65 jc2 rfl rfl (by decide) w160 ?_
    refine J_iload_n h dX5_enterNextRound_68 rfl rfl ?_
    refine J_bipush h dX5_enterNextRound_69 cb_24 ?_
    refine J_imul h dX5_enterNextRound_71 ?_
    refine J_iload_n h dX5_enterNextRound_72 rfl rfl ?_
    refine J_iadd h dX5_enterNextRound_73 ?_
    refine J_iald h dX5_enterNextRound_74 rfl (s3 q1) ?_
    refine J_aload_n h dX5_enterNextRound_75 rfl rfl ?_
    refine J_getr (k := 5) h dX5_enterNextRound_76 jc5 rfl rfl (by decide) w312 ?_
    refine J_iload_n h dX5_enterNextRound_79 rfl rfl ?_
    refine J_iald h dX5_enterNextRound_80 rfl (s4 q1) ?_
    refine J_aload_n h dX5_enterNextRound_81 rfl rfl ?_
    refine J_getr (k := 1) h dX5_enterNextRound_82 jc5 rfl rfl (by decide) w304 ?_
    refine J_getrN (k := 5) h dX5_enterNextRound_85 jc1 rfl rfl (by decide) w193 ?_
    refine J_iload_n h dX5_enterNextRound_88 rfl rfl ?_
    refine J_iald h dX5_enterNextRound_89 rfl (s5 q1) ?_
    exact k6 q1
theorem rX5_enterNextRound_117 {l : Launch} {G : jG} {X : jX} {Q : State → Prop} {n hg nc : Nat} {ret : Option FieldType} {mu : jM} {x1 : Int32} {x2 : Int32} {y0 : Int32} {Qc : jM → Prop} {h' : Nat} (h : jOk l G X cX5_enterNextRound 3 ret RX5 hg nc) (hM : jCv l G yX5_noteWidest cX5_noteWidest 3 h' (.ref 19 :: [.int y0]) mu Qc) (hh : h' < hg ∧ 3 ≤ 21) (hn : n ≤ nc)
    (kk : ∀ mu', Qc mu' → J l G X Q 3 120 [.ref 19, .int x1, .int x2] [] mu' n) :
    J l G X Q 3 117 [.ref 19, .int x1, .int x2] [.int y0, .ref 19] mu n :=
  J_callV (As := [.int y0]) (rest := []) h dX5_enterNextRound_117 hM (jgV w872 w874 w27 w80 w875) rfl (ci := 5) rfl rfl nmX5_noteWidest rfl hh (Nat.le_of_ble_eq_true rfl) rfl kk hn
theorem rX5_enterNextRound_93 {l : Launch} {G : jG} {X : jX} {Q : State → Prop} {n hg nc : Nat} {ret : Option FieldType} {mu : jM} {x1 : Int32} {x2 : Int32} (h : jOk l G X cX5_enterNextRound 3 ret RX5 hg nc)
    (k1 : J l G X Q 3 31 [.ref 19, .int x1, .int (x2 + 1)] [] mu n) :
    J l G X Q 3 93 [.ref 19, .int x1, .int x2] [] mu n := by
  refine J_iinc h dX5_enterNextRound_93 rfl (cc_1 _) (by decide) rfl ?_
  show J l G X Q 3 96 [.ref 19, .int x1, .int (x2 + 1)] [] mu n
  refine J_goto (tgt := 31) h dX5_enterNextRound_96 (by decide) ?_
  exact k1
theorem rX5_enterNextRound_90 {l : Launch} {G : jG} {X : jX} {Q : State → Prop} {n hg nc : Nat} {ret : Option FieldType} {mu : jM} {x1 : Int32} {x2 : Int32} {y0 : Int32} {y1 : Int32} {y2 : Int32} {y3 : Int32} {y4 : Int32} {Qc : jM → Prop} {h' : Nat} (h : jOk l G X cX5_enterNextRound 3 ret RX5 hg nc) (hM : jCv l G yX3_send cX3_send 6 h' (.ref 25 :: [.int y4, .int y3, .int y2, .int y1, .int y0]) mu Qc) (hh : h' < hg ∧ 6 ≤ 21) (hn : n ≤ nc)
    (kk : ∀ mu', Qc mu' → J l G X Q 3 93 [.ref 19, .int x1, .int x2] [] mu' n) :
    J l G X Q 3 90 [.ref 19, .int x1, .int x2] [.int y0, .int y1, .int y2, .int y3, .int y4, .ref 25] mu n :=
  J_callV (As := [.int y4, .int y3, .int y2, .int y1, .int y0]) (rest := []) h dX5_enterNextRound_90 hM (jgV w853 w854 w855 w81 w856) rfl (ci := 3) rfl rfl nmX3_send rfl hh (Nat.le_of_ble_eq_true rfl) rfl kk hn
/-! LockstepNet$Run.forgetRound(I)V -/
theorem rX5_forgetRound_0 {l : Launch} {G : jG} {X : jX} {Q : State → Prop} {n hg nc : Nat} {ret : Option FieldType} {mu : jM} {x1 : Int32} (h : jOk l G X cX5_forgetRound 4 ret RX5 hg nc) (s1 : vp_in x1 24)
    (k2 : J l G X Q 4 7 [.ref 19, .int x1, .float 0, .float 0] [.int (mu 45 (x1).toNatClampNeg), .int x1] mu n) :
    J l G X Q 4 0 [.ref 19, .int x1, .float 0, .float 0] [] mu n := by
  refine J_iload_n h dX5_forgetRound_0 rfl rfl ?_
  refine J_aload_n h dX5_forgetRound_1 rfl rfl ?_
  refine J_getr (k := 5) h dX5_forgetRound_2 jc5 rfl rfl (by decide) w312 ?_
  refine J_iload_n h dX5_forgetRound_5 rfl rfl ?_
  refine J_iald h dX5_forgetRound_6 rfl (s1) ?_
  exact k2
theorem rX5_forgetRound_7 {l : Launch} {G : jG} {X : jX} {Q : State → Prop} {n hg nc : Nat} {ret : Option FieldType} {mu : jM} {x1 : Int32} {y0 : Int32} {y1 : Int32} {Qc : Int32 → jM → Prop} {h' : Nat} (h : jOk l G X cX5_forgetRound 4 ret RX5 hg nc) (hM : jCi l G yX5_boxOf cX5_boxOf 2 h' (some .int) [.int y1, .int y0] mu Qc) (hh : h' < hg ∧ 2 ≤ 21) (hn : n ≤ nc)
    (kk : ∀ v mu', Qc v mu' → J l G X Q 4 10 [.ref 19, .int x1, .float 0, .float 0] (.int v :: []) mu' n) :
    J l G X Q 4 7 [.ref 19, .int x1, .float 0, .float 0] [.int y0, .int y1] mu n :=
  J_callSi (As := [.int y1, .int y0]) (rest := []) h dX5_forgetRound_7 hM (jgS w834 w835 w80 w836) nmX5_boxOf rfl hh (Nat.le_of_ble_eq_true rfl) rfl kk hn
theorem rX5_forgetRound_10 {l : Launch} {G : jG} {X : jX} {Q : State → Prop} {n hg nc : Nat} {ret : Option FieldType} {mu : jM} {x1 : Int32} {y0 : Int32} (h : jOk l G X cX5_forgetRound 4 ret RX5 hg nc)
    (k1 : J l G X Q 4 13 [.ref 19, .int x1, .int y0, .int 2] [] mu n) :
    J l G X Q 4 10 [.ref 19, .int x1, .float 0, .float 0] [.int y0] mu n := by
  refine J_istore_n h dX5_forgetRound_10 rfl (by decide) rfl ?_
  show J l G X Q 4 11 [.ref 19, .int x1, .int y0, .float 0] [] mu n
  refine J_iconst h dX5_forgetRound_11 ci_2 ?_
  refine J_istore_n h dX5_forgetRound_12 rfl (by decide) rfl ?_
  show J l G X Q 4 13 [.ref 19, .int x1, .int y0, .int 2] [] mu n
  exact k1
theorem rX5_forgetRound_13 {l : Launch} {G : jG} {X : jX} {Q : State → Prop} {n hg nc : Nat} {ret : Option FieldType} {mu : jM} {x1 : Int32} {x2 : Int32} {x3 : Int32} {r3 : Nat} (h : jOk l G X cX5_forgetRound 4 ret RX5 hg nc) (s4 : ¬ 8 ≤ x3 → vp_in x3 8) (s5 : ¬ 8 ≤ x3 → [48, 49, 50, 51, 52, 53, 54, 55][(x3).toNatClampNeg]? = some r3) (h_r3 : jShp[r3]? = some (.inr (0, 48, fun _ => none))) (s6 : ¬ 8 ≤ x3 → vp_in x2 48)
    (k2 : 8 ≤ x3 → J l G X Q 4 76 [.ref 19, .int x1, .int x2, .int x3] [] (wr (wr (wr mu 19 8 ((mu 19 8) &&& ((1 <<< (x1 &&& 31)) ^^^ (-1)))) 19 9 ((mu 19 9) &&& ((1 <<< (x1 &&& 31)) ^^^ (-1)))) 19 10 ((mu 19 10) &&& ((1 <<< (x1 &&& 31)) ^^^ (-1)))) n)
    (k7 : ¬ 8 ≤ x3 → J l G X Q 4 13 [.ref 19, .int x1, .int x2, .int (x3 + 1)] [] (wr mu r3 (x2).toNatClampNeg 0) n) :
    J l G X Q 4 13 [.ref 19, .int x1, .int x2, .int x3] [] mu n := by
  refine J_iload_n h dX5_forgetRound_13 rfl rfl ?_
  refine J_bipush h dX5_forgetRound_14 cb_8 ?_
  refine J_icmp_ge (tgt := 34) h dX5_forgetRound_16 (by decide) (fun q1 => ?_) (fun q1 => ?_)
  · skip
    refine J_aload_n h dX5_forgetRound_34 rfl rfl ?_
    refine J_dup h dX5_forgetRound_35 rfl ?_
    refine J_geti (k := 8) h dX5_forgetRound_36 jc5 rfl rfl (by decide) w316 ?_
    refine J_iconst h dX5_forgetRound_39 ci_1 ?_
    refine J_iload_n h dX5_forgetRound_40 rfl rfl ?_
    refine J_ishl h dX5_forgetRound_41 ?_
    refine J_iconst h dX5_forgetRound_42 ci_m1 ?_
    refine J_ixor h dX5_forgetRound_43 ?_
    refine J_iand h dX5_forgetRound_44 ?_
    refine J_puti (k := 8) (ty0 := tyX5) h dX5_forgetRound_45 jc5 tyX5_ok nmX5 rfl rfl (by decide) rfl rfl rfl w316 ?_
    refine J_aload_n h dX5_forgetRound_48 rfl rfl ?_
    refine J_dup h dX5_forgetRound_49 rfl ?_
    refine J_geti (k := 9) h dX5_forgetRound_50 jc5 rfl rfl (by decide) w317 ?_
    refine J_iconst h dX5_forgetRound_53 ci_1 ?_
    refine J_iload_n h dX5_forgetRound_54 rfl rfl ?_
    refine J_ishl h dX5_forgetRound_55 ?_
    refine J_iconst h dX5_forgetRound_56 ci_m1 ?_
    refine J_ixor h dX5_forgetRound_57 ?_
    refine J_iand h dX5_forgetRound_58 ?_
    refine J_puti (k := 9) (ty0 := tyX5) h dX5_forgetRound_59 jc5 tyX5_ok nmX5 rfl rfl (by decide) rfl rfl rfl w317 ?_
    refine J_aload_n h dX5_forgetRound_62 rfl rfl ?_
    refine J_dup h dX5_forgetRound_63 rfl ?_
    refine J_geti (k := 10) h dX5_forgetRound_64 jc5 rfl rfl (by decide) w318 ?_
    refine J_iconst h dX5_forgetRound_67 ci_1 ?_
    refine J_iload_n h dX5_forgetRound_68 rfl rfl ?_
    refine J_ishl h dX5_forgetRound_69 ?_
    refine J_iconst h dX5_forgetRound_70 ci_m1 ?_
    refine J_ixor h dX5_forgetRound_71 ?_
    refine J_iand h dX5_forgetRound_72 ?_
    refine J_puti (k := 10) (ty0 := tyX5) h dX5_forgetRound_73 jc5 tyX5_ok nmX5 rfl rfl (by decide) rfl rfl rfl w318 ?_
    exact k2 q1
  · skip
    refine J_aload_n h dX5_forgetRound_19 rfl rfl ?_
    refine J_getr (k := 7) h dX5_forgetRound_20 jc5 rfl rfl (by decide) w315 ?_
    refine J_iload_n h dX5_forgetRound_23 rfl rfl ?_
    refine J_aald h dX5_forgetRound_24 rfl (s4 q1) (s5 q1) ?_
    refine J_iload_n h dX5_forgetRound_25 rfl rfl ?_
    refine J_iconst h dX5_forgetRound_26 ci_0 ?_
    refine J_iast h dX5_forgetRound_27 h_r3 (s6 q1) ?_
    refine J_iinc h dX5_forgetRound_28 rfl (cc_1 _) (by decide) rfl ?_
    show J l G X Q 4 31 [.ref 19, .int x1, .int x2, .int (x3 + 1)] [] (wr mu r3 (x2).toNatClampNeg 0) n
    refine J_goto (tgt := 13) h dX5_forgetRound_31 (by decide) ?_
    exact k7 q1
/-! LockstepNet$Run.noteWidest(I)V -/
theorem rX5_noteWidest_0 {l : Launch} {G : jG} {X : jX} {Q : State → Prop} {n hg nc : Nat} {ret : Option FieldType} {mu : jM} {x1 : Int32} (h : jOk l G X cX5_noteWidest 3 ret RX5 hg nc)
    (k1 : J l G X Q 3 2 [.ref 19, .int x1, .int 0] [] mu n) :
    J l G X Q 3 0 [.ref 19, .int x1, .float 0] [] mu n := by
  refine J_iconst h dX5_noteWidest_0 ci_0 ?_
  refine J_istore_n h dX5_noteWidest_1 rfl (by decide) rfl ?_
  show J l G X Q 3 2 [.ref 19, .int x1, .int 0] [] mu n
  exact k1
theorem rX5_noteWidest_2 {l : Launch} {G : jG} {X : jX} {Q : State → Prop} {n hg nc : Nat} {ret : Option FieldType} {mu : jM} {x1 : Int32} {x2 : Int32} (h : jOk l G X cX5_noteWidest 3 ret RX5 hg nc) (s3 : ¬ (mu 6 0) ≤ x2 → vp_in x1 24) (s4 : ¬ (mu 6 0) ≤ x2 → vp_in x2 24)
    (k2 : (mu 6 0) ≤ x2 → J l G X Q 3 43 [.ref 19, .int x1, .int x2] [] mu n)
    (k5 : ¬ (mu 6 0) ≤ x2 → J l G X Q 3 31 [.ref 19, .int x1, .int x2] [.int ((mu 45 (x1).toNatClampNeg) - (mu 45 (x2).toNatClampNeg)), .int (mu 19 12), .ref 19] mu n) :
    J l G X Q 3 2 [.ref 19, .int x1, .int x2] [] mu n := by
  refine J_iload_n h dX5_noteWidest_2 rfl rfl ?_
  refine J_aload_n h dX5_noteWidest_3 rfl rfl ?_
  refine J_getr (k := 0) h dX5_noteWidest_4 jc5 rfl rfl (by decide) w303 ?_
  refine J_getiN (k := 0) h dX5_noteWidest_7 jc2 rfl rfl (by decide) w142 ?_
  refine J_icmp_ge (tgt := 43) h dX5_noteWidest_10 (by decide) (fun q1 => ?_) (fun q1 => ?_)
  · skip
    exact k2 q1
  · skip
    refine J_aload_n h dX5_noteWidest_13 rfl rfl ?_
    refine J_aload_n h dX5_noteWidest_14 rfl rfl ?_
    refine J_geti (k := 12) h dX5_noteWidest_15 jc5 rfl rfl (by decide) w321 ?_
    refine J_aload_n h dX5_noteWidest_18 rfl rfl ?_
    refine J_getr (k := 5) h dX5_noteWidest_19 jc5 rfl rfl (by decide) w312 ?_
    refine J_iload_n h dX5_noteWidest_22 rfl rfl ?_
    refine J_iald h dX5_noteWidest_23 rfl (s3 q1) ?_
    refine J_aload_n h dX5_noteWidest_24 rfl rfl ?_
    refine J_getr (k := 5) h dX5_noteWidest_25 jc5 rfl rfl (by decide) w312 ?_
    refine J_iload_n h dX5_noteWidest_28 rfl rfl ?_
    refine J_iald h dX5_noteWidest_29 rfl (s4 q1) ?_
    refine J_isub h dX5_noteWidest_30 ?_
    exact k5 q1
theorem rX5_noteWidest_31 {l : Launch} {G : jG} {X : jX} {Q : State → Prop} {n hg nc : Nat} {ret : Option FieldType} {mu : jM} {x1 : Int32} {x2 : Int32} {y0 : Int32} {y1 : Int32} {Qc : Int32 → jM → Prop} {h' : Nat} (h : jOk l G X cX5_noteWidest 3 ret RX5 hg nc) (hM : jCi l G yJ9_max_7cf53 cJ9_max_7cf53 2 h' (some .int) [.int y1, .int y0] mu Qc) (hh : h' < hg ∧ 2 ≤ 21) (hn : n ≤ nc)
    (kk : ∀ v mu', Qc v mu' → J l G X Q 3 34 [.ref 19, .int x1, .int x2] (.int v :: [.ref 19]) mu' n) :
    J l G X Q 3 31 [.ref 19, .int x1, .int x2] [.int y0, .int y1, .ref 19] mu n :=
  J_callSi (As := [.int y1, .int y0]) (rest := [.ref 19]) h dX5_noteWidest_31 hM (jgS w876 w877 w96 w878) nmJ9_max_7cf53 rfl hh (Nat.le_of_ble_eq_true rfl) rfl kk hn
theorem rX5_noteWidest_34 {l : Launch} {G : jG} {X : jX} {Q : State → Prop} {n hg nc : Nat} {ret : Option FieldType} {mu : jM} {x1 : Int32} {x2 : Int32} {y0 : Int32} (h : jOk l G X cX5_noteWidest 3 ret RX5 hg nc)
    (k1 : J l G X Q 3 2 [.ref 19, .int x1, .int (x2 + 1)] [] (wr mu 19 12 y0) n) :
    J l G X Q 3 34 [.ref 19, .int x1, .int x2] [.int y0, .ref 19] mu n := by
  refine J_puti (k := 12) (ty0 := tyX5) h dX5_noteWidest_34 jc5 tyX5_ok nmX5 rfl rfl (by decide) rfl rfl rfl w321 ?_
  refine J_iinc h dX5_noteWidest_37 rfl (cc_1 _) (by decide) rfl ?_
  show J l G X Q 3 40 [.ref 19, .int x1, .int (x2 + 1)] [] (wr mu 19 12 y0) n
  refine J_goto (tgt := 2) h dX5_noteWidest_40 (by decide) ?_
  exact k1
/-! LockstepNet$Run.sendFor(IILLockstepNet$Tree;)V T -/
theorem rX5_sendForT_0 {l : Launch} {G : jG} {X : jX} {Q : State → Prop} {n hg nc : Nat} {ret : Option FieldType} {mu : jM} {x1 : Int32} {x2 : Int32} (h : jOk l G X cX5_sendFor 4 ret RX5 hg nc)
    (k1 : J l G X Q 4 1 [.ref 19, .int x1, .int x2, .ref 33] [.int x1] mu n) :
    J l G X Q 4 0 [.ref 19, .int x1, .int x2, .ref 33] [] mu n := by
  refine J_iload_n h dX5_sendFor_0 rfl rfl ?_
  exact k1
theorem rX5_sendForT_1 {l : Launch} {G : jG} {X : jX} {Q : State → Prop} {n hg nc : Nat} {ret : Option FieldType} {mu : jM} {x1 : Int32} {x2 : Int32} {y0 : Int32} (h : jOk l G X cX5_sendFor 4 ret RX5 hg nc)
    (k1 : y0 = 1 → J l G X Q 4 36 [.ref 19, .int x1, .int x2, .ref 33] [] mu n)
    (k2 : y0 = 2 → J l G X Q 4 66 [.ref 19, .int x1, .int x2, .ref 33] [] mu n)
    (k3 : y0 = 3 → J l G X Q 4 103 [.ref 19, .int x1, .int x2, .ref 33] [] mu n)
    (k4 : y0 = 4 → J l G X Q 4 158 [.ref 19, .int x1, .int x2, .ref 33] [] mu n)
    (k5 : y0 = 5 → J l G X Q 4 196 [.ref 19, .int x1, .int x2, .ref 33] [] mu n)
    (kd : ¬ y0 = 1 → ¬ y0 = 2 → ¬ y0 = 3 → ¬ y0 = 4 → ¬ y0 = 5 → J l G X Q 4 211 [.ref 19, .int x1, .int x2, .ref 33] [] mu n) :
    J l G X Q 4 1 [.ref 19, .int x1, .int x2, .ref 33] [.int y0] mu n := by
  by_cases e1 : y0 = 1
  · subst e1
    exact J_tableIn (tgt := 36) (off := 35) h dX5_sendFor_1 (by decide) (by decide) (by decide) (by decide) (k1 rfl)
  by_cases e2 : y0 = 2
  · subst e2
    exact J_tableIn (tgt := 66) (off := 65) h dX5_sendFor_1 (by decide) (by decide) (by decide) (by decide) (k2 rfl)
  by_cases e3 : y0 = 3
  · subst e3
    exact J_tableIn (tgt := 103) (off := 102) h dX5_sendFor_1 (by decide) (by decide) (by decide) (by decide) (k3 rfl)
  by_cases e4 : y0 = 4
  · subst e4
    exact J_tableIn (tgt := 158) (off := 157) h dX5_sendFor_1 (by decide) (by decide) (by decide) (by decide) (k4 rfl)
  by_cases e5 : y0 = 5
  · subst e5
    exact J_tableIn (tgt := 196) (off := 195) h dX5_sendFor_1 (by decide) (by decide) (by decide) (by decide) (k5 rfl)
  refine J_tableOut (tgt := 211) h dX5_sendFor_1 ?_ (by decide) (kd e1 e2 e3 e4 e5)
  refine jout 5 (by decide) (fun k hk => ?_)
  match k, hk with
  | 0, _ => exact lv_neT e1 (by decide)
  | 1, _ => exact lv_neT e2 (by decide)
  | 2, _ => exact lv_neT e3 (by decide)
  | 3, _ => exact lv_neT e4 (by decide)
  | 4, _ => exact lv_neT e5 (by decide)
  | k + 5, hk => omega
theorem rX5_sendForT_36 {l : Launch} {G : jG} {X : jX} {Q : State → Prop} {n hg nc : Nat} {ret : Option FieldType} {mu : jM} {x1 : Int32} {x2 : Int32} (h : jOk l G X cX5_sendFor 4 ret RX5 hg nc) (s1 : vp_in x2 24)
    (k2 : J l G X Q 4 60 [.ref 19, .int x1, .int x2, .ref 33] [.int (mu 10 (x2).toNatClampNeg), .int x2, .int 2, .ref 19] (wr mu 19 8 ((mu 19 8) ||| (1 <<< (x2 &&& 31)))) n) :
    J l G X Q 4 36 [.ref 19, .int x1, .int x2, .ref 33] [] mu n := by
  refine J_aload_n h dX5_sendFor_36 rfl rfl ?_
  refine J_dup h dX5_sendFor_37 rfl ?_
  refine J_geti (k := 8) h dX5_sendFor_38 jc5 rfl rfl (by decide) w316 ?_
  refine J_iconst h dX5_sendFor_41 ci_1 ?_
  refine J_iload_n h dX5_sendFor_42 rfl rfl ?_
  refine J_ishl h dX5_sendFor_43 ?_
  refine J_ior h dX5_sendFor_44 ?_
  refine J_puti (k := 8) (ty0 := tyX5) h dX5_sendFor_45 jc5 tyX5_ok nmX5 rfl rfl (by decide) rfl rfl rfl w316 ?_
  refine J_aload_n h dX5_sendFor_48 rfl rfl ?_
  refine J_iconst h dX5_sendFor_49 ci_2 ?_
  refine J_iload_n h dX5_sendFor_50 rfl rfl ?_
  refine J_aload_n h dX5_sendFor_51 rfl rfl ?_
  refine J_getr (k := 0) h dX5_sendFor_52 jc5 rfl rfl (by decide) w303 ?_
  refine J_getrN (k := 5) h dX5_sendFor_55 jc2 rfl rfl (by decide) w157 ?_
  refine J_iload_n h dX5_sendFor_58 rfl rfl ?_
  refine J_iald h dX5_sendFor_59 rfl (s1) ?_
  exact k2
theorem rX5_sendForT_66 {l : Launch} {G : jG} {X : jX} {Q : State → Prop} {n hg nc : Nat} {ret : Option FieldType} {mu : jM} {x1 : Int32} {x2 : Int32} (h : jOk l G X cX5_sendFor 4 ret RX5 hg nc) (s1 : vp_in x2 24) (s2 : vp_in x2 24)
    (k3 : J l G X Q 4 97 [.ref 19, .int x1, .int x2, .ref 33] [.int 0, .int (mu 45 (x2).toNatClampNeg), .int (mu 34 (x2).toNatClampNeg), .int x2, .int 3, .ref 25] (wr mu 19 8 ((mu 19 8) ||| (1 <<< (x2 &&& 31)))) n) :
    J l G X Q 4 66 [.ref 19, .int x1, .int x2, .ref 33] [] mu n := by
  refine J_aload_n h dX5_sendFor_66 rfl rfl ?_
  refine J_dup h dX5_sendFor_67 rfl ?_
  refine J_geti (k := 8) h dX5_sendFor_68 jc5 rfl rfl (by decide) w316 ?_
  refine J_iconst h dX5_sendFor_71 ci_1 ?_
  refine J_iload_n h dX5_sendFor_72 rfl rfl ?_
  refine J_ishl h dX5_sendFor_73 ?_
  refine J_ior h dX5_sendFor_74 ?_
  refine J_puti (k := 8) (ty0 := tyX5) h dX5_sendFor_75 jc5 tyX5_ok nmX5 rfl rfl (by decide) rfl rfl rfl w316 ?_
  refine J_aload_n h dX5_sendFor_78 rfl rfl ?_
  refine J_getr (k := 2) h dX5_sendFor_79 jc5 rfl rfl (by decide) w306 ?_
  refine J_iconst h dX5_sendFor_82 ci_3 ?_
  refine J_iload_n h dX5_sendFor_83 rfl rfl ?_
  refine J_aload_n h dX5_sendFor_84 rfl rfl ?_
  refine J_getrN (k := 0) h dX5_sendFor_85 jc6 rfl rfl (by decide) w252 ?_
  refine J_iload_n h dX5_sendFor_88 rfl rfl ?_
  refine J_iald h dX5_sendFor_89 rfl (s1) ?_
  refine J_aload_n h dX5_sendFor_90 rfl rfl ?_
  refine J_getr (k := 5) h dX5_sendFor_91 jc5 rfl rfl (by decide) w312 ?_
  refine J_iload_n h dX5_sendFor_94 rfl rfl ?_
  refine J_iald h dX5_sendFor_95 rfl (s2) ?_
  refine J_iconst h dX5_sendFor_96 ci_0 ?_
  exact k3
theorem rX5_sendForT_103 {l : Launch} {G : jG} {X : jX} {Q : State → Prop} {n hg nc : Nat} {ret : Option FieldType} {mu : jM} {x1 : Int32} {x2 : Int32} (h : jOk l G X cX5_sendFor 4 ret RX5 hg nc) (s1 : vp_in x2 24)
    (k2 : J l G X Q 4 136 [.ref 19, .int x1, .int x2, .ref 33] [.int (mu 36 (x2).toNatClampNeg), .int x2, .int 5, .ref 19] (wr (wr mu 19 8 ((mu 19 8) ||| (1 <<< (x2 &&& 31)))) 19 9 ((mu 19 9) ||| (1 <<< (x2 &&& 31)))) n) :
    J l G X Q 4 103 [.ref 19, .int x1, .int x2, .ref 33] [] mu n := by
  refine J_aload_n h dX5_sendFor_103 rfl rfl ?_
  refine J_dup h dX5_sendFor_104 rfl ?_
  refine J_geti (k := 8) h dX5_sendFor_105 jc5 rfl rfl (by decide) w316 ?_
  refine J_iconst h dX5_sendFor_108 ci_1 ?_
  refine J_iload_n h dX5_sendFor_109 rfl rfl ?_
  refine J_ishl h dX5_sendFor_110 ?_
  refine J_ior h dX5_sendFor_111 ?_
  refine J_puti (k := 8) (ty0 := tyX5) h dX5_sendFor_112 jc5 tyX5_ok nmX5 rfl rfl (by decide) rfl rfl rfl w316 ?_
  refine J_aload_n h dX5_sendFor_115 rfl rfl ?_
  refine J_dup h dX5_sendFor_116 rfl ?_
  refine J_geti (k := 9) h dX5_sendFor_117 jc5 rfl rfl (by decide) w317 ?_
  refine J_iconst h dX5_sendFor_120 ci_1 ?_
  refine J_iload_n h dX5_sendFor_121 rfl rfl ?_
  refine J_ishl h dX5_sendFor_122 ?_
  refine J_ior h dX5_sendFor_123 ?_
  refine J_puti (k := 9) (ty0 := tyX5) h dX5_sendFor_124 jc5 tyX5_ok nmX5 rfl rfl (by decide) rfl rfl rfl w317 ?_
  refine J_aload_n h dX5_sendFor_127 rfl rfl ?_
  refine J_iconst h dX5_sendFor_128 ci_5 ?_
  refine J_iload_n h dX5_sendFor_129 rfl rfl ?_
  refine J_aload_n h dX5_sendFor_130 rfl rfl ?_
  refine J_getrN (k := 2) h dX5_sendFor_131 jc6 rfl rfl (by decide) w257 ?_
  refine J_iload_n h dX5_sendFor_134 rfl rfl ?_
  refine J_iald h dX5_sendFor_135 rfl (s1) ?_
  exact k2
theorem rX5_sendForT_158 {l : Launch} {G : jG} {X : jX} {Q : State → Prop} {n hg nc : Nat} {ret : Option FieldType} {mu : jM} {x1 : Int32} {x2 : Int32} (h : jOk l G X cX5_sendFor 4 ret RX5 hg nc) (s1 : vp_in x2 24) (s2 : vp_in x2 24)
    (k3 : J l G X Q 4 190 [.ref 19, .int x1, .int x2, .ref 33] [.int 0, .int (mu 45 (x2).toNatClampNeg), .int (mu 34 (x2).toNatClampNeg), .int x2, .int 7, .ref 25] (wr mu 19 10 ((mu 19 10) ||| (1 <<< (x2 &&& 31)))) n) :
    J l G X Q 4 158 [.ref 19, .int x1, .int x2, .ref 33] [] mu n := by
  refine J_aload_n h dX5_sendFor_158 rfl rfl ?_
  refine J_dup h dX5_sendFor_159 rfl ?_
  refine J_geti (k := 10) h dX5_sendFor_160 jc5 rfl rfl (by decide) w318 ?_
  refine J_iconst h dX5_sendFor_163 ci_1 ?_
  refine J_iload_n h dX5_sendFor_164 rfl rfl ?_
  refine J_ishl h dX5_sendFor_165 ?_
  refine J_ior h dX5_sendFor_166 ?_
  refine J_puti (k := 10) (ty0 := tyX5) h dX5_sendFor_167 jc5 tyX5_ok nmX5 rfl rfl (by decide) rfl rfl rfl w318 ?_
  refine J_aload_n h dX5_sendFor_170 rfl rfl ?_
  refine J_getr (k := 2) h dX5_sendFor_171 jc5 rfl rfl (by decide) w306 ?_
  refine J_bipush h dX5_sendFor_174 cb_7 ?_
  refine J_iload_n h dX5_sendFor_176 rfl rfl ?_
  refine J_aload_n h dX5_sendFor_177 rfl rfl ?_
  refine J_getrN (k := 0) h dX5_sendFor_178 jc6 rfl rfl (by decide) w252 ?_
  refine J_iload_n h dX5_sendFor_181 rfl rfl ?_
  refine J_iald h dX5_sendFor_182 rfl (s1) ?_
  refine J_aload_n h dX5_sendFor_183 rfl rfl ?_
  refine J_getr (k := 5) h dX5_sendFor_184 jc5 rfl rfl (by decide) w312 ?_
  refine J_iload_n h dX5_sendFor_187 rfl rfl ?_
  refine J_iald h dX5_sendFor_188 rfl (s2) ?_
  refine J_iconst h dX5_sendFor_189 ci_0 ?_
  exact k3
theorem rX5_sendForT_196 {l : Launch} {G : jG} {X : jX} {Q : State → Prop} {n hg nc : Nat} {ret : Option FieldType} {mu : jM} {x1 : Int32} {x2 : Int32} (h : jOk l G X cX5_sendFor 4 ret RX5 hg nc) (s1 : vp_in x2 24)
    (k2 : J l G X Q 4 205 [.ref 19, .int x1, .int x2, .ref 33] [.int (mu 36 (x2).toNatClampNeg), .int x2, .int 4, .ref 19] mu n) :
    J l G X Q 4 196 [.ref 19, .int x1, .int x2, .ref 33] [] mu n := by
  refine J_aload_n h dX5_sendFor_196 rfl rfl ?_
  refine J_iconst h dX5_sendFor_197 ci_4 ?_
  refine J_iload_n h dX5_sendFor_198 rfl rfl ?_
  refine J_aload_n h dX5_sendFor_199 rfl rfl ?_
  refine J_getrN (k := 2) h dX5_sendFor_200 jc6 rfl rfl (by decide) w257 ?_
  refine J_iload_n h dX5_sendFor_203 rfl rfl ?_
  refine J_iald h dX5_sendFor_204 rfl (s1) ?_
  exact k2
theorem rX5_sendForT_60 {l : Launch} {G : jG} {X : jX} {Q : State → Prop} {n hg nc : Nat} {ret : Option FieldType} {mu : jM} {x1 : Int32} {x2 : Int32} {y0 : Int32} {y1 : Int32} {y2 : Int32} {Qc : jM → Prop} {h' : Nat} (h : jOk l G X cX5_sendFor 4 ret RX5 hg nc) (hM : jCv l G yX5_sendByPorts cX5_sendByPorts 6 h' (.ref 19 :: [.int y2, .int y1, .int y0]) mu Qc) (hh : h' < hg ∧ 6 ≤ 21) (hn : n ≤ nc)
    (kk : ∀ mu', Qc mu' → J l G X Q 4 63 [.ref 19, .int x1, .int x2, .ref 33] [] mu' n) :
    J l G X Q 4 60 [.ref 19, .int x1, .int x2, .ref 33] [.int y0, .int y1, .int y2, .ref 19] mu n :=
  J_callV (As := [.int y2, .int y1, .int y0]) (rest := []) h dX5_sendFor_60 hM (jgV w849 w851 w23 w80 w852) rfl (ci := 5) rfl rfl nmX5_sendByPorts rfl hh (Nat.le_of_ble_eq_true rfl) rfl kk hn
theorem rX5_sendForT_97 {l : Launch} {G : jG} {X : jX} {Q : State → Prop} {n hg nc : Nat} {ret : Option FieldType} {mu : jM} {x1 : Int32} {x2 : Int32} {y0 : Int32} {y1 : Int32} {y2 : Int32} {y3 : Int32} {y4 : Int32} {Qc : jM → Prop} {h' : Nat} (h : jOk l G X cX5_sendFor 4 ret RX5 hg nc) (hM : jCv l G yX3_send cX3_send 6 h' (.ref 25 :: [.int y4, .int y3, .int y2, .int y1, .int y0]) mu Qc) (hh : h' < hg ∧ 6 ≤ 21) (hn : n ≤ nc)
    (kk : ∀ mu', Qc mu' → J l G X Q 4 100 [.ref 19, .int x1, .int x2, .ref 33] [] mu' n) :
    J l G X Q 4 97 [.ref 19, .int x1, .int x2, .ref 33] [.int y0, .int y1, .int y2, .int y3, .int y4, .ref 25] mu n :=
  J_callV (As := [.int y4, .int y3, .int y2, .int y1, .int y0]) (rest := []) h dX5_sendFor_97 hM (jgV w853 w854 w855 w81 w856) rfl (ci := 3) rfl rfl nmX3_send rfl hh (Nat.le_of_ble_eq_true rfl) rfl kk hn
theorem rX5_sendForT_136 {l : Launch} {G : jG} {X : jX} {Q : State → Prop} {n hg nc : Nat} {ret : Option FieldType} {mu : jM} {x1 : Int32} {x2 : Int32} {y0 : Int32} {y1 : Int32} {y2 : Int32} {Qc : jM → Prop} {h' : Nat} (h : jOk l G X cX5_sendFor 4 ret RX5 hg nc) (hM : jCv l G yX5_sendByNumbers cX5_sendByNumbers 5 h' (.ref 19 :: [.int y2, .int y1, .int y0]) mu Qc) (hh : h' < hg ∧ 5 ≤ 21) (hn : n ≤ nc)
    (kk : ∀ mu', Qc mu' → J l G X Q 4 139 [.ref 19, .int x1, .int x2, .ref 33] [] mu' n) :
    J l G X Q 4 136 [.ref 19, .int x1, .int x2, .ref 33] [.int y0, .int y1, .int y2, .ref 19] mu n :=
  J_callV (As := [.int y2, .int y1, .int y0]) (rest := []) h dX5_sendFor_136 hM (jgV w857 w859 w24 w80 w860) rfl (ci := 5) rfl rfl nmX5_sendByNumbers rfl hh (Nat.le_of_ble_eq_true rfl) rfl kk hn
theorem rX5_sendForT_190 {l : Launch} {G : jG} {X : jX} {Q : State → Prop} {n hg nc : Nat} {ret : Option FieldType} {mu : jM} {x1 : Int32} {x2 : Int32} {y0 : Int32} {y1 : Int32} {y2 : Int32} {y3 : Int32} {y4 : Int32} {Qc : jM → Prop} {h' : Nat} (h : jOk l G X cX5_sendFor 4 ret RX5 hg nc) (hM : jCv l G yX3_send cX3_send 6 h' (.ref 25 :: [.int y4, .int y3, .int y2, .int y1, .int y0]) mu Qc) (hh : h' < hg ∧ 6 ≤ 21) (hn : n ≤ nc)
    (kk : ∀ mu', Qc mu' → J l G X Q 4 193 [.ref 19, .int x1, .int x2, .ref 33] [] mu' n) :
    J l G X Q 4 190 [.ref 19, .int x1, .int x2, .ref 33] [.int y0, .int y1, .int y2, .int y3, .int y4, .ref 25] mu n :=
  J_callV (As := [.int y4, .int y3, .int y2, .int y1, .int y0]) (rest := []) h dX5_sendFor_190 hM (jgV w853 w854 w855 w81 w856) rfl (ci := 3) rfl rfl nmX3_send rfl hh (Nat.le_of_ble_eq_true rfl) rfl kk hn
theorem rX5_sendForT_205 {l : Launch} {G : jG} {X : jX} {Q : State → Prop} {n hg nc : Nat} {ret : Option FieldType} {mu : jM} {x1 : Int32} {x2 : Int32} {y0 : Int32} {y1 : Int32} {y2 : Int32} {Qc : jM → Prop} {h' : Nat} (h : jOk l G X cX5_sendFor 4 ret RX5 hg nc) (hM : jCv l G yX5_sendByNumbers cX5_sendByNumbers 5 h' (.ref 19 :: [.int y2, .int y1, .int y0]) mu Qc) (hh : h' < hg ∧ 5 ≤ 21) (hn : n ≤ nc)
    (kk : ∀ mu', Qc mu' → J l G X Q 4 208 [.ref 19, .int x1, .int x2, .ref 33] [] mu' n) :
    J l G X Q 4 205 [.ref 19, .int x1, .int x2, .ref 33] [.int y0, .int y1, .int y2, .ref 19] mu n :=
  J_callV (As := [.int y2, .int y1, .int y0]) (rest := []) h dX5_sendFor_205 hM (jgV w857 w859 w24 w80 w860) rfl (ci := 5) rfl rfl nmX5_sendByNumbers rfl hh (Nat.le_of_ble_eq_true rfl) rfl kk hn
theorem rX5_sendForT_63 {l : Launch} {G : jG} {X : jX} {Q : State → Prop} {n hg nc : Nat} {ret : Option FieldType} {mu : jM} {x1 : Int32} {x2 : Int32} (h : jOk l G X cX5_sendFor 4 ret RX5 hg nc)
    (k1 : J l G X Q 4 211 [.ref 19, .int x1, .int x2, .ref 33] [] mu n) :
    J l G X Q 4 63 [.ref 19, .int x1, .int x2, .ref 33] [] mu n := by
  refine J_goto (tgt := 211) h dX5_sendFor_63 (by decide) ?_
  exact k1
theorem rX5_sendForT_100 {l : Launch} {G : jG} {X : jX} {Q : State → Prop} {n hg nc : Nat} {ret : Option FieldType} {mu : jM} {x1 : Int32} {x2 : Int32} (h : jOk l G X cX5_sendFor 4 ret RX5 hg nc)
    (k1 : J l G X Q 4 211 [.ref 19, .int x1, .int x2, .ref 33] [] mu n) :
    J l G X Q 4 100 [.ref 19, .int x1, .int x2, .ref 33] [] mu n := by
  refine J_goto (tgt := 211) h dX5_sendFor_100 (by decide) ?_
  exact k1
theorem rX5_sendForT_139 {l : Launch} {G : jG} {X : jX} {Q : State → Prop} {n hg nc : Nat} {ret : Option FieldType} {mu : jM} {x1 : Int32} {x2 : Int32} (h : jOk l G X cX5_sendFor 4 ret RX5 hg nc) (s1 : vp_in x2 24)
    (k2 : J l G X Q 4 152 [.ref 19, .int x1, .int x2, .ref 33] [.int (mu 43 (x2).toNatClampNeg), .int x2, .int 6, .ref 19] mu n) :
    J l G X Q 4 139 [.ref 19, .int x1, .int x2, .ref 33] [] mu n := by
  refine J_aload_n h dX5_sendFor_139 rfl rfl ?_
  refine J_bipush h dX5_sendFor_140 cb_6 ?_
  refine J_iload_n h dX5_sendFor_142 rfl rfl ?_
  refine J_aload_n h dX5_sendFor_143 rfl rfl ?_
  refine J_getr (k := 4) h dX5_sendFor_144 jc5 rfl rfl (by decide) w310 ?_
  refine J_getrN (k := 4) h dX5_sendFor_147 jc0 rfl rfl (by decide) w283 ?_
  refine J_iload_n h dX5_sendFor_150 rfl rfl ?_
  refine J_iald h dX5_sendFor_151 rfl (s1) ?_
  exact k2
theorem rX5_sendForT_193 {l : Launch} {G : jG} {X : jX} {Q : State → Prop} {n hg nc : Nat} {ret : Option FieldType} {mu : jM} {x1 : Int32} {x2 : Int32} (h : jOk l G X cX5_sendFor 4 ret RX5 hg nc)
    (k1 : J l G X Q 4 211 [.ref 19, .int x1, .int x2, .ref 33] [] mu n) :
    J l G X Q 4 193 [.ref 19, .int x1, .int x2, .ref 33] [] mu n := by
  refine J_goto (tgt := 211) h dX5_sendFor_193 (by decide) ?_
  exact k1
theorem rX5_sendForT_208 {l : Launch} {G : jG} {X : jX} {Q : State → Prop} {n hg nc : Nat} {ret : Option FieldType} {mu : jM} {x1 : Int32} {x2 : Int32} (h : jOk l G X cX5_sendFor 4 ret RX5 hg nc)
    (k1 : J l G X Q 4 211 [.ref 19, .int x1, .int x2, .ref 33] [] mu n) :
    J l G X Q 4 208 [.ref 19, .int x1, .int x2, .ref 33] [] mu n := by
  refine J_goto (tgt := 211) h dX5_sendFor_208 (by decide) ?_
  exact k1
theorem rX5_sendForT_152 {l : Launch} {G : jG} {X : jX} {Q : State → Prop} {n hg nc : Nat} {ret : Option FieldType} {mu : jM} {x1 : Int32} {x2 : Int32} {y0 : Int32} {y1 : Int32} {y2 : Int32} {Qc : jM → Prop} {h' : Nat} (h : jOk l G X cX5_sendFor 4 ret RX5 hg nc) (hM : jCv l G yX5_sendByPorts cX5_sendByPorts 6 h' (.ref 19 :: [.int y2, .int y1, .int y0]) mu Qc) (hh : h' < hg ∧ 6 ≤ 21) (hn : n ≤ nc)
    (kk : ∀ mu', Qc mu' → J l G X Q 4 155 [.ref 19, .int x1, .int x2, .ref 33] [] mu' n) :
    J l G X Q 4 152 [.ref 19, .int x1, .int x2, .ref 33] [.int y0, .int y1, .int y2, .ref 19] mu n :=
  J_callV (As := [.int y2, .int y1, .int y0]) (rest := []) h dX5_sendFor_152 hM (jgV w849 w851 w23 w80 w852) rfl (ci := 5) rfl rfl nmX5_sendByPorts rfl hh (Nat.le_of_ble_eq_true rfl) rfl kk hn
theorem rX5_sendForT_155 {l : Launch} {G : jG} {X : jX} {Q : State → Prop} {n hg nc : Nat} {ret : Option FieldType} {mu : jM} {x1 : Int32} {x2 : Int32} (h : jOk l G X cX5_sendFor 4 ret RX5 hg nc)
    (k1 : J l G X Q 4 211 [.ref 19, .int x1, .int x2, .ref 33] [] mu n) :
    J l G X Q 4 155 [.ref 19, .int x1, .int x2, .ref 33] [] mu n := by
  refine J_goto (tgt := 211) h dX5_sendFor_155 (by decide) ?_
  exact k1
/-! LockstepNet$Run.sendFor(IILLockstepNet$Tree;)V C -/
theorem rX5_sendForC_0 {l : Launch} {G : jG} {X : jX} {Q : State → Prop} {n hg nc : Nat} {ret : Option FieldType} {mu : jM} {x1 : Int32} {x2 : Int32} (h : jOk l G X cX5_sendFor 4 ret RX5 hg nc)
    (k1 : J l G X Q 4 1 [.ref 19, .int x1, .int x2, .ref 38] [.int x1] mu n) :
    J l G X Q 4 0 [.ref 19, .int x1, .int x2, .ref 38] [] mu n := by
  refine J_iload_n h dX5_sendFor_0 rfl rfl ?_
  exact k1
theorem rX5_sendForC_1 {l : Launch} {G : jG} {X : jX} {Q : State → Prop} {n hg nc : Nat} {ret : Option FieldType} {mu : jM} {x1 : Int32} {x2 : Int32} {y0 : Int32} (h : jOk l G X cX5_sendFor 4 ret RX5 hg nc)
    (k1 : y0 = 1 → J l G X Q 4 36 [.ref 19, .int x1, .int x2, .ref 38] [] mu n)
    (k2 : y0 = 2 → J l G X Q 4 66 [.ref 19, .int x1, .int x2, .ref 38] [] mu n)
    (k3 : y0 = 3 → J l G X Q 4 103 [.ref 19, .int x1, .int x2, .ref 38] [] mu n)
    (k4 : y0 = 4 → J l G X Q 4 158 [.ref 19, .int x1, .int x2, .ref 38] [] mu n)
    (k5 : y0 = 5 → J l G X Q 4 196 [.ref 19, .int x1, .int x2, .ref 38] [] mu n)
    (kd : ¬ y0 = 1 → ¬ y0 = 2 → ¬ y0 = 3 → ¬ y0 = 4 → ¬ y0 = 5 → J l G X Q 4 211 [.ref 19, .int x1, .int x2, .ref 38] [] mu n) :
    J l G X Q 4 1 [.ref 19, .int x1, .int x2, .ref 38] [.int y0] mu n := by
  by_cases e1 : y0 = 1
  · subst e1
    exact J_tableIn (tgt := 36) (off := 35) h dX5_sendFor_1 (by decide) (by decide) (by decide) (by decide) (k1 rfl)
  by_cases e2 : y0 = 2
  · subst e2
    exact J_tableIn (tgt := 66) (off := 65) h dX5_sendFor_1 (by decide) (by decide) (by decide) (by decide) (k2 rfl)
  by_cases e3 : y0 = 3
  · subst e3
    exact J_tableIn (tgt := 103) (off := 102) h dX5_sendFor_1 (by decide) (by decide) (by decide) (by decide) (k3 rfl)
  by_cases e4 : y0 = 4
  · subst e4
    exact J_tableIn (tgt := 158) (off := 157) h dX5_sendFor_1 (by decide) (by decide) (by decide) (by decide) (k4 rfl)
  by_cases e5 : y0 = 5
  · subst e5
    exact J_tableIn (tgt := 196) (off := 195) h dX5_sendFor_1 (by decide) (by decide) (by decide) (by decide) (k5 rfl)
  refine J_tableOut (tgt := 211) h dX5_sendFor_1 ?_ (by decide) (kd e1 e2 e3 e4 e5)
  refine jout 5 (by decide) (fun k hk => ?_)
  match k, hk with
  | 0, _ => exact lv_neT e1 (by decide)
  | 1, _ => exact lv_neT e2 (by decide)
  | 2, _ => exact lv_neT e3 (by decide)
  | 3, _ => exact lv_neT e4 (by decide)
  | 4, _ => exact lv_neT e5 (by decide)
  | k + 5, hk => omega
theorem rX5_sendForC_36 {l : Launch} {G : jG} {X : jX} {Q : State → Prop} {n hg nc : Nat} {ret : Option FieldType} {mu : jM} {x1 : Int32} {x2 : Int32} (h : jOk l G X cX5_sendFor 4 ret RX5 hg nc) (s1 : vp_in x2 24)
    (k2 : J l G X Q 4 60 [.ref 19, .int x1, .int x2, .ref 38] [.int (mu 10 (x2).toNatClampNeg), .int x2, .int 2, .ref 19] (wr mu 19 8 ((mu 19 8) ||| (1 <<< (x2 &&& 31)))) n) :
    J l G X Q 4 36 [.ref 19, .int x1, .int x2, .ref 38] [] mu n := by
  refine J_aload_n h dX5_sendFor_36 rfl rfl ?_
  refine J_dup h dX5_sendFor_37 rfl ?_
  refine J_geti (k := 8) h dX5_sendFor_38 jc5 rfl rfl (by decide) w316 ?_
  refine J_iconst h dX5_sendFor_41 ci_1 ?_
  refine J_iload_n h dX5_sendFor_42 rfl rfl ?_
  refine J_ishl h dX5_sendFor_43 ?_
  refine J_ior h dX5_sendFor_44 ?_
  refine J_puti (k := 8) (ty0 := tyX5) h dX5_sendFor_45 jc5 tyX5_ok nmX5 rfl rfl (by decide) rfl rfl rfl w316 ?_
  refine J_aload_n h dX5_sendFor_48 rfl rfl ?_
  refine J_iconst h dX5_sendFor_49 ci_2 ?_
  refine J_iload_n h dX5_sendFor_50 rfl rfl ?_
  refine J_aload_n h dX5_sendFor_51 rfl rfl ?_
  refine J_getr (k := 0) h dX5_sendFor_52 jc5 rfl rfl (by decide) w303 ?_
  refine J_getrN (k := 5) h dX5_sendFor_55 jc2 rfl rfl (by decide) w157 ?_
  refine J_iload_n h dX5_sendFor_58 rfl rfl ?_
  refine J_iald h dX5_sendFor_59 rfl (s1) ?_
  exact k2
theorem rX5_sendForC_66 {l : Launch} {G : jG} {X : jX} {Q : State → Prop} {n hg nc : Nat} {ret : Option FieldType} {mu : jM} {x1 : Int32} {x2 : Int32} (h : jOk l G X cX5_sendFor 4 ret RX5 hg nc) (s1 : vp_in x2 24) (s2 : vp_in x2 24)
    (k3 : J l G X Q 4 97 [.ref 19, .int x1, .int x2, .ref 38] [.int 0, .int (mu 45 (x2).toNatClampNeg), .int (mu 39 (x2).toNatClampNeg), .int x2, .int 3, .ref 25] (wr mu 19 8 ((mu 19 8) ||| (1 <<< (x2 &&& 31)))) n) :
    J l G X Q 4 66 [.ref 19, .int x1, .int x2, .ref 38] [] mu n := by
  refine J_aload_n h dX5_sendFor_66 rfl rfl ?_
  refine J_dup h dX5_sendFor_67 rfl ?_
  refine J_geti (k := 8) h dX5_sendFor_68 jc5 rfl rfl (by decide) w316 ?_
  refine J_iconst h dX5_sendFor_71 ci_1 ?_
  refine J_iload_n h dX5_sendFor_72 rfl rfl ?_
  refine J_ishl h dX5_sendFor_73 ?_
  refine J_ior h dX5_sendFor_74 ?_
  refine J_puti (k := 8) (ty0 := tyX5) h dX5_sendFor_75 jc5 tyX5_ok nmX5 rfl rfl (by decide) rfl rfl rfl w316 ?_
  refine J_aload_n h dX5_sendFor_78 rfl rfl ?_
  refine J_getr (k := 2) h dX5_sendFor_79 jc5 rfl rfl (by decide) w306 ?_
  refine J_iconst h dX5_sendFor_82 ci_3 ?_
  refine J_iload_n h dX5_sendFor_83 rfl rfl ?_
  refine J_aload_n h dX5_sendFor_84 rfl rfl ?_
  refine J_getrN (k := 0) h dX5_sendFor_85 jc6 rfl rfl (by decide) w252 ?_
  refine J_iload_n h dX5_sendFor_88 rfl rfl ?_
  refine J_iald h dX5_sendFor_89 rfl (s1) ?_
  refine J_aload_n h dX5_sendFor_90 rfl rfl ?_
  refine J_getr (k := 5) h dX5_sendFor_91 jc5 rfl rfl (by decide) w312 ?_
  refine J_iload_n h dX5_sendFor_94 rfl rfl ?_
  refine J_iald h dX5_sendFor_95 rfl (s2) ?_
  refine J_iconst h dX5_sendFor_96 ci_0 ?_
  exact k3
theorem rX5_sendForC_103 {l : Launch} {G : jG} {X : jX} {Q : State → Prop} {n hg nc : Nat} {ret : Option FieldType} {mu : jM} {x1 : Int32} {x2 : Int32} (h : jOk l G X cX5_sendFor 4 ret RX5 hg nc) (s1 : vp_in x2 24)
    (k2 : J l G X Q 4 136 [.ref 19, .int x1, .int x2, .ref 38] [.int (mu 41 (x2).toNatClampNeg), .int x2, .int 5, .ref 19] (wr (wr mu 19 8 ((mu 19 8) ||| (1 <<< (x2 &&& 31)))) 19 9 ((mu 19 9) ||| (1 <<< (x2 &&& 31)))) n) :
    J l G X Q 4 103 [.ref 19, .int x1, .int x2, .ref 38] [] mu n := by
  refine J_aload_n h dX5_sendFor_103 rfl rfl ?_
  refine J_dup h dX5_sendFor_104 rfl ?_
  refine J_geti (k := 8) h dX5_sendFor_105 jc5 rfl rfl (by decide) w316 ?_
  refine J_iconst h dX5_sendFor_108 ci_1 ?_
  refine J_iload_n h dX5_sendFor_109 rfl rfl ?_
  refine J_ishl h dX5_sendFor_110 ?_
  refine J_ior h dX5_sendFor_111 ?_
  refine J_puti (k := 8) (ty0 := tyX5) h dX5_sendFor_112 jc5 tyX5_ok nmX5 rfl rfl (by decide) rfl rfl rfl w316 ?_
  refine J_aload_n h dX5_sendFor_115 rfl rfl ?_
  refine J_dup h dX5_sendFor_116 rfl ?_
  refine J_geti (k := 9) h dX5_sendFor_117 jc5 rfl rfl (by decide) w317 ?_
  refine J_iconst h dX5_sendFor_120 ci_1 ?_
  refine J_iload_n h dX5_sendFor_121 rfl rfl ?_
  refine J_ishl h dX5_sendFor_122 ?_
  refine J_ior h dX5_sendFor_123 ?_
  refine J_puti (k := 9) (ty0 := tyX5) h dX5_sendFor_124 jc5 tyX5_ok nmX5 rfl rfl (by decide) rfl rfl rfl w317 ?_
  refine J_aload_n h dX5_sendFor_127 rfl rfl ?_
  refine J_iconst h dX5_sendFor_128 ci_5 ?_
  refine J_iload_n h dX5_sendFor_129 rfl rfl ?_
  refine J_aload_n h dX5_sendFor_130 rfl rfl ?_
  refine J_getrN (k := 2) h dX5_sendFor_131 jc6 rfl rfl (by decide) w257 ?_
  refine J_iload_n h dX5_sendFor_134 rfl rfl ?_
  refine J_iald h dX5_sendFor_135 rfl (s1) ?_
  exact k2
theorem rX5_sendForC_158 {l : Launch} {G : jG} {X : jX} {Q : State → Prop} {n hg nc : Nat} {ret : Option FieldType} {mu : jM} {x1 : Int32} {x2 : Int32} (h : jOk l G X cX5_sendFor 4 ret RX5 hg nc) (s1 : vp_in x2 24) (s2 : vp_in x2 24)
    (k3 : J l G X Q 4 190 [.ref 19, .int x1, .int x2, .ref 38] [.int 0, .int (mu 45 (x2).toNatClampNeg), .int (mu 39 (x2).toNatClampNeg), .int x2, .int 7, .ref 25] (wr mu 19 10 ((mu 19 10) ||| (1 <<< (x2 &&& 31)))) n) :
    J l G X Q 4 158 [.ref 19, .int x1, .int x2, .ref 38] [] mu n := by
  refine J_aload_n h dX5_sendFor_158 rfl rfl ?_
  refine J_dup h dX5_sendFor_159 rfl ?_
  refine J_geti (k := 10) h dX5_sendFor_160 jc5 rfl rfl (by decide) w318 ?_
  refine J_iconst h dX5_sendFor_163 ci_1 ?_
  refine J_iload_n h dX5_sendFor_164 rfl rfl ?_
  refine J_ishl h dX5_sendFor_165 ?_
  refine J_ior h dX5_sendFor_166 ?_
  refine J_puti (k := 10) (ty0 := tyX5) h dX5_sendFor_167 jc5 tyX5_ok nmX5 rfl rfl (by decide) rfl rfl rfl w318 ?_
  refine J_aload_n h dX5_sendFor_170 rfl rfl ?_
  refine J_getr (k := 2) h dX5_sendFor_171 jc5 rfl rfl (by decide) w306 ?_
  refine J_bipush h dX5_sendFor_174 cb_7 ?_
  refine J_iload_n h dX5_sendFor_176 rfl rfl ?_
  refine J_aload_n h dX5_sendFor_177 rfl rfl ?_
  refine J_getrN (k := 0) h dX5_sendFor_178 jc6 rfl rfl (by decide) w252 ?_
  refine J_iload_n h dX5_sendFor_181 rfl rfl ?_
  refine J_iald h dX5_sendFor_182 rfl (s1) ?_
  refine J_aload_n h dX5_sendFor_183 rfl rfl ?_
  refine J_getr (k := 5) h dX5_sendFor_184 jc5 rfl rfl (by decide) w312 ?_
  refine J_iload_n h dX5_sendFor_187 rfl rfl ?_
  refine J_iald h dX5_sendFor_188 rfl (s2) ?_
  refine J_iconst h dX5_sendFor_189 ci_0 ?_
  exact k3
theorem rX5_sendForC_196 {l : Launch} {G : jG} {X : jX} {Q : State → Prop} {n hg nc : Nat} {ret : Option FieldType} {mu : jM} {x1 : Int32} {x2 : Int32} (h : jOk l G X cX5_sendFor 4 ret RX5 hg nc) (s1 : vp_in x2 24)
    (k2 : J l G X Q 4 205 [.ref 19, .int x1, .int x2, .ref 38] [.int (mu 41 (x2).toNatClampNeg), .int x2, .int 4, .ref 19] mu n) :
    J l G X Q 4 196 [.ref 19, .int x1, .int x2, .ref 38] [] mu n := by
  refine J_aload_n h dX5_sendFor_196 rfl rfl ?_
  refine J_iconst h dX5_sendFor_197 ci_4 ?_
  refine J_iload_n h dX5_sendFor_198 rfl rfl ?_
  refine J_aload_n h dX5_sendFor_199 rfl rfl ?_
  refine J_getrN (k := 2) h dX5_sendFor_200 jc6 rfl rfl (by decide) w257 ?_
  refine J_iload_n h dX5_sendFor_203 rfl rfl ?_
  refine J_iald h dX5_sendFor_204 rfl (s1) ?_
  exact k2
theorem rX5_sendForC_60 {l : Launch} {G : jG} {X : jX} {Q : State → Prop} {n hg nc : Nat} {ret : Option FieldType} {mu : jM} {x1 : Int32} {x2 : Int32} {y0 : Int32} {y1 : Int32} {y2 : Int32} {Qc : jM → Prop} {h' : Nat} (h : jOk l G X cX5_sendFor 4 ret RX5 hg nc) (hM : jCv l G yX5_sendByPorts cX5_sendByPorts 6 h' (.ref 19 :: [.int y2, .int y1, .int y0]) mu Qc) (hh : h' < hg ∧ 6 ≤ 21) (hn : n ≤ nc)
    (kk : ∀ mu', Qc mu' → J l G X Q 4 63 [.ref 19, .int x1, .int x2, .ref 38] [] mu' n) :
    J l G X Q 4 60 [.ref 19, .int x1, .int x2, .ref 38] [.int y0, .int y1, .int y2, .ref 19] mu n :=
  J_callV (As := [.int y2, .int y1, .int y0]) (rest := []) h dX5_sendFor_60 hM (jgV w849 w851 w23 w80 w852) rfl (ci := 5) rfl rfl nmX5_sendByPorts rfl hh (Nat.le_of_ble_eq_true rfl) rfl kk hn
theorem rX5_sendForC_97 {l : Launch} {G : jG} {X : jX} {Q : State → Prop} {n hg nc : Nat} {ret : Option FieldType} {mu : jM} {x1 : Int32} {x2 : Int32} {y0 : Int32} {y1 : Int32} {y2 : Int32} {y3 : Int32} {y4 : Int32} {Qc : jM → Prop} {h' : Nat} (h : jOk l G X cX5_sendFor 4 ret RX5 hg nc) (hM : jCv l G yX3_send cX3_send 6 h' (.ref 25 :: [.int y4, .int y3, .int y2, .int y1, .int y0]) mu Qc) (hh : h' < hg ∧ 6 ≤ 21) (hn : n ≤ nc)
    (kk : ∀ mu', Qc mu' → J l G X Q 4 100 [.ref 19, .int x1, .int x2, .ref 38] [] mu' n) :
    J l G X Q 4 97 [.ref 19, .int x1, .int x2, .ref 38] [.int y0, .int y1, .int y2, .int y3, .int y4, .ref 25] mu n :=
  J_callV (As := [.int y4, .int y3, .int y2, .int y1, .int y0]) (rest := []) h dX5_sendFor_97 hM (jgV w853 w854 w855 w81 w856) rfl (ci := 3) rfl rfl nmX3_send rfl hh (Nat.le_of_ble_eq_true rfl) rfl kk hn
theorem rX5_sendForC_136 {l : Launch} {G : jG} {X : jX} {Q : State → Prop} {n hg nc : Nat} {ret : Option FieldType} {mu : jM} {x1 : Int32} {x2 : Int32} {y0 : Int32} {y1 : Int32} {y2 : Int32} {Qc : jM → Prop} {h' : Nat} (h : jOk l G X cX5_sendFor 4 ret RX5 hg nc) (hM : jCv l G yX5_sendByNumbers cX5_sendByNumbers 5 h' (.ref 19 :: [.int y2, .int y1, .int y0]) mu Qc) (hh : h' < hg ∧ 5 ≤ 21) (hn : n ≤ nc)
    (kk : ∀ mu', Qc mu' → J l G X Q 4 139 [.ref 19, .int x1, .int x2, .ref 38] [] mu' n) :
    J l G X Q 4 136 [.ref 19, .int x1, .int x2, .ref 38] [.int y0, .int y1, .int y2, .ref 19] mu n :=
  J_callV (As := [.int y2, .int y1, .int y0]) (rest := []) h dX5_sendFor_136 hM (jgV w857 w859 w24 w80 w860) rfl (ci := 5) rfl rfl nmX5_sendByNumbers rfl hh (Nat.le_of_ble_eq_true rfl) rfl kk hn
theorem rX5_sendForC_190 {l : Launch} {G : jG} {X : jX} {Q : State → Prop} {n hg nc : Nat} {ret : Option FieldType} {mu : jM} {x1 : Int32} {x2 : Int32} {y0 : Int32} {y1 : Int32} {y2 : Int32} {y3 : Int32} {y4 : Int32} {Qc : jM → Prop} {h' : Nat} (h : jOk l G X cX5_sendFor 4 ret RX5 hg nc) (hM : jCv l G yX3_send cX3_send 6 h' (.ref 25 :: [.int y4, .int y3, .int y2, .int y1, .int y0]) mu Qc) (hh : h' < hg ∧ 6 ≤ 21) (hn : n ≤ nc)
    (kk : ∀ mu', Qc mu' → J l G X Q 4 193 [.ref 19, .int x1, .int x2, .ref 38] [] mu' n) :
    J l G X Q 4 190 [.ref 19, .int x1, .int x2, .ref 38] [.int y0, .int y1, .int y2, .int y3, .int y4, .ref 25] mu n :=
  J_callV (As := [.int y4, .int y3, .int y2, .int y1, .int y0]) (rest := []) h dX5_sendFor_190 hM (jgV w853 w854 w855 w81 w856) rfl (ci := 3) rfl rfl nmX3_send rfl hh (Nat.le_of_ble_eq_true rfl) rfl kk hn
theorem rX5_sendForC_205 {l : Launch} {G : jG} {X : jX} {Q : State → Prop} {n hg nc : Nat} {ret : Option FieldType} {mu : jM} {x1 : Int32} {x2 : Int32} {y0 : Int32} {y1 : Int32} {y2 : Int32} {Qc : jM → Prop} {h' : Nat} (h : jOk l G X cX5_sendFor 4 ret RX5 hg nc) (hM : jCv l G yX5_sendByNumbers cX5_sendByNumbers 5 h' (.ref 19 :: [.int y2, .int y1, .int y0]) mu Qc) (hh : h' < hg ∧ 5 ≤ 21) (hn : n ≤ nc)
    (kk : ∀ mu', Qc mu' → J l G X Q 4 208 [.ref 19, .int x1, .int x2, .ref 38] [] mu' n) :
    J l G X Q 4 205 [.ref 19, .int x1, .int x2, .ref 38] [.int y0, .int y1, .int y2, .ref 19] mu n :=
  J_callV (As := [.int y2, .int y1, .int y0]) (rest := []) h dX5_sendFor_205 hM (jgV w857 w859 w24 w80 w860) rfl (ci := 5) rfl rfl nmX5_sendByNumbers rfl hh (Nat.le_of_ble_eq_true rfl) rfl kk hn
theorem rX5_sendForC_63 {l : Launch} {G : jG} {X : jX} {Q : State → Prop} {n hg nc : Nat} {ret : Option FieldType} {mu : jM} {x1 : Int32} {x2 : Int32} (h : jOk l G X cX5_sendFor 4 ret RX5 hg nc)
    (k1 : J l G X Q 4 211 [.ref 19, .int x1, .int x2, .ref 38] [] mu n) :
    J l G X Q 4 63 [.ref 19, .int x1, .int x2, .ref 38] [] mu n := by
  refine J_goto (tgt := 211) h dX5_sendFor_63 (by decide) ?_
  exact k1
theorem rX5_sendForC_100 {l : Launch} {G : jG} {X : jX} {Q : State → Prop} {n hg nc : Nat} {ret : Option FieldType} {mu : jM} {x1 : Int32} {x2 : Int32} (h : jOk l G X cX5_sendFor 4 ret RX5 hg nc)
    (k1 : J l G X Q 4 211 [.ref 19, .int x1, .int x2, .ref 38] [] mu n) :
    J l G X Q 4 100 [.ref 19, .int x1, .int x2, .ref 38] [] mu n := by
  refine J_goto (tgt := 211) h dX5_sendFor_100 (by decide) ?_
  exact k1
theorem rX5_sendForC_139 {l : Launch} {G : jG} {X : jX} {Q : State → Prop} {n hg nc : Nat} {ret : Option FieldType} {mu : jM} {x1 : Int32} {x2 : Int32} (h : jOk l G X cX5_sendFor 4 ret RX5 hg nc) (s1 : vp_in x2 24)
    (k2 : J l G X Q 4 152 [.ref 19, .int x1, .int x2, .ref 38] [.int (mu 43 (x2).toNatClampNeg), .int x2, .int 6, .ref 19] mu n) :
    J l G X Q 4 139 [.ref 19, .int x1, .int x2, .ref 38] [] mu n := by
  refine J_aload_n h dX5_sendFor_139 rfl rfl ?_
  refine J_bipush h dX5_sendFor_140 cb_6 ?_
  refine J_iload_n h dX5_sendFor_142 rfl rfl ?_
  refine J_aload_n h dX5_sendFor_143 rfl rfl ?_
  refine J_getr (k := 4) h dX5_sendFor_144 jc5 rfl rfl (by decide) w310 ?_
  refine J_getrN (k := 4) h dX5_sendFor_147 jc0 rfl rfl (by decide) w283 ?_
  refine J_iload_n h dX5_sendFor_150 rfl rfl ?_
  refine J_iald h dX5_sendFor_151 rfl (s1) ?_
  exact k2
theorem rX5_sendForC_193 {l : Launch} {G : jG} {X : jX} {Q : State → Prop} {n hg nc : Nat} {ret : Option FieldType} {mu : jM} {x1 : Int32} {x2 : Int32} (h : jOk l G X cX5_sendFor 4 ret RX5 hg nc)
    (k1 : J l G X Q 4 211 [.ref 19, .int x1, .int x2, .ref 38] [] mu n) :
    J l G X Q 4 193 [.ref 19, .int x1, .int x2, .ref 38] [] mu n := by
  refine J_goto (tgt := 211) h dX5_sendFor_193 (by decide) ?_
  exact k1
theorem rX5_sendForC_208 {l : Launch} {G : jG} {X : jX} {Q : State → Prop} {n hg nc : Nat} {ret : Option FieldType} {mu : jM} {x1 : Int32} {x2 : Int32} (h : jOk l G X cX5_sendFor 4 ret RX5 hg nc)
    (k1 : J l G X Q 4 211 [.ref 19, .int x1, .int x2, .ref 38] [] mu n) :
    J l G X Q 4 208 [.ref 19, .int x1, .int x2, .ref 38] [] mu n := by
  refine J_goto (tgt := 211) h dX5_sendFor_208 (by decide) ?_
  exact k1
theorem rX5_sendForC_152 {l : Launch} {G : jG} {X : jX} {Q : State → Prop} {n hg nc : Nat} {ret : Option FieldType} {mu : jM} {x1 : Int32} {x2 : Int32} {y0 : Int32} {y1 : Int32} {y2 : Int32} {Qc : jM → Prop} {h' : Nat} (h : jOk l G X cX5_sendFor 4 ret RX5 hg nc) (hM : jCv l G yX5_sendByPorts cX5_sendByPorts 6 h' (.ref 19 :: [.int y2, .int y1, .int y0]) mu Qc) (hh : h' < hg ∧ 6 ≤ 21) (hn : n ≤ nc)
    (kk : ∀ mu', Qc mu' → J l G X Q 4 155 [.ref 19, .int x1, .int x2, .ref 38] [] mu' n) :
    J l G X Q 4 152 [.ref 19, .int x1, .int x2, .ref 38] [.int y0, .int y1, .int y2, .ref 19] mu n :=
  J_callV (As := [.int y2, .int y1, .int y0]) (rest := []) h dX5_sendFor_152 hM (jgV w849 w851 w23 w80 w852) rfl (ci := 5) rfl rfl nmX5_sendByPorts rfl hh (Nat.le_of_ble_eq_true rfl) rfl kk hn
theorem rX5_sendForC_155 {l : Launch} {G : jG} {X : jX} {Q : State → Prop} {n hg nc : Nat} {ret : Option FieldType} {mu : jM} {x1 : Int32} {x2 : Int32} (h : jOk l G X cX5_sendFor 4 ret RX5 hg nc)
    (k1 : J l G X Q 4 211 [.ref 19, .int x1, .int x2, .ref 38] [] mu n) :
    J l G X Q 4 155 [.ref 19, .int x1, .int x2, .ref 38] [] mu n := by
  refine J_goto (tgt := 211) h dX5_sendFor_155 (by decide) ?_
  exact k1
