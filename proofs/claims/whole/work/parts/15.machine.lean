/-! LockstepNet$Machine.boxOf(II)I -/
theorem rX1_boxOf_0 {l : Launch} {G : jG} {X : jX} {Q : State → Prop} {n hg nc : Nat} {ret : Option FieldType} {mu : jM} {x0 : Int32} {x1 : Int32} (h : jOk l G X cX1_boxOf 2 ret RX1 hg nc)
    (k1 : J l G X Q 2 8 [.int x0, .int x1] [.int (((x1 &&& 1) * 24) + x0)] mu n) :
    J l G X Q 2 0 [.int x0, .int x1] [] mu n := by
  refine J_iload_n h dX1_boxOf_0 rfl rfl ?_
  refine J_iconst h dX1_boxOf_1 ci_1 ?_
  refine J_iand h dX1_boxOf_2 ?_
  refine J_bipush h dX1_boxOf_3 cb_24 ?_
  refine J_imul h dX1_boxOf_5 ?_
  refine J_iload_n h dX1_boxOf_6 rfl rfl ?_
  refine J_iadd h dX1_boxOf_7 ?_
  exact k1
/-! LockstepNet$Machine.combined(III)I -/
theorem rX1_combined_0 {l : Launch} {G : jG} {X : jX} {Q : State → Prop} {n hg nc : Nat} {ret : Option FieldType} {mu : jM} {x0 : Int32} {x1 : Int32} {x2 : Int32} (h : jOk l G X cX1_combined 3 ret RX1 hg nc)
    (k1 : J l G X Q 3 1 [.int x0, .int x1, .int x2] [.int x0] mu n) :
    J l G X Q 3 0 [.int x0, .int x1, .int x2] [] mu n := by
  refine J_iload_n h dX1_combined_0 rfl rfl ?_
  exact k1
theorem rX1_combined_1 {l : Launch} {G : jG} {X : jX} {Q : State → Prop} {n hg nc : Nat} {ret : Option FieldType} {mu : jM} {x0 : Int32} {x1 : Int32} {x2 : Int32} {y0 : Int32} (h : jOk l G X cX1_combined 3 ret RX1 hg nc)
    (k2 : y0 = 2 → J l G X Q 3 52 [.int x0, .int x1, .int x2] [] mu n)
    (k3 : y0 = 3 → J l G X Q 3 56 [.int x0, .int x1, .int x2] [] mu n)
    (k4 : y0 = 4 → J l G X Q 3 60 [.int x0, .int x1, .int x2] [] mu n)
    (k5 : y0 = 5 → J l G X Q 3 64 [.int x0, .int x1, .int x2] [] mu n)
    (k6 : y0 = 6 → J l G X Q 3 75 [.int x0, .int x1, .int x2] [] mu n)
    (k7 : y0 = 7 → J l G X Q 3 86 [.int x0, .int x1, .int x2] [] mu n)
    (k8 : y0 = 8 → J l G X Q 3 97 [.int x0, .int x1, .int x2] [] mu n)
    (k9 : y0 = 9 → J l G X Q 3 108 [.int x0, .int x1, .int x2] [] mu n)
    (k10 : y0 = 10 → J l G X Q 3 112 [.int x0, .int x1, .int x2] [] mu n)
    (kd : ¬ y0 = 2 → ¬ y0 = 3 → ¬ y0 = 4 → ¬ y0 = 5 → ¬ y0 = 6 → ¬ y0 = 7 → ¬ y0 = 8 → ¬ y0 = 9 → ¬ y0 = 10 → J l G X Q 3 116 [.int x0, .int x1, .int x2] [] mu n) :
    J l G X Q 3 1 [.int x0, .int x1, .int x2] [.int y0] mu n := by
  by_cases e2 : y0 = 2
  · subst e2
    exact J_tableIn (tgt := 52) (off := 51) h dX1_combined_1 (by decide) (by decide) (by decide) (by decide) (k2 rfl)
  by_cases e3 : y0 = 3
  · subst e3
    exact J_tableIn (tgt := 56) (off := 55) h dX1_combined_1 (by decide) (by decide) (by decide) (by decide) (k3 rfl)
  by_cases e4 : y0 = 4
  · subst e4
    exact J_tableIn (tgt := 60) (off := 59) h dX1_combined_1 (by decide) (by decide) (by decide) (by decide) (k4 rfl)
  by_cases e5 : y0 = 5
  · subst e5
    exact J_tableIn (tgt := 64) (off := 63) h dX1_combined_1 (by decide) (by decide) (by decide) (by decide) (k5 rfl)
  by_cases e6 : y0 = 6
  · subst e6
    exact J_tableIn (tgt := 75) (off := 74) h dX1_combined_1 (by decide) (by decide) (by decide) (by decide) (k6 rfl)
  by_cases e7 : y0 = 7
  · subst e7
    exact J_tableIn (tgt := 86) (off := 85) h dX1_combined_1 (by decide) (by decide) (by decide) (by decide) (k7 rfl)
  by_cases e8 : y0 = 8
  · subst e8
    exact J_tableIn (tgt := 97) (off := 96) h dX1_combined_1 (by decide) (by decide) (by decide) (by decide) (k8 rfl)
  by_cases e9 : y0 = 9
  · subst e9
    exact J_tableIn (tgt := 108) (off := 107) h dX1_combined_1 (by decide) (by decide) (by decide) (by decide) (k9 rfl)
  by_cases e10 : y0 = 10
  · subst e10
    exact J_tableIn (tgt := 112) (off := 111) h dX1_combined_1 (by decide) (by decide) (by decide) (by decide) (k10 rfl)
  refine J_tableOut (tgt := 116) h dX1_combined_1 ?_ (by decide) (kd e2 e3 e4 e5 e6 e7 e8 e9 e10)
  refine jout 9 (by decide) (fun k hk => ?_)
  match k, hk with
  | 0, _ => exact lv_neT e2 (by decide)
  | 1, _ => exact lv_neT e3 (by decide)
  | 2, _ => exact lv_neT e4 (by decide)
  | 3, _ => exact lv_neT e5 (by decide)
  | 4, _ => exact lv_neT e6 (by decide)
  | 5, _ => exact lv_neT e7 (by decide)
  | 6, _ => exact lv_neT e8 (by decide)
  | 7, _ => exact lv_neT e9 (by decide)
  | 8, _ => exact lv_neT e10 (by decide)
  | k + 9, hk => omega
theorem rX1_combined_52 {l : Launch} {G : jG} {X : jX} {Q : State → Prop} {n hg nc : Nat} {ret : Option FieldType} {mu : jM} {x0 : Int32} {x1 : Int32} {x2 : Int32} (h : jOk l G X cX1_combined 3 ret RX1 hg nc)
    (k1 : J l G X Q 3 55 [.int x0, .int x1, .int x2] [.int (x1 + x2)] mu n) :
    J l G X Q 3 52 [.int x0, .int x1, .int x2] [] mu n := by
  refine J_iload_n h dX1_combined_52 rfl rfl ?_
  refine J_iload_n h dX1_combined_53 rfl rfl ?_
  refine J_iadd h dX1_combined_54 ?_
  exact k1
theorem rX1_combined_56 {l : Launch} {G : jG} {X : jX} {Q : State → Prop} {n hg nc : Nat} {ret : Option FieldType} {mu : jM} {x0 : Int32} {x1 : Int32} {x2 : Int32} (h : jOk l G X cX1_combined 3 ret RX1 hg nc)
    (k1 : J l G X Q 3 59 [.int x0, .int x1, .int x2] [.int (x1 - x2)] mu n) :
    J l G X Q 3 56 [.int x0, .int x1, .int x2] [] mu n := by
  refine J_iload_n h dX1_combined_56 rfl rfl ?_
  refine J_iload_n h dX1_combined_57 rfl rfl ?_
  refine J_isub h dX1_combined_58 ?_
  exact k1
theorem rX1_combined_60 {l : Launch} {G : jG} {X : jX} {Q : State → Prop} {n hg nc : Nat} {ret : Option FieldType} {mu : jM} {x0 : Int32} {x1 : Int32} {x2 : Int32} (h : jOk l G X cX1_combined 3 ret RX1 hg nc)
    (k1 : J l G X Q 3 63 [.int x0, .int x1, .int x2] [.int (x1 * x2)] mu n) :
    J l G X Q 3 60 [.int x0, .int x1, .int x2] [] mu n := by
  refine J_iload_n h dX1_combined_60 rfl rfl ?_
  refine J_iload_n h dX1_combined_61 rfl rfl ?_
  refine J_imul h dX1_combined_62 ?_
  exact k1
theorem rX1_combined_64 {l : Launch} {G : jG} {X : jX} {Q : State → Prop} {n hg nc : Nat} {ret : Option FieldType} {mu : jM} {x0 : Int32} {x1 : Int32} {x2 : Int32} (h : jOk l G X cX1_combined 3 ret RX1 hg nc)
    (k2 : x2 ≤ x1 → J l G X Q 3 74 [.int x0, .int x1, .int x2] [.int x2] mu n)
    (k3 : ¬ x2 ≤ x1 → J l G X Q 3 74 [.int x0, .int x1, .int x2] [.int x1] mu n) :
    J l G X Q 3 64 [.int x0, .int x1, .int x2] [] mu n := by
  refine J_iload_n h dX1_combined_64 rfl rfl ?_
  refine J_iload_n h dX1_combined_65 rfl rfl ?_
  refine J_icmp_ge (tgt := 73) h dX1_combined_66 (by decide) (fun q1 => ?_) (fun q1 => ?_)
  · skip
    refine J_iload_n h dX1_combined_73 rfl rfl ?_
    exact k2 q1
  · skip
    refine J_iload_n h dX1_combined_69 rfl rfl ?_
    refine J_goto (tgt := 74) h dX1_combined_70 (by decide) ?_
    exact k3 q1
theorem rX1_combined_75 {l : Launch} {G : jG} {X : jX} {Q : State → Prop} {n hg nc : Nat} {ret : Option FieldType} {mu : jM} {x0 : Int32} {x1 : Int32} {x2 : Int32} (h : jOk l G X cX1_combined 3 ret RX1 hg nc)
    (k2 : x1 ≤ x2 → J l G X Q 3 85 [.int x0, .int x1, .int x2] [.int x2] mu n)
    (k3 : ¬ x1 ≤ x2 → J l G X Q 3 85 [.int x0, .int x1, .int x2] [.int x1] mu n) :
    J l G X Q 3 75 [.int x0, .int x1, .int x2] [] mu n := by
  refine J_iload_n h dX1_combined_75 rfl rfl ?_
  refine J_iload_n h dX1_combined_76 rfl rfl ?_
  refine J_icmp_le (tgt := 84) h dX1_combined_77 (by decide) (fun q1 => ?_) (fun q1 => ?_)
  · skip
    refine J_iload_n h dX1_combined_84 rfl rfl ?_
    exact k2 q1
  · skip
    refine J_iload_n h dX1_combined_80 rfl rfl ?_
    refine J_goto (tgt := 85) h dX1_combined_81 (by decide) ?_
    exact k3 q1
theorem rX1_combined_86 {l : Launch} {G : jG} {X : jX} {Q : State → Prop} {n hg nc : Nat} {ret : Option FieldType} {mu : jM} {x0 : Int32} {x1 : Int32} {x2 : Int32} (h : jOk l G X cX1_combined 3 ret RX1 hg nc)
    (k2 : x2 ≤ x1 → J l G X Q 3 96 [.int x0, .int x1, .int x2] [.int 0] mu n)
    (k3 : ¬ x2 ≤ x1 → J l G X Q 3 96 [.int x0, .int x1, .int x2] [.int 1] mu n) :
    J l G X Q 3 86 [.int x0, .int x1, .int x2] [] mu n := by
  refine J_iload_n h dX1_combined_86 rfl rfl ?_
  refine J_iload_n h dX1_combined_87 rfl rfl ?_
  refine J_icmp_ge (tgt := 95) h dX1_combined_88 (by decide) (fun q1 => ?_) (fun q1 => ?_)
  · skip
    refine J_iconst h dX1_combined_95 ci_0 ?_
    exact k2 q1
  · skip
    refine J_iconst h dX1_combined_91 ci_1 ?_
    refine J_goto (tgt := 96) h dX1_combined_92 (by decide) ?_
    exact k3 q1
theorem rX1_combined_97 {l : Launch} {G : jG} {X : jX} {Q : State → Prop} {n hg nc : Nat} {ret : Option FieldType} {mu : jM} {x0 : Int32} {x1 : Int32} {x2 : Int32} (h : jOk l G X cX1_combined 3 ret RX1 hg nc)
    (k2 : ¬ x1 = x2 → J l G X Q 3 107 [.int x0, .int x1, .int x2] [.int 0] mu n)
    (k3 : x1 = x2 → J l G X Q 3 107 [.int x0, .int x1, .int x2] [.int 1] mu n) :
    J l G X Q 3 97 [.int x0, .int x1, .int x2] [] mu n := by
  refine J_iload_n h dX1_combined_97 rfl rfl ?_
  refine J_iload_n h dX1_combined_98 rfl rfl ?_
  refine J_icmp_ne (tgt := 106) h dX1_combined_99 (by decide) (fun q1 => ?_) (fun q1 => ?_)
  · skip
    refine J_iconst h dX1_combined_106 ci_0 ?_
    exact k2 q1
  · skip
    refine J_iconst h dX1_combined_102 ci_1 ?_
    refine J_goto (tgt := 107) h dX1_combined_103 (by decide) ?_
    exact k3 q1
theorem rX1_combined_108 {l : Launch} {G : jG} {X : jX} {Q : State → Prop} {n hg nc : Nat} {ret : Option FieldType} {mu : jM} {x0 : Int32} {x1 : Int32} {x2 : Int32} (h : jOk l G X cX1_combined 3 ret RX1 hg nc)
    (k1 : J l G X Q 3 111 [.int x0, .int x1, .int x2] [.int (x1 &&& x2)] mu n) :
    J l G X Q 3 108 [.int x0, .int x1, .int x2] [] mu n := by
  refine J_iload_n h dX1_combined_108 rfl rfl ?_
  refine J_iload_n h dX1_combined_109 rfl rfl ?_
  refine J_iand h dX1_combined_110 ?_
  exact k1
theorem rX1_combined_112 {l : Launch} {G : jG} {X : jX} {Q : State → Prop} {n hg nc : Nat} {ret : Option FieldType} {mu : jM} {x0 : Int32} {x1 : Int32} {x2 : Int32} (h : jOk l G X cX1_combined 3 ret RX1 hg nc)
    (k1 : J l G X Q 3 115 [.int x0, .int x1, .int x2] [.int (x1 ||| x2)] mu n) :
    J l G X Q 3 112 [.int x0, .int x1, .int x2] [] mu n := by
  refine J_iload_n h dX1_combined_112 rfl rfl ?_
  refine J_iload_n h dX1_combined_113 rfl rfl ?_
  refine J_ior h dX1_combined_114 ?_
  exact k1
theorem rX1_combined_116 {l : Launch} {G : jG} {X : jX} {Q : State → Prop} {n hg nc : Nat} {ret : Option FieldType} {mu : jM} {x0 : Int32} {x1 : Int32} {x2 : Int32} (h : jOk l G X cX1_combined 3 ret RX1 hg nc)
    (k1 : J l G X Q 3 119 [.int x0, .int x1, .int x2] [.int (x1 ^^^ x2)] mu n) :
    J l G X Q 3 116 [.int x0, .int x1, .int x2] [] mu n := by
  refine J_iload_n h dX1_combined_116 rfl rfl ?_
  refine J_iload_n h dX1_combined_117 rfl rfl ?_
  refine J_ixor h dX1_combined_118 ?_
  exact k1
/-! LockstepNet$Machine.begin([I)V P -/
theorem rX1_beginP_0 {l : Launch} {G : jG} {X : jX} {Q : State → Prop} {n hg nc : Nat} {ret : Option FieldType} {mu : jM} (h : jOk l G X cX1_begin 2 ret RX1 hg nc)
    (k1 : J l G X Q 2 12 [.ref 14, .ref 13] [.int 192, .int 0, .ref 15, .int 0, .ref 13] mu n) :
    J l G X Q 2 0 [.ref 14, .ref 13] [] mu n := by
  refine J_aload_n h dX1_begin_0 rfl rfl ?_
  refine J_iconst h dX1_begin_1 ci_0 ?_
  refine J_aload_n h dX1_begin_2 rfl rfl ?_
  refine J_getr (k := 2) h dX1_begin_3 jc1 rfl rfl (by decide) w188 ?_
  refine J_iconst h dX1_begin_6 ci_0 ?_
  refine J_aload_n h dX1_begin_7 rfl rfl ?_
  refine J_getr (k := 2) h dX1_begin_8 jc1 rfl rfl (by decide) w188 ?_
  refine J_alen (v := 192) h dX1_begin_11 rfl rfl ?_
  exact k1
theorem rX1_beginP_12 {l : Launch} {G : jG} {X : jX} {Q : State → Prop} {n hg nc : Nat} {ret : Option FieldType} {mu : jM} {y0 : Int32} {y1 : Int32} {y3 : Int32} (h : jOk l G X cX1_begin 2 ret RX1 hg nc) (h1 : ¬ y3 < 0) (h2 : ¬ y1 < 0) (h3 : ¬ y0 < 0) (h4 : (y3).toNatClampNeg + (y0).toNatClampNeg ≤ 192) (h5 : (y1).toNatClampNeg + (y0).toNatClampNeg ≤ 192) (hh : 1 ≤ hg)
    (kk : J l G X Q 2 15 [.ref 14, .ref 13] [] (jPut mu 15 (va_cpy (mu 13) (mu 15) (y3).toNatClampNeg (y1).toNatClampNeg (y0).toNatClampNeg)) n) :
    J l G X Q 2 12 [.ref 14, .ref 13] [.int y0, .int y1, .ref 15, .int y3, .ref 13] mu n :=
  J_copy h dX1_begin_12 w521 w523 w522 w91 rfl rfl h1 h2 h3 h4 h5 (Nat.le_of_ble_eq_true rfl) hh kk
theorem rX1_beginP_15 {l : Launch} {G : jG} {X : jX} {Q : State → Prop} {n hg nc : Nat} {ret : Option FieldType} {mu : jM} (h : jOk l G X cX1_begin 2 ret RX1 hg nc)
    (k1 : J l G X Q 2 20 [.ref 14, .ref 13] [.int 0, .ref 16] mu n) :
    J l G X Q 2 15 [.ref 14, .ref 13] [] mu n := by
  refine J_aload_n h dX1_begin_15 rfl rfl ?_
  refine J_getr (k := 3) h dX1_begin_16 jc1 rfl rfl (by decide) w190 ?_
  refine J_iconst h dX1_begin_19 ci_0 ?_
  exact k1
theorem rX1_beginP_20 {l : Launch} {G : jG} {X : jX} {Q : State → Prop} {n hg nc : Nat} {ret : Option FieldType} {mu : jM} {y0 : Int32} {Qc : jM → Prop} {h' : Nat} (h : jOk l G X cX1_begin 2 ret RX1 hg nc) (hM : jCv l G yJ7_fill_53178 cJ7_fill_53178 4 h' [.ref 16, .int y0] mu Qc) (hh : h' < hg ∧ 4 ≤ 21) (hn : n ≤ nc)
    (kk : ∀ mu', Qc mu' → J l G X Q 2 23 [.ref 14, .ref 13] [] mu' n) :
    J l G X Q 2 20 [.ref 14, .ref 13] [.int y0, .ref 16] mu n :=
  J_callS (As := [.ref 16, .int y0]) (rest := []) h dX1_begin_20 hM (jgS w524 w514 w90 w515) nmJ7_fill_53178 rfl hh (Nat.le_of_ble_eq_true rfl) rfl kk hn
/-! LockstepNet$Machine.accept(IIII)V P -/
theorem rX1_acceptP_0 {l : Launch} {G : jG} {X : jX} {Q : State → Prop} {n hg nc : Nat} {ret : Option FieldType} {mu : jM} {x1 : Int32} {x2 : Int32} {x3 : Int32} {x4 : Int32} (h : jOk l G X cX1_accept 7 ret RX1 hg nc) (s1 : vp_in ((x1 * 24) + x2) 576)
    (k2 : J l G X Q 7 18 [.ref 14, .int x1, .int x2, .int x3, .int x4, .int (mu 12 (((x1 * 24) + x2)).toNatClampNeg), .float 0] [.int x3, .int x1] mu n) :
    J l G X Q 7 0 [.ref 14, .int x1, .int x2, .int x3, .int x4, .float 0, .float 0] [] mu n := by
  refine J_aload_n h dX1_accept_0 rfl rfl ?_
  refine J_getr (k := 1) h dX1_accept_1 jc1 rfl rfl (by decide) w187 ?_
  refine J_getrN (k := 7) h dX1_accept_4 jc2 rfl rfl (by decide) w162 ?_
  refine J_iload_n h dX1_accept_7 rfl rfl ?_
  refine J_bipush h dX1_accept_8 cb_24 ?_
  refine J_imul h dX1_accept_10 ?_
  refine J_iload_n h dX1_accept_11 rfl rfl ?_
  refine J_iadd h dX1_accept_12 ?_
  refine J_iald h dX1_accept_13 rfl (s1) ?_
  refine J_istore h dX1_accept_14 (by decide) rfl ?_
  show J l G X Q 7 16 [.ref 14, .int x1, .int x2, .int x3, .int x4, .int (mu 12 (((x1 * 24) + x2)).toNatClampNeg), .float 0] [] mu n
  refine J_iload_n h dX1_accept_16 rfl rfl ?_
  refine J_iload_n h dX1_accept_17 rfl rfl ?_
  exact k2
theorem rX1_acceptP_18 {l : Launch} {G : jG} {X : jX} {Q : State → Prop} {n hg nc : Nat} {ret : Option FieldType} {mu : jM} {x1 : Int32} {x2 : Int32} {x3 : Int32} {x4 : Int32} {x5 : Int32} {y0 : Int32} {y1 : Int32} {Qc : Int32 → jM → Prop} {h' : Nat} (h : jOk l G X cX1_accept 7 ret RX1 hg nc) (hM : jCi l G yX1_boxOf cX1_boxOf 2 h' (some .int) [.int y1, .int y0] mu Qc) (hh : h' < hg ∧ 2 ≤ 21) (hn : n ≤ nc)
    (kk : ∀ v mu', Qc v mu' → J l G X Q 7 21 [.ref 14, .int x1, .int x2, .int x3, .int x4, .int x5, .float 0] (.int v :: []) mu' n) :
    J l G X Q 7 18 [.ref 14, .int x1, .int x2, .int x3, .int x4, .int x5, .float 0] [.int y0, .int y1] mu n :=
  J_callSi (As := [.int y1, .int y0]) (rest := []) h dX1_accept_18 hM (jgS w682 w683 w79 w684) nmX1_boxOf rfl hh (Nat.le_of_ble_eq_true rfl) rfl kk hn
theorem rX1_acceptP_21 {l : Launch} {G : jG} {X : jX} {Q : State → Prop} {n hg nc : Nat} {ret : Option FieldType} {mu : jM} {x1 : Int32} {x2 : Int32} {x3 : Int32} {x4 : Int32} {x5 : Int32} {y0 : Int32} (h : jOk l G X cX1_accept 7 ret RX1 hg nc) (s1 : vp_in y0 48) (s2 : vp_in y0 48) (s3 : vp_in ((y0 * 24) + x5) 1152)
    (k4 : J l G X Q 7 52 [.ref 14, .int x1, .int x2, .int x3, .int x4, .int x5, .int y0] [] (wr (wr mu 16 (y0).toNatClampNeg ((mu 16 (y0).toNatClampNeg) ||| (1 <<< (x5 &&& 31)))) 17 (((y0 * 24) + x5)).toNatClampNeg x4) n) :
    J l G X Q 7 21 [.ref 14, .int x1, .int x2, .int x3, .int x4, .int x5, .float 0] [.int y0] mu n := by
  refine J_istore h dX1_accept_21 (by decide) rfl ?_
  show J l G X Q 7 23 [.ref 14, .int x1, .int x2, .int x3, .int x4, .int x5, .int y0] [] mu n
  refine J_aload_n h dX1_accept_23 rfl rfl ?_
  refine J_getr (k := 3) h dX1_accept_24 jc1 rfl rfl (by decide) w190 ?_
  refine J_iload h dX1_accept_27 rfl ?_
  refine J_dup2 h dX1_accept_29 rfl rfl ?_
  refine J_iald h dX1_accept_30 rfl (s1) ?_
  refine J_iconst h dX1_accept_31 ci_1 ?_
  refine J_iload h dX1_accept_32 rfl ?_
  refine J_ishl h dX1_accept_34 ?_
  refine J_ior h dX1_accept_35 ?_
  refine J_iast h dX1_accept_36 rfl (s2) ?_
  refine J_aload_n h dX1_accept_37 rfl rfl ?_
  refine J_getr (k := 4) h dX1_accept_38 jc1 rfl rfl (by decide) w191 ?_
  refine J_iload h dX1_accept_41 rfl ?_
  refine J_bipush h dX1_accept_43 cb_24 ?_
  refine J_imul h dX1_accept_45 ?_
  refine J_iload h dX1_accept_46 rfl ?_
  refine J_iadd h dX1_accept_48 ?_
  refine J_iload h dX1_accept_49 rfl ?_
  refine J_iast h dX1_accept_51 rfl (s3) ?_
  exact k4
/-! LockstepNet$Machine.passOn(II)V P -/
theorem rX1_passOnP_0 {l : Launch} {G : jG} {X : jX} {Q : State → Prop} {n hg nc : Nat} {ret : Option FieldType} {mu : jM} {x1 : Int32} {x2 : Int32} (h : jOk l G X cX1_passOn 4 ret RX1 hg nc)
    (k1 : J l G X Q 4 2 [.ref 14, .int x1, .int x2, .int 0] [] mu n) :
    J l G X Q 4 0 [.ref 14, .int x1, .int x2, .float 0] [] mu n := by
  refine J_iconst h dX1_passOn_0 ci_0 ?_
  refine J_istore_n h dX1_passOn_1 rfl (by decide) rfl ?_
  show J l G X Q 4 2 [.ref 14, .int x1, .int x2, .int 0] [] mu n
  exact k1
theorem rX1_passOnP_2 {l : Launch} {G : jG} {X : jX} {Q : State → Prop} {n hg nc : Nat} {ret : Option FieldType} {mu : jM} {x1 : Int32} {x2 : Int32} {x3 : Int32} (h : jOk l G X cX1_passOn 4 ret RX1 hg nc) (s1 : vp_in x1 24)
    (k3 : (mu 9 (x1).toNatClampNeg) ≤ x3 → J l G X Q 4 55 [.ref 14, .int x1, .int x2, .int x3] [] mu n)
    (k4 : ¬ (mu 9 (x1).toNatClampNeg) ≤ x3 → J l G X Q 4 17 [.ref 14, .int x1, .int x2, .int x3] [.int x3, .ref 14] mu n) :
    J l G X Q 4 2 [.ref 14, .int x1, .int x2, .int x3] [] mu n := by
  refine J_iload_n h dX1_passOn_2 rfl rfl ?_
  refine J_aload_n h dX1_passOn_3 rfl rfl ?_
  refine J_getr (k := 1) h dX1_passOn_4 jc1 rfl rfl (by decide) w187 ?_
  refine J_getrN (k := 4) h dX1_passOn_7 jc2 rfl rfl (by decide) w153 ?_
  refine J_iload_n h dX1_passOn_10 rfl rfl ?_
  refine J_iald h dX1_passOn_11 rfl (s1) ?_
  refine J_icmp_ge (tgt := 55) h dX1_passOn_12 (by decide) (fun q2 => ?_) (fun q2 => ?_)
  · skip
    exact k3 q2
  · skip
    refine J_aload_n h dX1_passOn_15 rfl rfl ?_
    refine J_iload_n h dX1_passOn_16 rfl rfl ?_
    exact k4 q2
theorem rX1_passOnP_17 {l : Launch} {G : jG} {X : jX} {Q : State → Prop} {n hg nc : Nat} {ret : Option FieldType} {mu : jM} {x1 : Int32} {x2 : Int32} {x3 : Int32} {y0 : Int32} {Qc : Int32 → jM → Prop} {h' : Nat} (h : jOk l G X cX1_passOn 4 ret RX1 hg nc) (hM : jCi l G yX1_goesBy cX1_goesBy 2 h' (some .boolean) (.ref 14 :: [.int y0]) mu Qc) (hh : h' < hg ∧ 2 ≤ 21) (hn : n ≤ nc)
    (kk : ∀ v mu', Qc v mu' → J l G X Q 4 20 [.ref 14, .int x1, .int x2, .int x3] (.int v :: []) mu' n) :
    J l G X Q 4 17 [.ref 14, .int x1, .int x2, .int x3] [.int y0, .ref 14] mu n :=
  J_callVi (As := [.int y0]) (rest := []) h dX1_passOn_17 hM (jgV w702 w703 w704 w79 w705) rfl (ci := 1) rfl rfl nmX1_goesBy rfl hh (Nat.le_of_ble_eq_true rfl) rfl kk hn
theorem rX1_passOnP_20 {l : Launch} {G : jG} {X : jX} {Q : State → Prop} {n hg nc : Nat} {ret : Option FieldType} {mu : jM} {x1 : Int32} {x2 : Int32} {x3 : Int32} {y0 : Int32} (h : jOk l G X cX1_passOn 4 ret RX1 hg nc) (s3 : ¬ y0 = 0 → vp_in ((x1 * 24) + x3) 576) (s4 : ¬ y0 = 0 → vp_in x3 24)
    (k2 : y0 = 0 → J l G X Q 4 49 [.ref 14, .int x1, .int x2, .int x3] [] mu n)
    (k5 : ¬ y0 = 0 → J l G X Q 4 46 [.ref 14, .int x1, .int x2, .int x3] [.int (mu 18 (x3).toNatClampNeg), .int x2, .int x1, .int (mu 11 (((x1 * 24) + x3)).toNatClampNeg), .ref 14] mu n) :
    J l G X Q 4 20 [.ref 14, .int x1, .int x2, .int x3] [.int y0] mu n := by
  refine J_if_eq (tgt := 49) h dX1_passOn_20 (by decide) (fun q1 => ?_) (fun q1 => ?_)
  · skip
    exact k2 q1
  · skip
    refine J_aload_n h dX1_passOn_23 rfl rfl ?_
    refine J_aload_n h dX1_passOn_24 rfl rfl ?_
    refine J_getr (k := 1) h dX1_passOn_25 jc1 rfl rfl (by decide) w187 ?_
    refine J_getrN (k := 6) h dX1_passOn_28 jc2 rfl rfl (by decide) w159 ?_
    refine J_iload_n h dX1_passOn_31 rfl rfl ?_
    refine J_bipush h dX1_passOn_32 cb_24 ?_
    refine J_imul h dX1_passOn_34 ?_
    refine J_iload_n h dX1_passOn_35 rfl rfl ?_
    refine J_iadd h dX1_passOn_36 ?_
    refine J_iald h dX1_passOn_37 rfl (s3 q1) ?_
    refine J_iload_n h dX1_passOn_38 rfl rfl ?_
    refine J_iload_n h dX1_passOn_39 rfl rfl ?_
    refine J_aload_n h dX1_passOn_40 rfl rfl ?_
    refine J_getr (k := 5) h dX1_passOn_41 jc1 rfl rfl (by decide) w192 ?_
    refine J_iload_n h dX1_passOn_44 rfl rfl ?_
    refine J_iald h dX1_passOn_45 rfl (s4 q1) ?_
    exact k5 q1
theorem rX1_passOnP_49 {l : Launch} {G : jG} {X : jX} {Q : State → Prop} {n hg nc : Nat} {ret : Option FieldType} {mu : jM} {x1 : Int32} {x2 : Int32} {x3 : Int32} (h : jOk l G X cX1_passOn 4 ret RX1 hg nc)
    (k1 : J l G X Q 4 2 [.ref 14, .int x1, .int x2, .int (x3 + 1)] [] mu n) :
    J l G X Q 4 49 [.ref 14, .int x1, .int x2, .int x3] [] mu n := by
  refine J_iinc h dX1_passOn_49 rfl (cc_1 _) (by decide) rfl ?_
  show J l G X Q 4 52 [.ref 14, .int x1, .int x2, .int (x3 + 1)] [] mu n
  refine J_goto (tgt := 2) h dX1_passOn_52 (by decide) ?_
  exact k1
theorem rX1_passOnP_46 {l : Launch} {G : jG} {X : jX} {Q : State → Prop} {n hg nc : Nat} {ret : Option FieldType} {mu : jM} {x1 : Int32} {x2 : Int32} {x3 : Int32} {y0 : Int32} {y1 : Int32} {y2 : Int32} {y3 : Int32} {Qc : jM → Prop} {h' : Nat} (h : jOk l G X cX1_passOn 4 ret RX1 hg nc) (hM : jCv l G yX1_accept cX1_accept 7 h' (.ref 14 :: [.int y3, .int y2, .int y1, .int y0]) mu Qc) (hh : h' < hg ∧ 7 ≤ 21) (hn : n ≤ nc)
    (kk : ∀ mu', Qc mu' → J l G X Q 4 49 [.ref 14, .int x1, .int x2, .int x3] [] mu' n) :
    J l G X Q 4 46 [.ref 14, .int x1, .int x2, .int x3] [.int y0, .int y1, .int y2, .int y3, .ref 14] mu n :=
  J_callV (As := [.int y3, .int y2, .int y1, .int y0]) (rest := []) h dX1_passOn_46 hM (jgV w706 w707 w708 w79 w709) rfl (ci := 1) rfl rfl nmX1_accept rfl hh (Nat.le_of_ble_eq_true rfl) rfl kk hn
/-! LockstepNet$Machine.goesBy(I)Z P -/
theorem rX1_goesByP_0 {l : Launch} {G : jG} {X : jX} {Q : State → Prop} {n hg nc : Nat} {ret : Option FieldType} {mu : jM} {x1 : Int32} (h : jOk l G X cX1_goesBy 2 ret RX1 hg nc)
    (k2 : (((mu 14 6) >>> (x1 &&& 31)) &&& 1) = 0 → J l G X Q 2 16 [.ref 14, .int x1] [.int 0] mu n)
    (k3 : ¬ (((mu 14 6) >>> (x1 &&& 31)) &&& 1) = 0 → J l G X Q 2 16 [.ref 14, .int x1] [.int 1] mu n) :
    J l G X Q 2 0 [.ref 14, .int x1] [] mu n := by
  refine J_aload_n h dX1_goesBy_0 rfl rfl ?_
  refine J_geti (k := 6) h dX1_goesBy_1 jc1 rfl rfl (by decide) w194 ?_
  refine J_iload_n h dX1_goesBy_4 rfl rfl ?_
  refine J_ishr h dX1_goesBy_5 ?_
  refine J_iconst h dX1_goesBy_6 ci_1 ?_
  refine J_iand h dX1_goesBy_7 ?_
  refine J_if_eq (tgt := 15) h dX1_goesBy_8 (by decide) (fun q1 => ?_) (fun q1 => ?_)
  · skip
    refine J_iconst h dX1_goesBy_15 ci_0 ?_
    exact k2 q1
  · skip
    refine J_iconst h dX1_goesBy_11 ci_1 ?_
    refine J_goto (tgt := 16) h dX1_goesBy_12 (by decide) ?_
    exact k3 q1
/-! LockstepNet$Machine.doRound(II)V P -/
theorem rX1_doRoundP_0 {l : Launch} {G : jG} {X : jX} {Q : State → Prop} {n hg nc : Nat} {ret : Option FieldType} {mu : jM} {x1 : Int32} {x2 : Int32} (h : jOk l G X cX1_doRound 7 ret RX1 hg nc)
    (k1 : J l G X Q 7 17 [.ref 14, .int x1, .int x2, .int 0, .float 0, .float 0, .float 0] [] (wr (wr (wr mu 14 7 x1) 14 8 x2) 14 6 0) n) :
    J l G X Q 7 0 [.ref 14, .int x1, .int x2, .float 0, .float 0, .float 0, .float 0] [] mu n := by
  refine J_aload_n h dX1_doRound_0 rfl rfl ?_
  refine J_iload_n h dX1_doRound_1 rfl rfl ?_
  refine J_puti (k := 7) (ty0 := tyX1) h dX1_doRound_2 jc1 tyX1_ok nmX1 rfl rfl (by decide) rfl rfl rfl w196 ?_
  refine J_aload_n h dX1_doRound_5 rfl rfl ?_
  refine J_iload_n h dX1_doRound_6 rfl rfl ?_
  refine J_puti (k := 8) (ty0 := tyX1) h dX1_doRound_7 jc1 tyX1_ok nmX1 rfl rfl (by decide) rfl rfl rfl w197 ?_
  refine J_aload_n h dX1_doRound_10 rfl rfl ?_
  refine J_iconst h dX1_doRound_11 ci_0 ?_
  refine J_puti (k := 6) (ty0 := tyX1) h dX1_doRound_12 jc1 tyX1_ok nmX1 rfl rfl (by decide) rfl rfl rfl w194 ?_
  refine J_iconst h dX1_doRound_15 ci_0 ?_
  refine J_istore_n h dX1_doRound_16 rfl (by decide) rfl ?_
  show J l G X Q 7 17 [.ref 14, .int x1, .int x2, .int 0, .float 0, .float 0, .float 0] [] (wr (wr (wr mu 14 7 x1) 14 8 x2) 14 6 0) n
  exact k1
theorem rX1_doRoundP_17 {l : Launch} {G : jG} {X : jX} {Q : State → Prop} {n hg nc : Nat} {ret : Option FieldType} {mu : jM} {x1 : Int32} {x2 : Int32} {x3 : Int32} (h : jOk l G X cX1_doRound 7 ret RX1 hg nc) (s3 : ¬ (mu 1 4) ≤ x3 → vp_in x3 64) (s5 : ¬ (mu 1 4) ≤ x3 → (mu 2 (x3).toNatClampNeg) = 15 → vp_in x3 64)
    (k2 : (mu 1 4) ≤ x3 → J l G X Q 7 159 [.ref 14, .int x1, .int x2, .int x3, .float 0, .float 0, .float 0] [.int (x2 - 1), .int x1, .ref 16] mu n)
    (k6 : ¬ (mu 1 4) ≤ x3 → (mu 2 (x3).toNatClampNeg) = 15 → J l G X Q 7 70 [.ref 14, .int x1, .int x2, .int x3, .int (x3 + (mu 4 (x3).toNatClampNeg)), .int 0, .float 0] [] mu n)
    (k7 : ¬ (mu 1 4) ≤ x3 → ¬ (mu 2 (x3).toNatClampNeg) = 15 → J l G X Q 7 46 [.ref 14, .int x1, .int x2, .int x3, .float 0, .float 0, .float 0] [.int 0, .int x3, .ref 14, .int x3] mu n) :
    J l G X Q 7 17 [.ref 14, .int x1, .int x2, .int x3, .float 0, .float 0, .float 0] [] mu n := by
  refine J_iload_n h dX1_doRound_17 rfl rfl ?_
  refine J_aload_n h dX1_doRound_18 rfl rfl ?_
  refine J_getr (k := 0) h dX1_doRound_19 jc1 rfl rfl (by decide) w186 ?_
  refine J_getiN (k := 4) h dX1_doRound_22 jc4 rfl rfl (by decide) w121 ?_
  refine J_icmp_ge (tgt := 151) h dX1_doRound_25 (by decide) (fun q1 => ?_) (fun q1 => ?_)
  · skip
    refine J_aload_n h dX1_doRound_151 rfl rfl ?_
    refine J_getr (k := 3) h dX1_doRound_152 jc1 rfl rfl (by decide) w190 ?_
    refine J_iload_n h dX1_doRound_155 rfl rfl ?_
    refine J_iload_n h dX1_doRound_156 rfl rfl ?_
    refine J_iconst h dX1_doRound_157 ci_1 ?_
    refine J_isub h dX1_doRound_158 ?_
    exact k2 q1
  · skip
    refine J_aload_n h dX1_doRound_28 rfl rfl ?_
    refine J_getr (k := 0) h dX1_doRound_29 jc1 rfl rfl (by decide) w186 ?_
    refine J_getrN (k := 0) h dX1_doRound_32 jc4 rfl rfl (by decide) w112 ?_
    refine J_iload_n h dX1_doRound_35 rfl rfl ?_
    refine J_iald h dX1_doRound_36 rfl (s3 q1) ?_
    refine J_bipush h dX1_doRound_37 cb_15 ?_
    refine J_icmp_eq (tgt := 54) h dX1_doRound_39 (by decide) (fun q4 => ?_) (fun q4 => ?_)
    · skip
      refine J_iload_n h dX1_doRound_54 rfl rfl ?_
      refine J_aload_n h dX1_doRound_55 rfl rfl ?_
      refine J_getr (k := 0) h dX1_doRound_56 jc1 rfl rfl (by decide) w186 ?_
      refine J_getrN (k := 2) h dX1_doRound_59 jc4 rfl rfl (by decide) w116 ?_
      refine J_iload_n h dX1_doRound_62 rfl rfl ?_
      refine J_iald h dX1_doRound_63 rfl (s5 q1 q4) ?_
      refine J_iadd h dX1_doRound_64 ?_
      refine J_istore h dX1_doRound_65 (by decide) rfl ?_
      show J l G X Q 7 67 [.ref 14, .int x1, .int x2, .int x3, .int (x3 + (mu 4 (x3).toNatClampNeg)), .float 0, .float 0] [] mu n
      refine J_iconst h dX1_doRound_67 ci_0 ?_
      refine J_istore h dX1_doRound_68 (by decide) rfl ?_
      show J l G X Q 7 70 [.ref 14, .int x1, .int x2, .int x3, .int (x3 + (mu 4 (x3).toNatClampNeg)), .int 0, .float 0] [] mu n
      exact k6 q1 q4
    · skip
      refine J_iload_n h dX1_doRound_42 rfl rfl ?_
      refine J_aload_n h dX1_doRound_43 rfl rfl ?_
      refine J_iload_n h dX1_doRound_44 rfl rfl ?_
      refine J_iconst h dX1_doRound_45 ci_0 ?_
      exact k7 q1 q4
theorem rX1_doRoundP_159 {l : Launch} {G : jG} {X : jX} {Q : State → Prop} {n hg nc : Nat} {ret : Option FieldType} {mu : jM} {x1 : Int32} {x2 : Int32} {x3 : Int32} {y0 : Int32} {y1 : Int32} {Qc : Int32 → jM → Prop} {h' : Nat} (h : jOk l G X cX1_doRound 7 ret RX1 hg nc) (hM : jCi l G yX1_boxOf cX1_boxOf 2 h' (some .int) [.int y1, .int y0] mu Qc) (hh : h' < hg ∧ 2 ≤ 21) (hn : n ≤ nc)
    (kk : ∀ v mu', Qc v mu' → J l G X Q 7 162 [.ref 14, .int x1, .int x2, .int x3, .float 0, .float 0, .float 0] (.int v :: [.ref 16]) mu' n) :
    J l G X Q 7 159 [.ref 14, .int x1, .int x2, .int x3, .float 0, .float 0, .float 0] [.int y0, .int y1, .ref 16] mu n :=
  J_callSi (As := [.int y1, .int y0]) (rest := [.ref 16]) h dX1_doRound_159 hM (jgS w682 w683 w79 w684) nmX1_boxOf rfl hh (Nat.le_of_ble_eq_true rfl) rfl kk hn
theorem rX1_doRoundP_70 {l : Launch} {G : jG} {X : jX} {Q : State → Prop} {n hg nc : Nat} {ret : Option FieldType} {mu : jM} {x1 : Int32} {x2 : Int32} {x3 : Int32} {x4 : Int32} {x5 : Int32} (h : jOk l G X cX1_doRound 7 ret RX1 hg nc) (s1 : vp_in x1 24) (s4 : ¬ (mu 9 (x1).toNatClampNeg) ≤ x5 → vp_in x3 64) (s5 : ¬ (mu 9 (x1).toNatClampNeg) ≤ x5 → vp_in ((x1 * 8) + (mu 3 (x3).toNatClampNeg)) 192)
    (k3 : (mu 9 (x1).toNatClampNeg) ≤ x5 → J l G X Q 7 145 [.ref 14, .int x1, .int x2, .int x4, .int x4, .int x5, .float 0] [] mu n)
    (k6 : ¬ (mu 9 (x1).toNatClampNeg) ≤ x5 → J l G X Q 7 110 [.ref 14, .int x1, .int x2, .int x3, .int x4, .int x5, .int (x3 + 1)] [] (wr mu 15 (((x1 * 8) + (mu 3 (x3).toNatClampNeg))).toNatClampNeg x5) n) :
    J l G X Q 7 70 [.ref 14, .int x1, .int x2, .int x3, .int x4, .int x5, .float 0] [] mu n := by
  refine J_iload h dX1_doRound_70 rfl ?_
  refine J_aload_n h dX1_doRound_72 rfl rfl ?_
  refine J_getr (k := 1) h dX1_doRound_73 jc1 rfl rfl (by decide) w187 ?_
  refine J_getrN (k := 4) h dX1_doRound_76 jc2 rfl rfl (by decide) w153 ?_
  refine J_iload_n h dX1_doRound_79 rfl rfl ?_
  refine J_iald h dX1_doRound_80 rfl (s1) ?_
  refine J_icmp_ge (tgt := 142) h dX1_doRound_81 (by decide) (fun q2 => ?_) (fun q2 => ?_)
  · skip
    refine J_iload h dX1_doRound_142 rfl ?_
    refine J_istore_n h dX1_doRound_144 rfl (by decide) rfl ?_
    show J l G X Q 7 145 [.ref 14, .int x1, .int x2, .int x4, .int x4, .int x5, .float 0] [] mu n
    exact k3 q2
  · skip
    refine J_aload_n h dX1_doRound_84 rfl rfl ?_
    refine J_getr (k := 2) h dX1_doRound_85 jc1 rfl rfl (by decide) w188 ?_
    refine J_iload_n h dX1_doRound_88 rfl rfl ?_
    refine J_bipush h dX1_doRound_89 cb_8 ?_
    refine J_imul h dX1_doRound_91 ?_
    refine J_aload_n h dX1_doRound_92 rfl rfl ?_
    refine J_getr (k := 0) h dX1_doRound_93 jc1 rfl rfl (by decide) w186 ?_
    refine J_getrN (k := 1) h dX1_doRound_96 jc4 rfl rfl (by decide) w114 ?_
    refine J_iload_n h dX1_doRound_99 rfl rfl ?_
    refine J_iald h dX1_doRound_100 rfl (s4 q2) ?_
    refine J_iadd h dX1_doRound_101 ?_
    refine J_iload h dX1_doRound_102 rfl ?_
    refine J_iast h dX1_doRound_104 rfl (s5 q2) ?_
    refine J_iload_n h dX1_doRound_105 rfl rfl ?_
    refine J_iconst h dX1_doRound_106 ci_1 ?_
    refine J_iadd h dX1_doRound_107 ?_
    refine J_istore h dX1_doRound_108 (by decide) rfl ?_
    show J l G X Q 7 110 [.ref 14, .int x1, .int x2, .int x3, .int x4, .int x5, .int (x3 + 1)] [] (wr mu 15 (((x1 * 8) + (mu 3 (x3).toNatClampNeg))).toNatClampNeg x5) n
    exact k6 q2
theorem rX1_doRoundP_46 {l : Launch} {G : jG} {X : jX} {Q : State → Prop} {n hg nc : Nat} {ret : Option FieldType} {mu : jM} {x1 : Int32} {x2 : Int32} {x3 : Int32} {y0 : Int32} {y1 : Int32} {y3 : Int32} {Qc : Int32 → jM → Prop} {h' : Nat} (h : jOk l G X cX1_doRound 7 ret RX1 hg nc) (hM : jCi l G yX1_doWord cX1_doWord 4 h' (some .int) (.ref 14 :: [.int y1, .int y0]) mu Qc) (hh : h' < hg ∧ 4 ≤ 21) (hn : n ≤ nc)
    (kk : ∀ v mu', Qc v mu' → J l G X Q 7 49 [.ref 14, .int x1, .int x2, .int x3, .float 0, .float 0, .float 0] (.int v :: [.int y3]) mu' n) :
    J l G X Q 7 46 [.ref 14, .int x1, .int x2, .int x3, .float 0, .float 0, .float 0] [.int y0, .int y1, .ref 14, .int y3] mu n :=
  J_callVi (As := [.int y1, .int y0]) (rest := [.int y3]) h dX1_doRound_46 hM (jgV w674 w676 w9 w79 w677) rfl (ci := 1) rfl rfl nmX1_doWord rfl hh (Nat.le_of_ble_eq_true rfl) rfl kk hn
theorem rX1_doRoundP_162 {l : Launch} {G : jG} {X : jX} {Q : State → Prop} {n hg nc : Nat} {ret : Option FieldType} {mu : jM} {x1 : Int32} {x2 : Int32} {x3 : Int32} {y0 : Int32} (h : jOk l G X cX1_doRound 7 ret RX1 hg nc) (s1 : vp_in y0 48)
    (k2 : J l G X Q 7 164 [.ref 14, .int x1, .int x2, .int x3, .float 0, .float 0, .float 0] [] (wr mu 16 (y0).toNatClampNeg 0) n) :
    J l G X Q 7 162 [.ref 14, .int x1, .int x2, .int x3, .float 0, .float 0, .float 0] [.int y0, .ref 16] mu n := by
  refine J_iconst h dX1_doRound_162 ci_0 ?_
  refine J_iast h dX1_doRound_163 rfl (s1) ?_
  exact k2
theorem rX1_doRoundP_145 {l : Launch} {G : jG} {X : jX} {Q : State → Prop} {n hg nc : Nat} {ret : Option FieldType} {mu : jM} {x1 : Int32} {x2 : Int32} {x3 : Int32} {x4 : Int32} {x5 : Int32} (h : jOk l G X cX1_doRound 7 ret RX1 hg nc)
    (k1 : J l G X Q 7 17 [.ref 14, .int x1, .int x2, .int (x3 + 1), .int x4, .int x5, .float 0] [] mu n) :
    J l G X Q 7 145 [.ref 14, .int x1, .int x2, .int x3, .int x4, .int x5, .float 0] [] mu n := by
  refine J_iinc h dX1_doRound_145 rfl (cc_1 _) (by decide) rfl ?_
  show J l G X Q 7 148 [.ref 14, .int x1, .int x2, .int (x3 + 1), .int x4, .int x5, .float 0] [] mu n
  refine J_goto (tgt := 17) h dX1_doRound_148 (by decide) ?_
  exact k1
theorem rX1_doRoundP_110 {l : Launch} {G : jG} {X : jX} {Q : State → Prop} {n hg nc : Nat} {ret : Option FieldType} {mu : jM} {x1 : Int32} {x2 : Int32} {x3 : Int32} {x4 : Int32} {x5 : Int32} {x6 : Int32} (h : jOk l G X cX1_doRound 7 ret RX1 hg nc)
    (k2 : x4 < x6 → J l G X Q 7 70 [.ref 14, .int x1, .int x2, .int x3, .int x4, .int (x5 + 1), .int x6] [] mu n)
    (k3 : ¬ x4 < x6 → J l G X Q 7 124 [.ref 14, .int x1, .int x2, .int x3, .int x4, .int x5, .int x6] [.int x5, .int x6, .ref 14, .int x6] mu n) :
    J l G X Q 7 110 [.ref 14, .int x1, .int x2, .int x3, .int x4, .int x5, .int x6] [] mu n := by
  refine J_iload h dX1_doRound_110 rfl ?_
  refine J_iload h dX1_doRound_112 rfl ?_
  refine J_icmp_gt (tgt := 136) h dX1_doRound_114 (by decide) (fun q1 => ?_) (fun q1 => ?_)
  · skip
    refine J_iinc h dX1_doRound_136 rfl (cc_1 _) (by decide) rfl ?_
    show J l G X Q 7 139 [.ref 14, .int x1, .int x2, .int x3, .int x4, .int (x5 + 1), .int x6] [] mu n
    refine J_goto (tgt := 70) h dX1_doRound_139 (by decide) ?_
    exact k2 q1
  · skip
    refine J_iload h dX1_doRound_117 rfl ?_
    refine J_aload_n h dX1_doRound_119 rfl rfl ?_
    refine J_iload h dX1_doRound_120 rfl ?_
    refine J_iload h dX1_doRound_122 rfl ?_
    exact k3 q1
theorem rX1_doRoundP_49 {l : Launch} {G : jG} {X : jX} {Q : State → Prop} {n hg nc : Nat} {ret : Option FieldType} {mu : jM} {x1 : Int32} {x2 : Int32} {x3 : Int32} {y0 : Int32} {y1 : Int32} (h : jOk l G X cX1_doRound 7 ret RX1 hg nc)
    (k1 : J l G X Q 7 145 [.ref 14, .int x1, .int x2, .int (y1 + y0), .float 0, .float 0, .float 0] [] mu n) :
    J l G X Q 7 49 [.ref 14, .int x1, .int x2, .int x3, .float 0, .float 0, .float 0] [.int y0, .int y1] mu n := by
  refine J_iadd h dX1_doRound_49 ?_
  refine J_istore_n h dX1_doRound_50 rfl (by decide) rfl ?_
  show J l G X Q 7 51 [.ref 14, .int x1, .int x2, .int (y1 + y0), .float 0, .float 0, .float 0] [] mu n
  refine J_goto (tgt := 145) h dX1_doRound_51 (by decide) ?_
  exact k1
theorem rX1_doRoundP_17b {l : Launch} {G : jG} {X : jX} {Q : State → Prop} {n hg nc : Nat} {ret : Option FieldType} {mu : jM} {x1 : Int32} {x2 : Int32} {x3 : Int32} {x4 : Int32} {x5 : Int32} (h : jOk l G X cX1_doRound 7 ret RX1 hg nc) (s3 : ¬ (mu 1 4) ≤ x3 → vp_in x3 64) (s5 : ¬ (mu 1 4) ≤ x3 → (mu 2 (x3).toNatClampNeg) = 15 → vp_in x3 64)
    (k2 : (mu 1 4) ≤ x3 → J l G X Q 7 159 [.ref 14, .int x1, .int x2, .int x3, .int x4, .int x5, .float 0] [.int (x2 - 1), .int x1, .ref 16] mu n)
    (k6 : ¬ (mu 1 4) ≤ x3 → (mu 2 (x3).toNatClampNeg) = 15 → J l G X Q 7 70 [.ref 14, .int x1, .int x2, .int x3, .int (x3 + (mu 4 (x3).toNatClampNeg)), .int 0, .float 0] [] mu n)
    (k7 : ¬ (mu 1 4) ≤ x3 → ¬ (mu 2 (x3).toNatClampNeg) = 15 → J l G X Q 7 46 [.ref 14, .int x1, .int x2, .int x3, .int x4, .int x5, .float 0] [.int 0, .int x3, .ref 14, .int x3] mu n) :
    J l G X Q 7 17 [.ref 14, .int x1, .int x2, .int x3, .int x4, .int x5, .float 0] [] mu n := by
  refine J_iload_n h dX1_doRound_17 rfl rfl ?_
  refine J_aload_n h dX1_doRound_18 rfl rfl ?_
  refine J_getr (k := 0) h dX1_doRound_19 jc1 rfl rfl (by decide) w186 ?_
  refine J_getiN (k := 4) h dX1_doRound_22 jc4 rfl rfl (by decide) w121 ?_
  refine J_icmp_ge (tgt := 151) h dX1_doRound_25 (by decide) (fun q1 => ?_) (fun q1 => ?_)
  · skip
    refine J_aload_n h dX1_doRound_151 rfl rfl ?_
    refine J_getr (k := 3) h dX1_doRound_152 jc1 rfl rfl (by decide) w190 ?_
    refine J_iload_n h dX1_doRound_155 rfl rfl ?_
    refine J_iload_n h dX1_doRound_156 rfl rfl ?_
    refine J_iconst h dX1_doRound_157 ci_1 ?_
    refine J_isub h dX1_doRound_158 ?_
    exact k2 q1
  · skip
    refine J_aload_n h dX1_doRound_28 rfl rfl ?_
    refine J_getr (k := 0) h dX1_doRound_29 jc1 rfl rfl (by decide) w186 ?_
    refine J_getrN (k := 0) h dX1_doRound_32 jc4 rfl rfl (by decide) w112 ?_
    refine J_iload_n h dX1_doRound_35 rfl rfl ?_
    refine J_iald h dX1_doRound_36 rfl (s3 q1) ?_
    refine J_bipush h dX1_doRound_37 cb_15 ?_
    refine J_icmp_eq (tgt := 54) h dX1_doRound_39 (by decide) (fun q4 => ?_) (fun q4 => ?_)
    · skip
      refine J_iload_n h dX1_doRound_54 rfl rfl ?_
      refine J_aload_n h dX1_doRound_55 rfl rfl ?_
      refine J_getr (k := 0) h dX1_doRound_56 jc1 rfl rfl (by decide) w186 ?_
      refine J_getrN (k := 2) h dX1_doRound_59 jc4 rfl rfl (by decide) w116 ?_
      refine J_iload_n h dX1_doRound_62 rfl rfl ?_
      refine J_iald h dX1_doRound_63 rfl (s5 q1 q4) ?_
      refine J_iadd h dX1_doRound_64 ?_
      refine J_istore h dX1_doRound_65 (by decide) rfl ?_
      show J l G X Q 7 67 [.ref 14, .int x1, .int x2, .int x3, .int (x3 + (mu 4 (x3).toNatClampNeg)), .int x5, .float 0] [] mu n
      refine J_iconst h dX1_doRound_67 ci_0 ?_
      refine J_istore h dX1_doRound_68 (by decide) rfl ?_
      show J l G X Q 7 70 [.ref 14, .int x1, .int x2, .int x3, .int (x3 + (mu 4 (x3).toNatClampNeg)), .int 0, .float 0] [] mu n
      exact k6 q1 q4
    · skip
      refine J_iload_n h dX1_doRound_42 rfl rfl ?_
      refine J_aload_n h dX1_doRound_43 rfl rfl ?_
      refine J_iload_n h dX1_doRound_44 rfl rfl ?_
      refine J_iconst h dX1_doRound_45 ci_0 ?_
      exact k7 q1 q4
theorem rX1_doRoundP_70b {l : Launch} {G : jG} {X : jX} {Q : State → Prop} {n hg nc : Nat} {ret : Option FieldType} {mu : jM} {x1 : Int32} {x2 : Int32} {x3 : Int32} {x4 : Int32} {x5 : Int32} {x6 : Int32} (h : jOk l G X cX1_doRound 7 ret RX1 hg nc) (s1 : vp_in x1 24) (s4 : ¬ (mu 9 (x1).toNatClampNeg) ≤ x5 → vp_in x3 64) (s5 : ¬ (mu 9 (x1).toNatClampNeg) ≤ x5 → vp_in ((x1 * 8) + (mu 3 (x3).toNatClampNeg)) 192)
    (k3 : (mu 9 (x1).toNatClampNeg) ≤ x5 → J l G X Q 7 145 [.ref 14, .int x1, .int x2, .int x4, .int x4, .int x5, .int x6] [] mu n)
    (k6 : ¬ (mu 9 (x1).toNatClampNeg) ≤ x5 → J l G X Q 7 110 [.ref 14, .int x1, .int x2, .int x3, .int x4, .int x5, .int (x3 + 1)] [] (wr mu 15 (((x1 * 8) + (mu 3 (x3).toNatClampNeg))).toNatClampNeg x5) n) :
    J l G X Q 7 70 [.ref 14, .int x1, .int x2, .int x3, .int x4, .int x5, .int x6] [] mu n := by
  refine J_iload h dX1_doRound_70 rfl ?_
  refine J_aload_n h dX1_doRound_72 rfl rfl ?_
  refine J_getr (k := 1) h dX1_doRound_73 jc1 rfl rfl (by decide) w187 ?_
  refine J_getrN (k := 4) h dX1_doRound_76 jc2 rfl rfl (by decide) w153 ?_
  refine J_iload_n h dX1_doRound_79 rfl rfl ?_
  refine J_iald h dX1_doRound_80 rfl (s1) ?_
  refine J_icmp_ge (tgt := 142) h dX1_doRound_81 (by decide) (fun q2 => ?_) (fun q2 => ?_)
  · skip
    refine J_iload h dX1_doRound_142 rfl ?_
    refine J_istore_n h dX1_doRound_144 rfl (by decide) rfl ?_
    show J l G X Q 7 145 [.ref 14, .int x1, .int x2, .int x4, .int x4, .int x5, .int x6] [] mu n
    exact k3 q2
  · skip
    refine J_aload_n h dX1_doRound_84 rfl rfl ?_
    refine J_getr (k := 2) h dX1_doRound_85 jc1 rfl rfl (by decide) w188 ?_
    refine J_iload_n h dX1_doRound_88 rfl rfl ?_
    refine J_bipush h dX1_doRound_89 cb_8 ?_
    refine J_imul h dX1_doRound_91 ?_
    refine J_aload_n h dX1_doRound_92 rfl rfl ?_
    refine J_getr (k := 0) h dX1_doRound_93 jc1 rfl rfl (by decide) w186 ?_
    refine J_getrN (k := 1) h dX1_doRound_96 jc4 rfl rfl (by decide) w114 ?_
    refine J_iload_n h dX1_doRound_99 rfl rfl ?_
    refine J_iald h dX1_doRound_100 rfl (s4 q2) ?_
    refine J_iadd h dX1_doRound_101 ?_
    refine J_iload h dX1_doRound_102 rfl ?_
    refine J_iast h dX1_doRound_104 rfl (s5 q2) ?_
    refine J_iload_n h dX1_doRound_105 rfl rfl ?_
    refine J_iconst h dX1_doRound_106 ci_1 ?_
    refine J_iadd h dX1_doRound_107 ?_
    refine J_istore h dX1_doRound_108 (by decide) rfl ?_
    show J l G X Q 7 110 [.ref 14, .int x1, .int x2, .int x3, .int x4, .int x5, .int (x3 + 1)] [] (wr mu 15 (((x1 * 8) + (mu 3 (x3).toNatClampNeg))).toNatClampNeg x5) n
    exact k6 q2
theorem rX1_doRoundP_124 {l : Launch} {G : jG} {X : jX} {Q : State → Prop} {n hg nc : Nat} {ret : Option FieldType} {mu : jM} {x1 : Int32} {x2 : Int32} {x3 : Int32} {x4 : Int32} {x5 : Int32} {x6 : Int32} {y0 : Int32} {y1 : Int32} {y3 : Int32} {Qc : Int32 → jM → Prop} {h' : Nat} (h : jOk l G X cX1_doRound 7 ret RX1 hg nc) (hM : jCi l G yX1_doWord cX1_doWord 4 h' (some .int) (.ref 14 :: [.int y1, .int y0]) mu Qc) (hh : h' < hg ∧ 4 ≤ 21) (hn : n ≤ nc)
    (kk : ∀ v mu', Qc v mu' → J l G X Q 7 127 [.ref 14, .int x1, .int x2, .int x3, .int x4, .int x5, .int x6] (.int v :: [.int y3]) mu' n) :
    J l G X Q 7 124 [.ref 14, .int x1, .int x2, .int x3, .int x4, .int x5, .int x6] [.int y0, .int y1, .ref 14, .int y3] mu n :=
  J_callVi (As := [.int y1, .int y0]) (rest := [.int y3]) h dX1_doRound_124 hM (jgV w674 w676 w9 w79 w677) rfl (ci := 1) rfl rfl nmX1_doWord rfl hh (Nat.le_of_ble_eq_true rfl) rfl kk hn
theorem rX1_doRoundP_145b {l : Launch} {G : jG} {X : jX} {Q : State → Prop} {n hg nc : Nat} {ret : Option FieldType} {mu : jM} {x1 : Int32} {x2 : Int32} {x3 : Int32} (h : jOk l G X cX1_doRound 7 ret RX1 hg nc)
    (k1 : J l G X Q 7 17 [.ref 14, .int x1, .int x2, .int (x3 + 1), .float 0, .float 0, .float 0] [] mu n) :
    J l G X Q 7 145 [.ref 14, .int x1, .int x2, .int x3, .float 0, .float 0, .float 0] [] mu n := by
  refine J_iinc h dX1_doRound_145 rfl (cc_1 _) (by decide) rfl ?_
  show J l G X Q 7 148 [.ref 14, .int x1, .int x2, .int (x3 + 1), .float 0, .float 0, .float 0] [] mu n
  refine J_goto (tgt := 17) h dX1_doRound_148 (by decide) ?_
  exact k1
theorem rX1_doRoundP_159b {l : Launch} {G : jG} {X : jX} {Q : State → Prop} {n hg nc : Nat} {ret : Option FieldType} {mu : jM} {x1 : Int32} {x2 : Int32} {x3 : Int32} {x4 : Int32} {x5 : Int32} {y0 : Int32} {y1 : Int32} {Qc : Int32 → jM → Prop} {h' : Nat} (h : jOk l G X cX1_doRound 7 ret RX1 hg nc) (hM : jCi l G yX1_boxOf cX1_boxOf 2 h' (some .int) [.int y1, .int y0] mu Qc) (hh : h' < hg ∧ 2 ≤ 21) (hn : n ≤ nc)
    (kk : ∀ v mu', Qc v mu' → J l G X Q 7 162 [.ref 14, .int x1, .int x2, .int x3, .int x4, .int x5, .float 0] (.int v :: [.ref 16]) mu' n) :
    J l G X Q 7 159 [.ref 14, .int x1, .int x2, .int x3, .int x4, .int x5, .float 0] [.int y0, .int y1, .ref 16] mu n :=
  J_callSi (As := [.int y1, .int y0]) (rest := [.ref 16]) h dX1_doRound_159 hM (jgS w682 w683 w79 w684) nmX1_boxOf rfl hh (Nat.le_of_ble_eq_true rfl) rfl kk hn
theorem rX1_doRoundP_46b {l : Launch} {G : jG} {X : jX} {Q : State → Prop} {n hg nc : Nat} {ret : Option FieldType} {mu : jM} {x1 : Int32} {x2 : Int32} {x3 : Int32} {x4 : Int32} {x5 : Int32} {y0 : Int32} {y1 : Int32} {y3 : Int32} {Qc : Int32 → jM → Prop} {h' : Nat} (h : jOk l G X cX1_doRound 7 ret RX1 hg nc) (hM : jCi l G yX1_doWord cX1_doWord 4 h' (some .int) (.ref 14 :: [.int y1, .int y0]) mu Qc) (hh : h' < hg ∧ 4 ≤ 21) (hn : n ≤ nc)
    (kk : ∀ v mu', Qc v mu' → J l G X Q 7 49 [.ref 14, .int x1, .int x2, .int x3, .int x4, .int x5, .float 0] (.int v :: [.int y3]) mu' n) :
    J l G X Q 7 46 [.ref 14, .int x1, .int x2, .int x3, .int x4, .int x5, .float 0] [.int y0, .int y1, .ref 14, .int y3] mu n :=
  J_callVi (As := [.int y1, .int y0]) (rest := [.int y3]) h dX1_doRound_46 hM (jgV w674 w676 w9 w79 w677) rfl (ci := 1) rfl rfl nmX1_doWord rfl hh (Nat.le_of_ble_eq_true rfl) rfl kk hn
theorem rX1_doRoundP_145c {l : Launch} {G : jG} {X : jX} {Q : State → Prop} {n hg nc : Nat} {ret : Option FieldType} {mu : jM} {x1 : Int32} {x2 : Int32} {x3 : Int32} {x4 : Int32} {x5 : Int32} {x6 : Int32} (h : jOk l G X cX1_doRound 7 ret RX1 hg nc)
    (k1 : J l G X Q 7 17 [.ref 14, .int x1, .int x2, .int (x3 + 1), .int x4, .int x5, .int x6] [] mu n) :
    J l G X Q 7 145 [.ref 14, .int x1, .int x2, .int x3, .int x4, .int x5, .int x6] [] mu n := by
  refine J_iinc h dX1_doRound_145 rfl (cc_1 _) (by decide) rfl ?_
  show J l G X Q 7 148 [.ref 14, .int x1, .int x2, .int (x3 + 1), .int x4, .int x5, .int x6] [] mu n
  refine J_goto (tgt := 17) h dX1_doRound_148 (by decide) ?_
  exact k1
theorem rX1_doRoundP_127 {l : Launch} {G : jG} {X : jX} {Q : State → Prop} {n hg nc : Nat} {ret : Option FieldType} {mu : jM} {x1 : Int32} {x2 : Int32} {x3 : Int32} {x4 : Int32} {x5 : Int32} {x6 : Int32} {y0 : Int32} {y1 : Int32} (h : jOk l G X cX1_doRound 7 ret RX1 hg nc)
    (k1 : J l G X Q 7 110 [.ref 14, .int x1, .int x2, .int x3, .int x4, .int x5, .int ((y1 + y0) + 1)] [] mu n) :
    J l G X Q 7 127 [.ref 14, .int x1, .int x2, .int x3, .int x4, .int x5, .int x6] [.int y0, .int y1] mu n := by
  refine J_iadd h dX1_doRound_127 ?_
  refine J_istore h dX1_doRound_128 (by decide) rfl ?_
  show J l G X Q 7 130 [.ref 14, .int x1, .int x2, .int x3, .int x4, .int x5, .int (y1 + y0)] [] mu n
  refine J_iinc h dX1_doRound_130 rfl (cc_1 _) (by decide) rfl ?_
  show J l G X Q 7 133 [.ref 14, .int x1, .int x2, .int x3, .int x4, .int x5, .int ((y1 + y0) + 1)] [] mu n
  refine J_goto (tgt := 110) h dX1_doRound_133 (by decide) ?_
  exact k1
theorem rX1_doRoundP_162b {l : Launch} {G : jG} {X : jX} {Q : State → Prop} {n hg nc : Nat} {ret : Option FieldType} {mu : jM} {x1 : Int32} {x2 : Int32} {x3 : Int32} {x4 : Int32} {x5 : Int32} {y0 : Int32} (h : jOk l G X cX1_doRound 7 ret RX1 hg nc) (s1 : vp_in y0 48)
    (k2 : J l G X Q 7 164 [.ref 14, .int x1, .int x2, .int x3, .int x4, .int x5, .float 0] [] (wr mu 16 (y0).toNatClampNeg 0) n) :
    J l G X Q 7 162 [.ref 14, .int x1, .int x2, .int x3, .int x4, .int x5, .float 0] [.int y0, .ref 16] mu n := by
  refine J_iconst h dX1_doRound_162 ci_0 ?_
  refine J_iast h dX1_doRound_163 rfl (s1) ?_
  exact k2
theorem rX1_doRoundP_49b {l : Launch} {G : jG} {X : jX} {Q : State → Prop} {n hg nc : Nat} {ret : Option FieldType} {mu : jM} {x1 : Int32} {x2 : Int32} {x3 : Int32} {x4 : Int32} {x5 : Int32} {y0 : Int32} {y1 : Int32} (h : jOk l G X cX1_doRound 7 ret RX1 hg nc)
    (k1 : J l G X Q 7 145 [.ref 14, .int x1, .int x2, .int (y1 + y0), .int x4, .int x5, .float 0] [] mu n) :
    J l G X Q 7 49 [.ref 14, .int x1, .int x2, .int x3, .int x4, .int x5, .float 0] [.int y0, .int y1] mu n := by
  refine J_iadd h dX1_doRound_49 ?_
  refine J_istore_n h dX1_doRound_50 rfl (by decide) rfl ?_
  show J l G X Q 7 51 [.ref 14, .int x1, .int x2, .int (y1 + y0), .int x4, .int x5, .float 0] [] mu n
  refine J_goto (tgt := 145) h dX1_doRound_51 (by decide) ?_
  exact k1
theorem rX1_doRoundP_17c {l : Launch} {G : jG} {X : jX} {Q : State → Prop} {n hg nc : Nat} {ret : Option FieldType} {mu : jM} {x1 : Int32} {x2 : Int32} {x3 : Int32} {x4 : Int32} {x5 : Int32} {x6 : Int32} (h : jOk l G X cX1_doRound 7 ret RX1 hg nc) (s3 : ¬ (mu 1 4) ≤ x3 → vp_in x3 64) (s5 : ¬ (mu 1 4) ≤ x3 → (mu 2 (x3).toNatClampNeg) = 15 → vp_in x3 64)
    (k2 : (mu 1 4) ≤ x3 → J l G X Q 7 159 [.ref 14, .int x1, .int x2, .int x3, .int x4, .int x5, .int x6] [.int (x2 - 1), .int x1, .ref 16] mu n)
    (k6 : ¬ (mu 1 4) ≤ x3 → (mu 2 (x3).toNatClampNeg) = 15 → J l G X Q 7 70 [.ref 14, .int x1, .int x2, .int x3, .int (x3 + (mu 4 (x3).toNatClampNeg)), .int 0, .int x6] [] mu n)
    (k7 : ¬ (mu 1 4) ≤ x3 → ¬ (mu 2 (x3).toNatClampNeg) = 15 → J l G X Q 7 46 [.ref 14, .int x1, .int x2, .int x3, .int x4, .int x5, .int x6] [.int 0, .int x3, .ref 14, .int x3] mu n) :
    J l G X Q 7 17 [.ref 14, .int x1, .int x2, .int x3, .int x4, .int x5, .int x6] [] mu n := by
  refine J_iload_n h dX1_doRound_17 rfl rfl ?_
  refine J_aload_n h dX1_doRound_18 rfl rfl ?_
  refine J_getr (k := 0) h dX1_doRound_19 jc1 rfl rfl (by decide) w186 ?_
  refine J_getiN (k := 4) h dX1_doRound_22 jc4 rfl rfl (by decide) w121 ?_
  refine J_icmp_ge (tgt := 151) h dX1_doRound_25 (by decide) (fun q1 => ?_) (fun q1 => ?_)
  · skip
    refine J_aload_n h dX1_doRound_151 rfl rfl ?_
    refine J_getr (k := 3) h dX1_doRound_152 jc1 rfl rfl (by decide) w190 ?_
    refine J_iload_n h dX1_doRound_155 rfl rfl ?_
    refine J_iload_n h dX1_doRound_156 rfl rfl ?_
    refine J_iconst h dX1_doRound_157 ci_1 ?_
    refine J_isub h dX1_doRound_158 ?_
    exact k2 q1
  · skip
    refine J_aload_n h dX1_doRound_28 rfl rfl ?_
    refine J_getr (k := 0) h dX1_doRound_29 jc1 rfl rfl (by decide) w186 ?_
    refine J_getrN (k := 0) h dX1_doRound_32 jc4 rfl rfl (by decide) w112 ?_
    refine J_iload_n h dX1_doRound_35 rfl rfl ?_
    refine J_iald h dX1_doRound_36 rfl (s3 q1) ?_
    refine J_bipush h dX1_doRound_37 cb_15 ?_
    refine J_icmp_eq (tgt := 54) h dX1_doRound_39 (by decide) (fun q4 => ?_) (fun q4 => ?_)
    · skip
      refine J_iload_n h dX1_doRound_54 rfl rfl ?_
      refine J_aload_n h dX1_doRound_55 rfl rfl ?_
      refine J_getr (k := 0) h dX1_doRound_56 jc1 rfl rfl (by decide) w186 ?_
      refine J_getrN (k := 2) h dX1_doRound_59 jc4 rfl rfl (by decide) w116 ?_
      refine J_iload_n h dX1_doRound_62 rfl rfl ?_
      refine J_iald h dX1_doRound_63 rfl (s5 q1 q4) ?_
      refine J_iadd h dX1_doRound_64 ?_
      refine J_istore h dX1_doRound_65 (by decide) rfl ?_
      show J l G X Q 7 67 [.ref 14, .int x1, .int x2, .int x3, .int (x3 + (mu 4 (x3).toNatClampNeg)), .int x5, .int x6] [] mu n
      refine J_iconst h dX1_doRound_67 ci_0 ?_
      refine J_istore h dX1_doRound_68 (by decide) rfl ?_
      show J l G X Q 7 70 [.ref 14, .int x1, .int x2, .int x3, .int (x3 + (mu 4 (x3).toNatClampNeg)), .int 0, .int x6] [] mu n
      exact k6 q1 q4
    · skip
      refine J_iload_n h dX1_doRound_42 rfl rfl ?_
      refine J_aload_n h dX1_doRound_43 rfl rfl ?_
      refine J_iload_n h dX1_doRound_44 rfl rfl ?_
      refine J_iconst h dX1_doRound_45 ci_0 ?_
      exact k7 q1 q4
theorem rX1_doRoundP_159c {l : Launch} {G : jG} {X : jX} {Q : State → Prop} {n hg nc : Nat} {ret : Option FieldType} {mu : jM} {x1 : Int32} {x2 : Int32} {x3 : Int32} {x4 : Int32} {x5 : Int32} {x6 : Int32} {y0 : Int32} {y1 : Int32} {Qc : Int32 → jM → Prop} {h' : Nat} (h : jOk l G X cX1_doRound 7 ret RX1 hg nc) (hM : jCi l G yX1_boxOf cX1_boxOf 2 h' (some .int) [.int y1, .int y0] mu Qc) (hh : h' < hg ∧ 2 ≤ 21) (hn : n ≤ nc)
    (kk : ∀ v mu', Qc v mu' → J l G X Q 7 162 [.ref 14, .int x1, .int x2, .int x3, .int x4, .int x5, .int x6] (.int v :: [.ref 16]) mu' n) :
    J l G X Q 7 159 [.ref 14, .int x1, .int x2, .int x3, .int x4, .int x5, .int x6] [.int y0, .int y1, .ref 16] mu n :=
  J_callSi (As := [.int y1, .int y0]) (rest := [.ref 16]) h dX1_doRound_159 hM (jgS w682 w683 w79 w684) nmX1_boxOf rfl hh (Nat.le_of_ble_eq_true rfl) rfl kk hn
theorem rX1_doRoundP_46c {l : Launch} {G : jG} {X : jX} {Q : State → Prop} {n hg nc : Nat} {ret : Option FieldType} {mu : jM} {x1 : Int32} {x2 : Int32} {x3 : Int32} {x4 : Int32} {x5 : Int32} {x6 : Int32} {y0 : Int32} {y1 : Int32} {y3 : Int32} {Qc : Int32 → jM → Prop} {h' : Nat} (h : jOk l G X cX1_doRound 7 ret RX1 hg nc) (hM : jCi l G yX1_doWord cX1_doWord 4 h' (some .int) (.ref 14 :: [.int y1, .int y0]) mu Qc) (hh : h' < hg ∧ 4 ≤ 21) (hn : n ≤ nc)
    (kk : ∀ v mu', Qc v mu' → J l G X Q 7 49 [.ref 14, .int x1, .int x2, .int x3, .int x4, .int x5, .int x6] (.int v :: [.int y3]) mu' n) :
    J l G X Q 7 46 [.ref 14, .int x1, .int x2, .int x3, .int x4, .int x5, .int x6] [.int y0, .int y1, .ref 14, .int y3] mu n :=
  J_callVi (As := [.int y1, .int y0]) (rest := [.int y3]) h dX1_doRound_46 hM (jgV w674 w676 w9 w79 w677) rfl (ci := 1) rfl rfl nmX1_doWord rfl hh (Nat.le_of_ble_eq_true rfl) rfl kk hn
theorem rX1_doRoundP_162c {l : Launch} {G : jG} {X : jX} {Q : State → Prop} {n hg nc : Nat} {ret : Option FieldType} {mu : jM} {x1 : Int32} {x2 : Int32} {x3 : Int32} {x4 : Int32} {x5 : Int32} {x6 : Int32} {y0 : Int32} (h : jOk l G X cX1_doRound 7 ret RX1 hg nc) (s1 : vp_in y0 48)
    (k2 : J l G X Q 7 164 [.ref 14, .int x1, .int x2, .int x3, .int x4, .int x5, .int x6] [] (wr mu 16 (y0).toNatClampNeg 0) n) :
    J l G X Q 7 162 [.ref 14, .int x1, .int x2, .int x3, .int x4, .int x5, .int x6] [.int y0, .ref 16] mu n := by
  refine J_iconst h dX1_doRound_162 ci_0 ?_
  refine J_iast h dX1_doRound_163 rfl (s1) ?_
  exact k2
theorem rX1_doRoundP_49c {l : Launch} {G : jG} {X : jX} {Q : State → Prop} {n hg nc : Nat} {ret : Option FieldType} {mu : jM} {x1 : Int32} {x2 : Int32} {x3 : Int32} {x4 : Int32} {x5 : Int32} {x6 : Int32} {y0 : Int32} {y1 : Int32} (h : jOk l G X cX1_doRound 7 ret RX1 hg nc)
    (k1 : J l G X Q 7 145 [.ref 14, .int x1, .int x2, .int (y1 + y0), .int x4, .int x5, .int x6] [] mu n) :
    J l G X Q 7 49 [.ref 14, .int x1, .int x2, .int x3, .int x4, .int x5, .int x6] [.int y0, .int y1] mu n := by
  refine J_iadd h dX1_doRound_49 ?_
  refine J_istore_n h dX1_doRound_50 rfl (by decide) rfl ?_
  show J l G X Q 7 51 [.ref 14, .int x1, .int x2, .int (y1 + y0), .int x4, .int x5, .int x6] [] mu n
  refine J_goto (tgt := 145) h dX1_doRound_51 (by decide) ?_
  exact k1
/-! LockstepNet$Machine.doWord(II)I P -/
theorem rX1_doWordP_0 {l : Launch} {G : jG} {X : jX} {Q : State → Prop} {n hg nc : Nat} {ret : Option FieldType} {mu : jM} {x1 : Int32} {x2 : Int32} (h : jOk l G X cX1_doWord 4 ret RX1 hg nc) (s1 : vp_in x1 64) (s2 : vp_in x1 64)
    (k3 : J l G X Q 4 27 [.ref 14, .int x1, .int x2, .int (((mu 14 7) * 8) + (mu 3 (x1).toNatClampNeg))] [.int (mu 2 (x1).toNatClampNeg)] mu n) :
    J l G X Q 4 0 [.ref 14, .int x1, .int x2, .float 0] [] mu n := by
  refine J_aload_n h dX1_doWord_0 rfl rfl ?_
  refine J_geti (k := 7) h dX1_doWord_1 jc1 rfl rfl (by decide) w196 ?_
  refine J_bipush h dX1_doWord_4 cb_8 ?_
  refine J_imul h dX1_doWord_6 ?_
  refine J_aload_n h dX1_doWord_7 rfl rfl ?_
  refine J_getr (k := 0) h dX1_doWord_8 jc1 rfl rfl (by decide) w186 ?_
  refine J_getrN (k := 1) h dX1_doWord_11 jc4 rfl rfl (by decide) w114 ?_
  refine J_iload_n h dX1_doWord_14 rfl rfl ?_
  refine J_iald h dX1_doWord_15 rfl (s1) ?_
  refine J_iadd h dX1_doWord_16 ?_
  refine J_istore_n h dX1_doWord_17 rfl (by decide) rfl ?_
  show J l G X Q 4 18 [.ref 14, .int x1, .int x2, .int (((mu 14 7) * 8) + (mu 3 (x1).toNatClampNeg))] [] mu n
  refine J_aload_n h dX1_doWord_18 rfl rfl ?_
  refine J_getr (k := 0) h dX1_doWord_19 jc1 rfl rfl (by decide) w186 ?_
  refine J_getrN (k := 0) h dX1_doWord_22 jc4 rfl rfl (by decide) w112 ?_
  refine J_iload_n h dX1_doWord_25 rfl rfl ?_
  refine J_iald h dX1_doWord_26 rfl (s2) ?_
  exact k3
theorem rX1_doWordP_27 {l : Launch} {G : jG} {X : jX} {Q : State → Prop} {n hg nc : Nat} {ret : Option FieldType} {mu : jM} {x1 : Int32} {x2 : Int32} {x3 : Int32} {y0 : Int32} (h : jOk l G X cX1_doWord 4 ret RX1 hg nc)
    (k0 : y0 = 0 → J l G X Q 4 177 [.ref 14, .int x1, .int x2, .int x3] [] mu n)
    (k1 : y0 = 1 → J l G X Q 4 270 [.ref 14, .int x1, .int x2, .int x3] [] mu n)
    (k2 : y0 = 2 → J l G X Q 4 270 [.ref 14, .int x1, .int x2, .int x3] [] mu n)
    (k3 : y0 = 3 → J l G X Q 4 270 [.ref 14, .int x1, .int x2, .int x3] [] mu n)
    (k4 : y0 = 4 → J l G X Q 4 270 [.ref 14, .int x1, .int x2, .int x3] [] mu n)
    (k5 : y0 = 5 → J l G X Q 4 270 [.ref 14, .int x1, .int x2, .int x3] [] mu n)
    (k6 : y0 = 6 → J l G X Q 4 270 [.ref 14, .int x1, .int x2, .int x3] [] mu n)
    (k7 : y0 = 7 → J l G X Q 4 270 [.ref 14, .int x1, .int x2, .int x3] [] mu n)
    (k8 : y0 = 8 → J l G X Q 4 270 [.ref 14, .int x1, .int x2, .int x3] [] mu n)
    (k9 : y0 = 9 → J l G X Q 4 270 [.ref 14, .int x1, .int x2, .int x3] [] mu n)
    (k10 : y0 = 10 → J l G X Q 4 270 [.ref 14, .int x1, .int x2, .int x3] [] mu n)
    (k11 : y0 = 11 → J l G X Q 4 270 [.ref 14, .int x1, .int x2, .int x3] [] mu n)
    (k12 : y0 = 12 → J l G X Q 4 270 [.ref 14, .int x1, .int x2, .int x3] [] mu n)
    (k13 : y0 = 13 → J l G X Q 4 270 [.ref 14, .int x1, .int x2, .int x3] [] mu n)
    (k14 : y0 = 14 → J l G X Q 4 128 [.ref 14, .int x1, .int x2, .int x3] [] mu n)
    (k15 : y0 = 15 → J l G X Q 4 270 [.ref 14, .int x1, .int x2, .int x3] [] mu n)
    (k16 : y0 = 16 → J l G X Q 4 194 [.ref 14, .int x1, .int x2, .int x3] [] mu n)
    (k17 : y0 = 17 → J l G X Q 4 194 [.ref 14, .int x1, .int x2, .int x3] [] mu n)
    (k18 : y0 = 18 → J l G X Q 4 151 [.ref 14, .int x1, .int x2, .int x3] [] mu n)
    (k19 : y0 = 19 → J l G X Q 4 226 [.ref 14, .int x1, .int x2, .int x3] [] mu n)
    (k20 : y0 = 20 → J l G X Q 4 238 [.ref 14, .int x1, .int x2, .int x3] [] mu n)
    (k21 : y0 = 21 → J l G X Q 4 250 [.ref 14, .int x1, .int x2, .int x3] [] mu n)
    (kd : ¬ y0 = 0 → ¬ y0 = 1 → ¬ y0 = 2 → ¬ y0 = 3 → ¬ y0 = 4 → ¬ y0 = 5 → ¬ y0 = 6 → ¬ y0 = 7 → ¬ y0 = 8 → ¬ y0 = 9 → ¬ y0 = 10 → ¬ y0 = 11 → ¬ y0 = 12 → ¬ y0 = 13 → ¬ y0 = 14 → ¬ y0 = 15 → ¬ y0 = 16 → ¬ y0 = 17 → ¬ y0 = 18 → ¬ y0 = 19 → ¬ y0 = 20 → ¬ y0 = 21 → J l G X Q 4 270 [.ref 14, .int x1, .int x2, .int x3] [] mu n) :
    J l G X Q 4 27 [.ref 14, .int x1, .int x2, .int x3] [.int y0] mu n := by
  by_cases e0 : y0 = 0
  · subst e0
    exact J_tableIn (tgt := 177) (off := 150) h dX1_doWord_27 (by decide) (by decide) (by decide) (by decide) (k0 rfl)
  by_cases e1 : y0 = 1
  · subst e1
    exact J_tableIn (tgt := 270) (off := 243) h dX1_doWord_27 (by decide) (by decide) (by decide) (by decide) (k1 rfl)
  by_cases e2 : y0 = 2
  · subst e2
    exact J_tableIn (tgt := 270) (off := 243) h dX1_doWord_27 (by decide) (by decide) (by decide) (by decide) (k2 rfl)
  by_cases e3 : y0 = 3
  · subst e3
    exact J_tableIn (tgt := 270) (off := 243) h dX1_doWord_27 (by decide) (by decide) (by decide) (by decide) (k3 rfl)
  by_cases e4 : y0 = 4
  · subst e4
    exact J_tableIn (tgt := 270) (off := 243) h dX1_doWord_27 (by decide) (by decide) (by decide) (by decide) (k4 rfl)
  by_cases e5 : y0 = 5
  · subst e5
    exact J_tableIn (tgt := 270) (off := 243) h dX1_doWord_27 (by decide) (by decide) (by decide) (by decide) (k5 rfl)
  by_cases e6 : y0 = 6
  · subst e6
    exact J_tableIn (tgt := 270) (off := 243) h dX1_doWord_27 (by decide) (by decide) (by decide) (by decide) (k6 rfl)
  by_cases e7 : y0 = 7
  · subst e7
    exact J_tableIn (tgt := 270) (off := 243) h dX1_doWord_27 (by decide) (by decide) (by decide) (by decide) (k7 rfl)
  by_cases e8 : y0 = 8
  · subst e8
    exact J_tableIn (tgt := 270) (off := 243) h dX1_doWord_27 (by decide) (by decide) (by decide) (by decide) (k8 rfl)
  by_cases e9 : y0 = 9
  · subst e9
    exact J_tableIn (tgt := 270) (off := 243) h dX1_doWord_27 (by decide) (by decide) (by decide) (by decide) (k9 rfl)
  by_cases e10 : y0 = 10
  · subst e10
    exact J_tableIn (tgt := 270) (off := 243) h dX1_doWord_27 (by decide) (by decide) (by decide) (by decide) (k10 rfl)
  by_cases e11 : y0 = 11
  · subst e11
    exact J_tableIn (tgt := 270) (off := 243) h dX1_doWord_27 (by decide) (by decide) (by decide) (by decide) (k11 rfl)
  by_cases e12 : y0 = 12
  · subst e12
    exact J_tableIn (tgt := 270) (off := 243) h dX1_doWord_27 (by decide) (by decide) (by decide) (by decide) (k12 rfl)
  by_cases e13 : y0 = 13
  · subst e13
    exact J_tableIn (tgt := 270) (off := 243) h dX1_doWord_27 (by decide) (by decide) (by decide) (by decide) (k13 rfl)
  by_cases e14 : y0 = 14
  · subst e14
    exact J_tableIn (tgt := 128) (off := 101) h dX1_doWord_27 (by decide) (by decide) (by decide) (by decide) (k14 rfl)
  by_cases e15 : y0 = 15
  · subst e15
    exact J_tableIn (tgt := 270) (off := 243) h dX1_doWord_27 (by decide) (by decide) (by decide) (by decide) (k15 rfl)
  by_cases e16 : y0 = 16
  · subst e16
    exact J_tableIn (tgt := 194) (off := 167) h dX1_doWord_27 (by decide) (by decide) (by decide) (by decide) (k16 rfl)
  by_cases e17 : y0 = 17
  · subst e17
    exact J_tableIn (tgt := 194) (off := 167) h dX1_doWord_27 (by decide) (by decide) (by decide) (by decide) (k17 rfl)
  by_cases e18 : y0 = 18
  · subst e18
    exact J_tableIn (tgt := 151) (off := 124) h dX1_doWord_27 (by decide) (by decide) (by decide) (by decide) (k18 rfl)
  by_cases e19 : y0 = 19
  · subst e19
    exact J_tableIn (tgt := 226) (off := 199) h dX1_doWord_27 (by decide) (by decide) (by decide) (by decide) (k19 rfl)
  by_cases e20 : y0 = 20
  · subst e20
    exact J_tableIn (tgt := 238) (off := 211) h dX1_doWord_27 (by decide) (by decide) (by decide) (by decide) (k20 rfl)
  by_cases e21 : y0 = 21
  · subst e21
    exact J_tableIn (tgt := 250) (off := 223) h dX1_doWord_27 (by decide) (by decide) (by decide) (by decide) (k21 rfl)
  refine J_tableOut (tgt := 270) h dX1_doWord_27 ?_ (by decide) (kd e0 e1 e2 e3 e4 e5 e6 e7 e8 e9 e10 e11 e12 e13 e14 e15 e16 e17 e18 e19 e20 e21)
  refine jout 22 (by decide) (fun k hk => ?_)
  match k, hk with
  | 0, _ => exact lv_neT e0 (by decide)
  | 1, _ => exact lv_neT e1 (by decide)
  | 2, _ => exact lv_neT e2 (by decide)
  | 3, _ => exact lv_neT e3 (by decide)
  | 4, _ => exact lv_neT e4 (by decide)
  | 5, _ => exact lv_neT e5 (by decide)
  | 6, _ => exact lv_neT e6 (by decide)
  | 7, _ => exact lv_neT e7 (by decide)
  | 8, _ => exact lv_neT e8 (by decide)
  | 9, _ => exact lv_neT e9 (by decide)
  | 10, _ => exact lv_neT e10 (by decide)
  | 11, _ => exact lv_neT e11 (by decide)
  | 12, _ => exact lv_neT e12 (by decide)
  | 13, _ => exact lv_neT e13 (by decide)
  | 14, _ => exact lv_neT e14 (by decide)
  | 15, _ => exact lv_neT e15 (by decide)
  | 16, _ => exact lv_neT e16 (by decide)
  | 17, _ => exact lv_neT e17 (by decide)
  | 18, _ => exact lv_neT e18 (by decide)
  | 19, _ => exact lv_neT e19 (by decide)
  | 20, _ => exact lv_neT e20 (by decide)
  | 21, _ => exact lv_neT e21 (by decide)
  | k + 22, hk => omega
theorem rX1_doWordP_177 {l : Launch} {G : jG} {X : jX} {Q : State → Prop} {n hg nc : Nat} {ret : Option FieldType} {mu : jM} {x1 : Int32} {x2 : Int32} {x3 : Int32} (h : jOk l G X cX1_doWord 4 ret RX1 hg nc) (s1 : vp_in x1 64) (s2 : vp_in x3 192)
    (k3 : J l G X Q 4 193 [.ref 14, .int x1, .int x2, .int x3] [.int 0] (wr mu 15 (x3).toNatClampNeg (mu 4 (x1).toNatClampNeg)) n) :
    J l G X Q 4 177 [.ref 14, .int x1, .int x2, .int x3] [] mu n := by
  refine J_aload_n h dX1_doWord_177 rfl rfl ?_
  refine J_getr (k := 2) h dX1_doWord_178 jc1 rfl rfl (by decide) w188 ?_
  refine J_iload_n h dX1_doWord_181 rfl rfl ?_
  refine J_aload_n h dX1_doWord_182 rfl rfl ?_
  refine J_getr (k := 0) h dX1_doWord_183 jc1 rfl rfl (by decide) w186 ?_
  refine J_getrN (k := 2) h dX1_doWord_186 jc4 rfl rfl (by decide) w116 ?_
  refine J_iload_n h dX1_doWord_189 rfl rfl ?_
  refine J_iald h dX1_doWord_190 rfl (s1) ?_
  refine J_iast h dX1_doWord_191 rfl (s2) ?_
  refine J_iconst h dX1_doWord_192 ci_0 ?_
  exact k3
theorem rX1_doWordP_270 {l : Launch} {G : jG} {X : jX} {Q : State → Prop} {n hg nc : Nat} {ret : Option FieldType} {mu : jM} {x1 : Int32} {x2 : Int32} {x3 : Int32} (h : jOk l G X cX1_doWord 4 ret RX1 hg nc)
    (k1 : J l G X Q 4 277 [.ref 14, .int x1, .int x2, .int x3] [.int x1, .ref 14, .int x3, .ref 15] mu n) :
    J l G X Q 4 270 [.ref 14, .int x1, .int x2, .int x3] [] mu n := by
  refine J_aload_n h dX1_doWord_270 rfl rfl ?_
  refine J_getr (k := 2) h dX1_doWord_271 jc1 rfl rfl (by decide) w188 ?_
  refine J_iload_n h dX1_doWord_274 rfl rfl ?_
  refine J_aload_n h dX1_doWord_275 rfl rfl ?_
  refine J_iload_n h dX1_doWord_276 rfl rfl ?_
  exact k1
theorem rX1_doWordP_128 {l : Launch} {G : jG} {X : jX} {Q : State → Prop} {n hg nc : Nat} {ret : Option FieldType} {mu : jM} {x1 : Int32} {x2 : Int32} {x3 : Int32} (h : jOk l G X cX1_doWord 4 ret RX1 hg nc) (s1 : vp_in x3 192) (s4 : (mu 15 (x3).toNatClampNeg) = 0 → vp_in x1 64)
    (k3 : ¬ (mu 15 (x3).toNatClampNeg) = 0 → J l G X Q 4 150 [.ref 14, .int x1, .int x2, .int x3] [.int 0] mu n)
    (k5 : (mu 15 (x3).toNatClampNeg) = 0 → J l G X Q 4 150 [.ref 14, .int x1, .int x2, .int x3] [.int (mu 4 (x1).toNatClampNeg)] mu n) :
    J l G X Q 4 128 [.ref 14, .int x1, .int x2, .int x3] [] mu n := by
  refine J_aload_n h dX1_doWord_128 rfl rfl ?_
  refine J_getr (k := 2) h dX1_doWord_129 jc1 rfl rfl (by decide) w188 ?_
  refine J_iload_n h dX1_doWord_132 rfl rfl ?_
  refine J_iald h dX1_doWord_133 rfl (s1) ?_
  refine J_if_ne (tgt := 149) h dX1_doWord_134 (by decide) (fun q2 => ?_) (fun q2 => ?_)
  · skip
    refine J_iconst h dX1_doWord_149 ci_0 ?_
    exact k3 q2
  · skip
    refine J_aload_n h dX1_doWord_137 rfl rfl ?_
    refine J_getr (k := 0) h dX1_doWord_138 jc1 rfl rfl (by decide) w186 ?_
    refine J_getrN (k := 2) h dX1_doWord_141 jc4 rfl rfl (by decide) w116 ?_
    refine J_iload_n h dX1_doWord_144 rfl rfl ?_
    refine J_iald h dX1_doWord_145 rfl (s4 q2) ?_
    refine J_goto (tgt := 150) h dX1_doWord_146 (by decide) ?_
    exact k5 q2
theorem rX1_doWordP_194 {l : Launch} {G : jG} {X : jX} {Q : State → Prop} {n hg nc : Nat} {ret : Option FieldType} {mu : jM} {x1 : Int32} {x2 : Int32} {x3 : Int32} (h : jOk l G X cX1_doWord 4 ret RX1 hg nc) (s1 : vp_in x1 64)
    (k3 : ¬ (mu 2 (x1).toNatClampNeg) = 17 → J l G X Q 4 220 [.ref 14, .int x1, .int x2, .int x3] [.int 0, .int x2, .ref 14, .int x3, .ref 15] mu n)
    (k4 : (mu 2 (x1).toNatClampNeg) = 17 → J l G X Q 4 220 [.ref 14, .int x1, .int x2, .int x3] [.int 1, .int x2, .ref 14, .int x3, .ref 15] mu n) :
    J l G X Q 4 194 [.ref 14, .int x1, .int x2, .int x3] [] mu n := by
  refine J_aload_n h dX1_doWord_194 rfl rfl ?_
  refine J_getr (k := 2) h dX1_doWord_195 jc1 rfl rfl (by decide) w188 ?_
  refine J_iload_n h dX1_doWord_198 rfl rfl ?_
  refine J_aload_n h dX1_doWord_199 rfl rfl ?_
  refine J_iload_n h dX1_doWord_200 rfl rfl ?_
  refine J_aload_n h dX1_doWord_201 rfl rfl ?_
  refine J_getr (k := 0) h dX1_doWord_202 jc1 rfl rfl (by decide) w186 ?_
  refine J_getrN (k := 0) h dX1_doWord_205 jc4 rfl rfl (by decide) w112 ?_
  refine J_iload_n h dX1_doWord_208 rfl rfl ?_
  refine J_iald h dX1_doWord_209 rfl (s1) ?_
  refine J_bipush h dX1_doWord_210 cb_17 ?_
  refine J_icmp_ne (tgt := 219) h dX1_doWord_212 (by decide) (fun q2 => ?_) (fun q2 => ?_)
  · skip
    refine J_iconst h dX1_doWord_219 ci_0 ?_
    exact k3 q2
  · skip
    refine J_iconst h dX1_doWord_215 ci_1 ?_
    refine J_goto (tgt := 220) h dX1_doWord_216 (by decide) ?_
    exact k4 q2
theorem rX1_doWordP_151 {l : Launch} {G : jG} {X : jX} {Q : State → Prop} {n hg nc : Nat} {ret : Option FieldType} {mu : jM} {x1 : Int32} {x2 : Int32} {x3 : Int32} (h : jOk l G X cX1_doWord 4 ret RX1 hg nc) (s1 : vp_in x3 192) (s2 : vp_in x2 24)
    (k3 : J l G X Q 4 176 [.ref 14, .int x1, .int x2, .int x3] [.int 0] (wr (wr mu 14 6 ((mu 14 6) ||| (1 <<< (x2 &&& 31)))) 18 (x2).toNatClampNeg (mu 15 (x3).toNatClampNeg)) n) :
    J l G X Q 4 151 [.ref 14, .int x1, .int x2, .int x3] [] mu n := by
  refine J_aload_n h dX1_doWord_151 rfl rfl ?_
  refine J_dup h dX1_doWord_152 rfl ?_
  refine J_geti (k := 6) h dX1_doWord_153 jc1 rfl rfl (by decide) w194 ?_
  refine J_iconst h dX1_doWord_156 ci_1 ?_
  refine J_iload_n h dX1_doWord_157 rfl rfl ?_
  refine J_ishl h dX1_doWord_158 ?_
  refine J_ior h dX1_doWord_159 ?_
  refine J_puti (k := 6) (ty0 := tyX1) h dX1_doWord_160 jc1 tyX1_ok nmX1 rfl rfl (by decide) rfl rfl rfl w194 ?_
  refine J_aload_n h dX1_doWord_163 rfl rfl ?_
  refine J_getr (k := 5) h dX1_doWord_164 jc1 rfl rfl (by decide) w192 ?_
  refine J_iload_n h dX1_doWord_167 rfl rfl ?_
  refine J_aload_n h dX1_doWord_168 rfl rfl ?_
  refine J_getr (k := 2) h dX1_doWord_169 jc1 rfl rfl (by decide) w188 ?_
  refine J_iload_n h dX1_doWord_172 rfl rfl ?_
  refine J_iald h dX1_doWord_173 rfl (s1) ?_
  refine J_iast h dX1_doWord_174 rfl (s2) ?_
  refine J_iconst h dX1_doWord_175 ci_0 ?_
  exact k3
theorem rX1_doWordP_226 {l : Launch} {G : jG} {X : jX} {Q : State → Prop} {n hg nc : Nat} {ret : Option FieldType} {mu : jM} {x1 : Int32} {x2 : Int32} {x3 : Int32} (h : jOk l G X cX1_doWord 4 ret RX1 hg nc) (s1 : vp_in x3 192)
    (k2 : J l G X Q 4 237 [.ref 14, .int x1, .int x2, .int x3] [.int 0] (wr mu 15 (x3).toNatClampNeg (mu 14 8)) n) :
    J l G X Q 4 226 [.ref 14, .int x1, .int x2, .int x3] [] mu n := by
  refine J_aload_n h dX1_doWord_226 rfl rfl ?_
  refine J_getr (k := 2) h dX1_doWord_227 jc1 rfl rfl (by decide) w188 ?_
  refine J_iload_n h dX1_doWord_230 rfl rfl ?_
  refine J_aload_n h dX1_doWord_231 rfl rfl ?_
  refine J_geti (k := 8) h dX1_doWord_232 jc1 rfl rfl (by decide) w197 ?_
  refine J_iast h dX1_doWord_235 rfl (s1) ?_
  refine J_iconst h dX1_doWord_236 ci_0 ?_
  exact k2
theorem rX1_doWordP_238 {l : Launch} {G : jG} {X : jX} {Q : State → Prop} {n hg nc : Nat} {ret : Option FieldType} {mu : jM} {x1 : Int32} {x2 : Int32} {x3 : Int32} (h : jOk l G X cX1_doWord 4 ret RX1 hg nc) (s1 : vp_in x3 192)
    (k2 : J l G X Q 4 249 [.ref 14, .int x1, .int x2, .int x3] [.int 0] (wr mu 15 (x3).toNatClampNeg (mu 14 7)) n) :
    J l G X Q 4 238 [.ref 14, .int x1, .int x2, .int x3] [] mu n := by
  refine J_aload_n h dX1_doWord_238 rfl rfl ?_
  refine J_getr (k := 2) h dX1_doWord_239 jc1 rfl rfl (by decide) w188 ?_
  refine J_iload_n h dX1_doWord_242 rfl rfl ?_
  refine J_aload_n h dX1_doWord_243 rfl rfl ?_
  refine J_geti (k := 7) h dX1_doWord_244 jc1 rfl rfl (by decide) w196 ?_
  refine J_iast h dX1_doWord_247 rfl (s1) ?_
  refine J_iconst h dX1_doWord_248 ci_0 ?_
  exact k2
theorem rX1_doWordP_250 {l : Launch} {G : jG} {X : jX} {Q : State → Prop} {n hg nc : Nat} {ret : Option FieldType} {mu : jM} {x1 : Int32} {x2 : Int32} {x3 : Int32} (h : jOk l G X cX1_doWord 4 ret RX1 hg nc) (s1 : vp_in (mu 14 7) 24) (s2 : vp_in x3 192)
    (k3 : J l G X Q 4 269 [.ref 14, .int x1, .int x2, .int x3] [.int 0] (wr mu 15 (x3).toNatClampNeg (mu 9 ((mu 14 7)).toNatClampNeg)) n) :
    J l G X Q 4 250 [.ref 14, .int x1, .int x2, .int x3] [] mu n := by
  refine J_aload_n h dX1_doWord_250 rfl rfl ?_
  refine J_getr (k := 2) h dX1_doWord_251 jc1 rfl rfl (by decide) w188 ?_
  refine J_iload_n h dX1_doWord_254 rfl rfl ?_
  refine J_aload_n h dX1_doWord_255 rfl rfl ?_
  refine J_getr (k := 1) h dX1_doWord_256 jc1 rfl rfl (by decide) w187 ?_
  refine J_getrN (k := 4) h dX1_doWord_259 jc2 rfl rfl (by decide) w153 ?_
  refine J_aload_n h dX1_doWord_262 rfl rfl ?_
  refine J_geti (k := 7) h dX1_doWord_263 jc1 rfl rfl (by decide) w196 ?_
  refine J_iald h dX1_doWord_266 rfl (s1) ?_
  refine J_iast h dX1_doWord_267 rfl (s2) ?_
  refine J_iconst h dX1_doWord_268 ci_0 ?_
  exact k3
theorem rX1_doWordP_277 {l : Launch} {G : jG} {X : jX} {Q : State → Prop} {n hg nc : Nat} {ret : Option FieldType} {mu : jM} {x1 : Int32} {x2 : Int32} {x3 : Int32} {y0 : Int32} {y2 : Int32} {Qc : Int32 → jM → Prop} {h' : Nat} (h : jOk l G X cX1_doWord 4 ret RX1 hg nc) (hM : jCi l G yX1_reckoned cX1_reckoned 4 h' (some .int) (.ref 14 :: [.int y0]) mu Qc) (hh : h' < hg ∧ 4 ≤ 21) (hn : n ≤ nc)
    (kk : ∀ v mu', Qc v mu' → J l G X Q 4 280 [.ref 14, .int x1, .int x2, .int x3] (.int v :: [.int y2, .ref 15]) mu' n) :
    J l G X Q 4 277 [.ref 14, .int x1, .int x2, .int x3] [.int y0, .ref 14, .int y2, .ref 15] mu n :=
  J_callVi (As := [.int y0]) (rest := [.int y2, .ref 15]) h dX1_doWord_277 hM (jgV w685 w687 w11 w79 w688) rfl (ci := 1) rfl rfl nmX1_reckoned rfl hh (Nat.le_of_ble_eq_true rfl) rfl kk hn
theorem rX1_doWordP_220 {l : Launch} {G : jG} {X : jX} {Q : State → Prop} {n hg nc : Nat} {ret : Option FieldType} {mu : jM} {x1 : Int32} {x2 : Int32} {x3 : Int32} {y0 : Int32} {y1 : Int32} {y3 : Int32} {Qc : Int32 → jM → Prop} {h' : Nat} (h : jOk l G X cX1_doWord 4 ret RX1 hg nc) (hM : jCi l G yX1_received cX1_received 4 h' (some .int) (.ref 14 :: [.int y1, .int y0]) mu Qc) (hh : h' < hg ∧ 4 ≤ 21) (hn : n ≤ nc)
    (kk : ∀ v mu', Qc v mu' → J l G X Q 4 223 [.ref 14, .int x1, .int x2, .int x3] (.int v :: [.int y3, .ref 15]) mu' n) :
    J l G X Q 4 220 [.ref 14, .int x1, .int x2, .int x3] [.int y0, .int y1, .ref 14, .int y3, .ref 15] mu n :=
  J_callVi (As := [.int y1, .int y0]) (rest := [.int y3, .ref 15]) h dX1_doWord_220 hM (jgV w678 w680 w10 w79 w681) rfl (ci := 1) rfl rfl nmX1_received rfl hh (Nat.le_of_ble_eq_true rfl) rfl kk hn
theorem rX1_doWordP_280 {l : Launch} {G : jG} {X : jX} {Q : State → Prop} {n hg nc : Nat} {ret : Option FieldType} {mu : jM} {x1 : Int32} {x2 : Int32} {x3 : Int32} {y0 : Int32} {y1 : Int32} (h : jOk l G X cX1_doWord 4 ret RX1 hg nc) (s1 : vp_in y1 192)
    (k2 : J l G X Q 4 282 [.ref 14, .int x1, .int x2, .int x3] [.int 0] (wr mu 15 (y1).toNatClampNeg y0) n) :
    J l G X Q 4 280 [.ref 14, .int x1, .int x2, .int x3] [.int y0, .int y1, .ref 15] mu n := by
  refine J_iast h dX1_doWord_280 rfl (s1) ?_
  refine J_iconst h dX1_doWord_281 ci_0 ?_
  exact k2
theorem rX1_doWordP_223 {l : Launch} {G : jG} {X : jX} {Q : State → Prop} {n hg nc : Nat} {ret : Option FieldType} {mu : jM} {x1 : Int32} {x2 : Int32} {x3 : Int32} {y0 : Int32} {y1 : Int32} (h : jOk l G X cX1_doWord 4 ret RX1 hg nc) (s1 : vp_in y1 192)
    (k2 : J l G X Q 4 225 [.ref 14, .int x1, .int x2, .int x3] [.int 0] (wr mu 15 (y1).toNatClampNeg y0) n) :
    J l G X Q 4 223 [.ref 14, .int x1, .int x2, .int x3] [.int y0, .int y1, .ref 15] mu n := by
  refine J_iast h dX1_doWord_223 rfl (s1) ?_
  refine J_iconst h dX1_doWord_224 ci_0 ?_
  exact k2
/-! LockstepNet$Machine.received(IZ)I P -/
theorem rX1_receivedP_0 {l : Launch} {G : jG} {X : jX} {Q : State → Prop} {n hg nc : Nat} {ret : Option FieldType} {mu : jM} {x1 : Int32} {x2 : Int32} (h : jOk l G X cX1_received 4 ret RX1 hg nc)
    (k1 : J l G X Q 4 10 [.ref 14, .int x1, .int x2, .float 0] [.int ((mu 14 8) - 1), .int (mu 14 7)] mu n) :
    J l G X Q 4 0 [.ref 14, .int x1, .int x2, .float 0] [] mu n := by
  refine J_aload_n h dX1_received_0 rfl rfl ?_
  refine J_geti (k := 7) h dX1_received_1 jc1 rfl rfl (by decide) w196 ?_
  refine J_aload_n h dX1_received_4 rfl rfl ?_
  refine J_geti (k := 8) h dX1_received_5 jc1 rfl rfl (by decide) w197 ?_
  refine J_iconst h dX1_received_8 ci_1 ?_
  refine J_isub h dX1_received_9 ?_
  exact k1
theorem rX1_receivedP_10 {l : Launch} {G : jG} {X : jX} {Q : State → Prop} {n hg nc : Nat} {ret : Option FieldType} {mu : jM} {x1 : Int32} {x2 : Int32} {y0 : Int32} {y1 : Int32} {Qc : Int32 → jM → Prop} {h' : Nat} (h : jOk l G X cX1_received 4 ret RX1 hg nc) (hM : jCi l G yX1_boxOf cX1_boxOf 2 h' (some .int) [.int y1, .int y0] mu Qc) (hh : h' < hg ∧ 2 ≤ 21) (hn : n ≤ nc)
    (kk : ∀ v mu', Qc v mu' → J l G X Q 4 13 [.ref 14, .int x1, .int x2, .float 0] (.int v :: []) mu' n) :
    J l G X Q 4 10 [.ref 14, .int x1, .int x2, .float 0] [.int y0, .int y1] mu n :=
  J_callSi (As := [.int y1, .int y0]) (rest := []) h dX1_received_10 hM (jgS w682 w683 w79 w684) nmX1_boxOf rfl hh (Nat.le_of_ble_eq_true rfl) rfl kk hn
theorem rX1_receivedP_13 {l : Launch} {G : jG} {X : jX} {Q : State → Prop} {n hg nc : Nat} {ret : Option FieldType} {mu : jM} {x1 : Int32} {x2 : Int32} {y0 : Int32} (h : jOk l G X cX1_received 4 ret RX1 hg nc) (s1 : vp_in y0 48) (s5 : ¬ (((mu 16 (y0).toNatClampNeg) >>> (x1 &&& 31)) &&& 1) = 0 → ¬ x2 = 0 → vp_in ((y0 * 24) + x1) 1152)
    (k4 : ¬ (((mu 16 (y0).toNatClampNeg) >>> (x1 &&& 31)) &&& 1) = 0 → x2 = 0 → J l G X Q 4 48 [.ref 14, .int x1, .int x2, .int y0] [.int 1] mu n)
    (k6 : ¬ (((mu 16 (y0).toNatClampNeg) >>> (x1 &&& 31)) &&& 1) = 0 → ¬ x2 = 0 → J l G X Q 4 48 [.ref 14, .int x1, .int x2, .int y0] [.int (mu 17 (((y0 * 24) + x1)).toNatClampNeg)] mu n)
    (k7 : (((mu 16 (y0).toNatClampNeg) >>> (x1 &&& 31)) &&& 1) = 0 → J l G X Q 4 28 [.ref 14, .int x1, .int x2, .int y0] [.int 0] mu n) :
    J l G X Q 4 13 [.ref 14, .int x1, .int x2, .float 0] [.int y0] mu n := by
  refine J_istore_n h dX1_received_13 rfl (by decide) rfl ?_
  show J l G X Q 4 14 [.ref 14, .int x1, .int x2, .int y0] [] mu n
  refine J_aload_n h dX1_received_14 rfl rfl ?_
  refine J_getr (k := 3) h dX1_received_15 jc1 rfl rfl (by decide) w190 ?_
  refine J_iload_n h dX1_received_18 rfl rfl ?_
  refine J_iald h dX1_received_19 rfl (s1) ?_
  refine J_iload_n h dX1_received_20 rfl rfl ?_
  refine J_ishr h dX1_received_21 ?_
  refine J_iconst h dX1_received_22 ci_1 ?_
  refine J_iand h dX1_received_23 ?_
  refine J_if_ne (tgt := 29) h dX1_received_24 (by decide) (fun q2 => ?_) (fun q2 => ?_)
  · skip
    refine J_iload_n h dX1_received_29 rfl rfl ?_
    refine J_if_eq (tgt := 47) h dX1_received_30 (by decide) (fun q3 => ?_) (fun q3 => ?_)
    · skip
      refine J_iconst h dX1_received_47 ci_1 ?_
      exact k4 q2 q3
    · skip
      refine J_aload_n h dX1_received_33 rfl rfl ?_
      refine J_getr (k := 4) h dX1_received_34 jc1 rfl rfl (by decide) w191 ?_
      refine J_iload_n h dX1_received_37 rfl rfl ?_
      refine J_bipush h dX1_received_38 cb_24 ?_
      refine J_imul h dX1_received_40 ?_
      refine J_iload_n h dX1_received_41 rfl rfl ?_
      refine J_iadd h dX1_received_42 ?_
      refine J_iald h dX1_received_43 rfl (s5 q2 q3) ?_
      refine J_goto (tgt := 48) h dX1_received_44 (by decide) ?_
      exact k6 q2 q3
  · skip
    refine J_iconst h dX1_received_27 ci_0 ?_
    exact k7 q2
/-! LockstepNet$Machine.reckoned(I)I P -/
theorem rX1_reckonedP_0 {l : Launch} {G : jG} {X : jX} {Q : State → Prop} {n hg nc : Nat} {ret : Option FieldType} {mu : jM} {x1 : Int32} (h : jOk l G X cX1_reckoned 4 ret RX1 hg nc) (s1 : vp_in x1 64) (s2 : vp_in (((mu 14 7) * 8) + (mu 4 (x1).toNatClampNeg)) 192) (s3 : vp_in x1 64)
    (k4 : J l G X Q 4 32 [.ref 14, .int x1, .int (mu 15 ((((mu 14 7) * 8) + (mu 4 (x1).toNatClampNeg))).toNatClampNeg), .float 0] [.int (mu 2 (x1).toNatClampNeg)] mu n) :
    J l G X Q 4 0 [.ref 14, .int x1, .float 0, .float 0] [] mu n := by
  refine J_aload_n h dX1_reckoned_0 rfl rfl ?_
  refine J_getr (k := 2) h dX1_reckoned_1 jc1 rfl rfl (by decide) w188 ?_
  refine J_aload_n h dX1_reckoned_4 rfl rfl ?_
  refine J_geti (k := 7) h dX1_reckoned_5 jc1 rfl rfl (by decide) w196 ?_
  refine J_bipush h dX1_reckoned_8 cb_8 ?_
  refine J_imul h dX1_reckoned_10 ?_
  refine J_aload_n h dX1_reckoned_11 rfl rfl ?_
  refine J_getr (k := 0) h dX1_reckoned_12 jc1 rfl rfl (by decide) w186 ?_
  refine J_getrN (k := 2) h dX1_reckoned_15 jc4 rfl rfl (by decide) w116 ?_
  refine J_iload_n h dX1_reckoned_18 rfl rfl ?_
  refine J_iald h dX1_reckoned_19 rfl (s1) ?_
  refine J_iadd h dX1_reckoned_20 ?_
  refine J_iald h dX1_reckoned_21 rfl (s2) ?_
  refine J_istore_n h dX1_reckoned_22 rfl (by decide) rfl ?_
  show J l G X Q 4 23 [.ref 14, .int x1, .int (mu 15 ((((mu 14 7) * 8) + (mu 4 (x1).toNatClampNeg))).toNatClampNeg), .float 0] [] mu n
  refine J_aload_n h dX1_reckoned_23 rfl rfl ?_
  refine J_getr (k := 0) h dX1_reckoned_24 jc1 rfl rfl (by decide) w186 ?_
  refine J_getrN (k := 0) h dX1_reckoned_27 jc4 rfl rfl (by decide) w112 ?_
  refine J_iload_n h dX1_reckoned_30 rfl rfl ?_
  refine J_iald h dX1_reckoned_31 rfl (s3) ?_
  exact k4
theorem rX1_reckonedP_32 {l : Launch} {G : jG} {X : jX} {Q : State → Prop} {n hg nc : Nat} {ret : Option FieldType} {mu : jM} {x1 : Int32} {x2 : Int32} {y0 : Int32} (h : jOk l G X cX1_reckoned 4 ret RX1 hg nc)
    (k1 : y0 = 1 → J l G X Q 4 68 [.ref 14, .int x1, .int x2, .float 0] [] mu n)
    (k12 : y0 = 12 → J l G X Q 4 70 [.ref 14, .int x1, .int x2, .float 0] [] mu n)
    (k13 : y0 = 13 → J l G X Q 4 77 [.ref 14, .int x1, .int x2, .float 0] [] mu n)
    (kd : ¬ y0 = 1 → ¬ y0 = 12 → ¬ y0 = 13 → J l G X Q 4 88 [.ref 14, .int x1, .int x2, .float 0] [] mu n) :
    J l G X Q 4 32 [.ref 14, .int x1, .int x2, .float 0] [.int y0] mu n := by
  by_cases e1 : y0 = 1
  · subst e1
    exact J_lookup (tgt := 68) (off := 36) h dX1_reckoned_32 (by decide) (by decide) (by decide) (k1 rfl)
  by_cases e12 : y0 = 12
  · subst e12
    exact J_lookup (tgt := 70) (off := 38) h dX1_reckoned_32 (by decide) (by decide) (by decide) (k12 rfl)
  by_cases e13 : y0 = 13
  · subst e13
    exact J_lookup (tgt := 77) (off := 45) h dX1_reckoned_32 (by decide) (by decide) (by decide) (k13 rfl)
  exact J_lookup (tgt := 88) (off := 56) h dX1_reckoned_32 (by decide) (by show Op.lookupswitch.offset [(1, 36), (12, 38), (13, 45)] _ _ = _; rw [lv_osw e1 (by decide), lv_osw e12 (by decide), lv_osw e13 (by decide)]; rfl) (by decide) (kd e1 e12 e13)
theorem rX1_reckonedP_68 {l : Launch} {G : jG} {X : jX} {Q : State → Prop} {n hg nc : Nat} {ret : Option FieldType} {mu : jM} {x1 : Int32} {x2 : Int32} (h : jOk l G X cX1_reckoned 4 ret RX1 hg nc)
    (k1 : J l G X Q 4 69 [.ref 14, .int x1, .int x2, .float 0] [.int x2] mu n) :
    J l G X Q 4 68 [.ref 14, .int x1, .int x2, .float 0] [] mu n := by
  refine J_iload_n h dX1_reckoned_68 rfl rfl ?_
  exact k1
theorem rX1_reckonedP_70 {l : Launch} {G : jG} {X : jX} {Q : State → Prop} {n hg nc : Nat} {ret : Option FieldType} {mu : jM} {x1 : Int32} {x2 : Int32} (h : jOk l G X cX1_reckoned 4 ret RX1 hg nc)
    (k1 : J l G X Q 4 76 [.ref 14, .int x1, .int x2, .float 0] [.int (1 <<< ((x2 &&& 31) &&& 31))] mu n) :
    J l G X Q 4 70 [.ref 14, .int x1, .int x2, .float 0] [] mu n := by
  refine J_iconst h dX1_reckoned_70 ci_1 ?_
  refine J_iload_n h dX1_reckoned_71 rfl rfl ?_
  refine J_bipush h dX1_reckoned_72 cb_31 ?_
  refine J_iand h dX1_reckoned_74 ?_
  refine J_ishl h dX1_reckoned_75 ?_
  exact k1
theorem rX1_reckonedP_77 {l : Launch} {G : jG} {X : jX} {Q : State → Prop} {n hg nc : Nat} {ret : Option FieldType} {mu : jM} {x1 : Int32} {x2 : Int32} (h : jOk l G X cX1_reckoned 4 ret RX1 hg nc)
    (k1 : J l G X Q 4 84 [.ref 14, .int x1, .int x2, .float 0] [.int (x2 &&& ((x2 + 1) ^^^ (-1)))] mu n) :
    J l G X Q 4 77 [.ref 14, .int x1, .int x2, .float 0] [] mu n := by
  refine J_iload_n h dX1_reckoned_77 rfl rfl ?_
  refine J_iload_n h dX1_reckoned_78 rfl rfl ?_
  refine J_iconst h dX1_reckoned_79 ci_1 ?_
  refine J_iadd h dX1_reckoned_80 ?_
  refine J_iconst h dX1_reckoned_81 ci_m1 ?_
  refine J_ixor h dX1_reckoned_82 ?_
  refine J_iand h dX1_reckoned_83 ?_
  exact k1
theorem rX1_reckonedP_88 {l : Launch} {G : jG} {X : jX} {Q : State → Prop} {n hg nc : Nat} {ret : Option FieldType} {mu : jM} {x1 : Int32} {x2 : Int32} (h : jOk l G X cX1_reckoned 4 ret RX1 hg nc) (s1 : vp_in x1 64) (s2 : vp_in (((mu 14 7) * 8) + (mu 5 (x1).toNatClampNeg)) 192) (s3 : vp_in x1 64)
    (k4 : J l G X Q 4 122 [.ref 14, .int x1, .int x2, .int (mu 15 ((((mu 14 7) * 8) + (mu 5 (x1).toNatClampNeg))).toNatClampNeg)] [.int (mu 15 ((((mu 14 7) * 8) + (mu 5 (x1).toNatClampNeg))).toNatClampNeg), .int x2, .int (mu 2 (x1).toNatClampNeg)] mu n) :
    J l G X Q 4 88 [.ref 14, .int x1, .int x2, .float 0] [] mu n := by
  refine J_aload_n h dX1_reckoned_88 rfl rfl ?_
  refine J_getr (k := 2) h dX1_reckoned_89 jc1 rfl rfl (by decide) w188 ?_
  refine J_aload_n h dX1_reckoned_92 rfl rfl ?_
  refine J_geti (k := 7) h dX1_reckoned_93 jc1 rfl rfl (by decide) w196 ?_
  refine J_bipush h dX1_reckoned_96 cb_8 ?_
  refine J_imul h dX1_reckoned_98 ?_
  refine J_aload_n h dX1_reckoned_99 rfl rfl ?_
  refine J_getr (k := 0) h dX1_reckoned_100 jc1 rfl rfl (by decide) w186 ?_
  refine J_getrN (k := 3) h dX1_reckoned_103 jc4 rfl rfl (by decide) w118 ?_
  refine J_iload_n h dX1_reckoned_106 rfl rfl ?_
  refine J_iald h dX1_reckoned_107 rfl (s1) ?_
  refine J_iadd h dX1_reckoned_108 ?_
  refine J_iald h dX1_reckoned_109 rfl (s2) ?_
  refine J_istore_n h dX1_reckoned_110 rfl (by decide) rfl ?_
  show J l G X Q 4 111 [.ref 14, .int x1, .int x2, .int (mu 15 ((((mu 14 7) * 8) + (mu 5 (x1).toNatClampNeg))).toNatClampNeg)] [] mu n
  refine J_aload_n h dX1_reckoned_111 rfl rfl ?_
  refine J_getr (k := 0) h dX1_reckoned_112 jc1 rfl rfl (by decide) w186 ?_
  refine J_getrN (k := 0) h dX1_reckoned_115 jc4 rfl rfl (by decide) w112 ?_
  refine J_iload_n h dX1_reckoned_118 rfl rfl ?_
  refine J_iald h dX1_reckoned_119 rfl (s3) ?_
  refine J_iload_n h dX1_reckoned_120 rfl rfl ?_
  refine J_iload_n h dX1_reckoned_121 rfl rfl ?_
  exact k4
theorem rX1_reckonedP_84 {l : Launch} {G : jG} {X : jX} {Q : State → Prop} {n hg nc : Nat} {ret : Option FieldType} {mu : jM} {x1 : Int32} {x2 : Int32} {y0 : Int32} {Qc : Int32 → jM → Prop} {h' : Nat} (h : jOk l G X cX1_reckoned 4 ret RX1 hg nc) (hM : jCi l G yJ6_bitCount_0f7a4 cJ6_bitCount_0f7a4 1 h' (some .int) [.int y0] mu Qc) (hh : h' < hg ∧ 1 ≤ 21) (hn : n ≤ nc)
    (kk : ∀ v mu', Qc v mu' → J l G X Q 4 87 [.ref 14, .int x1, .int x2, .float 0] (.int v :: []) mu' n) :
    J l G X Q 4 84 [.ref 14, .int x1, .int x2, .float 0] [.int y0] mu n :=
  J_callSi (As := [.int y0]) (rest := []) h dX1_reckoned_84 hM (jgS w689 w690 w95 w691) nmJ6_bitCount_0f7a4 rfl hh (Nat.le_of_ble_eq_true rfl) rfl kk hn
theorem rX1_reckonedP_122 {l : Launch} {G : jG} {X : jX} {Q : State → Prop} {n hg nc : Nat} {ret : Option FieldType} {mu : jM} {x1 : Int32} {x2 : Int32} {x3 : Int32} {y0 : Int32} {y1 : Int32} {y2 : Int32} {Qc : Int32 → jM → Prop} {h' : Nat} (h : jOk l G X cX1_reckoned 4 ret RX1 hg nc) (hM : jCi l G yX1_combined cX1_combined 3 h' (some .int) [.int y2, .int y1, .int y0] mu Qc) (hh : h' < hg ∧ 3 ≤ 21) (hn : n ≤ nc)
    (kk : ∀ v mu', Qc v mu' → J l G X Q 4 125 [.ref 14, .int x1, .int x2, .int x3] (.int v :: []) mu' n) :
    J l G X Q 4 122 [.ref 14, .int x1, .int x2, .int x3] [.int y0, .int y1, .int y2] mu n :=
  J_callSi (As := [.int y2, .int y1, .int y0]) (rest := []) h dX1_reckoned_122 hM (jgS w695 w696 w79 w697) nmX1_combined rfl hh (Nat.le_of_ble_eq_true rfl) rfl kk hn
/-! LockstepNet$Machine.begin([I)V R -/
theorem rX1_beginR_0 {l : Launch} {G : jG} {X : jX} {Q : State → Prop} {n hg nc : Nat} {ret : Option FieldType} {mu : jM} (h : jOk l G X cX1_begin 2 ret RX1 hg nc)
    (k1 : J l G X Q 2 12 [.ref 20, .ref 13] [.int 192, .int 0, .ref 21, .int 0, .ref 13] mu n) :
    J l G X Q 2 0 [.ref 20, .ref 13] [] mu n := by
  refine J_aload_n h dX1_begin_0 rfl rfl ?_
  refine J_iconst h dX1_begin_1 ci_0 ?_
  refine J_aload_n h dX1_begin_2 rfl rfl ?_
  refine J_getr (k := 2) h dX1_begin_3 jc1 rfl rfl (by decide) w188 ?_
  refine J_iconst h dX1_begin_6 ci_0 ?_
  refine J_aload_n h dX1_begin_7 rfl rfl ?_
  refine J_getr (k := 2) h dX1_begin_8 jc1 rfl rfl (by decide) w188 ?_
  refine J_alen (v := 192) h dX1_begin_11 rfl rfl ?_
  exact k1
theorem rX1_beginR_12 {l : Launch} {G : jG} {X : jX} {Q : State → Prop} {n hg nc : Nat} {ret : Option FieldType} {mu : jM} {y0 : Int32} {y1 : Int32} {y3 : Int32} (h : jOk l G X cX1_begin 2 ret RX1 hg nc) (h1 : ¬ y3 < 0) (h2 : ¬ y1 < 0) (h3 : ¬ y0 < 0) (h4 : (y3).toNatClampNeg + (y0).toNatClampNeg ≤ 192) (h5 : (y1).toNatClampNeg + (y0).toNatClampNeg ≤ 192) (hh : 1 ≤ hg)
    (kk : J l G X Q 2 15 [.ref 20, .ref 13] [] (jPut mu 21 (va_cpy (mu 13) (mu 21) (y3).toNatClampNeg (y1).toNatClampNeg (y0).toNatClampNeg)) n) :
    J l G X Q 2 12 [.ref 20, .ref 13] [.int y0, .int y1, .ref 21, .int y3, .ref 13] mu n :=
  J_copy h dX1_begin_12 w521 w523 w522 w91 rfl rfl h1 h2 h3 h4 h5 (Nat.le_of_ble_eq_true rfl) hh kk
theorem rX1_beginR_15 {l : Launch} {G : jG} {X : jX} {Q : State → Prop} {n hg nc : Nat} {ret : Option FieldType} {mu : jM} (h : jOk l G X cX1_begin 2 ret RX1 hg nc)
    (k1 : J l G X Q 2 20 [.ref 20, .ref 13] [.int 0, .ref 22] mu n) :
    J l G X Q 2 15 [.ref 20, .ref 13] [] mu n := by
  refine J_aload_n h dX1_begin_15 rfl rfl ?_
  refine J_getr (k := 3) h dX1_begin_16 jc1 rfl rfl (by decide) w190 ?_
  refine J_iconst h dX1_begin_19 ci_0 ?_
  exact k1
theorem rX1_beginR_20 {l : Launch} {G : jG} {X : jX} {Q : State → Prop} {n hg nc : Nat} {ret : Option FieldType} {mu : jM} {y0 : Int32} {Qc : jM → Prop} {h' : Nat} (h : jOk l G X cX1_begin 2 ret RX1 hg nc) (hM : jCv l G yJ7_fill_53178 cJ7_fill_53178 4 h' [.ref 22, .int y0] mu Qc) (hh : h' < hg ∧ 4 ≤ 21) (hn : n ≤ nc)
    (kk : ∀ mu', Qc mu' → J l G X Q 2 23 [.ref 20, .ref 13] [] mu' n) :
    J l G X Q 2 20 [.ref 20, .ref 13] [.int y0, .ref 22] mu n :=
  J_callS (As := [.ref 22, .int y0]) (rest := []) h dX1_begin_20 hM (jgS w524 w514 w90 w515) nmJ7_fill_53178 rfl hh (Nat.le_of_ble_eq_true rfl) rfl kk hn
/-! LockstepNet$Machine.accept(IIII)V R -/
theorem rX1_acceptR_0 {l : Launch} {G : jG} {X : jX} {Q : State → Prop} {n hg nc : Nat} {ret : Option FieldType} {mu : jM} {x1 : Int32} {x2 : Int32} {x3 : Int32} {x4 : Int32} (h : jOk l G X cX1_accept 7 ret RX1 hg nc) (s1 : vp_in ((x1 * 24) + x2) 576)
    (k2 : J l G X Q 7 18 [.ref 20, .int x1, .int x2, .int x3, .int x4, .int (mu 12 (((x1 * 24) + x2)).toNatClampNeg), .float 0] [.int x3, .int x1] mu n) :
    J l G X Q 7 0 [.ref 20, .int x1, .int x2, .int x3, .int x4, .float 0, .float 0] [] mu n := by
  refine J_aload_n h dX1_accept_0 rfl rfl ?_
  refine J_getr (k := 1) h dX1_accept_1 jc1 rfl rfl (by decide) w187 ?_
  refine J_getrN (k := 7) h dX1_accept_4 jc2 rfl rfl (by decide) w162 ?_
  refine J_iload_n h dX1_accept_7 rfl rfl ?_
  refine J_bipush h dX1_accept_8 cb_24 ?_
  refine J_imul h dX1_accept_10 ?_
  refine J_iload_n h dX1_accept_11 rfl rfl ?_
  refine J_iadd h dX1_accept_12 ?_
  refine J_iald h dX1_accept_13 rfl (s1) ?_
  refine J_istore h dX1_accept_14 (by decide) rfl ?_
  show J l G X Q 7 16 [.ref 20, .int x1, .int x2, .int x3, .int x4, .int (mu 12 (((x1 * 24) + x2)).toNatClampNeg), .float 0] [] mu n
  refine J_iload_n h dX1_accept_16 rfl rfl ?_
  refine J_iload_n h dX1_accept_17 rfl rfl ?_
  exact k2
theorem rX1_acceptR_18 {l : Launch} {G : jG} {X : jX} {Q : State → Prop} {n hg nc : Nat} {ret : Option FieldType} {mu : jM} {x1 : Int32} {x2 : Int32} {x3 : Int32} {x4 : Int32} {x5 : Int32} {y0 : Int32} {y1 : Int32} {Qc : Int32 → jM → Prop} {h' : Nat} (h : jOk l G X cX1_accept 7 ret RX1 hg nc) (hM : jCi l G yX1_boxOf cX1_boxOf 2 h' (some .int) [.int y1, .int y0] mu Qc) (hh : h' < hg ∧ 2 ≤ 21) (hn : n ≤ nc)
    (kk : ∀ v mu', Qc v mu' → J l G X Q 7 21 [.ref 20, .int x1, .int x2, .int x3, .int x4, .int x5, .float 0] (.int v :: []) mu' n) :
    J l G X Q 7 18 [.ref 20, .int x1, .int x2, .int x3, .int x4, .int x5, .float 0] [.int y0, .int y1] mu n :=
  J_callSi (As := [.int y1, .int y0]) (rest := []) h dX1_accept_18 hM (jgS w682 w683 w79 w684) nmX1_boxOf rfl hh (Nat.le_of_ble_eq_true rfl) rfl kk hn
theorem rX1_acceptR_21 {l : Launch} {G : jG} {X : jX} {Q : State → Prop} {n hg nc : Nat} {ret : Option FieldType} {mu : jM} {x1 : Int32} {x2 : Int32} {x3 : Int32} {x4 : Int32} {x5 : Int32} {y0 : Int32} (h : jOk l G X cX1_accept 7 ret RX1 hg nc) (s1 : vp_in y0 48) (s2 : vp_in y0 48) (s3 : vp_in ((y0 * 24) + x5) 1152)
    (k4 : J l G X Q 7 52 [.ref 20, .int x1, .int x2, .int x3, .int x4, .int x5, .int y0] [] (wr (wr mu 22 (y0).toNatClampNeg ((mu 22 (y0).toNatClampNeg) ||| (1 <<< (x5 &&& 31)))) 23 (((y0 * 24) + x5)).toNatClampNeg x4) n) :
    J l G X Q 7 21 [.ref 20, .int x1, .int x2, .int x3, .int x4, .int x5, .float 0] [.int y0] mu n := by
  refine J_istore h dX1_accept_21 (by decide) rfl ?_
  show J l G X Q 7 23 [.ref 20, .int x1, .int x2, .int x3, .int x4, .int x5, .int y0] [] mu n
  refine J_aload_n h dX1_accept_23 rfl rfl ?_
  refine J_getr (k := 3) h dX1_accept_24 jc1 rfl rfl (by decide) w190 ?_
  refine J_iload h dX1_accept_27 rfl ?_
  refine J_dup2 h dX1_accept_29 rfl rfl ?_
  refine J_iald h dX1_accept_30 rfl (s1) ?_
  refine J_iconst h dX1_accept_31 ci_1 ?_
  refine J_iload h dX1_accept_32 rfl ?_
  refine J_ishl h dX1_accept_34 ?_
  refine J_ior h dX1_accept_35 ?_
  refine J_iast h dX1_accept_36 rfl (s2) ?_
  refine J_aload_n h dX1_accept_37 rfl rfl ?_
  refine J_getr (k := 4) h dX1_accept_38 jc1 rfl rfl (by decide) w191 ?_
  refine J_iload h dX1_accept_41 rfl ?_
  refine J_bipush h dX1_accept_43 cb_24 ?_
  refine J_imul h dX1_accept_45 ?_
  refine J_iload h dX1_accept_46 rfl ?_
  refine J_iadd h dX1_accept_48 ?_
  refine J_iload h dX1_accept_49 rfl ?_
  refine J_iast h dX1_accept_51 rfl (s3) ?_
  exact k4
/-! LockstepNet$Machine.passOn(II)V R -/
theorem rX1_passOnR_0 {l : Launch} {G : jG} {X : jX} {Q : State → Prop} {n hg nc : Nat} {ret : Option FieldType} {mu : jM} {x1 : Int32} {x2 : Int32} (h : jOk l G X cX1_passOn 4 ret RX1 hg nc)
    (k1 : J l G X Q 4 2 [.ref 20, .int x1, .int x2, .int 0] [] mu n) :
    J l G X Q 4 0 [.ref 20, .int x1, .int x2, .float 0] [] mu n := by
  refine J_iconst h dX1_passOn_0 ci_0 ?_
  refine J_istore_n h dX1_passOn_1 rfl (by decide) rfl ?_
  show J l G X Q 4 2 [.ref 20, .int x1, .int x2, .int 0] [] mu n
  exact k1
theorem rX1_passOnR_2 {l : Launch} {G : jG} {X : jX} {Q : State → Prop} {n hg nc : Nat} {ret : Option FieldType} {mu : jM} {x1 : Int32} {x2 : Int32} {x3 : Int32} (h : jOk l G X cX1_passOn 4 ret RX1 hg nc) (s1 : vp_in x1 24)
    (k3 : (mu 9 (x1).toNatClampNeg) ≤ x3 → J l G X Q 4 55 [.ref 20, .int x1, .int x2, .int x3] [] mu n)
    (k4 : ¬ (mu 9 (x1).toNatClampNeg) ≤ x3 → J l G X Q 4 17 [.ref 20, .int x1, .int x2, .int x3] [.int x3, .ref 20] mu n) :
    J l G X Q 4 2 [.ref 20, .int x1, .int x2, .int x3] [] mu n := by
  refine J_iload_n h dX1_passOn_2 rfl rfl ?_
  refine J_aload_n h dX1_passOn_3 rfl rfl ?_
  refine J_getr (k := 1) h dX1_passOn_4 jc1 rfl rfl (by decide) w187 ?_
  refine J_getrN (k := 4) h dX1_passOn_7 jc2 rfl rfl (by decide) w153 ?_
  refine J_iload_n h dX1_passOn_10 rfl rfl ?_
  refine J_iald h dX1_passOn_11 rfl (s1) ?_
  refine J_icmp_ge (tgt := 55) h dX1_passOn_12 (by decide) (fun q2 => ?_) (fun q2 => ?_)
  · skip
    exact k3 q2
  · skip
    refine J_aload_n h dX1_passOn_15 rfl rfl ?_
    refine J_iload_n h dX1_passOn_16 rfl rfl ?_
    exact k4 q2
theorem rX1_passOnR_17 {l : Launch} {G : jG} {X : jX} {Q : State → Prop} {n hg nc : Nat} {ret : Option FieldType} {mu : jM} {x1 : Int32} {x2 : Int32} {x3 : Int32} {y0 : Int32} {Qc : Int32 → jM → Prop} {h' : Nat} (h : jOk l G X cX1_passOn 4 ret RX1 hg nc) (hM : jCi l G yX1_goesBy cX1_goesBy 2 h' (some .boolean) (.ref 20 :: [.int y0]) mu Qc) (hh : h' < hg ∧ 2 ≤ 21) (hn : n ≤ nc)
    (kk : ∀ v mu', Qc v mu' → J l G X Q 4 20 [.ref 20, .int x1, .int x2, .int x3] (.int v :: []) mu' n) :
    J l G X Q 4 17 [.ref 20, .int x1, .int x2, .int x3] [.int y0, .ref 20] mu n :=
  J_callVi (As := [.int y0]) (rest := []) h dX1_passOn_17 hM (jgV w702 w703 w704 w79 w705) rfl (ci := 1) rfl rfl nmX1_goesBy rfl hh (Nat.le_of_ble_eq_true rfl) rfl kk hn
theorem rX1_passOnR_20 {l : Launch} {G : jG} {X : jX} {Q : State → Prop} {n hg nc : Nat} {ret : Option FieldType} {mu : jM} {x1 : Int32} {x2 : Int32} {x3 : Int32} {y0 : Int32} (h : jOk l G X cX1_passOn 4 ret RX1 hg nc) (s3 : ¬ y0 = 0 → vp_in ((x1 * 24) + x3) 576) (s4 : ¬ y0 = 0 → vp_in x3 24)
    (k2 : y0 = 0 → J l G X Q 4 49 [.ref 20, .int x1, .int x2, .int x3] [] mu n)
    (k5 : ¬ y0 = 0 → J l G X Q 4 46 [.ref 20, .int x1, .int x2, .int x3] [.int (mu 24 (x3).toNatClampNeg), .int x2, .int x1, .int (mu 11 (((x1 * 24) + x3)).toNatClampNeg), .ref 20] mu n) :
    J l G X Q 4 20 [.ref 20, .int x1, .int x2, .int x3] [.int y0] mu n := by
  refine J_if_eq (tgt := 49) h dX1_passOn_20 (by decide) (fun q1 => ?_) (fun q1 => ?_)
  · skip
    exact k2 q1
  · skip
    refine J_aload_n h dX1_passOn_23 rfl rfl ?_
    refine J_aload_n h dX1_passOn_24 rfl rfl ?_
    refine J_getr (k := 1) h dX1_passOn_25 jc1 rfl rfl (by decide) w187 ?_
    refine J_getrN (k := 6) h dX1_passOn_28 jc2 rfl rfl (by decide) w159 ?_
    refine J_iload_n h dX1_passOn_31 rfl rfl ?_
    refine J_bipush h dX1_passOn_32 cb_24 ?_
    refine J_imul h dX1_passOn_34 ?_
    refine J_iload_n h dX1_passOn_35 rfl rfl ?_
    refine J_iadd h dX1_passOn_36 ?_
    refine J_iald h dX1_passOn_37 rfl (s3 q1) ?_
    refine J_iload_n h dX1_passOn_38 rfl rfl ?_
    refine J_iload_n h dX1_passOn_39 rfl rfl ?_
    refine J_aload_n h dX1_passOn_40 rfl rfl ?_
    refine J_getr (k := 5) h dX1_passOn_41 jc1 rfl rfl (by decide) w192 ?_
    refine J_iload_n h dX1_passOn_44 rfl rfl ?_
    refine J_iald h dX1_passOn_45 rfl (s4 q1) ?_
    exact k5 q1
theorem rX1_passOnR_49 {l : Launch} {G : jG} {X : jX} {Q : State → Prop} {n hg nc : Nat} {ret : Option FieldType} {mu : jM} {x1 : Int32} {x2 : Int32} {x3 : Int32} (h : jOk l G X cX1_passOn 4 ret RX1 hg nc)
    (k1 : J l G X Q 4 2 [.ref 20, .int x1, .int x2, .int (x3 + 1)] [] mu n) :
    J l G X Q 4 49 [.ref 20, .int x1, .int x2, .int x3] [] mu n := by
  refine J_iinc h dX1_passOn_49 rfl (cc_1 _) (by decide) rfl ?_
  show J l G X Q 4 52 [.ref 20, .int x1, .int x2, .int (x3 + 1)] [] mu n
  refine J_goto (tgt := 2) h dX1_passOn_52 (by decide) ?_
  exact k1
theorem rX1_passOnR_46 {l : Launch} {G : jG} {X : jX} {Q : State → Prop} {n hg nc : Nat} {ret : Option FieldType} {mu : jM} {x1 : Int32} {x2 : Int32} {x3 : Int32} {y0 : Int32} {y1 : Int32} {y2 : Int32} {y3 : Int32} {Qc : jM → Prop} {h' : Nat} (h : jOk l G X cX1_passOn 4 ret RX1 hg nc) (hM : jCv l G yX1_accept cX1_accept 7 h' (.ref 20 :: [.int y3, .int y2, .int y1, .int y0]) mu Qc) (hh : h' < hg ∧ 7 ≤ 21) (hn : n ≤ nc)
    (kk : ∀ mu', Qc mu' → J l G X Q 4 49 [.ref 20, .int x1, .int x2, .int x3] [] mu' n) :
    J l G X Q 4 46 [.ref 20, .int x1, .int x2, .int x3] [.int y0, .int y1, .int y2, .int y3, .ref 20] mu n :=
  J_callV (As := [.int y3, .int y2, .int y1, .int y0]) (rest := []) h dX1_passOn_46 hM (jgV w706 w707 w708 w79 w709) rfl (ci := 1) rfl rfl nmX1_accept rfl hh (Nat.le_of_ble_eq_true rfl) rfl kk hn
/-! LockstepNet$Machine.goesBy(I)Z R -/
theorem rX1_goesByR_0 {l : Launch} {G : jG} {X : jX} {Q : State → Prop} {n hg nc : Nat} {ret : Option FieldType} {mu : jM} {x1 : Int32} (h : jOk l G X cX1_goesBy 2 ret RX1 hg nc)
    (k2 : (((mu 20 6) >>> (x1 &&& 31)) &&& 1) = 0 → J l G X Q 2 16 [.ref 20, .int x1] [.int 0] mu n)
    (k3 : ¬ (((mu 20 6) >>> (x1 &&& 31)) &&& 1) = 0 → J l G X Q 2 16 [.ref 20, .int x1] [.int 1] mu n) :
    J l G X Q 2 0 [.ref 20, .int x1] [] mu n := by
  refine J_aload_n h dX1_goesBy_0 rfl rfl ?_
  refine J_geti (k := 6) h dX1_goesBy_1 jc1 rfl rfl (by decide) w194 ?_
  refine J_iload_n h dX1_goesBy_4 rfl rfl ?_
  refine J_ishr h dX1_goesBy_5 ?_
  refine J_iconst h dX1_goesBy_6 ci_1 ?_
  refine J_iand h dX1_goesBy_7 ?_
  refine J_if_eq (tgt := 15) h dX1_goesBy_8 (by decide) (fun q1 => ?_) (fun q1 => ?_)
  · skip
    refine J_iconst h dX1_goesBy_15 ci_0 ?_
    exact k2 q1
  · skip
    refine J_iconst h dX1_goesBy_11 ci_1 ?_
    refine J_goto (tgt := 16) h dX1_goesBy_12 (by decide) ?_
    exact k3 q1
/-! LockstepNet$Machine.doRound(II)V R -/
theorem rX1_doRoundR_0 {l : Launch} {G : jG} {X : jX} {Q : State → Prop} {n hg nc : Nat} {ret : Option FieldType} {mu : jM} {x1 : Int32} {x2 : Int32} (h : jOk l G X cX1_doRound 7 ret RX1 hg nc)
    (k1 : J l G X Q 7 17 [.ref 20, .int x1, .int x2, .int 0, .float 0, .float 0, .float 0] [] (wr (wr (wr mu 20 7 x1) 20 8 x2) 20 6 0) n) :
    J l G X Q 7 0 [.ref 20, .int x1, .int x2, .float 0, .float 0, .float 0, .float 0] [] mu n := by
  refine J_aload_n h dX1_doRound_0 rfl rfl ?_
  refine J_iload_n h dX1_doRound_1 rfl rfl ?_
  refine J_puti (k := 7) (ty0 := tyX1) h dX1_doRound_2 jc1 tyX1_ok nmX1 rfl rfl (by decide) rfl rfl rfl w196 ?_
  refine J_aload_n h dX1_doRound_5 rfl rfl ?_
  refine J_iload_n h dX1_doRound_6 rfl rfl ?_
  refine J_puti (k := 8) (ty0 := tyX1) h dX1_doRound_7 jc1 tyX1_ok nmX1 rfl rfl (by decide) rfl rfl rfl w197 ?_
  refine J_aload_n h dX1_doRound_10 rfl rfl ?_
  refine J_iconst h dX1_doRound_11 ci_0 ?_
  refine J_puti (k := 6) (ty0 := tyX1) h dX1_doRound_12 jc1 tyX1_ok nmX1 rfl rfl (by decide) rfl rfl rfl w194 ?_
  refine J_iconst h dX1_doRound_15 ci_0 ?_
  refine J_istore_n h dX1_doRound_16 rfl (by decide) rfl ?_
  show J l G X Q 7 17 [.ref 20, .int x1, .int x2, .int 0, .float 0, .float 0, .float 0] [] (wr (wr (wr mu 20 7 x1) 20 8 x2) 20 6 0) n
  exact k1
theorem rX1_doRoundR_17 {l : Launch} {G : jG} {X : jX} {Q : State → Prop} {n hg nc : Nat} {ret : Option FieldType} {mu : jM} {x1 : Int32} {x2 : Int32} {x3 : Int32} (h : jOk l G X cX1_doRound 7 ret RX1 hg nc) (s3 : ¬ (mu 1 4) ≤ x3 → vp_in x3 64) (s5 : ¬ (mu 1 4) ≤ x3 → (mu 2 (x3).toNatClampNeg) = 15 → vp_in x3 64)
    (k2 : (mu 1 4) ≤ x3 → J l G X Q 7 159 [.ref 20, .int x1, .int x2, .int x3, .float 0, .float 0, .float 0] [.int (x2 - 1), .int x1, .ref 22] mu n)
    (k6 : ¬ (mu 1 4) ≤ x3 → (mu 2 (x3).toNatClampNeg) = 15 → J l G X Q 7 70 [.ref 20, .int x1, .int x2, .int x3, .int (x3 + (mu 4 (x3).toNatClampNeg)), .int 0, .float 0] [] mu n)
    (k7 : ¬ (mu 1 4) ≤ x3 → ¬ (mu 2 (x3).toNatClampNeg) = 15 → J l G X Q 7 46 [.ref 20, .int x1, .int x2, .int x3, .float 0, .float 0, .float 0] [.int 0, .int x3, .ref 20, .int x3] mu n) :
    J l G X Q 7 17 [.ref 20, .int x1, .int x2, .int x3, .float 0, .float 0, .float 0] [] mu n := by
  refine J_iload_n h dX1_doRound_17 rfl rfl ?_
  refine J_aload_n h dX1_doRound_18 rfl rfl ?_
  refine J_getr (k := 0) h dX1_doRound_19 jc1 rfl rfl (by decide) w186 ?_
  refine J_getiN (k := 4) h dX1_doRound_22 jc4 rfl rfl (by decide) w121 ?_
  refine J_icmp_ge (tgt := 151) h dX1_doRound_25 (by decide) (fun q1 => ?_) (fun q1 => ?_)
  · skip
    refine J_aload_n h dX1_doRound_151 rfl rfl ?_
    refine J_getr (k := 3) h dX1_doRound_152 jc1 rfl rfl (by decide) w190 ?_
    refine J_iload_n h dX1_doRound_155 rfl rfl ?_
    refine J_iload_n h dX1_doRound_156 rfl rfl ?_
    refine J_iconst h dX1_doRound_157 ci_1 ?_
    refine J_isub h dX1_doRound_158 ?_
    exact k2 q1
  · skip
    refine J_aload_n h dX1_doRound_28 rfl rfl ?_
    refine J_getr (k := 0) h dX1_doRound_29 jc1 rfl rfl (by decide) w186 ?_
    refine J_getrN (k := 0) h dX1_doRound_32 jc4 rfl rfl (by decide) w112 ?_
    refine J_iload_n h dX1_doRound_35 rfl rfl ?_
    refine J_iald h dX1_doRound_36 rfl (s3 q1) ?_
    refine J_bipush h dX1_doRound_37 cb_15 ?_
    refine J_icmp_eq (tgt := 54) h dX1_doRound_39 (by decide) (fun q4 => ?_) (fun q4 => ?_)
    · skip
      refine J_iload_n h dX1_doRound_54 rfl rfl ?_
      refine J_aload_n h dX1_doRound_55 rfl rfl ?_
      refine J_getr (k := 0) h dX1_doRound_56 jc1 rfl rfl (by decide) w186 ?_
      refine J_getrN (k := 2) h dX1_doRound_59 jc4 rfl rfl (by decide) w116 ?_
      refine J_iload_n h dX1_doRound_62 rfl rfl ?_
      refine J_iald h dX1_doRound_63 rfl (s5 q1 q4) ?_
      refine J_iadd h dX1_doRound_64 ?_
      refine J_istore h dX1_doRound_65 (by decide) rfl ?_
      show J l G X Q 7 67 [.ref 20, .int x1, .int x2, .int x3, .int (x3 + (mu 4 (x3).toNatClampNeg)), .float 0, .float 0] [] mu n
      refine J_iconst h dX1_doRound_67 ci_0 ?_
      refine J_istore h dX1_doRound_68 (by decide) rfl ?_
      show J l G X Q 7 70 [.ref 20, .int x1, .int x2, .int x3, .int (x3 + (mu 4 (x3).toNatClampNeg)), .int 0, .float 0] [] mu n
      exact k6 q1 q4
    · skip
      refine J_iload_n h dX1_doRound_42 rfl rfl ?_
      refine J_aload_n h dX1_doRound_43 rfl rfl ?_
      refine J_iload_n h dX1_doRound_44 rfl rfl ?_
      refine J_iconst h dX1_doRound_45 ci_0 ?_
      exact k7 q1 q4
theorem rX1_doRoundR_159 {l : Launch} {G : jG} {X : jX} {Q : State → Prop} {n hg nc : Nat} {ret : Option FieldType} {mu : jM} {x1 : Int32} {x2 : Int32} {x3 : Int32} {y0 : Int32} {y1 : Int32} {Qc : Int32 → jM → Prop} {h' : Nat} (h : jOk l G X cX1_doRound 7 ret RX1 hg nc) (hM : jCi l G yX1_boxOf cX1_boxOf 2 h' (some .int) [.int y1, .int y0] mu Qc) (hh : h' < hg ∧ 2 ≤ 21) (hn : n ≤ nc)
    (kk : ∀ v mu', Qc v mu' → J l G X Q 7 162 [.ref 20, .int x1, .int x2, .int x3, .float 0, .float 0, .float 0] (.int v :: [.ref 22]) mu' n) :
    J l G X Q 7 159 [.ref 20, .int x1, .int x2, .int x3, .float 0, .float 0, .float 0] [.int y0, .int y1, .ref 22] mu n :=
  J_callSi (As := [.int y1, .int y0]) (rest := [.ref 22]) h dX1_doRound_159 hM (jgS w682 w683 w79 w684) nmX1_boxOf rfl hh (Nat.le_of_ble_eq_true rfl) rfl kk hn
theorem rX1_doRoundR_70 {l : Launch} {G : jG} {X : jX} {Q : State → Prop} {n hg nc : Nat} {ret : Option FieldType} {mu : jM} {x1 : Int32} {x2 : Int32} {x3 : Int32} {x4 : Int32} {x5 : Int32} (h : jOk l G X cX1_doRound 7 ret RX1 hg nc) (s1 : vp_in x1 24) (s4 : ¬ (mu 9 (x1).toNatClampNeg) ≤ x5 → vp_in x3 64) (s5 : ¬ (mu 9 (x1).toNatClampNeg) ≤ x5 → vp_in ((x1 * 8) + (mu 3 (x3).toNatClampNeg)) 192)
    (k3 : (mu 9 (x1).toNatClampNeg) ≤ x5 → J l G X Q 7 145 [.ref 20, .int x1, .int x2, .int x4, .int x4, .int x5, .float 0] [] mu n)
    (k6 : ¬ (mu 9 (x1).toNatClampNeg) ≤ x5 → J l G X Q 7 110 [.ref 20, .int x1, .int x2, .int x3, .int x4, .int x5, .int (x3 + 1)] [] (wr mu 21 (((x1 * 8) + (mu 3 (x3).toNatClampNeg))).toNatClampNeg x5) n) :
    J l G X Q 7 70 [.ref 20, .int x1, .int x2, .int x3, .int x4, .int x5, .float 0] [] mu n := by
  refine J_iload h dX1_doRound_70 rfl ?_
  refine J_aload_n h dX1_doRound_72 rfl rfl ?_
  refine J_getr (k := 1) h dX1_doRound_73 jc1 rfl rfl (by decide) w187 ?_
  refine J_getrN (k := 4) h dX1_doRound_76 jc2 rfl rfl (by decide) w153 ?_
  refine J_iload_n h dX1_doRound_79 rfl rfl ?_
  refine J_iald h dX1_doRound_80 rfl (s1) ?_
  refine J_icmp_ge (tgt := 142) h dX1_doRound_81 (by decide) (fun q2 => ?_) (fun q2 => ?_)
  · skip
    refine J_iload h dX1_doRound_142 rfl ?_
    refine J_istore_n h dX1_doRound_144 rfl (by decide) rfl ?_
    show J l G X Q 7 145 [.ref 20, .int x1, .int x2, .int x4, .int x4, .int x5, .float 0] [] mu n
    exact k3 q2
  · skip
    refine J_aload_n h dX1_doRound_84 rfl rfl ?_
    refine J_getr (k := 2) h dX1_doRound_85 jc1 rfl rfl (by decide) w188 ?_
    refine J_iload_n h dX1_doRound_88 rfl rfl ?_
    refine J_bipush h dX1_doRound_89 cb_8 ?_
    refine J_imul h dX1_doRound_91 ?_
    refine J_aload_n h dX1_doRound_92 rfl rfl ?_
    refine J_getr (k := 0) h dX1_doRound_93 jc1 rfl rfl (by decide) w186 ?_
    refine J_getrN (k := 1) h dX1_doRound_96 jc4 rfl rfl (by decide) w114 ?_
    refine J_iload_n h dX1_doRound_99 rfl rfl ?_
    refine J_iald h dX1_doRound_100 rfl (s4 q2) ?_
    refine J_iadd h dX1_doRound_101 ?_
    refine J_iload h dX1_doRound_102 rfl ?_
    refine J_iast h dX1_doRound_104 rfl (s5 q2) ?_
    refine J_iload_n h dX1_doRound_105 rfl rfl ?_
    refine J_iconst h dX1_doRound_106 ci_1 ?_
    refine J_iadd h dX1_doRound_107 ?_
    refine J_istore h dX1_doRound_108 (by decide) rfl ?_
    show J l G X Q 7 110 [.ref 20, .int x1, .int x2, .int x3, .int x4, .int x5, .int (x3 + 1)] [] (wr mu 21 (((x1 * 8) + (mu 3 (x3).toNatClampNeg))).toNatClampNeg x5) n
    exact k6 q2
theorem rX1_doRoundR_46 {l : Launch} {G : jG} {X : jX} {Q : State → Prop} {n hg nc : Nat} {ret : Option FieldType} {mu : jM} {x1 : Int32} {x2 : Int32} {x3 : Int32} {y0 : Int32} {y1 : Int32} {y3 : Int32} {Qc : Int32 → jM → Prop} {h' : Nat} (h : jOk l G X cX1_doRound 7 ret RX1 hg nc) (hM : jCi l G yX1_doWord cX1_doWord 4 h' (some .int) (.ref 20 :: [.int y1, .int y0]) mu Qc) (hh : h' < hg ∧ 4 ≤ 21) (hn : n ≤ nc)
    (kk : ∀ v mu', Qc v mu' → J l G X Q 7 49 [.ref 20, .int x1, .int x2, .int x3, .float 0, .float 0, .float 0] (.int v :: [.int y3]) mu' n) :
    J l G X Q 7 46 [.ref 20, .int x1, .int x2, .int x3, .float 0, .float 0, .float 0] [.int y0, .int y1, .ref 20, .int y3] mu n :=
  J_callVi (As := [.int y1, .int y0]) (rest := [.int y3]) h dX1_doRound_46 hM (jgV w674 w676 w9 w79 w677) rfl (ci := 1) rfl rfl nmX1_doWord rfl hh (Nat.le_of_ble_eq_true rfl) rfl kk hn
theorem rX1_doRoundR_162 {l : Launch} {G : jG} {X : jX} {Q : State → Prop} {n hg nc : Nat} {ret : Option FieldType} {mu : jM} {x1 : Int32} {x2 : Int32} {x3 : Int32} {y0 : Int32} (h : jOk l G X cX1_doRound 7 ret RX1 hg nc) (s1 : vp_in y0 48)
    (k2 : J l G X Q 7 164 [.ref 20, .int x1, .int x2, .int x3, .float 0, .float 0, .float 0] [] (wr mu 22 (y0).toNatClampNeg 0) n) :
    J l G X Q 7 162 [.ref 20, .int x1, .int x2, .int x3, .float 0, .float 0, .float 0] [.int y0, .ref 22] mu n := by
  refine J_iconst h dX1_doRound_162 ci_0 ?_
  refine J_iast h dX1_doRound_163 rfl (s1) ?_
  exact k2
theorem rX1_doRoundR_145 {l : Launch} {G : jG} {X : jX} {Q : State → Prop} {n hg nc : Nat} {ret : Option FieldType} {mu : jM} {x1 : Int32} {x2 : Int32} {x3 : Int32} {x4 : Int32} {x5 : Int32} (h : jOk l G X cX1_doRound 7 ret RX1 hg nc)
    (k1 : J l G X Q 7 17 [.ref 20, .int x1, .int x2, .int (x3 + 1), .int x4, .int x5, .float 0] [] mu n) :
    J l G X Q 7 145 [.ref 20, .int x1, .int x2, .int x3, .int x4, .int x5, .float 0] [] mu n := by
  refine J_iinc h dX1_doRound_145 rfl (cc_1 _) (by decide) rfl ?_
  show J l G X Q 7 148 [.ref 20, .int x1, .int x2, .int (x3 + 1), .int x4, .int x5, .float 0] [] mu n
  refine J_goto (tgt := 17) h dX1_doRound_148 (by decide) ?_
  exact k1
theorem rX1_doRoundR_110 {l : Launch} {G : jG} {X : jX} {Q : State → Prop} {n hg nc : Nat} {ret : Option FieldType} {mu : jM} {x1 : Int32} {x2 : Int32} {x3 : Int32} {x4 : Int32} {x5 : Int32} {x6 : Int32} (h : jOk l G X cX1_doRound 7 ret RX1 hg nc)
    (k2 : x4 < x6 → J l G X Q 7 70 [.ref 20, .int x1, .int x2, .int x3, .int x4, .int (x5 + 1), .int x6] [] mu n)
    (k3 : ¬ x4 < x6 → J l G X Q 7 124 [.ref 20, .int x1, .int x2, .int x3, .int x4, .int x5, .int x6] [.int x5, .int x6, .ref 20, .int x6] mu n) :
    J l G X Q 7 110 [.ref 20, .int x1, .int x2, .int x3, .int x4, .int x5, .int x6] [] mu n := by
  refine J_iload h dX1_doRound_110 rfl ?_
  refine J_iload h dX1_doRound_112 rfl ?_
  refine J_icmp_gt (tgt := 136) h dX1_doRound_114 (by decide) (fun q1 => ?_) (fun q1 => ?_)
  · skip
    refine J_iinc h dX1_doRound_136 rfl (cc_1 _) (by decide) rfl ?_
    show J l G X Q 7 139 [.ref 20, .int x1, .int x2, .int x3, .int x4, .int (x5 + 1), .int x6] [] mu n
    refine J_goto (tgt := 70) h dX1_doRound_139 (by decide) ?_
    exact k2 q1
  · skip
    refine J_iload h dX1_doRound_117 rfl ?_
    refine J_aload_n h dX1_doRound_119 rfl rfl ?_
    refine J_iload h dX1_doRound_120 rfl ?_
    refine J_iload h dX1_doRound_122 rfl ?_
    exact k3 q1
theorem rX1_doRoundR_49 {l : Launch} {G : jG} {X : jX} {Q : State → Prop} {n hg nc : Nat} {ret : Option FieldType} {mu : jM} {x1 : Int32} {x2 : Int32} {x3 : Int32} {y0 : Int32} {y1 : Int32} (h : jOk l G X cX1_doRound 7 ret RX1 hg nc)
    (k1 : J l G X Q 7 145 [.ref 20, .int x1, .int x2, .int (y1 + y0), .float 0, .float 0, .float 0] [] mu n) :
    J l G X Q 7 49 [.ref 20, .int x1, .int x2, .int x3, .float 0, .float 0, .float 0] [.int y0, .int y1] mu n := by
  refine J_iadd h dX1_doRound_49 ?_
  refine J_istore_n h dX1_doRound_50 rfl (by decide) rfl ?_
  show J l G X Q 7 51 [.ref 20, .int x1, .int x2, .int (y1 + y0), .float 0, .float 0, .float 0] [] mu n
  refine J_goto (tgt := 145) h dX1_doRound_51 (by decide) ?_
  exact k1
theorem rX1_doRoundR_17b {l : Launch} {G : jG} {X : jX} {Q : State → Prop} {n hg nc : Nat} {ret : Option FieldType} {mu : jM} {x1 : Int32} {x2 : Int32} {x3 : Int32} {x4 : Int32} {x5 : Int32} (h : jOk l G X cX1_doRound 7 ret RX1 hg nc) (s3 : ¬ (mu 1 4) ≤ x3 → vp_in x3 64) (s5 : ¬ (mu 1 4) ≤ x3 → (mu 2 (x3).toNatClampNeg) = 15 → vp_in x3 64)
    (k2 : (mu 1 4) ≤ x3 → J l G X Q 7 159 [.ref 20, .int x1, .int x2, .int x3, .int x4, .int x5, .float 0] [.int (x2 - 1), .int x1, .ref 22] mu n)
    (k6 : ¬ (mu 1 4) ≤ x3 → (mu 2 (x3).toNatClampNeg) = 15 → J l G X Q 7 70 [.ref 20, .int x1, .int x2, .int x3, .int (x3 + (mu 4 (x3).toNatClampNeg)), .int 0, .float 0] [] mu n)
    (k7 : ¬ (mu 1 4) ≤ x3 → ¬ (mu 2 (x3).toNatClampNeg) = 15 → J l G X Q 7 46 [.ref 20, .int x1, .int x2, .int x3, .int x4, .int x5, .float 0] [.int 0, .int x3, .ref 20, .int x3] mu n) :
    J l G X Q 7 17 [.ref 20, .int x1, .int x2, .int x3, .int x4, .int x5, .float 0] [] mu n := by
  refine J_iload_n h dX1_doRound_17 rfl rfl ?_
  refine J_aload_n h dX1_doRound_18 rfl rfl ?_
  refine J_getr (k := 0) h dX1_doRound_19 jc1 rfl rfl (by decide) w186 ?_
  refine J_getiN (k := 4) h dX1_doRound_22 jc4 rfl rfl (by decide) w121 ?_
  refine J_icmp_ge (tgt := 151) h dX1_doRound_25 (by decide) (fun q1 => ?_) (fun q1 => ?_)
  · skip
    refine J_aload_n h dX1_doRound_151 rfl rfl ?_
    refine J_getr (k := 3) h dX1_doRound_152 jc1 rfl rfl (by decide) w190 ?_
    refine J_iload_n h dX1_doRound_155 rfl rfl ?_
    refine J_iload_n h dX1_doRound_156 rfl rfl ?_
    refine J_iconst h dX1_doRound_157 ci_1 ?_
    refine J_isub h dX1_doRound_158 ?_
    exact k2 q1
  · skip
    refine J_aload_n h dX1_doRound_28 rfl rfl ?_
    refine J_getr (k := 0) h dX1_doRound_29 jc1 rfl rfl (by decide) w186 ?_
    refine J_getrN (k := 0) h dX1_doRound_32 jc4 rfl rfl (by decide) w112 ?_
    refine J_iload_n h dX1_doRound_35 rfl rfl ?_
    refine J_iald h dX1_doRound_36 rfl (s3 q1) ?_
    refine J_bipush h dX1_doRound_37 cb_15 ?_
    refine J_icmp_eq (tgt := 54) h dX1_doRound_39 (by decide) (fun q4 => ?_) (fun q4 => ?_)
    · skip
      refine J_iload_n h dX1_doRound_54 rfl rfl ?_
      refine J_aload_n h dX1_doRound_55 rfl rfl ?_
      refine J_getr (k := 0) h dX1_doRound_56 jc1 rfl rfl (by decide) w186 ?_
      refine J_getrN (k := 2) h dX1_doRound_59 jc4 rfl rfl (by decide) w116 ?_
      refine J_iload_n h dX1_doRound_62 rfl rfl ?_
      refine J_iald h dX1_doRound_63 rfl (s5 q1 q4) ?_
      refine J_iadd h dX1_doRound_64 ?_
      refine J_istore h dX1_doRound_65 (by decide) rfl ?_
      show J l G X Q 7 67 [.ref 20, .int x1, .int x2, .int x3, .int (x3 + (mu 4 (x3).toNatClampNeg)), .int x5, .float 0] [] mu n
      refine J_iconst h dX1_doRound_67 ci_0 ?_
      refine J_istore h dX1_doRound_68 (by decide) rfl ?_
      show J l G X Q 7 70 [.ref 20, .int x1, .int x2, .int x3, .int (x3 + (mu 4 (x3).toNatClampNeg)), .int 0, .float 0] [] mu n
      exact k6 q1 q4
    · skip
      refine J_iload_n h dX1_doRound_42 rfl rfl ?_
      refine J_aload_n h dX1_doRound_43 rfl rfl ?_
      refine J_iload_n h dX1_doRound_44 rfl rfl ?_
      refine J_iconst h dX1_doRound_45 ci_0 ?_
      exact k7 q1 q4
theorem rX1_doRoundR_70b {l : Launch} {G : jG} {X : jX} {Q : State → Prop} {n hg nc : Nat} {ret : Option FieldType} {mu : jM} {x1 : Int32} {x2 : Int32} {x3 : Int32} {x4 : Int32} {x5 : Int32} {x6 : Int32} (h : jOk l G X cX1_doRound 7 ret RX1 hg nc) (s1 : vp_in x1 24) (s4 : ¬ (mu 9 (x1).toNatClampNeg) ≤ x5 → vp_in x3 64) (s5 : ¬ (mu 9 (x1).toNatClampNeg) ≤ x5 → vp_in ((x1 * 8) + (mu 3 (x3).toNatClampNeg)) 192)
    (k3 : (mu 9 (x1).toNatClampNeg) ≤ x5 → J l G X Q 7 145 [.ref 20, .int x1, .int x2, .int x4, .int x4, .int x5, .int x6] [] mu n)
    (k6 : ¬ (mu 9 (x1).toNatClampNeg) ≤ x5 → J l G X Q 7 110 [.ref 20, .int x1, .int x2, .int x3, .int x4, .int x5, .int (x3 + 1)] [] (wr mu 21 (((x1 * 8) + (mu 3 (x3).toNatClampNeg))).toNatClampNeg x5) n) :
    J l G X Q 7 70 [.ref 20, .int x1, .int x2, .int x3, .int x4, .int x5, .int x6] [] mu n := by
  refine J_iload h dX1_doRound_70 rfl ?_
  refine J_aload_n h dX1_doRound_72 rfl rfl ?_
  refine J_getr (k := 1) h dX1_doRound_73 jc1 rfl rfl (by decide) w187 ?_
  refine J_getrN (k := 4) h dX1_doRound_76 jc2 rfl rfl (by decide) w153 ?_
  refine J_iload_n h dX1_doRound_79 rfl rfl ?_
  refine J_iald h dX1_doRound_80 rfl (s1) ?_
  refine J_icmp_ge (tgt := 142) h dX1_doRound_81 (by decide) (fun q2 => ?_) (fun q2 => ?_)
  · skip
    refine J_iload h dX1_doRound_142 rfl ?_
    refine J_istore_n h dX1_doRound_144 rfl (by decide) rfl ?_
    show J l G X Q 7 145 [.ref 20, .int x1, .int x2, .int x4, .int x4, .int x5, .int x6] [] mu n
    exact k3 q2
  · skip
    refine J_aload_n h dX1_doRound_84 rfl rfl ?_
    refine J_getr (k := 2) h dX1_doRound_85 jc1 rfl rfl (by decide) w188 ?_
    refine J_iload_n h dX1_doRound_88 rfl rfl ?_
    refine J_bipush h dX1_doRound_89 cb_8 ?_
    refine J_imul h dX1_doRound_91 ?_
    refine J_aload_n h dX1_doRound_92 rfl rfl ?_
    refine J_getr (k := 0) h dX1_doRound_93 jc1 rfl rfl (by decide) w186 ?_
    refine J_getrN (k := 1) h dX1_doRound_96 jc4 rfl rfl (by decide) w114 ?_
    refine J_iload_n h dX1_doRound_99 rfl rfl ?_
    refine J_iald h dX1_doRound_100 rfl (s4 q2) ?_
    refine J_iadd h dX1_doRound_101 ?_
    refine J_iload h dX1_doRound_102 rfl ?_
    refine J_iast h dX1_doRound_104 rfl (s5 q2) ?_
    refine J_iload_n h dX1_doRound_105 rfl rfl ?_
    refine J_iconst h dX1_doRound_106 ci_1 ?_
    refine J_iadd h dX1_doRound_107 ?_
    refine J_istore h dX1_doRound_108 (by decide) rfl ?_
    show J l G X Q 7 110 [.ref 20, .int x1, .int x2, .int x3, .int x4, .int x5, .int (x3 + 1)] [] (wr mu 21 (((x1 * 8) + (mu 3 (x3).toNatClampNeg))).toNatClampNeg x5) n
    exact k6 q2
theorem rX1_doRoundR_124 {l : Launch} {G : jG} {X : jX} {Q : State → Prop} {n hg nc : Nat} {ret : Option FieldType} {mu : jM} {x1 : Int32} {x2 : Int32} {x3 : Int32} {x4 : Int32} {x5 : Int32} {x6 : Int32} {y0 : Int32} {y1 : Int32} {y3 : Int32} {Qc : Int32 → jM → Prop} {h' : Nat} (h : jOk l G X cX1_doRound 7 ret RX1 hg nc) (hM : jCi l G yX1_doWord cX1_doWord 4 h' (some .int) (.ref 20 :: [.int y1, .int y0]) mu Qc) (hh : h' < hg ∧ 4 ≤ 21) (hn : n ≤ nc)
    (kk : ∀ v mu', Qc v mu' → J l G X Q 7 127 [.ref 20, .int x1, .int x2, .int x3, .int x4, .int x5, .int x6] (.int v :: [.int y3]) mu' n) :
    J l G X Q 7 124 [.ref 20, .int x1, .int x2, .int x3, .int x4, .int x5, .int x6] [.int y0, .int y1, .ref 20, .int y3] mu n :=
  J_callVi (As := [.int y1, .int y0]) (rest := [.int y3]) h dX1_doRound_124 hM (jgV w674 w676 w9 w79 w677) rfl (ci := 1) rfl rfl nmX1_doWord rfl hh (Nat.le_of_ble_eq_true rfl) rfl kk hn
theorem rX1_doRoundR_145b {l : Launch} {G : jG} {X : jX} {Q : State → Prop} {n hg nc : Nat} {ret : Option FieldType} {mu : jM} {x1 : Int32} {x2 : Int32} {x3 : Int32} (h : jOk l G X cX1_doRound 7 ret RX1 hg nc)
    (k1 : J l G X Q 7 17 [.ref 20, .int x1, .int x2, .int (x3 + 1), .float 0, .float 0, .float 0] [] mu n) :
    J l G X Q 7 145 [.ref 20, .int x1, .int x2, .int x3, .float 0, .float 0, .float 0] [] mu n := by
  refine J_iinc h dX1_doRound_145 rfl (cc_1 _) (by decide) rfl ?_
  show J l G X Q 7 148 [.ref 20, .int x1, .int x2, .int (x3 + 1), .float 0, .float 0, .float 0] [] mu n
  refine J_goto (tgt := 17) h dX1_doRound_148 (by decide) ?_
  exact k1
theorem rX1_doRoundR_159b {l : Launch} {G : jG} {X : jX} {Q : State → Prop} {n hg nc : Nat} {ret : Option FieldType} {mu : jM} {x1 : Int32} {x2 : Int32} {x3 : Int32} {x4 : Int32} {x5 : Int32} {y0 : Int32} {y1 : Int32} {Qc : Int32 → jM → Prop} {h' : Nat} (h : jOk l G X cX1_doRound 7 ret RX1 hg nc) (hM : jCi l G yX1_boxOf cX1_boxOf 2 h' (some .int) [.int y1, .int y0] mu Qc) (hh : h' < hg ∧ 2 ≤ 21) (hn : n ≤ nc)
    (kk : ∀ v mu', Qc v mu' → J l G X Q 7 162 [.ref 20, .int x1, .int x2, .int x3, .int x4, .int x5, .float 0] (.int v :: [.ref 22]) mu' n) :
    J l G X Q 7 159 [.ref 20, .int x1, .int x2, .int x3, .int x4, .int x5, .float 0] [.int y0, .int y1, .ref 22] mu n :=
  J_callSi (As := [.int y1, .int y0]) (rest := [.ref 22]) h dX1_doRound_159 hM (jgS w682 w683 w79 w684) nmX1_boxOf rfl hh (Nat.le_of_ble_eq_true rfl) rfl kk hn
theorem rX1_doRoundR_46b {l : Launch} {G : jG} {X : jX} {Q : State → Prop} {n hg nc : Nat} {ret : Option FieldType} {mu : jM} {x1 : Int32} {x2 : Int32} {x3 : Int32} {x4 : Int32} {x5 : Int32} {y0 : Int32} {y1 : Int32} {y3 : Int32} {Qc : Int32 → jM → Prop} {h' : Nat} (h : jOk l G X cX1_doRound 7 ret RX1 hg nc) (hM : jCi l G yX1_doWord cX1_doWord 4 h' (some .int) (.ref 20 :: [.int y1, .int y0]) mu Qc) (hh : h' < hg ∧ 4 ≤ 21) (hn : n ≤ nc)
    (kk : ∀ v mu', Qc v mu' → J l G X Q 7 49 [.ref 20, .int x1, .int x2, .int x3, .int x4, .int x5, .float 0] (.int v :: [.int y3]) mu' n) :
    J l G X Q 7 46 [.ref 20, .int x1, .int x2, .int x3, .int x4, .int x5, .float 0] [.int y0, .int y1, .ref 20, .int y3] mu n :=
  J_callVi (As := [.int y1, .int y0]) (rest := [.int y3]) h dX1_doRound_46 hM (jgV w674 w676 w9 w79 w677) rfl (ci := 1) rfl rfl nmX1_doWord rfl hh (Nat.le_of_ble_eq_true rfl) rfl kk hn
theorem rX1_doRoundR_145c {l : Launch} {G : jG} {X : jX} {Q : State → Prop} {n hg nc : Nat} {ret : Option FieldType} {mu : jM} {x1 : Int32} {x2 : Int32} {x3 : Int32} {x4 : Int32} {x5 : Int32} {x6 : Int32} (h : jOk l G X cX1_doRound 7 ret RX1 hg nc)
    (k1 : J l G X Q 7 17 [.ref 20, .int x1, .int x2, .int (x3 + 1), .int x4, .int x5, .int x6] [] mu n) :
    J l G X Q 7 145 [.ref 20, .int x1, .int x2, .int x3, .int x4, .int x5, .int x6] [] mu n := by
  refine J_iinc h dX1_doRound_145 rfl (cc_1 _) (by decide) rfl ?_
  show J l G X Q 7 148 [.ref 20, .int x1, .int x2, .int (x3 + 1), .int x4, .int x5, .int x6] [] mu n
  refine J_goto (tgt := 17) h dX1_doRound_148 (by decide) ?_
  exact k1
theorem rX1_doRoundR_127 {l : Launch} {G : jG} {X : jX} {Q : State → Prop} {n hg nc : Nat} {ret : Option FieldType} {mu : jM} {x1 : Int32} {x2 : Int32} {x3 : Int32} {x4 : Int32} {x5 : Int32} {x6 : Int32} {y0 : Int32} {y1 : Int32} (h : jOk l G X cX1_doRound 7 ret RX1 hg nc)
    (k1 : J l G X Q 7 110 [.ref 20, .int x1, .int x2, .int x3, .int x4, .int x5, .int ((y1 + y0) + 1)] [] mu n) :
    J l G X Q 7 127 [.ref 20, .int x1, .int x2, .int x3, .int x4, .int x5, .int x6] [.int y0, .int y1] mu n := by
  refine J_iadd h dX1_doRound_127 ?_
  refine J_istore h dX1_doRound_128 (by decide) rfl ?_
  show J l G X Q 7 130 [.ref 20, .int x1, .int x2, .int x3, .int x4, .int x5, .int (y1 + y0)] [] mu n
  refine J_iinc h dX1_doRound_130 rfl (cc_1 _) (by decide) rfl ?_
  show J l G X Q 7 133 [.ref 20, .int x1, .int x2, .int x3, .int x4, .int x5, .int ((y1 + y0) + 1)] [] mu n
  refine J_goto (tgt := 110) h dX1_doRound_133 (by decide) ?_
  exact k1
theorem rX1_doRoundR_162b {l : Launch} {G : jG} {X : jX} {Q : State → Prop} {n hg nc : Nat} {ret : Option FieldType} {mu : jM} {x1 : Int32} {x2 : Int32} {x3 : Int32} {x4 : Int32} {x5 : Int32} {y0 : Int32} (h : jOk l G X cX1_doRound 7 ret RX1 hg nc) (s1 : vp_in y0 48)
    (k2 : J l G X Q 7 164 [.ref 20, .int x1, .int x2, .int x3, .int x4, .int x5, .float 0] [] (wr mu 22 (y0).toNatClampNeg 0) n) :
    J l G X Q 7 162 [.ref 20, .int x1, .int x2, .int x3, .int x4, .int x5, .float 0] [.int y0, .ref 22] mu n := by
  refine J_iconst h dX1_doRound_162 ci_0 ?_
  refine J_iast h dX1_doRound_163 rfl (s1) ?_
  exact k2
theorem rX1_doRoundR_49b {l : Launch} {G : jG} {X : jX} {Q : State → Prop} {n hg nc : Nat} {ret : Option FieldType} {mu : jM} {x1 : Int32} {x2 : Int32} {x3 : Int32} {x4 : Int32} {x5 : Int32} {y0 : Int32} {y1 : Int32} (h : jOk l G X cX1_doRound 7 ret RX1 hg nc)
    (k1 : J l G X Q 7 145 [.ref 20, .int x1, .int x2, .int (y1 + y0), .int x4, .int x5, .float 0] [] mu n) :
    J l G X Q 7 49 [.ref 20, .int x1, .int x2, .int x3, .int x4, .int x5, .float 0] [.int y0, .int y1] mu n := by
  refine J_iadd h dX1_doRound_49 ?_
  refine J_istore_n h dX1_doRound_50 rfl (by decide) rfl ?_
  show J l G X Q 7 51 [.ref 20, .int x1, .int x2, .int (y1 + y0), .int x4, .int x5, .float 0] [] mu n
  refine J_goto (tgt := 145) h dX1_doRound_51 (by decide) ?_
  exact k1
theorem rX1_doRoundR_17c {l : Launch} {G : jG} {X : jX} {Q : State → Prop} {n hg nc : Nat} {ret : Option FieldType} {mu : jM} {x1 : Int32} {x2 : Int32} {x3 : Int32} {x4 : Int32} {x5 : Int32} {x6 : Int32} (h : jOk l G X cX1_doRound 7 ret RX1 hg nc) (s3 : ¬ (mu 1 4) ≤ x3 → vp_in x3 64) (s5 : ¬ (mu 1 4) ≤ x3 → (mu 2 (x3).toNatClampNeg) = 15 → vp_in x3 64)
    (k2 : (mu 1 4) ≤ x3 → J l G X Q 7 159 [.ref 20, .int x1, .int x2, .int x3, .int x4, .int x5, .int x6] [.int (x2 - 1), .int x1, .ref 22] mu n)
    (k6 : ¬ (mu 1 4) ≤ x3 → (mu 2 (x3).toNatClampNeg) = 15 → J l G X Q 7 70 [.ref 20, .int x1, .int x2, .int x3, .int (x3 + (mu 4 (x3).toNatClampNeg)), .int 0, .int x6] [] mu n)
    (k7 : ¬ (mu 1 4) ≤ x3 → ¬ (mu 2 (x3).toNatClampNeg) = 15 → J l G X Q 7 46 [.ref 20, .int x1, .int x2, .int x3, .int x4, .int x5, .int x6] [.int 0, .int x3, .ref 20, .int x3] mu n) :
    J l G X Q 7 17 [.ref 20, .int x1, .int x2, .int x3, .int x4, .int x5, .int x6] [] mu n := by
  refine J_iload_n h dX1_doRound_17 rfl rfl ?_
  refine J_aload_n h dX1_doRound_18 rfl rfl ?_
  refine J_getr (k := 0) h dX1_doRound_19 jc1 rfl rfl (by decide) w186 ?_
  refine J_getiN (k := 4) h dX1_doRound_22 jc4 rfl rfl (by decide) w121 ?_
  refine J_icmp_ge (tgt := 151) h dX1_doRound_25 (by decide) (fun q1 => ?_) (fun q1 => ?_)
  · skip
    refine J_aload_n h dX1_doRound_151 rfl rfl ?_
    refine J_getr (k := 3) h dX1_doRound_152 jc1 rfl rfl (by decide) w190 ?_
    refine J_iload_n h dX1_doRound_155 rfl rfl ?_
    refine J_iload_n h dX1_doRound_156 rfl rfl ?_
    refine J_iconst h dX1_doRound_157 ci_1 ?_
    refine J_isub h dX1_doRound_158 ?_
    exact k2 q1
  · skip
    refine J_aload_n h dX1_doRound_28 rfl rfl ?_
    refine J_getr (k := 0) h dX1_doRound_29 jc1 rfl rfl (by decide) w186 ?_
    refine J_getrN (k := 0) h dX1_doRound_32 jc4 rfl rfl (by decide) w112 ?_
    refine J_iload_n h dX1_doRound_35 rfl rfl ?_
    refine J_iald h dX1_doRound_36 rfl (s3 q1) ?_
    refine J_bipush h dX1_doRound_37 cb_15 ?_
    refine J_icmp_eq (tgt := 54) h dX1_doRound_39 (by decide) (fun q4 => ?_) (fun q4 => ?_)
    · skip
      refine J_iload_n h dX1_doRound_54 rfl rfl ?_
      refine J_aload_n h dX1_doRound_55 rfl rfl ?_
      refine J_getr (k := 0) h dX1_doRound_56 jc1 rfl rfl (by decide) w186 ?_
      refine J_getrN (k := 2) h dX1_doRound_59 jc4 rfl rfl (by decide) w116 ?_
      refine J_iload_n h dX1_doRound_62 rfl rfl ?_
      refine J_iald h dX1_doRound_63 rfl (s5 q1 q4) ?_
      refine J_iadd h dX1_doRound_64 ?_
      refine J_istore h dX1_doRound_65 (by decide) rfl ?_
      show J l G X Q 7 67 [.ref 20, .int x1, .int x2, .int x3, .int (x3 + (mu 4 (x3).toNatClampNeg)), .int x5, .int x6] [] mu n
      refine J_iconst h dX1_doRound_67 ci_0 ?_
      refine J_istore h dX1_doRound_68 (by decide) rfl ?_
      show J l G X Q 7 70 [.ref 20, .int x1, .int x2, .int x3, .int (x3 + (mu 4 (x3).toNatClampNeg)), .int 0, .int x6] [] mu n
      exact k6 q1 q4
    · skip
      refine J_iload_n h dX1_doRound_42 rfl rfl ?_
      refine J_aload_n h dX1_doRound_43 rfl rfl ?_
      refine J_iload_n h dX1_doRound_44 rfl rfl ?_
      refine J_iconst h dX1_doRound_45 ci_0 ?_
      exact k7 q1 q4
theorem rX1_doRoundR_159c {l : Launch} {G : jG} {X : jX} {Q : State → Prop} {n hg nc : Nat} {ret : Option FieldType} {mu : jM} {x1 : Int32} {x2 : Int32} {x3 : Int32} {x4 : Int32} {x5 : Int32} {x6 : Int32} {y0 : Int32} {y1 : Int32} {Qc : Int32 → jM → Prop} {h' : Nat} (h : jOk l G X cX1_doRound 7 ret RX1 hg nc) (hM : jCi l G yX1_boxOf cX1_boxOf 2 h' (some .int) [.int y1, .int y0] mu Qc) (hh : h' < hg ∧ 2 ≤ 21) (hn : n ≤ nc)
    (kk : ∀ v mu', Qc v mu' → J l G X Q 7 162 [.ref 20, .int x1, .int x2, .int x3, .int x4, .int x5, .int x6] (.int v :: [.ref 22]) mu' n) :
    J l G X Q 7 159 [.ref 20, .int x1, .int x2, .int x3, .int x4, .int x5, .int x6] [.int y0, .int y1, .ref 22] mu n :=
  J_callSi (As := [.int y1, .int y0]) (rest := [.ref 22]) h dX1_doRound_159 hM (jgS w682 w683 w79 w684) nmX1_boxOf rfl hh (Nat.le_of_ble_eq_true rfl) rfl kk hn
theorem rX1_doRoundR_46c {l : Launch} {G : jG} {X : jX} {Q : State → Prop} {n hg nc : Nat} {ret : Option FieldType} {mu : jM} {x1 : Int32} {x2 : Int32} {x3 : Int32} {x4 : Int32} {x5 : Int32} {x6 : Int32} {y0 : Int32} {y1 : Int32} {y3 : Int32} {Qc : Int32 → jM → Prop} {h' : Nat} (h : jOk l G X cX1_doRound 7 ret RX1 hg nc) (hM : jCi l G yX1_doWord cX1_doWord 4 h' (some .int) (.ref 20 :: [.int y1, .int y0]) mu Qc) (hh : h' < hg ∧ 4 ≤ 21) (hn : n ≤ nc)
    (kk : ∀ v mu', Qc v mu' → J l G X Q 7 49 [.ref 20, .int x1, .int x2, .int x3, .int x4, .int x5, .int x6] (.int v :: [.int y3]) mu' n) :
    J l G X Q 7 46 [.ref 20, .int x1, .int x2, .int x3, .int x4, .int x5, .int x6] [.int y0, .int y1, .ref 20, .int y3] mu n :=
  J_callVi (As := [.int y1, .int y0]) (rest := [.int y3]) h dX1_doRound_46 hM (jgV w674 w676 w9 w79 w677) rfl (ci := 1) rfl rfl nmX1_doWord rfl hh (Nat.le_of_ble_eq_true rfl) rfl kk hn
theorem rX1_doRoundR_162c {l : Launch} {G : jG} {X : jX} {Q : State → Prop} {n hg nc : Nat} {ret : Option FieldType} {mu : jM} {x1 : Int32} {x2 : Int32} {x3 : Int32} {x4 : Int32} {x5 : Int32} {x6 : Int32} {y0 : Int32} (h : jOk l G X cX1_doRound 7 ret RX1 hg nc) (s1 : vp_in y0 48)
    (k2 : J l G X Q 7 164 [.ref 20, .int x1, .int x2, .int x3, .int x4, .int x5, .int x6] [] (wr mu 22 (y0).toNatClampNeg 0) n) :
    J l G X Q 7 162 [.ref 20, .int x1, .int x2, .int x3, .int x4, .int x5, .int x6] [.int y0, .ref 22] mu n := by
  refine J_iconst h dX1_doRound_162 ci_0 ?_
  refine J_iast h dX1_doRound_163 rfl (s1) ?_
  exact k2
theorem rX1_doRoundR_49c {l : Launch} {G : jG} {X : jX} {Q : State → Prop} {n hg nc : Nat} {ret : Option FieldType} {mu : jM} {x1 : Int32} {x2 : Int32} {x3 : Int32} {x4 : Int32} {x5 : Int32} {x6 : Int32} {y0 : Int32} {y1 : Int32} (h : jOk l G X cX1_doRound 7 ret RX1 hg nc)
    (k1 : J l G X Q 7 145 [.ref 20, .int x1, .int x2, .int (y1 + y0), .int x4, .int x5, .int x6] [] mu n) :
    J l G X Q 7 49 [.ref 20, .int x1, .int x2, .int x3, .int x4, .int x5, .int x6] [.int y0, .int y1] mu n := by
  refine J_iadd h dX1_doRound_49 ?_
  refine J_istore_n h dX1_doRound_50 rfl (by decide) rfl ?_
  show J l G X Q 7 51 [.ref 20, .int x1, .int x2, .int (y1 + y0), .int x4, .int x5, .int x6] [] mu n
  refine J_goto (tgt := 145) h dX1_doRound_51 (by decide) ?_
  exact k1
/-! LockstepNet$Machine.doWord(II)I R -/
theorem rX1_doWordR_0 {l : Launch} {G : jG} {X : jX} {Q : State → Prop} {n hg nc : Nat} {ret : Option FieldType} {mu : jM} {x1 : Int32} {x2 : Int32} (h : jOk l G X cX1_doWord 4 ret RX1 hg nc) (s1 : vp_in x1 64) (s2 : vp_in x1 64)
    (k3 : J l G X Q 4 27 [.ref 20, .int x1, .int x2, .int (((mu 20 7) * 8) + (mu 3 (x1).toNatClampNeg))] [.int (mu 2 (x1).toNatClampNeg)] mu n) :
    J l G X Q 4 0 [.ref 20, .int x1, .int x2, .float 0] [] mu n := by
  refine J_aload_n h dX1_doWord_0 rfl rfl ?_
  refine J_geti (k := 7) h dX1_doWord_1 jc1 rfl rfl (by decide) w196 ?_
  refine J_bipush h dX1_doWord_4 cb_8 ?_
  refine J_imul h dX1_doWord_6 ?_
  refine J_aload_n h dX1_doWord_7 rfl rfl ?_
  refine J_getr (k := 0) h dX1_doWord_8 jc1 rfl rfl (by decide) w186 ?_
  refine J_getrN (k := 1) h dX1_doWord_11 jc4 rfl rfl (by decide) w114 ?_
  refine J_iload_n h dX1_doWord_14 rfl rfl ?_
  refine J_iald h dX1_doWord_15 rfl (s1) ?_
  refine J_iadd h dX1_doWord_16 ?_
  refine J_istore_n h dX1_doWord_17 rfl (by decide) rfl ?_
  show J l G X Q 4 18 [.ref 20, .int x1, .int x2, .int (((mu 20 7) * 8) + (mu 3 (x1).toNatClampNeg))] [] mu n
  refine J_aload_n h dX1_doWord_18 rfl rfl ?_
  refine J_getr (k := 0) h dX1_doWord_19 jc1 rfl rfl (by decide) w186 ?_
  refine J_getrN (k := 0) h dX1_doWord_22 jc4 rfl rfl (by decide) w112 ?_
  refine J_iload_n h dX1_doWord_25 rfl rfl ?_
  refine J_iald h dX1_doWord_26 rfl (s2) ?_
  exact k3
theorem rX1_doWordR_27 {l : Launch} {G : jG} {X : jX} {Q : State → Prop} {n hg nc : Nat} {ret : Option FieldType} {mu : jM} {x1 : Int32} {x2 : Int32} {x3 : Int32} {y0 : Int32} (h : jOk l G X cX1_doWord 4 ret RX1 hg nc)
    (k0 : y0 = 0 → J l G X Q 4 177 [.ref 20, .int x1, .int x2, .int x3] [] mu n)
    (k1 : y0 = 1 → J l G X Q 4 270 [.ref 20, .int x1, .int x2, .int x3] [] mu n)
    (k2 : y0 = 2 → J l G X Q 4 270 [.ref 20, .int x1, .int x2, .int x3] [] mu n)
    (k3 : y0 = 3 → J l G X Q 4 270 [.ref 20, .int x1, .int x2, .int x3] [] mu n)
    (k4 : y0 = 4 → J l G X Q 4 270 [.ref 20, .int x1, .int x2, .int x3] [] mu n)
    (k5 : y0 = 5 → J l G X Q 4 270 [.ref 20, .int x1, .int x2, .int x3] [] mu n)
    (k6 : y0 = 6 → J l G X Q 4 270 [.ref 20, .int x1, .int x2, .int x3] [] mu n)
    (k7 : y0 = 7 → J l G X Q 4 270 [.ref 20, .int x1, .int x2, .int x3] [] mu n)
    (k8 : y0 = 8 → J l G X Q 4 270 [.ref 20, .int x1, .int x2, .int x3] [] mu n)
    (k9 : y0 = 9 → J l G X Q 4 270 [.ref 20, .int x1, .int x2, .int x3] [] mu n)
    (k10 : y0 = 10 → J l G X Q 4 270 [.ref 20, .int x1, .int x2, .int x3] [] mu n)
    (k11 : y0 = 11 → J l G X Q 4 270 [.ref 20, .int x1, .int x2, .int x3] [] mu n)
    (k12 : y0 = 12 → J l G X Q 4 270 [.ref 20, .int x1, .int x2, .int x3] [] mu n)
    (k13 : y0 = 13 → J l G X Q 4 270 [.ref 20, .int x1, .int x2, .int x3] [] mu n)
    (k14 : y0 = 14 → J l G X Q 4 128 [.ref 20, .int x1, .int x2, .int x3] [] mu n)
    (k15 : y0 = 15 → J l G X Q 4 270 [.ref 20, .int x1, .int x2, .int x3] [] mu n)
    (k16 : y0 = 16 → J l G X Q 4 194 [.ref 20, .int x1, .int x2, .int x3] [] mu n)
    (k17 : y0 = 17 → J l G X Q 4 194 [.ref 20, .int x1, .int x2, .int x3] [] mu n)
    (k18 : y0 = 18 → J l G X Q 4 151 [.ref 20, .int x1, .int x2, .int x3] [] mu n)
    (k19 : y0 = 19 → J l G X Q 4 226 [.ref 20, .int x1, .int x2, .int x3] [] mu n)
    (k20 : y0 = 20 → J l G X Q 4 238 [.ref 20, .int x1, .int x2, .int x3] [] mu n)
    (k21 : y0 = 21 → J l G X Q 4 250 [.ref 20, .int x1, .int x2, .int x3] [] mu n)
    (kd : ¬ y0 = 0 → ¬ y0 = 1 → ¬ y0 = 2 → ¬ y0 = 3 → ¬ y0 = 4 → ¬ y0 = 5 → ¬ y0 = 6 → ¬ y0 = 7 → ¬ y0 = 8 → ¬ y0 = 9 → ¬ y0 = 10 → ¬ y0 = 11 → ¬ y0 = 12 → ¬ y0 = 13 → ¬ y0 = 14 → ¬ y0 = 15 → ¬ y0 = 16 → ¬ y0 = 17 → ¬ y0 = 18 → ¬ y0 = 19 → ¬ y0 = 20 → ¬ y0 = 21 → J l G X Q 4 270 [.ref 20, .int x1, .int x2, .int x3] [] mu n) :
    J l G X Q 4 27 [.ref 20, .int x1, .int x2, .int x3] [.int y0] mu n := by
  by_cases e0 : y0 = 0
  · subst e0
    exact J_tableIn (tgt := 177) (off := 150) h dX1_doWord_27 (by decide) (by decide) (by decide) (by decide) (k0 rfl)
  by_cases e1 : y0 = 1
  · subst e1
    exact J_tableIn (tgt := 270) (off := 243) h dX1_doWord_27 (by decide) (by decide) (by decide) (by decide) (k1 rfl)
  by_cases e2 : y0 = 2
  · subst e2
    exact J_tableIn (tgt := 270) (off := 243) h dX1_doWord_27 (by decide) (by decide) (by decide) (by decide) (k2 rfl)
  by_cases e3 : y0 = 3
  · subst e3
    exact J_tableIn (tgt := 270) (off := 243) h dX1_doWord_27 (by decide) (by decide) (by decide) (by decide) (k3 rfl)
  by_cases e4 : y0 = 4
  · subst e4
    exact J_tableIn (tgt := 270) (off := 243) h dX1_doWord_27 (by decide) (by decide) (by decide) (by decide) (k4 rfl)
  by_cases e5 : y0 = 5
  · subst e5
    exact J_tableIn (tgt := 270) (off := 243) h dX1_doWord_27 (by decide) (by decide) (by decide) (by decide) (k5 rfl)
  by_cases e6 : y0 = 6
  · subst e6
    exact J_tableIn (tgt := 270) (off := 243) h dX1_doWord_27 (by decide) (by decide) (by decide) (by decide) (k6 rfl)
  by_cases e7 : y0 = 7
  · subst e7
    exact J_tableIn (tgt := 270) (off := 243) h dX1_doWord_27 (by decide) (by decide) (by decide) (by decide) (k7 rfl)
  by_cases e8 : y0 = 8
  · subst e8
    exact J_tableIn (tgt := 270) (off := 243) h dX1_doWord_27 (by decide) (by decide) (by decide) (by decide) (k8 rfl)
  by_cases e9 : y0 = 9
  · subst e9
    exact J_tableIn (tgt := 270) (off := 243) h dX1_doWord_27 (by decide) (by decide) (by decide) (by decide) (k9 rfl)
  by_cases e10 : y0 = 10
  · subst e10
    exact J_tableIn (tgt := 270) (off := 243) h dX1_doWord_27 (by decide) (by decide) (by decide) (by decide) (k10 rfl)
  by_cases e11 : y0 = 11
  · subst e11
    exact J_tableIn (tgt := 270) (off := 243) h dX1_doWord_27 (by decide) (by decide) (by decide) (by decide) (k11 rfl)
  by_cases e12 : y0 = 12
  · subst e12
    exact J_tableIn (tgt := 270) (off := 243) h dX1_doWord_27 (by decide) (by decide) (by decide) (by decide) (k12 rfl)
  by_cases e13 : y0 = 13
  · subst e13
    exact J_tableIn (tgt := 270) (off := 243) h dX1_doWord_27 (by decide) (by decide) (by decide) (by decide) (k13 rfl)
  by_cases e14 : y0 = 14
  · subst e14
    exact J_tableIn (tgt := 128) (off := 101) h dX1_doWord_27 (by decide) (by decide) (by decide) (by decide) (k14 rfl)
  by_cases e15 : y0 = 15
  · subst e15
    exact J_tableIn (tgt := 270) (off := 243) h dX1_doWord_27 (by decide) (by decide) (by decide) (by decide) (k15 rfl)
  by_cases e16 : y0 = 16
  · subst e16
    exact J_tableIn (tgt := 194) (off := 167) h dX1_doWord_27 (by decide) (by decide) (by decide) (by decide) (k16 rfl)
  by_cases e17 : y0 = 17
  · subst e17
    exact J_tableIn (tgt := 194) (off := 167) h dX1_doWord_27 (by decide) (by decide) (by decide) (by decide) (k17 rfl)
  by_cases e18 : y0 = 18
  · subst e18
    exact J_tableIn (tgt := 151) (off := 124) h dX1_doWord_27 (by decide) (by decide) (by decide) (by decide) (k18 rfl)
  by_cases e19 : y0 = 19
  · subst e19
    exact J_tableIn (tgt := 226) (off := 199) h dX1_doWord_27 (by decide) (by decide) (by decide) (by decide) (k19 rfl)
  by_cases e20 : y0 = 20
  · subst e20
    exact J_tableIn (tgt := 238) (off := 211) h dX1_doWord_27 (by decide) (by decide) (by decide) (by decide) (k20 rfl)
  by_cases e21 : y0 = 21
  · subst e21
    exact J_tableIn (tgt := 250) (off := 223) h dX1_doWord_27 (by decide) (by decide) (by decide) (by decide) (k21 rfl)
  refine J_tableOut (tgt := 270) h dX1_doWord_27 ?_ (by decide) (kd e0 e1 e2 e3 e4 e5 e6 e7 e8 e9 e10 e11 e12 e13 e14 e15 e16 e17 e18 e19 e20 e21)
  refine jout 22 (by decide) (fun k hk => ?_)
  match k, hk with
  | 0, _ => exact lv_neT e0 (by decide)
  | 1, _ => exact lv_neT e1 (by decide)
  | 2, _ => exact lv_neT e2 (by decide)
  | 3, _ => exact lv_neT e3 (by decide)
  | 4, _ => exact lv_neT e4 (by decide)
  | 5, _ => exact lv_neT e5 (by decide)
  | 6, _ => exact lv_neT e6 (by decide)
  | 7, _ => exact lv_neT e7 (by decide)
  | 8, _ => exact lv_neT e8 (by decide)
  | 9, _ => exact lv_neT e9 (by decide)
  | 10, _ => exact lv_neT e10 (by decide)
  | 11, _ => exact lv_neT e11 (by decide)
  | 12, _ => exact lv_neT e12 (by decide)
  | 13, _ => exact lv_neT e13 (by decide)
  | 14, _ => exact lv_neT e14 (by decide)
  | 15, _ => exact lv_neT e15 (by decide)
  | 16, _ => exact lv_neT e16 (by decide)
  | 17, _ => exact lv_neT e17 (by decide)
  | 18, _ => exact lv_neT e18 (by decide)
  | 19, _ => exact lv_neT e19 (by decide)
  | 20, _ => exact lv_neT e20 (by decide)
  | 21, _ => exact lv_neT e21 (by decide)
  | k + 22, hk => omega
theorem rX1_doWordR_177 {l : Launch} {G : jG} {X : jX} {Q : State → Prop} {n hg nc : Nat} {ret : Option FieldType} {mu : jM} {x1 : Int32} {x2 : Int32} {x3 : Int32} (h : jOk l G X cX1_doWord 4 ret RX1 hg nc) (s1 : vp_in x1 64) (s2 : vp_in x3 192)
    (k3 : J l G X Q 4 193 [.ref 20, .int x1, .int x2, .int x3] [.int 0] (wr mu 21 (x3).toNatClampNeg (mu 4 (x1).toNatClampNeg)) n) :
    J l G X Q 4 177 [.ref 20, .int x1, .int x2, .int x3] [] mu n := by
  refine J_aload_n h dX1_doWord_177 rfl rfl ?_
  refine J_getr (k := 2) h dX1_doWord_178 jc1 rfl rfl (by decide) w188 ?_
  refine J_iload_n h dX1_doWord_181 rfl rfl ?_
  refine J_aload_n h dX1_doWord_182 rfl rfl ?_
  refine J_getr (k := 0) h dX1_doWord_183 jc1 rfl rfl (by decide) w186 ?_
  refine J_getrN (k := 2) h dX1_doWord_186 jc4 rfl rfl (by decide) w116 ?_
  refine J_iload_n h dX1_doWord_189 rfl rfl ?_
  refine J_iald h dX1_doWord_190 rfl (s1) ?_
  refine J_iast h dX1_doWord_191 rfl (s2) ?_
  refine J_iconst h dX1_doWord_192 ci_0 ?_
  exact k3
theorem rX1_doWordR_270 {l : Launch} {G : jG} {X : jX} {Q : State → Prop} {n hg nc : Nat} {ret : Option FieldType} {mu : jM} {x1 : Int32} {x2 : Int32} {x3 : Int32} (h : jOk l G X cX1_doWord 4 ret RX1 hg nc)
    (k1 : J l G X Q 4 277 [.ref 20, .int x1, .int x2, .int x3] [.int x1, .ref 20, .int x3, .ref 21] mu n) :
    J l G X Q 4 270 [.ref 20, .int x1, .int x2, .int x3] [] mu n := by
  refine J_aload_n h dX1_doWord_270 rfl rfl ?_
  refine J_getr (k := 2) h dX1_doWord_271 jc1 rfl rfl (by decide) w188 ?_
  refine J_iload_n h dX1_doWord_274 rfl rfl ?_
  refine J_aload_n h dX1_doWord_275 rfl rfl ?_
  refine J_iload_n h dX1_doWord_276 rfl rfl ?_
  exact k1
theorem rX1_doWordR_128 {l : Launch} {G : jG} {X : jX} {Q : State → Prop} {n hg nc : Nat} {ret : Option FieldType} {mu : jM} {x1 : Int32} {x2 : Int32} {x3 : Int32} (h : jOk l G X cX1_doWord 4 ret RX1 hg nc) (s1 : vp_in x3 192) (s4 : (mu 21 (x3).toNatClampNeg) = 0 → vp_in x1 64)
    (k3 : ¬ (mu 21 (x3).toNatClampNeg) = 0 → J l G X Q 4 150 [.ref 20, .int x1, .int x2, .int x3] [.int 0] mu n)
    (k5 : (mu 21 (x3).toNatClampNeg) = 0 → J l G X Q 4 150 [.ref 20, .int x1, .int x2, .int x3] [.int (mu 4 (x1).toNatClampNeg)] mu n) :
    J l G X Q 4 128 [.ref 20, .int x1, .int x2, .int x3] [] mu n := by
  refine J_aload_n h dX1_doWord_128 rfl rfl ?_
  refine J_getr (k := 2) h dX1_doWord_129 jc1 rfl rfl (by decide) w188 ?_
  refine J_iload_n h dX1_doWord_132 rfl rfl ?_
  refine J_iald h dX1_doWord_133 rfl (s1) ?_
  refine J_if_ne (tgt := 149) h dX1_doWord_134 (by decide) (fun q2 => ?_) (fun q2 => ?_)
  · skip
    refine J_iconst h dX1_doWord_149 ci_0 ?_
    exact k3 q2
  · skip
    refine J_aload_n h dX1_doWord_137 rfl rfl ?_
    refine J_getr (k := 0) h dX1_doWord_138 jc1 rfl rfl (by decide) w186 ?_
    refine J_getrN (k := 2) h dX1_doWord_141 jc4 rfl rfl (by decide) w116 ?_
    refine J_iload_n h dX1_doWord_144 rfl rfl ?_
    refine J_iald h dX1_doWord_145 rfl (s4 q2) ?_
    refine J_goto (tgt := 150) h dX1_doWord_146 (by decide) ?_
    exact k5 q2
theorem rX1_doWordR_194 {l : Launch} {G : jG} {X : jX} {Q : State → Prop} {n hg nc : Nat} {ret : Option FieldType} {mu : jM} {x1 : Int32} {x2 : Int32} {x3 : Int32} (h : jOk l G X cX1_doWord 4 ret RX1 hg nc) (s1 : vp_in x1 64)
    (k3 : ¬ (mu 2 (x1).toNatClampNeg) = 17 → J l G X Q 4 220 [.ref 20, .int x1, .int x2, .int x3] [.int 0, .int x2, .ref 20, .int x3, .ref 21] mu n)
    (k4 : (mu 2 (x1).toNatClampNeg) = 17 → J l G X Q 4 220 [.ref 20, .int x1, .int x2, .int x3] [.int 1, .int x2, .ref 20, .int x3, .ref 21] mu n) :
    J l G X Q 4 194 [.ref 20, .int x1, .int x2, .int x3] [] mu n := by
  refine J_aload_n h dX1_doWord_194 rfl rfl ?_
  refine J_getr (k := 2) h dX1_doWord_195 jc1 rfl rfl (by decide) w188 ?_
  refine J_iload_n h dX1_doWord_198 rfl rfl ?_
  refine J_aload_n h dX1_doWord_199 rfl rfl ?_
  refine J_iload_n h dX1_doWord_200 rfl rfl ?_
  refine J_aload_n h dX1_doWord_201 rfl rfl ?_
  refine J_getr (k := 0) h dX1_doWord_202 jc1 rfl rfl (by decide) w186 ?_
  refine J_getrN (k := 0) h dX1_doWord_205 jc4 rfl rfl (by decide) w112 ?_
  refine J_iload_n h dX1_doWord_208 rfl rfl ?_
  refine J_iald h dX1_doWord_209 rfl (s1) ?_
  refine J_bipush h dX1_doWord_210 cb_17 ?_
  refine J_icmp_ne (tgt := 219) h dX1_doWord_212 (by decide) (fun q2 => ?_) (fun q2 => ?_)
  · skip
    refine J_iconst h dX1_doWord_219 ci_0 ?_
    exact k3 q2
  · skip
    refine J_iconst h dX1_doWord_215 ci_1 ?_
    refine J_goto (tgt := 220) h dX1_doWord_216 (by decide) ?_
    exact k4 q2
theorem rX1_doWordR_151 {l : Launch} {G : jG} {X : jX} {Q : State → Prop} {n hg nc : Nat} {ret : Option FieldType} {mu : jM} {x1 : Int32} {x2 : Int32} {x3 : Int32} (h : jOk l G X cX1_doWord 4 ret RX1 hg nc) (s1 : vp_in x3 192) (s2 : vp_in x2 24)
    (k3 : J l G X Q 4 176 [.ref 20, .int x1, .int x2, .int x3] [.int 0] (wr (wr mu 20 6 ((mu 20 6) ||| (1 <<< (x2 &&& 31)))) 24 (x2).toNatClampNeg (mu 21 (x3).toNatClampNeg)) n) :
    J l G X Q 4 151 [.ref 20, .int x1, .int x2, .int x3] [] mu n := by
  refine J_aload_n h dX1_doWord_151 rfl rfl ?_
  refine J_dup h dX1_doWord_152 rfl ?_
  refine J_geti (k := 6) h dX1_doWord_153 jc1 rfl rfl (by decide) w194 ?_
  refine J_iconst h dX1_doWord_156 ci_1 ?_
  refine J_iload_n h dX1_doWord_157 rfl rfl ?_
  refine J_ishl h dX1_doWord_158 ?_
  refine J_ior h dX1_doWord_159 ?_
  refine J_puti (k := 6) (ty0 := tyX1) h dX1_doWord_160 jc1 tyX1_ok nmX1 rfl rfl (by decide) rfl rfl rfl w194 ?_
  refine J_aload_n h dX1_doWord_163 rfl rfl ?_
  refine J_getr (k := 5) h dX1_doWord_164 jc1 rfl rfl (by decide) w192 ?_
  refine J_iload_n h dX1_doWord_167 rfl rfl ?_
  refine J_aload_n h dX1_doWord_168 rfl rfl ?_
  refine J_getr (k := 2) h dX1_doWord_169 jc1 rfl rfl (by decide) w188 ?_
  refine J_iload_n h dX1_doWord_172 rfl rfl ?_
  refine J_iald h dX1_doWord_173 rfl (s1) ?_
  refine J_iast h dX1_doWord_174 rfl (s2) ?_
  refine J_iconst h dX1_doWord_175 ci_0 ?_
  exact k3
theorem rX1_doWordR_226 {l : Launch} {G : jG} {X : jX} {Q : State → Prop} {n hg nc : Nat} {ret : Option FieldType} {mu : jM} {x1 : Int32} {x2 : Int32} {x3 : Int32} (h : jOk l G X cX1_doWord 4 ret RX1 hg nc) (s1 : vp_in x3 192)
    (k2 : J l G X Q 4 237 [.ref 20, .int x1, .int x2, .int x3] [.int 0] (wr mu 21 (x3).toNatClampNeg (mu 20 8)) n) :
    J l G X Q 4 226 [.ref 20, .int x1, .int x2, .int x3] [] mu n := by
  refine J_aload_n h dX1_doWord_226 rfl rfl ?_
  refine J_getr (k := 2) h dX1_doWord_227 jc1 rfl rfl (by decide) w188 ?_
  refine J_iload_n h dX1_doWord_230 rfl rfl ?_
  refine J_aload_n h dX1_doWord_231 rfl rfl ?_
  refine J_geti (k := 8) h dX1_doWord_232 jc1 rfl rfl (by decide) w197 ?_
  refine J_iast h dX1_doWord_235 rfl (s1) ?_
  refine J_iconst h dX1_doWord_236 ci_0 ?_
  exact k2
theorem rX1_doWordR_238 {l : Launch} {G : jG} {X : jX} {Q : State → Prop} {n hg nc : Nat} {ret : Option FieldType} {mu : jM} {x1 : Int32} {x2 : Int32} {x3 : Int32} (h : jOk l G X cX1_doWord 4 ret RX1 hg nc) (s1 : vp_in x3 192)
    (k2 : J l G X Q 4 249 [.ref 20, .int x1, .int x2, .int x3] [.int 0] (wr mu 21 (x3).toNatClampNeg (mu 20 7)) n) :
    J l G X Q 4 238 [.ref 20, .int x1, .int x2, .int x3] [] mu n := by
  refine J_aload_n h dX1_doWord_238 rfl rfl ?_
  refine J_getr (k := 2) h dX1_doWord_239 jc1 rfl rfl (by decide) w188 ?_
  refine J_iload_n h dX1_doWord_242 rfl rfl ?_
  refine J_aload_n h dX1_doWord_243 rfl rfl ?_
  refine J_geti (k := 7) h dX1_doWord_244 jc1 rfl rfl (by decide) w196 ?_
  refine J_iast h dX1_doWord_247 rfl (s1) ?_
  refine J_iconst h dX1_doWord_248 ci_0 ?_
  exact k2
theorem rX1_doWordR_250 {l : Launch} {G : jG} {X : jX} {Q : State → Prop} {n hg nc : Nat} {ret : Option FieldType} {mu : jM} {x1 : Int32} {x2 : Int32} {x3 : Int32} (h : jOk l G X cX1_doWord 4 ret RX1 hg nc) (s1 : vp_in (mu 20 7) 24) (s2 : vp_in x3 192)
    (k3 : J l G X Q 4 269 [.ref 20, .int x1, .int x2, .int x3] [.int 0] (wr mu 21 (x3).toNatClampNeg (mu 9 ((mu 20 7)).toNatClampNeg)) n) :
    J l G X Q 4 250 [.ref 20, .int x1, .int x2, .int x3] [] mu n := by
  refine J_aload_n h dX1_doWord_250 rfl rfl ?_
  refine J_getr (k := 2) h dX1_doWord_251 jc1 rfl rfl (by decide) w188 ?_
  refine J_iload_n h dX1_doWord_254 rfl rfl ?_
  refine J_aload_n h dX1_doWord_255 rfl rfl ?_
  refine J_getr (k := 1) h dX1_doWord_256 jc1 rfl rfl (by decide) w187 ?_
  refine J_getrN (k := 4) h dX1_doWord_259 jc2 rfl rfl (by decide) w153 ?_
  refine J_aload_n h dX1_doWord_262 rfl rfl ?_
  refine J_geti (k := 7) h dX1_doWord_263 jc1 rfl rfl (by decide) w196 ?_
  refine J_iald h dX1_doWord_266 rfl (s1) ?_
  refine J_iast h dX1_doWord_267 rfl (s2) ?_
  refine J_iconst h dX1_doWord_268 ci_0 ?_
  exact k3
theorem rX1_doWordR_277 {l : Launch} {G : jG} {X : jX} {Q : State → Prop} {n hg nc : Nat} {ret : Option FieldType} {mu : jM} {x1 : Int32} {x2 : Int32} {x3 : Int32} {y0 : Int32} {y2 : Int32} {Qc : Int32 → jM → Prop} {h' : Nat} (h : jOk l G X cX1_doWord 4 ret RX1 hg nc) (hM : jCi l G yX1_reckoned cX1_reckoned 4 h' (some .int) (.ref 20 :: [.int y0]) mu Qc) (hh : h' < hg ∧ 4 ≤ 21) (hn : n ≤ nc)
    (kk : ∀ v mu', Qc v mu' → J l G X Q 4 280 [.ref 20, .int x1, .int x2, .int x3] (.int v :: [.int y2, .ref 21]) mu' n) :
    J l G X Q 4 277 [.ref 20, .int x1, .int x2, .int x3] [.int y0, .ref 20, .int y2, .ref 21] mu n :=
  J_callVi (As := [.int y0]) (rest := [.int y2, .ref 21]) h dX1_doWord_277 hM (jgV w685 w687 w11 w79 w688) rfl (ci := 1) rfl rfl nmX1_reckoned rfl hh (Nat.le_of_ble_eq_true rfl) rfl kk hn
theorem rX1_doWordR_220 {l : Launch} {G : jG} {X : jX} {Q : State → Prop} {n hg nc : Nat} {ret : Option FieldType} {mu : jM} {x1 : Int32} {x2 : Int32} {x3 : Int32} {y0 : Int32} {y1 : Int32} {y3 : Int32} {Qc : Int32 → jM → Prop} {h' : Nat} (h : jOk l G X cX1_doWord 4 ret RX1 hg nc) (hM : jCi l G yX1_received cX1_received 4 h' (some .int) (.ref 20 :: [.int y1, .int y0]) mu Qc) (hh : h' < hg ∧ 4 ≤ 21) (hn : n ≤ nc)
    (kk : ∀ v mu', Qc v mu' → J l G X Q 4 223 [.ref 20, .int x1, .int x2, .int x3] (.int v :: [.int y3, .ref 21]) mu' n) :
    J l G X Q 4 220 [.ref 20, .int x1, .int x2, .int x3] [.int y0, .int y1, .ref 20, .int y3, .ref 21] mu n :=
  J_callVi (As := [.int y1, .int y0]) (rest := [.int y3, .ref 21]) h dX1_doWord_220 hM (jgV w678 w680 w10 w79 w681) rfl (ci := 1) rfl rfl nmX1_received rfl hh (Nat.le_of_ble_eq_true rfl) rfl kk hn
theorem rX1_doWordR_280 {l : Launch} {G : jG} {X : jX} {Q : State → Prop} {n hg nc : Nat} {ret : Option FieldType} {mu : jM} {x1 : Int32} {x2 : Int32} {x3 : Int32} {y0 : Int32} {y1 : Int32} (h : jOk l G X cX1_doWord 4 ret RX1 hg nc) (s1 : vp_in y1 192)
    (k2 : J l G X Q 4 282 [.ref 20, .int x1, .int x2, .int x3] [.int 0] (wr mu 21 (y1).toNatClampNeg y0) n) :
    J l G X Q 4 280 [.ref 20, .int x1, .int x2, .int x3] [.int y0, .int y1, .ref 21] mu n := by
  refine J_iast h dX1_doWord_280 rfl (s1) ?_
  refine J_iconst h dX1_doWord_281 ci_0 ?_
  exact k2
theorem rX1_doWordR_223 {l : Launch} {G : jG} {X : jX} {Q : State → Prop} {n hg nc : Nat} {ret : Option FieldType} {mu : jM} {x1 : Int32} {x2 : Int32} {x3 : Int32} {y0 : Int32} {y1 : Int32} (h : jOk l G X cX1_doWord 4 ret RX1 hg nc) (s1 : vp_in y1 192)
    (k2 : J l G X Q 4 225 [.ref 20, .int x1, .int x2, .int x3] [.int 0] (wr mu 21 (y1).toNatClampNeg y0) n) :
    J l G X Q 4 223 [.ref 20, .int x1, .int x2, .int x3] [.int y0, .int y1, .ref 21] mu n := by
  refine J_iast h dX1_doWord_223 rfl (s1) ?_
  refine J_iconst h dX1_doWord_224 ci_0 ?_
  exact k2
/-! LockstepNet$Machine.received(IZ)I R -/
theorem rX1_receivedR_0 {l : Launch} {G : jG} {X : jX} {Q : State → Prop} {n hg nc : Nat} {ret : Option FieldType} {mu : jM} {x1 : Int32} {x2 : Int32} (h : jOk l G X cX1_received 4 ret RX1 hg nc)
    (k1 : J l G X Q 4 10 [.ref 20, .int x1, .int x2, .float 0] [.int ((mu 20 8) - 1), .int (mu 20 7)] mu n) :
    J l G X Q 4 0 [.ref 20, .int x1, .int x2, .float 0] [] mu n := by
  refine J_aload_n h dX1_received_0 rfl rfl ?_
  refine J_geti (k := 7) h dX1_received_1 jc1 rfl rfl (by decide) w196 ?_
  refine J_aload_n h dX1_received_4 rfl rfl ?_
  refine J_geti (k := 8) h dX1_received_5 jc1 rfl rfl (by decide) w197 ?_
  refine J_iconst h dX1_received_8 ci_1 ?_
  refine J_isub h dX1_received_9 ?_
  exact k1
theorem rX1_receivedR_10 {l : Launch} {G : jG} {X : jX} {Q : State → Prop} {n hg nc : Nat} {ret : Option FieldType} {mu : jM} {x1 : Int32} {x2 : Int32} {y0 : Int32} {y1 : Int32} {Qc : Int32 → jM → Prop} {h' : Nat} (h : jOk l G X cX1_received 4 ret RX1 hg nc) (hM : jCi l G yX1_boxOf cX1_boxOf 2 h' (some .int) [.int y1, .int y0] mu Qc) (hh : h' < hg ∧ 2 ≤ 21) (hn : n ≤ nc)
    (kk : ∀ v mu', Qc v mu' → J l G X Q 4 13 [.ref 20, .int x1, .int x2, .float 0] (.int v :: []) mu' n) :
    J l G X Q 4 10 [.ref 20, .int x1, .int x2, .float 0] [.int y0, .int y1] mu n :=
  J_callSi (As := [.int y1, .int y0]) (rest := []) h dX1_received_10 hM (jgS w682 w683 w79 w684) nmX1_boxOf rfl hh (Nat.le_of_ble_eq_true rfl) rfl kk hn
theorem rX1_receivedR_13 {l : Launch} {G : jG} {X : jX} {Q : State → Prop} {n hg nc : Nat} {ret : Option FieldType} {mu : jM} {x1 : Int32} {x2 : Int32} {y0 : Int32} (h : jOk l G X cX1_received 4 ret RX1 hg nc) (s1 : vp_in y0 48) (s5 : ¬ (((mu 22 (y0).toNatClampNeg) >>> (x1 &&& 31)) &&& 1) = 0 → ¬ x2 = 0 → vp_in ((y0 * 24) + x1) 1152)
    (k4 : ¬ (((mu 22 (y0).toNatClampNeg) >>> (x1 &&& 31)) &&& 1) = 0 → x2 = 0 → J l G X Q 4 48 [.ref 20, .int x1, .int x2, .int y0] [.int 1] mu n)
    (k6 : ¬ (((mu 22 (y0).toNatClampNeg) >>> (x1 &&& 31)) &&& 1) = 0 → ¬ x2 = 0 → J l G X Q 4 48 [.ref 20, .int x1, .int x2, .int y0] [.int (mu 23 (((y0 * 24) + x1)).toNatClampNeg)] mu n)
    (k7 : (((mu 22 (y0).toNatClampNeg) >>> (x1 &&& 31)) &&& 1) = 0 → J l G X Q 4 28 [.ref 20, .int x1, .int x2, .int y0] [.int 0] mu n) :
    J l G X Q 4 13 [.ref 20, .int x1, .int x2, .float 0] [.int y0] mu n := by
  refine J_istore_n h dX1_received_13 rfl (by decide) rfl ?_
  show J l G X Q 4 14 [.ref 20, .int x1, .int x2, .int y0] [] mu n
  refine J_aload_n h dX1_received_14 rfl rfl ?_
  refine J_getr (k := 3) h dX1_received_15 jc1 rfl rfl (by decide) w190 ?_
  refine J_iload_n h dX1_received_18 rfl rfl ?_
  refine J_iald h dX1_received_19 rfl (s1) ?_
  refine J_iload_n h dX1_received_20 rfl rfl ?_
  refine J_ishr h dX1_received_21 ?_
  refine J_iconst h dX1_received_22 ci_1 ?_
  refine J_iand h dX1_received_23 ?_
  refine J_if_ne (tgt := 29) h dX1_received_24 (by decide) (fun q2 => ?_) (fun q2 => ?_)
  · skip
    refine J_iload_n h dX1_received_29 rfl rfl ?_
    refine J_if_eq (tgt := 47) h dX1_received_30 (by decide) (fun q3 => ?_) (fun q3 => ?_)
    · skip
      refine J_iconst h dX1_received_47 ci_1 ?_
      exact k4 q2 q3
    · skip
      refine J_aload_n h dX1_received_33 rfl rfl ?_
      refine J_getr (k := 4) h dX1_received_34 jc1 rfl rfl (by decide) w191 ?_
      refine J_iload_n h dX1_received_37 rfl rfl ?_
      refine J_bipush h dX1_received_38 cb_24 ?_
      refine J_imul h dX1_received_40 ?_
      refine J_iload_n h dX1_received_41 rfl rfl ?_
      refine J_iadd h dX1_received_42 ?_
      refine J_iald h dX1_received_43 rfl (s5 q2 q3) ?_
      refine J_goto (tgt := 48) h dX1_received_44 (by decide) ?_
      exact k6 q2 q3
  · skip
    refine J_iconst h dX1_received_27 ci_0 ?_
    exact k7 q2
/-! LockstepNet$Machine.reckoned(I)I R -/
theorem rX1_reckonedR_0 {l : Launch} {G : jG} {X : jX} {Q : State → Prop} {n hg nc : Nat} {ret : Option FieldType} {mu : jM} {x1 : Int32} (h : jOk l G X cX1_reckoned 4 ret RX1 hg nc) (s1 : vp_in x1 64) (s2 : vp_in (((mu 20 7) * 8) + (mu 4 (x1).toNatClampNeg)) 192) (s3 : vp_in x1 64)
    (k4 : J l G X Q 4 32 [.ref 20, .int x1, .int (mu 21 ((((mu 20 7) * 8) + (mu 4 (x1).toNatClampNeg))).toNatClampNeg), .float 0] [.int (mu 2 (x1).toNatClampNeg)] mu n) :
    J l G X Q 4 0 [.ref 20, .int x1, .float 0, .float 0] [] mu n := by
  refine J_aload_n h dX1_reckoned_0 rfl rfl ?_
  refine J_getr (k := 2) h dX1_reckoned_1 jc1 rfl rfl (by decide) w188 ?_
  refine J_aload_n h dX1_reckoned_4 rfl rfl ?_
  refine J_geti (k := 7) h dX1_reckoned_5 jc1 rfl rfl (by decide) w196 ?_
  refine J_bipush h dX1_reckoned_8 cb_8 ?_
  refine J_imul h dX1_reckoned_10 ?_
  refine J_aload_n h dX1_reckoned_11 rfl rfl ?_
  refine J_getr (k := 0) h dX1_reckoned_12 jc1 rfl rfl (by decide) w186 ?_
  refine J_getrN (k := 2) h dX1_reckoned_15 jc4 rfl rfl (by decide) w116 ?_
  refine J_iload_n h dX1_reckoned_18 rfl rfl ?_
  refine J_iald h dX1_reckoned_19 rfl (s1) ?_
  refine J_iadd h dX1_reckoned_20 ?_
  refine J_iald h dX1_reckoned_21 rfl (s2) ?_
  refine J_istore_n h dX1_reckoned_22 rfl (by decide) rfl ?_
  show J l G X Q 4 23 [.ref 20, .int x1, .int (mu 21 ((((mu 20 7) * 8) + (mu 4 (x1).toNatClampNeg))).toNatClampNeg), .float 0] [] mu n
  refine J_aload_n h dX1_reckoned_23 rfl rfl ?_
  refine J_getr (k := 0) h dX1_reckoned_24 jc1 rfl rfl (by decide) w186 ?_
  refine J_getrN (k := 0) h dX1_reckoned_27 jc4 rfl rfl (by decide) w112 ?_
  refine J_iload_n h dX1_reckoned_30 rfl rfl ?_
  refine J_iald h dX1_reckoned_31 rfl (s3) ?_
  exact k4
theorem rX1_reckonedR_32 {l : Launch} {G : jG} {X : jX} {Q : State → Prop} {n hg nc : Nat} {ret : Option FieldType} {mu : jM} {x1 : Int32} {x2 : Int32} {y0 : Int32} (h : jOk l G X cX1_reckoned 4 ret RX1 hg nc)
    (k1 : y0 = 1 → J l G X Q 4 68 [.ref 20, .int x1, .int x2, .float 0] [] mu n)
    (k12 : y0 = 12 → J l G X Q 4 70 [.ref 20, .int x1, .int x2, .float 0] [] mu n)
    (k13 : y0 = 13 → J l G X Q 4 77 [.ref 20, .int x1, .int x2, .float 0] [] mu n)
    (kd : ¬ y0 = 1 → ¬ y0 = 12 → ¬ y0 = 13 → J l G X Q 4 88 [.ref 20, .int x1, .int x2, .float 0] [] mu n) :
    J l G X Q 4 32 [.ref 20, .int x1, .int x2, .float 0] [.int y0] mu n := by
  by_cases e1 : y0 = 1
  · subst e1
    exact J_lookup (tgt := 68) (off := 36) h dX1_reckoned_32 (by decide) (by decide) (by decide) (k1 rfl)
  by_cases e12 : y0 = 12
  · subst e12
    exact J_lookup (tgt := 70) (off := 38) h dX1_reckoned_32 (by decide) (by decide) (by decide) (k12 rfl)
  by_cases e13 : y0 = 13
  · subst e13
    exact J_lookup (tgt := 77) (off := 45) h dX1_reckoned_32 (by decide) (by decide) (by decide) (k13 rfl)
  exact J_lookup (tgt := 88) (off := 56) h dX1_reckoned_32 (by decide) (by show Op.lookupswitch.offset [(1, 36), (12, 38), (13, 45)] _ _ = _; rw [lv_osw e1 (by decide), lv_osw e12 (by decide), lv_osw e13 (by decide)]; rfl) (by decide) (kd e1 e12 e13)
theorem rX1_reckonedR_68 {l : Launch} {G : jG} {X : jX} {Q : State → Prop} {n hg nc : Nat} {ret : Option FieldType} {mu : jM} {x1 : Int32} {x2 : Int32} (h : jOk l G X cX1_reckoned 4 ret RX1 hg nc)
    (k1 : J l G X Q 4 69 [.ref 20, .int x1, .int x2, .float 0] [.int x2] mu n) :
    J l G X Q 4 68 [.ref 20, .int x1, .int x2, .float 0] [] mu n := by
  refine J_iload_n h dX1_reckoned_68 rfl rfl ?_
  exact k1
theorem rX1_reckonedR_70 {l : Launch} {G : jG} {X : jX} {Q : State → Prop} {n hg nc : Nat} {ret : Option FieldType} {mu : jM} {x1 : Int32} {x2 : Int32} (h : jOk l G X cX1_reckoned 4 ret RX1 hg nc)
    (k1 : J l G X Q 4 76 [.ref 20, .int x1, .int x2, .float 0] [.int (1 <<< ((x2 &&& 31) &&& 31))] mu n) :
    J l G X Q 4 70 [.ref 20, .int x1, .int x2, .float 0] [] mu n := by
  refine J_iconst h dX1_reckoned_70 ci_1 ?_
  refine J_iload_n h dX1_reckoned_71 rfl rfl ?_
  refine J_bipush h dX1_reckoned_72 cb_31 ?_
  refine J_iand h dX1_reckoned_74 ?_
  refine J_ishl h dX1_reckoned_75 ?_
  exact k1
theorem rX1_reckonedR_77 {l : Launch} {G : jG} {X : jX} {Q : State → Prop} {n hg nc : Nat} {ret : Option FieldType} {mu : jM} {x1 : Int32} {x2 : Int32} (h : jOk l G X cX1_reckoned 4 ret RX1 hg nc)
    (k1 : J l G X Q 4 84 [.ref 20, .int x1, .int x2, .float 0] [.int (x2 &&& ((x2 + 1) ^^^ (-1)))] mu n) :
    J l G X Q 4 77 [.ref 20, .int x1, .int x2, .float 0] [] mu n := by
  refine J_iload_n h dX1_reckoned_77 rfl rfl ?_
  refine J_iload_n h dX1_reckoned_78 rfl rfl ?_
  refine J_iconst h dX1_reckoned_79 ci_1 ?_
  refine J_iadd h dX1_reckoned_80 ?_
  refine J_iconst h dX1_reckoned_81 ci_m1 ?_
  refine J_ixor h dX1_reckoned_82 ?_
  refine J_iand h dX1_reckoned_83 ?_
  exact k1
theorem rX1_reckonedR_88 {l : Launch} {G : jG} {X : jX} {Q : State → Prop} {n hg nc : Nat} {ret : Option FieldType} {mu : jM} {x1 : Int32} {x2 : Int32} (h : jOk l G X cX1_reckoned 4 ret RX1 hg nc) (s1 : vp_in x1 64) (s2 : vp_in (((mu 20 7) * 8) + (mu 5 (x1).toNatClampNeg)) 192) (s3 : vp_in x1 64)
    (k4 : J l G X Q 4 122 [.ref 20, .int x1, .int x2, .int (mu 21 ((((mu 20 7) * 8) + (mu 5 (x1).toNatClampNeg))).toNatClampNeg)] [.int (mu 21 ((((mu 20 7) * 8) + (mu 5 (x1).toNatClampNeg))).toNatClampNeg), .int x2, .int (mu 2 (x1).toNatClampNeg)] mu n) :
    J l G X Q 4 88 [.ref 20, .int x1, .int x2, .float 0] [] mu n := by
  refine J_aload_n h dX1_reckoned_88 rfl rfl ?_
  refine J_getr (k := 2) h dX1_reckoned_89 jc1 rfl rfl (by decide) w188 ?_
  refine J_aload_n h dX1_reckoned_92 rfl rfl ?_
  refine J_geti (k := 7) h dX1_reckoned_93 jc1 rfl rfl (by decide) w196 ?_
  refine J_bipush h dX1_reckoned_96 cb_8 ?_
  refine J_imul h dX1_reckoned_98 ?_
  refine J_aload_n h dX1_reckoned_99 rfl rfl ?_
  refine J_getr (k := 0) h dX1_reckoned_100 jc1 rfl rfl (by decide) w186 ?_
  refine J_getrN (k := 3) h dX1_reckoned_103 jc4 rfl rfl (by decide) w118 ?_
  refine J_iload_n h dX1_reckoned_106 rfl rfl ?_
  refine J_iald h dX1_reckoned_107 rfl (s1) ?_
  refine J_iadd h dX1_reckoned_108 ?_
  refine J_iald h dX1_reckoned_109 rfl (s2) ?_
  refine J_istore_n h dX1_reckoned_110 rfl (by decide) rfl ?_
  show J l G X Q 4 111 [.ref 20, .int x1, .int x2, .int (mu 21 ((((mu 20 7) * 8) + (mu 5 (x1).toNatClampNeg))).toNatClampNeg)] [] mu n
  refine J_aload_n h dX1_reckoned_111 rfl rfl ?_
  refine J_getr (k := 0) h dX1_reckoned_112 jc1 rfl rfl (by decide) w186 ?_
  refine J_getrN (k := 0) h dX1_reckoned_115 jc4 rfl rfl (by decide) w112 ?_
  refine J_iload_n h dX1_reckoned_118 rfl rfl ?_
  refine J_iald h dX1_reckoned_119 rfl (s3) ?_
  refine J_iload_n h dX1_reckoned_120 rfl rfl ?_
  refine J_iload_n h dX1_reckoned_121 rfl rfl ?_
  exact k4
theorem rX1_reckonedR_84 {l : Launch} {G : jG} {X : jX} {Q : State → Prop} {n hg nc : Nat} {ret : Option FieldType} {mu : jM} {x1 : Int32} {x2 : Int32} {y0 : Int32} {Qc : Int32 → jM → Prop} {h' : Nat} (h : jOk l G X cX1_reckoned 4 ret RX1 hg nc) (hM : jCi l G yJ6_bitCount_0f7a4 cJ6_bitCount_0f7a4 1 h' (some .int) [.int y0] mu Qc) (hh : h' < hg ∧ 1 ≤ 21) (hn : n ≤ nc)
    (kk : ∀ v mu', Qc v mu' → J l G X Q 4 87 [.ref 20, .int x1, .int x2, .float 0] (.int v :: []) mu' n) :
    J l G X Q 4 84 [.ref 20, .int x1, .int x2, .float 0] [.int y0] mu n :=
  J_callSi (As := [.int y0]) (rest := []) h dX1_reckoned_84 hM (jgS w689 w690 w95 w691) nmJ6_bitCount_0f7a4 rfl hh (Nat.le_of_ble_eq_true rfl) rfl kk hn
theorem rX1_reckonedR_122 {l : Launch} {G : jG} {X : jX} {Q : State → Prop} {n hg nc : Nat} {ret : Option FieldType} {mu : jM} {x1 : Int32} {x2 : Int32} {x3 : Int32} {y0 : Int32} {y1 : Int32} {y2 : Int32} {Qc : Int32 → jM → Prop} {h' : Nat} (h : jOk l G X cX1_reckoned 4 ret RX1 hg nc) (hM : jCi l G yX1_combined cX1_combined 3 h' (some .int) [.int y2, .int y1, .int y0] mu Qc) (hh : h' < hg ∧ 3 ≤ 21) (hn : n ≤ nc)
    (kk : ∀ v mu', Qc v mu' → J l G X Q 4 125 [.ref 20, .int x1, .int x2, .int x3] (.int v :: []) mu' n) :
    J l G X Q 4 122 [.ref 20, .int x1, .int x2, .int x3] [.int y0, .int y1, .int y2] mu n :=
  J_callSi (As := [.int y2, .int y1, .int y0]) (rest := []) h dX1_reckoned_122 hM (jgS w695 w696 w79 w697) nmX1_combined rfl hh (Nat.le_of_ble_eq_true rfl) rfl kk hn
